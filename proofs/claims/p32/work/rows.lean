section
-- ===== PART A: goes FIRST, ahead of the names: the tables' words, and 'selects' of the private methods out of them =====
/-- a private method of a class that the tables say can be made, by its rows of tables_1 -/
def lw_okq (q : MethodName × Nat) : Prop := (q.1.cls ≠ "java/lang/invoke/MethodHandle" ∧ q.1.cls ≠ "java/lang/invoke/VarHandle") ∧ Cond.instantiable q.1.cls q.2 ∈ tables_1 ∧ Cond.privateMethod q.1 ∈ tables_1 ∧ Cond.instanceMethod q.1 ∈ tables_1
theorem lw_p0 : lw_okq (⟨"TrousseauFlow", "markBefore", "()V"⟩, 13) := ⟨⟨by decide +kernel, by decide +kernel⟩, List.mem_of_getElem? (i := 23) (by decide +kernel), List.mem_of_getElem? (i := 296) (by decide +kernel), List.mem_of_getElem? (i := 297) (by decide +kernel)⟩
theorem lw_p1 : lw_okq (⟨"TrousseauFlow", "tellStep", "(IIIZ)I"⟩, 13) := ⟨⟨by decide +kernel, by decide +kernel⟩, List.mem_of_getElem? (i := 23) (by decide +kernel), List.mem_of_getElem? (i := 311) (by decide +kernel), List.mem_of_getElem? (i := 312) (by decide +kernel)⟩
theorem lw_p2 : lw_okq (⟨"TrousseauFlow", "refuse", "(II)I"⟩, 13) := ⟨⟨by decide +kernel, by decide +kernel⟩, List.mem_of_getElem? (i := 23) (by decide +kernel), List.mem_of_getElem? (i := 318) (by decide +kernel), List.mem_of_getElem? (i := 319) (by decide +kernel)⟩
theorem lw_p3 : lw_okq (⟨"TrousseauFlow$Plan", "turn", "(III)V"⟩, 14) := ⟨⟨by decide +kernel, by decide +kernel⟩, List.mem_of_getElem? (i := 31) (by decide +kernel), List.mem_of_getElem? (i := 334) (by decide +kernel), List.mem_of_getElem? (i := 335) (by decide +kernel)⟩
theorem lw_p4 : lw_okq (⟨"TrousseauFlow", "keepChange", "(I)I"⟩, 13) := ⟨⟨by decide +kernel, by decide +kernel⟩, List.mem_of_getElem? (i := 23) (by decide +kernel), List.mem_of_getElem? (i := 338) (by decide +kernel), List.mem_of_getElem? (i := 339) (by decide +kernel)⟩
theorem lw_p5 : lw_okq (⟨"TrousseauFlow", "tellNeed", "(II)I"⟩, 13) := ⟨⟨by decide +kernel, by decide +kernel⟩, List.mem_of_getElem? (i := 23) (by decide +kernel), List.mem_of_getElem? (i := 346) (by decide +kernel), List.mem_of_getElem? (i := 347) (by decide +kernel)⟩
theorem lw_p6 : lw_okq (⟨"TrousseauFlow", "setHands", "(I)I"⟩, 13) := ⟨⟨by decide +kernel, by decide +kernel⟩, List.mem_of_getElem? (i := 23) (by decide +kernel), List.mem_of_getElem? (i := 368) (by decide +kernel), List.mem_of_getElem? (i := 369) (by decide +kernel)⟩
theorem lw_p7 : lw_okq (⟨"TrousseauFlow", "tellMilestone", "(II)I"⟩, 13) := ⟨⟨by decide +kernel, by decide +kernel⟩, List.mem_of_getElem? (i := 23) (by decide +kernel), List.mem_of_getElem? (i := 376) (by decide +kernel), List.mem_of_getElem? (i := 377) (by decide +kernel)⟩
theorem lw_p8 : lw_okq (⟨"TrousseauFlow", "letDaysGo", "(I)I"⟩, 13) := ⟨⟨by decide +kernel, by decide +kernel⟩, List.mem_of_getElem? (i := 23) (by decide +kernel), List.mem_of_getElem? (i := 388) (by decide +kernel), List.mem_of_getElem? (i := 389) (by decide +kernel)⟩
theorem lw_p9 : lw_okq (⟨"TrousseauFlow$Plan", "workOn", "(I)V"⟩, 14) := ⟨⟨by decide +kernel, by decide +kernel⟩, List.mem_of_getElem? (i := 31) (by decide +kernel), List.mem_of_getElem? (i := 396) (by decide +kernel), List.mem_of_getElem? (i := 397) (by decide +kernel)⟩
theorem lw_p10 : lw_okq (⟨"TrousseauFlow$Plan", "undoInBranch", "(I)V"⟩, 14) := ⟨⟨by decide +kernel, by decide +kernel⟩, List.mem_of_getElem? (i := 31) (by decide +kernel), List.mem_of_getElem? (i := 408) (by decide +kernel), List.mem_of_getElem? (i := 409) (by decide +kernel)⟩
theorem lw_p11 : lw_okq (⟨"TrousseauFlow$Plan", "firstToUndo", "(I)I"⟩, 14) := ⟨⟨by decide +kernel, by decide +kernel⟩, List.mem_of_getElem? (i := 31) (by decide +kernel), List.mem_of_getElem? (i := 412) (by decide +kernel), List.mem_of_getElem? (i := 413) (by decide +kernel)⟩
theorem lw_p12 : lw_okq (⟨"TrousseauFlow$Plan", "leaveOutHopeless", "()V"⟩, 14) := ⟨⟨by decide +kernel, by decide +kernel⟩, List.mem_of_getElem? (i := 31) (by decide +kernel), List.mem_of_getElem? (i := 416) (by decide +kernel), List.mem_of_getElem? (i := 417) (by decide +kernel)⟩
theorem lw_p13 : lw_okq (⟨"TrousseauFlow$Plan", "lowestHopeless", "(I)I"⟩, 14) := ⟨⟨by decide +kernel, by decide +kernel⟩, List.mem_of_getElem? (i := 31) (by decide +kernel), List.mem_of_getElem? (i := 428) (by decide +kernel), List.mem_of_getElem? (i := 429) (by decide +kernel)⟩
theorem lw_p14 : lw_okq (⟨"TrousseauFlow$Plan", "beginTries", "()V"⟩, 14) := ⟨⟨by decide +kernel, by decide +kernel⟩, List.mem_of_getElem? (i := 31) (by decide +kernel), List.mem_of_getElem? (i := 436) (by decide +kernel), List.mem_of_getElem? (i := 437) (by decide +kernel)⟩
theorem lw_p15 : lw_okq (⟨"TrousseauFlow$Plan", "firstToBegin", "(I)I"⟩, 14) := ⟨⟨by decide +kernel, by decide +kernel⟩, List.mem_of_getElem? (i := 31) (by decide +kernel), List.mem_of_getElem? (i := 449) (by decide +kernel), List.mem_of_getElem? (i := 450) (by decide +kernel)⟩
def lw_privs_1 : List (MethodName × Nat) := [(⟨"TrousseauFlow", "markBefore", "()V"⟩, 13), (⟨"TrousseauFlow", "tellStep", "(IIIZ)I"⟩, 13), (⟨"TrousseauFlow", "refuse", "(II)I"⟩, 13), (⟨"TrousseauFlow$Plan", "turn", "(III)V"⟩, 14), (⟨"TrousseauFlow", "keepChange", "(I)I"⟩, 13), (⟨"TrousseauFlow", "tellNeed", "(II)I"⟩, 13), (⟨"TrousseauFlow", "setHands", "(I)I"⟩, 13), (⟨"TrousseauFlow", "tellMilestone", "(II)I"⟩, 13), (⟨"TrousseauFlow", "letDaysGo", "(I)I"⟩, 13), (⟨"TrousseauFlow$Plan", "workOn", "(I)V"⟩, 14), (⟨"TrousseauFlow$Plan", "undoInBranch", "(I)V"⟩, 14), (⟨"TrousseauFlow$Plan", "firstToUndo", "(I)I"⟩, 14), (⟨"TrousseauFlow$Plan", "leaveOutHopeless", "()V"⟩, 14), (⟨"TrousseauFlow$Plan", "lowestHopeless", "(I)I"⟩, 14), (⟨"TrousseauFlow$Plan", "beginTries", "()V"⟩, 14), (⟨"TrousseauFlow$Plan", "firstToBegin", "(I)I"⟩, 14)]
theorem lw_r1 : ∀ q ∈ lw_privs_1, lw_okq q := List.forall_mem_cons.mpr ⟨lw_p0, List.forall_mem_cons.mpr ⟨lw_p1, List.forall_mem_cons.mpr ⟨lw_p2, List.forall_mem_cons.mpr ⟨lw_p3, List.forall_mem_cons.mpr ⟨lw_p4, List.forall_mem_cons.mpr ⟨lw_p5, List.forall_mem_cons.mpr ⟨lw_p6, List.forall_mem_cons.mpr ⟨lw_p7, List.forall_mem_cons.mpr ⟨lw_p8, List.forall_mem_cons.mpr ⟨lw_p9, List.forall_mem_cons.mpr ⟨lw_p10, List.forall_mem_cons.mpr ⟨lw_p11, List.forall_mem_cons.mpr ⟨lw_p12, List.forall_mem_cons.mpr ⟨lw_p13, List.forall_mem_cons.mpr ⟨lw_p14, List.forall_mem_cons.mpr ⟨lw_p15, fun _ h => absurd h List.not_mem_nil⟩⟩⟩⟩⟩⟩⟩⟩⟩⟩⟩⟩⟩⟩⟩⟩
theorem lw_p16 : lw_okq (⟨"TrousseauFlow$Chains", "lengthen", "(LTrousseauFlow$Plan;I)Z"⟩, 2) := ⟨⟨by decide +kernel, by decide +kernel⟩, List.mem_of_getElem? (i := 237) (by decide +kernel), List.mem_of_getElem? (i := 488) (by decide +kernel), List.mem_of_getElem? (i := 489) (by decide +kernel)⟩
theorem lw_p17 : lw_okq (⟨"TrousseauFlow$OrderText", "readOrder", "(LTrousseauFlow$Order;)Z"⟩, 5) := ⟨⟨by decide +kernel, by decide +kernel⟩, List.mem_of_getElem? (i := 168) (by decide +kernel), List.mem_of_getElem? (i := 508) (by decide +kernel), List.mem_of_getElem? (i := 509) (by decide +kernel)⟩
theorem lw_p18 : lw_okq (⟨"TrousseauFlow$OrderText", "readStep", "(LTrousseauFlow$Order;)Z"⟩, 5) := ⟨⟨by decide +kernel, by decide +kernel⟩, List.mem_of_getElem? (i := 168) (by decide +kernel), List.mem_of_getElem? (i := 512) (by decide +kernel), List.mem_of_getElem? (i := 513) (by decide +kernel)⟩
theorem lw_p19 : lw_okq (⟨"TrousseauFlow$OrderText", "readOne", "(LTrousseauFlow$Order;Ljava/lang/String;I)Z"⟩, 5) := ⟨⟨by decide +kernel, by decide +kernel⟩, List.mem_of_getElem? (i := 168) (by decide +kernel), List.mem_of_getElem? (i := 517) (by decide +kernel), List.mem_of_getElem? (i := 518) (by decide +kernel)⟩
theorem lw_p20 : lw_okq (⟨"TrousseauFlow$OrderText", "takeWord", "(Ljava/lang/String;)Z"⟩, 5) := ⟨⟨by decide +kernel, by decide +kernel⟩, List.mem_of_getElem? (i := 168) (by decide +kernel), List.mem_of_getElem? (i := 521) (by decide +kernel), List.mem_of_getElem? (i := 522) (by decide +kernel)⟩
theorem lw_p21 : lw_okq (⟨"TrousseauFlow$OrderText", "takeSign", "(C)Z"⟩, 5) := ⟨⟨by decide +kernel, by decide +kernel⟩, List.mem_of_getElem? (i := 168) (by decide +kernel), List.mem_of_getElem? (i := 573) (by decide +kernel), List.mem_of_getElem? (i := 574) (by decide +kernel)⟩
theorem lw_p22 : lw_okq (⟨"TrousseauFlow$OrderText", "takeNumber", "(I)I"⟩, 5) := ⟨⟨by decide +kernel, by decide +kernel⟩, List.mem_of_getElem? (i := 168) (by decide +kernel), List.mem_of_getElem? (i := 577) (by decide +kernel), List.mem_of_getElem? (i := 578) (by decide +kernel)⟩
theorem lw_p23 : lw_okq (⟨"TrousseauFlow$OrderText", "readPair", "(LTrousseauFlow$Order;Ljava/lang/String;CI)Z"⟩, 5) := ⟨⟨by decide +kernel, by decide +kernel⟩, List.mem_of_getElem? (i := 168) (by decide +kernel), List.mem_of_getElem? (i := 583) (by decide +kernel), List.mem_of_getElem? (i := 584) (by decide +kernel)⟩
theorem lw_p24 : lw_okq (⟨"TrousseauFlow", "carryOut", "(LTrousseauFlow$Order;)I"⟩, 13) := ⟨⟨by decide +kernel, by decide +kernel⟩, List.mem_of_getElem? (i := 23) (by decide +kernel), List.mem_of_getElem? (i := 592) (by decide +kernel), List.mem_of_getElem? (i := 593) (by decide +kernel)⟩
theorem lw_p25 : lw_okq (⟨"TrousseauFlow", "tellFault", "(II)I"⟩, 13) := ⟨⟨by decide +kernel, by decide +kernel⟩, List.mem_of_getElem? (i := 23) (by decide +kernel), List.mem_of_getElem? (i := 596) (by decide +kernel), List.mem_of_getElem? (i := 597) (by decide +kernel)⟩
theorem lw_p26 : lw_okq (⟨"TrousseauFlow", "tellCancel", "(I)I"⟩, 13) := ⟨⟨by decide +kernel, by decide +kernel⟩, List.mem_of_getElem? (i := 23) (by decide +kernel), List.mem_of_getElem? (i := 601) (by decide +kernel), List.mem_of_getElem? (i := 602) (by decide +kernel)⟩
theorem lw_p27 : lw_okq (⟨"TrousseauFlow$Plan", "isRankedAhead", "(II)Z"⟩, 14) := ⟨⟨by decide +kernel, by decide +kernel⟩, List.mem_of_getElem? (i := 31) (by decide +kernel), List.mem_of_getElem? (i := 694) (by decide +kernel), List.mem_of_getElem? (i := 695) (by decide +kernel)⟩
theorem lw_p28 : lw_okq (⟨"TrousseauFlow$Line", "putNumber", "(I)V"⟩, 2) := ⟨⟨by decide +kernel, by decide +kernel⟩, List.mem_of_getElem? (i := 222) (by decide +kernel), List.mem_of_getElem? (i := 706) (by decide +kernel), List.mem_of_getElem? (i := 707) (by decide +kernel)⟩
theorem lw_p29 : lw_okq (⟨"TrousseauFlow$Line", "putSign", "(C)V"⟩, 2) := ⟨⟨by decide +kernel, by decide +kernel⟩, List.mem_of_getElem? (i := 222) (by decide +kernel), List.mem_of_getElem? (i := 710) (by decide +kernel), List.mem_of_getElem? (i := 711) (by decide +kernel)⟩
def lw_privs_2 : List (MethodName × Nat) := [(⟨"TrousseauFlow$Chains", "lengthen", "(LTrousseauFlow$Plan;I)Z"⟩, 2), (⟨"TrousseauFlow$OrderText", "readOrder", "(LTrousseauFlow$Order;)Z"⟩, 5), (⟨"TrousseauFlow$OrderText", "readStep", "(LTrousseauFlow$Order;)Z"⟩, 5), (⟨"TrousseauFlow$OrderText", "readOne", "(LTrousseauFlow$Order;Ljava/lang/String;I)Z"⟩, 5), (⟨"TrousseauFlow$OrderText", "takeWord", "(Ljava/lang/String;)Z"⟩, 5), (⟨"TrousseauFlow$OrderText", "takeSign", "(C)Z"⟩, 5), (⟨"TrousseauFlow$OrderText", "takeNumber", "(I)I"⟩, 5), (⟨"TrousseauFlow$OrderText", "readPair", "(LTrousseauFlow$Order;Ljava/lang/String;CI)Z"⟩, 5), (⟨"TrousseauFlow", "carryOut", "(LTrousseauFlow$Order;)I"⟩, 13), (⟨"TrousseauFlow", "tellFault", "(II)I"⟩, 13), (⟨"TrousseauFlow", "tellCancel", "(I)I"⟩, 13), (⟨"TrousseauFlow$Plan", "isRankedAhead", "(II)Z"⟩, 14), (⟨"TrousseauFlow$Line", "putNumber", "(I)V"⟩, 2), (⟨"TrousseauFlow$Line", "putSign", "(C)V"⟩, 2)]
theorem lw_r2 : ∀ q ∈ lw_privs_2, lw_okq q := List.forall_mem_cons.mpr ⟨lw_p16, List.forall_mem_cons.mpr ⟨lw_p17, List.forall_mem_cons.mpr ⟨lw_p18, List.forall_mem_cons.mpr ⟨lw_p19, List.forall_mem_cons.mpr ⟨lw_p20, List.forall_mem_cons.mpr ⟨lw_p21, List.forall_mem_cons.mpr ⟨lw_p22, List.forall_mem_cons.mpr ⟨lw_p23, List.forall_mem_cons.mpr ⟨lw_p24, List.forall_mem_cons.mpr ⟨lw_p25, List.forall_mem_cons.mpr ⟨lw_p26, List.forall_mem_cons.mpr ⟨lw_p27, List.forall_mem_cons.mpr ⟨lw_p28, List.forall_mem_cons.mpr ⟨lw_p29, fun _ h => absurd h List.not_mem_nil⟩⟩⟩⟩⟩⟩⟩⟩⟩⟩⟩⟩⟩⟩
def lw_privs : List (MethodName × Nat) := lw_privs_1 ++ (lw_privs_2)
def lw_tbl : List Cond := k2_sels lw_privs ++ tables_1
theorem lw_privs_ok : ∀ q ∈ lw_privs, lw_okq q := by
  show ∀ q ∈ lw_privs_1 ++ (lw_privs_2), lw_okq q
  exact List.forall_mem_append.mpr ⟨lw_r1, lw_r2⟩
/-- the streams that the claim lets the run draw from -/
abbrev lw_cs : List Choice := [Jvm.Choice.named "NaN.bits"]
theorem lw_bits : nanBits ∈ lw_cs := by first | decide | exact List.mem_cons_self | simp [lw_cs, nanBits]
-- ===== end of PART A; then your names; then what follows =====
theorem goodIn_r {big : List Cond} (ws : List Cond) (ps : List Nat) (hp : ws = ps.filterMap (fun i => big[i]?)) (h : ws.all goodWord = true) : GoodIn big ws := by
  intro w hw
  have h1 := List.all_eq_true.mp h w hw
  rw [hp] at hw
  obtain ⟨i, -, hi⟩ := List.mem_filterMap.mp hw
  have hm : w ∈ big := by first | exact List.mem_of_getElem? hi | exact List.getElem?_mem hi
  exact ⟨hm, good_of_word h1⟩
def RX0 : String := "TrousseauFlow$Chains"
def TX0 : u_T := fun k => match k with
  | 0 => ("TrousseauFlow$Chains", "byNeeds", "[I", true)
  | _ => ("TrousseauFlow$Chains", "byRounds", "[I", true)
def tyX0 : Nat → FieldType := fun k => match k with
  | 0 => .array .int
  | _ => .array .int
abbrev wsX00 : List Cond := u_ws RX0 TX0 2
theorem nmX0 : ∀ a, a < 2 → ∀ b, b < 2 → a ≠ b → (TX0 a).2.1 ≠ (TX0 b).2.1 := by decide +kernel
theorem tyX0_ok : ∀ k, k < 2 → parseFieldDescriptor (TX0 k).2.2.1 = some (tyX0 k) := by decide +kernel
abbrev cX0_init : ByteArray := prog_2_method_1_code
def yX0_init : MethodName := ⟨RX0, "<init>", "()V"⟩
abbrev cX0_measureByNeeds : ByteArray := prog_2_method_2_code
def yX0_measureByNeeds : MethodName := ⟨RX0, "measureByNeeds", "(LTrousseauFlow$Plan;)V"⟩
abbrev cX0_longest : ByteArray := prog_2_method_3_code
def yX0_longest : MethodName := ⟨RX0, "longest", "(LTrousseauFlow$Plan;I[II)I"⟩
abbrev cX0_measureByRounds : ByteArray := prog_2_method_4_code
def yX0_measureByRounds : MethodName := ⟨RX0, "measureByRounds", "(LTrousseauFlow$Plan;)V"⟩
abbrev cX0_lengthen : ByteArray := prog_2_method_5_code
def yX0_lengthen : MethodName := ⟨RX0, "lengthen", "(LTrousseauFlow$Plan;I)Z"⟩
def RX1 : String := "TrousseauFlow$Line"
def TX1 : u_T := fun k => match k with
  | 0 => ("TrousseauFlow$Line", "signs", "[C", true)
  | _ => ("TrousseauFlow$Line", "length", "I", false)
def tyX1 : Nat → FieldType := fun k => match k with
  | 0 => .array .char
  | _ => .int
abbrev wsX10 : List Cond := u_ws RX1 TX1 2
theorem nmX1 : ∀ a, a < 2 → ∀ b, b < 2 → a ≠ b → (TX1 a).2.1 ≠ (TX1 b).2.1 := by decide +kernel
theorem tyX1_ok : ∀ k, k < 2 → parseFieldDescriptor (TX1 k).2.2.1 = some (tyX1 k) := by decide +kernel
abbrev cX1_init : ByteArray := prog_3_method_1_code
def yX1_init : MethodName := ⟨RX1, "<init>", "()V"⟩
abbrev cX1_putStep : ByteArray := prog_3_method_2_code
def yX1_putStep : MethodName := ⟨RX1, "putStep", "(ILTrousseauFlow$Step;)V"⟩
abbrev cX1_putLetterOf : ByteArray := prog_3_method_3_code
def yX1_putLetterOf : MethodName := ⟨RX1, "putLetterOf", "(I)V"⟩
abbrev cX1_putNumber : ByteArray := prog_3_method_4_code
def yX1_putNumber : MethodName := ⟨RX1, "putNumber", "(I)V"⟩
abbrev cX1_putSign : ByteArray := prog_3_method_5_code
def yX1_putSign : MethodName := ⟨RX1, "putSign", "(C)V"⟩
def RX2 : String := "TrousseauFlow$Order"
def TX2 : u_T := fun k => match k with
  | 0 => ("TrousseauFlow$Order", "kind", "C", false)
  | 1 => ("TrousseauFlow$Order", "first", "I", false)
  | 2 => ("TrousseauFlow$Order", "second", "I", false)
  | 3 => ("TrousseauFlow$Order", "third", "I", false)
  | _ => ("TrousseauFlow$Order", "isAny", "Z", false)
def tyX2 : Nat → FieldType := fun k => match k with
  | 0 => .char
  | 1 => .int
  | 2 => .int
  | 3 => .int
  | _ => .boolean
abbrev wsX20 : List Cond := u_ws RX2 TX2 5
theorem nmX2 : ∀ a, a < 5 → ∀ b, b < 5 → a ≠ b → (TX2 a).2.1 ≠ (TX2 b).2.1 := by decide +kernel
theorem tyX2_ok : ∀ k, k < 5 → parseFieldDescriptor (TX2 k).2.2.1 = some (tyX2 k) := by decide +kernel
abbrev cX2_init : ByteArray := prog_4_method_1_code
def yX2_init : MethodName := ⟨RX2, "<init>", "()V"⟩
def RX3 : String := "TrousseauFlow$OrderText"
def TX3 : u_T := fun k => match k with
  | 0 => ("TrousseauFlow$OrderText", "signs", "[C", true)
  | 1 => ("TrousseauFlow$OrderText", "length", "I", false)
  | 2 => ("TrousseauFlow$OrderText", "at", "I", false)
  | 3 => ("TrousseauFlow$OrderText", "orders", "[LTrousseauFlow$Order;", true)
  | _ => ("TrousseauFlow$OrderText", "orderCount", "I", false)
def tyX3 : Nat → FieldType := fun k => match k with
  | 0 => .array .char
  | 1 => .int
  | 2 => .int
  | 3 => .array (.object "TrousseauFlow$Order")
  | _ => .int
abbrev wsX30 : List Cond := u_ws RX3 TX3 5
theorem nmX3 : ∀ a, a < 5 → ∀ b, b < 5 → a ≠ b → (TX3 a).2.1 ≠ (TX3 b).2.1 := by decide +kernel
theorem tyX3_ok : ∀ k, k < 5 → parseFieldDescriptor (TX3 k).2.2.1 = some (tyX3 k) := by decide +kernel
abbrev cX3_init : ByteArray := prog_5_method_1_code
def yX3_init : MethodName := ⟨RX3, "<init>", "()V"⟩
abbrev cX3_addSign : ByteArray := prog_5_method_2_code
def yX3_addSign : MethodName := ⟨RX3, "addSign", "(C)V"⟩
abbrev cX3_readOrders : ByteArray := prog_5_method_3_code
def yX3_readOrders : MethodName := ⟨RX3, "readOrders", "()I"⟩
abbrev cX3_readOrder : ByteArray := prog_5_method_4_code
def yX3_readOrder : MethodName := ⟨RX3, "readOrder", "(LTrousseauFlow$Order;)Z"⟩
abbrev cX3_readStep : ByteArray := prog_5_method_5_code
def yX3_readStep : MethodName := ⟨RX3, "readStep", "(LTrousseauFlow$Order;)Z"⟩
abbrev cX3_readPair : ByteArray := prog_5_method_6_code
def yX3_readPair : MethodName := ⟨RX3, "readPair", "(LTrousseauFlow$Order;Ljava/lang/String;CI)Z"⟩
abbrev cX3_readOne : ByteArray := prog_5_method_7_code
def yX3_readOne : MethodName := ⟨RX3, "readOne", "(LTrousseauFlow$Order;Ljava/lang/String;I)Z"⟩
abbrev cX3_takeWord : ByteArray := prog_5_method_8_code
def yX3_takeWord : MethodName := ⟨RX3, "takeWord", "(Ljava/lang/String;)Z"⟩
abbrev cX3_takeSign : ByteArray := prog_5_method_9_code
def yX3_takeSign : MethodName := ⟨RX3, "takeSign", "(C)Z"⟩
abbrev cX3_takeNumber : ByteArray := prog_5_method_10_code
def yX3_takeNumber : MethodName := ⟨RX3, "takeNumber", "(I)I"⟩
def RX4 : String := "TrousseauFlow$Plan"
def TX4 : u_T := fun k => match k with
  | 0 => ("TrousseauFlow$Plan", "steps", "[LTrousseauFlow$Step;", true)
  | 1 => ("TrousseauFlow$Plan", "count", "I", false)
  | 2 => ("TrousseauFlow$Plan", "milestones", "[I", true)
  | 3 => ("TrousseauFlow$Plan", "milestoneCount", "I", false)
  | 4 => ("TrousseauFlow$Plan", "events", "[I", true)
  | 5 => ("TrousseauFlow$Plan", "nextEvent", "I", false)
  | 6 => ("TrousseauFlow$Plan", "eventCount", "I", false)
  | 7 => ("TrousseauFlow$Plan", "day", "I", false)
  | 8 => ("TrousseauFlow$Plan", "handCount", "I", false)
  | 9 => ("TrousseauFlow$Plan", "cancelled", "I", false)
  | 10 => ("TrousseauFlow$Plan", "triesBegun", "I", false)
  | 11 => ("TrousseauFlow$Plan", "triesWrong", "I", false)
  | 12 => ("TrousseauFlow$Plan", "doneSoFar", "I", false)
  | _ => ("TrousseauFlow$Plan", "undoneSoFar", "I", false)
def tyX4 : Nat → FieldType := fun k => match k with
  | 0 => .array (.object "TrousseauFlow$Step")
  | 1 => .int
  | 2 => .array .int
  | 3 => .int
  | 4 => .array .int
  | 5 => .int
  | 6 => .int
  | 7 => .int
  | 8 => .int
  | 9 => .int
  | 10 => .int
  | 11 => .int
  | 12 => .int
  | _ => .int
abbrev wsX40 : List Cond := u_ws RX4 TX4 14
theorem nmX4 : ∀ a, a < 14 → ∀ b, b < 14 → a ≠ b → (TX4 a).2.1 ≠ (TX4 b).2.1 := by decide +kernel
theorem tyX4_ok : ∀ k, k < 14 → parseFieldDescriptor (TX4 k).2.2.1 = some (tyX4 k) := by decide +kernel
abbrev cX4_init : ByteArray := prog_6_method_1_code
def yX4_init : MethodName := ⟨RX4, "<init>", "()V"⟩
abbrev cX4_copyFrom : ByteArray := prog_6_method_2_code
def yX4_copyFrom : MethodName := ⟨RX4, "copyFrom", "(LTrousseauFlow$Plan;)V"⟩
abbrev cX4_hasStep : ByteArray := prog_6_method_3_code
def yX4_hasStep : MethodName := ⟨RX4, "hasStep", "(I)Z"⟩
abbrev cX4_addStep : ByteArray := prog_6_method_4_code
def yX4_addStep : MethodName := ⟨RX4, "addStep", "(IIIZ)I"⟩
abbrev cX4_addMilestone : ByteArray := prog_6_method_5_code
def yX4_addMilestone : MethodName := ⟨RX4, "addMilestone", "(II)I"⟩
abbrev cX4_lateBy : ByteArray := prog_6_method_6_code
def yX4_lateBy : MethodName := ⟨RX4, "lateBy", "(I)I"⟩
abbrev cX4_countOf : ByteArray := prog_6_method_7_code
def yX4_countOf : MethodName := ⟨RX4, "countOf", "(I)I"⟩
abbrev cX4_setOf : ByteArray := prog_6_method_8_code
def yX4_setOf : MethodName := ⟨RX4, "setOf", "(I)I"⟩
abbrev cX4_setOfOff : ByteArray := prog_6_method_9_code
def yX4_setOfOff : MethodName := ⟨RX4, "setOfOff", "()I"⟩
abbrev cX4_isReady : ByteArray := prog_6_method_10_code
def yX4_isReady : MethodName := ⟨RX4, "isReady", "(II)Z"⟩
abbrev cX4_isHopeless : ByteArray := prog_6_method_11_code
def yX4_isHopeless : MethodName := ⟨RX4, "isHopeless", "(II)Z"⟩
abbrev cX4_needsOverAll : ByteArray := prog_6_method_12_code
def yX4_needsOverAll : MethodName := ⟨RX4, "needsOverAll", "(II)Z"⟩
abbrev cX4_stepsAheadOf : ByteArray := prog_6_method_13_code
def yX4_stepsAheadOf : MethodName := ⟨RX4, "stepsAheadOf", "(I)I"⟩
abbrev cX4_isRankedAhead : ByteArray := prog_6_method_14_code
def yX4_isRankedAhead : MethodName := ⟨RX4, "isRankedAhead", "(II)Z"⟩
abbrev cX4_isCancelled : ByteArray := prog_6_method_15_code
def yX4_isCancelled : MethodName := ⟨RX4, "isCancelled", "(I)Z"⟩
abbrev cX4_cancelBranch : ByteArray := prog_6_method_16_code
def yX4_cancelBranch : MethodName := ⟨RX4, "cancelBranch", "(I)I"⟩
abbrev cX4_passDay : ByteArray := prog_6_method_17_code
def yX4_passDay : MethodName := ⟨RX4, "passDay", "()V"⟩
abbrev cX4_workOn : ByteArray := prog_6_method_18_code
def yX4_workOn : MethodName := ⟨RX4, "workOn", "(I)V"⟩
abbrev cX4_undoInBranch : ByteArray := prog_6_method_19_code
def yX4_undoInBranch : MethodName := ⟨RX4, "undoInBranch", "(I)V"⟩
abbrev cX4_firstToUndo : ByteArray := prog_6_method_20_code
def yX4_firstToUndo : MethodName := ⟨RX4, "firstToUndo", "(I)I"⟩
abbrev cX4_leaveOutHopeless : ByteArray := prog_6_method_21_code
def yX4_leaveOutHopeless : MethodName := ⟨RX4, "leaveOutHopeless", "()V"⟩
abbrev cX4_lowestHopeless : ByteArray := prog_6_method_22_code
def yX4_lowestHopeless : MethodName := ⟨RX4, "lowestHopeless", "(I)I"⟩
abbrev cX4_beginTries : ByteArray := prog_6_method_23_code
def yX4_beginTries : MethodName := ⟨RX4, "beginTries", "()V"⟩
abbrev cX4_firstToBegin : ByteArray := prog_6_method_24_code
def yX4_firstToBegin : MethodName := ⟨RX4, "firstToBegin", "(I)I"⟩
abbrev cX4_turn : ByteArray := prog_6_method_25_code
def yX4_turn : MethodName := ⟨RX4, "turn", "(III)V"⟩
def RX5 : String := "TrousseauFlow$Step"
def TX5 : u_T := fun k => match k with
  | 0 => ("TrousseauFlow$Step", "days", "I", false)
  | 1 => ("TrousseauFlow$Step", "more", "I", false)
  | 2 => ("TrousseauFlow$Step", "branch", "I", false)
  | 3 => ("TrousseauFlow$Step", "isAny", "Z", false)
  | 4 => ("TrousseauFlow$Step", "needs", "I", false)
  | 5 => ("TrousseauFlow$Step", "dueDay", "I", false)
  | 6 => ("TrousseauFlow$Step", "how", "I", false)
  | 7 => ("TrousseauFlow$Step", "toGo", "I", false)
  | 8 => ("TrousseauFlow$Step", "begun", "I", false)
  | 9 => ("TrousseauFlow$Step", "wrongNext", "I", false)
  | _ => ("TrousseauFlow$Step", "doneDay", "I", false)
def tyX5 : Nat → FieldType := fun k => match k with
  | 0 => .int
  | 1 => .int
  | 2 => .int
  | 3 => .boolean
  | 4 => .int
  | 5 => .int
  | 6 => .int
  | 7 => .int
  | 8 => .int
  | 9 => .int
  | _ => .int
abbrev wsX50 : List Cond := u_ws RX5 TX5 11
theorem nmX5 : ∀ a, a < 11 → ∀ b, b < 11 → a ≠ b → (TX5 a).2.1 ≠ (TX5 b).2.1 := by decide +kernel
theorem tyX5_ok : ∀ k, k < 11 → parseFieldDescriptor (TX5 k).2.2.1 = some (tyX5 k) := by decide +kernel
abbrev cX5_init : ByteArray := prog_7_method_1_code
def yX5_init : MethodName := ⟨RX5, "<init>", "()V"⟩
abbrev cX5_tellAnew : ByteArray := prog_7_method_2_code
def yX5_tellAnew : MethodName := ⟨RX5, "tellAnew", "(IIIZ)V"⟩
abbrev cX5_copyFrom : ByteArray := prog_7_method_3_code
def yX5_copyFrom : MethodName := ⟨RX5, "copyFrom", "(LTrousseauFlow$Step;)V"⟩
abbrev cX5_isOpen : ByteArray := prog_7_method_4_code
def yX5_isOpen : MethodName := ⟨RX5, "isOpen", "()Z"⟩
abbrev cX5_isOff : ByteArray := prog_7_method_5_code
def yX5_isOff : MethodName := ⟨RX5, "isOff", "()Z"⟩
def RX6 : String := "TrousseauFlow"
def TX6 : u_T := fun k => match k with
  | 0 => ("TrousseauFlow", "now", "LTrousseauFlow$Plan;", true)
  | 1 => ("TrousseauFlow", "forecast", "LTrousseauFlow$Plan;", true)
  | 2 => ("TrousseauFlow", "snapshot", "LTrousseauFlow$Plan;", true)
  | 3 => ("TrousseauFlow", "hasSnapshot", "Z", false)
  | 4 => ("TrousseauFlow", "marks", "[LTrousseauFlow$Plan;", true)
  | 5 => ("TrousseauFlow", "nextMark", "I", false)
  | 6 => ("TrousseauFlow", "undoable", "I", false)
  | 7 => ("TrousseauFlow", "text", "LTrousseauFlow$OrderText;", true)
  | 8 => ("TrousseauFlow", "line", "LTrousseauFlow$Line;", true)
  | 9 => ("TrousseauFlow", "chains", "LTrousseauFlow$Chains;", true)
  | 10 => ("TrousseauFlow", "wasRefused", "Z", false)
  | 11 => ("TrousseauFlow", "lastReason", "I", false)
  | _ => ("TrousseauFlow", "lastDetail", "I", false)
def tyX6 : Nat → FieldType := fun k => match k with
  | 0 => .object "TrousseauFlow$Plan"
  | 1 => .object "TrousseauFlow$Plan"
  | 2 => .object "TrousseauFlow$Plan"
  | 3 => .boolean
  | 4 => .array (.object "TrousseauFlow$Plan")
  | 5 => .int
  | 6 => .int
  | 7 => .object "TrousseauFlow$OrderText"
  | 8 => .object "TrousseauFlow$Line"
  | 9 => .object "TrousseauFlow$Chains"
  | 10 => .boolean
  | 11 => .int
  | _ => .int
abbrev wsX60 : List Cond := u_ws RX6 TX6 13
theorem nmX6 : ∀ a, a < 13 → ∀ b, b < 13 → a ≠ b → (TX6 a).2.1 ≠ (TX6 b).2.1 := by decide +kernel
theorem tyX6_ok : ∀ k, k < 13 → parseFieldDescriptor (TX6 k).2.2.1 = some (tyX6 k) := by decide +kernel
abbrev cX6_init : ByteArray := prog_1_method_1_code
def yX6_init : MethodName := ⟨RX6, "<init>", "()V"⟩
abbrev cX6_step : ByteArray := prog_1_method_2_code
def yX6_step : MethodName := ⟨RX6, "step", "(IIIZ)I"⟩
abbrev cX6_need : ByteArray := prog_1_method_3_code
def yX6_need : MethodName := ⟨RX6, "need", "(II)I"⟩
abbrev cX6_fault : ByteArray := prog_1_method_4_code
def yX6_fault : MethodName := ⟨RX6, "fault", "(II)I"⟩
abbrev cX6_hands : ByteArray := prog_1_method_5_code
def yX6_hands : MethodName := ⟨RX6, "hands", "(I)I"⟩
abbrev cX6_cancel : ByteArray := prog_1_method_6_code
def yX6_cancel : MethodName := ⟨RX6, "cancel", "(I)I"⟩
abbrev cX6_milestone : ByteArray := prog_1_method_7_code
def yX6_milestone : MethodName := ⟨RX6, "milestone", "(II)I"⟩
abbrev cX6_days : ByteArray := prog_1_method_8_code
def yX6_days : MethodName := ⟨RX6, "days", "(I)I"⟩
abbrev cX6_stepOf : ByteArray := prog_1_method_9_code
def yX6_stepOf : MethodName := ⟨RX6, "stepOf", "(II)I"⟩
abbrev cX6_ready : ByteArray := prog_1_method_10_code
def yX6_ready : MethodName := ⟨RX6, "ready", "(I)I"⟩
abbrev cX6_milestoneOf : ByteArray := prog_1_method_11_code
def yX6_milestoneOf : MethodName := ⟨RX6, "milestoneOf", "(II)I"⟩
abbrev cX6_late : ByteArray := prog_1_method_12_code
def yX6_late : MethodName := ⟨RX6, "late", "()I"⟩
abbrev cX6_doneIn : ByteArray := prog_1_method_13_code
def yX6_doneIn : MethodName := ⟨RX6, "doneIn", "(I)I"⟩
abbrev cX6_chain : ByteArray := prog_1_method_14_code
def yX6_chain : MethodName := ⟨RX6, "chain", "(I)I"⟩
abbrev cX6_chainAgain : ByteArray := prog_1_method_15_code
def yX6_chainAgain : MethodName := ⟨RX6, "chainAgain", "(I)I"⟩
abbrev cX6_logged : ByteArray := prog_1_method_16_code
def yX6_logged : MethodName := ⟨RX6, "logged", "(II)I"⟩
abbrev cX6_ranked : ByteArray := prog_1_method_17_code
def yX6_ranked : MethodName := ⟨RX6, "ranked", "(I)I"⟩
abbrev cX6_append : ByteArray := prog_1_method_18_code
def yX6_append : MethodName := ⟨RX6, "append", "(I)I"⟩
abbrev cX6_run : ByteArray := prog_1_method_19_code
def yX6_run : MethodName := ⟨RX6, "run", "()I"⟩
abbrev cX6_tell : ByteArray := prog_1_method_20_code
def yX6_tell : MethodName := ⟨RX6, "tell", "(I)I"⟩
abbrev cX6_tellAll : ByteArray := prog_1_method_21_code
def yX6_tellAll : MethodName := ⟨RX6, "tellAll", "()I"⟩
abbrev cX6_character : ByteArray := prog_1_method_22_code
def yX6_character : MethodName := ⟨RX6, "character", "(I)I"⟩
abbrev cX6_reason : ByteArray := prog_1_method_23_code
def yX6_reason : MethodName := ⟨RX6, "reason", "(Z)I"⟩
abbrev cX6_account : ByteArray := prog_1_method_24_code
def yX6_account : MethodName := ⟨RX6, "account", "(I)I"⟩
abbrev cX6_isBalanced : ByteArray := prog_1_method_25_code
def yX6_isBalanced : MethodName := ⟨RX6, "isBalanced", "()I"⟩
abbrev cX6_meanDays : ByteArray := prog_1_method_26_code
def yX6_meanDays : MethodName := ⟨RX6, "meanDays", "()D"⟩
abbrev cX6_wrongShare : ByteArray := prog_1_method_27_code
def yX6_wrongShare : MethodName := ⟨RX6, "wrongShare", "()F"⟩
abbrev cX6_undo : ByteArray := prog_1_method_28_code
def yX6_undo : MethodName := ⟨RX6, "undo", "()I"⟩
abbrev cX6_save : ByteArray := prog_1_method_29_code
def yX6_save : MethodName := ⟨RX6, "save", "()I"⟩
abbrev cX6_restore : ByteArray := prog_1_method_30_code
def yX6_restore : MethodName := ⟨RX6, "restore", "()I"⟩
abbrev cX6_tellStep : ByteArray := prog_1_method_31_code
def yX6_tellStep : MethodName := ⟨RX6, "tellStep", "(IIIZ)I"⟩
abbrev cX6_tellNeed : ByteArray := prog_1_method_32_code
def yX6_tellNeed : MethodName := ⟨RX6, "tellNeed", "(II)I"⟩
abbrev cX6_tellFault : ByteArray := prog_1_method_33_code
def yX6_tellFault : MethodName := ⟨RX6, "tellFault", "(II)I"⟩
abbrev cX6_setHands : ByteArray := prog_1_method_34_code
def yX6_setHands : MethodName := ⟨RX6, "setHands", "(I)I"⟩
abbrev cX6_tellCancel : ByteArray := prog_1_method_35_code
def yX6_tellCancel : MethodName := ⟨RX6, "tellCancel", "(I)I"⟩
abbrev cX6_tellMilestone : ByteArray := prog_1_method_36_code
def yX6_tellMilestone : MethodName := ⟨RX6, "tellMilestone", "(II)I"⟩
abbrev cX6_letDaysGo : ByteArray := prog_1_method_37_code
def yX6_letDaysGo : MethodName := ⟨RX6, "letDaysGo", "(I)I"⟩
abbrev cX6_carryOut : ByteArray := prog_1_method_38_code
def yX6_carryOut : MethodName := ⟨RX6, "carryOut", "(LTrousseauFlow$Order;)I"⟩
abbrev cX6_refuse : ByteArray := prog_1_method_39_code
def yX6_refuse : MethodName := ⟨RX6, "refuse", "(II)I"⟩
abbrev cX6_markBefore : ByteArray := prog_1_method_40_code
def yX6_markBefore : MethodName := ⟨RX6, "markBefore", "()V"⟩
abbrev cX6_keepChange : ByteArray := prog_1_method_41_code
def yX6_keepChange : MethodName := ⟨RX6, "keepChange", "(I)I"⟩
abbrev cX6_isWithin : ByteArray := prog_1_method_42_code
def yX6_isWithin : MethodName := ⟨RX6, "isWithin", "(III)Z"⟩
def RX7 : String := "TrousseauFlowModel"
def TX7 : u_T := fun k => match k with
  | _ => ("", "", "", false)
def tyX7 : Nat → FieldType := fun k => match k with
  | _ => .int
abbrev wsX70 : List Cond := u_ws RX7 TX7 0
theorem nmX7 : ∀ a, a < 0 → ∀ b, b < 0 → a ≠ b → (TX7 a).2.1 ≠ (TX7 b).2.1 := by decide +kernel
theorem tyX7_ok : ∀ k, k < 0 → parseFieldDescriptor (TX7 k).2.2.1 = some (tyX7 k) := by decide +kernel
def RJx145de : String := "java/io/Serializable"
def TJx145de : u_T := fun k => match k with
  | _ => ("", "", "", false)
def tyJx145de : Nat → FieldType := fun k => match k with
  | _ => .int
abbrev wsJx145de0 : List Cond := u_ws RJx145de TJx145de 0
theorem nmJx145de : ∀ a, a < 0 → ∀ b, b < 0 → a ≠ b → (TJx145de a).2.1 ≠ (TJx145de b).2.1 := by decide +kernel
theorem tyJx145de_ok : ∀ k, k < 0 → parseFieldDescriptor (TJx145de k).2.2.1 = some (tyJx145de k) := by decide +kernel
def RJ5 : String := "java/lang/AbstractStringBuilder"
def TJ5 : u_T := fun k => match k with
  | _ => ("", "", "", false)
def tyJ5 : Nat → FieldType := fun k => match k with
  | _ => .int
abbrev wsJ50 : List Cond := u_ws RJ5 TJ5 0
theorem nmJ5 : ∀ a, a < 0 → ∀ b, b < 0 → a ≠ b → (TJ5 a).2.1 ≠ (TJ5 b).2.1 := by decide +kernel
theorem tyJ5_ok : ∀ k, k < 0 → parseFieldDescriptor (TJ5 k).2.2.1 = some (tyJ5 k) := by decide +kernel
abbrev cJ5_init_d00df : ByteArray := prog_10_method_2_code
def yJ5_init_d00df : MethodName := ⟨RJ5, "<init>", "(I)V"⟩
abbrev cJ5_length_8abf5 : ByteArray := prog_10_method_6_code
def yJ5_length_8abf5 : MethodName := ⟨RJ5, "length", "()I"⟩
abbrev cJ5_ensureCapacityInternal_d00df : ByteArray := prog_10_method_9_code
def yJ5_ensureCapacityInternal_d00df : MethodName := ⟨RJ5, "ensureCapacityInternal", "(I)V"⟩
abbrev cJ5_newCapacity_0f7a4 : ByteArray := prog_10_method_10_code
def yJ5_newCapacity_0f7a4 : MethodName := ⟨RJ5, "newCapacity", "(I)I"⟩
abbrev cJ5_inflate_da8c8 : ByteArray := prog_10_method_11_code
def yJ5_inflate_da8c8 : MethodName := ⟨RJ5, "inflate", "()V"⟩
abbrev cJ5_append_cf1ce : ByteArray := prog_10_method_22_code
def yJ5_append_cf1ce : MethodName := ⟨RJ5, "append", "(Ljava/lang/String;)Ljava/lang/AbstractStringBuilder;"⟩
abbrev cJ5_appendNull_278bc : ByteArray := prog_10_method_26_code
def yJ5_appendNull_278bc : MethodName := ⟨RJ5, "appendNull", "()Ljava/lang/AbstractStringBuilder;"⟩
abbrev cJ5_append_c97b9 : ByteArray := prog_10_method_32_code
def yJ5_append_c97b9 : MethodName := ⟨RJ5, "append", "(I)Ljava/lang/AbstractStringBuilder;"⟩
abbrev cJ5_getValue_6d5f1 : ByteArray := prog_10_method_64_code
def yJ5_getValue_6d5f1 : MethodName := ⟨RJ5, "getValue", "()[B"⟩
abbrev cJ5_isLatin1_aae02 : ByteArray := prog_10_method_68_code
def yJ5_isLatin1_aae02 : MethodName := ⟨RJ5, "isLatin1", "()Z"⟩
abbrev cJ5_inflateIfNeededFor_a7421 : ByteArray := prog_10_method_71_code
def yJ5_inflateIfNeededFor_a7421 : MethodName := ⟨RJ5, "inflateIfNeededFor", "(Ljava/lang/String;)V"⟩
abbrev cJ5_putStringAt_47b60 : ByteArray := prog_10_method_73_code
def yJ5_putStringAt_47b60 : MethodName := ⟨RJ5, "putStringAt", "(ILjava/lang/String;)V"⟩
def RJx2cfe8 : String := "java/lang/Appendable"
def TJx2cfe8 : u_T := fun k => match k with
  | _ => ("", "", "", false)
def tyJx2cfe8 : Nat → FieldType := fun k => match k with
  | _ => .int
abbrev wsJx2cfe80 : List Cond := u_ws RJx2cfe8 TJx2cfe8 0
theorem nmJx2cfe8 : ∀ a, a < 0 → ∀ b, b < 0 → a ≠ b → (TJx2cfe8 a).2.1 ≠ (TJx2cfe8 b).2.1 := by decide +kernel
theorem tyJx2cfe8_ok : ∀ k, k < 0 → parseFieldDescriptor (TJx2cfe8 k).2.2.1 = some (tyJx2cfe8 k) := by decide +kernel
def RJx9f9b0 : String := "java/lang/CharSequence"
def TJx9f9b0 : u_T := fun k => match k with
  | _ => ("", "", "", false)
def tyJx9f9b0 : Nat → FieldType := fun k => match k with
  | _ => .int
abbrev wsJx9f9b00 : List Cond := u_ws RJx9f9b0 TJx9f9b0 0
theorem nmJx9f9b0 : ∀ a, a < 0 → ∀ b, b < 0 → a ≠ b → (TJx9f9b0 a).2.1 ≠ (TJx9f9b0 b).2.1 := by decide +kernel
theorem tyJx9f9b0_ok : ∀ k, k < 0 → parseFieldDescriptor (TJx9f9b0 k).2.2.1 = some (tyJx9f9b0 k) := by decide +kernel
def RJx8e188 : String := "java/lang/Cloneable"
def TJx8e188 : u_T := fun k => match k with
  | _ => ("", "", "", false)
def tyJx8e188 : Nat → FieldType := fun k => match k with
  | _ => .int
abbrev wsJx8e1880 : List Cond := u_ws RJx8e188 TJx8e188 0
theorem nmJx8e188 : ∀ a, a < 0 → ∀ b, b < 0 → a ≠ b → (TJx8e188 a).2.1 ≠ (TJx8e188 b).2.1 := by decide +kernel
theorem tyJx8e188_ok : ∀ k, k < 0 → parseFieldDescriptor (TJx8e188 k).2.2.1 = some (tyJx8e188 k) := by decide +kernel
def RJxb160c : String := "java/lang/Comparable"
def TJxb160c : u_T := fun k => match k with
  | _ => ("", "", "", false)
def tyJxb160c : Nat → FieldType := fun k => match k with
  | _ => .int
abbrev wsJxb160c0 : List Cond := u_ws RJxb160c TJxb160c 0
theorem nmJxb160c : ∀ a, a < 0 → ∀ b, b < 0 → a ≠ b → (TJxb160c a).2.1 ≠ (TJxb160c b).2.1 := by decide +kernel
theorem tyJxb160c_ok : ∀ k, k < 0 → parseFieldDescriptor (TJxb160c k).2.2.1 = some (tyJxb160c k) := by decide +kernel
def RJxe99ae : String := "java/lang/Double"
def TJxe99ae : u_T := fun k => match k with
  | _ => ("", "", "", false)
def tyJxe99ae : Nat → FieldType := fun k => match k with
  | _ => .int
abbrev wsJxe99ae0 : List Cond := u_ws RJxe99ae TJxe99ae 0
theorem nmJxe99ae : ∀ a, a < 0 → ∀ b, b < 0 → a ≠ b → (TJxe99ae a).2.1 ≠ (TJxe99ae b).2.1 := by decide +kernel
theorem tyJxe99ae_ok : ∀ k, k < 0 → parseFieldDescriptor (TJxe99ae k).2.2.1 = some (tyJxe99ae k) := by decide +kernel
abbrev cJxe99ae_isNaN_b9ae7 : ByteArray := prog_12_method_6_code
def yJxe99ae_isNaN_b9ae7 : MethodName := ⟨RJxe99ae, "isNaN", "(D)Z"⟩
abbrev cJxe99ae_doubleToLongBits_ccdee : ByteArray := prog_12_method_23_code
def yJxe99ae_doubleToLongBits_ccdee : MethodName := ⟨RJxe99ae, "doubleToLongBits", "(D)J"⟩
def RJxf58ca : String := "java/lang/Float"
def TJxf58ca : u_T := fun k => match k with
  | _ => ("", "", "", false)
def tyJxf58ca : Nat → FieldType := fun k => match k with
  | _ => .int
abbrev wsJxf58ca0 : List Cond := u_ws RJxf58ca TJxf58ca 0
theorem nmJxf58ca : ∀ a, a < 0 → ∀ b, b < 0 → a ≠ b → (TJxf58ca a).2.1 ≠ (TJxf58ca b).2.1 := by decide +kernel
theorem tyJxf58ca_ok : ∀ k, k < 0 → parseFieldDescriptor (TJxf58ca k).2.2.1 = some (tyJxf58ca k) := by decide +kernel
abbrev cJxf58ca_isNaN_12338 : ByteArray := prog_13_method_6_code
def yJxf58ca_isNaN_12338 : MethodName := ⟨RJxf58ca, "isNaN", "(F)Z"⟩
abbrev cJxf58ca_floatToIntBits_5c35a : ByteArray := prog_13_method_24_code
def yJxf58ca_floatToIntBits_5c35a : MethodName := ⟨RJxf58ca, "floatToIntBits", "(F)I"⟩
def RJ6 : String := "java/lang/Integer"
def TJ6 : u_T := fun k => match k with
  | _ => ("", "", "", false)
def tyJ6 : Nat → FieldType := fun k => match k with
  | _ => .int
abbrev wsJ60 : List Cond := u_ws RJ6 TJ6 0
theorem nmJ6 : ∀ a, a < 0 → ∀ b, b < 0 → a ≠ b → (TJ6 a).2.1 ≠ (TJ6 b).2.1 := by decide +kernel
theorem tyJ6_ok : ∀ k, k < 0 → parseFieldDescriptor (TJ6 k).2.2.1 = some (tyJ6 k) := by decide +kernel
abbrev cJ6_getChars_ba4f3 : ByteArray := prog_14_method_12_code
def yJ6_getChars_ba4f3 : MethodName := ⟨RJ6, "getChars", "(II[B)I"⟩
abbrev cJ6_stringSize_0f7a4 : ByteArray := prog_14_method_13_code
def yJ6_stringSize_0f7a4 : MethodName := ⟨RJ6, "stringSize", "(I)I"⟩
abbrev cJ6_bitCount_0f7a4 : ByteArray := prog_14_method_49_code
def yJ6_bitCount_0f7a4 : MethodName := ⟨RJ6, "bitCount", "(I)I"⟩
def RJ9 : String := "java/lang/Math"
def TJ9 : u_T := fun k => match k with
  | _ => ("", "", "", false)
def tyJ9 : Nat → FieldType := fun k => match k with
  | _ => .int
abbrev wsJ90 : List Cond := u_ws RJ9 TJ9 0
theorem nmJ9 : ∀ a, a < 0 → ∀ b, b < 0 → a ≠ b → (TJ9 a).2.1 ≠ (TJ9 b).2.1 := by decide +kernel
theorem tyJ9_ok : ∀ k, k < 0 → parseFieldDescriptor (TJ9 k).2.2.1 = some (tyJ9 k) := by decide +kernel
abbrev cJ9_max_7cf53 : ByteArray := prog_15_method_65_code
def yJ9_max_7cf53 : MethodName := ⟨RJ9, "max", "(II)I"⟩
abbrev cJ9_min_7cf53 : ByteArray := prog_15_method_69_code
def yJ9_min_7cf53 : MethodName := ⟨RJ9, "min", "(II)I"⟩
def RJxd2413 : String := "java/lang/Number"
def TJxd2413 : u_T := fun k => match k with
  | _ => ("", "", "", false)
def tyJxd2413 : Nat → FieldType := fun k => match k with
  | _ => .int
abbrev wsJxd24130 : List Cond := u_ws RJxd2413 TJxd2413 0
theorem nmJxd2413 : ∀ a, a < 0 → ∀ b, b < 0 → a ≠ b → (TJxd2413 a).2.1 ≠ (TJxd2413 b).2.1 := by decide +kernel
theorem tyJxd2413_ok : ∀ k, k < 0 → parseFieldDescriptor (TJxd2413 k).2.2.1 = some (tyJxd2413 k) := by decide +kernel
def RJ0 : String := "java/lang/String"
def TJ0 : u_T := fun k => match k with
  | 0 => ("java/lang/String", "value", "[B", true)
  | 1 => ("java/lang/String", "coder", "B", true)
  | 2 => ("java/lang/String", "hash", "I", false)
  | _ => ("java/lang/String", "hashIsZero", "Z", false)
def tyJ0 : Nat → FieldType := fun k => match k with
  | 0 => .array .byte
  | 1 => .byte
  | 2 => .int
  | _ => .boolean
abbrev wsJ00 : List Cond := u_ws RJ0 TJ0 4
theorem nmJ0 : ∀ a, a < 4 → ∀ b, b < 4 → a ≠ b → (TJ0 a).2.1 ≠ (TJ0 b).2.1 := by decide +kernel
theorem tyJ0_ok : ∀ k, k < 4 → parseFieldDescriptor (TJ0 k).2.2.1 = some (tyJ0 k) := by decide +kernel
abbrev cJ0_init_81219 : ByteArray := prog_17_method_53_code
def yJ0_init_81219 : MethodName := ⟨RJ0, "<init>", "(Ljava/lang/StringBuilder;)V"⟩
abbrev cJ0_length_8abf5 : ByteArray := prog_17_method_54_code
def yJ0_length_8abf5 : MethodName := ⟨RJ0, "length", "()I"⟩
abbrev cJ0_charAt_5068e : ByteArray := prog_17_method_56_code
def yJ0_charAt_5068e : MethodName := ⟨RJ0, "charAt", "(I)C"⟩
abbrev cJ0_getBytes_840e7 : ByteArray := prog_17_method_147_code
def yJ0_getBytes_840e7 : MethodName := ⟨RJ0, "getBytes", "([BIB)V"⟩
abbrev cJ0_init_db425 : ByteArray := prog_17_method_150_code
def yJ0_init_db425 : MethodName := ⟨RJ0, "<init>", "(Ljava/lang/AbstractStringBuilder;Ljava/lang/Void;)V"⟩
abbrev cJ0_coder_7d493 : ByteArray := prog_17_method_152_code
def yJ0_coder_7d493 : MethodName := ⟨RJ0, "coder", "()B"⟩
abbrev cJ0_isLatin1_aae02 : ByteArray := prog_17_method_154_code
def yJ0_isLatin1_aae02 : MethodName := ⟨RJ0, "isLatin1", "()Z"⟩
abbrev cJ0_checkIndex_df160 : ByteArray := prog_17_method_155_code
def yJ0_checkIndex_df160 : MethodName := ⟨RJ0, "checkIndex", "(II)V"⟩
abbrev cJ0_checkBoundsOffCount_cabcc : ByteArray := prog_17_method_157_code
def yJ0_checkBoundsOffCount_cabcc : MethodName := ⟨RJ0, "checkBoundsOffCount", "(III)I"⟩
abbrev cJ0_checkBoundsBeginEnd_23922 : ByteArray := prog_17_method_158_code
def yJ0_checkBoundsBeginEnd_23922 : MethodName := ⟨RJ0, "checkBoundsBeginEnd", "(III)V"⟩
def RJ4 : String := "java/lang/StringBuilder"
def TJ4 : u_T := fun k => match k with
  | 0 => ("java/lang/AbstractStringBuilder", "value", "[B", false)
  | 1 => ("java/lang/AbstractStringBuilder", "coder", "B", false)
  | 2 => ("java/lang/AbstractStringBuilder", "maybeLatin1", "Z", false)
  | _ => ("java/lang/AbstractStringBuilder", "count", "I", false)
def tyJ4 : Nat → FieldType := fun k => match k with
  | 0 => .array .byte
  | 1 => .byte
  | 2 => .boolean
  | _ => .int
abbrev wsJ40 : List Cond := u_ws RJ4 TJ4 4
theorem nmJ4 : ∀ a, a < 4 → ∀ b, b < 4 → a ≠ b → (TJ4 a).2.1 ≠ (TJ4 b).2.1 := by decide +kernel
theorem tyJ4_ok : ∀ k, k < 4 → parseFieldDescriptor (TJ4 k).2.2.1 = some (tyJ4 k) := by decide +kernel
abbrev cJ4_init_da8c8 : ByteArray := prog_18_method_1_code
def yJ4_init_da8c8 : MethodName := ⟨RJ4, "<init>", "()V"⟩
abbrev cJ4_append_15ec4 : ByteArray := prog_18_method_7_code
def yJ4_append_15ec4 : MethodName := ⟨RJ4, "append", "(Ljava/lang/String;)Ljava/lang/StringBuilder;"⟩
abbrev cJ4_append_bf812 : ByteArray := prog_18_method_15_code
def yJ4_append_bf812 : MethodName := ⟨RJ4, "append", "(I)Ljava/lang/StringBuilder;"⟩
abbrev cJ4_toString_0e30d : ByteArray := prog_18_method_42_code
def yJ4_toString_0e30d : MethodName := ⟨RJ4, "toString", "()Ljava/lang/String;"⟩
abbrev cJ4_length_8abf5 : ByteArray := prog_18_method_93_code
def yJ4_length_8abf5 : MethodName := ⟨RJ4, "length", "()I"⟩
def RJ1 : String := "java/lang/StringLatin1"
def TJ1 : u_T := fun k => match k with
  | _ => ("", "", "", false)
def tyJ1 : Nat → FieldType := fun k => match k with
  | _ => .int
abbrev wsJ10 : List Cond := u_ws RJ1 TJ1 0
theorem nmJ1 : ∀ a, a < 0 → ∀ b, b < 0 → a ≠ b → (TJ1 a).2.1 ≠ (TJ1 b).2.1 := by decide +kernel
theorem tyJ1_ok : ∀ k, k < 0 → parseFieldDescriptor (TJ1 k).2.2.1 = some (tyJ1 k) := by decide +kernel
abbrev cJ1_charAt_3b067 : ByteArray := prog_19_method_2_code
def yJ1_charAt_3b067 : MethodName := ⟨RJ1, "charAt", "([BI)C"⟩
abbrev cJ1_inflate_0e8fd : ByteArray := prog_19_method_50_code
def yJ1_inflate_0e8fd : MethodName := ⟨RJ1, "inflate", "([BI[BII)V"⟩
def RJ2 : String := "java/lang/StringUTF16"
def TJ2 : u_T := fun k => match k with
  | _ => ("", "", "", false)
def tyJ2 : Nat → FieldType := fun k => match k with
  | _ => .int
abbrev wsJ20 : List Cond := u_ws RJ2 TJ2 0
theorem nmJ2 : ∀ a, a < 0 → ∀ b, b < 0 → a ≠ b → (TJ2 a).2.1 ≠ (TJ2 b).2.1 := by decide +kernel
theorem tyJ2_ok : ∀ k, k < 0 → parseFieldDescriptor (TJ2 k).2.2.1 = some (tyJ2 k) := by decide +kernel
abbrev cJ2_newBytesFor_77867 : ByteArray := prog_20_method_2_code
def yJ2_newBytesFor_77867 : MethodName := ⟨RJ2, "newBytesFor", "(I)[B"⟩
abbrev cJ2_newBytesLength_0f7a4 : ByteArray := prog_20_method_3_code
def yJ2_newBytesLength_0f7a4 : MethodName := ⟨RJ2, "newBytesLength", "(I)I"⟩
abbrev cJ2_putChar_b72d1 : ByteArray := prog_20_method_4_code
def yJ2_putChar_b72d1 : MethodName := ⟨RJ2, "putChar", "([BII)V"⟩
abbrev cJ2_getChar_3b067 : ByteArray := prog_20_method_5_code
def yJ2_getChar_3b067 : MethodName := ⟨RJ2, "getChar", "([BI)C"⟩
abbrev cJ2_length_9d52b : ByteArray := prog_20_method_6_code
def yJ2_length_9d52b : MethodName := ⟨RJ2, "length", "([B)I"⟩
abbrev cJ2_coderFromArrayLen_85cad : ByteArray := prog_20_method_15_code
def yJ2_coderFromArrayLen_85cad : MethodName := ⟨RJ2, "coderFromArrayLen", "([BI)B"⟩
abbrev cJ2_compress_39247 : ByteArray := prog_20_method_17_code
def yJ2_compress_39247 : MethodName := ⟨RJ2, "compress", "([BII)[B"⟩
abbrev cJ2_compress_5af95 : ByteArray := prog_20_method_22_code
def yJ2_compress_5af95 : MethodName := ⟨RJ2, "compress", "([BI[BII)I"⟩
abbrev cJ2_getChars_46870 : ByteArray := prog_20_method_77_code
def yJ2_getChars_46870 : MethodName := ⟨RJ2, "getChars", "(III[B)I"⟩
abbrev cJ2_putCharsAt_cd4e5 : ByteArray := prog_20_method_81_code
def yJ2_putCharsAt_cd4e5 : MethodName := ⟨RJ2, "putCharsAt", "([BICCCC)I"⟩
abbrev cJ2_charAt_3b067 : ByteArray := prog_20_method_83_code
def yJ2_charAt_3b067 : MethodName := ⟨RJ2, "charAt", "([BI)C"⟩
abbrev cJ2_inflate_0e8fd : ByteArray := prog_20_method_86_code
def yJ2_inflate_0e8fd : MethodName := ⟨RJ2, "inflate", "([BI[BII)V"⟩
abbrev cJ2_getChars_ba4f3 : ByteArray := prog_20_method_89_code
def yJ2_getChars_ba4f3 : MethodName := ⟨RJ2, "getChars", "(II[B)I"⟩
abbrev cJ2_checkIndex_2214a : ByteArray := prog_20_method_91_code
def yJ2_checkIndex_2214a : MethodName := ⟨RJ2, "checkIndex", "(I[B)V"⟩
abbrev cJ2_checkBoundsBeginEnd_d044e : ByteArray := prog_20_method_93_code
def yJ2_checkBoundsBeginEnd_d044e : MethodName := ⟨RJ2, "checkBoundsBeginEnd", "(II[B)V"⟩
abbrev cJ2_checkBoundsOffCount_d044e : ByteArray := prog_20_method_94_code
def yJ2_checkBoundsOffCount_d044e : MethodName := ⟨RJ2, "checkBoundsOffCount", "(II[B)V"⟩
def RJ10 : String := "java/lang/System"
def TJ10 : u_T := fun k => match k with
  | _ => ("", "", "", false)
def tyJ10 : Nat → FieldType := fun k => match k with
  | _ => .int
abbrev wsJ100 : List Cond := u_ws RJ10 TJ10 0
theorem nmJ10 : ∀ a, a < 0 → ∀ b, b < 0 → a ≠ b → (TJ10 a).2.1 ≠ (TJ10 b).2.1 := by decide +kernel
theorem tyJ10_ok : ∀ k, k < 0 → parseFieldDescriptor (TJ10 k).2.2.1 = some (tyJ10 k) := by decide +kernel
def RJxfd54e : String := "java/lang/constant/Constable"
def TJxfd54e : u_T := fun k => match k with
  | _ => ("", "", "", false)
def tyJxfd54e : Nat → FieldType := fun k => match k with
  | _ => .int
abbrev wsJxfd54e0 : List Cond := u_ws RJxfd54e TJxfd54e 0
theorem nmJxfd54e : ∀ a, a < 0 → ∀ b, b < 0 → a ≠ b → (TJxfd54e a).2.1 ≠ (TJxfd54e b).2.1 := by decide +kernel
theorem tyJxfd54e_ok : ∀ k, k < 0 → parseFieldDescriptor (TJxfd54e k).2.2.1 = some (tyJxfd54e k) := by decide +kernel
def RJx3cf43 : String := "java/lang/constant/ConstantDesc"
def TJx3cf43 : u_T := fun k => match k with
  | _ => ("", "", "", false)
def tyJx3cf43 : Nat → FieldType := fun k => match k with
  | _ => .int
abbrev wsJx3cf430 : List Cond := u_ws RJx3cf43 TJx3cf43 0
theorem nmJx3cf43 : ∀ a, a < 0 → ∀ b, b < 0 → a ≠ b → (TJx3cf43 a).2.1 ≠ (TJx3cf43 b).2.1 := by decide +kernel
theorem tyJx3cf43_ok : ∀ k, k < 0 → parseFieldDescriptor (TJx3cf43 k).2.2.1 = some (tyJx3cf43 k) := by decide +kernel
def RJ7 : String := "java/util/Arrays"
def TJ7 : u_T := fun k => match k with
  | _ => ("", "", "", false)
def tyJ7 : Nat → FieldType := fun k => match k with
  | _ => .int
abbrev wsJ70 : List Cond := u_ws RJ7 TJ7 0
theorem nmJ7 : ∀ a, a < 0 → ∀ b, b < 0 → a ≠ b → (TJ7 a).2.1 ≠ (TJ7 b).2.1 := by decide +kernel
theorem tyJ7_ok : ∀ k, k < 0 → parseFieldDescriptor (TJ7 k).2.2.1 = some (tyJ7 k) := by decide +kernel
abbrev cJ7_copyOf_9075b : ByteArray := prog_22_method_121_code
def yJ7_copyOf_9075b : MethodName := ⟨RJ7, "copyOf", "([BI)[B"⟩
abbrev cJ7_checkLength_df160 : ByteArray := prog_22_method_131_code
def yJ7_checkLength_df160 : MethodName := ⟨RJ7, "checkLength", "(II)V"⟩
abbrev cJ7_copyOfRange_39247 : ByteArray := prog_22_method_132_code
def yJ7_copyOfRange_39247 : MethodName := ⟨RJ7, "copyOfRange", "([BII)[B"⟩
abbrev cJ7_copyOfRangeByte_39247 : ByteArray := prog_22_method_133_code
def yJ7_copyOfRangeByte_39247 : MethodName := ⟨RJ7, "copyOfRangeByte", "([BII)[B"⟩
def RJ8 : String := "jdk/internal/util/ArraysSupport"
def TJ8 : u_T := fun k => match k with
  | _ => ("", "", "", false)
def tyJ8 : Nat → FieldType := fun k => match k with
  | _ => .int
abbrev wsJ80 : List Cond := u_ws RJ8 TJ8 0
theorem nmJ8 : ∀ a, a < 0 → ∀ b, b < 0 → a ≠ b → (TJ8 a).2.1 ≠ (TJ8 b).2.1 := by decide +kernel
theorem tyJ8_ok : ∀ k, k < 0 → parseFieldDescriptor (TJ8 k).2.2.1 = some (tyJ8 k) := by decide +kernel
abbrev cJ8_newLength_cabcc : ByteArray := prog_23_method_27_code
def yJ8_newLength_cabcc : MethodName := ⟨RJ8, "newLength", "(III)I"⟩
abbrev cJ8_hugeLength_7cf53 : ByteArray := prog_23_method_28_code
def yJ8_hugeLength_7cf53 : MethodName := ⟨RJ8, "hugeLength", "(II)I"⟩
def RJ3 : String := "jdk/internal/util/Preconditions"
def TJ3 : u_T := fun k => match k with
  | _ => ("", "", "", false)
def tyJ3 : Nat → FieldType := fun k => match k with
  | _ => .int
abbrev wsJ30 : List Cond := u_ws RJ3 TJ3 0
theorem nmJ3 : ∀ a, a < 0 → ∀ b, b < 0 → a ≠ b → (TJ3 a).2.1 ≠ (TJ3 b).2.1 := by decide +kernel
theorem tyJ3_ok : ∀ k, k < 0 → parseFieldDescriptor (TJ3 k).2.2.1 = some (tyJ3 k) := by decide +kernel
abbrev cJ3_checkIndex_8e157 : ByteArray := prog_24_method_11_code
def yJ3_checkIndex_8e157 : MethodName := ⟨RJ3, "checkIndex", "(IILjava/util/function/BiFunction;)I"⟩
abbrev cJ3_checkFromToIndex_8c36e : ByteArray := prog_24_method_12_code
def yJ3_checkFromToIndex_8c36e : MethodName := ⟨RJ3, "checkFromToIndex", "(IIILjava/util/function/BiFunction;)I"⟩
abbrev cJ3_checkFromIndexSize_8c36e : ByteArray := prog_24_method_13_code
def yJ3_checkFromIndexSize_8c36e : MethodName := ⟨RJ3, "checkFromIndexSize", "(IIILjava/util/function/BiFunction;)I"⟩
def RL : String := "TrousseauFlowLaw"
abbrev cL_at : ByteArray := method_2_code
def yL_at : MethodName := ⟨RL, "at", "([II)I"⟩
abbrev cL_some : ByteArray := method_3_code
def yL_some : MethodName := ⟨RL, "some", "(II)I"⟩
abbrev cL_reads : ByteArray := method_4_code
def yL_reads : MethodName := ⟨RL, "reads", "(LTrousseauFlow;Ljava/lang/String;)I"⟩
abbrev cL_is : ByteArray := method_5_code
def yL_is : MethodName := ⟨RL, "is", "(LTrousseauFlow;II)Z"⟩
abbrev cL_makes : ByteArray := method_7_code
def yL_makes : MethodName := ⟨RL, "makes", "(LTrousseauFlow;[I)Z"⟩
abbrev cL_asks : ByteArray := method_8_code
def yL_asks : MethodName := ⟨RL, "asks", "(LTrousseauFlow;)J"⟩
abbrev cL_changes : ByteArray := method_9_code
def yL_changes : MethodName := ⟨RL, "changes", "(LTrousseauFlow;I)Z"⟩
abbrev cL_refused : ByteArray := method_10_code
def yL_refused : MethodName := ⟨RL, "refused", "(LTrousseauFlow;)Z"⟩
abbrev cL_refusedAt : ByteArray := method_11_code
def yL_refusedAt : MethodName := ⟨RL, "refusedAt", "(LTrousseauFlow;I)Z"⟩
abbrev cL_law : ByteArray := code
def yL_law : MethodName := ⟨RL, "law", "([I)Z"⟩
def wsL_law_r1 : List Cond := [Cond.classLink RL 18 RX6, Cond.instantiable RX6 13, Cond.initialized RX6, Cond.arrayClass .long, Cond.methodLink RL 194 Lib.Math.min.name, Cond.static Lib.Math.min.name, Cond.initialized "java/lang/Math", Cond.code Lib.Math.min.name Lib.Math.min.code 2 (some .int), Cond.methodLink RL 173 yX6_init, Cond.instanceMethod yX6_init, Cond.code yX6_init cX6_init 2 none, Cond.methodLink RX6 3 objectInit, Cond.instanceMethod objectInit, Cond.code objectInit ⟨#[0xb1]⟩ 1 none, Cond.classLink RX6 9 RX4, Cond.instantiable RX4 14, Cond.initialized RX4, Cond.fieldLink RX6 12 "TrousseauFlow" "now" "LTrousseauFlow$Plan;", Cond.fieldLink RX6 16 "TrousseauFlow" "forecast" "LTrousseauFlow$Plan;", Cond.fieldLink RX6 19 "TrousseauFlow" "snapshot" "LTrousseauFlow$Plan;", Cond.fieldLink RX6 22 "TrousseauFlow" "marks" "[LTrousseauFlow$Plan;", Cond.classLink RX6 26 RX3, Cond.instantiable RX3 5, Cond.initialized RX3]
def wsL_law_r2 : List Cond := [Cond.fieldLink RX6 29 "TrousseauFlow" "text" "LTrousseauFlow$OrderText;", Cond.classLink RX6 33 RX1, Cond.instantiable RX1 2, Cond.initialized RX1, Cond.fieldLink RX6 36 "TrousseauFlow" "line" "LTrousseauFlow$Line;", Cond.classLink RX6 40 RX0, Cond.instantiable RX0 2, Cond.initialized RX0, Cond.fieldLink RX6 43 "TrousseauFlow" "chains" "LTrousseauFlow$Chains;", Cond.methodLink RX6 11 yX4_init, Cond.instanceMethod yX4_init, Cond.code yX4_init cX4_init 2 none, Cond.methodLink RX4 3 objectInit, Cond.classLink RX4 9 RX5, Cond.fieldLink RX4 11 "TrousseauFlow$Plan" "steps" "[LTrousseauFlow$Step;", Cond.arrayClass .int, Cond.fieldLink RX4 17 "TrousseauFlow$Plan" "milestones" "[I", Cond.fieldLink RX4 21 "TrousseauFlow$Plan" "events" "[I", Cond.fieldLink RX4 24 "TrousseauFlow$Plan" "handCount" "I", Cond.instantiable RX5 11, Cond.initialized RX5, Cond.instanceMethod yX5_init, Cond.code yX5_init cX5_init 1 none, Cond.methodLink RX5 3 objectInit]
def wsL_law_r3 : List Cond := [Cond.methodLink RX6 28 yX3_init, Cond.instanceMethod yX3_init, Cond.code yX3_init cX3_init 2 none, Cond.methodLink RX3 3 objectInit, Cond.arrayClass .char, Cond.fieldLink RX3 9 "TrousseauFlow$OrderText" "signs" "[C", Cond.classLink RX3 15 RX2, Cond.fieldLink RX3 17 "TrousseauFlow$OrderText" "orders" "[LTrousseauFlow$Order;", Cond.instantiable RX2 5, Cond.initialized RX2, Cond.instanceMethod yX2_init, Cond.code yX2_init cX2_init 1 none, Cond.methodLink RX2 1 objectInit, Cond.instanceMethod yX1_init, Cond.code yX1_init cX1_init 1 none, Cond.methodLink RX1 3 objectInit, Cond.fieldLink RX1 9 "TrousseauFlow$Line" "signs" "[C", Cond.instanceMethod yX0_init, Cond.code yX0_init cX0_init 1 none, Cond.methodLink RX0 3 objectInit, Cond.fieldLink RX0 9 "TrousseauFlow$Chains" "byNeeds" "[I", Cond.fieldLink RX0 15 "TrousseauFlow$Chains" "byRounds" "[I", Cond.methodLink RL 174 yX6_undo, Cond.instanceMethod yX6_undo]
def wsL_law_r4 : List Cond := [Cond.selects RX6 yX6_undo yX6_undo, Cond.code yX6_undo cX6_undo 1 (some .int), Cond.fieldLink RX6 247 "TrousseauFlow" "undoable" "I", Cond.fieldLink RX6 198 "TrousseauFlow" "nextMark" "I", Cond.methodLink RX6 139 yX4_copyFrom, Cond.instanceMethod yX4_copyFrom, Cond.selects RX4 yX4_copyFrom yX4_copyFrom, Cond.code yX4_copyFrom cX4_copyFrom 3 none, Cond.fieldLink RX4 29 "TrousseauFlow$Plan" "count" "I", Cond.methodLink RX4 36 arraycopyName, Cond.native arraycopyName, Cond.static arraycopyName, Cond.initialized "java/lang/System", Cond.fieldLink RX4 42 "TrousseauFlow$Plan" "milestoneCount" "I", Cond.fieldLink RX4 45 "TrousseauFlow$Plan" "nextEvent" "I", Cond.fieldLink RX4 48 "TrousseauFlow$Plan" "eventCount" "I", Cond.fieldLink RX4 51 "TrousseauFlow$Plan" "day" "I", Cond.fieldLink RX4 54 "TrousseauFlow$Plan" "cancelled" "I", Cond.fieldLink RX4 57 "TrousseauFlow$Plan" "triesBegun" "I", Cond.fieldLink RX4 60 "TrousseauFlow$Plan" "triesWrong" "I", Cond.fieldLink RX4 63 "TrousseauFlow$Plan" "doneSoFar" "I", Cond.fieldLink RX4 66 "TrousseauFlow$Plan" "undoneSoFar" "I", Cond.methodLink RX4 32 yX5_copyFrom, Cond.instanceMethod yX5_copyFrom]
def wsL_law_r5 : List Cond := [Cond.selects RX5 yX5_copyFrom yX5_copyFrom, Cond.code yX5_copyFrom cX5_copyFrom 2 none, Cond.fieldLink RX5 9 "TrousseauFlow$Step" "days" "I", Cond.fieldLink RX5 15 "TrousseauFlow$Step" "more" "I", Cond.fieldLink RX5 18 "TrousseauFlow$Step" "branch" "I", Cond.fieldLink RX5 21 "TrousseauFlow$Step" "isAny" "Z", Cond.fieldLink RX5 25 "TrousseauFlow$Step" "needs" "I", Cond.fieldLink RX5 28 "TrousseauFlow$Step" "dueDay" "I", Cond.fieldLink RX5 31 "TrousseauFlow$Step" "how" "I", Cond.fieldLink RX5 34 "TrousseauFlow$Step" "toGo" "I", Cond.fieldLink RX5 37 "TrousseauFlow$Step" "begun" "I", Cond.fieldLink RX5 40 "TrousseauFlow$Step" "wrongNext" "I", Cond.fieldLink RX5 43 "TrousseauFlow$Step" "doneDay" "I", Cond.methodLink RL 177 yX6_restore, Cond.instanceMethod yX6_restore, Cond.selects RX6 yX6_restore yX6_restore, Cond.code yX6_restore cX6_restore 1 (some .int), Cond.fieldLink RX6 250 "TrousseauFlow" "hasSnapshot" "Z", Cond.fieldLink RX6 226 "TrousseauFlow$Plan" "day" "I", Cond.methodLink RL 180 yX6_save, Cond.instanceMethod yX6_save, Cond.selects RX6 yX6_save yX6_save, Cond.code yX6_save cX6_save 1 (some .int), Cond.methodLink RL 56 yX6_hands]
def wsL_law_r6 : List Cond := [Cond.instanceMethod yX6_hands, Cond.selects RX6 yX6_hands yX6_hands, Cond.code yX6_hands cX6_hands 2 (some .int), Cond.methodLink RX6 47 yX6_markBefore, Cond.instanceMethod yX6_markBefore, Cond.selects RX6 yX6_markBefore yX6_markBefore, Cond.code yX6_markBefore cX6_markBefore 1 none, Cond.methodLink RX6 65 yX6_setHands, Cond.instanceMethod yX6_setHands, Cond.selects RX6 yX6_setHands yX6_setHands, Cond.code yX6_setHands cX6_setHands 3 (some .int), Cond.fieldLink RX6 229 "TrousseauFlow$Plan" "handCount" "I", Cond.methodLink RX6 253 yX6_isWithin, Cond.static yX6_isWithin, Cond.code yX6_isWithin cX6_isWithin 3 (some .boolean), Cond.methodLink RX6 54 yX6_keepChange, Cond.instanceMethod yX6_keepChange, Cond.selects RX6 yX6_keepChange yX6_keepChange, Cond.code yX6_keepChange cX6_keepChange 2 (some .int), Cond.methodLink RL 17 yX6_append, Cond.instanceMethod yX6_append, Cond.selects RX6 yX6_append yX6_append, Cond.code yX6_append cX6_append 2 (some .int), Cond.fieldLink RX6 176 "TrousseauFlow$OrderText" "length" "I"]
def wsL_law_r7 : List Cond := [Cond.methodLink RX6 179 yX3_addSign, Cond.instanceMethod yX3_addSign, Cond.selects RX3 yX3_addSign yX3_addSign, Cond.code yX3_addSign cX3_addSign 2 none, Cond.fieldLink RX3 22 "TrousseauFlow$OrderText" "length" "I", Cond.methodLink RL 87 yX6_account, Cond.instanceMethod yX6_account, Cond.selects RX6 yX6_account yX6_account, Cond.code yX6_account cX6_account 2 (some .int), Cond.fieldLink RX6 170 "TrousseauFlow$Plan" "count" "I", Cond.fieldLink RX6 126 "TrousseauFlow$Plan" "milestoneCount" "I", Cond.fieldLink RX6 232 "TrousseauFlow$Plan" "cancelled" "I", Cond.fieldLink RX6 235 "TrousseauFlow$Plan" "triesBegun" "I", Cond.fieldLink RX6 238 "TrousseauFlow$Plan" "triesWrong" "I", Cond.fieldLink RX6 241 "TrousseauFlow$Plan" "doneSoFar" "I", Cond.fieldLink RX6 244 "TrousseauFlow$Plan" "undoneSoFar" "I", Cond.methodLink RX6 146 yX4_countOf, Cond.instanceMethod yX4_countOf, Cond.selects RX4 yX4_countOf yX4_countOf, Cond.code yX4_countOf cX4_countOf 2 (some .int), Cond.methodLink RX4 96 yX4_setOf, Cond.instanceMethod yX4_setOf, Cond.selects RX4 yX4_setOf yX4_setOf, Cond.code yX4_setOf cX4_setOf 4 (some .int)]
def wsL_law_r8 : List Cond := [Cond.fieldLink RX4 84 "TrousseauFlow$Step" "how" "I", Cond.methodLink RX4 100 yJ6_bitCount_0f7a4, Cond.static yJ6_bitCount_0f7a4, Cond.initialized RJ6, Cond.code yJ6_bitCount_0f7a4 cJ6_bitCount_0f7a4 1 (some .int), Cond.constant RJ6 265 (1431655765), Cond.constant RJ6 266 (858993459), Cond.constant RJ6 267 (252645135), Cond.methodLink RL 23 yX6_run, Cond.instanceMethod yX6_run, Cond.selects RX6 yX6_run yX6_run, Cond.code yX6_run cX6_run 3 (some .int), Cond.fieldLink RX6 187 "TrousseauFlow$OrderText" "orderCount" "I", Cond.fieldLink RX6 190 "TrousseauFlow$OrderText" "orders" "[LTrousseauFlow$Order;", Cond.methodLink RX6 183 yX3_readOrders, Cond.instanceMethod yX3_readOrders, Cond.selects RX3 yX3_readOrders yX3_readOrders, Cond.code yX3_readOrders cX3_readOrders 2 (some .int), Cond.fieldLink RX3 26 "TrousseauFlow$OrderText" "at" "I", Cond.fieldLink RX3 29 "TrousseauFlow$OrderText" "orderCount" "I", Cond.methodLink RX3 32 yX3_readOrder, Cond.instanceMethod yX3_readOrder, Cond.selects RX3 yX3_readOrder yX3_readOrder, Cond.code yX3_readOrder cX3_readOrder 2 (some .boolean)]
def wsL_law_r9 : List Cond := [Cond.fieldLink RX3 40 "TrousseauFlow$Order" "kind" "C", Cond.methodLink RX3 44 yX3_readStep, Cond.instanceMethod yX3_readStep, Cond.selects RX3 yX3_readStep yX3_readStep, Cond.code yX3_readStep cX3_readStep 2 (some .boolean), Cond.fieldLink RX3 73 "TrousseauFlow$Order" "second" "I", Cond.fieldLink RX3 76 "TrousseauFlow$Order" "third" "I", Cond.fieldLink RX3 79 "TrousseauFlow$Order" "isAny" "Z", Cond.methodLink RX3 57 yX3_readOne, Cond.instanceMethod yX3_readOne, Cond.selects RX3 yX3_readOne yX3_readOne, Cond.code yX3_readOne cX3_readOne 4 (some .boolean), Cond.fieldLink RX3 87 "TrousseauFlow$Order" "first" "I", Cond.methodLink RX3 83 yX3_takeWord, Cond.instanceMethod yX3_takeWord, Cond.selects RX3 yX3_takeWord yX3_takeWord, Cond.code yX3_takeWord cX3_takeWord 3 (some .boolean), Cond.methodLink RX3 90 yJ0_length_8abf5, Cond.instanceMethod yJ0_length_8abf5, Cond.selects RJ0 yJ0_length_8abf5 yJ0_length_8abf5, Cond.initialized RJ0, Cond.code yJ0_length_8abf5 cJ0_length_8abf5 1 (some .int), Cond.fieldLink RJ0 9 "java/lang/String" "value" "[B", Cond.methodLink RJ0 335 yJ0_coder_7d493]
def wsL_law_r10 : List Cond := [Cond.instanceMethod yJ0_coder_7d493, Cond.selects RJ0 yJ0_coder_7d493 yJ0_coder_7d493, Cond.code yJ0_coder_7d493 cJ0_coder_7d493 1 (some .byte), Cond.fieldLink RJ0 38 "java/lang/String" "COMPACT_STRINGS" "Z", Cond.fieldLink RJ0 15 "java/lang/String" "coder" "B", Cond.methodLink RX3 95 yJ0_charAt_5068e, Cond.instanceMethod yJ0_charAt_5068e, Cond.selects RJ0 yJ0_charAt_5068e yJ0_charAt_5068e, Cond.code yJ0_charAt_5068e cJ0_charAt_5068e 2 (some .char), Cond.methodLink RJ0 492 yJ0_isLatin1_aae02, Cond.instanceMethod yJ0_isLatin1_aae02, Cond.selects RJ0 yJ0_isLatin1_aae02 yJ0_isLatin1_aae02, Cond.code yJ0_isLatin1_aae02 cJ0_isLatin1_aae02 1 (some .boolean), Cond.methodLink RJ0 495 yJ1_charAt_3b067, Cond.static yJ1_charAt_3b067, Cond.initialized RJ1, Cond.code yJ1_charAt_3b067 cJ1_charAt_3b067 2 (some .char), Cond.methodLink RJ1 9 yJ0_checkIndex_df160, Cond.static yJ0_checkIndex_df160, Cond.code yJ0_checkIndex_df160 cJ0_checkIndex_df160 2 none, Cond.fieldLink RJ0 1053 "jdk/internal/util/Preconditions" "SIOOBE_FORMATTER" "Ljava/util/function/BiFunction;", Cond.methodLink RJ0 1059 yJ3_checkIndex_8e157, Cond.static yJ3_checkIndex_8e157, Cond.initialized RJ3]
def wsL_law_r11 : List Cond := [Cond.code yJ3_checkIndex_8e157 cJ3_checkIndex_8e157 3 (some .int), Cond.methodLink RJ0 498 yJ2_charAt_3b067, Cond.static yJ2_charAt_3b067, Cond.initialized RJ2, Cond.code yJ2_charAt_3b067 cJ2_charAt_3b067 2 (some .char), Cond.methodLink RJ2 67 yJ2_checkIndex_2214a, Cond.static yJ2_checkIndex_2214a, Cond.code yJ2_checkIndex_2214a cJ2_checkIndex_2214a 2 none, Cond.methodLink RJ2 48 yJ2_length_9d52b, Cond.static yJ2_length_9d52b, Cond.code yJ2_length_9d52b cJ2_length_9d52b 1 (some .int), Cond.methodLink RJ2 414 yJ0_checkIndex_df160, Cond.methodLink RJ2 71 yJ2_getChar_3b067, Cond.static yJ2_getChar_3b067, Cond.code yJ2_getChar_3b067 cJ2_getChar_3b067 2 (some .char), Cond.fieldLink RJ2 44 "java/lang/StringUTF16" "$assertionsDisabled" "Z", Cond.fieldLink RJ2 59 "java/lang/StringUTF16" "HI_BYTE_SHIFT" "I", Cond.fieldLink RJ2 63 "java/lang/StringUTF16" "LO_BYTE_SHIFT" "I", Cond.methodLink RX3 36 yX3_takeSign, Cond.instanceMethod yX3_takeSign, Cond.selects RX3 yX3_takeSign yX3_takeSign, Cond.code yX3_takeSign cX3_takeSign 2 (some .boolean), Cond.methodLink RX3 69 yX3_takeNumber, Cond.instanceMethod yX3_takeNumber]
def wsL_law_r12 : List Cond := [Cond.selects RX3 yX3_takeNumber yX3_takeNumber, Cond.code yX3_takeNumber cX3_takeNumber 4 (some .int), Cond.methodLink RX3 99 Lib.Math.max.name, Cond.static Lib.Math.max.name, Cond.code Lib.Math.max.name Lib.Math.max.code 2 (some .int), Cond.methodLink RX3 49 yX3_readPair, Cond.instanceMethod yX3_readPair, Cond.selects RX3 yX3_readPair yX3_readPair, Cond.code yX3_readPair cX3_readPair 5 (some .boolean), Cond.methodLink RX6 194 yX6_carryOut, Cond.instanceMethod yX6_carryOut, Cond.selects RX6 yX6_carryOut yX6_carryOut, Cond.code yX6_carryOut cX6_carryOut 2 (some .int), Cond.fieldLink RX6 281 "TrousseauFlow$Order" "kind" "C", Cond.fieldLink RX6 287 "TrousseauFlow$Order" "first" "I", Cond.fieldLink RX6 290 "TrousseauFlow$Order" "second" "I", Cond.fieldLink RX6 293 "TrousseauFlow$Order" "third" "I", Cond.fieldLink RX6 296 "TrousseauFlow$Order" "isAny" "Z", Cond.methodLink RX6 50 yX6_tellStep, Cond.instanceMethod yX6_tellStep, Cond.selects RX6 yX6_tellStep yX6_tellStep, Cond.code yX6_tellStep cX6_tellStep 5 (some .int), Cond.methodLink RX6 201 yX6_refuse, Cond.instanceMethod yX6_refuse]
def wsL_law_r13 : List Cond := [Cond.selects RX6 yX6_refuse yX6_refuse, Cond.code yX6_refuse cX6_refuse 3 (some .int), Cond.fieldLink RX6 217 "TrousseauFlow" "wasRefused" "Z", Cond.fieldLink RX6 223 "TrousseauFlow" "lastReason" "I", Cond.fieldLink RX6 220 "TrousseauFlow" "lastDetail" "I", Cond.methodLink RX6 257 yX4_addStep, Cond.instanceMethod yX4_addStep, Cond.selects RX4 yX4_addStep yX4_addStep, Cond.code yX4_addStep cX4_addStep 6 (some .int), Cond.methodLink RX4 69 yX5_tellAnew, Cond.instanceMethod yX5_tellAnew, Cond.selects RX5 yX5_tellAnew yX5_tellAnew, Cond.code yX5_tellAnew cX5_tellAnew 5 none, Cond.methodLink RX4 73 yX4_isCancelled, Cond.instanceMethod yX4_isCancelled, Cond.selects RX4 yX4_isCancelled yX4_isCancelled, Cond.code yX4_isCancelled cX4_isCancelled 2 (some .boolean), Cond.methodLink RX4 77 yX4_turn, Cond.instanceMethod yX4_turn, Cond.selects RX4 yX4_turn yX4_turn, Cond.code yX4_turn cX4_turn 5 none, Cond.fieldLink RX4 132 "TrousseauFlow$Step" "toGo" "I", Cond.methodLink RX6 58 yX6_tellNeed, Cond.instanceMethod yX6_tellNeed]
def wsL_law_r14 : List Cond := [Cond.selects RX6 yX6_tellNeed yX6_tellNeed, Cond.code yX6_tellNeed cX6_tellNeed 4 (some .int), Cond.fieldLink RX6 81 "TrousseauFlow$Plan" "steps" "[LTrousseauFlow$Step;", Cond.fieldLink RX6 101 "TrousseauFlow$Step" "how" "I", Cond.fieldLink RX6 116 "TrousseauFlow$Step" "needs" "I", Cond.methodLink RX6 77 yX4_hasStep, Cond.instanceMethod yX4_hasStep, Cond.selects RX4 yX4_hasStep yX4_hasStep, Cond.code yX4_hasStep cX4_hasStep 2 (some .boolean), Cond.methodLink RX6 260 yX4_needsOverAll, Cond.instanceMethod yX4_needsOverAll, Cond.selects RX4 yX4_needsOverAll yX4_needsOverAll, Cond.code yX4_needsOverAll cX4_needsOverAll 7 (some .boolean), Cond.fieldLink RX4 109 "TrousseauFlow$Step" "needs" "I", Cond.methodLink RX6 263 yJ6_bitCount_0f7a4, Cond.methodLink RX6 62 yX6_tellFault, Cond.instanceMethod yX6_tellFault, Cond.selects RX6 yX6_tellFault yX6_tellFault, Cond.code yX6_tellFault cX6_tellFault 4 (some .int), Cond.fieldLink RX6 110 "TrousseauFlow$Step" "wrongNext" "I", Cond.methodLink RX6 268 yX5_isOpen, Cond.instanceMethod yX5_isOpen, Cond.selects RX5 yX5_isOpen yX5_isOpen, Cond.code yX5_isOpen cX5_isOpen 1 (some .boolean)]
def wsL_law_r15 : List Cond := [Cond.methodLink RX6 68 yX6_tellCancel, Cond.instanceMethod yX6_tellCancel, Cond.selects RX6 yX6_tellCancel yX6_tellCancel, Cond.code yX6_tellCancel cX6_tellCancel 2 (some .int), Cond.methodLink RX6 272 yX4_isCancelled, Cond.methodLink RX6 275 yX4_cancelBranch, Cond.instanceMethod yX4_cancelBranch, Cond.selects RX4 yX4_cancelBranch yX4_cancelBranch, Cond.code yX4_cancelBranch cX4_cancelBranch 5 (some .int), Cond.fieldLink RX4 129 "TrousseauFlow$Step" "branch" "I", Cond.fieldLink RX4 126 "TrousseauFlow$Step" "days" "I", Cond.methodLink RX4 116 yX5_isOpen, Cond.methodLink RX6 71 yX6_tellMilestone, Cond.instanceMethod yX6_tellMilestone, Cond.selects RX6 yX6_tellMilestone yX6_tellMilestone, Cond.code yX6_tellMilestone cX6_tellMilestone 4 (some .int), Cond.fieldLink RX6 133 "TrousseauFlow$Step" "dueDay" "I", Cond.methodLink RX6 278 yX4_addMilestone, Cond.instanceMethod yX4_addMilestone, Cond.selects RX4 yX4_addMilestone yX4_addMilestone, Cond.code yX4_addMilestone cX4_addMilestone 4 (some .int), Cond.fieldLink RX4 81 "TrousseauFlow$Step" "dueDay" "I", Cond.methodLink RX6 74 yX6_letDaysGo, Cond.instanceMethod yX6_letDaysGo]
def wsL_law_r16 : List Cond := [Cond.selects RX6 yX6_letDaysGo yX6_letDaysGo, Cond.code yX6_letDaysGo cX6_letDaysGo 4 (some .int), Cond.methodLink RX6 143 yX4_passDay, Cond.instanceMethod yX4_passDay, Cond.selects RX4 yX4_passDay yX4_passDay, Cond.code yX4_passDay cX4_passDay 2 none, Cond.methodLink RX4 135 yX4_workOn, Cond.instanceMethod yX4_workOn, Cond.selects RX4 yX4_workOn yX4_workOn, Cond.code yX4_workOn cX4_workOn 3 none, Cond.fieldLink RX4 148 "TrousseauFlow$Step" "wrongNext" "I", Cond.fieldLink RX4 87 "TrousseauFlow$Step" "doneDay" "I", Cond.fieldLink RX4 123 "TrousseauFlow$Step" "begun" "I", Cond.fieldLink RX4 151 "TrousseauFlow$Step" "more" "I", Cond.methodLink RX4 154 yX4_cancelBranch, Cond.methodLink RX4 139 yX4_undoInBranch, Cond.instanceMethod yX4_undoInBranch, Cond.selects RX4 yX4_undoInBranch yX4_undoInBranch, Cond.code yX4_undoInBranch cX4_undoInBranch 4 none, Cond.methodLink RX4 157 yX4_firstToUndo, Cond.instanceMethod yX4_firstToUndo, Cond.selects RX4 yX4_firstToUndo yX4_firstToUndo, Cond.code yX4_firstToUndo cX4_firstToUndo 6 (some .int), Cond.methodLink RX4 142 yX4_leaveOutHopeless]
def wsL_law_r17 : List Cond := [Cond.instanceMethod yX4_leaveOutHopeless, Cond.selects RX4 yX4_leaveOutHopeless yX4_leaveOutHopeless, Cond.code yX4_leaveOutHopeless cX4_leaveOutHopeless 4 none, Cond.methodLink RX4 160 yX4_setOfOff, Cond.instanceMethod yX4_setOfOff, Cond.selects RX4 yX4_setOfOff yX4_setOfOff, Cond.code yX4_setOfOff cX4_setOfOff 3 (some .int), Cond.methodLink RX4 105 yX5_isOff, Cond.instanceMethod yX5_isOff, Cond.selects RX5 yX5_isOff yX5_isOff, Cond.code yX5_isOff cX5_isOff 1 (some .boolean), Cond.methodLink RX4 164 yX4_lowestHopeless, Cond.instanceMethod yX4_lowestHopeless, Cond.selects RX4 yX4_lowestHopeless yX4_lowestHopeless, Cond.code yX4_lowestHopeless cX4_lowestHopeless 3 (some .int), Cond.methodLink RX4 167 yX4_isHopeless, Cond.instanceMethod yX4_isHopeless, Cond.selects RX4 yX4_isHopeless yX4_isHopeless, Cond.code yX4_isHopeless cX4_isHopeless 4 (some .boolean), Cond.fieldLink RX4 112 "TrousseauFlow$Step" "isAny" "Z", Cond.methodLink RX4 145 yX4_beginTries, Cond.instanceMethod yX4_beginTries, Cond.selects RX4 yX4_beginTries yX4_beginTries, Cond.code yX4_beginTries cX4_beginTries 5 none]
def wsL_law_r18 : List Cond := [Cond.methodLink RX4 170 yX4_countOf, Cond.methodLink RX4 173 yX4_firstToBegin, Cond.instanceMethod yX4_firstToBegin, Cond.selects RX4 yX4_firstToBegin yX4_firstToBegin, Cond.code yX4_firstToBegin cX4_firstToBegin 6 (some .int), Cond.methodLink RX4 176 yX4_isReady, Cond.instanceMethod yX4_isReady, Cond.selects RX4 yX4_isReady yX4_isReady, Cond.code yX4_isReady cX4_isReady 4 (some .boolean), Cond.methodLink RL 43 yX6_step, Cond.instanceMethod yX6_step, Cond.selects RX6 yX6_step yX6_step, Cond.code yX6_step cX6_step 5 (some .int), Cond.methodLink RL 159 yL_is, Cond.static yL_is, Cond.initialized RL, Cond.code yL_is cL_is 3 (some .boolean), Cond.methodLink RL 26 yX6_reason, Cond.instanceMethod yX6_reason, Cond.selects RX6 yX6_reason yX6_reason, Cond.code yX6_reason cX6_reason 2 (some .int), Cond.methodLink RL 47 yX6_need, Cond.instanceMethod yX6_need, Cond.selects RX6 yX6_need yX6_need]
def wsL_law_r19 : List Cond := [Cond.code yX6_need cX6_need 3 (some .int), Cond.methodLink RL 53 yX6_milestone, Cond.instanceMethod yX6_milestone, Cond.selects RX6 yX6_milestone yX6_milestone, Cond.code yX6_milestone cX6_milestone 3 (some .int), Cond.methodLink RL 99 yX6_chain, Cond.instanceMethod yX6_chain, Cond.selects RX6 yX6_chain yX6_chain, Cond.code yX6_chain cX6_chain 2 (some .int), Cond.fieldLink RX6 152 "TrousseauFlow$Chains" "byNeeds" "[I", Cond.methodLink RX6 149 yX0_measureByNeeds, Cond.instanceMethod yX0_measureByNeeds, Cond.selects RX0 yX0_measureByNeeds yX0_measureByNeeds, Cond.code yX0_measureByNeeds cX0_measureByNeeds 3 none, Cond.fieldLink RX0 18 "TrousseauFlow$Plan" "count" "I", Cond.methodLink RX0 24 yX0_longest, Cond.static yX0_longest, Cond.code yX0_longest cX0_longest 7 (some .int), Cond.fieldLink RX0 28 "TrousseauFlow$Plan" "steps" "[LTrousseauFlow$Step;", Cond.fieldLink RX0 32 "TrousseauFlow$Step" "needs" "I", Cond.methodLink RX0 37 Lib.Math.max.name, Cond.fieldLink RX0 43 "TrousseauFlow$Step" "days" "I", Cond.methodLink RL 102 yX6_chainAgain, Cond.instanceMethod yX6_chainAgain]
def wsL_law_r20 : List Cond := [Cond.selects RX6 yX6_chainAgain yX6_chainAgain, Cond.code yX6_chainAgain cX6_chainAgain 2 (some .int), Cond.fieldLink RX6 158 "TrousseauFlow$Chains" "byRounds" "[I", Cond.methodLink RX6 155 yX0_measureByRounds, Cond.instanceMethod yX0_measureByRounds, Cond.selects RX0 yX0_measureByRounds yX0_measureByRounds, Cond.code yX0_measureByRounds cX0_measureByRounds 5 none, Cond.methodLink RX0 46 yX0_lengthen, Cond.instanceMethod yX0_lengthen, Cond.selects RX0 yX0_lengthen yX0_lengthen, Cond.code yX0_lengthen cX0_lengthen 6 (some .boolean), Cond.methodLink RL 96 yX6_doneIn, Cond.instanceMethod yX6_doneIn, Cond.selects RX6 yX6_doneIn yX6_doneIn, Cond.code yX6_doneIn cX6_doneIn 3 (some .int), Cond.methodLink RL 59 yX6_days, Cond.instanceMethod yX6_days, Cond.selects RX6 yX6_days yX6_days, Cond.code yX6_days cX6_days 2 (some .int), Cond.methodLink RL 90 yX6_stepOf, Cond.instanceMethod yX6_stepOf, Cond.selects RX6 yX6_stepOf yX6_stepOf, Cond.code yX6_stepOf cX6_stepOf 4 (some .int), Cond.fieldLink RX6 85 "TrousseauFlow$Step" "days" "I"]
def wsL_law_r21 : List Cond := [Cond.fieldLink RX6 91 "TrousseauFlow$Step" "more" "I", Cond.fieldLink RX6 94 "TrousseauFlow$Step" "branch" "I", Cond.fieldLink RX6 97 "TrousseauFlow$Step" "isAny" "Z", Cond.fieldLink RX6 104 "TrousseauFlow$Step" "toGo" "I", Cond.fieldLink RX6 107 "TrousseauFlow$Step" "begun" "I", Cond.fieldLink RX6 113 "TrousseauFlow$Step" "doneDay" "I", Cond.methodLink RL 183 yL_makes, Cond.static yL_makes, Cond.code yL_makes cL_makes 6 (some .boolean), Cond.methodLink RL 33 yL_at, Cond.static yL_at, Cond.code yL_at cL_at 2 (some .int), Cond.methodLink RL 39 yL_some, Cond.static yL_some, Cond.code yL_some cL_some 3 (some .int), Cond.methodLink RL 50 yX6_fault, Cond.instanceMethod yX6_fault, Cond.selects RX6 yX6_fault yX6_fault, Cond.code yX6_fault cX6_fault 3 (some .int), Cond.methodLink RL 155 yL_asks, Cond.static yL_asks, Cond.code yL_asks cL_asks 6 (some .long), Cond.constantLong RL 62 (31), Cond.methodLink RL 64 yX6_meanDays]
def wsL_law_r22 : List Cond := [Cond.instanceMethod yX6_meanDays, Cond.selects RX6 yX6_meanDays yX6_meanDays, Cond.code yX6_meanDays cX6_meanDays 3 (some .double), Cond.methodLink RL 68 yJxe99ae_doubleToLongBits_ccdee, Cond.static yJxe99ae_doubleToLongBits_ccdee, Cond.initialized RJxe99ae, Cond.code yJxe99ae_doubleToLongBits_ccdee cJxe99ae_doubleToLongBits_ccdee 2 (some .long), Cond.methodLink RJxe99ae 134 ⟨"java/lang/Double", "doubleToRawLongBits", "(D)J"⟩, Cond.native ⟨"java/lang/Double", "doubleToRawLongBits", "(D)J"⟩, Cond.static ⟨"java/lang/Double", "doubleToRawLongBits", "(D)J"⟩, Cond.initialized "java/lang/Double", Cond.constantLong RJxe99ae 137 (9221120237041090560), Cond.methodLink RJxe99ae 122 yJxe99ae_isNaN_b9ae7, Cond.static yJxe99ae_isNaN_b9ae7, Cond.code yJxe99ae_isNaN_b9ae7 cJxe99ae_isNaN_b9ae7 2 (some .boolean), Cond.methodLink RL 74 yX6_wrongShare, Cond.instanceMethod yX6_wrongShare, Cond.selects RX6 yX6_wrongShare yX6_wrongShare, Cond.code yX6_wrongShare cX6_wrongShare 1 (some .float), Cond.methodLink RL 78 yJxf58ca_floatToIntBits_5c35a, Cond.static yJxf58ca_floatToIntBits_5c35a, Cond.initialized RJxf58ca, Cond.code yJxf58ca_floatToIntBits_5c35a cJxf58ca_floatToIntBits_5c35a 1 (some .int), Cond.methodLink RJxf58ca 74 ⟨"java/lang/Float", "floatToRawIntBits", "(F)I"⟩]
def wsL_law_r23 : List Cond := [Cond.native ⟨"java/lang/Float", "floatToRawIntBits", "(F)I"⟩, Cond.static ⟨"java/lang/Float", "floatToRawIntBits", "(F)I"⟩, Cond.initialized "java/lang/Float", Cond.constant RJxf58ca 77 (2143289344), Cond.methodLink RJxf58ca 59 yJxf58ca_isNaN_12338, Cond.static yJxf58ca_isNaN_12338, Cond.code yJxf58ca_isNaN_12338 cJxf58ca_isNaN_12338 1 (some .boolean), Cond.methodLink RL 84 yX6_isBalanced, Cond.instanceMethod yX6_isBalanced, Cond.selects RX6 yX6_isBalanced yX6_isBalanced, Cond.code yX6_isBalanced cX6_isBalanced 3 (some .int), Cond.methodLink RL 93 yX6_ready, Cond.instanceMethod yX6_ready, Cond.selects RX6 yX6_ready yX6_ready, Cond.code yX6_ready cX6_ready 2 (some .int), Cond.methodLink RX6 119 yX4_setOf, Cond.methodLink RX6 122 yX4_isReady, Cond.methodLink RL 105 yX6_ranked, Cond.instanceMethod yX6_ranked, Cond.selects RX6 yX6_ranked yX6_ranked, Cond.code yX6_ranked cX6_ranked 3 (some .int), Cond.methodLink RX6 173 yX4_stepsAheadOf, Cond.instanceMethod yX4_stepsAheadOf, Cond.selects RX4 yX4_stepsAheadOf yX4_stepsAheadOf]
def wsL_law_r24 : List Cond := [Cond.code yX4_stepsAheadOf cX4_stepsAheadOf 4 (some .int), Cond.methodLink RX4 119 yX4_isRankedAhead, Cond.instanceMethod yX4_isRankedAhead, Cond.selects RX4 yX4_isRankedAhead yX4_isRankedAhead, Cond.code yX4_isRankedAhead cX4_isRankedAhead 5 (some .boolean), Cond.methodLink RL 108 yX6_tell, Cond.instanceMethod yX6_tell, Cond.selects RX6 yX6_tell yX6_tell, Cond.code yX6_tell cX6_tell 2 (some .int), Cond.fieldLink RX6 204 "TrousseauFlow$Line" "length" "I", Cond.methodLink RX6 205 yX1_putStep, Cond.instanceMethod yX1_putStep, Cond.selects RX1 yX1_putStep yX1_putStep, Cond.code yX1_putStep cX1_putStep 4 none, Cond.fieldLink RX1 23 "TrousseauFlow$Step" "days" "I", Cond.fieldLink RX1 29 "TrousseauFlow$Step" "more" "I", Cond.fieldLink RX1 32 "TrousseauFlow$Step" "isAny" "Z", Cond.fieldLink RX1 36 "TrousseauFlow$Step" "branch" "I", Cond.fieldLink RX1 39 "TrousseauFlow$Step" "needs" "I", Cond.methodLink RX1 15 yX1_putNumber, Cond.instanceMethod yX1_putNumber, Cond.selects RX1 yX1_putNumber yX1_putNumber, Cond.code yX1_putNumber cX1_putNumber 2 none, Cond.methodLink RX1 19 yX1_putSign]
def wsL_law_r25 : List Cond := [Cond.instanceMethod yX1_putSign, Cond.selects RX1 yX1_putSign yX1_putSign, Cond.code yX1_putSign cX1_putSign 2 none, Cond.fieldLink RX1 54 "TrousseauFlow$Line" "length" "I", Cond.methodLink RL 30 yX6_character, Cond.instanceMethod yX6_character, Cond.selects RX6 yX6_character yX6_character, Cond.code yX6_character cX6_character 2 (some .int), Cond.fieldLink RX6 213 "TrousseauFlow$Line" "signs" "[C", Cond.methodLink RL 111 yX6_milestoneOf, Cond.instanceMethod yX6_milestoneOf, Cond.selects RX6 yX6_milestoneOf yX6_milestoneOf, Cond.code yX6_milestoneOf cX6_milestoneOf 4 (some .int), Cond.fieldLink RX6 129 "TrousseauFlow$Plan" "milestones" "[I", Cond.methodLink RX6 136 yX4_lateBy, Cond.instanceMethod yX4_lateBy, Cond.selects RX4 yX4_lateBy yX4_lateBy, Cond.code yX4_lateBy cX4_lateBy 4 (some .int), Cond.methodLink RX4 90 Lib.Math.max.name, Cond.methodLink RL 114 yX6_logged, Cond.instanceMethod yX6_logged, Cond.selects RX6 yX6_logged yX6_logged, Cond.code yX6_logged cX6_logged 4 (some .int), Cond.fieldLink RX6 161 "TrousseauFlow$Plan" "eventCount" "I"]
def wsL_law_r26 : List Cond := [Cond.fieldLink RX6 164 "TrousseauFlow$Plan" "nextEvent" "I", Cond.fieldLink RX6 167 "TrousseauFlow$Plan" "events" "[I", Cond.methodLink RL 117 yX6_tellAll, Cond.instanceMethod yX6_tellAll, Cond.selects RX6 yX6_tellAll yX6_tellAll, Cond.code yX6_tellAll cX6_tellAll 2 (some .int), Cond.methodLink RX6 209 yX1_putLetterOf, Cond.instanceMethod yX1_putLetterOf, Cond.selects RX1 yX1_putLetterOf yX1_putLetterOf, Cond.code yX1_putLetterOf cX1_putLetterOf 2 none, Cond.methodLink RX1 44 yJ0_length_8abf5, Cond.methodLink RX1 50 yJ0_charAt_5068e, Cond.methodLink RL 120 yX6_late, Cond.instanceMethod yX6_late, Cond.selects RX6 yX6_late yX6_late, Cond.code yX6_late cX6_late 3 (some .int), Cond.methodLink RL 187 yL_refused, Cond.static yL_refused, Cond.code yL_refused cL_refused 7 (some .boolean), Cond.methodLink RL 123 yX6_cancel, Cond.instanceMethod yX6_cancel, Cond.selects RX6 yX6_cancel yX6_cancel, Cond.code yX6_cancel cX6_cancel 2 (some .int), Cond.methodLink RL 151 yL_reads]
def wsL_law_r27 : List Cond := [Cond.static yL_reads, Cond.code yL_reads cL_reads 3 (some .int), Cond.methodLink RL 7 yJ0_length_8abf5, Cond.methodLink RL 13 yJ0_charAt_5068e, Cond.methodLink RL 169 yL_refusedAt, Cond.static yL_refusedAt, Cond.code yL_refusedAt cL_refusedAt 2 (some .boolean), Cond.methodLink RL 191 yL_changes, Cond.static yL_changes, Cond.code yL_changes cL_changes 4 (some .boolean), Cond.classLink RL 126 RJ4, Cond.instantiable RJ4 4, Cond.initialized RJ4, Cond.methodLink RL 128 yJ4_init_da8c8, Cond.instanceMethod yJ4_init_da8c8, Cond.code yJ4_init_da8c8 cJ4_init_da8c8 1 none, Cond.methodLink RJ4 1 yJ5_init_d00df, Cond.instanceMethod yJ5_init_d00df, Cond.initialized RJ5, Cond.code yJ5_init_d00df cJ5_init_d00df 2 none, Cond.methodLink RJ5 3 objectInit, Cond.fieldLink RJ5 18 "java/lang/String" "COMPACT_STRINGS" "Z", Cond.arrayClass .byte, Cond.fieldLink RJ5 15 "java/lang/AbstractStringBuilder" "value" "[B"]
def wsL_law_r28 : List Cond := [Cond.fieldLink RJ5 22 "java/lang/AbstractStringBuilder" "coder" "B", Cond.methodLink RJ5 26 yJ2_newBytesFor_77867, Cond.static yJ2_newBytesFor_77867, Cond.code yJ2_newBytesFor_77867 cJ2_newBytesFor_77867 1 (some (.array .byte)), Cond.methodLink RJ2 11 yJ2_newBytesLength_0f7a4, Cond.static yJ2_newBytesLength_0f7a4, Cond.code yJ2_newBytesLength_0f7a4 cJ2_newBytesLength_0f7a4 1 (some .int), Cond.constant RJ2 20 (1073741823), Cond.methodLink RL 131 yJ4_append_15ec4, Cond.instanceMethod yJ4_append_15ec4, Cond.selects RJ4 yJ4_append_15ec4 yJ4_append_15ec4, Cond.code yJ4_append_15ec4 cJ4_append_15ec4 2 (some (.object "java/lang/StringBuilder")), Cond.methodLink RJ4 29 yJ5_append_cf1ce, Cond.sameMethod "java/lang/AbstractStringBuilder" "java/lang/AbstractStringBuilder" "append" "(Ljava/lang/String;)Ljava/lang/AbstractStringBuilder;", Cond.superclass RJ4 RJ5, Cond.instanceMethod yJ5_append_cf1ce, Cond.code yJ5_append_cf1ce cJ5_append_cf1ce 3 (some (.object "java/lang/AbstractStringBuilder")), Cond.fieldLink RJ5 79 "java/lang/AbstractStringBuilder" "count" "I", Cond.methodLink RJ5 204 ⟨"java/lang/AbstractStringBuilder", "appendNull", "()Ljava/lang/AbstractStringBuilder;"⟩, Cond.sameMethod "java/lang/AbstractStringBuilder" "java/lang/AbstractStringBuilder" "appendNull" "()Ljava/lang/AbstractStringBuilder;", Cond.instanceMethod yJ5_appendNull_278bc, Cond.code yJ5_appendNull_278bc cJ5_appendNull_278bc 3 (some (.object "java/lang/AbstractStringBuilder")), Cond.methodLink RJ5 100 ⟨"java/lang/AbstractStringBuilder", "ensureCapacityInternal", "(I)V"⟩]
def wsL_law_r29 : List Cond := [Cond.sameMethod "java/lang/AbstractStringBuilder" "java/lang/AbstractStringBuilder" "ensureCapacityInternal" "(I)V", Cond.instanceMethod yJ5_ensureCapacityInternal_d00df, Cond.code yJ5_ensureCapacityInternal_d00df cJ5_ensureCapacityInternal_d00df 3 none, Cond.methodLink RJ5 104 ⟨"java/lang/AbstractStringBuilder", "newCapacity", "(I)I"⟩, Cond.sameMethod "java/lang/AbstractStringBuilder" "java/lang/AbstractStringBuilder" "newCapacity" "(I)I", Cond.instanceMethod yJ5_newCapacity_0f7a4, Cond.code yJ5_newCapacity_0f7a4 cJ5_newCapacity_0f7a4 6 (some .int), Cond.constant RJ5 39 (2147483647), Cond.methodLink RJ5 114 yJ8_newLength_cabcc, Cond.static yJ8_newLength_cabcc, Cond.initialized RJ8, Cond.code yJ8_newLength_cabcc cJ8_newLength_cabcc 4 (some .int), Cond.methodLink RJ8 194 Lib.Math.max.name, Cond.constant RJ8 200 (2147483639), Cond.methodLink RJ8 201 yJ8_hugeLength_7cf53, Cond.static yJ8_hugeLength_7cf53, Cond.code yJ8_hugeLength_7cf53 cJ8_hugeLength_7cf53 3 (some .int), Cond.methodLink RJ5 108 yJ7_copyOf_9075b, Cond.static yJ7_copyOf_9075b, Cond.initialized RJ7, Cond.code yJ7_copyOf_9075b cJ7_copyOf_9075b 3 (some (.array .byte)), Cond.methodLink RJ7 310 ⟨"[B", "clone", "()Ljava/lang/Object;"⟩]
def wsL_law_r30 : List Cond := [Cond.sameMethod "[B" "java/lang/Object" "clone" "()Ljava/lang/Object;", Cond.native ⟨"java/lang/Object", "clone", "()Ljava/lang/Object;"⟩, Cond.instanceMethod ⟨"java/lang/Object", "clone", "()Ljava/lang/Object;"⟩, Cond.selects "[B" ⟨"[B", "clone", "()Ljava/lang/Object;"⟩ ⟨"java/lang/Object", "clone", "()Ljava/lang/Object;"⟩, Cond.classLink RJ7 311 "[B", Cond.methodLink RJ7 304 Lib.Math.min.name, Cond.methodLink RJ7 150 arraycopyName, Cond.methodLink RJ5 83 ⟨"java/lang/AbstractStringBuilder", "isLatin1", "()Z"⟩, Cond.sameMethod "java/lang/AbstractStringBuilder" "java/lang/AbstractStringBuilder" "isLatin1" "()Z", Cond.selects RJ4 ⟨"java/lang/AbstractStringBuilder", "isLatin1", "()Z"⟩ yJ5_isLatin1_aae02, Cond.instanceMethod yJ5_isLatin1_aae02, Cond.code yJ5_isLatin1_aae02 cJ5_isLatin1_aae02 1 (some .boolean), Cond.methodLink RJ5 226 yJ2_putCharsAt_cd4e5, Cond.static yJ2_putCharsAt_cd4e5, Cond.code yJ2_putCharsAt_cd4e5 cJ2_putCharsAt_cd4e5 7 (some .int), Cond.methodLink RJ2 96 yJ2_checkBoundsBeginEnd_d044e, Cond.static yJ2_checkBoundsBeginEnd_d044e, Cond.code yJ2_checkBoundsBeginEnd_d044e cJ2_checkBoundsBeginEnd_d044e 3 none, Cond.methodLink RJ2 241 yJ0_checkBoundsBeginEnd_23922, Cond.static yJ0_checkBoundsBeginEnd_23922, Cond.code yJ0_checkBoundsBeginEnd_23922 cJ0_checkBoundsBeginEnd_23922 3 none, Cond.methodLink RJ0 1062 yJ3_checkFromToIndex_8c36e, Cond.static yJ3_checkFromToIndex_8c36e, Cond.code yJ3_checkFromToIndex_8c36e cJ3_checkFromToIndex_8c36e 4 (some .int)]
def wsL_law_r31 : List Cond := [Cond.methodLink RJ2 111 yJ2_putChar_b72d1, Cond.static yJ2_putChar_b72d1, Cond.code yJ2_putChar_b72d1 cJ2_putChar_b72d1 3 none, Cond.methodLink RJ5 32 yJ0_length_8abf5, Cond.methodLink RJ5 208 ⟨"java/lang/AbstractStringBuilder", "putStringAt", "(ILjava/lang/String;)V"⟩, Cond.sameMethod "java/lang/AbstractStringBuilder" "java/lang/AbstractStringBuilder" "putStringAt" "(ILjava/lang/String;)V", Cond.instanceMethod yJ5_putStringAt_47b60, Cond.code yJ5_putStringAt_47b60 cJ5_putStringAt_47b60 3 none, Cond.methodLink RJ5 397 ⟨"java/lang/AbstractStringBuilder", "inflateIfNeededFor", "(Ljava/lang/String;)V"⟩, Cond.sameMethod "java/lang/AbstractStringBuilder" "java/lang/AbstractStringBuilder" "inflateIfNeededFor" "(Ljava/lang/String;)V", Cond.instanceMethod yJ5_inflateIfNeededFor_a7421, Cond.code yJ5_inflateIfNeededFor_a7421 cJ5_inflateIfNeededFor_a7421 2 none, Cond.methodLink RJ5 40 yJ0_coder_7d493, Cond.methodLink RJ5 195 ⟨"java/lang/AbstractStringBuilder", "inflate", "()V"⟩, Cond.sameMethod "java/lang/AbstractStringBuilder" "java/lang/AbstractStringBuilder" "inflate" "()V", Cond.instanceMethod yJ5_inflate_da8c8, Cond.code yJ5_inflate_da8c8 cJ5_inflate_da8c8 2 none, Cond.methodLink RJ5 125 yJ1_inflate_0e8fd, Cond.static yJ1_inflate_0e8fd, Cond.code yJ1_inflate_0e8fd cJ1_inflate_0e8fd 5 none, Cond.methodLink RJ1 240 yJ2_inflate_0e8fd]
def wsL_law_r32 : List Cond := [Cond.static yJ2_inflate_0e8fd, Cond.code yJ2_inflate_0e8fd cJ2_inflate_0e8fd 6 none, Cond.methodLink RJ2 173 yJ2_checkBoundsOffCount_d044e, Cond.static yJ2_checkBoundsOffCount_d044e, Cond.code yJ2_checkBoundsOffCount_d044e cJ2_checkBoundsOffCount_d044e 3 none, Cond.methodLink RJ2 419 yJ0_checkBoundsOffCount_cabcc, Cond.static yJ0_checkBoundsOffCount_cabcc, Cond.code yJ0_checkBoundsOffCount_cabcc cJ0_checkBoundsOffCount_cabcc 3 (some .int), Cond.methodLink RJ0 1065 yJ3_checkFromIndexSize_8c36e, Cond.static yJ3_checkFromIndexSize_8c36e, Cond.code yJ3_checkFromIndexSize_8c36e cJ3_checkFromIndexSize_8c36e 4 (some .int), Cond.methodLink RJ5 399 yJ0_getBytes_840e7, Cond.instanceMethod yJ0_getBytes_840e7, Cond.selects RJ0 yJ0_getBytes_840e7 yJ0_getBytes_840e7, Cond.code yJ0_getBytes_840e7 cJ0_getBytes_840e7 4 none, Cond.methodLink RJ0 212 arraycopyName, Cond.methodLink RJ0 106 yJ1_inflate_0e8fd, Cond.methodLink RL 134 yJ4_append_bf812, Cond.instanceMethod yJ4_append_bf812, Cond.selects RJ4 yJ4_append_bf812 yJ4_append_bf812, Cond.code yJ4_append_bf812 cJ4_append_bf812 2 (some (.object "java/lang/StringBuilder")), Cond.methodLink RJ4 53 yJ5_append_c97b9, Cond.sameMethod "java/lang/AbstractStringBuilder" "java/lang/AbstractStringBuilder" "append" "(I)Ljava/lang/AbstractStringBuilder;", Cond.instanceMethod yJ5_append_c97b9]
def wsL_law_r33 : List Cond := [Cond.code yJ5_append_c97b9 cJ5_append_c97b9 4 (some (.object "java/lang/AbstractStringBuilder")), Cond.methodLink RJ5 245 yJ6_stringSize_0f7a4, Cond.static yJ6_stringSize_0f7a4, Cond.code yJ6_stringSize_0f7a4 cJ6_stringSize_0f7a4 4 (some .int), Cond.methodLink RJ5 248 yJ6_getChars_ba4f3, Cond.static yJ6_getChars_ba4f3, Cond.code yJ6_getChars_ba4f3 cJ6_getChars_ba4f3 7 (some .int), Cond.fieldLink RJ6 83 "java/lang/Integer" "DigitOnes" "[B", Cond.fieldLink RJ6 87 "java/lang/Integer" "DigitTens" "[B", Cond.methodLink RJ5 251 yJ2_getChars_46870, Cond.static yJ2_getChars_46870, Cond.code yJ2_getChars_46870 cJ2_getChars_46870 5 (some .int), Cond.methodLink RJ2 393 yJ2_getChars_ba4f3, Cond.static yJ2_getChars_ba4f3, Cond.code yJ2_getChars_ba4f3 cJ2_getChars_ba4f3 7 (some .int), Cond.fieldLink RJ2 403 "java/lang/Integer" "DigitOnes" "[B", Cond.fieldLink RJ2 407 "java/lang/Integer" "DigitTens" "[B", Cond.methodLink RL 141 yJ4_toString_0e30d, Cond.instanceMethod yJ4_toString_0e30d, Cond.selects RJ4 yJ4_toString_0e30d yJ4_toString_0e30d, Cond.code yJ4_toString_0e30d cJ4_toString_0e30d 1 (some (.object "java/lang/String")), Cond.classLink RJ4 18 RJ0, Cond.instantiable RJ0 4, Cond.methodLink RJ4 137 yJ0_init_81219]
def wsL_law_r34 : List Cond := [Cond.instanceMethod yJ0_init_81219, Cond.code yJ0_init_81219 cJ0_init_81219 2 none, Cond.methodLink RJ0 489 yJ0_init_db425, Cond.instanceMethod yJ0_init_db425, Cond.code yJ0_init_db425 cJ0_init_db425 5 none, Cond.methodLink RJ0 1 objectInit, Cond.fieldLink RJ0 1048 "java/lang/AbstractStringBuilder" "maybeLatin1" "Z", Cond.methodLink RJ0 552 ⟨"java/lang/AbstractStringBuilder", "getValue", "()[B"⟩, Cond.sameMethod "java/lang/AbstractStringBuilder" "java/lang/AbstractStringBuilder" "getValue" "()[B", Cond.selects RJ4 ⟨"java/lang/AbstractStringBuilder", "getValue", "()[B"⟩ yJ5_getValue_6d5f1, Cond.instanceMethod yJ5_getValue_6d5f1, Cond.code yJ5_getValue_6d5f1 cJ5_getValue_6d5f1 1 (some (.array .byte)), Cond.methodLink RJ0 549 ⟨"java/lang/AbstractStringBuilder", "length", "()I"⟩, Cond.sameMethod "java/lang/AbstractStringBuilder" "java/lang/AbstractStringBuilder" "length" "()I", Cond.instanceMethod ⟨"java/lang/AbstractStringBuilder", "length", "()I"⟩, Cond.selects RJ4 ⟨"java/lang/AbstractStringBuilder", "length", "()I"⟩ yJ4_length_8abf5, Cond.instanceMethod yJ4_length_8abf5, Cond.code yJ4_length_8abf5 cJ4_length_8abf5 1 (some .int), Cond.methodLink RJ4 343 yJ5_length_8abf5, Cond.instanceMethod yJ5_length_8abf5, Cond.code yJ5_length_8abf5 cJ5_length_8abf5 1 (some .int), Cond.methodLink RJ0 1047 ⟨"java/lang/AbstractStringBuilder", "isLatin1", "()Z"⟩, Cond.methodLink RJ0 54 yJ7_copyOfRange_39247, Cond.static yJ7_copyOfRange_39247]
def wsL_law_r35 : List Cond := [Cond.code yJ7_copyOfRange_39247 cJ7_copyOfRange_39247 3 (some (.array .byte)), Cond.methodLink RJ7 339 yJ7_copyOfRangeByte_39247, Cond.static yJ7_copyOfRangeByte_39247, Cond.code yJ7_copyOfRangeByte_39247 cJ7_copyOfRangeByte_39247 5 (some (.array .byte)), Cond.methodLink RJ7 343 yJ7_checkLength_df160, Cond.static yJ7_checkLength_df160, Cond.code yJ7_checkLength_df160 cJ7_checkLength_df160 2 none, Cond.methodLink RJ0 1051 yJ2_compress_39247, Cond.static yJ2_compress_39247, Cond.code yJ2_compress_39247 cJ2_compress_39247 6 (some (.array .byte)), Cond.methodLink RJ2 123 yJ2_compress_5af95, Cond.static yJ2_compress_5af95, Cond.code yJ2_compress_5af95 cJ2_compress_5af95 7 (some .int), Cond.methodLink RJ2 126 yJ7_copyOfRange_39247, Cond.methodLink RJ0 47 yJ2_coderFromArrayLen_85cad, Cond.static yJ2_coderFromArrayLen_85cad, Cond.code yJ2_coderFromArrayLen_85cad cJ2_coderFromArrayLen_85cad 2 (some .byte)]
def wsL_law : List Cond := (wsL_law_r1 ++ (wsL_law_r2 ++ (wsL_law_r3 ++ (wsL_law_r4 ++ (wsL_law_r5 ++ (wsL_law_r6 ++ (wsL_law_r7 ++ (wsL_law_r8 ++ (wsL_law_r9 ++ (wsL_law_r10 ++ (wsL_law_r11 ++ (wsL_law_r12 ++ (wsL_law_r13 ++ (wsL_law_r14 ++ (wsL_law_r15 ++ (wsL_law_r16 ++ (wsL_law_r17 ++ (wsL_law_r18 ++ (wsL_law_r19 ++ (wsL_law_r20 ++ (wsL_law_r21 ++ (wsL_law_r22 ++ (wsL_law_r23 ++ (wsL_law_r24 ++ (wsL_law_r25 ++ (wsL_law_r26 ++ (wsL_law_r27 ++ (wsL_law_r28 ++ (wsL_law_r29 ++ (wsL_law_r30 ++ (wsL_law_r31 ++ (wsL_law_r32 ++ (wsL_law_r33 ++ (wsL_law_r34 ++ wsL_law_r35)))))))))))))))))))))))))))))))))) ++ wsX60 ++ wsX40 ++ wsX30 ++ wsX10 ++ wsX00 ++ wsX50 ++ wsX20 ++ wsJ00 ++ wsJ40 ++ ([] : List Cond)
theorem inlX0 : ∀ w ∈ wsX00, w ∈ wsL_law := fun _ h => List.mem_append_left _ (List.mem_append_left _ (List.mem_append_left _ (List.mem_append_left _ (List.mem_append_left _ (List.mem_append_right _ h)))))
theorem inlX1 : ∀ w ∈ wsX10, w ∈ wsL_law := fun _ h => List.mem_append_left _ (List.mem_append_left _ (List.mem_append_left _ (List.mem_append_left _ (List.mem_append_left _ (List.mem_append_left _ (List.mem_append_right _ h))))))
theorem inlX2 : ∀ w ∈ wsX20, w ∈ wsL_law := fun _ h => List.mem_append_left _ (List.mem_append_left _ (List.mem_append_left _ (List.mem_append_right _ h)))
theorem inlX3 : ∀ w ∈ wsX30, w ∈ wsL_law := fun _ h => List.mem_append_left _ (List.mem_append_left _ (List.mem_append_left _ (List.mem_append_left _ (List.mem_append_left _ (List.mem_append_left _ (List.mem_append_left _ (List.mem_append_right _ h)))))))
theorem inlX4 : ∀ w ∈ wsX40, w ∈ wsL_law := fun _ h => List.mem_append_left _ (List.mem_append_left _ (List.mem_append_left _ (List.mem_append_left _ (List.mem_append_left _ (List.mem_append_left _ (List.mem_append_left _ (List.mem_append_left _ (List.mem_append_right _ h))))))))
theorem inlX5 : ∀ w ∈ wsX50, w ∈ wsL_law := fun _ h => List.mem_append_left _ (List.mem_append_left _ (List.mem_append_left _ (List.mem_append_left _ (List.mem_append_right _ h))))
theorem inlX6 : ∀ w ∈ wsX60, w ∈ wsL_law := fun _ h => List.mem_append_left _ (List.mem_append_left _ (List.mem_append_left _ (List.mem_append_left _ (List.mem_append_left _ (List.mem_append_left _ (List.mem_append_left _ (List.mem_append_left _ (List.mem_append_left _ (List.mem_append_right _ h)))))))))
theorem inlJ0 : ∀ w ∈ wsJ00, w ∈ wsL_law := fun _ h => List.mem_append_left _ (List.mem_append_left _ (List.mem_append_right _ h))
theorem inlJ4 : ∀ w ∈ wsJ40, w ∈ wsL_law := fun _ h => List.mem_append_left _ (List.mem_append_right _ h)
abbrev vwCl : List vw_C := [(RJ0, TJ0, 4), (RJ4, TJ4, 4), (RX0, TX0, 2), (RX1, TX1, 2), (RX2, TX2, 5), (RX3, TX3, 5), (RX4, TX4, 14), (RX5, TX5, 11), (RX6, TX6, 13)]
end
section
theorem goodIn_sub0 {big : List Cond} (h : big.all goodWord = true) : GoodIn big big := fun w hw => ⟨hw, good_of_word (List.all_eq_true.mp h w hw)⟩
theorem lw_goodAt {w : Cond} (h : w ∈ wsL_law) (g : goodWord w = true) : w ∈ wsL_law ∧ ((w.onTables && w.keeps) = true ∨ ∃ ty, w = .arrayClass ty) := ⟨h, good_of_word g⟩
theorem lw_good : GoodIn wsL_law wsL_law := goodIn_sub0 (by decide +kernel)
theorem in_ps {big : List Cond} (ws : List Cond) (ps : List Nat) (hp : ws = ps.filterMap (fun i => big[i]?)) : ∀ w ∈ ws, w ∈ big := by
  intro w hw
  rw [hp] at hw
  obtain ⟨i, -, hi⟩ := List.mem_filterMap.mp hw
  exact List.mem_of_getElem? hi
theorem cin_1 : ∀ w ∈ wsL_law_r1, w ∈ lw_tbl := in_ps _ [52, 53, 31, 1012, 1011, 852, 45, 853, 54, 55, 56, 57, 58, 59, 60, 61, 32, 281, 282, 283, 285, 197, 198, 34] (by decide +kernel)
theorem cin_2 : ∀ w ∈ wsL_law_r2, w ∈ lw_tbl := in_ps _ [288, 251, 252, 36, 289, 266, 267, 37, 290, 62, 63, 64, 65, 66, 137, 136, 143, 147, 155, 68, 33, 70, 71, 72] (by decide +kernel)
theorem cin_3 : ∀ w ∈ wsL_law_r3, w ∈ lw_tbl := in_ps _ [199, 200, 201, 202, 231, 232, 203, 236, 205, 35, 207, 208, 209, 254, 255, 256, 257, 269, 270, 271, 272, 274, 641, 642] (by decide +kernel)
theorem cin_4 : ∀ w ∈ wsL_law_r4, w ∈ lw_tbl := in_ps _ [643, 644, 287, 286, 329, 330, 331, 332, 140, 337, 339, 338, 38, 145, 149, 151, 153, 157, 159, 161, 163, 165, 333, 334] (by decide +kernel)
theorem cin_5 : ∀ w ∈ wsL_law_r5, w ∈ lw_tbl := in_ps _ [335, 336, 73, 78, 82, 86, 90, 95, 98, 101, 104, 107, 110, 649, 650, 651, 652, 284, 154, 645, 646, 647, 648, 393] (by decide +kernel)
theorem cin_6 : ∀ w ∈ wsL_law_r6, w ∈ lw_tbl := in_ps _ [394, 395, 396, 325, 327, 0, 328, 397, 399, 6, 400, 156, 344, 345, 346, 367, 369, 4, 370, 521, 522, 523, 524, 234] (by decide +kernel)
theorem cin_7 : ∀ w ∈ wsL_law_r7, w ∈ lw_tbl := in_ps _ [525, 526, 527, 528, 233, 637, 638, 639, 640, 142, 146, 158, 160, 162, 164, 166, 494, 474, 475, 476, 469, 470, 471, 472] (by decide +kernel)
theorem cin_8 : ∀ w ∈ wsL_law_r8, w ∈ lw_tbl := in_ps _ [99, 477, 388, 40, 389, 390, 391, 392, 529, 530, 531, 532, 239, 237, 533, 534, 535, 536, 235, 238, 537, 539, 17, 540] (by decide +kernel)
theorem cin_9 : ∀ w ∈ wsL_law_r9, w ∈ lw_tbl := in_ps _ [210, 541, 543, 18, 544, 214, 216, 218, 546, 548, 19, 549, 212, 550, 552, 20, 553, 554, 555, 556, 41, 557, 983, 558] (by decide +kernel)
theorem cin_10 : ∀ w ∈ wsL_law_r10, w ∈ lw_tbl := in_ps _ [559, 560, 561, 562, 984, 564, 565, 566, 567, 568, 569, 570, 571, 572, 573, 42, 574, 575, 576, 577, 578, 580, 581, 43] (by decide +kernel)
theorem cin_11 : ∀ w ∈ wsL_law_r11, w ∈ lw_tbl := in_ps _ [582, 583, 584, 44, 585, 586, 587, 588, 589, 590, 591, 592, 593, 594, 595, 596, 598, 600, 602, 604, 21, 605, 606, 608] (by decide +kernel)
theorem cin_12 : ∀ w ∈ wsL_law_r12, w ∈ lw_tbl := in_ps _ [22, 609, 610, 507, 508, 612, 614, 23, 615, 621, 623, 24, 624, 211, 213, 215, 217, 219, 340, 342, 1, 343, 347, 349] (by decide +kernel)
theorem cin_13 : ∀ w ∈ wsL_law_r13, w ∈ lw_tbl := in_ps _ [2, 350, 291, 292, 293, 351, 352, 353, 354, 355, 356, 357, 358, 359, 360, 361, 362, 363, 365, 3, 366, 103, 375, 377] (by decide +kernel)
theorem cin_14 : ∀ w ∈ wsL_law_r14, w ∈ lw_tbl := in_ps _ [5, 378, 139, 100, 93, 379, 380, 381, 382, 383, 384, 385, 386, 94, 387, 625, 627, 25, 628, 108, 629, 434, 435, 436] (by decide +kernel)
theorem cin_15 : ∀ w ∈ wsL_law_r15, w ∈ lw_tbl := in_ps _ [630, 632, 26, 633, 634, 635, 430, 431, 432, 85, 77, 433, 405, 407, 7, 408, 97, 409, 410, 411, 412, 96, 417, 419] (by decide +kernel)
theorem cin_16 : ∀ w ∈ wsL_law_r16, w ∈ lw_tbl := in_ps _ [8, 420, 421, 422, 423, 424, 425, 427, 9, 428, 109, 111, 106, 81, 429, 437, 439, 10, 440, 441, 443, 11, 444, 445] (by decide +kernel)
theorem cin_17 : ∀ w ∈ wsL_law_r17, w ∈ lw_tbl := in_ps _ [447, 12, 448, 449, 450, 451, 452, 453, 454, 455, 456, 457, 459, 13, 460, 461, 462, 463, 464, 89, 465, 467, 14, 468] (by decide +kernel)
theorem cin_18 : ∀ w ∈ wsL_law_r18, w ∈ lw_tbl := in_ps _ [473, 478, 480, 15, 481, 482, 483, 484, 485, 321, 322, 323, 324, 656, 657, 30, 658, 659, 660, 661, 662, 371, 372, 373] (by decide +kernel)
theorem cin_19 : ∀ w ∈ wsL_law_r19, w ∈ lw_tbl := in_ps _ [374, 401, 402, 403, 404, 495, 496, 497, 498, 273, 499, 500, 501, 502, 141, 503, 504, 505, 138, 92, 506, 75, 509, 510] (by decide +kernel)
theorem cin_20 : ∀ w ∈ wsL_law_r20, w ∈ lw_tbl := in_ps _ [511, 512, 275, 513, 514, 515, 516, 517, 519, 16, 520, 490, 491, 492, 493, 413, 414, 415, 416, 486, 487, 488, 489, 76] (by decide +kernel)
theorem cin_21 : ∀ w ∈ wsL_law_r21, w ∈ lw_tbl := in_ps _ [80, 84, 88, 102, 105, 112, 663, 664, 665, 653, 654, 655, 666, 667, 668, 669, 670, 671, 672, 673, 674, 675, 676, 677] (by decide +kernel)
theorem cin_22 : ∀ w ∈ wsL_law_r22, w ∈ lw_tbl := in_ps _ [678, 679, 680, 681, 682, 46, 683, 687, 689, 688, 46, 690, 684, 685, 686, 691, 692, 693, 694, 695, 696, 47, 697, 701] (by decide +kernel)
theorem cin_23 : ∀ w ∈ wsL_law_r23, w ∈ lw_tbl := in_ps _ [703, 702, 47, 704, 698, 699, 700, 705, 706, 707, 708, 709, 710, 711, 712, 713, 714, 715, 716, 717, 718, 719, 720, 721] (by decide +kernel)
theorem cin_24 : ∀ w ∈ wsL_law_r24, w ∈ lw_tbl := in_ps _ [722, 723, 725, 27, 726, 727, 728, 729, 730, 260, 731, 732, 733, 734, 74, 79, 87, 83, 91, 735, 737, 28, 738, 739] (by decide +kernel)
theorem cin_25 : ∀ w ∈ wsL_law_r25, w ∈ lw_tbl := in_ps _ [741, 29, 742, 259, 743, 744, 745, 746, 258, 747, 748, 749, 750, 144, 751, 752, 753, 754, 755, 756, 757, 758, 759, 152] (by decide +kernel)
theorem lw_ref : (Cond.code yL_refused cL_refused 7 (some .boolean) : Cond) ∈ lw_tbl := by
  show _ ∈ k2_sels lw_privs ++ (tables_1_1 ++ (tables_1_2 ++ (tables_1_3 ++ (tables_1_4 ++ tables_1_5))))
  exact List.mem_append_right _ (List.mem_append_right _ (List.mem_append_right _ (List.mem_append_right _ (List.mem_append_right _ (List.mem_of_getElem? (i := 14) rfl)))))
theorem cin_26 : ∀ w ∈ wsL_law_r26, w ∈ lw_tbl := List.forall_mem_cons.mpr ⟨List.mem_of_getElem? (i := 150) (by decide +kernel), List.forall_mem_cons.mpr ⟨List.mem_of_getElem? (i := 148) (by decide +kernel), List.forall_mem_cons.mpr ⟨List.mem_of_getElem? (i := 760) (by decide +kernel), List.forall_mem_cons.mpr ⟨List.mem_of_getElem? (i := 761) (by decide +kernel), List.forall_mem_cons.mpr ⟨List.mem_of_getElem? (i := 762) (by decide +kernel), List.forall_mem_cons.mpr ⟨List.mem_of_getElem? (i := 763) (by decide +kernel), List.forall_mem_cons.mpr ⟨List.mem_of_getElem? (i := 764) (by decide +kernel), List.forall_mem_cons.mpr ⟨List.mem_of_getElem? (i := 765) (by decide +kernel), List.forall_mem_cons.mpr ⟨List.mem_of_getElem? (i := 766) (by decide +kernel), List.forall_mem_cons.mpr ⟨List.mem_of_getElem? (i := 767) (by decide +kernel), List.forall_mem_cons.mpr ⟨List.mem_of_getElem? (i := 769) (by decide +kernel), List.forall_mem_cons.mpr ⟨List.mem_of_getElem? (i := 770) (by decide +kernel), List.forall_mem_cons.mpr ⟨List.mem_of_getElem? (i := 771) (by decide +kernel), List.forall_mem_cons.mpr ⟨List.mem_of_getElem? (i := 772) (by decide +kernel), List.forall_mem_cons.mpr ⟨List.mem_of_getElem? (i := 773) (by decide +kernel), List.forall_mem_cons.mpr ⟨List.mem_of_getElem? (i := 774) (by decide +kernel), List.forall_mem_cons.mpr ⟨List.mem_of_getElem? (i := 1002) (by decide +kernel), List.forall_mem_cons.mpr ⟨List.mem_of_getElem? (i := 1003) (by decide +kernel), List.forall_mem_cons.mpr ⟨lw_ref, List.forall_mem_cons.mpr ⟨List.mem_of_getElem? (i := 778) (by decide +kernel), List.forall_mem_cons.mpr ⟨List.mem_of_getElem? (i := 779) (by decide +kernel), List.forall_mem_cons.mpr ⟨List.mem_of_getElem? (i := 780) (by decide +kernel), List.forall_mem_cons.mpr ⟨List.mem_of_getElem? (i := 781) (by decide +kernel), List.forall_mem_cons.mpr ⟨List.mem_of_getElem? (i := 997) (by decide +kernel), fun _ h => absurd h List.not_mem_nil⟩⟩⟩⟩⟩⟩⟩⟩⟩⟩⟩⟩⟩⟩⟩⟩⟩⟩⟩⟩⟩⟩⟩⟩
theorem cin_27 : ∀ w ∈ wsL_law_r27, w ∈ lw_tbl := in_ps _ [998, 999, 1000, 1001, 1008, 1009, 1010, 775, 776, 777, 782, 783, 49, 784, 785, 786, 787, 788, 48, 789, 790, 791, 636, 799] (by decide +kernel)
theorem cin_28 : ∀ w ∈ wsL_law_r28, w ∈ lw_tbl := in_ps _ [800, 792, 793, 794, 795, 796, 797, 798, 813, 814, 815, 816, 817, 1013, 811, 818, 819, 802, 820, 1014, 822, 823, 824] (by decide +kernel)
theorem cin_29 : ∀ w ∈ wsL_law_r29, w ∈ lw_tbl := in_ps _ [1015, 826, 827, 828, 1016, 830, 831, 840, 832, 833, 50, 834, 835, 836, 837, 838, 839, 841, 842, 51, 843, 844] (by decide +kernel)
theorem cin_30 : ∀ w ∈ wsL_law_r30, w ∈ lw_tbl := in_ps _ [845, 846, 847, 848, 850, 851, 854, 855, 857, 858, 856, 859, 860, 861, 862, 863, 864, 865, 866, 867, 868, 869, 870, 871] (by decide +kernel)
theorem cin_31 : ∀ w ∈ wsL_law_r31, w ∈ lw_tbl := in_ps _ [872, 873, 874, 875, 876, 1017, 878, 879, 880, 1018, 882, 883, 884, 885, 1019, 887, 888, 889, 890, 891, 892] (by decide +kernel)
theorem cin_32 : ∀ w ∈ wsL_law_r32, w ∈ lw_tbl := in_ps _ [893, 894, 895, 896, 897, 898, 899, 900, 901, 902, 903, 904, 905, 906, 907, 908, 909, 910, 911, 912, 913, 914, 1020, 915] (by decide +kernel)
theorem cin_33 : ∀ w ∈ wsL_law_r33, w ∈ lw_tbl := in_ps _ [916, 917, 918, 919, 920, 921, 922, 923, 925, 927, 928, 929, 930, 931, 932, 933, 934, 937, 938, 939, 940, 941, 942, 943] (by decide +kernel)
theorem cin_34 : ∀ w ∈ wsL_law_r34, w ∈ lw_tbl := in_ps _ [944, 945, 946, 947, 948, 949, 801, 950, 952, 953, 951, 954, 955, 957, 956, 958, 959, 960, 961, 956, 962, 963, 964, 965] (by decide +kernel)
theorem cin_35 : ∀ w ∈ wsL_law_r35, w ∈ lw_tbl := in_ps _ [966, 967, 968, 969, 970, 971, 972, 973, 974, 975, 976, 977, 978, 979, 980, 981, 982] (by decide +kernel)
theorem fin_wsX60 : ∀ w ∈ wsX60, w ∈ lw_tbl := by decide +kernel
theorem fin_wsX40 : ∀ w ∈ wsX40, w ∈ lw_tbl := by decide +kernel
theorem fin_wsX30 : ∀ w ∈ wsX30, w ∈ lw_tbl := by decide +kernel
theorem fin_wsX10 : ∀ w ∈ wsX10, w ∈ lw_tbl := by decide +kernel
theorem fin_wsX00 : ∀ w ∈ wsX00, w ∈ lw_tbl := by decide +kernel
theorem fin_wsX50 : ∀ w ∈ wsX50, w ∈ lw_tbl := by decide +kernel
theorem fin_wsX20 : ∀ w ∈ wsX20, w ∈ lw_tbl := by decide +kernel
theorem fin_wsJ00 : ∀ w ∈ wsJ00, w ∈ lw_tbl := by decide +kernel
theorem fin_wsJ40 : ∀ w ∈ wsJ40, w ∈ lw_tbl := by decide +kernel
theorem wsL_law_in : ∀ w ∈ wsL_law, w ∈ lw_tbl := List.forall_mem_append.mpr ⟨List.forall_mem_append.mpr ⟨List.forall_mem_append.mpr ⟨List.forall_mem_append.mpr ⟨List.forall_mem_append.mpr ⟨List.forall_mem_append.mpr ⟨List.forall_mem_append.mpr ⟨List.forall_mem_append.mpr ⟨List.forall_mem_append.mpr ⟨List.forall_mem_append.mpr ⟨List.forall_mem_append.mpr ⟨cin_1, List.forall_mem_append.mpr ⟨cin_2, List.forall_mem_append.mpr ⟨cin_3, List.forall_mem_append.mpr ⟨cin_4, List.forall_mem_append.mpr ⟨cin_5, List.forall_mem_append.mpr ⟨cin_6, List.forall_mem_append.mpr ⟨cin_7, List.forall_mem_append.mpr ⟨cin_8, List.forall_mem_append.mpr ⟨cin_9, List.forall_mem_append.mpr ⟨cin_10, List.forall_mem_append.mpr ⟨cin_11, List.forall_mem_append.mpr ⟨cin_12, List.forall_mem_append.mpr ⟨cin_13, List.forall_mem_append.mpr ⟨cin_14, List.forall_mem_append.mpr ⟨cin_15, List.forall_mem_append.mpr ⟨cin_16, List.forall_mem_append.mpr ⟨cin_17, List.forall_mem_append.mpr ⟨cin_18, List.forall_mem_append.mpr ⟨cin_19, List.forall_mem_append.mpr ⟨cin_20, List.forall_mem_append.mpr ⟨cin_21, List.forall_mem_append.mpr ⟨cin_22, List.forall_mem_append.mpr ⟨cin_23, List.forall_mem_append.mpr ⟨cin_24, List.forall_mem_append.mpr ⟨cin_25, List.forall_mem_append.mpr ⟨cin_26, List.forall_mem_append.mpr ⟨cin_27, List.forall_mem_append.mpr ⟨cin_28, List.forall_mem_append.mpr ⟨cin_29, List.forall_mem_append.mpr ⟨cin_30, List.forall_mem_append.mpr ⟨cin_31, List.forall_mem_append.mpr ⟨cin_32, List.forall_mem_append.mpr ⟨cin_33, List.forall_mem_append.mpr ⟨cin_34, cin_35⟩⟩⟩⟩⟩⟩⟩⟩⟩⟩⟩⟩⟩⟩⟩⟩⟩⟩⟩⟩⟩⟩⟩⟩⟩⟩⟩⟩⟩⟩⟩⟩⟩⟩, fin_wsX60⟩, fin_wsX40⟩, fin_wsX30⟩, fin_wsX10⟩, fin_wsX00⟩, fin_wsX50⟩, fin_wsX20⟩, fin_wsJ00⟩, fin_wsJ40⟩, fun _ h => absurd h List.not_mem_nil⟩
end
section
/-! PART 02q: the words one by one -/
theorem lf_0 {w : Cond} (h : w ∈ (wsL_law_r1 ++ (wsL_law_r2 ++ (wsL_law_r3 ++ (wsL_law_r4 ++ (wsL_law_r5 ++ (wsL_law_r6 ++ (wsL_law_r7 ++ (wsL_law_r8 ++ (wsL_law_r9 ++ (wsL_law_r10 ++ (wsL_law_r11 ++ (wsL_law_r12 ++ (wsL_law_r13 ++ (wsL_law_r14 ++ (wsL_law_r15 ++ (wsL_law_r16 ++ (wsL_law_r17 ++ (wsL_law_r18 ++ (wsL_law_r19 ++ (wsL_law_r20 ++ (wsL_law_r21 ++ (wsL_law_r22 ++ (wsL_law_r23 ++ (wsL_law_r24 ++ (wsL_law_r25 ++ (wsL_law_r26 ++ (wsL_law_r27 ++ (wsL_law_r28 ++ (wsL_law_r29 ++ (wsL_law_r30 ++ (wsL_law_r31 ++ (wsL_law_r32 ++ (wsL_law_r33 ++ (wsL_law_r34 ++ wsL_law_r35))))))))))))))))))))))))))))))))))) : w ∈ wsL_law := List.mem_append_left _ (List.mem_append_left _ (List.mem_append_left _ (List.mem_append_left _ (List.mem_append_left _ (List.mem_append_left _ (List.mem_append_left _ (List.mem_append_left _ (List.mem_append_left _ (List.mem_append_left _ (h))))))))))
theorem lf_1 {w : Cond} (h : w ∈ wsL_law_r1) : w ∈ wsL_law := lf_0 (List.mem_append_left _ h)
theorem lf_2 {w : Cond} (h : w ∈ wsL_law_r2) : w ∈ wsL_law := lf_0 (List.mem_append_right _ (List.mem_append_left _ h))
theorem lf_3 {w : Cond} (h : w ∈ wsL_law_r3) : w ∈ wsL_law := lf_0 (List.mem_append_right _ (List.mem_append_right _ (List.mem_append_left _ h)))
theorem lf_4 {w : Cond} (h : w ∈ wsL_law_r4) : w ∈ wsL_law := lf_0 (List.mem_append_right _ (List.mem_append_right _ (List.mem_append_right _ (List.mem_append_left _ h))))
theorem lf_5 {w : Cond} (h : w ∈ wsL_law_r5) : w ∈ wsL_law := lf_0 (List.mem_append_right _ (List.mem_append_right _ (List.mem_append_right _ (List.mem_append_right _ (List.mem_append_left _ h)))))
theorem lf_6 {w : Cond} (h : w ∈ wsL_law_r6) : w ∈ wsL_law := lf_0 (List.mem_append_right _ (List.mem_append_right _ (List.mem_append_right _ (List.mem_append_right _ (List.mem_append_right _ (List.mem_append_left _ h))))))
theorem lf_7 {w : Cond} (h : w ∈ wsL_law_r7) : w ∈ wsL_law := lf_0 (List.mem_append_right _ (List.mem_append_right _ (List.mem_append_right _ (List.mem_append_right _ (List.mem_append_right _ (List.mem_append_right _ (List.mem_append_left _ h)))))))
theorem lf_8 {w : Cond} (h : w ∈ wsL_law_r8) : w ∈ wsL_law := lf_0 (List.mem_append_right _ (List.mem_append_right _ (List.mem_append_right _ (List.mem_append_right _ (List.mem_append_right _ (List.mem_append_right _ (List.mem_append_right _ (List.mem_append_left _ h))))))))
theorem lf_9 {w : Cond} (h : w ∈ wsL_law_r9) : w ∈ wsL_law := lf_0 (List.mem_append_right _ (List.mem_append_right _ (List.mem_append_right _ (List.mem_append_right _ (List.mem_append_right _ (List.mem_append_right _ (List.mem_append_right _ (List.mem_append_right _ (List.mem_append_left _ h)))))))))
theorem lf_10 {w : Cond} (h : w ∈ wsL_law_r10) : w ∈ wsL_law := lf_0 (List.mem_append_right _ (List.mem_append_right _ (List.mem_append_right _ (List.mem_append_right _ (List.mem_append_right _ (List.mem_append_right _ (List.mem_append_right _ (List.mem_append_right _ (List.mem_append_right _ (List.mem_append_left _ h))))))))))
theorem lf_11 {w : Cond} (h : w ∈ wsL_law_r11) : w ∈ wsL_law := lf_0 (List.mem_append_right _ (List.mem_append_right _ (List.mem_append_right _ (List.mem_append_right _ (List.mem_append_right _ (List.mem_append_right _ (List.mem_append_right _ (List.mem_append_right _ (List.mem_append_right _ (List.mem_append_right _ (List.mem_append_left _ h)))))))))))
theorem lf_12 {w : Cond} (h : w ∈ wsL_law_r12) : w ∈ wsL_law := lf_0 (List.mem_append_right _ (List.mem_append_right _ (List.mem_append_right _ (List.mem_append_right _ (List.mem_append_right _ (List.mem_append_right _ (List.mem_append_right _ (List.mem_append_right _ (List.mem_append_right _ (List.mem_append_right _ (List.mem_append_right _ (List.mem_append_left _ h))))))))))))
theorem lf_13 {w : Cond} (h : w ∈ wsL_law_r13) : w ∈ wsL_law := lf_0 (List.mem_append_right _ (List.mem_append_right _ (List.mem_append_right _ (List.mem_append_right _ (List.mem_append_right _ (List.mem_append_right _ (List.mem_append_right _ (List.mem_append_right _ (List.mem_append_right _ (List.mem_append_right _ (List.mem_append_right _ (List.mem_append_right _ (List.mem_append_left _ h)))))))))))))
theorem lf_14 {w : Cond} (h : w ∈ wsL_law_r14) : w ∈ wsL_law := lf_0 (List.mem_append_right _ (List.mem_append_right _ (List.mem_append_right _ (List.mem_append_right _ (List.mem_append_right _ (List.mem_append_right _ (List.mem_append_right _ (List.mem_append_right _ (List.mem_append_right _ (List.mem_append_right _ (List.mem_append_right _ (List.mem_append_right _ (List.mem_append_right _ (List.mem_append_left _ h))))))))))))))
theorem lf_15 {w : Cond} (h : w ∈ wsL_law_r15) : w ∈ wsL_law := lf_0 (List.mem_append_right _ (List.mem_append_right _ (List.mem_append_right _ (List.mem_append_right _ (List.mem_append_right _ (List.mem_append_right _ (List.mem_append_right _ (List.mem_append_right _ (List.mem_append_right _ (List.mem_append_right _ (List.mem_append_right _ (List.mem_append_right _ (List.mem_append_right _ (List.mem_append_right _ (List.mem_append_left _ h)))))))))))))))
theorem lf_16 {w : Cond} (h : w ∈ wsL_law_r16) : w ∈ wsL_law := lf_0 (List.mem_append_right _ (List.mem_append_right _ (List.mem_append_right _ (List.mem_append_right _ (List.mem_append_right _ (List.mem_append_right _ (List.mem_append_right _ (List.mem_append_right _ (List.mem_append_right _ (List.mem_append_right _ (List.mem_append_right _ (List.mem_append_right _ (List.mem_append_right _ (List.mem_append_right _ (List.mem_append_right _ (List.mem_append_left _ h))))))))))))))))
theorem lf_17 {w : Cond} (h : w ∈ wsL_law_r17) : w ∈ wsL_law := lf_0 (List.mem_append_right _ (List.mem_append_right _ (List.mem_append_right _ (List.mem_append_right _ (List.mem_append_right _ (List.mem_append_right _ (List.mem_append_right _ (List.mem_append_right _ (List.mem_append_right _ (List.mem_append_right _ (List.mem_append_right _ (List.mem_append_right _ (List.mem_append_right _ (List.mem_append_right _ (List.mem_append_right _ (List.mem_append_right _ (List.mem_append_left _ h)))))))))))))))))
theorem lf_18 {w : Cond} (h : w ∈ wsL_law_r18) : w ∈ wsL_law := lf_0 (List.mem_append_right _ (List.mem_append_right _ (List.mem_append_right _ (List.mem_append_right _ (List.mem_append_right _ (List.mem_append_right _ (List.mem_append_right _ (List.mem_append_right _ (List.mem_append_right _ (List.mem_append_right _ (List.mem_append_right _ (List.mem_append_right _ (List.mem_append_right _ (List.mem_append_right _ (List.mem_append_right _ (List.mem_append_right _ (List.mem_append_right _ (List.mem_append_left _ h))))))))))))))))))
theorem lf_19 {w : Cond} (h : w ∈ wsL_law_r19) : w ∈ wsL_law := lf_0 (List.mem_append_right _ (List.mem_append_right _ (List.mem_append_right _ (List.mem_append_right _ (List.mem_append_right _ (List.mem_append_right _ (List.mem_append_right _ (List.mem_append_right _ (List.mem_append_right _ (List.mem_append_right _ (List.mem_append_right _ (List.mem_append_right _ (List.mem_append_right _ (List.mem_append_right _ (List.mem_append_right _ (List.mem_append_right _ (List.mem_append_right _ (List.mem_append_right _ (List.mem_append_left _ h)))))))))))))))))))
theorem lf_20 {w : Cond} (h : w ∈ wsL_law_r20) : w ∈ wsL_law := lf_0 (List.mem_append_right _ (List.mem_append_right _ (List.mem_append_right _ (List.mem_append_right _ (List.mem_append_right _ (List.mem_append_right _ (List.mem_append_right _ (List.mem_append_right _ (List.mem_append_right _ (List.mem_append_right _ (List.mem_append_right _ (List.mem_append_right _ (List.mem_append_right _ (List.mem_append_right _ (List.mem_append_right _ (List.mem_append_right _ (List.mem_append_right _ (List.mem_append_right _ (List.mem_append_right _ (List.mem_append_left _ h))))))))))))))))))))
theorem lf_21 {w : Cond} (h : w ∈ wsL_law_r21) : w ∈ wsL_law := lf_0 (List.mem_append_right _ (List.mem_append_right _ (List.mem_append_right _ (List.mem_append_right _ (List.mem_append_right _ (List.mem_append_right _ (List.mem_append_right _ (List.mem_append_right _ (List.mem_append_right _ (List.mem_append_right _ (List.mem_append_right _ (List.mem_append_right _ (List.mem_append_right _ (List.mem_append_right _ (List.mem_append_right _ (List.mem_append_right _ (List.mem_append_right _ (List.mem_append_right _ (List.mem_append_right _ (List.mem_append_right _ (List.mem_append_left _ h)))))))))))))))))))))
theorem lf_22 {w : Cond} (h : w ∈ wsL_law_r22) : w ∈ wsL_law := lf_0 (List.mem_append_right _ (List.mem_append_right _ (List.mem_append_right _ (List.mem_append_right _ (List.mem_append_right _ (List.mem_append_right _ (List.mem_append_right _ (List.mem_append_right _ (List.mem_append_right _ (List.mem_append_right _ (List.mem_append_right _ (List.mem_append_right _ (List.mem_append_right _ (List.mem_append_right _ (List.mem_append_right _ (List.mem_append_right _ (List.mem_append_right _ (List.mem_append_right _ (List.mem_append_right _ (List.mem_append_right _ (List.mem_append_right _ (List.mem_append_left _ h))))))))))))))))))))))
theorem lf_23 {w : Cond} (h : w ∈ wsL_law_r23) : w ∈ wsL_law := lf_0 (List.mem_append_right _ (List.mem_append_right _ (List.mem_append_right _ (List.mem_append_right _ (List.mem_append_right _ (List.mem_append_right _ (List.mem_append_right _ (List.mem_append_right _ (List.mem_append_right _ (List.mem_append_right _ (List.mem_append_right _ (List.mem_append_right _ (List.mem_append_right _ (List.mem_append_right _ (List.mem_append_right _ (List.mem_append_right _ (List.mem_append_right _ (List.mem_append_right _ (List.mem_append_right _ (List.mem_append_right _ (List.mem_append_right _ (List.mem_append_right _ (List.mem_append_left _ h)))))))))))))))))))))))
theorem lf_24 {w : Cond} (h : w ∈ wsL_law_r24) : w ∈ wsL_law := lf_0 (List.mem_append_right _ (List.mem_append_right _ (List.mem_append_right _ (List.mem_append_right _ (List.mem_append_right _ (List.mem_append_right _ (List.mem_append_right _ (List.mem_append_right _ (List.mem_append_right _ (List.mem_append_right _ (List.mem_append_right _ (List.mem_append_right _ (List.mem_append_right _ (List.mem_append_right _ (List.mem_append_right _ (List.mem_append_right _ (List.mem_append_right _ (List.mem_append_right _ (List.mem_append_right _ (List.mem_append_right _ (List.mem_append_right _ (List.mem_append_right _ (List.mem_append_right _ (List.mem_append_left _ h))))))))))))))))))))))))
theorem lf_25 {w : Cond} (h : w ∈ wsL_law_r25) : w ∈ wsL_law := lf_0 (List.mem_append_right _ (List.mem_append_right _ (List.mem_append_right _ (List.mem_append_right _ (List.mem_append_right _ (List.mem_append_right _ (List.mem_append_right _ (List.mem_append_right _ (List.mem_append_right _ (List.mem_append_right _ (List.mem_append_right _ (List.mem_append_right _ (List.mem_append_right _ (List.mem_append_right _ (List.mem_append_right _ (List.mem_append_right _ (List.mem_append_right _ (List.mem_append_right _ (List.mem_append_right _ (List.mem_append_right _ (List.mem_append_right _ (List.mem_append_right _ (List.mem_append_right _ (List.mem_append_right _ (List.mem_append_left _ h)))))))))))))))))))))))))
theorem lf_26 {w : Cond} (h : w ∈ wsL_law_r26) : w ∈ wsL_law := lf_0 (List.mem_append_right _ (List.mem_append_right _ (List.mem_append_right _ (List.mem_append_right _ (List.mem_append_right _ (List.mem_append_right _ (List.mem_append_right _ (List.mem_append_right _ (List.mem_append_right _ (List.mem_append_right _ (List.mem_append_right _ (List.mem_append_right _ (List.mem_append_right _ (List.mem_append_right _ (List.mem_append_right _ (List.mem_append_right _ (List.mem_append_right _ (List.mem_append_right _ (List.mem_append_right _ (List.mem_append_right _ (List.mem_append_right _ (List.mem_append_right _ (List.mem_append_right _ (List.mem_append_right _ (List.mem_append_right _ (List.mem_append_left _ h))))))))))))))))))))))))))
theorem lf_27 {w : Cond} (h : w ∈ wsL_law_r27) : w ∈ wsL_law := lf_0 (List.mem_append_right _ (List.mem_append_right _ (List.mem_append_right _ (List.mem_append_right _ (List.mem_append_right _ (List.mem_append_right _ (List.mem_append_right _ (List.mem_append_right _ (List.mem_append_right _ (List.mem_append_right _ (List.mem_append_right _ (List.mem_append_right _ (List.mem_append_right _ (List.mem_append_right _ (List.mem_append_right _ (List.mem_append_right _ (List.mem_append_right _ (List.mem_append_right _ (List.mem_append_right _ (List.mem_append_right _ (List.mem_append_right _ (List.mem_append_right _ (List.mem_append_right _ (List.mem_append_right _ (List.mem_append_right _ (List.mem_append_right _ (List.mem_append_left _ h)))))))))))))))))))))))))))
theorem lf_28 {w : Cond} (h : w ∈ wsL_law_r28) : w ∈ wsL_law := lf_0 (List.mem_append_right _ (List.mem_append_right _ (List.mem_append_right _ (List.mem_append_right _ (List.mem_append_right _ (List.mem_append_right _ (List.mem_append_right _ (List.mem_append_right _ (List.mem_append_right _ (List.mem_append_right _ (List.mem_append_right _ (List.mem_append_right _ (List.mem_append_right _ (List.mem_append_right _ (List.mem_append_right _ (List.mem_append_right _ (List.mem_append_right _ (List.mem_append_right _ (List.mem_append_right _ (List.mem_append_right _ (List.mem_append_right _ (List.mem_append_right _ (List.mem_append_right _ (List.mem_append_right _ (List.mem_append_right _ (List.mem_append_right _ (List.mem_append_right _ (List.mem_append_left _ h))))))))))))))))))))))))))))
theorem lf_29 {w : Cond} (h : w ∈ wsL_law_r29) : w ∈ wsL_law := lf_0 (List.mem_append_right _ (List.mem_append_right _ (List.mem_append_right _ (List.mem_append_right _ (List.mem_append_right _ (List.mem_append_right _ (List.mem_append_right _ (List.mem_append_right _ (List.mem_append_right _ (List.mem_append_right _ (List.mem_append_right _ (List.mem_append_right _ (List.mem_append_right _ (List.mem_append_right _ (List.mem_append_right _ (List.mem_append_right _ (List.mem_append_right _ (List.mem_append_right _ (List.mem_append_right _ (List.mem_append_right _ (List.mem_append_right _ (List.mem_append_right _ (List.mem_append_right _ (List.mem_append_right _ (List.mem_append_right _ (List.mem_append_right _ (List.mem_append_right _ (List.mem_append_right _ (List.mem_append_left _ h)))))))))))))))))))))))))))))
theorem lf_30 {w : Cond} (h : w ∈ wsL_law_r30) : w ∈ wsL_law := lf_0 (List.mem_append_right _ (List.mem_append_right _ (List.mem_append_right _ (List.mem_append_right _ (List.mem_append_right _ (List.mem_append_right _ (List.mem_append_right _ (List.mem_append_right _ (List.mem_append_right _ (List.mem_append_right _ (List.mem_append_right _ (List.mem_append_right _ (List.mem_append_right _ (List.mem_append_right _ (List.mem_append_right _ (List.mem_append_right _ (List.mem_append_right _ (List.mem_append_right _ (List.mem_append_right _ (List.mem_append_right _ (List.mem_append_right _ (List.mem_append_right _ (List.mem_append_right _ (List.mem_append_right _ (List.mem_append_right _ (List.mem_append_right _ (List.mem_append_right _ (List.mem_append_right _ (List.mem_append_right _ (List.mem_append_left _ h))))))))))))))))))))))))))))))
theorem lf_31 {w : Cond} (h : w ∈ wsL_law_r31) : w ∈ wsL_law := lf_0 (List.mem_append_right _ (List.mem_append_right _ (List.mem_append_right _ (List.mem_append_right _ (List.mem_append_right _ (List.mem_append_right _ (List.mem_append_right _ (List.mem_append_right _ (List.mem_append_right _ (List.mem_append_right _ (List.mem_append_right _ (List.mem_append_right _ (List.mem_append_right _ (List.mem_append_right _ (List.mem_append_right _ (List.mem_append_right _ (List.mem_append_right _ (List.mem_append_right _ (List.mem_append_right _ (List.mem_append_right _ (List.mem_append_right _ (List.mem_append_right _ (List.mem_append_right _ (List.mem_append_right _ (List.mem_append_right _ (List.mem_append_right _ (List.mem_append_right _ (List.mem_append_right _ (List.mem_append_right _ (List.mem_append_right _ (List.mem_append_left _ h)))))))))))))))))))))))))))))))
theorem lf_32 {w : Cond} (h : w ∈ wsL_law_r32) : w ∈ wsL_law := lf_0 (List.mem_append_right _ (List.mem_append_right _ (List.mem_append_right _ (List.mem_append_right _ (List.mem_append_right _ (List.mem_append_right _ (List.mem_append_right _ (List.mem_append_right _ (List.mem_append_right _ (List.mem_append_right _ (List.mem_append_right _ (List.mem_append_right _ (List.mem_append_right _ (List.mem_append_right _ (List.mem_append_right _ (List.mem_append_right _ (List.mem_append_right _ (List.mem_append_right _ (List.mem_append_right _ (List.mem_append_right _ (List.mem_append_right _ (List.mem_append_right _ (List.mem_append_right _ (List.mem_append_right _ (List.mem_append_right _ (List.mem_append_right _ (List.mem_append_right _ (List.mem_append_right _ (List.mem_append_right _ (List.mem_append_right _ (List.mem_append_right _ (List.mem_append_left _ h))))))))))))))))))))))))))))))))
theorem lf_33 {w : Cond} (h : w ∈ wsL_law_r33) : w ∈ wsL_law := lf_0 (List.mem_append_right _ (List.mem_append_right _ (List.mem_append_right _ (List.mem_append_right _ (List.mem_append_right _ (List.mem_append_right _ (List.mem_append_right _ (List.mem_append_right _ (List.mem_append_right _ (List.mem_append_right _ (List.mem_append_right _ (List.mem_append_right _ (List.mem_append_right _ (List.mem_append_right _ (List.mem_append_right _ (List.mem_append_right _ (List.mem_append_right _ (List.mem_append_right _ (List.mem_append_right _ (List.mem_append_right _ (List.mem_append_right _ (List.mem_append_right _ (List.mem_append_right _ (List.mem_append_right _ (List.mem_append_right _ (List.mem_append_right _ (List.mem_append_right _ (List.mem_append_right _ (List.mem_append_right _ (List.mem_append_right _ (List.mem_append_right _ (List.mem_append_right _ (List.mem_append_left _ h)))))))))))))))))))))))))))))))))
theorem lf_34 {w : Cond} (h : w ∈ wsL_law_r34) : w ∈ wsL_law := lf_0 (List.mem_append_right _ (List.mem_append_right _ (List.mem_append_right _ (List.mem_append_right _ (List.mem_append_right _ (List.mem_append_right _ (List.mem_append_right _ (List.mem_append_right _ (List.mem_append_right _ (List.mem_append_right _ (List.mem_append_right _ (List.mem_append_right _ (List.mem_append_right _ (List.mem_append_right _ (List.mem_append_right _ (List.mem_append_right _ (List.mem_append_right _ (List.mem_append_right _ (List.mem_append_right _ (List.mem_append_right _ (List.mem_append_right _ (List.mem_append_right _ (List.mem_append_right _ (List.mem_append_right _ (List.mem_append_right _ (List.mem_append_right _ (List.mem_append_right _ (List.mem_append_right _ (List.mem_append_right _ (List.mem_append_right _ (List.mem_append_right _ (List.mem_append_right _ (List.mem_append_right _ (List.mem_append_left _ h))))))))))))))))))))))))))))))))))
theorem lf_35 {w : Cond} (h : w ∈ wsL_law_r35) : w ∈ wsL_law := lf_0 (List.mem_append_right _ (List.mem_append_right _ (List.mem_append_right _ (List.mem_append_right _ (List.mem_append_right _ (List.mem_append_right _ (List.mem_append_right _ (List.mem_append_right _ (List.mem_append_right _ (List.mem_append_right _ (List.mem_append_right _ (List.mem_append_right _ (List.mem_append_right _ (List.mem_append_right _ (List.mem_append_right _ (List.mem_append_right _ (List.mem_append_right _ (List.mem_append_right _ (List.mem_append_right _ (List.mem_append_right _ (List.mem_append_right _ (List.mem_append_right _ (List.mem_append_right _ (List.mem_append_right _ (List.mem_append_right _ (List.mem_append_right _ (List.mem_append_right _ (List.mem_append_right _ (List.mem_append_right _ (List.mem_append_right _ (List.mem_append_right _ (List.mem_append_right _ (List.mem_append_right _ (List.mem_append_right _ h))))))))))))))))))))))))))))))))))
theorem q0 : (Cond.classLink RL 18 RX6 : Cond) ∈ wsL_law := lf_1 (List.mem_of_getElem? (i := 0) rfl)
theorem q1 : (Cond.instantiable RX6 13 : Cond) ∈ wsL_law := lf_1 (List.mem_of_getElem? (i := 1) rfl)
theorem q2 : (Cond.initialized RX6 : Cond) ∈ wsL_law := lf_1 (List.mem_of_getElem? (i := 2) rfl)
theorem q3 : (Cond.arrayClass .long : Cond) ∈ wsL_law := lf_1 (List.mem_of_getElem? (i := 3) rfl)
theorem q4 : (Cond.methodLink RL 194 Lib.Math.min.name : Cond) ∈ wsL_law := lf_1 (List.mem_of_getElem? (i := 4) rfl)
theorem q5 : (Cond.static Lib.Math.min.name : Cond) ∈ wsL_law := lf_1 (List.mem_of_getElem? (i := 5) rfl)
theorem q6 : (Cond.initialized "java/lang/Math" : Cond) ∈ wsL_law := lf_1 (List.mem_of_getElem? (i := 6) rfl)
theorem q7 : (Cond.code Lib.Math.min.name Lib.Math.min.code 2 (some .int) : Cond) ∈ wsL_law := lf_1 (List.mem_of_getElem? (i := 7) rfl)
theorem q8 : (Cond.methodLink RL 173 yX6_init : Cond) ∈ wsL_law := lf_1 (List.mem_of_getElem? (i := 8) rfl)
theorem q9 : (Cond.instanceMethod yX6_init : Cond) ∈ wsL_law := lf_1 (List.mem_of_getElem? (i := 9) rfl)
theorem q10 : (Cond.code yX6_init cX6_init 2 none : Cond) ∈ wsL_law := lf_1 (List.mem_of_getElem? (i := 10) rfl)
theorem q11 : (Cond.methodLink RX6 3 objectInit : Cond) ∈ wsL_law := lf_1 (List.mem_of_getElem? (i := 11) rfl)
theorem q12 : (Cond.instanceMethod objectInit : Cond) ∈ wsL_law := lf_1 (List.mem_of_getElem? (i := 12) rfl)
theorem q13 : (Cond.code objectInit ⟨#[0xb1]⟩ 1 none : Cond) ∈ wsL_law := lf_1 (List.mem_of_getElem? (i := 13) rfl)
theorem q14 : (Cond.classLink RX6 9 RX4 : Cond) ∈ wsL_law := lf_1 (List.mem_of_getElem? (i := 14) rfl)
theorem q15 : (Cond.instantiable RX4 14 : Cond) ∈ wsL_law := lf_1 (List.mem_of_getElem? (i := 15) rfl)
theorem q16 : (Cond.initialized RX4 : Cond) ∈ wsL_law := lf_1 (List.mem_of_getElem? (i := 16) rfl)
theorem q17 : (Cond.fieldLink RX6 12 "TrousseauFlow" "now" "LTrousseauFlow$Plan;" : Cond) ∈ wsL_law := lf_1 (List.mem_of_getElem? (i := 17) rfl)
theorem q18 : (Cond.fieldLink RX6 16 "TrousseauFlow" "forecast" "LTrousseauFlow$Plan;" : Cond) ∈ wsL_law := lf_1 (List.mem_of_getElem? (i := 18) rfl)
theorem q19 : (Cond.fieldLink RX6 19 "TrousseauFlow" "snapshot" "LTrousseauFlow$Plan;" : Cond) ∈ wsL_law := lf_1 (List.mem_of_getElem? (i := 19) rfl)
theorem q20 : (Cond.fieldLink RX6 22 "TrousseauFlow" "marks" "[LTrousseauFlow$Plan;" : Cond) ∈ wsL_law := lf_1 (List.mem_of_getElem? (i := 20) rfl)
theorem q21 : (Cond.classLink RX6 26 RX3 : Cond) ∈ wsL_law := lf_1 (List.mem_of_getElem? (i := 21) rfl)
theorem q22 : (Cond.instantiable RX3 5 : Cond) ∈ wsL_law := lf_1 (List.mem_of_getElem? (i := 22) rfl)
theorem q23 : (Cond.initialized RX3 : Cond) ∈ wsL_law := lf_1 (List.mem_of_getElem? (i := 23) rfl)
theorem q24 : (Cond.fieldLink RX6 29 "TrousseauFlow" "text" "LTrousseauFlow$OrderText;" : Cond) ∈ wsL_law := lf_2 (List.mem_of_getElem? (i := 0) rfl)
theorem q25 : (Cond.classLink RX6 33 RX1 : Cond) ∈ wsL_law := lf_2 (List.mem_of_getElem? (i := 1) rfl)
theorem q26 : (Cond.instantiable RX1 2 : Cond) ∈ wsL_law := lf_2 (List.mem_of_getElem? (i := 2) rfl)
theorem q27 : (Cond.initialized RX1 : Cond) ∈ wsL_law := lf_2 (List.mem_of_getElem? (i := 3) rfl)
theorem q28 : (Cond.fieldLink RX6 36 "TrousseauFlow" "line" "LTrousseauFlow$Line;" : Cond) ∈ wsL_law := lf_2 (List.mem_of_getElem? (i := 4) rfl)
theorem q29 : (Cond.classLink RX6 40 RX0 : Cond) ∈ wsL_law := lf_2 (List.mem_of_getElem? (i := 5) rfl)
theorem q30 : (Cond.instantiable RX0 2 : Cond) ∈ wsL_law := lf_2 (List.mem_of_getElem? (i := 6) rfl)
theorem q31 : (Cond.initialized RX0 : Cond) ∈ wsL_law := lf_2 (List.mem_of_getElem? (i := 7) rfl)
theorem q32 : (Cond.fieldLink RX6 43 "TrousseauFlow" "chains" "LTrousseauFlow$Chains;" : Cond) ∈ wsL_law := lf_2 (List.mem_of_getElem? (i := 8) rfl)
theorem q33 : (Cond.methodLink RX6 11 yX4_init : Cond) ∈ wsL_law := lf_2 (List.mem_of_getElem? (i := 9) rfl)
theorem q34 : (Cond.instanceMethod yX4_init : Cond) ∈ wsL_law := lf_2 (List.mem_of_getElem? (i := 10) rfl)
theorem q35 : (Cond.code yX4_init cX4_init 2 none : Cond) ∈ wsL_law := lf_2 (List.mem_of_getElem? (i := 11) rfl)
theorem q36 : (Cond.methodLink RX4 3 objectInit : Cond) ∈ wsL_law := lf_2 (List.mem_of_getElem? (i := 12) rfl)
theorem q37 : (Cond.classLink RX4 9 RX5 : Cond) ∈ wsL_law := lf_2 (List.mem_of_getElem? (i := 13) rfl)
theorem q38 : (Cond.fieldLink RX4 11 "TrousseauFlow$Plan" "steps" "[LTrousseauFlow$Step;" : Cond) ∈ wsL_law := lf_2 (List.mem_of_getElem? (i := 14) rfl)
theorem q39 : (Cond.arrayClass .int : Cond) ∈ wsL_law := lf_2 (List.mem_of_getElem? (i := 15) rfl)
theorem q40 : (Cond.fieldLink RX4 17 "TrousseauFlow$Plan" "milestones" "[I" : Cond) ∈ wsL_law := lf_2 (List.mem_of_getElem? (i := 16) rfl)
theorem q41 : (Cond.fieldLink RX4 21 "TrousseauFlow$Plan" "events" "[I" : Cond) ∈ wsL_law := lf_2 (List.mem_of_getElem? (i := 17) rfl)
theorem q42 : (Cond.fieldLink RX4 24 "TrousseauFlow$Plan" "handCount" "I" : Cond) ∈ wsL_law := lf_2 (List.mem_of_getElem? (i := 18) rfl)
theorem q43 : (Cond.instantiable RX5 11 : Cond) ∈ wsL_law := lf_2 (List.mem_of_getElem? (i := 19) rfl)
theorem q44 : (Cond.initialized RX5 : Cond) ∈ wsL_law := lf_2 (List.mem_of_getElem? (i := 20) rfl)
theorem q45 : (Cond.instanceMethod yX5_init : Cond) ∈ wsL_law := lf_2 (List.mem_of_getElem? (i := 21) rfl)
theorem q46 : (Cond.code yX5_init cX5_init 1 none : Cond) ∈ wsL_law := lf_2 (List.mem_of_getElem? (i := 22) rfl)
theorem q47 : (Cond.methodLink RX5 3 objectInit : Cond) ∈ wsL_law := lf_2 (List.mem_of_getElem? (i := 23) rfl)
theorem q48 : (Cond.methodLink RX6 28 yX3_init : Cond) ∈ wsL_law := lf_3 (List.mem_of_getElem? (i := 0) rfl)
theorem q49 : (Cond.instanceMethod yX3_init : Cond) ∈ wsL_law := lf_3 (List.mem_of_getElem? (i := 1) rfl)
theorem q50 : (Cond.code yX3_init cX3_init 2 none : Cond) ∈ wsL_law := lf_3 (List.mem_of_getElem? (i := 2) rfl)
theorem q51 : (Cond.methodLink RX3 3 objectInit : Cond) ∈ wsL_law := lf_3 (List.mem_of_getElem? (i := 3) rfl)
theorem q52 : (Cond.arrayClass .char : Cond) ∈ wsL_law := lf_3 (List.mem_of_getElem? (i := 4) rfl)
theorem q53 : (Cond.fieldLink RX3 9 "TrousseauFlow$OrderText" "signs" "[C" : Cond) ∈ wsL_law := lf_3 (List.mem_of_getElem? (i := 5) rfl)
theorem q54 : (Cond.classLink RX3 15 RX2 : Cond) ∈ wsL_law := lf_3 (List.mem_of_getElem? (i := 6) rfl)
theorem q55 : (Cond.fieldLink RX3 17 "TrousseauFlow$OrderText" "orders" "[LTrousseauFlow$Order;" : Cond) ∈ wsL_law := lf_3 (List.mem_of_getElem? (i := 7) rfl)
theorem q56 : (Cond.instantiable RX2 5 : Cond) ∈ wsL_law := lf_3 (List.mem_of_getElem? (i := 8) rfl)
theorem q57 : (Cond.initialized RX2 : Cond) ∈ wsL_law := lf_3 (List.mem_of_getElem? (i := 9) rfl)
theorem q58 : (Cond.instanceMethod yX2_init : Cond) ∈ wsL_law := lf_3 (List.mem_of_getElem? (i := 10) rfl)
theorem q59 : (Cond.code yX2_init cX2_init 1 none : Cond) ∈ wsL_law := lf_3 (List.mem_of_getElem? (i := 11) rfl)
theorem q60 : (Cond.methodLink RX2 1 objectInit : Cond) ∈ wsL_law := lf_3 (List.mem_of_getElem? (i := 12) rfl)
theorem q61 : (Cond.instanceMethod yX1_init : Cond) ∈ wsL_law := lf_3 (List.mem_of_getElem? (i := 13) rfl)
theorem q62 : (Cond.code yX1_init cX1_init 1 none : Cond) ∈ wsL_law := lf_3 (List.mem_of_getElem? (i := 14) rfl)
theorem q63 : (Cond.methodLink RX1 3 objectInit : Cond) ∈ wsL_law := lf_3 (List.mem_of_getElem? (i := 15) rfl)
theorem q64 : (Cond.fieldLink RX1 9 "TrousseauFlow$Line" "signs" "[C" : Cond) ∈ wsL_law := lf_3 (List.mem_of_getElem? (i := 16) rfl)
theorem q65 : (Cond.instanceMethod yX0_init : Cond) ∈ wsL_law := lf_3 (List.mem_of_getElem? (i := 17) rfl)
theorem q66 : (Cond.code yX0_init cX0_init 1 none : Cond) ∈ wsL_law := lf_3 (List.mem_of_getElem? (i := 18) rfl)
theorem q67 : (Cond.methodLink RX0 3 objectInit : Cond) ∈ wsL_law := lf_3 (List.mem_of_getElem? (i := 19) rfl)
theorem q68 : (Cond.fieldLink RX0 9 "TrousseauFlow$Chains" "byNeeds" "[I" : Cond) ∈ wsL_law := lf_3 (List.mem_of_getElem? (i := 20) rfl)
theorem q69 : (Cond.fieldLink RX0 15 "TrousseauFlow$Chains" "byRounds" "[I" : Cond) ∈ wsL_law := lf_3 (List.mem_of_getElem? (i := 21) rfl)
theorem q70 : (Cond.methodLink RL 174 yX6_undo : Cond) ∈ wsL_law := lf_3 (List.mem_of_getElem? (i := 22) rfl)
theorem q71 : (Cond.instanceMethod yX6_undo : Cond) ∈ wsL_law := lf_3 (List.mem_of_getElem? (i := 23) rfl)
theorem q72 : (Cond.selects RX6 yX6_undo yX6_undo : Cond) ∈ wsL_law := lf_4 (List.mem_of_getElem? (i := 0) rfl)
theorem q73 : (Cond.code yX6_undo cX6_undo 1 (some .int) : Cond) ∈ wsL_law := lf_4 (List.mem_of_getElem? (i := 1) rfl)
theorem q74 : (Cond.fieldLink RX6 247 "TrousseauFlow" "undoable" "I" : Cond) ∈ wsL_law := lf_4 (List.mem_of_getElem? (i := 2) rfl)
theorem q75 : (Cond.fieldLink RX6 198 "TrousseauFlow" "nextMark" "I" : Cond) ∈ wsL_law := lf_4 (List.mem_of_getElem? (i := 3) rfl)
theorem q76 : (Cond.methodLink RX6 139 yX4_copyFrom : Cond) ∈ wsL_law := lf_4 (List.mem_of_getElem? (i := 4) rfl)
theorem q77 : (Cond.instanceMethod yX4_copyFrom : Cond) ∈ wsL_law := lf_4 (List.mem_of_getElem? (i := 5) rfl)
theorem q78 : (Cond.selects RX4 yX4_copyFrom yX4_copyFrom : Cond) ∈ wsL_law := lf_4 (List.mem_of_getElem? (i := 6) rfl)
theorem q79 : (Cond.code yX4_copyFrom cX4_copyFrom 3 none : Cond) ∈ wsL_law := lf_4 (List.mem_of_getElem? (i := 7) rfl)
theorem q80 : (Cond.fieldLink RX4 29 "TrousseauFlow$Plan" "count" "I" : Cond) ∈ wsL_law := lf_4 (List.mem_of_getElem? (i := 8) rfl)
theorem q81 : (Cond.methodLink RX4 36 arraycopyName : Cond) ∈ wsL_law := lf_4 (List.mem_of_getElem? (i := 9) rfl)
theorem q82 : (Cond.native arraycopyName : Cond) ∈ wsL_law := lf_4 (List.mem_of_getElem? (i := 10) rfl)
theorem q83 : (Cond.static arraycopyName : Cond) ∈ wsL_law := lf_4 (List.mem_of_getElem? (i := 11) rfl)
theorem q84 : (Cond.initialized "java/lang/System" : Cond) ∈ wsL_law := lf_4 (List.mem_of_getElem? (i := 12) rfl)
theorem q85 : (Cond.fieldLink RX4 42 "TrousseauFlow$Plan" "milestoneCount" "I" : Cond) ∈ wsL_law := lf_4 (List.mem_of_getElem? (i := 13) rfl)
theorem q86 : (Cond.fieldLink RX4 45 "TrousseauFlow$Plan" "nextEvent" "I" : Cond) ∈ wsL_law := lf_4 (List.mem_of_getElem? (i := 14) rfl)
theorem q87 : (Cond.fieldLink RX4 48 "TrousseauFlow$Plan" "eventCount" "I" : Cond) ∈ wsL_law := lf_4 (List.mem_of_getElem? (i := 15) rfl)
theorem q88 : (Cond.fieldLink RX4 51 "TrousseauFlow$Plan" "day" "I" : Cond) ∈ wsL_law := lf_4 (List.mem_of_getElem? (i := 16) rfl)
theorem q89 : (Cond.fieldLink RX4 54 "TrousseauFlow$Plan" "cancelled" "I" : Cond) ∈ wsL_law := lf_4 (List.mem_of_getElem? (i := 17) rfl)
theorem q90 : (Cond.fieldLink RX4 57 "TrousseauFlow$Plan" "triesBegun" "I" : Cond) ∈ wsL_law := lf_4 (List.mem_of_getElem? (i := 18) rfl)
theorem q91 : (Cond.fieldLink RX4 60 "TrousseauFlow$Plan" "triesWrong" "I" : Cond) ∈ wsL_law := lf_4 (List.mem_of_getElem? (i := 19) rfl)
theorem q92 : (Cond.fieldLink RX4 63 "TrousseauFlow$Plan" "doneSoFar" "I" : Cond) ∈ wsL_law := lf_4 (List.mem_of_getElem? (i := 20) rfl)
theorem q93 : (Cond.fieldLink RX4 66 "TrousseauFlow$Plan" "undoneSoFar" "I" : Cond) ∈ wsL_law := lf_4 (List.mem_of_getElem? (i := 21) rfl)
theorem q94 : (Cond.methodLink RX4 32 yX5_copyFrom : Cond) ∈ wsL_law := lf_4 (List.mem_of_getElem? (i := 22) rfl)
theorem q95 : (Cond.instanceMethod yX5_copyFrom : Cond) ∈ wsL_law := lf_4 (List.mem_of_getElem? (i := 23) rfl)
theorem q96 : (Cond.selects RX5 yX5_copyFrom yX5_copyFrom : Cond) ∈ wsL_law := lf_5 (List.mem_of_getElem? (i := 0) rfl)
theorem q97 : (Cond.code yX5_copyFrom cX5_copyFrom 2 none : Cond) ∈ wsL_law := lf_5 (List.mem_of_getElem? (i := 1) rfl)
theorem q98 : (Cond.fieldLink RX5 9 "TrousseauFlow$Step" "days" "I" : Cond) ∈ wsL_law := lf_5 (List.mem_of_getElem? (i := 2) rfl)
theorem q99 : (Cond.fieldLink RX5 15 "TrousseauFlow$Step" "more" "I" : Cond) ∈ wsL_law := lf_5 (List.mem_of_getElem? (i := 3) rfl)
theorem q100 : (Cond.fieldLink RX5 18 "TrousseauFlow$Step" "branch" "I" : Cond) ∈ wsL_law := lf_5 (List.mem_of_getElem? (i := 4) rfl)
theorem q101 : (Cond.fieldLink RX5 21 "TrousseauFlow$Step" "isAny" "Z" : Cond) ∈ wsL_law := lf_5 (List.mem_of_getElem? (i := 5) rfl)
theorem q102 : (Cond.fieldLink RX5 25 "TrousseauFlow$Step" "needs" "I" : Cond) ∈ wsL_law := lf_5 (List.mem_of_getElem? (i := 6) rfl)
theorem q103 : (Cond.fieldLink RX5 28 "TrousseauFlow$Step" "dueDay" "I" : Cond) ∈ wsL_law := lf_5 (List.mem_of_getElem? (i := 7) rfl)
theorem q104 : (Cond.fieldLink RX5 31 "TrousseauFlow$Step" "how" "I" : Cond) ∈ wsL_law := lf_5 (List.mem_of_getElem? (i := 8) rfl)
theorem q105 : (Cond.fieldLink RX5 34 "TrousseauFlow$Step" "toGo" "I" : Cond) ∈ wsL_law := lf_5 (List.mem_of_getElem? (i := 9) rfl)
theorem q106 : (Cond.fieldLink RX5 37 "TrousseauFlow$Step" "begun" "I" : Cond) ∈ wsL_law := lf_5 (List.mem_of_getElem? (i := 10) rfl)
theorem q107 : (Cond.fieldLink RX5 40 "TrousseauFlow$Step" "wrongNext" "I" : Cond) ∈ wsL_law := lf_5 (List.mem_of_getElem? (i := 11) rfl)
theorem q108 : (Cond.fieldLink RX5 43 "TrousseauFlow$Step" "doneDay" "I" : Cond) ∈ wsL_law := lf_5 (List.mem_of_getElem? (i := 12) rfl)
theorem q109 : (Cond.methodLink RL 177 yX6_restore : Cond) ∈ wsL_law := lf_5 (List.mem_of_getElem? (i := 13) rfl)
theorem q110 : (Cond.instanceMethod yX6_restore : Cond) ∈ wsL_law := lf_5 (List.mem_of_getElem? (i := 14) rfl)
theorem q111 : (Cond.selects RX6 yX6_restore yX6_restore : Cond) ∈ wsL_law := lf_5 (List.mem_of_getElem? (i := 15) rfl)
theorem q112 : (Cond.code yX6_restore cX6_restore 1 (some .int) : Cond) ∈ wsL_law := lf_5 (List.mem_of_getElem? (i := 16) rfl)
theorem q113 : (Cond.fieldLink RX6 250 "TrousseauFlow" "hasSnapshot" "Z" : Cond) ∈ wsL_law := lf_5 (List.mem_of_getElem? (i := 17) rfl)
theorem q114 : (Cond.fieldLink RX6 226 "TrousseauFlow$Plan" "day" "I" : Cond) ∈ wsL_law := lf_5 (List.mem_of_getElem? (i := 18) rfl)
theorem q115 : (Cond.methodLink RL 180 yX6_save : Cond) ∈ wsL_law := lf_5 (List.mem_of_getElem? (i := 19) rfl)
theorem q116 : (Cond.instanceMethod yX6_save : Cond) ∈ wsL_law := lf_5 (List.mem_of_getElem? (i := 20) rfl)
theorem q117 : (Cond.selects RX6 yX6_save yX6_save : Cond) ∈ wsL_law := lf_5 (List.mem_of_getElem? (i := 21) rfl)
theorem q118 : (Cond.code yX6_save cX6_save 1 (some .int) : Cond) ∈ wsL_law := lf_5 (List.mem_of_getElem? (i := 22) rfl)
theorem q119 : (Cond.methodLink RL 56 yX6_hands : Cond) ∈ wsL_law := lf_5 (List.mem_of_getElem? (i := 23) rfl)
theorem q120 : (Cond.instanceMethod yX6_hands : Cond) ∈ wsL_law := lf_6 (List.mem_of_getElem? (i := 0) rfl)
theorem q121 : (Cond.selects RX6 yX6_hands yX6_hands : Cond) ∈ wsL_law := lf_6 (List.mem_of_getElem? (i := 1) rfl)
theorem q122 : (Cond.code yX6_hands cX6_hands 2 (some .int) : Cond) ∈ wsL_law := lf_6 (List.mem_of_getElem? (i := 2) rfl)
theorem q123 : (Cond.methodLink RX6 47 yX6_markBefore : Cond) ∈ wsL_law := lf_6 (List.mem_of_getElem? (i := 3) rfl)
theorem q124 : (Cond.instanceMethod yX6_markBefore : Cond) ∈ wsL_law := lf_6 (List.mem_of_getElem? (i := 4) rfl)
theorem q125 : (Cond.selects RX6 yX6_markBefore yX6_markBefore : Cond) ∈ wsL_law := lf_6 (List.mem_of_getElem? (i := 5) rfl)
theorem q126 : (Cond.code yX6_markBefore cX6_markBefore 1 none : Cond) ∈ wsL_law := lf_6 (List.mem_of_getElem? (i := 6) rfl)
theorem q127 : (Cond.methodLink RX6 65 yX6_setHands : Cond) ∈ wsL_law := lf_6 (List.mem_of_getElem? (i := 7) rfl)
theorem q128 : (Cond.instanceMethod yX6_setHands : Cond) ∈ wsL_law := lf_6 (List.mem_of_getElem? (i := 8) rfl)
theorem q129 : (Cond.selects RX6 yX6_setHands yX6_setHands : Cond) ∈ wsL_law := lf_6 (List.mem_of_getElem? (i := 9) rfl)
theorem q130 : (Cond.code yX6_setHands cX6_setHands 3 (some .int) : Cond) ∈ wsL_law := lf_6 (List.mem_of_getElem? (i := 10) rfl)
theorem q131 : (Cond.fieldLink RX6 229 "TrousseauFlow$Plan" "handCount" "I" : Cond) ∈ wsL_law := lf_6 (List.mem_of_getElem? (i := 11) rfl)
theorem q132 : (Cond.methodLink RX6 253 yX6_isWithin : Cond) ∈ wsL_law := lf_6 (List.mem_of_getElem? (i := 12) rfl)
theorem q133 : (Cond.static yX6_isWithin : Cond) ∈ wsL_law := lf_6 (List.mem_of_getElem? (i := 13) rfl)
theorem q134 : (Cond.code yX6_isWithin cX6_isWithin 3 (some .boolean) : Cond) ∈ wsL_law := lf_6 (List.mem_of_getElem? (i := 14) rfl)
theorem q135 : (Cond.methodLink RX6 54 yX6_keepChange : Cond) ∈ wsL_law := lf_6 (List.mem_of_getElem? (i := 15) rfl)
theorem q136 : (Cond.instanceMethod yX6_keepChange : Cond) ∈ wsL_law := lf_6 (List.mem_of_getElem? (i := 16) rfl)
theorem q137 : (Cond.selects RX6 yX6_keepChange yX6_keepChange : Cond) ∈ wsL_law := lf_6 (List.mem_of_getElem? (i := 17) rfl)
theorem q138 : (Cond.code yX6_keepChange cX6_keepChange 2 (some .int) : Cond) ∈ wsL_law := lf_6 (List.mem_of_getElem? (i := 18) rfl)
theorem q139 : (Cond.methodLink RL 17 yX6_append : Cond) ∈ wsL_law := lf_6 (List.mem_of_getElem? (i := 19) rfl)
theorem q140 : (Cond.instanceMethod yX6_append : Cond) ∈ wsL_law := lf_6 (List.mem_of_getElem? (i := 20) rfl)
theorem q141 : (Cond.selects RX6 yX6_append yX6_append : Cond) ∈ wsL_law := lf_6 (List.mem_of_getElem? (i := 21) rfl)
theorem q142 : (Cond.code yX6_append cX6_append 2 (some .int) : Cond) ∈ wsL_law := lf_6 (List.mem_of_getElem? (i := 22) rfl)
theorem q143 : (Cond.fieldLink RX6 176 "TrousseauFlow$OrderText" "length" "I" : Cond) ∈ wsL_law := lf_6 (List.mem_of_getElem? (i := 23) rfl)
theorem q144 : (Cond.methodLink RX6 179 yX3_addSign : Cond) ∈ wsL_law := lf_7 (List.mem_of_getElem? (i := 0) rfl)
theorem q145 : (Cond.instanceMethod yX3_addSign : Cond) ∈ wsL_law := lf_7 (List.mem_of_getElem? (i := 1) rfl)
theorem q146 : (Cond.selects RX3 yX3_addSign yX3_addSign : Cond) ∈ wsL_law := lf_7 (List.mem_of_getElem? (i := 2) rfl)
theorem q147 : (Cond.code yX3_addSign cX3_addSign 2 none : Cond) ∈ wsL_law := lf_7 (List.mem_of_getElem? (i := 3) rfl)
theorem q148 : (Cond.fieldLink RX3 22 "TrousseauFlow$OrderText" "length" "I" : Cond) ∈ wsL_law := lf_7 (List.mem_of_getElem? (i := 4) rfl)
theorem q149 : (Cond.methodLink RL 87 yX6_account : Cond) ∈ wsL_law := lf_7 (List.mem_of_getElem? (i := 5) rfl)
theorem q150 : (Cond.instanceMethod yX6_account : Cond) ∈ wsL_law := lf_7 (List.mem_of_getElem? (i := 6) rfl)
theorem q151 : (Cond.selects RX6 yX6_account yX6_account : Cond) ∈ wsL_law := lf_7 (List.mem_of_getElem? (i := 7) rfl)
theorem q152 : (Cond.code yX6_account cX6_account 2 (some .int) : Cond) ∈ wsL_law := lf_7 (List.mem_of_getElem? (i := 8) rfl)
theorem q153 : (Cond.fieldLink RX6 170 "TrousseauFlow$Plan" "count" "I" : Cond) ∈ wsL_law := lf_7 (List.mem_of_getElem? (i := 9) rfl)
theorem q154 : (Cond.fieldLink RX6 126 "TrousseauFlow$Plan" "milestoneCount" "I" : Cond) ∈ wsL_law := lf_7 (List.mem_of_getElem? (i := 10) rfl)
theorem q155 : (Cond.fieldLink RX6 232 "TrousseauFlow$Plan" "cancelled" "I" : Cond) ∈ wsL_law := lf_7 (List.mem_of_getElem? (i := 11) rfl)
theorem q156 : (Cond.fieldLink RX6 235 "TrousseauFlow$Plan" "triesBegun" "I" : Cond) ∈ wsL_law := lf_7 (List.mem_of_getElem? (i := 12) rfl)
theorem q157 : (Cond.fieldLink RX6 238 "TrousseauFlow$Plan" "triesWrong" "I" : Cond) ∈ wsL_law := lf_7 (List.mem_of_getElem? (i := 13) rfl)
theorem q158 : (Cond.fieldLink RX6 241 "TrousseauFlow$Plan" "doneSoFar" "I" : Cond) ∈ wsL_law := lf_7 (List.mem_of_getElem? (i := 14) rfl)
theorem q159 : (Cond.fieldLink RX6 244 "TrousseauFlow$Plan" "undoneSoFar" "I" : Cond) ∈ wsL_law := lf_7 (List.mem_of_getElem? (i := 15) rfl)
theorem q160 : (Cond.methodLink RX6 146 yX4_countOf : Cond) ∈ wsL_law := lf_7 (List.mem_of_getElem? (i := 16) rfl)
theorem q161 : (Cond.instanceMethod yX4_countOf : Cond) ∈ wsL_law := lf_7 (List.mem_of_getElem? (i := 17) rfl)
theorem q162 : (Cond.selects RX4 yX4_countOf yX4_countOf : Cond) ∈ wsL_law := lf_7 (List.mem_of_getElem? (i := 18) rfl)
theorem q163 : (Cond.code yX4_countOf cX4_countOf 2 (some .int) : Cond) ∈ wsL_law := lf_7 (List.mem_of_getElem? (i := 19) rfl)
theorem q164 : (Cond.methodLink RX4 96 yX4_setOf : Cond) ∈ wsL_law := lf_7 (List.mem_of_getElem? (i := 20) rfl)
theorem q165 : (Cond.instanceMethod yX4_setOf : Cond) ∈ wsL_law := lf_7 (List.mem_of_getElem? (i := 21) rfl)
theorem q166 : (Cond.selects RX4 yX4_setOf yX4_setOf : Cond) ∈ wsL_law := lf_7 (List.mem_of_getElem? (i := 22) rfl)
theorem q167 : (Cond.code yX4_setOf cX4_setOf 4 (some .int) : Cond) ∈ wsL_law := lf_7 (List.mem_of_getElem? (i := 23) rfl)
theorem q168 : (Cond.fieldLink RX4 84 "TrousseauFlow$Step" "how" "I" : Cond) ∈ wsL_law := lf_8 (List.mem_of_getElem? (i := 0) rfl)
theorem q169 : (Cond.methodLink RX4 100 yJ6_bitCount_0f7a4 : Cond) ∈ wsL_law := lf_8 (List.mem_of_getElem? (i := 1) rfl)
theorem q170 : (Cond.static yJ6_bitCount_0f7a4 : Cond) ∈ wsL_law := lf_8 (List.mem_of_getElem? (i := 2) rfl)
theorem q171 : (Cond.initialized RJ6 : Cond) ∈ wsL_law := lf_8 (List.mem_of_getElem? (i := 3) rfl)
theorem q172 : (Cond.code yJ6_bitCount_0f7a4 cJ6_bitCount_0f7a4 1 (some .int) : Cond) ∈ wsL_law := lf_8 (List.mem_of_getElem? (i := 4) rfl)
theorem q173 : (Cond.constant RJ6 265 (1431655765) : Cond) ∈ wsL_law := lf_8 (List.mem_of_getElem? (i := 5) rfl)
theorem q174 : (Cond.constant RJ6 266 (858993459) : Cond) ∈ wsL_law := lf_8 (List.mem_of_getElem? (i := 6) rfl)
theorem q175 : (Cond.constant RJ6 267 (252645135) : Cond) ∈ wsL_law := lf_8 (List.mem_of_getElem? (i := 7) rfl)
theorem q176 : (Cond.methodLink RL 23 yX6_run : Cond) ∈ wsL_law := lf_8 (List.mem_of_getElem? (i := 8) rfl)
theorem q177 : (Cond.instanceMethod yX6_run : Cond) ∈ wsL_law := lf_8 (List.mem_of_getElem? (i := 9) rfl)
theorem q178 : (Cond.selects RX6 yX6_run yX6_run : Cond) ∈ wsL_law := lf_8 (List.mem_of_getElem? (i := 10) rfl)
theorem q179 : (Cond.code yX6_run cX6_run 3 (some .int) : Cond) ∈ wsL_law := lf_8 (List.mem_of_getElem? (i := 11) rfl)
theorem q180 : (Cond.fieldLink RX6 187 "TrousseauFlow$OrderText" "orderCount" "I" : Cond) ∈ wsL_law := lf_8 (List.mem_of_getElem? (i := 12) rfl)
theorem q181 : (Cond.fieldLink RX6 190 "TrousseauFlow$OrderText" "orders" "[LTrousseauFlow$Order;" : Cond) ∈ wsL_law := lf_8 (List.mem_of_getElem? (i := 13) rfl)
theorem q182 : (Cond.methodLink RX6 183 yX3_readOrders : Cond) ∈ wsL_law := lf_8 (List.mem_of_getElem? (i := 14) rfl)
theorem q183 : (Cond.instanceMethod yX3_readOrders : Cond) ∈ wsL_law := lf_8 (List.mem_of_getElem? (i := 15) rfl)
theorem q184 : (Cond.selects RX3 yX3_readOrders yX3_readOrders : Cond) ∈ wsL_law := lf_8 (List.mem_of_getElem? (i := 16) rfl)
theorem q185 : (Cond.code yX3_readOrders cX3_readOrders 2 (some .int) : Cond) ∈ wsL_law := lf_8 (List.mem_of_getElem? (i := 17) rfl)
theorem q186 : (Cond.fieldLink RX3 26 "TrousseauFlow$OrderText" "at" "I" : Cond) ∈ wsL_law := lf_8 (List.mem_of_getElem? (i := 18) rfl)
theorem q187 : (Cond.fieldLink RX3 29 "TrousseauFlow$OrderText" "orderCount" "I" : Cond) ∈ wsL_law := lf_8 (List.mem_of_getElem? (i := 19) rfl)
theorem q188 : (Cond.methodLink RX3 32 yX3_readOrder : Cond) ∈ wsL_law := lf_8 (List.mem_of_getElem? (i := 20) rfl)
theorem q189 : (Cond.instanceMethod yX3_readOrder : Cond) ∈ wsL_law := lf_8 (List.mem_of_getElem? (i := 21) rfl)
theorem q190 : (Cond.selects RX3 yX3_readOrder yX3_readOrder : Cond) ∈ wsL_law := lf_8 (List.mem_of_getElem? (i := 22) rfl)
theorem q191 : (Cond.code yX3_readOrder cX3_readOrder 2 (some .boolean) : Cond) ∈ wsL_law := lf_8 (List.mem_of_getElem? (i := 23) rfl)
theorem q192 : (Cond.fieldLink RX3 40 "TrousseauFlow$Order" "kind" "C" : Cond) ∈ wsL_law := lf_9 (List.mem_of_getElem? (i := 0) rfl)
theorem q193 : (Cond.methodLink RX3 44 yX3_readStep : Cond) ∈ wsL_law := lf_9 (List.mem_of_getElem? (i := 1) rfl)
theorem q194 : (Cond.instanceMethod yX3_readStep : Cond) ∈ wsL_law := lf_9 (List.mem_of_getElem? (i := 2) rfl)
theorem q195 : (Cond.selects RX3 yX3_readStep yX3_readStep : Cond) ∈ wsL_law := lf_9 (List.mem_of_getElem? (i := 3) rfl)
theorem q196 : (Cond.code yX3_readStep cX3_readStep 2 (some .boolean) : Cond) ∈ wsL_law := lf_9 (List.mem_of_getElem? (i := 4) rfl)
theorem q197 : (Cond.fieldLink RX3 73 "TrousseauFlow$Order" "second" "I" : Cond) ∈ wsL_law := lf_9 (List.mem_of_getElem? (i := 5) rfl)
theorem q198 : (Cond.fieldLink RX3 76 "TrousseauFlow$Order" "third" "I" : Cond) ∈ wsL_law := lf_9 (List.mem_of_getElem? (i := 6) rfl)
theorem q199 : (Cond.fieldLink RX3 79 "TrousseauFlow$Order" "isAny" "Z" : Cond) ∈ wsL_law := lf_9 (List.mem_of_getElem? (i := 7) rfl)
theorem q200 : (Cond.methodLink RX3 57 yX3_readOne : Cond) ∈ wsL_law := lf_9 (List.mem_of_getElem? (i := 8) rfl)
theorem q201 : (Cond.instanceMethod yX3_readOne : Cond) ∈ wsL_law := lf_9 (List.mem_of_getElem? (i := 9) rfl)
theorem q202 : (Cond.selects RX3 yX3_readOne yX3_readOne : Cond) ∈ wsL_law := lf_9 (List.mem_of_getElem? (i := 10) rfl)
theorem q203 : (Cond.code yX3_readOne cX3_readOne 4 (some .boolean) : Cond) ∈ wsL_law := lf_9 (List.mem_of_getElem? (i := 11) rfl)
theorem q204 : (Cond.fieldLink RX3 87 "TrousseauFlow$Order" "first" "I" : Cond) ∈ wsL_law := lf_9 (List.mem_of_getElem? (i := 12) rfl)
theorem q205 : (Cond.methodLink RX3 83 yX3_takeWord : Cond) ∈ wsL_law := lf_9 (List.mem_of_getElem? (i := 13) rfl)
theorem q206 : (Cond.instanceMethod yX3_takeWord : Cond) ∈ wsL_law := lf_9 (List.mem_of_getElem? (i := 14) rfl)
theorem q207 : (Cond.selects RX3 yX3_takeWord yX3_takeWord : Cond) ∈ wsL_law := lf_9 (List.mem_of_getElem? (i := 15) rfl)
theorem q208 : (Cond.code yX3_takeWord cX3_takeWord 3 (some .boolean) : Cond) ∈ wsL_law := lf_9 (List.mem_of_getElem? (i := 16) rfl)
theorem q209 : (Cond.methodLink RX3 90 yJ0_length_8abf5 : Cond) ∈ wsL_law := lf_9 (List.mem_of_getElem? (i := 17) rfl)
theorem q210 : (Cond.instanceMethod yJ0_length_8abf5 : Cond) ∈ wsL_law := lf_9 (List.mem_of_getElem? (i := 18) rfl)
theorem q211 : (Cond.selects RJ0 yJ0_length_8abf5 yJ0_length_8abf5 : Cond) ∈ wsL_law := lf_9 (List.mem_of_getElem? (i := 19) rfl)
theorem q212 : (Cond.initialized RJ0 : Cond) ∈ wsL_law := lf_9 (List.mem_of_getElem? (i := 20) rfl)
theorem q213 : (Cond.code yJ0_length_8abf5 cJ0_length_8abf5 1 (some .int) : Cond) ∈ wsL_law := lf_9 (List.mem_of_getElem? (i := 21) rfl)
theorem q214 : (Cond.fieldLink RJ0 9 "java/lang/String" "value" "[B" : Cond) ∈ wsL_law := lf_9 (List.mem_of_getElem? (i := 22) rfl)
theorem q215 : (Cond.methodLink RJ0 335 yJ0_coder_7d493 : Cond) ∈ wsL_law := lf_9 (List.mem_of_getElem? (i := 23) rfl)
theorem q216 : (Cond.instanceMethod yJ0_coder_7d493 : Cond) ∈ wsL_law := lf_10 (List.mem_of_getElem? (i := 0) rfl)
theorem q217 : (Cond.selects RJ0 yJ0_coder_7d493 yJ0_coder_7d493 : Cond) ∈ wsL_law := lf_10 (List.mem_of_getElem? (i := 1) rfl)
theorem q218 : (Cond.code yJ0_coder_7d493 cJ0_coder_7d493 1 (some .byte) : Cond) ∈ wsL_law := lf_10 (List.mem_of_getElem? (i := 2) rfl)
theorem q219 : (Cond.fieldLink RJ0 38 "java/lang/String" "COMPACT_STRINGS" "Z" : Cond) ∈ wsL_law := lf_10 (List.mem_of_getElem? (i := 3) rfl)
theorem q220 : (Cond.fieldLink RJ0 15 "java/lang/String" "coder" "B" : Cond) ∈ wsL_law := lf_10 (List.mem_of_getElem? (i := 4) rfl)
theorem q221 : (Cond.methodLink RX3 95 yJ0_charAt_5068e : Cond) ∈ wsL_law := lf_10 (List.mem_of_getElem? (i := 5) rfl)
theorem q222 : (Cond.instanceMethod yJ0_charAt_5068e : Cond) ∈ wsL_law := lf_10 (List.mem_of_getElem? (i := 6) rfl)
theorem q223 : (Cond.selects RJ0 yJ0_charAt_5068e yJ0_charAt_5068e : Cond) ∈ wsL_law := lf_10 (List.mem_of_getElem? (i := 7) rfl)
theorem q224 : (Cond.code yJ0_charAt_5068e cJ0_charAt_5068e 2 (some .char) : Cond) ∈ wsL_law := lf_10 (List.mem_of_getElem? (i := 8) rfl)
theorem q225 : (Cond.methodLink RJ0 492 yJ0_isLatin1_aae02 : Cond) ∈ wsL_law := lf_10 (List.mem_of_getElem? (i := 9) rfl)
theorem q226 : (Cond.instanceMethod yJ0_isLatin1_aae02 : Cond) ∈ wsL_law := lf_10 (List.mem_of_getElem? (i := 10) rfl)
theorem q227 : (Cond.selects RJ0 yJ0_isLatin1_aae02 yJ0_isLatin1_aae02 : Cond) ∈ wsL_law := lf_10 (List.mem_of_getElem? (i := 11) rfl)
theorem q228 : (Cond.code yJ0_isLatin1_aae02 cJ0_isLatin1_aae02 1 (some .boolean) : Cond) ∈ wsL_law := lf_10 (List.mem_of_getElem? (i := 12) rfl)
theorem q229 : (Cond.methodLink RJ0 495 yJ1_charAt_3b067 : Cond) ∈ wsL_law := lf_10 (List.mem_of_getElem? (i := 13) rfl)
theorem q230 : (Cond.static yJ1_charAt_3b067 : Cond) ∈ wsL_law := lf_10 (List.mem_of_getElem? (i := 14) rfl)
theorem q231 : (Cond.initialized RJ1 : Cond) ∈ wsL_law := lf_10 (List.mem_of_getElem? (i := 15) rfl)
theorem q232 : (Cond.code yJ1_charAt_3b067 cJ1_charAt_3b067 2 (some .char) : Cond) ∈ wsL_law := lf_10 (List.mem_of_getElem? (i := 16) rfl)
theorem q233 : (Cond.methodLink RJ1 9 yJ0_checkIndex_df160 : Cond) ∈ wsL_law := lf_10 (List.mem_of_getElem? (i := 17) rfl)
theorem q234 : (Cond.static yJ0_checkIndex_df160 : Cond) ∈ wsL_law := lf_10 (List.mem_of_getElem? (i := 18) rfl)
theorem q235 : (Cond.code yJ0_checkIndex_df160 cJ0_checkIndex_df160 2 none : Cond) ∈ wsL_law := lf_10 (List.mem_of_getElem? (i := 19) rfl)
theorem q236 : (Cond.fieldLink RJ0 1053 "jdk/internal/util/Preconditions" "SIOOBE_FORMATTER" "Ljava/util/function/BiFunction;" : Cond) ∈ wsL_law := lf_10 (List.mem_of_getElem? (i := 20) rfl)
theorem q237 : (Cond.methodLink RJ0 1059 yJ3_checkIndex_8e157 : Cond) ∈ wsL_law := lf_10 (List.mem_of_getElem? (i := 21) rfl)
theorem q238 : (Cond.static yJ3_checkIndex_8e157 : Cond) ∈ wsL_law := lf_10 (List.mem_of_getElem? (i := 22) rfl)
theorem q239 : (Cond.initialized RJ3 : Cond) ∈ wsL_law := lf_10 (List.mem_of_getElem? (i := 23) rfl)
theorem q240 : (Cond.code yJ3_checkIndex_8e157 cJ3_checkIndex_8e157 3 (some .int) : Cond) ∈ wsL_law := lf_11 (List.mem_of_getElem? (i := 0) rfl)
theorem q241 : (Cond.methodLink RJ0 498 yJ2_charAt_3b067 : Cond) ∈ wsL_law := lf_11 (List.mem_of_getElem? (i := 1) rfl)
theorem q242 : (Cond.static yJ2_charAt_3b067 : Cond) ∈ wsL_law := lf_11 (List.mem_of_getElem? (i := 2) rfl)
theorem q243 : (Cond.initialized RJ2 : Cond) ∈ wsL_law := lf_11 (List.mem_of_getElem? (i := 3) rfl)
theorem q244 : (Cond.code yJ2_charAt_3b067 cJ2_charAt_3b067 2 (some .char) : Cond) ∈ wsL_law := lf_11 (List.mem_of_getElem? (i := 4) rfl)
theorem q245 : (Cond.methodLink RJ2 67 yJ2_checkIndex_2214a : Cond) ∈ wsL_law := lf_11 (List.mem_of_getElem? (i := 5) rfl)
theorem q246 : (Cond.static yJ2_checkIndex_2214a : Cond) ∈ wsL_law := lf_11 (List.mem_of_getElem? (i := 6) rfl)
theorem q247 : (Cond.code yJ2_checkIndex_2214a cJ2_checkIndex_2214a 2 none : Cond) ∈ wsL_law := lf_11 (List.mem_of_getElem? (i := 7) rfl)
theorem q248 : (Cond.methodLink RJ2 48 yJ2_length_9d52b : Cond) ∈ wsL_law := lf_11 (List.mem_of_getElem? (i := 8) rfl)
theorem q249 : (Cond.static yJ2_length_9d52b : Cond) ∈ wsL_law := lf_11 (List.mem_of_getElem? (i := 9) rfl)
theorem q250 : (Cond.code yJ2_length_9d52b cJ2_length_9d52b 1 (some .int) : Cond) ∈ wsL_law := lf_11 (List.mem_of_getElem? (i := 10) rfl)
theorem q251 : (Cond.methodLink RJ2 414 yJ0_checkIndex_df160 : Cond) ∈ wsL_law := lf_11 (List.mem_of_getElem? (i := 11) rfl)
theorem q252 : (Cond.methodLink RJ2 71 yJ2_getChar_3b067 : Cond) ∈ wsL_law := lf_11 (List.mem_of_getElem? (i := 12) rfl)
theorem q253 : (Cond.static yJ2_getChar_3b067 : Cond) ∈ wsL_law := lf_11 (List.mem_of_getElem? (i := 13) rfl)
theorem q254 : (Cond.code yJ2_getChar_3b067 cJ2_getChar_3b067 2 (some .char) : Cond) ∈ wsL_law := lf_11 (List.mem_of_getElem? (i := 14) rfl)
theorem q255 : (Cond.fieldLink RJ2 44 "java/lang/StringUTF16" "$assertionsDisabled" "Z" : Cond) ∈ wsL_law := lf_11 (List.mem_of_getElem? (i := 15) rfl)
theorem q256 : (Cond.fieldLink RJ2 59 "java/lang/StringUTF16" "HI_BYTE_SHIFT" "I" : Cond) ∈ wsL_law := lf_11 (List.mem_of_getElem? (i := 16) rfl)
theorem q257 : (Cond.fieldLink RJ2 63 "java/lang/StringUTF16" "LO_BYTE_SHIFT" "I" : Cond) ∈ wsL_law := lf_11 (List.mem_of_getElem? (i := 17) rfl)
theorem q258 : (Cond.methodLink RX3 36 yX3_takeSign : Cond) ∈ wsL_law := lf_11 (List.mem_of_getElem? (i := 18) rfl)
theorem q259 : (Cond.instanceMethod yX3_takeSign : Cond) ∈ wsL_law := lf_11 (List.mem_of_getElem? (i := 19) rfl)
theorem q260 : (Cond.selects RX3 yX3_takeSign yX3_takeSign : Cond) ∈ wsL_law := lf_11 (List.mem_of_getElem? (i := 20) rfl)
theorem q261 : (Cond.code yX3_takeSign cX3_takeSign 2 (some .boolean) : Cond) ∈ wsL_law := lf_11 (List.mem_of_getElem? (i := 21) rfl)
theorem q262 : (Cond.methodLink RX3 69 yX3_takeNumber : Cond) ∈ wsL_law := lf_11 (List.mem_of_getElem? (i := 22) rfl)
theorem q263 : (Cond.instanceMethod yX3_takeNumber : Cond) ∈ wsL_law := lf_11 (List.mem_of_getElem? (i := 23) rfl)
theorem q264 : (Cond.selects RX3 yX3_takeNumber yX3_takeNumber : Cond) ∈ wsL_law := lf_12 (List.mem_of_getElem? (i := 0) rfl)
theorem q265 : (Cond.code yX3_takeNumber cX3_takeNumber 4 (some .int) : Cond) ∈ wsL_law := lf_12 (List.mem_of_getElem? (i := 1) rfl)
theorem q266 : (Cond.methodLink RX3 99 Lib.Math.max.name : Cond) ∈ wsL_law := lf_12 (List.mem_of_getElem? (i := 2) rfl)
theorem q267 : (Cond.static Lib.Math.max.name : Cond) ∈ wsL_law := lf_12 (List.mem_of_getElem? (i := 3) rfl)
theorem q268 : (Cond.code Lib.Math.max.name Lib.Math.max.code 2 (some .int) : Cond) ∈ wsL_law := lf_12 (List.mem_of_getElem? (i := 4) rfl)
theorem q269 : (Cond.methodLink RX3 49 yX3_readPair : Cond) ∈ wsL_law := lf_12 (List.mem_of_getElem? (i := 5) rfl)
theorem q270 : (Cond.instanceMethod yX3_readPair : Cond) ∈ wsL_law := lf_12 (List.mem_of_getElem? (i := 6) rfl)
theorem q271 : (Cond.selects RX3 yX3_readPair yX3_readPair : Cond) ∈ wsL_law := lf_12 (List.mem_of_getElem? (i := 7) rfl)
theorem q272 : (Cond.code yX3_readPair cX3_readPair 5 (some .boolean) : Cond) ∈ wsL_law := lf_12 (List.mem_of_getElem? (i := 8) rfl)
theorem q273 : (Cond.methodLink RX6 194 yX6_carryOut : Cond) ∈ wsL_law := lf_12 (List.mem_of_getElem? (i := 9) rfl)
theorem q274 : (Cond.instanceMethod yX6_carryOut : Cond) ∈ wsL_law := lf_12 (List.mem_of_getElem? (i := 10) rfl)
theorem q275 : (Cond.selects RX6 yX6_carryOut yX6_carryOut : Cond) ∈ wsL_law := lf_12 (List.mem_of_getElem? (i := 11) rfl)
theorem q276 : (Cond.code yX6_carryOut cX6_carryOut 2 (some .int) : Cond) ∈ wsL_law := lf_12 (List.mem_of_getElem? (i := 12) rfl)
theorem q277 : (Cond.fieldLink RX6 281 "TrousseauFlow$Order" "kind" "C" : Cond) ∈ wsL_law := lf_12 (List.mem_of_getElem? (i := 13) rfl)
theorem q278 : (Cond.fieldLink RX6 287 "TrousseauFlow$Order" "first" "I" : Cond) ∈ wsL_law := lf_12 (List.mem_of_getElem? (i := 14) rfl)
theorem q279 : (Cond.fieldLink RX6 290 "TrousseauFlow$Order" "second" "I" : Cond) ∈ wsL_law := lf_12 (List.mem_of_getElem? (i := 15) rfl)
theorem q280 : (Cond.fieldLink RX6 293 "TrousseauFlow$Order" "third" "I" : Cond) ∈ wsL_law := lf_12 (List.mem_of_getElem? (i := 16) rfl)
theorem q281 : (Cond.fieldLink RX6 296 "TrousseauFlow$Order" "isAny" "Z" : Cond) ∈ wsL_law := lf_12 (List.mem_of_getElem? (i := 17) rfl)
theorem q282 : (Cond.methodLink RX6 50 yX6_tellStep : Cond) ∈ wsL_law := lf_12 (List.mem_of_getElem? (i := 18) rfl)
theorem q283 : (Cond.instanceMethod yX6_tellStep : Cond) ∈ wsL_law := lf_12 (List.mem_of_getElem? (i := 19) rfl)
theorem q284 : (Cond.selects RX6 yX6_tellStep yX6_tellStep : Cond) ∈ wsL_law := lf_12 (List.mem_of_getElem? (i := 20) rfl)
theorem q285 : (Cond.code yX6_tellStep cX6_tellStep 5 (some .int) : Cond) ∈ wsL_law := lf_12 (List.mem_of_getElem? (i := 21) rfl)
theorem q286 : (Cond.methodLink RX6 201 yX6_refuse : Cond) ∈ wsL_law := lf_12 (List.mem_of_getElem? (i := 22) rfl)
theorem q287 : (Cond.instanceMethod yX6_refuse : Cond) ∈ wsL_law := lf_12 (List.mem_of_getElem? (i := 23) rfl)
theorem q288 : (Cond.selects RX6 yX6_refuse yX6_refuse : Cond) ∈ wsL_law := lf_13 (List.mem_of_getElem? (i := 0) rfl)
theorem q289 : (Cond.code yX6_refuse cX6_refuse 3 (some .int) : Cond) ∈ wsL_law := lf_13 (List.mem_of_getElem? (i := 1) rfl)
theorem q290 : (Cond.fieldLink RX6 217 "TrousseauFlow" "wasRefused" "Z" : Cond) ∈ wsL_law := lf_13 (List.mem_of_getElem? (i := 2) rfl)
theorem q291 : (Cond.fieldLink RX6 223 "TrousseauFlow" "lastReason" "I" : Cond) ∈ wsL_law := lf_13 (List.mem_of_getElem? (i := 3) rfl)
theorem q292 : (Cond.fieldLink RX6 220 "TrousseauFlow" "lastDetail" "I" : Cond) ∈ wsL_law := lf_13 (List.mem_of_getElem? (i := 4) rfl)
theorem q293 : (Cond.methodLink RX6 257 yX4_addStep : Cond) ∈ wsL_law := lf_13 (List.mem_of_getElem? (i := 5) rfl)
theorem q294 : (Cond.instanceMethod yX4_addStep : Cond) ∈ wsL_law := lf_13 (List.mem_of_getElem? (i := 6) rfl)
theorem q295 : (Cond.selects RX4 yX4_addStep yX4_addStep : Cond) ∈ wsL_law := lf_13 (List.mem_of_getElem? (i := 7) rfl)
theorem q296 : (Cond.code yX4_addStep cX4_addStep 6 (some .int) : Cond) ∈ wsL_law := lf_13 (List.mem_of_getElem? (i := 8) rfl)
theorem q297 : (Cond.methodLink RX4 69 yX5_tellAnew : Cond) ∈ wsL_law := lf_13 (List.mem_of_getElem? (i := 9) rfl)
theorem q298 : (Cond.instanceMethod yX5_tellAnew : Cond) ∈ wsL_law := lf_13 (List.mem_of_getElem? (i := 10) rfl)
theorem q299 : (Cond.selects RX5 yX5_tellAnew yX5_tellAnew : Cond) ∈ wsL_law := lf_13 (List.mem_of_getElem? (i := 11) rfl)
theorem q300 : (Cond.code yX5_tellAnew cX5_tellAnew 5 none : Cond) ∈ wsL_law := lf_13 (List.mem_of_getElem? (i := 12) rfl)
theorem q301 : (Cond.methodLink RX4 73 yX4_isCancelled : Cond) ∈ wsL_law := lf_13 (List.mem_of_getElem? (i := 13) rfl)
theorem q302 : (Cond.instanceMethod yX4_isCancelled : Cond) ∈ wsL_law := lf_13 (List.mem_of_getElem? (i := 14) rfl)
theorem q303 : (Cond.selects RX4 yX4_isCancelled yX4_isCancelled : Cond) ∈ wsL_law := lf_13 (List.mem_of_getElem? (i := 15) rfl)
theorem q304 : (Cond.code yX4_isCancelled cX4_isCancelled 2 (some .boolean) : Cond) ∈ wsL_law := lf_13 (List.mem_of_getElem? (i := 16) rfl)
theorem q305 : (Cond.methodLink RX4 77 yX4_turn : Cond) ∈ wsL_law := lf_13 (List.mem_of_getElem? (i := 17) rfl)
theorem q306 : (Cond.instanceMethod yX4_turn : Cond) ∈ wsL_law := lf_13 (List.mem_of_getElem? (i := 18) rfl)
theorem q307 : (Cond.selects RX4 yX4_turn yX4_turn : Cond) ∈ wsL_law := lf_13 (List.mem_of_getElem? (i := 19) rfl)
theorem q308 : (Cond.code yX4_turn cX4_turn 5 none : Cond) ∈ wsL_law := lf_13 (List.mem_of_getElem? (i := 20) rfl)
theorem q309 : (Cond.fieldLink RX4 132 "TrousseauFlow$Step" "toGo" "I" : Cond) ∈ wsL_law := lf_13 (List.mem_of_getElem? (i := 21) rfl)
theorem q310 : (Cond.methodLink RX6 58 yX6_tellNeed : Cond) ∈ wsL_law := lf_13 (List.mem_of_getElem? (i := 22) rfl)
theorem q311 : (Cond.instanceMethod yX6_tellNeed : Cond) ∈ wsL_law := lf_13 (List.mem_of_getElem? (i := 23) rfl)
theorem q312 : (Cond.selects RX6 yX6_tellNeed yX6_tellNeed : Cond) ∈ wsL_law := lf_14 (List.mem_of_getElem? (i := 0) rfl)
theorem q313 : (Cond.code yX6_tellNeed cX6_tellNeed 4 (some .int) : Cond) ∈ wsL_law := lf_14 (List.mem_of_getElem? (i := 1) rfl)
theorem q314 : (Cond.fieldLink RX6 81 "TrousseauFlow$Plan" "steps" "[LTrousseauFlow$Step;" : Cond) ∈ wsL_law := lf_14 (List.mem_of_getElem? (i := 2) rfl)
theorem q315 : (Cond.fieldLink RX6 101 "TrousseauFlow$Step" "how" "I" : Cond) ∈ wsL_law := lf_14 (List.mem_of_getElem? (i := 3) rfl)
theorem q316 : (Cond.fieldLink RX6 116 "TrousseauFlow$Step" "needs" "I" : Cond) ∈ wsL_law := lf_14 (List.mem_of_getElem? (i := 4) rfl)
theorem q317 : (Cond.methodLink RX6 77 yX4_hasStep : Cond) ∈ wsL_law := lf_14 (List.mem_of_getElem? (i := 5) rfl)
theorem q318 : (Cond.instanceMethod yX4_hasStep : Cond) ∈ wsL_law := lf_14 (List.mem_of_getElem? (i := 6) rfl)
theorem q319 : (Cond.selects RX4 yX4_hasStep yX4_hasStep : Cond) ∈ wsL_law := lf_14 (List.mem_of_getElem? (i := 7) rfl)
theorem q320 : (Cond.code yX4_hasStep cX4_hasStep 2 (some .boolean) : Cond) ∈ wsL_law := lf_14 (List.mem_of_getElem? (i := 8) rfl)
theorem q321 : (Cond.methodLink RX6 260 yX4_needsOverAll : Cond) ∈ wsL_law := lf_14 (List.mem_of_getElem? (i := 9) rfl)
theorem q322 : (Cond.instanceMethod yX4_needsOverAll : Cond) ∈ wsL_law := lf_14 (List.mem_of_getElem? (i := 10) rfl)
theorem q323 : (Cond.selects RX4 yX4_needsOverAll yX4_needsOverAll : Cond) ∈ wsL_law := lf_14 (List.mem_of_getElem? (i := 11) rfl)
theorem q324 : (Cond.code yX4_needsOverAll cX4_needsOverAll 7 (some .boolean) : Cond) ∈ wsL_law := lf_14 (List.mem_of_getElem? (i := 12) rfl)
theorem q325 : (Cond.fieldLink RX4 109 "TrousseauFlow$Step" "needs" "I" : Cond) ∈ wsL_law := lf_14 (List.mem_of_getElem? (i := 13) rfl)
theorem q326 : (Cond.methodLink RX6 263 yJ6_bitCount_0f7a4 : Cond) ∈ wsL_law := lf_14 (List.mem_of_getElem? (i := 14) rfl)
theorem q327 : (Cond.methodLink RX6 62 yX6_tellFault : Cond) ∈ wsL_law := lf_14 (List.mem_of_getElem? (i := 15) rfl)
theorem q328 : (Cond.instanceMethod yX6_tellFault : Cond) ∈ wsL_law := lf_14 (List.mem_of_getElem? (i := 16) rfl)
theorem q329 : (Cond.selects RX6 yX6_tellFault yX6_tellFault : Cond) ∈ wsL_law := lf_14 (List.mem_of_getElem? (i := 17) rfl)
theorem q330 : (Cond.code yX6_tellFault cX6_tellFault 4 (some .int) : Cond) ∈ wsL_law := lf_14 (List.mem_of_getElem? (i := 18) rfl)
theorem q331 : (Cond.fieldLink RX6 110 "TrousseauFlow$Step" "wrongNext" "I" : Cond) ∈ wsL_law := lf_14 (List.mem_of_getElem? (i := 19) rfl)
theorem q332 : (Cond.methodLink RX6 268 yX5_isOpen : Cond) ∈ wsL_law := lf_14 (List.mem_of_getElem? (i := 20) rfl)
theorem q333 : (Cond.instanceMethod yX5_isOpen : Cond) ∈ wsL_law := lf_14 (List.mem_of_getElem? (i := 21) rfl)
theorem q334 : (Cond.selects RX5 yX5_isOpen yX5_isOpen : Cond) ∈ wsL_law := lf_14 (List.mem_of_getElem? (i := 22) rfl)
theorem q335 : (Cond.code yX5_isOpen cX5_isOpen 1 (some .boolean) : Cond) ∈ wsL_law := lf_14 (List.mem_of_getElem? (i := 23) rfl)
theorem q336 : (Cond.methodLink RX6 68 yX6_tellCancel : Cond) ∈ wsL_law := lf_15 (List.mem_of_getElem? (i := 0) rfl)
theorem q337 : (Cond.instanceMethod yX6_tellCancel : Cond) ∈ wsL_law := lf_15 (List.mem_of_getElem? (i := 1) rfl)
theorem q338 : (Cond.selects RX6 yX6_tellCancel yX6_tellCancel : Cond) ∈ wsL_law := lf_15 (List.mem_of_getElem? (i := 2) rfl)
theorem q339 : (Cond.code yX6_tellCancel cX6_tellCancel 2 (some .int) : Cond) ∈ wsL_law := lf_15 (List.mem_of_getElem? (i := 3) rfl)
theorem q340 : (Cond.methodLink RX6 272 yX4_isCancelled : Cond) ∈ wsL_law := lf_15 (List.mem_of_getElem? (i := 4) rfl)
theorem q341 : (Cond.methodLink RX6 275 yX4_cancelBranch : Cond) ∈ wsL_law := lf_15 (List.mem_of_getElem? (i := 5) rfl)
theorem q342 : (Cond.instanceMethod yX4_cancelBranch : Cond) ∈ wsL_law := lf_15 (List.mem_of_getElem? (i := 6) rfl)
theorem q343 : (Cond.selects RX4 yX4_cancelBranch yX4_cancelBranch : Cond) ∈ wsL_law := lf_15 (List.mem_of_getElem? (i := 7) rfl)
theorem q344 : (Cond.code yX4_cancelBranch cX4_cancelBranch 5 (some .int) : Cond) ∈ wsL_law := lf_15 (List.mem_of_getElem? (i := 8) rfl)
theorem q345 : (Cond.fieldLink RX4 129 "TrousseauFlow$Step" "branch" "I" : Cond) ∈ wsL_law := lf_15 (List.mem_of_getElem? (i := 9) rfl)
theorem q346 : (Cond.fieldLink RX4 126 "TrousseauFlow$Step" "days" "I" : Cond) ∈ wsL_law := lf_15 (List.mem_of_getElem? (i := 10) rfl)
theorem q347 : (Cond.methodLink RX4 116 yX5_isOpen : Cond) ∈ wsL_law := lf_15 (List.mem_of_getElem? (i := 11) rfl)
theorem q348 : (Cond.methodLink RX6 71 yX6_tellMilestone : Cond) ∈ wsL_law := lf_15 (List.mem_of_getElem? (i := 12) rfl)
theorem q349 : (Cond.instanceMethod yX6_tellMilestone : Cond) ∈ wsL_law := lf_15 (List.mem_of_getElem? (i := 13) rfl)
theorem q350 : (Cond.selects RX6 yX6_tellMilestone yX6_tellMilestone : Cond) ∈ wsL_law := lf_15 (List.mem_of_getElem? (i := 14) rfl)
theorem q351 : (Cond.code yX6_tellMilestone cX6_tellMilestone 4 (some .int) : Cond) ∈ wsL_law := lf_15 (List.mem_of_getElem? (i := 15) rfl)
theorem q352 : (Cond.fieldLink RX6 133 "TrousseauFlow$Step" "dueDay" "I" : Cond) ∈ wsL_law := lf_15 (List.mem_of_getElem? (i := 16) rfl)
theorem q353 : (Cond.methodLink RX6 278 yX4_addMilestone : Cond) ∈ wsL_law := lf_15 (List.mem_of_getElem? (i := 17) rfl)
theorem q354 : (Cond.instanceMethod yX4_addMilestone : Cond) ∈ wsL_law := lf_15 (List.mem_of_getElem? (i := 18) rfl)
theorem q355 : (Cond.selects RX4 yX4_addMilestone yX4_addMilestone : Cond) ∈ wsL_law := lf_15 (List.mem_of_getElem? (i := 19) rfl)
theorem q356 : (Cond.code yX4_addMilestone cX4_addMilestone 4 (some .int) : Cond) ∈ wsL_law := lf_15 (List.mem_of_getElem? (i := 20) rfl)
theorem q357 : (Cond.fieldLink RX4 81 "TrousseauFlow$Step" "dueDay" "I" : Cond) ∈ wsL_law := lf_15 (List.mem_of_getElem? (i := 21) rfl)
theorem q358 : (Cond.methodLink RX6 74 yX6_letDaysGo : Cond) ∈ wsL_law := lf_15 (List.mem_of_getElem? (i := 22) rfl)
theorem q359 : (Cond.instanceMethod yX6_letDaysGo : Cond) ∈ wsL_law := lf_15 (List.mem_of_getElem? (i := 23) rfl)
theorem q360 : (Cond.selects RX6 yX6_letDaysGo yX6_letDaysGo : Cond) ∈ wsL_law := lf_16 (List.mem_of_getElem? (i := 0) rfl)
theorem q361 : (Cond.code yX6_letDaysGo cX6_letDaysGo 4 (some .int) : Cond) ∈ wsL_law := lf_16 (List.mem_of_getElem? (i := 1) rfl)
theorem q362 : (Cond.methodLink RX6 143 yX4_passDay : Cond) ∈ wsL_law := lf_16 (List.mem_of_getElem? (i := 2) rfl)
theorem q363 : (Cond.instanceMethod yX4_passDay : Cond) ∈ wsL_law := lf_16 (List.mem_of_getElem? (i := 3) rfl)
theorem q364 : (Cond.selects RX4 yX4_passDay yX4_passDay : Cond) ∈ wsL_law := lf_16 (List.mem_of_getElem? (i := 4) rfl)
theorem q365 : (Cond.code yX4_passDay cX4_passDay 2 none : Cond) ∈ wsL_law := lf_16 (List.mem_of_getElem? (i := 5) rfl)
theorem q366 : (Cond.methodLink RX4 135 yX4_workOn : Cond) ∈ wsL_law := lf_16 (List.mem_of_getElem? (i := 6) rfl)
theorem q367 : (Cond.instanceMethod yX4_workOn : Cond) ∈ wsL_law := lf_16 (List.mem_of_getElem? (i := 7) rfl)
theorem q368 : (Cond.selects RX4 yX4_workOn yX4_workOn : Cond) ∈ wsL_law := lf_16 (List.mem_of_getElem? (i := 8) rfl)
theorem q369 : (Cond.code yX4_workOn cX4_workOn 3 none : Cond) ∈ wsL_law := lf_16 (List.mem_of_getElem? (i := 9) rfl)
theorem q370 : (Cond.fieldLink RX4 148 "TrousseauFlow$Step" "wrongNext" "I" : Cond) ∈ wsL_law := lf_16 (List.mem_of_getElem? (i := 10) rfl)
theorem q371 : (Cond.fieldLink RX4 87 "TrousseauFlow$Step" "doneDay" "I" : Cond) ∈ wsL_law := lf_16 (List.mem_of_getElem? (i := 11) rfl)
theorem q372 : (Cond.fieldLink RX4 123 "TrousseauFlow$Step" "begun" "I" : Cond) ∈ wsL_law := lf_16 (List.mem_of_getElem? (i := 12) rfl)
theorem q373 : (Cond.fieldLink RX4 151 "TrousseauFlow$Step" "more" "I" : Cond) ∈ wsL_law := lf_16 (List.mem_of_getElem? (i := 13) rfl)
theorem q374 : (Cond.methodLink RX4 154 yX4_cancelBranch : Cond) ∈ wsL_law := lf_16 (List.mem_of_getElem? (i := 14) rfl)
theorem q375 : (Cond.methodLink RX4 139 yX4_undoInBranch : Cond) ∈ wsL_law := lf_16 (List.mem_of_getElem? (i := 15) rfl)
theorem q376 : (Cond.instanceMethod yX4_undoInBranch : Cond) ∈ wsL_law := lf_16 (List.mem_of_getElem? (i := 16) rfl)
theorem q377 : (Cond.selects RX4 yX4_undoInBranch yX4_undoInBranch : Cond) ∈ wsL_law := lf_16 (List.mem_of_getElem? (i := 17) rfl)
theorem q378 : (Cond.code yX4_undoInBranch cX4_undoInBranch 4 none : Cond) ∈ wsL_law := lf_16 (List.mem_of_getElem? (i := 18) rfl)
theorem q379 : (Cond.methodLink RX4 157 yX4_firstToUndo : Cond) ∈ wsL_law := lf_16 (List.mem_of_getElem? (i := 19) rfl)
theorem q380 : (Cond.instanceMethod yX4_firstToUndo : Cond) ∈ wsL_law := lf_16 (List.mem_of_getElem? (i := 20) rfl)
theorem q381 : (Cond.selects RX4 yX4_firstToUndo yX4_firstToUndo : Cond) ∈ wsL_law := lf_16 (List.mem_of_getElem? (i := 21) rfl)
theorem q382 : (Cond.code yX4_firstToUndo cX4_firstToUndo 6 (some .int) : Cond) ∈ wsL_law := lf_16 (List.mem_of_getElem? (i := 22) rfl)
theorem q383 : (Cond.methodLink RX4 142 yX4_leaveOutHopeless : Cond) ∈ wsL_law := lf_16 (List.mem_of_getElem? (i := 23) rfl)
theorem q384 : (Cond.instanceMethod yX4_leaveOutHopeless : Cond) ∈ wsL_law := lf_17 (List.mem_of_getElem? (i := 0) rfl)
theorem q385 : (Cond.selects RX4 yX4_leaveOutHopeless yX4_leaveOutHopeless : Cond) ∈ wsL_law := lf_17 (List.mem_of_getElem? (i := 1) rfl)
theorem q386 : (Cond.code yX4_leaveOutHopeless cX4_leaveOutHopeless 4 none : Cond) ∈ wsL_law := lf_17 (List.mem_of_getElem? (i := 2) rfl)
theorem q387 : (Cond.methodLink RX4 160 yX4_setOfOff : Cond) ∈ wsL_law := lf_17 (List.mem_of_getElem? (i := 3) rfl)
theorem q388 : (Cond.instanceMethod yX4_setOfOff : Cond) ∈ wsL_law := lf_17 (List.mem_of_getElem? (i := 4) rfl)
theorem q389 : (Cond.selects RX4 yX4_setOfOff yX4_setOfOff : Cond) ∈ wsL_law := lf_17 (List.mem_of_getElem? (i := 5) rfl)
theorem q390 : (Cond.code yX4_setOfOff cX4_setOfOff 3 (some .int) : Cond) ∈ wsL_law := lf_17 (List.mem_of_getElem? (i := 6) rfl)
theorem q391 : (Cond.methodLink RX4 105 yX5_isOff : Cond) ∈ wsL_law := lf_17 (List.mem_of_getElem? (i := 7) rfl)
theorem q392 : (Cond.instanceMethod yX5_isOff : Cond) ∈ wsL_law := lf_17 (List.mem_of_getElem? (i := 8) rfl)
theorem q393 : (Cond.selects RX5 yX5_isOff yX5_isOff : Cond) ∈ wsL_law := lf_17 (List.mem_of_getElem? (i := 9) rfl)
theorem q394 : (Cond.code yX5_isOff cX5_isOff 1 (some .boolean) : Cond) ∈ wsL_law := lf_17 (List.mem_of_getElem? (i := 10) rfl)
theorem q395 : (Cond.methodLink RX4 164 yX4_lowestHopeless : Cond) ∈ wsL_law := lf_17 (List.mem_of_getElem? (i := 11) rfl)
theorem q396 : (Cond.instanceMethod yX4_lowestHopeless : Cond) ∈ wsL_law := lf_17 (List.mem_of_getElem? (i := 12) rfl)
theorem q397 : (Cond.selects RX4 yX4_lowestHopeless yX4_lowestHopeless : Cond) ∈ wsL_law := lf_17 (List.mem_of_getElem? (i := 13) rfl)
theorem q398 : (Cond.code yX4_lowestHopeless cX4_lowestHopeless 3 (some .int) : Cond) ∈ wsL_law := lf_17 (List.mem_of_getElem? (i := 14) rfl)
theorem q399 : (Cond.methodLink RX4 167 yX4_isHopeless : Cond) ∈ wsL_law := lf_17 (List.mem_of_getElem? (i := 15) rfl)
theorem q400 : (Cond.instanceMethod yX4_isHopeless : Cond) ∈ wsL_law := lf_17 (List.mem_of_getElem? (i := 16) rfl)
theorem q401 : (Cond.selects RX4 yX4_isHopeless yX4_isHopeless : Cond) ∈ wsL_law := lf_17 (List.mem_of_getElem? (i := 17) rfl)
theorem q402 : (Cond.code yX4_isHopeless cX4_isHopeless 4 (some .boolean) : Cond) ∈ wsL_law := lf_17 (List.mem_of_getElem? (i := 18) rfl)
theorem q403 : (Cond.fieldLink RX4 112 "TrousseauFlow$Step" "isAny" "Z" : Cond) ∈ wsL_law := lf_17 (List.mem_of_getElem? (i := 19) rfl)
theorem q404 : (Cond.methodLink RX4 145 yX4_beginTries : Cond) ∈ wsL_law := lf_17 (List.mem_of_getElem? (i := 20) rfl)
theorem q405 : (Cond.instanceMethod yX4_beginTries : Cond) ∈ wsL_law := lf_17 (List.mem_of_getElem? (i := 21) rfl)
theorem q406 : (Cond.selects RX4 yX4_beginTries yX4_beginTries : Cond) ∈ wsL_law := lf_17 (List.mem_of_getElem? (i := 22) rfl)
theorem q407 : (Cond.code yX4_beginTries cX4_beginTries 5 none : Cond) ∈ wsL_law := lf_17 (List.mem_of_getElem? (i := 23) rfl)
theorem q408 : (Cond.methodLink RX4 170 yX4_countOf : Cond) ∈ wsL_law := lf_18 (List.mem_of_getElem? (i := 0) rfl)
theorem q409 : (Cond.methodLink RX4 173 yX4_firstToBegin : Cond) ∈ wsL_law := lf_18 (List.mem_of_getElem? (i := 1) rfl)
theorem q410 : (Cond.instanceMethod yX4_firstToBegin : Cond) ∈ wsL_law := lf_18 (List.mem_of_getElem? (i := 2) rfl)
theorem q411 : (Cond.selects RX4 yX4_firstToBegin yX4_firstToBegin : Cond) ∈ wsL_law := lf_18 (List.mem_of_getElem? (i := 3) rfl)
theorem q412 : (Cond.code yX4_firstToBegin cX4_firstToBegin 6 (some .int) : Cond) ∈ wsL_law := lf_18 (List.mem_of_getElem? (i := 4) rfl)
theorem q413 : (Cond.methodLink RX4 176 yX4_isReady : Cond) ∈ wsL_law := lf_18 (List.mem_of_getElem? (i := 5) rfl)
theorem q414 : (Cond.instanceMethod yX4_isReady : Cond) ∈ wsL_law := lf_18 (List.mem_of_getElem? (i := 6) rfl)
theorem q415 : (Cond.selects RX4 yX4_isReady yX4_isReady : Cond) ∈ wsL_law := lf_18 (List.mem_of_getElem? (i := 7) rfl)
theorem q416 : (Cond.code yX4_isReady cX4_isReady 4 (some .boolean) : Cond) ∈ wsL_law := lf_18 (List.mem_of_getElem? (i := 8) rfl)
theorem q417 : (Cond.methodLink RL 43 yX6_step : Cond) ∈ wsL_law := lf_18 (List.mem_of_getElem? (i := 9) rfl)
theorem q418 : (Cond.instanceMethod yX6_step : Cond) ∈ wsL_law := lf_18 (List.mem_of_getElem? (i := 10) rfl)
theorem q419 : (Cond.selects RX6 yX6_step yX6_step : Cond) ∈ wsL_law := lf_18 (List.mem_of_getElem? (i := 11) rfl)
theorem q420 : (Cond.code yX6_step cX6_step 5 (some .int) : Cond) ∈ wsL_law := lf_18 (List.mem_of_getElem? (i := 12) rfl)
theorem q421 : (Cond.methodLink RL 159 yL_is : Cond) ∈ wsL_law := lf_18 (List.mem_of_getElem? (i := 13) rfl)
theorem q422 : (Cond.static yL_is : Cond) ∈ wsL_law := lf_18 (List.mem_of_getElem? (i := 14) rfl)
theorem q423 : (Cond.initialized RL : Cond) ∈ wsL_law := lf_18 (List.mem_of_getElem? (i := 15) rfl)
theorem q424 : (Cond.code yL_is cL_is 3 (some .boolean) : Cond) ∈ wsL_law := lf_18 (List.mem_of_getElem? (i := 16) rfl)
theorem q425 : (Cond.methodLink RL 26 yX6_reason : Cond) ∈ wsL_law := lf_18 (List.mem_of_getElem? (i := 17) rfl)
theorem q426 : (Cond.instanceMethod yX6_reason : Cond) ∈ wsL_law := lf_18 (List.mem_of_getElem? (i := 18) rfl)
theorem q427 : (Cond.selects RX6 yX6_reason yX6_reason : Cond) ∈ wsL_law := lf_18 (List.mem_of_getElem? (i := 19) rfl)
theorem q428 : (Cond.code yX6_reason cX6_reason 2 (some .int) : Cond) ∈ wsL_law := lf_18 (List.mem_of_getElem? (i := 20) rfl)
theorem q429 : (Cond.methodLink RL 47 yX6_need : Cond) ∈ wsL_law := lf_18 (List.mem_of_getElem? (i := 21) rfl)
theorem q430 : (Cond.instanceMethod yX6_need : Cond) ∈ wsL_law := lf_18 (List.mem_of_getElem? (i := 22) rfl)
theorem q431 : (Cond.selects RX6 yX6_need yX6_need : Cond) ∈ wsL_law := lf_18 (List.mem_of_getElem? (i := 23) rfl)
theorem q432 : (Cond.code yX6_need cX6_need 3 (some .int) : Cond) ∈ wsL_law := lf_19 (List.mem_of_getElem? (i := 0) rfl)
theorem q433 : (Cond.methodLink RL 53 yX6_milestone : Cond) ∈ wsL_law := lf_19 (List.mem_of_getElem? (i := 1) rfl)
theorem q434 : (Cond.instanceMethod yX6_milestone : Cond) ∈ wsL_law := lf_19 (List.mem_of_getElem? (i := 2) rfl)
theorem q435 : (Cond.selects RX6 yX6_milestone yX6_milestone : Cond) ∈ wsL_law := lf_19 (List.mem_of_getElem? (i := 3) rfl)
theorem q436 : (Cond.code yX6_milestone cX6_milestone 3 (some .int) : Cond) ∈ wsL_law := lf_19 (List.mem_of_getElem? (i := 4) rfl)
theorem q437 : (Cond.methodLink RL 99 yX6_chain : Cond) ∈ wsL_law := lf_19 (List.mem_of_getElem? (i := 5) rfl)
theorem q438 : (Cond.instanceMethod yX6_chain : Cond) ∈ wsL_law := lf_19 (List.mem_of_getElem? (i := 6) rfl)
theorem q439 : (Cond.selects RX6 yX6_chain yX6_chain : Cond) ∈ wsL_law := lf_19 (List.mem_of_getElem? (i := 7) rfl)
theorem q440 : (Cond.code yX6_chain cX6_chain 2 (some .int) : Cond) ∈ wsL_law := lf_19 (List.mem_of_getElem? (i := 8) rfl)
theorem q441 : (Cond.fieldLink RX6 152 "TrousseauFlow$Chains" "byNeeds" "[I" : Cond) ∈ wsL_law := lf_19 (List.mem_of_getElem? (i := 9) rfl)
theorem q442 : (Cond.methodLink RX6 149 yX0_measureByNeeds : Cond) ∈ wsL_law := lf_19 (List.mem_of_getElem? (i := 10) rfl)
theorem q443 : (Cond.instanceMethod yX0_measureByNeeds : Cond) ∈ wsL_law := lf_19 (List.mem_of_getElem? (i := 11) rfl)
theorem q444 : (Cond.selects RX0 yX0_measureByNeeds yX0_measureByNeeds : Cond) ∈ wsL_law := lf_19 (List.mem_of_getElem? (i := 12) rfl)
theorem q445 : (Cond.code yX0_measureByNeeds cX0_measureByNeeds 3 none : Cond) ∈ wsL_law := lf_19 (List.mem_of_getElem? (i := 13) rfl)
theorem q446 : (Cond.fieldLink RX0 18 "TrousseauFlow$Plan" "count" "I" : Cond) ∈ wsL_law := lf_19 (List.mem_of_getElem? (i := 14) rfl)
theorem q447 : (Cond.methodLink RX0 24 yX0_longest : Cond) ∈ wsL_law := lf_19 (List.mem_of_getElem? (i := 15) rfl)
theorem q448 : (Cond.static yX0_longest : Cond) ∈ wsL_law := lf_19 (List.mem_of_getElem? (i := 16) rfl)
theorem q449 : (Cond.code yX0_longest cX0_longest 7 (some .int) : Cond) ∈ wsL_law := lf_19 (List.mem_of_getElem? (i := 17) rfl)
theorem q450 : (Cond.fieldLink RX0 28 "TrousseauFlow$Plan" "steps" "[LTrousseauFlow$Step;" : Cond) ∈ wsL_law := lf_19 (List.mem_of_getElem? (i := 18) rfl)
theorem q451 : (Cond.fieldLink RX0 32 "TrousseauFlow$Step" "needs" "I" : Cond) ∈ wsL_law := lf_19 (List.mem_of_getElem? (i := 19) rfl)
theorem q452 : (Cond.methodLink RX0 37 Lib.Math.max.name : Cond) ∈ wsL_law := lf_19 (List.mem_of_getElem? (i := 20) rfl)
theorem q453 : (Cond.fieldLink RX0 43 "TrousseauFlow$Step" "days" "I" : Cond) ∈ wsL_law := lf_19 (List.mem_of_getElem? (i := 21) rfl)
theorem q454 : (Cond.methodLink RL 102 yX6_chainAgain : Cond) ∈ wsL_law := lf_19 (List.mem_of_getElem? (i := 22) rfl)
theorem q455 : (Cond.instanceMethod yX6_chainAgain : Cond) ∈ wsL_law := lf_19 (List.mem_of_getElem? (i := 23) rfl)
theorem q456 : (Cond.selects RX6 yX6_chainAgain yX6_chainAgain : Cond) ∈ wsL_law := lf_20 (List.mem_of_getElem? (i := 0) rfl)
theorem q457 : (Cond.code yX6_chainAgain cX6_chainAgain 2 (some .int) : Cond) ∈ wsL_law := lf_20 (List.mem_of_getElem? (i := 1) rfl)
theorem q458 : (Cond.fieldLink RX6 158 "TrousseauFlow$Chains" "byRounds" "[I" : Cond) ∈ wsL_law := lf_20 (List.mem_of_getElem? (i := 2) rfl)
theorem q459 : (Cond.methodLink RX6 155 yX0_measureByRounds : Cond) ∈ wsL_law := lf_20 (List.mem_of_getElem? (i := 3) rfl)
theorem q460 : (Cond.instanceMethod yX0_measureByRounds : Cond) ∈ wsL_law := lf_20 (List.mem_of_getElem? (i := 4) rfl)
theorem q461 : (Cond.selects RX0 yX0_measureByRounds yX0_measureByRounds : Cond) ∈ wsL_law := lf_20 (List.mem_of_getElem? (i := 5) rfl)
theorem q462 : (Cond.code yX0_measureByRounds cX0_measureByRounds 5 none : Cond) ∈ wsL_law := lf_20 (List.mem_of_getElem? (i := 6) rfl)
theorem q463 : (Cond.methodLink RX0 46 yX0_lengthen : Cond) ∈ wsL_law := lf_20 (List.mem_of_getElem? (i := 7) rfl)
theorem q464 : (Cond.instanceMethod yX0_lengthen : Cond) ∈ wsL_law := lf_20 (List.mem_of_getElem? (i := 8) rfl)
theorem q465 : (Cond.selects RX0 yX0_lengthen yX0_lengthen : Cond) ∈ wsL_law := lf_20 (List.mem_of_getElem? (i := 9) rfl)
theorem q466 : (Cond.code yX0_lengthen cX0_lengthen 6 (some .boolean) : Cond) ∈ wsL_law := lf_20 (List.mem_of_getElem? (i := 10) rfl)
theorem q467 : (Cond.methodLink RL 96 yX6_doneIn : Cond) ∈ wsL_law := lf_20 (List.mem_of_getElem? (i := 11) rfl)
theorem q468 : (Cond.instanceMethod yX6_doneIn : Cond) ∈ wsL_law := lf_20 (List.mem_of_getElem? (i := 12) rfl)
theorem q469 : (Cond.selects RX6 yX6_doneIn yX6_doneIn : Cond) ∈ wsL_law := lf_20 (List.mem_of_getElem? (i := 13) rfl)
theorem q470 : (Cond.code yX6_doneIn cX6_doneIn 3 (some .int) : Cond) ∈ wsL_law := lf_20 (List.mem_of_getElem? (i := 14) rfl)
theorem q471 : (Cond.methodLink RL 59 yX6_days : Cond) ∈ wsL_law := lf_20 (List.mem_of_getElem? (i := 15) rfl)
theorem q472 : (Cond.instanceMethod yX6_days : Cond) ∈ wsL_law := lf_20 (List.mem_of_getElem? (i := 16) rfl)
theorem q473 : (Cond.selects RX6 yX6_days yX6_days : Cond) ∈ wsL_law := lf_20 (List.mem_of_getElem? (i := 17) rfl)
theorem q474 : (Cond.code yX6_days cX6_days 2 (some .int) : Cond) ∈ wsL_law := lf_20 (List.mem_of_getElem? (i := 18) rfl)
theorem q475 : (Cond.methodLink RL 90 yX6_stepOf : Cond) ∈ wsL_law := lf_20 (List.mem_of_getElem? (i := 19) rfl)
theorem q476 : (Cond.instanceMethod yX6_stepOf : Cond) ∈ wsL_law := lf_20 (List.mem_of_getElem? (i := 20) rfl)
theorem q477 : (Cond.selects RX6 yX6_stepOf yX6_stepOf : Cond) ∈ wsL_law := lf_20 (List.mem_of_getElem? (i := 21) rfl)
theorem q478 : (Cond.code yX6_stepOf cX6_stepOf 4 (some .int) : Cond) ∈ wsL_law := lf_20 (List.mem_of_getElem? (i := 22) rfl)
theorem q479 : (Cond.fieldLink RX6 85 "TrousseauFlow$Step" "days" "I" : Cond) ∈ wsL_law := lf_20 (List.mem_of_getElem? (i := 23) rfl)
theorem q480 : (Cond.fieldLink RX6 91 "TrousseauFlow$Step" "more" "I" : Cond) ∈ wsL_law := lf_21 (List.mem_of_getElem? (i := 0) rfl)
theorem q481 : (Cond.fieldLink RX6 94 "TrousseauFlow$Step" "branch" "I" : Cond) ∈ wsL_law := lf_21 (List.mem_of_getElem? (i := 1) rfl)
theorem q482 : (Cond.fieldLink RX6 97 "TrousseauFlow$Step" "isAny" "Z" : Cond) ∈ wsL_law := lf_21 (List.mem_of_getElem? (i := 2) rfl)
theorem q483 : (Cond.fieldLink RX6 104 "TrousseauFlow$Step" "toGo" "I" : Cond) ∈ wsL_law := lf_21 (List.mem_of_getElem? (i := 3) rfl)
theorem q484 : (Cond.fieldLink RX6 107 "TrousseauFlow$Step" "begun" "I" : Cond) ∈ wsL_law := lf_21 (List.mem_of_getElem? (i := 4) rfl)
theorem q485 : (Cond.fieldLink RX6 113 "TrousseauFlow$Step" "doneDay" "I" : Cond) ∈ wsL_law := lf_21 (List.mem_of_getElem? (i := 5) rfl)
theorem q486 : (Cond.methodLink RL 183 yL_makes : Cond) ∈ wsL_law := lf_21 (List.mem_of_getElem? (i := 6) rfl)
theorem q487 : (Cond.static yL_makes : Cond) ∈ wsL_law := lf_21 (List.mem_of_getElem? (i := 7) rfl)
theorem q488 : (Cond.code yL_makes cL_makes 6 (some .boolean) : Cond) ∈ wsL_law := lf_21 (List.mem_of_getElem? (i := 8) rfl)
theorem q489 : (Cond.methodLink RL 33 yL_at : Cond) ∈ wsL_law := lf_21 (List.mem_of_getElem? (i := 9) rfl)
theorem q490 : (Cond.static yL_at : Cond) ∈ wsL_law := lf_21 (List.mem_of_getElem? (i := 10) rfl)
theorem q491 : (Cond.code yL_at cL_at 2 (some .int) : Cond) ∈ wsL_law := lf_21 (List.mem_of_getElem? (i := 11) rfl)
theorem q492 : (Cond.methodLink RL 39 yL_some : Cond) ∈ wsL_law := lf_21 (List.mem_of_getElem? (i := 12) rfl)
theorem q493 : (Cond.static yL_some : Cond) ∈ wsL_law := lf_21 (List.mem_of_getElem? (i := 13) rfl)
theorem q494 : (Cond.code yL_some cL_some 3 (some .int) : Cond) ∈ wsL_law := lf_21 (List.mem_of_getElem? (i := 14) rfl)
theorem q495 : (Cond.methodLink RL 50 yX6_fault : Cond) ∈ wsL_law := lf_21 (List.mem_of_getElem? (i := 15) rfl)
theorem q496 : (Cond.instanceMethod yX6_fault : Cond) ∈ wsL_law := lf_21 (List.mem_of_getElem? (i := 16) rfl)
theorem q497 : (Cond.selects RX6 yX6_fault yX6_fault : Cond) ∈ wsL_law := lf_21 (List.mem_of_getElem? (i := 17) rfl)
theorem q498 : (Cond.code yX6_fault cX6_fault 3 (some .int) : Cond) ∈ wsL_law := lf_21 (List.mem_of_getElem? (i := 18) rfl)
theorem q499 : (Cond.methodLink RL 155 yL_asks : Cond) ∈ wsL_law := lf_21 (List.mem_of_getElem? (i := 19) rfl)
theorem q500 : (Cond.static yL_asks : Cond) ∈ wsL_law := lf_21 (List.mem_of_getElem? (i := 20) rfl)
theorem q501 : (Cond.code yL_asks cL_asks 6 (some .long) : Cond) ∈ wsL_law := lf_21 (List.mem_of_getElem? (i := 21) rfl)
theorem q502 : (Cond.constantLong RL 62 (31) : Cond) ∈ wsL_law := lf_21 (List.mem_of_getElem? (i := 22) rfl)
theorem q503 : (Cond.methodLink RL 64 yX6_meanDays : Cond) ∈ wsL_law := lf_21 (List.mem_of_getElem? (i := 23) rfl)
theorem q504 : (Cond.instanceMethod yX6_meanDays : Cond) ∈ wsL_law := lf_22 (List.mem_of_getElem? (i := 0) rfl)
theorem q505 : (Cond.selects RX6 yX6_meanDays yX6_meanDays : Cond) ∈ wsL_law := lf_22 (List.mem_of_getElem? (i := 1) rfl)
theorem q506 : (Cond.code yX6_meanDays cX6_meanDays 3 (some .double) : Cond) ∈ wsL_law := lf_22 (List.mem_of_getElem? (i := 2) rfl)
theorem q507 : (Cond.methodLink RL 68 yJxe99ae_doubleToLongBits_ccdee : Cond) ∈ wsL_law := lf_22 (List.mem_of_getElem? (i := 3) rfl)
theorem q508 : (Cond.static yJxe99ae_doubleToLongBits_ccdee : Cond) ∈ wsL_law := lf_22 (List.mem_of_getElem? (i := 4) rfl)
theorem q509 : (Cond.initialized RJxe99ae : Cond) ∈ wsL_law := lf_22 (List.mem_of_getElem? (i := 5) rfl)
theorem q510 : (Cond.code yJxe99ae_doubleToLongBits_ccdee cJxe99ae_doubleToLongBits_ccdee 2 (some .long) : Cond) ∈ wsL_law := lf_22 (List.mem_of_getElem? (i := 6) rfl)
theorem q511 : (Cond.methodLink RJxe99ae 134 ⟨"java/lang/Double", "doubleToRawLongBits", "(D)J"⟩ : Cond) ∈ wsL_law := lf_22 (List.mem_of_getElem? (i := 7) rfl)
theorem q512 : (Cond.native ⟨"java/lang/Double", "doubleToRawLongBits", "(D)J"⟩ : Cond) ∈ wsL_law := lf_22 (List.mem_of_getElem? (i := 8) rfl)
theorem q513 : (Cond.static ⟨"java/lang/Double", "doubleToRawLongBits", "(D)J"⟩ : Cond) ∈ wsL_law := lf_22 (List.mem_of_getElem? (i := 9) rfl)
theorem q514 : (Cond.initialized "java/lang/Double" : Cond) ∈ wsL_law := lf_22 (List.mem_of_getElem? (i := 10) rfl)
theorem q515 : (Cond.constantLong RJxe99ae 137 (9221120237041090560) : Cond) ∈ wsL_law := lf_22 (List.mem_of_getElem? (i := 11) rfl)
theorem q516 : (Cond.methodLink RJxe99ae 122 yJxe99ae_isNaN_b9ae7 : Cond) ∈ wsL_law := lf_22 (List.mem_of_getElem? (i := 12) rfl)
theorem q517 : (Cond.static yJxe99ae_isNaN_b9ae7 : Cond) ∈ wsL_law := lf_22 (List.mem_of_getElem? (i := 13) rfl)
theorem q518 : (Cond.code yJxe99ae_isNaN_b9ae7 cJxe99ae_isNaN_b9ae7 2 (some .boolean) : Cond) ∈ wsL_law := lf_22 (List.mem_of_getElem? (i := 14) rfl)
theorem q519 : (Cond.methodLink RL 74 yX6_wrongShare : Cond) ∈ wsL_law := lf_22 (List.mem_of_getElem? (i := 15) rfl)
theorem q520 : (Cond.instanceMethod yX6_wrongShare : Cond) ∈ wsL_law := lf_22 (List.mem_of_getElem? (i := 16) rfl)
theorem q521 : (Cond.selects RX6 yX6_wrongShare yX6_wrongShare : Cond) ∈ wsL_law := lf_22 (List.mem_of_getElem? (i := 17) rfl)
theorem q522 : (Cond.code yX6_wrongShare cX6_wrongShare 1 (some .float) : Cond) ∈ wsL_law := lf_22 (List.mem_of_getElem? (i := 18) rfl)
theorem q523 : (Cond.methodLink RL 78 yJxf58ca_floatToIntBits_5c35a : Cond) ∈ wsL_law := lf_22 (List.mem_of_getElem? (i := 19) rfl)
theorem q524 : (Cond.static yJxf58ca_floatToIntBits_5c35a : Cond) ∈ wsL_law := lf_22 (List.mem_of_getElem? (i := 20) rfl)
theorem q525 : (Cond.initialized RJxf58ca : Cond) ∈ wsL_law := lf_22 (List.mem_of_getElem? (i := 21) rfl)
theorem q526 : (Cond.code yJxf58ca_floatToIntBits_5c35a cJxf58ca_floatToIntBits_5c35a 1 (some .int) : Cond) ∈ wsL_law := lf_22 (List.mem_of_getElem? (i := 22) rfl)
theorem q527 : (Cond.methodLink RJxf58ca 74 ⟨"java/lang/Float", "floatToRawIntBits", "(F)I"⟩ : Cond) ∈ wsL_law := lf_22 (List.mem_of_getElem? (i := 23) rfl)
theorem q528 : (Cond.native ⟨"java/lang/Float", "floatToRawIntBits", "(F)I"⟩ : Cond) ∈ wsL_law := lf_23 (List.mem_of_getElem? (i := 0) rfl)
theorem q529 : (Cond.static ⟨"java/lang/Float", "floatToRawIntBits", "(F)I"⟩ : Cond) ∈ wsL_law := lf_23 (List.mem_of_getElem? (i := 1) rfl)
theorem q530 : (Cond.initialized "java/lang/Float" : Cond) ∈ wsL_law := lf_23 (List.mem_of_getElem? (i := 2) rfl)
theorem q531 : (Cond.constant RJxf58ca 77 (2143289344) : Cond) ∈ wsL_law := lf_23 (List.mem_of_getElem? (i := 3) rfl)
theorem q532 : (Cond.methodLink RJxf58ca 59 yJxf58ca_isNaN_12338 : Cond) ∈ wsL_law := lf_23 (List.mem_of_getElem? (i := 4) rfl)
theorem q533 : (Cond.static yJxf58ca_isNaN_12338 : Cond) ∈ wsL_law := lf_23 (List.mem_of_getElem? (i := 5) rfl)
theorem q534 : (Cond.code yJxf58ca_isNaN_12338 cJxf58ca_isNaN_12338 1 (some .boolean) : Cond) ∈ wsL_law := lf_23 (List.mem_of_getElem? (i := 6) rfl)
theorem q535 : (Cond.methodLink RL 84 yX6_isBalanced : Cond) ∈ wsL_law := lf_23 (List.mem_of_getElem? (i := 7) rfl)
theorem q536 : (Cond.instanceMethod yX6_isBalanced : Cond) ∈ wsL_law := lf_23 (List.mem_of_getElem? (i := 8) rfl)
theorem q537 : (Cond.selects RX6 yX6_isBalanced yX6_isBalanced : Cond) ∈ wsL_law := lf_23 (List.mem_of_getElem? (i := 9) rfl)
theorem q538 : (Cond.code yX6_isBalanced cX6_isBalanced 3 (some .int) : Cond) ∈ wsL_law := lf_23 (List.mem_of_getElem? (i := 10) rfl)
theorem q539 : (Cond.methodLink RL 93 yX6_ready : Cond) ∈ wsL_law := lf_23 (List.mem_of_getElem? (i := 11) rfl)
theorem q540 : (Cond.instanceMethod yX6_ready : Cond) ∈ wsL_law := lf_23 (List.mem_of_getElem? (i := 12) rfl)
theorem q541 : (Cond.selects RX6 yX6_ready yX6_ready : Cond) ∈ wsL_law := lf_23 (List.mem_of_getElem? (i := 13) rfl)
theorem q542 : (Cond.code yX6_ready cX6_ready 2 (some .int) : Cond) ∈ wsL_law := lf_23 (List.mem_of_getElem? (i := 14) rfl)
theorem q543 : (Cond.methodLink RX6 119 yX4_setOf : Cond) ∈ wsL_law := lf_23 (List.mem_of_getElem? (i := 15) rfl)
theorem q544 : (Cond.methodLink RX6 122 yX4_isReady : Cond) ∈ wsL_law := lf_23 (List.mem_of_getElem? (i := 16) rfl)
theorem q545 : (Cond.methodLink RL 105 yX6_ranked : Cond) ∈ wsL_law := lf_23 (List.mem_of_getElem? (i := 17) rfl)
theorem q546 : (Cond.instanceMethod yX6_ranked : Cond) ∈ wsL_law := lf_23 (List.mem_of_getElem? (i := 18) rfl)
theorem q547 : (Cond.selects RX6 yX6_ranked yX6_ranked : Cond) ∈ wsL_law := lf_23 (List.mem_of_getElem? (i := 19) rfl)
theorem q548 : (Cond.code yX6_ranked cX6_ranked 3 (some .int) : Cond) ∈ wsL_law := lf_23 (List.mem_of_getElem? (i := 20) rfl)
theorem q549 : (Cond.methodLink RX6 173 yX4_stepsAheadOf : Cond) ∈ wsL_law := lf_23 (List.mem_of_getElem? (i := 21) rfl)
theorem q550 : (Cond.instanceMethod yX4_stepsAheadOf : Cond) ∈ wsL_law := lf_23 (List.mem_of_getElem? (i := 22) rfl)
theorem q551 : (Cond.selects RX4 yX4_stepsAheadOf yX4_stepsAheadOf : Cond) ∈ wsL_law := lf_23 (List.mem_of_getElem? (i := 23) rfl)
theorem q552 : (Cond.code yX4_stepsAheadOf cX4_stepsAheadOf 4 (some .int) : Cond) ∈ wsL_law := lf_24 (List.mem_of_getElem? (i := 0) rfl)
theorem q553 : (Cond.methodLink RX4 119 yX4_isRankedAhead : Cond) ∈ wsL_law := lf_24 (List.mem_of_getElem? (i := 1) rfl)
theorem q554 : (Cond.instanceMethod yX4_isRankedAhead : Cond) ∈ wsL_law := lf_24 (List.mem_of_getElem? (i := 2) rfl)
theorem q555 : (Cond.selects RX4 yX4_isRankedAhead yX4_isRankedAhead : Cond) ∈ wsL_law := lf_24 (List.mem_of_getElem? (i := 3) rfl)
theorem q556 : (Cond.code yX4_isRankedAhead cX4_isRankedAhead 5 (some .boolean) : Cond) ∈ wsL_law := lf_24 (List.mem_of_getElem? (i := 4) rfl)
theorem q557 : (Cond.methodLink RL 108 yX6_tell : Cond) ∈ wsL_law := lf_24 (List.mem_of_getElem? (i := 5) rfl)
theorem q558 : (Cond.instanceMethod yX6_tell : Cond) ∈ wsL_law := lf_24 (List.mem_of_getElem? (i := 6) rfl)
theorem q559 : (Cond.selects RX6 yX6_tell yX6_tell : Cond) ∈ wsL_law := lf_24 (List.mem_of_getElem? (i := 7) rfl)
theorem q560 : (Cond.code yX6_tell cX6_tell 2 (some .int) : Cond) ∈ wsL_law := lf_24 (List.mem_of_getElem? (i := 8) rfl)
theorem q561 : (Cond.fieldLink RX6 204 "TrousseauFlow$Line" "length" "I" : Cond) ∈ wsL_law := lf_24 (List.mem_of_getElem? (i := 9) rfl)
theorem q562 : (Cond.methodLink RX6 205 yX1_putStep : Cond) ∈ wsL_law := lf_24 (List.mem_of_getElem? (i := 10) rfl)
theorem q563 : (Cond.instanceMethod yX1_putStep : Cond) ∈ wsL_law := lf_24 (List.mem_of_getElem? (i := 11) rfl)
theorem q564 : (Cond.selects RX1 yX1_putStep yX1_putStep : Cond) ∈ wsL_law := lf_24 (List.mem_of_getElem? (i := 12) rfl)
theorem q565 : (Cond.code yX1_putStep cX1_putStep 4 none : Cond) ∈ wsL_law := lf_24 (List.mem_of_getElem? (i := 13) rfl)
theorem q566 : (Cond.fieldLink RX1 23 "TrousseauFlow$Step" "days" "I" : Cond) ∈ wsL_law := lf_24 (List.mem_of_getElem? (i := 14) rfl)
theorem q567 : (Cond.fieldLink RX1 29 "TrousseauFlow$Step" "more" "I" : Cond) ∈ wsL_law := lf_24 (List.mem_of_getElem? (i := 15) rfl)
theorem q568 : (Cond.fieldLink RX1 32 "TrousseauFlow$Step" "isAny" "Z" : Cond) ∈ wsL_law := lf_24 (List.mem_of_getElem? (i := 16) rfl)
theorem q569 : (Cond.fieldLink RX1 36 "TrousseauFlow$Step" "branch" "I" : Cond) ∈ wsL_law := lf_24 (List.mem_of_getElem? (i := 17) rfl)
theorem q570 : (Cond.fieldLink RX1 39 "TrousseauFlow$Step" "needs" "I" : Cond) ∈ wsL_law := lf_24 (List.mem_of_getElem? (i := 18) rfl)
theorem q571 : (Cond.methodLink RX1 15 yX1_putNumber : Cond) ∈ wsL_law := lf_24 (List.mem_of_getElem? (i := 19) rfl)
theorem q572 : (Cond.instanceMethod yX1_putNumber : Cond) ∈ wsL_law := lf_24 (List.mem_of_getElem? (i := 20) rfl)
theorem q573 : (Cond.selects RX1 yX1_putNumber yX1_putNumber : Cond) ∈ wsL_law := lf_24 (List.mem_of_getElem? (i := 21) rfl)
theorem q574 : (Cond.code yX1_putNumber cX1_putNumber 2 none : Cond) ∈ wsL_law := lf_24 (List.mem_of_getElem? (i := 22) rfl)
theorem q575 : (Cond.methodLink RX1 19 yX1_putSign : Cond) ∈ wsL_law := lf_24 (List.mem_of_getElem? (i := 23) rfl)
theorem q576 : (Cond.instanceMethod yX1_putSign : Cond) ∈ wsL_law := lf_25 (List.mem_of_getElem? (i := 0) rfl)
theorem q577 : (Cond.selects RX1 yX1_putSign yX1_putSign : Cond) ∈ wsL_law := lf_25 (List.mem_of_getElem? (i := 1) rfl)
theorem q578 : (Cond.code yX1_putSign cX1_putSign 2 none : Cond) ∈ wsL_law := lf_25 (List.mem_of_getElem? (i := 2) rfl)
theorem q579 : (Cond.fieldLink RX1 54 "TrousseauFlow$Line" "length" "I" : Cond) ∈ wsL_law := lf_25 (List.mem_of_getElem? (i := 3) rfl)
theorem q580 : (Cond.methodLink RL 30 yX6_character : Cond) ∈ wsL_law := lf_25 (List.mem_of_getElem? (i := 4) rfl)
theorem q581 : (Cond.instanceMethod yX6_character : Cond) ∈ wsL_law := lf_25 (List.mem_of_getElem? (i := 5) rfl)
theorem q582 : (Cond.selects RX6 yX6_character yX6_character : Cond) ∈ wsL_law := lf_25 (List.mem_of_getElem? (i := 6) rfl)
theorem q583 : (Cond.code yX6_character cX6_character 2 (some .int) : Cond) ∈ wsL_law := lf_25 (List.mem_of_getElem? (i := 7) rfl)
theorem q584 : (Cond.fieldLink RX6 213 "TrousseauFlow$Line" "signs" "[C" : Cond) ∈ wsL_law := lf_25 (List.mem_of_getElem? (i := 8) rfl)
theorem q585 : (Cond.methodLink RL 111 yX6_milestoneOf : Cond) ∈ wsL_law := lf_25 (List.mem_of_getElem? (i := 9) rfl)
theorem q586 : (Cond.instanceMethod yX6_milestoneOf : Cond) ∈ wsL_law := lf_25 (List.mem_of_getElem? (i := 10) rfl)
theorem q587 : (Cond.selects RX6 yX6_milestoneOf yX6_milestoneOf : Cond) ∈ wsL_law := lf_25 (List.mem_of_getElem? (i := 11) rfl)
theorem q588 : (Cond.code yX6_milestoneOf cX6_milestoneOf 4 (some .int) : Cond) ∈ wsL_law := lf_25 (List.mem_of_getElem? (i := 12) rfl)
theorem q589 : (Cond.fieldLink RX6 129 "TrousseauFlow$Plan" "milestones" "[I" : Cond) ∈ wsL_law := lf_25 (List.mem_of_getElem? (i := 13) rfl)
theorem q590 : (Cond.methodLink RX6 136 yX4_lateBy : Cond) ∈ wsL_law := lf_25 (List.mem_of_getElem? (i := 14) rfl)
theorem q591 : (Cond.instanceMethod yX4_lateBy : Cond) ∈ wsL_law := lf_25 (List.mem_of_getElem? (i := 15) rfl)
theorem q592 : (Cond.selects RX4 yX4_lateBy yX4_lateBy : Cond) ∈ wsL_law := lf_25 (List.mem_of_getElem? (i := 16) rfl)
theorem q593 : (Cond.code yX4_lateBy cX4_lateBy 4 (some .int) : Cond) ∈ wsL_law := lf_25 (List.mem_of_getElem? (i := 17) rfl)
theorem q594 : (Cond.methodLink RX4 90 Lib.Math.max.name : Cond) ∈ wsL_law := lf_25 (List.mem_of_getElem? (i := 18) rfl)
theorem q595 : (Cond.methodLink RL 114 yX6_logged : Cond) ∈ wsL_law := lf_25 (List.mem_of_getElem? (i := 19) rfl)
theorem q596 : (Cond.instanceMethod yX6_logged : Cond) ∈ wsL_law := lf_25 (List.mem_of_getElem? (i := 20) rfl)
theorem q597 : (Cond.selects RX6 yX6_logged yX6_logged : Cond) ∈ wsL_law := lf_25 (List.mem_of_getElem? (i := 21) rfl)
theorem q598 : (Cond.code yX6_logged cX6_logged 4 (some .int) : Cond) ∈ wsL_law := lf_25 (List.mem_of_getElem? (i := 22) rfl)
theorem q599 : (Cond.fieldLink RX6 161 "TrousseauFlow$Plan" "eventCount" "I" : Cond) ∈ wsL_law := lf_25 (List.mem_of_getElem? (i := 23) rfl)
theorem q600 : (Cond.fieldLink RX6 164 "TrousseauFlow$Plan" "nextEvent" "I" : Cond) ∈ wsL_law := lf_26 (List.mem_of_getElem? (i := 0) rfl)
theorem q601 : (Cond.fieldLink RX6 167 "TrousseauFlow$Plan" "events" "[I" : Cond) ∈ wsL_law := lf_26 (List.mem_of_getElem? (i := 1) rfl)
theorem q602 : (Cond.methodLink RL 117 yX6_tellAll : Cond) ∈ wsL_law := lf_26 (List.mem_of_getElem? (i := 2) rfl)
theorem q603 : (Cond.instanceMethod yX6_tellAll : Cond) ∈ wsL_law := lf_26 (List.mem_of_getElem? (i := 3) rfl)
theorem q604 : (Cond.selects RX6 yX6_tellAll yX6_tellAll : Cond) ∈ wsL_law := lf_26 (List.mem_of_getElem? (i := 4) rfl)
theorem q605 : (Cond.code yX6_tellAll cX6_tellAll 2 (some .int) : Cond) ∈ wsL_law := lf_26 (List.mem_of_getElem? (i := 5) rfl)
theorem q606 : (Cond.methodLink RX6 209 yX1_putLetterOf : Cond) ∈ wsL_law := lf_26 (List.mem_of_getElem? (i := 6) rfl)
theorem q607 : (Cond.instanceMethod yX1_putLetterOf : Cond) ∈ wsL_law := lf_26 (List.mem_of_getElem? (i := 7) rfl)
theorem q608 : (Cond.selects RX1 yX1_putLetterOf yX1_putLetterOf : Cond) ∈ wsL_law := lf_26 (List.mem_of_getElem? (i := 8) rfl)
theorem q609 : (Cond.code yX1_putLetterOf cX1_putLetterOf 2 none : Cond) ∈ wsL_law := lf_26 (List.mem_of_getElem? (i := 9) rfl)
theorem q610 : (Cond.methodLink RX1 44 yJ0_length_8abf5 : Cond) ∈ wsL_law := lf_26 (List.mem_of_getElem? (i := 10) rfl)
theorem q611 : (Cond.methodLink RX1 50 yJ0_charAt_5068e : Cond) ∈ wsL_law := lf_26 (List.mem_of_getElem? (i := 11) rfl)
theorem q612 : (Cond.methodLink RL 120 yX6_late : Cond) ∈ wsL_law := lf_26 (List.mem_of_getElem? (i := 12) rfl)
theorem q613 : (Cond.instanceMethod yX6_late : Cond) ∈ wsL_law := lf_26 (List.mem_of_getElem? (i := 13) rfl)
theorem q614 : (Cond.selects RX6 yX6_late yX6_late : Cond) ∈ wsL_law := lf_26 (List.mem_of_getElem? (i := 14) rfl)
theorem q615 : (Cond.code yX6_late cX6_late 3 (some .int) : Cond) ∈ wsL_law := lf_26 (List.mem_of_getElem? (i := 15) rfl)
theorem q616 : (Cond.methodLink RL 187 yL_refused : Cond) ∈ wsL_law := lf_26 (List.mem_of_getElem? (i := 16) rfl)
theorem q617 : (Cond.static yL_refused : Cond) ∈ wsL_law := lf_26 (List.mem_of_getElem? (i := 17) rfl)
theorem q618 : (Cond.code yL_refused cL_refused 7 (some .boolean) : Cond) ∈ wsL_law := lf_26 (List.mem_of_getElem? (i := 18) rfl)
theorem q619 : (Cond.methodLink RL 123 yX6_cancel : Cond) ∈ wsL_law := lf_26 (List.mem_of_getElem? (i := 19) rfl)
theorem q620 : (Cond.instanceMethod yX6_cancel : Cond) ∈ wsL_law := lf_26 (List.mem_of_getElem? (i := 20) rfl)
theorem q621 : (Cond.selects RX6 yX6_cancel yX6_cancel : Cond) ∈ wsL_law := lf_26 (List.mem_of_getElem? (i := 21) rfl)
theorem q622 : (Cond.code yX6_cancel cX6_cancel 2 (some .int) : Cond) ∈ wsL_law := lf_26 (List.mem_of_getElem? (i := 22) rfl)
theorem q623 : (Cond.methodLink RL 151 yL_reads : Cond) ∈ wsL_law := lf_26 (List.mem_of_getElem? (i := 23) rfl)
theorem q624 : (Cond.static yL_reads : Cond) ∈ wsL_law := lf_27 (List.mem_of_getElem? (i := 0) rfl)
theorem q625 : (Cond.code yL_reads cL_reads 3 (some .int) : Cond) ∈ wsL_law := lf_27 (List.mem_of_getElem? (i := 1) rfl)
theorem q626 : (Cond.methodLink RL 7 yJ0_length_8abf5 : Cond) ∈ wsL_law := lf_27 (List.mem_of_getElem? (i := 2) rfl)
theorem q627 : (Cond.methodLink RL 13 yJ0_charAt_5068e : Cond) ∈ wsL_law := lf_27 (List.mem_of_getElem? (i := 3) rfl)
theorem q628 : (Cond.methodLink RL 169 yL_refusedAt : Cond) ∈ wsL_law := lf_27 (List.mem_of_getElem? (i := 4) rfl)
theorem q629 : (Cond.static yL_refusedAt : Cond) ∈ wsL_law := lf_27 (List.mem_of_getElem? (i := 5) rfl)
theorem q630 : (Cond.code yL_refusedAt cL_refusedAt 2 (some .boolean) : Cond) ∈ wsL_law := lf_27 (List.mem_of_getElem? (i := 6) rfl)
theorem q631 : (Cond.methodLink RL 191 yL_changes : Cond) ∈ wsL_law := lf_27 (List.mem_of_getElem? (i := 7) rfl)
theorem q632 : (Cond.static yL_changes : Cond) ∈ wsL_law := lf_27 (List.mem_of_getElem? (i := 8) rfl)
theorem q633 : (Cond.code yL_changes cL_changes 4 (some .boolean) : Cond) ∈ wsL_law := lf_27 (List.mem_of_getElem? (i := 9) rfl)
theorem q634 : (Cond.classLink RL 126 RJ4 : Cond) ∈ wsL_law := lf_27 (List.mem_of_getElem? (i := 10) rfl)
theorem q635 : (Cond.instantiable RJ4 4 : Cond) ∈ wsL_law := lf_27 (List.mem_of_getElem? (i := 11) rfl)
theorem q636 : (Cond.initialized RJ4 : Cond) ∈ wsL_law := lf_27 (List.mem_of_getElem? (i := 12) rfl)
theorem q637 : (Cond.methodLink RL 128 yJ4_init_da8c8 : Cond) ∈ wsL_law := lf_27 (List.mem_of_getElem? (i := 13) rfl)
theorem q638 : (Cond.instanceMethod yJ4_init_da8c8 : Cond) ∈ wsL_law := lf_27 (List.mem_of_getElem? (i := 14) rfl)
theorem q639 : (Cond.code yJ4_init_da8c8 cJ4_init_da8c8 1 none : Cond) ∈ wsL_law := lf_27 (List.mem_of_getElem? (i := 15) rfl)
theorem q640 : (Cond.methodLink RJ4 1 yJ5_init_d00df : Cond) ∈ wsL_law := lf_27 (List.mem_of_getElem? (i := 16) rfl)
theorem q641 : (Cond.instanceMethod yJ5_init_d00df : Cond) ∈ wsL_law := lf_27 (List.mem_of_getElem? (i := 17) rfl)
theorem q642 : (Cond.initialized RJ5 : Cond) ∈ wsL_law := lf_27 (List.mem_of_getElem? (i := 18) rfl)
theorem q643 : (Cond.code yJ5_init_d00df cJ5_init_d00df 2 none : Cond) ∈ wsL_law := lf_27 (List.mem_of_getElem? (i := 19) rfl)
theorem q644 : (Cond.methodLink RJ5 3 objectInit : Cond) ∈ wsL_law := lf_27 (List.mem_of_getElem? (i := 20) rfl)
theorem q645 : (Cond.fieldLink RJ5 18 "java/lang/String" "COMPACT_STRINGS" "Z" : Cond) ∈ wsL_law := lf_27 (List.mem_of_getElem? (i := 21) rfl)
theorem q646 : (Cond.arrayClass .byte : Cond) ∈ wsL_law := lf_27 (List.mem_of_getElem? (i := 22) rfl)
theorem q647 : (Cond.fieldLink RJ5 15 "java/lang/AbstractStringBuilder" "value" "[B" : Cond) ∈ wsL_law := lf_27 (List.mem_of_getElem? (i := 23) rfl)
theorem q648 : (Cond.fieldLink RJ5 22 "java/lang/AbstractStringBuilder" "coder" "B" : Cond) ∈ wsL_law := lf_28 (List.mem_of_getElem? (i := 0) rfl)
theorem q649 : (Cond.methodLink RJ5 26 yJ2_newBytesFor_77867 : Cond) ∈ wsL_law := lf_28 (List.mem_of_getElem? (i := 1) rfl)
theorem q650 : (Cond.static yJ2_newBytesFor_77867 : Cond) ∈ wsL_law := lf_28 (List.mem_of_getElem? (i := 2) rfl)
theorem q651 : (Cond.code yJ2_newBytesFor_77867 cJ2_newBytesFor_77867 1 (some (.array .byte)) : Cond) ∈ wsL_law := lf_28 (List.mem_of_getElem? (i := 3) rfl)
theorem q652 : (Cond.methodLink RJ2 11 yJ2_newBytesLength_0f7a4 : Cond) ∈ wsL_law := lf_28 (List.mem_of_getElem? (i := 4) rfl)
theorem q653 : (Cond.static yJ2_newBytesLength_0f7a4 : Cond) ∈ wsL_law := lf_28 (List.mem_of_getElem? (i := 5) rfl)
theorem q654 : (Cond.code yJ2_newBytesLength_0f7a4 cJ2_newBytesLength_0f7a4 1 (some .int) : Cond) ∈ wsL_law := lf_28 (List.mem_of_getElem? (i := 6) rfl)
theorem q655 : (Cond.constant RJ2 20 (1073741823) : Cond) ∈ wsL_law := lf_28 (List.mem_of_getElem? (i := 7) rfl)
theorem q656 : (Cond.methodLink RL 131 yJ4_append_15ec4 : Cond) ∈ wsL_law := lf_28 (List.mem_of_getElem? (i := 8) rfl)
theorem q657 : (Cond.instanceMethod yJ4_append_15ec4 : Cond) ∈ wsL_law := lf_28 (List.mem_of_getElem? (i := 9) rfl)
theorem q658 : (Cond.selects RJ4 yJ4_append_15ec4 yJ4_append_15ec4 : Cond) ∈ wsL_law := lf_28 (List.mem_of_getElem? (i := 10) rfl)
theorem q659 : (Cond.code yJ4_append_15ec4 cJ4_append_15ec4 2 (some (.object "java/lang/StringBuilder")) : Cond) ∈ wsL_law := lf_28 (List.mem_of_getElem? (i := 11) rfl)
theorem q660 : (Cond.methodLink RJ4 29 yJ5_append_cf1ce : Cond) ∈ wsL_law := lf_28 (List.mem_of_getElem? (i := 12) rfl)
theorem q661 : (Cond.sameMethod "java/lang/AbstractStringBuilder" "java/lang/AbstractStringBuilder" "append" "(Ljava/lang/String;)Ljava/lang/AbstractStringBuilder;" : Cond) ∈ wsL_law := lf_28 (List.mem_of_getElem? (i := 13) rfl)
theorem q662 : (Cond.superclass RJ4 RJ5 : Cond) ∈ wsL_law := lf_28 (List.mem_of_getElem? (i := 14) rfl)
theorem q663 : (Cond.instanceMethod yJ5_append_cf1ce : Cond) ∈ wsL_law := lf_28 (List.mem_of_getElem? (i := 15) rfl)
theorem q664 : (Cond.code yJ5_append_cf1ce cJ5_append_cf1ce 3 (some (.object "java/lang/AbstractStringBuilder")) : Cond) ∈ wsL_law := lf_28 (List.mem_of_getElem? (i := 16) rfl)
theorem q665 : (Cond.fieldLink RJ5 79 "java/lang/AbstractStringBuilder" "count" "I" : Cond) ∈ wsL_law := lf_28 (List.mem_of_getElem? (i := 17) rfl)
theorem q666 : (Cond.methodLink RJ5 204 ⟨"java/lang/AbstractStringBuilder", "appendNull", "()Ljava/lang/AbstractStringBuilder;"⟩ : Cond) ∈ wsL_law := lf_28 (List.mem_of_getElem? (i := 18) rfl)
theorem q667 : (Cond.sameMethod "java/lang/AbstractStringBuilder" "java/lang/AbstractStringBuilder" "appendNull" "()Ljava/lang/AbstractStringBuilder;" : Cond) ∈ wsL_law := lf_28 (List.mem_of_getElem? (i := 19) rfl)
theorem q668 : (Cond.instanceMethod yJ5_appendNull_278bc : Cond) ∈ wsL_law := lf_28 (List.mem_of_getElem? (i := 20) rfl)
theorem q669 : (Cond.code yJ5_appendNull_278bc cJ5_appendNull_278bc 3 (some (.object "java/lang/AbstractStringBuilder")) : Cond) ∈ wsL_law := lf_28 (List.mem_of_getElem? (i := 21) rfl)
theorem q670 : (Cond.methodLink RJ5 100 ⟨"java/lang/AbstractStringBuilder", "ensureCapacityInternal", "(I)V"⟩ : Cond) ∈ wsL_law := lf_28 (List.mem_of_getElem? (i := 22) rfl)
theorem q671 : (Cond.sameMethod "java/lang/AbstractStringBuilder" "java/lang/AbstractStringBuilder" "ensureCapacityInternal" "(I)V" : Cond) ∈ wsL_law := lf_29 (List.mem_of_getElem? (i := 0) rfl)
theorem q672 : (Cond.instanceMethod yJ5_ensureCapacityInternal_d00df : Cond) ∈ wsL_law := lf_29 (List.mem_of_getElem? (i := 1) rfl)
theorem q673 : (Cond.code yJ5_ensureCapacityInternal_d00df cJ5_ensureCapacityInternal_d00df 3 none : Cond) ∈ wsL_law := lf_29 (List.mem_of_getElem? (i := 2) rfl)
theorem q674 : (Cond.methodLink RJ5 104 ⟨"java/lang/AbstractStringBuilder", "newCapacity", "(I)I"⟩ : Cond) ∈ wsL_law := lf_29 (List.mem_of_getElem? (i := 3) rfl)
theorem q675 : (Cond.sameMethod "java/lang/AbstractStringBuilder" "java/lang/AbstractStringBuilder" "newCapacity" "(I)I" : Cond) ∈ wsL_law := lf_29 (List.mem_of_getElem? (i := 4) rfl)
theorem q676 : (Cond.instanceMethod yJ5_newCapacity_0f7a4 : Cond) ∈ wsL_law := lf_29 (List.mem_of_getElem? (i := 5) rfl)
theorem q677 : (Cond.code yJ5_newCapacity_0f7a4 cJ5_newCapacity_0f7a4 6 (some .int) : Cond) ∈ wsL_law := lf_29 (List.mem_of_getElem? (i := 6) rfl)
theorem q678 : (Cond.constant RJ5 39 (2147483647) : Cond) ∈ wsL_law := lf_29 (List.mem_of_getElem? (i := 7) rfl)
theorem q679 : (Cond.methodLink RJ5 114 yJ8_newLength_cabcc : Cond) ∈ wsL_law := lf_29 (List.mem_of_getElem? (i := 8) rfl)
theorem q680 : (Cond.static yJ8_newLength_cabcc : Cond) ∈ wsL_law := lf_29 (List.mem_of_getElem? (i := 9) rfl)
theorem q681 : (Cond.initialized RJ8 : Cond) ∈ wsL_law := lf_29 (List.mem_of_getElem? (i := 10) rfl)
theorem q682 : (Cond.code yJ8_newLength_cabcc cJ8_newLength_cabcc 4 (some .int) : Cond) ∈ wsL_law := lf_29 (List.mem_of_getElem? (i := 11) rfl)
theorem q683 : (Cond.methodLink RJ8 194 Lib.Math.max.name : Cond) ∈ wsL_law := lf_29 (List.mem_of_getElem? (i := 12) rfl)
theorem q684 : (Cond.constant RJ8 200 (2147483639) : Cond) ∈ wsL_law := lf_29 (List.mem_of_getElem? (i := 13) rfl)
theorem q685 : (Cond.methodLink RJ8 201 yJ8_hugeLength_7cf53 : Cond) ∈ wsL_law := lf_29 (List.mem_of_getElem? (i := 14) rfl)
theorem q686 : (Cond.static yJ8_hugeLength_7cf53 : Cond) ∈ wsL_law := lf_29 (List.mem_of_getElem? (i := 15) rfl)
theorem q687 : (Cond.code yJ8_hugeLength_7cf53 cJ8_hugeLength_7cf53 3 (some .int) : Cond) ∈ wsL_law := lf_29 (List.mem_of_getElem? (i := 16) rfl)
theorem q688 : (Cond.methodLink RJ5 108 yJ7_copyOf_9075b : Cond) ∈ wsL_law := lf_29 (List.mem_of_getElem? (i := 17) rfl)
theorem q689 : (Cond.static yJ7_copyOf_9075b : Cond) ∈ wsL_law := lf_29 (List.mem_of_getElem? (i := 18) rfl)
theorem q690 : (Cond.initialized RJ7 : Cond) ∈ wsL_law := lf_29 (List.mem_of_getElem? (i := 19) rfl)
theorem q691 : (Cond.code yJ7_copyOf_9075b cJ7_copyOf_9075b 3 (some (.array .byte)) : Cond) ∈ wsL_law := lf_29 (List.mem_of_getElem? (i := 20) rfl)
theorem q692 : (Cond.methodLink RJ7 310 ⟨"[B", "clone", "()Ljava/lang/Object;"⟩ : Cond) ∈ wsL_law := lf_29 (List.mem_of_getElem? (i := 21) rfl)
theorem q693 : (Cond.sameMethod "[B" "java/lang/Object" "clone" "()Ljava/lang/Object;" : Cond) ∈ wsL_law := lf_30 (List.mem_of_getElem? (i := 0) rfl)
theorem q694 : (Cond.native ⟨"java/lang/Object", "clone", "()Ljava/lang/Object;"⟩ : Cond) ∈ wsL_law := lf_30 (List.mem_of_getElem? (i := 1) rfl)
theorem q695 : (Cond.instanceMethod ⟨"java/lang/Object", "clone", "()Ljava/lang/Object;"⟩ : Cond) ∈ wsL_law := lf_30 (List.mem_of_getElem? (i := 2) rfl)
theorem q696 : (Cond.selects "[B" ⟨"[B", "clone", "()Ljava/lang/Object;"⟩ ⟨"java/lang/Object", "clone", "()Ljava/lang/Object;"⟩ : Cond) ∈ wsL_law := lf_30 (List.mem_of_getElem? (i := 3) rfl)
theorem q697 : (Cond.classLink RJ7 311 "[B" : Cond) ∈ wsL_law := lf_30 (List.mem_of_getElem? (i := 4) rfl)
theorem q698 : (Cond.methodLink RJ7 304 Lib.Math.min.name : Cond) ∈ wsL_law := lf_30 (List.mem_of_getElem? (i := 5) rfl)
theorem q699 : (Cond.methodLink RJ7 150 arraycopyName : Cond) ∈ wsL_law := lf_30 (List.mem_of_getElem? (i := 6) rfl)
theorem q700 : (Cond.methodLink RJ5 83 ⟨"java/lang/AbstractStringBuilder", "isLatin1", "()Z"⟩ : Cond) ∈ wsL_law := lf_30 (List.mem_of_getElem? (i := 7) rfl)
theorem q701 : (Cond.sameMethod "java/lang/AbstractStringBuilder" "java/lang/AbstractStringBuilder" "isLatin1" "()Z" : Cond) ∈ wsL_law := lf_30 (List.mem_of_getElem? (i := 8) rfl)
theorem q702 : (Cond.selects RJ4 ⟨"java/lang/AbstractStringBuilder", "isLatin1", "()Z"⟩ yJ5_isLatin1_aae02 : Cond) ∈ wsL_law := lf_30 (List.mem_of_getElem? (i := 9) rfl)
theorem q703 : (Cond.instanceMethod yJ5_isLatin1_aae02 : Cond) ∈ wsL_law := lf_30 (List.mem_of_getElem? (i := 10) rfl)
theorem q704 : (Cond.code yJ5_isLatin1_aae02 cJ5_isLatin1_aae02 1 (some .boolean) : Cond) ∈ wsL_law := lf_30 (List.mem_of_getElem? (i := 11) rfl)
theorem q705 : (Cond.methodLink RJ5 226 yJ2_putCharsAt_cd4e5 : Cond) ∈ wsL_law := lf_30 (List.mem_of_getElem? (i := 12) rfl)
theorem q706 : (Cond.static yJ2_putCharsAt_cd4e5 : Cond) ∈ wsL_law := lf_30 (List.mem_of_getElem? (i := 13) rfl)
theorem q707 : (Cond.code yJ2_putCharsAt_cd4e5 cJ2_putCharsAt_cd4e5 7 (some .int) : Cond) ∈ wsL_law := lf_30 (List.mem_of_getElem? (i := 14) rfl)
theorem q708 : (Cond.methodLink RJ2 96 yJ2_checkBoundsBeginEnd_d044e : Cond) ∈ wsL_law := lf_30 (List.mem_of_getElem? (i := 15) rfl)
theorem q709 : (Cond.static yJ2_checkBoundsBeginEnd_d044e : Cond) ∈ wsL_law := lf_30 (List.mem_of_getElem? (i := 16) rfl)
theorem q710 : (Cond.code yJ2_checkBoundsBeginEnd_d044e cJ2_checkBoundsBeginEnd_d044e 3 none : Cond) ∈ wsL_law := lf_30 (List.mem_of_getElem? (i := 17) rfl)
theorem q711 : (Cond.methodLink RJ2 241 yJ0_checkBoundsBeginEnd_23922 : Cond) ∈ wsL_law := lf_30 (List.mem_of_getElem? (i := 18) rfl)
theorem q712 : (Cond.static yJ0_checkBoundsBeginEnd_23922 : Cond) ∈ wsL_law := lf_30 (List.mem_of_getElem? (i := 19) rfl)
theorem q713 : (Cond.code yJ0_checkBoundsBeginEnd_23922 cJ0_checkBoundsBeginEnd_23922 3 none : Cond) ∈ wsL_law := lf_30 (List.mem_of_getElem? (i := 20) rfl)
theorem q714 : (Cond.methodLink RJ0 1062 yJ3_checkFromToIndex_8c36e : Cond) ∈ wsL_law := lf_30 (List.mem_of_getElem? (i := 21) rfl)
theorem q715 : (Cond.static yJ3_checkFromToIndex_8c36e : Cond) ∈ wsL_law := lf_30 (List.mem_of_getElem? (i := 22) rfl)
theorem q716 : (Cond.code yJ3_checkFromToIndex_8c36e cJ3_checkFromToIndex_8c36e 4 (some .int) : Cond) ∈ wsL_law := lf_30 (List.mem_of_getElem? (i := 23) rfl)
theorem q717 : (Cond.methodLink RJ2 111 yJ2_putChar_b72d1 : Cond) ∈ wsL_law := lf_31 (List.mem_of_getElem? (i := 0) rfl)
theorem q718 : (Cond.static yJ2_putChar_b72d1 : Cond) ∈ wsL_law := lf_31 (List.mem_of_getElem? (i := 1) rfl)
theorem q719 : (Cond.code yJ2_putChar_b72d1 cJ2_putChar_b72d1 3 none : Cond) ∈ wsL_law := lf_31 (List.mem_of_getElem? (i := 2) rfl)
theorem q720 : (Cond.methodLink RJ5 32 yJ0_length_8abf5 : Cond) ∈ wsL_law := lf_31 (List.mem_of_getElem? (i := 3) rfl)
theorem q721 : (Cond.methodLink RJ5 208 ⟨"java/lang/AbstractStringBuilder", "putStringAt", "(ILjava/lang/String;)V"⟩ : Cond) ∈ wsL_law := lf_31 (List.mem_of_getElem? (i := 4) rfl)
theorem q722 : (Cond.sameMethod "java/lang/AbstractStringBuilder" "java/lang/AbstractStringBuilder" "putStringAt" "(ILjava/lang/String;)V" : Cond) ∈ wsL_law := lf_31 (List.mem_of_getElem? (i := 5) rfl)
theorem q723 : (Cond.instanceMethod yJ5_putStringAt_47b60 : Cond) ∈ wsL_law := lf_31 (List.mem_of_getElem? (i := 6) rfl)
theorem q724 : (Cond.code yJ5_putStringAt_47b60 cJ5_putStringAt_47b60 3 none : Cond) ∈ wsL_law := lf_31 (List.mem_of_getElem? (i := 7) rfl)
theorem q725 : (Cond.methodLink RJ5 397 ⟨"java/lang/AbstractStringBuilder", "inflateIfNeededFor", "(Ljava/lang/String;)V"⟩ : Cond) ∈ wsL_law := lf_31 (List.mem_of_getElem? (i := 8) rfl)
theorem q726 : (Cond.sameMethod "java/lang/AbstractStringBuilder" "java/lang/AbstractStringBuilder" "inflateIfNeededFor" "(Ljava/lang/String;)V" : Cond) ∈ wsL_law := lf_31 (List.mem_of_getElem? (i := 9) rfl)
theorem q727 : (Cond.instanceMethod yJ5_inflateIfNeededFor_a7421 : Cond) ∈ wsL_law := lf_31 (List.mem_of_getElem? (i := 10) rfl)
theorem q728 : (Cond.code yJ5_inflateIfNeededFor_a7421 cJ5_inflateIfNeededFor_a7421 2 none : Cond) ∈ wsL_law := lf_31 (List.mem_of_getElem? (i := 11) rfl)
theorem q729 : (Cond.methodLink RJ5 40 yJ0_coder_7d493 : Cond) ∈ wsL_law := lf_31 (List.mem_of_getElem? (i := 12) rfl)
theorem q730 : (Cond.methodLink RJ5 195 ⟨"java/lang/AbstractStringBuilder", "inflate", "()V"⟩ : Cond) ∈ wsL_law := lf_31 (List.mem_of_getElem? (i := 13) rfl)
theorem q731 : (Cond.sameMethod "java/lang/AbstractStringBuilder" "java/lang/AbstractStringBuilder" "inflate" "()V" : Cond) ∈ wsL_law := lf_31 (List.mem_of_getElem? (i := 14) rfl)
theorem q732 : (Cond.instanceMethod yJ5_inflate_da8c8 : Cond) ∈ wsL_law := lf_31 (List.mem_of_getElem? (i := 15) rfl)
theorem q733 : (Cond.code yJ5_inflate_da8c8 cJ5_inflate_da8c8 2 none : Cond) ∈ wsL_law := lf_31 (List.mem_of_getElem? (i := 16) rfl)
theorem q734 : (Cond.methodLink RJ5 125 yJ1_inflate_0e8fd : Cond) ∈ wsL_law := lf_31 (List.mem_of_getElem? (i := 17) rfl)
theorem q735 : (Cond.static yJ1_inflate_0e8fd : Cond) ∈ wsL_law := lf_31 (List.mem_of_getElem? (i := 18) rfl)
theorem q736 : (Cond.code yJ1_inflate_0e8fd cJ1_inflate_0e8fd 5 none : Cond) ∈ wsL_law := lf_31 (List.mem_of_getElem? (i := 19) rfl)
theorem q737 : (Cond.methodLink RJ1 240 yJ2_inflate_0e8fd : Cond) ∈ wsL_law := lf_31 (List.mem_of_getElem? (i := 20) rfl)
theorem q738 : (Cond.static yJ2_inflate_0e8fd : Cond) ∈ wsL_law := lf_32 (List.mem_of_getElem? (i := 0) rfl)
theorem q739 : (Cond.code yJ2_inflate_0e8fd cJ2_inflate_0e8fd 6 none : Cond) ∈ wsL_law := lf_32 (List.mem_of_getElem? (i := 1) rfl)
theorem q740 : (Cond.methodLink RJ2 173 yJ2_checkBoundsOffCount_d044e : Cond) ∈ wsL_law := lf_32 (List.mem_of_getElem? (i := 2) rfl)
theorem q741 : (Cond.static yJ2_checkBoundsOffCount_d044e : Cond) ∈ wsL_law := lf_32 (List.mem_of_getElem? (i := 3) rfl)
theorem q742 : (Cond.code yJ2_checkBoundsOffCount_d044e cJ2_checkBoundsOffCount_d044e 3 none : Cond) ∈ wsL_law := lf_32 (List.mem_of_getElem? (i := 4) rfl)
theorem q743 : (Cond.methodLink RJ2 419 yJ0_checkBoundsOffCount_cabcc : Cond) ∈ wsL_law := lf_32 (List.mem_of_getElem? (i := 5) rfl)
theorem q744 : (Cond.static yJ0_checkBoundsOffCount_cabcc : Cond) ∈ wsL_law := lf_32 (List.mem_of_getElem? (i := 6) rfl)
theorem q745 : (Cond.code yJ0_checkBoundsOffCount_cabcc cJ0_checkBoundsOffCount_cabcc 3 (some .int) : Cond) ∈ wsL_law := lf_32 (List.mem_of_getElem? (i := 7) rfl)
theorem q746 : (Cond.methodLink RJ0 1065 yJ3_checkFromIndexSize_8c36e : Cond) ∈ wsL_law := lf_32 (List.mem_of_getElem? (i := 8) rfl)
theorem q747 : (Cond.static yJ3_checkFromIndexSize_8c36e : Cond) ∈ wsL_law := lf_32 (List.mem_of_getElem? (i := 9) rfl)
theorem q748 : (Cond.code yJ3_checkFromIndexSize_8c36e cJ3_checkFromIndexSize_8c36e 4 (some .int) : Cond) ∈ wsL_law := lf_32 (List.mem_of_getElem? (i := 10) rfl)
theorem q749 : (Cond.methodLink RJ5 399 yJ0_getBytes_840e7 : Cond) ∈ wsL_law := lf_32 (List.mem_of_getElem? (i := 11) rfl)
theorem q750 : (Cond.instanceMethod yJ0_getBytes_840e7 : Cond) ∈ wsL_law := lf_32 (List.mem_of_getElem? (i := 12) rfl)
theorem q751 : (Cond.selects RJ0 yJ0_getBytes_840e7 yJ0_getBytes_840e7 : Cond) ∈ wsL_law := lf_32 (List.mem_of_getElem? (i := 13) rfl)
theorem q752 : (Cond.code yJ0_getBytes_840e7 cJ0_getBytes_840e7 4 none : Cond) ∈ wsL_law := lf_32 (List.mem_of_getElem? (i := 14) rfl)
theorem q753 : (Cond.methodLink RJ0 212 arraycopyName : Cond) ∈ wsL_law := lf_32 (List.mem_of_getElem? (i := 15) rfl)
theorem q754 : (Cond.methodLink RJ0 106 yJ1_inflate_0e8fd : Cond) ∈ wsL_law := lf_32 (List.mem_of_getElem? (i := 16) rfl)
theorem q755 : (Cond.methodLink RL 134 yJ4_append_bf812 : Cond) ∈ wsL_law := lf_32 (List.mem_of_getElem? (i := 17) rfl)
theorem q756 : (Cond.instanceMethod yJ4_append_bf812 : Cond) ∈ wsL_law := lf_32 (List.mem_of_getElem? (i := 18) rfl)
theorem q757 : (Cond.selects RJ4 yJ4_append_bf812 yJ4_append_bf812 : Cond) ∈ wsL_law := lf_32 (List.mem_of_getElem? (i := 19) rfl)
theorem q758 : (Cond.code yJ4_append_bf812 cJ4_append_bf812 2 (some (.object "java/lang/StringBuilder")) : Cond) ∈ wsL_law := lf_32 (List.mem_of_getElem? (i := 20) rfl)
theorem q759 : (Cond.methodLink RJ4 53 yJ5_append_c97b9 : Cond) ∈ wsL_law := lf_32 (List.mem_of_getElem? (i := 21) rfl)
theorem q760 : (Cond.sameMethod "java/lang/AbstractStringBuilder" "java/lang/AbstractStringBuilder" "append" "(I)Ljava/lang/AbstractStringBuilder;" : Cond) ∈ wsL_law := lf_32 (List.mem_of_getElem? (i := 22) rfl)
theorem q761 : (Cond.instanceMethod yJ5_append_c97b9 : Cond) ∈ wsL_law := lf_32 (List.mem_of_getElem? (i := 23) rfl)
theorem q762 : (Cond.code yJ5_append_c97b9 cJ5_append_c97b9 4 (some (.object "java/lang/AbstractStringBuilder")) : Cond) ∈ wsL_law := lf_33 (List.mem_of_getElem? (i := 0) rfl)
theorem q763 : (Cond.methodLink RJ5 245 yJ6_stringSize_0f7a4 : Cond) ∈ wsL_law := lf_33 (List.mem_of_getElem? (i := 1) rfl)
theorem q764 : (Cond.static yJ6_stringSize_0f7a4 : Cond) ∈ wsL_law := lf_33 (List.mem_of_getElem? (i := 2) rfl)
theorem q765 : (Cond.code yJ6_stringSize_0f7a4 cJ6_stringSize_0f7a4 4 (some .int) : Cond) ∈ wsL_law := lf_33 (List.mem_of_getElem? (i := 3) rfl)
theorem q766 : (Cond.methodLink RJ5 248 yJ6_getChars_ba4f3 : Cond) ∈ wsL_law := lf_33 (List.mem_of_getElem? (i := 4) rfl)
theorem q767 : (Cond.static yJ6_getChars_ba4f3 : Cond) ∈ wsL_law := lf_33 (List.mem_of_getElem? (i := 5) rfl)
theorem q768 : (Cond.code yJ6_getChars_ba4f3 cJ6_getChars_ba4f3 7 (some .int) : Cond) ∈ wsL_law := lf_33 (List.mem_of_getElem? (i := 6) rfl)
theorem q769 : (Cond.fieldLink RJ6 83 "java/lang/Integer" "DigitOnes" "[B" : Cond) ∈ wsL_law := lf_33 (List.mem_of_getElem? (i := 7) rfl)
theorem q770 : (Cond.fieldLink RJ6 87 "java/lang/Integer" "DigitTens" "[B" : Cond) ∈ wsL_law := lf_33 (List.mem_of_getElem? (i := 8) rfl)
theorem q771 : (Cond.methodLink RJ5 251 yJ2_getChars_46870 : Cond) ∈ wsL_law := lf_33 (List.mem_of_getElem? (i := 9) rfl)
theorem q772 : (Cond.static yJ2_getChars_46870 : Cond) ∈ wsL_law := lf_33 (List.mem_of_getElem? (i := 10) rfl)
theorem q773 : (Cond.code yJ2_getChars_46870 cJ2_getChars_46870 5 (some .int) : Cond) ∈ wsL_law := lf_33 (List.mem_of_getElem? (i := 11) rfl)
theorem q774 : (Cond.methodLink RJ2 393 yJ2_getChars_ba4f3 : Cond) ∈ wsL_law := lf_33 (List.mem_of_getElem? (i := 12) rfl)
theorem q775 : (Cond.static yJ2_getChars_ba4f3 : Cond) ∈ wsL_law := lf_33 (List.mem_of_getElem? (i := 13) rfl)
theorem q776 : (Cond.code yJ2_getChars_ba4f3 cJ2_getChars_ba4f3 7 (some .int) : Cond) ∈ wsL_law := lf_33 (List.mem_of_getElem? (i := 14) rfl)
theorem q777 : (Cond.fieldLink RJ2 403 "java/lang/Integer" "DigitOnes" "[B" : Cond) ∈ wsL_law := lf_33 (List.mem_of_getElem? (i := 15) rfl)
theorem q778 : (Cond.fieldLink RJ2 407 "java/lang/Integer" "DigitTens" "[B" : Cond) ∈ wsL_law := lf_33 (List.mem_of_getElem? (i := 16) rfl)
theorem q779 : (Cond.methodLink RL 141 yJ4_toString_0e30d : Cond) ∈ wsL_law := lf_33 (List.mem_of_getElem? (i := 17) rfl)
theorem q780 : (Cond.instanceMethod yJ4_toString_0e30d : Cond) ∈ wsL_law := lf_33 (List.mem_of_getElem? (i := 18) rfl)
theorem q781 : (Cond.selects RJ4 yJ4_toString_0e30d yJ4_toString_0e30d : Cond) ∈ wsL_law := lf_33 (List.mem_of_getElem? (i := 19) rfl)
theorem q782 : (Cond.code yJ4_toString_0e30d cJ4_toString_0e30d 1 (some (.object "java/lang/String")) : Cond) ∈ wsL_law := lf_33 (List.mem_of_getElem? (i := 20) rfl)
theorem q783 : (Cond.classLink RJ4 18 RJ0 : Cond) ∈ wsL_law := lf_33 (List.mem_of_getElem? (i := 21) rfl)
theorem q784 : (Cond.instantiable RJ0 4 : Cond) ∈ wsL_law := lf_33 (List.mem_of_getElem? (i := 22) rfl)
theorem q785 : (Cond.methodLink RJ4 137 yJ0_init_81219 : Cond) ∈ wsL_law := lf_33 (List.mem_of_getElem? (i := 23) rfl)
theorem q786 : (Cond.instanceMethod yJ0_init_81219 : Cond) ∈ wsL_law := lf_34 (List.mem_of_getElem? (i := 0) rfl)
theorem q787 : (Cond.code yJ0_init_81219 cJ0_init_81219 2 none : Cond) ∈ wsL_law := lf_34 (List.mem_of_getElem? (i := 1) rfl)
theorem q788 : (Cond.methodLink RJ0 489 yJ0_init_db425 : Cond) ∈ wsL_law := lf_34 (List.mem_of_getElem? (i := 2) rfl)
theorem q789 : (Cond.instanceMethod yJ0_init_db425 : Cond) ∈ wsL_law := lf_34 (List.mem_of_getElem? (i := 3) rfl)
theorem q790 : (Cond.code yJ0_init_db425 cJ0_init_db425 5 none : Cond) ∈ wsL_law := lf_34 (List.mem_of_getElem? (i := 4) rfl)
theorem q791 : (Cond.methodLink RJ0 1 objectInit : Cond) ∈ wsL_law := lf_34 (List.mem_of_getElem? (i := 5) rfl)
theorem q792 : (Cond.fieldLink RJ0 1048 "java/lang/AbstractStringBuilder" "maybeLatin1" "Z" : Cond) ∈ wsL_law := lf_34 (List.mem_of_getElem? (i := 6) rfl)
theorem q793 : (Cond.methodLink RJ0 552 ⟨"java/lang/AbstractStringBuilder", "getValue", "()[B"⟩ : Cond) ∈ wsL_law := lf_34 (List.mem_of_getElem? (i := 7) rfl)
theorem q794 : (Cond.sameMethod "java/lang/AbstractStringBuilder" "java/lang/AbstractStringBuilder" "getValue" "()[B" : Cond) ∈ wsL_law := lf_34 (List.mem_of_getElem? (i := 8) rfl)
theorem q795 : (Cond.selects RJ4 ⟨"java/lang/AbstractStringBuilder", "getValue", "()[B"⟩ yJ5_getValue_6d5f1 : Cond) ∈ wsL_law := lf_34 (List.mem_of_getElem? (i := 9) rfl)
theorem q796 : (Cond.instanceMethod yJ5_getValue_6d5f1 : Cond) ∈ wsL_law := lf_34 (List.mem_of_getElem? (i := 10) rfl)
theorem q797 : (Cond.code yJ5_getValue_6d5f1 cJ5_getValue_6d5f1 1 (some (.array .byte)) : Cond) ∈ wsL_law := lf_34 (List.mem_of_getElem? (i := 11) rfl)
theorem q798 : (Cond.methodLink RJ0 549 ⟨"java/lang/AbstractStringBuilder", "length", "()I"⟩ : Cond) ∈ wsL_law := lf_34 (List.mem_of_getElem? (i := 12) rfl)
theorem q799 : (Cond.sameMethod "java/lang/AbstractStringBuilder" "java/lang/AbstractStringBuilder" "length" "()I" : Cond) ∈ wsL_law := lf_34 (List.mem_of_getElem? (i := 13) rfl)
theorem q800 : (Cond.instanceMethod ⟨"java/lang/AbstractStringBuilder", "length", "()I"⟩ : Cond) ∈ wsL_law := lf_34 (List.mem_of_getElem? (i := 14) rfl)
theorem q801 : (Cond.selects RJ4 ⟨"java/lang/AbstractStringBuilder", "length", "()I"⟩ yJ4_length_8abf5 : Cond) ∈ wsL_law := lf_34 (List.mem_of_getElem? (i := 15) rfl)
theorem q802 : (Cond.instanceMethod yJ4_length_8abf5 : Cond) ∈ wsL_law := lf_34 (List.mem_of_getElem? (i := 16) rfl)
theorem q803 : (Cond.code yJ4_length_8abf5 cJ4_length_8abf5 1 (some .int) : Cond) ∈ wsL_law := lf_34 (List.mem_of_getElem? (i := 17) rfl)
theorem q804 : (Cond.methodLink RJ4 343 yJ5_length_8abf5 : Cond) ∈ wsL_law := lf_34 (List.mem_of_getElem? (i := 18) rfl)
theorem q805 : (Cond.instanceMethod yJ5_length_8abf5 : Cond) ∈ wsL_law := lf_34 (List.mem_of_getElem? (i := 19) rfl)
theorem q806 : (Cond.code yJ5_length_8abf5 cJ5_length_8abf5 1 (some .int) : Cond) ∈ wsL_law := lf_34 (List.mem_of_getElem? (i := 20) rfl)
theorem q807 : (Cond.methodLink RJ0 1047 ⟨"java/lang/AbstractStringBuilder", "isLatin1", "()Z"⟩ : Cond) ∈ wsL_law := lf_34 (List.mem_of_getElem? (i := 21) rfl)
theorem q808 : (Cond.methodLink RJ0 54 yJ7_copyOfRange_39247 : Cond) ∈ wsL_law := lf_34 (List.mem_of_getElem? (i := 22) rfl)
theorem q809 : (Cond.static yJ7_copyOfRange_39247 : Cond) ∈ wsL_law := lf_34 (List.mem_of_getElem? (i := 23) rfl)
theorem q810 : (Cond.code yJ7_copyOfRange_39247 cJ7_copyOfRange_39247 3 (some (.array .byte)) : Cond) ∈ wsL_law := lf_35 (List.mem_of_getElem? (i := 0) rfl)
theorem q811 : (Cond.methodLink RJ7 339 yJ7_copyOfRangeByte_39247 : Cond) ∈ wsL_law := lf_35 (List.mem_of_getElem? (i := 1) rfl)
theorem q812 : (Cond.static yJ7_copyOfRangeByte_39247 : Cond) ∈ wsL_law := lf_35 (List.mem_of_getElem? (i := 2) rfl)
theorem q813 : (Cond.code yJ7_copyOfRangeByte_39247 cJ7_copyOfRangeByte_39247 5 (some (.array .byte)) : Cond) ∈ wsL_law := lf_35 (List.mem_of_getElem? (i := 3) rfl)
theorem q814 : (Cond.methodLink RJ7 343 yJ7_checkLength_df160 : Cond) ∈ wsL_law := lf_35 (List.mem_of_getElem? (i := 4) rfl)
theorem q815 : (Cond.static yJ7_checkLength_df160 : Cond) ∈ wsL_law := lf_35 (List.mem_of_getElem? (i := 5) rfl)
theorem q816 : (Cond.code yJ7_checkLength_df160 cJ7_checkLength_df160 2 none : Cond) ∈ wsL_law := lf_35 (List.mem_of_getElem? (i := 6) rfl)
theorem q817 : (Cond.methodLink RJ0 1051 yJ2_compress_39247 : Cond) ∈ wsL_law := lf_35 (List.mem_of_getElem? (i := 7) rfl)
theorem q818 : (Cond.static yJ2_compress_39247 : Cond) ∈ wsL_law := lf_35 (List.mem_of_getElem? (i := 8) rfl)
theorem q819 : (Cond.code yJ2_compress_39247 cJ2_compress_39247 6 (some (.array .byte)) : Cond) ∈ wsL_law := lf_35 (List.mem_of_getElem? (i := 9) rfl)
theorem q820 : (Cond.methodLink RJ2 123 yJ2_compress_5af95 : Cond) ∈ wsL_law := lf_35 (List.mem_of_getElem? (i := 10) rfl)
theorem q821 : (Cond.static yJ2_compress_5af95 : Cond) ∈ wsL_law := lf_35 (List.mem_of_getElem? (i := 11) rfl)
theorem q822 : (Cond.code yJ2_compress_5af95 cJ2_compress_5af95 7 (some .int) : Cond) ∈ wsL_law := lf_35 (List.mem_of_getElem? (i := 12) rfl)
theorem q823 : (Cond.methodLink RJ2 126 yJ7_copyOfRange_39247 : Cond) ∈ wsL_law := lf_35 (List.mem_of_getElem? (i := 13) rfl)
theorem q824 : (Cond.methodLink RJ0 47 yJ2_coderFromArrayLen_85cad : Cond) ∈ wsL_law := lf_35 (List.mem_of_getElem? (i := 14) rfl)
theorem q825 : (Cond.static yJ2_coderFromArrayLen_85cad : Cond) ∈ wsL_law := lf_35 (List.mem_of_getElem? (i := 15) rfl)
theorem q826 : (Cond.code yJ2_coderFromArrayLen_85cad cJ2_coderFromArrayLen_85cad 2 (some .byte) : Cond) ∈ wsL_law := lf_35 (List.mem_of_getElem? (i := 16) rfl)
end
section
/-! PART 03: the world of one TrousseauFlow as a matrix of ints (region, item, slot); Rj: the machine at a place of a method, over that world; a row an instruction. -/
abbrev tM : Type := Nat → Nat → Nat → Int32
abbrev tA : Type := Nat → Nat → Nat
def m_set (M : tM) (r j : Nat) (w : Nat → Int32) : tM := fun r' j' => if r' = r ∧ j' = j then w else M r' j'
theorem m_set_s {M : tM} {r j : Nat} {w : Nat → Int32} : m_set M r j w r j = w := by simp [m_set]
theorem m_set_n {M : tM} {r j r' j' : Nat} {w : Nat → Int32} (h : ¬ (r' = r ∧ j' = j)) : m_set M r j w r' j' = M r' j' := by simp only [m_set, if_neg h]
theorem m_set_self {M : tM} {r j : Nat} : m_set M r j (M r j) = M := by
  funext r' j'
  by_cases h : r' = r ∧ j' = j
  · obtain ⟨rfl, rfl⟩ := h; exact m_set_s
  · exact m_set_n h
theorem m_set_set {M : tM} {r j : Nat} {w w' : Nat → Int32} : m_set (m_set M r j w) r j w' = m_set M r j w' := by
  funext r' j'
  by_cases h : r' = r ∧ j' = j
  · obtain ⟨rfl, rfl⟩ := h; rw [m_set_s, m_set_s]
  · rw [m_set_n h, m_set_n h, m_set_n h]
abbrev t_rf (f : Nat → Nat) : (Nat → Int32) ⊕ (Nat → Int64) ⊕ (Nat → UInt32) ⊕ (Nat → UInt64) ⊕ (Nat → Option Nat) := .inr (.inr (.inr (.inr (fun i => some (f i)))))
def l_tf (ad : tA) (w : Nat → Int32) : List Value := [.ref (ad 1 0), .ref (ad 2 0), .ref (ad 3 0), .int (w 3), .ref (ad 0 1), .int (w 5), .int (w 6), .ref (ad 13 0), .ref (ad 14 0), .ref (ad 15 0), .int (w 10), .int (w 11), .int (w 12)]
def l_pl (ad : tA) (r : Nat) (w : Nat → Int32) : List Value := [.ref (ad r 1), .int (w 1), .ref (ad r 2), .int (w 3), .ref (ad r 3), .int (w 5), .int (w 6), .int (w 7), .int (w 8), .int (w 9), .int (w 10), .int (w 11), .int (w 12), .int (w 13)]
def l_st (w : Nat → Int32) : List Value := [.int (w 0), .int (w 1), .int (w 2), .int (w 3), .int (w 4), .int (w 5), .int (w 6), .int (w 7), .int (w 8), .int (w 9), .int (w 10)]
def l_or (w : Nat → Int32) : List Value := [.int (w 0), .int (w 1), .int (w 2), .int (w 3), .int (w 4)]
def l_ot (ad : tA) (w : Nat → Int32) : List Value := [.ref (ad 13 1), .int (w 1), .int (w 2), .ref (ad 13 2), .int (w 4)]
def l_ln (ad : tA) (w : Nat → Int32) : List Value := [.ref (ad 14 1), .int (w 1)]
def l_ch (ad : tA) : List Value := [.ref (ad 15 1), .ref (ad 15 2)]
/-- the cell of the item q of the object: q.1 = 0 the TrousseauFlow, 1 to 12 plans (now, forecast, snapshot, nine marks), 13 the text, 14 the line, 15 the chains -/
def t_cell (cA : Nat → ClassId) (ad : tA) (q : Nat × Nat) (w : Nat → Int32) : va_E :=
  if q.1 = 0 then (if q.2 = 0 then .inr (8, l_tf ad w) else .inl (cA 4, 9, t_rf (fun i => ad (4 + i) 0)))
  else if q.1 = 13 then (if q.2 = 0 then .inr (5, l_ot ad w) else if q.2 = 1 then .inl (cA 1, 60, .inl w) else if q.2 = 2 then .inl (cA 3, 12, t_rf (fun i => ad 13 (3 + i))) else .inr (4, l_or w))
  else if q.1 = 14 then (if q.2 = 0 then .inr (3, l_ln ad w) else .inl (cA 1, 64, .inl w))
  else if q.1 = 15 then (if q.2 = 0 then .inr (2, l_ch ad) else .inl (cA 0, 12, .inl w))
  else (if q.2 = 0 then .inr (6, l_pl ad q.1 w) else if q.2 = 1 then .inl (cA 2, 12, t_rf (fun i => ad q.1 (4 + i))) else if q.2 = 2 then .inl (cA 0, 4, .inl w) else if q.2 = 3 then .inl (cA 0, 48, .inl w) else .inr (7, l_st w))
def t_size (r : Nat) : Nat := if r = 0 then 2 else if r = 13 then 15 else if r = 14 then 2 else if r = 15 then 3 else 16
def t_ids : List (Nat × Nat) := (List.range 16).flatMap (fun r => (List.range (t_size r)).map (fun j => (r, j)))
theorem t_nodup : t_ids.Nodup := by decide +kernel
theorem t_mem {r j : Nat} (h : r < 16 ∧ j < t_size r) : (r, j) ∈ t_ids := by
  simp only [t_ids, List.mem_flatMap, List.mem_map, List.mem_range]
  exact ⟨r, h.1, j, h.2, rfl⟩
def wsT (cA : Nat → ClassId) (ad : tA) (ex : va_W) (M : tM) : va_W := t_ids.map (fun q => (ad q.1 q.2, t_cell cA ad q (M q.1 q.2))) ++ ex
theorem wsT_at {cA : Nat → ClassId} {ad : tA} {ex : va_W} {M : tM} {r j : Nat} (h : r < 16 ∧ j < t_size r) : ∃ q0, (wsT cA ad ex M)[q0]? = some (ad r j, t_cell cA ad (r, j) (M r j)) ∧ ∀ w, (wsT cA ad ex M).set q0 (ad r j, t_cell cA ad (r, j) w) = wsT cA ad ex (m_set M r j w) := by
  obtain ⟨q0, hq⟩ := List.mem_iff_getElem?.mp (t_mem h)
  have hlt : q0 < t_ids.length := (List.getElem?_eq_some_iff.mp hq).1
  have hlt2 : q0 < (t_ids.map (fun q => (ad q.1 q.2, t_cell cA ad q (M q.1 q.2)))).length := by rw [List.length_map]; exact hlt
  refine ⟨q0, ?_, ?_⟩
  · rw [wsT, List.getElem?_append_left hlt2, List.getElem?_map, hq]; rfl
  · intro w
    rw [wsT, List.set_append_left _ _ hlt2, wsT]
    congr 1
    apply List.ext_getElem?
    intro i
    rw [List.getElem?_set, List.getElem?_map, List.getElem?_map]
    by_cases hi : q0 = i
    · subst hi
      rw [if_pos rfl, if_pos hlt2, hq]
      show some (ad r j, t_cell cA ad (r, j) w) = some (ad r j, t_cell cA ad (r, j) (m_set M r j w r j))
      rw [m_set_s]
    · rw [if_neg hi]
      rcases hti : t_ids[i]? with _ | q
      · rfl
      · show some (ad q.1 q.2, t_cell cA ad q (M q.1 q.2)) = some (ad q.1 q.2, t_cell cA ad q (m_set M r j w q.1 q.2))
        rw [m_set_n]
        rintro ⟨h1, h2⟩
        have hqe : q = (r, j) := Prod.ext h1 h2
        apply hi
        exact (List.getElem?_inj hlt t_nodup).mp (by rw [hq, hti, hqe])
def tysT (cA : Nat → ClassId) : List (ClassId × FieldType) := [(cA 0, .int), (cA 1, .char), (cA 2, .object RX5), (cA 3, .object RX2), (cA 4, .object RX4)]
-- WHAT LIES OUTSIDE THE WORLD: the literals, the JDK's statics, the script
def lenS : List Nat := [5, 5, 6, 6, 7, 5, 4, 8, 3, 5, 8, 1, 1, 19, 19]
def bytS : List (List Int32) := [[115, 116, 101, 112, 32], [110, 101, 101, 100, 32], [102, 97, 117, 108, 116, 32], [104, 97, 110, 100, 115, 32], [99, 97, 110, 99, 101, 108, 32], [109, 105, 108, 101, 32], [100, 97, 121, 32], [119, 114, 122, 100, 117, 120, 111, 102], [32, 49, 32], [59, 100, 97, 121, 32], [42, 49, 59, 110, 101, 101, 100, 32], [32], [113], [100, 97, 121, 32, 51, 59, 104, 97, 110, 100, 115, 32, 49, 59, 100, 97, 121, 32, 48], [115, 116, 101, 112, 32, 49, 32, 48, 32, 48, 59, 110, 101, 101, 100, 32, 48, 32, 48]]
def jsR : List (String × Nat × String × Nat) := [(RX3, 67, "step ", 0), (RX3, 47, "need ", 1), (RX3, 53, "fault ", 2), (RX3, 55, "hands ", 3), (RX3, 61, "cancel ", 4), (RX3, 63, "mile ", 5), (RX3, 65, "day ", 6), (RX1, 42, "wrzduxof", 7), (RL, 129, "step ", 0), (RL, 137, " 1 ", 8), (RL, 139, ";day ", 9), (RL, 145, "fault ", 2), (RL, 147, "*1;need ", 10), (RL, 149, " ", 11), (RL, 163, "q", 12), (RL, 165, "day 3;hands 1;day 0", 13), (RL, 167, "step 1 0 0;need 0 0", 14)]
/-- ad 16 i, ad 17 i: the literal i and its bytes; ad 18: DigitOnes, DigitTens, the script's length, the script; ad 19: the script's ints -/
def JZ (ad : tA) (A : Nat → Prop) (U : State) (H : Heap) : Prop :=
  vk_S 15 lenS bytS (ad 16) (ad 17) A U H ∧ (∀ q ∈ jsR, vk_R q.1 q.2.1 q.2.2.1 (ad 16 q.2.2.2) U) ∧ va_Z "java/lang/String" "COMPACT_STRINGS" "Z" (.int 1) A U H ∧ (∃ v : Value, v.category = 1 ∧ va_Z "jdk/internal/util/Preconditions" "SIOOBE_FORMATTER" "Ljava/util/function/BiFunction;" v A U H) ∧ va_Z "java/lang/Integer" "DigitOnes" "[B" (.ref (ad 18 0)) A U H ∧ va_Z "java/lang/Integer" "DigitTens" "[B" (.ref (ad 18 1)) A U H ∧ va_T .byte (ad 18 0) 100 (fun j => .int (nI (48 + j % 10))) A U H ∧ va_T .byte (ad 18 1) 100 (fun j => .int (nI (48 + j / 10))) A U H ∧ va_T .int (ad 18 3) (ad 18 2) (fun j => .int (Int32.ofNat (ad 19 j))) A U H ∧ ad 18 2 ≤ 260
theorem JZ.vm {ad : tA} {A : Nat → Prop} {u U : State} {H : Heap} (hv : U.vm = u.vm) (h : JZ ad A u H) : JZ ad A U H := by
  have ha : u.vm.Alike U.vm := by rw [hv]; exact Vm.Alike.refl _
  obtain ⟨h1, h2, h3, ⟨v, h4c, h4⟩, h5, h6, h7, h8, h9, h10⟩ := h
  exact ⟨h1.moved ha, fun q hq => (h2 q hq).same hv, h3.moved ha, ⟨v, h4c, h4.moved ha⟩, h5.moved ha, h6.moved ha, h7.moved ha, h8.moved ha, h9.moved ha, h10⟩
theorem JZ.go {ad : tA} {A : Nat → Prop} {s U : State} {H : Heap} {locs : List Loc} (hS : va_S A s.heap H locs) (hW : s.WarmedH U.vm) (h : JZ ad A s s.heap) : JZ ad A U H := by
  have ha := hW.alike
  have hq := hS.2.1
  obtain ⟨h1, h2, h3, ⟨v, h4c, h4⟩, h5, h6, h7, h8, h9, h10⟩ := h
  exact ⟨(h1.kept hq).moved ha, fun q hq => (h2 q hq).warm hW, (h3.kept hq).moved ha, ⟨v, h4c, (h4.kept hq).moved ha⟩, (h5.kept hq).moved ha, (h6.kept hq).moved ha, (h7.kept hq).moved ha, (h8.kept hq).moved ha, (h9.kept hq).moved ha, h10⟩
theorem lenS_le : ∀ i, lenS.getD i 0 ≤ 20 := by
  intro i
  by_cases h : i < 15
  · exact (by decide : ∀ i < 15, lenS.getD i 0 ≤ 20) i h
  · rw [List.getD_eq_getElem?_getD, List.getElem?_eq_none (by have : lenS.length = 15 := rfl; omega)]; exact Nat.zero_le _
-- LOCALS
def enL : Nat → List (Option Value) → List (Nat × Value)
  | _, [] => []
  | i, none :: t => enL (i + 1) t
  | i, some v :: t => (i, v) :: enL (i + 1) t
theorem enL_mem {n : Nat} {lv : List (Option Value)} {q : Nat × Value} : q ∈ enL n lv ↔ ∃ j, q.1 = n + j ∧ lv[j]? = some (some q.2) := by
  induction lv generalizing n with
  | nil => simp [enL]
  | cons a t ih =>
    cases a with
    | none =>
      simp only [enL, ih]
      constructor
      · rintro ⟨j, h1, h2⟩
        exact ⟨j + 1, by omega, by simpa using h2⟩
      · rintro ⟨j, h1, h2⟩
        cases j with
        | zero => simp at h2
        | succ j => exact ⟨j, by omega, by simpa using h2⟩
    | some v =>
      simp only [enL, List.mem_cons, ih]
      constructor
      · rintro (rfl | ⟨j, h1, h2⟩)
        · exact ⟨0, rfl, rfl⟩
        · exact ⟨j + 1, by omega, by simpa using h2⟩
      · rintro ⟨j, h1, h2⟩
        cases j with
        | zero =>
          simp at h2
          left
          exact Prod.ext h1 h2.symm
        | succ j => exact Or.inr ⟨j, by omega, by simpa using h2⟩
theorem enL_at {ls : Array Slot} {nL : Nat} {lv : List (Option Value)} {i : Nat} {v : Value} (h : lv_has ls nL (enL 0 lv)) (hi : lv[i]? = some (some v)) : ls[i]? = some (.val v) := h.2.2 (i, v) (enL_mem.mpr ⟨i, (Nat.zero_add i).symm, hi⟩)
def okS (lv : List (Option Value)) : Nat → Bool
  | 0 => true
  | j + 1 => match lv[j]? with
    | some (some w) => w.category != 2
    | _ => true
theorem enL_set {ls : Array Slot} {nL : Nat} {lv : List (Option Value)} {i : Nat} {v : Value} (ho : okS lv i = true) (h : lv_has ls nL ((i, v) :: (enL 0 lv).filter (fun q => !(q.1 == i) && !(q.1 + 1 == i && q.2.category == 2)))) : lv_has ls nL (enL 0 (lv.set i (some v))) := by
  refine ⟨h.1, h.2.1, fun q hq => h.2.2 q ?_⟩
  obtain ⟨j, h1, h2⟩ := enL_mem.mp hq
  rw [List.getElem?_set] at h2
  by_cases hij : i = j
  · rw [if_pos hij] at h2
    split at h2
    · have : q = (i, v) := Prod.ext (by rw [h1, hij]; exact Nat.zero_add j) (by simpa using h2.symm)
      rw [this]; exact List.mem_cons_self
    · cases h2
  · rw [if_neg hij] at h2
    refine List.mem_cons_of_mem _ (List.mem_filter.mpr ⟨enL_mem.mpr ⟨j, h1, h2⟩, ?_⟩)
    have h1' : q.1 = j := by rw [h1]; exact Nat.zero_add j
    have e1 : (q.1 == i) = false := by rw [h1']; simpa using fun e => hij e.symm
    rw [e1]
    by_cases hj : j + 1 = i
    · subst hj
      have : (q.2.category != 2) = true := by simpa [okS, h2] using ho
      have h3 : (q.2.category == 2) = false := by simpa using this
      simp [h3]
    · have : (q.1 + 1 == i) = false := by rw [h1']; simpa using hj
      simp [this]
theorem enL_ix {lv : List (Option Value)} {i : Nat} {v : Value} (hi : lv[i]? = some (some v)) : ∃ k : Nat, (enL 0 lv)[k]? = some (i, v) := List.mem_iff_getElem?.mp (enL_mem.mpr ⟨i, (Nat.zero_add i).symm, hi⟩)
-- THE JUDGEMENT
def CX (cc : ByteArray) (own : String) (nL : Nat) (ret : Option FieldType) (cA : Nat → ClassId) (ad : tA) (p : Program) (s : State) (m : MethodId) (args : Array Value) (meth : Method) (c : Code) (G : va_G) (tx : List (ClassId × FieldType)) (A free : Nat → Prop) : Prop :=
  p.tables.exec = Jvm.exec ∧ c.code = cc ∧ c.maxLocals = nL ∧ s.vm.findClass own = some m.cls ∧ (∀ w ∈ wsL_law, w.before args s = true) ∧ meth.sig.returnType = ret ∧ meth.locks = false ∧ va_K G vwCl (tysT cA ++ tx) s ∧ (∀ q, s.heap.size ≤ q → A q) ∧ (∀ q, A q → free q) ∧ JZ ad A s s.heap
def Rj (cc : ByteArray) (own : String) (nL : Nat) (ret : Option FieldType) (rm : Room) (mc ms : Nat) (cA : Nat → ClassId) (ad : tA) (Q : Option Value → va_W → tM → Prop) (ex : va_W) (cells slots pc : Nat) (lv : List (Option Value)) (st : List Value) (M : tM) : Prop :=
  ∀ (p : Program) (l : Launch) (e : Env) (s : State) (m : MethodId) (args : Array Value) (below : List Frame) (meth : Method) (c : Code) (G : va_G) (tx : List (ClassId × FieldType)) (A : Nat → Prop) (Qc : Array Value → State → Outcome → State → Prop) (free : Nat → Prop) (d0 : Drawn),
    CX cc own nL ret cA ad p s m args meth c G tx A free →
    (∀ (v : Option Value) (ex' : va_W) (M' : tM) (t : State) (d1 : Drawn), Q v ex' M' → s.drawn.sameBut d1 lw_cs → (s.setDrawn d1).WarmedH t.vm → va_P G vwCl (wsT cA ad ex' M') t.heap → va_D A (wsT cA ad ex' M') → va_F A s t → Qc args (s.setDrawn d1) (.returned v) t) →
    s.drawn.sameBut d0 lw_cs → ∀ (H : Heap) (locs : List Loc) (ls : Array Slot), va_P G vwCl (wsT cA ad ex M) H → va_D A (wsT cA ad ex M) → va_S A s.heap H locs → lv_has ls nL (enL 0 lv) →
    W p l e rm (s.setDrawn d0) m args below meth c H locs cells slots (MQD lw_cs below Qc args s mc ms free) (F0 m pc ls st)
/-- the contract of a method over the world of the object -/
def Cj (y : MethodName) (cc : ByteArray) (nL : Nat) (ret : Option FieldType) (rm : Room) (mc ms : Nat) (cA : Nat → ClassId) (ad : tA) (vs : List Value) (ex : va_W) (M : tM) (Q : Option Value → va_W → tM → Prop) : Prop :=
  ∀ (l : Launch) (G : va_G) (tx : List (ClassId × FieldType)) (A : Nat → Prop), MetD lw_cs l y (.code y cc nL ret :: wsL_law) rm (va_Pc vs (fun U => va_P G vwCl (wsT cA ad ex M) U.heap ∧ va_K G vwCl (tysT cA ++ tx) U ∧ va_D A (wsT cA ad ex M) ∧ (∀ q, U.heap.size ≤ q → A q) ∧ JZ ad A U U.heap)) (fun _ st o t => (∃ v ex' M', o = .returned v ∧ Q v ex' M' ∧ va_P G vwCl (wsT cA ad ex' M') t.heap ∧ va_D A (wsT cA ad ex' M')) ∧ va_F A st t) mc ms A
theorem c_of_r {y : MethodName} {cc : ByteArray} {nL : Nat} {ret : Option FieldType} {rm : Room} {mc ms : Nat} {cA : Nat → ClassId} {ad : tA} {vs : List Value} {ex : va_W} {M : tM} {Q : Option Value → va_W → tM → Prop} {lv0 : List (Option Value)} {own : String} (ho : y.cls = own) (hy : plainName y.cls = true) (hlen : (lg_sl vs).length ≤ nL) (hlv : lv_args 0 vs = enL 0 lv0) (h : Rj cc own nL ret rm mc ms cA ad Q ex 0 0 0 lv0 [] M) : Cj y cc nL ret rm mc ms cA ad vs ex M Q := by
  subst ho
  intro l G tx A
  refine MetD.ofW (cc := cc) (maxL := nL) (ret := ret) hy rfl ?_
  intro p e s m args below meth c s₁ B hml hv hd0
  obtain ⟨rfl, hP, hK, hD, hA, hJ⟩ := hv
  have hts := atoms_spec (ws := .code y cc nL ret :: wsL_law) B.pre
  have hown : s.vm.findClass y.cls = some m.cls := findClass_of_methodNamed B.named
  have hl := lv_entry vs (n := nL) hlen
  rw [hlv] at hl
  rw [lg_entry_eq]
  exact h p l e s m _ below meth c G tx A _ A s.drawn ⟨B.exec, B.bytes, hml, hown, fun w hw => hts w (List.mem_cons_of_mem _ hw), B.returns, B.notSynchronized, hK, hA, fun _ h => h, hJ⟩ (fun v ex' M' t d1 hQ _ _ hP' hD' hF => ⟨⟨v, ex', M', rfl, hQ, hP', hD'⟩, hF⟩) hd0 s.heap [] _ hP hD va_S.rf hl
section
variable {cc : ByteArray} {own : String} {nL : Nat} {ret : Option FieldType} {rm : Room} {mc ms : Nat} {cA : Nat → ClassId} {ad : tA} {Q : Option Value → va_W → tM → Prop} {ex : va_W} {cells slots pc : Nat} {lv : List (Option Value)} {st : List Value} {M : tM}
/-- another way to write the same place -/
theorem r_eq {lv' : List (Option Value)} {st' : List Value} {M' : tM} (h1 : lv' = lv) (h2 : st' = st) (h3 : M' = M) (k : Rj cc own nL ret rm mc ms cA ad Q ex cells slots pc lv' st' M') : Rj cc own nL ret rm mc ms cA ad Q ex cells slots pc lv st M := by subst h1; subst h2; subst h3; exact k
theorem r_end {Q' : Option Value → va_W → tM → Prop} (h : ∀ v x m, Q' v x m → Q v x m) (k : Rj cc own nL ret rm mc ms cA ad Q' ex cells slots pc lv st M) : Rj cc own nL ret rm mc ms cA ad Q ex cells slots pc lv st M := fun p l e s m args below meth c G tx A Qc free d0 X E => k p l e s m args below meth c G tx A Qc free d0 X (fun v x m t d1 hq => E v x m t d1 (h v x m hq))

theorem r_iadd {x y : Int32} (hd : decode cc pc = .ok (.iadd, 1)) (k : Rj cc own nL ret rm mc ms cA ad Q ex cells slots (pc + 1) lv (.int (x + y) :: st) M) : Rj cc own nL ret rm mc ms cA ad Q ex cells slots pc lv (.int y :: .int x :: st) M := by
  intro p l e s m args below meth c G tx A Qc free d0 X E hd0 H locs ls hP hD hS hl
  exact lv_iadd X.1 X.2.1 hd (k p l e s m args below meth c G tx A Qc free d0 X E hd0 H locs ls hP hD hS hl)
theorem r_isub {x y : Int32} (hd : decode cc pc = .ok (.isub, 1)) (k : Rj cc own nL ret rm mc ms cA ad Q ex cells slots (pc + 1) lv (.int (x - y) :: st) M) : Rj cc own nL ret rm mc ms cA ad Q ex cells slots pc lv (.int y :: .int x :: st) M := by
  intro p l e s m args below meth c G tx A Qc free d0 X E hd0 H locs ls hP hD hS hl
  exact lv_isub X.1 X.2.1 hd (k p l e s m args below meth c G tx A Qc free d0 X E hd0 H locs ls hP hD hS hl)
theorem r_imul {x y : Int32} (hd : decode cc pc = .ok (.imul, 1)) (k : Rj cc own nL ret rm mc ms cA ad Q ex cells slots (pc + 1) lv (.int (x * y) :: st) M) : Rj cc own nL ret rm mc ms cA ad Q ex cells slots pc lv (.int y :: .int x :: st) M := by
  intro p l e s m args below meth c G tx A Qc free d0 X E hd0 H locs ls hP hD hS hl
  exact lv_imul X.1 X.2.1 hd (k p l e s m args below meth c G tx A Qc free d0 X E hd0 H locs ls hP hD hS hl)
theorem r_iand {x y : Int32} (hd : decode cc pc = .ok (.iand, 1)) (k : Rj cc own nL ret rm mc ms cA ad Q ex cells slots (pc + 1) lv (.int (x &&& y) :: st) M) : Rj cc own nL ret rm mc ms cA ad Q ex cells slots pc lv (.int y :: .int x :: st) M := by
  intro p l e s m args below meth c G tx A Qc free d0 X E hd0 H locs ls hP hD hS hl
  exact lv_iand X.1 X.2.1 hd (k p l e s m args below meth c G tx A Qc free d0 X E hd0 H locs ls hP hD hS hl)
theorem r_ior {x y : Int32} (hd : decode cc pc = .ok (.ior, 1)) (k : Rj cc own nL ret rm mc ms cA ad Q ex cells slots (pc + 1) lv (.int (x ||| y) :: st) M) : Rj cc own nL ret rm mc ms cA ad Q ex cells slots pc lv (.int y :: .int x :: st) M := by
  intro p l e s m args below meth c G tx A Qc free d0 X E hd0 H locs ls hP hD hS hl
  exact lv_ior X.1 X.2.1 hd (k p l e s m args below meth c G tx A Qc free d0 X E hd0 H locs ls hP hD hS hl)
theorem r_ixor {x y : Int32} (hd : decode cc pc = .ok (.ixor, 1)) (k : Rj cc own nL ret rm mc ms cA ad Q ex cells slots (pc + 1) lv (.int (x ^^^ y) :: st) M) : Rj cc own nL ret rm mc ms cA ad Q ex cells slots pc lv (.int y :: .int x :: st) M := by
  intro p l e s m args below meth c G tx A Qc free d0 X E hd0 H locs ls hP hD hS hl
  exact lv_ixor X.1 X.2.1 hd (k p l e s m args below meth c G tx A Qc free d0 X E hd0 H locs ls hP hD hS hl)
theorem r_ishl {x y : Int32} (hd : decode cc pc = .ok (.ishl, 1)) (k : Rj cc own nL ret rm mc ms cA ad Q ex cells slots (pc + 1) lv (.int (x <<< (y &&& 31)) :: st) M) : Rj cc own nL ret rm mc ms cA ad Q ex cells slots pc lv (.int y :: .int x :: st) M := by
  intro p l e s m args below meth c G tx A Qc free d0 X E hd0 H locs ls hP hD hS hl
  exact lv_ishl X.1 X.2.1 hd (k p l e s m args below meth c G tx A Qc free d0 X E hd0 H locs ls hP hD hS hl)
theorem r_ishr {x y : Int32} (hd : decode cc pc = .ok (.ishr, 1)) (k : Rj cc own nL ret rm mc ms cA ad Q ex cells slots (pc + 1) lv (.int (x >>> (y &&& 31)) :: st) M) : Rj cc own nL ret rm mc ms cA ad Q ex cells slots pc lv (.int y :: .int x :: st) M := by
  intro p l e s m args below meth c G tx A Qc free d0 X E hd0 H locs ls hP hD hS hl
  exact lv_ishr X.1 X.2.1 hd (k p l e s m args below meth c G tx A Qc free d0 X E hd0 H locs ls hP hD hS hl)
theorem r_idiv {x y : Int32} (hd : decode cc pc = .ok (.idiv, 1)) (hne : ¬ y = 0) (k : Rj cc own nL ret rm mc ms cA ad Q ex cells slots (pc + 1) lv (.int (x / y) :: st) M) : Rj cc own nL ret rm mc ms cA ad Q ex cells slots pc lv (.int y :: .int x :: st) M := by
  intro p l e s m args below meth c G tx A Qc free d0 X E hd0 H locs ls hP hD hS hl
  exact lv_idiv X.1 X.2.1 hd hne (k p l e s m args below meth c G tx A Qc free d0 X E hd0 H locs ls hP hD hS hl)
theorem r_irem {x y : Int32} (hd : decode cc pc = .ok (.irem, 1)) (hne : ¬ y = 0) (k : Rj cc own nL ret rm mc ms cA ad Q ex cells slots (pc + 1) lv (.int (x - x / y * y) :: st) M) : Rj cc own nL ret rm mc ms cA ad Q ex cells slots pc lv (.int y :: .int x :: st) M := by
  intro p l e s m args below meth c G tx A Qc free d0 X E hd0 H locs ls hP hD hS hl
  exact lv_irem X.1 X.2.1 hd hne (k p l e s m args below meth c G tx A Qc free d0 X E hd0 H locs ls hP hD hS hl)
theorem r_ladd {x y : Int64} (hd : decode cc pc = .ok (.ladd, 1)) (k : Rj cc own nL ret rm mc ms cA ad Q ex cells slots (pc + 1) lv (.long (x + y) :: st) M) : Rj cc own nL ret rm mc ms cA ad Q ex cells slots pc lv (.long y :: .long x :: st) M := by
  intro p l e s m args below meth c G tx A Qc free d0 X E hd0 H locs ls hP hD hS hl
  exact lv_ladd X.1 X.2.1 hd (k p l e s m args below meth c G tx A Qc free d0 X E hd0 H locs ls hP hD hS hl)
theorem r_lmul {x y : Int64} (hd : decode cc pc = .ok (.lmul, 1)) (k : Rj cc own nL ret rm mc ms cA ad Q ex cells slots (pc + 1) lv (.long (x * y) :: st) M) : Rj cc own nL ret rm mc ms cA ad Q ex cells slots pc lv (.long y :: .long x :: st) M := by
  intro p l e s m args below meth c G tx A Qc free d0 X E hd0 H locs ls hP hD hS hl
  exact lv_lmul X.1 X.2.1 hd (k p l e s m args below meth c G tx A Qc free d0 X E hd0 H locs ls hP hD hS hl)
theorem r_lcmp {x y : Int64} (hd : decode cc pc = .ok (.lcmp, 1)) (k : Rj cc own nL ret rm mc ms cA ad Q ex cells slots (pc + 1) lv (.int (lg_cmp x y) :: st) M) : Rj cc own nL ret rm mc ms cA ad Q ex cells slots pc lv (.long y :: .long x :: st) M := by
  intro p l e s m args below meth c G tx A Qc free d0 X E hd0 H locs ls hP hD hS hl
  exact W.lcmp X.1 X.2.1 hd (k p l e s m args below meth c G tx A Qc free d0 X E hd0 H locs ls hP hD hS hl)
theorem r_i2l {x : Int32} {v : Int64} (hd : decode cc pc = .ok (.i2l, 1)) (hv : x.toInt64 = v) (k : Rj cc own nL ret rm mc ms cA ad Q ex cells slots (pc + 1) lv (.long v :: st) M) : Rj cc own nL ret rm mc ms cA ad Q ex cells slots pc lv (.int x :: st) M := by
  intro p l e s m args below meth c G tx A Qc free d0 X E hd0 H locs ls hP hD hS hl
  exact lv_i2l X.1 X.2.1 hd hv (k p l e s m args below meth c G tx A Qc free d0 X E hd0 H locs ls hP hD hS hl)
theorem r_i2c {x v : Int32} (hd : decode cc pc = .ok (.i2c, 1)) (hv : (x.toUInt32 % 65536).toInt32 = v) (k : Rj cc own nL ret rm mc ms cA ad Q ex cells slots (pc + 1) lv (.int v :: st) M) : Rj cc own nL ret rm mc ms cA ad Q ex cells slots pc lv (.int x :: st) M := by
  intro p l e s m args below meth c G tx A Qc free d0 X E hd0 H locs ls hP hD hS hl
  exact lv_i2c X.1 X.2.1 hd hv (k p l e s m args below meth c G tx A Qc free d0 X E hd0 H locs ls hP hD hS hl)
theorem r_iushr {x y v : Int32} (hd : decode cc pc = .ok (.iushr, 1)) (hv : (x.toUInt32 >>> (y.toUInt32 &&& Int32.toUInt32 31)).toInt32 = v) (k : Rj cc own nL ret rm mc ms cA ad Q ex cells slots (pc + 1) lv (.int v :: st) M) : Rj cc own nL ret rm mc ms cA ad Q ex cells slots pc lv (.int y :: .int x :: st) M := by
  intro p l e s m args below meth c G tx A Qc free d0 X E hd0 H locs ls hP hD hS hl
  exact lv_iushr X.1 X.2.1 hd hv (k p l e s m args below meth c G tx A Qc free d0 X E hd0 H locs ls hP hD hS hl)
theorem r_ldc {idx : Nat} {v : Int32} (hd : decode cc pc = .ok (.ldc idx, 2)) (hw : Cond.constant own idx v ∈ wsL_law) (k : Rj cc own nL ret rm mc ms cA ad Q ex cells slots (pc + 2) lv (.int v :: st) M) : Rj cc own nL ret rm mc ms cA ad Q ex cells slots pc lv (st) M := by
  intro p l e s m args below meth c G tx A Qc free d0 X E hd0 H locs ls hP hD hS hl
  exact lv_ldc X.1 X.2.1 X.2.2.2.1 (dr_words X.2.2.2.2.1 d0 _ hw) hd (k p l e s m args below meth c G tx A Qc free d0 X E hd0 H locs ls hP hD hS hl)
theorem r_ldc2 {idx : Nat} {v : Int64} (hd : decode cc pc = .ok (.ldc2_w idx, 3)) (hw : Cond.constantLong own idx v ∈ wsL_law) (k : Rj cc own nL ret rm mc ms cA ad Q ex cells slots (pc + 3) lv (.long v :: st) M) : Rj cc own nL ret rm mc ms cA ad Q ex cells slots pc lv (st) M := by
  intro p l e s m args below meth c G tx A Qc free d0 X E hd0 H locs ls hP hD hS hl
  exact lv_ldc2 X.1 X.2.1 X.2.2.2.1 (dr_words X.2.2.2.2.1 d0 _ hw) hd (k p l e s m args below meth c G tx A Qc free d0 X E hd0 H locs ls hP hD hS hl)
theorem r_i2d {x : Int32} (hd : decode cc pc = .ok (.i2d, 1)) (k : Rj cc own nL ret rm mc ms cA ad Q ex cells slots (pc + 1) lv (.double (FP.i2d x) :: st) M) : Rj cc own nL ret rm mc ms cA ad Q ex cells slots pc lv (.int x :: st) M := by
  intro p l e s m args below meth c G tx A Qc free d0 X E hd0 H locs ls hP hD hS hl
  exact lv_i2d X.1 X.2.1 hd (k p l e s m args below meth c G tx A Qc free d0 X E hd0 H locs ls hP hD hS hl)
theorem r_i2f {x : Int32} (hd : decode cc pc = .ok (.i2f, 1)) (k : Rj cc own nL ret rm mc ms cA ad Q ex cells slots (pc + 1) lv (.float (FP.i2f x) :: st) M) : Rj cc own nL ret rm mc ms cA ad Q ex cells slots pc lv (.int x :: st) M := by
  intro p l e s m args below meth c G tx A Qc free d0 X E hd0 H locs ls hP hD hS hl
  exact lv_i2f X.1 X.2.1 hd (k p l e s m args below meth c G tx A Qc free d0 X E hd0 H locs ls hP hD hS hl)
theorem r_iconst {n : Int} {v : Int32} (hd : decode cc pc = .ok (.iconst n, 1)) (hv : Int32.ofInt n = v) (k : Rj cc own nL ret rm mc ms cA ad Q ex cells slots (pc + 1) lv (.int v :: st) M) : Rj cc own nL ret rm mc ms cA ad Q ex cells slots pc lv (st) M := by
  intro p l e s m args below meth c G tx A Qc free d0 X E hd0 H locs ls hP hD hS hl
  exact lv_iconst X.1 X.2.1 hd hv (k p l e s m args below meth c G tx A Qc free d0 X E hd0 H locs ls hP hD hS hl)
theorem r_bipush {n : Int} {v : Int32} (hd : decode cc pc = .ok (.bipush n, 2)) (hv : (Int8.ofInt n).toInt32 = v) (k : Rj cc own nL ret rm mc ms cA ad Q ex cells slots (pc + 2) lv (.int v :: st) M) : Rj cc own nL ret rm mc ms cA ad Q ex cells slots pc lv (st) M := by
  intro p l e s m args below meth c G tx A Qc free d0 X E hd0 H locs ls hP hD hS hl
  exact lv_bipush X.1 X.2.1 hd hv (k p l e s m args below meth c G tx A Qc free d0 X E hd0 H locs ls hP hD hS hl)
theorem r_sipush {n : Int} {v : Int32} (hd : decode cc pc = .ok (.sipush n, 3)) (hv : (Int16.ofInt n).toInt32 = v) (k : Rj cc own nL ret rm mc ms cA ad Q ex cells slots (pc + 3) lv (.int v :: st) M) : Rj cc own nL ret rm mc ms cA ad Q ex cells slots pc lv (st) M := by
  intro p l e s m args below meth c G tx A Qc free d0 X E hd0 H locs ls hP hD hS hl
  exact lv_sipush X.1 X.2.1 hd hv (k p l e s m args below meth c G tx A Qc free d0 X E hd0 H locs ls hP hD hS hl)
theorem r_dup {va : Value} (hd : decode cc pc = .ok (.dup, 1)) (hva : va.category = 1) (k : Rj cc own nL ret rm mc ms cA ad Q ex cells slots (pc + 1) lv (va :: va :: st) M) : Rj cc own nL ret rm mc ms cA ad Q ex cells slots pc lv (va :: st) M := by
  intro p l e s m args below meth c G tx A Qc free d0 X E hd0 H locs ls hP hD hS hl
  exact lv_dup X.1 X.2.1 hd hva (k p l e s m args below meth c G tx A Qc free d0 X E hd0 H locs ls hP hD hS hl)
theorem r_pop {va : Value} (hd : decode cc pc = .ok (.pop, 1)) (hva : va.category = 1) (k : Rj cc own nL ret rm mc ms cA ad Q ex cells slots (pc + 1) lv (st) M) : Rj cc own nL ret rm mc ms cA ad Q ex cells slots pc lv (va :: st) M := by
  intro p l e s m args below meth c G tx A Qc free d0 X E hd0 H locs ls hP hD hS hl
  exact lv_pop X.1 X.2.1 hd hva (k p l e s m args below meth c G tx A Qc free d0 X E hd0 H locs ls hP hD hS hl)
theorem r_dconst0  (hd : decode cc pc = .ok (.dconst 0, 1)) (k : Rj cc own nL ret rm mc ms cA ad Q ex cells slots (pc + 1) lv (.double FP.dconst0 :: st) M) : Rj cc own nL ret rm mc ms cA ad Q ex cells slots pc lv (st) M := by
  intro p l e s m args below meth c G tx A Qc free d0 X E hd0 H locs ls hP hD hS hl
  exact lv_dconst0 X.1 X.2.1 hd (k p l e s m args below meth c G tx A Qc free d0 X E hd0 H locs ls hP hD hS hl)
theorem r_fconst0  (hd : decode cc pc = .ok (.fconst 0, 1)) (k : Rj cc own nL ret rm mc ms cA ad Q ex cells slots (pc + 1) lv (.float FP.fconst0 :: st) M) : Rj cc own nL ret rm mc ms cA ad Q ex cells slots pc lv (st) M := by
  intro p l e s m args below meth c G tx A Qc free d0 X E hd0 H locs ls hP hD hS hl
  exact lv_fconst0 X.1 X.2.1 hd (k p l e s m args below meth c G tx A Qc free d0 X E hd0 H locs ls hP hD hS hl)
theorem r_iload_n {k : Fin 4} {x : Int32} (hd : decode cc pc = .ok (.iload_n k, 1)) (hv : lv[(k : Nat)]? = some (some (.int x))) (k9 : Rj cc own nL ret rm mc ms cA ad Q ex cells slots (pc + 1) lv (.int x :: st) M) : Rj cc own nL ret rm mc ms cA ad Q ex cells slots pc lv (st) M := by
  intro p l e s m args below meth c G tx A Qc free d0 X E hd0 H locs ls hP hD hS hl
  exact lv_iload_n X.1 X.2.1 hd rfl (enL_at hl hv) (k9 p l e s m args below meth c G tx A Qc free d0 X E hd0 H locs ls hP hD hS hl)
theorem r_iload {i : Nat} {x : Int32} (hd : decode cc pc = .ok (.iload i, 2)) (hv : lv[i]? = some (some (.int x))) (k : Rj cc own nL ret rm mc ms cA ad Q ex cells slots (pc + 2) lv (.int x :: st) M) : Rj cc own nL ret rm mc ms cA ad Q ex cells slots pc lv (st) M := by
  intro p l e s m args below meth c G tx A Qc free d0 X E hd0 H locs ls hP hD hS hl
  exact lv_iload X.1 X.2.1 hd (enL_at hl hv) (k p l e s m args below meth c G tx A Qc free d0 X E hd0 H locs ls hP hD hS hl)
theorem r_aload_n {k : Fin 4} {x : Nat} (hd : decode cc pc = .ok (.aload_n k, 1)) (hv : lv[(k : Nat)]? = some (some (.ref x))) (k9 : Rj cc own nL ret rm mc ms cA ad Q ex cells slots (pc + 1) lv (.ref x :: st) M) : Rj cc own nL ret rm mc ms cA ad Q ex cells slots pc lv (st) M := by
  intro p l e s m args below meth c G tx A Qc free d0 X E hd0 H locs ls hP hD hS hl
  exact lv_aload_n X.1 X.2.1 hd rfl (enL_at hl hv) (k9 p l e s m args below meth c G tx A Qc free d0 X E hd0 H locs ls hP hD hS hl)
theorem r_aload {i : Nat} {x : Nat} (hd : decode cc pc = .ok (.aload i, 2)) (hv : lv[i]? = some (some (.ref x))) (k : Rj cc own nL ret rm mc ms cA ad Q ex cells slots (pc + 2) lv (.ref x :: st) M) : Rj cc own nL ret rm mc ms cA ad Q ex cells slots pc lv (st) M := by
  intro p l e s m args below meth c G tx A Qc free d0 X E hd0 H locs ls hP hD hS hl
  exact lv_aload X.1 X.2.1 hd (enL_at hl hv) (k p l e s m args below meth c G tx A Qc free d0 X E hd0 H locs ls hP hD hS hl)
theorem r_lload_n {k : Fin 4} {x : Int64} (hd : decode cc pc = .ok (.lload_n k, 1)) (hv : lv[(k : Nat)]? = some (some (.long x))) (k9 : Rj cc own nL ret rm mc ms cA ad Q ex cells slots (pc + 1) lv (.long x :: st) M) : Rj cc own nL ret rm mc ms cA ad Q ex cells slots pc lv (st) M := by
  intro p l e s m args below meth c G tx A Qc free d0 X E hd0 H locs ls hP hD hS hl
  exact lv_lload_n X.1 X.2.1 hd rfl (enL_at hl hv) (k9 p l e s m args below meth c G tx A Qc free d0 X E hd0 H locs ls hP hD hS hl)
theorem r_lload {i : Nat} {x : Int64} (hd : decode cc pc = .ok (.lload i, 2)) (hv : lv[i]? = some (some (.long x))) (k : Rj cc own nL ret rm mc ms cA ad Q ex cells slots (pc + 2) lv (.long x :: st) M) : Rj cc own nL ret rm mc ms cA ad Q ex cells slots pc lv (st) M := by
  intro p l e s m args below meth c G tx A Qc free d0 X E hd0 H locs ls hP hD hS hl
  exact lv_lload X.1 X.2.1 hd (enL_at hl hv) (k p l e s m args below meth c G tx A Qc free d0 X E hd0 H locs ls hP hD hS hl)
theorem r_istore_n {k : Fin 4} {x : Int32} (hd : decode cc pc = .ok (.istore_n k, 1)) (hn : (k : Nat) < nL) (ho : okS lv (k : Nat) = true) (k9 : Rj cc own nL ret rm mc ms cA ad Q ex cells slots (pc + 1) (lv.set (k : Nat) (some (.int x))) st M) : Rj cc own nL ret rm mc ms cA ad Q ex cells slots pc lv (.int x :: st) M := by
  intro p l e s m args below meth c G tx A Qc free d0 X E hd0 H locs ls hP hD hS hl
  exact lv_istore_n X.1 X.2.1 hd rfl hl hn rfl (fun ls2 hl2 => k9 p l e s m args below meth c G tx A Qc free d0 X E hd0 H locs ls2 hP hD hS (enL_set ho hl2))
theorem r_istore {i : Nat} {x : Int32} (hd : decode cc pc = .ok (.istore i, 2)) (hn : i < nL) (ho : okS lv i = true) (k9 : Rj cc own nL ret rm mc ms cA ad Q ex cells slots (pc + 2) (lv.set i (some (.int x))) st M) : Rj cc own nL ret rm mc ms cA ad Q ex cells slots pc lv (.int x :: st) M := by
  intro p l e s m args below meth c G tx A Qc free d0 X E hd0 H locs ls hP hD hS hl
  exact lv_istore X.1 X.2.1 hd hl hn rfl (fun ls2 hl2 => k9 p l e s m args below meth c G tx A Qc free d0 X E hd0 H locs ls2 hP hD hS (enL_set ho hl2))
theorem r_astore_n {k : Fin 4} {x : Nat} (hd : decode cc pc = .ok (.astore_n k, 1)) (hn : (k : Nat) < nL) (ho : okS lv (k : Nat) = true) (k9 : Rj cc own nL ret rm mc ms cA ad Q ex cells slots (pc + 1) (lv.set (k : Nat) (some (.ref x))) st M) : Rj cc own nL ret rm mc ms cA ad Q ex cells slots pc lv (.ref x :: st) M := by
  intro p l e s m args below meth c G tx A Qc free d0 X E hd0 H locs ls hP hD hS hl
  exact lv_astore_n X.1 X.2.1 hd rfl hl hn rfl (fun ls2 hl2 => k9 p l e s m args below meth c G tx A Qc free d0 X E hd0 H locs ls2 hP hD hS (enL_set ho hl2))
theorem r_astore {i : Nat} {x : Nat} (hd : decode cc pc = .ok (.astore i, 2)) (hn : i < nL) (ho : okS lv i = true) (k9 : Rj cc own nL ret rm mc ms cA ad Q ex cells slots (pc + 2) (lv.set i (some (.ref x))) st M) : Rj cc own nL ret rm mc ms cA ad Q ex cells slots pc lv (.ref x :: st) M := by
  intro p l e s m args below meth c G tx A Qc free d0 X E hd0 H locs ls hP hD hS hl
  exact lv_astore X.1 X.2.1 hd hl hn rfl (fun ls2 hl2 => k9 p l e s m args below meth c G tx A Qc free d0 X E hd0 H locs ls2 hP hD hS (enL_set ho hl2))
theorem r_iinc {i : Nat} {n : Int} {x v : Int32} (hd : decode cc pc = .ok (.iinc i n, 3)) (hi : lv[i]? = some (some (.int x))) (hv : x + Int32.ofInt n = v) (hn : i < nL) (ho : okS lv i = true) (k9 : Rj cc own nL ret rm mc ms cA ad Q ex cells slots (pc + 3) (lv.set i (some (.int v))) st M) : Rj cc own nL ret rm mc ms cA ad Q ex cells slots pc lv st M := by
  intro p l e s m args below meth c G tx A Qc free d0 X E hd0 H locs ls hP hD hS hl
  obtain ⟨k, hk⟩ := enL_ix hi
  exact lv_iinc X.1 X.2.1 hd hl hk hv hn rfl (fun ls2 hl2 => k9 p l e s m args below meth c G tx A Qc free d0 X E hd0 H locs ls2 hP hD hS (enL_set ho hl2))
theorem r_icmp_eq {x y : Int32} {off : Int} {tgt : Nat} (hd : decode cc pc = .ok (.if_icmp .eq off, 3)) (ht : (pc : Int) + off = (tgt : Int)) (kt : x = y → Rj cc own nL ret rm mc ms cA ad Q ex cells slots tgt lv st M) (kf : ¬ x = y → Rj cc own nL ret rm mc ms cA ad Q ex cells slots (pc + 3) lv st M) : Rj cc own nL ret rm mc ms cA ad Q ex cells slots pc lv (.int y :: .int x :: st) M := by
  intro p l e s m args below meth c G tx A Qc free d0 X E hd0 H locs ls hP hD hS hl
  exact lv_icmp_eq X.1 X.2.1 hd ht (fun h => kt h p l e s m args below meth c G tx A Qc free d0 X E hd0 H locs ls hP hD hS hl) (fun h => kf h p l e s m args below meth c G tx A Qc free d0 X E hd0 H locs ls hP hD hS hl)
theorem r_if_eq {x : Int32} {off : Int} {tgt : Nat} (hd : decode cc pc = .ok (.ifCond .eq off, 3)) (ht : (pc : Int) + off = (tgt : Int)) (kt : x = 0 → Rj cc own nL ret rm mc ms cA ad Q ex cells slots tgt lv st M) (kf : ¬ x = 0 → Rj cc own nL ret rm mc ms cA ad Q ex cells slots (pc + 3) lv st M) : Rj cc own nL ret rm mc ms cA ad Q ex cells slots pc lv (.int x :: st) M := by
  intro p l e s m args below meth c G tx A Qc free d0 X E hd0 H locs ls hP hD hS hl
  exact lv_if_eq X.1 X.2.1 hd ht (fun h => kt h p l e s m args below meth c G tx A Qc free d0 X E hd0 H locs ls hP hD hS hl) (fun h => kf h p l e s m args below meth c G tx A Qc free d0 X E hd0 H locs ls hP hD hS hl)
theorem r_icmp_ne {x y : Int32} {off : Int} {tgt : Nat} (hd : decode cc pc = .ok (.if_icmp .ne off, 3)) (ht : (pc : Int) + off = (tgt : Int)) (kt : ¬ x = y → Rj cc own nL ret rm mc ms cA ad Q ex cells slots tgt lv st M) (kf : x = y → Rj cc own nL ret rm mc ms cA ad Q ex cells slots (pc + 3) lv st M) : Rj cc own nL ret rm mc ms cA ad Q ex cells slots pc lv (.int y :: .int x :: st) M := by
  intro p l e s m args below meth c G tx A Qc free d0 X E hd0 H locs ls hP hD hS hl
  exact lv_icmp_ne X.1 X.2.1 hd ht (fun h => kt h p l e s m args below meth c G tx A Qc free d0 X E hd0 H locs ls hP hD hS hl) (fun h => kf h p l e s m args below meth c G tx A Qc free d0 X E hd0 H locs ls hP hD hS hl)
theorem r_if_ne {x : Int32} {off : Int} {tgt : Nat} (hd : decode cc pc = .ok (.ifCond .ne off, 3)) (ht : (pc : Int) + off = (tgt : Int)) (kt : ¬ x = 0 → Rj cc own nL ret rm mc ms cA ad Q ex cells slots tgt lv st M) (kf : x = 0 → Rj cc own nL ret rm mc ms cA ad Q ex cells slots (pc + 3) lv st M) : Rj cc own nL ret rm mc ms cA ad Q ex cells slots pc lv (.int x :: st) M := by
  intro p l e s m args below meth c G tx A Qc free d0 X E hd0 H locs ls hP hD hS hl
  exact lv_if_ne X.1 X.2.1 hd ht (fun h => kt h p l e s m args below meth c G tx A Qc free d0 X E hd0 H locs ls hP hD hS hl) (fun h => kf h p l e s m args below meth c G tx A Qc free d0 X E hd0 H locs ls hP hD hS hl)
theorem r_icmp_lt {x y : Int32} {off : Int} {tgt : Nat} (hd : decode cc pc = .ok (.if_icmp .lt off, 3)) (ht : (pc : Int) + off = (tgt : Int)) (kt : x < y → Rj cc own nL ret rm mc ms cA ad Q ex cells slots tgt lv st M) (kf : ¬ x < y → Rj cc own nL ret rm mc ms cA ad Q ex cells slots (pc + 3) lv st M) : Rj cc own nL ret rm mc ms cA ad Q ex cells slots pc lv (.int y :: .int x :: st) M := by
  intro p l e s m args below meth c G tx A Qc free d0 X E hd0 H locs ls hP hD hS hl
  exact lv_icmp_lt X.1 X.2.1 hd ht (fun h => kt h p l e s m args below meth c G tx A Qc free d0 X E hd0 H locs ls hP hD hS hl) (fun h => kf h p l e s m args below meth c G tx A Qc free d0 X E hd0 H locs ls hP hD hS hl)
theorem r_if_lt {x : Int32} {off : Int} {tgt : Nat} (hd : decode cc pc = .ok (.ifCond .lt off, 3)) (ht : (pc : Int) + off = (tgt : Int)) (kt : x < 0 → Rj cc own nL ret rm mc ms cA ad Q ex cells slots tgt lv st M) (kf : ¬ x < 0 → Rj cc own nL ret rm mc ms cA ad Q ex cells slots (pc + 3) lv st M) : Rj cc own nL ret rm mc ms cA ad Q ex cells slots pc lv (.int x :: st) M := by
  intro p l e s m args below meth c G tx A Qc free d0 X E hd0 H locs ls hP hD hS hl
  exact lv_if_lt X.1 X.2.1 hd ht (fun h => kt h p l e s m args below meth c G tx A Qc free d0 X E hd0 H locs ls hP hD hS hl) (fun h => kf h p l e s m args below meth c G tx A Qc free d0 X E hd0 H locs ls hP hD hS hl)
theorem r_icmp_ge {x y : Int32} {off : Int} {tgt : Nat} (hd : decode cc pc = .ok (.if_icmp .ge off, 3)) (ht : (pc : Int) + off = (tgt : Int)) (kt : y ≤ x → Rj cc own nL ret rm mc ms cA ad Q ex cells slots tgt lv st M) (kf : ¬ y ≤ x → Rj cc own nL ret rm mc ms cA ad Q ex cells slots (pc + 3) lv st M) : Rj cc own nL ret rm mc ms cA ad Q ex cells slots pc lv (.int y :: .int x :: st) M := by
  intro p l e s m args below meth c G tx A Qc free d0 X E hd0 H locs ls hP hD hS hl
  exact lv_icmp_ge X.1 X.2.1 hd ht (fun h => kt h p l e s m args below meth c G tx A Qc free d0 X E hd0 H locs ls hP hD hS hl) (fun h => kf h p l e s m args below meth c G tx A Qc free d0 X E hd0 H locs ls hP hD hS hl)
theorem r_if_ge {x : Int32} {off : Int} {tgt : Nat} (hd : decode cc pc = .ok (.ifCond .ge off, 3)) (ht : (pc : Int) + off = (tgt : Int)) (kt : 0 ≤ x → Rj cc own nL ret rm mc ms cA ad Q ex cells slots tgt lv st M) (kf : ¬ 0 ≤ x → Rj cc own nL ret rm mc ms cA ad Q ex cells slots (pc + 3) lv st M) : Rj cc own nL ret rm mc ms cA ad Q ex cells slots pc lv (.int x :: st) M := by
  intro p l e s m args below meth c G tx A Qc free d0 X E hd0 H locs ls hP hD hS hl
  exact lv_if_ge X.1 X.2.1 hd ht (fun h => kt h p l e s m args below meth c G tx A Qc free d0 X E hd0 H locs ls hP hD hS hl) (fun h => kf h p l e s m args below meth c G tx A Qc free d0 X E hd0 H locs ls hP hD hS hl)
theorem r_icmp_gt {x y : Int32} {off : Int} {tgt : Nat} (hd : decode cc pc = .ok (.if_icmp .gt off, 3)) (ht : (pc : Int) + off = (tgt : Int)) (kt : y < x → Rj cc own nL ret rm mc ms cA ad Q ex cells slots tgt lv st M) (kf : ¬ y < x → Rj cc own nL ret rm mc ms cA ad Q ex cells slots (pc + 3) lv st M) : Rj cc own nL ret rm mc ms cA ad Q ex cells slots pc lv (.int y :: .int x :: st) M := by
  intro p l e s m args below meth c G tx A Qc free d0 X E hd0 H locs ls hP hD hS hl
  exact lv_icmp_gt X.1 X.2.1 hd ht (fun h => kt h p l e s m args below meth c G tx A Qc free d0 X E hd0 H locs ls hP hD hS hl) (fun h => kf h p l e s m args below meth c G tx A Qc free d0 X E hd0 H locs ls hP hD hS hl)
theorem r_if_gt {x : Int32} {off : Int} {tgt : Nat} (hd : decode cc pc = .ok (.ifCond .gt off, 3)) (ht : (pc : Int) + off = (tgt : Int)) (kt : 0 < x → Rj cc own nL ret rm mc ms cA ad Q ex cells slots tgt lv st M) (kf : ¬ 0 < x → Rj cc own nL ret rm mc ms cA ad Q ex cells slots (pc + 3) lv st M) : Rj cc own nL ret rm mc ms cA ad Q ex cells slots pc lv (.int x :: st) M := by
  intro p l e s m args below meth c G tx A Qc free d0 X E hd0 H locs ls hP hD hS hl
  exact lv_if_gt X.1 X.2.1 hd ht (fun h => kt h p l e s m args below meth c G tx A Qc free d0 X E hd0 H locs ls hP hD hS hl) (fun h => kf h p l e s m args below meth c G tx A Qc free d0 X E hd0 H locs ls hP hD hS hl)
theorem r_icmp_le {x y : Int32} {off : Int} {tgt : Nat} (hd : decode cc pc = .ok (.if_icmp .le off, 3)) (ht : (pc : Int) + off = (tgt : Int)) (kt : x ≤ y → Rj cc own nL ret rm mc ms cA ad Q ex cells slots tgt lv st M) (kf : ¬ x ≤ y → Rj cc own nL ret rm mc ms cA ad Q ex cells slots (pc + 3) lv st M) : Rj cc own nL ret rm mc ms cA ad Q ex cells slots pc lv (.int y :: .int x :: st) M := by
  intro p l e s m args below meth c G tx A Qc free d0 X E hd0 H locs ls hP hD hS hl
  exact lv_icmp_le X.1 X.2.1 hd ht (fun h => kt h p l e s m args below meth c G tx A Qc free d0 X E hd0 H locs ls hP hD hS hl) (fun h => kf h p l e s m args below meth c G tx A Qc free d0 X E hd0 H locs ls hP hD hS hl)
theorem r_if_le {x : Int32} {off : Int} {tgt : Nat} (hd : decode cc pc = .ok (.ifCond .le off, 3)) (ht : (pc : Int) + off = (tgt : Int)) (kt : x ≤ 0 → Rj cc own nL ret rm mc ms cA ad Q ex cells slots tgt lv st M) (kf : ¬ x ≤ 0 → Rj cc own nL ret rm mc ms cA ad Q ex cells slots (pc + 3) lv st M) : Rj cc own nL ret rm mc ms cA ad Q ex cells slots pc lv (.int x :: st) M := by
  intro p l e s m args below meth c G tx A Qc free d0 X E hd0 H locs ls hP hD hS hl
  exact lv_if_le X.1 X.2.1 hd ht (fun h => kt h p l e s m args below meth c G tx A Qc free d0 X E hd0 H locs ls hP hD hS hl) (fun h => kf h p l e s m args below meth c G tx A Qc free d0 X E hd0 H locs ls hP hD hS hl)
theorem r_goto {off : Int} {tgt : Nat} (hd : decode cc pc = .ok (.goto off, 3)) (ht : (pc : Int) + off = (tgt : Int)) (k : Rj cc own nL ret rm mc ms cA ad Q ex cells slots tgt lv st M) : Rj cc own nL ret rm mc ms cA ad Q ex cells slots pc lv st M := by
  intro p l e s m args below meth c G tx A Qc free d0 X E hd0 H locs ls hP hD hS hl
  exact lv_goto X.1 X.2.1 hd ht (k p l e s m args below meth c G tx A Qc free d0 X E hd0 H locs ls hP hD hS hl)
theorem r_lookup {dflt : Int} {ps : Array (Int × Int)} {len : Nat} {x : Int32} {off : Int} {tgt : Nat} (hd : decode cc pc = .ok (.lookupswitch dflt ps, len)) (hp : (ps.toList.zip (ps.toList.drop 1)).all (fun (a, next) => a.1 < next.1) = true) (ho : Op.lookupswitch.offset ps.toList dflt x.toInt = off) (ht : (pc : Int) + off = (tgt : Int)) (k : Rj cc own nL ret rm mc ms cA ad Q ex cells slots tgt lv st M) : Rj cc own nL ret rm mc ms cA ad Q ex cells slots pc lv (.int x :: st) M := by
  intro p l e s m args below meth c G tx A Qc free d0 X E hd0 H locs ls hP hD hS hl
  exact lv_lookup X.1 X.2.1 hd hp ho ht (k p l e s m args below meth c G tx A Qc free d0 X E hd0 H locs ls hP hD hS hl)
theorem r_tableIn {dflt lo hi : Int} {offs : Array Int} {len : Nat} {x : Int32} {off : Int} {tgt : Nat} (hd : decode cc pc = .ok (.tableswitch dflt lo hi offs, len)) (h1 : ¬ x.toInt < lo) (h2 : ¬ hi < x.toInt) (ho : offs[(x.toInt - lo).toNat]? = some off) (ht : (pc : Int) + off = (tgt : Int)) (k : Rj cc own nL ret rm mc ms cA ad Q ex cells slots tgt lv st M) : Rj cc own nL ret rm mc ms cA ad Q ex cells slots pc lv (.int x :: st) M := by
  intro p l e s m args below meth c G tx A Qc free d0 X E hd0 H locs ls hP hD hS hl
  exact lv_tableIn X.1 X.2.1 hd h1 h2 ho ht (k p l e s m args below meth c G tx A Qc free d0 X E hd0 H locs ls hP hD hS hl)
theorem r_tableOut {dflt lo hi : Int} {offs : Array Int} {len : Nat} {x : Int32} {tgt : Nat} (hd : decode cc pc = .ok (.tableswitch dflt lo hi offs, len)) (h : x.toInt < lo ∨ hi < x.toInt) (ht : (pc : Int) + dflt = (tgt : Int)) (k : Rj cc own nL ret rm mc ms cA ad Q ex cells slots tgt lv st M) : Rj cc own nL ret rm mc ms cA ad Q ex cells slots pc lv (.int x :: st) M := by
  intro p l e s m args below meth c G tx A Qc free d0 X E hd0 H locs ls hP hD hS hl
  exact lv_tableOut X.1 X.2.1 hd h ht (k p l e s m args below meth c G tx A Qc free d0 X E hd0 H locs ls hP hD hS hl)
theorem r_getg {idx ci N : Nat} {C : String} {T : u_T} {fs : List Value} {v : Value} {r j : Nat} (hj : r < 16 ∧ j < t_size r) (hcell : t_cell cA ad (r, j) (M r j) = .inr (ci, fs)) (hc : vwCl[ci]? = some (C, T, N)) (hin : ∀ w ∈ u_ws C T N, w ∈ wsL_law) (kf : Nat) (hk : kf < N) (hw : Cond.fieldLink own idx (T kf).1 (T kf).2.1 (T kf).2.2.1 ∈ wsL_law) (hv : fs[kf]? = some v) (hd : decode cc pc = .ok (.getfield idx, 3)) (k : Rj cc own nL ret rm mc ms cA ad Q ex cells slots (pc + 3) lv (v :: st) M) : Rj cc own nL ret rm mc ms cA ad Q ex cells slots pc lv (.ref (ad r j) :: st) M := by
  intro p l e s m args below meth c G tx A Qc free d0 X E hd0 H locs ls hP hD hS hl
  obtain ⟨q0, hq, -⟩ := wsT_at (cA := cA) (ad := ad) (ex := ex) (M := M) hj
  rw [hcell] at hq
  exact va_get X.1 X.2.1 (dr_words X.2.2.2.2.1 d0) hin X.2.2.2.1 X.2.2.2.2.2.2.2.1 hP q0 hq hc kf hk (dr_words X.2.2.2.2.1 d0 _ hw) (fun _ h => h) hv hd (k p l e s m args below meth c G tx A Qc free d0 X E hd0 H locs ls hP hD hS hl)
theorem r_putg {idx ci N : Nat} {C : String} {T : u_T} {fs : List Value} {v : Value} {ty : FieldType} {r j : Nat} (w : Nat → Int32) (hj : r < 16 ∧ j < t_size r) (hcell : t_cell cA ad (r, j) (M r j) = .inr (ci, fs)) (hc : vwCl[ci]? = some (C, T, N)) (hin : ∀ w ∈ u_ws C T N, w ∈ wsL_law) (ty0 : Nat → FieldType) (hty : ∀ k, k < N → parseFieldDescriptor (T k).2.2.1 = some (ty0 k)) (hnm : ∀ a, a < N → ∀ b, b < N → a ≠ b → (T a).2.1 ≠ (T b).2.1) (kf : Nat) (hk : kf < N) (hfl : kf < fs.length) (hw : Cond.fieldLink own idx (T kf).1 (T kf).2.1 (T kf).2.2.1 ∈ wsL_law) (hfin : (T kf).2.2.2 = false) (het : ty0 kf = ty) (hn : narrow ty v = v) (hfit : fits ty v = true) (hset : t_cell cA ad (r, j) w = .inr (ci, fs.set kf v)) (hd : decode cc pc = .ok (.putfield idx, 3)) (k : Rj cc own nL ret rm mc ms cA ad Q ex cells slots (pc + 3) lv st (m_set M r j w)) : Rj cc own nL ret rm mc ms cA ad Q ex cells slots pc lv (v :: .ref (ad r j) :: st) M := by
  intro p l e s m args below meth c G tx A Qc free d0 X E hd0 H locs ls hP hD hS hl
  obtain ⟨q0, hq, hs⟩ := wsT_at (cA := cA) (ad := ad) (ex := ex) (M := M) hj
  rw [hcell] at hq
  have hs2 := hs w
  rw [hset] at hs2
  refine va_put X.1 X.2.1 (dr_words X.2.2.2.2.1 d0) hin ty0 hty hnm X.2.2.2.1 X.2.2.2.2.2.2.2.1 hP hD hS q0 hq hc kf hk (dr_words X.2.2.2.2.1 d0 _ hw) (fun _ h => h) hfin (by rw [hty kf hk, het]) hn hfit hfl hd (fun H1 locs1 hP1 hD1 hS1 => ?_)
  rw [hs2] at hP1 hD1
  exact k p l e s m args below meth c G tx A Qc free d0 X E hd0 H1 locs1 ls hP1 hD1 hS1 hl
theorem r_aldg {n : Nat} {f : Nat → Nat} {ca : ClassId} {C : String} {i : Int32} {r j t0 : Nat} (hj : r < 16 ∧ j < t_size r) (hcell : t_cell cA ad (r, j) (M r j) = .inl (ca, n, t_rf f)) (ht : ∀ tx, (tysT cA ++ tx)[t0]? = some (ca, .object C)) (hi : vp_in i n) (hd : decode cc pc = .ok (.aaload, 1)) (k : Rj cc own nL ret rm mc ms cA ad Q ex cells slots (pc + 1) lv (.ref (f i.toNatClampNeg) :: st) M) : Rj cc own nL ret rm mc ms cA ad Q ex cells slots pc lv (.int i :: .ref (ad r j) :: st) M := by
  intro p l e s m args below meth c G tx A Qc free d0 X E hd0 H locs ls hP hD hS hl
  obtain ⟨q0, hq, -⟩ := wsT_at (cA := cA) (ad := ad) (ex := ex) (M := M) hj
  rw [hcell] at hq
  exact va_aldq (s := s.setDrawn d0) X.1 X.2.1 X.2.2.2.2.2.2.2.1 hP q0 t0 hq (ht tx) hi hd (k p l e s m args below meth c G tx A Qc free d0 X E hd0 H locs ls hP hD hS hl)
theorem r_ialdg {n : Nat} {f : Nat → Int32} {i : Int32} {r j : Nat} (hj : r < 16 ∧ j < t_size r) (hcell : t_cell cA ad (r, j) (M r j) = .inl (cA 0, n, .inl f)) (hi : vp_in i n) (hd : decode cc pc = .ok (.iaload, 1)) (k : Rj cc own nL ret rm mc ms cA ad Q ex cells slots (pc + 1) lv (.int (f i.toNatClampNeg) :: st) M) : Rj cc own nL ret rm mc ms cA ad Q ex cells slots pc lv (.int i :: .ref (ad r j) :: st) M := by
  intro p l e s m args below meth c G tx A Qc free d0 X E hd0 H locs ls hP hD hS hl
  obtain ⟨q0, hq, -⟩ := wsT_at (cA := cA) (ad := ad) (ex := ex) (M := M) hj
  rw [hcell] at hq
  exact va_iald (s := s.setDrawn d0) X.1 X.2.1 X.2.2.2.2.2.2.2.1 hP q0 0 hq rfl hi hd (k p l e s m args below meth c G tx A Qc free d0 X E hd0 H locs ls hP hD hS hl)
theorem r_iastg {n : Nat} {f : Nat → Int32} {i x : Int32} {r j : Nat} (w : Nat → Int32) (hj : r < 16 ∧ j < t_size r) (hcell : t_cell cA ad (r, j) (M r j) = .inl (cA 0, n, .inl f)) (hi : vp_in i n) (hset : t_cell cA ad (r, j) w = .inl (cA 0, n, .inl (upd f i.toNatClampNeg x))) (hd : decode cc pc = .ok (.iastore, 1)) (k : Rj cc own nL ret rm mc ms cA ad Q ex cells slots (pc + 1) lv st (m_set M r j w)) : Rj cc own nL ret rm mc ms cA ad Q ex cells slots pc lv (.int x :: .int i :: .ref (ad r j) :: st) M := by
  intro p l e s m args below meth c G tx A Qc free d0 X E hd0 H locs ls hP hD hS hl
  obtain ⟨q0, hq, hs⟩ := wsT_at (cA := cA) (ad := ad) (ex := ex) (M := M) hj
  rw [hcell] at hq
  have hs2 := hs w
  rw [hset] at hs2
  refine va_iast (s := s.setDrawn d0) X.1 X.2.1 X.2.2.2.2.2.2.2.1 hP hD hS q0 0 hq rfl hi hd (fun H1 locs1 hP1 hD1 hS1 => ?_)
  rw [hs2] at hP1 hD1
  exact k p l e s m args below meth c G tx A Qc free d0 X E hd0 H1 locs1 ls hP1 hD1 hS1 hl
theorem r_caldg {n : Nat} {f : Nat → Int32} {i : Int32} {r j : Nat} (hj : r < 16 ∧ j < t_size r) (hcell : t_cell cA ad (r, j) (M r j) = .inl (cA 1, n, .inl f)) (hi : vp_in i n) (hd : decode cc pc = .ok (.caload, 1)) (k : Rj cc own nL ret rm mc ms cA ad Q ex cells slots (pc + 1) lv (.int (f i.toNatClampNeg) :: st) M) : Rj cc own nL ret rm mc ms cA ad Q ex cells slots pc lv (.int i :: .ref (ad r j) :: st) M := by
  intro p l e s m args below meth c G tx A Qc free d0 X E hd0 H locs ls hP hD hS hl
  obtain ⟨q0, hq, -⟩ := wsT_at (cA := cA) (ad := ad) (ex := ex) (M := M) hj
  rw [hcell] at hq
  exact va_cald (s := s.setDrawn d0) X.1 X.2.1 X.2.2.2.2.2.2.2.1 hP q0 1 hq rfl hi hd (k p l e s m args below meth c G tx A Qc free d0 X E hd0 H locs ls hP hD hS hl)
theorem r_castg {n : Nat} {f : Nat → Int32} {i x : Int32} {r j : Nat} (w : Nat → Int32) (hj : r < 16 ∧ j < t_size r) (hcell : t_cell cA ad (r, j) (M r j) = .inl (cA 1, n, .inl f)) (hi : vp_in i n) (hset : t_cell cA ad (r, j) w = .inl (cA 1, n, .inl (upd f i.toNatClampNeg (vp_nar .char x)))) (hd : decode cc pc = .ok (.castore, 1)) (k : Rj cc own nL ret rm mc ms cA ad Q ex cells slots (pc + 1) lv st (m_set M r j w)) : Rj cc own nL ret rm mc ms cA ad Q ex cells slots pc lv (.int x :: .int i :: .ref (ad r j) :: st) M := by
  intro p l e s m args below meth c G tx A Qc free d0 X E hd0 H locs ls hP hD hS hl
  obtain ⟨q0, hq, hs⟩ := wsT_at (cA := cA) (ad := ad) (ex := ex) (M := M) hj
  rw [hcell] at hq
  have hs2 := hs w
  rw [hset] at hs2
  refine va_cast (s := s.setDrawn d0) X.1 X.2.1 X.2.2.2.2.2.2.2.1 hP hD hS q0 1 hq rfl hi hd (fun H1 locs1 hP1 hD1 hS1 => ?_)
  rw [hs2] at hP1 hD1
  exact k p l e s m args below meth c G tx A Qc free d0 X E hd0 H1 locs1 ls hP1 hD1 hS1 hl
theorem r_ldcS {idx : Nat} {tx0 : String} {i : Nat} (hin : (own, idx, tx0, i) ∈ jsR) (hd : decode cc pc = .ok (.ldc idx, 2)) (k : Rj cc own nL ret rm mc ms cA ad Q ex cells slots (pc + 2) lv (.ref (ad 16 i) :: st) M) : Rj cc own nL ret rm mc ms cA ad Q ex cells slots pc lv st M := by
  intro p l e s m args below meth c G tx A Qc free d0 X E hd0 H locs ls hP hD hS hl
  have hJ0 : JZ ad A (s.setDrawn d0) (s.setDrawn d0).heap := JZ.vm (u := s) rfl X.2.2.2.2.2.2.2.2.2.2
  exact va_ldcS (s := s.setDrawn d0) X.1 X.2.1 X.2.2.2.1 (hJ0.2.1 _ hin) hd (k p l e s m args below meth c G tx A Qc free d0 X E hd0 H locs ls hP hD hS hl)
theorem r_getsC {idx : Nat} (hw : Cond.fieldLink own idx "java/lang/String" "COMPACT_STRINGS" "Z" ∈ wsL_law) (hd : decode cc pc = .ok (.getstatic idx, 3)) (k : Rj cc own nL ret rm mc ms cA ad Q ex cells slots (pc + 3) lv (.int 1 :: st) M) : Rj cc own nL ret rm mc ms cA ad Q ex cells slots pc lv st M := by
  intro p l e s m args below meth c G tx A Qc free d0 X E hd0 H locs ls hP hD hS hl
  have hJ0 : JZ ad A (s.setDrawn d0) (s.setDrawn d0).heap := JZ.vm (u := s) rfl X.2.2.2.2.2.2.2.2.2.2
  exact va_gets (s := s.setDrawn d0) X.1 X.2.1 hJ0.2.2.1 hS X.2.2.2.1 (dr_words X.2.2.2.2.1 d0 _ hw) (fun _ h => h) hd (k p l e s m args below meth c G tx A Qc free d0 X E hd0 H locs ls hP hD hS hl)
theorem r_getsD {idx : Nat} {i : Nat} {nm : String} (hi : (i = 0 ∧ nm = "DigitOnes") ∨ (i = 1 ∧ nm = "DigitTens")) (hw : Cond.fieldLink own idx "java/lang/Integer" nm "[B" ∈ wsL_law) (hd : decode cc pc = .ok (.getstatic idx, 3)) (k : Rj cc own nL ret rm mc ms cA ad Q ex cells slots (pc + 3) lv (.ref (ad 18 i) :: st) M) : Rj cc own nL ret rm mc ms cA ad Q ex cells slots pc lv st M := by
  intro p l e s m args below meth c G tx A Qc free d0 X E hd0 H locs ls hP hD hS hl
  have hJ0 : JZ ad A (s.setDrawn d0) (s.setDrawn d0).heap := JZ.vm (u := s) rfl X.2.2.2.2.2.2.2.2.2.2
  rcases hi with ⟨rfl, rfl⟩ | ⟨rfl, rfl⟩
  · exact va_gets (s := s.setDrawn d0) X.1 X.2.1 hJ0.2.2.2.2.1 hS X.2.2.2.1 (dr_words X.2.2.2.2.1 d0 _ hw) (fun _ h => h) hd (k p l e s m args below meth c G tx A Qc free d0 X E hd0 H locs ls hP hD hS hl)
  · exact va_gets (s := s.setDrawn d0) X.1 X.2.1 hJ0.2.2.2.2.2.1 hS X.2.2.2.1 (dr_words X.2.2.2.2.1 d0 _ hw) (fun _ h => h) hd (k p l e s m args below meth c G tx A Qc free d0 X E hd0 H locs ls hP hD hS hl)
theorem r_getsP {idx : Nat} (hw : Cond.fieldLink own idx "jdk/internal/util/Preconditions" "SIOOBE_FORMATTER" "Ljava/util/function/BiFunction;" ∈ wsL_law) (hd : decode cc pc = .ok (.getstatic idx, 3)) (k : ∀ v : Value, v.category = 1 → Rj cc own nL ret rm mc ms cA ad Q ex cells slots (pc + 3) lv (v :: st) M) : Rj cc own nL ret rm mc ms cA ad Q ex cells slots pc lv st M := by
  intro p l e s m args below meth c G tx A Qc free d0 X E hd0 H locs ls hP hD hS hl
  have hJ0 : JZ ad A (s.setDrawn d0) (s.setDrawn d0).heap := JZ.vm (u := s) rfl X.2.2.2.2.2.2.2.2.2.2
  obtain ⟨v, hvc, hZ⟩ := hJ0.2.2.2.1
  exact va_gets (s := s.setDrawn d0) X.1 X.2.1 hZ hS X.2.2.2.1 (dr_words X.2.2.2.2.1 d0 _ hw) (fun _ h => h) hd (k v hvc p l e s m args below meth c G tx A Qc free d0 X E hd0 H locs ls hP hD hS hl)
theorem r_lit_coder {idx i : Nat} (hi : i < 15) (hw : Cond.fieldLink own idx "java/lang/String" "coder" "B" ∈ wsL_law) (hd : decode cc pc = .ok (.getfield idx, 3)) (k : Rj cc own nL ret rm mc ms cA ad Q ex cells slots (pc + 3) lv (.int 0 :: st) M) : Rj cc own nL ret rm mc ms cA ad Q ex cells slots pc lv (.ref (ad 16 i) :: st) M := by
  intro p l e s m args below meth c G tx A Qc free d0 X E hd0 H locs ls hP hD hS hl
  have hJ0 : JZ ad A (s.setDrawn d0) (s.setDrawn d0).heap := JZ.vm (u := s) rfl X.2.2.2.2.2.2.2.2.2.2
  exact vk_getf (s := s.setDrawn d0) X.1 X.2.1 (hJ0.1.1 i hi).2.1 hS X.2.2.2.1 (dr_words X.2.2.2.2.1 d0 _ hw) (fun _ h => h) hd (k p l e s m args below meth c G tx A Qc free d0 X E hd0 H locs ls hP hD hS hl)
theorem r_lit_value {idx i : Nat} (hi : i < 15) (hw : Cond.fieldLink own idx "java/lang/String" "value" "[B" ∈ wsL_law) (hd : decode cc pc = .ok (.getfield idx, 3)) (k : Rj cc own nL ret rm mc ms cA ad Q ex cells slots (pc + 3) lv (.ref (ad 17 i) :: st) M) : Rj cc own nL ret rm mc ms cA ad Q ex cells slots pc lv (.ref (ad 16 i) :: st) M := by
  intro p l e s m args below meth c G tx A Qc free d0 X E hd0 H locs ls hP hD hS hl
  have hJ0 : JZ ad A (s.setDrawn d0) (s.setDrawn d0).heap := JZ.vm (u := s) rfl X.2.2.2.2.2.2.2.2.2.2
  exact vk_getf (s := s.setDrawn d0) X.1 X.2.1 (hJ0.1.1 i hi).2.2.1 hS X.2.2.2.1 (dr_words X.2.2.2.2.1 d0 _ hw) (fun _ h => h) hd (k p l e s m args below meth c G tx A Qc free d0 X E hd0 H locs ls hP hD hS hl)
theorem r_lit_len {i : Nat} (hi : i < 15) (hd : decode cc pc = .ok (.arraylength, 1)) (k : Rj cc own nL ret rm mc ms cA ad Q ex cells slots (pc + 1) lv (.int (nI (lenS.getD i 0)) :: st) M) : Rj cc own nL ret rm mc ms cA ad Q ex cells slots pc lv (.ref (ad 17 i) :: st) M := by
  intro p l e s m args below meth c G tx A Qc free d0 X E hd0 H locs ls hP hD hS hl
  have hJ0 : JZ ad A (s.setDrawn d0) (s.setDrawn d0).heap := JZ.vm (u := s) rfl X.2.2.2.2.2.2.2.2.2.2
  exact va_tlen (s := s.setDrawn d0) X.1 X.2.1 (hJ0.1.1 i hi).2.2.2 hS rfl hd (k p l e s m args below meth c G tx A Qc free d0 X E hd0 H locs ls hP hD hS hl)
theorem r_lit_ld {i j : Nat} {x : Int32} (hi : i < 15) (hx : x = nI j) (hj : j < lenS.getD i 0) (hd : decode cc pc = .ok (.baload, 1)) (k : Rj cc own nL ret rm mc ms cA ad Q ex cells slots (pc + 1) lv (.int ((bytS.getD i []).getD j 0) :: st) M) : Rj cc own nL ret rm mc ms cA ad Q ex cells slots pc lv (.int x :: .ref (ad 17 i) :: st) M := by
  intro p l e s m args below meth c G tx A Qc free d0 X E hd0 H locs ls hP hD hS hl
  have hJ0 : JZ ad A (s.setDrawn d0) (s.setDrawn d0).heap := JZ.vm (u := s) rfl X.2.2.2.2.2.2.2.2.2.2
  subst hx
  have h20 : lenS.getD i 0 ≤ 20 := lenS_le i
  exact va_tb (s := s.setDrawn d0) X.1 X.2.1 (hJ0.1.1 i hi).2.2.2 hS (vp_in_nI hj (by omega)) (by rw [nI_clamp (by omega)]) hd (k p l e s m args below meth c G tx A Qc free d0 X E hd0 H locs ls hP hD hS hl)
theorem r_dig_ld {i j : Nat} {x : Int32} (hi : i = 0 ∨ i = 1) (hx : x = nI j) (hj : j < 100) (hd : decode cc pc = .ok (.baload, 1)) (k : Rj cc own nL ret rm mc ms cA ad Q ex cells slots (pc + 1) lv (.int (nI (48 + (if i = 0 then j % 10 else j / 10))) :: st) M) : Rj cc own nL ret rm mc ms cA ad Q ex cells slots pc lv (.int x :: .ref (ad 18 i) :: st) M := by
  intro p l e s m args below meth c G tx A Qc free d0 X E hd0 H locs ls hP hD hS hl
  have hJ0 : JZ ad A (s.setDrawn d0) (s.setDrawn d0).heap := JZ.vm (u := s) rfl X.2.2.2.2.2.2.2.2.2.2
  subst hx
  rcases hi with rfl | rfl
  · exact va_tb (s := s.setDrawn d0) X.1 X.2.1 hJ0.2.2.2.2.2.2.1 hS (vp_in_nI hj (by omega)) (by rw [nI_clamp (by omega)]; rfl) hd (k p l e s m args below meth c G tx A Qc free d0 X E hd0 H locs ls hP hD hS hl)
  · exact va_tb (s := s.setDrawn d0) X.1 X.2.1 hJ0.2.2.2.2.2.2.2.1 hS (vp_in_nI hj (by omega)) (by rw [nI_clamp (by omega)]; rfl) hd (k p l e s m args below meth c G tx A Qc free d0 X E hd0 H locs ls hP hD hS hl)
theorem r_scr_len (hd : decode cc pc = .ok (.arraylength, 1)) (k : Rj cc own nL ret rm mc ms cA ad Q ex cells slots (pc + 1) lv (.int (nI (ad 18 2)) :: st) M) : Rj cc own nL ret rm mc ms cA ad Q ex cells slots pc lv (.ref (ad 18 3) :: st) M := by
  intro p l e s m args below meth c G tx A Qc free d0 X E hd0 H locs ls hP hD hS hl
  have hJ0 : JZ ad A (s.setDrawn d0) (s.setDrawn d0).heap := JZ.vm (u := s) rfl X.2.2.2.2.2.2.2.2.2.2
  exact va_tlen (s := s.setDrawn d0) X.1 X.2.1 hJ0.2.2.2.2.2.2.2.2.1 hS rfl hd (k p l e s m args below meth c G tx A Qc free d0 X E hd0 H locs ls hP hD hS hl)
theorem r_scr_ld {j : Nat} {x : Int32} (hx : x = nI j) (hj : j < ad 18 2) (hL : ad 18 2 ≤ 260) (hd : decode cc pc = .ok (.iaload, 1)) (k : Rj cc own nL ret rm mc ms cA ad Q ex cells slots (pc + 1) lv (.int (Int32.ofNat (ad 19 j)) :: st) M) : Rj cc own nL ret rm mc ms cA ad Q ex cells slots pc lv (.int x :: .ref (ad 18 3) :: st) M := by
  intro p l e s m args below meth c G tx A Qc free d0 X E hd0 H locs ls hP hD hS hl
  have hJ0 : JZ ad A (s.setDrawn d0) (s.setDrawn d0).heap := JZ.vm (u := s) rfl X.2.2.2.2.2.2.2.2.2.2
  subst hx
  exact va_ti (s := s.setDrawn d0) X.1 X.2.1 hJ0.2.2.2.2.2.2.2.2.1 hS (vp_in_nI hj (by omega)) (by rw [nI_clamp (by omega)]) hd (k p l e s m args below meth c G tx A Qc free d0 X E hd0 H locs ls hP hD hS hl)
theorem r_zret  {ty : FieldType} {v : Int32} (hr : ret = some ty) (hn : narrow ty (.int v) = .int v) (hd : decode cc pc = .ok (.ireturn, 1)) (hc : cells ≤ mc) (hs : slots ≤ ms) (hQ : Q (some (.int v)) ex M)  : Rj cc own nL ret rm mc ms cA ad Q ex cells slots pc lv [.int v] M := by
  intro p l e s m args below meth c G tx A Qc free d0 X E hd0 H locs ls hP hD hS hl
  refine W.endD hd0 (W.widen hc hs ?_)
  exact W.zret X.1 X.2.1 (X.2.2.2.2.2.1.trans hr) hn (fun t ht hW => E _ _ _ t d0 hQ hd0 hW (by rw [ht]; exact hP) hD ⟨by rw [ht]; exact hS.1, by rw [ht]; exact hS.2.1⟩) (fun q hq => X.2.2.2.2.2.2.2.2.2.1 _ (hS.2.2 q hq)) hd X.2.2.2.2.2.2.1
theorem r_dret  {v : UInt64} (hr : ret = some .double) (hd : decode cc pc = .ok (.dreturn, 1)) (hc : cells ≤ mc) (hs : slots ≤ ms) (hQ : Q (some (.double v)) ex M)  : Rj cc own nL ret rm mc ms cA ad Q ex cells slots pc lv [.double v] M := by
  intro p l e s m args below meth c G tx A Qc free d0 X E hd0 H locs ls hP hD hS hl
  refine W.endD hd0 (W.widen hc hs ?_)
  exact W.dret X.1 X.2.1 (X.2.2.2.2.2.1.trans hr) (fun t ht hW => E _ _ _ t d0 hQ hd0 hW (by rw [ht]; exact hP) hD ⟨by rw [ht]; exact hS.1, by rw [ht]; exact hS.2.1⟩) (fun q hq => X.2.2.2.2.2.2.2.2.2.1 _ (hS.2.2 q hq)) hd X.2.2.2.2.2.2.1
theorem r_fret  {v : UInt32} (hr : ret = some .float) (hd : decode cc pc = .ok (.freturn, 1)) (hc : cells ≤ mc) (hs : slots ≤ ms) (hQ : Q (some (.float v)) ex M)  : Rj cc own nL ret rm mc ms cA ad Q ex cells slots pc lv [.float v] M := by
  intro p l e s m args below meth c G tx A Qc free d0 X E hd0 H locs ls hP hD hS hl
  refine W.endD hd0 (W.widen hc hs ?_)
  exact W.fret X.1 X.2.1 (X.2.2.2.2.2.1.trans hr) (fun t ht hW => E _ _ _ t d0 hQ hd0 hW (by rw [ht]; exact hP) hD ⟨by rw [ht]; exact hS.1, by rw [ht]; exact hS.2.1⟩) (fun q hq => X.2.2.2.2.2.2.2.2.2.1 _ (hS.2.2 q hq)) hd X.2.2.2.2.2.2.1
theorem r_lret  {v : Int64} (hr : ret = some .long) (hd : decode cc pc = .ok (.lreturn, 1)) (hc : cells ≤ mc) (hs : slots ≤ ms) (hQ : Q (some (.long v)) ex M)  : Rj cc own nL ret rm mc ms cA ad Q ex cells slots pc lv [.long v] M := by
  intro p l e s m args below meth c G tx A Qc free d0 X E hd0 H locs ls hP hD hS hl
  refine W.endD hd0 (W.widen hc hs ?_)
  exact W.lret X.1 X.2.1 (X.2.2.2.2.2.1.trans hr) (fun t ht hW => E _ _ _ t d0 hQ hd0 hW (by rw [ht]; exact hP) hD ⟨by rw [ht]; exact hS.1, by rw [ht]; exact hS.2.1⟩) (fun q hq => X.2.2.2.2.2.2.2.2.2.1 _ (hS.2.2 q hq)) hd X.2.2.2.2.2.2.1
theorem r_vret  (hr : ret = none) (hd : decode cc pc = .ok (.return_, 1)) (hc : cells ≤ mc) (hs : slots ≤ ms) (hQ : Q none ex M)  : Rj cc own nL ret rm mc ms cA ad Q ex cells slots pc lv [] M := by
  intro p l e s m args below meth c G tx A Qc free d0 X E hd0 H locs ls hP hD hS hl
  refine W.endD hd0 (W.widen hc hs ?_)
  exact W.vret X.1 X.2.1 (X.2.2.2.2.2.1.trans hr) (fun t ht hW => E _ _ _ t d0 hQ hd0 hW (by rw [ht]; exact hP) hD ⟨by rw [ht]; exact hS.1, by rw [ht]; exact hS.2.1⟩) (fun q hq => X.2.2.2.2.2.2.2.2.2.1 _ (hS.2.2 q hq)) hd X.2.2.2.2.2.2.1
def gS (own : String) (idx : Nat) (y : MethodName) (cc : ByteArray) (nL : Nat) (ret : Option FieldType) : Prop := Cond.methodLink own idx y ∈ wsL_law ∧ Cond.static y ∈ wsL_law ∧ Cond.initialized y.cls ∈ wsL_law ∧ Cond.code y cc nL ret ∈ wsL_law
theorem gS_good {own : String} {idx : Nat} {y : MethodName} {cc : ByteArray} {nL : Nat} {ret : Option FieldType} (h : gS own idx y cc nL ret) : GoodIn wsL_law (.code y cc nL ret :: wsL_law) := by
  intro w hw
  rcases List.mem_cons.mp hw with rfl | h2
  · exact lw_good _ h.2.2.2
  · exact lw_good _ h2
/-- a is an object of class C of the world -/
def isObj (cA : Nat → ClassId) (ad : tA) (M : tM) (b : Nat) (C : String) : Prop := ∃ (r j ci : Nat) (fs : List Value) (q : vw_C), (r < 16 ∧ j < t_size r) ∧ b = ad r j ∧ t_cell cA ad (r, j) (M r j) = .inr (ci, fs) ∧ vwCl[ci]? = some q ∧ q.1 = C
/-- b may receive a call of class C's -/
def isRc (cA : Nat → ClassId) (ad : tA) (ex : va_W) (M : tM) (b : Nat) (C : String) : Prop := ∀ (s : State) (H : Heap) (locs : List Loc) (G : va_G) (tx : List (ClassId × FieldType)) (A : Nat → Prop), va_K G vwCl (tysT cA ++ tx) s → va_P G vwCl (wsT cA ad ex M) H → va_S A s.heap H locs → JZ ad A s s.heap → ∃ cell : Cell, H[b]? = some cell ∧ cell.vm.isStatics = false ∧ s.vm.findClass C = some cell.cls
theorem rc_ob {cA : Nat → ClassId} {ad : tA} {ex : va_W} {M : tM} {b : Nat} {C : String} (h : isObj cA ad M b C) : isRc cA ad ex M b C := by
  intro s H locs G tx A hK hP hS hJ
  obtain ⟨r, j, ci, fs, qc, hj, rfl, hcell, hc, rfl⟩ := h
  obtain ⟨q0, hq, -⟩ := wsT_at (cA := cA) (ad := ad) (ex := ex) (M := M) hj
  rw [hcell] at hq
  exact va_recv hK hP hc hq
theorem rc_lit {cA : Nat → ClassId} {ad : tA} {ex : va_W} {M : tM} {i : Nat} (h : i < 15) : isRc cA ad ex M (ad 16 i) "java/lang/String" := by
  intro s H locs G tx A hK hP hS hJ
  exact vk_recv hJ.1 h hS
theorem r_callV {idx n nL2 mc2 ms2 : Nat} {y : MethodName} {cc2 : ByteArray} {ret2 : Option FieldType} {rm2 : Room} {Q2 : Option Value → va_W → tM → Prop} {C : String} {b : Nat} {As rest : List Value} (hd : decode cc pc = .ok (.invokevirtual idx, 3)) (hC : Cj y cc2 nL2 ret2 rm2 mc2 ms2 cA ad (.ref b :: As) ex M Q2) (hG : GoodIn wsL_law (wsV own idx C y (.code y cc2 nL2 ret2 :: wsL_law))) (hdc : y.cls = C ∧ y.cls ≠ "java/lang/invoke/MethodHandle" ∧ y.cls ≠ "java/lang/invoke/VarHandle" ∧ (parseMethodDescriptor y.desc).map (fun d => d.parameters.length) = some n) (hst : st = As.reverse ++ .ref b :: rest) (hn : As.length = n) (hrc : rm2.cells = mc2) (hrs : rm2.slots = ms2) (hR : rm2.frames + 1 ≤ rm.frames ∧ 8 + (nL2 + 11) + rm2.locals ≤ rm.locals) (hcat : (rest.map fun v => v.category).sum ≤ 8) (hf : cells + mc2 ≤ rm.cells ∧ slots + ms2 ≤ rm.slots) (hob : isRc cA ad ex M b C) (k : ∀ v ex' M', Q2 v ex' M' → Rj cc own nL ret rm mc ms cA ad Q ex' (cells + mc2) (slots + ms2) (pc + 3) lv (v.toList ++ rest) M') : Rj cc own nL ret rm mc ms cA ad Q ex cells slots pc lv st M := by
  intro p l e s m args below meth c G tx A Qc free d0 X E hd0 H locs ls hP hD hS hl
  obtain ⟨hx, hb, hml, hown, hts, hret, hlk, hK, hA, hfree, hJ⟩ := id X
  have hJ0 : JZ ad A (s.setDrawn d0) (s.setDrawn d0).heap := JZ.vm (u := s) rfl hJ
  have hts1 := dr_words hts d0
  have hM := hC l G tx A
  have hsz : s.heap.size ≤ H.size := hS.1
  have hrv := hob (s.setDrawn d0) H locs G tx A hK hP hS hJ0
  have hrun := va_runV_D (e := e) (below := below) (meth := meth) (locs := locs) (s := s.setDrawn d0) (As := As) (rest := rest) ⟨hx, hb, hml, hown, hts1⟩ hM (cwV n hts1 hG rfl hrc hrs hdc hR) ⟨fun a U g mk q => ⟨q.1, q.2.1, va_K.moved (u := U) (U := U.calling g mk a) (Vm.Alike.refl U.vm) q.2.2.1, q.2.2.2.1, q.2.2.2.2.1, JZ.vm (u := U) rfl q.2.2.2.2.2⟩, hrv, fun U hU hW => ⟨rfl, by rw [hU]; exact hP, va_K.moved hW.alike hK, hD, by rw [hU]; exact fun q hq => hA q (Nat.le_trans hsz hq), by rw [hU]; exact JZ.go (s := s.setDrawn d0) hS hW hJ0⟩⟩ rfl hn hl.1 hst (lv_room hcat) hd hf
  intro T hT XX
  obtain ⟨v, st₀, t, T', L, d', hd', h0, X', hL, e1, e2, ⟨⟨v', ex', M', hv, hQ, hP1, hD1⟩, hz, hk⟩, stp⟩ := hrun T hT XX
  cases hv
  rw [h0] at hz hk
  have hS2 : va_S A s.heap T'.heap (locs ++ L) := ⟨Nat.le_trans hS.1 (by rw [e1]; exact hz), fun q h1 h2 => by rw [e1, hk q (Nat.lt_of_lt_of_le h1 hS.1) h2]; exact hS.2.1 q h1 h2, fun q hq => by
    rcases List.mem_append.mp hq with h | h
    · exact hS.2.2 q h
    · exact hL q h⟩
  obtain ⟨t2, a1, b1⟩ := k v ex' M' hQ p l e s m args below meth c G tx A Qc free d' X E (hd0.trans hd') T'.heap (locs ++ L) ls (by rw [e1]; exact hP1) hD1 hS2 hl T' rfl X'
  exact ⟨t2, stp t2 a1, b1⟩
theorem r_callS {idx n nL2 mc2 ms2 : Nat} {y : MethodName} {cc2 : ByteArray} {ret2 : Option FieldType} {rm2 : Room} {Q2 : Option Value → va_W → tM → Prop} {As rest : List Value} (hd : decode cc pc = .ok (.invokestatic idx, 3)) (hC : Cj y cc2 nL2 ret2 rm2 mc2 ms2 cA ad As ex M Q2) {C0 : String} (hG : gS own idx y cc2 nL2 ret2) (hdc : y.cls = C0 ∧ y.cls ≠ "java/lang/invoke/MethodHandle" ∧ y.cls ≠ "java/lang/invoke/VarHandle" ∧ (parseMethodDescriptor y.desc).map (fun d => d.parameters.length) = some n) (hst : st = As.reverse ++ rest) (hn : As.length = n) (hrc : rm2.cells = mc2) (hrs : rm2.slots = ms2) (hR : rm2.frames + 1 ≤ rm.frames ∧ 8 + (nL2 + 11) + rm2.locals ≤ rm.locals) (hcat : (rest.map fun v => v.category).sum ≤ 8) (hf : cells + mc2 ≤ rm.cells ∧ slots + ms2 ≤ rm.slots) (k : ∀ v ex' M', Q2 v ex' M' → Rj cc own nL ret rm mc ms cA ad Q ex' (cells + mc2) (slots + ms2) (pc + 3) lv (v.toList ++ rest) M') : Rj cc own nL ret rm mc ms cA ad Q ex cells slots pc lv st M := by
  intro p l e s m args below meth c G tx A Qc free d0 X E hd0 H locs ls hP hD hS hl
  obtain ⟨hx, hb, hml, hown, hts, hret, hlk, hK, hA, hfree, hJ⟩ := id X
  have hJ0 : JZ ad A (s.setDrawn d0) (s.setDrawn d0).heap := JZ.vm (u := s) rfl hJ
  have hts1 := dr_words hts d0
  have hM := hC l G tx A
  have hsz : s.heap.size ≤ H.size := hS.1
  have hrun := va_runS_D (e := e) (below := below) (meth := meth) (locs := locs) (s := s.setDrawn d0) (As := As) (rest := rest) ⟨hx, hb, hml, hown, hts1⟩ hM ⟨callB_of (ws' := wsL_law) n hts1 (gS_good hG) rfl hrc hrs (hts1 _ hG.2.2.1) (hts1 _ hG.1) hdc.2 hR, hts1 _ hG.2.1⟩ ⟨fun a U g mk q => ⟨q.1, q.2.1, va_K.moved (u := U) (U := U.calling g mk a) (Vm.Alike.refl U.vm) q.2.2.1, q.2.2.2.1, q.2.2.2.2.1, JZ.vm (u := U) rfl q.2.2.2.2.2⟩, fun U hU hW => ⟨rfl, by rw [hU]; exact hP, va_K.moved hW.alike hK, hD, by rw [hU]; exact fun q hq => hA q (Nat.le_trans hsz hq), by rw [hU]; exact JZ.go (s := s.setDrawn d0) hS hW hJ0⟩⟩ rfl hn hl.1 hst (lv_room hcat) hd hf
  intro T hT XX
  obtain ⟨v, st₀, t, T', L, d', hd', h0, X', hL, e1, e2, ⟨⟨v', ex', M', hv, hQ, hP1, hD1⟩, hz, hk⟩, stp⟩ := hrun T hT XX
  cases hv
  rw [h0] at hz hk
  have hS2 : va_S A s.heap T'.heap (locs ++ L) := ⟨Nat.le_trans hS.1 (by rw [e1]; exact hz), fun q h1 h2 => by rw [e1, hk q (Nat.lt_of_lt_of_le h1 hS.1) h2]; exact hS.2.1 q h1 h2, fun q hq => by
    rcases List.mem_append.mp hq with h | h
    · exact hS.2.2 q h
    · exact hL q h⟩
  obtain ⟨t2, a1, b1⟩ := k v ex' M' hQ p l e s m args below meth c G tx A Qc free d' X E (hd0.trans hd') T'.heap (locs ++ L) ls (by rw [e1]; exact hP1) hD1 hS2 hl T' rfl X'
  exact ⟨t2, stp t2 a1, b1⟩
end
theorem g_V {own C : String} {idx nL : Nat} {y : MethodName} {cc : ByteArray} {ret : Option FieldType} (h1 : Cond.methodLink own idx y ∈ wsL_law) (h2 : Cond.instanceMethod y ∈ wsL_law) (h3 : Cond.selects C y y ∈ wsL_law) (h4 : Cond.initialized C ∈ wsL_law) (h5 : Cond.code y cc nL ret ∈ wsL_law) : GoodIn wsL_law (wsV own idx C y (.code y cc nL ret :: wsL_law)) := by
  intro w hw
  simp only [wsV, List.mem_append, List.mem_cons, List.not_mem_nil, or_false] at hw
  rcases hw with (rfl | rfl | rfl | rfl) | rfl | h
  · exact lw_good _ h1
  · exact lw_good _ h2
  · exact lw_good _ h3
  · exact lw_good _ h4
  · exact lw_good _ h5
  · exact lw_good _ h
end
section
/-! PART 04: the rows of part 03 at the object's own kinds of cells -/
def isPlan (r : Nat) : Prop := 1 ≤ r ∧ r ≤ 12
def rmd (d : Nat) : Room := { frames := d, cells := 0, slots := 0, locals := 60 * d }
theorem pl_ok {r j : Nat} (hr : isPlan r) (hj : j < 16) : r < 16 ∧ j < t_size r := by
  unfold isPlan at hr
  refine ⟨by omega, ?_⟩
  unfold t_size
  rw [if_neg (by omega), if_neg (by omega), if_neg (by omega), if_neg (by omega)]
  exact hj
section
variable {cA : Nat → ClassId} {ad : tA} {r : Nat} {w : Nat → Int32}
theorem tc_pl (hr : isPlan r) : t_cell cA ad (r, 0) w = .inr (6, l_pl ad r w) := by
  unfold isPlan at hr
  simp only [t_cell]
  rw [if_neg (by omega), if_neg (by omega), if_neg (by omega), if_neg (by omega), if_pos trivial]
theorem tc_steps (hr : isPlan r) : t_cell cA ad (r, 1) w = .inl (cA 2, 12, t_rf (fun i => ad r (4 + i))) := by
  unfold isPlan at hr
  simp only [t_cell]
  rw [if_neg (by omega), if_neg (by omega), if_neg (by omega), if_neg (by omega), if_neg (by omega), if_pos trivial]
theorem tc_mi (hr : isPlan r) : t_cell cA ad (r, 2) w = .inl (cA 0, 4, .inl w) := by
  unfold isPlan at hr
  simp only [t_cell]
  rw [if_neg (by omega), if_neg (by omega), if_neg (by omega), if_neg (by omega), if_neg (by omega), if_neg (by omega), if_pos trivial]
theorem tc_ev (hr : isPlan r) : t_cell cA ad (r, 3) w = .inl (cA 0, 48, .inl w) := by
  unfold isPlan at hr
  simp only [t_cell]
  rw [if_neg (by omega), if_neg (by omega), if_neg (by omega), if_neg (by omega), if_neg (by omega), if_neg (by omega), if_neg (by omega), if_pos trivial]
theorem tc_st (hr : isPlan r) {i : Nat} : t_cell cA ad (r, 4 + i) w = .inr (7, l_st w) := by
  unfold isPlan at hr
  simp only [t_cell]
  rw [if_neg (by omega), if_neg (by omega), if_neg (by omega), if_neg (by omega), if_neg (by omega), if_neg (by omega), if_neg (by omega), if_neg (by omega)]
theorem tc_or {i : Nat} : t_cell cA ad (13, 3 + i) w = .inr (4, l_or w) := by
  simp only [t_cell]
  rw [if_neg (by omega), if_pos trivial, if_neg (by omega), if_neg (by omega), if_neg (by omega)]
theorem tc_tf : t_cell cA ad (0, 0) w = .inr (8, l_tf ad w) := rfl
theorem tc_marks : t_cell cA ad (0, 1) w = .inl (cA 4, 9, t_rf (fun i => ad (4 + i) 0)) := rfl
theorem tc_ot : t_cell cA ad (13, 0) w = .inr (5, l_ot ad w) := rfl
theorem tc_os : t_cell cA ad (13, 1) w = .inl (cA 1, 60, .inl w) := rfl
theorem tc_oo : t_cell cA ad (13, 2) w = .inl (cA 3, 12, t_rf (fun i => ad 13 (3 + i))) := rfl
theorem tc_ln : t_cell cA ad (14, 0) w = .inr (3, l_ln ad w) := rfl
theorem tc_ls : t_cell cA ad (14, 1) w = .inl (cA 1, 64, .inl w) := rfl
theorem tc_ch : t_cell cA ad (15, 0) w = .inr (2, l_ch ad) := rfl
theorem tc_cn : t_cell cA ad (15, 1) w = .inl (cA 0, 12, .inl w) := rfl
theorem tc_cr : t_cell cA ad (15, 2) w = .inl (cA 0, 12, .inl w) := rfl
end
theorem or_ok {i : Nat} (hi : i < 12) : 13 < 16 ∧ 3 + i < t_size 13 := ⟨by omega, by show 3 + i < 15; omega⟩
theorem sm_ok {r j : Nat} (h : (Nat.blt r 16 && Nat.blt j (t_size r)) = true) : r < 16 ∧ j < t_size r := by
  simp only [Bool.and_eq_true, Nat.blt_eq] at h
  exact h
section
variable {cc : ByteArray} {own : String} {nL : Nat} {ret : Option FieldType} {rm : Room} {mc ms : Nat} {cA : Nat → ClassId} {ad : tA} {Q : Option Value → va_W → tM → Prop} {ex : va_W} {cells slots pc : Nat} {lv : List (Option Value)} {st : List Value} {M : tM}
theorem ob_pl {r : Nat} (hr : isPlan r) : isRc cA ad ex M (ad r 0) RX4 := rc_ob ⟨r, 0, 6, _, _, pl_ok hr (by omega), rfl, tc_pl hr, rfl, rfl⟩
theorem ob_st {r i : Nat} (hr : isPlan r) (hi : i < 12) : isRc cA ad ex M (ad r (4 + i)) RX5 := rc_ob ⟨r, 4 + i, 7, _, _, pl_ok hr (by omega), rfl, tc_st hr, rfl, rfl⟩
theorem ob_or {i : Nat} (hi : i < 12) : isRc cA ad ex M (ad 13 (3 + i)) RX2 := rc_ob ⟨13, 3 + i, 4, _, _, or_ok hi, rfl, tc_or, rfl, rfl⟩
theorem ob_tf : isRc cA ad ex M (ad 0 0) RX6 := rc_ob ⟨0, 0, 8, _, _, sm_ok rfl, rfl, tc_tf, rfl, rfl⟩
theorem ob_ot : isRc cA ad ex M (ad 13 0) RX3 := rc_ob ⟨13, 0, 5, _, _, sm_ok rfl, rfl, tc_ot, rfl, rfl⟩
theorem ob_ln : isRc cA ad ex M (ad 14 0) RX1 := rc_ob ⟨14, 0, 3, _, _, sm_ok rfl, rfl, tc_ln, rfl, rfl⟩
theorem ob_ch : isRc cA ad ex M (ad 15 0) RX0 := rc_ob ⟨15, 0, 2, _, _, sm_ok rfl, rfl, tc_ch, rfl, rfl⟩
theorem r_get_pl {idx : Nat} {r : Nat} (hr : isPlan r) {v : Value} (kf : Nat) (hk : kf < 14) (hw : Cond.fieldLink own idx (TX4 kf).1 (TX4 kf).2.1 (TX4 kf).2.2.1 ∈ wsL_law) (hv : (l_pl ad r (M r 0))[kf]? = some v) (hd : decode cc pc = .ok (.getfield idx, 3)) (k : Rj cc own nL ret rm mc ms cA ad Q ex cells slots (pc + 3) lv (v :: st) M) : Rj cc own nL ret rm mc ms cA ad Q ex cells slots pc lv (.ref (ad r 0) :: st) M := r_getg (pl_ok hr (by omega)) (tc_pl hr) rfl inlX4 kf hk hw hv hd k
theorem r_put_pl {idx : Nat} {r : Nat} (hr : isPlan r) {x : Int32} {ty : FieldType} (kf : Nat) (hk : kf < 14) (hw : Cond.fieldLink own idx (TX4 kf).1 (TX4 kf).2.1 (TX4 kf).2.2.1 ∈ wsL_law) (hfin : (TX4 kf).2.2.2 = false) (het : tyX4 kf = ty) (hn : narrow ty (.int x) = .int x) (hfit : fits ty (.int x) = true) (hset : l_pl ad r (upd (M r 0) kf x) = (l_pl ad r (M r 0)).set kf (.int x)) (hd : decode cc pc = .ok (.putfield idx, 3)) (k : Rj cc own nL ret rm mc ms cA ad Q ex cells slots (pc + 3) lv st (m_set M r 0 (upd (M r 0) kf x))) : Rj cc own nL ret rm mc ms cA ad Q ex cells slots pc lv (.int x :: .ref (ad r 0) :: st) M := r_putg (upd (M r 0) kf x) (pl_ok hr (by omega)) (tc_pl hr) rfl inlX4 tyX4 tyX4_ok nmX4 kf hk hk hw hfin het hn hfit (by rw [tc_pl hr, hset]) hd k
theorem r_get_st {idx : Nat} {r i : Nat} (hr : isPlan r) (hi : i < 12) {v : Value} (kf : Nat) (hk : kf < 11) (hw : Cond.fieldLink own idx (TX5 kf).1 (TX5 kf).2.1 (TX5 kf).2.2.1 ∈ wsL_law) (hv : (l_st (M r (4 + i)))[kf]? = some v) (hd : decode cc pc = .ok (.getfield idx, 3)) (k : Rj cc own nL ret rm mc ms cA ad Q ex cells slots (pc + 3) lv (v :: st) M) : Rj cc own nL ret rm mc ms cA ad Q ex cells slots pc lv (.ref (ad r (4 + i)) :: st) M := r_getg (pl_ok hr (by omega)) (tc_st hr) rfl inlX5 kf hk hw hv hd k
theorem r_put_st {idx : Nat} {r i : Nat} (hr : isPlan r) (hi : i < 12) {x : Int32} {ty : FieldType} (kf : Nat) (hk : kf < 11) (hw : Cond.fieldLink own idx (TX5 kf).1 (TX5 kf).2.1 (TX5 kf).2.2.1 ∈ wsL_law) (hfin : (TX5 kf).2.2.2 = false) (het : tyX5 kf = ty) (hn : narrow ty (.int x) = .int x) (hfit : fits ty (.int x) = true) (hset : l_st (upd (M r (4 + i)) kf x) = (l_st (M r (4 + i))).set kf (.int x)) (hd : decode cc pc = .ok (.putfield idx, 3)) (k : Rj cc own nL ret rm mc ms cA ad Q ex cells slots (pc + 3) lv st (m_set M r (4 + i) (upd (M r (4 + i)) kf x))) : Rj cc own nL ret rm mc ms cA ad Q ex cells slots pc lv (.int x :: .ref (ad r (4 + i)) :: st) M := r_putg (upd (M r (4 + i)) kf x) (pl_ok hr (by omega)) (tc_st hr) rfl inlX5 tyX5 tyX5_ok nmX5 kf hk hk hw hfin het hn hfit (by rw [tc_st hr, hset]) hd k
theorem r_get_or {idx : Nat} {i : Nat} (hi : i < 12) {v : Value} (kf : Nat) (hk : kf < 5) (hw : Cond.fieldLink own idx (TX2 kf).1 (TX2 kf).2.1 (TX2 kf).2.2.1 ∈ wsL_law) (hv : (l_or (M 13 (3 + i)))[kf]? = some v) (hd : decode cc pc = .ok (.getfield idx, 3)) (k : Rj cc own nL ret rm mc ms cA ad Q ex cells slots (pc + 3) lv (v :: st) M) : Rj cc own nL ret rm mc ms cA ad Q ex cells slots pc lv (.ref (ad 13 (3 + i)) :: st) M := r_getg (or_ok hi) tc_or rfl inlX2 kf hk hw hv hd k
theorem r_put_or {idx : Nat} {i : Nat} (hi : i < 12) {x : Int32} {ty : FieldType} (kf : Nat) (hk : kf < 5) (hw : Cond.fieldLink own idx (TX2 kf).1 (TX2 kf).2.1 (TX2 kf).2.2.1 ∈ wsL_law) (hfin : (TX2 kf).2.2.2 = false) (het : tyX2 kf = ty) (hn : narrow ty (.int x) = .int x) (hfit : fits ty (.int x) = true) (hset : l_or (upd (M 13 (3 + i)) kf x) = (l_or (M 13 (3 + i))).set kf (.int x)) (hd : decode cc pc = .ok (.putfield idx, 3)) (k : Rj cc own nL ret rm mc ms cA ad Q ex cells slots (pc + 3) lv st (m_set M 13 (3 + i) (upd (M 13 (3 + i)) kf x))) : Rj cc own nL ret rm mc ms cA ad Q ex cells slots pc lv (.int x :: .ref (ad 13 (3 + i)) :: st) M := r_putg (upd (M 13 (3 + i)) kf x) (or_ok hi) tc_or rfl inlX2 tyX2 tyX2_ok nmX2 kf hk hk hw hfin het hn hfit (by rw [tc_or, hset]) hd k
theorem r_get_tf {idx : Nat}  {v : Value} (kf : Nat) (hk : kf < 13) (hw : Cond.fieldLink own idx (TX6 kf).1 (TX6 kf).2.1 (TX6 kf).2.2.1 ∈ wsL_law) (hv : (l_tf ad (M 0 0))[kf]? = some v) (hd : decode cc pc = .ok (.getfield idx, 3)) (k : Rj cc own nL ret rm mc ms cA ad Q ex cells slots (pc + 3) lv (v :: st) M) : Rj cc own nL ret rm mc ms cA ad Q ex cells slots pc lv (.ref (ad 0 0) :: st) M := r_getg (sm_ok rfl) tc_tf rfl inlX6 kf hk hw hv hd k
theorem r_put_tf {idx : Nat}  {x : Int32} {ty : FieldType} (kf : Nat) (hk : kf < 13) (hw : Cond.fieldLink own idx (TX6 kf).1 (TX6 kf).2.1 (TX6 kf).2.2.1 ∈ wsL_law) (hfin : (TX6 kf).2.2.2 = false) (het : tyX6 kf = ty) (hn : narrow ty (.int x) = .int x) (hfit : fits ty (.int x) = true) (hset : l_tf ad (upd (M 0 0) kf x) = (l_tf ad (M 0 0)).set kf (.int x)) (hd : decode cc pc = .ok (.putfield idx, 3)) (k : Rj cc own nL ret rm mc ms cA ad Q ex cells slots (pc + 3) lv st (m_set M 0 0 (upd (M 0 0) kf x))) : Rj cc own nL ret rm mc ms cA ad Q ex cells slots pc lv (.int x :: .ref (ad 0 0) :: st) M := r_putg (upd (M 0 0) kf x) (sm_ok rfl) tc_tf rfl inlX6 tyX6 tyX6_ok nmX6 kf hk hk hw hfin het hn hfit (by rw [tc_tf, hset]) hd k
theorem r_get_ot {idx : Nat}  {v : Value} (kf : Nat) (hk : kf < 5) (hw : Cond.fieldLink own idx (TX3 kf).1 (TX3 kf).2.1 (TX3 kf).2.2.1 ∈ wsL_law) (hv : (l_ot ad (M 13 0))[kf]? = some v) (hd : decode cc pc = .ok (.getfield idx, 3)) (k : Rj cc own nL ret rm mc ms cA ad Q ex cells slots (pc + 3) lv (v :: st) M) : Rj cc own nL ret rm mc ms cA ad Q ex cells slots pc lv (.ref (ad 13 0) :: st) M := r_getg (sm_ok rfl) tc_ot rfl inlX3 kf hk hw hv hd k
theorem r_put_ot {idx : Nat}  {x : Int32} {ty : FieldType} (kf : Nat) (hk : kf < 5) (hw : Cond.fieldLink own idx (TX3 kf).1 (TX3 kf).2.1 (TX3 kf).2.2.1 ∈ wsL_law) (hfin : (TX3 kf).2.2.2 = false) (het : tyX3 kf = ty) (hn : narrow ty (.int x) = .int x) (hfit : fits ty (.int x) = true) (hset : l_ot ad (upd (M 13 0) kf x) = (l_ot ad (M 13 0)).set kf (.int x)) (hd : decode cc pc = .ok (.putfield idx, 3)) (k : Rj cc own nL ret rm mc ms cA ad Q ex cells slots (pc + 3) lv st (m_set M 13 0 (upd (M 13 0) kf x))) : Rj cc own nL ret rm mc ms cA ad Q ex cells slots pc lv (.int x :: .ref (ad 13 0) :: st) M := r_putg (upd (M 13 0) kf x) (sm_ok rfl) tc_ot rfl inlX3 tyX3 tyX3_ok nmX3 kf hk hk hw hfin het hn hfit (by rw [tc_ot, hset]) hd k
theorem r_get_ln {idx : Nat}  {v : Value} (kf : Nat) (hk : kf < 2) (hw : Cond.fieldLink own idx (TX1 kf).1 (TX1 kf).2.1 (TX1 kf).2.2.1 ∈ wsL_law) (hv : (l_ln ad (M 14 0))[kf]? = some v) (hd : decode cc pc = .ok (.getfield idx, 3)) (k : Rj cc own nL ret rm mc ms cA ad Q ex cells slots (pc + 3) lv (v :: st) M) : Rj cc own nL ret rm mc ms cA ad Q ex cells slots pc lv (.ref (ad 14 0) :: st) M := r_getg (sm_ok rfl) tc_ln rfl inlX1 kf hk hw hv hd k
theorem r_put_ln {idx : Nat}  {x : Int32} {ty : FieldType} (kf : Nat) (hk : kf < 2) (hw : Cond.fieldLink own idx (TX1 kf).1 (TX1 kf).2.1 (TX1 kf).2.2.1 ∈ wsL_law) (hfin : (TX1 kf).2.2.2 = false) (het : tyX1 kf = ty) (hn : narrow ty (.int x) = .int x) (hfit : fits ty (.int x) = true) (hset : l_ln ad (upd (M 14 0) kf x) = (l_ln ad (M 14 0)).set kf (.int x)) (hd : decode cc pc = .ok (.putfield idx, 3)) (k : Rj cc own nL ret rm mc ms cA ad Q ex cells slots (pc + 3) lv st (m_set M 14 0 (upd (M 14 0) kf x))) : Rj cc own nL ret rm mc ms cA ad Q ex cells slots pc lv (.int x :: .ref (ad 14 0) :: st) M := r_putg (upd (M 14 0) kf x) (sm_ok rfl) tc_ln rfl inlX1 tyX1 tyX1_ok nmX1 kf hk hk hw hfin het hn hfit (by rw [tc_ln, hset]) hd k
theorem r_get_ch {idx : Nat} {v : Value} (kf : Nat) (hk : kf < 2) (hw : Cond.fieldLink own idx (TX0 kf).1 (TX0 kf).2.1 (TX0 kf).2.2.1 ∈ wsL_law) (hv : (l_ch ad)[kf]? = some v) (hd : decode cc pc = .ok (.getfield idx, 3)) (k : Rj cc own nL ret rm mc ms cA ad Q ex cells slots (pc + 3) lv (v :: st) M) : Rj cc own nL ret rm mc ms cA ad Q ex cells slots pc lv (.ref (ad 15 0) :: st) M := r_getg (sm_ok rfl) tc_ch rfl inlX0 kf hk hw hv hd k
theorem r_ald_steps {i : Nat} {x : Int32} {r : Nat} (hr : isPlan r) (hx : x = nI i) (hi : i < 12) (hd : decode cc pc = .ok (.aaload, 1)) (k : Rj cc own nL ret rm mc ms cA ad Q ex cells slots (pc + 1) lv (.ref (ad r (4 + i)) :: st) M) : Rj cc own nL ret rm mc ms cA ad Q ex cells slots pc lv (.int x :: .ref (ad r 1) :: st) M := by
  subst hx
  refine r_aldg (t0 := 2) (pl_ok hr (by omega)) (tc_steps hr) (fun _ => rfl) (vp_in_nI hi (by omega)) hd ?_
  rw [nI_clamp (by omega)]
  exact k
theorem r_ald_orders {i : Nat} {x : Int32}  (hx : x = nI i) (hi : i < 12) (hd : decode cc pc = .ok (.aaload, 1)) (k : Rj cc own nL ret rm mc ms cA ad Q ex cells slots (pc + 1) lv (.ref (ad 13 (3 + i)) :: st) M) : Rj cc own nL ret rm mc ms cA ad Q ex cells slots pc lv (.int x :: .ref (ad 13 2) :: st) M := by
  subst hx
  refine r_aldg (t0 := 3) (sm_ok rfl) tc_oo (fun _ => rfl) (vp_in_nI hi (by omega)) hd ?_
  rw [nI_clamp (by omega)]
  exact k
theorem r_ald_marks {i : Nat} {x : Int32}  (hx : x = nI i) (hi : i < 9) (hd : decode cc pc = .ok (.aaload, 1)) (k : Rj cc own nL ret rm mc ms cA ad Q ex cells slots (pc + 1) lv (.ref (ad (4 + i) 0) :: st) M) : Rj cc own nL ret rm mc ms cA ad Q ex cells slots pc lv (.int x :: .ref (ad 0 1) :: st) M := by
  subst hx
  refine r_aldg (t0 := 4) (sm_ok rfl) tc_marks (fun _ => rfl) (vp_in_nI hi (by omega)) hd ?_
  rw [nI_clamp (by omega)]
  exact k
theorem r_ld_mi {i : Nat} {x : Int32} {r : Nat} (hr : isPlan r) (hx : x = nI i) (hi : i < 4) (hd : decode cc pc = .ok (.iaload, 1)) (k : Rj cc own nL ret rm mc ms cA ad Q ex cells slots (pc + 1) lv (.int (M r 2 i) :: st) M) : Rj cc own nL ret rm mc ms cA ad Q ex cells slots pc lv (.int x :: .ref (ad r 2) :: st) M := by
  subst hx
  refine r_ialdg (pl_ok hr (by omega)) (tc_mi hr) (vp_in_nI hi (by omega)) hd ?_
  rw [nI_clamp (by omega)]
  exact k
theorem r_str_mi {i : Nat} {x y : Int32} {r : Nat} (hr : isPlan r) (hx : x = nI i) (hi : i < 4) (hd : decode cc pc = .ok (.iastore, 1)) (k : Rj cc own nL ret rm mc ms cA ad Q ex cells slots (pc + 1) lv st (m_set M r 2 (upd (M r 2) i y))) : Rj cc own nL ret rm mc ms cA ad Q ex cells slots pc lv (.int y :: .int x :: .ref (ad r 2) :: st) M := by
  subst hx
  refine r_iastg (upd (M r 2) i y) (pl_ok hr (by omega)) (tc_mi hr) (vp_in_nI hi (by omega)) ?_ hd k
  rw [nI_clamp (by omega)]
  exact (tc_mi hr)
theorem r_ld_ev {i : Nat} {x : Int32} {r : Nat} (hr : isPlan r) (hx : x = nI i) (hi : i < 48) (hd : decode cc pc = .ok (.iaload, 1)) (k : Rj cc own nL ret rm mc ms cA ad Q ex cells slots (pc + 1) lv (.int (M r 3 i) :: st) M) : Rj cc own nL ret rm mc ms cA ad Q ex cells slots pc lv (.int x :: .ref (ad r 3) :: st) M := by
  subst hx
  refine r_ialdg (pl_ok hr (by omega)) (tc_ev hr) (vp_in_nI hi (by omega)) hd ?_
  rw [nI_clamp (by omega)]
  exact k
theorem r_str_ev {i : Nat} {x y : Int32} {r : Nat} (hr : isPlan r) (hx : x = nI i) (hi : i < 48) (hd : decode cc pc = .ok (.iastore, 1)) (k : Rj cc own nL ret rm mc ms cA ad Q ex cells slots (pc + 1) lv st (m_set M r 3 (upd (M r 3) i y))) : Rj cc own nL ret rm mc ms cA ad Q ex cells slots pc lv (.int y :: .int x :: .ref (ad r 3) :: st) M := by
  subst hx
  refine r_iastg (upd (M r 3) i y) (pl_ok hr (by omega)) (tc_ev hr) (vp_in_nI hi (by omega)) ?_ hd k
  rw [nI_clamp (by omega)]
  exact (tc_ev hr)
theorem r_ld_cn {i : Nat} {x : Int32}  (hx : x = nI i) (hi : i < 12) (hd : decode cc pc = .ok (.iaload, 1)) (k : Rj cc own nL ret rm mc ms cA ad Q ex cells slots (pc + 1) lv (.int (M 15 1 i) :: st) M) : Rj cc own nL ret rm mc ms cA ad Q ex cells slots pc lv (.int x :: .ref (ad 15 1) :: st) M := by
  subst hx
  refine r_ialdg (sm_ok rfl) tc_cn (vp_in_nI hi (by omega)) hd ?_
  rw [nI_clamp (by omega)]
  exact k
theorem r_str_cn {i : Nat} {x y : Int32}  (hx : x = nI i) (hi : i < 12) (hd : decode cc pc = .ok (.iastore, 1)) (k : Rj cc own nL ret rm mc ms cA ad Q ex cells slots (pc + 1) lv st (m_set M 15 1 (upd (M 15 1) i y))) : Rj cc own nL ret rm mc ms cA ad Q ex cells slots pc lv (.int y :: .int x :: .ref (ad 15 1) :: st) M := by
  subst hx
  refine r_iastg (upd (M 15 1) i y) (sm_ok rfl) tc_cn (vp_in_nI hi (by omega)) ?_ hd k
  rw [nI_clamp (by omega)]
  exact tc_cn
theorem r_ld_cr {i : Nat} {x : Int32}  (hx : x = nI i) (hi : i < 12) (hd : decode cc pc = .ok (.iaload, 1)) (k : Rj cc own nL ret rm mc ms cA ad Q ex cells slots (pc + 1) lv (.int (M 15 2 i) :: st) M) : Rj cc own nL ret rm mc ms cA ad Q ex cells slots pc lv (.int x :: .ref (ad 15 2) :: st) M := by
  subst hx
  refine r_ialdg (sm_ok rfl) tc_cr (vp_in_nI hi (by omega)) hd ?_
  rw [nI_clamp (by omega)]
  exact k
theorem r_str_cr {i : Nat} {x y : Int32}  (hx : x = nI i) (hi : i < 12) (hd : decode cc pc = .ok (.iastore, 1)) (k : Rj cc own nL ret rm mc ms cA ad Q ex cells slots (pc + 1) lv st (m_set M 15 2 (upd (M 15 2) i y))) : Rj cc own nL ret rm mc ms cA ad Q ex cells slots pc lv (.int y :: .int x :: .ref (ad 15 2) :: st) M := by
  subst hx
  refine r_iastg (upd (M 15 2) i y) (sm_ok rfl) tc_cr (vp_in_nI hi (by omega)) ?_ hd k
  rw [nI_clamp (by omega)]
  exact tc_cr
theorem r_ld_os {i : Nat} {x : Int32}  (hx : x = nI i) (hi : i < 60) (hd : decode cc pc = .ok (.caload, 1)) (k : Rj cc own nL ret rm mc ms cA ad Q ex cells slots (pc + 1) lv (.int (M 13 1 i) :: st) M) : Rj cc own nL ret rm mc ms cA ad Q ex cells slots pc lv (.int x :: .ref (ad 13 1) :: st) M := by
  subst hx
  refine r_caldg (sm_ok rfl) tc_os (vp_in_nI hi (by omega)) hd ?_
  rw [nI_clamp (by omega)]
  exact k
theorem r_str_os {i : Nat} {x y : Int32}  (hx : x = nI i) (hi : i < 60) (hc : vp_nar .char y = y) (hd : decode cc pc = .ok (.castore, 1)) (k : Rj cc own nL ret rm mc ms cA ad Q ex cells slots (pc + 1) lv st (m_set M 13 1 (upd (M 13 1) i y))) : Rj cc own nL ret rm mc ms cA ad Q ex cells slots pc lv (.int y :: .int x :: .ref (ad 13 1) :: st) M := by
  subst hx
  refine r_castg (upd (M 13 1) i y) (sm_ok rfl) tc_os (vp_in_nI hi (by omega)) ?_ hd k
  rw [nI_clamp (by omega), hc]
  exact tc_os
theorem r_ld_ls {i : Nat} {x : Int32}  (hx : x = nI i) (hi : i < 64) (hd : decode cc pc = .ok (.caload, 1)) (k : Rj cc own nL ret rm mc ms cA ad Q ex cells slots (pc + 1) lv (.int (M 14 1 i) :: st) M) : Rj cc own nL ret rm mc ms cA ad Q ex cells slots pc lv (.int x :: .ref (ad 14 1) :: st) M := by
  subst hx
  refine r_caldg (sm_ok rfl) tc_ls (vp_in_nI hi (by omega)) hd ?_
  rw [nI_clamp (by omega)]
  exact k
theorem r_str_ls {i : Nat} {x y : Int32}  (hx : x = nI i) (hi : i < 64) (hc : vp_nar .char y = y) (hd : decode cc pc = .ok (.castore, 1)) (k : Rj cc own nL ret rm mc ms cA ad Q ex cells slots (pc + 1) lv st (m_set M 14 1 (upd (M 14 1) i y))) : Rj cc own nL ret rm mc ms cA ad Q ex cells slots pc lv (.int y :: .int x :: .ref (ad 14 1) :: st) M := by
  subst hx
  refine r_castg (upd (M 14 1) i y) (sm_ok rfl) tc_ls (vp_in_nI hi (by omega)) ?_ hd k
  rw [nI_clamp (by omega), hc]
  exact tc_ls
theorem r_copyg {idx : Nat} {n0 n1 r j r2 j2 : Nat} {f g : Nat → Int32} {sp dp n : Int32} (w : Nat → Int32) (hj : r < 16 ∧ j < t_size r) (hj2 : r2 < 16 ∧ j2 < t_size r2) (hc : t_cell cA ad (r, j) (M r j) = .inl (cA 0, n1, .inl g)) (hc2 : t_cell cA ad (r2, j2) (M r2 j2) = .inl (cA 0, n0, .inl f)) (h1 : ¬ sp < 0) (h2 : ¬ dp < 0) (h3 : ¬ n < 0) (h4 : sp.toNatClampNeg + n.toNatClampNeg ≤ n0) (h5 : dp.toNatClampNeg + n.toNatClampNeg ≤ n1) (hset : t_cell cA ad (r, j) w = .inl (cA 0, n1, .inl (va_cpy f g sp.toNatClampNeg dp.toNatClampNeg n.toNatClampNeg))) (hw : Cond.methodLink own idx arraycopyName ∈ wsL_law) (hw2 : Cond.native arraycopyName ∈ wsL_law) (hw3 : Cond.static arraycopyName ∈ wsL_law) (hw4 : Cond.initialized "java/lang/System" ∈ wsL_law) (hfr : 1 ≤ rm.frames) (hlo : (st.map fun v => v.category).sum + (nativeFrameWords "java/lang/System" "arraycopy" 5 + 11) ≤ rm.locals) (hd : decode cc pc = .ok (.invokestatic idx, 3)) (k : Rj cc own nL ret rm mc ms cA ad Q ex cells slots (pc + 3) lv st (m_set M r j w)) : Rj cc own nL ret rm mc ms cA ad Q ex cells slots pc lv (.int n :: .int dp :: .ref (ad r j) :: .int sp :: .ref (ad r2 j2) :: st) M := by
  intro p l e s m args below meth c G tx A Qc free d0 X E hd0 H locs ls hP hD hS hl
  obtain ⟨q0, hq, -⟩ := wsT_at (cA := cA) (ad := ad) (ex := ex) (M := M) hj2
  obtain ⟨q1, hq1, hs⟩ := wsT_at (cA := cA) (ad := ad) (ex := ex) (M := M) hj
  rw [hc2] at hq
  rw [hc] at hq1
  have hs2 := hs w
  rw [hset] at hs2
  have hts := dr_words X.2.2.2.2.1 d0
  refine va_copyi (s := s.setDrawn d0) X.1 X.2.1 (X.2.2.1.trans hl.1.symm) X.2.2.2.1 (hts _ hw) (hts _ hw2) (hts _ hw3) (hts _ hw4) X.2.2.2.2.2.2.2.1 hP hD hS q0 q1 0 0 hq hq1 rfl rfl rfl h1 h2 h3 h4 h5 (fun i _ => rfl) hfr hlo hd (fun H1 locs1 hP1 hD1 hS1 => ?_)
  rw [hs2] at hP1 hD1
  exact k p l e s m args below meth c G tx A Qc free d0 X E hd0 H1 locs1 ls hP1 hD1 hS1 hl
theorem r_mmax {idx : Nat} {x y : Int32} (hw : Cond.methodLink own idx Lib.Math.max.name ∈ wsL_law) (hw2 : Cond.static Lib.Math.max.name ∈ wsL_law) (hw3 : Cond.initialized "java/lang/Math" ∈ wsL_law) (hw4 : Cond.code Lib.Math.max.name Lib.Math.max.code 2 (some .int) ∈ wsL_law) (hfr : 1 ≤ rm.frames) (hlo : (st.map fun v => v.category).sum + 13 ≤ rm.locals) (hc : cells ≤ rm.cells) (hs : slots ≤ rm.slots) (hd : decode cc pc = .ok (.invokestatic idx, 3)) (k : Rj cc own nL ret rm mc ms cA ad Q ex cells slots (pc + 3) lv (.int (if x < y then y else x) :: st) M) : Rj cc own nL ret rm mc ms cA ad Q ex cells slots pc lv (.int y :: .int x :: st) M := by
  intro p l e s m args below meth c G tx A Qc free d0 X E hd0 H locs ls hP hD hS hl
  have hts := dr_words X.2.2.2.2.1 d0
  exact va_mmax (s := s.setDrawn d0) X.1 X.2.1 (X.2.2.1.trans hl.1.symm) X.2.2.2.1 (hts _ hw) (hts _ hw2) (hts _ hw3) (hts _ hw4) hfr hlo hc hs hd (k p l e s m args below meth c G tx A Qc free d0 X E hd0 H locs ls hP hD hS hl)
/-- the usual post: an answer, the world outside unchanged, a new matrix -/
def Qe (v0 : Option Value) (ex0 : va_W) (M0 : tM) : Option Value → va_W → tM → Prop := fun v x m => v = v0 ∧ x = ex0 ∧ m = M0
theorem rm_le {d d2 nL2 : Nat} (h : (Nat.ble (d2 + 1) d && Nat.ble nL2 41) = true) : (rmd d2).frames + 1 ≤ (rmd d).frames ∧ 8 + (nL2 + 11) + (rmd d2).locals ≤ (rmd d).locals := by
  simp only [Bool.and_eq_true, Nat.ble_eq] at h
  exact ⟨h.1, by show 8 + (nL2 + 11) + 60 * d2 ≤ 60 * d; omega⟩
theorem r_cVi {idx n nL2 d d2 : Nat} {y : MethodName} {cc2 : ByteArray} {ret2 : Option FieldType} {As rest : List Value} {M2 : tM} {va : Value} {C : String} {b : Nat} (hd : decode cc pc = .ok (.invokevirtual idx, 3)) (hC : Cj y cc2 nL2 ret2 (rmd d2) 0 0 cA ad (.ref b :: As) ex M (Qe (some va) ex M2)) (hG : GoodIn wsL_law (wsV own idx C y (.code y cc2 nL2 ret2 :: wsL_law))) (hdc : y.cls = C ∧ y.cls ≠ "java/lang/invoke/MethodHandle" ∧ y.cls ≠ "java/lang/invoke/VarHandle" ∧ (parseMethodDescriptor y.desc).map (fun d => d.parameters.length) = some n) (hst : st = As.reverse ++ .ref b :: rest) (hn : As.length = n) (hR : (Nat.ble (d2 + 1) d && Nat.ble nL2 41) = true) (hcat : (rest.map fun v => v.category).sum ≤ 8) (hob : isRc cA ad ex M b C) (k : Rj cc own nL ret (rmd d) 0 0 cA ad Q ex 0 0 (pc + 3) lv (va :: rest) M2) : Rj cc own nL ret (rmd d) 0 0 cA ad Q ex 0 0 pc lv st M :=
  r_callV hd hC hG hdc hst hn rfl rfl (rm_le hR) hcat ⟨Nat.le_refl _, Nat.le_refl _⟩ hob (fun v x m h => by obtain ⟨rfl, rfl, rfl⟩ := h; exact k)
theorem r_cSi {idx n nL2 d d2 : Nat} {y : MethodName} {cc2 : ByteArray} {ret2 : Option FieldType} {As rest : List Value} {M2 : tM} {va : Value} (hd : decode cc pc = .ok (.invokestatic idx, 3)) (hC : Cj y cc2 nL2 ret2 (rmd d2) 0 0 cA ad As ex M (Qe (some va) ex M2)) {C0 : String} (hG : gS own idx y cc2 nL2 ret2) (hdc : y.cls = C0 ∧ y.cls ≠ "java/lang/invoke/MethodHandle" ∧ y.cls ≠ "java/lang/invoke/VarHandle" ∧ (parseMethodDescriptor y.desc).map (fun d => d.parameters.length) = some n) (hst : st = As.reverse ++ rest) (hn : As.length = n) (hR : (Nat.ble (d2 + 1) d && Nat.ble nL2 41) = true) (hcat : (rest.map fun v => v.category).sum ≤ 8) (k : Rj cc own nL ret (rmd d) 0 0 cA ad Q ex 0 0 (pc + 3) lv (va :: rest) M2) : Rj cc own nL ret (rmd d) 0 0 cA ad Q ex 0 0 pc lv st M :=
  r_callS hd hC hG hdc hst hn rfl rfl (rm_le hR) hcat ⟨Nat.le_refl _, Nat.le_refl _⟩ (fun v x m h => by obtain ⟨rfl, rfl, rfl⟩ := h; exact k)
theorem r_cVv {idx n nL2 d d2 : Nat} {y : MethodName} {cc2 : ByteArray} {ret2 : Option FieldType} {As rest : List Value} {M2 : tM}  {C : String} {b : Nat} (hd : decode cc pc = .ok (.invokevirtual idx, 3)) (hC : Cj y cc2 nL2 ret2 (rmd d2) 0 0 cA ad (.ref b :: As) ex M (Qe none ex M2)) (hG : GoodIn wsL_law (wsV own idx C y (.code y cc2 nL2 ret2 :: wsL_law))) (hdc : y.cls = C ∧ y.cls ≠ "java/lang/invoke/MethodHandle" ∧ y.cls ≠ "java/lang/invoke/VarHandle" ∧ (parseMethodDescriptor y.desc).map (fun d => d.parameters.length) = some n) (hst : st = As.reverse ++ .ref b :: rest) (hn : As.length = n) (hR : (Nat.ble (d2 + 1) d && Nat.ble nL2 41) = true) (hcat : (rest.map fun v => v.category).sum ≤ 8) (hob : isRc cA ad ex M b C) (k : Rj cc own nL ret (rmd d) 0 0 cA ad Q ex 0 0 (pc + 3) lv rest M2) : Rj cc own nL ret (rmd d) 0 0 cA ad Q ex 0 0 pc lv st M :=
  r_callV hd hC hG hdc hst hn rfl rfl (rm_le hR) hcat ⟨Nat.le_refl _, Nat.le_refl _⟩ hob (fun v x m h => by obtain ⟨rfl, rfl, rfl⟩ := h; exact k)
theorem r_cSv {idx n nL2 d d2 : Nat} {y : MethodName} {cc2 : ByteArray} {ret2 : Option FieldType} {As rest : List Value} {M2 : tM}  (hd : decode cc pc = .ok (.invokestatic idx, 3)) (hC : Cj y cc2 nL2 ret2 (rmd d2) 0 0 cA ad As ex M (Qe none ex M2)) {C0 : String} (hG : gS own idx y cc2 nL2 ret2) (hdc : y.cls = C0 ∧ y.cls ≠ "java/lang/invoke/MethodHandle" ∧ y.cls ≠ "java/lang/invoke/VarHandle" ∧ (parseMethodDescriptor y.desc).map (fun d => d.parameters.length) = some n) (hst : st = As.reverse ++ rest) (hn : As.length = n) (hR : (Nat.ble (d2 + 1) d && Nat.ble nL2 41) = true) (hcat : (rest.map fun v => v.category).sum ≤ 8) (k : Rj cc own nL ret (rmd d) 0 0 cA ad Q ex 0 0 (pc + 3) lv rest M2) : Rj cc own nL ret (rmd d) 0 0 cA ad Q ex 0 0 pc lv st M :=
  r_callS hd hC hG hdc hst hn rfl rfl (rm_le hR) hcat ⟨Nat.le_refl _, Nat.le_refl _⟩ (fun v x m h => by obtain ⟨rfl, rfl, rfl⟩ := h; exact k)
theorem r_ret {d : Nat} {ty : FieldType} {v : Int32} {M2 : tM} (hr : ret = some ty) (hn : narrow ty (.int v) = .int v) (hd : decode cc pc = .ok (.ireturn, 1)) {v2 : Int32} (hv : v = v2) (hM : M = M2) : Rj cc own nL ret (rmd d) 0 0 cA ad (Qe (some (.int v2)) ex M2) ex 0 0 pc lv [.int v] M := r_zret hr hn hd (Nat.le_refl _) (Nat.le_refl _) ⟨by rw [hv], rfl, hM⟩
theorem r_retv {d : Nat} {M2 : tM} (hr : ret = none) (hd : decode cc pc = .ok (.return_, 1)) (hM : M = M2) : Rj cc own nL ret (rmd d) 0 0 cA ad (Qe none ex M2) ex 0 0 pc lv [] M := r_vret hr hd (Nat.le_refl _) (Nat.le_refl _) ⟨rfl, rfl, hM⟩
end
end
section
/-! PART 05: a plan taken out of the matrix: m_pl M r P; rows over it; loops' helps -/
abbrev tP : Type := Nat → Nat → Int32
def m_pl (M : tM) (r : Nat) (P : tP) : tM := fun r' => if r' = r then P else M r'
theorem m_pl_s {M : tM} {r : Nat} {P : tP} : m_pl M r P r = P := if_pos rfl
theorem m_pl_n {M : tM} {r r' : Nat} {P : tP} (h : r' ≠ r) : m_pl M r P r' = M r' := if_neg h
theorem m_pl_self {M : tM} {r : Nat} : m_pl M r (M r) = M := by
  funext r'
  by_cases h : r' = r
  · subst h; exact m_pl_s
  · exact m_pl_n h
theorem m_pl_pl {M : tM} {r : Nat} {P P' : tP} : m_pl (m_pl M r P) r P' = m_pl M r P' := by
  funext r'
  by_cases h : r' = r
  · subst h; rw [m_pl_s, m_pl_s]
  · rw [m_pl_n h, m_pl_n h, m_pl_n h]
def pu (P : tP) (j k : Nat) (x : Int32) : tP := fun j' => if j' = j then upd (P j) k x else P j'
theorem pu_s {P : tP} {j k : Nat} {x : Int32} : pu P j k x j k = x := by rw [pu, if_pos rfl]; exact pk_us
theorem pu_j {P : tP} {j k j' k' : Nat} {x : Int32} (h : j' ≠ j) : pu P j k x j' k' = P j' k' := by rw [pu, if_neg h]
theorem pu_jj {P : tP} {j k j' : Nat} {x : Int32} (h : j' ≠ j) : pu P j k x j' = P j' := by rw [pu, if_neg h]
theorem pu_k {P : tP} {j k j' k' : Nat} {x : Int32} (h : k' ≠ k) : pu P j k x j' k' = P j' k' := by
  by_cases hj : j' = j
  · subst hj; rw [pu, if_pos rfl]; exact pk_un h
  · exact pu_j hj
theorem m_set_pl {M : tM} {r j k : Nat} {P : tP} {x : Int32} : m_set (m_pl M r P) r j (upd (P j) k x) = m_pl M r (pu P j k x) := by
  funext r' j'
  by_cases h : r' = r
  · subst h
    by_cases hj : j' = j
    · subst hj; rw [m_set_s, m_pl_s, pu, if_pos rfl]
    · rw [m_set_n (fun e => hj e.2), m_pl_s, m_pl_s, pu, if_neg hj]
  · rw [m_set_n (fun e => h e.1), m_pl_n h, m_pl_n h]
def bI (b : Bool) : Int32 := if b then 1 else 0
theorem bI_0 {b : Bool} (h : bI b = 0) : b = false := by cases b; rfl; exact absurd h (by decide)
theorem bI_1 {b : Bool} (h : ¬ bI b = 0) : b = true := by cases b; exact absurd rfl h; rfl
theorem bI_f {b : Bool} (h : b = false) : bI b = 0 := by rw [h]; rfl
theorem bI_t {b : Bool} (h : b = true) : bI b = 1 := by rw [h]; rfl
theorem bI_nar {b : Bool} : narrow .boolean (.int (bI b)) = .int (bI b) := by cases b <;> rfl
theorem bI_fit {b : Bool} : fits .boolean (.int (bI b)) = true := by cases b <;> rfl
def sh (i : Nat) : Int32 := 1 <<< (nI i &&& 31)
def cn (P : tP) : Nat := (P 0 1).toNatClampNeg
theorem cn_of {P : tP} {c : Nat} (h : P 0 1 = nI c) (h2 : c ≤ 12) : cn P = c := by rw [cn, h]; exact nI_clamp (by omega)
/-- the plan's count is c, its next place for an event e -/
def cP (P : tP) (c e : Nat) : Prop := c ≤ 12 ∧ e < 16 ∧ P 0 1 = nI c ∧ P 0 5 = nI e
section
variable {cc : ByteArray} {own : String} {nL : Nat} {ret : Option FieldType} {rm : Room} {mc ms : Nat} {cA : Nat → ClassId} {ad : tA} {Q : Option Value → va_W → tM → Prop} {ex : va_W} {cells slots pc : Nat} {lv : List (Option Value)} {st : List Value} {M : tM}
theorem r_fgt (i : Nat) (k : Rj cc own nL ret rm mc ms cA ad Q ex cells slots pc (lv.set i none) st M) : Rj cc own nL ret rm mc ms cA ad Q ex cells slots pc lv st M := by
  intro p l e s m args below meth c G tx A Qc free d0 X E hd0 H locs ls hP hD hS hl
  refine k p l e s m args below meth c G tx A Qc free d0 X E hd0 H locs ls hP hD hS ⟨hl.1, hl.2.1, fun q hq => hl.2.2 q ?_⟩
  obtain ⟨j, h1, h2⟩ := enL_mem.mp hq
  refine enL_mem.mpr ⟨j, h1, ?_⟩
  rw [List.getElem?_set] at h2
  by_cases hij : i = j
  · rw [if_pos hij] at h2
    split at h2 <;> cases h2
  · rw [if_neg hij] at h2
    exact h2
theorem r_getp_pl {idx : Nat} {r : Nat} (hr : isPlan r) {v : Value} {P : tP} (kf : Nat) (hk : kf < 14) (hw : Cond.fieldLink own idx (TX4 kf).1 (TX4 kf).2.1 (TX4 kf).2.2.1 ∈ wsL_law) (hv : (l_pl ad r (P 0))[kf]? = some v) (hd : decode cc pc = .ok (.getfield idx, 3)) (k : Rj cc own nL ret rm mc ms cA ad Q ex cells slots (pc + 3) lv (v :: st) (m_pl M r P)) : Rj cc own nL ret rm mc ms cA ad Q ex cells slots pc lv (.ref (ad r 0) :: st) (m_pl M r P) := r_get_pl hr kf hk hw (by rw [m_pl_s]; exact hv) hd k
theorem r_putp_pl {idx : Nat} {r : Nat} (hr : isPlan r) {x : Int32} {P : tP} {ty : FieldType} (kf : Nat) (hk : kf < 14) (hw : Cond.fieldLink own idx (TX4 kf).1 (TX4 kf).2.1 (TX4 kf).2.2.1 ∈ wsL_law) (hfin : (TX4 kf).2.2.2 = false) (het : tyX4 kf = ty) (hn : narrow ty (.int x) = .int x) (hfit : fits ty (.int x) = true) (hset : l_pl ad r (upd (P 0) kf x) = (l_pl ad r (P 0)).set kf (.int x)) (hd : decode cc pc = .ok (.putfield idx, 3)) (k : Rj cc own nL ret rm mc ms cA ad Q ex cells slots (pc + 3) lv st (m_pl M r (pu P 0 kf x))) : Rj cc own nL ret rm mc ms cA ad Q ex cells slots pc lv (.int x :: .ref (ad r 0) :: st) (m_pl M r P) := r_put_pl hr kf hk hw hfin het hn hfit (by rw [m_pl_s]; exact hset) hd (by rw [m_pl_s, m_set_pl]; exact k)
theorem r_getp_st {idx : Nat} {r i : Nat} (hr : isPlan r) (hi : i < 12) {v : Value} {P : tP} (kf : Nat) (hk : kf < 11) (hw : Cond.fieldLink own idx (TX5 kf).1 (TX5 kf).2.1 (TX5 kf).2.2.1 ∈ wsL_law) (hv : (l_st (P (4 + i)))[kf]? = some v) (hd : decode cc pc = .ok (.getfield idx, 3)) (k : Rj cc own nL ret rm mc ms cA ad Q ex cells slots (pc + 3) lv (v :: st) (m_pl M r P)) : Rj cc own nL ret rm mc ms cA ad Q ex cells slots pc lv (.ref (ad r (4 + i)) :: st) (m_pl M r P) := r_get_st hr hi kf hk hw (by rw [m_pl_s]; exact hv) hd k
theorem r_putp_st {idx : Nat} {r i : Nat} (hr : isPlan r) (hi : i < 12) {x : Int32} {P : tP} {ty : FieldType} (kf : Nat) (hk : kf < 11) (hw : Cond.fieldLink own idx (TX5 kf).1 (TX5 kf).2.1 (TX5 kf).2.2.1 ∈ wsL_law) (hfin : (TX5 kf).2.2.2 = false) (het : tyX5 kf = ty) (hn : narrow ty (.int x) = .int x) (hfit : fits ty (.int x) = true) (hset : l_st (upd (P (4 + i)) kf x) = (l_st (P (4 + i))).set kf (.int x)) (hd : decode cc pc = .ok (.putfield idx, 3)) (k : Rj cc own nL ret rm mc ms cA ad Q ex cells slots (pc + 3) lv st (m_pl M r (pu P (4 + i) kf x))) : Rj cc own nL ret rm mc ms cA ad Q ex cells slots pc lv (.int x :: .ref (ad r (4 + i)) :: st) (m_pl M r P) := r_put_st hr hi kf hk hw hfin het hn hfit (by rw [m_pl_s]; exact hset) hd (by rw [m_pl_s, m_set_pl]; exact k)
theorem r_aldp_steps {i : Nat} {x : Int32} {r : Nat} {P : tP} (hr : isPlan r) (hx : x = nI i) (hi : i < 12) (hd : decode cc pc = .ok (.aaload, 1)) (k : Rj cc own nL ret rm mc ms cA ad Q ex cells slots (pc + 1) lv (.ref (ad r (4 + i)) :: st) (m_pl M r P)) : Rj cc own nL ret rm mc ms cA ad Q ex cells slots pc lv (.int x :: .ref (ad r 1) :: st) (m_pl M r P) := r_ald_steps hr hx hi hd k
theorem r_ldp_mi {i : Nat} {x : Int32} {r : Nat} {P : tP} (hr : isPlan r) (hx : x = nI i) (hi : i < 4) (hd : decode cc pc = .ok (.iaload, 1)) (k : Rj cc own nL ret rm mc ms cA ad Q ex cells slots (pc + 1) lv (.int (P 2 i) :: st) (m_pl M r P)) : Rj cc own nL ret rm mc ms cA ad Q ex cells slots pc lv (.int x :: .ref (ad r 2) :: st) (m_pl M r P) := r_ld_mi hr hx hi hd (by rw [m_pl_s]; exact k)
theorem r_strp_mi {i : Nat} {x y : Int32} {r : Nat} {P : tP} (hr : isPlan r) (hx : x = nI i) (hi : i < 4) (hd : decode cc pc = .ok (.iastore, 1)) (k : Rj cc own nL ret rm mc ms cA ad Q ex cells slots (pc + 1) lv st (m_pl M r (pu P 2 i y))) : Rj cc own nL ret rm mc ms cA ad Q ex cells slots pc lv (.int y :: .int x :: .ref (ad r 2) :: st) (m_pl M r P) := r_str_mi hr hx hi hd (by rw [m_pl_s, m_set_pl]; exact k)
theorem r_ldp_ev {i : Nat} {x : Int32} {r : Nat} {P : tP} (hr : isPlan r) (hx : x = nI i) (hi : i < 48) (hd : decode cc pc = .ok (.iaload, 1)) (k : Rj cc own nL ret rm mc ms cA ad Q ex cells slots (pc + 1) lv (.int (P 3 i) :: st) (m_pl M r P)) : Rj cc own nL ret rm mc ms cA ad Q ex cells slots pc lv (.int x :: .ref (ad r 3) :: st) (m_pl M r P) := r_ld_ev hr hx hi hd (by rw [m_pl_s]; exact k)
theorem r_strp_ev {i : Nat} {x y : Int32} {r : Nat} {P : tP} (hr : isPlan r) (hx : x = nI i) (hi : i < 48) (hd : decode cc pc = .ok (.iastore, 1)) (k : Rj cc own nL ret rm mc ms cA ad Q ex cells slots (pc + 1) lv st (m_pl M r (pu P 3 i y))) : Rj cc own nL ret rm mc ms cA ad Q ex cells slots pc lv (.int y :: .int x :: .ref (ad r 3) :: st) (m_pl M r P) := r_str_ev hr hx hi hd (by rw [m_pl_s, m_set_pl]; exact k)
theorem r_ldcw {idx : Nat} {v : Int32} (hd : decode cc pc = .ok (.ldc_w idx, 3)) (hw : Cond.constant own idx v ∈ wsL_law) (k : Rj cc own nL ret rm mc ms cA ad Q ex cells slots (pc + 3) lv (.int v :: st) M) : Rj cc own nL ret rm mc ms cA ad Q ex cells slots pc lv st M := by
  intro p l e s m args below meth c G tx A Qc free d0 X E hd0 H locs ls hP hD hS hl
  exact lv_ldcw X.1 X.2.1 X.2.2.2.1 (dr_words X.2.2.2.2.1 d0 _ hw) hd (k p l e s m args below meth c G tx A Qc free d0 X E hd0 H locs ls hP hD hS hl)
end
def p_row (P : tP) (j : Nat) (w : Nat → Int32) : tP := fun j' => if j' = j then w else P j'
theorem p_row_s {P : tP} {j : Nat} {w : Nat → Int32} : p_row P j w j = w := if_pos rfl
theorem p_row_n {P : tP} {j j' : Nat} {w : Nat → Int32} (h : j' ≠ j) : p_row P j w j' = P j' := if_neg h
theorem m_row_pl {M : tM} {r j : Nat} {P : tP} {w : Nat → Int32} : m_set (m_pl M r P) r j w = m_pl M r (p_row P j w) := by
  funext r' j'
  by_cases h : r' = r
  · subst h
    by_cases hj : j' = j
    · subst hj; rw [m_set_s, m_pl_s, p_row_s]
    · rw [m_set_n (fun e => hj e.2), m_pl_s, m_pl_s, p_row_n hj]
  · rw [m_set_n (fun e => h e.1), m_pl_n h, m_pl_n h]
section
variable {cc : ByteArray} {own : String} {nL : Nat} {ret : Option FieldType} {rm : Room} {mc ms : Nat} {cA : Nat → ClassId} {ad : tA} {Q : Option Value → va_W → tM → Prop} {ex : va_W} {cells slots pc : Nat} {lv : List (Option Value)} {st : List Value} {M : tM}
theorem r_getq_pl {idx : Nat} {r r2 : Nat} (hr : isPlan r2) (hne : r2 ≠ r) {v : Value} {P : tP} (kf : Nat) (hk : kf < 14) (hw : Cond.fieldLink own idx (TX4 kf).1 (TX4 kf).2.1 (TX4 kf).2.2.1 ∈ wsL_law) (hv : (l_pl ad r2 (M r2 0))[kf]? = some v) (hd : decode cc pc = .ok (.getfield idx, 3)) (k : Rj cc own nL ret rm mc ms cA ad Q ex cells slots (pc + 3) lv (v :: st) (m_pl M r P)) : Rj cc own nL ret rm mc ms cA ad Q ex cells slots pc lv (.ref (ad r2 0) :: st) (m_pl M r P) := r_get_pl hr kf hk hw (by rw [m_pl_n hne]; exact hv) hd k
theorem r_getq_st {idx : Nat} {r r2 i : Nat} (hr : isPlan r2) (hne : r2 ≠ r) (hi : i < 12) {v : Value} {P : tP} (kf : Nat) (hk : kf < 11) (hw : Cond.fieldLink own idx (TX5 kf).1 (TX5 kf).2.1 (TX5 kf).2.2.1 ∈ wsL_law) (hv : (l_st (M r2 (4 + i)))[kf]? = some v) (hd : decode cc pc = .ok (.getfield idx, 3)) (k : Rj cc own nL ret rm mc ms cA ad Q ex cells slots (pc + 3) lv (v :: st) (m_pl M r P)) : Rj cc own nL ret rm mc ms cA ad Q ex cells slots pc lv (.ref (ad r2 (4 + i)) :: st) (m_pl M r P) := r_get_st hr hi kf hk hw (by rw [m_pl_n hne]; exact hv) hd k
theorem r_cpyp_mi {idx r r2 : Nat} {P : tP} {a b : Int32} (hr : isPlan r) (hr2 : isPlan r2) (hne : r2 ≠ r) (hw : Cond.methodLink own idx arraycopyName ∈ wsL_law) (hw2 : Cond.native arraycopyName ∈ wsL_law) (hw3 : Cond.static arraycopyName ∈ wsL_law) (hw4 : Cond.initialized "java/lang/System" ∈ wsL_law) (hfr : 1 ≤ rm.frames) (hlo : (st.map fun v => v.category).sum + (nativeFrameWords "java/lang/System" "arraycopy" 5 + 11) ≤ rm.locals) (ha : a = 0) (hb : b = 4) (hd : decode cc pc = .ok (.invokestatic idx, 3)) (k : Rj cc own nL ret rm mc ms cA ad Q ex cells slots (pc + 3) lv st (m_pl M r (p_row P 2 (va_cpy (M r2 2) (P 2) 0 0 4)))) : Rj cc own nL ret rm mc ms cA ad Q ex cells slots pc lv (.int b :: .int a :: .ref (ad r 2) :: .int a :: .ref (ad r2 2) :: st) (m_pl M r P) := by
  subst ha; subst hb
  have e0 : Int32.toNatClampNeg 0 = 0 := by decide
  have eN : Int32.toNatClampNeg 4 = 4 := by decide
  refine r_copyg (n0 := 4) (n1 := 4) (f := M r2 2) (g := P 2) (va_cpy (M r2 2) (P 2) 0 0 4) (pl_ok hr (by omega)) (pl_ok hr2 (by omega)) (by rw [tc_mi hr, m_pl_s]) (by rw [tc_mi hr2, m_pl_n hne]) (by decide) (by decide) (by decide) (by rw [e0, eN]; omega) (by rw [e0, eN]; omega) (by rw [e0, eN]; exact tc_mi hr) hw hw2 hw3 hw4 hfr hlo hd ?_
  rw [m_row_pl]
  exact k
theorem r_cpyp_ev {idx r r2 : Nat} {P : tP} {a b : Int32} (hr : isPlan r) (hr2 : isPlan r2) (hne : r2 ≠ r) (hw : Cond.methodLink own idx arraycopyName ∈ wsL_law) (hw2 : Cond.native arraycopyName ∈ wsL_law) (hw3 : Cond.static arraycopyName ∈ wsL_law) (hw4 : Cond.initialized "java/lang/System" ∈ wsL_law) (hfr : 1 ≤ rm.frames) (hlo : (st.map fun v => v.category).sum + (nativeFrameWords "java/lang/System" "arraycopy" 5 + 11) ≤ rm.locals) (ha : a = 0) (hb : b = 48) (hd : decode cc pc = .ok (.invokestatic idx, 3)) (k : Rj cc own nL ret rm mc ms cA ad Q ex cells slots (pc + 3) lv st (m_pl M r (p_row P 3 (va_cpy (M r2 3) (P 3) 0 0 48)))) : Rj cc own nL ret rm mc ms cA ad Q ex cells slots pc lv (.int b :: .int a :: .ref (ad r 3) :: .int a :: .ref (ad r2 3) :: st) (m_pl M r P) := by
  subst ha; subst hb
  have e0 : Int32.toNatClampNeg 0 = 0 := by decide
  have eN : Int32.toNatClampNeg 48 = 48 := by decide
  refine r_copyg (n0 := 48) (n1 := 48) (f := M r2 3) (g := P 3) (va_cpy (M r2 3) (P 3) 0 0 48) (pl_ok hr (by omega)) (pl_ok hr2 (by omega)) (by rw [tc_ev hr, m_pl_s]) (by rw [tc_ev hr2, m_pl_n hne]) (by decide) (by decide) (by decide) (by rw [e0, eN]; omega) (by rw [e0, eN]; omega) (by rw [e0, eN]; exact tc_ev hr) hw hw2 hw3 hw4 hfr hlo hd ?_
  rw [m_row_pl]
  exact k
end
end
section
/-! PART 06: steps, and the plan's queries: their models and contracts -/
theorem ii_s {i : Nat} : nI i + Int32.ofInt 1 = nI (i + 1) := by rw [show Int32.ofInt 1 = 1 from rfl]; exact nI_1 i
theorem lp_z {x : Int32} {c i : Nat} (hx : x = nI c) (h : i + 0 = c) : x ≤ nI i := by subst hx; subst h; exact Int32.le_refl _
theorem lp_s {x : Int32} {c i n : Nat} (hx : x = nI c) (hc : c ≤ 12) (h : i + (n + 1) = c) : ¬ x ≤ nI i := by subst hx; exact nI_ge (by omega) (by omega)
def f_isOpen (x : Int32) : Bool := decide (¬ 2 < x)
def f_isOff (x : Int32) : Bool := decide (¬ x < 4)
def f_hasStep (P : tP) (x : Int32) : Bool := decide (¬ x < 0) && decide (¬ P 0 1 ≤ x)
def f_isCancelled (P : tP) (b : Int32) : Bool := decide (¬ P 0 9 &&& 1 <<< (b &&& 31) = 0)
def f_bc (x : Int32) : Int32 :=
  let us (a b : Int32) : Int32 := (a.toUInt32 >>> (b.toUInt32 &&& Int32.toUInt32 31)).toInt32
  let x1 := x - (us x 1 &&& 1431655765)
  let x2 := (x1 &&& 858993459) + (us x1 2 &&& 858993459)
  let x3 := (x2 + us x2 4) &&& 252645135
  let x4 := x3 + us x3 8
  let x5 := x4 + us x4 16
  x5 &&& 63
theorem f_bc_pos {x : Int32} : ∃ j : Nat, j < 64 ∧ f_bc x = nI j := by
  obtain ⟨j, h1, h2⟩ := pk_andE (m := 63) (((((x - ((x.toUInt32 >>> ((1 : Int32).toUInt32 &&& Int32.toUInt32 31)).toInt32 &&& 1431655765)) &&& 858993459))) ) 6 (by decide)
  have : ∃ z, f_bc x = z &&& 63 := ⟨_, rfl⟩
  obtain ⟨z, hz⟩ := this
  obtain ⟨j, h1, h2⟩ := pk_andE (m := 63) z 6 (by decide)
  exact ⟨j, h1, hz.trans h2⟩
def lp_setOf (P : tP) (how : Int32) : Nat → Nat → Int32 → Int32
  | 0, _, x => x
  | n + 1, i, x => lp_setOf P how n (i + 1) (if P (4 + i) 6 = how then x ||| sh i else x)
def f_setOf (P : tP) (how : Int32) : Int32 := lp_setOf P how (cn P) 0 0
def f_countOf (P : tP) (how : Int32) : Int32 := f_bc (f_setOf P how)
def lp_setOff (P : tP) : Nat → Nat → Int32 → Int32
  | 0, _, x => x
  | n + 1, i, x => lp_setOff P n (i + 1) (if f_isOff (P (4 + i) 6) then x ||| sh i else x)
def f_setOff (P : tP) : Int32 := lp_setOff P (cn P) 0 0
def f_isReady (w : Nat → Int32) (d : Int32) : Bool := if w 4 = 0 then true else if w 3 = 0 then decide (w 4 &&& (d ^^^ (-1)) = 0) else decide (¬ w 4 &&& d = 0)
def f_isHopeless (w : Nat → Int32) (d : Int32) : Bool := if f_isOpen (w 6) = false ∨ w 6 = 1 ∨ w 4 = 0 then false else if w 3 = 0 then decide (¬ w 4 &&& d = 0) else decide (w 4 &&& (d ^^^ (-1)) = 0)
def lp_lowH (P : tP) (d : Int32) : Nat → Nat → Int32
  | 0, _ => -1
  | n + 1, i => if f_isHopeless (P (4 + i)) d then nI i else lp_lowH P d n (i + 1)
def f_lowH (P : tP) (d : Int32) : Int32 := lp_lowH P d (cn P) 0
def lp_ftu (P : tP) (b : Int32) : Nat → Nat → Int32 → Int32 → Int32
  | 0, _, x, _ => x
  | n + 1, i, x, y => if P (4 + i) 6 = 4 ∧ P (4 + i) 2 = b ∧ ¬ P (4 + i) 10 < y then lp_ftu P b n (i + 1) (nI i) (P (4 + i) 10) else lp_ftu P b n (i + 1) x y
def f_ftu (P : tP) (b : Int32) : Int32 := lp_ftu P b (cn P) 0 (-1) (-1)
def lp_ftb (P : tP) (d : Int32) : Nat → Nat → Int32 → Int32 → Int32
  | 0, _, x, _ => x
  | n + 1, i, x, y => if (P (4 + i) 6 = 0 ∨ P (4 + i) 6 = 2) ∧ ¬ y ≤ P (4 + i) 5 ∧ f_isReady (P (4 + i)) d = true then lp_ftb P d n (i + 1) (nI i) (P (4 + i) 5) else lp_ftb P d n (i + 1) x y
def f_ftb (P : tP) (d : Int32) : Int32 := lp_ftb P d (cn P) 0 (-1) 1001
def f_ahead (P : tP) (i j : Nat) : Bool := if P (4 + i) 8 = P (4 + j) 8 then (if P (4 + i) 0 = P (4 + j) 0 then decide (¬ nI j ≤ nI i) else decide (¬ P (4 + i) 0 ≤ P (4 + j) 0)) else decide (¬ P (4 + i) 8 ≤ P (4 + j) 8)
def lp_sao (P : tP) (j : Nat) : Nat → Nat → Int32 → Int32
  | 0, _, x => x
  | n + 1, i, x => lp_sao P j n (i + 1) (if nI i = nI j then x else if f_ahead P i j then x + Int32.ofInt 1 else x)
def f_sao (P : tP) (j : Nat) : Int32 := lp_sao P j (cn P) 0 0
def lp_wid (P : tP) (x : Int32) : Nat → Nat → Int32 → Int32
  | 0, _, w => w
  | n + 1, i, w => lp_wid P x n (i + 1) (if x &&& sh i = 0 then w else w ||| P (4 + i) 4)
def lp_reach (P : tP) : Nat → Int32 → Int32
  | 0, x => x
  | n + 1, x => if lp_wid P x (cn P) 0 x = x then x else lp_reach P n (lp_wid P x (cn P) 0 x)
def f_noa (P : tP) (i : Nat) (j : Int32) : Bool := decide (¬ lp_reach P 12 (P (4 + i) 4) &&& 1 <<< (j &&& 31) = 0)
def f_lateBy (P : tP) (i : Nat) (m : Nat) : Int32 :=
  let l := (if P (4 + m) 6 = 3 then P (4 + m) 10 else P 0 7) - P (4 + m) 5
  if 0 < l then l else 0
theorem dX5_isOpen_0 : decode cX5_isOpen 0 = .ok (.aload_n 0, 1) := by decide +kernel
theorem dX5_isOpen_1 : decode cX5_isOpen 1 = .ok (.getfield 31, 3) := by decide +kernel
theorem dX5_isOpen_4 : decode cX5_isOpen 4 = .ok (.iconst 2, 1) := by decide +kernel
theorem dX5_isOpen_5 : decode cX5_isOpen 5 = .ok (.if_icmp .gt 7, 3) := by decide +kernel
theorem dX5_isOpen_8 : decode cX5_isOpen 8 = .ok (.iconst 1, 1) := by decide +kernel
theorem dX5_isOpen_9 : decode cX5_isOpen 9 = .ok (.goto 4, 3) := by decide +kernel
theorem dX5_isOpen_12 : decode cX5_isOpen 12 = .ok (.iconst 0, 1) := by decide +kernel
theorem dX5_isOpen_13 : decode cX5_isOpen 13 = .ok (.ireturn, 1) := by decide +kernel
theorem dcX5_isOpen : yX5_isOpen.cls = RX5 ∧ yX5_isOpen.cls ≠ "java/lang/invoke/MethodHandle" ∧ yX5_isOpen.cls ≠ "java/lang/invoke/VarHandle" ∧ (parseMethodDescriptor yX5_isOpen.desc).map (fun d => d.parameters.length) = some 0 := by decide +kernel
set_option maxRecDepth 100000 in
set_option maxHeartbeats 4000000 in
theorem K_isOpen {cA : Nat → ClassId} {ad : tA} {ex : va_W} {M : tM} {r : Nat} {P : tP} {i : Nat} (hr : isPlan r) (hi : i < 12) : Cj yX5_isOpen cX5_isOpen 1 (some .boolean) (rmd 0) 0 0 cA ad [.ref (ad r (4 + i))] ex (m_pl M r P) (Qe (some (.int (bI (f_isOpen (P (4 + i) 6))))) ex (m_pl M r P)) := by
  refine c_of_r (lv0 := [some (.ref (ad r (4 + i)))]) rfl (by decide +kernel) (Nat.le_of_ble_eq_true rfl) rfl ?_
  refine r_aload_n dX5_isOpen_0 rfl ?_
  refine r_getp_st (by assumption) (by omega) 6 (by decide) q104 rfl dX5_isOpen_1 ?_
  refine r_iconst (v := 2) dX5_isOpen_4 (by decide) ?_
  refine r_icmp_gt (tgt := 12) dX5_isOpen_5 (by decide) (fun c5 => ?_) (fun c5 => ?_)
  · refine r_iconst (v := 0) dX5_isOpen_12 (by decide) ?_
    exact r_ret rfl rfl dX5_isOpen_13 (by first | (simp [f_isOpen, bI, *]; done) | simp_all [f_isOpen, bI]) rfl
  · refine r_iconst (v := 1) dX5_isOpen_8 (by decide) ?_
    refine r_goto (tgt := 13) dX5_isOpen_9 (by decide) ?_
    exact r_ret rfl rfl dX5_isOpen_13 (by first | (simp [f_isOpen, bI, *]; done) | simp_all [f_isOpen, bI]) rfl
theorem dX5_isOff_0 : decode cX5_isOff 0 = .ok (.aload_n 0, 1) := by decide +kernel
theorem dX5_isOff_1 : decode cX5_isOff 1 = .ok (.getfield 31, 3) := by decide +kernel
theorem dX5_isOff_4 : decode cX5_isOff 4 = .ok (.iconst 4, 1) := by decide +kernel
theorem dX5_isOff_5 : decode cX5_isOff 5 = .ok (.if_icmp .lt 7, 3) := by decide +kernel
theorem dX5_isOff_8 : decode cX5_isOff 8 = .ok (.iconst 1, 1) := by decide +kernel
theorem dX5_isOff_9 : decode cX5_isOff 9 = .ok (.goto 4, 3) := by decide +kernel
theorem dX5_isOff_12 : decode cX5_isOff 12 = .ok (.iconst 0, 1) := by decide +kernel
theorem dX5_isOff_13 : decode cX5_isOff 13 = .ok (.ireturn, 1) := by decide +kernel
theorem dcX5_isOff : yX5_isOff.cls = RX5 ∧ yX5_isOff.cls ≠ "java/lang/invoke/MethodHandle" ∧ yX5_isOff.cls ≠ "java/lang/invoke/VarHandle" ∧ (parseMethodDescriptor yX5_isOff.desc).map (fun d => d.parameters.length) = some 0 := by decide +kernel
set_option maxRecDepth 100000 in
set_option maxHeartbeats 4000000 in
theorem K_isOff {cA : Nat → ClassId} {ad : tA} {ex : va_W} {M : tM} {r : Nat} {P : tP} {i : Nat} (hr : isPlan r) (hi : i < 12) : Cj yX5_isOff cX5_isOff 1 (some .boolean) (rmd 0) 0 0 cA ad [.ref (ad r (4 + i))] ex (m_pl M r P) (Qe (some (.int (bI (f_isOff (P (4 + i) 6))))) ex (m_pl M r P)) := by
  refine c_of_r (lv0 := [some (.ref (ad r (4 + i)))]) rfl (by decide +kernel) (Nat.le_of_ble_eq_true rfl) rfl ?_
  refine r_aload_n dX5_isOff_0 rfl ?_
  refine r_getp_st (by assumption) (by omega) 6 (by decide) q104 rfl dX5_isOff_1 ?_
  refine r_iconst (v := 4) dX5_isOff_4 (by decide) ?_
  refine r_icmp_lt (tgt := 12) dX5_isOff_5 (by decide) (fun c5 => ?_) (fun c5 => ?_)
  · refine r_iconst (v := 0) dX5_isOff_12 (by decide) ?_
    exact r_ret rfl rfl dX5_isOff_13 (by first | (simp [f_isOff, bI, *]; done) | simp_all [f_isOff, bI]) rfl
  · refine r_iconst (v := 1) dX5_isOff_8 (by decide) ?_
    refine r_goto (tgt := 13) dX5_isOff_9 (by decide) ?_
    exact r_ret rfl rfl dX5_isOff_13 (by first | (simp [f_isOff, bI, *]; done) | simp_all [f_isOff, bI]) rfl
theorem dX4_hasStep_0 : decode cX4_hasStep 0 = .ok (.iload_n 1, 1) := by decide +kernel
theorem dX4_hasStep_1 : decode cX4_hasStep 1 = .ok (.ifCond .lt 15, 3) := by decide +kernel
theorem dX4_hasStep_4 : decode cX4_hasStep 4 = .ok (.iload_n 1, 1) := by decide +kernel
theorem dX4_hasStep_5 : decode cX4_hasStep 5 = .ok (.aload_n 0, 1) := by decide +kernel
theorem dX4_hasStep_6 : decode cX4_hasStep 6 = .ok (.getfield 29, 3) := by decide +kernel
theorem dX4_hasStep_9 : decode cX4_hasStep 9 = .ok (.if_icmp .ge 7, 3) := by decide +kernel
theorem dX4_hasStep_12 : decode cX4_hasStep 12 = .ok (.iconst 1, 1) := by decide +kernel
theorem dX4_hasStep_13 : decode cX4_hasStep 13 = .ok (.goto 4, 3) := by decide +kernel
theorem dX4_hasStep_16 : decode cX4_hasStep 16 = .ok (.iconst 0, 1) := by decide +kernel
theorem dX4_hasStep_17 : decode cX4_hasStep 17 = .ok (.ireturn, 1) := by decide +kernel
theorem dcX4_hasStep : yX4_hasStep.cls = RX4 ∧ yX4_hasStep.cls ≠ "java/lang/invoke/MethodHandle" ∧ yX4_hasStep.cls ≠ "java/lang/invoke/VarHandle" ∧ (parseMethodDescriptor yX4_hasStep.desc).map (fun d => d.parameters.length) = some 1 := by decide +kernel
set_option maxRecDepth 100000 in
set_option maxHeartbeats 4000000 in
theorem K_hasStep {cA : Nat → ClassId} {ad : tA} {ex : va_W} {M : tM} {r : Nat} {P : tP} {x : Int32} (hr : isPlan r) : Cj yX4_hasStep cX4_hasStep 2 (some .boolean) (rmd 0) 0 0 cA ad [.ref (ad r 0), .int x] ex (m_pl M r P) (Qe (some (.int (bI (f_hasStep P x)))) ex (m_pl M r P)) := by
  refine c_of_r (lv0 := [some (.ref (ad r 0)), some (.int x)]) rfl (by decide +kernel) (Nat.le_of_ble_eq_true rfl) rfl ?_
  refine r_iload_n dX4_hasStep_0 rfl ?_
  refine r_if_lt (tgt := 16) dX4_hasStep_1 (by decide) (fun c1 => ?_) (fun c1 => ?_)
  · refine r_iconst (v := 0) dX4_hasStep_16 (by decide) ?_
    exact r_ret rfl rfl dX4_hasStep_17 (by first | (simp [f_hasStep, bI, *]; done) | simp_all [f_hasStep, bI]) rfl
  · refine r_iload_n dX4_hasStep_4 rfl ?_
    refine r_aload_n dX4_hasStep_5 rfl ?_
    refine r_getp_pl (by assumption) 1 (by decide) q80 rfl dX4_hasStep_6 ?_
    refine r_icmp_ge (tgt := 16) dX4_hasStep_9 (by decide) (fun c9 => ?_) (fun c9 => ?_)
    · refine r_iconst (v := 0) dX4_hasStep_16 (by decide) ?_
      exact r_ret rfl rfl dX4_hasStep_17 (by first | (simp [f_hasStep, bI, *]; done) | simp_all [f_hasStep, bI]) rfl
    · refine r_iconst (v := 1) dX4_hasStep_12 (by decide) ?_
      refine r_goto (tgt := 17) dX4_hasStep_13 (by decide) ?_
      exact r_ret rfl rfl dX4_hasStep_17 (by first | (simp [f_hasStep, bI, *]; done) | simp_all [f_hasStep, bI]) rfl
theorem dX4_isCancelled_0 : decode cX4_isCancelled 0 = .ok (.aload_n 0, 1) := by decide +kernel
theorem dX4_isCancelled_1 : decode cX4_isCancelled 1 = .ok (.getfield 54, 3) := by decide +kernel
theorem dX4_isCancelled_4 : decode cX4_isCancelled 4 = .ok (.iconst 1, 1) := by decide +kernel
theorem dX4_isCancelled_5 : decode cX4_isCancelled 5 = .ok (.iload_n 1, 1) := by decide +kernel
theorem dX4_isCancelled_6 : decode cX4_isCancelled 6 = .ok (.ishl, 1) := by decide +kernel
theorem dX4_isCancelled_7 : decode cX4_isCancelled 7 = .ok (.iand, 1) := by decide +kernel
theorem dX4_isCancelled_8 : decode cX4_isCancelled 8 = .ok (.ifCond .eq 7, 3) := by decide +kernel
theorem dX4_isCancelled_11 : decode cX4_isCancelled 11 = .ok (.iconst 1, 1) := by decide +kernel
theorem dX4_isCancelled_12 : decode cX4_isCancelled 12 = .ok (.goto 4, 3) := by decide +kernel
theorem dX4_isCancelled_15 : decode cX4_isCancelled 15 = .ok (.iconst 0, 1) := by decide +kernel
theorem dX4_isCancelled_16 : decode cX4_isCancelled 16 = .ok (.ireturn, 1) := by decide +kernel
theorem dcX4_isCancelled : yX4_isCancelled.cls = RX4 ∧ yX4_isCancelled.cls ≠ "java/lang/invoke/MethodHandle" ∧ yX4_isCancelled.cls ≠ "java/lang/invoke/VarHandle" ∧ (parseMethodDescriptor yX4_isCancelled.desc).map (fun d => d.parameters.length) = some 1 := by decide +kernel
set_option maxRecDepth 100000 in
set_option maxHeartbeats 4000000 in
theorem K_isCancelled {cA : Nat → ClassId} {ad : tA} {ex : va_W} {M : tM} {r : Nat} {P : tP} {x : Int32} (hr : isPlan r) : Cj yX4_isCancelled cX4_isCancelled 2 (some .boolean) (rmd 0) 0 0 cA ad [.ref (ad r 0), .int x] ex (m_pl M r P) (Qe (some (.int (bI (f_isCancelled P x)))) ex (m_pl M r P)) := by
  refine c_of_r (lv0 := [some (.ref (ad r 0)), some (.int x)]) rfl (by decide +kernel) (Nat.le_of_ble_eq_true rfl) rfl ?_
  refine r_aload_n dX4_isCancelled_0 rfl ?_
  refine r_getp_pl (by assumption) 9 (by decide) q89 rfl dX4_isCancelled_1 ?_
  refine r_iconst (v := 1) dX4_isCancelled_4 (by decide) ?_
  refine r_iload_n dX4_isCancelled_5 rfl ?_
  refine r_ishl dX4_isCancelled_6 ?_
  refine r_iand dX4_isCancelled_7 ?_
  refine r_if_eq (tgt := 15) dX4_isCancelled_8 (by decide) (fun c8 => ?_) (fun c8 => ?_)
  · refine r_iconst (v := 0) dX4_isCancelled_15 (by decide) ?_
    exact r_ret rfl rfl dX4_isCancelled_16 (by first | (simp [f_isCancelled, bI, *]; done) | simp_all [f_isCancelled, bI]) rfl
  · refine r_iconst (v := 1) dX4_isCancelled_11 (by decide) ?_
    refine r_goto (tgt := 16) dX4_isCancelled_12 (by decide) ?_
    exact r_ret rfl rfl dX4_isCancelled_16 (by first | (simp [f_isCancelled, bI, *]; done) | simp_all [f_isCancelled, bI]) rfl
theorem dJ6_bitCount_0f7a4_0 : decode cJ6_bitCount_0f7a4 0 = .ok (.iload_n 0, 1) := by decide +kernel
theorem dJ6_bitCount_0f7a4_1 : decode cJ6_bitCount_0f7a4 1 = .ok (.iload_n 0, 1) := by decide +kernel
theorem dJ6_bitCount_0f7a4_2 : decode cJ6_bitCount_0f7a4 2 = .ok (.iconst 1, 1) := by decide +kernel
theorem dJ6_bitCount_0f7a4_3 : decode cJ6_bitCount_0f7a4 3 = .ok (.iushr, 1) := by decide +kernel
theorem dJ6_bitCount_0f7a4_4 : decode cJ6_bitCount_0f7a4 4 = .ok (.ldc_w 265, 3) := by decide +kernel
theorem dJ6_bitCount_0f7a4_7 : decode cJ6_bitCount_0f7a4 7 = .ok (.iand, 1) := by decide +kernel
theorem dJ6_bitCount_0f7a4_8 : decode cJ6_bitCount_0f7a4 8 = .ok (.isub, 1) := by decide +kernel
theorem dJ6_bitCount_0f7a4_9 : decode cJ6_bitCount_0f7a4 9 = .ok (.istore_n 0, 1) := by decide +kernel
theorem dJ6_bitCount_0f7a4_10 : decode cJ6_bitCount_0f7a4 10 = .ok (.iload_n 0, 1) := by decide +kernel
theorem dJ6_bitCount_0f7a4_11 : decode cJ6_bitCount_0f7a4 11 = .ok (.ldc_w 266, 3) := by decide +kernel
theorem dJ6_bitCount_0f7a4_14 : decode cJ6_bitCount_0f7a4 14 = .ok (.iand, 1) := by decide +kernel
theorem dJ6_bitCount_0f7a4_15 : decode cJ6_bitCount_0f7a4 15 = .ok (.iload_n 0, 1) := by decide +kernel
theorem dJ6_bitCount_0f7a4_16 : decode cJ6_bitCount_0f7a4 16 = .ok (.iconst 2, 1) := by decide +kernel
theorem dJ6_bitCount_0f7a4_17 : decode cJ6_bitCount_0f7a4 17 = .ok (.iushr, 1) := by decide +kernel
theorem dJ6_bitCount_0f7a4_18 : decode cJ6_bitCount_0f7a4 18 = .ok (.ldc_w 266, 3) := by decide +kernel
theorem dJ6_bitCount_0f7a4_21 : decode cJ6_bitCount_0f7a4 21 = .ok (.iand, 1) := by decide +kernel
theorem dJ6_bitCount_0f7a4_22 : decode cJ6_bitCount_0f7a4 22 = .ok (.iadd, 1) := by decide +kernel
theorem dJ6_bitCount_0f7a4_23 : decode cJ6_bitCount_0f7a4 23 = .ok (.istore_n 0, 1) := by decide +kernel
theorem dJ6_bitCount_0f7a4_24 : decode cJ6_bitCount_0f7a4 24 = .ok (.iload_n 0, 1) := by decide +kernel
theorem dJ6_bitCount_0f7a4_25 : decode cJ6_bitCount_0f7a4 25 = .ok (.iload_n 0, 1) := by decide +kernel
theorem dJ6_bitCount_0f7a4_26 : decode cJ6_bitCount_0f7a4 26 = .ok (.iconst 4, 1) := by decide +kernel
theorem dJ6_bitCount_0f7a4_27 : decode cJ6_bitCount_0f7a4 27 = .ok (.iushr, 1) := by decide +kernel
theorem dJ6_bitCount_0f7a4_28 : decode cJ6_bitCount_0f7a4 28 = .ok (.iadd, 1) := by decide +kernel
theorem dJ6_bitCount_0f7a4_29 : decode cJ6_bitCount_0f7a4 29 = .ok (.ldc_w 267, 3) := by decide +kernel
theorem dJ6_bitCount_0f7a4_32 : decode cJ6_bitCount_0f7a4 32 = .ok (.iand, 1) := by decide +kernel
theorem dJ6_bitCount_0f7a4_33 : decode cJ6_bitCount_0f7a4 33 = .ok (.istore_n 0, 1) := by decide +kernel
theorem dJ6_bitCount_0f7a4_34 : decode cJ6_bitCount_0f7a4 34 = .ok (.iload_n 0, 1) := by decide +kernel
theorem dJ6_bitCount_0f7a4_35 : decode cJ6_bitCount_0f7a4 35 = .ok (.iload_n 0, 1) := by decide +kernel
theorem dJ6_bitCount_0f7a4_36 : decode cJ6_bitCount_0f7a4 36 = .ok (.bipush 8, 2) := by decide +kernel
theorem dJ6_bitCount_0f7a4_38 : decode cJ6_bitCount_0f7a4 38 = .ok (.iushr, 1) := by decide +kernel
theorem dJ6_bitCount_0f7a4_39 : decode cJ6_bitCount_0f7a4 39 = .ok (.iadd, 1) := by decide +kernel
theorem dJ6_bitCount_0f7a4_40 : decode cJ6_bitCount_0f7a4 40 = .ok (.istore_n 0, 1) := by decide +kernel
theorem dJ6_bitCount_0f7a4_41 : decode cJ6_bitCount_0f7a4 41 = .ok (.iload_n 0, 1) := by decide +kernel
theorem dJ6_bitCount_0f7a4_42 : decode cJ6_bitCount_0f7a4 42 = .ok (.iload_n 0, 1) := by decide +kernel
theorem dJ6_bitCount_0f7a4_43 : decode cJ6_bitCount_0f7a4 43 = .ok (.bipush 16, 2) := by decide +kernel
theorem dJ6_bitCount_0f7a4_45 : decode cJ6_bitCount_0f7a4 45 = .ok (.iushr, 1) := by decide +kernel
theorem dJ6_bitCount_0f7a4_46 : decode cJ6_bitCount_0f7a4 46 = .ok (.iadd, 1) := by decide +kernel
theorem dJ6_bitCount_0f7a4_47 : decode cJ6_bitCount_0f7a4 47 = .ok (.istore_n 0, 1) := by decide +kernel
theorem dJ6_bitCount_0f7a4_48 : decode cJ6_bitCount_0f7a4 48 = .ok (.iload_n 0, 1) := by decide +kernel
theorem dJ6_bitCount_0f7a4_49 : decode cJ6_bitCount_0f7a4 49 = .ok (.bipush 63, 2) := by decide +kernel
theorem dJ6_bitCount_0f7a4_51 : decode cJ6_bitCount_0f7a4 51 = .ok (.iand, 1) := by decide +kernel
theorem dJ6_bitCount_0f7a4_52 : decode cJ6_bitCount_0f7a4 52 = .ok (.ireturn, 1) := by decide +kernel
theorem dcJ6_bitCount_0f7a4 : yJ6_bitCount_0f7a4.cls = RJ6 ∧ yJ6_bitCount_0f7a4.cls ≠ "java/lang/invoke/MethodHandle" ∧ yJ6_bitCount_0f7a4.cls ≠ "java/lang/invoke/VarHandle" ∧ (parseMethodDescriptor yJ6_bitCount_0f7a4.desc).map (fun d => d.parameters.length) = some 1 := by decide +kernel
set_option maxRecDepth 100000 in
set_option maxHeartbeats 4000000 in
theorem K_bc {cA : Nat → ClassId} {ad : tA} {ex : va_W} {M : tM} {x : Int32} : Cj yJ6_bitCount_0f7a4 cJ6_bitCount_0f7a4 1 (some .int) (rmd 0) 0 0 cA ad [.int x] ex M (Qe (some (.int (f_bc x))) ex M) := by
  refine c_of_r (lv0 := [some (.int x)]) rfl (by decide +kernel) (Nat.le_of_ble_eq_true rfl) rfl ?_
  refine r_iload_n dJ6_bitCount_0f7a4_0 rfl ?_
  refine r_iload_n dJ6_bitCount_0f7a4_1 rfl ?_
  refine r_iconst (v := 1) dJ6_bitCount_0f7a4_2 (by decide) ?_
  refine r_iushr dJ6_bitCount_0f7a4_3 rfl ?_
  refine r_ldcw dJ6_bitCount_0f7a4_4 q173 ?_
  refine r_iand dJ6_bitCount_0f7a4_7 ?_
  refine r_isub dJ6_bitCount_0f7a4_8 ?_
  refine r_istore_n dJ6_bitCount_0f7a4_9 (by decide) rfl ?_
  refine r_iload_n dJ6_bitCount_0f7a4_10 rfl ?_
  refine r_ldcw dJ6_bitCount_0f7a4_11 q174 ?_
  refine r_iand dJ6_bitCount_0f7a4_14 ?_
  refine r_iload_n dJ6_bitCount_0f7a4_15 rfl ?_
  refine r_iconst (v := 2) dJ6_bitCount_0f7a4_16 (by decide) ?_
  refine r_iushr dJ6_bitCount_0f7a4_17 rfl ?_
  refine r_ldcw dJ6_bitCount_0f7a4_18 q174 ?_
  refine r_iand dJ6_bitCount_0f7a4_21 ?_
  refine r_iadd dJ6_bitCount_0f7a4_22 ?_
  refine r_istore_n dJ6_bitCount_0f7a4_23 (by decide) rfl ?_
  refine r_iload_n dJ6_bitCount_0f7a4_24 rfl ?_
  refine r_iload_n dJ6_bitCount_0f7a4_25 rfl ?_
  refine r_iconst (v := 4) dJ6_bitCount_0f7a4_26 (by decide) ?_
  refine r_iushr dJ6_bitCount_0f7a4_27 rfl ?_
  refine r_iadd dJ6_bitCount_0f7a4_28 ?_
  refine r_ldcw dJ6_bitCount_0f7a4_29 q175 ?_
  refine r_iand dJ6_bitCount_0f7a4_32 ?_
  refine r_istore_n dJ6_bitCount_0f7a4_33 (by decide) rfl ?_
  refine r_iload_n dJ6_bitCount_0f7a4_34 rfl ?_
  refine r_iload_n dJ6_bitCount_0f7a4_35 rfl ?_
  refine r_bipush (v := 8) dJ6_bitCount_0f7a4_36 (by decide) ?_
  refine r_iushr dJ6_bitCount_0f7a4_38 rfl ?_
  refine r_iadd dJ6_bitCount_0f7a4_39 ?_
  refine r_istore_n dJ6_bitCount_0f7a4_40 (by decide) rfl ?_
  refine r_iload_n dJ6_bitCount_0f7a4_41 rfl ?_
  refine r_iload_n dJ6_bitCount_0f7a4_42 rfl ?_
  refine r_bipush (v := 16) dJ6_bitCount_0f7a4_43 (by decide) ?_
  refine r_iushr dJ6_bitCount_0f7a4_45 rfl ?_
  refine r_iadd dJ6_bitCount_0f7a4_46 ?_
  refine r_istore_n dJ6_bitCount_0f7a4_47 (by decide) rfl ?_
  refine r_iload_n dJ6_bitCount_0f7a4_48 rfl ?_
  refine r_bipush (v := 63) dJ6_bitCount_0f7a4_49 (by decide) ?_
  refine r_iand dJ6_bitCount_0f7a4_51 ?_
  exact r_ret rfl rfl dJ6_bitCount_0f7a4_52 rfl rfl
theorem dX4_setOf_0 : decode cX4_setOf 0 = .ok (.iconst 0, 1) := by decide +kernel
theorem dX4_setOf_1 : decode cX4_setOf 1 = .ok (.istore_n 2, 1) := by decide +kernel
theorem dX4_setOf_2 : decode cX4_setOf 2 = .ok (.iconst 0, 1) := by decide +kernel
theorem dX4_setOf_3 : decode cX4_setOf 3 = .ok (.istore_n 3, 1) := by decide +kernel
theorem dX4_setOf_4 : decode cX4_setOf 4 = .ok (.iload_n 3, 1) := by decide +kernel
theorem dX4_setOf_5 : decode cX4_setOf 5 = .ok (.aload_n 0, 1) := by decide +kernel
theorem dX4_setOf_6 : decode cX4_setOf 6 = .ok (.getfield 29, 3) := by decide +kernel
theorem dX4_setOf_9 : decode cX4_setOf 9 = .ok (.if_icmp .ge 28, 3) := by decide +kernel
theorem dX4_setOf_12 : decode cX4_setOf 12 = .ok (.aload_n 0, 1) := by decide +kernel
theorem dX4_setOf_13 : decode cX4_setOf 13 = .ok (.getfield 11, 3) := by decide +kernel
theorem dX4_setOf_16 : decode cX4_setOf 16 = .ok (.iload_n 3, 1) := by decide +kernel
theorem dX4_setOf_17 : decode cX4_setOf 17 = .ok (.aaload, 1) := by decide +kernel
theorem dX4_setOf_18 : decode cX4_setOf 18 = .ok (.getfield 84, 3) := by decide +kernel
theorem dX4_setOf_21 : decode cX4_setOf 21 = .ok (.iload_n 1, 1) := by decide +kernel
theorem dX4_setOf_22 : decode cX4_setOf 22 = .ok (.if_icmp .ne 9, 3) := by decide +kernel
theorem dX4_setOf_25 : decode cX4_setOf 25 = .ok (.iload_n 2, 1) := by decide +kernel
theorem dX4_setOf_26 : decode cX4_setOf 26 = .ok (.iconst 1, 1) := by decide +kernel
theorem dX4_setOf_27 : decode cX4_setOf 27 = .ok (.iload_n 3, 1) := by decide +kernel
theorem dX4_setOf_28 : decode cX4_setOf 28 = .ok (.ishl, 1) := by decide +kernel
theorem dX4_setOf_29 : decode cX4_setOf 29 = .ok (.ior, 1) := by decide +kernel
theorem dX4_setOf_30 : decode cX4_setOf 30 = .ok (.istore_n 2, 1) := by decide +kernel
theorem dX4_setOf_31 : decode cX4_setOf 31 = .ok (.iinc 3 1, 3) := by decide +kernel
theorem dX4_setOf_34 : decode cX4_setOf 34 = .ok (.goto (-30), 3) := by decide +kernel
theorem dX4_setOf_37 : decode cX4_setOf 37 = .ok (.iload_n 2, 1) := by decide +kernel
theorem dX4_setOf_38 : decode cX4_setOf 38 = .ok (.ireturn, 1) := by decide +kernel
theorem dcX4_setOf : yX4_setOf.cls = RX4 ∧ yX4_setOf.cls ≠ "java/lang/invoke/MethodHandle" ∧ yX4_setOf.cls ≠ "java/lang/invoke/VarHandle" ∧ (parseMethodDescriptor yX4_setOf.desc).map (fun d => d.parameters.length) = some 1 := by decide +kernel
set_option maxRecDepth 100000 in
set_option maxHeartbeats 4000000 in
theorem K_setOf {cA : Nat → ClassId} {ad : tA} {ex : va_W} {M : tM} {r : Nat} {P : tP} {how : Int32} {c : Nat} (hr : isPlan r) (hc : P 0 1 = nI c) (hc2 : c ≤ 12) : Cj yX4_setOf cX4_setOf 4 (some .int) (rmd 0) 0 0 cA ad [.ref (ad r 0), .int how] ex (m_pl M r P) (Qe (some (.int (f_setOf P how))) ex (m_pl M r P)) := by
  refine c_of_r (lv0 := [some (.ref (ad r 0)), some (.int how), none, none]) rfl (by decide +kernel) (Nat.le_of_ble_eq_true rfl) rfl ?_
  have L : ∀ (n i : Nat) (x : Int32), i + n = c → Rj cX4_setOf RX4 4 (some .int) (rmd 0) 0 0 cA ad (Qe (some (.int (lp_setOf P how n i x))) ex (m_pl M r P)) ex 0 0 4 [some (.ref (ad r 0)), some (.int how), some (.int x), some (.int (nI i))] [] (m_pl M r P) := by
    intro n
    induction n with
    | zero =>
      intro i x h
      refine r_iload_n dX4_setOf_4 rfl ?_
      refine r_aload_n dX4_setOf_5 rfl ?_
      refine r_getp_pl (by assumption) 1 (by decide) q80 rfl dX4_setOf_6 ?_
      refine r_icmp_ge (tgt := 37) dX4_setOf_9 (by decide) (fun c9 => ?_) (fun c9 => absurd (lp_z hc h) c9)
      refine r_iload_n dX4_setOf_37 rfl ?_
      exact r_ret rfl rfl dX4_setOf_38 rfl rfl
    | succ n ih =>
      intro i x h
      refine r_iload_n dX4_setOf_4 rfl ?_
      refine r_aload_n dX4_setOf_5 rfl ?_
      refine r_getp_pl (by assumption) 1 (by decide) q80 rfl dX4_setOf_6 ?_
      refine r_icmp_ge (tgt := 37) dX4_setOf_9 (by decide) (fun c9 => absurd c9 (lp_s hc hc2 h)) (fun c9 => ?_)
      refine r_aload_n dX4_setOf_12 rfl ?_
      refine r_getp_pl (by assumption) 0 (by decide) q38 rfl dX4_setOf_13 ?_
      refine r_iload_n dX4_setOf_16 rfl ?_
      refine r_aldp_steps (by assumption) rfl (by omega) dX4_setOf_17 ?_
      refine r_getp_st (by assumption) (by omega) 6 (by decide) q168 rfl dX4_setOf_18 ?_
      refine r_iload_n dX4_setOf_21 rfl ?_
      refine r_icmp_ne (tgt := 31) dX4_setOf_22 (by decide) (fun c22 => ?_) (fun c22 => ?_)
      · rw [lp_setOf, if_neg c22]
        refine r_iinc dX4_setOf_31 rfl ii_s (by decide) rfl ?_
        refine r_goto (tgt := 4) dX4_setOf_34 (by decide) ?_
        exact ih (i + 1) _ (by omega)
      · rw [lp_setOf, if_pos (c22)]
        refine r_iload_n dX4_setOf_25 rfl ?_
        refine r_iconst (v := 1) dX4_setOf_26 (by decide) ?_
        refine r_iload_n dX4_setOf_27 rfl ?_
        refine r_ishl dX4_setOf_28 ?_
        refine r_ior dX4_setOf_29 ?_
        refine r_istore_n dX4_setOf_30 (by decide) rfl ?_
        refine r_iinc dX4_setOf_31 rfl ii_s (by decide) rfl ?_
        refine r_goto (tgt := 4) dX4_setOf_34 (by decide) ?_
        exact ih (i + 1) _ (by omega)
  refine r_iconst (v := 0) dX4_setOf_0 (by decide) ?_
  refine r_istore_n dX4_setOf_1 (by decide) rfl ?_
  refine r_iconst (v := 0) dX4_setOf_2 (by decide) ?_
  refine r_istore_n dX4_setOf_3 (by decide) rfl ?_
  rw [f_setOf, cn_of hc hc2]; exact L c 0 0 (by omega)
theorem dX4_setOfOff_0 : decode cX4_setOfOff 0 = .ok (.iconst 0, 1) := by decide +kernel
theorem dX4_setOfOff_1 : decode cX4_setOfOff 1 = .ok (.istore_n 1, 1) := by decide +kernel
theorem dX4_setOfOff_2 : decode cX4_setOfOff 2 = .ok (.iconst 0, 1) := by decide +kernel
theorem dX4_setOfOff_3 : decode cX4_setOfOff 3 = .ok (.istore_n 2, 1) := by decide +kernel
theorem dX4_setOfOff_4 : decode cX4_setOfOff 4 = .ok (.iload_n 2, 1) := by decide +kernel
theorem dX4_setOfOff_5 : decode cX4_setOfOff 5 = .ok (.aload_n 0, 1) := by decide +kernel
theorem dX4_setOfOff_6 : decode cX4_setOfOff 6 = .ok (.getfield 29, 3) := by decide +kernel
theorem dX4_setOfOff_9 : decode cX4_setOfOff 9 = .ok (.if_icmp .ge 27, 3) := by decide +kernel
theorem dX4_setOfOff_12 : decode cX4_setOfOff 12 = .ok (.aload_n 0, 1) := by decide +kernel
theorem dX4_setOfOff_13 : decode cX4_setOfOff 13 = .ok (.getfield 11, 3) := by decide +kernel
theorem dX4_setOfOff_16 : decode cX4_setOfOff 16 = .ok (.iload_n 2, 1) := by decide +kernel
theorem dX4_setOfOff_17 : decode cX4_setOfOff 17 = .ok (.aaload, 1) := by decide +kernel
theorem dX4_setOfOff_18 : decode cX4_setOfOff 18 = .ok (.invokevirtual 105, 3) := by decide +kernel
theorem dX4_setOfOff_21 : decode cX4_setOfOff 21 = .ok (.ifCond .eq 9, 3) := by decide +kernel
theorem dX4_setOfOff_24 : decode cX4_setOfOff 24 = .ok (.iload_n 1, 1) := by decide +kernel
theorem dX4_setOfOff_25 : decode cX4_setOfOff 25 = .ok (.iconst 1, 1) := by decide +kernel
theorem dX4_setOfOff_26 : decode cX4_setOfOff 26 = .ok (.iload_n 2, 1) := by decide +kernel
theorem dX4_setOfOff_27 : decode cX4_setOfOff 27 = .ok (.ishl, 1) := by decide +kernel
theorem dX4_setOfOff_28 : decode cX4_setOfOff 28 = .ok (.ior, 1) := by decide +kernel
theorem dX4_setOfOff_29 : decode cX4_setOfOff 29 = .ok (.istore_n 1, 1) := by decide +kernel
theorem dX4_setOfOff_30 : decode cX4_setOfOff 30 = .ok (.iinc 2 1, 3) := by decide +kernel
theorem dX4_setOfOff_33 : decode cX4_setOfOff 33 = .ok (.goto (-29), 3) := by decide +kernel
theorem dX4_setOfOff_36 : decode cX4_setOfOff 36 = .ok (.iload_n 1, 1) := by decide +kernel
theorem dX4_setOfOff_37 : decode cX4_setOfOff 37 = .ok (.ireturn, 1) := by decide +kernel
theorem dcX4_setOfOff : yX4_setOfOff.cls = RX4 ∧ yX4_setOfOff.cls ≠ "java/lang/invoke/MethodHandle" ∧ yX4_setOfOff.cls ≠ "java/lang/invoke/VarHandle" ∧ (parseMethodDescriptor yX4_setOfOff.desc).map (fun d => d.parameters.length) = some 0 := by decide +kernel
theorem gX4_setOfOff_18 : GoodIn wsL_law (wsV RX4 105 RX5 yX5_isOff (.code yX5_isOff cX5_isOff 1 (some .boolean) :: wsL_law)) := g_V q391 q392 q393 q44 q394
set_option maxRecDepth 100000 in
set_option maxHeartbeats 4000000 in
theorem K_setOff {cA : Nat → ClassId} {ad : tA} {ex : va_W} {M : tM} {r : Nat} {P : tP} {c : Nat} (hr : isPlan r) (hc : P 0 1 = nI c) (hc2 : c ≤ 12) : Cj yX4_setOfOff cX4_setOfOff 3 (some .int) (rmd 1) 0 0 cA ad [.ref (ad r 0)] ex (m_pl M r P) (Qe (some (.int (f_setOff P))) ex (m_pl M r P)) := by
  refine c_of_r (lv0 := [some (.ref (ad r 0)), none, none]) rfl (by decide +kernel) (Nat.le_of_ble_eq_true rfl) rfl ?_
  have L : ∀ (n i : Nat) (x : Int32), i + n = c → Rj cX4_setOfOff RX4 3 (some .int) (rmd 1) 0 0 cA ad (Qe (some (.int (lp_setOff P n i x))) ex (m_pl M r P)) ex 0 0 4 [some (.ref (ad r 0)), some (.int x), some (.int (nI i))] [] (m_pl M r P) := by
    intro n
    induction n with
    | zero =>
      intro i x h
      refine r_iload_n dX4_setOfOff_4 rfl ?_
      refine r_aload_n dX4_setOfOff_5 rfl ?_
      refine r_getp_pl (by assumption) 1 (by decide) q80 rfl dX4_setOfOff_6 ?_
      refine r_icmp_ge (tgt := 36) dX4_setOfOff_9 (by decide) (fun c9 => ?_) (fun c9 => absurd (lp_z hc h) c9)
      refine r_iload_n dX4_setOfOff_36 rfl ?_
      exact r_ret rfl rfl dX4_setOfOff_37 rfl rfl
    | succ n ih =>
      intro i x h
      refine r_iload_n dX4_setOfOff_4 rfl ?_
      refine r_aload_n dX4_setOfOff_5 rfl ?_
      refine r_getp_pl (by assumption) 1 (by decide) q80 rfl dX4_setOfOff_6 ?_
      refine r_icmp_ge (tgt := 36) dX4_setOfOff_9 (by decide) (fun c9 => absurd c9 (lp_s hc hc2 h)) (fun c9 => ?_)
      refine r_aload_n dX4_setOfOff_12 rfl ?_
      refine r_getp_pl (by assumption) 0 (by decide) q38 rfl dX4_setOfOff_13 ?_
      refine r_iload_n dX4_setOfOff_16 rfl ?_
      refine r_aldp_steps (by assumption) rfl (by omega) dX4_setOfOff_17 ?_
      refine r_cVi dX4_setOfOff_18 (K_isOff (i := i) (by assumption) (by omega)) gX4_setOfOff_18 dcX5_isOff rfl rfl rfl (by decide) (ob_st (by assumption) (by omega)) ?_
      refine r_if_eq (tgt := 30) dX4_setOfOff_21 (by decide) (fun c21 => ?_) (fun c21 => ?_)
      · rw [lp_setOff, bI_0 c21, if_neg (by decide)]
        refine r_iinc dX4_setOfOff_30 rfl ii_s (by decide) rfl ?_
        refine r_goto (tgt := 4) dX4_setOfOff_33 (by decide) ?_
        exact ih (i + 1) _ (by omega)
      · rw [lp_setOff, bI_1 c21, if_pos rfl]
        refine r_iload_n dX4_setOfOff_24 rfl ?_
        refine r_iconst (v := 1) dX4_setOfOff_25 (by decide) ?_
        refine r_iload_n dX4_setOfOff_26 rfl ?_
        refine r_ishl dX4_setOfOff_27 ?_
        refine r_ior dX4_setOfOff_28 ?_
        refine r_istore_n dX4_setOfOff_29 (by decide) rfl ?_
        refine r_iinc dX4_setOfOff_30 rfl ii_s (by decide) rfl ?_
        refine r_goto (tgt := 4) dX4_setOfOff_33 (by decide) ?_
        exact ih (i + 1) _ (by omega)
  refine r_iconst (v := 0) dX4_setOfOff_0 (by decide) ?_
  refine r_istore_n dX4_setOfOff_1 (by decide) rfl ?_
  refine r_iconst (v := 0) dX4_setOfOff_2 (by decide) ?_
  refine r_istore_n dX4_setOfOff_3 (by decide) rfl ?_
  rw [f_setOff, cn_of hc hc2]; exact L c 0 0 (by omega)
theorem dX4_countOf_0 : decode cX4_countOf 0 = .ok (.aload_n 0, 1) := by decide +kernel
theorem dX4_countOf_1 : decode cX4_countOf 1 = .ok (.iload_n 1, 1) := by decide +kernel
theorem dX4_countOf_2 : decode cX4_countOf 2 = .ok (.invokevirtual 96, 3) := by decide +kernel
theorem dX4_countOf_5 : decode cX4_countOf 5 = .ok (.invokestatic 100, 3) := by decide +kernel
theorem dX4_countOf_8 : decode cX4_countOf 8 = .ok (.ireturn, 1) := by decide +kernel
theorem dcX4_countOf : yX4_countOf.cls = RX4 ∧ yX4_countOf.cls ≠ "java/lang/invoke/MethodHandle" ∧ yX4_countOf.cls ≠ "java/lang/invoke/VarHandle" ∧ (parseMethodDescriptor yX4_countOf.desc).map (fun d => d.parameters.length) = some 1 := by decide +kernel
theorem gX4_countOf_2 : GoodIn wsL_law (wsV RX4 96 RX4 yX4_setOf (.code yX4_setOf cX4_setOf 4 (some .int) :: wsL_law)) := g_V q164 q165 q166 q16 q167
theorem gX4_countOf_5 : gS RX4 100 yJ6_bitCount_0f7a4 cJ6_bitCount_0f7a4 1 (some .int) := ⟨q169, q170, q171, q172⟩
set_option maxRecDepth 100000 in
set_option maxHeartbeats 4000000 in
theorem K_countOf {cA : Nat → ClassId} {ad : tA} {ex : va_W} {M : tM} {r : Nat} {P : tP} {how : Int32} {c : Nat} (hr : isPlan r) (hc : P 0 1 = nI c) (hc2 : c ≤ 12) : Cj yX4_countOf cX4_countOf 2 (some .int) (rmd 1) 0 0 cA ad [.ref (ad r 0), .int how] ex (m_pl M r P) (Qe (some (.int (f_countOf P how))) ex (m_pl M r P)) := by
  refine c_of_r (lv0 := [some (.ref (ad r 0)), some (.int how)]) rfl (by decide +kernel) (Nat.le_of_ble_eq_true rfl) rfl ?_
  refine r_aload_n dX4_countOf_0 rfl ?_
  refine r_iload_n dX4_countOf_1 rfl ?_
  refine r_cVi dX4_countOf_2 (K_setOf (by assumption) hc hc2) gX4_countOf_2 dcX4_setOf rfl rfl rfl (by decide) (ob_pl (by assumption)) ?_
  refine r_cSi dX4_countOf_5 (K_bc) gX4_countOf_5 dcJ6_bitCount_0f7a4 rfl rfl rfl (by decide) ?_
  exact r_ret rfl rfl dX4_countOf_8 rfl rfl
theorem dX4_isReady_0 : decode cX4_isReady 0 = .ok (.aload_n 0, 1) := by decide +kernel
theorem dX4_isReady_1 : decode cX4_isReady 1 = .ok (.getfield 11, 3) := by decide +kernel
theorem dX4_isReady_4 : decode cX4_isReady 4 = .ok (.iload_n 1, 1) := by decide +kernel
theorem dX4_isReady_5 : decode cX4_isReady 5 = .ok (.aaload, 1) := by decide +kernel
theorem dX4_isReady_6 : decode cX4_isReady 6 = .ok (.astore_n 3, 1) := by decide +kernel
theorem dX4_isReady_7 : decode cX4_isReady 7 = .ok (.aload_n 3, 1) := by decide +kernel
theorem dX4_isReady_8 : decode cX4_isReady 8 = .ok (.getfield 109, 3) := by decide +kernel
theorem dX4_isReady_11 : decode cX4_isReady 11 = .ok (.ifCond .ne 5, 3) := by decide +kernel
theorem dX4_isReady_14 : decode cX4_isReady 14 = .ok (.iconst 1, 1) := by decide +kernel
theorem dX4_isReady_15 : decode cX4_isReady 15 = .ok (.ireturn, 1) := by decide +kernel
theorem dX4_isReady_16 : decode cX4_isReady 16 = .ok (.aload_n 3, 1) := by decide +kernel
theorem dX4_isReady_17 : decode cX4_isReady 17 = .ok (.getfield 112, 3) := by decide +kernel
theorem dX4_isReady_20 : decode cX4_isReady 20 = .ok (.ifCond .eq 20, 3) := by decide +kernel
theorem dX4_isReady_23 : decode cX4_isReady 23 = .ok (.aload_n 3, 1) := by decide +kernel
theorem dX4_isReady_24 : decode cX4_isReady 24 = .ok (.getfield 109, 3) := by decide +kernel
theorem dX4_isReady_27 : decode cX4_isReady 27 = .ok (.iload_n 2, 1) := by decide +kernel
theorem dX4_isReady_28 : decode cX4_isReady 28 = .ok (.iand, 1) := by decide +kernel
theorem dX4_isReady_29 : decode cX4_isReady 29 = .ok (.ifCond .eq 7, 3) := by decide +kernel
theorem dX4_isReady_32 : decode cX4_isReady 32 = .ok (.iconst 1, 1) := by decide +kernel
theorem dX4_isReady_33 : decode cX4_isReady 33 = .ok (.goto 23, 3) := by decide +kernel
theorem dX4_isReady_36 : decode cX4_isReady 36 = .ok (.iconst 0, 1) := by decide +kernel
theorem dX4_isReady_37 : decode cX4_isReady 37 = .ok (.goto 19, 3) := by decide +kernel
theorem dX4_isReady_40 : decode cX4_isReady 40 = .ok (.aload_n 3, 1) := by decide +kernel
theorem dX4_isReady_41 : decode cX4_isReady 41 = .ok (.getfield 109, 3) := by decide +kernel
theorem dX4_isReady_44 : decode cX4_isReady 44 = .ok (.iload_n 2, 1) := by decide +kernel
theorem dX4_isReady_45 : decode cX4_isReady 45 = .ok (.iconst (-1), 1) := by decide +kernel
theorem dX4_isReady_46 : decode cX4_isReady 46 = .ok (.ixor, 1) := by decide +kernel
theorem dX4_isReady_47 : decode cX4_isReady 47 = .ok (.iand, 1) := by decide +kernel
theorem dX4_isReady_48 : decode cX4_isReady 48 = .ok (.ifCond .ne 7, 3) := by decide +kernel
theorem dX4_isReady_51 : decode cX4_isReady 51 = .ok (.iconst 1, 1) := by decide +kernel
theorem dX4_isReady_52 : decode cX4_isReady 52 = .ok (.goto 4, 3) := by decide +kernel
theorem dX4_isReady_55 : decode cX4_isReady 55 = .ok (.iconst 0, 1) := by decide +kernel
theorem dX4_isReady_56 : decode cX4_isReady 56 = .ok (.ireturn, 1) := by decide +kernel
theorem dcX4_isReady : yX4_isReady.cls = RX4 ∧ yX4_isReady.cls ≠ "java/lang/invoke/MethodHandle" ∧ yX4_isReady.cls ≠ "java/lang/invoke/VarHandle" ∧ (parseMethodDescriptor yX4_isReady.desc).map (fun d => d.parameters.length) = some 2 := by decide +kernel
set_option maxRecDepth 100000 in
set_option maxHeartbeats 4000000 in
theorem K_isReady {cA : Nat → ClassId} {ad : tA} {ex : va_W} {M : tM} {r : Nat} {P : tP} {i : Nat} {d : Int32} (hr : isPlan r) (hi : i < 12) : Cj yX4_isReady cX4_isReady 4 (some .boolean) (rmd 0) 0 0 cA ad [.ref (ad r 0), .int (nI i), .int d] ex (m_pl M r P) (Qe (some (.int (bI (f_isReady (P (4 + i)) d)))) ex (m_pl M r P)) := by
  refine c_of_r (lv0 := [some (.ref (ad r 0)), some (.int (nI i)), some (.int d), none]) rfl (by decide +kernel) (Nat.le_of_ble_eq_true rfl) rfl ?_
  refine r_aload_n dX4_isReady_0 rfl ?_
  refine r_getp_pl (by assumption) 0 (by decide) q38 rfl dX4_isReady_1 ?_
  refine r_iload_n dX4_isReady_4 rfl ?_
  refine r_aldp_steps (by assumption) rfl (by omega) dX4_isReady_5 ?_
  refine r_astore_n dX4_isReady_6 (by decide) rfl ?_
  refine r_aload_n dX4_isReady_7 rfl ?_
  refine r_getp_st (by assumption) (by omega) 4 (by decide) q325 rfl dX4_isReady_8 ?_
  refine r_if_ne (tgt := 16) dX4_isReady_11 (by decide) (fun c11 => ?_) (fun c11 => ?_)
  · refine r_aload_n dX4_isReady_16 rfl ?_
    refine r_getp_st (by assumption) (by omega) 3 (by decide) q403 rfl dX4_isReady_17 ?_
    refine r_if_eq (tgt := 40) dX4_isReady_20 (by decide) (fun c20 => ?_) (fun c20 => ?_)
    · refine r_aload_n dX4_isReady_40 rfl ?_
      refine r_getp_st (by assumption) (by omega) 4 (by decide) q325 rfl dX4_isReady_41 ?_
      refine r_iload_n dX4_isReady_44 rfl ?_
      refine r_iconst (v := -1) dX4_isReady_45 (by decide) ?_
      refine r_ixor dX4_isReady_46 ?_
      refine r_iand dX4_isReady_47 ?_
      refine r_if_ne (tgt := 55) dX4_isReady_48 (by decide) (fun c48 => ?_) (fun c48 => ?_)
      · refine r_iconst (v := 0) dX4_isReady_55 (by decide) ?_
        exact r_ret rfl rfl dX4_isReady_56 (by first | (simp [f_isReady, bI, *]; done) | simp_all [f_isReady, bI]) rfl
      · refine r_iconst (v := 1) dX4_isReady_51 (by decide) ?_
        refine r_goto (tgt := 56) dX4_isReady_52 (by decide) ?_
        exact r_ret rfl rfl dX4_isReady_56 (by first | (simp [f_isReady, bI, *]; done) | simp_all [f_isReady, bI]) rfl
    · refine r_aload_n dX4_isReady_23 rfl ?_
      refine r_getp_st (by assumption) (by omega) 4 (by decide) q325 rfl dX4_isReady_24 ?_
      refine r_iload_n dX4_isReady_27 rfl ?_
      refine r_iand dX4_isReady_28 ?_
      refine r_if_eq (tgt := 36) dX4_isReady_29 (by decide) (fun c29 => ?_) (fun c29 => ?_)
      · refine r_iconst (v := 0) dX4_isReady_36 (by decide) ?_
        refine r_goto (tgt := 56) dX4_isReady_37 (by decide) ?_
        exact r_ret rfl rfl dX4_isReady_56 (by first | (simp [f_isReady, bI, *]; done) | simp_all [f_isReady, bI]) rfl
      · refine r_iconst (v := 1) dX4_isReady_32 (by decide) ?_
        refine r_goto (tgt := 56) dX4_isReady_33 (by decide) ?_
        exact r_ret rfl rfl dX4_isReady_56 (by first | (simp [f_isReady, bI, *]; done) | simp_all [f_isReady, bI]) rfl
  · refine r_iconst (v := 1) dX4_isReady_14 (by decide) ?_
    exact r_ret rfl rfl dX4_isReady_15 (by first | (simp [f_isReady, bI, *]; done) | simp_all [f_isReady, bI]) rfl
theorem dX4_isHopeless_0 : decode cX4_isHopeless 0 = .ok (.aload_n 0, 1) := by decide +kernel
theorem dX4_isHopeless_1 : decode cX4_isHopeless 1 = .ok (.getfield 11, 3) := by decide +kernel
theorem dX4_isHopeless_4 : decode cX4_isHopeless 4 = .ok (.iload_n 1, 1) := by decide +kernel
theorem dX4_isHopeless_5 : decode cX4_isHopeless 5 = .ok (.aaload, 1) := by decide +kernel
theorem dX4_isHopeless_6 : decode cX4_isHopeless 6 = .ok (.astore_n 3, 1) := by decide +kernel
theorem dX4_isHopeless_7 : decode cX4_isHopeless 7 = .ok (.aload_n 3, 1) := by decide +kernel
theorem dX4_isHopeless_8 : decode cX4_isHopeless 8 = .ok (.invokevirtual 116, 3) := by decide +kernel
theorem dX4_isHopeless_11 : decode cX4_isHopeless 11 = .ok (.ifCond .eq 18, 3) := by decide +kernel
theorem dX4_isHopeless_14 : decode cX4_isHopeless 14 = .ok (.aload_n 3, 1) := by decide +kernel
theorem dX4_isHopeless_15 : decode cX4_isHopeless 15 = .ok (.getfield 84, 3) := by decide +kernel
theorem dX4_isHopeless_18 : decode cX4_isHopeless 18 = .ok (.iconst 1, 1) := by decide +kernel
theorem dX4_isHopeless_19 : decode cX4_isHopeless 19 = .ok (.if_icmp .eq 10, 3) := by decide +kernel
theorem dX4_isHopeless_22 : decode cX4_isHopeless 22 = .ok (.aload_n 3, 1) := by decide +kernel
theorem dX4_isHopeless_23 : decode cX4_isHopeless 23 = .ok (.getfield 109, 3) := by decide +kernel
theorem dX4_isHopeless_26 : decode cX4_isHopeless 26 = .ok (.ifCond .ne 5, 3) := by decide +kernel
theorem dX4_isHopeless_29 : decode cX4_isHopeless 29 = .ok (.iconst 0, 1) := by decide +kernel
theorem dX4_isHopeless_30 : decode cX4_isHopeless 30 = .ok (.ireturn, 1) := by decide +kernel
theorem dX4_isHopeless_31 : decode cX4_isHopeless 31 = .ok (.aload_n 3, 1) := by decide +kernel
theorem dX4_isHopeless_32 : decode cX4_isHopeless 32 = .ok (.getfield 112, 3) := by decide +kernel
theorem dX4_isHopeless_35 : decode cX4_isHopeless 35 = .ok (.ifCond .eq 22, 3) := by decide +kernel
theorem dX4_isHopeless_38 : decode cX4_isHopeless 38 = .ok (.aload_n 3, 1) := by decide +kernel
theorem dX4_isHopeless_39 : decode cX4_isHopeless 39 = .ok (.getfield 109, 3) := by decide +kernel
theorem dX4_isHopeless_42 : decode cX4_isHopeless 42 = .ok (.iload_n 2, 1) := by decide +kernel
theorem dX4_isHopeless_43 : decode cX4_isHopeless 43 = .ok (.iconst (-1), 1) := by decide +kernel
theorem dX4_isHopeless_44 : decode cX4_isHopeless 44 = .ok (.ixor, 1) := by decide +kernel
theorem dX4_isHopeless_45 : decode cX4_isHopeless 45 = .ok (.iand, 1) := by decide +kernel
theorem dX4_isHopeless_46 : decode cX4_isHopeless 46 = .ok (.ifCond .ne 7, 3) := by decide +kernel
theorem dX4_isHopeless_49 : decode cX4_isHopeless 49 = .ok (.iconst 1, 1) := by decide +kernel
theorem dX4_isHopeless_50 : decode cX4_isHopeless 50 = .ok (.goto 21, 3) := by decide +kernel
theorem dX4_isHopeless_53 : decode cX4_isHopeless 53 = .ok (.iconst 0, 1) := by decide +kernel
theorem dX4_isHopeless_54 : decode cX4_isHopeless 54 = .ok (.goto 17, 3) := by decide +kernel
theorem dX4_isHopeless_57 : decode cX4_isHopeless 57 = .ok (.aload_n 3, 1) := by decide +kernel
theorem dX4_isHopeless_58 : decode cX4_isHopeless 58 = .ok (.getfield 109, 3) := by decide +kernel
theorem dX4_isHopeless_61 : decode cX4_isHopeless 61 = .ok (.iload_n 2, 1) := by decide +kernel
theorem dX4_isHopeless_62 : decode cX4_isHopeless 62 = .ok (.iand, 1) := by decide +kernel
theorem dX4_isHopeless_63 : decode cX4_isHopeless 63 = .ok (.ifCond .eq 7, 3) := by decide +kernel
theorem dX4_isHopeless_66 : decode cX4_isHopeless 66 = .ok (.iconst 1, 1) := by decide +kernel
theorem dX4_isHopeless_67 : decode cX4_isHopeless 67 = .ok (.goto 4, 3) := by decide +kernel
theorem dX4_isHopeless_70 : decode cX4_isHopeless 70 = .ok (.iconst 0, 1) := by decide +kernel
theorem dX4_isHopeless_71 : decode cX4_isHopeless 71 = .ok (.ireturn, 1) := by decide +kernel
theorem dcX4_isHopeless : yX4_isHopeless.cls = RX4 ∧ yX4_isHopeless.cls ≠ "java/lang/invoke/MethodHandle" ∧ yX4_isHopeless.cls ≠ "java/lang/invoke/VarHandle" ∧ (parseMethodDescriptor yX4_isHopeless.desc).map (fun d => d.parameters.length) = some 2 := by decide +kernel
theorem gX4_isHopeless_8 : GoodIn wsL_law (wsV RX4 116 RX5 yX5_isOpen (.code yX5_isOpen cX5_isOpen 1 (some .boolean) :: wsL_law)) := g_V q347 q333 q334 q44 q335
set_option maxRecDepth 100000 in
set_option maxHeartbeats 4000000 in
theorem K_isHopeless {cA : Nat → ClassId} {ad : tA} {ex : va_W} {M : tM} {r : Nat} {P : tP} {i : Nat} {d : Int32} (hr : isPlan r) (hi : i < 12) : Cj yX4_isHopeless cX4_isHopeless 4 (some .boolean) (rmd 1) 0 0 cA ad [.ref (ad r 0), .int (nI i), .int d] ex (m_pl M r P) (Qe (some (.int (bI (f_isHopeless (P (4 + i)) d)))) ex (m_pl M r P)) := by
  refine c_of_r (lv0 := [some (.ref (ad r 0)), some (.int (nI i)), some (.int d), none]) rfl (by decide +kernel) (Nat.le_of_ble_eq_true rfl) rfl ?_
  refine r_aload_n dX4_isHopeless_0 rfl ?_
  refine r_getp_pl (by assumption) 0 (by decide) q38 rfl dX4_isHopeless_1 ?_
  refine r_iload_n dX4_isHopeless_4 rfl ?_
  refine r_aldp_steps (by assumption) rfl (by omega) dX4_isHopeless_5 ?_
  refine r_astore_n dX4_isHopeless_6 (by decide) rfl ?_
  refine r_aload_n dX4_isHopeless_7 rfl ?_
  refine r_cVi dX4_isHopeless_8 (K_isOpen (i := i) (by assumption) (by omega)) gX4_isHopeless_8 dcX5_isOpen rfl rfl rfl (by decide) (ob_st (by assumption) (by omega)) ?_
  refine r_if_eq (tgt := 29) dX4_isHopeless_11 (by decide) (fun c11 => ?_) (fun c11 => ?_)
  · have c11b := bI_0 c11
    refine r_iconst (v := 0) dX4_isHopeless_29 (by decide) ?_
    exact r_ret rfl rfl dX4_isHopeless_30 (by first | (simp [f_isHopeless, bI, *]; done) | simp_all [f_isHopeless, bI]) rfl
  · have c11b := bI_1 c11
    refine r_aload_n dX4_isHopeless_14 rfl ?_
    refine r_getp_st (by assumption) (by omega) 6 (by decide) q168 rfl dX4_isHopeless_15 ?_
    refine r_iconst (v := 1) dX4_isHopeless_18 (by decide) ?_
    refine r_icmp_eq (tgt := 29) dX4_isHopeless_19 (by decide) (fun c19 => ?_) (fun c19 => ?_)
    · refine r_iconst (v := 0) dX4_isHopeless_29 (by decide) ?_
      exact r_ret rfl rfl dX4_isHopeless_30 (by first | (simp [f_isHopeless, bI, *]; done) | simp_all [f_isHopeless, bI]) rfl
    · refine r_aload_n dX4_isHopeless_22 rfl ?_
      refine r_getp_st (by assumption) (by omega) 4 (by decide) q325 rfl dX4_isHopeless_23 ?_
      refine r_if_ne (tgt := 31) dX4_isHopeless_26 (by decide) (fun c26 => ?_) (fun c26 => ?_)
      · refine r_aload_n dX4_isHopeless_31 rfl ?_
        refine r_getp_st (by assumption) (by omega) 3 (by decide) q403 rfl dX4_isHopeless_32 ?_
        refine r_if_eq (tgt := 57) dX4_isHopeless_35 (by decide) (fun c35 => ?_) (fun c35 => ?_)
        · refine r_aload_n dX4_isHopeless_57 rfl ?_
          refine r_getp_st (by assumption) (by omega) 4 (by decide) q325 rfl dX4_isHopeless_58 ?_
          refine r_iload_n dX4_isHopeless_61 rfl ?_
          refine r_iand dX4_isHopeless_62 ?_
          refine r_if_eq (tgt := 70) dX4_isHopeless_63 (by decide) (fun c63 => ?_) (fun c63 => ?_)
          · refine r_iconst (v := 0) dX4_isHopeless_70 (by decide) ?_
            exact r_ret rfl rfl dX4_isHopeless_71 (by first | (simp [f_isHopeless, bI, *]; done) | simp_all [f_isHopeless, bI]) rfl
          · refine r_iconst (v := 1) dX4_isHopeless_66 (by decide) ?_
            refine r_goto (tgt := 71) dX4_isHopeless_67 (by decide) ?_
            exact r_ret rfl rfl dX4_isHopeless_71 (by first | (simp [f_isHopeless, bI, *]; done) | simp_all [f_isHopeless, bI]) rfl
        · refine r_aload_n dX4_isHopeless_38 rfl ?_
          refine r_getp_st (by assumption) (by omega) 4 (by decide) q325 rfl dX4_isHopeless_39 ?_
          refine r_iload_n dX4_isHopeless_42 rfl ?_
          refine r_iconst (v := -1) dX4_isHopeless_43 (by decide) ?_
          refine r_ixor dX4_isHopeless_44 ?_
          refine r_iand dX4_isHopeless_45 ?_
          refine r_if_ne (tgt := 53) dX4_isHopeless_46 (by decide) (fun c46 => ?_) (fun c46 => ?_)
          · refine r_iconst (v := 0) dX4_isHopeless_53 (by decide) ?_
            refine r_goto (tgt := 71) dX4_isHopeless_54 (by decide) ?_
            exact r_ret rfl rfl dX4_isHopeless_71 (by first | (simp [f_isHopeless, bI, *]; done) | simp_all [f_isHopeless, bI]) rfl
          · refine r_iconst (v := 1) dX4_isHopeless_49 (by decide) ?_
            refine r_goto (tgt := 71) dX4_isHopeless_50 (by decide) ?_
            exact r_ret rfl rfl dX4_isHopeless_71 (by first | (simp [f_isHopeless, bI, *]; done) | simp_all [f_isHopeless, bI]) rfl
      · refine r_iconst (v := 0) dX4_isHopeless_29 (by decide) ?_
        exact r_ret rfl rfl dX4_isHopeless_30 (by first | (simp [f_isHopeless, bI, *]; done) | simp_all [f_isHopeless, bI]) rfl
theorem dX4_lowestHopeless_0 : decode cX4_lowestHopeless 0 = .ok (.iconst 0, 1) := by decide +kernel
theorem dX4_lowestHopeless_1 : decode cX4_lowestHopeless 1 = .ok (.istore_n 2, 1) := by decide +kernel
theorem dX4_lowestHopeless_2 : decode cX4_lowestHopeless 2 = .ok (.iload_n 2, 1) := by decide +kernel
theorem dX4_lowestHopeless_3 : decode cX4_lowestHopeless 3 = .ok (.aload_n 0, 1) := by decide +kernel
theorem dX4_lowestHopeless_4 : decode cX4_lowestHopeless 4 = .ok (.getfield 29, 3) := by decide +kernel
theorem dX4_lowestHopeless_7 : decode cX4_lowestHopeless 7 = .ok (.if_icmp .ge 20, 3) := by decide +kernel
theorem dX4_lowestHopeless_10 : decode cX4_lowestHopeless 10 = .ok (.aload_n 0, 1) := by decide +kernel
theorem dX4_lowestHopeless_11 : decode cX4_lowestHopeless 11 = .ok (.iload_n 2, 1) := by decide +kernel
theorem dX4_lowestHopeless_12 : decode cX4_lowestHopeless 12 = .ok (.iload_n 1, 1) := by decide +kernel
theorem dX4_lowestHopeless_13 : decode cX4_lowestHopeless 13 = .ok (.invokevirtual 167, 3) := by decide +kernel
theorem dX4_lowestHopeless_16 : decode cX4_lowestHopeless 16 = .ok (.ifCond .eq 5, 3) := by decide +kernel
theorem dX4_lowestHopeless_19 : decode cX4_lowestHopeless 19 = .ok (.iload_n 2, 1) := by decide +kernel
theorem dX4_lowestHopeless_20 : decode cX4_lowestHopeless 20 = .ok (.ireturn, 1) := by decide +kernel
theorem dX4_lowestHopeless_21 : decode cX4_lowestHopeless 21 = .ok (.iinc 2 1, 3) := by decide +kernel
theorem dX4_lowestHopeless_24 : decode cX4_lowestHopeless 24 = .ok (.goto (-22), 3) := by decide +kernel
theorem dX4_lowestHopeless_27 : decode cX4_lowestHopeless 27 = .ok (.iconst (-1), 1) := by decide +kernel
theorem dX4_lowestHopeless_28 : decode cX4_lowestHopeless 28 = .ok (.ireturn, 1) := by decide +kernel
theorem dcX4_lowestHopeless : yX4_lowestHopeless.cls = RX4 ∧ yX4_lowestHopeless.cls ≠ "java/lang/invoke/MethodHandle" ∧ yX4_lowestHopeless.cls ≠ "java/lang/invoke/VarHandle" ∧ (parseMethodDescriptor yX4_lowestHopeless.desc).map (fun d => d.parameters.length) = some 1 := by decide +kernel
theorem gX4_lowestHopeless_13 : GoodIn wsL_law (wsV RX4 167 RX4 yX4_isHopeless (.code yX4_isHopeless cX4_isHopeless 4 (some .boolean) :: wsL_law)) := g_V q399 q400 q401 q16 q402
set_option maxRecDepth 100000 in
set_option maxHeartbeats 4000000 in
theorem K_lowH {cA : Nat → ClassId} {ad : tA} {ex : va_W} {M : tM} {r : Nat} {P : tP} {d : Int32} {c : Nat} (hr : isPlan r) (hc : P 0 1 = nI c) (hc2 : c ≤ 12) : Cj yX4_lowestHopeless cX4_lowestHopeless 3 (some .int) (rmd 2) 0 0 cA ad [.ref (ad r 0), .int d] ex (m_pl M r P) (Qe (some (.int (f_lowH P d))) ex (m_pl M r P)) := by
  refine c_of_r (lv0 := [some (.ref (ad r 0)), some (.int d), none]) rfl (by decide +kernel) (Nat.le_of_ble_eq_true rfl) rfl ?_
  have L : ∀ (n i : Nat) , i + n = c → Rj cX4_lowestHopeless RX4 3 (some .int) (rmd 2) 0 0 cA ad (Qe (some (.int (lp_lowH P d n i))) ex (m_pl M r P)) ex 0 0 2 [some (.ref (ad r 0)), some (.int d), some (.int (nI i))] [] (m_pl M r P) := by
    intro n
    induction n with
    | zero =>
      intro i  h
      refine r_iload_n dX4_lowestHopeless_2 rfl ?_
      refine r_aload_n dX4_lowestHopeless_3 rfl ?_
      refine r_getp_pl (by assumption) 1 (by decide) q80 rfl dX4_lowestHopeless_4 ?_
      refine r_icmp_ge (tgt := 27) dX4_lowestHopeless_7 (by decide) (fun c7 => ?_) (fun c7 => absurd (lp_z hc h) c7)
      refine r_iconst (v := -1) dX4_lowestHopeless_27 (by decide) ?_
      exact r_ret rfl rfl dX4_lowestHopeless_28 rfl rfl
    | succ n ih =>
      intro i  h
      refine r_iload_n dX4_lowestHopeless_2 rfl ?_
      refine r_aload_n dX4_lowestHopeless_3 rfl ?_
      refine r_getp_pl (by assumption) 1 (by decide) q80 rfl dX4_lowestHopeless_4 ?_
      refine r_icmp_ge (tgt := 27) dX4_lowestHopeless_7 (by decide) (fun c7 => absurd c7 (lp_s hc hc2 h)) (fun c7 => ?_)
      refine r_aload_n dX4_lowestHopeless_10 rfl ?_
      refine r_iload_n dX4_lowestHopeless_11 rfl ?_
      refine r_iload_n dX4_lowestHopeless_12 rfl ?_
      refine r_cVi dX4_lowestHopeless_13 (K_isHopeless (i := i) (by assumption) (by omega)) gX4_lowestHopeless_13 dcX4_isHopeless rfl rfl rfl (by decide) (ob_pl (by assumption)) ?_
      refine r_if_eq (tgt := 21) dX4_lowestHopeless_16 (by decide) (fun c16 => ?_) (fun c16 => ?_)
      · rw [lp_lowH, bI_0 c16, if_neg (by decide)]
        refine r_iinc dX4_lowestHopeless_21 rfl ii_s (by decide) rfl ?_
        refine r_goto (tgt := 2) dX4_lowestHopeless_24 (by decide) ?_
        exact ih (i + 1)  (by omega)
      · rw [lp_lowH, bI_1 c16, if_pos rfl]
        refine r_iload_n dX4_lowestHopeless_19 rfl ?_
        exact r_ret rfl rfl dX4_lowestHopeless_20 rfl rfl
  refine r_iconst (v := 0) dX4_lowestHopeless_0 (by decide) ?_
  refine r_istore_n dX4_lowestHopeless_1 (by decide) rfl ?_
  rw [f_lowH, cn_of hc hc2]; exact L c 0 (by omega)
theorem dX4_firstToUndo_0 : decode cX4_firstToUndo 0 = .ok (.iconst (-1), 1) := by decide +kernel
theorem dX4_firstToUndo_1 : decode cX4_firstToUndo 1 = .ok (.istore_n 2, 1) := by decide +kernel
theorem dX4_firstToUndo_2 : decode cX4_firstToUndo 2 = .ok (.iconst (-1), 1) := by decide +kernel
theorem dX4_firstToUndo_3 : decode cX4_firstToUndo 3 = .ok (.istore_n 3, 1) := by decide +kernel
theorem dX4_firstToUndo_4 : decode cX4_firstToUndo 4 = .ok (.iconst 0, 1) := by decide +kernel
theorem dX4_firstToUndo_5 : decode cX4_firstToUndo 5 = .ok (.istore 4, 2) := by decide +kernel
theorem dX4_firstToUndo_7 : decode cX4_firstToUndo 7 = .ok (.iload 4, 2) := by decide +kernel
theorem dX4_firstToUndo_9 : decode cX4_firstToUndo 9 = .ok (.aload_n 0, 1) := by decide +kernel
theorem dX4_firstToUndo_10 : decode cX4_firstToUndo 10 = .ok (.getfield 29, 3) := by decide +kernel
theorem dX4_firstToUndo_13 : decode cX4_firstToUndo 13 = .ok (.if_icmp .ge 54, 3) := by decide +kernel
theorem dX4_firstToUndo_16 : decode cX4_firstToUndo 16 = .ok (.aload_n 0, 1) := by decide +kernel
theorem dX4_firstToUndo_17 : decode cX4_firstToUndo 17 = .ok (.getfield 11, 3) := by decide +kernel
theorem dX4_firstToUndo_20 : decode cX4_firstToUndo 20 = .ok (.iload 4, 2) := by decide +kernel
theorem dX4_firstToUndo_22 : decode cX4_firstToUndo 22 = .ok (.aaload, 1) := by decide +kernel
theorem dX4_firstToUndo_23 : decode cX4_firstToUndo 23 = .ok (.astore 5, 2) := by decide +kernel
theorem dX4_firstToUndo_25 : decode cX4_firstToUndo 25 = .ok (.aload 5, 2) := by decide +kernel
theorem dX4_firstToUndo_27 : decode cX4_firstToUndo 27 = .ok (.getfield 84, 3) := by decide +kernel
theorem dX4_firstToUndo_30 : decode cX4_firstToUndo 30 = .ok (.iconst 4, 1) := by decide +kernel
theorem dX4_firstToUndo_31 : decode cX4_firstToUndo 31 = .ok (.if_icmp .ne 30, 3) := by decide +kernel
theorem dX4_firstToUndo_34 : decode cX4_firstToUndo 34 = .ok (.aload 5, 2) := by decide +kernel
theorem dX4_firstToUndo_36 : decode cX4_firstToUndo 36 = .ok (.getfield 129, 3) := by decide +kernel
theorem dX4_firstToUndo_39 : decode cX4_firstToUndo 39 = .ok (.iload_n 1, 1) := by decide +kernel
theorem dX4_firstToUndo_40 : decode cX4_firstToUndo 40 = .ok (.if_icmp .ne 21, 3) := by decide +kernel
theorem dX4_firstToUndo_43 : decode cX4_firstToUndo 43 = .ok (.aload 5, 2) := by decide +kernel
theorem dX4_firstToUndo_45 : decode cX4_firstToUndo 45 = .ok (.getfield 87, 3) := by decide +kernel
theorem dX4_firstToUndo_48 : decode cX4_firstToUndo 48 = .ok (.iload_n 3, 1) := by decide +kernel
theorem dX4_firstToUndo_49 : decode cX4_firstToUndo 49 = .ok (.if_icmp .lt 12, 3) := by decide +kernel
theorem dX4_firstToUndo_52 : decode cX4_firstToUndo 52 = .ok (.iload 4, 2) := by decide +kernel
theorem dX4_firstToUndo_54 : decode cX4_firstToUndo 54 = .ok (.istore_n 2, 1) := by decide +kernel
theorem dX4_firstToUndo_55 : decode cX4_firstToUndo 55 = .ok (.aload 5, 2) := by decide +kernel
theorem dX4_firstToUndo_57 : decode cX4_firstToUndo 57 = .ok (.getfield 87, 3) := by decide +kernel
theorem dX4_firstToUndo_60 : decode cX4_firstToUndo 60 = .ok (.istore_n 3, 1) := by decide +kernel
theorem dX4_firstToUndo_61 : decode cX4_firstToUndo 61 = .ok (.iinc 4 1, 3) := by decide +kernel
theorem dX4_firstToUndo_64 : decode cX4_firstToUndo 64 = .ok (.goto (-57), 3) := by decide +kernel
theorem dX4_firstToUndo_67 : decode cX4_firstToUndo 67 = .ok (.iload_n 2, 1) := by decide +kernel
theorem dX4_firstToUndo_68 : decode cX4_firstToUndo 68 = .ok (.ireturn, 1) := by decide +kernel
theorem dcX4_firstToUndo : yX4_firstToUndo.cls = RX4 ∧ yX4_firstToUndo.cls ≠ "java/lang/invoke/MethodHandle" ∧ yX4_firstToUndo.cls ≠ "java/lang/invoke/VarHandle" ∧ (parseMethodDescriptor yX4_firstToUndo.desc).map (fun d => d.parameters.length) = some 1 := by decide +kernel
set_option maxRecDepth 100000 in
set_option maxHeartbeats 4000000 in
theorem K_ftu {cA : Nat → ClassId} {ad : tA} {ex : va_W} {M : tM} {r : Nat} {P : tP} {b : Int32} {c : Nat} (hr : isPlan r) (hc : P 0 1 = nI c) (hc2 : c ≤ 12) : Cj yX4_firstToUndo cX4_firstToUndo 6 (some .int) (rmd 0) 0 0 cA ad [.ref (ad r 0), .int b] ex (m_pl M r P) (Qe (some (.int (f_ftu P b))) ex (m_pl M r P)) := by
  refine c_of_r (lv0 := [some (.ref (ad r 0)), some (.int b), none, none, none, none]) rfl (by decide +kernel) (Nat.le_of_ble_eq_true rfl) rfl ?_
  have L : ∀ (n i : Nat) (x y : Int32), i + n = c → Rj cX4_firstToUndo RX4 6 (some .int) (rmd 0) 0 0 cA ad (Qe (some (.int (lp_ftu P b n i x y))) ex (m_pl M r P)) ex 0 0 7 [some (.ref (ad r 0)), some (.int b), some (.int x), some (.int y), some (.int (nI i)), none] [] (m_pl M r P) := by
    intro n
    induction n with
    | zero =>
      intro i x y h
      refine r_iload dX4_firstToUndo_7 rfl ?_
      refine r_aload_n dX4_firstToUndo_9 rfl ?_
      refine r_getp_pl (by assumption) 1 (by decide) q80 rfl dX4_firstToUndo_10 ?_
      refine r_icmp_ge (tgt := 67) dX4_firstToUndo_13 (by decide) (fun c13 => ?_) (fun c13 => absurd (lp_z hc h) c13)
      refine r_iload_n dX4_firstToUndo_67 rfl ?_
      exact r_ret rfl rfl dX4_firstToUndo_68 rfl rfl
    | succ n ih =>
      intro i x y h
      refine r_iload dX4_firstToUndo_7 rfl ?_
      refine r_aload_n dX4_firstToUndo_9 rfl ?_
      refine r_getp_pl (by assumption) 1 (by decide) q80 rfl dX4_firstToUndo_10 ?_
      refine r_icmp_ge (tgt := 67) dX4_firstToUndo_13 (by decide) (fun c13 => absurd c13 (lp_s hc hc2 h)) (fun c13 => ?_)
      refine r_aload_n dX4_firstToUndo_16 rfl ?_
      refine r_getp_pl (by assumption) 0 (by decide) q38 rfl dX4_firstToUndo_17 ?_
      refine r_iload dX4_firstToUndo_20 rfl ?_
      refine r_aldp_steps (by assumption) rfl (by omega) dX4_firstToUndo_22 ?_
      refine r_astore dX4_firstToUndo_23 (by decide) rfl ?_
      refine r_aload dX4_firstToUndo_25 rfl ?_
      refine r_getp_st (by assumption) (by omega) 6 (by decide) q168 rfl dX4_firstToUndo_27 ?_
      refine r_iconst (v := 4) dX4_firstToUndo_30 (by decide) ?_
      refine r_icmp_ne (tgt := 61) dX4_firstToUndo_31 (by decide) (fun c31 => ?_) (fun c31 => ?_)
      · rw [lp_ftu, if_neg (fun h => c31 h.1)]
        refine r_iinc dX4_firstToUndo_61 rfl ii_s (by decide) rfl ?_
        refine r_goto (tgt := 7) dX4_firstToUndo_64 (by decide) ?_
        refine r_fgt 5 ?_
        exact ih (i + 1) _ _ (by omega)
      · refine r_aload dX4_firstToUndo_34 rfl ?_
        refine r_getp_st (by assumption) (by omega) 2 (by decide) q345 rfl dX4_firstToUndo_36 ?_
        refine r_iload_n dX4_firstToUndo_39 rfl ?_
        refine r_icmp_ne (tgt := 61) dX4_firstToUndo_40 (by decide) (fun c40 => ?_) (fun c40 => ?_)
        · rw [lp_ftu, if_neg (fun h => c40 h.2.1)]
          refine r_iinc dX4_firstToUndo_61 rfl ii_s (by decide) rfl ?_
          refine r_goto (tgt := 7) dX4_firstToUndo_64 (by decide) ?_
          refine r_fgt 5 ?_
          exact ih (i + 1) _ _ (by omega)
        · refine r_aload dX4_firstToUndo_43 rfl ?_
          refine r_getp_st (by assumption) (by omega) 10 (by decide) q371 rfl dX4_firstToUndo_45 ?_
          refine r_iload_n dX4_firstToUndo_48 rfl ?_
          refine r_icmp_lt (tgt := 61) dX4_firstToUndo_49 (by decide) (fun c49 => ?_) (fun c49 => ?_)
          · rw [lp_ftu, if_neg (fun h => h.2.2 c49)]
            refine r_iinc dX4_firstToUndo_61 rfl ii_s (by decide) rfl ?_
            refine r_goto (tgt := 7) dX4_firstToUndo_64 (by decide) ?_
            refine r_fgt 5 ?_
            exact ih (i + 1) _ _ (by omega)
          · rw [lp_ftu, if_pos ⟨c31, c40, c49⟩]
            refine r_iload dX4_firstToUndo_52 rfl ?_
            refine r_istore_n dX4_firstToUndo_54 (by decide) rfl ?_
            refine r_aload dX4_firstToUndo_55 rfl ?_
            refine r_getp_st (by assumption) (by omega) 10 (by decide) q371 rfl dX4_firstToUndo_57 ?_
            refine r_istore_n dX4_firstToUndo_60 (by decide) rfl ?_
            refine r_iinc dX4_firstToUndo_61 rfl ii_s (by decide) rfl ?_
            refine r_goto (tgt := 7) dX4_firstToUndo_64 (by decide) ?_
            refine r_fgt 5 ?_
            exact ih (i + 1) _ _ (by omega)
  refine r_iconst (v := -1) dX4_firstToUndo_0 (by decide) ?_
  refine r_istore_n dX4_firstToUndo_1 (by decide) rfl ?_
  refine r_iconst (v := -1) dX4_firstToUndo_2 (by decide) ?_
  refine r_istore_n dX4_firstToUndo_3 (by decide) rfl ?_
  refine r_iconst (v := 0) dX4_firstToUndo_4 (by decide) ?_
  refine r_istore dX4_firstToUndo_5 (by decide) rfl ?_
  rw [f_ftu, cn_of hc hc2]; exact L c 0 (-1) (-1) (by omega)
theorem dX4_firstToBegin_0 : decode cX4_firstToBegin 0 = .ok (.iconst (-1), 1) := by decide +kernel
theorem dX4_firstToBegin_1 : decode cX4_firstToBegin 1 = .ok (.istore_n 2, 1) := by decide +kernel
theorem dX4_firstToBegin_2 : decode cX4_firstToBegin 2 = .ok (.sipush 1001, 3) := by decide +kernel
theorem dX4_firstToBegin_5 : decode cX4_firstToBegin 5 = .ok (.istore_n 3, 1) := by decide +kernel
theorem dX4_firstToBegin_6 : decode cX4_firstToBegin 6 = .ok (.iconst 0, 1) := by decide +kernel
theorem dX4_firstToBegin_7 : decode cX4_firstToBegin 7 = .ok (.istore 4, 2) := by decide +kernel
theorem dX4_firstToBegin_9 : decode cX4_firstToBegin 9 = .ok (.iload 4, 2) := by decide +kernel
theorem dX4_firstToBegin_11 : decode cX4_firstToBegin 11 = .ok (.aload_n 0, 1) := by decide +kernel
theorem dX4_firstToBegin_12 : decode cX4_firstToBegin 12 = .ok (.getfield 29, 3) := by decide +kernel
theorem dX4_firstToBegin_15 : decode cX4_firstToBegin 15 = .ok (.if_icmp .ge 63, 3) := by decide +kernel
theorem dX4_firstToBegin_18 : decode cX4_firstToBegin 18 = .ok (.aload_n 0, 1) := by decide +kernel
theorem dX4_firstToBegin_19 : decode cX4_firstToBegin 19 = .ok (.getfield 11, 3) := by decide +kernel
theorem dX4_firstToBegin_22 : decode cX4_firstToBegin 22 = .ok (.iload 4, 2) := by decide +kernel
theorem dX4_firstToBegin_24 : decode cX4_firstToBegin 24 = .ok (.aaload, 1) := by decide +kernel
theorem dX4_firstToBegin_25 : decode cX4_firstToBegin 25 = .ok (.astore 5, 2) := by decide +kernel
theorem dX4_firstToBegin_27 : decode cX4_firstToBegin 27 = .ok (.aload 5, 2) := by decide +kernel
theorem dX4_firstToBegin_29 : decode cX4_firstToBegin 29 = .ok (.getfield 84, 3) := by decide +kernel
theorem dX4_firstToBegin_32 : decode cX4_firstToBegin 32 = .ok (.ifCond .eq 12, 3) := by decide +kernel
theorem dX4_firstToBegin_35 : decode cX4_firstToBegin 35 = .ok (.aload 5, 2) := by decide +kernel
theorem dX4_firstToBegin_37 : decode cX4_firstToBegin 37 = .ok (.getfield 84, 3) := by decide +kernel
theorem dX4_firstToBegin_40 : decode cX4_firstToBegin 40 = .ok (.iconst 2, 1) := by decide +kernel
theorem dX4_firstToBegin_41 : decode cX4_firstToBegin 41 = .ok (.if_icmp .ne 31, 3) := by decide +kernel
theorem dX4_firstToBegin_44 : decode cX4_firstToBegin 44 = .ok (.aload 5, 2) := by decide +kernel
theorem dX4_firstToBegin_46 : decode cX4_firstToBegin 46 = .ok (.getfield 81, 3) := by decide +kernel
theorem dX4_firstToBegin_49 : decode cX4_firstToBegin 49 = .ok (.iload_n 3, 1) := by decide +kernel
theorem dX4_firstToBegin_50 : decode cX4_firstToBegin 50 = .ok (.if_icmp .ge 22, 3) := by decide +kernel
theorem dX4_firstToBegin_53 : decode cX4_firstToBegin 53 = .ok (.aload_n 0, 1) := by decide +kernel
theorem dX4_firstToBegin_54 : decode cX4_firstToBegin 54 = .ok (.iload 4, 2) := by decide +kernel
theorem dX4_firstToBegin_56 : decode cX4_firstToBegin 56 = .ok (.iload_n 1, 1) := by decide +kernel
theorem dX4_firstToBegin_57 : decode cX4_firstToBegin 57 = .ok (.invokevirtual 176, 3) := by decide +kernel
theorem dX4_firstToBegin_60 : decode cX4_firstToBegin 60 = .ok (.ifCond .eq 12, 3) := by decide +kernel
theorem dX4_firstToBegin_63 : decode cX4_firstToBegin 63 = .ok (.iload 4, 2) := by decide +kernel
theorem dX4_firstToBegin_65 : decode cX4_firstToBegin 65 = .ok (.istore_n 2, 1) := by decide +kernel
theorem dX4_firstToBegin_66 : decode cX4_firstToBegin 66 = .ok (.aload 5, 2) := by decide +kernel
theorem dX4_firstToBegin_68 : decode cX4_firstToBegin 68 = .ok (.getfield 81, 3) := by decide +kernel
theorem dX4_firstToBegin_71 : decode cX4_firstToBegin 71 = .ok (.istore_n 3, 1) := by decide +kernel
theorem dX4_firstToBegin_72 : decode cX4_firstToBegin 72 = .ok (.iinc 4 1, 3) := by decide +kernel
theorem dX4_firstToBegin_75 : decode cX4_firstToBegin 75 = .ok (.goto (-66), 3) := by decide +kernel
theorem dX4_firstToBegin_78 : decode cX4_firstToBegin 78 = .ok (.iload_n 2, 1) := by decide +kernel
theorem dX4_firstToBegin_79 : decode cX4_firstToBegin 79 = .ok (.ireturn, 1) := by decide +kernel
theorem dcX4_firstToBegin : yX4_firstToBegin.cls = RX4 ∧ yX4_firstToBegin.cls ≠ "java/lang/invoke/MethodHandle" ∧ yX4_firstToBegin.cls ≠ "java/lang/invoke/VarHandle" ∧ (parseMethodDescriptor yX4_firstToBegin.desc).map (fun d => d.parameters.length) = some 1 := by decide +kernel
theorem gX4_firstToBegin_57 : GoodIn wsL_law (wsV RX4 176 RX4 yX4_isReady (.code yX4_isReady cX4_isReady 4 (some .boolean) :: wsL_law)) := g_V q413 q414 q415 q16 q416
set_option maxRecDepth 100000 in
set_option maxHeartbeats 4000000 in
theorem K_ftb {cA : Nat → ClassId} {ad : tA} {ex : va_W} {M : tM} {r : Nat} {P : tP} {d : Int32} {c : Nat} (hr : isPlan r) (hc : P 0 1 = nI c) (hc2 : c ≤ 12) : Cj yX4_firstToBegin cX4_firstToBegin 6 (some .int) (rmd 1) 0 0 cA ad [.ref (ad r 0), .int d] ex (m_pl M r P) (Qe (some (.int (f_ftb P d))) ex (m_pl M r P)) := by
  refine c_of_r (lv0 := [some (.ref (ad r 0)), some (.int d), none, none, none, none]) rfl (by decide +kernel) (Nat.le_of_ble_eq_true rfl) rfl ?_
  have L : ∀ (n i : Nat) (x y : Int32), i + n = c → Rj cX4_firstToBegin RX4 6 (some .int) (rmd 1) 0 0 cA ad (Qe (some (.int (lp_ftb P d n i x y))) ex (m_pl M r P)) ex 0 0 9 [some (.ref (ad r 0)), some (.int d), some (.int x), some (.int y), some (.int (nI i)), none] [] (m_pl M r P) := by
    intro n
    induction n with
    | zero =>
      intro i x y h
      refine r_iload dX4_firstToBegin_9 rfl ?_
      refine r_aload_n dX4_firstToBegin_11 rfl ?_
      refine r_getp_pl (by assumption) 1 (by decide) q80 rfl dX4_firstToBegin_12 ?_
      refine r_icmp_ge (tgt := 78) dX4_firstToBegin_15 (by decide) (fun c15 => ?_) (fun c15 => absurd (lp_z hc h) c15)
      refine r_iload_n dX4_firstToBegin_78 rfl ?_
      exact r_ret rfl rfl dX4_firstToBegin_79 rfl rfl
    | succ n ih =>
      intro i x y h
      refine r_iload dX4_firstToBegin_9 rfl ?_
      refine r_aload_n dX4_firstToBegin_11 rfl ?_
      refine r_getp_pl (by assumption) 1 (by decide) q80 rfl dX4_firstToBegin_12 ?_
      refine r_icmp_ge (tgt := 78) dX4_firstToBegin_15 (by decide) (fun c15 => absurd c15 (lp_s hc hc2 h)) (fun c15 => ?_)
      refine r_aload_n dX4_firstToBegin_18 rfl ?_
      refine r_getp_pl (by assumption) 0 (by decide) q38 rfl dX4_firstToBegin_19 ?_
      refine r_iload dX4_firstToBegin_22 rfl ?_
      refine r_aldp_steps (by assumption) rfl (by omega) dX4_firstToBegin_24 ?_
      refine r_astore dX4_firstToBegin_25 (by decide) rfl ?_
      refine r_aload dX4_firstToBegin_27 rfl ?_
      refine r_getp_st (by assumption) (by omega) 6 (by decide) q168 rfl dX4_firstToBegin_29 ?_
      refine r_if_eq (tgt := 44) dX4_firstToBegin_32 (by decide) (fun c32 => ?_) (fun c32 => ?_)
      · refine r_aload dX4_firstToBegin_44 rfl ?_
        refine r_getp_st (by assumption) (by omega) 5 (by decide) q357 rfl dX4_firstToBegin_46 ?_
        refine r_iload_n dX4_firstToBegin_49 rfl ?_
        refine r_icmp_ge (tgt := 72) dX4_firstToBegin_50 (by decide) (fun c50 => ?_) (fun c50 => ?_)
        · rw [lp_ftb, if_neg (fun h => h.2.1 c50)]
          refine r_iinc dX4_firstToBegin_72 rfl ii_s (by decide) rfl ?_
          refine r_goto (tgt := 9) dX4_firstToBegin_75 (by decide) ?_
          refine r_fgt 5 ?_
          exact ih (i + 1) _ _ (by omega)
        · refine r_aload_n dX4_firstToBegin_53 rfl ?_
          refine r_iload dX4_firstToBegin_54 rfl ?_
          refine r_iload_n dX4_firstToBegin_56 rfl ?_
          refine r_cVi dX4_firstToBegin_57 (K_isReady (i := i) (by assumption) (by omega)) gX4_firstToBegin_57 dcX4_isReady rfl rfl rfl (by decide) (ob_pl (by assumption)) ?_
          refine r_if_eq (tgt := 72) dX4_firstToBegin_60 (by decide) (fun c60 => ?_) (fun c60 => ?_)
          · rw [lp_ftb, if_neg (fun h => absurd h.2.2 (by rw [bI_0 c60]; decide))]
            refine r_iinc dX4_firstToBegin_72 rfl ii_s (by decide) rfl ?_
            refine r_goto (tgt := 9) dX4_firstToBegin_75 (by decide) ?_
            refine r_fgt 5 ?_
            exact ih (i + 1) _ _ (by omega)
          · rw [lp_ftb, if_pos ⟨by first | exact Or.inl c32 | exact Or.inr (c41), c50, bI_1 c60⟩]
            refine r_iload dX4_firstToBegin_63 rfl ?_
            refine r_istore_n dX4_firstToBegin_65 (by decide) rfl ?_
            refine r_aload dX4_firstToBegin_66 rfl ?_
            refine r_getp_st (by assumption) (by omega) 5 (by decide) q357 rfl dX4_firstToBegin_68 ?_
            refine r_istore_n dX4_firstToBegin_71 (by decide) rfl ?_
            refine r_iinc dX4_firstToBegin_72 rfl ii_s (by decide) rfl ?_
            refine r_goto (tgt := 9) dX4_firstToBegin_75 (by decide) ?_
            refine r_fgt 5 ?_
            exact ih (i + 1) _ _ (by omega)
      · refine r_aload dX4_firstToBegin_35 rfl ?_
        refine r_getp_st (by assumption) (by omega) 6 (by decide) q168 rfl dX4_firstToBegin_37 ?_
        refine r_iconst (v := 2) dX4_firstToBegin_40 (by decide) ?_
        refine r_icmp_ne (tgt := 72) dX4_firstToBegin_41 (by decide) (fun c41 => ?_) (fun c41 => ?_)
        · rw [lp_ftb, if_neg (fun h => h.1.elim c32 c41)]
          refine r_iinc dX4_firstToBegin_72 rfl ii_s (by decide) rfl ?_
          refine r_goto (tgt := 9) dX4_firstToBegin_75 (by decide) ?_
          refine r_fgt 5 ?_
          exact ih (i + 1) _ _ (by omega)
        · refine r_aload dX4_firstToBegin_44 rfl ?_
          refine r_getp_st (by assumption) (by omega) 5 (by decide) q357 rfl dX4_firstToBegin_46 ?_
          refine r_iload_n dX4_firstToBegin_49 rfl ?_
          refine r_icmp_ge (tgt := 72) dX4_firstToBegin_50 (by decide) (fun c50 => ?_) (fun c50 => ?_)
          · rw [lp_ftb, if_neg (fun h => h.2.1 c50)]
            refine r_iinc dX4_firstToBegin_72 rfl ii_s (by decide) rfl ?_
            refine r_goto (tgt := 9) dX4_firstToBegin_75 (by decide) ?_
            refine r_fgt 5 ?_
            exact ih (i + 1) _ _ (by omega)
          · refine r_aload_n dX4_firstToBegin_53 rfl ?_
            refine r_iload dX4_firstToBegin_54 rfl ?_
            refine r_iload_n dX4_firstToBegin_56 rfl ?_
            refine r_cVi dX4_firstToBegin_57 (K_isReady (i := i) (by assumption) (by omega)) gX4_firstToBegin_57 dcX4_isReady rfl rfl rfl (by decide) (ob_pl (by assumption)) ?_
            refine r_if_eq (tgt := 72) dX4_firstToBegin_60 (by decide) (fun c60 => ?_) (fun c60 => ?_)
            · rw [lp_ftb, if_neg (fun h => absurd h.2.2 (by rw [bI_0 c60]; decide))]
              refine r_iinc dX4_firstToBegin_72 rfl ii_s (by decide) rfl ?_
              refine r_goto (tgt := 9) dX4_firstToBegin_75 (by decide) ?_
              refine r_fgt 5 ?_
              exact ih (i + 1) _ _ (by omega)
            · rw [lp_ftb, if_pos ⟨by first | exact Or.inl c32 | exact Or.inr (c41), c50, bI_1 c60⟩]
              refine r_iload dX4_firstToBegin_63 rfl ?_
              refine r_istore_n dX4_firstToBegin_65 (by decide) rfl ?_
              refine r_aload dX4_firstToBegin_66 rfl ?_
              refine r_getp_st (by assumption) (by omega) 5 (by decide) q357 rfl dX4_firstToBegin_68 ?_
              refine r_istore_n dX4_firstToBegin_71 (by decide) rfl ?_
              refine r_iinc dX4_firstToBegin_72 rfl ii_s (by decide) rfl ?_
              refine r_goto (tgt := 9) dX4_firstToBegin_75 (by decide) ?_
              refine r_fgt 5 ?_
              exact ih (i + 1) _ _ (by omega)
  refine r_iconst (v := -1) dX4_firstToBegin_0 (by decide) ?_
  refine r_istore_n dX4_firstToBegin_1 (by decide) rfl ?_
  refine r_sipush (v := 1001) dX4_firstToBegin_2 (by decide) ?_
  refine r_istore_n dX4_firstToBegin_5 (by decide) rfl ?_
  refine r_iconst (v := 0) dX4_firstToBegin_6 (by decide) ?_
  refine r_istore dX4_firstToBegin_7 (by decide) rfl ?_
  rw [f_ftb, cn_of hc hc2]; exact L c 0 (-1) 1001 (by omega)
theorem dX4_isRankedAhead_0 : decode cX4_isRankedAhead 0 = .ok (.aload_n 0, 1) := by decide +kernel
theorem dX4_isRankedAhead_1 : decode cX4_isRankedAhead 1 = .ok (.getfield 11, 3) := by decide +kernel
theorem dX4_isRankedAhead_4 : decode cX4_isRankedAhead 4 = .ok (.iload_n 1, 1) := by decide +kernel
theorem dX4_isRankedAhead_5 : decode cX4_isRankedAhead 5 = .ok (.aaload, 1) := by decide +kernel
theorem dX4_isRankedAhead_6 : decode cX4_isRankedAhead 6 = .ok (.astore_n 3, 1) := by decide +kernel
theorem dX4_isRankedAhead_7 : decode cX4_isRankedAhead 7 = .ok (.aload_n 0, 1) := by decide +kernel
theorem dX4_isRankedAhead_8 : decode cX4_isRankedAhead 8 = .ok (.getfield 11, 3) := by decide +kernel
theorem dX4_isRankedAhead_11 : decode cX4_isRankedAhead 11 = .ok (.iload_n 2, 1) := by decide +kernel
theorem dX4_isRankedAhead_12 : decode cX4_isRankedAhead 12 = .ok (.aaload, 1) := by decide +kernel
theorem dX4_isRankedAhead_13 : decode cX4_isRankedAhead 13 = .ok (.astore 4, 2) := by decide +kernel
theorem dX4_isRankedAhead_15 : decode cX4_isRankedAhead 15 = .ok (.aload_n 3, 1) := by decide +kernel
theorem dX4_isRankedAhead_16 : decode cX4_isRankedAhead 16 = .ok (.getfield 123, 3) := by decide +kernel
theorem dX4_isRankedAhead_19 : decode cX4_isRankedAhead 19 = .ok (.aload 4, 2) := by decide +kernel
theorem dX4_isRankedAhead_21 : decode cX4_isRankedAhead 21 = .ok (.getfield 123, 3) := by decide +kernel
theorem dX4_isRankedAhead_24 : decode cX4_isRankedAhead 24 = .ok (.if_icmp .eq 21, 3) := by decide +kernel
theorem dX4_isRankedAhead_27 : decode cX4_isRankedAhead 27 = .ok (.aload_n 3, 1) := by decide +kernel
theorem dX4_isRankedAhead_28 : decode cX4_isRankedAhead 28 = .ok (.getfield 123, 3) := by decide +kernel
theorem dX4_isRankedAhead_31 : decode cX4_isRankedAhead 31 = .ok (.aload 4, 2) := by decide +kernel
theorem dX4_isRankedAhead_33 : decode cX4_isRankedAhead 33 = .ok (.getfield 123, 3) := by decide +kernel
theorem dX4_isRankedAhead_36 : decode cX4_isRankedAhead 36 = .ok (.if_icmp .le 7, 3) := by decide +kernel
theorem dX4_isRankedAhead_39 : decode cX4_isRankedAhead 39 = .ok (.iconst 1, 1) := by decide +kernel
theorem dX4_isRankedAhead_40 : decode cX4_isRankedAhead 40 = .ok (.goto 4, 3) := by decide +kernel
theorem dX4_isRankedAhead_43 : decode cX4_isRankedAhead 43 = .ok (.iconst 0, 1) := by decide +kernel
theorem dX4_isRankedAhead_44 : decode cX4_isRankedAhead 44 = .ok (.ireturn, 1) := by decide +kernel
theorem dX4_isRankedAhead_45 : decode cX4_isRankedAhead 45 = .ok (.aload_n 3, 1) := by decide +kernel
theorem dX4_isRankedAhead_46 : decode cX4_isRankedAhead 46 = .ok (.getfield 126, 3) := by decide +kernel
theorem dX4_isRankedAhead_49 : decode cX4_isRankedAhead 49 = .ok (.aload 4, 2) := by decide +kernel
theorem dX4_isRankedAhead_51 : decode cX4_isRankedAhead 51 = .ok (.getfield 126, 3) := by decide +kernel
theorem dX4_isRankedAhead_54 : decode cX4_isRankedAhead 54 = .ok (.if_icmp .eq 21, 3) := by decide +kernel
theorem dX4_isRankedAhead_57 : decode cX4_isRankedAhead 57 = .ok (.aload_n 3, 1) := by decide +kernel
theorem dX4_isRankedAhead_58 : decode cX4_isRankedAhead 58 = .ok (.getfield 126, 3) := by decide +kernel
theorem dX4_isRankedAhead_61 : decode cX4_isRankedAhead 61 = .ok (.aload 4, 2) := by decide +kernel
theorem dX4_isRankedAhead_63 : decode cX4_isRankedAhead 63 = .ok (.getfield 126, 3) := by decide +kernel
theorem dX4_isRankedAhead_66 : decode cX4_isRankedAhead 66 = .ok (.if_icmp .le 7, 3) := by decide +kernel
theorem dX4_isRankedAhead_69 : decode cX4_isRankedAhead 69 = .ok (.iconst 1, 1) := by decide +kernel
theorem dX4_isRankedAhead_70 : decode cX4_isRankedAhead 70 = .ok (.goto 4, 3) := by decide +kernel
theorem dX4_isRankedAhead_73 : decode cX4_isRankedAhead 73 = .ok (.iconst 0, 1) := by decide +kernel
theorem dX4_isRankedAhead_74 : decode cX4_isRankedAhead 74 = .ok (.ireturn, 1) := by decide +kernel
theorem dX4_isRankedAhead_75 : decode cX4_isRankedAhead 75 = .ok (.iload_n 1, 1) := by decide +kernel
theorem dX4_isRankedAhead_76 : decode cX4_isRankedAhead 76 = .ok (.iload_n 2, 1) := by decide +kernel
theorem dX4_isRankedAhead_77 : decode cX4_isRankedAhead 77 = .ok (.if_icmp .ge 7, 3) := by decide +kernel
theorem dX4_isRankedAhead_80 : decode cX4_isRankedAhead 80 = .ok (.iconst 1, 1) := by decide +kernel
theorem dX4_isRankedAhead_81 : decode cX4_isRankedAhead 81 = .ok (.goto 4, 3) := by decide +kernel
theorem dX4_isRankedAhead_84 : decode cX4_isRankedAhead 84 = .ok (.iconst 0, 1) := by decide +kernel
theorem dX4_isRankedAhead_85 : decode cX4_isRankedAhead 85 = .ok (.ireturn, 1) := by decide +kernel
theorem dcX4_isRankedAhead : yX4_isRankedAhead.cls = RX4 ∧ yX4_isRankedAhead.cls ≠ "java/lang/invoke/MethodHandle" ∧ yX4_isRankedAhead.cls ≠ "java/lang/invoke/VarHandle" ∧ (parseMethodDescriptor yX4_isRankedAhead.desc).map (fun d => d.parameters.length) = some 2 := by decide +kernel
set_option maxRecDepth 100000 in
set_option maxHeartbeats 4000000 in
theorem K_ahead {cA : Nat → ClassId} {ad : tA} {ex : va_W} {M : tM} {r : Nat} {P : tP} {i j : Nat} (hr : isPlan r) (hi : i < 12) (hj : j < 12) : Cj yX4_isRankedAhead cX4_isRankedAhead 5 (some .boolean) (rmd 0) 0 0 cA ad [.ref (ad r 0), .int (nI i), .int (nI j)] ex (m_pl M r P) (Qe (some (.int (bI (f_ahead P i j)))) ex (m_pl M r P)) := by
  refine c_of_r (lv0 := [some (.ref (ad r 0)), some (.int (nI i)), some (.int (nI j)), none, none]) rfl (by decide +kernel) (Nat.le_of_ble_eq_true rfl) rfl ?_
  refine r_aload_n dX4_isRankedAhead_0 rfl ?_
  refine r_getp_pl (by assumption) 0 (by decide) q38 rfl dX4_isRankedAhead_1 ?_
  refine r_iload_n dX4_isRankedAhead_4 rfl ?_
  refine r_aldp_steps (by assumption) rfl (by omega) dX4_isRankedAhead_5 ?_
  refine r_astore_n dX4_isRankedAhead_6 (by decide) rfl ?_
  refine r_aload_n dX4_isRankedAhead_7 rfl ?_
  refine r_getp_pl (by assumption) 0 (by decide) q38 rfl dX4_isRankedAhead_8 ?_
  refine r_iload_n dX4_isRankedAhead_11 rfl ?_
  refine r_aldp_steps (by assumption) rfl (by omega) dX4_isRankedAhead_12 ?_
  refine r_astore dX4_isRankedAhead_13 (by decide) rfl ?_
  refine r_aload_n dX4_isRankedAhead_15 rfl ?_
  refine r_getp_st (by assumption) (by omega) 8 (by decide) q372 rfl dX4_isRankedAhead_16 ?_
  refine r_aload dX4_isRankedAhead_19 rfl ?_
  refine r_getp_st (by assumption) (by omega) 8 (by decide) q372 rfl dX4_isRankedAhead_21 ?_
  refine r_icmp_eq (tgt := 45) dX4_isRankedAhead_24 (by decide) (fun c24 => ?_) (fun c24 => ?_)
  · refine r_aload_n dX4_isRankedAhead_45 rfl ?_
    refine r_getp_st (by assumption) (by omega) 0 (by decide) q346 rfl dX4_isRankedAhead_46 ?_
    refine r_aload dX4_isRankedAhead_49 rfl ?_
    refine r_getp_st (by assumption) (by omega) 0 (by decide) q346 rfl dX4_isRankedAhead_51 ?_
    refine r_icmp_eq (tgt := 75) dX4_isRankedAhead_54 (by decide) (fun c54 => ?_) (fun c54 => ?_)
    · refine r_iload_n dX4_isRankedAhead_75 rfl ?_
      refine r_iload_n dX4_isRankedAhead_76 rfl ?_
      refine r_icmp_ge (tgt := 84) dX4_isRankedAhead_77 (by decide) (fun c77 => ?_) (fun c77 => ?_)
      · refine r_iconst (v := 0) dX4_isRankedAhead_84 (by decide) ?_
        exact r_ret rfl rfl dX4_isRankedAhead_85 (by first | (simp [f_ahead, bI, *]; done) | simp_all [f_ahead, bI]) rfl
      · refine r_iconst (v := 1) dX4_isRankedAhead_80 (by decide) ?_
        refine r_goto (tgt := 85) dX4_isRankedAhead_81 (by decide) ?_
        exact r_ret rfl rfl dX4_isRankedAhead_85 (by first | (simp [f_ahead, bI, *]; done) | simp_all [f_ahead, bI]) rfl
    · refine r_aload_n dX4_isRankedAhead_57 rfl ?_
      refine r_getp_st (by assumption) (by omega) 0 (by decide) q346 rfl dX4_isRankedAhead_58 ?_
      refine r_aload dX4_isRankedAhead_61 rfl ?_
      refine r_getp_st (by assumption) (by omega) 0 (by decide) q346 rfl dX4_isRankedAhead_63 ?_
      refine r_icmp_le (tgt := 73) dX4_isRankedAhead_66 (by decide) (fun c66 => ?_) (fun c66 => ?_)
      · refine r_iconst (v := 0) dX4_isRankedAhead_73 (by decide) ?_
        exact r_ret rfl rfl dX4_isRankedAhead_74 (by first | (simp [f_ahead, bI, *]; done) | simp_all [f_ahead, bI]) rfl
      · refine r_iconst (v := 1) dX4_isRankedAhead_69 (by decide) ?_
        refine r_goto (tgt := 74) dX4_isRankedAhead_70 (by decide) ?_
        exact r_ret rfl rfl dX4_isRankedAhead_74 (by first | (simp [f_ahead, bI, *]; done) | simp_all [f_ahead, bI]) rfl
  · refine r_aload_n dX4_isRankedAhead_27 rfl ?_
    refine r_getp_st (by assumption) (by omega) 8 (by decide) q372 rfl dX4_isRankedAhead_28 ?_
    refine r_aload dX4_isRankedAhead_31 rfl ?_
    refine r_getp_st (by assumption) (by omega) 8 (by decide) q372 rfl dX4_isRankedAhead_33 ?_
    refine r_icmp_le (tgt := 43) dX4_isRankedAhead_36 (by decide) (fun c36 => ?_) (fun c36 => ?_)
    · refine r_iconst (v := 0) dX4_isRankedAhead_43 (by decide) ?_
      exact r_ret rfl rfl dX4_isRankedAhead_44 (by first | (simp [f_ahead, bI, *]; done) | simp_all [f_ahead, bI]) rfl
    · refine r_iconst (v := 1) dX4_isRankedAhead_39 (by decide) ?_
      refine r_goto (tgt := 44) dX4_isRankedAhead_40 (by decide) ?_
      exact r_ret rfl rfl dX4_isRankedAhead_44 (by first | (simp [f_ahead, bI, *]; done) | simp_all [f_ahead, bI]) rfl
theorem dX4_stepsAheadOf_0 : decode cX4_stepsAheadOf 0 = .ok (.iconst 0, 1) := by decide +kernel
theorem dX4_stepsAheadOf_1 : decode cX4_stepsAheadOf 1 = .ok (.istore_n 2, 1) := by decide +kernel
theorem dX4_stepsAheadOf_2 : decode cX4_stepsAheadOf 2 = .ok (.iconst 0, 1) := by decide +kernel
theorem dX4_stepsAheadOf_3 : decode cX4_stepsAheadOf 3 = .ok (.istore_n 3, 1) := by decide +kernel
theorem dX4_stepsAheadOf_4 : decode cX4_stepsAheadOf 4 = .ok (.iload_n 3, 1) := by decide +kernel
theorem dX4_stepsAheadOf_5 : decode cX4_stepsAheadOf 5 = .ok (.aload_n 0, 1) := by decide +kernel
theorem dX4_stepsAheadOf_6 : decode cX4_stepsAheadOf 6 = .ok (.getfield 29, 3) := by decide +kernel
theorem dX4_stepsAheadOf_9 : decode cX4_stepsAheadOf 9 = .ok (.if_icmp .ge 26, 3) := by decide +kernel
theorem dX4_stepsAheadOf_12 : decode cX4_stepsAheadOf 12 = .ok (.iload_n 3, 1) := by decide +kernel
theorem dX4_stepsAheadOf_13 : decode cX4_stepsAheadOf 13 = .ok (.iload_n 1, 1) := by decide +kernel
theorem dX4_stepsAheadOf_14 : decode cX4_stepsAheadOf 14 = .ok (.if_icmp .eq 15, 3) := by decide +kernel
theorem dX4_stepsAheadOf_17 : decode cX4_stepsAheadOf 17 = .ok (.aload_n 0, 1) := by decide +kernel
theorem dX4_stepsAheadOf_18 : decode cX4_stepsAheadOf 18 = .ok (.iload_n 3, 1) := by decide +kernel
theorem dX4_stepsAheadOf_19 : decode cX4_stepsAheadOf 19 = .ok (.iload_n 1, 1) := by decide +kernel
theorem dX4_stepsAheadOf_20 : decode cX4_stepsAheadOf 20 = .ok (.invokevirtual 119, 3) := by decide +kernel
theorem dX4_stepsAheadOf_23 : decode cX4_stepsAheadOf 23 = .ok (.ifCond .eq 6, 3) := by decide +kernel
theorem dX4_stepsAheadOf_26 : decode cX4_stepsAheadOf 26 = .ok (.iinc 2 1, 3) := by decide +kernel
theorem dX4_stepsAheadOf_29 : decode cX4_stepsAheadOf 29 = .ok (.iinc 3 1, 3) := by decide +kernel
theorem dX4_stepsAheadOf_32 : decode cX4_stepsAheadOf 32 = .ok (.goto (-28), 3) := by decide +kernel
theorem dX4_stepsAheadOf_35 : decode cX4_stepsAheadOf 35 = .ok (.iload_n 2, 1) := by decide +kernel
theorem dX4_stepsAheadOf_36 : decode cX4_stepsAheadOf 36 = .ok (.ireturn, 1) := by decide +kernel
theorem dcX4_stepsAheadOf : yX4_stepsAheadOf.cls = RX4 ∧ yX4_stepsAheadOf.cls ≠ "java/lang/invoke/MethodHandle" ∧ yX4_stepsAheadOf.cls ≠ "java/lang/invoke/VarHandle" ∧ (parseMethodDescriptor yX4_stepsAheadOf.desc).map (fun d => d.parameters.length) = some 1 := by decide +kernel
theorem gX4_stepsAheadOf_20 : GoodIn wsL_law (wsV RX4 119 RX4 yX4_isRankedAhead (.code yX4_isRankedAhead cX4_isRankedAhead 5 (some .boolean) :: wsL_law)) := g_V q553 q554 q555 q16 q556
set_option maxRecDepth 100000 in
set_option maxHeartbeats 4000000 in
theorem K_sao {cA : Nat → ClassId} {ad : tA} {ex : va_W} {M : tM} {r : Nat} {P : tP} {j : Nat} {c : Nat} (hr : isPlan r) (hc : P 0 1 = nI c) (hc2 : c ≤ 12) (hj : j < 12) : Cj yX4_stepsAheadOf cX4_stepsAheadOf 4 (some .int) (rmd 1) 0 0 cA ad [.ref (ad r 0), .int (nI j)] ex (m_pl M r P) (Qe (some (.int (f_sao P j))) ex (m_pl M r P)) := by
  refine c_of_r (lv0 := [some (.ref (ad r 0)), some (.int (nI j)), none, none]) rfl (by decide +kernel) (Nat.le_of_ble_eq_true rfl) rfl ?_
  have L : ∀ (n i : Nat) (x : Int32), i + n = c → Rj cX4_stepsAheadOf RX4 4 (some .int) (rmd 1) 0 0 cA ad (Qe (some (.int (lp_sao P j n i x))) ex (m_pl M r P)) ex 0 0 4 [some (.ref (ad r 0)), some (.int (nI j)), some (.int x), some (.int (nI i))] [] (m_pl M r P) := by
    intro n
    induction n with
    | zero =>
      intro i x h
      refine r_iload_n dX4_stepsAheadOf_4 rfl ?_
      refine r_aload_n dX4_stepsAheadOf_5 rfl ?_
      refine r_getp_pl (by assumption) 1 (by decide) q80 rfl dX4_stepsAheadOf_6 ?_
      refine r_icmp_ge (tgt := 35) dX4_stepsAheadOf_9 (by decide) (fun c9 => ?_) (fun c9 => absurd (lp_z hc h) c9)
      refine r_iload_n dX4_stepsAheadOf_35 rfl ?_
      exact r_ret rfl rfl dX4_stepsAheadOf_36 rfl rfl
    | succ n ih =>
      intro i x h
      refine r_iload_n dX4_stepsAheadOf_4 rfl ?_
      refine r_aload_n dX4_stepsAheadOf_5 rfl ?_
      refine r_getp_pl (by assumption) 1 (by decide) q80 rfl dX4_stepsAheadOf_6 ?_
      refine r_icmp_ge (tgt := 35) dX4_stepsAheadOf_9 (by decide) (fun c9 => absurd c9 (lp_s hc hc2 h)) (fun c9 => ?_)
      refine r_iload_n dX4_stepsAheadOf_12 rfl ?_
      refine r_iload_n dX4_stepsAheadOf_13 rfl ?_
      refine r_icmp_eq (tgt := 29) dX4_stepsAheadOf_14 (by decide) (fun c14 => ?_) (fun c14 => ?_)
      · rw [lp_sao, if_pos c14]
        refine r_iinc dX4_stepsAheadOf_29 rfl ii_s (by decide) rfl ?_
        refine r_goto (tgt := 4) dX4_stepsAheadOf_32 (by decide) ?_
        exact ih (i + 1) _ (by omega)
      · refine r_aload_n dX4_stepsAheadOf_17 rfl ?_
        refine r_iload_n dX4_stepsAheadOf_18 rfl ?_
        refine r_iload_n dX4_stepsAheadOf_19 rfl ?_
        refine r_cVi dX4_stepsAheadOf_20 (K_ahead (i := i) (j := j) (by assumption) (by omega) (by omega)) gX4_stepsAheadOf_20 dcX4_isRankedAhead rfl rfl rfl (by decide) (ob_pl (by assumption)) ?_
        refine r_if_eq (tgt := 29) dX4_stepsAheadOf_23 (by decide) (fun c23 => ?_) (fun c23 => ?_)
        · rw [lp_sao, if_neg c14, bI_0 c23, if_neg (by decide)]
          refine r_iinc dX4_stepsAheadOf_29 rfl ii_s (by decide) rfl ?_
          refine r_goto (tgt := 4) dX4_stepsAheadOf_32 (by decide) ?_
          exact ih (i + 1) _ (by omega)
        · rw [lp_sao, if_neg c14, bI_1 c23, if_pos rfl]
          refine r_iinc dX4_stepsAheadOf_26 rfl rfl (by decide) rfl ?_
          refine r_iinc dX4_stepsAheadOf_29 rfl ii_s (by decide) rfl ?_
          refine r_goto (tgt := 4) dX4_stepsAheadOf_32 (by decide) ?_
          exact ih (i + 1) _ (by omega)
  refine r_iconst (v := 0) dX4_stepsAheadOf_0 (by decide) ?_
  refine r_istore_n dX4_stepsAheadOf_1 (by decide) rfl ?_
  refine r_iconst (v := 0) dX4_stepsAheadOf_2 (by decide) ?_
  refine r_istore_n dX4_stepsAheadOf_3 (by decide) rfl ?_
  rw [f_sao, cn_of hc hc2]; exact L c 0 0 (by omega)
end
section
/-! PART 07: the plan's changes: models and contracts -/
def en (P : tP) : Nat := (P 0 5).toNatClampNeg
def oke (P : tP) : Prop := P 0 5 = nI (en P) ∧ en P < 16
def okc (P : tP) : Prop := P 0 1 = nI (cn P) ∧ cn P ≤ 12
def okh (P : tP) : Prop := ∃ h : Nat, h ≤ 4 ∧ P 0 8 = nI h
def okb (P : tP) : Prop := ∀ i, i < 12 → P (4 + i) 3 = 0 ∨ P (4 + i) 3 = 1
theorem oke_of {P : tP} {e : Nat} (h : P 0 5 = nI e) (h2 : e < 16) : oke P := by
  have : en P = e := by rw [en, h]; exact nI_clamp (by omega)
  exact ⟨by rw [this]; exact h, by rw [this]; exact h2⟩
theorem okc_of {P : tP} {c : Nat} (h : P 0 1 = nI c) (h2 : c ≤ 12) : okc P := by
  have := cn_of h h2
  exact ⟨by rw [this]; exact h, by rw [this]; exact h2⟩
def f_turn1 (P : tP) (n : Nat) (how ev : Int32) : tP :=
  let P2 := pu (pu P (4 + n) 6 how) (4 + n) 7 0
  let P3 := pu P2 3 (en P * 3) ev
  let P4 := pu P3 3 (en P * 3 + 1) (nI n)
  let P5 := pu P4 3 (en P * 3 + 2) (P4 0 7)
  pu P5 0 5 ((P5 0 5 + 1) - (P5 0 5 + 1) / 16 * 16)
def f_turn (P : tP) (n : Nat) (how ev : Int32) : tP :=
  if 16 ≤ f_turn1 P n how ev 0 6 then f_turn1 P n how ev else pu (f_turn1 P n how ev) 0 6 (f_turn1 P n how ev 0 6 + 1)
/-- what the plan's changes keep -/
def kp (P P' : tP) : Prop := P' 0 1 = P 0 1 ∧ P' 0 8 = P 0 8 ∧ (oke P → oke P') ∧ P' 0 3 = P 0 3 ∧ P' 2 = P 2 ∧ ∀ i k, k ≠ 6 → k ≠ 7 → k ≠ 8 → k ≠ 9 → k ≠ 10 → P' (4 + i) k = P (4 + i) k
theorem kp_rfl {P : tP} : kp P P := ⟨rfl, rfl, fun h => h, rfl, rfl, fun _ _ _ _ _ _ _ => rfl⟩
theorem kp_tr {P P' P'' : tP} (h : kp P P') (h2 : kp P' P'') : kp P P'' := ⟨h2.1.trans h.1, h2.2.1.trans h.2.1, fun a => h2.2.2.1 (h.2.2.1 a), h2.2.2.2.1.trans h.2.2.2.1, h2.2.2.2.2.1.trans h.2.2.2.2.1, fun i k a b c d e => (h2.2.2.2.2.2 i k a b c d e).trans (h.2.2.2.2.2 i k a b c d e)⟩
theorem oke_eq {P P' : tP} (h : P' 0 5 = P 0 5) (o : oke P) : oke P' := oke_of (e := en P) (h.trans o.1) o.2
theorem kp_st {P : tP} {i k : Nat} {x : Int32} (hk : 6 ≤ k ∧ k ≤ 10) : kp P (pu P (4 + i) k x) := ⟨pu_j (by omega), pu_j (by omega), fun h => oke_eq (pu_j (by omega)) h, pu_j (by omega), pu_jj (by omega), fun j k' a b c d e => pu_k (by omega)⟩
theorem kp_0 {P : tP} {k : Nat} {x : Int32} (hk : k ≠ 1 ∧ k ≠ 3 ∧ k ≠ 5 ∧ k ≠ 8) : kp P (pu P 0 k x) := ⟨pu_k (by omega), pu_k (by omega), fun h => oke_eq (pu_k (by omega)) h, pu_k (by omega), pu_jj (by omega), fun j k' a b c d e => pu_j (by omega)⟩
theorem kp_3 {P : tP} {k : Nat} {x : Int32} : kp P (pu P 3 k x) := ⟨pu_j (by omega), pu_j (by omega), fun h => oke_eq (pu_j (by omega)) h, pu_j (by omega), pu_jj (by omega), fun j k' a b c d e => pu_j (by omega)⟩
theorem ev_nx {x : Int32} {e : Nat} (h : x = nI e) (h2 : e < 16) : (x + 1) - (x + 1) / 16 * 16 = nI ((e + 1) % 16) := by
  subst h
  rw [nI_1]
  exact pk_rem (d := 16) (by omega) (by omega) (by omega)
theorem kp_5 {P : tP} : kp P (pu P 0 5 ((P 0 5 + 1) - (P 0 5 + 1) / 16 * 16)) := ⟨pu_k (by omega), pu_k (by omega), fun h => oke_of (e := (en P + 1) % 16) (by rw [pu_s]; exact ev_nx h.1 h.2) (Nat.mod_lt _ (by omega)), pu_k (by omega), pu_jj (by omega), fun j k' a b c d e => pu_j (by omega)⟩
theorem kp_turn1 {P : tP} {n : Nat} {how ev : Int32} : kp P (f_turn1 P n how ev) := kp_tr (kp_tr (kp_tr (kp_tr (kp_tr (kp_st (by omega)) (kp_st (by omega))) kp_3) kp_3) kp_3) kp_5
theorem kp_turn {P : tP} {n : Nat} {how ev : Int32} : kp P (f_turn P n how ev) := by
  unfold f_turn
  split
  · exact kp_turn1
  · exact kp_tr kp_turn1 (kp_0 (by omega))
theorem ev_i {x : Int32} {e : Nat} (h : x = nI e) : x * 3 = nI (e * 3) := by subst h; exact pk_mul e 3
theorem ev_i1 {x : Int32} {e : Nat} (h : x = nI e) : x * 3 + 1 = nI (e * 3 + 1) := by rw [ev_i h]; exact nI_1 _
theorem ev_i2 {x : Int32} {e : Nat} (h : x = nI e) : x * 3 + 2 = nI (e * 3 + 2) := by rw [ev_i h]; exact nI_add _ 2
def f_tell (P : tP) (i : Nat) (d m b a : Int32) : tP := pu (pu (pu (pu (pu (pu (pu (pu (pu (pu (pu P (4 + i) 0 d) (4 + i) 1 m) (4 + i) 2 b) (4 + i) 3 a) (4 + i) 4 0) (4 + i) 5 1000) (4 + i) 6 0) (4 + i) 7 0) (4 + i) 8 0) (4 + i) 9 0) (4 + i) 10 (-15)
def f_cps (P Q : tP) (i : Nat) : tP := pu (pu (pu (pu (pu (pu (pu (pu (pu (pu (pu P (4 + i) 0 (Q (4 + i) 0)) (4 + i) 1 (Q (4 + i) 1)) (4 + i) 2 (Q (4 + i) 2)) (4 + i) 3 (Q (4 + i) 3)) (4 + i) 4 (Q (4 + i) 4)) (4 + i) 5 (Q (4 + i) 5)) (4 + i) 6 (Q (4 + i) 6)) (4 + i) 7 (Q (4 + i) 7)) (4 + i) 8 (Q (4 + i) 8)) (4 + i) 9 (Q (4 + i) 9)) (4 + i) 10 (Q (4 + i) 10)
def lp_cps (Q : tP) : Nat → Nat → tP → tP
  | 0, _, P => P
  | n + 1, i, P => lp_cps Q n (i + 1) (f_cps P Q i)
def f_cp0 (P Q : tP) : tP :=
  let P2 := pu P 0 1 (Q 0 1)
  let P4 := pu (p_row P2 2 (va_cpy (Q 2) (P2 2) 0 0 4)) 0 3 (Q 0 3)
  let P5 := p_row P4 3 (va_cpy (Q 3) (P4 3) 0 0 48)
  pu (pu (pu (pu (pu (pu (pu (pu (pu P5 0 5 (Q 0 5)) 0 6 (Q 0 6)) 0 7 (Q 0 7)) 0 8 (Q 0 8)) 0 9 (Q 0 9)) 0 10 (Q 0 10)) 0 11 (Q 0 11)) 0 12 (Q 0 12)) 0 13 (Q 0 13)
def f_copy (P Q : tP) : tP := f_cp0 (lp_cps Q (cn Q) 0 P) Q
def f_add1 (P : tP) (d m b a : Int32) : tP := let P1 := f_tell P (cn P) d m b a; pu P1 0 1 (P1 0 1 + 1)
def f_add (P : tP) (d m b a : Int32) : tP := if f_isCancelled (f_add1 P d m b a) b then f_turn (f_add1 P d m b a) (cn P) 6 5 else f_add1 P d m b a
theorem f_tell_0 {P : tP} {i : Nat} {d m b a : Int32} : f_tell P i d m b a 0 = P 0 := by
  unfold f_tell
  rw [pu_jj (by omega), pu_jj (by omega), pu_jj (by omega), pu_jj (by omega), pu_jj (by omega), pu_jj (by omega), pu_jj (by omega), pu_jj (by omega), pu_jj (by omega), pu_jj (by omega), pu_jj (by omega)]
theorem f_add_n {P : tP} {d m b a : Int32} (h : f_isCancelled (f_add1 P d m b a) b = false) : f_add P d m b a = f_add1 P d m b a := by rw [f_add, h]; rfl
theorem f_add_c {P : tP} {d m b a : Int32} (h : f_isCancelled (f_add1 P d m b a) b = true) : f_add P d m b a = f_turn (f_add1 P d m b a) (cn P) 6 5 := by rw [f_add, h]; rfl
def mn (P : tP) : Nat := (P 0 3).toNatClampNeg
def f_addMs (P : tP) (s : Nat) (d : Int32) : tP :=
  let P2 := pu (pu P 2 (mn P) (nI s)) (4 + s) 5 d
  pu P2 0 3 (P2 0 3 + 1)
def lp_can (b : Int32) : Nat → Nat → tP → Int32 → tP × Int32
  | 0, _, P, u => (P, u)
  | n + 1, i, P, u => if P (4 + i) 2 = b then
      (if f_isOpen (P (4 + i) 6) then lp_can b n (i + 1) (f_turn P i 6 5) u
       else if P (4 + i) 6 = 3 then lp_can b n (i + 1) (pu (pu P (4 + i) 6 4) (4 + i) 7 ((pu P (4 + i) 6 4 (4 + i) 0 + 1) / 2)) (u + Int32.ofInt 1)
       else lp_can b n (i + 1) P u)
    else lp_can b n (i + 1) P u
def f_can (P : tP) (b : Int32) : tP × Int32 := lp_can b (cn P) 0 (pu P 0 9 (P 0 9 ||| 1 <<< (b &&& 31))) 0
theorem kp_can {b : Int32} : ∀ (n i : Nat) (P : tP) (u : Int32), kp P (lp_can b n i P u).1 := by
  intro n
  induction n with
  | zero => intro i P u; exact kp_rfl
  | succ n ih =>
    intro i P u
    rw [lp_can]
    split
    · split
      · exact kp_tr kp_turn (ih _ _ _)
      · split
        · exact kp_tr (kp_tr (kp_st (by omega)) (kp_st (by omega))) (ih _ _ _)
        · exact ih _ _ _
    · exact ih _ _ _
theorem kp_fcan {P : tP} {b : Int32} : kp P (f_can P b).1 := kp_tr (kp_0 (by omega)) (kp_can _ _ _ _)
def f_work2 (P : tP) (i : Nat) : tP :=
  let P2 := pu P (4 + i) 9 (P (4 + i) 9 - 1)
  let P3 := pu P2 0 11 (P2 0 11 + 1)
  if P3 (4 + i) 1 < P3 (4 + i) 8 then
    (if f_turn P3 i 7 3 (4 + i) 2 = 0 then f_turn P3 i 7 3
     else if f_isCancelled (f_turn P3 i 7 3) (f_turn P3 i 7 3 (4 + i) 2) then f_turn P3 i 7 3
     else (f_can (f_turn P3 i 7 3) (f_turn P3 i 7 3 (4 + i) 2)).1)
  else f_turn P3 i 2 2
def f_work1 (P : tP) (i : Nat) : tP :=
  if P (4 + i) 7 ≤ 0 then
    (if P (4 + i) 9 = 0 then
      (let P2 := pu P (4 + i) 10 (P 0 7); f_turn (pu P2 0 12 (P2 0 12 + 1)) i 3 1)
     else f_work2 P i)
  else P
def f_work (P : tP) (i : Nat) : tP := if P (4 + i) 6 = 1 then f_work1 (pu P (4 + i) 7 (P (4 + i) 7 - 1)) i else P
theorem kp_work2 {P : tP} {i : Nat} : kp P (f_work2 P i) := by
  unfold f_work2
  dsimp only
  have h0 : kp P (pu (pu P (4 + i) 9 (P (4 + i) 9 - 1)) 0 11 (pu P (4 + i) 9 (P (4 + i) 9 - 1) 0 11 + 1)) := kp_tr (kp_st (by omega)) (kp_0 (by omega))
  refine kp_tr h0 ?_
  split
  · split
    · exact kp_turn
    · split
      · exact kp_turn
      · exact kp_tr kp_turn kp_fcan
  · exact kp_turn
theorem kp_work1 {P : tP} {i : Nat} : kp P (f_work1 P i) := by
  unfold f_work1
  split
  · split
    · exact kp_tr (kp_tr (kp_st (by omega)) (kp_0 (by omega))) kp_turn
    · exact kp_work2
  · exact kp_rfl
theorem kp_work {P : tP} {i : Nat} : kp P (f_work P i) := by
  unfold f_work
  split
  · exact kp_tr (kp_st (by omega)) kp_work1
  · exact kp_rfl
def f_und1 (P : tP) (l : Nat) : tP :=
  let P1 := pu P (4 + l) 7 (P (4 + l) 7 - 1)
  if 0 < P1 (4 + l) 7 then P1 else f_turn (pu P1 0 13 (P1 0 13 + 1)) l 5 4
def f_und (P : tP) (b : Int32) : tP := if 0 ≤ f_ftu P b then f_und1 P (f_ftu P b).toNatClampNeg else P
theorem kp_und {P : tP} {b : Int32} : kp P (f_und P b) := by
  unfold f_und
  split
  · unfold f_und1
    dsimp only
    split
    · exact kp_st (by omega)
    · exact kp_tr (kp_tr (kp_st (by omega)) (kp_0 (by omega))) kp_turn
  · exact kp_rfl
def lp_und : Nat → Nat → tP → tP
  | 0, _, P => P
  | n + 1, b, P => lp_und n (b + 1) (if f_isCancelled P (nI b) then f_und P (nI b) else P)
theorem kp_lund : ∀ (n b : Nat) (P : tP), kp P (lp_und n b P) := by
  intro n
  induction n with
  | zero => intro b P; exact kp_rfl
  | succ n ih =>
    intro b P
    rw [lp_und]
    refine kp_tr ?_ (ih _ _)
    split
    · exact kp_und
    · exact kp_rfl
def lp_lo : Nat → tP → Int32 → tP
  | 0, P, _ => P
  | n + 1, P, x => if 0 ≤ f_lowH P x then lp_lo n (f_turn P (f_lowH P x).toNatClampNeg 6 5) (x ||| sh (f_lowH P x).toNatClampNeg) else P
theorem kp_lo : ∀ (n : Nat) (P : tP) (x : Int32), kp P (lp_lo n P x) := by
  intro n
  induction n with
  | zero => intro P x; exact kp_rfl
  | succ n ih =>
    intro P x
    rw [lp_lo]
    split
    · exact kp_tr kp_turn (ih _ _)
    · exact kp_rfl
def f_leave (P : tP) : tP := lp_lo 12 P (f_setOff P)
def f_begin1 (P : tP) (l : Nat) : tP :=
  let P1 := pu P (4 + l) 8 (P (4 + l) 8 + 1)
  let P2 := f_turn (pu P1 0 10 (P1 0 10 + 1)) l 1 0
  pu P2 (4 + l) 7 (P2 (4 + l) 0)
def lp_beg (d : Int32) : Nat → tP → Int32 → tP
  | 0, P, _ => P
  | n + 1, P, x => if P 0 8 ≤ x then P else if 0 ≤ f_ftb P d then lp_beg d n (f_begin1 P (f_ftb P d).toNatClampNeg) (x + Int32.ofInt 1) else P
def f_begin (P : tP) : tP := lp_beg (f_setOf P 3) 5 P (f_countOf P 1)
theorem kp_begin1 {P : tP} {l : Nat} : kp P (f_begin1 P l) := kp_tr (kp_tr (kp_tr (kp_st (by omega)) (kp_0 (by omega))) kp_turn) (kp_st (by omega))
theorem kp_beg {d : Int32} : ∀ (n : Nat) (P : tP) (x : Int32), kp P (lp_beg d n P x) := by
  intro n
  induction n with
  | zero => intro P x; exact kp_rfl
  | succ n ih =>
    intro P x
    rw [lp_beg]
    split
    · exact kp_rfl
    · split
      · exact kp_tr kp_begin1 (ih _ _)
      · exact kp_rfl
def lp_work : Nat → Nat → tP → tP
  | 0, _, P => P
  | n + 1, i, P => lp_work n (i + 1) (f_work P i)
theorem kp_lwork : ∀ (n i : Nat) (P : tP), kp P (lp_work n i P) := by
  intro n
  induction n with
  | zero => intro i P; exact kp_rfl
  | succ n ih => intro i P; exact kp_tr kp_work (ih _ _)
def f_pass (P : tP) : tP :=
  let P4 := f_begin (f_leave (lp_und 3 1 (lp_work (cn P) 0 P)))
  pu P4 0 7 (P4 0 7 + 1)
theorem kp_pass {P : tP} : kp P (f_pass P) := kp_tr (kp_tr (kp_tr (kp_tr (kp_lwork _ _ _) (kp_lund _ _ _)) (kp_lo _ _ _)) (kp_beg _ _ _)) (kp_0 (by omega))
theorem kp_cn {P P' : tP} (h : kp P P') : cn P' = cn P := by rw [cn, cn, h.1]
theorem kp_okc {P P' : tP} (h : kp P P') (o : okc P) : okc P' := ⟨by rw [h.1, kp_cn h]; exact o.1, by rw [kp_cn h]; exact o.2⟩
theorem kp_okh {P P' : tP} (h : kp P P') (o : okh P) : okh P' := by obtain ⟨a, b, c⟩ := o; exact ⟨a, b, h.2.1.trans c⟩
-- the answers of the three searches
theorem lowH_r {P : tP} {d : Int32} : ∀ (n i : Nat), lp_lowH P d n i = -1 ∨ ∃ l, l < i + n ∧ lp_lowH P d n i = nI l := by
  intro n
  induction n with
  | zero => intro i; exact Or.inl rfl
  | succ n ih =>
    intro i
    rw [lp_lowH]
    split
    · exact Or.inr ⟨i, by omega, rfl⟩
    · rcases ih (i + 1) with h | ⟨l, h, e⟩
      · exact Or.inl h
      · exact Or.inr ⟨l, by omega, e⟩
theorem ftu_r {P : tP} {b : Int32} : ∀ (n i : Nat) (x y : Int32), (x = -1 ∨ ∃ l, l < i + n ∧ x = nI l) → (lp_ftu P b n i x y = -1 ∨ ∃ l, l < i + n ∧ lp_ftu P b n i x y = nI l) := by
  intro n
  induction n with
  | zero => intro i x y h; exact h
  | succ n ih =>
    intro i x y h
    rw [lp_ftu]
    have e : i + (n + 1) = i + 1 + n := by omega
    rw [e] at h ⊢
    split
    · exact ih _ _ _ (Or.inr ⟨i, by omega, rfl⟩)
    · exact ih _ _ _ h
theorem ftb_r {P : tP} {d : Int32} : ∀ (n i : Nat) (x y : Int32), (x = -1 ∨ ∃ l, l < i + n ∧ x = nI l) → (lp_ftb P d n i x y = -1 ∨ ∃ l, l < i + n ∧ lp_ftb P d n i x y = nI l) := by
  intro n
  induction n with
  | zero => intro i x y h; exact h
  | succ n ih =>
    intro i x y h
    rw [lp_ftb]
    have e : i + (n + 1) = i + 1 + n := by omega
    rw [e] at h ⊢
    split
    · exact ih _ _ _ (Or.inr ⟨i, by omega, rfl⟩)
    · exact ih _ _ _ h
theorem se_r {x : Int32} {c : Nat} (hc : c ≤ 12) (h : x = -1 ∨ ∃ l, l < 0 + c ∧ x = nI l) : (x < 0 ∧ ¬ 0 ≤ x) ∨ (∃ l, l < c ∧ l < 12 ∧ x = nI l ∧ x.toNatClampNeg = l ∧ 0 ≤ x) := by
  rcases h with rfl | ⟨l, h1, rfl⟩
  · left; decide
  · right; exact ⟨l, by omega, by omega, rfl, nI_clamp (by omega), nI_pos' (by omega)⟩
theorem lowH_c {P : tP} {d : Int32} (o : okc P) : (f_lowH P d < 0 ∧ ¬ 0 ≤ f_lowH P d) ∨ (∃ l, l < cn P ∧ l < 12 ∧ f_lowH P d = nI l ∧ (f_lowH P d).toNatClampNeg = l ∧ 0 ≤ f_lowH P d) := se_r (x := f_lowH P d) o.2 (by have := lowH_r (P := P) (d := d) (cn P) 0; exact this)
theorem ftu_c {P : tP} {b : Int32} (o : okc P) : (f_ftu P b < 0 ∧ ¬ 0 ≤ f_ftu P b) ∨ (∃ l, l < cn P ∧ l < 12 ∧ f_ftu P b = nI l ∧ (f_ftu P b).toNatClampNeg = l ∧ 0 ≤ f_ftu P b) := se_r (x := f_ftu P b) o.2 (ftu_r (cn P) 0 (-1) (-1) (Or.inl rfl))
theorem ftb_c {P : tP} {d : Int32} (o : okc P) : (f_ftb P d < 0 ∧ ¬ 0 ≤ f_ftb P d) ∨ (∃ l, l < cn P ∧ l < 12 ∧ f_ftb P d = nI l ∧ (f_ftb P d).toNatClampNeg = l ∧ 0 ≤ f_ftb P d) := se_r (x := f_ftb P d) o.2 (ftb_r (cn P) 0 (-1) 1001 (Or.inl rfl))
theorem dX4_turn_0 : decode cX4_turn 0 = .ok (.aload_n 0, 1) := by decide +kernel
theorem dX4_turn_1 : decode cX4_turn 1 = .ok (.getfield 11, 3) := by decide +kernel
theorem dX4_turn_4 : decode cX4_turn 4 = .ok (.iload_n 1, 1) := by decide +kernel
theorem dX4_turn_5 : decode cX4_turn 5 = .ok (.aaload, 1) := by decide +kernel
theorem dX4_turn_6 : decode cX4_turn 6 = .ok (.iload_n 2, 1) := by decide +kernel
theorem dX4_turn_7 : decode cX4_turn 7 = .ok (.putfield 84, 3) := by decide +kernel
theorem dX4_turn_10 : decode cX4_turn 10 = .ok (.aload_n 0, 1) := by decide +kernel
theorem dX4_turn_11 : decode cX4_turn 11 = .ok (.getfield 11, 3) := by decide +kernel
theorem dX4_turn_14 : decode cX4_turn 14 = .ok (.iload_n 1, 1) := by decide +kernel
theorem dX4_turn_15 : decode cX4_turn 15 = .ok (.aaload, 1) := by decide +kernel
theorem dX4_turn_16 : decode cX4_turn 16 = .ok (.iconst 0, 1) := by decide +kernel
theorem dX4_turn_17 : decode cX4_turn 17 = .ok (.putfield 132, 3) := by decide +kernel
theorem dX4_turn_20 : decode cX4_turn 20 = .ok (.aload_n 0, 1) := by decide +kernel
theorem dX4_turn_21 : decode cX4_turn 21 = .ok (.getfield 45, 3) := by decide +kernel
theorem dX4_turn_24 : decode cX4_turn 24 = .ok (.iconst 3, 1) := by decide +kernel
theorem dX4_turn_25 : decode cX4_turn 25 = .ok (.imul, 1) := by decide +kernel
theorem dX4_turn_26 : decode cX4_turn 26 = .ok (.istore 4, 2) := by decide +kernel
theorem dX4_turn_28 : decode cX4_turn 28 = .ok (.aload_n 0, 1) := by decide +kernel
theorem dX4_turn_29 : decode cX4_turn 29 = .ok (.getfield 21, 3) := by decide +kernel
theorem dX4_turn_32 : decode cX4_turn 32 = .ok (.iload 4, 2) := by decide +kernel
theorem dX4_turn_34 : decode cX4_turn 34 = .ok (.iload_n 3, 1) := by decide +kernel
theorem dX4_turn_35 : decode cX4_turn 35 = .ok (.iastore, 1) := by decide +kernel
theorem dX4_turn_36 : decode cX4_turn 36 = .ok (.aload_n 0, 1) := by decide +kernel
theorem dX4_turn_37 : decode cX4_turn 37 = .ok (.getfield 21, 3) := by decide +kernel
theorem dX4_turn_40 : decode cX4_turn 40 = .ok (.iload 4, 2) := by decide +kernel
theorem dX4_turn_42 : decode cX4_turn 42 = .ok (.iconst 1, 1) := by decide +kernel
theorem dX4_turn_43 : decode cX4_turn 43 = .ok (.iadd, 1) := by decide +kernel
theorem dX4_turn_44 : decode cX4_turn 44 = .ok (.iload_n 1, 1) := by decide +kernel
theorem dX4_turn_45 : decode cX4_turn 45 = .ok (.iastore, 1) := by decide +kernel
theorem dX4_turn_46 : decode cX4_turn 46 = .ok (.aload_n 0, 1) := by decide +kernel
theorem dX4_turn_47 : decode cX4_turn 47 = .ok (.getfield 21, 3) := by decide +kernel
theorem dX4_turn_50 : decode cX4_turn 50 = .ok (.iload 4, 2) := by decide +kernel
theorem dX4_turn_52 : decode cX4_turn 52 = .ok (.iconst 2, 1) := by decide +kernel
theorem dX4_turn_53 : decode cX4_turn 53 = .ok (.iadd, 1) := by decide +kernel
theorem dX4_turn_54 : decode cX4_turn 54 = .ok (.aload_n 0, 1) := by decide +kernel
theorem dX4_turn_55 : decode cX4_turn 55 = .ok (.getfield 51, 3) := by decide +kernel
theorem dX4_turn_58 : decode cX4_turn 58 = .ok (.iastore, 1) := by decide +kernel
theorem dX4_turn_59 : decode cX4_turn 59 = .ok (.aload_n 0, 1) := by decide +kernel
theorem dX4_turn_60 : decode cX4_turn 60 = .ok (.aload_n 0, 1) := by decide +kernel
theorem dX4_turn_61 : decode cX4_turn 61 = .ok (.getfield 45, 3) := by decide +kernel
theorem dX4_turn_64 : decode cX4_turn 64 = .ok (.iconst 1, 1) := by decide +kernel
theorem dX4_turn_65 : decode cX4_turn 65 = .ok (.iadd, 1) := by decide +kernel
theorem dX4_turn_66 : decode cX4_turn 66 = .ok (.bipush 16, 2) := by decide +kernel
theorem dX4_turn_68 : decode cX4_turn 68 = .ok (.irem, 1) := by decide +kernel
theorem dX4_turn_69 : decode cX4_turn 69 = .ok (.putfield 45, 3) := by decide +kernel
theorem dX4_turn_72 : decode cX4_turn 72 = .ok (.aload_n 0, 1) := by decide +kernel
theorem dX4_turn_73 : decode cX4_turn 73 = .ok (.getfield 48, 3) := by decide +kernel
theorem dX4_turn_76 : decode cX4_turn 76 = .ok (.bipush 16, 2) := by decide +kernel
theorem dX4_turn_78 : decode cX4_turn 78 = .ok (.if_icmp .ge 13, 3) := by decide +kernel
theorem dX4_turn_81 : decode cX4_turn 81 = .ok (.aload_n 0, 1) := by decide +kernel
theorem dX4_turn_82 : decode cX4_turn 82 = .ok (.dup, 1) := by decide +kernel
theorem dX4_turn_83 : decode cX4_turn 83 = .ok (.getfield 48, 3) := by decide +kernel
theorem dX4_turn_86 : decode cX4_turn 86 = .ok (.iconst 1, 1) := by decide +kernel
theorem dX4_turn_87 : decode cX4_turn 87 = .ok (.iadd, 1) := by decide +kernel
theorem dX4_turn_88 : decode cX4_turn 88 = .ok (.putfield 48, 3) := by decide +kernel
theorem dX4_turn_91 : decode cX4_turn 91 = .ok (.return_, 1) := by decide +kernel
theorem dcX4_turn : yX4_turn.cls = RX4 ∧ yX4_turn.cls ≠ "java/lang/invoke/MethodHandle" ∧ yX4_turn.cls ≠ "java/lang/invoke/VarHandle" ∧ (parseMethodDescriptor yX4_turn.desc).map (fun d => d.parameters.length) = some 3 := by decide +kernel
set_option maxRecDepth 100000 in
set_option maxHeartbeats 4000000 in
theorem K_turn {cA : Nat → ClassId} {ad : tA} {ex : va_W} {M : tM} {r : Nat} {P : tP} {n : Nat} {how ev : Int32} (hr : isPlan r) (hn : n < 12) (ho : oke P) : Cj yX4_turn cX4_turn 5 none (rmd 0) 0 0 cA ad [.ref (ad r 0), .int (nI n), .int how, .int ev] ex (m_pl M r P) (Qe none ex (m_pl M r (f_turn P n how ev))) := by
  refine c_of_r (lv0 := [some (.ref (ad r 0)), some (.int (nI n)), some (.int how), some (.int ev), none]) rfl (by decide +kernel) (Nat.le_of_ble_eq_true rfl) rfl ?_
  obtain ⟨he, he2⟩ := ho
  have he3 : pu (pu P (4 + n) 6 how) (4 + n) 7 0 0 5 = nI (en P) := by rw [pu_j (by omega), pu_j (by omega)]; exact he
  refine r_aload_n dX4_turn_0 rfl ?_
  refine r_getp_pl (by assumption) 0 (by decide) q38 rfl dX4_turn_1 ?_
  refine r_iload_n dX4_turn_4 rfl ?_
  refine r_aldp_steps (by assumption) rfl (by omega) dX4_turn_5 ?_
  refine r_iload_n dX4_turn_6 rfl ?_
  refine r_putp_st (by assumption) (by omega) 6 (by decide) q168 rfl rfl rfl rfl rfl dX4_turn_7 ?_
  refine r_aload_n dX4_turn_10 rfl ?_
  refine r_getp_pl (by assumption) 0 (by decide) q38 rfl dX4_turn_11 ?_
  refine r_iload_n dX4_turn_14 rfl ?_
  refine r_aldp_steps (by assumption) rfl (by omega) dX4_turn_15 ?_
  refine r_iconst (v := 0) dX4_turn_16 (by decide) ?_
  refine r_putp_st (by assumption) (by omega) 7 (by decide) q309 rfl rfl rfl rfl rfl dX4_turn_17 ?_
  refine r_aload_n dX4_turn_20 rfl ?_
  refine r_getp_pl (by assumption) 5 (by decide) q86 rfl dX4_turn_21 ?_
  refine r_iconst (v := 3) dX4_turn_24 (by decide) ?_
  refine r_imul dX4_turn_25 ?_
  refine r_istore dX4_turn_26 (by decide) rfl ?_
  refine r_aload_n dX4_turn_28 rfl ?_
  refine r_getp_pl (by assumption) 4 (by decide) q41 rfl dX4_turn_29 ?_
  refine r_iload dX4_turn_32 rfl ?_
  refine r_iload_n dX4_turn_34 rfl ?_
  refine r_strp_ev (by assumption) (ev_i he3) (by omega) dX4_turn_35 ?_
  refine r_aload_n dX4_turn_36 rfl ?_
  refine r_getp_pl (by assumption) 4 (by decide) q41 rfl dX4_turn_37 ?_
  refine r_iload dX4_turn_40 rfl ?_
  refine r_iconst (v := 1) dX4_turn_42 (by decide) ?_
  refine r_iadd dX4_turn_43 ?_
  refine r_iload_n dX4_turn_44 rfl ?_
  refine r_strp_ev (by assumption) (ev_i1 he3) (by omega) dX4_turn_45 ?_
  refine r_aload_n dX4_turn_46 rfl ?_
  refine r_getp_pl (by assumption) 4 (by decide) q41 rfl dX4_turn_47 ?_
  refine r_iload dX4_turn_50 rfl ?_
  refine r_iconst (v := 2) dX4_turn_52 (by decide) ?_
  refine r_iadd dX4_turn_53 ?_
  refine r_aload_n dX4_turn_54 rfl ?_
  refine r_getp_pl (by assumption) 7 (by decide) q88 rfl dX4_turn_55 ?_
  refine r_strp_ev (by assumption) (ev_i2 he3) (by omega) dX4_turn_58 ?_
  refine r_aload_n dX4_turn_59 rfl ?_
  refine r_aload_n dX4_turn_60 rfl ?_
  refine r_getp_pl (by assumption) 5 (by decide) q86 rfl dX4_turn_61 ?_
  refine r_iconst (v := 1) dX4_turn_64 (by decide) ?_
  refine r_iadd dX4_turn_65 ?_
  refine r_bipush (v := 16) dX4_turn_66 (by decide) ?_
  refine r_irem dX4_turn_68 (by decide) ?_
  refine r_putp_pl (by assumption) 5 (by decide) q86 rfl rfl rfl rfl rfl dX4_turn_69 ?_
  refine r_aload_n dX4_turn_72 rfl ?_
  refine r_getp_pl (by assumption) 6 (by decide) q87 rfl dX4_turn_73 ?_
  refine r_bipush (v := 16) dX4_turn_76 (by decide) ?_
  refine r_icmp_ge (tgt := 91) dX4_turn_78 (by decide) (fun c78 => ?_) (fun c78 => ?_)
  · exact r_retv rfl dX4_turn_91 (by first | (show m_pl M r (f_turn1 P n how ev) = m_pl M r (f_turn P n how ev); rw [f_turn, if_pos (show 16 ≤ f_turn1 P n how ev 0 6 from c78)]) | (show m_pl M r (pu (f_turn1 P n how ev) 0 6 (f_turn1 P n how ev 0 6 + 1)) = m_pl M r (f_turn P n how ev); rw [f_turn, if_neg (show ¬ 16 ≤ f_turn1 P n how ev 0 6 from c78)]))
  · refine r_aload_n dX4_turn_81 rfl ?_
    refine r_dup dX4_turn_82 rfl ?_
    refine r_getp_pl (by assumption) 6 (by decide) q87 rfl dX4_turn_83 ?_
    refine r_iconst (v := 1) dX4_turn_86 (by decide) ?_
    refine r_iadd dX4_turn_87 ?_
    refine r_putp_pl (by assumption) 6 (by decide) q87 rfl rfl rfl rfl rfl dX4_turn_88 ?_
    exact r_retv rfl dX4_turn_91 (by first | (show m_pl M r (f_turn1 P n how ev) = m_pl M r (f_turn P n how ev); rw [f_turn, if_pos (show 16 ≤ f_turn1 P n how ev 0 6 from c78)]) | (show m_pl M r (pu (f_turn1 P n how ev) 0 6 (f_turn1 P n how ev 0 6 + 1)) = m_pl M r (f_turn P n how ev); rw [f_turn, if_neg (show ¬ 16 ≤ f_turn1 P n how ev 0 6 from c78)]))
theorem dX5_tellAnew_0 : decode cX5_tellAnew 0 = .ok (.aload_n 0, 1) := by decide +kernel
theorem dX5_tellAnew_1 : decode cX5_tellAnew 1 = .ok (.iload_n 1, 1) := by decide +kernel
theorem dX5_tellAnew_2 : decode cX5_tellAnew 2 = .ok (.putfield 9, 3) := by decide +kernel
theorem dX5_tellAnew_5 : decode cX5_tellAnew 5 = .ok (.aload_n 0, 1) := by decide +kernel
theorem dX5_tellAnew_6 : decode cX5_tellAnew 6 = .ok (.iload_n 2, 1) := by decide +kernel
theorem dX5_tellAnew_7 : decode cX5_tellAnew 7 = .ok (.putfield 15, 3) := by decide +kernel
theorem dX5_tellAnew_10 : decode cX5_tellAnew 10 = .ok (.aload_n 0, 1) := by decide +kernel
theorem dX5_tellAnew_11 : decode cX5_tellAnew 11 = .ok (.iload_n 3, 1) := by decide +kernel
theorem dX5_tellAnew_12 : decode cX5_tellAnew 12 = .ok (.putfield 18, 3) := by decide +kernel
theorem dX5_tellAnew_15 : decode cX5_tellAnew 15 = .ok (.aload_n 0, 1) := by decide +kernel
theorem dX5_tellAnew_16 : decode cX5_tellAnew 16 = .ok (.iload 4, 2) := by decide +kernel
theorem dX5_tellAnew_18 : decode cX5_tellAnew 18 = .ok (.putfield 21, 3) := by decide +kernel
theorem dX5_tellAnew_21 : decode cX5_tellAnew 21 = .ok (.aload_n 0, 1) := by decide +kernel
theorem dX5_tellAnew_22 : decode cX5_tellAnew 22 = .ok (.iconst 0, 1) := by decide +kernel
theorem dX5_tellAnew_23 : decode cX5_tellAnew 23 = .ok (.putfield 25, 3) := by decide +kernel
theorem dX5_tellAnew_26 : decode cX5_tellAnew 26 = .ok (.aload_n 0, 1) := by decide +kernel
theorem dX5_tellAnew_27 : decode cX5_tellAnew 27 = .ok (.sipush 1000, 3) := by decide +kernel
theorem dX5_tellAnew_30 : decode cX5_tellAnew 30 = .ok (.putfield 28, 3) := by decide +kernel
theorem dX5_tellAnew_33 : decode cX5_tellAnew 33 = .ok (.aload_n 0, 1) := by decide +kernel
theorem dX5_tellAnew_34 : decode cX5_tellAnew 34 = .ok (.iconst 0, 1) := by decide +kernel
theorem dX5_tellAnew_35 : decode cX5_tellAnew 35 = .ok (.putfield 31, 3) := by decide +kernel
theorem dX5_tellAnew_38 : decode cX5_tellAnew 38 = .ok (.aload_n 0, 1) := by decide +kernel
theorem dX5_tellAnew_39 : decode cX5_tellAnew 39 = .ok (.iconst 0, 1) := by decide +kernel
theorem dX5_tellAnew_40 : decode cX5_tellAnew 40 = .ok (.putfield 34, 3) := by decide +kernel
theorem dX5_tellAnew_43 : decode cX5_tellAnew 43 = .ok (.aload_n 0, 1) := by decide +kernel
theorem dX5_tellAnew_44 : decode cX5_tellAnew 44 = .ok (.iconst 0, 1) := by decide +kernel
theorem dX5_tellAnew_45 : decode cX5_tellAnew 45 = .ok (.putfield 37, 3) := by decide +kernel
theorem dX5_tellAnew_48 : decode cX5_tellAnew 48 = .ok (.aload_n 0, 1) := by decide +kernel
theorem dX5_tellAnew_49 : decode cX5_tellAnew 49 = .ok (.iconst 0, 1) := by decide +kernel
theorem dX5_tellAnew_50 : decode cX5_tellAnew 50 = .ok (.putfield 40, 3) := by decide +kernel
theorem dX5_tellAnew_53 : decode cX5_tellAnew 53 = .ok (.aload_n 0, 1) := by decide +kernel
theorem dX5_tellAnew_54 : decode cX5_tellAnew 54 = .ok (.bipush (-15), 2) := by decide +kernel
theorem dX5_tellAnew_56 : decode cX5_tellAnew 56 = .ok (.putfield 43, 3) := by decide +kernel
theorem dX5_tellAnew_59 : decode cX5_tellAnew 59 = .ok (.return_, 1) := by decide +kernel
theorem dcX5_tellAnew : yX5_tellAnew.cls = RX5 ∧ yX5_tellAnew.cls ≠ "java/lang/invoke/MethodHandle" ∧ yX5_tellAnew.cls ≠ "java/lang/invoke/VarHandle" ∧ (parseMethodDescriptor yX5_tellAnew.desc).map (fun d => d.parameters.length) = some 4 := by decide +kernel
set_option maxRecDepth 100000 in
set_option maxHeartbeats 4000000 in
theorem K_tell {cA : Nat → ClassId} {ad : tA} {ex : va_W} {M : tM} {r : Nat} {P : tP} {i : Nat} {d m b : Int32} {a : Bool} (hr : isPlan r) (hi : i < 12) : Cj yX5_tellAnew cX5_tellAnew 5 none (rmd 0) 0 0 cA ad [.ref (ad r (4 + i)), .int d, .int m, .int b, .int (bI a)] ex (m_pl M r P) (Qe none ex (m_pl M r (f_tell P i d m b (bI a)))) := by
  refine c_of_r (lv0 := [some (.ref (ad r (4 + i))), some (.int d), some (.int m), some (.int b), some (.int (bI a))]) rfl (by decide +kernel) (Nat.le_of_ble_eq_true rfl) rfl ?_
  refine r_aload_n dX5_tellAnew_0 rfl ?_
  refine r_iload_n dX5_tellAnew_1 rfl ?_
  refine r_putp_st (by assumption) (by omega) 0 (by decide) q98 rfl rfl rfl rfl rfl dX5_tellAnew_2 ?_
  refine r_aload_n dX5_tellAnew_5 rfl ?_
  refine r_iload_n dX5_tellAnew_6 rfl ?_
  refine r_putp_st (by assumption) (by omega) 1 (by decide) q99 rfl rfl rfl rfl rfl dX5_tellAnew_7 ?_
  refine r_aload_n dX5_tellAnew_10 rfl ?_
  refine r_iload_n dX5_tellAnew_11 rfl ?_
  refine r_putp_st (by assumption) (by omega) 2 (by decide) q100 rfl rfl rfl rfl rfl dX5_tellAnew_12 ?_
  refine r_aload_n dX5_tellAnew_15 rfl ?_
  refine r_iload dX5_tellAnew_16 rfl ?_
  refine r_putp_st (by assumption) (by omega) 3 (by decide) q101 rfl rfl bI_nar bI_fit rfl dX5_tellAnew_18 ?_
  refine r_aload_n dX5_tellAnew_21 rfl ?_
  refine r_iconst (v := 0) dX5_tellAnew_22 (by decide) ?_
  refine r_putp_st (by assumption) (by omega) 4 (by decide) q102 rfl rfl rfl rfl rfl dX5_tellAnew_23 ?_
  refine r_aload_n dX5_tellAnew_26 rfl ?_
  refine r_sipush (v := 1000) dX5_tellAnew_27 (by decide) ?_
  refine r_putp_st (by assumption) (by omega) 5 (by decide) q103 rfl rfl rfl rfl rfl dX5_tellAnew_30 ?_
  refine r_aload_n dX5_tellAnew_33 rfl ?_
  refine r_iconst (v := 0) dX5_tellAnew_34 (by decide) ?_
  refine r_putp_st (by assumption) (by omega) 6 (by decide) q104 rfl rfl rfl rfl rfl dX5_tellAnew_35 ?_
  refine r_aload_n dX5_tellAnew_38 rfl ?_
  refine r_iconst (v := 0) dX5_tellAnew_39 (by decide) ?_
  refine r_putp_st (by assumption) (by omega) 7 (by decide) q105 rfl rfl rfl rfl rfl dX5_tellAnew_40 ?_
  refine r_aload_n dX5_tellAnew_43 rfl ?_
  refine r_iconst (v := 0) dX5_tellAnew_44 (by decide) ?_
  refine r_putp_st (by assumption) (by omega) 8 (by decide) q106 rfl rfl rfl rfl rfl dX5_tellAnew_45 ?_
  refine r_aload_n dX5_tellAnew_48 rfl ?_
  refine r_iconst (v := 0) dX5_tellAnew_49 (by decide) ?_
  refine r_putp_st (by assumption) (by omega) 9 (by decide) q107 rfl rfl rfl rfl rfl dX5_tellAnew_50 ?_
  refine r_aload_n dX5_tellAnew_53 rfl ?_
  refine r_bipush (v := -15) dX5_tellAnew_54 (by decide) ?_
  refine r_putp_st (by assumption) (by omega) 10 (by decide) q108 rfl rfl rfl rfl rfl dX5_tellAnew_56 ?_
  exact r_retv rfl dX5_tellAnew_59 rfl
theorem dX5_copyFrom_0 : decode cX5_copyFrom 0 = .ok (.aload_n 0, 1) := by decide +kernel
theorem dX5_copyFrom_1 : decode cX5_copyFrom 1 = .ok (.aload_n 1, 1) := by decide +kernel
theorem dX5_copyFrom_2 : decode cX5_copyFrom 2 = .ok (.getfield 9, 3) := by decide +kernel
theorem dX5_copyFrom_5 : decode cX5_copyFrom 5 = .ok (.putfield 9, 3) := by decide +kernel
theorem dX5_copyFrom_8 : decode cX5_copyFrom 8 = .ok (.aload_n 0, 1) := by decide +kernel
theorem dX5_copyFrom_9 : decode cX5_copyFrom 9 = .ok (.aload_n 1, 1) := by decide +kernel
theorem dX5_copyFrom_10 : decode cX5_copyFrom 10 = .ok (.getfield 15, 3) := by decide +kernel
theorem dX5_copyFrom_13 : decode cX5_copyFrom 13 = .ok (.putfield 15, 3) := by decide +kernel
theorem dX5_copyFrom_16 : decode cX5_copyFrom 16 = .ok (.aload_n 0, 1) := by decide +kernel
theorem dX5_copyFrom_17 : decode cX5_copyFrom 17 = .ok (.aload_n 1, 1) := by decide +kernel
theorem dX5_copyFrom_18 : decode cX5_copyFrom 18 = .ok (.getfield 18, 3) := by decide +kernel
theorem dX5_copyFrom_21 : decode cX5_copyFrom 21 = .ok (.putfield 18, 3) := by decide +kernel
theorem dX5_copyFrom_24 : decode cX5_copyFrom 24 = .ok (.aload_n 0, 1) := by decide +kernel
theorem dX5_copyFrom_25 : decode cX5_copyFrom 25 = .ok (.aload_n 1, 1) := by decide +kernel
theorem dX5_copyFrom_26 : decode cX5_copyFrom 26 = .ok (.getfield 21, 3) := by decide +kernel
theorem dX5_copyFrom_29 : decode cX5_copyFrom 29 = .ok (.putfield 21, 3) := by decide +kernel
theorem dX5_copyFrom_32 : decode cX5_copyFrom 32 = .ok (.aload_n 0, 1) := by decide +kernel
theorem dX5_copyFrom_33 : decode cX5_copyFrom 33 = .ok (.aload_n 1, 1) := by decide +kernel
theorem dX5_copyFrom_34 : decode cX5_copyFrom 34 = .ok (.getfield 25, 3) := by decide +kernel
theorem dX5_copyFrom_37 : decode cX5_copyFrom 37 = .ok (.putfield 25, 3) := by decide +kernel
theorem dX5_copyFrom_40 : decode cX5_copyFrom 40 = .ok (.aload_n 0, 1) := by decide +kernel
theorem dX5_copyFrom_41 : decode cX5_copyFrom 41 = .ok (.aload_n 1, 1) := by decide +kernel
theorem dX5_copyFrom_42 : decode cX5_copyFrom 42 = .ok (.getfield 28, 3) := by decide +kernel
theorem dX5_copyFrom_45 : decode cX5_copyFrom 45 = .ok (.putfield 28, 3) := by decide +kernel
theorem dX5_copyFrom_48 : decode cX5_copyFrom 48 = .ok (.aload_n 0, 1) := by decide +kernel
theorem dX5_copyFrom_49 : decode cX5_copyFrom 49 = .ok (.aload_n 1, 1) := by decide +kernel
theorem dX5_copyFrom_50 : decode cX5_copyFrom 50 = .ok (.getfield 31, 3) := by decide +kernel
theorem dX5_copyFrom_53 : decode cX5_copyFrom 53 = .ok (.putfield 31, 3) := by decide +kernel
theorem dX5_copyFrom_56 : decode cX5_copyFrom 56 = .ok (.aload_n 0, 1) := by decide +kernel
theorem dX5_copyFrom_57 : decode cX5_copyFrom 57 = .ok (.aload_n 1, 1) := by decide +kernel
theorem dX5_copyFrom_58 : decode cX5_copyFrom 58 = .ok (.getfield 34, 3) := by decide +kernel
theorem dX5_copyFrom_61 : decode cX5_copyFrom 61 = .ok (.putfield 34, 3) := by decide +kernel
theorem dX5_copyFrom_64 : decode cX5_copyFrom 64 = .ok (.aload_n 0, 1) := by decide +kernel
theorem dX5_copyFrom_65 : decode cX5_copyFrom 65 = .ok (.aload_n 1, 1) := by decide +kernel
theorem dX5_copyFrom_66 : decode cX5_copyFrom 66 = .ok (.getfield 37, 3) := by decide +kernel
theorem dX5_copyFrom_69 : decode cX5_copyFrom 69 = .ok (.putfield 37, 3) := by decide +kernel
theorem dX5_copyFrom_72 : decode cX5_copyFrom 72 = .ok (.aload_n 0, 1) := by decide +kernel
theorem dX5_copyFrom_73 : decode cX5_copyFrom 73 = .ok (.aload_n 1, 1) := by decide +kernel
theorem dX5_copyFrom_74 : decode cX5_copyFrom 74 = .ok (.getfield 40, 3) := by decide +kernel
theorem dX5_copyFrom_77 : decode cX5_copyFrom 77 = .ok (.putfield 40, 3) := by decide +kernel
theorem dX5_copyFrom_80 : decode cX5_copyFrom 80 = .ok (.aload_n 0, 1) := by decide +kernel
theorem dX5_copyFrom_81 : decode cX5_copyFrom 81 = .ok (.aload_n 1, 1) := by decide +kernel
theorem dX5_copyFrom_82 : decode cX5_copyFrom 82 = .ok (.getfield 43, 3) := by decide +kernel
theorem dX5_copyFrom_85 : decode cX5_copyFrom 85 = .ok (.putfield 43, 3) := by decide +kernel
theorem dX5_copyFrom_88 : decode cX5_copyFrom 88 = .ok (.return_, 1) := by decide +kernel
theorem dcX5_copyFrom : yX5_copyFrom.cls = RX5 ∧ yX5_copyFrom.cls ≠ "java/lang/invoke/MethodHandle" ∧ yX5_copyFrom.cls ≠ "java/lang/invoke/VarHandle" ∧ (parseMethodDescriptor yX5_copyFrom.desc).map (fun d => d.parameters.length) = some 1 := by decide +kernel
set_option maxRecDepth 100000 in
set_option maxHeartbeats 4000000 in
theorem K_cps {cA : Nat → ClassId} {ad : tA} {ex : va_W} {M : tM} {r : Nat} {P : tP} {r2 i : Nat} (hr : isPlan r) (hr2 : isPlan r2) (hne : r2 ≠ r) (hi : i < 12) (hb : M r2 (4 + i) 3 = 0 ∨ M r2 (4 + i) 3 = 1) : Cj yX5_copyFrom cX5_copyFrom 2 none (rmd 0) 0 0 cA ad [.ref (ad r (4 + i)), .ref (ad r2 (4 + i))] ex (m_pl M r P) (Qe none ex (m_pl M r (f_cps P (M r2) i))) := by
  refine c_of_r (lv0 := [some (.ref (ad r (4 + i))), some (.ref (ad r2 (4 + i)))]) rfl (by decide +kernel) (Nat.le_of_ble_eq_true rfl) rfl ?_
  have hB1 : narrow .boolean (.int (M r2 (4 + i) 3)) = .int (M r2 (4 + i) 3) := by rcases hb with h | h <;> rw [h] <;> rfl
  have hB2 : fits .boolean (.int (M r2 (4 + i) 3)) = true := by rcases hb with h | h <;> rw [h] <;> rfl
  refine r_aload_n dX5_copyFrom_0 rfl ?_
  refine r_aload_n dX5_copyFrom_1 rfl ?_
  refine r_getq_st (by assumption) (by assumption) (by omega) 0 (by decide) q98 rfl dX5_copyFrom_2 ?_
  refine r_putp_st (by assumption) (by omega) 0 (by decide) q98 rfl rfl rfl rfl rfl dX5_copyFrom_5 ?_
  refine r_aload_n dX5_copyFrom_8 rfl ?_
  refine r_aload_n dX5_copyFrom_9 rfl ?_
  refine r_getq_st (by assumption) (by assumption) (by omega) 1 (by decide) q99 rfl dX5_copyFrom_10 ?_
  refine r_putp_st (by assumption) (by omega) 1 (by decide) q99 rfl rfl rfl rfl rfl dX5_copyFrom_13 ?_
  refine r_aload_n dX5_copyFrom_16 rfl ?_
  refine r_aload_n dX5_copyFrom_17 rfl ?_
  refine r_getq_st (by assumption) (by assumption) (by omega) 2 (by decide) q100 rfl dX5_copyFrom_18 ?_
  refine r_putp_st (by assumption) (by omega) 2 (by decide) q100 rfl rfl rfl rfl rfl dX5_copyFrom_21 ?_
  refine r_aload_n dX5_copyFrom_24 rfl ?_
  refine r_aload_n dX5_copyFrom_25 rfl ?_
  refine r_getq_st (by assumption) (by assumption) (by omega) 3 (by decide) q101 rfl dX5_copyFrom_26 ?_
  refine r_putp_st (by assumption) (by omega) 3 (by decide) q101 rfl rfl hB1 hB2 rfl dX5_copyFrom_29 ?_
  refine r_aload_n dX5_copyFrom_32 rfl ?_
  refine r_aload_n dX5_copyFrom_33 rfl ?_
  refine r_getq_st (by assumption) (by assumption) (by omega) 4 (by decide) q102 rfl dX5_copyFrom_34 ?_
  refine r_putp_st (by assumption) (by omega) 4 (by decide) q102 rfl rfl rfl rfl rfl dX5_copyFrom_37 ?_
  refine r_aload_n dX5_copyFrom_40 rfl ?_
  refine r_aload_n dX5_copyFrom_41 rfl ?_
  refine r_getq_st (by assumption) (by assumption) (by omega) 5 (by decide) q103 rfl dX5_copyFrom_42 ?_
  refine r_putp_st (by assumption) (by omega) 5 (by decide) q103 rfl rfl rfl rfl rfl dX5_copyFrom_45 ?_
  refine r_aload_n dX5_copyFrom_48 rfl ?_
  refine r_aload_n dX5_copyFrom_49 rfl ?_
  refine r_getq_st (by assumption) (by assumption) (by omega) 6 (by decide) q104 rfl dX5_copyFrom_50 ?_
  refine r_putp_st (by assumption) (by omega) 6 (by decide) q104 rfl rfl rfl rfl rfl dX5_copyFrom_53 ?_
  refine r_aload_n dX5_copyFrom_56 rfl ?_
  refine r_aload_n dX5_copyFrom_57 rfl ?_
  refine r_getq_st (by assumption) (by assumption) (by omega) 7 (by decide) q105 rfl dX5_copyFrom_58 ?_
  refine r_putp_st (by assumption) (by omega) 7 (by decide) q105 rfl rfl rfl rfl rfl dX5_copyFrom_61 ?_
  refine r_aload_n dX5_copyFrom_64 rfl ?_
  refine r_aload_n dX5_copyFrom_65 rfl ?_
  refine r_getq_st (by assumption) (by assumption) (by omega) 8 (by decide) q106 rfl dX5_copyFrom_66 ?_
  refine r_putp_st (by assumption) (by omega) 8 (by decide) q106 rfl rfl rfl rfl rfl dX5_copyFrom_69 ?_
  refine r_aload_n dX5_copyFrom_72 rfl ?_
  refine r_aload_n dX5_copyFrom_73 rfl ?_
  refine r_getq_st (by assumption) (by assumption) (by omega) 9 (by decide) q107 rfl dX5_copyFrom_74 ?_
  refine r_putp_st (by assumption) (by omega) 9 (by decide) q107 rfl rfl rfl rfl rfl dX5_copyFrom_77 ?_
  refine r_aload_n dX5_copyFrom_80 rfl ?_
  refine r_aload_n dX5_copyFrom_81 rfl ?_
  refine r_getq_st (by assumption) (by assumption) (by omega) 10 (by decide) q108 rfl dX5_copyFrom_82 ?_
  refine r_putp_st (by assumption) (by omega) 10 (by decide) q108 rfl rfl rfl rfl rfl dX5_copyFrom_85 ?_
  exact r_retv rfl dX5_copyFrom_88 rfl
theorem dX4_copyFrom_0 : decode cX4_copyFrom 0 = .ok (.iconst 0, 1) := by decide +kernel
theorem dX4_copyFrom_1 : decode cX4_copyFrom 1 = .ok (.istore_n 2, 1) := by decide +kernel
theorem dX4_copyFrom_2 : decode cX4_copyFrom 2 = .ok (.iload_n 2, 1) := by decide +kernel
theorem dX4_copyFrom_3 : decode cX4_copyFrom 3 = .ok (.aload_n 1, 1) := by decide +kernel
theorem dX4_copyFrom_4 : decode cX4_copyFrom 4 = .ok (.getfield 29, 3) := by decide +kernel
theorem dX4_copyFrom_7 : decode cX4_copyFrom 7 = .ok (.if_icmp .ge 24, 3) := by decide +kernel
theorem dX4_copyFrom_10 : decode cX4_copyFrom 10 = .ok (.aload_n 0, 1) := by decide +kernel
theorem dX4_copyFrom_11 : decode cX4_copyFrom 11 = .ok (.getfield 11, 3) := by decide +kernel
theorem dX4_copyFrom_14 : decode cX4_copyFrom 14 = .ok (.iload_n 2, 1) := by decide +kernel
theorem dX4_copyFrom_15 : decode cX4_copyFrom 15 = .ok (.aaload, 1) := by decide +kernel
theorem dX4_copyFrom_16 : decode cX4_copyFrom 16 = .ok (.aload_n 1, 1) := by decide +kernel
theorem dX4_copyFrom_17 : decode cX4_copyFrom 17 = .ok (.getfield 11, 3) := by decide +kernel
theorem dX4_copyFrom_20 : decode cX4_copyFrom 20 = .ok (.iload_n 2, 1) := by decide +kernel
theorem dX4_copyFrom_21 : decode cX4_copyFrom 21 = .ok (.aaload, 1) := by decide +kernel
theorem dX4_copyFrom_22 : decode cX4_copyFrom 22 = .ok (.invokevirtual 32, 3) := by decide +kernel
theorem dX4_copyFrom_25 : decode cX4_copyFrom 25 = .ok (.iinc 2 1, 3) := by decide +kernel
theorem dX4_copyFrom_28 : decode cX4_copyFrom 28 = .ok (.goto (-26), 3) := by decide +kernel
theorem dX4_copyFrom_31 : decode cX4_copyFrom 31 = .ok (.aload_n 0, 1) := by decide +kernel
theorem dX4_copyFrom_32 : decode cX4_copyFrom 32 = .ok (.aload_n 1, 1) := by decide +kernel
theorem dX4_copyFrom_33 : decode cX4_copyFrom 33 = .ok (.getfield 29, 3) := by decide +kernel
theorem dX4_copyFrom_36 : decode cX4_copyFrom 36 = .ok (.putfield 29, 3) := by decide +kernel
theorem dX4_copyFrom_39 : decode cX4_copyFrom 39 = .ok (.aload_n 1, 1) := by decide +kernel
theorem dX4_copyFrom_40 : decode cX4_copyFrom 40 = .ok (.getfield 17, 3) := by decide +kernel
theorem dX4_copyFrom_43 : decode cX4_copyFrom 43 = .ok (.iconst 0, 1) := by decide +kernel
theorem dX4_copyFrom_44 : decode cX4_copyFrom 44 = .ok (.aload_n 0, 1) := by decide +kernel
theorem dX4_copyFrom_45 : decode cX4_copyFrom 45 = .ok (.getfield 17, 3) := by decide +kernel
theorem dX4_copyFrom_48 : decode cX4_copyFrom 48 = .ok (.iconst 0, 1) := by decide +kernel
theorem dX4_copyFrom_49 : decode cX4_copyFrom 49 = .ok (.iconst 4, 1) := by decide +kernel
theorem dX4_copyFrom_50 : decode cX4_copyFrom 50 = .ok (.invokestatic 36, 3) := by decide +kernel
theorem dX4_copyFrom_53 : decode cX4_copyFrom 53 = .ok (.aload_n 0, 1) := by decide +kernel
theorem dX4_copyFrom_54 : decode cX4_copyFrom 54 = .ok (.aload_n 1, 1) := by decide +kernel
theorem dX4_copyFrom_55 : decode cX4_copyFrom 55 = .ok (.getfield 42, 3) := by decide +kernel
theorem dX4_copyFrom_58 : decode cX4_copyFrom 58 = .ok (.putfield 42, 3) := by decide +kernel
theorem dX4_copyFrom_61 : decode cX4_copyFrom 61 = .ok (.aload_n 1, 1) := by decide +kernel
theorem dX4_copyFrom_62 : decode cX4_copyFrom 62 = .ok (.getfield 21, 3) := by decide +kernel
theorem dX4_copyFrom_65 : decode cX4_copyFrom 65 = .ok (.iconst 0, 1) := by decide +kernel
theorem dX4_copyFrom_66 : decode cX4_copyFrom 66 = .ok (.aload_n 0, 1) := by decide +kernel
theorem dX4_copyFrom_67 : decode cX4_copyFrom 67 = .ok (.getfield 21, 3) := by decide +kernel
theorem dX4_copyFrom_70 : decode cX4_copyFrom 70 = .ok (.iconst 0, 1) := by decide +kernel
theorem dX4_copyFrom_71 : decode cX4_copyFrom 71 = .ok (.bipush 48, 2) := by decide +kernel
theorem dX4_copyFrom_73 : decode cX4_copyFrom 73 = .ok (.invokestatic 36, 3) := by decide +kernel
theorem dX4_copyFrom_76 : decode cX4_copyFrom 76 = .ok (.aload_n 0, 1) := by decide +kernel
theorem dX4_copyFrom_77 : decode cX4_copyFrom 77 = .ok (.aload_n 1, 1) := by decide +kernel
theorem dX4_copyFrom_78 : decode cX4_copyFrom 78 = .ok (.getfield 45, 3) := by decide +kernel
theorem dX4_copyFrom_81 : decode cX4_copyFrom 81 = .ok (.putfield 45, 3) := by decide +kernel
theorem dX4_copyFrom_84 : decode cX4_copyFrom 84 = .ok (.aload_n 0, 1) := by decide +kernel
theorem dX4_copyFrom_85 : decode cX4_copyFrom 85 = .ok (.aload_n 1, 1) := by decide +kernel
theorem dX4_copyFrom_86 : decode cX4_copyFrom 86 = .ok (.getfield 48, 3) := by decide +kernel
theorem dX4_copyFrom_89 : decode cX4_copyFrom 89 = .ok (.putfield 48, 3) := by decide +kernel
theorem dX4_copyFrom_92 : decode cX4_copyFrom 92 = .ok (.aload_n 0, 1) := by decide +kernel
theorem dX4_copyFrom_93 : decode cX4_copyFrom 93 = .ok (.aload_n 1, 1) := by decide +kernel
theorem dX4_copyFrom_94 : decode cX4_copyFrom 94 = .ok (.getfield 51, 3) := by decide +kernel
theorem dX4_copyFrom_97 : decode cX4_copyFrom 97 = .ok (.putfield 51, 3) := by decide +kernel
theorem dX4_copyFrom_100 : decode cX4_copyFrom 100 = .ok (.aload_n 0, 1) := by decide +kernel
theorem dX4_copyFrom_101 : decode cX4_copyFrom 101 = .ok (.aload_n 1, 1) := by decide +kernel
theorem dX4_copyFrom_102 : decode cX4_copyFrom 102 = .ok (.getfield 24, 3) := by decide +kernel
theorem dX4_copyFrom_105 : decode cX4_copyFrom 105 = .ok (.putfield 24, 3) := by decide +kernel
theorem dX4_copyFrom_108 : decode cX4_copyFrom 108 = .ok (.aload_n 0, 1) := by decide +kernel
theorem dX4_copyFrom_109 : decode cX4_copyFrom 109 = .ok (.aload_n 1, 1) := by decide +kernel
theorem dX4_copyFrom_110 : decode cX4_copyFrom 110 = .ok (.getfield 54, 3) := by decide +kernel
theorem dX4_copyFrom_113 : decode cX4_copyFrom 113 = .ok (.putfield 54, 3) := by decide +kernel
theorem dX4_copyFrom_116 : decode cX4_copyFrom 116 = .ok (.aload_n 0, 1) := by decide +kernel
theorem dX4_copyFrom_117 : decode cX4_copyFrom 117 = .ok (.aload_n 1, 1) := by decide +kernel
theorem dX4_copyFrom_118 : decode cX4_copyFrom 118 = .ok (.getfield 57, 3) := by decide +kernel
theorem dX4_copyFrom_121 : decode cX4_copyFrom 121 = .ok (.putfield 57, 3) := by decide +kernel
theorem dX4_copyFrom_124 : decode cX4_copyFrom 124 = .ok (.aload_n 0, 1) := by decide +kernel
theorem dX4_copyFrom_125 : decode cX4_copyFrom 125 = .ok (.aload_n 1, 1) := by decide +kernel
theorem dX4_copyFrom_126 : decode cX4_copyFrom 126 = .ok (.getfield 60, 3) := by decide +kernel
theorem dX4_copyFrom_129 : decode cX4_copyFrom 129 = .ok (.putfield 60, 3) := by decide +kernel
theorem dX4_copyFrom_132 : decode cX4_copyFrom 132 = .ok (.aload_n 0, 1) := by decide +kernel
theorem dX4_copyFrom_133 : decode cX4_copyFrom 133 = .ok (.aload_n 1, 1) := by decide +kernel
theorem dX4_copyFrom_134 : decode cX4_copyFrom 134 = .ok (.getfield 63, 3) := by decide +kernel
theorem dX4_copyFrom_137 : decode cX4_copyFrom 137 = .ok (.putfield 63, 3) := by decide +kernel
theorem dX4_copyFrom_140 : decode cX4_copyFrom 140 = .ok (.aload_n 0, 1) := by decide +kernel
theorem dX4_copyFrom_141 : decode cX4_copyFrom 141 = .ok (.aload_n 1, 1) := by decide +kernel
theorem dX4_copyFrom_142 : decode cX4_copyFrom 142 = .ok (.getfield 66, 3) := by decide +kernel
theorem dX4_copyFrom_145 : decode cX4_copyFrom 145 = .ok (.putfield 66, 3) := by decide +kernel
theorem dX4_copyFrom_148 : decode cX4_copyFrom 148 = .ok (.return_, 1) := by decide +kernel
theorem dcX4_copyFrom : yX4_copyFrom.cls = RX4 ∧ yX4_copyFrom.cls ≠ "java/lang/invoke/MethodHandle" ∧ yX4_copyFrom.cls ≠ "java/lang/invoke/VarHandle" ∧ (parseMethodDescriptor yX4_copyFrom.desc).map (fun d => d.parameters.length) = some 1 := by decide +kernel
theorem gX4_copyFrom_22 : GoodIn wsL_law (wsV RX4 32 RX5 yX5_copyFrom (.code yX5_copyFrom cX5_copyFrom 2 none :: wsL_law)) := g_V q94 q95 q96 q44 q97
set_option maxRecDepth 100000 in
set_option maxHeartbeats 4000000 in
theorem K_copy {cA : Nat → ClassId} {ad : tA} {ex : va_W} {M : tM} {r : Nat} {P0 : tP} {r2 : Nat} (hr : isPlan r) (hr2 : isPlan r2) (hne : r2 ≠ r) (hoc : okc (M r2)) (hob : okb (M r2)) : Cj yX4_copyFrom cX4_copyFrom 3 none (rmd 1) 0 0 cA ad [.ref (ad r 0), .ref (ad r2 0)] ex (m_pl M r P0) (Qe none ex (m_pl M r (f_copy P0 (M r2)))) := by
  refine c_of_r (lv0 := [some (.ref (ad r 0)), some (.ref (ad r2 0)), none]) rfl (by decide +kernel) (Nat.le_of_ble_eq_true rfl) rfl ?_
  have L : ∀ (n i : Nat) (P : tP), i + n = cn (M r2) → lp_cps (M r2) n i P = lp_cps (M r2) (cn (M r2)) 0 P0 → Rj cX4_copyFrom RX4 3 none (rmd 1) 0 0 cA ad (Qe none ex (m_pl M r (f_copy P0 (M r2)))) ex 0 0 2 [some (.ref (ad r 0)), some (.ref (ad r2 0)), some (.int (nI i))] [] (m_pl M r P) := by
    intro n
    induction n with
    | zero =>
      intro i P h hP
      refine r_iload_n dX4_copyFrom_2 rfl ?_
      refine r_aload_n dX4_copyFrom_3 rfl ?_
      refine r_getq_pl (by assumption) (by assumption) 1 (by decide) q80 rfl dX4_copyFrom_4 ?_
      refine r_icmp_ge (tgt := 31) dX4_copyFrom_7 (by decide) (fun c7 => ?_) (fun c7 => absurd (lp_z hoc.1 h) c7)
      refine r_aload_n dX4_copyFrom_31 rfl ?_
      refine r_aload_n dX4_copyFrom_32 rfl ?_
      refine r_getq_pl (by assumption) (by assumption) 1 (by decide) q80 rfl dX4_copyFrom_33 ?_
      refine r_putp_pl (by assumption) 1 (by decide) q80 rfl rfl rfl rfl rfl dX4_copyFrom_36 ?_
      refine r_aload_n dX4_copyFrom_39 rfl ?_
      refine r_getq_pl (by assumption) (by assumption) 2 (by decide) q40 rfl dX4_copyFrom_40 ?_
      refine r_iconst (v := 0) dX4_copyFrom_43 (by decide) ?_
      refine r_aload_n dX4_copyFrom_44 rfl ?_
      refine r_getp_pl (by assumption) 2 (by decide) q40 rfl dX4_copyFrom_45 ?_
      refine r_iconst (v := 0) dX4_copyFrom_48 (by decide) ?_
      refine r_iconst (v := 4) dX4_copyFrom_49 (by decide) ?_
      refine r_cpyp_mi (by assumption) (by assumption) (by assumption) q81 q82 q83 q84 (by decide) (by decide) rfl rfl dX4_copyFrom_50 ?_
      refine r_aload_n dX4_copyFrom_53 rfl ?_
      refine r_aload_n dX4_copyFrom_54 rfl ?_
      refine r_getq_pl (by assumption) (by assumption) 3 (by decide) q85 rfl dX4_copyFrom_55 ?_
      refine r_putp_pl (by assumption) 3 (by decide) q85 rfl rfl rfl rfl rfl dX4_copyFrom_58 ?_
      refine r_aload_n dX4_copyFrom_61 rfl ?_
      refine r_getq_pl (by assumption) (by assumption) 4 (by decide) q41 rfl dX4_copyFrom_62 ?_
      refine r_iconst (v := 0) dX4_copyFrom_65 (by decide) ?_
      refine r_aload_n dX4_copyFrom_66 rfl ?_
      refine r_getp_pl (by assumption) 4 (by decide) q41 rfl dX4_copyFrom_67 ?_
      refine r_iconst (v := 0) dX4_copyFrom_70 (by decide) ?_
      refine r_bipush (v := 48) dX4_copyFrom_71 (by decide) ?_
      refine r_cpyp_ev (by assumption) (by assumption) (by assumption) q81 q82 q83 q84 (by decide) (by decide) rfl rfl dX4_copyFrom_73 ?_
      refine r_aload_n dX4_copyFrom_76 rfl ?_
      refine r_aload_n dX4_copyFrom_77 rfl ?_
      refine r_getq_pl (by assumption) (by assumption) 5 (by decide) q86 rfl dX4_copyFrom_78 ?_
      refine r_putp_pl (by assumption) 5 (by decide) q86 rfl rfl rfl rfl rfl dX4_copyFrom_81 ?_
      refine r_aload_n dX4_copyFrom_84 rfl ?_
      refine r_aload_n dX4_copyFrom_85 rfl ?_
      refine r_getq_pl (by assumption) (by assumption) 6 (by decide) q87 rfl dX4_copyFrom_86 ?_
      refine r_putp_pl (by assumption) 6 (by decide) q87 rfl rfl rfl rfl rfl dX4_copyFrom_89 ?_
      refine r_aload_n dX4_copyFrom_92 rfl ?_
      refine r_aload_n dX4_copyFrom_93 rfl ?_
      refine r_getq_pl (by assumption) (by assumption) 7 (by decide) q88 rfl dX4_copyFrom_94 ?_
      refine r_putp_pl (by assumption) 7 (by decide) q88 rfl rfl rfl rfl rfl dX4_copyFrom_97 ?_
      refine r_aload_n dX4_copyFrom_100 rfl ?_
      refine r_aload_n dX4_copyFrom_101 rfl ?_
      refine r_getq_pl (by assumption) (by assumption) 8 (by decide) q42 rfl dX4_copyFrom_102 ?_
      refine r_putp_pl (by assumption) 8 (by decide) q42 rfl rfl rfl rfl rfl dX4_copyFrom_105 ?_
      refine r_aload_n dX4_copyFrom_108 rfl ?_
      refine r_aload_n dX4_copyFrom_109 rfl ?_
      refine r_getq_pl (by assumption) (by assumption) 9 (by decide) q89 rfl dX4_copyFrom_110 ?_
      refine r_putp_pl (by assumption) 9 (by decide) q89 rfl rfl rfl rfl rfl dX4_copyFrom_113 ?_
      refine r_aload_n dX4_copyFrom_116 rfl ?_
      refine r_aload_n dX4_copyFrom_117 rfl ?_
      refine r_getq_pl (by assumption) (by assumption) 10 (by decide) q90 rfl dX4_copyFrom_118 ?_
      refine r_putp_pl (by assumption) 10 (by decide) q90 rfl rfl rfl rfl rfl dX4_copyFrom_121 ?_
      refine r_aload_n dX4_copyFrom_124 rfl ?_
      refine r_aload_n dX4_copyFrom_125 rfl ?_
      refine r_getq_pl (by assumption) (by assumption) 11 (by decide) q91 rfl dX4_copyFrom_126 ?_
      refine r_putp_pl (by assumption) 11 (by decide) q91 rfl rfl rfl rfl rfl dX4_copyFrom_129 ?_
      refine r_aload_n dX4_copyFrom_132 rfl ?_
      refine r_aload_n dX4_copyFrom_133 rfl ?_
      refine r_getq_pl (by assumption) (by assumption) 12 (by decide) q92 rfl dX4_copyFrom_134 ?_
      refine r_putp_pl (by assumption) 12 (by decide) q92 rfl rfl rfl rfl rfl dX4_copyFrom_137 ?_
      refine r_aload_n dX4_copyFrom_140 rfl ?_
      refine r_aload_n dX4_copyFrom_141 rfl ?_
      refine r_getq_pl (by assumption) (by assumption) 13 (by decide) q93 rfl dX4_copyFrom_142 ?_
      refine r_putp_pl (by assumption) 13 (by decide) q93 rfl rfl rfl rfl rfl dX4_copyFrom_145 ?_
      exact r_retv rfl dX4_copyFrom_148 (by rw [f_copy, ← hP]; rfl)
    | succ n ih =>
      intro i P h hP
      have hi : i < 12 := by have := hoc.2; omega
      refine r_iload_n dX4_copyFrom_2 rfl ?_
      refine r_aload_n dX4_copyFrom_3 rfl ?_
      refine r_getq_pl (by assumption) (by assumption) 1 (by decide) q80 rfl dX4_copyFrom_4 ?_
      refine r_icmp_ge (tgt := 31) dX4_copyFrom_7 (by decide) (fun c7 => absurd c7 (lp_s hoc.1 hoc.2 h)) (fun c7 => ?_)
      refine r_aload_n dX4_copyFrom_10 rfl ?_
      refine r_getp_pl (by assumption) 0 (by decide) q38 rfl dX4_copyFrom_11 ?_
      refine r_iload_n dX4_copyFrom_14 rfl ?_
      refine r_aldp_steps (by assumption) rfl (by omega) dX4_copyFrom_15 ?_
      refine r_aload_n dX4_copyFrom_16 rfl ?_
      refine r_getq_pl (by assumption) (by assumption) 0 (by decide) q38 rfl dX4_copyFrom_17 ?_
      refine r_iload_n dX4_copyFrom_20 rfl ?_
      refine r_ald_steps (by assumption) rfl (by omega) dX4_copyFrom_21 ?_
      refine r_cVv dX4_copyFrom_22 (K_cps (r2 := r2) (i := i) (by assumption) (by assumption) (by assumption) hi (hob i hi)) gX4_copyFrom_22 dcX5_copyFrom rfl rfl rfl (by decide) (ob_st (by assumption) (by omega)) ?_
      refine r_iinc dX4_copyFrom_25 rfl ii_s (by decide) rfl ?_
      refine r_goto (tgt := 2) dX4_copyFrom_28 (by decide) ?_
      exact ih (i + 1) _ (by omega) hP
  refine r_iconst (v := 0) dX4_copyFrom_0 (by decide) ?_
  refine r_istore_n dX4_copyFrom_1 (by decide) rfl ?_
  exact L (cn (M r2)) 0 P0 (by omega) rfl
theorem dX4_addStep_0 : decode cX4_addStep 0 = .ok (.aload_n 0, 1) := by decide +kernel
theorem dX4_addStep_1 : decode cX4_addStep 1 = .ok (.getfield 29, 3) := by decide +kernel
theorem dX4_addStep_4 : decode cX4_addStep 4 = .ok (.istore 5, 2) := by decide +kernel
theorem dX4_addStep_6 : decode cX4_addStep 6 = .ok (.aload_n 0, 1) := by decide +kernel
theorem dX4_addStep_7 : decode cX4_addStep 7 = .ok (.getfield 11, 3) := by decide +kernel
theorem dX4_addStep_10 : decode cX4_addStep 10 = .ok (.iload 5, 2) := by decide +kernel
theorem dX4_addStep_12 : decode cX4_addStep 12 = .ok (.aaload, 1) := by decide +kernel
theorem dX4_addStep_13 : decode cX4_addStep 13 = .ok (.iload_n 1, 1) := by decide +kernel
theorem dX4_addStep_14 : decode cX4_addStep 14 = .ok (.iload_n 2, 1) := by decide +kernel
theorem dX4_addStep_15 : decode cX4_addStep 15 = .ok (.iload_n 3, 1) := by decide +kernel
theorem dX4_addStep_16 : decode cX4_addStep 16 = .ok (.iload 4, 2) := by decide +kernel
theorem dX4_addStep_18 : decode cX4_addStep 18 = .ok (.invokevirtual 69, 3) := by decide +kernel
theorem dX4_addStep_21 : decode cX4_addStep 21 = .ok (.aload_n 0, 1) := by decide +kernel
theorem dX4_addStep_22 : decode cX4_addStep 22 = .ok (.dup, 1) := by decide +kernel
theorem dX4_addStep_23 : decode cX4_addStep 23 = .ok (.getfield 29, 3) := by decide +kernel
theorem dX4_addStep_26 : decode cX4_addStep 26 = .ok (.iconst 1, 1) := by decide +kernel
theorem dX4_addStep_27 : decode cX4_addStep 27 = .ok (.iadd, 1) := by decide +kernel
theorem dX4_addStep_28 : decode cX4_addStep 28 = .ok (.putfield 29, 3) := by decide +kernel
theorem dX4_addStep_31 : decode cX4_addStep 31 = .ok (.aload_n 0, 1) := by decide +kernel
theorem dX4_addStep_32 : decode cX4_addStep 32 = .ok (.iload_n 3, 1) := by decide +kernel
theorem dX4_addStep_33 : decode cX4_addStep 33 = .ok (.invokevirtual 73, 3) := by decide +kernel
theorem dX4_addStep_36 : decode cX4_addStep 36 = .ok (.ifCond .eq 12, 3) := by decide +kernel
theorem dX4_addStep_39 : decode cX4_addStep 39 = .ok (.aload_n 0, 1) := by decide +kernel
theorem dX4_addStep_40 : decode cX4_addStep 40 = .ok (.iload 5, 2) := by decide +kernel
theorem dX4_addStep_42 : decode cX4_addStep 42 = .ok (.bipush 6, 2) := by decide +kernel
theorem dX4_addStep_44 : decode cX4_addStep 44 = .ok (.iconst 5, 1) := by decide +kernel
theorem dX4_addStep_45 : decode cX4_addStep 45 = .ok (.invokevirtual 77, 3) := by decide +kernel
theorem dX4_addStep_48 : decode cX4_addStep 48 = .ok (.iload 5, 2) := by decide +kernel
theorem dX4_addStep_50 : decode cX4_addStep 50 = .ok (.ireturn, 1) := by decide +kernel
theorem dcX4_addStep : yX4_addStep.cls = RX4 ∧ yX4_addStep.cls ≠ "java/lang/invoke/MethodHandle" ∧ yX4_addStep.cls ≠ "java/lang/invoke/VarHandle" ∧ (parseMethodDescriptor yX4_addStep.desc).map (fun d => d.parameters.length) = some 4 := by decide +kernel
theorem gX4_addStep_18 : GoodIn wsL_law (wsV RX4 69 RX5 yX5_tellAnew (.code yX5_tellAnew cX5_tellAnew 5 none :: wsL_law)) := g_V q297 q298 q299 q44 q300
theorem gX4_addStep_33 : GoodIn wsL_law (wsV RX4 73 RX4 yX4_isCancelled (.code yX4_isCancelled cX4_isCancelled 2 (some .boolean) :: wsL_law)) := g_V q301 q302 q303 q16 q304
theorem gX4_addStep_45 : GoodIn wsL_law (wsV RX4 77 RX4 yX4_turn (.code yX4_turn cX4_turn 5 none :: wsL_law)) := g_V q305 q306 q307 q16 q308
set_option maxRecDepth 100000 in
set_option maxHeartbeats 4000000 in
theorem K_add {cA : Nat → ClassId} {ad : tA} {ex : va_W} {M : tM} {r : Nat} {P : tP} {d m b : Int32} {a : Bool} (hr : isPlan r) (hoc : okc P) (hlt : cn P < 12) (ho : oke P) : Cj yX4_addStep cX4_addStep 6 (some .int) (rmd 1) 0 0 cA ad [.ref (ad r 0), .int d, .int m, .int b, .int (bI a)] ex (m_pl M r P) (Qe (some (.int (P 0 1))) ex (m_pl M r (f_add P d m b (bI a)))) := by
  refine c_of_r (lv0 := [some (.ref (ad r 0)), some (.int d), some (.int m), some (.int b), some (.int (bI a)), none]) rfl (by decide +kernel) (Nat.le_of_ble_eq_true rfl) rfl ?_
  obtain ⟨hc, hc2⟩ := hoc
  have ho1 : oke (f_add1 P d m b (bI a)) := oke_eq (by show pu (f_tell P (cn P) d m b (bI a)) 0 1 (f_tell P (cn P) d m b (bI a) 0 1 + 1) 0 5 = P 0 5; rw [pu_k (by omega), f_tell_0]) ho
  refine r_aload_n dX4_addStep_0 rfl ?_
  refine r_getp_pl (by assumption) 1 (by decide) q80 rfl dX4_addStep_1 ?_
  refine r_istore dX4_addStep_4 (by decide) rfl ?_
  refine r_aload_n dX4_addStep_6 rfl ?_
  refine r_getp_pl (by assumption) 0 (by decide) q38 rfl dX4_addStep_7 ?_
  refine r_iload dX4_addStep_10 rfl ?_
  refine r_aldp_steps (by assumption) hc hlt dX4_addStep_12 ?_
  refine r_iload_n dX4_addStep_13 rfl ?_
  refine r_iload_n dX4_addStep_14 rfl ?_
  refine r_iload_n dX4_addStep_15 rfl ?_
  refine r_iload dX4_addStep_16 rfl ?_
  refine r_cVv dX4_addStep_18 (K_tell (i := cn P) (by assumption) hlt) gX4_addStep_18 dcX5_tellAnew rfl rfl rfl (by decide) (ob_st (by assumption) (by omega)) ?_
  refine r_aload_n dX4_addStep_21 rfl ?_
  refine r_dup dX4_addStep_22 rfl ?_
  refine r_getp_pl (by assumption) 1 (by decide) q80 rfl dX4_addStep_23 ?_
  refine r_iconst (v := 1) dX4_addStep_26 (by decide) ?_
  refine r_iadd dX4_addStep_27 ?_
  refine r_putp_pl (by assumption) 1 (by decide) q80 rfl rfl rfl rfl rfl dX4_addStep_28 ?_
  refine r_aload_n dX4_addStep_31 rfl ?_
  refine r_iload_n dX4_addStep_32 rfl ?_
  refine r_cVi dX4_addStep_33 (K_isCancelled (by assumption)) gX4_addStep_33 dcX4_isCancelled rfl rfl rfl (by decide) (ob_pl (by assumption)) ?_
  refine r_if_eq (tgt := 48) dX4_addStep_36 (by decide) (fun c36 => ?_) (fun c36 => ?_)
  · refine r_iload dX4_addStep_48 rfl ?_
    exact r_ret rfl rfl dX4_addStep_50 rfl (by first | exact congrArg (m_pl M r) (f_add_n (bI_0 c36)).symm | exact congrArg (m_pl M r) (f_add_c (bI_1 c36)).symm)
  · refine r_aload_n dX4_addStep_39 rfl ?_
    refine r_iload dX4_addStep_40 rfl ?_
    refine r_bipush (v := 6) dX4_addStep_42 (by decide) ?_
    refine r_iconst (v := 5) dX4_addStep_44 (by decide) ?_
    refine r_cVv dX4_addStep_45 ((hc ▸ K_turn (n := cn P) (by assumption) hlt ho1)) gX4_addStep_45 dcX4_turn rfl rfl rfl (by decide) (ob_pl (by assumption)) ?_
    refine r_iload dX4_addStep_48 rfl ?_
    exact r_ret rfl rfl dX4_addStep_50 rfl (by first | exact congrArg (m_pl M r) (f_add_n (bI_0 c36)).symm | exact congrArg (m_pl M r) (f_add_c (bI_1 c36)).symm)
theorem dX4_addMilestone_0 : decode cX4_addMilestone 0 = .ok (.aload_n 0, 1) := by decide +kernel
theorem dX4_addMilestone_1 : decode cX4_addMilestone 1 = .ok (.getfield 42, 3) := by decide +kernel
theorem dX4_addMilestone_4 : decode cX4_addMilestone 4 = .ok (.istore_n 3, 1) := by decide +kernel
theorem dX4_addMilestone_5 : decode cX4_addMilestone 5 = .ok (.aload_n 0, 1) := by decide +kernel
theorem dX4_addMilestone_6 : decode cX4_addMilestone 6 = .ok (.getfield 17, 3) := by decide +kernel
theorem dX4_addMilestone_9 : decode cX4_addMilestone 9 = .ok (.iload_n 3, 1) := by decide +kernel
theorem dX4_addMilestone_10 : decode cX4_addMilestone 10 = .ok (.iload_n 1, 1) := by decide +kernel
theorem dX4_addMilestone_11 : decode cX4_addMilestone 11 = .ok (.iastore, 1) := by decide +kernel
theorem dX4_addMilestone_12 : decode cX4_addMilestone 12 = .ok (.aload_n 0, 1) := by decide +kernel
theorem dX4_addMilestone_13 : decode cX4_addMilestone 13 = .ok (.getfield 11, 3) := by decide +kernel
theorem dX4_addMilestone_16 : decode cX4_addMilestone 16 = .ok (.iload_n 1, 1) := by decide +kernel
theorem dX4_addMilestone_17 : decode cX4_addMilestone 17 = .ok (.aaload, 1) := by decide +kernel
theorem dX4_addMilestone_18 : decode cX4_addMilestone 18 = .ok (.iload_n 2, 1) := by decide +kernel
theorem dX4_addMilestone_19 : decode cX4_addMilestone 19 = .ok (.putfield 81, 3) := by decide +kernel
theorem dX4_addMilestone_22 : decode cX4_addMilestone 22 = .ok (.aload_n 0, 1) := by decide +kernel
theorem dX4_addMilestone_23 : decode cX4_addMilestone 23 = .ok (.dup, 1) := by decide +kernel
theorem dX4_addMilestone_24 : decode cX4_addMilestone 24 = .ok (.getfield 42, 3) := by decide +kernel
theorem dX4_addMilestone_27 : decode cX4_addMilestone 27 = .ok (.iconst 1, 1) := by decide +kernel
theorem dX4_addMilestone_28 : decode cX4_addMilestone 28 = .ok (.iadd, 1) := by decide +kernel
theorem dX4_addMilestone_29 : decode cX4_addMilestone 29 = .ok (.putfield 42, 3) := by decide +kernel
theorem dX4_addMilestone_32 : decode cX4_addMilestone 32 = .ok (.iload_n 3, 1) := by decide +kernel
theorem dX4_addMilestone_33 : decode cX4_addMilestone 33 = .ok (.ireturn, 1) := by decide +kernel
theorem dcX4_addMilestone : yX4_addMilestone.cls = RX4 ∧ yX4_addMilestone.cls ≠ "java/lang/invoke/MethodHandle" ∧ yX4_addMilestone.cls ≠ "java/lang/invoke/VarHandle" ∧ (parseMethodDescriptor yX4_addMilestone.desc).map (fun d => d.parameters.length) = some 2 := by decide +kernel
set_option maxRecDepth 100000 in
set_option maxHeartbeats 4000000 in
theorem K_addMs {cA : Nat → ClassId} {ad : tA} {ex : va_W} {M : tM} {r : Nat} {P : tP} {s : Nat} {d : Int32} (hr : isPlan r) (hs : s < 12) (hm : P 0 3 = nI (mn P)) (hm2 : mn P < 4) : Cj yX4_addMilestone cX4_addMilestone 4 (some .int) (rmd 0) 0 0 cA ad [.ref (ad r 0), .int (nI s), .int d] ex (m_pl M r P) (Qe (some (.int (P 0 3))) ex (m_pl M r (f_addMs P s d))) := by
  refine c_of_r (lv0 := [some (.ref (ad r 0)), some (.int (nI s)), some (.int d), none]) rfl (by decide +kernel) (Nat.le_of_ble_eq_true rfl) rfl ?_
  refine r_aload_n dX4_addMilestone_0 rfl ?_
  refine r_getp_pl (by assumption) 3 (by decide) q85 rfl dX4_addMilestone_1 ?_
  refine r_istore_n dX4_addMilestone_4 (by decide) rfl ?_
  refine r_aload_n dX4_addMilestone_5 rfl ?_
  refine r_getp_pl (by assumption) 2 (by decide) q40 rfl dX4_addMilestone_6 ?_
  refine r_iload_n dX4_addMilestone_9 rfl ?_
  refine r_iload_n dX4_addMilestone_10 rfl ?_
  refine r_strp_mi (by assumption) hm hm2 dX4_addMilestone_11 ?_
  refine r_aload_n dX4_addMilestone_12 rfl ?_
  refine r_getp_pl (by assumption) 0 (by decide) q38 rfl dX4_addMilestone_13 ?_
  refine r_iload_n dX4_addMilestone_16 rfl ?_
  refine r_aldp_steps (by assumption) rfl hs dX4_addMilestone_17 ?_
  refine r_iload_n dX4_addMilestone_18 rfl ?_
  refine r_putp_st (by assumption) (by omega) 5 (by decide) q357 rfl rfl rfl rfl rfl dX4_addMilestone_19 ?_
  refine r_aload_n dX4_addMilestone_22 rfl ?_
  refine r_dup dX4_addMilestone_23 rfl ?_
  refine r_getp_pl (by assumption) 3 (by decide) q85 rfl dX4_addMilestone_24 ?_
  refine r_iconst (v := 1) dX4_addMilestone_27 (by decide) ?_
  refine r_iadd dX4_addMilestone_28 ?_
  refine r_putp_pl (by assumption) 3 (by decide) q85 rfl rfl rfl rfl rfl dX4_addMilestone_29 ?_
  refine r_iload_n dX4_addMilestone_32 rfl ?_
  exact r_ret rfl rfl dX4_addMilestone_33 rfl rfl
end
section
/-! PART 08: cancelBranch, the work of a day, needs over all, late -/
theorem can_a {b : Int32} {n i : Nat} {P : tP} {u : Int32} (h : ¬ P (4 + i) 2 = b) : lp_can b (n + 1) i P u = lp_can b n (i + 1) P u := by rw [lp_can, if_neg h]
theorem can_b {b : Int32} {n i : Nat} {P : tP} {u : Int32} (h : P (4 + i) 2 = b) (h2 : f_isOpen (P (4 + i) 6) = true) : lp_can b (n + 1) i P u = lp_can b n (i + 1) (f_turn P i 6 5) u := by rw [lp_can, if_pos h, if_pos h2]
theorem can_c {b : Int32} {n i : Nat} {P : tP} {u : Int32} (h : P (4 + i) 2 = b) (h2 : f_isOpen (P (4 + i) 6) = false) (h3 : P (4 + i) 6 = 3) : lp_can b (n + 1) i P u = lp_can b n (i + 1) (pu (pu P (4 + i) 6 4) (4 + i) 7 ((pu P (4 + i) 6 4 (4 + i) 0 + 1) / 2)) (u + Int32.ofInt 1) := by rw [lp_can, if_pos h, h2, if_neg (by decide), if_pos h3]
theorem can_d {b : Int32} {n i : Nat} {P : tP} {u : Int32} (h : P (4 + i) 2 = b) (h2 : f_isOpen (P (4 + i) 6) = false) (h3 : ¬ P (4 + i) 6 = 3) : lp_can b (n + 1) i P u = lp_can b n (i + 1) P u := by rw [lp_can, if_pos h, h2, if_neg (by decide), if_neg h3]
def ink (P0 P : tP) : Prop := okc P ∧ oke P ∧ cn P = cn P0
theorem dX4_cancelBranch_0 : decode cX4_cancelBranch 0 = .ok (.aload_n 0, 1) := by decide +kernel
theorem dX4_cancelBranch_1 : decode cX4_cancelBranch 1 = .ok (.dup, 1) := by decide +kernel
theorem dX4_cancelBranch_2 : decode cX4_cancelBranch 2 = .ok (.getfield 54, 3) := by decide +kernel
theorem dX4_cancelBranch_5 : decode cX4_cancelBranch 5 = .ok (.iconst 1, 1) := by decide +kernel
theorem dX4_cancelBranch_6 : decode cX4_cancelBranch 6 = .ok (.iload_n 1, 1) := by decide +kernel
theorem dX4_cancelBranch_7 : decode cX4_cancelBranch 7 = .ok (.ishl, 1) := by decide +kernel
theorem dX4_cancelBranch_8 : decode cX4_cancelBranch 8 = .ok (.ior, 1) := by decide +kernel
theorem dX4_cancelBranch_9 : decode cX4_cancelBranch 9 = .ok (.putfield 54, 3) := by decide +kernel
theorem dX4_cancelBranch_12 : decode cX4_cancelBranch 12 = .ok (.iconst 0, 1) := by decide +kernel
theorem dX4_cancelBranch_13 : decode cX4_cancelBranch 13 = .ok (.istore_n 2, 1) := by decide +kernel
theorem dX4_cancelBranch_14 : decode cX4_cancelBranch 14 = .ok (.iconst 0, 1) := by decide +kernel
theorem dX4_cancelBranch_15 : decode cX4_cancelBranch 15 = .ok (.istore_n 3, 1) := by decide +kernel
theorem dX4_cancelBranch_16 : decode cX4_cancelBranch 16 = .ok (.iload_n 3, 1) := by decide +kernel
theorem dX4_cancelBranch_17 : decode cX4_cancelBranch 17 = .ok (.aload_n 0, 1) := by decide +kernel
theorem dX4_cancelBranch_18 : decode cX4_cancelBranch 18 = .ok (.getfield 29, 3) := by decide +kernel
theorem dX4_cancelBranch_21 : decode cX4_cancelBranch 21 = .ok (.if_icmp .ge 80, 3) := by decide +kernel
theorem dX4_cancelBranch_24 : decode cX4_cancelBranch 24 = .ok (.aload_n 0, 1) := by decide +kernel
theorem dX4_cancelBranch_25 : decode cX4_cancelBranch 25 = .ok (.getfield 11, 3) := by decide +kernel
theorem dX4_cancelBranch_28 : decode cX4_cancelBranch 28 = .ok (.iload_n 3, 1) := by decide +kernel
theorem dX4_cancelBranch_29 : decode cX4_cancelBranch 29 = .ok (.aaload, 1) := by decide +kernel
theorem dX4_cancelBranch_30 : decode cX4_cancelBranch 30 = .ok (.astore 4, 2) := by decide +kernel
theorem dX4_cancelBranch_32 : decode cX4_cancelBranch 32 = .ok (.aload 4, 2) := by decide +kernel
theorem dX4_cancelBranch_34 : decode cX4_cancelBranch 34 = .ok (.getfield 129, 3) := by decide +kernel
theorem dX4_cancelBranch_37 : decode cX4_cancelBranch 37 = .ok (.iload_n 1, 1) := by decide +kernel
theorem dX4_cancelBranch_38 : decode cX4_cancelBranch 38 = .ok (.if_icmp .eq 6, 3) := by decide +kernel
theorem dX4_cancelBranch_41 : decode cX4_cancelBranch 41 = .ok (.goto 54, 3) := by decide +kernel
theorem dX4_cancelBranch_44 : decode cX4_cancelBranch 44 = .ok (.aload 4, 2) := by decide +kernel
theorem dX4_cancelBranch_46 : decode cX4_cancelBranch 46 = .ok (.invokevirtual 116, 3) := by decide +kernel
theorem dX4_cancelBranch_49 : decode cX4_cancelBranch 49 = .ok (.ifCond .eq 14, 3) := by decide +kernel
theorem dX4_cancelBranch_52 : decode cX4_cancelBranch 52 = .ok (.aload_n 0, 1) := by decide +kernel
theorem dX4_cancelBranch_53 : decode cX4_cancelBranch 53 = .ok (.iload_n 3, 1) := by decide +kernel
theorem dX4_cancelBranch_54 : decode cX4_cancelBranch 54 = .ok (.bipush 6, 2) := by decide +kernel
theorem dX4_cancelBranch_56 : decode cX4_cancelBranch 56 = .ok (.iconst 5, 1) := by decide +kernel
theorem dX4_cancelBranch_57 : decode cX4_cancelBranch 57 = .ok (.invokevirtual 77, 3) := by decide +kernel
theorem dX4_cancelBranch_60 : decode cX4_cancelBranch 60 = .ok (.goto 35, 3) := by decide +kernel
theorem dX4_cancelBranch_63 : decode cX4_cancelBranch 63 = .ok (.aload 4, 2) := by decide +kernel
theorem dX4_cancelBranch_65 : decode cX4_cancelBranch 65 = .ok (.getfield 84, 3) := by decide +kernel
theorem dX4_cancelBranch_68 : decode cX4_cancelBranch 68 = .ok (.iconst 3, 1) := by decide +kernel
theorem dX4_cancelBranch_69 : decode cX4_cancelBranch 69 = .ok (.if_icmp .ne 26, 3) := by decide +kernel
theorem dX4_cancelBranch_72 : decode cX4_cancelBranch 72 = .ok (.aload 4, 2) := by decide +kernel
theorem dX4_cancelBranch_74 : decode cX4_cancelBranch 74 = .ok (.iconst 4, 1) := by decide +kernel
theorem dX4_cancelBranch_75 : decode cX4_cancelBranch 75 = .ok (.putfield 84, 3) := by decide +kernel
theorem dX4_cancelBranch_78 : decode cX4_cancelBranch 78 = .ok (.aload 4, 2) := by decide +kernel
theorem dX4_cancelBranch_80 : decode cX4_cancelBranch 80 = .ok (.aload 4, 2) := by decide +kernel
theorem dX4_cancelBranch_82 : decode cX4_cancelBranch 82 = .ok (.getfield 126, 3) := by decide +kernel
theorem dX4_cancelBranch_85 : decode cX4_cancelBranch 85 = .ok (.iconst 1, 1) := by decide +kernel
theorem dX4_cancelBranch_86 : decode cX4_cancelBranch 86 = .ok (.iadd, 1) := by decide +kernel
theorem dX4_cancelBranch_87 : decode cX4_cancelBranch 87 = .ok (.iconst 2, 1) := by decide +kernel
theorem dX4_cancelBranch_88 : decode cX4_cancelBranch 88 = .ok (.idiv, 1) := by decide +kernel
theorem dX4_cancelBranch_89 : decode cX4_cancelBranch 89 = .ok (.putfield 132, 3) := by decide +kernel
theorem dX4_cancelBranch_92 : decode cX4_cancelBranch 92 = .ok (.iinc 2 1, 3) := by decide +kernel
theorem dX4_cancelBranch_95 : decode cX4_cancelBranch 95 = .ok (.iinc 3 1, 3) := by decide +kernel
theorem dX4_cancelBranch_98 : decode cX4_cancelBranch 98 = .ok (.goto (-82), 3) := by decide +kernel
theorem dX4_cancelBranch_101 : decode cX4_cancelBranch 101 = .ok (.iload_n 2, 1) := by decide +kernel
theorem dX4_cancelBranch_102 : decode cX4_cancelBranch 102 = .ok (.ireturn, 1) := by decide +kernel
theorem dcX4_cancelBranch : yX4_cancelBranch.cls = RX4 ∧ yX4_cancelBranch.cls ≠ "java/lang/invoke/MethodHandle" ∧ yX4_cancelBranch.cls ≠ "java/lang/invoke/VarHandle" ∧ (parseMethodDescriptor yX4_cancelBranch.desc).map (fun d => d.parameters.length) = some 1 := by decide +kernel
theorem gX4_cancelBranch_46 : GoodIn wsL_law (wsV RX4 116 RX5 yX5_isOpen (.code yX5_isOpen cX5_isOpen 1 (some .boolean) :: wsL_law)) := g_V q347 q333 q334 q44 q335
theorem gX4_cancelBranch_57 : GoodIn wsL_law (wsV RX4 77 RX4 yX4_turn (.code yX4_turn cX4_turn 5 none :: wsL_law)) := g_V q305 q306 q307 q16 q308
set_option maxRecDepth 100000 in
set_option maxHeartbeats 4000000 in
theorem K_can {cA : Nat → ClassId} {ad : tA} {ex : va_W} {M : tM} {r : Nat} {P0 : tP} {b : Int32} (hr : isPlan r) (hoc : okc P0) (ho : oke P0) : Cj yX4_cancelBranch cX4_cancelBranch 5 (some .int) (rmd 1) 0 0 cA ad [.ref (ad r 0), .int b] ex (m_pl M r P0) (Qe (some (.int (f_can P0 b).2)) ex (m_pl M r (f_can P0 b).1)) := by
  refine c_of_r (lv0 := [some (.ref (ad r 0)), some (.int b), none, none, none]) rfl (by decide +kernel) (Nat.le_of_ble_eq_true rfl) rfl ?_
  have L : ∀ (n i : Nat) (P : tP) (u : Int32), i + n = cn P0 → ink P0 P → lp_can b n i P u = f_can P0 b → Rj cX4_cancelBranch RX4 5 (some .int) (rmd 1) 0 0 cA ad (Qe (some (.int (f_can P0 b).2)) ex (m_pl M r (f_can P0 b).1)) ex 0 0 16 [some (.ref (ad r 0)), some (.int b), some (.int u), some (.int (nI i)), none] [] (m_pl M r P) := by
    intro n
    induction n with
    | zero =>
      intro i P u h hk hP
      have hx : P 0 1 = nI (cn P0) := by rw [← hk.2.2]; exact hk.1.1
      refine r_iload_n dX4_cancelBranch_16 rfl ?_
      refine r_aload_n dX4_cancelBranch_17 rfl ?_
      refine r_getp_pl (by assumption) 1 (by decide) q80 rfl dX4_cancelBranch_18 ?_
      refine r_icmp_ge (tgt := 101) dX4_cancelBranch_21 (by decide) (fun c21 => ?_) (fun c21 => absurd (lp_z hx h) c21)
      refine r_iload_n dX4_cancelBranch_101 rfl ?_
      exact r_ret rfl rfl dX4_cancelBranch_102 (by rw [← hP]; rfl) (by rw [← hP]; rfl)
    | succ n ih =>
      intro i P u h hk hP
      have hx : P 0 1 = nI (cn P0) := by rw [← hk.2.2]; exact hk.1.1
      have hc2 : cn P0 ≤ 12 := by rw [← hk.2.2]; exact hk.1.2
      have ho : oke P := hk.2.1
      refine r_iload_n dX4_cancelBranch_16 rfl ?_
      refine r_aload_n dX4_cancelBranch_17 rfl ?_
      refine r_getp_pl (by assumption) 1 (by decide) q80 rfl dX4_cancelBranch_18 ?_
      refine r_icmp_ge (tgt := 101) dX4_cancelBranch_21 (by decide) (fun c21 => absurd c21 (lp_s hx hc2 h)) (fun c21 => ?_)
      refine r_aload_n dX4_cancelBranch_24 rfl ?_
      refine r_getp_pl (by assumption) 0 (by decide) q38 rfl dX4_cancelBranch_25 ?_
      refine r_iload_n dX4_cancelBranch_28 rfl ?_
      refine r_aldp_steps (by assumption) rfl (by omega) dX4_cancelBranch_29 ?_
      refine r_astore dX4_cancelBranch_30 (by decide) rfl ?_
      refine r_aload dX4_cancelBranch_32 rfl ?_
      refine r_getp_st (by assumption) (by omega) 2 (by decide) q345 rfl dX4_cancelBranch_34 ?_
      refine r_iload_n dX4_cancelBranch_37 rfl ?_
      refine r_icmp_eq (tgt := 44) dX4_cancelBranch_38 (by decide) (fun c38 => ?_) (fun c38 => ?_)
      · refine r_aload dX4_cancelBranch_44 rfl ?_
        refine r_cVi dX4_cancelBranch_46 (K_isOpen (i := i) (by assumption) (by omega)) gX4_cancelBranch_46 dcX5_isOpen rfl rfl rfl (by decide) (ob_st (by assumption) (by omega)) ?_
        refine r_if_eq (tgt := 63) dX4_cancelBranch_49 (by decide) (fun c49 => ?_) (fun c49 => ?_)
        · refine r_aload dX4_cancelBranch_63 rfl ?_
          refine r_getp_st (by assumption) (by omega) 6 (by decide) q168 rfl dX4_cancelBranch_65 ?_
          refine r_iconst (v := 3) dX4_cancelBranch_68 (by decide) ?_
          refine r_icmp_ne (tgt := 95) dX4_cancelBranch_69 (by decide) (fun c69 => ?_) (fun c69 => ?_)
          · refine r_iinc dX4_cancelBranch_95 rfl ii_s (by decide) rfl ?_
            refine r_goto (tgt := 16) dX4_cancelBranch_98 (by decide) ?_
            refine r_fgt 4 ?_
            exact ih (i + 1) _ _ (by omega) (by first | exact hk | exact ⟨kp_okc kp_turn hk.1, kp_turn.2.2.1 ho, (kp_cn kp_turn).trans hk.2.2⟩ | exact (have z := kp_tr (kp_st (P := P) (i := i) (k := 6) (x := 4) (by omega)) (kp_st (by omega)); ⟨kp_okc z hk.1, z.2.2.1 ho, (kp_cn z).trans hk.2.2⟩)) (by rw [← hP]; first | exact (can_a c38).symm | exact (can_b c38 (bI_1 c49)).symm | exact (can_c c38 (bI_0 c49) c69).symm | exact (can_d c38 (bI_0 c49) c69).symm)
          · refine r_aload dX4_cancelBranch_72 rfl ?_
            refine r_iconst (v := 4) dX4_cancelBranch_74 (by decide) ?_
            refine r_putp_st (by assumption) (by omega) 6 (by decide) q168 rfl rfl rfl rfl rfl dX4_cancelBranch_75 ?_
            refine r_aload dX4_cancelBranch_78 rfl ?_
            refine r_aload dX4_cancelBranch_80 rfl ?_
            refine r_getp_st (by assumption) (by omega) 0 (by decide) q346 rfl dX4_cancelBranch_82 ?_
            refine r_iconst (v := 1) dX4_cancelBranch_85 (by decide) ?_
            refine r_iadd dX4_cancelBranch_86 ?_
            refine r_iconst (v := 2) dX4_cancelBranch_87 (by decide) ?_
            refine r_idiv dX4_cancelBranch_88 (by decide) ?_
            refine r_putp_st (by assumption) (by omega) 7 (by decide) q309 rfl rfl rfl rfl rfl dX4_cancelBranch_89 ?_
            refine r_iinc dX4_cancelBranch_92 rfl rfl (by decide) rfl ?_
            refine r_iinc dX4_cancelBranch_95 rfl ii_s (by decide) rfl ?_
            refine r_goto (tgt := 16) dX4_cancelBranch_98 (by decide) ?_
            refine r_fgt 4 ?_
            exact ih (i + 1) _ _ (by omega) (by first | exact hk | exact ⟨kp_okc kp_turn hk.1, kp_turn.2.2.1 ho, (kp_cn kp_turn).trans hk.2.2⟩ | exact (have z := kp_tr (kp_st (P := P) (i := i) (k := 6) (x := 4) (by omega)) (kp_st (by omega)); ⟨kp_okc z hk.1, z.2.2.1 ho, (kp_cn z).trans hk.2.2⟩)) (by rw [← hP]; first | exact (can_a c38).symm | exact (can_b c38 (bI_1 c49)).symm | exact (can_c c38 (bI_0 c49) c69).symm | exact (can_d c38 (bI_0 c49) c69).symm)
        · refine r_aload_n dX4_cancelBranch_52 rfl ?_
          refine r_iload_n dX4_cancelBranch_53 rfl ?_
          refine r_bipush (v := 6) dX4_cancelBranch_54 (by decide) ?_
          refine r_iconst (v := 5) dX4_cancelBranch_56 (by decide) ?_
          refine r_cVv dX4_cancelBranch_57 (K_turn (n := i) (by assumption) (by omega) ho) gX4_cancelBranch_57 dcX4_turn rfl rfl rfl (by decide) (ob_pl (by assumption)) ?_
          refine r_goto (tgt := 95) dX4_cancelBranch_60 (by decide) ?_
          refine r_iinc dX4_cancelBranch_95 rfl ii_s (by decide) rfl ?_
          refine r_goto (tgt := 16) dX4_cancelBranch_98 (by decide) ?_
          refine r_fgt 4 ?_
          exact ih (i + 1) _ _ (by omega) (by first | exact hk | exact ⟨kp_okc kp_turn hk.1, kp_turn.2.2.1 ho, (kp_cn kp_turn).trans hk.2.2⟩ | exact (have z := kp_tr (kp_st (P := P) (i := i) (k := 6) (x := 4) (by omega)) (kp_st (by omega)); ⟨kp_okc z hk.1, z.2.2.1 ho, (kp_cn z).trans hk.2.2⟩)) (by rw [← hP]; first | exact (can_a c38).symm | exact (can_b c38 (bI_1 c49)).symm | exact (can_c c38 (bI_0 c49) c69).symm | exact (can_d c38 (bI_0 c49) c69).symm)
      · refine r_goto (tgt := 95) dX4_cancelBranch_41 (by decide) ?_
        refine r_iinc dX4_cancelBranch_95 rfl ii_s (by decide) rfl ?_
        refine r_goto (tgt := 16) dX4_cancelBranch_98 (by decide) ?_
        refine r_fgt 4 ?_
        exact ih (i + 1) _ _ (by omega) (by first | exact hk | exact ⟨kp_okc kp_turn hk.1, kp_turn.2.2.1 ho, (kp_cn kp_turn).trans hk.2.2⟩ | exact (have z := kp_tr (kp_st (P := P) (i := i) (k := 6) (x := 4) (by omega)) (kp_st (by omega)); ⟨kp_okc z hk.1, z.2.2.1 ho, (kp_cn z).trans hk.2.2⟩)) (by rw [← hP]; first | exact (can_a c38).symm | exact (can_b c38 (bI_1 c49)).symm | exact (can_c c38 (bI_0 c49) c69).symm | exact (can_d c38 (bI_0 c49) c69).symm)
  refine r_aload_n dX4_cancelBranch_0 rfl ?_
  refine r_dup dX4_cancelBranch_1 rfl ?_
  refine r_getp_pl (by assumption) 9 (by decide) q89 rfl dX4_cancelBranch_2 ?_
  refine r_iconst (v := 1) dX4_cancelBranch_5 (by decide) ?_
  refine r_iload_n dX4_cancelBranch_6 rfl ?_
  refine r_ishl dX4_cancelBranch_7 ?_
  refine r_ior dX4_cancelBranch_8 ?_
  refine r_putp_pl (by assumption) 9 (by decide) q89 rfl rfl rfl rfl rfl dX4_cancelBranch_9 ?_
  refine r_iconst (v := 0) dX4_cancelBranch_12 (by decide) ?_
  refine r_istore_n dX4_cancelBranch_13 (by decide) rfl ?_
  refine r_iconst (v := 0) dX4_cancelBranch_14 (by decide) ?_
  refine r_istore_n dX4_cancelBranch_15 (by decide) rfl ?_
  have z := kp_0 (P := P0) (k := 9) (x := P0 0 9 ||| 1 <<< (b &&& 31)) (by omega)
  exact L (cn P0) 0 _ 0 (by omega) ⟨kp_okc z hoc, z.2.2.1 ho, kp_cn z⟩ rfl
theorem wk_a {P : tP} {i : Nat} (h : ¬ P (4 + i) 6 = 1) : f_work P i = P := by rw [f_work, if_neg h]
theorem wk_b {P P1 : tP} {i : Nat} (h : P (4 + i) 6 = 1) (e : P1 = pu P (4 + i) 7 (P (4 + i) 7 - 1)) (h2 : ¬ P1 (4 + i) 7 ≤ 0) : f_work P i = P1 := by subst e; rw [f_work, if_pos h, f_work1, if_neg h2]
theorem wk_c {P P1 : tP} {i : Nat} (h : P (4 + i) 6 = 1) (e : P1 = pu P (4 + i) 7 (P (4 + i) 7 - 1)) (h2 : P1 (4 + i) 7 ≤ 0) (h3 : P1 (4 + i) 9 = 0) : f_work P i = f_turn (pu (pu P1 (4 + i) 10 (P1 0 7)) 0 12 (pu P1 (4 + i) 10 (P1 0 7) 0 12 + 1)) i 3 1 := by subst e; rw [f_work, if_pos h, f_work1, if_pos h2, if_pos h3]
theorem wk_d {P P1 : tP} {i : Nat} (h : P (4 + i) 6 = 1) (e : P1 = pu P (4 + i) 7 (P (4 + i) 7 - 1)) (h2 : P1 (4 + i) 7 ≤ 0) (h3 : ¬ P1 (4 + i) 9 = 0) : f_work P i = f_work2 P1 i := by subst e; rw [f_work, if_pos h, f_work1, if_pos h2, if_neg h3]
def f_wk3 (P : tP) (i : Nat) : tP := let P2 := pu P (4 + i) 9 (P (4 + i) 9 - 1); pu P2 0 11 (P2 0 11 + 1)
theorem wk_e {P : tP} {i : Nat} (h : ¬ f_wk3 P i (4 + i) 1 < f_wk3 P i (4 + i) 8) : f_work2 P i = f_turn (f_wk3 P i) i 2 2 := if_neg h
theorem wk_f {P : tP} {i : Nat} (h : f_wk3 P i (4 + i) 1 < f_wk3 P i (4 + i) 8) (h2 : f_turn (f_wk3 P i) i 7 3 (4 + i) 2 = 0) : f_work2 P i = f_turn (f_wk3 P i) i 7 3 := (if_pos h).trans (if_pos h2)
theorem wk_g {P : tP} {i : Nat} (h : f_wk3 P i (4 + i) 1 < f_wk3 P i (4 + i) 8) (h2 : ¬ f_turn (f_wk3 P i) i 7 3 (4 + i) 2 = 0) (h3 : f_isCancelled (f_turn (f_wk3 P i) i 7 3) (f_turn (f_wk3 P i) i 7 3 (4 + i) 2) = true) : f_work2 P i = f_turn (f_wk3 P i) i 7 3 := (if_pos h).trans ((if_neg h2).trans (if_pos h3))
theorem wk_h {P : tP} {i : Nat} (h : f_wk3 P i (4 + i) 1 < f_wk3 P i (4 + i) 8) (h2 : ¬ f_turn (f_wk3 P i) i 7 3 (4 + i) 2 = 0) (h3 : f_isCancelled (f_turn (f_wk3 P i) i 7 3) (f_turn (f_wk3 P i) i 7 3 (4 + i) 2) = false) : f_work2 P i = (f_can (f_turn (f_wk3 P i) i 7 3) (f_turn (f_wk3 P i) i 7 3 (4 + i) 2)).1 := (if_pos h).trans ((if_neg h2).trans (if_neg (fun z => Bool.noConfusion ((h3.symm.trans z : false = true)))))
theorem kp_wk3 {P : tP} {i : Nat} : kp P (f_wk3 P i) := kp_tr (kp_st (by omega)) (kp_0 (by omega))
theorem dX4_workOn_0 : decode cX4_workOn 0 = .ok (.aload_n 0, 1) := by decide +kernel
theorem dX4_workOn_1 : decode cX4_workOn 1 = .ok (.getfield 11, 3) := by decide +kernel
theorem dX4_workOn_4 : decode cX4_workOn 4 = .ok (.iload_n 1, 1) := by decide +kernel
theorem dX4_workOn_5 : decode cX4_workOn 5 = .ok (.aaload, 1) := by decide +kernel
theorem dX4_workOn_6 : decode cX4_workOn 6 = .ok (.astore_n 2, 1) := by decide +kernel
theorem dX4_workOn_7 : decode cX4_workOn 7 = .ok (.aload_n 2, 1) := by decide +kernel
theorem dX4_workOn_8 : decode cX4_workOn 8 = .ok (.getfield 84, 3) := by decide +kernel
theorem dX4_workOn_11 : decode cX4_workOn 11 = .ok (.iconst 1, 1) := by decide +kernel
theorem dX4_workOn_12 : decode cX4_workOn 12 = .ok (.if_icmp .eq 4, 3) := by decide +kernel
theorem dX4_workOn_15 : decode cX4_workOn 15 = .ok (.return_, 1) := by decide +kernel
theorem dX4_workOn_16 : decode cX4_workOn 16 = .ok (.aload_n 2, 1) := by decide +kernel
theorem dX4_workOn_17 : decode cX4_workOn 17 = .ok (.dup, 1) := by decide +kernel
theorem dX4_workOn_18 : decode cX4_workOn 18 = .ok (.getfield 132, 3) := by decide +kernel
theorem dX4_workOn_21 : decode cX4_workOn 21 = .ok (.iconst 1, 1) := by decide +kernel
theorem dX4_workOn_22 : decode cX4_workOn 22 = .ok (.isub, 1) := by decide +kernel
theorem dX4_workOn_23 : decode cX4_workOn 23 = .ok (.putfield 132, 3) := by decide +kernel
theorem dX4_workOn_26 : decode cX4_workOn 26 = .ok (.aload_n 2, 1) := by decide +kernel
theorem dX4_workOn_27 : decode cX4_workOn 27 = .ok (.getfield 132, 3) := by decide +kernel
theorem dX4_workOn_30 : decode cX4_workOn 30 = .ok (.ifCond .le 4, 3) := by decide +kernel
theorem dX4_workOn_33 : decode cX4_workOn 33 = .ok (.return_, 1) := by decide +kernel
theorem dX4_workOn_34 : decode cX4_workOn 34 = .ok (.aload_n 2, 1) := by decide +kernel
theorem dX4_workOn_35 : decode cX4_workOn 35 = .ok (.getfield 148, 3) := by decide +kernel
theorem dX4_workOn_38 : decode cX4_workOn 38 = .ok (.ifCond .ne 29, 3) := by decide +kernel
theorem dX4_workOn_41 : decode cX4_workOn 41 = .ok (.aload_n 2, 1) := by decide +kernel
theorem dX4_workOn_42 : decode cX4_workOn 42 = .ok (.aload_n 0, 1) := by decide +kernel
theorem dX4_workOn_43 : decode cX4_workOn 43 = .ok (.getfield 51, 3) := by decide +kernel
theorem dX4_workOn_46 : decode cX4_workOn 46 = .ok (.putfield 87, 3) := by decide +kernel
theorem dX4_workOn_49 : decode cX4_workOn 49 = .ok (.aload_n 0, 1) := by decide +kernel
theorem dX4_workOn_50 : decode cX4_workOn 50 = .ok (.dup, 1) := by decide +kernel
theorem dX4_workOn_51 : decode cX4_workOn 51 = .ok (.getfield 63, 3) := by decide +kernel
theorem dX4_workOn_54 : decode cX4_workOn 54 = .ok (.iconst 1, 1) := by decide +kernel
theorem dX4_workOn_55 : decode cX4_workOn 55 = .ok (.iadd, 1) := by decide +kernel
theorem dX4_workOn_56 : decode cX4_workOn 56 = .ok (.putfield 63, 3) := by decide +kernel
theorem dX4_workOn_59 : decode cX4_workOn 59 = .ok (.aload_n 0, 1) := by decide +kernel
theorem dX4_workOn_60 : decode cX4_workOn 60 = .ok (.iload_n 1, 1) := by decide +kernel
theorem dX4_workOn_61 : decode cX4_workOn 61 = .ok (.iconst 3, 1) := by decide +kernel
theorem dX4_workOn_62 : decode cX4_workOn 62 = .ok (.iconst 1, 1) := by decide +kernel
theorem dX4_workOn_63 : decode cX4_workOn 63 = .ok (.invokevirtual 77, 3) := by decide +kernel
theorem dX4_workOn_66 : decode cX4_workOn 66 = .ok (.return_, 1) := by decide +kernel
theorem dX4_workOn_67 : decode cX4_workOn 67 = .ok (.aload_n 2, 1) := by decide +kernel
theorem dX4_workOn_68 : decode cX4_workOn 68 = .ok (.dup, 1) := by decide +kernel
theorem dX4_workOn_69 : decode cX4_workOn 69 = .ok (.getfield 148, 3) := by decide +kernel
theorem dX4_workOn_72 : decode cX4_workOn 72 = .ok (.iconst 1, 1) := by decide +kernel
theorem dX4_workOn_73 : decode cX4_workOn 73 = .ok (.isub, 1) := by decide +kernel
theorem dX4_workOn_74 : decode cX4_workOn 74 = .ok (.putfield 148, 3) := by decide +kernel
theorem dX4_workOn_77 : decode cX4_workOn 77 = .ok (.aload_n 0, 1) := by decide +kernel
theorem dX4_workOn_78 : decode cX4_workOn 78 = .ok (.dup, 1) := by decide +kernel
theorem dX4_workOn_79 : decode cX4_workOn 79 = .ok (.getfield 60, 3) := by decide +kernel
theorem dX4_workOn_82 : decode cX4_workOn 82 = .ok (.iconst 1, 1) := by decide +kernel
theorem dX4_workOn_83 : decode cX4_workOn 83 = .ok (.iadd, 1) := by decide +kernel
theorem dX4_workOn_84 : decode cX4_workOn 84 = .ok (.putfield 60, 3) := by decide +kernel
theorem dX4_workOn_87 : decode cX4_workOn 87 = .ok (.aload_n 2, 1) := by decide +kernel
theorem dX4_workOn_88 : decode cX4_workOn 88 = .ok (.getfield 123, 3) := by decide +kernel
theorem dX4_workOn_91 : decode cX4_workOn 91 = .ok (.aload_n 2, 1) := by decide +kernel
theorem dX4_workOn_92 : decode cX4_workOn 92 = .ok (.getfield 151, 3) := by decide +kernel
theorem dX4_workOn_95 : decode cX4_workOn 95 = .ok (.if_icmp .gt 11, 3) := by decide +kernel
theorem dX4_workOn_98 : decode cX4_workOn 98 = .ok (.aload_n 0, 1) := by decide +kernel
theorem dX4_workOn_99 : decode cX4_workOn 99 = .ok (.iload_n 1, 1) := by decide +kernel
theorem dX4_workOn_100 : decode cX4_workOn 100 = .ok (.iconst 2, 1) := by decide +kernel
theorem dX4_workOn_101 : decode cX4_workOn 101 = .ok (.iconst 2, 1) := by decide +kernel
theorem dX4_workOn_102 : decode cX4_workOn 102 = .ok (.invokevirtual 77, 3) := by decide +kernel
theorem dX4_workOn_105 : decode cX4_workOn 105 = .ok (.return_, 1) := by decide +kernel
theorem dX4_workOn_106 : decode cX4_workOn 106 = .ok (.aload_n 0, 1) := by decide +kernel
theorem dX4_workOn_107 : decode cX4_workOn 107 = .ok (.iload_n 1, 1) := by decide +kernel
theorem dX4_workOn_108 : decode cX4_workOn 108 = .ok (.bipush 7, 2) := by decide +kernel
theorem dX4_workOn_110 : decode cX4_workOn 110 = .ok (.iconst 3, 1) := by decide +kernel
theorem dX4_workOn_111 : decode cX4_workOn 111 = .ok (.invokevirtual 77, 3) := by decide +kernel
theorem dX4_workOn_114 : decode cX4_workOn 114 = .ok (.aload_n 2, 1) := by decide +kernel
theorem dX4_workOn_115 : decode cX4_workOn 115 = .ok (.getfield 129, 3) := by decide +kernel
theorem dX4_workOn_118 : decode cX4_workOn 118 = .ok (.ifCond .eq 23, 3) := by decide +kernel
theorem dX4_workOn_121 : decode cX4_workOn 121 = .ok (.aload_n 0, 1) := by decide +kernel
theorem dX4_workOn_122 : decode cX4_workOn 122 = .ok (.aload_n 2, 1) := by decide +kernel
theorem dX4_workOn_123 : decode cX4_workOn 123 = .ok (.getfield 129, 3) := by decide +kernel
theorem dX4_workOn_126 : decode cX4_workOn 126 = .ok (.invokevirtual 73, 3) := by decide +kernel
theorem dX4_workOn_129 : decode cX4_workOn 129 = .ok (.ifCond .ne 12, 3) := by decide +kernel
theorem dX4_workOn_132 : decode cX4_workOn 132 = .ok (.aload_n 0, 1) := by decide +kernel
theorem dX4_workOn_133 : decode cX4_workOn 133 = .ok (.aload_n 2, 1) := by decide +kernel
theorem dX4_workOn_134 : decode cX4_workOn 134 = .ok (.getfield 129, 3) := by decide +kernel
theorem dX4_workOn_137 : decode cX4_workOn 137 = .ok (.invokevirtual 154, 3) := by decide +kernel
theorem dX4_workOn_140 : decode cX4_workOn 140 = .ok (.pop, 1) := by decide +kernel
theorem dX4_workOn_141 : decode cX4_workOn 141 = .ok (.return_, 1) := by decide +kernel
theorem dcX4_workOn : yX4_workOn.cls = RX4 ∧ yX4_workOn.cls ≠ "java/lang/invoke/MethodHandle" ∧ yX4_workOn.cls ≠ "java/lang/invoke/VarHandle" ∧ (parseMethodDescriptor yX4_workOn.desc).map (fun d => d.parameters.length) = some 1 := by decide +kernel
theorem gX4_workOn_111 : GoodIn wsL_law (wsV RX4 77 RX4 yX4_turn (.code yX4_turn cX4_turn 5 none :: wsL_law)) := g_V q305 q306 q307 q16 q308
theorem gX4_workOn_126 : GoodIn wsL_law (wsV RX4 73 RX4 yX4_isCancelled (.code yX4_isCancelled cX4_isCancelled 2 (some .boolean) :: wsL_law)) := g_V q301 q302 q303 q16 q304
theorem gX4_workOn_137 : GoodIn wsL_law (wsV RX4 154 RX4 yX4_cancelBranch (.code yX4_cancelBranch cX4_cancelBranch 5 (some .int) :: wsL_law)) := g_V q374 q342 q343 q16 q344
theorem gX4_workOn_102 : GoodIn wsL_law (wsV RX4 77 RX4 yX4_turn (.code yX4_turn cX4_turn 5 none :: wsL_law)) := g_V q305 q306 q307 q16 q308
theorem gX4_workOn_63 : GoodIn wsL_law (wsV RX4 77 RX4 yX4_turn (.code yX4_turn cX4_turn 5 none :: wsL_law)) := g_V q305 q306 q307 q16 q308
set_option maxRecDepth 100000 in
set_option maxHeartbeats 4000000 in
theorem K_work {cA : Nat → ClassId} {ad : tA} {ex : va_W} {M : tM} {r : Nat} {P : tP} {i : Nat} (hr : isPlan r) (hi : i < 12) (hoc : okc P) (ho : oke P) : Cj yX4_workOn cX4_workOn 3 none (rmd 2) 0 0 cA ad [.ref (ad r 0), .int (nI i)] ex (m_pl M r P) (Qe none ex (m_pl M r (f_work P i))) := by
  refine c_of_r (lv0 := [some (.ref (ad r 0)), some (.int (nI i)), none]) rfl (by decide +kernel) (Nat.le_of_ble_eq_true rfl) rfl ?_
  have ho1 : oke (pu P (4 + i) 7 (P (4 + i) 7 - 1)) := (kp_st (by omega)).2.2.1 ho
  have ho2 : oke (f_wk3 (pu P (4 + i) 7 (P (4 + i) 7 - 1)) i) := kp_wk3.2.2.1 ho1
  have hc2 : okc (f_turn (f_wk3 (pu P (4 + i) 7 (P (4 + i) 7 - 1)) i) i 7 3) := kp_okc (kp_tr (kp_st (by omega)) (kp_tr kp_wk3 kp_turn)) hoc
  refine r_aload_n dX4_workOn_0 rfl ?_
  refine r_getp_pl (by assumption) 0 (by decide) q38 rfl dX4_workOn_1 ?_
  refine r_iload_n dX4_workOn_4 rfl ?_
  refine r_aldp_steps (by assumption) rfl (by omega) dX4_workOn_5 ?_
  refine r_astore_n dX4_workOn_6 (by decide) rfl ?_
  refine r_aload_n dX4_workOn_7 rfl ?_
  refine r_getp_st (by assumption) (by omega) 6 (by decide) q168 rfl dX4_workOn_8 ?_
  refine r_iconst (v := 1) dX4_workOn_11 (by decide) ?_
  refine r_icmp_eq (tgt := 16) dX4_workOn_12 (by decide) (fun c12 => ?_) (fun c12 => ?_)
  · refine r_aload_n dX4_workOn_16 rfl ?_
    refine r_dup dX4_workOn_17 rfl ?_
    refine r_getp_st (by assumption) (by omega) 7 (by decide) q309 rfl dX4_workOn_18 ?_
    refine r_iconst (v := 1) dX4_workOn_21 (by decide) ?_
    refine r_isub dX4_workOn_22 ?_
    refine r_putp_st (by assumption) (by omega) 7 (by decide) q309 rfl rfl rfl rfl rfl dX4_workOn_23 ?_
    refine r_aload_n dX4_workOn_26 rfl ?_
    refine r_getp_st (by assumption) (by omega) 7 (by decide) q309 rfl dX4_workOn_27 ?_
    refine r_if_le (tgt := 34) dX4_workOn_30 (by decide) (fun c30 => ?_) (fun c30 => ?_)
    · refine r_aload_n dX4_workOn_34 rfl ?_
      refine r_getp_st (by assumption) (by omega) 9 (by decide) q370 rfl dX4_workOn_35 ?_
      refine r_if_ne (tgt := 67) dX4_workOn_38 (by decide) (fun c38 => ?_) (fun c38 => ?_)
      · refine r_aload_n dX4_workOn_67 rfl ?_
        refine r_dup dX4_workOn_68 rfl ?_
        refine r_getp_st (by assumption) (by omega) 9 (by decide) q370 rfl dX4_workOn_69 ?_
        refine r_iconst (v := 1) dX4_workOn_72 (by decide) ?_
        refine r_isub dX4_workOn_73 ?_
        refine r_putp_st (by assumption) (by omega) 9 (by decide) q370 rfl rfl rfl rfl rfl dX4_workOn_74 ?_
        refine r_aload_n dX4_workOn_77 rfl ?_
        refine r_dup dX4_workOn_78 rfl ?_
        refine r_getp_pl (by assumption) 11 (by decide) q91 rfl dX4_workOn_79 ?_
        refine r_iconst (v := 1) dX4_workOn_82 (by decide) ?_
        refine r_iadd dX4_workOn_83 ?_
        refine r_putp_pl (by assumption) 11 (by decide) q91 rfl rfl rfl rfl rfl dX4_workOn_84 ?_
        refine r_aload_n dX4_workOn_87 rfl ?_
        refine r_getp_st (by assumption) (by omega) 8 (by decide) q372 rfl dX4_workOn_88 ?_
        refine r_aload_n dX4_workOn_91 rfl ?_
        refine r_getp_st (by assumption) (by omega) 1 (by decide) q373 rfl dX4_workOn_92 ?_
        refine r_icmp_gt (tgt := 106) dX4_workOn_95 (by decide) (fun c95 => ?_) (fun c95 => ?_)
        · refine r_aload_n dX4_workOn_106 rfl ?_
          refine r_iload_n dX4_workOn_107 rfl ?_
          refine r_bipush (v := 7) dX4_workOn_108 (by decide) ?_
          refine r_iconst (v := 3) dX4_workOn_110 (by decide) ?_
          refine r_cVv dX4_workOn_111 (K_turn (P := f_wk3 (pu P (4 + i) 7 (P (4 + i) 7 - 1)) i) (n := i) (by assumption) hi ho2) gX4_workOn_111 dcX4_turn rfl rfl rfl (by decide) (ob_pl (by assumption)) ?_
          refine r_aload_n dX4_workOn_114 rfl ?_
          refine r_getp_st (by assumption) (by omega) 2 (by decide) q345 rfl dX4_workOn_115 ?_
          refine r_if_eq (tgt := 141) dX4_workOn_118 (by decide) (fun c118 => ?_) (fun c118 => ?_)
          · first | exact r_retv rfl dX4_workOn_141 (congrArg (m_pl M r) ((wk_d (by assumption) rfl c30 c38).trans (wk_f c95 c118)).symm) | exact r_retv rfl dX4_workOn_141 (congrArg (m_pl M r) ((wk_d (by assumption) rfl c30 c38).trans (wk_g c95 c118 (bI_1 c129))).symm) | exact r_retv rfl dX4_workOn_141 (congrArg (m_pl M r) ((wk_d (by assumption) rfl c30 c38).trans (wk_h c95 c118 (bI_0 c129))).symm)
          · refine r_aload_n dX4_workOn_121 rfl ?_
            refine r_aload_n dX4_workOn_122 rfl ?_
            refine r_getp_st (by assumption) (by omega) 2 (by decide) q345 rfl dX4_workOn_123 ?_
            refine r_cVi dX4_workOn_126 (K_isCancelled (by assumption)) gX4_workOn_126 dcX4_isCancelled rfl rfl rfl (by decide) (ob_pl (by assumption)) ?_
            refine r_if_ne (tgt := 141) dX4_workOn_129 (by decide) (fun c129 => ?_) (fun c129 => ?_)
            · first | exact r_retv rfl dX4_workOn_141 (congrArg (m_pl M r) ((wk_d (by assumption) rfl c30 c38).trans (wk_f c95 c118)).symm) | exact r_retv rfl dX4_workOn_141 (congrArg (m_pl M r) ((wk_d (by assumption) rfl c30 c38).trans (wk_g c95 c118 (bI_1 c129))).symm) | exact r_retv rfl dX4_workOn_141 (congrArg (m_pl M r) ((wk_d (by assumption) rfl c30 c38).trans (wk_h c95 c118 (bI_0 c129))).symm)
            · refine r_aload_n dX4_workOn_132 rfl ?_
              refine r_aload_n dX4_workOn_133 rfl ?_
              refine r_getp_st (by assumption) (by omega) 2 (by decide) q345 rfl dX4_workOn_134 ?_
              refine r_cVi dX4_workOn_137 (K_can (by assumption) hc2 (kp_turn.2.2.1 ho2)) gX4_workOn_137 dcX4_cancelBranch rfl rfl rfl (by decide) (ob_pl (by assumption)) ?_
              refine r_pop dX4_workOn_140 rfl ?_
              first | exact r_retv rfl dX4_workOn_141 (congrArg (m_pl M r) ((wk_d (by assumption) rfl c30 c38).trans (wk_f c95 c118)).symm) | exact r_retv rfl dX4_workOn_141 (congrArg (m_pl M r) ((wk_d (by assumption) rfl c30 c38).trans (wk_g c95 c118 (bI_1 c129))).symm) | exact r_retv rfl dX4_workOn_141 (congrArg (m_pl M r) ((wk_d (by assumption) rfl c30 c38).trans (wk_h c95 c118 (bI_0 c129))).symm)
        · refine r_aload_n dX4_workOn_98 rfl ?_
          refine r_iload_n dX4_workOn_99 rfl ?_
          refine r_iconst (v := 2) dX4_workOn_100 (by decide) ?_
          refine r_iconst (v := 2) dX4_workOn_101 (by decide) ?_
          refine r_cVv dX4_workOn_102 (K_turn (P := f_wk3 (pu P (4 + i) 7 (P (4 + i) 7 - 1)) i) (n := i) (by assumption) hi ho2) gX4_workOn_102 dcX4_turn rfl rfl rfl (by decide) (ob_pl (by assumption)) ?_
          exact r_retv rfl dX4_workOn_105 (congrArg (m_pl M r) ((wk_d (by assumption) rfl c30 c38).trans (wk_e c95)).symm)
      · refine r_aload_n dX4_workOn_41 rfl ?_
        refine r_aload_n dX4_workOn_42 rfl ?_
        refine r_getp_pl (by assumption) 7 (by decide) q88 rfl dX4_workOn_43 ?_
        refine r_putp_st (by assumption) (by omega) 10 (by decide) q371 rfl rfl rfl rfl rfl dX4_workOn_46 ?_
        refine r_aload_n dX4_workOn_49 rfl ?_
        refine r_dup dX4_workOn_50 rfl ?_
        refine r_getp_pl (by assumption) 12 (by decide) q92 rfl dX4_workOn_51 ?_
        refine r_iconst (v := 1) dX4_workOn_54 (by decide) ?_
        refine r_iadd dX4_workOn_55 ?_
        refine r_putp_pl (by assumption) 12 (by decide) q92 rfl rfl rfl rfl rfl dX4_workOn_56 ?_
        refine r_aload_n dX4_workOn_59 rfl ?_
        refine r_iload_n dX4_workOn_60 rfl ?_
        refine r_iconst (v := 3) dX4_workOn_61 (by decide) ?_
        refine r_iconst (v := 1) dX4_workOn_62 (by decide) ?_
        refine r_cVv dX4_workOn_63 (K_turn (n := i) (by assumption) hi ((kp_0 (k := 12) (by omega)).2.2.1 ((kp_st (k := 10) (by omega)).2.2.1 ho1))) gX4_workOn_63 dcX4_turn rfl rfl rfl (by decide) (ob_pl (by assumption)) ?_
        exact r_retv rfl dX4_workOn_66 (congrArg (m_pl M r) (wk_c (by assumption) rfl c30 c38).symm)
    · exact r_retv rfl dX4_workOn_33 (congrArg (m_pl M r) (wk_b (by assumption) rfl c30).symm)
  · exact r_retv rfl dX4_workOn_15 (congrArg (m_pl M r) (wk_a c12).symm)
theorem ud_a {P : tP} {b : Int32} (h : ¬ 0 ≤ f_ftu P b) : f_und P b = P := if_neg h
theorem ud_b {P : tP} {b : Int32} {l : Nat} (h : 0 ≤ f_ftu P b) (e : (f_ftu P b).toNatClampNeg = l) (h2 : 0 < pu P (4 + l) 7 (P (4 + l) 7 - 1) (4 + l) 7) : f_und P b = pu P (4 + l) 7 (P (4 + l) 7 - 1) := by subst e; exact (if_pos h).trans (if_pos h2)
theorem ud_c {P : tP} {b : Int32} {l : Nat} (h : 0 ≤ f_ftu P b) (e : (f_ftu P b).toNatClampNeg = l) (h2 : ¬ 0 < pu P (4 + l) 7 (P (4 + l) 7 - 1) (4 + l) 7) : f_und P b = f_turn (pu (pu P (4 + l) 7 (P (4 + l) 7 - 1)) 0 13 (pu P (4 + l) 7 (P (4 + l) 7 - 1) 0 13 + 1)) l 5 4 := by subst e; exact (if_pos h).trans (if_neg h2)
theorem dX4_undoInBranch_0 : decode cX4_undoInBranch 0 = .ok (.aload_n 0, 1) := by decide +kernel
theorem dX4_undoInBranch_1 : decode cX4_undoInBranch 1 = .ok (.iload_n 1, 1) := by decide +kernel
theorem dX4_undoInBranch_2 : decode cX4_undoInBranch 2 = .ok (.invokevirtual 157, 3) := by decide +kernel
theorem dX4_undoInBranch_5 : decode cX4_undoInBranch 5 = .ok (.istore_n 2, 1) := by decide +kernel
theorem dX4_undoInBranch_6 : decode cX4_undoInBranch 6 = .ok (.iload_n 2, 1) := by decide +kernel
theorem dX4_undoInBranch_7 : decode cX4_undoInBranch 7 = .ok (.ifCond .ge 4, 3) := by decide +kernel
theorem dX4_undoInBranch_10 : decode cX4_undoInBranch 10 = .ok (.return_, 1) := by decide +kernel
theorem dX4_undoInBranch_11 : decode cX4_undoInBranch 11 = .ok (.aload_n 0, 1) := by decide +kernel
theorem dX4_undoInBranch_12 : decode cX4_undoInBranch 12 = .ok (.getfield 11, 3) := by decide +kernel
theorem dX4_undoInBranch_15 : decode cX4_undoInBranch 15 = .ok (.iload_n 2, 1) := by decide +kernel
theorem dX4_undoInBranch_16 : decode cX4_undoInBranch 16 = .ok (.aaload, 1) := by decide +kernel
theorem dX4_undoInBranch_17 : decode cX4_undoInBranch 17 = .ok (.astore_n 3, 1) := by decide +kernel
theorem dX4_undoInBranch_18 : decode cX4_undoInBranch 18 = .ok (.aload_n 3, 1) := by decide +kernel
theorem dX4_undoInBranch_19 : decode cX4_undoInBranch 19 = .ok (.dup, 1) := by decide +kernel
theorem dX4_undoInBranch_20 : decode cX4_undoInBranch 20 = .ok (.getfield 132, 3) := by decide +kernel
theorem dX4_undoInBranch_23 : decode cX4_undoInBranch 23 = .ok (.iconst 1, 1) := by decide +kernel
theorem dX4_undoInBranch_24 : decode cX4_undoInBranch 24 = .ok (.isub, 1) := by decide +kernel
theorem dX4_undoInBranch_25 : decode cX4_undoInBranch 25 = .ok (.putfield 132, 3) := by decide +kernel
theorem dX4_undoInBranch_28 : decode cX4_undoInBranch 28 = .ok (.aload_n 3, 1) := by decide +kernel
theorem dX4_undoInBranch_29 : decode cX4_undoInBranch 29 = .ok (.getfield 132, 3) := by decide +kernel
theorem dX4_undoInBranch_32 : decode cX4_undoInBranch 32 = .ok (.ifCond .gt 20, 3) := by decide +kernel
theorem dX4_undoInBranch_35 : decode cX4_undoInBranch 35 = .ok (.aload_n 0, 1) := by decide +kernel
theorem dX4_undoInBranch_36 : decode cX4_undoInBranch 36 = .ok (.dup, 1) := by decide +kernel
theorem dX4_undoInBranch_37 : decode cX4_undoInBranch 37 = .ok (.getfield 66, 3) := by decide +kernel
theorem dX4_undoInBranch_40 : decode cX4_undoInBranch 40 = .ok (.iconst 1, 1) := by decide +kernel
theorem dX4_undoInBranch_41 : decode cX4_undoInBranch 41 = .ok (.iadd, 1) := by decide +kernel
theorem dX4_undoInBranch_42 : decode cX4_undoInBranch 42 = .ok (.putfield 66, 3) := by decide +kernel
theorem dX4_undoInBranch_45 : decode cX4_undoInBranch 45 = .ok (.aload_n 0, 1) := by decide +kernel
theorem dX4_undoInBranch_46 : decode cX4_undoInBranch 46 = .ok (.iload_n 2, 1) := by decide +kernel
theorem dX4_undoInBranch_47 : decode cX4_undoInBranch 47 = .ok (.iconst 5, 1) := by decide +kernel
theorem dX4_undoInBranch_48 : decode cX4_undoInBranch 48 = .ok (.iconst 4, 1) := by decide +kernel
theorem dX4_undoInBranch_49 : decode cX4_undoInBranch 49 = .ok (.invokevirtual 77, 3) := by decide +kernel
theorem dX4_undoInBranch_52 : decode cX4_undoInBranch 52 = .ok (.return_, 1) := by decide +kernel
theorem dcX4_undoInBranch : yX4_undoInBranch.cls = RX4 ∧ yX4_undoInBranch.cls ≠ "java/lang/invoke/MethodHandle" ∧ yX4_undoInBranch.cls ≠ "java/lang/invoke/VarHandle" ∧ (parseMethodDescriptor yX4_undoInBranch.desc).map (fun d => d.parameters.length) = some 1 := by decide +kernel
theorem gX4_undoInBranch_2 : GoodIn wsL_law (wsV RX4 157 RX4 yX4_firstToUndo (.code yX4_firstToUndo cX4_firstToUndo 6 (some .int) :: wsL_law)) := g_V q379 q380 q381 q16 q382
theorem gX4_undoInBranch_49 : GoodIn wsL_law (wsV RX4 77 RX4 yX4_turn (.code yX4_turn cX4_turn 5 none :: wsL_law)) := g_V q305 q306 q307 q16 q308
set_option maxRecDepth 100000 in
set_option maxHeartbeats 4000000 in
theorem K_und {cA : Nat → ClassId} {ad : tA} {ex : va_W} {M : tM} {r : Nat} {P : tP} {b : Int32} (hr : isPlan r) (hoc : okc P) (ho : oke P) : Cj yX4_undoInBranch cX4_undoInBranch 4 none (rmd 1) 0 0 cA ad [.ref (ad r 0), .int b] ex (m_pl M r P) (Qe none ex (m_pl M r (f_und P b))) := by
  refine c_of_r (lv0 := [some (.ref (ad r 0)), some (.int b), none, none]) rfl (by decide +kernel) (Nat.le_of_ble_eq_true rfl) rfl ?_
  rcases ftu_c (b := b) hoc with ⟨hn, hn2⟩ | ⟨l, hl, hl2, he, he2, he3⟩
  · refine r_aload_n dX4_undoInBranch_0 rfl ?_
    refine r_iload_n dX4_undoInBranch_1 rfl ?_
    refine r_cVi dX4_undoInBranch_2 (K_ftu (by assumption) hoc.1 hoc.2) gX4_undoInBranch_2 dcX4_firstToUndo rfl rfl rfl (by decide) (ob_pl (by assumption)) ?_
    refine r_istore_n dX4_undoInBranch_5 (by decide) rfl ?_
    refine r_iload_n dX4_undoInBranch_6 rfl ?_
    refine r_if_ge (tgt := 11) dX4_undoInBranch_7 (by decide) (fun c7 => absurd c7 hn2) (fun c7 => ?_)
    exact r_retv rfl dX4_undoInBranch_10 (congrArg (m_pl M r) (ud_a hn2).symm)
  · refine r_aload_n dX4_undoInBranch_0 rfl ?_
    refine r_iload_n dX4_undoInBranch_1 rfl ?_
    refine r_cVi dX4_undoInBranch_2 (K_ftu (by assumption) hoc.1 hoc.2) gX4_undoInBranch_2 dcX4_firstToUndo rfl rfl rfl (by decide) (ob_pl (by assumption)) ?_
    refine r_istore_n dX4_undoInBranch_5 (by decide) rfl ?_
    refine r_iload_n dX4_undoInBranch_6 rfl ?_
    refine r_if_ge (tgt := 11) dX4_undoInBranch_7 (by decide) (fun c7 => ?_) (fun c7 => absurd he3 c7)
    refine r_aload_n dX4_undoInBranch_11 rfl ?_
    refine r_getp_pl (by assumption) 0 (by decide) q38 rfl dX4_undoInBranch_12 ?_
    refine r_iload_n dX4_undoInBranch_15 rfl ?_
    refine r_aldp_steps (by assumption) he hl2 dX4_undoInBranch_16 ?_
    refine r_astore_n dX4_undoInBranch_17 (by decide) rfl ?_
    refine r_aload_n dX4_undoInBranch_18 rfl ?_
    refine r_dup dX4_undoInBranch_19 rfl ?_
    refine r_getp_st (by assumption) (by omega) 7 (by decide) q309 rfl dX4_undoInBranch_20 ?_
    refine r_iconst (v := 1) dX4_undoInBranch_23 (by decide) ?_
    refine r_isub dX4_undoInBranch_24 ?_
    refine r_putp_st (by assumption) (by omega) 7 (by decide) q309 rfl rfl rfl rfl rfl dX4_undoInBranch_25 ?_
    refine r_aload_n dX4_undoInBranch_28 rfl ?_
    refine r_getp_st (by assumption) (by omega) 7 (by decide) q309 rfl dX4_undoInBranch_29 ?_
    refine r_if_gt (tgt := 52) dX4_undoInBranch_32 (by decide) (fun c32 => ?_) (fun c32 => ?_)
    · first | exact r_retv rfl dX4_undoInBranch_52 (congrArg (m_pl M r) (ud_b he3 he2 c32).symm) | exact r_retv rfl dX4_undoInBranch_52 (congrArg (m_pl M r) (ud_c he3 he2 c32).symm)
    · refine r_aload_n dX4_undoInBranch_35 rfl ?_
      refine r_dup dX4_undoInBranch_36 rfl ?_
      refine r_getp_pl (by assumption) 13 (by decide) q93 rfl dX4_undoInBranch_37 ?_
      refine r_iconst (v := 1) dX4_undoInBranch_40 (by decide) ?_
      refine r_iadd dX4_undoInBranch_41 ?_
      refine r_putp_pl (by assumption) 13 (by decide) q93 rfl rfl rfl rfl rfl dX4_undoInBranch_42 ?_
      refine r_aload_n dX4_undoInBranch_45 rfl ?_
      refine r_iload_n dX4_undoInBranch_46 rfl ?_
      refine r_iconst (v := 5) dX4_undoInBranch_47 (by decide) ?_
      refine r_iconst (v := 4) dX4_undoInBranch_48 (by decide) ?_
      refine r_cVv dX4_undoInBranch_49 ((he ▸ K_turn (n := l) (by assumption) hl2 ((kp_0 (k := 13) (by omega)).2.2.1 ((kp_st (k := 7) (by omega)).2.2.1 ho)))) gX4_undoInBranch_49 dcX4_turn rfl rfl rfl (by decide) (ob_pl (by assumption)) ?_
      first | exact r_retv rfl dX4_undoInBranch_52 (congrArg (m_pl M r) (ud_b he3 he2 c32).symm) | exact r_retv rfl dX4_undoInBranch_52 (congrArg (m_pl M r) (ud_c he3 he2 c32).symm)
theorem lo_a {n : Nat} {P : tP} {x : Int32} (h : ¬ 0 ≤ f_lowH P x) : lp_lo (n + 1) P x = P := if_neg h
theorem lo_b {n : Nat} {P : tP} {x : Int32} {l : Nat} (h : 0 ≤ f_lowH P x) (e : (f_lowH P x).toNatClampNeg = l) : lp_lo (n + 1) P x = lp_lo n (f_turn P l 6 5) (x ||| sh l) := by subst e; exact if_pos h
theorem dX4_leaveOutHopeless_0 : decode cX4_leaveOutHopeless 0 = .ok (.aload_n 0, 1) := by decide +kernel
theorem dX4_leaveOutHopeless_1 : decode cX4_leaveOutHopeless 1 = .ok (.invokevirtual 160, 3) := by decide +kernel
theorem dX4_leaveOutHopeless_4 : decode cX4_leaveOutHopeless 4 = .ok (.istore_n 1, 1) := by decide +kernel
theorem dX4_leaveOutHopeless_5 : decode cX4_leaveOutHopeless 5 = .ok (.iconst 0, 1) := by decide +kernel
theorem dX4_leaveOutHopeless_6 : decode cX4_leaveOutHopeless 6 = .ok (.istore_n 2, 1) := by decide +kernel
theorem dX4_leaveOutHopeless_7 : decode cX4_leaveOutHopeless 7 = .ok (.iload_n 2, 1) := by decide +kernel
theorem dX4_leaveOutHopeless_8 : decode cX4_leaveOutHopeless 8 = .ok (.bipush 12, 2) := by decide +kernel
theorem dX4_leaveOutHopeless_10 : decode cX4_leaveOutHopeless 10 = .ok (.if_icmp .ge 34, 3) := by decide +kernel
theorem dX4_leaveOutHopeless_13 : decode cX4_leaveOutHopeless 13 = .ok (.aload_n 0, 1) := by decide +kernel
theorem dX4_leaveOutHopeless_14 : decode cX4_leaveOutHopeless 14 = .ok (.iload_n 1, 1) := by decide +kernel
theorem dX4_leaveOutHopeless_15 : decode cX4_leaveOutHopeless 15 = .ok (.invokevirtual 164, 3) := by decide +kernel
theorem dX4_leaveOutHopeless_18 : decode cX4_leaveOutHopeless 18 = .ok (.istore_n 3, 1) := by decide +kernel
theorem dX4_leaveOutHopeless_19 : decode cX4_leaveOutHopeless 19 = .ok (.iload_n 3, 1) := by decide +kernel
theorem dX4_leaveOutHopeless_20 : decode cX4_leaveOutHopeless 20 = .ok (.ifCond .ge 4, 3) := by decide +kernel
theorem dX4_leaveOutHopeless_23 : decode cX4_leaveOutHopeless 23 = .ok (.return_, 1) := by decide +kernel
theorem dX4_leaveOutHopeless_24 : decode cX4_leaveOutHopeless 24 = .ok (.aload_n 0, 1) := by decide +kernel
theorem dX4_leaveOutHopeless_25 : decode cX4_leaveOutHopeless 25 = .ok (.iload_n 3, 1) := by decide +kernel
theorem dX4_leaveOutHopeless_26 : decode cX4_leaveOutHopeless 26 = .ok (.bipush 6, 2) := by decide +kernel
theorem dX4_leaveOutHopeless_28 : decode cX4_leaveOutHopeless 28 = .ok (.iconst 5, 1) := by decide +kernel
theorem dX4_leaveOutHopeless_29 : decode cX4_leaveOutHopeless 29 = .ok (.invokevirtual 77, 3) := by decide +kernel
theorem dX4_leaveOutHopeless_32 : decode cX4_leaveOutHopeless 32 = .ok (.iload_n 1, 1) := by decide +kernel
theorem dX4_leaveOutHopeless_33 : decode cX4_leaveOutHopeless 33 = .ok (.iconst 1, 1) := by decide +kernel
theorem dX4_leaveOutHopeless_34 : decode cX4_leaveOutHopeless 34 = .ok (.iload_n 3, 1) := by decide +kernel
theorem dX4_leaveOutHopeless_35 : decode cX4_leaveOutHopeless 35 = .ok (.ishl, 1) := by decide +kernel
theorem dX4_leaveOutHopeless_36 : decode cX4_leaveOutHopeless 36 = .ok (.ior, 1) := by decide +kernel
theorem dX4_leaveOutHopeless_37 : decode cX4_leaveOutHopeless 37 = .ok (.istore_n 1, 1) := by decide +kernel
theorem dX4_leaveOutHopeless_38 : decode cX4_leaveOutHopeless 38 = .ok (.iinc 2 1, 3) := by decide +kernel
theorem dX4_leaveOutHopeless_41 : decode cX4_leaveOutHopeless 41 = .ok (.goto (-34), 3) := by decide +kernel
theorem dX4_leaveOutHopeless_44 : decode cX4_leaveOutHopeless 44 = .ok (.return_, 1) := by decide +kernel
theorem dcX4_leaveOutHopeless : yX4_leaveOutHopeless.cls = RX4 ∧ yX4_leaveOutHopeless.cls ≠ "java/lang/invoke/MethodHandle" ∧ yX4_leaveOutHopeless.cls ≠ "java/lang/invoke/VarHandle" ∧ (parseMethodDescriptor yX4_leaveOutHopeless.desc).map (fun d => d.parameters.length) = some 0 := by decide +kernel
theorem gX4_leaveOutHopeless_15 : GoodIn wsL_law (wsV RX4 164 RX4 yX4_lowestHopeless (.code yX4_lowestHopeless cX4_lowestHopeless 3 (some .int) :: wsL_law)) := g_V q395 q396 q397 q16 q398
theorem gX4_leaveOutHopeless_29 : GoodIn wsL_law (wsV RX4 77 RX4 yX4_turn (.code yX4_turn cX4_turn 5 none :: wsL_law)) := g_V q305 q306 q307 q16 q308
theorem gX4_leaveOutHopeless_1 : GoodIn wsL_law (wsV RX4 160 RX4 yX4_setOfOff (.code yX4_setOfOff cX4_setOfOff 3 (some .int) :: wsL_law)) := g_V q387 q388 q389 q16 q390
set_option maxRecDepth 100000 in
set_option maxHeartbeats 4000000 in
theorem K_leave {cA : Nat → ClassId} {ad : tA} {ex : va_W} {M : tM} {r : Nat} {P0 : tP} (hr : isPlan r) (hoc : okc P0) (ho : oke P0) : Cj yX4_leaveOutHopeless cX4_leaveOutHopeless 4 none (rmd 3) 0 0 cA ad [.ref (ad r 0)] ex (m_pl M r P0) (Qe none ex (m_pl M r (f_leave P0))) := by
  refine c_of_r (lv0 := [some (.ref (ad r 0)), none, none, none]) rfl (by decide +kernel) (Nat.le_of_ble_eq_true rfl) rfl ?_
  have L : ∀ (n i : Nat) (P : tP) (x : Int32), i + n = 12 → ink P0 P → lp_lo n P x = f_leave P0 → Rj cX4_leaveOutHopeless RX4 4 none (rmd 3) 0 0 cA ad (Qe none ex (m_pl M r (f_leave P0))) ex 0 0 7 [some (.ref (ad r 0)), some (.int x), some (.int (nI i)), none] [] (m_pl M r P) := by
    intro n
    induction n with
    | zero =>
      intro i P x h hk hP
      refine r_iload_n dX4_leaveOutHopeless_7 rfl ?_
      refine r_bipush (v := 12) dX4_leaveOutHopeless_8 (by decide) ?_
      refine r_icmp_ge (tgt := 44) dX4_leaveOutHopeless_10 (by decide) (fun c10 => ?_) (fun c10 => absurd (lp_z (x := 12) (c := 12) rfl h) c10)
      exact r_retv rfl dX4_leaveOutHopeless_44 (by rw [← hP]; rfl)
    | succ n ih =>
      intro i P x h hk hP
      have ho : oke P := hk.2.1
      rcases lowH_c (d := x) hk.1 with ⟨hn, hn2⟩ | ⟨l, hl, hl2, he, he2, he3⟩
      · refine r_iload_n dX4_leaveOutHopeless_7 rfl ?_
        refine r_bipush (v := 12) dX4_leaveOutHopeless_8 (by decide) ?_
        refine r_icmp_ge (tgt := 44) dX4_leaveOutHopeless_10 (by decide) (fun c10 => absurd c10 (lp_s (x := 12) (c := 12) rfl (by omega) h)) (fun c10 => ?_)
        refine r_aload_n dX4_leaveOutHopeless_13 rfl ?_
        refine r_iload_n dX4_leaveOutHopeless_14 rfl ?_
        refine r_cVi dX4_leaveOutHopeless_15 (K_lowH (by assumption) hk.1.1 hk.1.2) gX4_leaveOutHopeless_15 dcX4_lowestHopeless rfl rfl rfl (by decide) (ob_pl (by assumption)) ?_
        refine r_istore_n dX4_leaveOutHopeless_18 (by decide) rfl ?_
        refine r_iload_n dX4_leaveOutHopeless_19 rfl ?_
        refine r_if_ge (tgt := 24) dX4_leaveOutHopeless_20 (by decide) (fun c20 => absurd c20 hn2) (fun c20 => ?_)
        exact r_retv rfl dX4_leaveOutHopeless_23 (by rw [← hP, lo_a hn2])
      · refine r_iload_n dX4_leaveOutHopeless_7 rfl ?_
        refine r_bipush (v := 12) dX4_leaveOutHopeless_8 (by decide) ?_
        refine r_icmp_ge (tgt := 44) dX4_leaveOutHopeless_10 (by decide) (fun c10 => absurd c10 (lp_s (x := 12) (c := 12) rfl (by omega) h)) (fun c10 => ?_)
        refine r_aload_n dX4_leaveOutHopeless_13 rfl ?_
        refine r_iload_n dX4_leaveOutHopeless_14 rfl ?_
        refine r_cVi dX4_leaveOutHopeless_15 (K_lowH (by assumption) hk.1.1 hk.1.2) gX4_leaveOutHopeless_15 dcX4_lowestHopeless rfl rfl rfl (by decide) (ob_pl (by assumption)) ?_
        refine r_istore_n dX4_leaveOutHopeless_18 (by decide) rfl ?_
        refine r_iload_n dX4_leaveOutHopeless_19 rfl ?_
        refine r_if_ge (tgt := 24) dX4_leaveOutHopeless_20 (by decide) (fun c20 => ?_) (fun c20 => absurd he3 c20)
        refine r_aload_n dX4_leaveOutHopeless_24 rfl ?_
        refine r_iload_n dX4_leaveOutHopeless_25 rfl ?_
        refine r_bipush (v := 6) dX4_leaveOutHopeless_26 (by decide) ?_
        refine r_iconst (v := 5) dX4_leaveOutHopeless_28 (by decide) ?_
        refine r_cVv dX4_leaveOutHopeless_29 ((he ▸ K_turn (n := l) (by assumption) hl2 ho)) gX4_leaveOutHopeless_29 dcX4_turn rfl rfl rfl (by decide) (ob_pl (by assumption)) ?_
        refine r_iload_n dX4_leaveOutHopeless_32 rfl ?_
        refine r_iconst (v := 1) dX4_leaveOutHopeless_33 (by decide) ?_
        refine r_iload_n dX4_leaveOutHopeless_34 rfl ?_
        refine r_ishl dX4_leaveOutHopeless_35 ?_
        refine r_ior dX4_leaveOutHopeless_36 ?_
        refine r_istore_n dX4_leaveOutHopeless_37 (by decide) rfl ?_
        refine r_iinc dX4_leaveOutHopeless_38 rfl ii_s (by decide) rfl ?_
        refine r_goto (tgt := 7) dX4_leaveOutHopeless_41 (by decide) ?_
        refine r_fgt 3 ?_
        rw [he]
        exact ih (i + 1) _ _ (by omega) ⟨kp_okc kp_turn hk.1, kp_turn.2.2.1 ho, (kp_cn kp_turn).trans hk.2.2⟩ (by rw [← hP, lo_b he3 he2]; rfl)
  refine r_aload_n dX4_leaveOutHopeless_0 rfl ?_
  refine r_cVi dX4_leaveOutHopeless_1 (K_setOff (by assumption) hoc.1 hoc.2) gX4_leaveOutHopeless_1 dcX4_setOfOff rfl rfl rfl (by decide) (ob_pl (by assumption)) ?_
  refine r_istore_n dX4_leaveOutHopeless_4 (by decide) rfl ?_
  refine r_iconst (v := 0) dX4_leaveOutHopeless_5 (by decide) ?_
  refine r_istore_n dX4_leaveOutHopeless_6 (by decide) rfl ?_
  exact L 12 0 P0 _ (by omega) ⟨hoc, ho, rfl⟩ rfl
theorem bg_a {d : Int32} {n : Nat} {P : tP} {x : Int32} (h : P 0 8 ≤ x) : lp_beg d (n + 1) P x = P := if_pos h
theorem bg_b {d : Int32} {n : Nat} {P : tP} {x : Int32} (h : ¬ P 0 8 ≤ x) (h2 : ¬ 0 ≤ f_ftb P d) : lp_beg d (n + 1) P x = P := (if_neg h).trans (if_neg h2)
theorem bg_c {d : Int32} {n : Nat} {P : tP} {x : Int32} {l : Nat} (h : ¬ P 0 8 ≤ x) (h2 : 0 ≤ f_ftb P d) (e : (f_ftb P d).toNatClampNeg = l) : lp_beg d (n + 1) P x = lp_beg d n (f_begin1 P l) (x + Int32.ofInt 1) := by subst e; exact (if_neg h).trans (if_pos h2)
theorem bg_x {P : tP} {x : Int32} {j n : Nat} (ho : okh P) (hj : x = nI j) (h : 5 ≤ j + (n + 1)) (hl : j < 128) (hz : n = 0) : P 0 8 ≤ x := by
  obtain ⟨h, h4, e⟩ := ho
  rw [e, hj]
  exact nI_le (by omega) (by omega)
theorem dX4_beginTries_0 : decode cX4_beginTries 0 = .ok (.aload_n 0, 1) := by decide +kernel
theorem dX4_beginTries_1 : decode cX4_beginTries 1 = .ok (.iconst 3, 1) := by decide +kernel
theorem dX4_beginTries_2 : decode cX4_beginTries 2 = .ok (.invokevirtual 96, 3) := by decide +kernel
theorem dX4_beginTries_5 : decode cX4_beginTries 5 = .ok (.istore_n 1, 1) := by decide +kernel
theorem dX4_beginTries_6 : decode cX4_beginTries 6 = .ok (.aload_n 0, 1) := by decide +kernel
theorem dX4_beginTries_7 : decode cX4_beginTries 7 = .ok (.iconst 1, 1) := by decide +kernel
theorem dX4_beginTries_8 : decode cX4_beginTries 8 = .ok (.invokevirtual 170, 3) := by decide +kernel
theorem dX4_beginTries_11 : decode cX4_beginTries 11 = .ok (.istore_n 2, 1) := by decide +kernel
theorem dX4_beginTries_12 : decode cX4_beginTries 12 = .ok (.iload_n 2, 1) := by decide +kernel
theorem dX4_beginTries_13 : decode cX4_beginTries 13 = .ok (.aload_n 0, 1) := by decide +kernel
theorem dX4_beginTries_14 : decode cX4_beginTries 14 = .ok (.getfield 24, 3) := by decide +kernel
theorem dX4_beginTries_17 : decode cX4_beginTries 17 = .ok (.if_icmp .ge 66, 3) := by decide +kernel
theorem dX4_beginTries_20 : decode cX4_beginTries 20 = .ok (.aload_n 0, 1) := by decide +kernel
theorem dX4_beginTries_21 : decode cX4_beginTries 21 = .ok (.iload_n 1, 1) := by decide +kernel
theorem dX4_beginTries_22 : decode cX4_beginTries 22 = .ok (.invokevirtual 173, 3) := by decide +kernel
theorem dX4_beginTries_25 : decode cX4_beginTries 25 = .ok (.istore_n 3, 1) := by decide +kernel
theorem dX4_beginTries_26 : decode cX4_beginTries 26 = .ok (.iload_n 3, 1) := by decide +kernel
theorem dX4_beginTries_27 : decode cX4_beginTries 27 = .ok (.ifCond .ge 4, 3) := by decide +kernel
theorem dX4_beginTries_30 : decode cX4_beginTries 30 = .ok (.return_, 1) := by decide +kernel
theorem dX4_beginTries_31 : decode cX4_beginTries 31 = .ok (.aload_n 0, 1) := by decide +kernel
theorem dX4_beginTries_32 : decode cX4_beginTries 32 = .ok (.getfield 11, 3) := by decide +kernel
theorem dX4_beginTries_35 : decode cX4_beginTries 35 = .ok (.iload_n 3, 1) := by decide +kernel
theorem dX4_beginTries_36 : decode cX4_beginTries 36 = .ok (.aaload, 1) := by decide +kernel
theorem dX4_beginTries_37 : decode cX4_beginTries 37 = .ok (.astore 4, 2) := by decide +kernel
theorem dX4_beginTries_39 : decode cX4_beginTries 39 = .ok (.aload 4, 2) := by decide +kernel
theorem dX4_beginTries_41 : decode cX4_beginTries 41 = .ok (.dup, 1) := by decide +kernel
theorem dX4_beginTries_42 : decode cX4_beginTries 42 = .ok (.getfield 123, 3) := by decide +kernel
theorem dX4_beginTries_45 : decode cX4_beginTries 45 = .ok (.iconst 1, 1) := by decide +kernel
theorem dX4_beginTries_46 : decode cX4_beginTries 46 = .ok (.iadd, 1) := by decide +kernel
theorem dX4_beginTries_47 : decode cX4_beginTries 47 = .ok (.putfield 123, 3) := by decide +kernel
theorem dX4_beginTries_50 : decode cX4_beginTries 50 = .ok (.aload_n 0, 1) := by decide +kernel
theorem dX4_beginTries_51 : decode cX4_beginTries 51 = .ok (.dup, 1) := by decide +kernel
theorem dX4_beginTries_52 : decode cX4_beginTries 52 = .ok (.getfield 57, 3) := by decide +kernel
theorem dX4_beginTries_55 : decode cX4_beginTries 55 = .ok (.iconst 1, 1) := by decide +kernel
theorem dX4_beginTries_56 : decode cX4_beginTries 56 = .ok (.iadd, 1) := by decide +kernel
theorem dX4_beginTries_57 : decode cX4_beginTries 57 = .ok (.putfield 57, 3) := by decide +kernel
theorem dX4_beginTries_60 : decode cX4_beginTries 60 = .ok (.aload_n 0, 1) := by decide +kernel
theorem dX4_beginTries_61 : decode cX4_beginTries 61 = .ok (.iload_n 3, 1) := by decide +kernel
theorem dX4_beginTries_62 : decode cX4_beginTries 62 = .ok (.iconst 1, 1) := by decide +kernel
theorem dX4_beginTries_63 : decode cX4_beginTries 63 = .ok (.iconst 0, 1) := by decide +kernel
theorem dX4_beginTries_64 : decode cX4_beginTries 64 = .ok (.invokevirtual 77, 3) := by decide +kernel
theorem dX4_beginTries_67 : decode cX4_beginTries 67 = .ok (.aload 4, 2) := by decide +kernel
theorem dX4_beginTries_69 : decode cX4_beginTries 69 = .ok (.aload 4, 2) := by decide +kernel
theorem dX4_beginTries_71 : decode cX4_beginTries 71 = .ok (.getfield 126, 3) := by decide +kernel
theorem dX4_beginTries_74 : decode cX4_beginTries 74 = .ok (.putfield 132, 3) := by decide +kernel
theorem dX4_beginTries_77 : decode cX4_beginTries 77 = .ok (.iinc 2 1, 3) := by decide +kernel
theorem dX4_beginTries_80 : decode cX4_beginTries 80 = .ok (.goto (-68), 3) := by decide +kernel
theorem dX4_beginTries_83 : decode cX4_beginTries 83 = .ok (.return_, 1) := by decide +kernel
theorem dcX4_beginTries : yX4_beginTries.cls = RX4 ∧ yX4_beginTries.cls ≠ "java/lang/invoke/MethodHandle" ∧ yX4_beginTries.cls ≠ "java/lang/invoke/VarHandle" ∧ (parseMethodDescriptor yX4_beginTries.desc).map (fun d => d.parameters.length) = some 0 := by decide +kernel
theorem gX4_beginTries_22 : GoodIn wsL_law (wsV RX4 173 RX4 yX4_firstToBegin (.code yX4_firstToBegin cX4_firstToBegin 6 (some .int) :: wsL_law)) := g_V q409 q410 q411 q16 q412
theorem gX4_beginTries_64 : GoodIn wsL_law (wsV RX4 77 RX4 yX4_turn (.code yX4_turn cX4_turn 5 none :: wsL_law)) := g_V q305 q306 q307 q16 q308
theorem gX4_beginTries_2 : GoodIn wsL_law (wsV RX4 96 RX4 yX4_setOf (.code yX4_setOf cX4_setOf 4 (some .int) :: wsL_law)) := g_V q164 q165 q166 q16 q167
theorem gX4_beginTries_8 : GoodIn wsL_law (wsV RX4 170 RX4 yX4_countOf (.code yX4_countOf cX4_countOf 2 (some .int) :: wsL_law)) := g_V q408 q161 q162 q16 q163
set_option maxRecDepth 100000 in
set_option maxHeartbeats 4000000 in
theorem K_begin {cA : Nat → ClassId} {ad : tA} {ex : va_W} {M : tM} {r : Nat} {P0 : tP} (hr : isPlan r) (hoc : okc P0) (ho : oke P0) (hoh : okh P0) : Cj yX4_beginTries cX4_beginTries 5 none (rmd 2) 0 0 cA ad [.ref (ad r 0)] ex (m_pl M r P0) (Qe none ex (m_pl M r (f_begin P0))) := by
  refine c_of_r (lv0 := [some (.ref (ad r 0)), none, none, none, none]) rfl (by decide +kernel) (Nat.le_of_ble_eq_true rfl) rfl ?_
  obtain ⟨j0, hj0, hj1⟩ := f_bc_pos (x := f_setOf P0 1)
  have L : ∀ (n j : Nat) (P : tP), 5 ≤ j + n → j < 100 - n → ink P0 P → okh P → lp_beg (f_setOf P0 3) n P (nI j) = f_begin P0 → Rj cX4_beginTries RX4 5 none (rmd 2) 0 0 cA ad (Qe none ex (m_pl M r (f_begin P0))) ex 0 0 12 [some (.ref (ad r 0)), some (.int (f_setOf P0 3)), some (.int (nI j)), none, none] [] (m_pl M r P) := by
    intro n
    induction n with
    | zero =>
      intro j P h h1 hk hh hP
      have hz : P 0 8 ≤ nI j := by obtain ⟨a, b, e⟩ := hh; rw [e]; exact nI_le (by omega) (by omega)
      refine r_iload_n dX4_beginTries_12 rfl ?_
      refine r_aload_n dX4_beginTries_13 rfl ?_
      refine r_getp_pl (by assumption) 8 (by decide) q42 rfl dX4_beginTries_14 ?_
      refine r_icmp_ge (tgt := 83) dX4_beginTries_17 (by decide) (fun c17 => ?_) (fun c17 => absurd hz c17)
      exact r_retv rfl dX4_beginTries_83 (by rw [← hP]; rfl)
    | succ n ih =>
      intro j P h h1 hk hh hP
      have ho : oke P := hk.2.1
      rcases ftb_c (d := f_setOf P0 3) hk.1 with ⟨hn, hn2⟩ | ⟨l, hl, hl2, he, he2, he3⟩
      · refine r_iload_n dX4_beginTries_12 rfl ?_
        refine r_aload_n dX4_beginTries_13 rfl ?_
        refine r_getp_pl (by assumption) 8 (by decide) q42 rfl dX4_beginTries_14 ?_
        refine r_icmp_ge (tgt := 83) dX4_beginTries_17 (by decide) (fun c17 => ?_) (fun c17 => ?_)
        · exact r_retv rfl dX4_beginTries_83 (by rw [← hP, bg_a c17])
        · refine r_aload_n dX4_beginTries_20 rfl ?_
          refine r_iload_n dX4_beginTries_21 rfl ?_
          refine r_cVi dX4_beginTries_22 (K_ftb (by assumption) hk.1.1 hk.1.2) gX4_beginTries_22 dcX4_firstToBegin rfl rfl rfl (by decide) (ob_pl (by assumption)) ?_
          refine r_istore_n dX4_beginTries_25 (by decide) rfl ?_
          refine r_iload_n dX4_beginTries_26 rfl ?_
          refine r_if_ge (tgt := 31) dX4_beginTries_27 (by decide) (fun c27 => absurd c27 hn2) (fun c27 => ?_)
          exact r_retv rfl dX4_beginTries_30 (by rw [← hP, bg_b c17 hn2])
      · refine r_iload_n dX4_beginTries_12 rfl ?_
        refine r_aload_n dX4_beginTries_13 rfl ?_
        refine r_getp_pl (by assumption) 8 (by decide) q42 rfl dX4_beginTries_14 ?_
        refine r_icmp_ge (tgt := 83) dX4_beginTries_17 (by decide) (fun c17 => ?_) (fun c17 => ?_)
        · exact r_retv rfl dX4_beginTries_83 (by rw [← hP, bg_a c17])
        · refine r_aload_n dX4_beginTries_20 rfl ?_
          refine r_iload_n dX4_beginTries_21 rfl ?_
          refine r_cVi dX4_beginTries_22 (K_ftb (by assumption) hk.1.1 hk.1.2) gX4_beginTries_22 dcX4_firstToBegin rfl rfl rfl (by decide) (ob_pl (by assumption)) ?_
          refine r_istore_n dX4_beginTries_25 (by decide) rfl ?_
          refine r_iload_n dX4_beginTries_26 rfl ?_
          refine r_if_ge (tgt := 31) dX4_beginTries_27 (by decide) (fun c27 => ?_) (fun c27 => absurd he3 c27)
          refine r_aload_n dX4_beginTries_31 rfl ?_
          refine r_getp_pl (by assumption) 0 (by decide) q38 rfl dX4_beginTries_32 ?_
          refine r_iload_n dX4_beginTries_35 rfl ?_
          refine r_aldp_steps (by assumption) he hl2 dX4_beginTries_36 ?_
          refine r_astore dX4_beginTries_37 (by decide) rfl ?_
          refine r_aload dX4_beginTries_39 rfl ?_
          refine r_dup dX4_beginTries_41 rfl ?_
          refine r_getp_st (by assumption) (by omega) 8 (by decide) q372 rfl dX4_beginTries_42 ?_
          refine r_iconst (v := 1) dX4_beginTries_45 (by decide) ?_
          refine r_iadd dX4_beginTries_46 ?_
          refine r_putp_st (by assumption) (by omega) 8 (by decide) q372 rfl rfl rfl rfl rfl dX4_beginTries_47 ?_
          refine r_aload_n dX4_beginTries_50 rfl ?_
          refine r_dup dX4_beginTries_51 rfl ?_
          refine r_getp_pl (by assumption) 10 (by decide) q90 rfl dX4_beginTries_52 ?_
          refine r_iconst (v := 1) dX4_beginTries_55 (by decide) ?_
          refine r_iadd dX4_beginTries_56 ?_
          refine r_putp_pl (by assumption) 10 (by decide) q90 rfl rfl rfl rfl rfl dX4_beginTries_57 ?_
          refine r_aload_n dX4_beginTries_60 rfl ?_
          refine r_iload_n dX4_beginTries_61 rfl ?_
          refine r_iconst (v := 1) dX4_beginTries_62 (by decide) ?_
          refine r_iconst (v := 0) dX4_beginTries_63 (by decide) ?_
          refine r_cVv dX4_beginTries_64 ((he ▸ K_turn (n := l) (by assumption) hl2 ((kp_0 (k := 10) (by omega)).2.2.1 ((kp_st (k := 8) (by omega)).2.2.1 ho)))) gX4_beginTries_64 dcX4_turn rfl rfl rfl (by decide) (ob_pl (by assumption)) ?_
          refine r_aload dX4_beginTries_67 rfl ?_
          refine r_aload dX4_beginTries_69 rfl ?_
          refine r_getp_st (by assumption) (by omega) 0 (by decide) q346 rfl dX4_beginTries_71 ?_
          refine r_putp_st (by assumption) (by omega) 7 (by decide) q309 rfl rfl rfl rfl rfl dX4_beginTries_74 ?_
          refine r_iinc dX4_beginTries_77 rfl ii_s (by decide) rfl ?_
          refine r_goto (tgt := 12) dX4_beginTries_80 (by decide) ?_
          refine r_fgt 3 ?_
          refine r_fgt 4 ?_
          exact ih (j + 1) _ (by omega) (by omega) ⟨kp_okc kp_begin1 hk.1, kp_begin1.2.2.1 ho, (kp_cn kp_begin1).trans hk.2.2⟩ (kp_okh kp_begin1 hh) (by rw [← hP, bg_c c17 he3 he2, ii_s]; rfl)
  refine r_aload_n dX4_beginTries_0 rfl ?_
  refine r_iconst (v := 3) dX4_beginTries_1 (by decide) ?_
  refine r_cVi dX4_beginTries_2 (K_setOf (by assumption) hoc.1 hoc.2) gX4_beginTries_2 dcX4_setOf rfl rfl rfl (by decide) (ob_pl (by assumption)) ?_
  refine r_istore_n dX4_beginTries_5 (by decide) rfl ?_
  refine r_aload_n dX4_beginTries_6 rfl ?_
  refine r_iconst (v := 1) dX4_beginTries_7 (by decide) ?_
  refine r_cVi dX4_beginTries_8 (K_countOf (by assumption) hoc.1 hoc.2) gX4_beginTries_8 dcX4_countOf rfl rfl rfl (by decide) (ob_pl (by assumption)) ?_
  refine r_istore_n dX4_beginTries_11 (by decide) rfl ?_
  rw [show f_countOf P0 1 = nI j0 from hj1]
  exact L 5 j0 P0 (by omega) (by omega) ⟨hoc, ho, rfl⟩ hoh (by rw [← hj1]; rfl)
theorem pd_4 {b n : Nat} (h : b + (n + 1) = 4) : ¬ (3 : Int32) < nI b := nI_nlt (b := b) (a := 3) (by omega) (by omega)
theorem pd_z {b : Nat} (h : b + 0 = 4) : (3 : Int32) < nI b := nI_lt (a := 3) (b := b) (by omega) (by omega)
theorem ld_a {n b : Nat} {P : tP} (h : f_isCancelled P (nI b) = false) : lp_und (n + 1) b P = lp_und n (b + 1) P := by rw [lp_und, h, if_neg (by decide)]
theorem ld_b {n b : Nat} {P : tP} (h : f_isCancelled P (nI b) = true) : lp_und (n + 1) b P = lp_und n (b + 1) (f_und P (nI b)) := by rw [lp_und, h, if_pos rfl]
def inh (P0 P : tP) : Prop := okc P ∧ oke P ∧ cn P = cn P0 ∧ okh P
theorem inh_kp {P0 P P' : tP} (h : kp P P') (k : inh P0 P) : inh P0 P' := ⟨kp_okc h k.1, h.2.2.1 k.2.1, (kp_cn h).trans k.2.2.1, kp_okh h k.2.2.2⟩
theorem dX4_passDay_0 : decode cX4_passDay 0 = .ok (.iconst 0, 1) := by decide +kernel
theorem dX4_passDay_1 : decode cX4_passDay 1 = .ok (.istore_n 1, 1) := by decide +kernel
theorem dX4_passDay_2 : decode cX4_passDay 2 = .ok (.iload_n 1, 1) := by decide +kernel
theorem dX4_passDay_3 : decode cX4_passDay 3 = .ok (.aload_n 0, 1) := by decide +kernel
theorem dX4_passDay_4 : decode cX4_passDay 4 = .ok (.getfield 29, 3) := by decide +kernel
theorem dX4_passDay_7 : decode cX4_passDay 7 = .ok (.if_icmp .ge 14, 3) := by decide +kernel
theorem dX4_passDay_10 : decode cX4_passDay 10 = .ok (.aload_n 0, 1) := by decide +kernel
theorem dX4_passDay_11 : decode cX4_passDay 11 = .ok (.iload_n 1, 1) := by decide +kernel
theorem dX4_passDay_12 : decode cX4_passDay 12 = .ok (.invokevirtual 135, 3) := by decide +kernel
theorem dX4_passDay_15 : decode cX4_passDay 15 = .ok (.iinc 1 1, 3) := by decide +kernel
theorem dX4_passDay_18 : decode cX4_passDay 18 = .ok (.goto (-16), 3) := by decide +kernel
theorem dX4_passDay_21 : decode cX4_passDay 21 = .ok (.iconst 1, 1) := by decide +kernel
theorem dX4_passDay_22 : decode cX4_passDay 22 = .ok (.istore_n 1, 1) := by decide +kernel
theorem dX4_passDay_23 : decode cX4_passDay 23 = .ok (.iload_n 1, 1) := by decide +kernel
theorem dX4_passDay_24 : decode cX4_passDay 24 = .ok (.iconst 3, 1) := by decide +kernel
theorem dX4_passDay_25 : decode cX4_passDay 25 = .ok (.if_icmp .gt 22, 3) := by decide +kernel
theorem dX4_passDay_28 : decode cX4_passDay 28 = .ok (.aload_n 0, 1) := by decide +kernel
theorem dX4_passDay_29 : decode cX4_passDay 29 = .ok (.iload_n 1, 1) := by decide +kernel
theorem dX4_passDay_30 : decode cX4_passDay 30 = .ok (.invokevirtual 73, 3) := by decide +kernel
theorem dX4_passDay_33 : decode cX4_passDay 33 = .ok (.ifCond .eq 8, 3) := by decide +kernel
theorem dX4_passDay_36 : decode cX4_passDay 36 = .ok (.aload_n 0, 1) := by decide +kernel
theorem dX4_passDay_37 : decode cX4_passDay 37 = .ok (.iload_n 1, 1) := by decide +kernel
theorem dX4_passDay_38 : decode cX4_passDay 38 = .ok (.invokevirtual 139, 3) := by decide +kernel
theorem dX4_passDay_41 : decode cX4_passDay 41 = .ok (.iinc 1 1, 3) := by decide +kernel
theorem dX4_passDay_44 : decode cX4_passDay 44 = .ok (.goto (-21), 3) := by decide +kernel
theorem dX4_passDay_47 : decode cX4_passDay 47 = .ok (.aload_n 0, 1) := by decide +kernel
theorem dX4_passDay_48 : decode cX4_passDay 48 = .ok (.invokevirtual 142, 3) := by decide +kernel
theorem dX4_passDay_51 : decode cX4_passDay 51 = .ok (.aload_n 0, 1) := by decide +kernel
theorem dX4_passDay_52 : decode cX4_passDay 52 = .ok (.invokevirtual 145, 3) := by decide +kernel
theorem dX4_passDay_55 : decode cX4_passDay 55 = .ok (.aload_n 0, 1) := by decide +kernel
theorem dX4_passDay_56 : decode cX4_passDay 56 = .ok (.dup, 1) := by decide +kernel
theorem dX4_passDay_57 : decode cX4_passDay 57 = .ok (.getfield 51, 3) := by decide +kernel
theorem dX4_passDay_60 : decode cX4_passDay 60 = .ok (.iconst 1, 1) := by decide +kernel
theorem dX4_passDay_61 : decode cX4_passDay 61 = .ok (.iadd, 1) := by decide +kernel
theorem dX4_passDay_62 : decode cX4_passDay 62 = .ok (.putfield 51, 3) := by decide +kernel
theorem dX4_passDay_65 : decode cX4_passDay 65 = .ok (.return_, 1) := by decide +kernel
theorem dcX4_passDay : yX4_passDay.cls = RX4 ∧ yX4_passDay.cls ≠ "java/lang/invoke/MethodHandle" ∧ yX4_passDay.cls ≠ "java/lang/invoke/VarHandle" ∧ (parseMethodDescriptor yX4_passDay.desc).map (fun d => d.parameters.length) = some 0 := by decide +kernel
theorem gX4_passDay_48 : GoodIn wsL_law (wsV RX4 142 RX4 yX4_leaveOutHopeless (.code yX4_leaveOutHopeless cX4_leaveOutHopeless 4 none :: wsL_law)) := g_V q383 q384 q385 q16 q386
theorem gX4_passDay_52 : GoodIn wsL_law (wsV RX4 145 RX4 yX4_beginTries (.code yX4_beginTries cX4_beginTries 5 none :: wsL_law)) := g_V q404 q405 q406 q16 q407
theorem gX4_passDay_30 : GoodIn wsL_law (wsV RX4 73 RX4 yX4_isCancelled (.code yX4_isCancelled cX4_isCancelled 2 (some .boolean) :: wsL_law)) := g_V q301 q302 q303 q16 q304
theorem gX4_passDay_38 : GoodIn wsL_law (wsV RX4 139 RX4 yX4_undoInBranch (.code yX4_undoInBranch cX4_undoInBranch 4 none :: wsL_law)) := g_V q375 q376 q377 q16 q378
theorem gX4_passDay_12 : GoodIn wsL_law (wsV RX4 135 RX4 yX4_workOn (.code yX4_workOn cX4_workOn 3 none :: wsL_law)) := g_V q366 q367 q368 q16 q369
set_option maxRecDepth 100000 in
set_option maxHeartbeats 4000000 in
theorem K_pass {cA : Nat → ClassId} {ad : tA} {ex : va_W} {M : tM} {r : Nat} {P0 : tP} (hr : isPlan r) (hoc : okc P0) (ho : oke P0) (hoh : okh P0) : Cj yX4_passDay cX4_passDay 2 none (rmd 4) 0 0 cA ad [.ref (ad r 0)] ex (m_pl M r P0) (Qe none ex (m_pl M r (f_pass P0))) := by
  refine c_of_r (lv0 := [some (.ref (ad r 0)), none]) rfl (by decide +kernel) (Nat.le_of_ble_eq_true rfl) rfl ?_
  have L2 : ∀ (n b : Nat) (P : tP), b + n = 4 → inh P0 P → lp_und n b P = lp_und 3 1 (lp_work (cn P0) 0 P0) → Rj cX4_passDay RX4 2 none (rmd 4) 0 0 cA ad (Qe none ex (m_pl M r (f_pass P0))) ex 0 0 23 [some (.ref (ad r 0)), some (.int (nI b))] [] (m_pl M r P) := by
    intro n
    induction n with
    | zero =>
      intro b P h hk hP
      have k3 : inh P0 (f_leave P) := inh_kp (kp_lo _ _ _) hk
      have k4 : inh P0 (f_begin (f_leave P)) := inh_kp (kp_beg _ _ _) k3
      refine r_iload_n dX4_passDay_23 rfl ?_
      refine r_iconst (v := 3) dX4_passDay_24 (by decide) ?_
      refine r_icmp_gt (tgt := 47) dX4_passDay_25 (by decide) (fun c25 => ?_) (fun c25 => absurd (pd_z h) c25)
      refine r_aload_n dX4_passDay_47 rfl ?_
      refine r_cVv dX4_passDay_48 (K_leave (by assumption) hk.1 hk.2.1) gX4_passDay_48 dcX4_leaveOutHopeless rfl rfl rfl (by decide) (ob_pl (by assumption)) ?_
      refine r_aload_n dX4_passDay_51 rfl ?_
      refine r_cVv dX4_passDay_52 (K_begin (by assumption) k3.1 k3.2.1 k3.2.2.2) gX4_passDay_52 dcX4_beginTries rfl rfl rfl (by decide) (ob_pl (by assumption)) ?_
      refine r_aload_n dX4_passDay_55 rfl ?_
      refine r_dup dX4_passDay_56 rfl ?_
      refine r_getp_pl (by assumption) 7 (by decide) q88 rfl dX4_passDay_57 ?_
      refine r_iconst (v := 1) dX4_passDay_60 (by decide) ?_
      refine r_iadd dX4_passDay_61 ?_
      refine r_putp_pl (by assumption) 7 (by decide) q88 rfl rfl rfl rfl rfl dX4_passDay_62 ?_
      exact r_retv rfl dX4_passDay_65 (by rw [f_pass, ← hP]; rfl)
    | succ n ih =>
      intro b P h hk hP
      refine r_iload_n dX4_passDay_23 rfl ?_
      refine r_iconst (v := 3) dX4_passDay_24 (by decide) ?_
      refine r_icmp_gt (tgt := 47) dX4_passDay_25 (by decide) (fun c25 => absurd c25 (pd_4 h)) (fun c25 => ?_)
      refine r_aload_n dX4_passDay_28 rfl ?_
      refine r_iload_n dX4_passDay_29 rfl ?_
      refine r_cVi dX4_passDay_30 (K_isCancelled (by assumption)) gX4_passDay_30 dcX4_isCancelled rfl rfl rfl (by decide) (ob_pl (by assumption)) ?_
      refine r_if_eq (tgt := 41) dX4_passDay_33 (by decide) (fun c33 => ?_) (fun c33 => ?_)
      · refine r_iinc dX4_passDay_41 rfl ii_s (by decide) rfl ?_
        refine r_goto (tgt := 23) dX4_passDay_44 (by decide) ?_
        exact ih (b + 1) _ (by omega) (by first | exact hk | exact inh_kp kp_und hk) (by rw [← hP]; first | exact (ld_a (bI_0 c33)).symm | exact (ld_b (bI_1 c33)).symm)
      · refine r_aload_n dX4_passDay_36 rfl ?_
        refine r_iload_n dX4_passDay_37 rfl ?_
        refine r_cVv dX4_passDay_38 (K_und (by assumption) hk.1 hk.2.1) gX4_passDay_38 dcX4_undoInBranch rfl rfl rfl (by decide) (ob_pl (by assumption)) ?_
        refine r_iinc dX4_passDay_41 rfl ii_s (by decide) rfl ?_
        refine r_goto (tgt := 23) dX4_passDay_44 (by decide) ?_
        exact ih (b + 1) _ (by omega) (by first | exact hk | exact inh_kp kp_und hk) (by rw [← hP]; first | exact (ld_a (bI_0 c33)).symm | exact (ld_b (bI_1 c33)).symm)
  have L1 : ∀ (n i : Nat) (P : tP), i + n = cn P0 → inh P0 P → lp_work n i P = lp_work (cn P0) 0 P0 → Rj cX4_passDay RX4 2 none (rmd 4) 0 0 cA ad (Qe none ex (m_pl M r (f_pass P0))) ex 0 0 2 [some (.ref (ad r 0)), some (.int (nI i))] [] (m_pl M r P) := by
    intro n
    induction n with
    | zero =>
      intro i P h hk hP
      have hx : P 0 1 = nI (cn P0) := by rw [← hk.2.2.1]; exact hk.1.1
      refine r_iload_n dX4_passDay_2 rfl ?_
      refine r_aload_n dX4_passDay_3 rfl ?_
      refine r_getp_pl (by assumption) 1 (by decide) q80 rfl dX4_passDay_4 ?_
      refine r_icmp_ge (tgt := 21) dX4_passDay_7 (by decide) (fun c7 => ?_) (fun c7 => absurd (lp_z hx h) c7)
      refine r_iconst (v := 1) dX4_passDay_21 (by decide) ?_
      refine r_istore_n dX4_passDay_22 (by decide) rfl ?_
      exact L2 3 1 P (by omega) hk (by rw [← hP]; rfl)
    | succ n ih =>
      intro i P h hk hP
      have hx : P 0 1 = nI (cn P0) := by rw [← hk.2.2.1]; exact hk.1.1
      have hc2 : cn P0 ≤ 12 := by rw [← hk.2.2.1]; exact hk.1.2
      refine r_iload_n dX4_passDay_2 rfl ?_
      refine r_aload_n dX4_passDay_3 rfl ?_
      refine r_getp_pl (by assumption) 1 (by decide) q80 rfl dX4_passDay_4 ?_
      refine r_icmp_ge (tgt := 21) dX4_passDay_7 (by decide) (fun c7 => absurd c7 (lp_s hx hc2 h)) (fun c7 => ?_)
      refine r_aload_n dX4_passDay_10 rfl ?_
      refine r_iload_n dX4_passDay_11 rfl ?_
      refine r_cVv dX4_passDay_12 (K_work (i := i) (by assumption) (by omega) hk.1 hk.2.1) gX4_passDay_12 dcX4_workOn rfl rfl rfl (by decide) (ob_pl (by assumption)) ?_
      refine r_iinc dX4_passDay_15 rfl ii_s (by decide) rfl ?_
      refine r_goto (tgt := 2) dX4_passDay_18 (by decide) ?_
      exact ih (i + 1) _ (by omega) (inh_kp kp_work hk) hP
  refine r_iconst (v := 0) dX4_passDay_0 (by decide) ?_
  refine r_istore_n dX4_passDay_1 (by decide) rfl ?_
  exact L1 (cn P0) 0 P0 (by omega) ⟨hoc, ho, rfl, hoh⟩ rfl
theorem dX4_lateBy_0 : decode cX4_lateBy 0 = .ok (.aload_n 0, 1) := by decide +kernel
theorem dX4_lateBy_1 : decode cX4_lateBy 1 = .ok (.getfield 11, 3) := by decide +kernel
theorem dX4_lateBy_4 : decode cX4_lateBy 4 = .ok (.aload_n 0, 1) := by decide +kernel
theorem dX4_lateBy_5 : decode cX4_lateBy 5 = .ok (.getfield 17, 3) := by decide +kernel
theorem dX4_lateBy_8 : decode cX4_lateBy 8 = .ok (.iload_n 1, 1) := by decide +kernel
theorem dX4_lateBy_9 : decode cX4_lateBy 9 = .ok (.iaload, 1) := by decide +kernel
theorem dX4_lateBy_10 : decode cX4_lateBy 10 = .ok (.aaload, 1) := by decide +kernel
theorem dX4_lateBy_11 : decode cX4_lateBy 11 = .ok (.astore_n 2, 1) := by decide +kernel
theorem dX4_lateBy_12 : decode cX4_lateBy 12 = .ok (.aload_n 2, 1) := by decide +kernel
theorem dX4_lateBy_13 : decode cX4_lateBy 13 = .ok (.getfield 84, 3) := by decide +kernel
theorem dX4_lateBy_16 : decode cX4_lateBy 16 = .ok (.iconst 3, 1) := by decide +kernel
theorem dX4_lateBy_17 : decode cX4_lateBy 17 = .ok (.if_icmp .ne 10, 3) := by decide +kernel
theorem dX4_lateBy_20 : decode cX4_lateBy 20 = .ok (.aload_n 2, 1) := by decide +kernel
theorem dX4_lateBy_21 : decode cX4_lateBy 21 = .ok (.getfield 87, 3) := by decide +kernel
theorem dX4_lateBy_24 : decode cX4_lateBy 24 = .ok (.goto 7, 3) := by decide +kernel
theorem dX4_lateBy_27 : decode cX4_lateBy 27 = .ok (.aload_n 0, 1) := by decide +kernel
theorem dX4_lateBy_28 : decode cX4_lateBy 28 = .ok (.getfield 51, 3) := by decide +kernel
theorem dX4_lateBy_31 : decode cX4_lateBy 31 = .ok (.istore_n 3, 1) := by decide +kernel
theorem dX4_lateBy_32 : decode cX4_lateBy 32 = .ok (.iconst 0, 1) := by decide +kernel
theorem dX4_lateBy_33 : decode cX4_lateBy 33 = .ok (.iload_n 3, 1) := by decide +kernel
theorem dX4_lateBy_34 : decode cX4_lateBy 34 = .ok (.aload_n 2, 1) := by decide +kernel
theorem dX4_lateBy_35 : decode cX4_lateBy 35 = .ok (.getfield 81, 3) := by decide +kernel
theorem dX4_lateBy_38 : decode cX4_lateBy 38 = .ok (.isub, 1) := by decide +kernel
theorem dX4_lateBy_39 : decode cX4_lateBy 39 = .ok (.invokestatic 90, 3) := by decide +kernel
theorem dX4_lateBy_42 : decode cX4_lateBy 42 = .ok (.ireturn, 1) := by decide +kernel
theorem dcX4_lateBy : yX4_lateBy.cls = RX4 ∧ yX4_lateBy.cls ≠ "java/lang/invoke/MethodHandle" ∧ yX4_lateBy.cls ≠ "java/lang/invoke/VarHandle" ∧ (parseMethodDescriptor yX4_lateBy.desc).map (fun d => d.parameters.length) = some 1 := by decide +kernel
set_option maxRecDepth 100000 in
set_option maxHeartbeats 4000000 in
theorem K_lateBy {cA : Nat → ClassId} {ad : tA} {ex : va_W} {M : tM} {r : Nat} {P : tP} {k m : Nat} (hr : isPlan r) (hk : k < 4) (hm : P 2 k = nI m) (hm2 : m < 12) : Cj yX4_lateBy cX4_lateBy 4 (some .int) (rmd 1) 0 0 cA ad [.ref (ad r 0), .int (nI k)] ex (m_pl M r P) (Qe (some (.int (f_lateBy P k m))) ex (m_pl M r P)) := by
  refine c_of_r (lv0 := [some (.ref (ad r 0)), some (.int (nI k)), none, none]) rfl (by decide +kernel) (Nat.le_of_ble_eq_true rfl) rfl ?_
  refine r_aload_n dX4_lateBy_0 rfl ?_
  refine r_getp_pl (by assumption) 0 (by decide) q38 rfl dX4_lateBy_1 ?_
  refine r_aload_n dX4_lateBy_4 rfl ?_
  refine r_getp_pl (by assumption) 2 (by decide) q40 rfl dX4_lateBy_5 ?_
  refine r_iload_n dX4_lateBy_8 rfl ?_
  refine r_ldp_mi (by assumption) rfl hk dX4_lateBy_9 ?_
  refine r_aldp_steps (by assumption) hm hm2 dX4_lateBy_10 ?_
  refine r_astore_n dX4_lateBy_11 (by decide) rfl ?_
  refine r_aload_n dX4_lateBy_12 rfl ?_
  refine r_getp_st (by assumption) (by omega) 6 (by decide) q168 rfl dX4_lateBy_13 ?_
  refine r_iconst (v := 3) dX4_lateBy_16 (by decide) ?_
  refine r_icmp_ne (tgt := 27) dX4_lateBy_17 (by decide) (fun c17 => ?_) (fun c17 => ?_)
  · refine r_aload_n dX4_lateBy_27 rfl ?_
    refine r_getp_pl (by assumption) 7 (by decide) q88 rfl dX4_lateBy_28 ?_
    refine r_istore_n dX4_lateBy_31 (by decide) rfl ?_
    refine r_iconst (v := 0) dX4_lateBy_32 (by decide) ?_
    refine r_iload_n dX4_lateBy_33 rfl ?_
    refine r_aload_n dX4_lateBy_34 rfl ?_
    refine r_getp_st (by assumption) (by omega) 5 (by decide) q357 rfl dX4_lateBy_35 ?_
    refine r_isub dX4_lateBy_38 ?_
    refine r_mmax q594 q267 q6 q268 (by decide) (by decide) (Nat.le_refl _) (Nat.le_refl _) dX4_lateBy_39 ?_
    exact r_ret rfl rfl dX4_lateBy_42 (by first | (simp [f_lateBy, c17]; done) | simp_all [f_lateBy]) rfl
  · refine r_aload_n dX4_lateBy_20 rfl ?_
    refine r_getp_st (by assumption) (by omega) 10 (by decide) q371 rfl dX4_lateBy_21 ?_
    refine r_goto (tgt := 31) dX4_lateBy_24 (by decide) ?_
    refine r_istore_n dX4_lateBy_31 (by decide) rfl ?_
    refine r_iconst (v := 0) dX4_lateBy_32 (by decide) ?_
    refine r_iload_n dX4_lateBy_33 rfl ?_
    refine r_aload_n dX4_lateBy_34 rfl ?_
    refine r_getp_st (by assumption) (by omega) 5 (by decide) q357 rfl dX4_lateBy_35 ?_
    refine r_isub dX4_lateBy_38 ?_
    refine r_mmax q594 q267 q6 q268 (by decide) (by decide) (Nat.le_refl _) (Nat.le_refl _) dX4_lateBy_39 ?_
    exact r_ret rfl rfl dX4_lateBy_42 (by first | (simp [f_lateBy, c17]; done) | simp_all [f_lateBy]) rfl
theorem wd_a {P : tP} {x w : Int32} {n i : Nat} (h : x &&& sh i = 0) : lp_wid P x (n + 1) i w = lp_wid P x n (i + 1) w := by rw [lp_wid, if_pos h]
theorem wd_b {P : tP} {x w : Int32} {n i : Nat} (h : ¬ x &&& sh i = 0) : lp_wid P x (n + 1) i w = lp_wid P x n (i + 1) (w ||| P (4 + i) 4) := by rw [lp_wid, if_neg h]
theorem re_a {P : tP} {x : Int32} {n : Nat} (h : lp_wid P x (cn P) 0 x = x) : lp_reach P (n + 1) x = x := by rw [lp_reach, if_pos h]
theorem re_b {P : tP} {x : Int32} {n : Nat} (h : ¬ lp_wid P x (cn P) 0 x = x) : lp_reach P (n + 1) x = lp_reach P n (lp_wid P x (cn P) 0 x) := by rw [lp_reach, if_neg h]
theorem dX4_needsOverAll_0 : decode cX4_needsOverAll 0 = .ok (.aload_n 0, 1) := by decide +kernel
theorem dX4_needsOverAll_1 : decode cX4_needsOverAll 1 = .ok (.getfield 11, 3) := by decide +kernel
theorem dX4_needsOverAll_4 : decode cX4_needsOverAll 4 = .ok (.iload_n 1, 1) := by decide +kernel
theorem dX4_needsOverAll_5 : decode cX4_needsOverAll 5 = .ok (.aaload, 1) := by decide +kernel
theorem dX4_needsOverAll_6 : decode cX4_needsOverAll 6 = .ok (.getfield 109, 3) := by decide +kernel
theorem dX4_needsOverAll_9 : decode cX4_needsOverAll 9 = .ok (.istore_n 3, 1) := by decide +kernel
theorem dX4_needsOverAll_10 : decode cX4_needsOverAll 10 = .ok (.iconst 0, 1) := by decide +kernel
theorem dX4_needsOverAll_11 : decode cX4_needsOverAll 11 = .ok (.istore 4, 2) := by decide +kernel
theorem dX4_needsOverAll_13 : decode cX4_needsOverAll 13 = .ok (.iload 4, 2) := by decide +kernel
theorem dX4_needsOverAll_15 : decode cX4_needsOverAll 15 = .ok (.bipush 12, 2) := by decide +kernel
theorem dX4_needsOverAll_17 : decode cX4_needsOverAll 17 = .ok (.if_icmp .ge 66, 3) := by decide +kernel
theorem dX4_needsOverAll_20 : decode cX4_needsOverAll 20 = .ok (.iload_n 3, 1) := by decide +kernel
theorem dX4_needsOverAll_21 : decode cX4_needsOverAll 21 = .ok (.istore 5, 2) := by decide +kernel
theorem dX4_needsOverAll_23 : decode cX4_needsOverAll 23 = .ok (.iconst 0, 1) := by decide +kernel
theorem dX4_needsOverAll_24 : decode cX4_needsOverAll 24 = .ok (.istore 6, 2) := by decide +kernel
theorem dX4_needsOverAll_26 : decode cX4_needsOverAll 26 = .ok (.iload 6, 2) := by decide +kernel
theorem dX4_needsOverAll_28 : decode cX4_needsOverAll 28 = .ok (.aload_n 0, 1) := by decide +kernel
theorem dX4_needsOverAll_29 : decode cX4_needsOverAll 29 = .ok (.getfield 29, 3) := by decide +kernel
theorem dX4_needsOverAll_32 : decode cX4_needsOverAll 32 = .ok (.if_icmp .ge 33, 3) := by decide +kernel
theorem dX4_needsOverAll_35 : decode cX4_needsOverAll 35 = .ok (.iload_n 3, 1) := by decide +kernel
theorem dX4_needsOverAll_36 : decode cX4_needsOverAll 36 = .ok (.iconst 1, 1) := by decide +kernel
theorem dX4_needsOverAll_37 : decode cX4_needsOverAll 37 = .ok (.iload 6, 2) := by decide +kernel
theorem dX4_needsOverAll_39 : decode cX4_needsOverAll 39 = .ok (.ishl, 1) := by decide +kernel
theorem dX4_needsOverAll_40 : decode cX4_needsOverAll 40 = .ok (.iand, 1) := by decide +kernel
theorem dX4_needsOverAll_41 : decode cX4_needsOverAll 41 = .ok (.ifCond .eq 18, 3) := by decide +kernel
theorem dX4_needsOverAll_44 : decode cX4_needsOverAll 44 = .ok (.iload 5, 2) := by decide +kernel
theorem dX4_needsOverAll_46 : decode cX4_needsOverAll 46 = .ok (.aload_n 0, 1) := by decide +kernel
theorem dX4_needsOverAll_47 : decode cX4_needsOverAll 47 = .ok (.getfield 11, 3) := by decide +kernel
theorem dX4_needsOverAll_50 : decode cX4_needsOverAll 50 = .ok (.iload 6, 2) := by decide +kernel
theorem dX4_needsOverAll_52 : decode cX4_needsOverAll 52 = .ok (.aaload, 1) := by decide +kernel
theorem dX4_needsOverAll_53 : decode cX4_needsOverAll 53 = .ok (.getfield 109, 3) := by decide +kernel
theorem dX4_needsOverAll_56 : decode cX4_needsOverAll 56 = .ok (.ior, 1) := by decide +kernel
theorem dX4_needsOverAll_57 : decode cX4_needsOverAll 57 = .ok (.istore 5, 2) := by decide +kernel
theorem dX4_needsOverAll_59 : decode cX4_needsOverAll 59 = .ok (.iinc 6 1, 3) := by decide +kernel
theorem dX4_needsOverAll_62 : decode cX4_needsOverAll 62 = .ok (.goto (-36), 3) := by decide +kernel
theorem dX4_needsOverAll_65 : decode cX4_needsOverAll 65 = .ok (.iload 5, 2) := by decide +kernel
theorem dX4_needsOverAll_67 : decode cX4_needsOverAll 67 = .ok (.iload_n 3, 1) := by decide +kernel
theorem dX4_needsOverAll_68 : decode cX4_needsOverAll 68 = .ok (.if_icmp .ne 6, 3) := by decide +kernel
theorem dX4_needsOverAll_71 : decode cX4_needsOverAll 71 = .ok (.goto 12, 3) := by decide +kernel
theorem dX4_needsOverAll_74 : decode cX4_needsOverAll 74 = .ok (.iload 5, 2) := by decide +kernel
theorem dX4_needsOverAll_76 : decode cX4_needsOverAll 76 = .ok (.istore_n 3, 1) := by decide +kernel
theorem dX4_needsOverAll_77 : decode cX4_needsOverAll 77 = .ok (.iinc 4 1, 3) := by decide +kernel
theorem dX4_needsOverAll_80 : decode cX4_needsOverAll 80 = .ok (.goto (-67), 3) := by decide +kernel
theorem dX4_needsOverAll_83 : decode cX4_needsOverAll 83 = .ok (.iload_n 3, 1) := by decide +kernel
theorem dX4_needsOverAll_84 : decode cX4_needsOverAll 84 = .ok (.iconst 1, 1) := by decide +kernel
theorem dX4_needsOverAll_85 : decode cX4_needsOverAll 85 = .ok (.iload_n 2, 1) := by decide +kernel
theorem dX4_needsOverAll_86 : decode cX4_needsOverAll 86 = .ok (.ishl, 1) := by decide +kernel
theorem dX4_needsOverAll_87 : decode cX4_needsOverAll 87 = .ok (.iand, 1) := by decide +kernel
theorem dX4_needsOverAll_88 : decode cX4_needsOverAll 88 = .ok (.ifCond .eq 7, 3) := by decide +kernel
theorem dX4_needsOverAll_91 : decode cX4_needsOverAll 91 = .ok (.iconst 1, 1) := by decide +kernel
theorem dX4_needsOverAll_92 : decode cX4_needsOverAll 92 = .ok (.goto 4, 3) := by decide +kernel
theorem dX4_needsOverAll_95 : decode cX4_needsOverAll 95 = .ok (.iconst 0, 1) := by decide +kernel
theorem dX4_needsOverAll_96 : decode cX4_needsOverAll 96 = .ok (.ireturn, 1) := by decide +kernel
theorem dcX4_needsOverAll : yX4_needsOverAll.cls = RX4 ∧ yX4_needsOverAll.cls ≠ "java/lang/invoke/MethodHandle" ∧ yX4_needsOverAll.cls ≠ "java/lang/invoke/VarHandle" ∧ (parseMethodDescriptor yX4_needsOverAll.desc).map (fun d => d.parameters.length) = some 2 := by decide +kernel
set_option maxRecDepth 100000 in
set_option maxHeartbeats 4000000 in
theorem K_noa {cA : Nat → ClassId} {ad : tA} {ex : va_W} {M : tM} {r : Nat} {P : tP} {s : Nat} {j : Int32} (hr : isPlan r) (hs : s < 12) (hoc : okc P) : Cj yX4_needsOverAll cX4_needsOverAll 7 (some .boolean) (rmd 0) 0 0 cA ad [.ref (ad r 0), .int (nI s), .int j] ex (m_pl M r P) (Qe (some (.int (bI (f_noa P s j)))) ex (m_pl M r P)) := by
  refine c_of_r (lv0 := [some (.ref (ad r 0)), some (.int (nI s)), some (.int j), none, none, none, none]) rfl (by decide +kernel) (Nat.le_of_ble_eq_true rfl) rfl ?_
  have Li : ∀ (x : Int32) (k n i : Nat) (w : Int32), i + n = cn P → Rj cX4_needsOverAll RX4 7 (some .boolean) (rmd 0) 0 0 cA ad (Qe (some (.int (bI (f_noa P s j)))) ex (m_pl M r P)) ex 0 0 65 [some (.ref (ad r 0)), some (.int (nI s)), some (.int j), some (.int x), some (.int (nI k)), some (.int (lp_wid P x n i w)), none] [] (m_pl M r P) → Rj cX4_needsOverAll RX4 7 (some .boolean) (rmd 0) 0 0 cA ad (Qe (some (.int (bI (f_noa P s j)))) ex (m_pl M r P)) ex 0 0 26 [some (.ref (ad r 0)), some (.int (nI s)), some (.int j), some (.int x), some (.int (nI k)), some (.int w), some (.int (nI i))] [] (m_pl M r P) := by
    intro x k n
    induction n with
    | zero =>
      intro i w h K
      refine r_iload dX4_needsOverAll_26 rfl ?_
      refine r_aload_n dX4_needsOverAll_28 rfl ?_
      refine r_getp_pl (by assumption) 1 (by decide) q80 rfl dX4_needsOverAll_29 ?_
      refine r_icmp_ge (tgt := 65) dX4_needsOverAll_32 (by decide) (fun c32 => ?_) (fun c32 => absurd (lp_z hoc.1 h) c32)
      refine r_fgt 6 ?_
      exact K
    | succ n ih =>
      intro i w h K
      refine r_iload dX4_needsOverAll_26 rfl ?_
      refine r_aload_n dX4_needsOverAll_28 rfl ?_
      refine r_getp_pl (by assumption) 1 (by decide) q80 rfl dX4_needsOverAll_29 ?_
      refine r_icmp_ge (tgt := 65) dX4_needsOverAll_32 (by decide) (fun c32 => absurd c32 (lp_s hoc.1 hoc.2 h)) (fun c32 => ?_)
      refine r_iload_n dX4_needsOverAll_35 rfl ?_
      refine r_iconst (v := 1) dX4_needsOverAll_36 (by decide) ?_
      refine r_iload dX4_needsOverAll_37 rfl ?_
      refine r_ishl dX4_needsOverAll_39 ?_
      refine r_iand dX4_needsOverAll_40 ?_
      refine r_if_eq (tgt := 59) dX4_needsOverAll_41 (by decide) (fun c41 => ?_) (fun c41 => ?_)
      · refine r_iinc dX4_needsOverAll_59 rfl ii_s (by decide) rfl ?_
        refine r_goto (tgt := 26) dX4_needsOverAll_62 (by decide) ?_
        exact ih (i + 1) _ (by omega) (by first | (rw [← wd_a c41]; exact K) | (rw [← wd_b c41]; exact K))
      · refine r_iload dX4_needsOverAll_44 rfl ?_
        refine r_aload_n dX4_needsOverAll_46 rfl ?_
        refine r_getp_pl (by assumption) 0 (by decide) q38 rfl dX4_needsOverAll_47 ?_
        refine r_iload dX4_needsOverAll_50 rfl ?_
        refine r_aldp_steps (by assumption) rfl (by have := hoc.2; omega) dX4_needsOverAll_52 ?_
        refine r_getp_st (by assumption) (by have := hoc.2; omega) 4 (by decide) q325 rfl dX4_needsOverAll_53 ?_
        refine r_ior dX4_needsOverAll_56 ?_
        refine r_istore dX4_needsOverAll_57 (by decide) rfl ?_
        refine r_iinc dX4_needsOverAll_59 rfl ii_s (by decide) rfl ?_
        refine r_goto (tgt := 26) dX4_needsOverAll_62 (by decide) ?_
        exact ih (i + 1) _ (by omega) (by first | (rw [← wd_a c41]; exact K) | (rw [← wd_b c41]; exact K))
  have Lx : ∀ (x : Int32) (lv2 : List (Option Value)), lp_reach P 12 (P (4 + s) 4) = x → lv2[2]? = some (some (.int j)) → lv2[3]? = some (some (.int x)) → Rj cX4_needsOverAll RX4 7 (some .boolean) (rmd 0) 0 0 cA ad (Qe (some (.int (bI (f_noa P s j)))) ex (m_pl M r P)) ex 0 0 83 lv2 [] (m_pl M r P) := by
    intro x lv2 hx h2 h3
    refine r_iload_n dX4_needsOverAll_83 h3 ?_
    refine r_iconst (v := 1) dX4_needsOverAll_84 (by decide) ?_
    refine r_iload_n dX4_needsOverAll_85 h2 ?_
    refine r_ishl dX4_needsOverAll_86 ?_
    refine r_iand dX4_needsOverAll_87 ?_
    refine r_if_eq (tgt := 95) dX4_needsOverAll_88 (by decide) (fun c88 => ?_) (fun c88 => ?_)
    · refine r_iconst (v := 0) dX4_needsOverAll_95 (by decide) ?_
      exact r_ret rfl rfl dX4_needsOverAll_96 (by first | (rw [f_noa, hx]; simp [bI, *]; done) | (subst hx; simp_all [f_noa, bI])) rfl
    · refine r_iconst (v := 1) dX4_needsOverAll_91 (by decide) ?_
      refine r_goto (tgt := 96) dX4_needsOverAll_92 (by decide) ?_
      exact r_ret rfl rfl dX4_needsOverAll_96 (by first | (rw [f_noa, hx]; simp [bI, *]; done) | (subst hx; simp_all [f_noa, bI])) rfl
  have Lo : ∀ (n k : Nat) (x : Int32), k + n = 12 → lp_reach P n x = lp_reach P 12 (P (4 + s) 4) → Rj cX4_needsOverAll RX4 7 (some .boolean) (rmd 0) 0 0 cA ad (Qe (some (.int (bI (f_noa P s j)))) ex (m_pl M r P)) ex 0 0 13 [some (.ref (ad r 0)), some (.int (nI s)), some (.int j), some (.int x), some (.int (nI k)), none, none] [] (m_pl M r P) := by
    intro n
    induction n with
    | zero =>
      intro k x h hx
      refine r_iload dX4_needsOverAll_13 rfl ?_
      refine r_bipush (v := 12) dX4_needsOverAll_15 (by decide) ?_
      refine r_icmp_ge (tgt := 83) dX4_needsOverAll_17 (by decide) (fun c17 => ?_) (fun c17 => absurd (lp_z (x := 12) (c := 12) rfl h) c17)
      exact Lx x _ (by rw [← hx]; rfl) rfl rfl
    | succ n ih =>
      intro k x h hx
      refine r_iload dX4_needsOverAll_13 rfl ?_
      refine r_bipush (v := 12) dX4_needsOverAll_15 (by decide) ?_
      refine r_icmp_ge (tgt := 83) dX4_needsOverAll_17 (by decide) (fun c17 => absurd c17 (lp_s (x := 12) (c := 12) rfl (by omega) h)) (fun c17 => ?_)
      refine r_iload_n dX4_needsOverAll_20 rfl ?_
      refine r_istore dX4_needsOverAll_21 (by decide) rfl ?_
      refine r_iconst (v := 0) dX4_needsOverAll_23 (by decide) ?_
      refine r_istore dX4_needsOverAll_24 (by decide) rfl ?_
      refine Li x k (cn P) 0 x (by omega) ?_
      refine r_iload dX4_needsOverAll_65 rfl ?_
      refine r_iload_n dX4_needsOverAll_67 rfl ?_
      refine r_icmp_ne (tgt := 74) dX4_needsOverAll_68 (by decide) (fun c68 => ?_) (fun c68 => ?_)
      · refine r_iload dX4_needsOverAll_74 rfl ?_
        refine r_istore_n dX4_needsOverAll_76 (by decide) rfl ?_
        refine r_iinc dX4_needsOverAll_77 rfl ii_s (by decide) rfl ?_
        refine r_goto (tgt := 13) dX4_needsOverAll_80 (by decide) ?_
        refine r_fgt 5 ?_
        exact ih (k + 1) _ (by omega) (by rw [← hx]; exact (re_b c68).symm)
      · refine r_goto (tgt := 83) dX4_needsOverAll_71 (by decide) ?_
        exact Lx x _ (by rw [← hx]; exact re_a c68) rfl rfl
  refine r_aload_n dX4_needsOverAll_0 rfl ?_
  refine r_getp_pl (by assumption) 0 (by decide) q38 rfl dX4_needsOverAll_1 ?_
  refine r_iload_n dX4_needsOverAll_4 rfl ?_
  refine r_aldp_steps (by assumption) rfl hs dX4_needsOverAll_5 ?_
  refine r_getp_st (by assumption) (by omega) 4 (by decide) q325 rfl dX4_needsOverAll_6 ?_
  refine r_istore_n dX4_needsOverAll_9 (by decide) rfl ?_
  refine r_iconst (v := 0) dX4_needsOverAll_10 (by decide) ?_
  refine r_istore dX4_needsOverAll_11 (by decide) rfl ?_
  exact Lo 12 0 _ (by omega) rfl
end
section
/-! PART 09: rows over the text (region 13), the line (14), the chains (15) taken out of the matrix; the chains -/
section
variable {cc : ByteArray} {own : String} {nL : Nat} {ret : Option FieldType} {rm : Room} {mc ms : Nat} {cA : Nat → ClassId} {ad : tA} {Q : Option Value → va_W → tM → Prop} {ex : va_W} {cells slots pc : Nat} {lv : List (Option Value)} {st : List Value} {M : tM}
theorem r_getp_ot {idx : Nat}  {v : Value} {P : tP} (kf : Nat) (hk : kf < 5) (hw : Cond.fieldLink own idx (TX3 kf).1 (TX3 kf).2.1 (TX3 kf).2.2.1 ∈ wsL_law) (hv : (l_ot ad (P 0))[kf]? = some v) (hd : decode cc pc = .ok (.getfield idx, 3)) (k : Rj cc own nL ret rm mc ms cA ad Q ex cells slots (pc + 3) lv (v :: st) (m_pl M 13 P)) : Rj cc own nL ret rm mc ms cA ad Q ex cells slots pc lv (.ref (ad 13 0) :: st) (m_pl M 13 P) := r_get_ot  kf hk hw (by rw [m_pl_s]; exact hv) hd k
theorem r_putp_ot {idx : Nat}  {x : Int32} {P : tP} {ty : FieldType} (kf : Nat) (hk : kf < 5) (hw : Cond.fieldLink own idx (TX3 kf).1 (TX3 kf).2.1 (TX3 kf).2.2.1 ∈ wsL_law) (hfin : (TX3 kf).2.2.2 = false) (het : tyX3 kf = ty) (hn : narrow ty (.int x) = .int x) (hfit : fits ty (.int x) = true) (hset : l_ot ad (upd (P 0) kf x) = (l_ot ad (P 0)).set kf (.int x)) (hd : decode cc pc = .ok (.putfield idx, 3)) (k : Rj cc own nL ret rm mc ms cA ad Q ex cells slots (pc + 3) lv st (m_pl M 13 (pu P 0 kf x))) : Rj cc own nL ret rm mc ms cA ad Q ex cells slots pc lv (.int x :: .ref (ad 13 0) :: st) (m_pl M 13 P) := r_put_ot  kf hk hw hfin het hn hfit (by rw [m_pl_s]; exact hset) hd (by rw [m_pl_s, m_set_pl]; exact k)
theorem r_getp_or {idx : Nat} {i : Nat} (hi : i < 12) {v : Value} {P : tP} (kf : Nat) (hk : kf < 5) (hw : Cond.fieldLink own idx (TX2 kf).1 (TX2 kf).2.1 (TX2 kf).2.2.1 ∈ wsL_law) (hv : (l_or (P (3 + i)))[kf]? = some v) (hd : decode cc pc = .ok (.getfield idx, 3)) (k : Rj cc own nL ret rm mc ms cA ad Q ex cells slots (pc + 3) lv (v :: st) (m_pl M 13 P)) : Rj cc own nL ret rm mc ms cA ad Q ex cells slots pc lv (.ref (ad 13 (3 + i)) :: st) (m_pl M 13 P) := r_get_or hi kf hk hw (by rw [m_pl_s]; exact hv) hd k
theorem r_putp_or {idx : Nat} {i : Nat} (hi : i < 12) {x : Int32} {P : tP} {ty : FieldType} (kf : Nat) (hk : kf < 5) (hw : Cond.fieldLink own idx (TX2 kf).1 (TX2 kf).2.1 (TX2 kf).2.2.1 ∈ wsL_law) (hfin : (TX2 kf).2.2.2 = false) (het : tyX2 kf = ty) (hn : narrow ty (.int x) = .int x) (hfit : fits ty (.int x) = true) (hset : l_or (upd (P (3 + i)) kf x) = (l_or (P (3 + i))).set kf (.int x)) (hd : decode cc pc = .ok (.putfield idx, 3)) (k : Rj cc own nL ret rm mc ms cA ad Q ex cells slots (pc + 3) lv st (m_pl M 13 (pu P (3 + i) kf x))) : Rj cc own nL ret rm mc ms cA ad Q ex cells slots pc lv (.int x :: .ref (ad 13 (3 + i)) :: st) (m_pl M 13 P) := r_put_or hi kf hk hw hfin het hn hfit (by rw [m_pl_s]; exact hset) hd (by rw [m_pl_s, m_set_pl]; exact k)
theorem r_getp_ln {idx : Nat}  {v : Value} {P : tP} (kf : Nat) (hk : kf < 2) (hw : Cond.fieldLink own idx (TX1 kf).1 (TX1 kf).2.1 (TX1 kf).2.2.1 ∈ wsL_law) (hv : (l_ln ad (P 0))[kf]? = some v) (hd : decode cc pc = .ok (.getfield idx, 3)) (k : Rj cc own nL ret rm mc ms cA ad Q ex cells slots (pc + 3) lv (v :: st) (m_pl M 14 P)) : Rj cc own nL ret rm mc ms cA ad Q ex cells slots pc lv (.ref (ad 14 0) :: st) (m_pl M 14 P) := r_get_ln  kf hk hw (by rw [m_pl_s]; exact hv) hd k
theorem r_putp_ln {idx : Nat}  {x : Int32} {P : tP} {ty : FieldType} (kf : Nat) (hk : kf < 2) (hw : Cond.fieldLink own idx (TX1 kf).1 (TX1 kf).2.1 (TX1 kf).2.2.1 ∈ wsL_law) (hfin : (TX1 kf).2.2.2 = false) (het : tyX1 kf = ty) (hn : narrow ty (.int x) = .int x) (hfit : fits ty (.int x) = true) (hset : l_ln ad (upd (P 0) kf x) = (l_ln ad (P 0)).set kf (.int x)) (hd : decode cc pc = .ok (.putfield idx, 3)) (k : Rj cc own nL ret rm mc ms cA ad Q ex cells slots (pc + 3) lv st (m_pl M 14 (pu P 0 kf x))) : Rj cc own nL ret rm mc ms cA ad Q ex cells slots pc lv (.int x :: .ref (ad 14 0) :: st) (m_pl M 14 P) := r_put_ln  kf hk hw hfin het hn hfit (by rw [m_pl_s]; exact hset) hd (by rw [m_pl_s, m_set_pl]; exact k)
theorem r_ldp_os {i : Nat} {x : Int32} {P : tP} (hx : x = nI i) (hi : i < 60) (hd : decode cc pc = .ok (.caload, 1)) (k : Rj cc own nL ret rm mc ms cA ad Q ex cells slots (pc + 1) lv (.int (P 1 i) :: st) (m_pl M 13 P)) : Rj cc own nL ret rm mc ms cA ad Q ex cells slots pc lv (.int x :: .ref (ad 13 1) :: st) (m_pl M 13 P) := r_ld_os hx hi hd (by rw [m_pl_s]; exact k)
theorem r_strp_os {i : Nat} {x y : Int32} {P : tP} (hx : x = nI i) (hi : i < 60) (hc : vp_nar .char y = y) (hd : decode cc pc = .ok (.castore, 1)) (k : Rj cc own nL ret rm mc ms cA ad Q ex cells slots (pc + 1) lv st (m_pl M 13 (pu P 1 i y))) : Rj cc own nL ret rm mc ms cA ad Q ex cells slots pc lv (.int y :: .int x :: .ref (ad 13 1) :: st) (m_pl M 13 P) := r_str_os hx hi hc hd (by rw [m_pl_s, m_set_pl]; exact k)
theorem r_ldp_ls {i : Nat} {x : Int32} {P : tP} (hx : x = nI i) (hi : i < 64) (hd : decode cc pc = .ok (.caload, 1)) (k : Rj cc own nL ret rm mc ms cA ad Q ex cells slots (pc + 1) lv (.int (P 1 i) :: st) (m_pl M 14 P)) : Rj cc own nL ret rm mc ms cA ad Q ex cells slots pc lv (.int x :: .ref (ad 14 1) :: st) (m_pl M 14 P) := r_ld_ls hx hi hd (by rw [m_pl_s]; exact k)
theorem r_strp_ls {i : Nat} {x y : Int32} {P : tP} (hx : x = nI i) (hi : i < 64) (hc : vp_nar .char y = y) (hd : decode cc pc = .ok (.castore, 1)) (k : Rj cc own nL ret rm mc ms cA ad Q ex cells slots (pc + 1) lv st (m_pl M 14 (pu P 1 i y))) : Rj cc own nL ret rm mc ms cA ad Q ex cells slots pc lv (.int y :: .int x :: .ref (ad 14 1) :: st) (m_pl M 14 P) := r_str_ls hx hi hc hd (by rw [m_pl_s, m_set_pl]; exact k)
theorem r_ldp_cn {i : Nat} {x : Int32} {P : tP} (hx : x = nI i) (hi : i < 12) (hd : decode cc pc = .ok (.iaload, 1)) (k : Rj cc own nL ret rm mc ms cA ad Q ex cells slots (pc + 1) lv (.int (P 1 i) :: st) (m_pl M 15 P)) : Rj cc own nL ret rm mc ms cA ad Q ex cells slots pc lv (.int x :: .ref (ad 15 1) :: st) (m_pl M 15 P) := r_ld_cn hx hi hd (by rw [m_pl_s]; exact k)
theorem r_strp_cn {i : Nat} {x y : Int32} {P : tP} (hx : x = nI i) (hi : i < 12) (hd : decode cc pc = .ok (.iastore, 1)) (k : Rj cc own nL ret rm mc ms cA ad Q ex cells slots (pc + 1) lv st (m_pl M 15 (pu P 1 i y))) : Rj cc own nL ret rm mc ms cA ad Q ex cells slots pc lv (.int y :: .int x :: .ref (ad 15 1) :: st) (m_pl M 15 P) := r_str_cn hx hi hd (by rw [m_pl_s, m_set_pl]; exact k)
theorem r_ldp_cr {i : Nat} {x : Int32} {P : tP} (hx : x = nI i) (hi : i < 12) (hd : decode cc pc = .ok (.iaload, 1)) (k : Rj cc own nL ret rm mc ms cA ad Q ex cells slots (pc + 1) lv (.int (P 2 i) :: st) (m_pl M 15 P)) : Rj cc own nL ret rm mc ms cA ad Q ex cells slots pc lv (.int x :: .ref (ad 15 2) :: st) (m_pl M 15 P) := r_ld_cr hx hi hd (by rw [m_pl_s]; exact k)
theorem r_strp_cr {i : Nat} {x y : Int32} {P : tP} (hx : x = nI i) (hi : i < 12) (hd : decode cc pc = .ok (.iastore, 1)) (k : Rj cc own nL ret rm mc ms cA ad Q ex cells slots (pc + 1) lv st (m_pl M 15 (pu P 2 i y))) : Rj cc own nL ret rm mc ms cA ad Q ex cells slots pc lv (.int y :: .int x :: .ref (ad 15 2) :: st) (m_pl M 15 P) := r_str_cr hx hi hd (by rw [m_pl_s, m_set_pl]; exact k)
end
theorem pl15 {r : Nat} (hr : isPlan r) : r ≠ 15 := by unfold isPlan at hr; omega
theorem pl14 {r : Nat} (hr : isPlan r) : r ≠ 14 := by unfold isPlan at hr; omega
theorem pl13 {r : Nat} (hr : isPlan r) : r ≠ 13 := by unfold isPlan at hr; omega
theorem pl0 {r : Nat} (hr : isPlan r) : r ≠ 0 := by unfold isPlan at hr; omega
def lp_lon (f : Nat → tP → Int32 × tP) (needs : Int32) : Nat → Nat → Int32 → tP → Int32 × tP
  | 0, _, b, C => (b, C)
  | n + 1, j, b, C => if needs &&& sh j = 0 then lp_lon f needs n (j + 1) b C else lp_lon f needs n (j + 1) (if b < (f j C).1 then (f j C).1 else b) (f j C).2
/-- longest: D is what is left to depth 13 -/
def f_lon (P : tP) : Nat → Nat → tP → Int32 × tP
  | 0, i, C => (C 1 i, C)
  | D + 1, i, C => if 0 < C 1 i then (C 1 i, C) else
      let q := lp_lon (f_lon P D) (P (4 + i) 4) (cn P) 0 0 C
      (q.1 + P (4 + i) 0, pu q.2 1 i (q.1 + P (4 + i) 0))
def lp_z0 : Nat → Nat → tP → tP
  | 0, _, C => C
  | n + 1, i, C => lp_z0 n (i + 1) (pu C 1 i 0)
def lp_mn (P : tP) : Nat → Nat → tP → tP
  | 0, _, C => C
  | n + 1, i, C => lp_mn P n (i + 1) (f_lon P 13 i C).2
def f_mn (P C : tP) : tP := lp_mn P (cn P) 0 (lp_z0 (cn P) 0 C)
def lp_len (P : tP) (i : Nat) : Nat → Nat → Bool → tP → Bool × tP
  | 0, _, b, C => (b, C)
  | n + 1, j, b, C => if P (4 + i) 4 &&& sh j = 0 then lp_len P i n (j + 1) b C
      else if C 2 j + P (4 + i) 0 ≤ C 2 i then lp_len P i n (j + 1) b C
      else lp_len P i n (j + 1) true (pu C 2 i (C 2 j + P (4 + i) 0))
def f_len (P C : tP) (i : Nat) : Bool × tP := lp_len P i (cn P) 0 false C
def lp_d0 (P : tP) : Nat → Nat → tP → tP
  | 0, _, C => C
  | n + 1, i, C => lp_d0 P n (i + 1) (pu C 2 i (P (4 + i) 0))
def lp_rnd (P : tP) : Nat → Nat → Bool → tP → Bool × tP
  | 0, _, b, C => (b, C)
  | n + 1, i, b, C => lp_rnd P n (i + 1) ((f_len P C i).1 || b) (f_len P C i).2
def lp_rr (P : tP) : Nat → Bool → tP → tP
  | 0, _, C => C
  | n + 1, b, C => if b then lp_rr P n (lp_rnd P (cn P) 0 false C).1 (lp_rnd P (cn P) 0 false C).2 else C
def f_mr (P C : tP) : tP := lp_rr P 13 true (lp_d0 P (cn P) 0 C)
theorem lon_a {f : Nat → tP → Int32 × tP} {x : Int32} {n j : Nat} {b : Int32} {C : tP} (h : x &&& sh j = 0) : lp_lon f x (n + 1) j b C = lp_lon f x n (j + 1) b C := by rw [lp_lon, if_pos h]
theorem lon_b {f : Nat → tP → Int32 × tP} {x : Int32} {n j : Nat} {b : Int32} {C : tP} (h : ¬ x &&& sh j = 0) : lp_lon f x (n + 1) j b C = lp_lon f x n (j + 1) (if b < (f j C).1 then (f j C).1 else b) (f j C).2 := by rw [lp_lon, if_neg h]
theorem lon_c {P C : tP} {D i : Nat} (h : 0 < C 1 i) : f_lon P D i C = (C 1 i, C) := by
  cases D with
  | zero => rfl
  | succ D => rw [f_lon, if_pos h]
theorem lon_d {P C : tP} {D i : Nat} {q : Int32 × tP} (h : ¬ 0 < C 1 i) (e : lp_lon (f_lon P D) (P (4 + i) 4) (cn P) 0 0 C = q) : f_lon P (D + 1) i C = (q.1 + P (4 + i) 0, pu q.2 1 i (q.1 + P (4 + i) 0)) := by subst e; rw [f_lon, if_neg h]
theorem dp_0 {d : Nat} (h : d = 13) : ¬ nI d ≤ 12 := by subst h; decide
theorem dp_s {d D : Nat} (h : d + (D + 1) = 13) : nI d ≤ 12 := nI_le (b := 12) (by omega) (by omega)
theorem rl_s {D : Nat} : (Nat.ble (D + 1 + 1) (D + 2) && Nat.ble 7 41) = true := by rw [Bool.and_eq_true]; exact ⟨Nat.ble_eq.mpr (Nat.le_refl _), rfl⟩
theorem mmx_l {D : Nat} {k : Nat} (h : k ≤ 60) : k ≤ (rmd (D + 1)).locals := by show k ≤ 60 * (D + 1); omega
theorem mmx_f {D : Nat} : 1 ≤ (rmd (D + 1)).frames := by show 1 ≤ D + 1; omega
theorem dX0_longest_0 : decode cX0_longest 0 = .ok (.aload_n 2, 1) := by decide +kernel
theorem dX0_longest_1 : decode cX0_longest 1 = .ok (.iload_n 1, 1) := by decide +kernel
theorem dX0_longest_2 : decode cX0_longest 2 = .ok (.iaload, 1) := by decide +kernel
theorem dX0_longest_3 : decode cX0_longest 3 = .ok (.ifCond .gt 9, 3) := by decide +kernel
theorem dX0_longest_6 : decode cX0_longest 6 = .ok (.iload_n 3, 1) := by decide +kernel
theorem dX0_longest_7 : decode cX0_longest 7 = .ok (.bipush 12, 2) := by decide +kernel
theorem dX0_longest_9 : decode cX0_longest 9 = .ok (.if_icmp .le 7, 3) := by decide +kernel
theorem dX0_longest_12 : decode cX0_longest 12 = .ok (.aload_n 2, 1) := by decide +kernel
theorem dX0_longest_13 : decode cX0_longest 13 = .ok (.iload_n 1, 1) := by decide +kernel
theorem dX0_longest_14 : decode cX0_longest 14 = .ok (.iaload, 1) := by decide +kernel
theorem dX0_longest_15 : decode cX0_longest 15 = .ok (.ireturn, 1) := by decide +kernel
theorem dX0_longest_16 : decode cX0_longest 16 = .ok (.aload_n 0, 1) := by decide +kernel
theorem dX0_longest_17 : decode cX0_longest 17 = .ok (.getfield 28, 3) := by decide +kernel
theorem dX0_longest_20 : decode cX0_longest 20 = .ok (.iload_n 1, 1) := by decide +kernel
theorem dX0_longest_21 : decode cX0_longest 21 = .ok (.aaload, 1) := by decide +kernel
theorem dX0_longest_22 : decode cX0_longest 22 = .ok (.astore 4, 2) := by decide +kernel
theorem dX0_longest_24 : decode cX0_longest 24 = .ok (.iconst 0, 1) := by decide +kernel
theorem dX0_longest_25 : decode cX0_longest 25 = .ok (.istore 5, 2) := by decide +kernel
theorem dX0_longest_27 : decode cX0_longest 27 = .ok (.iconst 0, 1) := by decide +kernel
theorem dX0_longest_28 : decode cX0_longest 28 = .ok (.istore 6, 2) := by decide +kernel
theorem dX0_longest_30 : decode cX0_longest 30 = .ok (.iload 6, 2) := by decide +kernel
theorem dX0_longest_32 : decode cX0_longest 32 = .ok (.aload_n 0, 1) := by decide +kernel
theorem dX0_longest_33 : decode cX0_longest 33 = .ok (.getfield 18, 3) := by decide +kernel
theorem dX0_longest_36 : decode cX0_longest 36 = .ok (.if_icmp .ge 39, 3) := by decide +kernel
theorem dX0_longest_39 : decode cX0_longest 39 = .ok (.aload 4, 2) := by decide +kernel
theorem dX0_longest_41 : decode cX0_longest 41 = .ok (.getfield 32, 3) := by decide +kernel
theorem dX0_longest_44 : decode cX0_longest 44 = .ok (.iconst 1, 1) := by decide +kernel
theorem dX0_longest_45 : decode cX0_longest 45 = .ok (.iload 6, 2) := by decide +kernel
theorem dX0_longest_47 : decode cX0_longest 47 = .ok (.ishl, 1) := by decide +kernel
theorem dX0_longest_48 : decode cX0_longest 48 = .ok (.iand, 1) := by decide +kernel
theorem dX0_longest_49 : decode cX0_longest 49 = .ok (.ifCond .eq 20, 3) := by decide +kernel
theorem dX0_longest_52 : decode cX0_longest 52 = .ok (.iload 5, 2) := by decide +kernel
theorem dX0_longest_54 : decode cX0_longest 54 = .ok (.aload_n 0, 1) := by decide +kernel
theorem dX0_longest_55 : decode cX0_longest 55 = .ok (.iload 6, 2) := by decide +kernel
theorem dX0_longest_57 : decode cX0_longest 57 = .ok (.aload_n 2, 1) := by decide +kernel
theorem dX0_longest_58 : decode cX0_longest 58 = .ok (.iload_n 3, 1) := by decide +kernel
theorem dX0_longest_59 : decode cX0_longest 59 = .ok (.iconst 1, 1) := by decide +kernel
theorem dX0_longest_60 : decode cX0_longest 60 = .ok (.iadd, 1) := by decide +kernel
theorem dX0_longest_61 : decode cX0_longest 61 = .ok (.invokestatic 24, 3) := by decide +kernel
theorem dX0_longest_64 : decode cX0_longest 64 = .ok (.invokestatic 37, 3) := by decide +kernel
theorem dX0_longest_67 : decode cX0_longest 67 = .ok (.istore 5, 2) := by decide +kernel
theorem dX0_longest_69 : decode cX0_longest 69 = .ok (.iinc 6 1, 3) := by decide +kernel
theorem dX0_longest_72 : decode cX0_longest 72 = .ok (.goto (-42), 3) := by decide +kernel
theorem dX0_longest_75 : decode cX0_longest 75 = .ok (.aload_n 2, 1) := by decide +kernel
theorem dX0_longest_76 : decode cX0_longest 76 = .ok (.iload_n 1, 1) := by decide +kernel
theorem dX0_longest_77 : decode cX0_longest 77 = .ok (.iload 5, 2) := by decide +kernel
theorem dX0_longest_79 : decode cX0_longest 79 = .ok (.aload 4, 2) := by decide +kernel
theorem dX0_longest_81 : decode cX0_longest 81 = .ok (.getfield 43, 3) := by decide +kernel
theorem dX0_longest_84 : decode cX0_longest 84 = .ok (.iadd, 1) := by decide +kernel
theorem dX0_longest_85 : decode cX0_longest 85 = .ok (.iastore, 1) := by decide +kernel
theorem dX0_longest_86 : decode cX0_longest 86 = .ok (.aload_n 2, 1) := by decide +kernel
theorem dX0_longest_87 : decode cX0_longest 87 = .ok (.iload_n 1, 1) := by decide +kernel
theorem dX0_longest_88 : decode cX0_longest 88 = .ok (.iaload, 1) := by decide +kernel
theorem dX0_longest_89 : decode cX0_longest 89 = .ok (.ireturn, 1) := by decide +kernel
theorem dcX0_longest : yX0_longest.cls = RX0 ∧ yX0_longest.cls ≠ "java/lang/invoke/MethodHandle" ∧ yX0_longest.cls ≠ "java/lang/invoke/VarHandle" ∧ (parseMethodDescriptor yX0_longest.desc).map (fun d => d.parameters.length) = some 4 := by decide +kernel
theorem gX0_longest_61 : gS RX0 24 yX0_longest cX0_longest 7 (some .int) := ⟨q447, q448, q31, q449⟩
set_option maxRecDepth 100000 in
set_option maxHeartbeats 4000000 in
theorem K_lon {cA : Nat → ClassId} {ad : tA} {ex : va_W} {M : tM} {r : Nat} (hr : isPlan r) (hne : r ≠ 15) (hoc : okc (M r)) : ∀ D, ∀ (d i : Nat) (C0 : tP), d + D = 13 → i < 12 → Cj yX0_longest cX0_longest 7 (some .int) (rmd (D + 1)) 0 0 cA ad [.ref (ad r 0), .int (nI i), .ref (ad 15 1), .int (nI d)] ex (m_pl M 15 C0) (Qe (some (.int (f_lon (M r) D i C0).1)) ex (m_pl M 15 (f_lon (M r) D i C0).2)) := by
  intro D
  induction D with
  | zero =>
    intro d i C0 hd hi
    refine c_of_r (lv0 := [some (.ref (ad r 0)), some (.int (nI i)), some (.ref (ad 15 1)), some (.int (nI d)), none, none, none]) rfl (by decide +kernel) (Nat.le_of_ble_eq_true rfl) rfl ?_
    refine r_aload_n dX0_longest_0 rfl ?_
    refine r_iload_n dX0_longest_1 rfl ?_
    refine r_ldp_cn rfl (by omega) dX0_longest_2 ?_
    refine r_if_gt (tgt := 12) dX0_longest_3 (by decide) (fun c3 => ?_) (fun c3 => ?_)
    · refine r_aload_n dX0_longest_12 rfl ?_
      refine r_iload_n dX0_longest_13 rfl ?_
      refine r_ldp_cn rfl (by omega) dX0_longest_14 ?_
      exact r_ret rfl rfl dX0_longest_15 rfl rfl
    · refine r_iload_n dX0_longest_6 rfl ?_
      refine r_bipush (v := 12) dX0_longest_7 (by decide) ?_
      refine r_icmp_le (tgt := 16) dX0_longest_9 (by decide) (fun c9 => absurd c9 (dp_0 hd)) (fun c9 => ?_)
      refine r_aload_n dX0_longest_12 rfl ?_
      refine r_iload_n dX0_longest_13 rfl ?_
      refine r_ldp_cn rfl (by omega) dX0_longest_14 ?_
      exact r_ret rfl rfl dX0_longest_15 rfl rfl
  | succ D ihD =>
    intro d i C0 hd hi
    refine c_of_r (lv0 := [some (.ref (ad r 0)), some (.int (nI i)), some (.ref (ad 15 1)), some (.int (nI d)), none, none, none]) rfl (by decide +kernel) (Nat.le_of_ble_eq_true rfl) rfl ?_
    have L : ∀ (n j : Nat) (b : Int32) (C : tP), ¬ 0 < C0 1 i → j + n = cn (M r) → lp_lon (f_lon (M r) D) (M r (4 + i) 4) n j b C = lp_lon (f_lon (M r) D) (M r (4 + i) 4) (cn (M r)) 0 0 C0 → Rj cX0_longest RX0 7 (some .int) (rmd (D + 2)) 0 0 cA ad (Qe (some (.int (f_lon (M r) (D + 1) i C0).1)) ex (m_pl M 15 (f_lon (M r) (D + 1) i C0).2)) ex 0 0 30 [some (.ref (ad r 0)), some (.int (nI i)), some (.ref (ad 15 1)), some (.int (nI d)), some (.ref (ad r (4 + i))), some (.int b), some (.int (nI j))] [] (m_pl M 15 C) := by
      intro n
      induction n with
      | zero =>
        intro j b C hz h hC
        refine r_iload dX0_longest_30 rfl ?_
        refine r_aload_n dX0_longest_32 rfl ?_
        refine r_getq_pl (by assumption) (by assumption) 1 (by decide) q446 rfl dX0_longest_33 ?_
        refine r_icmp_ge (tgt := 75) dX0_longest_36 (by decide) (fun c36 => ?_) (fun c36 => absurd (lp_z hoc.1 h) c36)
        refine r_aload_n dX0_longest_75 rfl ?_
        refine r_iload_n dX0_longest_76 rfl ?_
        refine r_iload dX0_longest_77 rfl ?_
        refine r_aload dX0_longest_79 rfl ?_
        refine r_getq_st (by assumption) (by assumption) (by omega) 0 (by decide) q453 rfl dX0_longest_81 ?_
        refine r_iadd dX0_longest_84 ?_
        refine r_strp_cn rfl (by omega) dX0_longest_85 ?_
        refine r_aload_n dX0_longest_86 rfl ?_
        refine r_iload_n dX0_longest_87 rfl ?_
        refine r_ldp_cn rfl (by omega) dX0_longest_88 ?_
        exact r_ret rfl rfl dX0_longest_89 (by rw [pu_s, lon_d hz hC.symm]; rfl) (by rw [lon_d hz hC.symm]; rfl)
      | succ n ih =>
        intro j b C hz h hC
        have hj : j < 12 := by have := hoc.2; omega
        refine r_iload dX0_longest_30 rfl ?_
        refine r_aload_n dX0_longest_32 rfl ?_
        refine r_getq_pl (by assumption) (by assumption) 1 (by decide) q446 rfl dX0_longest_33 ?_
        refine r_icmp_ge (tgt := 75) dX0_longest_36 (by decide) (fun c36 => absurd c36 (lp_s hoc.1 hoc.2 h)) (fun c36 => ?_)
        refine r_aload dX0_longest_39 rfl ?_
        refine r_getq_st (by assumption) (by assumption) (by omega) 4 (by decide) q451 rfl dX0_longest_41 ?_
        refine r_iconst (v := 1) dX0_longest_44 (by decide) ?_
        refine r_iload dX0_longest_45 rfl ?_
        refine r_ishl dX0_longest_47 ?_
        refine r_iand dX0_longest_48 ?_
        refine r_if_eq (tgt := 69) dX0_longest_49 (by decide) (fun c49 => ?_) (fun c49 => ?_)
        · refine r_iinc dX0_longest_69 rfl ii_s (by decide) rfl ?_
          refine r_goto (tgt := 30) dX0_longest_72 (by decide) ?_
          exact ih (j + 1) _ _ hz (by omega) (by rw [← hC]; first | exact (lon_a c49).symm | exact (lon_b c49).symm)
        · refine r_iload dX0_longest_52 rfl ?_
          refine r_aload_n dX0_longest_54 rfl ?_
          refine r_iload dX0_longest_55 rfl ?_
          refine r_aload_n dX0_longest_57 rfl ?_
          refine r_iload_n dX0_longest_58 rfl ?_
          refine r_iconst (v := 1) dX0_longest_59 (by decide) ?_
          refine r_iadd dX0_longest_60 ?_
          rw [nI_1]
          refine r_cSi dX0_longest_61 (ihD (d + 1) j C (by omega) hj) gX0_longest_61 dcX0_longest rfl rfl rl_s (Nat.le_of_ble_eq_true rfl) ?_
          refine r_mmax q452 q267 q6 q268 mmx_f (mmx_l (by decide)) (Nat.le_refl _) (Nat.le_refl _) dX0_longest_64 ?_
          refine r_istore dX0_longest_67 (by decide) rfl ?_
          refine r_iinc dX0_longest_69 rfl ii_s (by decide) rfl ?_
          refine r_goto (tgt := 30) dX0_longest_72 (by decide) ?_
          exact ih (j + 1) _ _ hz (by omega) (by rw [← hC]; first | exact (lon_a c49).symm | exact (lon_b c49).symm)
    refine r_aload_n dX0_longest_0 rfl ?_
    refine r_iload_n dX0_longest_1 rfl ?_
    refine r_ldp_cn rfl (by omega) dX0_longest_2 ?_
    refine r_if_gt (tgt := 12) dX0_longest_3 (by decide) (fun c3 => ?_) (fun c3 => ?_)
    · refine r_aload_n dX0_longest_12 rfl ?_
      refine r_iload_n dX0_longest_13 rfl ?_
      refine r_ldp_cn rfl (by omega) dX0_longest_14 ?_
      exact r_ret rfl rfl dX0_longest_15 (by rw [lon_c c3]) (by rw [lon_c c3])
    · refine r_iload_n dX0_longest_6 rfl ?_
      refine r_bipush (v := 12) dX0_longest_7 (by decide) ?_
      refine r_icmp_le (tgt := 16) dX0_longest_9 (by decide) (fun c9 => ?_) (fun c9 => absurd (dp_s hd) c9)
      refine r_aload_n dX0_longest_16 rfl ?_
      refine r_getq_pl (by assumption) (by assumption) 0 (by decide) q450 rfl dX0_longest_17 ?_
      refine r_iload_n dX0_longest_20 rfl ?_
      refine r_ald_steps (by assumption) rfl (by omega) dX0_longest_21 ?_
      refine r_astore dX0_longest_22 (by decide) rfl ?_
      refine r_iconst (v := 0) dX0_longest_24 (by decide) ?_
      refine r_istore dX0_longest_25 (by decide) rfl ?_
      refine r_iconst (v := 0) dX0_longest_27 (by decide) ?_
      refine r_istore dX0_longest_28 (by decide) rfl ?_
      exact L (cn (M r)) 0 0 C0 c3 (by omega) rfl
theorem dX0_measureByNeeds_0 : decode cX0_measureByNeeds 0 = .ok (.iconst 0, 1) := by decide +kernel
theorem dX0_measureByNeeds_1 : decode cX0_measureByNeeds 1 = .ok (.istore_n 2, 1) := by decide +kernel
theorem dX0_measureByNeeds_2 : decode cX0_measureByNeeds 2 = .ok (.iload_n 2, 1) := by decide +kernel
theorem dX0_measureByNeeds_3 : decode cX0_measureByNeeds 3 = .ok (.aload_n 1, 1) := by decide +kernel
theorem dX0_measureByNeeds_4 : decode cX0_measureByNeeds 4 = .ok (.getfield 18, 3) := by decide +kernel
theorem dX0_measureByNeeds_7 : decode cX0_measureByNeeds 7 = .ok (.if_icmp .ge 16, 3) := by decide +kernel
theorem dX0_measureByNeeds_10 : decode cX0_measureByNeeds 10 = .ok (.aload_n 0, 1) := by decide +kernel
theorem dX0_measureByNeeds_11 : decode cX0_measureByNeeds 11 = .ok (.getfield 9, 3) := by decide +kernel
theorem dX0_measureByNeeds_14 : decode cX0_measureByNeeds 14 = .ok (.iload_n 2, 1) := by decide +kernel
theorem dX0_measureByNeeds_15 : decode cX0_measureByNeeds 15 = .ok (.iconst 0, 1) := by decide +kernel
theorem dX0_measureByNeeds_16 : decode cX0_measureByNeeds 16 = .ok (.iastore, 1) := by decide +kernel
theorem dX0_measureByNeeds_17 : decode cX0_measureByNeeds 17 = .ok (.iinc 2 1, 3) := by decide +kernel
theorem dX0_measureByNeeds_20 : decode cX0_measureByNeeds 20 = .ok (.goto (-18), 3) := by decide +kernel
theorem dX0_measureByNeeds_23 : decode cX0_measureByNeeds 23 = .ok (.iconst 0, 1) := by decide +kernel
theorem dX0_measureByNeeds_24 : decode cX0_measureByNeeds 24 = .ok (.istore_n 2, 1) := by decide +kernel
theorem dX0_measureByNeeds_25 : decode cX0_measureByNeeds 25 = .ok (.iload_n 2, 1) := by decide +kernel
theorem dX0_measureByNeeds_26 : decode cX0_measureByNeeds 26 = .ok (.aload_n 1, 1) := by decide +kernel
theorem dX0_measureByNeeds_27 : decode cX0_measureByNeeds 27 = .ok (.getfield 18, 3) := by decide +kernel
theorem dX0_measureByNeeds_30 : decode cX0_measureByNeeds 30 = .ok (.if_icmp .ge 20, 3) := by decide +kernel
theorem dX0_measureByNeeds_33 : decode cX0_measureByNeeds 33 = .ok (.aload_n 1, 1) := by decide +kernel
theorem dX0_measureByNeeds_34 : decode cX0_measureByNeeds 34 = .ok (.iload_n 2, 1) := by decide +kernel
theorem dX0_measureByNeeds_35 : decode cX0_measureByNeeds 35 = .ok (.aload_n 0, 1) := by decide +kernel
theorem dX0_measureByNeeds_36 : decode cX0_measureByNeeds 36 = .ok (.getfield 9, 3) := by decide +kernel
theorem dX0_measureByNeeds_39 : decode cX0_measureByNeeds 39 = .ok (.iconst 0, 1) := by decide +kernel
theorem dX0_measureByNeeds_40 : decode cX0_measureByNeeds 40 = .ok (.invokestatic 24, 3) := by decide +kernel
theorem dX0_measureByNeeds_43 : decode cX0_measureByNeeds 43 = .ok (.pop, 1) := by decide +kernel
theorem dX0_measureByNeeds_44 : decode cX0_measureByNeeds 44 = .ok (.iinc 2 1, 3) := by decide +kernel
theorem dX0_measureByNeeds_47 : decode cX0_measureByNeeds 47 = .ok (.goto (-22), 3) := by decide +kernel
theorem dX0_measureByNeeds_50 : decode cX0_measureByNeeds 50 = .ok (.return_, 1) := by decide +kernel
theorem dcX0_measureByNeeds : yX0_measureByNeeds.cls = RX0 ∧ yX0_measureByNeeds.cls ≠ "java/lang/invoke/MethodHandle" ∧ yX0_measureByNeeds.cls ≠ "java/lang/invoke/VarHandle" ∧ (parseMethodDescriptor yX0_measureByNeeds.desc).map (fun d => d.parameters.length) = some 1 := by decide +kernel
theorem gX0_measureByNeeds_40 : gS RX0 24 yX0_longest cX0_longest 7 (some .int) := ⟨q447, q448, q31, q449⟩
set_option maxRecDepth 100000 in
set_option maxHeartbeats 4000000 in
theorem K_mn {cA : Nat → ClassId} {ad : tA} {ex : va_W} {M : tM} {r : Nat} {C0 : tP} (hr : isPlan r) (hne : r ≠ 15) (hoc : okc (M r)) : Cj yX0_measureByNeeds cX0_measureByNeeds 3 none (rmd 15) 0 0 cA ad [.ref (ad 15 0), .ref (ad r 0)] ex (m_pl M 15 C0) (Qe none ex (m_pl M 15 (f_mn (M r) C0))) := by
  refine c_of_r (lv0 := [some (.ref (ad 15 0)), some (.ref (ad r 0)), none]) rfl (by decide +kernel) (Nat.le_of_ble_eq_true rfl) rfl ?_
  have L2 : ∀ (n i : Nat) (C : tP), i + n = cn (M r) → lp_mn (M r) n i C = f_mn (M r) C0 → Rj cX0_measureByNeeds RX0 3 none (rmd 15) 0 0 cA ad (Qe none ex (m_pl M 15 (f_mn (M r) C0))) ex 0 0 25 [some (.ref (ad 15 0)), some (.ref (ad r 0)), some (.int (nI i))] [] (m_pl M 15 C) := by
    intro n
    induction n with
    | zero =>
      intro i C h hC
      refine r_iload_n dX0_measureByNeeds_25 rfl ?_
      refine r_aload_n dX0_measureByNeeds_26 rfl ?_
      refine r_getq_pl (by assumption) (by assumption) 1 (by decide) q446 rfl dX0_measureByNeeds_27 ?_
      refine r_icmp_ge (tgt := 50) dX0_measureByNeeds_30 (by decide) (fun c30 => ?_) (fun c30 => absurd (lp_z hoc.1 h) c30)
      exact r_retv rfl dX0_measureByNeeds_50 (by rw [← hC]; rfl)
    | succ n ih =>
      intro i C h hC
      have hi : i < 12 := by have := hoc.2; omega
      refine r_iload_n dX0_measureByNeeds_25 rfl ?_
      refine r_aload_n dX0_measureByNeeds_26 rfl ?_
      refine r_getq_pl (by assumption) (by assumption) 1 (by decide) q446 rfl dX0_measureByNeeds_27 ?_
      refine r_icmp_ge (tgt := 50) dX0_measureByNeeds_30 (by decide) (fun c30 => absurd c30 (lp_s hoc.1 hoc.2 h)) (fun c30 => ?_)
      refine r_aload_n dX0_measureByNeeds_33 rfl ?_
      refine r_iload_n dX0_measureByNeeds_34 rfl ?_
      refine r_aload_n dX0_measureByNeeds_35 rfl ?_
      refine r_get_ch 0 (by decide) q68 rfl dX0_measureByNeeds_36 ?_
      refine r_iconst (v := 0) dX0_measureByNeeds_39 (by decide) ?_
      refine r_cSi dX0_measureByNeeds_40 (K_lon (by assumption) (by assumption) hoc 13 0 i C rfl hi) gX0_measureByNeeds_40 dcX0_longest rfl rfl rfl (Nat.le_of_ble_eq_true rfl) ?_
      refine r_pop dX0_measureByNeeds_43 rfl ?_
      refine r_iinc dX0_measureByNeeds_44 rfl ii_s (by decide) rfl ?_
      refine r_goto (tgt := 25) dX0_measureByNeeds_47 (by decide) ?_
      exact ih (i + 1) _ (by omega) hC
  have L1 : ∀ (n i : Nat) (C : tP), i + n = cn (M r) → lp_z0 n i C = lp_z0 (cn (M r)) 0 C0 → Rj cX0_measureByNeeds RX0 3 none (rmd 15) 0 0 cA ad (Qe none ex (m_pl M 15 (f_mn (M r) C0))) ex 0 0 2 [some (.ref (ad 15 0)), some (.ref (ad r 0)), some (.int (nI i))] [] (m_pl M 15 C) := by
    intro n
    induction n with
    | zero =>
      intro i C h hC
      refine r_iload_n dX0_measureByNeeds_2 rfl ?_
      refine r_aload_n dX0_measureByNeeds_3 rfl ?_
      refine r_getq_pl (by assumption) (by assumption) 1 (by decide) q446 rfl dX0_measureByNeeds_4 ?_
      refine r_icmp_ge (tgt := 23) dX0_measureByNeeds_7 (by decide) (fun c7 => ?_) (fun c7 => absurd (lp_z hoc.1 h) c7)
      refine r_iconst (v := 0) dX0_measureByNeeds_23 (by decide) ?_
      refine r_istore_n dX0_measureByNeeds_24 (by decide) rfl ?_
      exact L2 (cn (M r)) 0 C (by omega) (by rw [f_mn, ← hC]; rfl)
    | succ n ih =>
      intro i C h hC
      have hi : i < 12 := by have := hoc.2; omega
      refine r_iload_n dX0_measureByNeeds_2 rfl ?_
      refine r_aload_n dX0_measureByNeeds_3 rfl ?_
      refine r_getq_pl (by assumption) (by assumption) 1 (by decide) q446 rfl dX0_measureByNeeds_4 ?_
      refine r_icmp_ge (tgt := 23) dX0_measureByNeeds_7 (by decide) (fun c7 => absurd c7 (lp_s hoc.1 hoc.2 h)) (fun c7 => ?_)
      refine r_aload_n dX0_measureByNeeds_10 rfl ?_
      refine r_get_ch 0 (by decide) q68 rfl dX0_measureByNeeds_11 ?_
      refine r_iload_n dX0_measureByNeeds_14 rfl ?_
      refine r_iconst (v := 0) dX0_measureByNeeds_15 (by decide) ?_
      refine r_strp_cn rfl (by omega) dX0_measureByNeeds_16 ?_
      refine r_iinc dX0_measureByNeeds_17 rfl ii_s (by decide) rfl ?_
      refine r_goto (tgt := 2) dX0_measureByNeeds_20 (by decide) ?_
      exact ih (i + 1) _ (by omega) hC
  refine r_iconst (v := 0) dX0_measureByNeeds_0 (by decide) ?_
  refine r_istore_n dX0_measureByNeeds_1 (by decide) rfl ?_
  exact L1 (cn (M r)) 0 C0 (by omega) rfl
theorem len_a {P C : tP} {i n j : Nat} {b : Bool} (h : P (4 + i) 4 &&& sh j = 0) : lp_len P i (n + 1) j b C = lp_len P i n (j + 1) b C := by rw [lp_len, if_pos h]
theorem len_b {P C : tP} {i n j : Nat} {b : Bool} (h : ¬ P (4 + i) 4 &&& sh j = 0) (h2 : C 2 j + P (4 + i) 0 ≤ C 2 i) : lp_len P i (n + 1) j b C = lp_len P i n (j + 1) b C := by rw [lp_len, if_neg h, if_pos h2]
theorem len_c {P C : tP} {i n j : Nat} {b : Bool} (h : ¬ P (4 + i) 4 &&& sh j = 0) (h2 : ¬ C 2 j + P (4 + i) 0 ≤ C 2 i) : lp_len P i (n + 1) j b C = lp_len P i n (j + 1) true (pu C 2 i (C 2 j + P (4 + i) 0)) := by rw [lp_len, if_neg h, if_neg h2]
theorem dX0_lengthen_0 : decode cX0_lengthen 0 = .ok (.aload_n 1, 1) := by decide +kernel
theorem dX0_lengthen_1 : decode cX0_lengthen 1 = .ok (.getfield 28, 3) := by decide +kernel
theorem dX0_lengthen_4 : decode cX0_lengthen 4 = .ok (.iload_n 2, 1) := by decide +kernel
theorem dX0_lengthen_5 : decode cX0_lengthen 5 = .ok (.aaload, 1) := by decide +kernel
theorem dX0_lengthen_6 : decode cX0_lengthen 6 = .ok (.astore_n 3, 1) := by decide +kernel
theorem dX0_lengthen_7 : decode cX0_lengthen 7 = .ok (.iconst 0, 1) := by decide +kernel
theorem dX0_lengthen_8 : decode cX0_lengthen 8 = .ok (.istore 4, 2) := by decide +kernel
theorem dX0_lengthen_10 : decode cX0_lengthen 10 = .ok (.iconst 0, 1) := by decide +kernel
theorem dX0_lengthen_11 : decode cX0_lengthen 11 = .ok (.istore 5, 2) := by decide +kernel
theorem dX0_lengthen_13 : decode cX0_lengthen 13 = .ok (.iload 5, 2) := by decide +kernel
theorem dX0_lengthen_15 : decode cX0_lengthen 15 = .ok (.aload_n 1, 1) := by decide +kernel
theorem dX0_lengthen_16 : decode cX0_lengthen 16 = .ok (.getfield 18, 3) := by decide +kernel
theorem dX0_lengthen_19 : decode cX0_lengthen 19 = .ok (.if_icmp .ge 63, 3) := by decide +kernel
theorem dX0_lengthen_22 : decode cX0_lengthen 22 = .ok (.aload_n 3, 1) := by decide +kernel
theorem dX0_lengthen_23 : decode cX0_lengthen 23 = .ok (.getfield 32, 3) := by decide +kernel
theorem dX0_lengthen_26 : decode cX0_lengthen 26 = .ok (.iconst 1, 1) := by decide +kernel
theorem dX0_lengthen_27 : decode cX0_lengthen 27 = .ok (.iload 5, 2) := by decide +kernel
theorem dX0_lengthen_29 : decode cX0_lengthen 29 = .ok (.ishl, 1) := by decide +kernel
theorem dX0_lengthen_30 : decode cX0_lengthen 30 = .ok (.iand, 1) := by decide +kernel
theorem dX0_lengthen_31 : decode cX0_lengthen 31 = .ok (.ifCond .eq 45, 3) := by decide +kernel
theorem dX0_lengthen_34 : decode cX0_lengthen 34 = .ok (.aload_n 0, 1) := by decide +kernel
theorem dX0_lengthen_35 : decode cX0_lengthen 35 = .ok (.getfield 15, 3) := by decide +kernel
theorem dX0_lengthen_38 : decode cX0_lengthen 38 = .ok (.iload 5, 2) := by decide +kernel
theorem dX0_lengthen_40 : decode cX0_lengthen 40 = .ok (.iaload, 1) := by decide +kernel
theorem dX0_lengthen_41 : decode cX0_lengthen 41 = .ok (.aload_n 3, 1) := by decide +kernel
theorem dX0_lengthen_42 : decode cX0_lengthen 42 = .ok (.getfield 43, 3) := by decide +kernel
theorem dX0_lengthen_45 : decode cX0_lengthen 45 = .ok (.iadd, 1) := by decide +kernel
theorem dX0_lengthen_46 : decode cX0_lengthen 46 = .ok (.aload_n 0, 1) := by decide +kernel
theorem dX0_lengthen_47 : decode cX0_lengthen 47 = .ok (.getfield 15, 3) := by decide +kernel
theorem dX0_lengthen_50 : decode cX0_lengthen 50 = .ok (.iload_n 2, 1) := by decide +kernel
theorem dX0_lengthen_51 : decode cX0_lengthen 51 = .ok (.iaload, 1) := by decide +kernel
theorem dX0_lengthen_52 : decode cX0_lengthen 52 = .ok (.if_icmp .le 24, 3) := by decide +kernel
theorem dX0_lengthen_55 : decode cX0_lengthen 55 = .ok (.aload_n 0, 1) := by decide +kernel
theorem dX0_lengthen_56 : decode cX0_lengthen 56 = .ok (.getfield 15, 3) := by decide +kernel
theorem dX0_lengthen_59 : decode cX0_lengthen 59 = .ok (.iload_n 2, 1) := by decide +kernel
theorem dX0_lengthen_60 : decode cX0_lengthen 60 = .ok (.aload_n 0, 1) := by decide +kernel
theorem dX0_lengthen_61 : decode cX0_lengthen 61 = .ok (.getfield 15, 3) := by decide +kernel
theorem dX0_lengthen_64 : decode cX0_lengthen 64 = .ok (.iload 5, 2) := by decide +kernel
theorem dX0_lengthen_66 : decode cX0_lengthen 66 = .ok (.iaload, 1) := by decide +kernel
theorem dX0_lengthen_67 : decode cX0_lengthen 67 = .ok (.aload_n 3, 1) := by decide +kernel
theorem dX0_lengthen_68 : decode cX0_lengthen 68 = .ok (.getfield 43, 3) := by decide +kernel
theorem dX0_lengthen_71 : decode cX0_lengthen 71 = .ok (.iadd, 1) := by decide +kernel
theorem dX0_lengthen_72 : decode cX0_lengthen 72 = .ok (.iastore, 1) := by decide +kernel
theorem dX0_lengthen_73 : decode cX0_lengthen 73 = .ok (.iconst 1, 1) := by decide +kernel
theorem dX0_lengthen_74 : decode cX0_lengthen 74 = .ok (.istore 4, 2) := by decide +kernel
theorem dX0_lengthen_76 : decode cX0_lengthen 76 = .ok (.iinc 5 1, 3) := by decide +kernel
theorem dX0_lengthen_79 : decode cX0_lengthen 79 = .ok (.goto (-66), 3) := by decide +kernel
theorem dX0_lengthen_82 : decode cX0_lengthen 82 = .ok (.iload 4, 2) := by decide +kernel
theorem dX0_lengthen_84 : decode cX0_lengthen 84 = .ok (.ireturn, 1) := by decide +kernel
theorem dcX0_lengthen : yX0_lengthen.cls = RX0 ∧ yX0_lengthen.cls ≠ "java/lang/invoke/MethodHandle" ∧ yX0_lengthen.cls ≠ "java/lang/invoke/VarHandle" ∧ (parseMethodDescriptor yX0_lengthen.desc).map (fun d => d.parameters.length) = some 2 := by decide +kernel
set_option maxRecDepth 100000 in
set_option maxHeartbeats 4000000 in
theorem K_len {cA : Nat → ClassId} {ad : tA} {ex : va_W} {M : tM} {r : Nat} {C0 : tP} {i : Nat} (hr : isPlan r) (hne : r ≠ 15) (hi : i < 12) (hoc : okc (M r)) : Cj yX0_lengthen cX0_lengthen 6 (some .boolean) (rmd 0) 0 0 cA ad [.ref (ad 15 0), .ref (ad r 0), .int (nI i)] ex (m_pl M 15 C0) (Qe (some (.int (bI (f_len (M r) C0 i).1))) ex (m_pl M 15 (f_len (M r) C0 i).2)) := by
  refine c_of_r (lv0 := [some (.ref (ad 15 0)), some (.ref (ad r 0)), some (.int (nI i)), none, none, none]) rfl (by decide +kernel) (Nat.le_of_ble_eq_true rfl) rfl ?_
  have L : ∀ (n j : Nat) (b : Bool) (C : tP), j + n = cn (M r) → lp_len (M r) i n j b C = f_len (M r) C0 i → Rj cX0_lengthen RX0 6 (some .boolean) (rmd 0) 0 0 cA ad (Qe (some (.int (bI (f_len (M r) C0 i).1))) ex (m_pl M 15 (f_len (M r) C0 i).2)) ex 0 0 13 [some (.ref (ad 15 0)), some (.ref (ad r 0)), some (.int (nI i)), some (.ref (ad r (4 + i))), some (.int (bI b)), some (.int (nI j))] [] (m_pl M 15 C) := by
    intro n
    induction n with
    | zero =>
      intro j b C h hC
      refine r_iload dX0_lengthen_13 rfl ?_
      refine r_aload_n dX0_lengthen_15 rfl ?_
      refine r_getq_pl (by assumption) (by assumption) 1 (by decide) q446 rfl dX0_lengthen_16 ?_
      refine r_icmp_ge (tgt := 82) dX0_lengthen_19 (by decide) (fun c19 => ?_) (fun c19 => absurd (lp_z hoc.1 h) c19)
      refine r_iload dX0_lengthen_82 rfl ?_
      exact r_ret rfl bI_nar dX0_lengthen_84 (by rw [← hC]; rfl) (by rw [← hC]; rfl)
    | succ n ih =>
      intro j b C h hC
      have hj : j < 12 := by have := hoc.2; omega
      refine r_iload dX0_lengthen_13 rfl ?_
      refine r_aload_n dX0_lengthen_15 rfl ?_
      refine r_getq_pl (by assumption) (by assumption) 1 (by decide) q446 rfl dX0_lengthen_16 ?_
      refine r_icmp_ge (tgt := 82) dX0_lengthen_19 (by decide) (fun c19 => absurd c19 (lp_s hoc.1 hoc.2 h)) (fun c19 => ?_)
      refine r_aload_n dX0_lengthen_22 rfl ?_
      refine r_getq_st (by assumption) (by assumption) (by omega) 4 (by decide) q451 rfl dX0_lengthen_23 ?_
      refine r_iconst (v := 1) dX0_lengthen_26 (by decide) ?_
      refine r_iload dX0_lengthen_27 rfl ?_
      refine r_ishl dX0_lengthen_29 ?_
      refine r_iand dX0_lengthen_30 ?_
      refine r_if_eq (tgt := 76) dX0_lengthen_31 (by decide) (fun c31 => ?_) (fun c31 => ?_)
      · refine r_iinc dX0_lengthen_76 rfl ii_s (by decide) rfl ?_
        refine r_goto (tgt := 13) dX0_lengthen_79 (by decide) ?_
        first | exact ih (j + 1) b _ (by omega) (by rw [← hC]; first | exact (len_a c31).symm | exact (len_b c31 c52).symm) | exact ih (j + 1) true _ (by omega) (by rw [← hC]; exact (len_c c31 c52).symm)
      · refine r_aload_n dX0_lengthen_34 rfl ?_
        refine r_get_ch 1 (by decide) q69 rfl dX0_lengthen_35 ?_
        refine r_iload dX0_lengthen_38 rfl ?_
        refine r_ldp_cr rfl (by omega) dX0_lengthen_40 ?_
        refine r_aload_n dX0_lengthen_41 rfl ?_
        refine r_getq_st (by assumption) (by assumption) (by omega) 0 (by decide) q453 rfl dX0_lengthen_42 ?_
        refine r_iadd dX0_lengthen_45 ?_
        refine r_aload_n dX0_lengthen_46 rfl ?_
        refine r_get_ch 1 (by decide) q69 rfl dX0_lengthen_47 ?_
        refine r_iload_n dX0_lengthen_50 rfl ?_
        refine r_ldp_cr rfl (by omega) dX0_lengthen_51 ?_
        refine r_icmp_le (tgt := 76) dX0_lengthen_52 (by decide) (fun c52 => ?_) (fun c52 => ?_)
        · refine r_iinc dX0_lengthen_76 rfl ii_s (by decide) rfl ?_
          refine r_goto (tgt := 13) dX0_lengthen_79 (by decide) ?_
          first | exact ih (j + 1) b _ (by omega) (by rw [← hC]; first | exact (len_a c31).symm | exact (len_b c31 c52).symm) | exact ih (j + 1) true _ (by omega) (by rw [← hC]; exact (len_c c31 c52).symm)
        · refine r_aload_n dX0_lengthen_55 rfl ?_
          refine r_get_ch 1 (by decide) q69 rfl dX0_lengthen_56 ?_
          refine r_iload_n dX0_lengthen_59 rfl ?_
          refine r_aload_n dX0_lengthen_60 rfl ?_
          refine r_get_ch 1 (by decide) q69 rfl dX0_lengthen_61 ?_
          refine r_iload dX0_lengthen_64 rfl ?_
          refine r_ldp_cr rfl (by omega) dX0_lengthen_66 ?_
          refine r_aload_n dX0_lengthen_67 rfl ?_
          refine r_getq_st (by assumption) (by assumption) (by omega) 0 (by decide) q453 rfl dX0_lengthen_68 ?_
          refine r_iadd dX0_lengthen_71 ?_
          refine r_strp_cr rfl (by omega) dX0_lengthen_72 ?_
          refine r_iconst (v := 1) dX0_lengthen_73 (by decide) ?_
          refine r_istore dX0_lengthen_74 (by decide) rfl ?_
          refine r_iinc dX0_lengthen_76 rfl ii_s (by decide) rfl ?_
          refine r_goto (tgt := 13) dX0_lengthen_79 (by decide) ?_
          first | exact ih (j + 1) b _ (by omega) (by rw [← hC]; first | exact (len_a c31).symm | exact (len_b c31 c52).symm) | exact ih (j + 1) true _ (by omega) (by rw [← hC]; exact (len_c c31 c52).symm)
  refine r_aload_n dX0_lengthen_0 rfl ?_
  refine r_getq_pl (by assumption) (by assumption) 0 (by decide) q450 rfl dX0_lengthen_1 ?_
  refine r_iload_n dX0_lengthen_4 rfl ?_
  refine r_ald_steps (by assumption) rfl (by omega) dX0_lengthen_5 ?_
  refine r_astore_n dX0_lengthen_6 (by decide) rfl ?_
  refine r_iconst (v := 0) dX0_lengthen_7 (by decide) ?_
  refine r_istore dX0_lengthen_8 (by decide) rfl ?_
  refine r_iconst (v := 0) dX0_lengthen_10 (by decide) ?_
  refine r_istore dX0_lengthen_11 (by decide) rfl ?_
  exact L (cn (M r)) 0 false C0 (by omega) rfl
theorem rr_a {P C : tP} {n : Nat} {b : Bool} (h : bI b = 0) : lp_rr P (n + 1) b C = C := by rw [lp_rr, bI_0 h, if_neg (by decide)]
theorem rr_b {P C : tP} {n : Nat} {b : Bool} (h : ¬ bI b = 0) : lp_rr P (n + 1) b C = lp_rr P n (lp_rnd P (cn P) 0 false C).1 (lp_rnd P (cn P) 0 false C).2 := by rw [lp_rr, bI_1 h, if_pos rfl]
theorem rnd_1 {P C : tP} {n i : Nat} {b : Bool} (h : ¬ bI (f_len P C i).1 = 0) : lp_rnd P (n + 1) i b C = lp_rnd P n (i + 1) true (f_len P C i).2 := by rw [lp_rnd, bI_1 h]; rfl
theorem rnd_2 {P C : tP} {n i : Nat} {b : Bool} (h : ¬ bI b = 0) : lp_rnd P (n + 1) i b C = lp_rnd P n (i + 1) true (f_len P C i).2 := by rw [lp_rnd, bI_1 h, Bool.or_true]
theorem rnd_3 {P C : tP} {n i : Nat} {b : Bool} (h : bI (f_len P C i).1 = 0) (h2 : bI b = 0) : lp_rnd P (n + 1) i b C = lp_rnd P n (i + 1) false (f_len P C i).2 := by rw [lp_rnd, bI_0 h, bI_0 h2]; rfl
theorem rr_0 {k : Nat} (h : k + 0 = 13) : (12 : Int32) < nI k := nI_lt (a := 12) (by omega) (by omega)
theorem rr_s {k n : Nat} (h : k + (n + 1) = 13) : ¬ (12 : Int32) < nI k := nI_nlt (a := 12) (by omega) (by omega)
theorem dX0_measureByRounds_0 : decode cX0_measureByRounds 0 = .ok (.iconst 0, 1) := by decide +kernel
theorem dX0_measureByRounds_1 : decode cX0_measureByRounds 1 = .ok (.istore_n 2, 1) := by decide +kernel
theorem dX0_measureByRounds_2 : decode cX0_measureByRounds 2 = .ok (.iload_n 2, 1) := by decide +kernel
theorem dX0_measureByRounds_3 : decode cX0_measureByRounds 3 = .ok (.aload_n 1, 1) := by decide +kernel
theorem dX0_measureByRounds_4 : decode cX0_measureByRounds 4 = .ok (.getfield 18, 3) := by decide +kernel
theorem dX0_measureByRounds_7 : decode cX0_measureByRounds 7 = .ok (.if_icmp .ge 24, 3) := by decide +kernel
theorem dX0_measureByRounds_10 : decode cX0_measureByRounds 10 = .ok (.aload_n 0, 1) := by decide +kernel
theorem dX0_measureByRounds_11 : decode cX0_measureByRounds 11 = .ok (.getfield 15, 3) := by decide +kernel
theorem dX0_measureByRounds_14 : decode cX0_measureByRounds 14 = .ok (.iload_n 2, 1) := by decide +kernel
theorem dX0_measureByRounds_15 : decode cX0_measureByRounds 15 = .ok (.aload_n 1, 1) := by decide +kernel
theorem dX0_measureByRounds_16 : decode cX0_measureByRounds 16 = .ok (.getfield 28, 3) := by decide +kernel
theorem dX0_measureByRounds_19 : decode cX0_measureByRounds 19 = .ok (.iload_n 2, 1) := by decide +kernel
theorem dX0_measureByRounds_20 : decode cX0_measureByRounds 20 = .ok (.aaload, 1) := by decide +kernel
theorem dX0_measureByRounds_21 : decode cX0_measureByRounds 21 = .ok (.getfield 43, 3) := by decide +kernel
theorem dX0_measureByRounds_24 : decode cX0_measureByRounds 24 = .ok (.iastore, 1) := by decide +kernel
theorem dX0_measureByRounds_25 : decode cX0_measureByRounds 25 = .ok (.iinc 2 1, 3) := by decide +kernel
theorem dX0_measureByRounds_28 : decode cX0_measureByRounds 28 = .ok (.goto (-26), 3) := by decide +kernel
theorem dX0_measureByRounds_31 : decode cX0_measureByRounds 31 = .ok (.iconst 1, 1) := by decide +kernel
theorem dX0_measureByRounds_32 : decode cX0_measureByRounds 32 = .ok (.istore_n 2, 1) := by decide +kernel
theorem dX0_measureByRounds_33 : decode cX0_measureByRounds 33 = .ok (.iconst 0, 1) := by decide +kernel
theorem dX0_measureByRounds_34 : decode cX0_measureByRounds 34 = .ok (.istore_n 3, 1) := by decide +kernel
theorem dX0_measureByRounds_35 : decode cX0_measureByRounds 35 = .ok (.iload_n 2, 1) := by decide +kernel
theorem dX0_measureByRounds_36 : decode cX0_measureByRounds 36 = .ok (.ifCond .eq 55, 3) := by decide +kernel
theorem dX0_measureByRounds_39 : decode cX0_measureByRounds 39 = .ok (.iload_n 3, 1) := by decide +kernel
theorem dX0_measureByRounds_40 : decode cX0_measureByRounds 40 = .ok (.bipush 12, 2) := by decide +kernel
theorem dX0_measureByRounds_42 : decode cX0_measureByRounds 42 = .ok (.if_icmp .gt 49, 3) := by decide +kernel
theorem dX0_measureByRounds_45 : decode cX0_measureByRounds 45 = .ok (.iconst 0, 1) := by decide +kernel
theorem dX0_measureByRounds_46 : decode cX0_measureByRounds 46 = .ok (.istore_n 2, 1) := by decide +kernel
theorem dX0_measureByRounds_47 : decode cX0_measureByRounds 47 = .ok (.iconst 0, 1) := by decide +kernel
theorem dX0_measureByRounds_48 : decode cX0_measureByRounds 48 = .ok (.istore 4, 2) := by decide +kernel
theorem dX0_measureByRounds_50 : decode cX0_measureByRounds 50 = .ok (.iload 4, 2) := by decide +kernel
theorem dX0_measureByRounds_52 : decode cX0_measureByRounds 52 = .ok (.aload_n 1, 1) := by decide +kernel
theorem dX0_measureByRounds_53 : decode cX0_measureByRounds 53 = .ok (.getfield 18, 3) := by decide +kernel
theorem dX0_measureByRounds_56 : decode cX0_measureByRounds 56 = .ok (.if_icmp .ge 29, 3) := by decide +kernel
theorem dX0_measureByRounds_59 : decode cX0_measureByRounds 59 = .ok (.aload_n 0, 1) := by decide +kernel
theorem dX0_measureByRounds_60 : decode cX0_measureByRounds 60 = .ok (.aload_n 1, 1) := by decide +kernel
theorem dX0_measureByRounds_61 : decode cX0_measureByRounds 61 = .ok (.iload 4, 2) := by decide +kernel
theorem dX0_measureByRounds_63 : decode cX0_measureByRounds 63 = .ok (.invokevirtual 46, 3) := by decide +kernel
theorem dX0_measureByRounds_66 : decode cX0_measureByRounds 66 = .ok (.ifCond .ne 7, 3) := by decide +kernel
theorem dX0_measureByRounds_69 : decode cX0_measureByRounds 69 = .ok (.iload_n 2, 1) := by decide +kernel
theorem dX0_measureByRounds_70 : decode cX0_measureByRounds 70 = .ok (.ifCond .eq 7, 3) := by decide +kernel
theorem dX0_measureByRounds_73 : decode cX0_measureByRounds 73 = .ok (.iconst 1, 1) := by decide +kernel
theorem dX0_measureByRounds_74 : decode cX0_measureByRounds 74 = .ok (.goto 4, 3) := by decide +kernel
theorem dX0_measureByRounds_77 : decode cX0_measureByRounds 77 = .ok (.iconst 0, 1) := by decide +kernel
theorem dX0_measureByRounds_78 : decode cX0_measureByRounds 78 = .ok (.istore_n 2, 1) := by decide +kernel
theorem dX0_measureByRounds_79 : decode cX0_measureByRounds 79 = .ok (.iinc 4 1, 3) := by decide +kernel
theorem dX0_measureByRounds_82 : decode cX0_measureByRounds 82 = .ok (.goto (-32), 3) := by decide +kernel
theorem dX0_measureByRounds_85 : decode cX0_measureByRounds 85 = .ok (.iinc 3 1, 3) := by decide +kernel
theorem dX0_measureByRounds_88 : decode cX0_measureByRounds 88 = .ok (.goto (-53), 3) := by decide +kernel
theorem dX0_measureByRounds_91 : decode cX0_measureByRounds 91 = .ok (.return_, 1) := by decide +kernel
theorem dcX0_measureByRounds : yX0_measureByRounds.cls = RX0 ∧ yX0_measureByRounds.cls ≠ "java/lang/invoke/MethodHandle" ∧ yX0_measureByRounds.cls ≠ "java/lang/invoke/VarHandle" ∧ (parseMethodDescriptor yX0_measureByRounds.desc).map (fun d => d.parameters.length) = some 1 := by decide +kernel
theorem gX0_measureByRounds_63 : GoodIn wsL_law (wsV RX0 46 RX0 yX0_lengthen (.code yX0_lengthen cX0_lengthen 6 (some .boolean) :: wsL_law)) := g_V q463 q464 q465 q31 q466
set_option maxRecDepth 100000 in
set_option maxHeartbeats 4000000 in
theorem K_mr {cA : Nat → ClassId} {ad : tA} {ex : va_W} {M : tM} {r : Nat} {C0 : tP} (hr : isPlan r) (hne : r ≠ 15) (hoc : okc (M r)) : Cj yX0_measureByRounds cX0_measureByRounds 5 none (rmd 1) 0 0 cA ad [.ref (ad 15 0), .ref (ad r 0)] ex (m_pl M 15 C0) (Qe none ex (m_pl M 15 (f_mr (M r) C0))) := by
  refine c_of_r (lv0 := [some (.ref (ad 15 0)), some (.ref (ad r 0)), none, none, none]) rfl (by decide +kernel) (Nat.le_of_ble_eq_true rfl) rfl ?_
  have Li : ∀ (k n i : Nat) (b : Bool) (C : tP), i + n = cn (M r) → (Rj cX0_measureByRounds RX0 5 none (rmd 1) 0 0 cA ad (Qe none ex (m_pl M 15 (f_mr (M r) C0))) ex 0 0 85 [some (.ref (ad 15 0)), some (.ref (ad r 0)), some (.int (bI (lp_rnd (M r) n i b C).1)), some (.int (nI k)), none] [] (m_pl M 15 (lp_rnd (M r) n i b C).2)) → Rj cX0_measureByRounds RX0 5 none (rmd 1) 0 0 cA ad (Qe none ex (m_pl M 15 (f_mr (M r) C0))) ex 0 0 50 [some (.ref (ad 15 0)), some (.ref (ad r 0)), some (.int (bI b)), some (.int (nI k)), some (.int (nI i))] [] (m_pl M 15 C) := by
    intro k n
    induction n with
    | zero =>
      intro i b C h K
      refine r_iload dX0_measureByRounds_50 rfl ?_
      refine r_aload_n dX0_measureByRounds_52 rfl ?_
      refine r_getq_pl (by assumption) (by assumption) 1 (by decide) q446 rfl dX0_measureByRounds_53 ?_
      refine r_icmp_ge (tgt := 85) dX0_measureByRounds_56 (by decide) (fun c56 => ?_) (fun c56 => absurd (lp_z hoc.1 h) c56)
      refine r_fgt 4 ?_
      exact K
    | succ n ih =>
      intro i b C h K
      have hi : i < 12 := by have := hoc.2; omega
      refine r_iload dX0_measureByRounds_50 rfl ?_
      refine r_aload_n dX0_measureByRounds_52 rfl ?_
      refine r_getq_pl (by assumption) (by assumption) 1 (by decide) q446 rfl dX0_measureByRounds_53 ?_
      refine r_icmp_ge (tgt := 85) dX0_measureByRounds_56 (by decide) (fun c56 => absurd c56 (lp_s hoc.1 hoc.2 h)) (fun c56 => ?_)
      refine r_aload_n dX0_measureByRounds_59 rfl ?_
      refine r_aload_n dX0_measureByRounds_60 rfl ?_
      refine r_iload dX0_measureByRounds_61 rfl ?_
      refine r_cVi dX0_measureByRounds_63 (K_len (i := i) (by assumption) (by assumption) hi hoc) gX0_measureByRounds_63 dcX0_lengthen rfl rfl rfl (Nat.le_of_ble_eq_true rfl) ob_ch ?_
      refine r_if_ne (tgt := 73) dX0_measureByRounds_66 (by decide) (fun c66 => ?_) (fun c66 => ?_)
      · refine r_iconst (v := 1) dX0_measureByRounds_73 (by decide) ?_
        refine r_goto (tgt := 78) dX0_measureByRounds_74 (by decide) ?_
        refine r_istore_n dX0_measureByRounds_78 (by decide) rfl ?_
        refine r_iinc dX0_measureByRounds_79 rfl ii_s (by decide) rfl ?_
        refine r_goto (tgt := 50) dX0_measureByRounds_82 (by decide) ?_
        first | (rw [rnd_1 c66] at K; exact ih (i + 1) true _ (by omega) K) | (rw [rnd_2 c70] at K; exact ih (i + 1) true _ (by omega) K) | (rw [rnd_3 c66 c70] at K; exact ih (i + 1) false _ (by omega) K)
      · refine r_iload_n dX0_measureByRounds_69 rfl ?_
        refine r_if_eq (tgt := 77) dX0_measureByRounds_70 (by decide) (fun c70 => ?_) (fun c70 => ?_)
        · refine r_iconst (v := 0) dX0_measureByRounds_77 (by decide) ?_
          refine r_istore_n dX0_measureByRounds_78 (by decide) rfl ?_
          refine r_iinc dX0_measureByRounds_79 rfl ii_s (by decide) rfl ?_
          refine r_goto (tgt := 50) dX0_measureByRounds_82 (by decide) ?_
          first | (rw [rnd_1 c66] at K; exact ih (i + 1) true _ (by omega) K) | (rw [rnd_2 c70] at K; exact ih (i + 1) true _ (by omega) K) | (rw [rnd_3 c66 c70] at K; exact ih (i + 1) false _ (by omega) K)
        · refine r_iconst (v := 1) dX0_measureByRounds_73 (by decide) ?_
          refine r_goto (tgt := 78) dX0_measureByRounds_74 (by decide) ?_
          refine r_istore_n dX0_measureByRounds_78 (by decide) rfl ?_
          refine r_iinc dX0_measureByRounds_79 rfl ii_s (by decide) rfl ?_
          refine r_goto (tgt := 50) dX0_measureByRounds_82 (by decide) ?_
          first | (rw [rnd_1 c66] at K; exact ih (i + 1) true _ (by omega) K) | (rw [rnd_2 c70] at K; exact ih (i + 1) true _ (by omega) K) | (rw [rnd_3 c66 c70] at K; exact ih (i + 1) false _ (by omega) K)
  have Lo : ∀ (n k : Nat) (b : Bool) (C : tP), k + n = 13 → lp_rr (M r) n b C = f_mr (M r) C0 → Rj cX0_measureByRounds RX0 5 none (rmd 1) 0 0 cA ad (Qe none ex (m_pl M 15 (f_mr (M r) C0))) ex 0 0 35 [some (.ref (ad 15 0)), some (.ref (ad r 0)), some (.int (bI b)), some (.int (nI k)), none] [] (m_pl M 15 C) := by
    intro n
    induction n with
    | zero =>
      intro k b C h hC
      refine r_iload_n dX0_measureByRounds_35 rfl ?_
      refine r_if_eq (tgt := 91) dX0_measureByRounds_36 (by decide) (fun c36 => ?_) (fun c36 => ?_)
      · exact r_retv rfl dX0_measureByRounds_91 (by rw [← hC]; rfl)
      · refine r_iload_n dX0_measureByRounds_39 rfl ?_
        refine r_bipush (v := 12) dX0_measureByRounds_40 (by decide) ?_
        refine r_icmp_gt (tgt := 91) dX0_measureByRounds_42 (by decide) (fun c42 => ?_) (fun c42 => absurd (rr_0 h) c42)
        exact r_retv rfl dX0_measureByRounds_91 (by rw [← hC]; rfl)
    | succ n ih =>
      intro k b C h hC
      refine r_iload_n dX0_measureByRounds_35 rfl ?_
      refine r_if_eq (tgt := 91) dX0_measureByRounds_36 (by decide) (fun c36 => ?_) (fun c36 => ?_)
      · exact r_retv rfl dX0_measureByRounds_91 (by rw [← hC, rr_a c36])
      · refine r_iload_n dX0_measureByRounds_39 rfl ?_
        refine r_bipush (v := 12) dX0_measureByRounds_40 (by decide) ?_
        refine r_icmp_gt (tgt := 91) dX0_measureByRounds_42 (by decide) (fun c42 => absurd c42 (rr_s h)) (fun c42 => ?_)
        refine r_iconst (v := 0) dX0_measureByRounds_45 (by decide) ?_
        refine r_istore_n dX0_measureByRounds_46 (by decide) rfl ?_
        refine r_iconst (v := 0) dX0_measureByRounds_47 (by decide) ?_
        refine r_istore dX0_measureByRounds_48 (by decide) rfl ?_
        refine Li k (cn (M r)) 0 false C (by omega) ?_
        refine r_iinc dX0_measureByRounds_85 rfl ii_s (by decide) rfl ?_
        refine r_goto (tgt := 35) dX0_measureByRounds_88 (by decide) ?_
        exact ih (k + 1) _ _ (by omega) (by rw [← hC]; exact (rr_b c36).symm)
  have L1 : ∀ (n i : Nat) (C : tP), i + n = cn (M r) → lp_d0 (M r) n i C = lp_d0 (M r) (cn (M r)) 0 C0 → Rj cX0_measureByRounds RX0 5 none (rmd 1) 0 0 cA ad (Qe none ex (m_pl M 15 (f_mr (M r) C0))) ex 0 0 2 [some (.ref (ad 15 0)), some (.ref (ad r 0)), some (.int (nI i)), none, none] [] (m_pl M 15 C) := by
    intro n
    induction n with
    | zero =>
      intro i C h hC
      refine r_iload_n dX0_measureByRounds_2 rfl ?_
      refine r_aload_n dX0_measureByRounds_3 rfl ?_
      refine r_getq_pl (by assumption) (by assumption) 1 (by decide) q446 rfl dX0_measureByRounds_4 ?_
      refine r_icmp_ge (tgt := 31) dX0_measureByRounds_7 (by decide) (fun c7 => ?_) (fun c7 => absurd (lp_z hoc.1 h) c7)
      refine r_iconst (v := 1) dX0_measureByRounds_31 (by decide) ?_
      refine r_istore_n dX0_measureByRounds_32 (by decide) rfl ?_
      refine r_iconst (v := 0) dX0_measureByRounds_33 (by decide) ?_
      refine r_istore_n dX0_measureByRounds_34 (by decide) rfl ?_
      exact Lo 13 0 true C (by omega) (by rw [f_mr, ← hC]; rfl)
    | succ n ih =>
      intro i C h hC
      have hi : i < 12 := by have := hoc.2; omega
      refine r_iload_n dX0_measureByRounds_2 rfl ?_
      refine r_aload_n dX0_measureByRounds_3 rfl ?_
      refine r_getq_pl (by assumption) (by assumption) 1 (by decide) q446 rfl dX0_measureByRounds_4 ?_
      refine r_icmp_ge (tgt := 31) dX0_measureByRounds_7 (by decide) (fun c7 => absurd c7 (lp_s hoc.1 hoc.2 h)) (fun c7 => ?_)
      refine r_aload_n dX0_measureByRounds_10 rfl ?_
      refine r_get_ch 1 (by decide) q69 rfl dX0_measureByRounds_11 ?_
      refine r_iload_n dX0_measureByRounds_14 rfl ?_
      refine r_aload_n dX0_measureByRounds_15 rfl ?_
      refine r_getq_pl (by assumption) (by assumption) 0 (by decide) q450 rfl dX0_measureByRounds_16 ?_
      refine r_iload_n dX0_measureByRounds_19 rfl ?_
      refine r_ald_steps (by assumption) rfl (by omega) dX0_measureByRounds_20 ?_
      refine r_getq_st (by assumption) (by assumption) (by omega) 0 (by decide) q453 rfl dX0_measureByRounds_21 ?_
      refine r_strp_cr rfl (by omega) dX0_measureByRounds_24 ?_
      refine r_iinc dX0_measureByRounds_25 rfl ii_s (by decide) rfl ?_
      refine r_goto (tgt := 2) dX0_measureByRounds_28 (by decide) ?_
      exact ih (i + 1) _ (by omega) hC
  refine r_iconst (v := 0) dX0_measureByRounds_0 (by decide) ?_
  refine r_istore_n dX0_measureByRounds_1 (by decide) rfl ?_
  exact L1 (cn (M r)) 0 C0 (by omega) rfl
end
section
/-! PART 10: literals, the text of orders, the line: models and contracts -/
theorem c_int {x : Int32} : (Value.int x).category = 1 := rfl
theorem p_ans {q : Bool × tP} {b : Bool} {T : tP} (h : q = (b, T)) : bI b = bI q.1 := by rw [h]
theorem p_st {M : tM} {r : Nat} {q : Bool × tP} {b : Bool} {T : tP} (h : q = (b, T)) : m_pl M r T = m_pl M r q.2 := by rw [h]
def litc (i k : Nat) : Int32 := (bytS.getD i []).getD k 0 &&& 255
theorem dJ3_checkIndex_8e157_0 : decode cJ3_checkIndex_8e157 0 = .ok (.iload_n 0, 1) := by decide +kernel
theorem dJ3_checkIndex_8e157_1 : decode cJ3_checkIndex_8e157 1 = .ok (.ifCond .lt 8, 3) := by decide +kernel
theorem dJ3_checkIndex_8e157_4 : decode cJ3_checkIndex_8e157 4 = .ok (.iload_n 0, 1) := by decide +kernel
theorem dJ3_checkIndex_8e157_5 : decode cJ3_checkIndex_8e157 5 = .ok (.iload_n 1, 1) := by decide +kernel
theorem dJ3_checkIndex_8e157_6 : decode cJ3_checkIndex_8e157 6 = .ok (.if_icmp .lt 10, 3) := by decide +kernel
theorem dJ3_checkIndex_8e157_9 : decode cJ3_checkIndex_8e157 9 = .ok (.aload_n 2, 1) := by decide +kernel
theorem dJ3_checkIndex_8e157_10 : decode cJ3_checkIndex_8e157 10 = .ok (.iload_n 0, 1) := by decide +kernel
theorem dJ3_checkIndex_8e157_11 : decode cJ3_checkIndex_8e157 11 = .ok (.iload_n 1, 1) := by decide +kernel
theorem dJ3_checkIndex_8e157_12 : decode cJ3_checkIndex_8e157 12 = .ok (.invokestatic 95, 3) := by decide +kernel
theorem dJ3_checkIndex_8e157_15 : decode cJ3_checkIndex_8e157 15 = .ok (.athrow, 1) := by decide +kernel
theorem dJ3_checkIndex_8e157_16 : decode cJ3_checkIndex_8e157 16 = .ok (.iload_n 0, 1) := by decide +kernel
theorem dJ3_checkIndex_8e157_17 : decode cJ3_checkIndex_8e157 17 = .ok (.ireturn, 1) := by decide +kernel
theorem dcJ3_checkIndex_8e157 : yJ3_checkIndex_8e157.cls = RJ3 ∧ yJ3_checkIndex_8e157.cls ≠ "java/lang/invoke/MethodHandle" ∧ yJ3_checkIndex_8e157.cls ≠ "java/lang/invoke/VarHandle" ∧ (parseMethodDescriptor yJ3_checkIndex_8e157.desc).map (fun d => d.parameters.length) = some 3 := by decide +kernel
set_option maxRecDepth 100000 in
set_option maxHeartbeats 4000000 in
theorem K_ckx {cA : Nat → ClassId} {ad : tA} {ex : va_W} {M : tM} {k n : Nat} {v : Value} (hv : v.category = 1) (hk : k < n) (hn : n < 2 ^ 31) : Cj yJ3_checkIndex_8e157 cJ3_checkIndex_8e157 3 (some .int) (rmd 0) 0 0 cA ad [.int (nI k), .int (nI n), v] ex M (Qe (some (.int (nI k))) ex M) := by
  refine c_of_r (lv0 := [some (.int (nI k)), some (.int (nI n)), some v]) rfl (by decide +kernel) (by simp [lg_sl, hv, c_int]) rfl ?_
  refine r_iload_n dJ3_checkIndex_8e157_0 rfl ?_
  refine r_if_lt (tgt := 9) dJ3_checkIndex_8e157_1 (by decide) (fun c1 => absurd c1 (nI_pos (by omega))) (fun c1 => ?_)
  refine r_iload_n dJ3_checkIndex_8e157_4 rfl ?_
  refine r_iload_n dJ3_checkIndex_8e157_5 rfl ?_
  refine r_icmp_lt (tgt := 16) dJ3_checkIndex_8e157_6 (by decide) (fun c6 => ?_) (fun c6 => absurd (nI_lt (by omega) (by omega)) c6)
  refine r_iload_n dJ3_checkIndex_8e157_16 rfl ?_
  exact r_ret rfl rfl dJ3_checkIndex_8e157_17 rfl rfl
theorem dJ0_checkIndex_df160_0 : decode cJ0_checkIndex_df160 0 = .ok (.iload_n 0, 1) := by decide +kernel
theorem dJ0_checkIndex_df160_1 : decode cJ0_checkIndex_df160 1 = .ok (.iload_n 1, 1) := by decide +kernel
theorem dJ0_checkIndex_df160_2 : decode cJ0_checkIndex_df160 2 = .ok (.getstatic 1053, 3) := by decide +kernel
theorem dJ0_checkIndex_df160_5 : decode cJ0_checkIndex_df160 5 = .ok (.invokestatic 1059, 3) := by decide +kernel
theorem dJ0_checkIndex_df160_8 : decode cJ0_checkIndex_df160 8 = .ok (.pop, 1) := by decide +kernel
theorem dJ0_checkIndex_df160_9 : decode cJ0_checkIndex_df160 9 = .ok (.return_, 1) := by decide +kernel
theorem dcJ0_checkIndex_df160 : yJ0_checkIndex_df160.cls = RJ0 ∧ yJ0_checkIndex_df160.cls ≠ "java/lang/invoke/MethodHandle" ∧ yJ0_checkIndex_df160.cls ≠ "java/lang/invoke/VarHandle" ∧ (parseMethodDescriptor yJ0_checkIndex_df160.desc).map (fun d => d.parameters.length) = some 2 := by decide +kernel
theorem gJ0_checkIndex_df160_5 : gS RJ0 1059 yJ3_checkIndex_8e157 cJ3_checkIndex_8e157 3 (some .int) := ⟨q237, q238, q239, q240⟩
set_option maxRecDepth 100000 in
set_option maxHeartbeats 4000000 in
theorem K_ck0 {cA : Nat → ClassId} {ad : tA} {ex : va_W} {M : tM} {k n : Nat} (hk : k < n) (hn : n < 2 ^ 31) : Cj yJ0_checkIndex_df160 cJ0_checkIndex_df160 2 none (rmd 1) 0 0 cA ad [.int (nI k), .int (nI n)] ex M (Qe none ex M) := by
  refine c_of_r (lv0 := [some (.int (nI k)), some (.int (nI n))]) rfl (by decide +kernel) (Nat.le_of_ble_eq_true rfl) rfl ?_
  refine r_iload_n dJ0_checkIndex_df160_0 rfl ?_
  refine r_iload_n dJ0_checkIndex_df160_1 rfl ?_
  refine r_getsP q236 dJ0_checkIndex_df160_2 (fun vf hvf => ?_)
  refine r_cSi dJ0_checkIndex_df160_5 (K_ckx hvf hk hn) gJ0_checkIndex_df160_5 dcJ3_checkIndex_8e157 rfl rfl rfl (Nat.le_of_ble_eq_true rfl) ?_
  refine r_pop dJ0_checkIndex_df160_8 rfl ?_
  exact r_retv rfl dJ0_checkIndex_df160_9 rfl
theorem dJ0_coder_7d493_0 : decode cJ0_coder_7d493 0 = .ok (.getstatic 38, 3) := by decide +kernel
theorem dJ0_coder_7d493_3 : decode cJ0_coder_7d493 3 = .ok (.ifCond .eq 10, 3) := by decide +kernel
theorem dJ0_coder_7d493_6 : decode cJ0_coder_7d493 6 = .ok (.aload_n 0, 1) := by decide +kernel
theorem dJ0_coder_7d493_7 : decode cJ0_coder_7d493 7 = .ok (.getfield 15, 3) := by decide +kernel
theorem dJ0_coder_7d493_10 : decode cJ0_coder_7d493 10 = .ok (.goto 4, 3) := by decide +kernel
theorem dJ0_coder_7d493_13 : decode cJ0_coder_7d493 13 = .ok (.iconst 1, 1) := by decide +kernel
theorem dJ0_coder_7d493_14 : decode cJ0_coder_7d493 14 = .ok (.ireturn, 1) := by decide +kernel
theorem dcJ0_coder_7d493 : yJ0_coder_7d493.cls = RJ0 ∧ yJ0_coder_7d493.cls ≠ "java/lang/invoke/MethodHandle" ∧ yJ0_coder_7d493.cls ≠ "java/lang/invoke/VarHandle" ∧ (parseMethodDescriptor yJ0_coder_7d493.desc).map (fun d => d.parameters.length) = some 0 := by decide +kernel
set_option maxRecDepth 100000 in
set_option maxHeartbeats 4000000 in
theorem K_litCoder {cA : Nat → ClassId} {ad : tA} {ex : va_W} {M : tM} {i : Nat} (hi : i < 15) : Cj yJ0_coder_7d493 cJ0_coder_7d493 1 (some .byte) (rmd 0) 0 0 cA ad [.ref (ad 16 i)] ex M (Qe (some (.int 0)) ex M) := by
  refine c_of_r (lv0 := [some (.ref (ad 16 i))]) rfl (by decide +kernel) (Nat.le_of_ble_eq_true rfl) rfl ?_
  refine r_getsC q219 dJ0_coder_7d493_0 ?_
  refine r_if_eq (tgt := 13) dJ0_coder_7d493_3 (by decide) (fun c3 => absurd c3 (by decide)) (fun c3 => ?_)
  refine r_aload_n dJ0_coder_7d493_6 rfl ?_
  refine r_lit_coder (by omega) q220 dJ0_coder_7d493_7 ?_
  refine r_goto (tgt := 14) dJ0_coder_7d493_10 (by decide) ?_
  exact r_ret rfl rfl dJ0_coder_7d493_14 rfl rfl
theorem dJ0_isLatin1_aae02_0 : decode cJ0_isLatin1_aae02 0 = .ok (.getstatic 38, 3) := by decide +kernel
theorem dJ0_isLatin1_aae02_3 : decode cJ0_isLatin1_aae02 3 = .ok (.ifCond .eq 14, 3) := by decide +kernel
theorem dJ0_isLatin1_aae02_6 : decode cJ0_isLatin1_aae02 6 = .ok (.aload_n 0, 1) := by decide +kernel
theorem dJ0_isLatin1_aae02_7 : decode cJ0_isLatin1_aae02 7 = .ok (.getfield 15, 3) := by decide +kernel
theorem dJ0_isLatin1_aae02_10 : decode cJ0_isLatin1_aae02 10 = .ok (.ifCond .ne 7, 3) := by decide +kernel
theorem dJ0_isLatin1_aae02_13 : decode cJ0_isLatin1_aae02 13 = .ok (.iconst 1, 1) := by decide +kernel
theorem dJ0_isLatin1_aae02_14 : decode cJ0_isLatin1_aae02 14 = .ok (.goto 4, 3) := by decide +kernel
theorem dJ0_isLatin1_aae02_17 : decode cJ0_isLatin1_aae02 17 = .ok (.iconst 0, 1) := by decide +kernel
theorem dJ0_isLatin1_aae02_18 : decode cJ0_isLatin1_aae02 18 = .ok (.ireturn, 1) := by decide +kernel
theorem dcJ0_isLatin1_aae02 : yJ0_isLatin1_aae02.cls = RJ0 ∧ yJ0_isLatin1_aae02.cls ≠ "java/lang/invoke/MethodHandle" ∧ yJ0_isLatin1_aae02.cls ≠ "java/lang/invoke/VarHandle" ∧ (parseMethodDescriptor yJ0_isLatin1_aae02.desc).map (fun d => d.parameters.length) = some 0 := by decide +kernel
set_option maxRecDepth 100000 in
set_option maxHeartbeats 4000000 in
theorem K_litLatin {cA : Nat → ClassId} {ad : tA} {ex : va_W} {M : tM} {i : Nat} (hi : i < 15) : Cj yJ0_isLatin1_aae02 cJ0_isLatin1_aae02 1 (some .boolean) (rmd 0) 0 0 cA ad [.ref (ad 16 i)] ex M (Qe (some (.int 1)) ex M) := by
  refine c_of_r (lv0 := [some (.ref (ad 16 i))]) rfl (by decide +kernel) (Nat.le_of_ble_eq_true rfl) rfl ?_
  refine r_getsC q219 dJ0_isLatin1_aae02_0 ?_
  refine r_if_eq (tgt := 17) dJ0_isLatin1_aae02_3 (by decide) (fun c3 => absurd c3 (by decide)) (fun c3 => ?_)
  refine r_aload_n dJ0_isLatin1_aae02_6 rfl ?_
  refine r_lit_coder (by omega) q220 dJ0_isLatin1_aae02_7 ?_
  refine r_if_ne (tgt := 17) dJ0_isLatin1_aae02_10 (by decide) (fun c10 => absurd rfl c10) (fun c10 => ?_)
  refine r_iconst (v := 1) dJ0_isLatin1_aae02_13 (by decide) ?_
  refine r_goto (tgt := 18) dJ0_isLatin1_aae02_14 (by decide) ?_
  exact r_ret rfl rfl dJ0_isLatin1_aae02_18 rfl rfl
theorem dJ0_length_8abf5_0 : decode cJ0_length_8abf5 0 = .ok (.aload_n 0, 1) := by decide +kernel
theorem dJ0_length_8abf5_1 : decode cJ0_length_8abf5 1 = .ok (.getfield 9, 3) := by decide +kernel
theorem dJ0_length_8abf5_4 : decode cJ0_length_8abf5 4 = .ok (.arraylength, 1) := by decide +kernel
theorem dJ0_length_8abf5_5 : decode cJ0_length_8abf5 5 = .ok (.aload_n 0, 1) := by decide +kernel
theorem dJ0_length_8abf5_6 : decode cJ0_length_8abf5 6 = .ok (.invokevirtual 335, 3) := by decide +kernel
theorem dJ0_length_8abf5_9 : decode cJ0_length_8abf5 9 = .ok (.ishr, 1) := by decide +kernel
theorem dJ0_length_8abf5_10 : decode cJ0_length_8abf5 10 = .ok (.ireturn, 1) := by decide +kernel
theorem dcJ0_length_8abf5 : yJ0_length_8abf5.cls = RJ0 ∧ yJ0_length_8abf5.cls ≠ "java/lang/invoke/MethodHandle" ∧ yJ0_length_8abf5.cls ≠ "java/lang/invoke/VarHandle" ∧ (parseMethodDescriptor yJ0_length_8abf5.desc).map (fun d => d.parameters.length) = some 0 := by decide +kernel
theorem gJ0_length_8abf5_6 : GoodIn wsL_law (wsV RJ0 335 RJ0 yJ0_coder_7d493 (.code yJ0_coder_7d493 cJ0_coder_7d493 1 (some .byte) :: wsL_law)) := g_V q215 q216 q217 q212 q218
set_option maxRecDepth 100000 in
set_option maxHeartbeats 4000000 in
theorem K_litLen {cA : Nat → ClassId} {ad : tA} {ex : va_W} {M : tM} {i : Nat} (hi : i < 15) : Cj yJ0_length_8abf5 cJ0_length_8abf5 1 (some .int) (rmd 1) 0 0 cA ad [.ref (ad 16 i)] ex M (Qe (some (.int (nI (lenS.getD i 0)))) ex M) := by
  refine c_of_r (lv0 := [some (.ref (ad 16 i))]) rfl (by decide +kernel) (Nat.le_of_ble_eq_true rfl) rfl ?_
  refine r_aload_n dJ0_length_8abf5_0 rfl ?_
  refine r_lit_value (by omega) q214 dJ0_length_8abf5_1 ?_
  refine r_lit_len (by omega) dJ0_length_8abf5_4 ?_
  refine r_aload_n dJ0_length_8abf5_5 rfl ?_
  refine r_cVi dJ0_length_8abf5_6 (K_litCoder hi) gJ0_length_8abf5_6 dcJ0_coder_7d493 rfl rfl rfl (Nat.le_of_ble_eq_true rfl) (rc_lit (by omega)) ?_
  refine r_ishr dJ0_length_8abf5_9 ?_
  exact r_ret rfl rfl dJ0_length_8abf5_10 (sc_shr0 (by have := lenS_le i; omega)) rfl
theorem dJ1_charAt_3b067_0 : decode cJ1_charAt_3b067 0 = .ok (.iload_n 1, 1) := by decide +kernel
theorem dJ1_charAt_3b067_1 : decode cJ1_charAt_3b067 1 = .ok (.aload_n 0, 1) := by decide +kernel
theorem dJ1_charAt_3b067_2 : decode cJ1_charAt_3b067 2 = .ok (.arraylength, 1) := by decide +kernel
theorem dJ1_charAt_3b067_3 : decode cJ1_charAt_3b067 3 = .ok (.invokestatic 9, 3) := by decide +kernel
theorem dJ1_charAt_3b067_6 : decode cJ1_charAt_3b067 6 = .ok (.aload_n 0, 1) := by decide +kernel
theorem dJ1_charAt_3b067_7 : decode cJ1_charAt_3b067 7 = .ok (.iload_n 1, 1) := by decide +kernel
theorem dJ1_charAt_3b067_8 : decode cJ1_charAt_3b067 8 = .ok (.baload, 1) := by decide +kernel
theorem dJ1_charAt_3b067_9 : decode cJ1_charAt_3b067 9 = .ok (.sipush 255, 3) := by decide +kernel
theorem dJ1_charAt_3b067_12 : decode cJ1_charAt_3b067 12 = .ok (.iand, 1) := by decide +kernel
theorem dJ1_charAt_3b067_13 : decode cJ1_charAt_3b067 13 = .ok (.i2c, 1) := by decide +kernel
theorem dJ1_charAt_3b067_14 : decode cJ1_charAt_3b067 14 = .ok (.ireturn, 1) := by decide +kernel
theorem dcJ1_charAt_3b067 : yJ1_charAt_3b067.cls = RJ1 ∧ yJ1_charAt_3b067.cls ≠ "java/lang/invoke/MethodHandle" ∧ yJ1_charAt_3b067.cls ≠ "java/lang/invoke/VarHandle" ∧ (parseMethodDescriptor yJ1_charAt_3b067.desc).map (fun d => d.parameters.length) = some 2 := by decide +kernel
theorem gJ1_charAt_3b067_3 : gS RJ1 9 yJ0_checkIndex_df160 cJ0_checkIndex_df160 2 none := ⟨q233, q234, q212, q235⟩
set_option maxRecDepth 100000 in
set_option maxHeartbeats 4000000 in
theorem K_litJ1 {cA : Nat → ClassId} {ad : tA} {ex : va_W} {M : tM} {i k : Nat} (hi : i < 15) (hk : k < lenS.getD i 0) : Cj yJ1_charAt_3b067 cJ1_charAt_3b067 2 (some .char) (rmd 2) 0 0 cA ad [.ref (ad 17 i), .int (nI k)] ex M (Qe (some (.int (litc i k))) ex M) := by
  refine c_of_r (lv0 := [some (.ref (ad 17 i)), some (.int (nI k))]) rfl (by decide +kernel) (Nat.le_of_ble_eq_true rfl) rfl ?_
  refine r_iload_n dJ1_charAt_3b067_0 rfl ?_
  refine r_aload_n dJ1_charAt_3b067_1 rfl ?_
  refine r_lit_len (by omega) dJ1_charAt_3b067_2 ?_
  refine r_cSv dJ1_charAt_3b067_3 (K_ck0 hk (by have := lenS_le i; omega)) gJ1_charAt_3b067_3 dcJ0_checkIndex_df160 rfl rfl rfl (Nat.le_of_ble_eq_true rfl) ?_
  refine r_aload_n dJ1_charAt_3b067_6 rfl ?_
  refine r_iload_n dJ1_charAt_3b067_7 rfl ?_
  refine r_lit_ld (by omega) rfl hk dJ1_charAt_3b067_8 ?_
  refine r_sipush (v := 255) dJ1_charAt_3b067_9 (by decide) ?_
  refine r_iand dJ1_charAt_3b067_12 ?_
  refine r_i2c dJ1_charAt_3b067_13 rfl ?_
  exact r_ret rfl (by rw [sc_c2]; exact sc_nar _) dJ1_charAt_3b067_14 (sc_c2 _) rfl
theorem dJ0_charAt_5068e_0 : decode cJ0_charAt_5068e 0 = .ok (.aload_n 0, 1) := by decide +kernel
theorem dJ0_charAt_5068e_1 : decode cJ0_charAt_5068e 1 = .ok (.invokevirtual 492, 3) := by decide +kernel
theorem dJ0_charAt_5068e_4 : decode cJ0_charAt_5068e 4 = .ok (.ifCond .eq 12, 3) := by decide +kernel
theorem dJ0_charAt_5068e_7 : decode cJ0_charAt_5068e 7 = .ok (.aload_n 0, 1) := by decide +kernel
theorem dJ0_charAt_5068e_8 : decode cJ0_charAt_5068e 8 = .ok (.getfield 9, 3) := by decide +kernel
theorem dJ0_charAt_5068e_11 : decode cJ0_charAt_5068e 11 = .ok (.iload_n 1, 1) := by decide +kernel
theorem dJ0_charAt_5068e_12 : decode cJ0_charAt_5068e 12 = .ok (.invokestatic 495, 3) := by decide +kernel
theorem dJ0_charAt_5068e_15 : decode cJ0_charAt_5068e 15 = .ok (.ireturn, 1) := by decide +kernel
theorem dJ0_charAt_5068e_16 : decode cJ0_charAt_5068e 16 = .ok (.aload_n 0, 1) := by decide +kernel
theorem dJ0_charAt_5068e_17 : decode cJ0_charAt_5068e 17 = .ok (.getfield 9, 3) := by decide +kernel
theorem dJ0_charAt_5068e_20 : decode cJ0_charAt_5068e 20 = .ok (.iload_n 1, 1) := by decide +kernel
theorem dJ0_charAt_5068e_21 : decode cJ0_charAt_5068e 21 = .ok (.invokestatic 498, 3) := by decide +kernel
theorem dJ0_charAt_5068e_24 : decode cJ0_charAt_5068e 24 = .ok (.ireturn, 1) := by decide +kernel
theorem dcJ0_charAt_5068e : yJ0_charAt_5068e.cls = RJ0 ∧ yJ0_charAt_5068e.cls ≠ "java/lang/invoke/MethodHandle" ∧ yJ0_charAt_5068e.cls ≠ "java/lang/invoke/VarHandle" ∧ (parseMethodDescriptor yJ0_charAt_5068e.desc).map (fun d => d.parameters.length) = some 1 := by decide +kernel
theorem gJ0_charAt_5068e_1 : GoodIn wsL_law (wsV RJ0 492 RJ0 yJ0_isLatin1_aae02 (.code yJ0_isLatin1_aae02 cJ0_isLatin1_aae02 1 (some .boolean) :: wsL_law)) := g_V q225 q226 q227 q212 q228
theorem gJ0_charAt_5068e_12 : gS RJ0 495 yJ1_charAt_3b067 cJ1_charAt_3b067 2 (some .char) := ⟨q229, q230, q231, q232⟩
set_option maxRecDepth 100000 in
set_option maxHeartbeats 4000000 in
theorem K_litChar {cA : Nat → ClassId} {ad : tA} {ex : va_W} {M : tM} {i k : Nat} (hi : i < 15) (hk : k < lenS.getD i 0) : Cj yJ0_charAt_5068e cJ0_charAt_5068e 2 (some .char) (rmd 3) 0 0 cA ad [.ref (ad 16 i), .int (nI k)] ex M (Qe (some (.int (litc i k))) ex M) := by
  refine c_of_r (lv0 := [some (.ref (ad 16 i)), some (.int (nI k))]) rfl (by decide +kernel) (Nat.le_of_ble_eq_true rfl) rfl ?_
  refine r_aload_n dJ0_charAt_5068e_0 rfl ?_
  refine r_cVi dJ0_charAt_5068e_1 (K_litLatin hi) gJ0_charAt_5068e_1 dcJ0_isLatin1_aae02 rfl rfl rfl (Nat.le_of_ble_eq_true rfl) (rc_lit (by omega)) ?_
  refine r_if_eq (tgt := 16) dJ0_charAt_5068e_4 (by decide) (fun c4 => absurd c4 (by decide)) (fun c4 => ?_)
  refine r_aload_n dJ0_charAt_5068e_7 rfl ?_
  refine r_lit_value (by omega) q214 dJ0_charAt_5068e_8 ?_
  refine r_iload_n dJ0_charAt_5068e_11 rfl ?_
  refine r_cSi dJ0_charAt_5068e_12 (K_litJ1 hi hk) gJ0_charAt_5068e_12 dcJ1_charAt_3b067 rfl rfl rfl (Nat.le_of_ble_eq_true rfl) ?_
  exact r_ret rfl (sc_nar _) dJ0_charAt_5068e_15 rfl rfl
def ta (T : tP) : Nat := (T 0 2).toNatClampNeg
def tl (T : tP) : Nat := (T 0 1).toNatClampNeg
def okt (T : tP) : Prop := T 0 2 = nI (ta T) ∧ ta T ≤ 60 ∧ T 0 1 = nI (tl T) ∧ tl T ≤ 60
def okx (x : Int32) : Prop := ∃ q : Nat, q < 65536 ∧ x = nI q
def oks (T : tP) : Prop := ∀ i, i < 60 → okx (T 1 i)
theorem okx_nar {x : Int32} (h : okx x) : narrow .char (.int x) = .int x := by obtain ⟨q, h1, rfl⟩ := h; exact (pk_charN h1).1
theorem okx_fit {x : Int32} (h : okx x) : fits .char (.int x) = true := by obtain ⟨q, h1, rfl⟩ := h; exact (pk_charN h1).2
theorem okx_vp {x : Int32} (h : okx x) : vp_nar .char x = x := by unfold vp_nar; rw [okx_nar h]
theorem okt_of {T : tP} {a l : Nat} (h1 : T 0 2 = nI a) (h2 : a ≤ 60) (h3 : T 0 1 = nI l) (h4 : l ≤ 60) : okt T := by
  have e1 : ta T = a := by rw [ta, h1]; exact nI_clamp (by omega)
  have e2 : tl T = l := by rw [tl, h3]; exact nI_clamp (by omega)
  exact ⟨by rw [e1]; exact h1, by rw [e1]; exact h2, by rw [e2]; exact h3, by rw [e2]; exact h4⟩
theorem okt_lt {T : tP} (h : okt T) (h2 : ¬ T 0 1 ≤ T 0 2) : ta T < tl T ∧ ta T < 60 := by
  obtain ⟨a, b, c, d⟩ := h
  rw [a, c] at h2
  have : ¬ tl T ≤ ta T := fun e => h2 (nI_le e (by omega))
  omega
def kt (T T' : tP) : Prop := T' 0 1 = T 0 1 ∧ T' 1 = T 1 ∧ (okt T → okt T') ∧ T' 0 4 = T 0 4
theorem kt_rfl {T : tP} : kt T T := ⟨rfl, rfl, fun h => h, rfl⟩
theorem kt_tr {T T' T'' : tP} (h : kt T T') (h2 : kt T' T'') : kt T T'' := ⟨h2.1.trans h.1, h2.2.1.trans h.2.1, fun o => h2.2.2.1 (h.2.2.1 o), h2.2.2.2.trans h.2.2.2⟩
theorem kt_or {T : tP} {k f : Nat} {x : Int32} : kt T (pu T (3 + k) f x) := ⟨pu_j (by omega), pu_jj (by omega), fun h => okt_of (T := pu T (3 + k) f x) ((pu_j (by omega)).trans h.1) h.2.1 ((pu_j (by omega)).trans h.2.2.1) h.2.2.2, pu_j (by omega)⟩
theorem kt_at {T : tP} (h2 : ¬ T 0 1 ≤ T 0 2) : kt T (pu T 0 2 (T 0 2 + 1)) := ⟨pu_k (by omega), pu_jj (by omega), fun h => okt_of (T := pu T 0 2 (T 0 2 + 1)) (a := ta T + 1) (by rw [pu_s, h.1]; exact nI_1 _) (by have := okt_lt h h2; omega) ((pu_k (by omega)).trans h.2.2.1) h.2.2.2, pu_k (by omega)⟩
theorem kt_s {T T' : tP} (h : kt T T') (o : oks T) : oks T' := fun i hi => by rw [h.2.1]; exact o i hi
def f_ts (T : tP) (c : Int32) : Bool × tP := if T 0 1 ≤ T 0 2 then (false, T) else if T 1 (ta T) = c then (true, pu T 0 2 (T 0 2 + 1)) else (false, T)
theorem kt_ts {T : tP} {c : Int32} : kt T (f_ts T c).2 := by
  unfold f_ts
  split
  · exact kt_rfl
  · split
    · exact kt_at (by assumption)
    · exact kt_rfl
theorem ts_a {T : tP} {c : Int32} (h : T 0 1 ≤ T 0 2) : f_ts T c = (false, T) := if_pos h
theorem ts_b {T : tP} {c : Int32} (h : ¬ T 0 1 ≤ T 0 2) (h2 : ¬ T 1 (ta T) = c) : f_ts T c = (false, T) := (if_neg h).trans (if_neg h2)
theorem ts_c {T : tP} {c : Int32} (h : ¬ T 0 1 ≤ T 0 2) (h2 : T 1 (ta T) = c) : f_ts T c = (true, pu T 0 2 (T 0 2 + 1)) := (if_neg h).trans (if_pos h2)
theorem dX3_takeSign_0 : decode cX3_takeSign 0 = .ok (.aload_n 0, 1) := by decide +kernel
theorem dX3_takeSign_1 : decode cX3_takeSign 1 = .ok (.getfield 26, 3) := by decide +kernel
theorem dX3_takeSign_4 : decode cX3_takeSign 4 = .ok (.aload_n 0, 1) := by decide +kernel
theorem dX3_takeSign_5 : decode cX3_takeSign 5 = .ok (.getfield 22, 3) := by decide +kernel
theorem dX3_takeSign_8 : decode cX3_takeSign 8 = .ok (.if_icmp .ge 16, 3) := by decide +kernel
theorem dX3_takeSign_11 : decode cX3_takeSign 11 = .ok (.aload_n 0, 1) := by decide +kernel
theorem dX3_takeSign_12 : decode cX3_takeSign 12 = .ok (.getfield 9, 3) := by decide +kernel
theorem dX3_takeSign_15 : decode cX3_takeSign 15 = .ok (.aload_n 0, 1) := by decide +kernel
theorem dX3_takeSign_16 : decode cX3_takeSign 16 = .ok (.getfield 26, 3) := by decide +kernel
theorem dX3_takeSign_19 : decode cX3_takeSign 19 = .ok (.caload, 1) := by decide +kernel
theorem dX3_takeSign_20 : decode cX3_takeSign 20 = .ok (.iload_n 1, 1) := by decide +kernel
theorem dX3_takeSign_21 : decode cX3_takeSign 21 = .ok (.if_icmp .eq 5, 3) := by decide +kernel
theorem dX3_takeSign_24 : decode cX3_takeSign 24 = .ok (.iconst 0, 1) := by decide +kernel
theorem dX3_takeSign_25 : decode cX3_takeSign 25 = .ok (.ireturn, 1) := by decide +kernel
theorem dX3_takeSign_26 : decode cX3_takeSign 26 = .ok (.aload_n 0, 1) := by decide +kernel
theorem dX3_takeSign_27 : decode cX3_takeSign 27 = .ok (.dup, 1) := by decide +kernel
theorem dX3_takeSign_28 : decode cX3_takeSign 28 = .ok (.getfield 26, 3) := by decide +kernel
theorem dX3_takeSign_31 : decode cX3_takeSign 31 = .ok (.iconst 1, 1) := by decide +kernel
theorem dX3_takeSign_32 : decode cX3_takeSign 32 = .ok (.iadd, 1) := by decide +kernel
theorem dX3_takeSign_33 : decode cX3_takeSign 33 = .ok (.putfield 26, 3) := by decide +kernel
theorem dX3_takeSign_36 : decode cX3_takeSign 36 = .ok (.iconst 1, 1) := by decide +kernel
theorem dX3_takeSign_37 : decode cX3_takeSign 37 = .ok (.ireturn, 1) := by decide +kernel
theorem dcX3_takeSign : yX3_takeSign.cls = RX3 ∧ yX3_takeSign.cls ≠ "java/lang/invoke/MethodHandle" ∧ yX3_takeSign.cls ≠ "java/lang/invoke/VarHandle" ∧ (parseMethodDescriptor yX3_takeSign.desc).map (fun d => d.parameters.length) = some 1 := by decide +kernel
set_option maxRecDepth 100000 in
set_option maxHeartbeats 4000000 in
theorem K_ts {cA : Nat → ClassId} {ad : tA} {ex : va_W} {M : tM} {T : tP} {c : Int32} (ho : okt T) : Cj yX3_takeSign cX3_takeSign 2 (some .boolean) (rmd 0) 0 0 cA ad [.ref (ad 13 0), .int c] ex (m_pl M 13 T) (Qe (some (.int (bI (f_ts T c).1))) ex (m_pl M 13 (f_ts T c).2)) := by
  refine c_of_r (lv0 := [some (.ref (ad 13 0)), some (.int c)]) rfl (by decide +kernel) (Nat.le_of_ble_eq_true rfl) rfl ?_
  refine r_aload_n dX3_takeSign_0 rfl ?_
  refine r_getp_ot 2 (by decide) q186 rfl dX3_takeSign_1 ?_
  refine r_aload_n dX3_takeSign_4 rfl ?_
  refine r_getp_ot 1 (by decide) q148 rfl dX3_takeSign_5 ?_
  refine r_icmp_ge (tgt := 24) dX3_takeSign_8 (by decide) (fun c8 => ?_) (fun c8 => ?_)
  · refine r_iconst (v := 0) dX3_takeSign_24 (by decide) ?_
    first | exact r_ret rfl rfl dX3_takeSign_25 (p_ans (ts_a c8)) (p_st (ts_a c8)) | exact r_ret rfl rfl dX3_takeSign_25 (p_ans (ts_b c8 c21)) (p_st (ts_b c8 c21))
  · refine r_aload_n dX3_takeSign_11 rfl ?_
    refine r_getp_ot 0 (by decide) q53 rfl dX3_takeSign_12 ?_
    refine r_aload_n dX3_takeSign_15 rfl ?_
    refine r_getp_ot 2 (by decide) q186 rfl dX3_takeSign_16 ?_
    refine r_ldp_os ho.1 (okt_lt ho c8).2 dX3_takeSign_19 ?_
    refine r_iload_n dX3_takeSign_20 rfl ?_
    refine r_icmp_eq (tgt := 26) dX3_takeSign_21 (by decide) (fun c21 => ?_) (fun c21 => ?_)
    · refine r_aload_n dX3_takeSign_26 rfl ?_
      refine r_dup dX3_takeSign_27 rfl ?_
      refine r_getp_ot 2 (by decide) q186 rfl dX3_takeSign_28 ?_
      refine r_iconst (v := 1) dX3_takeSign_31 (by decide) ?_
      refine r_iadd dX3_takeSign_32 ?_
      refine r_putp_ot 2 (by decide) q186 rfl rfl rfl rfl rfl dX3_takeSign_33 ?_
      refine r_iconst (v := 1) dX3_takeSign_36 (by decide) ?_
      exact r_ret rfl rfl dX3_takeSign_37 (p_ans (ts_c c8 c21)) (p_st (ts_c c8 c21))
    · refine r_iconst (v := 0) dX3_takeSign_24 (by decide) ?_
      first | exact r_ret rfl rfl dX3_takeSign_25 (p_ans (ts_a c8)) (p_st (ts_a c8)) | exact r_ret rfl rfl dX3_takeSign_25 (p_ans (ts_b c8 c21)) (p_st (ts_b c8 c21))
def lp_tw (i : Nat) : Nat → Nat → tP → Bool × tP
  | 0, _, T => (true, T)
  | n + 1, k, T => if (f_ts T (litc i k)).1 then lp_tw i n (k + 1) (f_ts T (litc i k)).2 else (false, (f_ts T (litc i k)).2)
def f_tw (T : tP) (i : Nat) : Bool × tP := lp_tw i (lenS.getD i 0) 0 T
theorem kt_ltw {i : Nat} : ∀ (n k : Nat) (T : tP), kt T (lp_tw i n k T).2 := by
  intro n
  induction n with
  | zero => intro k T; exact kt_rfl
  | succ n ih =>
    intro k T
    rw [lp_tw]
    split
    · exact kt_tr kt_ts (ih _ _)
    · exact kt_ts
theorem tw_a {i n k : Nat} {T : tP} (h : bI (f_ts T (litc i k)).1 = 0) : lp_tw i (n + 1) k T = (false, (f_ts T (litc i k)).2) := by rw [lp_tw, bI_0 h]; rfl
theorem tw_b {i n k : Nat} {T : tP} (h : ¬ bI (f_ts T (litc i k)).1 = 0) : lp_tw i (n + 1) k T = lp_tw i n (k + 1) (f_ts T (litc i k)).2 := by rw [lp_tw, bI_1 h, if_pos rfl]
theorem lq_z {x : Int32} {c i : Nat} (hx : x = nI c) (h : i + 0 = c) : x ≤ nI i := lp_z hx h
theorem lq_s {x : Int32} {c i n : Nat} (hx : x = nI c) (hc : c < 2 ^ 31) (h : i + (n + 1) = c) : ¬ x ≤ nI i := by subst hx; exact nI_ge (by omega) hc
theorem dX3_takeWord_0 : decode cX3_takeWord 0 = .ok (.iconst 0, 1) := by decide +kernel
theorem dX3_takeWord_1 : decode cX3_takeWord 1 = .ok (.istore_n 2, 1) := by decide +kernel
theorem dX3_takeWord_2 : decode cX3_takeWord 2 = .ok (.iload_n 2, 1) := by decide +kernel
theorem dX3_takeWord_3 : decode cX3_takeWord 3 = .ok (.aload_n 1, 1) := by decide +kernel
theorem dX3_takeWord_4 : decode cX3_takeWord 4 = .ok (.invokevirtual 90, 3) := by decide +kernel
theorem dX3_takeWord_7 : decode cX3_takeWord 7 = .ok (.if_icmp .ge 23, 3) := by decide +kernel
theorem dX3_takeWord_10 : decode cX3_takeWord 10 = .ok (.aload_n 0, 1) := by decide +kernel
theorem dX3_takeWord_11 : decode cX3_takeWord 11 = .ok (.aload_n 1, 1) := by decide +kernel
theorem dX3_takeWord_12 : decode cX3_takeWord 12 = .ok (.iload_n 2, 1) := by decide +kernel
theorem dX3_takeWord_13 : decode cX3_takeWord 13 = .ok (.invokevirtual 95, 3) := by decide +kernel
theorem dX3_takeWord_16 : decode cX3_takeWord 16 = .ok (.invokevirtual 36, 3) := by decide +kernel
theorem dX3_takeWord_19 : decode cX3_takeWord 19 = .ok (.ifCond .ne 5, 3) := by decide +kernel
theorem dX3_takeWord_22 : decode cX3_takeWord 22 = .ok (.iconst 0, 1) := by decide +kernel
theorem dX3_takeWord_23 : decode cX3_takeWord 23 = .ok (.ireturn, 1) := by decide +kernel
theorem dX3_takeWord_24 : decode cX3_takeWord 24 = .ok (.iinc 2 1, 3) := by decide +kernel
theorem dX3_takeWord_27 : decode cX3_takeWord 27 = .ok (.goto (-25), 3) := by decide +kernel
theorem dX3_takeWord_30 : decode cX3_takeWord 30 = .ok (.iconst 1, 1) := by decide +kernel
theorem dX3_takeWord_31 : decode cX3_takeWord 31 = .ok (.ireturn, 1) := by decide +kernel
theorem dcX3_takeWord : yX3_takeWord.cls = RX3 ∧ yX3_takeWord.cls ≠ "java/lang/invoke/MethodHandle" ∧ yX3_takeWord.cls ≠ "java/lang/invoke/VarHandle" ∧ (parseMethodDescriptor yX3_takeWord.desc).map (fun d => d.parameters.length) = some 1 := by decide +kernel
theorem gX3_takeWord_4 : GoodIn wsL_law (wsV RX3 90 RJ0 yJ0_length_8abf5 (.code yJ0_length_8abf5 cJ0_length_8abf5 1 (some .int) :: wsL_law)) := g_V q209 q210 q211 q212 q213
theorem gX3_takeWord_13 : GoodIn wsL_law (wsV RX3 95 RJ0 yJ0_charAt_5068e (.code yJ0_charAt_5068e cJ0_charAt_5068e 2 (some .char) :: wsL_law)) := g_V q221 q222 q223 q212 q224
theorem gX3_takeWord_16 : GoodIn wsL_law (wsV RX3 36 RX3 yX3_takeSign (.code yX3_takeSign cX3_takeSign 2 (some .boolean) :: wsL_law)) := g_V q258 q259 q260 q23 q261
set_option maxRecDepth 100000 in
set_option maxHeartbeats 4000000 in
theorem K_tw {cA : Nat → ClassId} {ad : tA} {ex : va_W} {M : tM} {T0 : tP} {i : Nat} (hi : i < 15) (ho : okt T0) : Cj yX3_takeWord cX3_takeWord 3 (some .boolean) (rmd 4) 0 0 cA ad [.ref (ad 13 0), .ref (ad 16 i)] ex (m_pl M 13 T0) (Qe (some (.int (bI (f_tw T0 i).1))) ex (m_pl M 13 (f_tw T0 i).2)) := by
  refine c_of_r (lv0 := [some (.ref (ad 13 0)), some (.ref (ad 16 i)), none]) rfl (by decide +kernel) (Nat.le_of_ble_eq_true rfl) rfl ?_
  have hl := lenS_le i
  have L : ∀ (n k : Nat) (T : tP), k + n = lenS.getD i 0 → okt T → lp_tw i n k T = f_tw T0 i → Rj cX3_takeWord RX3 3 (some .boolean) (rmd 4) 0 0 cA ad (Qe (some (.int (bI (f_tw T0 i).1))) ex (m_pl M 13 (f_tw T0 i).2)) ex 0 0 2 [some (.ref (ad 13 0)), some (.ref (ad 16 i)), some (.int (nI k))] [] (m_pl M 13 T) := by
    intro n
    induction n with
    | zero =>
      intro k T h ho hT
      refine r_iload_n dX3_takeWord_2 rfl ?_
      refine r_aload_n dX3_takeWord_3 rfl ?_
      refine r_cVi dX3_takeWord_4 (K_litLen hi) gX3_takeWord_4 dcJ0_length_8abf5 rfl rfl rfl (Nat.le_of_ble_eq_true rfl) (rc_lit (by omega)) ?_
      refine r_icmp_ge (tgt := 30) dX3_takeWord_7 (by decide) (fun c7 => ?_) (fun c7 => absurd (lq_z rfl h) c7)
      refine r_iconst (v := 1) dX3_takeWord_30 (by decide) ?_
      exact r_ret rfl rfl dX3_takeWord_31 (by rw [← hT]; rfl) (by rw [← hT]; rfl)
    | succ n ih =>
      intro k T h ho hT
      refine r_iload_n dX3_takeWord_2 rfl ?_
      refine r_aload_n dX3_takeWord_3 rfl ?_
      refine r_cVi dX3_takeWord_4 (K_litLen hi) gX3_takeWord_4 dcJ0_length_8abf5 rfl rfl rfl (Nat.le_of_ble_eq_true rfl) (rc_lit (by omega)) ?_
      refine r_icmp_ge (tgt := 30) dX3_takeWord_7 (by decide) (fun c7 => absurd c7 (lq_s rfl (by omega) h)) (fun c7 => ?_)
      refine r_aload_n dX3_takeWord_10 rfl ?_
      refine r_aload_n dX3_takeWord_11 rfl ?_
      refine r_iload_n dX3_takeWord_12 rfl ?_
      refine r_cVi dX3_takeWord_13 (K_litChar hi (by omega)) gX3_takeWord_13 dcJ0_charAt_5068e rfl rfl rfl (Nat.le_of_ble_eq_true rfl) (rc_lit (by omega)) ?_
      refine r_cVi dX3_takeWord_16 (K_ts ho) gX3_takeWord_16 dcX3_takeSign rfl rfl rfl (Nat.le_of_ble_eq_true rfl) ob_ot ?_
      refine r_if_ne (tgt := 24) dX3_takeWord_19 (by decide) (fun c19 => ?_) (fun c19 => ?_)
      · refine r_iinc dX3_takeWord_24 rfl ii_s (by decide) rfl ?_
        refine r_goto (tgt := 2) dX3_takeWord_27 (by decide) ?_
        exact ih (k + 1) _ (by omega) (kt_ts.2.2.1 ho) (by rw [← hT]; exact (tw_b c19).symm)
      · refine r_iconst (v := 0) dX3_takeWord_22 (by decide) ?_
        exact r_ret rfl rfl dX3_takeWord_23 (by rw [← hT, tw_a c19]; rfl) (by rw [← hT, tw_a c19])
  refine r_iconst (v := 0) dX3_takeWord_0 (by decide) ?_
  refine r_istore_n dX3_takeWord_1 (by decide) rfl ?_
  exact L (lenS.getD i 0) 0 T0 (by omega) ho rfl
def f_dig (x c : Int32) : Int32 := (if x < 0 then 0 else x) * 10 + c - 48
def lp_tn : Nat → Int32 → tP → Int32 × tP
  | 0, x, T => (x, T)
  | n + 1, x, T => if T 0 1 ≤ T 0 2 ∨ T 1 (ta T) < 48 ∨ 57 < T 1 (ta T) then (x, T) else lp_tn n (f_dig x (T 1 (ta T))) (pu T 0 2 (T 0 2 + 1))
def f_tn (T : tP) (n : Nat) : Int32 × tP := lp_tn n (-1) T
theorem kt_ltn : ∀ (n : Nat) (x : Int32) (T : tP), kt T (lp_tn n x T).2 := by
  intro n
  induction n with
  | zero => intro x T; exact kt_rfl
  | succ n ih =>
    intro x T
    rw [lp_tn]
    split
    · exact kt_rfl
    · exact kt_tr (kt_at (fun e => by simp_all)) (ih _ _)
theorem tn_a {n : Nat} {x : Int32} {T : tP} (h : T 0 1 ≤ T 0 2 ∨ T 1 (ta T) < 48 ∨ 57 < T 1 (ta T)) : lp_tn (n + 1) x T = (x, T) := if_pos h
theorem tn_b {n : Nat} {x : Int32} {T : tP} (h1 : ¬ T 0 1 ≤ T 0 2) (h2 : ¬ T 1 (ta T) < 48) (h3 : T 1 (ta T) ≤ 57) : lp_tn (n + 1) x T = lp_tn n (f_dig x (T 1 (ta T))) (pu T 0 2 (T 0 2 + 1)) := if_neg (fun e => e.elim h1 (fun e => e.elim h2 (fun e => absurd h3 (Int32.not_le.mpr e))))
theorem dX3_takeNumber_0 : decode cX3_takeNumber 0 = .ok (.iconst (-1), 1) := by decide +kernel
theorem dX3_takeNumber_1 : decode cX3_takeNumber 1 = .ok (.istore_n 2, 1) := by decide +kernel
theorem dX3_takeNumber_2 : decode cX3_takeNumber 2 = .ok (.iconst 0, 1) := by decide +kernel
theorem dX3_takeNumber_3 : decode cX3_takeNumber 3 = .ok (.istore_n 3, 1) := by decide +kernel
theorem dX3_takeNumber_4 : decode cX3_takeNumber 4 = .ok (.iload_n 3, 1) := by decide +kernel
theorem dX3_takeNumber_5 : decode cX3_takeNumber 5 = .ok (.iload_n 1, 1) := by decide +kernel
theorem dX3_takeNumber_6 : decode cX3_takeNumber 6 = .ok (.if_icmp .ge 82, 3) := by decide +kernel
theorem dX3_takeNumber_9 : decode cX3_takeNumber 9 = .ok (.aload_n 0, 1) := by decide +kernel
theorem dX3_takeNumber_10 : decode cX3_takeNumber 10 = .ok (.getfield 26, 3) := by decide +kernel
theorem dX3_takeNumber_13 : decode cX3_takeNumber 13 = .ok (.aload_n 0, 1) := by decide +kernel
theorem dX3_takeNumber_14 : decode cX3_takeNumber 14 = .ok (.getfield 22, 3) := by decide +kernel
theorem dX3_takeNumber_17 : decode cX3_takeNumber 17 = .ok (.if_icmp .ge 31, 3) := by decide +kernel
theorem dX3_takeNumber_20 : decode cX3_takeNumber 20 = .ok (.aload_n 0, 1) := by decide +kernel
theorem dX3_takeNumber_21 : decode cX3_takeNumber 21 = .ok (.getfield 9, 3) := by decide +kernel
theorem dX3_takeNumber_24 : decode cX3_takeNumber 24 = .ok (.aload_n 0, 1) := by decide +kernel
theorem dX3_takeNumber_25 : decode cX3_takeNumber 25 = .ok (.getfield 26, 3) := by decide +kernel
theorem dX3_takeNumber_28 : decode cX3_takeNumber 28 = .ok (.caload, 1) := by decide +kernel
theorem dX3_takeNumber_29 : decode cX3_takeNumber 29 = .ok (.bipush 48, 2) := by decide +kernel
theorem dX3_takeNumber_31 : decode cX3_takeNumber 31 = .ok (.if_icmp .lt 17, 3) := by decide +kernel
theorem dX3_takeNumber_34 : decode cX3_takeNumber 34 = .ok (.aload_n 0, 1) := by decide +kernel
theorem dX3_takeNumber_35 : decode cX3_takeNumber 35 = .ok (.getfield 9, 3) := by decide +kernel
theorem dX3_takeNumber_38 : decode cX3_takeNumber 38 = .ok (.aload_n 0, 1) := by decide +kernel
theorem dX3_takeNumber_39 : decode cX3_takeNumber 39 = .ok (.getfield 26, 3) := by decide +kernel
theorem dX3_takeNumber_42 : decode cX3_takeNumber 42 = .ok (.caload, 1) := by decide +kernel
theorem dX3_takeNumber_43 : decode cX3_takeNumber 43 = .ok (.bipush 57, 2) := by decide +kernel
theorem dX3_takeNumber_45 : decode cX3_takeNumber 45 = .ok (.if_icmp .le 5, 3) := by decide +kernel
theorem dX3_takeNumber_48 : decode cX3_takeNumber 48 = .ok (.iload_n 2, 1) := by decide +kernel
theorem dX3_takeNumber_49 : decode cX3_takeNumber 49 = .ok (.ireturn, 1) := by decide +kernel
theorem dX3_takeNumber_50 : decode cX3_takeNumber 50 = .ok (.iload_n 2, 1) := by decide +kernel
theorem dX3_takeNumber_51 : decode cX3_takeNumber 51 = .ok (.iconst 0, 1) := by decide +kernel
theorem dX3_takeNumber_52 : decode cX3_takeNumber 52 = .ok (.invokestatic 99, 3) := by decide +kernel
theorem dX3_takeNumber_55 : decode cX3_takeNumber 55 = .ok (.bipush 10, 2) := by decide +kernel
theorem dX3_takeNumber_57 : decode cX3_takeNumber 57 = .ok (.imul, 1) := by decide +kernel
theorem dX3_takeNumber_58 : decode cX3_takeNumber 58 = .ok (.aload_n 0, 1) := by decide +kernel
theorem dX3_takeNumber_59 : decode cX3_takeNumber 59 = .ok (.getfield 9, 3) := by decide +kernel
theorem dX3_takeNumber_62 : decode cX3_takeNumber 62 = .ok (.aload_n 0, 1) := by decide +kernel
theorem dX3_takeNumber_63 : decode cX3_takeNumber 63 = .ok (.getfield 26, 3) := by decide +kernel
theorem dX3_takeNumber_66 : decode cX3_takeNumber 66 = .ok (.caload, 1) := by decide +kernel
theorem dX3_takeNumber_67 : decode cX3_takeNumber 67 = .ok (.iadd, 1) := by decide +kernel
theorem dX3_takeNumber_68 : decode cX3_takeNumber 68 = .ok (.bipush 48, 2) := by decide +kernel
theorem dX3_takeNumber_70 : decode cX3_takeNumber 70 = .ok (.isub, 1) := by decide +kernel
theorem dX3_takeNumber_71 : decode cX3_takeNumber 71 = .ok (.istore_n 2, 1) := by decide +kernel
theorem dX3_takeNumber_72 : decode cX3_takeNumber 72 = .ok (.aload_n 0, 1) := by decide +kernel
theorem dX3_takeNumber_73 : decode cX3_takeNumber 73 = .ok (.dup, 1) := by decide +kernel
theorem dX3_takeNumber_74 : decode cX3_takeNumber 74 = .ok (.getfield 26, 3) := by decide +kernel
theorem dX3_takeNumber_77 : decode cX3_takeNumber 77 = .ok (.iconst 1, 1) := by decide +kernel
theorem dX3_takeNumber_78 : decode cX3_takeNumber 78 = .ok (.iadd, 1) := by decide +kernel
theorem dX3_takeNumber_79 : decode cX3_takeNumber 79 = .ok (.putfield 26, 3) := by decide +kernel
theorem dX3_takeNumber_82 : decode cX3_takeNumber 82 = .ok (.iinc 3 1, 3) := by decide +kernel
theorem dX3_takeNumber_85 : decode cX3_takeNumber 85 = .ok (.goto (-81), 3) := by decide +kernel
theorem dX3_takeNumber_88 : decode cX3_takeNumber 88 = .ok (.iload_n 2, 1) := by decide +kernel
theorem dX3_takeNumber_89 : decode cX3_takeNumber 89 = .ok (.ireturn, 1) := by decide +kernel
theorem dcX3_takeNumber : yX3_takeNumber.cls = RX3 ∧ yX3_takeNumber.cls ≠ "java/lang/invoke/MethodHandle" ∧ yX3_takeNumber.cls ≠ "java/lang/invoke/VarHandle" ∧ (parseMethodDescriptor yX3_takeNumber.desc).map (fun d => d.parameters.length) = some 1 := by decide +kernel
set_option maxRecDepth 100000 in
set_option maxHeartbeats 4000000 in
theorem K_tn {cA : Nat → ClassId} {ad : tA} {ex : va_W} {M : tM} {T0 : tP} {n0 : Nat} (hn : n0 ≤ 12) (ho : okt T0) : Cj yX3_takeNumber cX3_takeNumber 4 (some .int) (rmd 1) 0 0 cA ad [.ref (ad 13 0), .int (nI n0)] ex (m_pl M 13 T0) (Qe (some (.int (f_tn T0 n0).1)) ex (m_pl M 13 (f_tn T0 n0).2)) := by
  refine c_of_r (lv0 := [some (.ref (ad 13 0)), some (.int (nI n0)), none, none]) rfl (by decide +kernel) (Nat.le_of_ble_eq_true rfl) rfl ?_
  have L : ∀ (n k : Nat) (x : Int32) (T : tP), k + n = n0 → okt T → lp_tn n x T = f_tn T0 n0 → Rj cX3_takeNumber RX3 4 (some .int) (rmd 1) 0 0 cA ad (Qe (some (.int (f_tn T0 n0).1)) ex (m_pl M 13 (f_tn T0 n0).2)) ex 0 0 4 [some (.ref (ad 13 0)), some (.int (nI n0)), some (.int x), some (.int (nI k))] [] (m_pl M 13 T) := by
    intro n
    induction n with
    | zero =>
      intro k x T h ho hT
      refine r_iload_n dX3_takeNumber_4 rfl ?_
      refine r_iload_n dX3_takeNumber_5 rfl ?_
      refine r_icmp_ge (tgt := 88) dX3_takeNumber_6 (by decide) (fun c6 => ?_) (fun c6 => absurd (lp_z rfl h) c6)
      refine r_iload_n dX3_takeNumber_88 rfl ?_
      exact r_ret rfl rfl dX3_takeNumber_89 (by rw [← hT]; rfl) (by rw [← hT]; rfl)
    | succ n ih =>
      intro k x T h ho hT
      refine r_iload_n dX3_takeNumber_4 rfl ?_
      refine r_iload_n dX3_takeNumber_5 rfl ?_
      refine r_icmp_ge (tgt := 88) dX3_takeNumber_6 (by decide) (fun c6 => absurd c6 (lp_s rfl hn h)) (fun c6 => ?_)
      refine r_aload_n dX3_takeNumber_9 rfl ?_
      refine r_getp_ot 2 (by decide) q186 rfl dX3_takeNumber_10 ?_
      refine r_aload_n dX3_takeNumber_13 rfl ?_
      refine r_getp_ot 1 (by decide) q148 rfl dX3_takeNumber_14 ?_
      refine r_icmp_ge (tgt := 48) dX3_takeNumber_17 (by decide) (fun c17 => ?_) (fun c17 => ?_)
      · refine r_iload_n dX3_takeNumber_48 rfl ?_
        first | exact r_ret rfl rfl dX3_takeNumber_49 (by rw [← hT, tn_a (Or.inl c17)]) (by rw [← hT, tn_a (Or.inl c17)]) | exact r_ret rfl rfl dX3_takeNumber_49 (by rw [← hT, tn_a (Or.inr (Or.inl c31))]) (by rw [← hT, tn_a (Or.inr (Or.inl c31))]) | exact r_ret rfl rfl dX3_takeNumber_49 (by rw [← hT, tn_a (Or.inr (Or.inr (Int32.not_le.mp c45)))]) (by rw [← hT, tn_a (Or.inr (Or.inr (Int32.not_le.mp c45)))])
      · refine r_aload_n dX3_takeNumber_20 rfl ?_
        refine r_getp_ot 0 (by decide) q53 rfl dX3_takeNumber_21 ?_
        refine r_aload_n dX3_takeNumber_24 rfl ?_
        refine r_getp_ot 2 (by decide) q186 rfl dX3_takeNumber_25 ?_
        refine r_ldp_os ho.1 (okt_lt ho c17).2 dX3_takeNumber_28 ?_
        refine r_bipush (v := 48) dX3_takeNumber_29 (by decide) ?_
        refine r_icmp_lt (tgt := 48) dX3_takeNumber_31 (by decide) (fun c31 => ?_) (fun c31 => ?_)
        · refine r_iload_n dX3_takeNumber_48 rfl ?_
          first | exact r_ret rfl rfl dX3_takeNumber_49 (by rw [← hT, tn_a (Or.inl c17)]) (by rw [← hT, tn_a (Or.inl c17)]) | exact r_ret rfl rfl dX3_takeNumber_49 (by rw [← hT, tn_a (Or.inr (Or.inl c31))]) (by rw [← hT, tn_a (Or.inr (Or.inl c31))]) | exact r_ret rfl rfl dX3_takeNumber_49 (by rw [← hT, tn_a (Or.inr (Or.inr (Int32.not_le.mp c45)))]) (by rw [← hT, tn_a (Or.inr (Or.inr (Int32.not_le.mp c45)))])
        · refine r_aload_n dX3_takeNumber_34 rfl ?_
          refine r_getp_ot 0 (by decide) q53 rfl dX3_takeNumber_35 ?_
          refine r_aload_n dX3_takeNumber_38 rfl ?_
          refine r_getp_ot 2 (by decide) q186 rfl dX3_takeNumber_39 ?_
          refine r_ldp_os ho.1 (okt_lt ho c17).2 dX3_takeNumber_42 ?_
          refine r_bipush (v := 57) dX3_takeNumber_43 (by decide) ?_
          refine r_icmp_le (tgt := 50) dX3_takeNumber_45 (by decide) (fun c45 => ?_) (fun c45 => ?_)
          · refine r_iload_n dX3_takeNumber_50 rfl ?_
            refine r_iconst (v := 0) dX3_takeNumber_51 (by decide) ?_
            refine r_mmax q266 q267 q6 q268 (by decide) (by decide) (Nat.le_refl _) (Nat.le_refl _) dX3_takeNumber_52 ?_
            refine r_bipush (v := 10) dX3_takeNumber_55 (by decide) ?_
            refine r_imul dX3_takeNumber_57 ?_
            refine r_aload_n dX3_takeNumber_58 rfl ?_
            refine r_getp_ot 0 (by decide) q53 rfl dX3_takeNumber_59 ?_
            refine r_aload_n dX3_takeNumber_62 rfl ?_
            refine r_getp_ot 2 (by decide) q186 rfl dX3_takeNumber_63 ?_
            refine r_ldp_os ho.1 (okt_lt ho c17).2 dX3_takeNumber_66 ?_
            refine r_iadd dX3_takeNumber_67 ?_
            refine r_bipush (v := 48) dX3_takeNumber_68 (by decide) ?_
            refine r_isub dX3_takeNumber_70 ?_
            refine r_istore_n dX3_takeNumber_71 (by decide) rfl ?_
            refine r_aload_n dX3_takeNumber_72 rfl ?_
            refine r_dup dX3_takeNumber_73 rfl ?_
            refine r_getp_ot 2 (by decide) q186 rfl dX3_takeNumber_74 ?_
            refine r_iconst (v := 1) dX3_takeNumber_77 (by decide) ?_
            refine r_iadd dX3_takeNumber_78 ?_
            refine r_putp_ot 2 (by decide) q186 rfl rfl rfl rfl rfl dX3_takeNumber_79 ?_
            refine r_iinc dX3_takeNumber_82 rfl ii_s (by decide) rfl ?_
            refine r_goto (tgt := 4) dX3_takeNumber_85 (by decide) ?_
            exact ih (k + 1) _ _ (by omega) ((kt_at c17).2.2.1 ho) (by rw [← hT]; exact (tn_b c17 c31 c45).symm)
          · refine r_iload_n dX3_takeNumber_48 rfl ?_
            first | exact r_ret rfl rfl dX3_takeNumber_49 (by rw [← hT, tn_a (Or.inl c17)]) (by rw [← hT, tn_a (Or.inl c17)]) | exact r_ret rfl rfl dX3_takeNumber_49 (by rw [← hT, tn_a (Or.inr (Or.inl c31))]) (by rw [← hT, tn_a (Or.inr (Or.inl c31))]) | exact r_ret rfl rfl dX3_takeNumber_49 (by rw [← hT, tn_a (Or.inr (Or.inr (Int32.not_le.mp c45)))]) (by rw [← hT, tn_a (Or.inr (Or.inr (Int32.not_le.mp c45)))])
  refine r_iconst (v := -1) dX3_takeNumber_0 (by decide) ?_
  refine r_istore_n dX3_takeNumber_1 (by decide) rfl ?_
  refine r_iconst (v := 0) dX3_takeNumber_2 (by decide) ?_
  refine r_istore_n dX3_takeNumber_3 (by decide) rfl ?_
  exact L n0 0 (-1) T0 (by omega) ho rfl
def f_ro (T : tP) (k i n : Nat) : Bool × tP :=
  let T1 := (f_tw T i).2
  if (f_tw T i).1 then (decide (¬ (f_tn T1 n).1 < 0), pu (f_tn T1 n).2 (3 + k) 1 (f_tn T1 n).1) else (false, T1)
theorem ro_a {T : tP} {k i n : Nat} (h : bI (f_tw T i).1 = 0) : f_ro T k i n = (false, (f_tw T i).2) := by rw [f_ro, bI_0 h]; rfl
theorem ro_b {T : tP} {k i n : Nat} (h : ¬ bI (f_tw T i).1 = 0) : f_ro T k i n = (decide (¬ (f_tn (f_tw T i).2 n).1 < 0), pu (f_tn (f_tw T i).2 n).2 (3 + k) 1 (f_tn (f_tw T i).2 n).1) := by rw [f_ro, bI_1 h]; rfl
theorem kt_tw {T : tP} {i : Nat} : kt T (f_tw T i).2 := kt_ltw _ _ _
theorem kt_tn {T : tP} {n : Nat} : kt T (f_tn T n).2 := kt_ltn _ _ _
theorem kt_ro {T : tP} {k i n : Nat} : kt T (f_ro T k i n).2 := by
  unfold f_ro
  dsimp only
  split
  · exact kt_tr kt_tw (kt_tr kt_tn kt_or)
  · exact kt_tw
theorem bI_dn {x : Int32} (h : ¬ x < 0) : bI (decide (¬ x < 0)) = 1 := by rw [decide_eq_true h]; rfl
theorem bI_dp {x : Int32} (h : x < 0) : bI (decide (¬ x < 0)) = 0 := by rw [decide_eq_false (fun e => e h)]; rfl
def f_rp (T : tP) (k i : Nat) (c : Int32) (n : Nat) : Bool × tP :=
  let T1 := (f_ro T k i 2).2
  if (f_ro T k i 2).1 then (if (f_ts T1 c).1 then (decide (¬ (f_tn (f_ts T1 c).2 n).1 < 0), pu (f_tn (f_ts T1 c).2 n).2 (3 + k) 2 (f_tn (f_ts T1 c).2 n).1) else (false, (f_ts T1 c).2)) else (false, T1)
theorem rp_a {T : tP} {k i n : Nat} {c : Int32} (h : bI (f_ro T k i 2).1 = 0) : f_rp T k i c n = (false, (f_ro T k i 2).2) := by rw [f_rp, bI_0 h]; rfl
theorem rp_b {T : tP} {k i n : Nat} {c : Int32} (h : ¬ bI (f_ro T k i 2).1 = 0) (h2 : bI (f_ts (f_ro T k i 2).2 c).1 = 0) : f_rp T k i c n = (false, (f_ts (f_ro T k i 2).2 c).2) := by rw [f_rp, bI_1 h, bI_0 h2]; rfl
theorem rp_c {T : tP} {k i n : Nat} {c : Int32} (h : ¬ bI (f_ro T k i 2).1 = 0) (h2 : ¬ bI (f_ts (f_ro T k i 2).2 c).1 = 0) : f_rp T k i c n = (decide (¬ (f_tn (f_ts (f_ro T k i 2).2 c).2 n).1 < 0), pu (f_tn (f_ts (f_ro T k i 2).2 c).2 n).2 (3 + k) 2 (f_tn (f_ts (f_ro T k i 2).2 c).2 n).1) := by rw [f_rp, bI_1 h, bI_1 h2]; rfl
theorem kt_rp {T : tP} {k i n : Nat} {c : Int32} : kt T (f_rp T k i c n).2 := by
  unfold f_rp
  dsimp only
  split
  · split
    · exact kt_tr kt_ro (kt_tr kt_ts (kt_tr kt_tn kt_or))
    · exact kt_tr kt_ro kt_ts
  · exact kt_ro
def f_rs (T : tP) (k : Nat) : Bool × tP :=
  let T1 := (f_ro T k 0 1).2
  let T2 := (f_ts T1 32).2
  let x := (f_tn T2 1).1
  let T3 := pu (f_tn T2 1).2 (3 + k) 2 x
  let T4 := (f_ts T3 32).2
  let y := (f_tn T4 1).1
  let T5 := pu (f_tn T4 1).2 (3 + k) 3 y
  if (f_ro T k 0 1).1 = false then (false, T1)
  else if (f_ts T1 32).1 = false then (false, T2)
  else if x < 0 then (false, T3)
  else if (f_ts T3 32).1 = false then (false, T4)
  else if y < 0 then (false, T5)
  else (true, pu (f_ts T5 63).2 (3 + k) 4 (bI (f_ts T5 63).1))
theorem kt_rs {T : tP} {k : Nat} : kt T (f_rs T k).2 := by
  have h1 := kt_ro (T := T) (k := k) (i := 0) (n := 1)
  have h2 := kt_tr h1 (kt_ts (c := 32))
  have h3 := kt_tr h2 (kt_tr (kt_tn (n := 1)) (kt_or (k := k) (f := 2) (x := (f_tn (f_ts (f_ro T k 0 1).2 32).2 1).1)))
  have h4 := kt_tr h3 (kt_ts (c := 32))
  have h5 := kt_tr h4 (kt_tr (kt_tn (n := 1)) (kt_or (k := k) (f := 3) (x := (f_tn (f_ts (pu (f_tn (f_ts (f_ro T k 0 1).2 32).2 1).2 (3 + k) 2 (f_tn (f_ts (f_ro T k 0 1).2 32).2 1).1) 32).2 1).1)))
  have h6 := kt_tr h5 (kt_ts (c := 63))
  unfold f_rs
  dsimp only
  split
  · exact h1
  · split
    · exact h2
    · split
      · exact h3
      · split
        · exact h4
        · split
          · exact h5
          · exact kt_tr h6 kt_or
theorem dX3_readOne_0 : decode cX3_readOne 0 = .ok (.aload_n 0, 1) := by decide +kernel
theorem dX3_readOne_1 : decode cX3_readOne 1 = .ok (.aload_n 2, 1) := by decide +kernel
theorem dX3_readOne_2 : decode cX3_readOne 2 = .ok (.invokevirtual 83, 3) := by decide +kernel
theorem dX3_readOne_5 : decode cX3_readOne 5 = .ok (.ifCond .ne 5, 3) := by decide +kernel
theorem dX3_readOne_8 : decode cX3_readOne 8 = .ok (.iconst 0, 1) := by decide +kernel
theorem dX3_readOne_9 : decode cX3_readOne 9 = .ok (.ireturn, 1) := by decide +kernel
theorem dX3_readOne_10 : decode cX3_readOne 10 = .ok (.aload_n 1, 1) := by decide +kernel
theorem dX3_readOne_11 : decode cX3_readOne 11 = .ok (.aload_n 0, 1) := by decide +kernel
theorem dX3_readOne_12 : decode cX3_readOne 12 = .ok (.iload_n 3, 1) := by decide +kernel
theorem dX3_readOne_13 : decode cX3_readOne 13 = .ok (.invokevirtual 69, 3) := by decide +kernel
theorem dX3_readOne_16 : decode cX3_readOne 16 = .ok (.putfield 87, 3) := by decide +kernel
theorem dX3_readOne_19 : decode cX3_readOne 19 = .ok (.aload_n 1, 1) := by decide +kernel
theorem dX3_readOne_20 : decode cX3_readOne 20 = .ok (.getfield 87, 3) := by decide +kernel
theorem dX3_readOne_23 : decode cX3_readOne 23 = .ok (.ifCond .lt 7, 3) := by decide +kernel
theorem dX3_readOne_26 : decode cX3_readOne 26 = .ok (.iconst 1, 1) := by decide +kernel
theorem dX3_readOne_27 : decode cX3_readOne 27 = .ok (.goto 4, 3) := by decide +kernel
theorem dX3_readOne_30 : decode cX3_readOne 30 = .ok (.iconst 0, 1) := by decide +kernel
theorem dX3_readOne_31 : decode cX3_readOne 31 = .ok (.ireturn, 1) := by decide +kernel
theorem dcX3_readOne : yX3_readOne.cls = RX3 ∧ yX3_readOne.cls ≠ "java/lang/invoke/MethodHandle" ∧ yX3_readOne.cls ≠ "java/lang/invoke/VarHandle" ∧ (parseMethodDescriptor yX3_readOne.desc).map (fun d => d.parameters.length) = some 3 := by decide +kernel
theorem gX3_readOne_2 : GoodIn wsL_law (wsV RX3 83 RX3 yX3_takeWord (.code yX3_takeWord cX3_takeWord 3 (some .boolean) :: wsL_law)) := g_V q205 q206 q207 q23 q208
theorem gX3_readOne_13 : GoodIn wsL_law (wsV RX3 69 RX3 yX3_takeNumber (.code yX3_takeNumber cX3_takeNumber 4 (some .int) :: wsL_law)) := g_V q262 q263 q264 q23 q265
set_option maxRecDepth 100000 in
set_option maxHeartbeats 4000000 in
theorem K_ro {cA : Nat → ClassId} {ad : tA} {ex : va_W} {M : tM} {T : tP} {k i n : Nat} (hk : k < 12) (hi : i < 15) (hn : n ≤ 12) (ho : okt T) : Cj yX3_readOne cX3_readOne 4 (some .boolean) (rmd 5) 0 0 cA ad [.ref (ad 13 0), .ref (ad 13 (3 + k)), .ref (ad 16 i), .int (nI n)] ex (m_pl M 13 T) (Qe (some (.int (bI (f_ro T k i n).1))) ex (m_pl M 13 (f_ro T k i n).2)) := by
  refine c_of_r (lv0 := [some (.ref (ad 13 0)), some (.ref (ad 13 (3 + k))), some (.ref (ad 16 i)), some (.int (nI n))]) rfl (by decide +kernel) (Nat.le_of_ble_eq_true rfl) rfl ?_
  refine r_aload_n dX3_readOne_0 rfl ?_
  refine r_aload_n dX3_readOne_1 rfl ?_
  refine r_cVi dX3_readOne_2 (K_tw hi ho) gX3_readOne_2 dcX3_takeWord rfl rfl rfl (Nat.le_of_ble_eq_true rfl) ob_ot ?_
  refine r_if_ne (tgt := 10) dX3_readOne_5 (by decide) (fun c5 => ?_) (fun c5 => ?_)
  · refine r_aload_n dX3_readOne_10 rfl ?_
    refine r_aload_n dX3_readOne_11 rfl ?_
    refine r_iload_n dX3_readOne_12 rfl ?_
    refine r_cVi dX3_readOne_13 (K_tn hn (kt_tw.2.2.1 ho)) gX3_readOne_13 dcX3_takeNumber rfl rfl rfl (Nat.le_of_ble_eq_true rfl) ob_ot ?_
    refine r_putp_or (by omega) 1 (by decide) q204 rfl rfl rfl rfl rfl dX3_readOne_16 ?_
    refine r_aload_n dX3_readOne_19 rfl ?_
    refine r_getp_or (by omega) 1 (by decide) q204 rfl dX3_readOne_20 ?_
    rw [pu_s]
    refine r_if_lt (tgt := 30) dX3_readOne_23 (by decide) (fun c23 => ?_) (fun c23 => ?_)
    · refine r_iconst (v := 0) dX3_readOne_30 (by decide) ?_
      first | exact r_ret rfl rfl dX3_readOne_31 (by rw [ro_b c5]; exact (bI_dn c23).symm) (by rw [ro_b c5]) | exact r_ret rfl rfl dX3_readOne_31 (by rw [ro_b c5]; exact (bI_dp c23).symm) (by rw [ro_b c5])
    · refine r_iconst (v := 1) dX3_readOne_26 (by decide) ?_
      refine r_goto (tgt := 31) dX3_readOne_27 (by decide) ?_
      first | exact r_ret rfl rfl dX3_readOne_31 (by rw [ro_b c5]; exact (bI_dn c23).symm) (by rw [ro_b c5]) | exact r_ret rfl rfl dX3_readOne_31 (by rw [ro_b c5]; exact (bI_dp c23).symm) (by rw [ro_b c5])
  · refine r_iconst (v := 0) dX3_readOne_8 (by decide) ?_
    exact r_ret rfl rfl dX3_readOne_9 (by rw [ro_a c5]; rfl) (by rw [ro_a c5])
theorem dX3_readPair_0 : decode cX3_readPair 0 = .ok (.aload_n 0, 1) := by decide +kernel
theorem dX3_readPair_1 : decode cX3_readPair 1 = .ok (.aload_n 1, 1) := by decide +kernel
theorem dX3_readPair_2 : decode cX3_readPair 2 = .ok (.aload_n 2, 1) := by decide +kernel
theorem dX3_readPair_3 : decode cX3_readPair 3 = .ok (.iconst 2, 1) := by decide +kernel
theorem dX3_readPair_4 : decode cX3_readPair 4 = .ok (.invokevirtual 57, 3) := by decide +kernel
theorem dX3_readPair_7 : decode cX3_readPair 7 = .ok (.ifCond .eq 11, 3) := by decide +kernel
theorem dX3_readPair_10 : decode cX3_readPair 10 = .ok (.aload_n 0, 1) := by decide +kernel
theorem dX3_readPair_11 : decode cX3_readPair 11 = .ok (.iload_n 3, 1) := by decide +kernel
theorem dX3_readPair_12 : decode cX3_readPair 12 = .ok (.invokevirtual 36, 3) := by decide +kernel
theorem dX3_readPair_15 : decode cX3_readPair 15 = .ok (.ifCond .ne 5, 3) := by decide +kernel
theorem dX3_readPair_18 : decode cX3_readPair 18 = .ok (.iconst 0, 1) := by decide +kernel
theorem dX3_readPair_19 : decode cX3_readPair 19 = .ok (.ireturn, 1) := by decide +kernel
theorem dX3_readPair_20 : decode cX3_readPair 20 = .ok (.aload_n 1, 1) := by decide +kernel
theorem dX3_readPair_21 : decode cX3_readPair 21 = .ok (.aload_n 0, 1) := by decide +kernel
theorem dX3_readPair_22 : decode cX3_readPair 22 = .ok (.iload 4, 2) := by decide +kernel
theorem dX3_readPair_24 : decode cX3_readPair 24 = .ok (.invokevirtual 69, 3) := by decide +kernel
theorem dX3_readPair_27 : decode cX3_readPair 27 = .ok (.putfield 73, 3) := by decide +kernel
theorem dX3_readPair_30 : decode cX3_readPair 30 = .ok (.aload_n 1, 1) := by decide +kernel
theorem dX3_readPair_31 : decode cX3_readPair 31 = .ok (.getfield 73, 3) := by decide +kernel
theorem dX3_readPair_34 : decode cX3_readPair 34 = .ok (.ifCond .lt 7, 3) := by decide +kernel
theorem dX3_readPair_37 : decode cX3_readPair 37 = .ok (.iconst 1, 1) := by decide +kernel
theorem dX3_readPair_38 : decode cX3_readPair 38 = .ok (.goto 4, 3) := by decide +kernel
theorem dX3_readPair_41 : decode cX3_readPair 41 = .ok (.iconst 0, 1) := by decide +kernel
theorem dX3_readPair_42 : decode cX3_readPair 42 = .ok (.ireturn, 1) := by decide +kernel
theorem dcX3_readPair : yX3_readPair.cls = RX3 ∧ yX3_readPair.cls ≠ "java/lang/invoke/MethodHandle" ∧ yX3_readPair.cls ≠ "java/lang/invoke/VarHandle" ∧ (parseMethodDescriptor yX3_readPair.desc).map (fun d => d.parameters.length) = some 4 := by decide +kernel
theorem gX3_readPair_4 : GoodIn wsL_law (wsV RX3 57 RX3 yX3_readOne (.code yX3_readOne cX3_readOne 4 (some .boolean) :: wsL_law)) := g_V q200 q201 q202 q23 q203
theorem gX3_readPair_12 : GoodIn wsL_law (wsV RX3 36 RX3 yX3_takeSign (.code yX3_takeSign cX3_takeSign 2 (some .boolean) :: wsL_law)) := g_V q258 q259 q260 q23 q261
theorem gX3_readPair_24 : GoodIn wsL_law (wsV RX3 69 RX3 yX3_takeNumber (.code yX3_takeNumber cX3_takeNumber 4 (some .int) :: wsL_law)) := g_V q262 q263 q264 q23 q265
set_option maxRecDepth 100000 in
set_option maxHeartbeats 4000000 in
theorem K_rp {cA : Nat → ClassId} {ad : tA} {ex : va_W} {M : tM} {T : tP} {k i n : Nat} {c : Int32} (hk : k < 12) (hi : i < 15) (hn : n ≤ 12) (ho : okt T) : Cj yX3_readPair cX3_readPair 5 (some .boolean) (rmd 6) 0 0 cA ad [.ref (ad 13 0), .ref (ad 13 (3 + k)), .ref (ad 16 i), .int c, .int (nI n)] ex (m_pl M 13 T) (Qe (some (.int (bI (f_rp T k i c n).1))) ex (m_pl M 13 (f_rp T k i c n).2)) := by
  refine c_of_r (lv0 := [some (.ref (ad 13 0)), some (.ref (ad 13 (3 + k))), some (.ref (ad 16 i)), some (.int c), some (.int (nI n))]) rfl (by decide +kernel) (Nat.le_of_ble_eq_true rfl) rfl ?_
  refine r_aload_n dX3_readPair_0 rfl ?_
  refine r_aload_n dX3_readPair_1 rfl ?_
  refine r_aload_n dX3_readPair_2 rfl ?_
  refine r_iconst (v := 2) dX3_readPair_3 (by decide) ?_
  refine r_cVi dX3_readPair_4 (K_ro (n := 2) hk hi (by omega) ho) gX3_readPair_4 dcX3_readOne rfl rfl rfl (Nat.le_of_ble_eq_true rfl) ob_ot ?_
  refine r_if_eq (tgt := 18) dX3_readPair_7 (by decide) (fun c7 => ?_) (fun c7 => ?_)
  · refine r_iconst (v := 0) dX3_readPair_18 (by decide) ?_
    first | exact r_ret rfl rfl dX3_readPair_19 (by rw [rp_a c7]; rfl) (by rw [rp_a c7]) | exact r_ret rfl rfl dX3_readPair_19 (by rw [rp_b c7 c15]; rfl) (by rw [rp_b c7 c15])
  · refine r_aload_n dX3_readPair_10 rfl ?_
    refine r_iload_n dX3_readPair_11 rfl ?_
    refine r_cVi dX3_readPair_12 (K_ts (kt_ro.2.2.1 ho)) gX3_readPair_12 dcX3_takeSign rfl rfl rfl (Nat.le_of_ble_eq_true rfl) ob_ot ?_
    refine r_if_ne (tgt := 20) dX3_readPair_15 (by decide) (fun c15 => ?_) (fun c15 => ?_)
    · refine r_aload_n dX3_readPair_20 rfl ?_
      refine r_aload_n dX3_readPair_21 rfl ?_
      refine r_iload dX3_readPair_22 rfl ?_
      refine r_cVi dX3_readPair_24 (K_tn hn (kt_ts.2.2.1 (kt_ro.2.2.1 ho))) gX3_readPair_24 dcX3_takeNumber rfl rfl rfl (Nat.le_of_ble_eq_true rfl) ob_ot ?_
      refine r_putp_or (by omega) 2 (by decide) q197 rfl rfl rfl rfl rfl dX3_readPair_27 ?_
      refine r_aload_n dX3_readPair_30 rfl ?_
      refine r_getp_or (by omega) 2 (by decide) q197 rfl dX3_readPair_31 ?_
      rw [pu_s]
      refine r_if_lt (tgt := 41) dX3_readPair_34 (by decide) (fun c34 => ?_) (fun c34 => ?_)
      · refine r_iconst (v := 0) dX3_readPair_41 (by decide) ?_
        first | exact r_ret rfl rfl dX3_readPair_42 (by rw [rp_c c7 c15]; exact (bI_dn c34).symm) (by rw [rp_c c7 c15]) | exact r_ret rfl rfl dX3_readPair_42 (by rw [rp_c c7 c15]; exact (bI_dp c34).symm) (by rw [rp_c c7 c15])
      · refine r_iconst (v := 1) dX3_readPair_37 (by decide) ?_
        refine r_goto (tgt := 42) dX3_readPair_38 (by decide) ?_
        first | exact r_ret rfl rfl dX3_readPair_42 (by rw [rp_c c7 c15]; exact (bI_dn c34).symm) (by rw [rp_c c7 c15]) | exact r_ret rfl rfl dX3_readPair_42 (by rw [rp_c c7 c15]; exact (bI_dp c34).symm) (by rw [rp_c c7 c15])
    · refine r_iconst (v := 0) dX3_readPair_18 (by decide) ?_
      first | exact r_ret rfl rfl dX3_readPair_19 (by rw [rp_a c7]; rfl) (by rw [rp_a c7]) | exact r_ret rfl rfl dX3_readPair_19 (by rw [rp_b c7 c15]; rfl) (by rw [rp_b c7 c15])
theorem rs_1 {T : tP} {k : Nat} (a : bI (f_ro T k 0 1).1 = 0) : f_rs T k = (false, (f_ro T k 0 1).2) := by unfold f_rs; rw [bI_0 a]; rfl
section
variable {T T3 T5 : tP} {k : Nat} {x y : Int32}
theorem rs_2 (a : ¬ bI (f_ro T k 0 1).1 = 0) (b : bI (f_ts (f_ro T k 0 1).2 32).1 = 0) : f_rs T k = (false, (f_ts (f_ro T k 0 1).2 32).2) := by unfold f_rs; dsimp only; rw [bI_1 a, bI_0 b]; rfl
theorem rs_3 (a : ¬ bI (f_ro T k 0 1).1 = 0) (b : ¬ bI (f_ts (f_ro T k 0 1).2 32).1 = 0) (ex : x = (f_tn (f_ts (f_ro T k 0 1).2 32).2 1).1) (e3 : T3 = pu (f_tn (f_ts (f_ro T k 0 1).2 32).2 1).2 (3 + k) 2 x) (c : x < 0) : f_rs T k = (false, T3) := by subst e3; subst ex; unfold f_rs; dsimp only; rw [bI_1 a, bI_1 b, if_neg (by decide), if_neg (by decide), if_pos c]
theorem rs_4 (a : ¬ bI (f_ro T k 0 1).1 = 0) (b : ¬ bI (f_ts (f_ro T k 0 1).2 32).1 = 0) (ex : x = (f_tn (f_ts (f_ro T k 0 1).2 32).2 1).1) (e3 : T3 = pu (f_tn (f_ts (f_ro T k 0 1).2 32).2 1).2 (3 + k) 2 x) (c : ¬ x < 0) (d : bI (f_ts T3 32).1 = 0) : f_rs T k = (false, (f_ts T3 32).2) := by subst e3; subst ex; unfold f_rs; dsimp only; rw [bI_1 a, bI_1 b, if_neg (by decide), if_neg (by decide), if_neg c, bI_0 d, if_pos rfl]
theorem rs_5 (a : ¬ bI (f_ro T k 0 1).1 = 0) (b : ¬ bI (f_ts (f_ro T k 0 1).2 32).1 = 0) (ex : x = (f_tn (f_ts (f_ro T k 0 1).2 32).2 1).1) (e3 : T3 = pu (f_tn (f_ts (f_ro T k 0 1).2 32).2 1).2 (3 + k) 2 x) (c : ¬ x < 0) (d : ¬ bI (f_ts T3 32).1 = 0) (ey : y = (f_tn (f_ts T3 32).2 1).1) (e5 : T5 = pu (f_tn (f_ts T3 32).2 1).2 (3 + k) 3 y) (f : y < 0) : f_rs T k = (false, T5) := by subst e5; subst ey; subst e3; subst ex; unfold f_rs; dsimp only; rw [bI_1 a, bI_1 b, if_neg (by decide), if_neg (by decide), if_neg c, bI_1 d, if_neg (by decide), if_pos f]
theorem rs_6 (a : ¬ bI (f_ro T k 0 1).1 = 0) (b : ¬ bI (f_ts (f_ro T k 0 1).2 32).1 = 0) (ex : x = (f_tn (f_ts (f_ro T k 0 1).2 32).2 1).1) (e3 : T3 = pu (f_tn (f_ts (f_ro T k 0 1).2 32).2 1).2 (3 + k) 2 x) (c : ¬ x < 0) (d : ¬ bI (f_ts T3 32).1 = 0) (ey : y = (f_tn (f_ts T3 32).2 1).1) (e5 : T5 = pu (f_tn (f_ts T3 32).2 1).2 (3 + k) 3 y) (f : ¬ y < 0) : f_rs T k = (true, pu (f_ts T5 63).2 (3 + k) 4 (bI (f_ts T5 63).1)) := by subst e5; subst ey; subst e3; subst ex; unfold f_rs; dsimp only; rw [bI_1 a, bI_1 b, if_neg (by decide), if_neg (by decide), if_neg c, bI_1 d, if_neg (by decide), if_neg f]
end
theorem dX3_readStep_0 : decode cX3_readStep 0 = .ok (.aload_n 0, 1) := by decide +kernel
theorem dX3_readStep_1 : decode cX3_readStep 1 = .ok (.aload_n 1, 1) := by decide +kernel
theorem dX3_readStep_2 : decode cX3_readStep 2 = .ok (.ldc 67, 2) := by decide +kernel
theorem dX3_readStep_4 : decode cX3_readStep 4 = .ok (.iconst 1, 1) := by decide +kernel
theorem dX3_readStep_5 : decode cX3_readStep 5 = .ok (.invokevirtual 57, 3) := by decide +kernel
theorem dX3_readStep_8 : decode cX3_readStep 8 = .ok (.ifCond .eq 12, 3) := by decide +kernel
theorem dX3_readStep_11 : decode cX3_readStep 11 = .ok (.aload_n 0, 1) := by decide +kernel
theorem dX3_readStep_12 : decode cX3_readStep 12 = .ok (.bipush 32, 2) := by decide +kernel
theorem dX3_readStep_14 : decode cX3_readStep 14 = .ok (.invokevirtual 36, 3) := by decide +kernel
theorem dX3_readStep_17 : decode cX3_readStep 17 = .ok (.ifCond .ne 5, 3) := by decide +kernel
theorem dX3_readStep_20 : decode cX3_readStep 20 = .ok (.iconst 0, 1) := by decide +kernel
theorem dX3_readStep_21 : decode cX3_readStep 21 = .ok (.ireturn, 1) := by decide +kernel
theorem dX3_readStep_22 : decode cX3_readStep 22 = .ok (.aload_n 1, 1) := by decide +kernel
theorem dX3_readStep_23 : decode cX3_readStep 23 = .ok (.aload_n 0, 1) := by decide +kernel
theorem dX3_readStep_24 : decode cX3_readStep 24 = .ok (.iconst 1, 1) := by decide +kernel
theorem dX3_readStep_25 : decode cX3_readStep 25 = .ok (.invokevirtual 69, 3) := by decide +kernel
theorem dX3_readStep_28 : decode cX3_readStep 28 = .ok (.putfield 73, 3) := by decide +kernel
theorem dX3_readStep_31 : decode cX3_readStep 31 = .ok (.aload_n 1, 1) := by decide +kernel
theorem dX3_readStep_32 : decode cX3_readStep 32 = .ok (.getfield 73, 3) := by decide +kernel
theorem dX3_readStep_35 : decode cX3_readStep 35 = .ok (.ifCond .lt 12, 3) := by decide +kernel
theorem dX3_readStep_38 : decode cX3_readStep 38 = .ok (.aload_n 0, 1) := by decide +kernel
theorem dX3_readStep_39 : decode cX3_readStep 39 = .ok (.bipush 32, 2) := by decide +kernel
theorem dX3_readStep_41 : decode cX3_readStep 41 = .ok (.invokevirtual 36, 3) := by decide +kernel
theorem dX3_readStep_44 : decode cX3_readStep 44 = .ok (.ifCond .ne 5, 3) := by decide +kernel
theorem dX3_readStep_47 : decode cX3_readStep 47 = .ok (.iconst 0, 1) := by decide +kernel
theorem dX3_readStep_48 : decode cX3_readStep 48 = .ok (.ireturn, 1) := by decide +kernel
theorem dX3_readStep_49 : decode cX3_readStep 49 = .ok (.aload_n 1, 1) := by decide +kernel
theorem dX3_readStep_50 : decode cX3_readStep 50 = .ok (.aload_n 0, 1) := by decide +kernel
theorem dX3_readStep_51 : decode cX3_readStep 51 = .ok (.iconst 1, 1) := by decide +kernel
theorem dX3_readStep_52 : decode cX3_readStep 52 = .ok (.invokevirtual 69, 3) := by decide +kernel
theorem dX3_readStep_55 : decode cX3_readStep 55 = .ok (.putfield 76, 3) := by decide +kernel
theorem dX3_readStep_58 : decode cX3_readStep 58 = .ok (.aload_n 1, 1) := by decide +kernel
theorem dX3_readStep_59 : decode cX3_readStep 59 = .ok (.getfield 76, 3) := by decide +kernel
theorem dX3_readStep_62 : decode cX3_readStep 62 = .ok (.ifCond .ge 5, 3) := by decide +kernel
theorem dX3_readStep_65 : decode cX3_readStep 65 = .ok (.iconst 0, 1) := by decide +kernel
theorem dX3_readStep_66 : decode cX3_readStep 66 = .ok (.ireturn, 1) := by decide +kernel
theorem dX3_readStep_67 : decode cX3_readStep 67 = .ok (.aload_n 1, 1) := by decide +kernel
theorem dX3_readStep_68 : decode cX3_readStep 68 = .ok (.aload_n 0, 1) := by decide +kernel
theorem dX3_readStep_69 : decode cX3_readStep 69 = .ok (.bipush 63, 2) := by decide +kernel
theorem dX3_readStep_71 : decode cX3_readStep 71 = .ok (.invokevirtual 36, 3) := by decide +kernel
theorem dX3_readStep_74 : decode cX3_readStep 74 = .ok (.putfield 79, 3) := by decide +kernel
theorem dX3_readStep_77 : decode cX3_readStep 77 = .ok (.iconst 1, 1) := by decide +kernel
theorem dX3_readStep_78 : decode cX3_readStep 78 = .ok (.ireturn, 1) := by decide +kernel
theorem dcX3_readStep : yX3_readStep.cls = RX3 ∧ yX3_readStep.cls ≠ "java/lang/invoke/MethodHandle" ∧ yX3_readStep.cls ≠ "java/lang/invoke/VarHandle" ∧ (parseMethodDescriptor yX3_readStep.desc).map (fun d => d.parameters.length) = some 1 := by decide +kernel
theorem gX3_readStep_5 : GoodIn wsL_law (wsV RX3 57 RX3 yX3_readOne (.code yX3_readOne cX3_readOne 4 (some .boolean) :: wsL_law)) := g_V q200 q201 q202 q23 q203
theorem gX3_readStep_14 : GoodIn wsL_law (wsV RX3 36 RX3 yX3_takeSign (.code yX3_takeSign cX3_takeSign 2 (some .boolean) :: wsL_law)) := g_V q258 q259 q260 q23 q261
theorem gX3_readStep_25 : GoodIn wsL_law (wsV RX3 69 RX3 yX3_takeNumber (.code yX3_takeNumber cX3_takeNumber 4 (some .int) :: wsL_law)) := g_V q262 q263 q264 q23 q265
theorem gX3_readStep_41 : GoodIn wsL_law (wsV RX3 36 RX3 yX3_takeSign (.code yX3_takeSign cX3_takeSign 2 (some .boolean) :: wsL_law)) := g_V q258 q259 q260 q23 q261
theorem gX3_readStep_52 : GoodIn wsL_law (wsV RX3 69 RX3 yX3_takeNumber (.code yX3_takeNumber cX3_takeNumber 4 (some .int) :: wsL_law)) := g_V q262 q263 q264 q23 q265
theorem gX3_readStep_71 : GoodIn wsL_law (wsV RX3 36 RX3 yX3_takeSign (.code yX3_takeSign cX3_takeSign 2 (some .boolean) :: wsL_law)) := g_V q258 q259 q260 q23 q261
set_option maxRecDepth 100000 in
set_option maxHeartbeats 4000000 in
theorem K_rs {cA : Nat → ClassId} {ad : tA} {ex : va_W} {M : tM} {T : tP} {k : Nat} (hk : k < 12) (ho : okt T) : Cj yX3_readStep cX3_readStep 2 (some .boolean) (rmd 6) 0 0 cA ad [.ref (ad 13 0), .ref (ad 13 (3 + k))] ex (m_pl M 13 T) (Qe (some (.int (bI (f_rs T k).1))) ex (m_pl M 13 (f_rs T k).2)) := by
  refine c_of_r (lv0 := [some (.ref (ad 13 0)), some (.ref (ad 13 (3 + k)))]) rfl (by decide +kernel) (Nat.le_of_ble_eq_true rfl) rfl ?_
  have o1 : okt (f_ro T k 0 1).2 := kt_ro.2.2.1 ho
  have o2 : okt (f_ts (f_ro T k 0 1).2 32).2 := kt_ts.2.2.1 o1
  refine r_aload_n dX3_readStep_0 rfl ?_
  refine r_aload_n dX3_readStep_1 rfl ?_
  refine r_ldcS (List.mem_of_getElem? (i := 0) rfl) dX3_readStep_2 ?_
  refine r_iconst (v := 1) dX3_readStep_4 (by decide) ?_
  refine r_cVi dX3_readStep_5 (K_ro (i := 0) (n := 1) hk (by omega) (by omega) ho) gX3_readStep_5 dcX3_readOne rfl rfl rfl (Nat.le_of_ble_eq_true rfl) ob_ot ?_
  refine r_if_eq (tgt := 20) dX3_readStep_8 (by decide) (fun c8 => ?_) (fun c8 => ?_)
  · refine r_iconst (v := 0) dX3_readStep_20 (by decide) ?_
    first | exact r_ret rfl rfl dX3_readStep_21 (p_ans (rs_1 c8)) (p_st (rs_1 c8)) | exact r_ret rfl rfl dX3_readStep_21 (p_ans (rs_2 c8 c17)) (p_st (rs_2 c8 c17))
  · refine r_aload_n dX3_readStep_11 rfl ?_
    refine r_bipush (v := 32) dX3_readStep_12 (by decide) ?_
    refine r_cVi dX3_readStep_14 (K_ts o1) gX3_readStep_14 dcX3_takeSign rfl rfl rfl (Nat.le_of_ble_eq_true rfl) ob_ot ?_
    refine r_if_ne (tgt := 22) dX3_readStep_17 (by decide) (fun c17 => ?_) (fun c17 => ?_)
    · refine r_aload_n dX3_readStep_22 rfl ?_
      refine r_aload_n dX3_readStep_23 rfl ?_
      refine r_iconst (v := 1) dX3_readStep_24 (by decide) ?_
      refine r_cVi dX3_readStep_25 (K_tn (n0 := 1) (by omega) o2) gX3_readStep_25 dcX3_takeNumber rfl rfl rfl (Nat.le_of_ble_eq_true rfl) ob_ot ?_
      refine r_putp_or (by omega) 2 (by decide) q197 rfl rfl rfl rfl rfl dX3_readStep_28 ?_
      refine r_aload_n dX3_readStep_31 rfl ?_
      refine r_getp_or (by omega) 2 (by decide) q197 rfl dX3_readStep_32 ?_
      rw [pu_s]
      refine r_if_lt (tgt := 47) dX3_readStep_35 (by decide) (fun c35 => ?_) (fun c35 => ?_)
      · refine r_iconst (v := 0) dX3_readStep_47 (by decide) ?_
        first | exact r_ret rfl rfl dX3_readStep_48 (p_ans (rs_3 c8 c17 rfl rfl c35)) (p_st (rs_3 c8 c17 rfl rfl c35)) | exact r_ret rfl rfl dX3_readStep_48 (p_ans (rs_4 c8 c17 rfl rfl c35 c44)) (p_st (rs_4 c8 c17 rfl rfl c35 c44))
      · refine r_aload_n dX3_readStep_38 rfl ?_
        refine r_bipush (v := 32) dX3_readStep_39 (by decide) ?_
        refine r_cVi dX3_readStep_41 (K_ts (kt_or.2.2.1 (kt_tn.2.2.1 o2))) gX3_readStep_41 dcX3_takeSign rfl rfl rfl (Nat.le_of_ble_eq_true rfl) ob_ot ?_
        refine r_if_ne (tgt := 49) dX3_readStep_44 (by decide) (fun c44 => ?_) (fun c44 => ?_)
        · refine r_aload_n dX3_readStep_49 rfl ?_
          refine r_aload_n dX3_readStep_50 rfl ?_
          refine r_iconst (v := 1) dX3_readStep_51 (by decide) ?_
          refine r_cVi dX3_readStep_52 (K_tn (n0 := 1) (by omega) (kt_ts.2.2.1 (kt_or.2.2.1 (kt_tn.2.2.1 o2)))) gX3_readStep_52 dcX3_takeNumber rfl rfl rfl (Nat.le_of_ble_eq_true rfl) ob_ot ?_
          refine r_putp_or (by omega) 3 (by decide) q198 rfl rfl rfl rfl rfl dX3_readStep_55 ?_
          refine r_aload_n dX3_readStep_58 rfl ?_
          refine r_getp_or (by omega) 3 (by decide) q198 rfl dX3_readStep_59 ?_
          rw [pu_s]
          refine r_if_ge (tgt := 67) dX3_readStep_62 (by decide) (fun c62 => ?_) (fun c62 => ?_)
          · refine r_aload_n dX3_readStep_67 rfl ?_
            refine r_aload_n dX3_readStep_68 rfl ?_
            refine r_bipush (v := 63) dX3_readStep_69 (by decide) ?_
            refine r_cVi dX3_readStep_71 (K_ts (kt_or.2.2.1 (kt_tn.2.2.1 (kt_ts.2.2.1 (kt_or.2.2.1 (kt_tn.2.2.1 o2)))))) gX3_readStep_71 dcX3_takeSign rfl rfl rfl (Nat.le_of_ble_eq_true rfl) ob_ot ?_
            refine r_putp_or (by omega) 4 (by decide) q199 rfl rfl bI_nar bI_fit rfl dX3_readStep_74 ?_
            refine r_iconst (v := 1) dX3_readStep_77 (by decide) ?_
            first | exact r_ret rfl rfl dX3_readStep_78 (p_ans (rs_6 c8 c17 rfl rfl c35 c44 rfl rfl (Int32.not_lt.mpr c62))) (p_st (rs_6 c8 c17 rfl rfl c35 c44 rfl rfl (Int32.not_lt.mpr c62)))
          · refine r_iconst (v := 0) dX3_readStep_65 (by decide) ?_
            first | exact r_ret rfl rfl dX3_readStep_66 (p_ans (rs_5 c8 c17 rfl rfl c35 c44 rfl rfl (Int32.not_le.mp c62))) (p_st (rs_5 c8 c17 rfl rfl c35 c44 rfl rfl (Int32.not_le.mp c62)))
        · refine r_iconst (v := 0) dX3_readStep_47 (by decide) ?_
          first | exact r_ret rfl rfl dX3_readStep_48 (p_ans (rs_3 c8 c17 rfl rfl c35)) (p_st (rs_3 c8 c17 rfl rfl c35)) | exact r_ret rfl rfl dX3_readStep_48 (p_ans (rs_4 c8 c17 rfl rfl c35 c44)) (p_st (rs_4 c8 c17 rfl rfl c35 c44))
    · refine r_iconst (v := 0) dX3_readStep_20 (by decide) ?_
      first | exact r_ret rfl rfl dX3_readStep_21 (p_ans (rs_1 c8)) (p_st (rs_1 c8)) | exact r_ret rfl rfl dX3_readStep_21 (p_ans (rs_2 c8 c17)) (p_st (rs_2 c8 c17))
end
section
/-! PART 11: readOrder, readOrders, addSign; the line -/
def f_rd1 (T1 : tP) (k : Nat) (x : Int32) : Bool × tP :=
  if x = 115 then f_rs T1 k else if x = 110 then f_rp T1 k 1 32 2 else if x = 102 then f_rp T1 k 2 42 1 else if x = 104 then f_ro T1 k 3 1
  else if x = 99 then f_ro T1 k 4 1 else if x = 109 then f_rp T1 k 5 64 3 else if x = 100 then f_ro T1 k 6 2 else (false, T1)
def f_rd (T : tP) (k : Nat) : Bool × tP := if T 0 1 ≤ T 0 2 then (false, T) else f_rd1 (pu T (3 + k) 0 (T 1 (ta T))) k (T 1 (ta T))
theorem kt_rd1 {T : tP} {k : Nat} {x : Int32} : kt T (f_rd1 T k x).2 := by
  unfold f_rd1
  repeat' split
  · exact kt_rs
  · exact kt_rp
  · exact kt_rp
  · exact kt_ro
  · exact kt_ro
  · exact kt_rp
  · exact kt_ro
  · exact kt_rfl
theorem kt_rd {T : tP} {k : Nat} : kt T (f_rd T k).2 := by
  unfold f_rd
  split
  · exact kt_rfl
  · exact kt_tr kt_or kt_rd1
theorem rd_no {T : tP} {k q : Nat} (hq : q < 65536) (h : q ≠ 115 ∧ q ≠ 110 ∧ q ≠ 102 ∧ q ≠ 104 ∧ q ≠ 99 ∧ q ≠ 109 ∧ q ≠ 100) : f_rd1 T k (nI q) = (false, T) := by
  have f : ∀ a : Nat, a < 65536 → q ≠ a → ¬ nI q = nI a := fun a ha hn e => hn ((nI_eq (by omega) (by omega)).mp e)
  unfold f_rd1
  rw [if_neg (show ¬ nI q = 115 from f 115 (by omega) h.1), if_neg (show ¬ nI q = 110 from f 110 (by omega) h.2.1), if_neg (show ¬ nI q = 102 from f 102 (by omega) h.2.2.1), if_neg (show ¬ nI q = 104 from f 104 (by omega) h.2.2.2.1), if_neg (show ¬ nI q = 99 from f 99 (by omega) h.2.2.2.2.1), if_neg (show ¬ nI q = 109 from f 109 (by omega) h.2.2.2.2.2.1), if_neg (show ¬ nI q = 100 from f 100 (by omega) h.2.2.2.2.2.2)]
theorem dX3_readOrder_0 : decode cX3_readOrder 0 = .ok (.aload_n 0, 1) := by decide +kernel
theorem dX3_readOrder_1 : decode cX3_readOrder 1 = .ok (.getfield 26, 3) := by decide +kernel
theorem dX3_readOrder_4 : decode cX3_readOrder 4 = .ok (.aload_n 0, 1) := by decide +kernel
theorem dX3_readOrder_5 : decode cX3_readOrder 5 = .ok (.getfield 22, 3) := by decide +kernel
theorem dX3_readOrder_8 : decode cX3_readOrder 8 = .ok (.if_icmp .lt 5, 3) := by decide +kernel
theorem dX3_readOrder_11 : decode cX3_readOrder 11 = .ok (.iconst 0, 1) := by decide +kernel
theorem dX3_readOrder_12 : decode cX3_readOrder 12 = .ok (.ireturn, 1) := by decide +kernel
theorem dX3_readOrder_13 : decode cX3_readOrder 13 = .ok (.aload_n 1, 1) := by decide +kernel
theorem dX3_readOrder_14 : decode cX3_readOrder 14 = .ok (.aload_n 0, 1) := by decide +kernel
theorem dX3_readOrder_15 : decode cX3_readOrder 15 = .ok (.getfield 9, 3) := by decide +kernel
theorem dX3_readOrder_18 : decode cX3_readOrder 18 = .ok (.aload_n 0, 1) := by decide +kernel
theorem dX3_readOrder_19 : decode cX3_readOrder 19 = .ok (.getfield 26, 3) := by decide +kernel
theorem dX3_readOrder_22 : decode cX3_readOrder 22 = .ok (.caload, 1) := by decide +kernel
theorem dX3_readOrder_23 : decode cX3_readOrder 23 = .ok (.putfield 40, 3) := by decide +kernel
theorem dX3_readOrder_26 : decode cX3_readOrder 26 = .ok (.aload_n 1, 1) := by decide +kernel
theorem dX3_readOrder_27 : decode cX3_readOrder 27 = .ok (.getfield 40, 3) := by decide +kernel
theorem dX3_readOrder_30 : decode cX3_readOrder 30 = .ok (.tableswitch 148 99 115 #[119, 139, 148, 99, 148, 110, 148, 148, 148, 148, 128, 88, 148, 148, 148, 148, 82], 82) := by decide +kernel
theorem dX3_readOrder_112 : decode cX3_readOrder 112 = .ok (.aload_n 0, 1) := by decide +kernel
theorem dX3_readOrder_113 : decode cX3_readOrder 113 = .ok (.aload_n 1, 1) := by decide +kernel
theorem dX3_readOrder_114 : decode cX3_readOrder 114 = .ok (.invokevirtual 44, 3) := by decide +kernel
theorem dX3_readOrder_117 : decode cX3_readOrder 117 = .ok (.ireturn, 1) := by decide +kernel
theorem dX3_readOrder_118 : decode cX3_readOrder 118 = .ok (.aload_n 0, 1) := by decide +kernel
theorem dX3_readOrder_119 : decode cX3_readOrder 119 = .ok (.aload_n 1, 1) := by decide +kernel
theorem dX3_readOrder_120 : decode cX3_readOrder 120 = .ok (.ldc 47, 2) := by decide +kernel
theorem dX3_readOrder_122 : decode cX3_readOrder 122 = .ok (.bipush 32, 2) := by decide +kernel
theorem dX3_readOrder_124 : decode cX3_readOrder 124 = .ok (.iconst 2, 1) := by decide +kernel
theorem dX3_readOrder_125 : decode cX3_readOrder 125 = .ok (.invokevirtual 49, 3) := by decide +kernel
theorem dX3_readOrder_128 : decode cX3_readOrder 128 = .ok (.ireturn, 1) := by decide +kernel
theorem dX3_readOrder_129 : decode cX3_readOrder 129 = .ok (.aload_n 0, 1) := by decide +kernel
theorem dX3_readOrder_130 : decode cX3_readOrder 130 = .ok (.aload_n 1, 1) := by decide +kernel
theorem dX3_readOrder_131 : decode cX3_readOrder 131 = .ok (.ldc 53, 2) := by decide +kernel
theorem dX3_readOrder_133 : decode cX3_readOrder 133 = .ok (.bipush 42, 2) := by decide +kernel
theorem dX3_readOrder_135 : decode cX3_readOrder 135 = .ok (.iconst 1, 1) := by decide +kernel
theorem dX3_readOrder_136 : decode cX3_readOrder 136 = .ok (.invokevirtual 49, 3) := by decide +kernel
theorem dX3_readOrder_139 : decode cX3_readOrder 139 = .ok (.ireturn, 1) := by decide +kernel
theorem dX3_readOrder_140 : decode cX3_readOrder 140 = .ok (.aload_n 0, 1) := by decide +kernel
theorem dX3_readOrder_141 : decode cX3_readOrder 141 = .ok (.aload_n 1, 1) := by decide +kernel
theorem dX3_readOrder_142 : decode cX3_readOrder 142 = .ok (.ldc 55, 2) := by decide +kernel
theorem dX3_readOrder_144 : decode cX3_readOrder 144 = .ok (.iconst 1, 1) := by decide +kernel
theorem dX3_readOrder_145 : decode cX3_readOrder 145 = .ok (.invokevirtual 57, 3) := by decide +kernel
theorem dX3_readOrder_148 : decode cX3_readOrder 148 = .ok (.ireturn, 1) := by decide +kernel
theorem dX3_readOrder_149 : decode cX3_readOrder 149 = .ok (.aload_n 0, 1) := by decide +kernel
theorem dX3_readOrder_150 : decode cX3_readOrder 150 = .ok (.aload_n 1, 1) := by decide +kernel
theorem dX3_readOrder_151 : decode cX3_readOrder 151 = .ok (.ldc 61, 2) := by decide +kernel
theorem dX3_readOrder_153 : decode cX3_readOrder 153 = .ok (.iconst 1, 1) := by decide +kernel
theorem dX3_readOrder_154 : decode cX3_readOrder 154 = .ok (.invokevirtual 57, 3) := by decide +kernel
theorem dX3_readOrder_157 : decode cX3_readOrder 157 = .ok (.ireturn, 1) := by decide +kernel
theorem dX3_readOrder_158 : decode cX3_readOrder 158 = .ok (.aload_n 0, 1) := by decide +kernel
theorem dX3_readOrder_159 : decode cX3_readOrder 159 = .ok (.aload_n 1, 1) := by decide +kernel
theorem dX3_readOrder_160 : decode cX3_readOrder 160 = .ok (.ldc 63, 2) := by decide +kernel
theorem dX3_readOrder_162 : decode cX3_readOrder 162 = .ok (.bipush 64, 2) := by decide +kernel
theorem dX3_readOrder_164 : decode cX3_readOrder 164 = .ok (.iconst 3, 1) := by decide +kernel
theorem dX3_readOrder_165 : decode cX3_readOrder 165 = .ok (.invokevirtual 49, 3) := by decide +kernel
theorem dX3_readOrder_168 : decode cX3_readOrder 168 = .ok (.ireturn, 1) := by decide +kernel
theorem dX3_readOrder_169 : decode cX3_readOrder 169 = .ok (.aload_n 0, 1) := by decide +kernel
theorem dX3_readOrder_170 : decode cX3_readOrder 170 = .ok (.aload_n 1, 1) := by decide +kernel
theorem dX3_readOrder_171 : decode cX3_readOrder 171 = .ok (.ldc 65, 2) := by decide +kernel
theorem dX3_readOrder_173 : decode cX3_readOrder 173 = .ok (.iconst 2, 1) := by decide +kernel
theorem dX3_readOrder_174 : decode cX3_readOrder 174 = .ok (.invokevirtual 57, 3) := by decide +kernel
theorem dX3_readOrder_177 : decode cX3_readOrder 177 = .ok (.ireturn, 1) := by decide +kernel
theorem dX3_readOrder_178 : decode cX3_readOrder 178 = .ok (.iconst 0, 1) := by decide +kernel
theorem dX3_readOrder_179 : decode cX3_readOrder 179 = .ok (.ireturn, 1) := by decide +kernel
theorem dcX3_readOrder : yX3_readOrder.cls = RX3 ∧ yX3_readOrder.cls ≠ "java/lang/invoke/MethodHandle" ∧ yX3_readOrder.cls ≠ "java/lang/invoke/VarHandle" ∧ (parseMethodDescriptor yX3_readOrder.desc).map (fun d => d.parameters.length) = some 1 := by decide +kernel
theorem gX3_readOrder_154 : GoodIn wsL_law (wsV RX3 57 RX3 yX3_readOne (.code yX3_readOne cX3_readOne 4 (some .boolean) :: wsL_law)) := g_V q200 q201 q202 q23 q203
theorem gX3_readOrder_174 : GoodIn wsL_law (wsV RX3 57 RX3 yX3_readOne (.code yX3_readOne cX3_readOne 4 (some .boolean) :: wsL_law)) := g_V q200 q201 q202 q23 q203
theorem gX3_readOrder_136 : GoodIn wsL_law (wsV RX3 49 RX3 yX3_readPair (.code yX3_readPair cX3_readPair 5 (some .boolean) :: wsL_law)) := g_V q269 q270 q271 q23 q272
theorem gX3_readOrder_145 : GoodIn wsL_law (wsV RX3 57 RX3 yX3_readOne (.code yX3_readOne cX3_readOne 4 (some .boolean) :: wsL_law)) := g_V q200 q201 q202 q23 q203
theorem gX3_readOrder_165 : GoodIn wsL_law (wsV RX3 49 RX3 yX3_readPair (.code yX3_readPair cX3_readPair 5 (some .boolean) :: wsL_law)) := g_V q269 q270 q271 q23 q272
theorem gX3_readOrder_125 : GoodIn wsL_law (wsV RX3 49 RX3 yX3_readPair (.code yX3_readPair cX3_readPair 5 (some .boolean) :: wsL_law)) := g_V q269 q270 q271 q23 q272
theorem gX3_readOrder_114 : GoodIn wsL_law (wsV RX3 44 RX3 yX3_readStep (.code yX3_readStep cX3_readStep 2 (some .boolean) :: wsL_law)) := g_V q193 q194 q195 q23 q196
set_option maxRecDepth 100000 in
set_option maxHeartbeats 4000000 in
theorem K_rd {cA : Nat → ClassId} {ad : tA} {ex : va_W} {M : tM} {T : tP} {k : Nat} (hk : k < 12) (ho : okt T) (hs : oks T) : Cj yX3_readOrder cX3_readOrder 2 (some .boolean) (rmd 7) 0 0 cA ad [.ref (ad 13 0), .ref (ad 13 (3 + k))] ex (m_pl M 13 T) (Qe (some (.int (bI (f_rd T k).1))) ex (m_pl M 13 (f_rd T k).2)) := by
  refine c_of_r (lv0 := [some (.ref (ad 13 0)), some (.ref (ad 13 (3 + k)))]) rfl (by decide +kernel) (Nat.le_of_ble_eq_true rfl) rfl ?_
  by_cases c8 : T 0 1 ≤ T 0 2
  · refine r_aload_n dX3_readOrder_0 rfl ?_
    refine r_getp_ot 2 (by decide) q186 rfl dX3_readOrder_1 ?_
    refine r_aload_n dX3_readOrder_4 rfl ?_
    refine r_getp_ot 1 (by decide) q148 rfl dX3_readOrder_5 ?_
    refine r_icmp_lt (tgt := 13) dX3_readOrder_8 (by decide) (fun k8 => absurd k8 (Int32.not_lt.mpr c8)) (fun k8 => ?_)
    refine r_iconst (v := 0) dX3_readOrder_11 (by decide) ?_
    exact r_ret rfl rfl dX3_readOrder_12 (p_ans (q := f_rd T k) (if_pos c8)) (p_st (q := f_rd T k) (if_pos c8))
  · have hx : okx (T 1 (ta T)) := hs _ (okt_lt ho c8).2
    obtain ⟨q, hq, hxq⟩ := hx
    have e : f_rd T k = f_rd1 (pu T (3 + k) 0 (nI q)) k (nI q) := by rw [f_rd, if_neg c8, hxq]
    rw [e]
    have ho1 : okt (pu T (3 + k) 0 (nI q)) := kt_or.2.2.1 ho
    refine r_aload_n dX3_readOrder_0 rfl ?_
    refine r_getp_ot 2 (by decide) q186 rfl dX3_readOrder_1 ?_
    refine r_aload_n dX3_readOrder_4 rfl ?_
    refine r_getp_ot 1 (by decide) q148 rfl dX3_readOrder_5 ?_
    refine r_icmp_lt (tgt := 13) dX3_readOrder_8 (by decide) (fun k8 => ?_) (fun k8 => absurd (Int32.not_le.mp c8) k8)
    refine r_aload_n dX3_readOrder_13 rfl ?_
    refine r_aload_n dX3_readOrder_14 rfl ?_
    refine r_getp_ot 0 (by decide) q53 rfl dX3_readOrder_15 ?_
    refine r_aload_n dX3_readOrder_18 rfl ?_
    refine r_getp_ot 2 (by decide) q186 rfl dX3_readOrder_19 ?_
    refine r_ldp_os ho.1 (okt_lt ho c8).2 dX3_readOrder_22 ?_
    rw [hxq]
    refine r_putp_or (by omega) 0 (by decide) q192 rfl rfl (pk_charN hq).1 (pk_charN hq).2 rfl dX3_readOrder_23 ?_
    refine r_aload_n dX3_readOrder_26 rfl ?_
    refine r_getp_or (by omega) 0 (by decide) q192 rfl dX3_readOrder_27 ?_
    rw [pu_s]
    rcases (by omega : q < 99 ∨ 115 < q ∨ q = 99 ∨ q = 100 ∨ q = 101 ∨ q = 102 ∨ q = 103 ∨ q = 104 ∨ q = 105 ∨ q = 106 ∨ q = 107 ∨ q = 108 ∨ q = 109 ∨ q = 110 ∨ q = 111 ∨ q = 112 ∨ q = 113 ∨ q = 114 ∨ q = 115) with h | h | rfl | rfl | rfl | rfl | rfl | rfl | rfl | rfl | rfl | rfl | rfl | rfl | rfl | rfl | rfl | rfl | rfl
    · refine r_tableOut (tgt := 178) dX3_readOrder_30 (Or.inl (by rw [nI_toInt (by omega)]; omega)) (by decide) ?_
      refine r_iconst (v := 0) dX3_readOrder_178 (by decide) ?_
      exact r_ret rfl rfl dX3_readOrder_179 (p_ans (rd_no hq (by omega))) (p_st (rd_no hq (by omega)))
    · refine r_tableOut (tgt := 178) dX3_readOrder_30 (Or.inr (by rw [nI_toInt (by omega)]; omega)) (by decide) ?_
      refine r_iconst (v := 0) dX3_readOrder_178 (by decide) ?_
      exact r_ret rfl rfl dX3_readOrder_179 (p_ans (rd_no hq (by omega))) (p_st (rd_no hq (by omega)))
    · refine r_tableIn (off := 119) (tgt := 149) dX3_readOrder_30 (by decide) (by decide) (by decide) (by decide) ?_
      refine r_aload_n dX3_readOrder_149 rfl ?_
      refine r_aload_n dX3_readOrder_150 rfl ?_
      refine r_ldcS (List.mem_of_getElem? (i := 4) rfl) dX3_readOrder_151 ?_
      refine r_iconst (v := 1) dX3_readOrder_153 (by decide) ?_
      refine r_cVi dX3_readOrder_154 (K_ro (i := 4) (n := 1) hk (by omega) (by omega) ho1) gX3_readOrder_154 dcX3_readOne rfl rfl rfl (Nat.le_of_ble_eq_true rfl) ob_ot ?_
      exact r_ret rfl bI_nar dX3_readOrder_157 rfl rfl
    · refine r_tableIn (off := 139) (tgt := 169) dX3_readOrder_30 (by decide) (by decide) (by decide) (by decide) ?_
      refine r_aload_n dX3_readOrder_169 rfl ?_
      refine r_aload_n dX3_readOrder_170 rfl ?_
      refine r_ldcS (List.mem_of_getElem? (i := 6) rfl) dX3_readOrder_171 ?_
      refine r_iconst (v := 2) dX3_readOrder_173 (by decide) ?_
      refine r_cVi dX3_readOrder_174 (K_ro (i := 6) (n := 2) hk (by omega) (by omega) ho1) gX3_readOrder_174 dcX3_readOne rfl rfl rfl (Nat.le_of_ble_eq_true rfl) ob_ot ?_
      exact r_ret rfl bI_nar dX3_readOrder_177 rfl rfl
    · refine r_tableIn (off := 148) (tgt := 178) dX3_readOrder_30 (by decide) (by decide) (by decide) (by decide) ?_
      refine r_iconst (v := 0) dX3_readOrder_178 (by decide) ?_
      exact r_ret rfl rfl dX3_readOrder_179 (p_ans (rd_no hq (by omega))) (p_st (rd_no hq (by omega)))
    · refine r_tableIn (off := 99) (tgt := 129) dX3_readOrder_30 (by decide) (by decide) (by decide) (by decide) ?_
      refine r_aload_n dX3_readOrder_129 rfl ?_
      refine r_aload_n dX3_readOrder_130 rfl ?_
      refine r_ldcS (List.mem_of_getElem? (i := 2) rfl) dX3_readOrder_131 ?_
      refine r_bipush (v := 42) dX3_readOrder_133 (by decide) ?_
      refine r_iconst (v := 1) dX3_readOrder_135 (by decide) ?_
      refine r_cVi dX3_readOrder_136 (K_rp (i := 2) (n := 1) hk (by omega) (by omega) ho1) gX3_readOrder_136 dcX3_readPair rfl rfl rfl (Nat.le_of_ble_eq_true rfl) ob_ot ?_
      exact r_ret rfl bI_nar dX3_readOrder_139 rfl rfl
    · refine r_tableIn (off := 148) (tgt := 178) dX3_readOrder_30 (by decide) (by decide) (by decide) (by decide) ?_
      refine r_iconst (v := 0) dX3_readOrder_178 (by decide) ?_
      exact r_ret rfl rfl dX3_readOrder_179 (p_ans (rd_no hq (by omega))) (p_st (rd_no hq (by omega)))
    · refine r_tableIn (off := 110) (tgt := 140) dX3_readOrder_30 (by decide) (by decide) (by decide) (by decide) ?_
      refine r_aload_n dX3_readOrder_140 rfl ?_
      refine r_aload_n dX3_readOrder_141 rfl ?_
      refine r_ldcS (List.mem_of_getElem? (i := 3) rfl) dX3_readOrder_142 ?_
      refine r_iconst (v := 1) dX3_readOrder_144 (by decide) ?_
      refine r_cVi dX3_readOrder_145 (K_ro (i := 3) (n := 1) hk (by omega) (by omega) ho1) gX3_readOrder_145 dcX3_readOne rfl rfl rfl (Nat.le_of_ble_eq_true rfl) ob_ot ?_
      exact r_ret rfl bI_nar dX3_readOrder_148 rfl rfl
    · refine r_tableIn (off := 148) (tgt := 178) dX3_readOrder_30 (by decide) (by decide) (by decide) (by decide) ?_
      refine r_iconst (v := 0) dX3_readOrder_178 (by decide) ?_
      exact r_ret rfl rfl dX3_readOrder_179 (p_ans (rd_no hq (by omega))) (p_st (rd_no hq (by omega)))
    · refine r_tableIn (off := 148) (tgt := 178) dX3_readOrder_30 (by decide) (by decide) (by decide) (by decide) ?_
      refine r_iconst (v := 0) dX3_readOrder_178 (by decide) ?_
      exact r_ret rfl rfl dX3_readOrder_179 (p_ans (rd_no hq (by omega))) (p_st (rd_no hq (by omega)))
    · refine r_tableIn (off := 148) (tgt := 178) dX3_readOrder_30 (by decide) (by decide) (by decide) (by decide) ?_
      refine r_iconst (v := 0) dX3_readOrder_178 (by decide) ?_
      exact r_ret rfl rfl dX3_readOrder_179 (p_ans (rd_no hq (by omega))) (p_st (rd_no hq (by omega)))
    · refine r_tableIn (off := 148) (tgt := 178) dX3_readOrder_30 (by decide) (by decide) (by decide) (by decide) ?_
      refine r_iconst (v := 0) dX3_readOrder_178 (by decide) ?_
      exact r_ret rfl rfl dX3_readOrder_179 (p_ans (rd_no hq (by omega))) (p_st (rd_no hq (by omega)))
    · refine r_tableIn (off := 128) (tgt := 158) dX3_readOrder_30 (by decide) (by decide) (by decide) (by decide) ?_
      refine r_aload_n dX3_readOrder_158 rfl ?_
      refine r_aload_n dX3_readOrder_159 rfl ?_
      refine r_ldcS (List.mem_of_getElem? (i := 5) rfl) dX3_readOrder_160 ?_
      refine r_bipush (v := 64) dX3_readOrder_162 (by decide) ?_
      refine r_iconst (v := 3) dX3_readOrder_164 (by decide) ?_
      refine r_cVi dX3_readOrder_165 (K_rp (i := 5) (n := 3) hk (by omega) (by omega) ho1) gX3_readOrder_165 dcX3_readPair rfl rfl rfl (Nat.le_of_ble_eq_true rfl) ob_ot ?_
      exact r_ret rfl bI_nar dX3_readOrder_168 rfl rfl
    · refine r_tableIn (off := 88) (tgt := 118) dX3_readOrder_30 (by decide) (by decide) (by decide) (by decide) ?_
      refine r_aload_n dX3_readOrder_118 rfl ?_
      refine r_aload_n dX3_readOrder_119 rfl ?_
      refine r_ldcS (List.mem_of_getElem? (i := 1) rfl) dX3_readOrder_120 ?_
      refine r_bipush (v := 32) dX3_readOrder_122 (by decide) ?_
      refine r_iconst (v := 2) dX3_readOrder_124 (by decide) ?_
      refine r_cVi dX3_readOrder_125 (K_rp (i := 1) (n := 2) hk (by omega) (by omega) ho1) gX3_readOrder_125 dcX3_readPair rfl rfl rfl (Nat.le_of_ble_eq_true rfl) ob_ot ?_
      exact r_ret rfl bI_nar dX3_readOrder_128 rfl rfl
    · refine r_tableIn (off := 148) (tgt := 178) dX3_readOrder_30 (by decide) (by decide) (by decide) (by decide) ?_
      refine r_iconst (v := 0) dX3_readOrder_178 (by decide) ?_
      exact r_ret rfl rfl dX3_readOrder_179 (p_ans (rd_no hq (by omega))) (p_st (rd_no hq (by omega)))
    · refine r_tableIn (off := 148) (tgt := 178) dX3_readOrder_30 (by decide) (by decide) (by decide) (by decide) ?_
      refine r_iconst (v := 0) dX3_readOrder_178 (by decide) ?_
      exact r_ret rfl rfl dX3_readOrder_179 (p_ans (rd_no hq (by omega))) (p_st (rd_no hq (by omega)))
    · refine r_tableIn (off := 148) (tgt := 178) dX3_readOrder_30 (by decide) (by decide) (by decide) (by decide) ?_
      refine r_iconst (v := 0) dX3_readOrder_178 (by decide) ?_
      exact r_ret rfl rfl dX3_readOrder_179 (p_ans (rd_no hq (by omega))) (p_st (rd_no hq (by omega)))
    · refine r_tableIn (off := 148) (tgt := 178) dX3_readOrder_30 (by decide) (by decide) (by decide) (by decide) ?_
      refine r_iconst (v := 0) dX3_readOrder_178 (by decide) ?_
      exact r_ret rfl rfl dX3_readOrder_179 (p_ans (rd_no hq (by omega))) (p_st (rd_no hq (by omega)))
    · refine r_tableIn (off := 82) (tgt := 112) dX3_readOrder_30 (by decide) (by decide) (by decide) (by decide) ?_
      refine r_aload_n dX3_readOrder_112 rfl ?_
      refine r_aload_n dX3_readOrder_113 rfl ?_
      refine r_cVi dX3_readOrder_114 (K_rs hk ho1) gX3_readOrder_114 dcX3_readStep rfl rfl rfl (Nat.le_of_ble_eq_true rfl) ob_ot ?_
      exact r_ret rfl bI_nar dX3_readOrder_117 rfl rfl
def lp_ros : Nat → Nat → tP → Int32 × tP
  | 0, _, T => (T 0 2, T)
  | n + 1, k, T =>
    let T1 := (f_rd T k).2
    let T2 := pu T1 0 4 (T1 0 4 + 1)
    if (f_rd T k).1 = false then (T1 0 2, T1)
    else if T2 0 1 ≤ T2 0 2 then (-1, T2)
    else if (f_ts T2 59).1 = false then ((f_ts T2 59).2 0 2, (f_ts T2 59).2)
    else lp_ros n (k + 1) (f_ts T2 59).2
def f_ros (T : tP) : Int32 × tP := lp_ros 12 0 (pu (pu T 0 2 0) 0 4 0)
section
variable {n k : Nat} {T T1 T2 : tP}
theorem ros_1 (h : bI (f_rd T k).1 = 0) : lp_ros (n + 1) k T = ((f_rd T k).2 0 2, (f_rd T k).2) := by rw [lp_ros, bI_0 h]; rfl
theorem ros_2 (h : ¬ bI (f_rd T k).1 = 0) (e : T2 = pu (f_rd T k).2 0 4 ((f_rd T k).2 0 4 + 1)) (h2 : T2 0 1 ≤ T2 0 2) : lp_ros (n + 1) k T = (-1, T2) := by subst e; rw [lp_ros]; rw [bI_1 h, if_neg (by decide), if_pos h2]
theorem ros_3 (h : ¬ bI (f_rd T k).1 = 0) (e : T2 = pu (f_rd T k).2 0 4 ((f_rd T k).2 0 4 + 1)) (h2 : ¬ T2 0 1 ≤ T2 0 2) (h3 : bI (f_ts T2 59).1 = 0) : lp_ros (n + 1) k T = ((f_ts T2 59).2 0 2, (f_ts T2 59).2) := by subst e; rw [lp_ros]; rw [bI_1 h, if_neg (by decide), if_neg h2, bI_0 h3, if_pos rfl]
theorem ros_4 (h : ¬ bI (f_rd T k).1 = 0) (e : T2 = pu (f_rd T k).2 0 4 ((f_rd T k).2 0 4 + 1)) (h2 : ¬ T2 0 1 ≤ T2 0 2) (h3 : ¬ bI (f_ts T2 59).1 = 0) : lp_ros (n + 1) k T = lp_ros n (k + 1) (f_ts T2 59).2 := by subst e; rw [lp_ros]; rw [bI_1 h, if_neg (by decide), if_neg h2, bI_1 h3, if_neg (by decide)]
end
theorem p_a2 {q : Int32 × tP} {b : Int32} {T : tP} (h : q = (b, T)) : b = q.1 := by rw [h]
theorem p_s2 {M : tM} {r : Nat} {q : Int32 × tP} {b : Int32} {T : tP} (h : q = (b, T)) : m_pl M r T = m_pl M r q.2 := by rw [h]
def ktx (T T' : tP) : Prop := T' 0 1 = T 0 1 ∧ T' 1 = T 1 ∧ (okt T → okt T')
theorem ktx_kt {T T' : tP} (h : kt T T') : ktx T T' := ⟨h.1, h.2.1, h.2.2.1⟩
theorem ktx_tr {T T' T'' : tP} (h : ktx T T') (h2 : ktx T' T'') : ktx T T'' := ⟨h2.1.trans h.1, h2.2.1.trans h.2.1, fun o => h2.2.2 (h.2.2 o)⟩
theorem ktx_4 {T : tP} {x : Int32} : ktx T (pu T 0 4 x) := ⟨pu_k (by omega), pu_jj (by omega), fun h => okt_of (T := pu T 0 4 x) ((pu_k (by omega)).trans h.1) h.2.1 ((pu_k (by omega)).trans h.2.2.1) h.2.2.2⟩
theorem ktx_s {T T' : tP} (h : ktx T T') (o : oks T) : oks T' := fun i hi => by rw [h.2.1]; exact o i hi
theorem ktx_ros : ∀ (n k : Nat) (T : tP), ktx T (lp_ros n k T).2 := by
  intro n
  induction n with
  | zero => intro k T; exact ktx_kt kt_rfl
  | succ n ih =>
    intro k T
    have h1 : ktx T (f_rd T k).2 := ktx_kt kt_rd
    have h2 : ktx T (pu (f_rd T k).2 0 4 ((f_rd T k).2 0 4 + 1)) := ktx_tr h1 ktx_4
    have h3 := ktx_tr h2 (ktx_kt (kt_ts (c := 59)))
    rw [lp_ros]
    split
    · exact h1
    · split
      · exact h2
      · split
        · exact h3
        · exact ktx_tr h3 (ih _ _)
theorem dX3_readOrders_0 : decode cX3_readOrders 0 = .ok (.aload_n 0, 1) := by decide +kernel
theorem dX3_readOrders_1 : decode cX3_readOrders 1 = .ok (.iconst 0, 1) := by decide +kernel
theorem dX3_readOrders_2 : decode cX3_readOrders 2 = .ok (.putfield 26, 3) := by decide +kernel
theorem dX3_readOrders_5 : decode cX3_readOrders 5 = .ok (.aload_n 0, 1) := by decide +kernel
theorem dX3_readOrders_6 : decode cX3_readOrders 6 = .ok (.iconst 0, 1) := by decide +kernel
theorem dX3_readOrders_7 : decode cX3_readOrders 7 = .ok (.putfield 29, 3) := by decide +kernel
theorem dX3_readOrders_10 : decode cX3_readOrders 10 = .ok (.iconst 0, 1) := by decide +kernel
theorem dX3_readOrders_11 : decode cX3_readOrders 11 = .ok (.istore_n 1, 1) := by decide +kernel
theorem dX3_readOrders_12 : decode cX3_readOrders 12 = .ok (.iload_n 1, 1) := by decide +kernel
theorem dX3_readOrders_13 : decode cX3_readOrders 13 = .ok (.bipush 12, 2) := by decide +kernel
theorem dX3_readOrders_15 : decode cX3_readOrders 15 = .ok (.if_icmp .ge 64, 3) := by decide +kernel
theorem dX3_readOrders_18 : decode cX3_readOrders 18 = .ok (.aload_n 0, 1) := by decide +kernel
theorem dX3_readOrders_19 : decode cX3_readOrders 19 = .ok (.aload_n 0, 1) := by decide +kernel
theorem dX3_readOrders_20 : decode cX3_readOrders 20 = .ok (.getfield 17, 3) := by decide +kernel
theorem dX3_readOrders_23 : decode cX3_readOrders 23 = .ok (.iload_n 1, 1) := by decide +kernel
theorem dX3_readOrders_24 : decode cX3_readOrders 24 = .ok (.aaload, 1) := by decide +kernel
theorem dX3_readOrders_25 : decode cX3_readOrders 25 = .ok (.invokevirtual 32, 3) := by decide +kernel
theorem dX3_readOrders_28 : decode cX3_readOrders 28 = .ok (.ifCond .ne 8, 3) := by decide +kernel
theorem dX3_readOrders_31 : decode cX3_readOrders 31 = .ok (.aload_n 0, 1) := by decide +kernel
theorem dX3_readOrders_32 : decode cX3_readOrders 32 = .ok (.getfield 26, 3) := by decide +kernel
theorem dX3_readOrders_35 : decode cX3_readOrders 35 = .ok (.ireturn, 1) := by decide +kernel
theorem dX3_readOrders_36 : decode cX3_readOrders 36 = .ok (.aload_n 0, 1) := by decide +kernel
theorem dX3_readOrders_37 : decode cX3_readOrders 37 = .ok (.dup, 1) := by decide +kernel
theorem dX3_readOrders_38 : decode cX3_readOrders 38 = .ok (.getfield 29, 3) := by decide +kernel
theorem dX3_readOrders_41 : decode cX3_readOrders 41 = .ok (.iconst 1, 1) := by decide +kernel
theorem dX3_readOrders_42 : decode cX3_readOrders 42 = .ok (.iadd, 1) := by decide +kernel
theorem dX3_readOrders_43 : decode cX3_readOrders 43 = .ok (.putfield 29, 3) := by decide +kernel
theorem dX3_readOrders_46 : decode cX3_readOrders 46 = .ok (.aload_n 0, 1) := by decide +kernel
theorem dX3_readOrders_47 : decode cX3_readOrders 47 = .ok (.getfield 26, 3) := by decide +kernel
theorem dX3_readOrders_50 : decode cX3_readOrders 50 = .ok (.aload_n 0, 1) := by decide +kernel
theorem dX3_readOrders_51 : decode cX3_readOrders 51 = .ok (.getfield 22, 3) := by decide +kernel
theorem dX3_readOrders_54 : decode cX3_readOrders 54 = .ok (.if_icmp .lt 5, 3) := by decide +kernel
theorem dX3_readOrders_57 : decode cX3_readOrders 57 = .ok (.iconst (-1), 1) := by decide +kernel
theorem dX3_readOrders_58 : decode cX3_readOrders 58 = .ok (.ireturn, 1) := by decide +kernel
theorem dX3_readOrders_59 : decode cX3_readOrders 59 = .ok (.aload_n 0, 1) := by decide +kernel
theorem dX3_readOrders_60 : decode cX3_readOrders 60 = .ok (.bipush 59, 2) := by decide +kernel
theorem dX3_readOrders_62 : decode cX3_readOrders 62 = .ok (.invokevirtual 36, 3) := by decide +kernel
theorem dX3_readOrders_65 : decode cX3_readOrders 65 = .ok (.ifCond .ne 8, 3) := by decide +kernel
theorem dX3_readOrders_68 : decode cX3_readOrders 68 = .ok (.aload_n 0, 1) := by decide +kernel
theorem dX3_readOrders_69 : decode cX3_readOrders 69 = .ok (.getfield 26, 3) := by decide +kernel
theorem dX3_readOrders_72 : decode cX3_readOrders 72 = .ok (.ireturn, 1) := by decide +kernel
theorem dX3_readOrders_73 : decode cX3_readOrders 73 = .ok (.iinc 1 1, 3) := by decide +kernel
theorem dX3_readOrders_76 : decode cX3_readOrders 76 = .ok (.goto (-64), 3) := by decide +kernel
theorem dX3_readOrders_79 : decode cX3_readOrders 79 = .ok (.aload_n 0, 1) := by decide +kernel
theorem dX3_readOrders_80 : decode cX3_readOrders 80 = .ok (.getfield 26, 3) := by decide +kernel
theorem dX3_readOrders_83 : decode cX3_readOrders 83 = .ok (.ireturn, 1) := by decide +kernel
theorem dcX3_readOrders : yX3_readOrders.cls = RX3 ∧ yX3_readOrders.cls ≠ "java/lang/invoke/MethodHandle" ∧ yX3_readOrders.cls ≠ "java/lang/invoke/VarHandle" ∧ (parseMethodDescriptor yX3_readOrders.desc).map (fun d => d.parameters.length) = some 0 := by decide +kernel
theorem gX3_readOrders_25 : GoodIn wsL_law (wsV RX3 32 RX3 yX3_readOrder (.code yX3_readOrder cX3_readOrder 2 (some .boolean) :: wsL_law)) := g_V q188 q189 q190 q23 q191
theorem gX3_readOrders_62 : GoodIn wsL_law (wsV RX3 36 RX3 yX3_takeSign (.code yX3_takeSign cX3_takeSign 2 (some .boolean) :: wsL_law)) := g_V q258 q259 q260 q23 q261
set_option maxRecDepth 100000 in
set_option maxHeartbeats 4000000 in
theorem K_ros {cA : Nat → ClassId} {ad : tA} {ex : va_W} {M : tM} {T0 : tP} (hl1 : T0 0 1 = nI (tl T0)) (hl2 : tl T0 ≤ 60) (hs : oks T0) : Cj yX3_readOrders cX3_readOrders 2 (some .int) (rmd 8) 0 0 cA ad [.ref (ad 13 0)] ex (m_pl M 13 T0) (Qe (some (.int (f_ros T0).1)) ex (m_pl M 13 (f_ros T0).2)) := by
  refine c_of_r (lv0 := [some (.ref (ad 13 0)), none]) rfl (by decide +kernel) (Nat.le_of_ble_eq_true rfl) rfl ?_
  have L : ∀ (n k : Nat) (T : tP), k + n = 12 → okt T → oks T → lp_ros n k T = f_ros T0 → Rj cX3_readOrders RX3 2 (some .int) (rmd 8) 0 0 cA ad (Qe (some (.int (f_ros T0).1)) ex (m_pl M 13 (f_ros T0).2)) ex 0 0 12 [some (.ref (ad 13 0)), some (.int (nI k))] [] (m_pl M 13 T) := by
    intro n
    induction n with
    | zero =>
      intro k T h ho hs hT
      refine r_iload_n dX3_readOrders_12 rfl ?_
      refine r_bipush (v := 12) dX3_readOrders_13 (by decide) ?_
      refine r_icmp_ge (tgt := 79) dX3_readOrders_15 (by decide) (fun c15 => ?_) (fun c15 => absurd (lp_z (x := 12) (c := 12) rfl h) c15)
      refine r_aload_n dX3_readOrders_79 rfl ?_
      refine r_getp_ot 2 (by decide) q186 rfl dX3_readOrders_80 ?_
      exact r_ret rfl rfl dX3_readOrders_83 (p_a2 (q := f_ros T0) (hT.symm.trans rfl)) (p_s2 (q := f_ros T0) (hT.symm.trans rfl))
    | succ n ih =>
      intro k T h ho hs hT
      have hk1 := ktx_kt (kt_rd (T := T) (k := k))
      have hk2 := ktx_tr hk1 (ktx_4 (x := (f_rd T k).2 0 4 + 1))
      have hk3 := ktx_tr hk2 (ktx_kt (kt_ts (c := 59)))
      refine r_iload_n dX3_readOrders_12 rfl ?_
      refine r_bipush (v := 12) dX3_readOrders_13 (by decide) ?_
      refine r_icmp_ge (tgt := 79) dX3_readOrders_15 (by decide) (fun c15 => absurd c15 (lp_s (x := 12) (c := 12) rfl (by omega) h)) (fun c15 => ?_)
      refine r_aload_n dX3_readOrders_18 rfl ?_
      refine r_aload_n dX3_readOrders_19 rfl ?_
      refine r_getp_ot 3 (by decide) q55 rfl dX3_readOrders_20 ?_
      refine r_iload_n dX3_readOrders_23 rfl ?_
      refine r_ald_orders rfl (by omega) dX3_readOrders_24 ?_
      refine r_cVi dX3_readOrders_25 (K_rd (k := k) (by omega) ho hs) gX3_readOrders_25 dcX3_readOrder rfl rfl rfl (Nat.le_of_ble_eq_true rfl) ob_ot ?_
      refine r_if_ne (tgt := 36) dX3_readOrders_28 (by decide) (fun c28 => ?_) (fun c28 => ?_)
      · refine r_aload_n dX3_readOrders_36 rfl ?_
        refine r_dup dX3_readOrders_37 rfl ?_
        refine r_getp_ot 4 (by decide) q187 rfl dX3_readOrders_38 ?_
        refine r_iconst (v := 1) dX3_readOrders_41 (by decide) ?_
        refine r_iadd dX3_readOrders_42 ?_
        refine r_putp_ot 4 (by decide) q187 rfl rfl rfl rfl rfl dX3_readOrders_43 ?_
        refine r_aload_n dX3_readOrders_46 rfl ?_
        refine r_getp_ot 2 (by decide) q186 rfl dX3_readOrders_47 ?_
        refine r_aload_n dX3_readOrders_50 rfl ?_
        refine r_getp_ot 1 (by decide) q148 rfl dX3_readOrders_51 ?_
        refine r_icmp_lt (tgt := 59) dX3_readOrders_54 (by decide) (fun c54 => ?_) (fun c54 => ?_)
        · refine r_aload_n dX3_readOrders_59 rfl ?_
          refine r_bipush (v := 59) dX3_readOrders_60 (by decide) ?_
          refine r_cVi dX3_readOrders_62 (K_ts (hk2.2.2 ho)) gX3_readOrders_62 dcX3_takeSign rfl rfl rfl (Nat.le_of_ble_eq_true rfl) ob_ot ?_
          refine r_if_ne (tgt := 73) dX3_readOrders_65 (by decide) (fun c65 => ?_) (fun c65 => ?_)
          · refine r_iinc dX3_readOrders_73 rfl ii_s (by decide) rfl ?_
            refine r_goto (tgt := 12) dX3_readOrders_76 (by decide) ?_
            exact ih (k + 1) _ (by omega) (hk3.2.2 ho) (ktx_s hk3 hs) ((ros_4 c28 rfl (Int32.not_le.mpr c54) c65).symm.trans hT)
          · refine r_aload_n dX3_readOrders_68 rfl ?_
            refine r_getp_ot 2 (by decide) q186 rfl dX3_readOrders_69 ?_
            exact r_ret rfl rfl dX3_readOrders_72 (p_a2 (q := f_ros T0) (hT.symm.trans (ros_3 c28 rfl (Int32.not_le.mpr c54) c65))) (p_s2 (q := f_ros T0) (hT.symm.trans (ros_3 c28 rfl (Int32.not_le.mpr c54) c65)))
        · refine r_iconst (v := -1) dX3_readOrders_57 (by decide) ?_
          exact r_ret rfl rfl dX3_readOrders_58 (p_a2 (q := f_ros T0) (hT.symm.trans (ros_2 c28 rfl (Int32.not_lt.mp c54)))) (p_s2 (q := f_ros T0) (hT.symm.trans (ros_2 c28 rfl (Int32.not_lt.mp c54))))
      · refine r_aload_n dX3_readOrders_31 rfl ?_
        refine r_getp_ot 2 (by decide) q186 rfl dX3_readOrders_32 ?_
        exact r_ret rfl rfl dX3_readOrders_35 (p_a2 (q := f_ros T0) (hT.symm.trans (ros_1 c28))) (p_s2 (q := f_ros T0) (hT.symm.trans (ros_1 c28)))
  have hz : okt (pu (pu T0 0 2 0) 0 4 0) := ktx_4.2.2 (okt_of (T := pu T0 0 2 0) (a := 0) (l := tl T0) pu_s (by omega) ((pu_k (by omega)).trans hl1) hl2)
  refine r_aload_n dX3_readOrders_0 rfl ?_
  refine r_iconst (v := 0) dX3_readOrders_1 (by decide) ?_
  refine r_putp_ot 2 (by decide) q186 rfl rfl rfl rfl rfl dX3_readOrders_2 ?_
  refine r_aload_n dX3_readOrders_5 rfl ?_
  refine r_iconst (v := 0) dX3_readOrders_6 (by decide) ?_
  refine r_putp_ot 4 (by decide) q187 rfl rfl rfl rfl rfl dX3_readOrders_7 ?_
  refine r_iconst (v := 0) dX3_readOrders_10 (by decide) ?_
  refine r_istore_n dX3_readOrders_11 (by decide) rfl ?_
  exact L 12 0 _ (by omega) hz (fun i hi => by rw [pu_jj (by omega), pu_jj (by omega)]; exact hs i hi) rfl
def f_as (T : tP) (c : Int32) : tP := let T1 := pu T 1 (tl T) c; pu T1 0 1 (T1 0 1 + 1)
theorem dX3_addSign_0 : decode cX3_addSign 0 = .ok (.aload_n 0, 1) := by decide +kernel
theorem dX3_addSign_1 : decode cX3_addSign 1 = .ok (.getfield 9, 3) := by decide +kernel
theorem dX3_addSign_4 : decode cX3_addSign 4 = .ok (.aload_n 0, 1) := by decide +kernel
theorem dX3_addSign_5 : decode cX3_addSign 5 = .ok (.getfield 22, 3) := by decide +kernel
theorem dX3_addSign_8 : decode cX3_addSign 8 = .ok (.iload_n 1, 1) := by decide +kernel
theorem dX3_addSign_9 : decode cX3_addSign 9 = .ok (.castore, 1) := by decide +kernel
theorem dX3_addSign_10 : decode cX3_addSign 10 = .ok (.aload_n 0, 1) := by decide +kernel
theorem dX3_addSign_11 : decode cX3_addSign 11 = .ok (.dup, 1) := by decide +kernel
theorem dX3_addSign_12 : decode cX3_addSign 12 = .ok (.getfield 22, 3) := by decide +kernel
theorem dX3_addSign_15 : decode cX3_addSign 15 = .ok (.iconst 1, 1) := by decide +kernel
theorem dX3_addSign_16 : decode cX3_addSign 16 = .ok (.iadd, 1) := by decide +kernel
theorem dX3_addSign_17 : decode cX3_addSign 17 = .ok (.putfield 22, 3) := by decide +kernel
theorem dX3_addSign_20 : decode cX3_addSign 20 = .ok (.return_, 1) := by decide +kernel
theorem dcX3_addSign : yX3_addSign.cls = RX3 ∧ yX3_addSign.cls ≠ "java/lang/invoke/MethodHandle" ∧ yX3_addSign.cls ≠ "java/lang/invoke/VarHandle" ∧ (parseMethodDescriptor yX3_addSign.desc).map (fun d => d.parameters.length) = some 1 := by decide +kernel
set_option maxRecDepth 100000 in
set_option maxHeartbeats 4000000 in
theorem K_as {cA : Nat → ClassId} {ad : tA} {ex : va_W} {M : tM} {T : tP} {c : Int32} (hc : okx c) (hl1 : T 0 1 = nI (tl T)) (hl2 : tl T < 60) : Cj yX3_addSign cX3_addSign 2 none (rmd 0) 0 0 cA ad [.ref (ad 13 0), .int c] ex (m_pl M 13 T) (Qe none ex (m_pl M 13 (f_as T c))) := by
  refine c_of_r (lv0 := [some (.ref (ad 13 0)), some (.int c)]) rfl (by decide +kernel) (Nat.le_of_ble_eq_true rfl) rfl ?_
  refine r_aload_n dX3_addSign_0 rfl ?_
  refine r_getp_ot 0 (by decide) q53 rfl dX3_addSign_1 ?_
  refine r_aload_n dX3_addSign_4 rfl ?_
  refine r_getp_ot 1 (by decide) q148 rfl dX3_addSign_5 ?_
  refine r_iload_n dX3_addSign_8 rfl ?_
  refine r_strp_os hl1 hl2 (okx_vp hc) dX3_addSign_9 ?_
  refine r_aload_n dX3_addSign_10 rfl ?_
  refine r_dup dX3_addSign_11 rfl ?_
  refine r_getp_ot 1 (by decide) q148 rfl dX3_addSign_12 ?_
  refine r_iconst (v := 1) dX3_addSign_15 (by decide) ?_
  refine r_iadd dX3_addSign_16 ?_
  refine r_putp_ot 1 (by decide) q148 rfl rfl rfl rfl rfl dX3_addSign_17 ?_
  exact r_retv rfl dX3_addSign_20 rfl
def ll (N : tP) : Nat := (N 0 1).toNatClampNeg
def okl (N : tP) : Prop := N 0 1 = nI (ll N) ∧ ll N ≤ 64
def f_ps (N : tP) (c : Int32) : tP := if 64 ≤ N 0 1 then N else pu (pu N 1 (ll N) c) 0 1 (pu N 1 (ll N) c 0 1 + 1)
theorem okl_ps {N : tP} {c : Int32} (h : okl N) : okl (f_ps N c) := by
  unfold f_ps
  split
  · exact h
  · rename_i h2
    have h3 : ll N < 64 := by
      rw [h.1] at h2
      have : ¬ 64 ≤ ll N := fun e => h2 (nI_le (a := 64) e (by have := h.2; omega))
      omega
    have e : pu (pu N 1 (ll N) c) 0 1 (pu N 1 (ll N) c 0 1 + 1) 0 1 = nI (ll N + 1) := by rw [pu_s, pu_j (by omega), h.1]; exact nI_1 _
    have e2 : ll (pu (pu N 1 (ll N) c) 0 1 (pu N 1 (ll N) c 0 1 + 1)) = ll N + 1 := by rw [ll, e]; exact nI_clamp (by omega)
    exact ⟨by rw [e2]; exact e, by rw [e2]; omega⟩
theorem okl_lt {N : tP} (h : okl N) (h2 : ¬ 64 ≤ N 0 1) : ll N < 64 := by
  rw [h.1] at h2
  have : ¬ 64 ≤ ll N := fun e => h2 (nI_le (a := 64) e (by have := h.2; omega))
  omega
def c16 (x : Int32) : Int32 := (x.toUInt32 % 65536).toInt32
theorem c16_x {x : Int32} : okx (c16 x) := ⟨x.toBitVec.toNat % 65536, Nat.mod_lt _ (by omega), pk_char x⟩
def f_pn (N : tP) (x : Int32) : tP := if x < 10 then f_ps N (c16 (48 + (x - x / 10 * 10))) else f_ps (f_ps N (c16 (48 + x / 10))) (c16 (48 + (x - x / 10 * 10)))
theorem okl_pn {N : tP} {x : Int32} (h : okl N) : okl (f_pn N x) := by
  unfold f_pn
  split
  · exact okl_ps h
  · exact okl_ps (okl_ps h)
theorem kI {q : Nat} (h : q < 65536) : okx (nI q) := ⟨q, h, rfl⟩
theorem dX1_putSign_0 : decode cX1_putSign 0 = .ok (.aload_n 0, 1) := by decide +kernel
theorem dX1_putSign_1 : decode cX1_putSign 1 = .ok (.getfield 54, 3) := by decide +kernel
theorem dX1_putSign_4 : decode cX1_putSign 4 = .ok (.bipush 64, 2) := by decide +kernel
theorem dX1_putSign_6 : decode cX1_putSign 6 = .ok (.if_icmp .ge 23, 3) := by decide +kernel
theorem dX1_putSign_9 : decode cX1_putSign 9 = .ok (.aload_n 0, 1) := by decide +kernel
theorem dX1_putSign_10 : decode cX1_putSign 10 = .ok (.getfield 9, 3) := by decide +kernel
theorem dX1_putSign_13 : decode cX1_putSign 13 = .ok (.aload_n 0, 1) := by decide +kernel
theorem dX1_putSign_14 : decode cX1_putSign 14 = .ok (.getfield 54, 3) := by decide +kernel
theorem dX1_putSign_17 : decode cX1_putSign 17 = .ok (.iload_n 1, 1) := by decide +kernel
theorem dX1_putSign_18 : decode cX1_putSign 18 = .ok (.castore, 1) := by decide +kernel
theorem dX1_putSign_19 : decode cX1_putSign 19 = .ok (.aload_n 0, 1) := by decide +kernel
theorem dX1_putSign_20 : decode cX1_putSign 20 = .ok (.dup, 1) := by decide +kernel
theorem dX1_putSign_21 : decode cX1_putSign 21 = .ok (.getfield 54, 3) := by decide +kernel
theorem dX1_putSign_24 : decode cX1_putSign 24 = .ok (.iconst 1, 1) := by decide +kernel
theorem dX1_putSign_25 : decode cX1_putSign 25 = .ok (.iadd, 1) := by decide +kernel
theorem dX1_putSign_26 : decode cX1_putSign 26 = .ok (.putfield 54, 3) := by decide +kernel
theorem dX1_putSign_29 : decode cX1_putSign 29 = .ok (.return_, 1) := by decide +kernel
theorem dcX1_putSign : yX1_putSign.cls = RX1 ∧ yX1_putSign.cls ≠ "java/lang/invoke/MethodHandle" ∧ yX1_putSign.cls ≠ "java/lang/invoke/VarHandle" ∧ (parseMethodDescriptor yX1_putSign.desc).map (fun d => d.parameters.length) = some 1 := by decide +kernel
set_option maxRecDepth 100000 in
set_option maxHeartbeats 4000000 in
theorem K_ps {cA : Nat → ClassId} {ad : tA} {ex : va_W} {M : tM} {N : tP} {c : Int32} (hc : okx c) (hl : okl N) : Cj yX1_putSign cX1_putSign 2 none (rmd 0) 0 0 cA ad [.ref (ad 14 0), .int c] ex (m_pl M 14 N) (Qe none ex (m_pl M 14 (f_ps N c))) := by
  refine c_of_r (lv0 := [some (.ref (ad 14 0)), some (.int c)]) rfl (by decide +kernel) (Nat.le_of_ble_eq_true rfl) rfl ?_
  refine r_aload_n dX1_putSign_0 rfl ?_
  refine r_getp_ln 1 (by decide) q579 rfl dX1_putSign_1 ?_
  refine r_bipush (v := 64) dX1_putSign_4 (by decide) ?_
  refine r_icmp_ge (tgt := 29) dX1_putSign_6 (by decide) (fun c6 => ?_) (fun c6 => ?_)
  · first | exact r_retv rfl dX1_putSign_29 (congrArg (m_pl M 14) (if_pos c6).symm) | exact r_retv rfl dX1_putSign_29 (congrArg (m_pl M 14) (if_neg c6).symm)
  · refine r_aload_n dX1_putSign_9 rfl ?_
    refine r_getp_ln 0 (by decide) q64 rfl dX1_putSign_10 ?_
    refine r_aload_n dX1_putSign_13 rfl ?_
    refine r_getp_ln 1 (by decide) q579 rfl dX1_putSign_14 ?_
    refine r_iload_n dX1_putSign_17 rfl ?_
    refine r_strp_ls hl.1 (okl_lt hl c6) (okx_vp hc) dX1_putSign_18 ?_
    refine r_aload_n dX1_putSign_19 rfl ?_
    refine r_dup dX1_putSign_20 rfl ?_
    refine r_getp_ln 1 (by decide) q579 rfl dX1_putSign_21 ?_
    refine r_iconst (v := 1) dX1_putSign_24 (by decide) ?_
    refine r_iadd dX1_putSign_25 ?_
    refine r_putp_ln 1 (by decide) q579 rfl rfl rfl rfl rfl dX1_putSign_26 ?_
    first | exact r_retv rfl dX1_putSign_29 (congrArg (m_pl M 14) (if_pos c6).symm) | exact r_retv rfl dX1_putSign_29 (congrArg (m_pl M 14) (if_neg c6).symm)
theorem dX1_putNumber_0 : decode cX1_putNumber 0 = .ok (.iload_n 1, 1) := by decide +kernel
theorem dX1_putNumber_1 : decode cX1_putNumber 1 = .ok (.bipush 10, 2) := by decide +kernel
theorem dX1_putNumber_3 : decode cX1_putNumber 3 = .ok (.if_icmp .lt 15, 3) := by decide +kernel
theorem dX1_putNumber_6 : decode cX1_putNumber 6 = .ok (.aload_n 0, 1) := by decide +kernel
theorem dX1_putNumber_7 : decode cX1_putNumber 7 = .ok (.bipush 48, 2) := by decide +kernel
theorem dX1_putNumber_9 : decode cX1_putNumber 9 = .ok (.iload_n 1, 1) := by decide +kernel
theorem dX1_putNumber_10 : decode cX1_putNumber 10 = .ok (.bipush 10, 2) := by decide +kernel
theorem dX1_putNumber_12 : decode cX1_putNumber 12 = .ok (.idiv, 1) := by decide +kernel
theorem dX1_putNumber_13 : decode cX1_putNumber 13 = .ok (.iadd, 1) := by decide +kernel
theorem dX1_putNumber_14 : decode cX1_putNumber 14 = .ok (.i2c, 1) := by decide +kernel
theorem dX1_putNumber_15 : decode cX1_putNumber 15 = .ok (.invokevirtual 19, 3) := by decide +kernel
theorem dX1_putNumber_18 : decode cX1_putNumber 18 = .ok (.aload_n 0, 1) := by decide +kernel
theorem dX1_putNumber_19 : decode cX1_putNumber 19 = .ok (.bipush 48, 2) := by decide +kernel
theorem dX1_putNumber_21 : decode cX1_putNumber 21 = .ok (.iload_n 1, 1) := by decide +kernel
theorem dX1_putNumber_22 : decode cX1_putNumber 22 = .ok (.bipush 10, 2) := by decide +kernel
theorem dX1_putNumber_24 : decode cX1_putNumber 24 = .ok (.irem, 1) := by decide +kernel
theorem dX1_putNumber_25 : decode cX1_putNumber 25 = .ok (.iadd, 1) := by decide +kernel
theorem dX1_putNumber_26 : decode cX1_putNumber 26 = .ok (.i2c, 1) := by decide +kernel
theorem dX1_putNumber_27 : decode cX1_putNumber 27 = .ok (.invokevirtual 19, 3) := by decide +kernel
theorem dX1_putNumber_30 : decode cX1_putNumber 30 = .ok (.return_, 1) := by decide +kernel
theorem dcX1_putNumber : yX1_putNumber.cls = RX1 ∧ yX1_putNumber.cls ≠ "java/lang/invoke/MethodHandle" ∧ yX1_putNumber.cls ≠ "java/lang/invoke/VarHandle" ∧ (parseMethodDescriptor yX1_putNumber.desc).map (fun d => d.parameters.length) = some 1 := by decide +kernel
theorem gX1_putNumber_27 : GoodIn wsL_law (wsV RX1 19 RX1 yX1_putSign (.code yX1_putSign cX1_putSign 2 none :: wsL_law)) := g_V q575 q576 q577 q27 q578
theorem gX1_putNumber_15 : GoodIn wsL_law (wsV RX1 19 RX1 yX1_putSign (.code yX1_putSign cX1_putSign 2 none :: wsL_law)) := g_V q575 q576 q577 q27 q578
set_option maxRecDepth 100000 in
set_option maxHeartbeats 4000000 in
theorem K_pn {cA : Nat → ClassId} {ad : tA} {ex : va_W} {M : tM} {N : tP} {x : Int32} (hl : okl N) : Cj yX1_putNumber cX1_putNumber 2 none (rmd 1) 0 0 cA ad [.ref (ad 14 0), .int x] ex (m_pl M 14 N) (Qe none ex (m_pl M 14 (f_pn N x))) := by
  refine c_of_r (lv0 := [some (.ref (ad 14 0)), some (.int x)]) rfl (by decide +kernel) (Nat.le_of_ble_eq_true rfl) rfl ?_
  refine r_iload_n dX1_putNumber_0 rfl ?_
  refine r_bipush (v := 10) dX1_putNumber_1 (by decide) ?_
  refine r_icmp_lt (tgt := 18) dX1_putNumber_3 (by decide) (fun c3 => ?_) (fun c3 => ?_)
  · refine r_aload_n dX1_putNumber_18 rfl ?_
    refine r_bipush (v := 48) dX1_putNumber_19 (by decide) ?_
    refine r_iload_n dX1_putNumber_21 rfl ?_
    refine r_bipush (v := 10) dX1_putNumber_22 (by decide) ?_
    refine r_irem dX1_putNumber_24 (by decide) ?_
    refine r_iadd dX1_putNumber_25 ?_
    refine r_i2c dX1_putNumber_26 rfl ?_
    refine r_cVv dX1_putNumber_27 (K_ps c16_x (by first | exact hl | exact okl_ps hl)) gX1_putNumber_27 dcX1_putSign rfl rfl rfl (Nat.le_of_ble_eq_true rfl) ob_ln ?_
    first | exact r_retv rfl dX1_putNumber_30 (congrArg (m_pl M 14) (if_pos c3).symm) | exact r_retv rfl dX1_putNumber_30 (congrArg (m_pl M 14) (if_neg c3).symm)
  · refine r_aload_n dX1_putNumber_6 rfl ?_
    refine r_bipush (v := 48) dX1_putNumber_7 (by decide) ?_
    refine r_iload_n dX1_putNumber_9 rfl ?_
    refine r_bipush (v := 10) dX1_putNumber_10 (by decide) ?_
    refine r_idiv dX1_putNumber_12 (by decide) ?_
    refine r_iadd dX1_putNumber_13 ?_
    refine r_i2c dX1_putNumber_14 rfl ?_
    refine r_cVv dX1_putNumber_15 (K_ps c16_x hl) gX1_putNumber_15 dcX1_putSign rfl rfl rfl (Nat.le_of_ble_eq_true rfl) ob_ln ?_
    refine r_aload_n dX1_putNumber_18 rfl ?_
    refine r_bipush (v := 48) dX1_putNumber_19 (by decide) ?_
    refine r_iload_n dX1_putNumber_21 rfl ?_
    refine r_bipush (v := 10) dX1_putNumber_22 (by decide) ?_
    refine r_irem dX1_putNumber_24 (by decide) ?_
    refine r_iadd dX1_putNumber_25 ?_
    refine r_i2c dX1_putNumber_26 rfl ?_
    refine r_cVv dX1_putNumber_27 (K_ps c16_x (by first | exact hl | exact okl_ps hl)) gX1_putNumber_27 dcX1_putSign rfl rfl rfl (Nat.le_of_ble_eq_true rfl) ob_ln ?_
    first | exact r_retv rfl dX1_putNumber_30 (congrArg (m_pl M 14) (if_pos c3).symm) | exact r_retv rfl dX1_putNumber_30 (congrArg (m_pl M 14) (if_neg c3).symm)
def f_ps1 (N : tP) (s : Nat) (w : Nat → Int32) : tP := f_pn (f_ps (f_pn N (nI s)) 61) (w 0)
def f_ps2 (N : tP) (w : Nat → Int32) : tP := if w 1 ≤ 0 then N else f_pn (f_ps N 42) (w 1)
def f_ps3 (N : tP) (w : Nat → Int32) : tP := if w 3 = 0 then N else f_ps N 63
def f_ps4 (N : tP) (w : Nat → Int32) : tP := if w 2 ≤ 0 then N else f_pn (f_ps N 47) (w 2)
def lp_ps5 (w : Nat → Int32) : Nat → Nat → tP → tP
  | 0, _, N => N
  | n + 1, i, N => if w 4 &&& sh i = 0 then lp_ps5 w n (i + 1) N else lp_ps5 w n (i + 1) (f_pn (f_ps N 60) (nI i))
def f_pst (N : tP) (s : Nat) (w : Nat → Int32) : tP := lp_ps5 w 12 0 (f_ps4 (f_ps3 (f_ps2 (f_ps1 N s w) w) w) w)
theorem ps5_a {w : Nat → Int32} {n i : Nat} {N : tP} (h : w 4 &&& sh i = 0) : lp_ps5 w (n + 1) i N = lp_ps5 w n (i + 1) N := if_pos h
theorem ps5_b {w : Nat → Int32} {n i : Nat} {N : tP} (h : ¬ w 4 &&& sh i = 0) : lp_ps5 w (n + 1) i N = lp_ps5 w n (i + 1) (f_pn (f_ps N 60) (nI i)) := if_neg h
theorem okl_2 {N : tP} {w : Nat → Int32} (h : okl N) : okl (f_ps2 N w) := by unfold f_ps2; split; exact h; exact okl_pn (okl_ps h)
theorem okl_3 {N : tP} {w : Nat → Int32} (h : okl N) : okl (f_ps3 N w) := by unfold f_ps3; split; exact h; exact okl_ps h
theorem okl_4 {N : tP} {w : Nat → Int32} (h : okl N) : okl (f_ps4 N w) := by unfold f_ps4; split; exact h; exact okl_pn (okl_ps h)
theorem okl_5 {w : Nat → Int32} : ∀ (n i : Nat) (N : tP), okl N → okl (lp_ps5 w n i N) := by
  intro n
  induction n with
  | zero => intro i N h; exact h
  | succ n ih =>
    intro i N h
    rw [lp_ps5]
    split
    · exact ih _ _ h
    · exact ih _ _ (okl_pn (okl_ps h))
theorem okl_st {N : tP} {s : Nat} {w : Nat → Int32} (h : okl N) : okl (f_pst N s w) := okl_5 _ _ _ (okl_4 (okl_3 (okl_2 (okl_pn (okl_ps (okl_pn h))))))
theorem dX1_putStep_0 : decode cX1_putStep 0 = .ok (.aload_n 0, 1) := by decide +kernel
theorem dX1_putStep_1 : decode cX1_putStep 1 = .ok (.iload_n 1, 1) := by decide +kernel
theorem dX1_putStep_2 : decode cX1_putStep 2 = .ok (.invokevirtual 15, 3) := by decide +kernel
theorem dX1_putStep_5 : decode cX1_putStep 5 = .ok (.aload_n 0, 1) := by decide +kernel
theorem dX1_putStep_6 : decode cX1_putStep 6 = .ok (.bipush 61, 2) := by decide +kernel
theorem dX1_putStep_8 : decode cX1_putStep 8 = .ok (.invokevirtual 19, 3) := by decide +kernel
theorem dX1_putStep_11 : decode cX1_putStep 11 = .ok (.aload_n 0, 1) := by decide +kernel
theorem dX1_putStep_12 : decode cX1_putStep 12 = .ok (.aload_n 2, 1) := by decide +kernel
theorem dX1_putStep_13 : decode cX1_putStep 13 = .ok (.getfield 23, 3) := by decide +kernel
theorem dX1_putStep_16 : decode cX1_putStep 16 = .ok (.invokevirtual 15, 3) := by decide +kernel
theorem dX1_putStep_19 : decode cX1_putStep 19 = .ok (.aload_n 2, 1) := by decide +kernel
theorem dX1_putStep_20 : decode cX1_putStep 20 = .ok (.getfield 29, 3) := by decide +kernel
theorem dX1_putStep_23 : decode cX1_putStep 23 = .ok (.ifCond .le 17, 3) := by decide +kernel
theorem dX1_putStep_26 : decode cX1_putStep 26 = .ok (.aload_n 0, 1) := by decide +kernel
theorem dX1_putStep_27 : decode cX1_putStep 27 = .ok (.bipush 42, 2) := by decide +kernel
theorem dX1_putStep_29 : decode cX1_putStep 29 = .ok (.invokevirtual 19, 3) := by decide +kernel
theorem dX1_putStep_32 : decode cX1_putStep 32 = .ok (.aload_n 0, 1) := by decide +kernel
theorem dX1_putStep_33 : decode cX1_putStep 33 = .ok (.aload_n 2, 1) := by decide +kernel
theorem dX1_putStep_34 : decode cX1_putStep 34 = .ok (.getfield 29, 3) := by decide +kernel
theorem dX1_putStep_37 : decode cX1_putStep 37 = .ok (.invokevirtual 15, 3) := by decide +kernel
theorem dX1_putStep_40 : decode cX1_putStep 40 = .ok (.aload_n 2, 1) := by decide +kernel
theorem dX1_putStep_41 : decode cX1_putStep 41 = .ok (.getfield 32, 3) := by decide +kernel
theorem dX1_putStep_44 : decode cX1_putStep 44 = .ok (.ifCond .eq 9, 3) := by decide +kernel
theorem dX1_putStep_47 : decode cX1_putStep 47 = .ok (.aload_n 0, 1) := by decide +kernel
theorem dX1_putStep_48 : decode cX1_putStep 48 = .ok (.bipush 63, 2) := by decide +kernel
theorem dX1_putStep_50 : decode cX1_putStep 50 = .ok (.invokevirtual 19, 3) := by decide +kernel
theorem dX1_putStep_53 : decode cX1_putStep 53 = .ok (.aload_n 2, 1) := by decide +kernel
theorem dX1_putStep_54 : decode cX1_putStep 54 = .ok (.getfield 36, 3) := by decide +kernel
theorem dX1_putStep_57 : decode cX1_putStep 57 = .ok (.ifCond .le 17, 3) := by decide +kernel
theorem dX1_putStep_60 : decode cX1_putStep 60 = .ok (.aload_n 0, 1) := by decide +kernel
theorem dX1_putStep_61 : decode cX1_putStep 61 = .ok (.bipush 47, 2) := by decide +kernel
theorem dX1_putStep_63 : decode cX1_putStep 63 = .ok (.invokevirtual 19, 3) := by decide +kernel
theorem dX1_putStep_66 : decode cX1_putStep 66 = .ok (.aload_n 0, 1) := by decide +kernel
theorem dX1_putStep_67 : decode cX1_putStep 67 = .ok (.aload_n 2, 1) := by decide +kernel
theorem dX1_putStep_68 : decode cX1_putStep 68 = .ok (.getfield 36, 3) := by decide +kernel
theorem dX1_putStep_71 : decode cX1_putStep 71 = .ok (.invokevirtual 15, 3) := by decide +kernel
theorem dX1_putStep_74 : decode cX1_putStep 74 = .ok (.iconst 0, 1) := by decide +kernel
theorem dX1_putStep_75 : decode cX1_putStep 75 = .ok (.istore_n 3, 1) := by decide +kernel
theorem dX1_putStep_76 : decode cX1_putStep 76 = .ok (.iload_n 3, 1) := by decide +kernel
theorem dX1_putStep_77 : decode cX1_putStep 77 = .ok (.bipush 12, 2) := by decide +kernel
theorem dX1_putStep_79 : decode cX1_putStep 79 = .ok (.if_icmp .ge 31, 3) := by decide +kernel
theorem dX1_putStep_82 : decode cX1_putStep 82 = .ok (.aload_n 2, 1) := by decide +kernel
theorem dX1_putStep_83 : decode cX1_putStep 83 = .ok (.getfield 39, 3) := by decide +kernel
theorem dX1_putStep_86 : decode cX1_putStep 86 = .ok (.iconst 1, 1) := by decide +kernel
theorem dX1_putStep_87 : decode cX1_putStep 87 = .ok (.iload_n 3, 1) := by decide +kernel
theorem dX1_putStep_88 : decode cX1_putStep 88 = .ok (.ishl, 1) := by decide +kernel
theorem dX1_putStep_89 : decode cX1_putStep 89 = .ok (.iand, 1) := by decide +kernel
theorem dX1_putStep_90 : decode cX1_putStep 90 = .ok (.ifCond .eq 14, 3) := by decide +kernel
theorem dX1_putStep_93 : decode cX1_putStep 93 = .ok (.aload_n 0, 1) := by decide +kernel
theorem dX1_putStep_94 : decode cX1_putStep 94 = .ok (.bipush 60, 2) := by decide +kernel
theorem dX1_putStep_96 : decode cX1_putStep 96 = .ok (.invokevirtual 19, 3) := by decide +kernel
theorem dX1_putStep_99 : decode cX1_putStep 99 = .ok (.aload_n 0, 1) := by decide +kernel
theorem dX1_putStep_100 : decode cX1_putStep 100 = .ok (.iload_n 3, 1) := by decide +kernel
theorem dX1_putStep_101 : decode cX1_putStep 101 = .ok (.invokevirtual 15, 3) := by decide +kernel
theorem dX1_putStep_104 : decode cX1_putStep 104 = .ok (.iinc 3 1, 3) := by decide +kernel
theorem dX1_putStep_107 : decode cX1_putStep 107 = .ok (.goto (-31), 3) := by decide +kernel
theorem dX1_putStep_110 : decode cX1_putStep 110 = .ok (.return_, 1) := by decide +kernel
theorem dcX1_putStep : yX1_putStep.cls = RX1 ∧ yX1_putStep.cls ≠ "java/lang/invoke/MethodHandle" ∧ yX1_putStep.cls ≠ "java/lang/invoke/VarHandle" ∧ (parseMethodDescriptor yX1_putStep.desc).map (fun d => d.parameters.length) = some 2 := by decide +kernel
theorem gX1_putStep_96 : GoodIn wsL_law (wsV RX1 19 RX1 yX1_putSign (.code yX1_putSign cX1_putSign 2 none :: wsL_law)) := g_V q575 q576 q577 q27 q578
theorem gX1_putStep_101 : GoodIn wsL_law (wsV RX1 15 RX1 yX1_putNumber (.code yX1_putNumber cX1_putNumber 2 none :: wsL_law)) := g_V q571 q572 q573 q27 q574
theorem gX1_putStep_63 : GoodIn wsL_law (wsV RX1 19 RX1 yX1_putSign (.code yX1_putSign cX1_putSign 2 none :: wsL_law)) := g_V q575 q576 q577 q27 q578
theorem gX1_putStep_71 : GoodIn wsL_law (wsV RX1 15 RX1 yX1_putNumber (.code yX1_putNumber cX1_putNumber 2 none :: wsL_law)) := g_V q571 q572 q573 q27 q574
theorem gX1_putStep_50 : GoodIn wsL_law (wsV RX1 19 RX1 yX1_putSign (.code yX1_putSign cX1_putSign 2 none :: wsL_law)) := g_V q575 q576 q577 q27 q578
theorem gX1_putStep_29 : GoodIn wsL_law (wsV RX1 19 RX1 yX1_putSign (.code yX1_putSign cX1_putSign 2 none :: wsL_law)) := g_V q575 q576 q577 q27 q578
theorem gX1_putStep_37 : GoodIn wsL_law (wsV RX1 15 RX1 yX1_putNumber (.code yX1_putNumber cX1_putNumber 2 none :: wsL_law)) := g_V q571 q572 q573 q27 q574
theorem gX1_putStep_2 : GoodIn wsL_law (wsV RX1 15 RX1 yX1_putNumber (.code yX1_putNumber cX1_putNumber 2 none :: wsL_law)) := g_V q571 q572 q573 q27 q574
theorem gX1_putStep_8 : GoodIn wsL_law (wsV RX1 19 RX1 yX1_putSign (.code yX1_putSign cX1_putSign 2 none :: wsL_law)) := g_V q575 q576 q577 q27 q578
theorem gX1_putStep_16 : GoodIn wsL_law (wsV RX1 15 RX1 yX1_putNumber (.code yX1_putNumber cX1_putNumber 2 none :: wsL_law)) := g_V q571 q572 q573 q27 q574
set_option maxRecDepth 100000 in
set_option maxHeartbeats 4000000 in
theorem K_pst {cA : Nat → ClassId} {ad : tA} {ex : va_W} {M : tM} {N0 : tP} {r s j : Nat} (hr : isPlan r) (hne : r ≠ 14) (hj : j < 12) (hl0 : okl N0) : Cj yX1_putStep cX1_putStep 4 none (rmd 2) 0 0 cA ad [.ref (ad 14 0), .int (nI s), .ref (ad r (4 + j))] ex (m_pl M 14 N0) (Qe none ex (m_pl M 14 (f_pst N0 s (M r (4 + j))))) := by
  refine c_of_r (lv0 := [some (.ref (ad 14 0)), some (.int (nI s)), some (.ref (ad r (4 + j))), none]) rfl (by decide +kernel) (Nat.le_of_ble_eq_true rfl) rfl ?_
  have L5 : ∀ (n i : Nat) (N : tP), i + n = 12 → okl N → lp_ps5 (M r (4 + j)) n i N = f_pst N0 s (M r (4 + j)) → Rj cX1_putStep RX1 4 none (rmd 2) 0 0 cA ad (Qe none ex (m_pl M 14 (f_pst N0 s (M r (4 + j))))) ex 0 0 76 [some (.ref (ad 14 0)), some (.int (nI s)), some (.ref (ad r (4 + j))), some (.int (nI i))] [] (m_pl M 14 N) := by
    intro n
    induction n with
    | zero =>
      intro i N h hl hN
      refine r_iload_n dX1_putStep_76 rfl ?_
      refine r_bipush (v := 12) dX1_putStep_77 (by decide) ?_
      refine r_icmp_ge (tgt := 110) dX1_putStep_79 (by decide) (fun c79 => ?_) (fun c79 => absurd (lp_z (x := 12) (c := 12) rfl h) c79)
      exact r_retv rfl dX1_putStep_110 (by rw [← hN]; rfl)
    | succ n ih =>
      intro i N h hl hN
      refine r_iload_n dX1_putStep_76 rfl ?_
      refine r_bipush (v := 12) dX1_putStep_77 (by decide) ?_
      refine r_icmp_ge (tgt := 110) dX1_putStep_79 (by decide) (fun c79 => absurd c79 (lp_s (x := 12) (c := 12) rfl (by omega) h)) (fun c79 => ?_)
      refine r_aload_n dX1_putStep_82 rfl ?_
      refine r_getq_st (by assumption) (by assumption) (by omega) 4 (by decide) q570 rfl dX1_putStep_83 ?_
      refine r_iconst (v := 1) dX1_putStep_86 (by decide) ?_
      refine r_iload_n dX1_putStep_87 rfl ?_
      refine r_ishl dX1_putStep_88 ?_
      refine r_iand dX1_putStep_89 ?_
      refine r_if_eq (tgt := 104) dX1_putStep_90 (by decide) (fun c90 => ?_) (fun c90 => ?_)
      · refine r_iinc dX1_putStep_104 rfl ii_s (by decide) rfl ?_
        refine r_goto (tgt := 76) dX1_putStep_107 (by decide) ?_
        exact ih (i + 1) _ (by omega) (by first | exact hl | exact okl_pn (okl_ps hl)) (by rw [← hN]; first | exact (ps5_a c90).symm | exact (ps5_b c90).symm)
      · refine r_aload_n dX1_putStep_93 rfl ?_
        refine r_bipush (v := 60) dX1_putStep_94 (by decide) ?_
        refine r_cVv dX1_putStep_96 (K_ps (show okx 60 from kI (q := 60) (by omega)) hl) gX1_putStep_96 dcX1_putSign rfl rfl rfl (Nat.le_of_ble_eq_true rfl) ob_ln ?_
        refine r_aload_n dX1_putStep_99 rfl ?_
        refine r_iload_n dX1_putStep_100 rfl ?_
        refine r_cVv dX1_putStep_101 (K_pn (okl_ps hl)) gX1_putStep_101 dcX1_putNumber rfl rfl rfl (Nat.le_of_ble_eq_true rfl) ob_ln ?_
        refine r_iinc dX1_putStep_104 rfl ii_s (by decide) rfl ?_
        refine r_goto (tgt := 76) dX1_putStep_107 (by decide) ?_
        exact ih (i + 1) _ (by omega) (by first | exact hl | exact okl_pn (okl_ps hl)) (by rw [← hN]; first | exact (ps5_a c90).symm | exact (ps5_b c90).symm)
  have L4 : ∀ (N : tP), okl N → lp_ps5 (M r (4 + j)) 12 0 (f_ps4 N (M r (4 + j))) = f_pst N0 s (M r (4 + j)) → Rj cX1_putStep RX1 4 none (rmd 2) 0 0 cA ad (Qe none ex (m_pl M 14 (f_pst N0 s (M r (4 + j))))) ex 0 0 53 [some (.ref (ad 14 0)), some (.int (nI s)), some (.ref (ad r (4 + j))), none] [] (m_pl M 14 N) := by
    intro N hl hN
    refine r_aload_n dX1_putStep_53 rfl ?_
    refine r_getq_st (by assumption) (by assumption) (by omega) 2 (by decide) q569 rfl dX1_putStep_54 ?_
    refine r_if_le (tgt := 74) dX1_putStep_57 (by decide) (fun c57 => ?_) (fun c57 => ?_)
    · refine r_iconst (v := 0) dX1_putStep_74 (by decide) ?_
      refine r_istore_n dX1_putStep_75 (by decide) rfl ?_
      exact L5 12 0 _ (by omega) (by first | exact hl | exact okl_pn (okl_ps hl)) (by rw [← hN]; first | rw [show f_ps4 N (M r (4 + j)) = N from if_pos c57] | rw [show f_ps4 N (M r (4 + j)) = _ from if_neg c57])
    · refine r_aload_n dX1_putStep_60 rfl ?_
      refine r_bipush (v := 47) dX1_putStep_61 (by decide) ?_
      refine r_cVv dX1_putStep_63 (K_ps (show okx 47 from kI (q := 47) (by omega)) hl) gX1_putStep_63 dcX1_putSign rfl rfl rfl (Nat.le_of_ble_eq_true rfl) ob_ln ?_
      refine r_aload_n dX1_putStep_66 rfl ?_
      refine r_aload_n dX1_putStep_67 rfl ?_
      refine r_getq_st (by assumption) (by assumption) (by omega) 2 (by decide) q569 rfl dX1_putStep_68 ?_
      refine r_cVv dX1_putStep_71 (K_pn (okl_ps hl)) gX1_putStep_71 dcX1_putNumber rfl rfl rfl (Nat.le_of_ble_eq_true rfl) ob_ln ?_
      refine r_iconst (v := 0) dX1_putStep_74 (by decide) ?_
      refine r_istore_n dX1_putStep_75 (by decide) rfl ?_
      exact L5 12 0 _ (by omega) (by first | exact hl | exact okl_pn (okl_ps hl)) (by rw [← hN]; first | rw [show f_ps4 N (M r (4 + j)) = N from if_pos c57] | rw [show f_ps4 N (M r (4 + j)) = _ from if_neg c57])
  have L3 : ∀ (N : tP), okl N → lp_ps5 (M r (4 + j)) 12 0 (f_ps4 (f_ps3 N (M r (4 + j))) (M r (4 + j))) = f_pst N0 s (M r (4 + j)) → Rj cX1_putStep RX1 4 none (rmd 2) 0 0 cA ad (Qe none ex (m_pl M 14 (f_pst N0 s (M r (4 + j))))) ex 0 0 40 [some (.ref (ad 14 0)), some (.int (nI s)), some (.ref (ad r (4 + j))), none] [] (m_pl M 14 N) := by
    intro N hl hN
    refine r_aload_n dX1_putStep_40 rfl ?_
    refine r_getq_st (by assumption) (by assumption) (by omega) 3 (by decide) q568 rfl dX1_putStep_41 ?_
    refine r_if_eq (tgt := 53) dX1_putStep_44 (by decide) (fun c44 => ?_) (fun c44 => ?_)
    · exact L4 _ (by first | exact hl | exact okl_ps hl) (by rw [← hN]; first | rw [show f_ps3 N (M r (4 + j)) = N from if_pos c44] | rw [show f_ps3 N (M r (4 + j)) = _ from if_neg c44])
    · refine r_aload_n dX1_putStep_47 rfl ?_
      refine r_bipush (v := 63) dX1_putStep_48 (by decide) ?_
      refine r_cVv dX1_putStep_50 (K_ps (show okx 63 from kI (q := 63) (by omega)) hl) gX1_putStep_50 dcX1_putSign rfl rfl rfl (Nat.le_of_ble_eq_true rfl) ob_ln ?_
      exact L4 _ (by first | exact hl | exact okl_ps hl) (by rw [← hN]; first | rw [show f_ps3 N (M r (4 + j)) = N from if_pos c44] | rw [show f_ps3 N (M r (4 + j)) = _ from if_neg c44])
  have L2 : ∀ (N : tP), okl N → lp_ps5 (M r (4 + j)) 12 0 (f_ps4 (f_ps3 (f_ps2 N (M r (4 + j))) (M r (4 + j))) (M r (4 + j))) = f_pst N0 s (M r (4 + j)) → Rj cX1_putStep RX1 4 none (rmd 2) 0 0 cA ad (Qe none ex (m_pl M 14 (f_pst N0 s (M r (4 + j))))) ex 0 0 19 [some (.ref (ad 14 0)), some (.int (nI s)), some (.ref (ad r (4 + j))), none] [] (m_pl M 14 N) := by
    intro N hl hN
    refine r_aload_n dX1_putStep_19 rfl ?_
    refine r_getq_st (by assumption) (by assumption) (by omega) 1 (by decide) q567 rfl dX1_putStep_20 ?_
    refine r_if_le (tgt := 40) dX1_putStep_23 (by decide) (fun c23 => ?_) (fun c23 => ?_)
    · exact L3 _ (by first | exact hl | exact okl_pn (okl_ps hl)) (by rw [← hN]; first | rw [show f_ps2 N (M r (4 + j)) = N from if_pos c23] | rw [show f_ps2 N (M r (4 + j)) = _ from if_neg c23])
    · refine r_aload_n dX1_putStep_26 rfl ?_
      refine r_bipush (v := 42) dX1_putStep_27 (by decide) ?_
      refine r_cVv dX1_putStep_29 (K_ps (show okx 42 from kI (q := 42) (by omega)) hl) gX1_putStep_29 dcX1_putSign rfl rfl rfl (Nat.le_of_ble_eq_true rfl) ob_ln ?_
      refine r_aload_n dX1_putStep_32 rfl ?_
      refine r_aload_n dX1_putStep_33 rfl ?_
      refine r_getq_st (by assumption) (by assumption) (by omega) 1 (by decide) q567 rfl dX1_putStep_34 ?_
      refine r_cVv dX1_putStep_37 (K_pn (okl_ps hl)) gX1_putStep_37 dcX1_putNumber rfl rfl rfl (Nat.le_of_ble_eq_true rfl) ob_ln ?_
      exact L3 _ (by first | exact hl | exact okl_pn (okl_ps hl)) (by rw [← hN]; first | rw [show f_ps2 N (M r (4 + j)) = N from if_pos c23] | rw [show f_ps2 N (M r (4 + j)) = _ from if_neg c23])
  refine r_aload_n dX1_putStep_0 rfl ?_
  refine r_iload_n dX1_putStep_1 rfl ?_
  refine r_cVv dX1_putStep_2 (K_pn hl0) gX1_putStep_2 dcX1_putNumber rfl rfl rfl (Nat.le_of_ble_eq_true rfl) ob_ln ?_
  refine r_aload_n dX1_putStep_5 rfl ?_
  refine r_bipush (v := 61) dX1_putStep_6 (by decide) ?_
  refine r_cVv dX1_putStep_8 (K_ps (show okx 61 from kI (q := 61) (by omega)) (okl_pn hl0)) gX1_putStep_8 dcX1_putSign rfl rfl rfl (Nat.le_of_ble_eq_true rfl) ob_ln ?_
  refine r_aload_n dX1_putStep_11 rfl ?_
  refine r_aload_n dX1_putStep_12 rfl ?_
  refine r_getq_st (by assumption) (by assumption) (by omega) 0 (by decide) q566 rfl dX1_putStep_13 ?_
  refine r_cVv dX1_putStep_16 (K_pn (okl_ps (okl_pn hl0))) gX1_putStep_16 dcX1_putNumber rfl rfl rfl (Nat.le_of_ble_eq_true rfl) ob_ln ?_
  exact L2 _ (okl_pn (okl_ps (okl_pn hl0))) rfl
def f_pl (N : tP) (x : Int32) : tP := if x < 0 ∨ 8 ≤ x then N else f_ps N (litc 7 x.toNatClampNeg)
theorem okl_pl {N : tP} {x : Int32} (h : okl N) : okl (f_pl N x) := by unfold f_pl; split; exact h; exact okl_ps h
theorem pl_no {N : tP} {x : Int32} (h : x < 0 ∨ 8 ≤ x) : f_pl N x = N := if_pos h
theorem pl_ye {N : tP} {k : Nat} (h : k < 8) : f_pl N (nI k) = f_ps N (litc 7 k) := by
  unfold f_pl
  rw [if_neg (fun e => e.elim (nI_pos (by omega)) (nI_ge (b := 8) h (by omega))), nI_clamp (by omega)]
theorem lit_x {i k : Nat} : okx (litc i k) := by
  obtain ⟨j, h1, h2⟩ := pk_andE ((bytS.getD i []).getD k 0) (m := 255) 8 (by decide)
  exact ⟨j, by omega, h2⟩
theorem dX1_putLetterOf_0 : decode cX1_putLetterOf 0 = .ok (.iload_n 1, 1) := by decide +kernel
theorem dX1_putLetterOf_1 : decode cX1_putLetterOf 1 = .ok (.ifCond .lt 22, 3) := by decide +kernel
theorem dX1_putLetterOf_4 : decode cX1_putLetterOf 4 = .ok (.iload_n 1, 1) := by decide +kernel
theorem dX1_putLetterOf_5 : decode cX1_putLetterOf 5 = .ok (.ldc 42, 2) := by decide +kernel
theorem dX1_putLetterOf_7 : decode cX1_putLetterOf 7 = .ok (.invokevirtual 44, 3) := by decide +kernel
theorem dX1_putLetterOf_10 : decode cX1_putLetterOf 10 = .ok (.if_icmp .ge 13, 3) := by decide +kernel
theorem dX1_putLetterOf_13 : decode cX1_putLetterOf 13 = .ok (.aload_n 0, 1) := by decide +kernel
theorem dX1_putLetterOf_14 : decode cX1_putLetterOf 14 = .ok (.ldc 42, 2) := by decide +kernel
theorem dX1_putLetterOf_16 : decode cX1_putLetterOf 16 = .ok (.iload_n 1, 1) := by decide +kernel
theorem dX1_putLetterOf_17 : decode cX1_putLetterOf 17 = .ok (.invokevirtual 50, 3) := by decide +kernel
theorem dX1_putLetterOf_20 : decode cX1_putLetterOf 20 = .ok (.invokevirtual 19, 3) := by decide +kernel
theorem dX1_putLetterOf_23 : decode cX1_putLetterOf 23 = .ok (.return_, 1) := by decide +kernel
theorem dcX1_putLetterOf : yX1_putLetterOf.cls = RX1 ∧ yX1_putLetterOf.cls ≠ "java/lang/invoke/MethodHandle" ∧ yX1_putLetterOf.cls ≠ "java/lang/invoke/VarHandle" ∧ (parseMethodDescriptor yX1_putLetterOf.desc).map (fun d => d.parameters.length) = some 1 := by decide +kernel
theorem gX1_putLetterOf_7 : GoodIn wsL_law (wsV RX1 44 RJ0 yJ0_length_8abf5 (.code yJ0_length_8abf5 cJ0_length_8abf5 1 (some .int) :: wsL_law)) := g_V q610 q210 q211 q212 q213
theorem gX1_putLetterOf_17 : GoodIn wsL_law (wsV RX1 50 RJ0 yJ0_charAt_5068e (.code yJ0_charAt_5068e cJ0_charAt_5068e 2 (some .char) :: wsL_law)) := g_V q611 q222 q223 q212 q224
theorem gX1_putLetterOf_20 : GoodIn wsL_law (wsV RX1 19 RX1 yX1_putSign (.code yX1_putSign cX1_putSign 2 none :: wsL_law)) := g_V q575 q576 q577 q27 q578
set_option maxRecDepth 100000 in
set_option maxHeartbeats 4000000 in
theorem K_pl {cA : Nat → ClassId} {ad : tA} {ex : va_W} {M : tM} {N : tP} {x : Int32} (hl : okl N) : Cj yX1_putLetterOf cX1_putLetterOf 2 none (rmd 4) 0 0 cA ad [.ref (ad 14 0), .int x] ex (m_pl M 14 N) (Qe none ex (m_pl M 14 (f_pl N x))) := by
  refine c_of_r (lv0 := [some (.ref (ad 14 0)), some (.int x)]) rfl (by decide +kernel) (Nat.le_of_ble_eq_true rfl) rfl ?_
  rcases pk_ix x (n := 8) (by omega) with h | h | ⟨k, hk, rfl⟩
  · refine r_iload_n dX1_putLetterOf_0 rfl ?_
    refine r_if_lt (tgt := 23) dX1_putLetterOf_1 (by decide) (fun c1 => ?_) (fun c1 => absurd h c1)
    exact r_retv rfl dX1_putLetterOf_23 (congrArg (m_pl M 14) (pl_no (Or.inl h)).symm)
  · refine r_iload_n dX1_putLetterOf_0 rfl ?_
    refine r_if_lt (tgt := 23) dX1_putLetterOf_1 (by decide) (fun c1 => ?_) (fun c1 => ?_)
    · first | exact r_retv rfl dX1_putLetterOf_23 (congrArg (m_pl M 14) (pl_no (Or.inl c1)).symm) | exact r_retv rfl dX1_putLetterOf_23 (congrArg (m_pl M 14) (pl_no (Or.inr h)).symm)
    · refine r_iload_n dX1_putLetterOf_4 rfl ?_
      refine r_ldcS (List.mem_of_getElem? (i := 7) rfl) dX1_putLetterOf_5 ?_
      refine r_cVi dX1_putLetterOf_7 (K_litLen (i := 7) (by omega)) gX1_putLetterOf_7 dcJ0_length_8abf5 rfl rfl rfl (Nat.le_of_ble_eq_true rfl) (rc_lit (by omega)) ?_
      refine r_icmp_ge (tgt := 23) dX1_putLetterOf_10 (by decide) (fun c10 => ?_) (fun c10 => absurd h c10)
      first | exact r_retv rfl dX1_putLetterOf_23 (congrArg (m_pl M 14) (pl_no (Or.inl c1)).symm) | exact r_retv rfl dX1_putLetterOf_23 (congrArg (m_pl M 14) (pl_no (Or.inr h)).symm)
  · refine r_iload_n dX1_putLetterOf_0 rfl ?_
    refine r_if_lt (tgt := 23) dX1_putLetterOf_1 (by decide) (fun c1 => absurd c1 (nI_pos (by omega))) (fun c1 => ?_)
    refine r_iload_n dX1_putLetterOf_4 rfl ?_
    refine r_ldcS (List.mem_of_getElem? (i := 7) rfl) dX1_putLetterOf_5 ?_
    refine r_cVi dX1_putLetterOf_7 (K_litLen (i := 7) (by omega)) gX1_putLetterOf_7 dcJ0_length_8abf5 rfl rfl rfl (Nat.le_of_ble_eq_true rfl) (rc_lit (by omega)) ?_
    refine r_icmp_ge (tgt := 23) dX1_putLetterOf_10 (by decide) (fun c10 => absurd c10 (nI_ge (b := 8) hk (by omega))) (fun c10 => ?_)
    refine r_aload_n dX1_putLetterOf_13 rfl ?_
    refine r_ldcS (List.mem_of_getElem? (i := 7) rfl) dX1_putLetterOf_14 ?_
    refine r_iload_n dX1_putLetterOf_16 rfl ?_
    refine r_cVi dX1_putLetterOf_17 (K_litChar (i := 7) (k := k) (by omega) hk) gX1_putLetterOf_17 dcJ0_charAt_5068e rfl rfl rfl (Nat.le_of_ble_eq_true rfl) (rc_lit (by omega)) ?_
    refine r_cVv dX1_putLetterOf_20 (K_ps lit_x hl) gX1_putLetterOf_20 dcX1_putSign rfl rfl rfl (Nat.le_of_ble_eq_true rfl) ob_ln ?_
    exact r_retv rfl dX1_putLetterOf_23 (congrArg (m_pl M 14) (pl_ye hk).symm)
end
section
/-! PART 12: the TrousseauFlow object, its fields F and now P taken out of the matrix (mm M F P); its changes -/
theorem is1 : isPlan 1 := ⟨by omega, by omega⟩
theorem is2 : isPlan 2 := ⟨by omega, by omega⟩
theorem is3 : isPlan 3 := ⟨by omega, by omega⟩
theorem isk {k : Nat} (h : k < 9) : isPlan (4 + k) := ⟨by omega, by omega⟩
abbrev mm (M : tM) (F P : tP) : tM := m_pl (m_pl M 0 F) 1 P
section
variable {M : tM} {F P : tP}
theorem mm_0 : mm M F P 0 = F := by rw [mm, m_pl_n (by omega), m_pl_s]
theorem mm_1 : mm M F P 1 = P := m_pl_s
theorem mm_n {r : Nat} (h : 2 ≤ r) : mm M F P r = M r := by rw [mm, m_pl_n (by omega), m_pl_n (by omega)]
theorem mm_F {k : Nat} {x : Int32} : m_set (mm M F P) 0 0 (upd (F 0) k x) = mm M (pu F 0 k x) P := by
  funext r'
  by_cases h1 : r' = 1
  · subst h1
    funext j
    rw [m_set_n (by omega), mm_1, mm_1]
  · by_cases h0 : r' = 0
    · subst h0
      rw [mm_0]
      funext j
      by_cases hj : j = 0
      · subst hj; rw [m_set_s, pu, if_pos rfl]
      · rw [m_set_n (fun e => hj e.2), mm_0, pu_jj hj]
    · funext j
      rw [m_set_n (fun e => h0 e.1), mm_n (by omega), mm_n (by omega)]
theorem mm_pl {r : Nat} {X : tP} (h : 2 ≤ r) : m_pl (mm M F P) r X = mm (m_pl M r X) F P := by
  funext r'
  by_cases h1 : r' = 1
  · subst h1; rw [m_pl_n (by omega), mm_1, mm_1]
  · by_cases h0 : r' = 0
    · subst h0; rw [m_pl_n (by omega), mm_0, mm_0]
    · by_cases hr : r' = r
      · subst hr; rw [m_pl_s, mm_n (by omega), m_pl_s]
      · rw [m_pl_n hr, mm_n (by omega), mm_n (by omega), m_pl_n hr]
theorem mm_self {r : Nat} (h : 2 ≤ r) : m_pl (mm M F P) r (M r) = mm M F P := by rw [← mm_n (M := M) (F := F) (P := P) h]; exact m_pl_self
theorem mm_set {r j k : Nat} {x : Int32} (h : 2 ≤ r) : m_set (mm M F P) r j (upd (M r j) k x) = mm (m_pl M r (pu (M r) j k x)) F P := by
  have : m_set (m_pl (mm M F P) r (M r)) r j (upd (M r j) k x) = m_pl (mm M F P) r (pu (M r) j k x) := m_set_pl
  rw [mm_self h, mm_pl h] at this
  exact this
end
/-- a contract over region r as one over mm -/
theorem cmm {y : MethodName} {cc : ByteArray} {nL : Nat} {ret : Option FieldType} {rm : Room} {cA : Nat → ClassId} {ad : tA} {vs : List Value} {ex : va_W} {M : tM} {F P X X' : tP} {r : Nat} {v : Option Value} (hr : 2 ≤ r) (e : M r = X) (h : Cj y cc nL ret rm 0 0 cA ad vs ex (m_pl (mm M F P) r X) (Qe v ex (m_pl (mm M F P) r X'))) : Cj y cc nL ret rm 0 0 cA ad vs ex (mm M F P) (Qe v ex (mm (m_pl M r X') F P)) := by
  subst e
  rw [mm_self hr, mm_pl hr] at h
  exact h
section
variable {cc : ByteArray} {own : String} {nL : Nat} {ret : Option FieldType} {rm : Room} {mc ms : Nat} {cA : Nat → ClassId} {ad : tA} {Q : Option Value → va_W → tM → Prop} {ex : va_W} {cells slots pc : Nat} {lv : List (Option Value)} {st : List Value} {M : tM} {F P : tP}
theorem r_getF {idx : Nat} {v : Value} (kf : Nat) (hk : kf < 13) (hw : Cond.fieldLink own idx (TX6 kf).1 (TX6 kf).2.1 (TX6 kf).2.2.1 ∈ wsL_law) (hv : (l_tf ad (F 0))[kf]? = some v) (hd : decode cc pc = .ok (.getfield idx, 3)) (k : Rj cc own nL ret rm mc ms cA ad Q ex cells slots (pc + 3) lv (v :: st) (mm M F P)) : Rj cc own nL ret rm mc ms cA ad Q ex cells slots pc lv (.ref (ad 0 0) :: st) (mm M F P) := r_get_tf kf hk hw (by rw [mm_0]; exact hv) hd k
theorem r_putF {idx : Nat} {x : Int32} {ty : FieldType} (kf : Nat) (hk : kf < 13) (hw : Cond.fieldLink own idx (TX6 kf).1 (TX6 kf).2.1 (TX6 kf).2.2.1 ∈ wsL_law) (hfin : (TX6 kf).2.2.2 = false) (het : tyX6 kf = ty) (hn : narrow ty (.int x) = .int x) (hfit : fits ty (.int x) = true) (hset : l_tf ad (upd (F 0) kf x) = (l_tf ad (F 0)).set kf (.int x)) (hd : decode cc pc = .ok (.putfield idx, 3)) (k : Rj cc own nL ret rm mc ms cA ad Q ex cells slots (pc + 3) lv st (mm M (pu F 0 kf x) P)) : Rj cc own nL ret rm mc ms cA ad Q ex cells slots pc lv (.int x :: .ref (ad 0 0) :: st) (mm M F P) := r_put_tf kf hk hw hfin het hn hfit (by rw [mm_0]; exact hset) hd (by rw [mm_0, mm_F]; exact k)
theorem r_getm_ot {idx : Nat}  {v : Value} (kf : Nat) (hk : kf < 5) (hw : Cond.fieldLink own idx (TX3 kf).1 (TX3 kf).2.1 (TX3 kf).2.2.1 ∈ wsL_law) (hv : (l_ot ad (M 13 0))[kf]? = some v) (hd : decode cc pc = .ok (.getfield idx, 3)) (k : Rj cc own nL ret rm mc ms cA ad Q ex cells slots (pc + 3) lv (v :: st) (mm M F P)) : Rj cc own nL ret rm mc ms cA ad Q ex cells slots pc lv (.ref (ad 13 0) :: st) (mm M F P) := r_get_ot  kf hk hw (by rw [mm_n (by omega)]; exact hv) hd k
theorem r_putm_ot {idx : Nat}  {x : Int32} {ty : FieldType} (kf : Nat) (hk : kf < 5) (hw : Cond.fieldLink own idx (TX3 kf).1 (TX3 kf).2.1 (TX3 kf).2.2.1 ∈ wsL_law) (hfin : (TX3 kf).2.2.2 = false) (het : tyX3 kf = ty) (hn : narrow ty (.int x) = .int x) (hfit : fits ty (.int x) = true) (hset : l_ot ad (upd (M 13 0) kf x) = (l_ot ad (M 13 0)).set kf (.int x)) (hd : decode cc pc = .ok (.putfield idx, 3)) (k : Rj cc own nL ret rm mc ms cA ad Q ex cells slots (pc + 3) lv st (mm (m_pl M 13 (pu (M 13) 0 kf x)) F P)) : Rj cc own nL ret rm mc ms cA ad Q ex cells slots pc lv (.int x :: .ref (ad 13 0) :: st) (mm M F P) := r_put_ot  kf hk hw hfin het hn hfit (by rw [mm_n (by omega)]; exact hset) hd (by rw [mm_n (by omega), mm_set (by omega)]; exact k)
theorem r_getm_or {idx : Nat} {i : Nat} (hi : i < 12) {v : Value} (kf : Nat) (hk : kf < 5) (hw : Cond.fieldLink own idx (TX2 kf).1 (TX2 kf).2.1 (TX2 kf).2.2.1 ∈ wsL_law) (hv : (l_or (M 13 (3 + i)))[kf]? = some v) (hd : decode cc pc = .ok (.getfield idx, 3)) (k : Rj cc own nL ret rm mc ms cA ad Q ex cells slots (pc + 3) lv (v :: st) (mm M F P)) : Rj cc own nL ret rm mc ms cA ad Q ex cells slots pc lv (.ref (ad 13 (3 + i)) :: st) (mm M F P) := r_get_or hi kf hk hw (by rw [mm_n (by omega)]; exact hv) hd k
theorem r_getm_ln {idx : Nat}  {v : Value} (kf : Nat) (hk : kf < 2) (hw : Cond.fieldLink own idx (TX1 kf).1 (TX1 kf).2.1 (TX1 kf).2.2.1 ∈ wsL_law) (hv : (l_ln ad (M 14 0))[kf]? = some v) (hd : decode cc pc = .ok (.getfield idx, 3)) (k : Rj cc own nL ret rm mc ms cA ad Q ex cells slots (pc + 3) lv (v :: st) (mm M F P)) : Rj cc own nL ret rm mc ms cA ad Q ex cells slots pc lv (.ref (ad 14 0) :: st) (mm M F P) := r_get_ln  kf hk hw (by rw [mm_n (by omega)]; exact hv) hd k
theorem r_putm_ln {idx : Nat}  {x : Int32} {ty : FieldType} (kf : Nat) (hk : kf < 2) (hw : Cond.fieldLink own idx (TX1 kf).1 (TX1 kf).2.1 (TX1 kf).2.2.1 ∈ wsL_law) (hfin : (TX1 kf).2.2.2 = false) (het : tyX1 kf = ty) (hn : narrow ty (.int x) = .int x) (hfit : fits ty (.int x) = true) (hset : l_ln ad (upd (M 14 0) kf x) = (l_ln ad (M 14 0)).set kf (.int x)) (hd : decode cc pc = .ok (.putfield idx, 3)) (k : Rj cc own nL ret rm mc ms cA ad Q ex cells slots (pc + 3) lv st (mm (m_pl M 14 (pu (M 14) 0 kf x)) F P)) : Rj cc own nL ret rm mc ms cA ad Q ex cells slots pc lv (.int x :: .ref (ad 14 0) :: st) (mm M F P) := r_put_ln  kf hk hw hfin het hn hfit (by rw [mm_n (by omega)]; exact hset) hd (by rw [mm_n (by omega), mm_set (by omega)]; exact k)
theorem r_getm_pl {idx : Nat} {r : Nat} (hr : isPlan r) (h2 : 2 ≤ r) {v : Value} (kf : Nat) (hk : kf < 14) (hw : Cond.fieldLink own idx (TX4 kf).1 (TX4 kf).2.1 (TX4 kf).2.2.1 ∈ wsL_law) (hv : (l_pl ad r (M r 0))[kf]? = some v) (hd : decode cc pc = .ok (.getfield idx, 3)) (k : Rj cc own nL ret rm mc ms cA ad Q ex cells slots (pc + 3) lv (v :: st) (mm M F P)) : Rj cc own nL ret rm mc ms cA ad Q ex cells slots pc lv (.ref (ad r 0) :: st) (mm M F P) := r_get_pl hr kf hk hw (by rw [mm_n h2]; exact hv) hd k
theorem r_getm_st {idx : Nat} {r i : Nat} (hr : isPlan r) (h2 : 2 ≤ r) (hi : i < 12) {v : Value} (kf : Nat) (hk : kf < 11) (hw : Cond.fieldLink own idx (TX5 kf).1 (TX5 kf).2.1 (TX5 kf).2.2.1 ∈ wsL_law) (hv : (l_st (M r (4 + i)))[kf]? = some v) (hd : decode cc pc = .ok (.getfield idx, 3)) (k : Rj cc own nL ret rm mc ms cA ad Q ex cells slots (pc + 3) lv (v :: st) (mm M F P)) : Rj cc own nL ret rm mc ms cA ad Q ex cells slots pc lv (.ref (ad r (4 + i)) :: st) (mm M F P) := r_get_st hr hi kf hk hw (by rw [mm_n h2]; exact hv) hd k
theorem r_ldm_ls {i : Nat} {x v : Int32} (hx : x = nI i) (hi : i < 64) (hv : M 14 1 i = v) (hd : decode cc pc = .ok (.caload, 1)) (k : Rj cc own nL ret rm mc ms cA ad Q ex cells slots (pc + 1) lv (.int v :: st) (mm M F P)) : Rj cc own nL ret rm mc ms cA ad Q ex cells slots pc lv (.int x :: .ref (ad 14 1) :: st) (mm M F P) := r_ld_ls hx hi hd (by rw [mm_n (by omega), hv]; exact k)
theorem r_ldm_cn {i : Nat} {x v : Int32} (hx : x = nI i) (hi : i < 12) (hv : M 15 1 i = v) (hd : decode cc pc = .ok (.iaload, 1)) (k : Rj cc own nL ret rm mc ms cA ad Q ex cells slots (pc + 1) lv (.int v :: st) (mm M F P)) : Rj cc own nL ret rm mc ms cA ad Q ex cells slots pc lv (.int x :: .ref (ad 15 1) :: st) (mm M F P) := r_ld_cn hx hi hd (by rw [mm_n (by omega), hv]; exact k)
theorem r_ldm_cr {i : Nat} {x v : Int32} (hx : x = nI i) (hi : i < 12) (hv : M 15 2 i = v) (hd : decode cc pc = .ok (.iaload, 1)) (k : Rj cc own nL ret rm mc ms cA ad Q ex cells slots (pc + 1) lv (.int v :: st) (mm M F P)) : Rj cc own nL ret rm mc ms cA ad Q ex cells slots pc lv (.int x :: .ref (ad 15 2) :: st) (mm M F P) := r_ld_cr hx hi hd (by rw [mm_n (by omega), hv]; exact k)
end
def f_within (x a b : Int32) : Bool := decide (¬ x < a) && decide (¬ b < x)
def f_ref (F : tP) (a b : Int32) : tP := pu (pu (pu F 0 10 1) 0 11 a) 0 12 b
def f_keep1 (F : tP) : tP := pu F 0 5 ((F 0 5 + 1) - (F 0 5 + 1) / 9 * 9)
def f_keep (F : tP) (x : Int32) : tP := if x < 0 then F else if 8 ≤ f_keep1 F 0 6 then f_keep1 F else pu (f_keep1 F) 0 6 (f_keep1 F 0 6 + 1)
def km (F : tP) : Nat := (F 0 5).toNatClampNeg
def okm (F : tP) : Prop := F 0 5 = nI (km F) ∧ km F < 9
abbrev TX : Type := Int32 × tP × tP
def t_step (F P : tP) (d m b a : Int32) : TX :=
  if f_within d 1 9 = false ∨ f_within m 0 3 = false ∨ f_within b 0 3 = false then (-12, F, P)
  else if P 0 1 < 12 then (P 0 1, F, f_add P d m b a) else (-14, f_ref F 1 (P 0 1), P)
def t_need (F P : tP) (s o : Int32) : TX :=
  if f_hasStep P s = false ∨ f_hasStep P o = false then (-11, F, P)
  else if s = o then (-14, f_ref F 2 s, P)
  else if ¬ P (4 + s.toNatClampNeg) 6 = 0 then (-14, f_ref F 5 (P (4 + s.toNatClampNeg) 6), P)
  else if ¬ P (4 + s.toNatClampNeg) 4 &&& 1 <<< (o &&& 31) = 0 then (-14, f_ref F 3 o, P)
  else if f_noa P o.toNatClampNeg s then (-14, f_ref F 4 o, P)
  else (f_bc (P (4 + s.toNatClampNeg) 4 ||| 1 <<< (o &&& 31)), F, pu P (4 + s.toNatClampNeg) 4 (P (4 + s.toNatClampNeg) 4 ||| 1 <<< (o &&& 31)))
def t_fault (F P : tP) (s m : Int32) : TX :=
  if f_hasStep P s = false then (-11, F, P)
  else if f_within m 1 9 = false then (-12, F, P)
  else if f_isOpen (P (4 + s.toNatClampNeg) 6) = false then (-14, f_ref F 5 (P (4 + s.toNatClampNeg) 6), P)
  else (P (4 + s.toNatClampNeg) 9 + m, F, pu P (4 + s.toNatClampNeg) 9 (P (4 + s.toNatClampNeg) 9 + m))
def t_hands (F P : tP) (m : Int32) : TX := if f_within m 1 4 = false then (-12, F, P) else (P 0 8, F, pu P 0 8 m)
def t_cancel (F P : tP) (b : Int32) : TX :=
  if f_within b 1 3 = false then (-11, F, P) else if f_isCancelled P b then (-14, f_ref F 3 b, P) else ((f_can P b).2, F, (f_can P b).1)
def t_mile (F P : tP) (s d : Int32) : TX :=
  if f_hasStep P s = false then (-11, F, P)
  else if f_within d 1 999 = false then (-12, F, P)
  else if ¬ P (4 + s.toNatClampNeg) 5 = 1000 then (-14, f_ref F 3 (P (4 + s.toNatClampNeg) 5), P)
  else if P 0 3 < 4 then (P 0 3, F, f_addMs P s.toNatClampNeg d) else (-14, f_ref F 1 (P 0 3), P)
def lp_days : Nat → tP → tP
  | 0, P => P
  | n + 1, P => lp_days n (f_pass P)
def t_days (F P : tP) (d : Int32) : TX := if f_within d 1 30 = false then (-12, F, P) else (lp_days d.toNatClampNeg P 0 12 - P 0 12, F, lp_days d.toNatClampNeg P)
theorem hs_of {P : tP} {x : Int32} (o : okc P) (h : f_hasStep P x = true) : ∃ i, i < cn P ∧ i < 12 ∧ x = nI i ∧ x.toNatClampNeg = i := by
  simp only [f_hasStep, Bool.and_eq_true, decide_eq_true_eq] at h
  obtain ⟨i, h1, rfl⟩ := nI_of h.1
  have h2 := h.2
  rw [o.1] at h2
  have h3 : ¬ cn P ≤ i := fun e => h2 (nI_le e h1)
  have := o.2
  exact ⟨i, by omega, by omega, rfl, nI_clamp h1⟩
theorem wi_of {x : Int32} {b : Nat} (hb : b < 2 ^ 31) (h : f_within x 1 (nI b) = true) : ∃ j, 1 ≤ j ∧ j ≤ b ∧ x = nI j ∧ x.toNatClampNeg = j := by
  simp only [f_within, Bool.and_eq_true, decide_eq_true_eq] at h
  have h0 : ¬ x < 0 := fun e => h.1 (Int32.lt_trans e (by decide))
  obtain ⟨j, h1, rfl⟩ := nI_of h0
  have h2 : ¬ j < 1 := fun e => h.1 (nI_lt (b := 1) e (by omega))
  have h3 : ¬ b < j := fun e => h.2 (nI_lt e h1)
  exact ⟨j, by omega, by omega, rfl, nI_clamp h1⟩
theorem dX6_isWithin_0 : decode cX6_isWithin 0 = .ok (.iload_n 0, 1) := by decide +kernel
theorem dX6_isWithin_1 : decode cX6_isWithin 1 = .ok (.iload_n 1, 1) := by decide +kernel
theorem dX6_isWithin_2 : decode cX6_isWithin 2 = .ok (.if_icmp .lt 12, 3) := by decide +kernel
theorem dX6_isWithin_5 : decode cX6_isWithin 5 = .ok (.iload_n 0, 1) := by decide +kernel
theorem dX6_isWithin_6 : decode cX6_isWithin 6 = .ok (.iload_n 2, 1) := by decide +kernel
theorem dX6_isWithin_7 : decode cX6_isWithin 7 = .ok (.if_icmp .gt 7, 3) := by decide +kernel
theorem dX6_isWithin_10 : decode cX6_isWithin 10 = .ok (.iconst 1, 1) := by decide +kernel
theorem dX6_isWithin_11 : decode cX6_isWithin 11 = .ok (.goto 4, 3) := by decide +kernel
theorem dX6_isWithin_14 : decode cX6_isWithin 14 = .ok (.iconst 0, 1) := by decide +kernel
theorem dX6_isWithin_15 : decode cX6_isWithin 15 = .ok (.ireturn, 1) := by decide +kernel
theorem dcX6_isWithin : yX6_isWithin.cls = RX6 ∧ yX6_isWithin.cls ≠ "java/lang/invoke/MethodHandle" ∧ yX6_isWithin.cls ≠ "java/lang/invoke/VarHandle" ∧ (parseMethodDescriptor yX6_isWithin.desc).map (fun d => d.parameters.length) = some 3 := by decide +kernel
set_option maxRecDepth 100000 in
set_option maxHeartbeats 4000000 in
theorem K_wi {cA : Nat → ClassId} {ad : tA} {ex : va_W} {M : tM} {x a b : Int32} : Cj yX6_isWithin cX6_isWithin 3 (some .boolean) (rmd 0) 0 0 cA ad [.int x, .int a, .int b] ex M (Qe (some (.int (bI (f_within x a b)))) ex M) := by
  refine c_of_r (lv0 := [some (.int x), some (.int a), some (.int b)]) rfl (by decide +kernel) (Nat.le_of_ble_eq_true rfl) rfl ?_
  refine r_iload_n dX6_isWithin_0 rfl ?_
  refine r_iload_n dX6_isWithin_1 rfl ?_
  refine r_icmp_lt (tgt := 14) dX6_isWithin_2 (by decide) (fun c2 => ?_) (fun c2 => ?_)
  · refine r_iconst (v := 0) dX6_isWithin_14 (by decide) ?_
    exact r_ret rfl rfl dX6_isWithin_15 (by first | (simp [f_within, bI, *]; done) | simp_all [f_within, bI]) rfl
  · refine r_iload_n dX6_isWithin_5 rfl ?_
    refine r_iload_n dX6_isWithin_6 rfl ?_
    refine r_icmp_gt (tgt := 14) dX6_isWithin_7 (by decide) (fun c7 => ?_) (fun c7 => ?_)
    · refine r_iconst (v := 0) dX6_isWithin_14 (by decide) ?_
      exact r_ret rfl rfl dX6_isWithin_15 (by first | (simp [f_within, bI, *]; done) | simp_all [f_within, bI]) rfl
    · refine r_iconst (v := 1) dX6_isWithin_10 (by decide) ?_
      refine r_goto (tgt := 15) dX6_isWithin_11 (by decide) ?_
      exact r_ret rfl rfl dX6_isWithin_15 (by first | (simp [f_within, bI, *]; done) | simp_all [f_within, bI]) rfl
theorem dX6_refuse_0 : decode cX6_refuse 0 = .ok (.aload_n 0, 1) := by decide +kernel
theorem dX6_refuse_1 : decode cX6_refuse 1 = .ok (.iconst 1, 1) := by decide +kernel
theorem dX6_refuse_2 : decode cX6_refuse 2 = .ok (.putfield 217, 3) := by decide +kernel
theorem dX6_refuse_5 : decode cX6_refuse 5 = .ok (.aload_n 0, 1) := by decide +kernel
theorem dX6_refuse_6 : decode cX6_refuse 6 = .ok (.iload_n 1, 1) := by decide +kernel
theorem dX6_refuse_7 : decode cX6_refuse 7 = .ok (.putfield 223, 3) := by decide +kernel
theorem dX6_refuse_10 : decode cX6_refuse 10 = .ok (.aload_n 0, 1) := by decide +kernel
theorem dX6_refuse_11 : decode cX6_refuse 11 = .ok (.iload_n 2, 1) := by decide +kernel
theorem dX6_refuse_12 : decode cX6_refuse 12 = .ok (.putfield 220, 3) := by decide +kernel
theorem dX6_refuse_15 : decode cX6_refuse 15 = .ok (.bipush (-14), 2) := by decide +kernel
theorem dX6_refuse_17 : decode cX6_refuse 17 = .ok (.ireturn, 1) := by decide +kernel
theorem dcX6_refuse : yX6_refuse.cls = RX6 ∧ yX6_refuse.cls ≠ "java/lang/invoke/MethodHandle" ∧ yX6_refuse.cls ≠ "java/lang/invoke/VarHandle" ∧ (parseMethodDescriptor yX6_refuse.desc).map (fun d => d.parameters.length) = some 2 := by decide +kernel
set_option maxRecDepth 100000 in
set_option maxHeartbeats 4000000 in
theorem K_ref {cA : Nat → ClassId} {ad : tA} {ex : va_W} {M : tM} {F P : tP} {a b : Int32} : Cj yX6_refuse cX6_refuse 3 (some .int) (rmd 0) 0 0 cA ad [.ref (ad 0 0), .int a, .int b] ex (mm M F P) (Qe (some (.int (-14))) ex (mm M (f_ref F a b) P)) := by
  refine c_of_r (lv0 := [some (.ref (ad 0 0)), some (.int a), some (.int b)]) rfl (by decide +kernel) (Nat.le_of_ble_eq_true rfl) rfl ?_
  refine r_aload_n dX6_refuse_0 rfl ?_
  refine r_iconst (v := 1) dX6_refuse_1 (by decide) ?_
  refine r_putF 10 (by decide) q290 rfl rfl (by decide) (by decide) rfl dX6_refuse_2 ?_
  refine r_aload_n dX6_refuse_5 rfl ?_
  refine r_iload_n dX6_refuse_6 rfl ?_
  refine r_putF 11 (by decide) q291 rfl rfl rfl rfl rfl dX6_refuse_7 ?_
  refine r_aload_n dX6_refuse_10 rfl ?_
  refine r_iload_n dX6_refuse_11 rfl ?_
  refine r_putF 12 (by decide) q292 rfl rfl rfl rfl rfl dX6_refuse_12 ?_
  refine r_bipush (v := -14) dX6_refuse_15 (by decide) ?_
  exact r_ret rfl rfl dX6_refuse_17 rfl rfl
theorem dX6_keepChange_0 : decode cX6_keepChange 0 = .ok (.iload_n 1, 1) := by decide +kernel
theorem dX6_keepChange_1 : decode cX6_keepChange 1 = .ok (.ifCond .ge 5, 3) := by decide +kernel
theorem dX6_keepChange_4 : decode cX6_keepChange 4 = .ok (.iload_n 1, 1) := by decide +kernel
theorem dX6_keepChange_5 : decode cX6_keepChange 5 = .ok (.ireturn, 1) := by decide +kernel
theorem dX6_keepChange_6 : decode cX6_keepChange 6 = .ok (.aload_n 0, 1) := by decide +kernel
theorem dX6_keepChange_7 : decode cX6_keepChange 7 = .ok (.aload_n 0, 1) := by decide +kernel
theorem dX6_keepChange_8 : decode cX6_keepChange 8 = .ok (.getfield 198, 3) := by decide +kernel
theorem dX6_keepChange_11 : decode cX6_keepChange 11 = .ok (.iconst 1, 1) := by decide +kernel
theorem dX6_keepChange_12 : decode cX6_keepChange 12 = .ok (.iadd, 1) := by decide +kernel
theorem dX6_keepChange_13 : decode cX6_keepChange 13 = .ok (.bipush 9, 2) := by decide +kernel
theorem dX6_keepChange_15 : decode cX6_keepChange 15 = .ok (.irem, 1) := by decide +kernel
theorem dX6_keepChange_16 : decode cX6_keepChange 16 = .ok (.putfield 198, 3) := by decide +kernel
theorem dX6_keepChange_19 : decode cX6_keepChange 19 = .ok (.aload_n 0, 1) := by decide +kernel
theorem dX6_keepChange_20 : decode cX6_keepChange 20 = .ok (.getfield 247, 3) := by decide +kernel
theorem dX6_keepChange_23 : decode cX6_keepChange 23 = .ok (.bipush 8, 2) := by decide +kernel
theorem dX6_keepChange_25 : decode cX6_keepChange 25 = .ok (.if_icmp .ge 13, 3) := by decide +kernel
theorem dX6_keepChange_28 : decode cX6_keepChange 28 = .ok (.aload_n 0, 1) := by decide +kernel
theorem dX6_keepChange_29 : decode cX6_keepChange 29 = .ok (.dup, 1) := by decide +kernel
theorem dX6_keepChange_30 : decode cX6_keepChange 30 = .ok (.getfield 247, 3) := by decide +kernel
theorem dX6_keepChange_33 : decode cX6_keepChange 33 = .ok (.iconst 1, 1) := by decide +kernel
theorem dX6_keepChange_34 : decode cX6_keepChange 34 = .ok (.iadd, 1) := by decide +kernel
theorem dX6_keepChange_35 : decode cX6_keepChange 35 = .ok (.putfield 247, 3) := by decide +kernel
theorem dX6_keepChange_38 : decode cX6_keepChange 38 = .ok (.iload_n 1, 1) := by decide +kernel
theorem dX6_keepChange_39 : decode cX6_keepChange 39 = .ok (.ireturn, 1) := by decide +kernel
theorem dcX6_keepChange : yX6_keepChange.cls = RX6 ∧ yX6_keepChange.cls ≠ "java/lang/invoke/MethodHandle" ∧ yX6_keepChange.cls ≠ "java/lang/invoke/VarHandle" ∧ (parseMethodDescriptor yX6_keepChange.desc).map (fun d => d.parameters.length) = some 1 := by decide +kernel
set_option maxRecDepth 100000 in
set_option maxHeartbeats 4000000 in
theorem K_keep {cA : Nat → ClassId} {ad : tA} {ex : va_W} {M : tM} {F P : tP} {x : Int32} : Cj yX6_keepChange cX6_keepChange 2 (some .int) (rmd 0) 0 0 cA ad [.ref (ad 0 0), .int x] ex (mm M F P) (Qe (some (.int x)) ex (mm M (f_keep F x) P)) := by
  refine c_of_r (lv0 := [some (.ref (ad 0 0)), some (.int x)]) rfl (by decide +kernel) (Nat.le_of_ble_eq_true rfl) rfl ?_
  refine r_iload_n dX6_keepChange_0 rfl ?_
  refine r_if_ge (tgt := 6) dX6_keepChange_1 (by decide) (fun c1 => ?_) (fun c1 => ?_)
  · refine r_aload_n dX6_keepChange_6 rfl ?_
    refine r_aload_n dX6_keepChange_7 rfl ?_
    refine r_getF 5 (by decide) q75 rfl dX6_keepChange_8 ?_
    refine r_iconst (v := 1) dX6_keepChange_11 (by decide) ?_
    refine r_iadd dX6_keepChange_12 ?_
    refine r_bipush (v := 9) dX6_keepChange_13 (by decide) ?_
    refine r_irem dX6_keepChange_15 (by decide) ?_
    refine r_putF 5 (by decide) q75 rfl rfl rfl rfl rfl dX6_keepChange_16 ?_
    refine r_aload_n dX6_keepChange_19 rfl ?_
    refine r_getF 6 (by decide) q74 rfl dX6_keepChange_20 ?_
    refine r_bipush (v := 8) dX6_keepChange_23 (by decide) ?_
    refine r_icmp_ge (tgt := 38) dX6_keepChange_25 (by decide) (fun c25 => ?_) (fun c25 => ?_)
    · refine r_iload_n dX6_keepChange_38 rfl ?_
      first | exact r_ret rfl rfl dX6_keepChange_39 rfl (by rw [show f_keep F x = f_keep1 F from (if_neg (Int32.not_lt.mpr c1)).trans (if_pos c25)]; rfl) | exact r_ret rfl rfl dX6_keepChange_39 rfl (by rw [show f_keep F x = pu (f_keep1 F) 0 6 (f_keep1 F 0 6 + 1) from (if_neg (Int32.not_lt.mpr c1)).trans (if_neg c25)]; rfl)
    · refine r_aload_n dX6_keepChange_28 rfl ?_
      refine r_dup dX6_keepChange_29 rfl ?_
      refine r_getF 6 (by decide) q74 rfl dX6_keepChange_30 ?_
      refine r_iconst (v := 1) dX6_keepChange_33 (by decide) ?_
      refine r_iadd dX6_keepChange_34 ?_
      refine r_putF 6 (by decide) q74 rfl rfl rfl rfl rfl dX6_keepChange_35 ?_
      refine r_iload_n dX6_keepChange_38 rfl ?_
      first | exact r_ret rfl rfl dX6_keepChange_39 rfl (by rw [show f_keep F x = f_keep1 F from (if_neg (Int32.not_lt.mpr c1)).trans (if_pos c25)]; rfl) | exact r_ret rfl rfl dX6_keepChange_39 rfl (by rw [show f_keep F x = pu (f_keep1 F) 0 6 (f_keep1 F 0 6 + 1) from (if_neg (Int32.not_lt.mpr c1)).trans (if_neg c25)]; rfl)
  · refine r_iload_n dX6_keepChange_4 rfl ?_
    exact r_ret rfl rfl dX6_keepChange_5 rfl (by rw [f_keep, if_pos (Int32.not_le.mp c1)])
/-- copies: of now to region r; of region r to now -/
theorem KC_from {cA : Nat → ClassId} {ad : tA} {ex : va_W} {M : tM} {F P : tP} {r : Nat} (hr : isPlan r) (h2 : 2 ≤ r) (hoc : okc P) (hob : okb P) : Cj yX4_copyFrom cX4_copyFrom 3 none (rmd 1) 0 0 cA ad [.ref (ad r 0), .ref (ad 1 0)] ex (mm M F P) (Qe none ex (mm (m_pl M r (f_copy (M r) P)) F P)) := by
  have h := K_copy (cA := cA) (ad := ad) (ex := ex) (M := mm M F P) (P0 := M r) hr is1 (by omega) (by rw [mm_1]; exact hoc) (by rw [mm_1]; exact hob)
  rw [mm_1] at h
  exact cmm h2 rfl h
theorem KC_to {cA : Nat → ClassId} {ad : tA} {ex : va_W} {M : tM} {F P : tP} {r : Nat} (hr : isPlan r) (h2 : 2 ≤ r) (hoc : okc (M r)) (hob : okb (M r)) : Cj yX4_copyFrom cX4_copyFrom 3 none (rmd 1) 0 0 cA ad [.ref (ad 1 0), .ref (ad r 0)] ex (mm M F P) (Qe none ex (mm M F (f_copy P (M r)))) := by
  have e : m_pl M 0 F r = M r := m_pl_n (by omega)
  have h := K_copy (cA := cA) (ad := ad) (ex := ex) (M := m_pl M 0 F) (P0 := P) (r := 1) is1 hr (by omega) (by rw [e]; exact hoc) (by rw [e]; exact hob)
  rw [e] at h
  exact h
theorem dX6_markBefore_0 : decode cX6_markBefore 0 = .ok (.aload_n 0, 1) := by decide +kernel
theorem dX6_markBefore_1 : decode cX6_markBefore 1 = .ok (.getfield 22, 3) := by decide +kernel
theorem dX6_markBefore_4 : decode cX6_markBefore 4 = .ok (.aload_n 0, 1) := by decide +kernel
theorem dX6_markBefore_5 : decode cX6_markBefore 5 = .ok (.getfield 198, 3) := by decide +kernel
theorem dX6_markBefore_8 : decode cX6_markBefore 8 = .ok (.aaload, 1) := by decide +kernel
theorem dX6_markBefore_9 : decode cX6_markBefore 9 = .ok (.aload_n 0, 1) := by decide +kernel
theorem dX6_markBefore_10 : decode cX6_markBefore 10 = .ok (.getfield 12, 3) := by decide +kernel
theorem dX6_markBefore_13 : decode cX6_markBefore 13 = .ok (.invokevirtual 139, 3) := by decide +kernel
theorem dX6_markBefore_16 : decode cX6_markBefore 16 = .ok (.return_, 1) := by decide +kernel
theorem dcX6_markBefore : yX6_markBefore.cls = RX6 ∧ yX6_markBefore.cls ≠ "java/lang/invoke/MethodHandle" ∧ yX6_markBefore.cls ≠ "java/lang/invoke/VarHandle" ∧ (parseMethodDescriptor yX6_markBefore.desc).map (fun d => d.parameters.length) = some 0 := by decide +kernel
theorem gX6_markBefore_13 : GoodIn wsL_law (wsV RX6 139 RX4 yX4_copyFrom (.code yX4_copyFrom cX4_copyFrom 3 none :: wsL_law)) := g_V q76 q77 q78 q16 q79
set_option maxRecDepth 100000 in
set_option maxHeartbeats 4000000 in
theorem K_mark {cA : Nat → ClassId} {ad : tA} {ex : va_W} {M : tM} {F P : tP} (hm : okm F) (hoc : okc P) (hob : okb P) : Cj yX6_markBefore cX6_markBefore 1 none (rmd 2) 0 0 cA ad [.ref (ad 0 0)] ex (mm M F P) (Qe none ex (mm (m_pl M (4 + km F) (f_copy (M (4 + km F)) P)) F P)) := by
  refine c_of_r (lv0 := [some (.ref (ad 0 0))]) rfl (by decide +kernel) (Nat.le_of_ble_eq_true rfl) rfl ?_
  refine r_aload_n dX6_markBefore_0 rfl ?_
  refine r_getF 4 (by decide) q20 rfl dX6_markBefore_1 ?_
  refine r_aload_n dX6_markBefore_4 rfl ?_
  refine r_getF 5 (by decide) q75 rfl dX6_markBefore_5 ?_
  refine r_ald_marks hm.1 hm.2 dX6_markBefore_8 ?_
  refine r_aload_n dX6_markBefore_9 rfl ?_
  refine r_getF 0 (by decide) q17 rfl dX6_markBefore_10 ?_
  refine r_cVv dX6_markBefore_13 (KC_from (isk hm.2) (by omega) hoc hob) gX6_markBefore_13 dcX4_copyFrom rfl rfl rfl (Nat.le_of_ble_eq_true rfl) (ob_pl (isk hm.2)) ?_
  exact r_retv rfl dX6_markBefore_16 rfl
theorem t_a {q : TX} {x : Int32} {F P : tP} (h : q = (x, F, P)) : x = q.1 := by rw [h]
theorem t_m {M : tM} {q : TX} {x : Int32} {F P : tP} (h : q = (x, F, P)) : mm M F P = mm M q.2.1 q.2.2 := by rw [h]
theorem bF {b : Bool} (h : bI b = 0) : b = false := bI_0 h
theorem ite_1 {α : Type} {c : Prop} {h : Decidable c} {x y : α} (hc : c) : ite c x y = x := if_pos hc
theorem or3a {a b c : Prop} (h : a) : a ∨ b ∨ c := Or.inl h
theorem or3b {a b c : Prop} (h : b) : a ∨ b ∨ c := Or.inr (Or.inl h)
theorem or3c {a b c : Prop} (h : c) : a ∨ b ∨ c := Or.inr (Or.inr h)
theorem nf_of {b : Bool} (h : ¬ bI b = 0) : ¬ b = false := by rw [bI_1 h]; decide
theorem n3 {a b c : Prop} (h1 : ¬ a) (h2 : ¬ b) (h3 : ¬ c) : ¬ (a ∨ b ∨ c) := fun e => e.elim h1 (fun e => e.elim h2 h3)
theorem n2 {a b : Prop} (h1 : ¬ a) (h2 : ¬ b) : ¬ (a ∨ b) := fun e => e.elim h1 h2
theorem bt {b : Bool} (h : ¬ bI b = 0) : b = true := bI_1 h
theorem bnt {b : Bool} (h : bI b = 0) : ¬ b = true := by rw [bI_0 h]; decide
theorem lt12 {P : tP} (h : okc P) (h2 : P 0 1 < 12) : cn P < 12 := by
  rw [h.1] at h2
  exact (nI_ltI (b := 12) (by have := h.2; omega) (by omega)).mp h2
theorem dX6_tellStep_0 : decode cX6_tellStep 0 = .ok (.iload_n 1, 1) := by decide +kernel
theorem dX6_tellStep_1 : decode cX6_tellStep 1 = .ok (.iconst 1, 1) := by decide +kernel
theorem dX6_tellStep_2 : decode cX6_tellStep 2 = .ok (.bipush 9, 2) := by decide +kernel
theorem dX6_tellStep_4 : decode cX6_tellStep 4 = .ok (.invokestatic 253, 3) := by decide +kernel
theorem dX6_tellStep_7 : decode cX6_tellStep 7 = .ok (.ifCond .eq 21, 3) := by decide +kernel
theorem dX6_tellStep_10 : decode cX6_tellStep 10 = .ok (.iload_n 2, 1) := by decide +kernel
theorem dX6_tellStep_11 : decode cX6_tellStep 11 = .ok (.iconst 0, 1) := by decide +kernel
theorem dX6_tellStep_12 : decode cX6_tellStep 12 = .ok (.iconst 3, 1) := by decide +kernel
theorem dX6_tellStep_13 : decode cX6_tellStep 13 = .ok (.invokestatic 253, 3) := by decide +kernel
theorem dX6_tellStep_16 : decode cX6_tellStep 16 = .ok (.ifCond .eq 12, 3) := by decide +kernel
theorem dX6_tellStep_19 : decode cX6_tellStep 19 = .ok (.iload_n 3, 1) := by decide +kernel
theorem dX6_tellStep_20 : decode cX6_tellStep 20 = .ok (.iconst 0, 1) := by decide +kernel
theorem dX6_tellStep_21 : decode cX6_tellStep 21 = .ok (.iconst 3, 1) := by decide +kernel
theorem dX6_tellStep_22 : decode cX6_tellStep 22 = .ok (.invokestatic 253, 3) := by decide +kernel
theorem dX6_tellStep_25 : decode cX6_tellStep 25 = .ok (.ifCond .ne 6, 3) := by decide +kernel
theorem dX6_tellStep_28 : decode cX6_tellStep 28 = .ok (.bipush (-12), 2) := by decide +kernel
theorem dX6_tellStep_30 : decode cX6_tellStep 30 = .ok (.ireturn, 1) := by decide +kernel
theorem dX6_tellStep_31 : decode cX6_tellStep 31 = .ok (.aload_n 0, 1) := by decide +kernel
theorem dX6_tellStep_32 : decode cX6_tellStep 32 = .ok (.getfield 12, 3) := by decide +kernel
theorem dX6_tellStep_35 : decode cX6_tellStep 35 = .ok (.getfield 170, 3) := by decide +kernel
theorem dX6_tellStep_38 : decode cX6_tellStep 38 = .ok (.bipush 12, 2) := by decide +kernel
theorem dX6_tellStep_40 : decode cX6_tellStep 40 = .ok (.if_icmp .lt 16, 3) := by decide +kernel
theorem dX6_tellStep_43 : decode cX6_tellStep 43 = .ok (.aload_n 0, 1) := by decide +kernel
theorem dX6_tellStep_44 : decode cX6_tellStep 44 = .ok (.iconst 1, 1) := by decide +kernel
theorem dX6_tellStep_45 : decode cX6_tellStep 45 = .ok (.aload_n 0, 1) := by decide +kernel
theorem dX6_tellStep_46 : decode cX6_tellStep 46 = .ok (.getfield 12, 3) := by decide +kernel
theorem dX6_tellStep_49 : decode cX6_tellStep 49 = .ok (.getfield 170, 3) := by decide +kernel
theorem dX6_tellStep_52 : decode cX6_tellStep 52 = .ok (.invokevirtual 201, 3) := by decide +kernel
theorem dX6_tellStep_55 : decode cX6_tellStep 55 = .ok (.ireturn, 1) := by decide +kernel
theorem dX6_tellStep_56 : decode cX6_tellStep 56 = .ok (.aload_n 0, 1) := by decide +kernel
theorem dX6_tellStep_57 : decode cX6_tellStep 57 = .ok (.getfield 12, 3) := by decide +kernel
theorem dX6_tellStep_60 : decode cX6_tellStep 60 = .ok (.iload_n 1, 1) := by decide +kernel
theorem dX6_tellStep_61 : decode cX6_tellStep 61 = .ok (.iload_n 2, 1) := by decide +kernel
theorem dX6_tellStep_62 : decode cX6_tellStep 62 = .ok (.iload_n 3, 1) := by decide +kernel
theorem dX6_tellStep_63 : decode cX6_tellStep 63 = .ok (.iload 4, 2) := by decide +kernel
theorem dX6_tellStep_65 : decode cX6_tellStep 65 = .ok (.invokevirtual 257, 3) := by decide +kernel
theorem dX6_tellStep_68 : decode cX6_tellStep 68 = .ok (.ireturn, 1) := by decide +kernel
theorem dcX6_tellStep : yX6_tellStep.cls = RX6 ∧ yX6_tellStep.cls ≠ "java/lang/invoke/MethodHandle" ∧ yX6_tellStep.cls ≠ "java/lang/invoke/VarHandle" ∧ (parseMethodDescriptor yX6_tellStep.desc).map (fun d => d.parameters.length) = some 4 := by decide +kernel
theorem gX6_tellStep_4 : gS RX6 253 yX6_isWithin cX6_isWithin 3 (some .boolean) := ⟨q132, q133, q2, q134⟩
theorem gX6_tellStep_13 : gS RX6 253 yX6_isWithin cX6_isWithin 3 (some .boolean) := ⟨q132, q133, q2, q134⟩
theorem gX6_tellStep_22 : gS RX6 253 yX6_isWithin cX6_isWithin 3 (some .boolean) := ⟨q132, q133, q2, q134⟩
theorem gX6_tellStep_65 : GoodIn wsL_law (wsV RX6 257 RX4 yX4_addStep (.code yX4_addStep cX4_addStep 6 (some .int) :: wsL_law)) := g_V q293 q294 q295 q16 q296
theorem gX6_tellStep_52 : GoodIn wsL_law (wsV RX6 201 RX6 yX6_refuse (.code yX6_refuse cX6_refuse 3 (some .int) :: wsL_law)) := g_V q286 q287 q288 q2 q289
set_option maxRecDepth 100000 in
set_option maxHeartbeats 4000000 in
theorem K_tstep {cA : Nat → ClassId} {ad : tA} {ex : va_W} {M : tM} {F P : tP} {d m b : Int32} {a : Bool} (hoc : okc P) (ho : oke P) : Cj yX6_tellStep cX6_tellStep 5 (some .int) (rmd 5) 0 0 cA ad [.ref (ad 0 0), .int d, .int m, .int b, .int (bI a)] ex (mm M F P) (Qe (some (.int (t_step F P d m b (bI a)).1)) ex (mm M (t_step F P d m b (bI a)).2.1 (t_step F P d m b (bI a)).2.2)) := by
  refine c_of_r (lv0 := [some (.ref (ad 0 0)), some (.int d), some (.int m), some (.int b), some (.int (bI a))]) rfl (by decide +kernel) (Nat.le_of_ble_eq_true rfl) rfl ?_
  refine r_iload_n dX6_tellStep_0 rfl ?_
  refine r_iconst (v := 1) dX6_tellStep_1 (by decide) ?_
  refine r_bipush (v := 9) dX6_tellStep_2 (by decide) ?_
  refine r_cSi dX6_tellStep_4 (K_wi) gX6_tellStep_4 dcX6_isWithin rfl rfl rfl (Nat.le_of_ble_eq_true rfl) ?_
  refine r_if_eq (tgt := 28) dX6_tellStep_7 (by decide) (fun c7 => ?_) (fun c7 => ?_)
  · refine r_bipush (v := -12) dX6_tellStep_28 (by decide) ?_
    first | exact r_ret rfl rfl dX6_tellStep_30 (t_a (show (t_step F P d m b (bI a)) = _ from if_pos (or3a (bF c7)))) (t_m (show (t_step F P d m b (bI a)) = _ from if_pos (or3a (bF c7)))) | exact r_ret rfl rfl dX6_tellStep_30 (t_a (show (t_step F P d m b (bI a)) = _ from if_pos (or3b (bF c16)))) (t_m (show (t_step F P d m b (bI a)) = _ from if_pos (or3b (bF c16)))) | exact r_ret rfl rfl dX6_tellStep_30 (t_a (show (t_step F P d m b (bI a)) = _ from if_pos (or3c (bF c25)))) (t_m (show (t_step F P d m b (bI a)) = _ from if_pos (or3c (bF c25))))
  · refine r_iload_n dX6_tellStep_10 rfl ?_
    refine r_iconst (v := 0) dX6_tellStep_11 (by decide) ?_
    refine r_iconst (v := 3) dX6_tellStep_12 (by decide) ?_
    refine r_cSi dX6_tellStep_13 (K_wi) gX6_tellStep_13 dcX6_isWithin rfl rfl rfl (Nat.le_of_ble_eq_true rfl) ?_
    refine r_if_eq (tgt := 28) dX6_tellStep_16 (by decide) (fun c16 => ?_) (fun c16 => ?_)
    · refine r_bipush (v := -12) dX6_tellStep_28 (by decide) ?_
      first | exact r_ret rfl rfl dX6_tellStep_30 (t_a (show (t_step F P d m b (bI a)) = _ from if_pos (or3a (bF c7)))) (t_m (show (t_step F P d m b (bI a)) = _ from if_pos (or3a (bF c7)))) | exact r_ret rfl rfl dX6_tellStep_30 (t_a (show (t_step F P d m b (bI a)) = _ from if_pos (or3b (bF c16)))) (t_m (show (t_step F P d m b (bI a)) = _ from if_pos (or3b (bF c16)))) | exact r_ret rfl rfl dX6_tellStep_30 (t_a (show (t_step F P d m b (bI a)) = _ from if_pos (or3c (bF c25)))) (t_m (show (t_step F P d m b (bI a)) = _ from if_pos (or3c (bF c25))))
    · refine r_iload_n dX6_tellStep_19 rfl ?_
      refine r_iconst (v := 0) dX6_tellStep_20 (by decide) ?_
      refine r_iconst (v := 3) dX6_tellStep_21 (by decide) ?_
      refine r_cSi dX6_tellStep_22 (K_wi) gX6_tellStep_22 dcX6_isWithin rfl rfl rfl (Nat.le_of_ble_eq_true rfl) ?_
      refine r_if_ne (tgt := 31) dX6_tellStep_25 (by decide) (fun c25 => ?_) (fun c25 => ?_)
      · refine r_aload_n dX6_tellStep_31 rfl ?_
        refine r_getF 0 (by decide) q17 rfl dX6_tellStep_32 ?_
        refine r_getp_pl is1 1 (by decide) q153 rfl dX6_tellStep_35 ?_
        refine r_bipush (v := 12) dX6_tellStep_38 (by decide) ?_
        refine r_icmp_lt (tgt := 56) dX6_tellStep_40 (by decide) (fun c40 => ?_) (fun c40 => ?_)
        · refine r_aload_n dX6_tellStep_56 rfl ?_
          refine r_getF 0 (by decide) q17 rfl dX6_tellStep_57 ?_
          refine r_iload_n dX6_tellStep_60 rfl ?_
          refine r_iload_n dX6_tellStep_61 rfl ?_
          refine r_iload_n dX6_tellStep_62 rfl ?_
          refine r_iload dX6_tellStep_63 rfl ?_
          refine r_cVi dX6_tellStep_65 (K_add is1 hoc (lt12 hoc c40) ho) gX6_tellStep_65 dcX4_addStep rfl rfl rfl (Nat.le_of_ble_eq_true rfl) (ob_pl is1) ?_
          first | exact r_ret rfl rfl dX6_tellStep_68 (t_a (show (t_step F P d m b (bI a)) = _ from (if_neg (n3 (nf_of c7) (nf_of c16) (nf_of c25))).trans (if_pos c40))) (t_m (show (t_step F P d m b (bI a)) = _ from (if_neg (n3 (nf_of c7) (nf_of c16) (nf_of c25))).trans (if_pos c40)))
        · refine r_aload_n dX6_tellStep_43 rfl ?_
          refine r_iconst (v := 1) dX6_tellStep_44 (by decide) ?_
          refine r_aload_n dX6_tellStep_45 rfl ?_
          refine r_getF 0 (by decide) q17 rfl dX6_tellStep_46 ?_
          refine r_getp_pl is1 1 (by decide) q153 rfl dX6_tellStep_49 ?_
          refine r_cVi dX6_tellStep_52 (K_ref) gX6_tellStep_52 dcX6_refuse rfl rfl rfl (Nat.le_of_ble_eq_true rfl) ob_tf ?_
          first | exact r_ret rfl rfl dX6_tellStep_55 (t_a (show (t_step F P d m b (bI a)) = _ from (if_neg (n3 (nf_of c7) (nf_of c16) (nf_of c25))).trans (if_neg (Int32.not_lt.mpr (Int32.not_lt.mp c40))))) (t_m (show (t_step F P d m b (bI a)) = _ from (if_neg (n3 (nf_of c7) (nf_of c16) (nf_of c25))).trans (if_neg (Int32.not_lt.mpr (Int32.not_lt.mp c40)))))
      · refine r_bipush (v := -12) dX6_tellStep_28 (by decide) ?_
        first | exact r_ret rfl rfl dX6_tellStep_30 (t_a (show (t_step F P d m b (bI a)) = _ from if_pos (or3a (bF c7)))) (t_m (show (t_step F P d m b (bI a)) = _ from if_pos (or3a (bF c7)))) | exact r_ret rfl rfl dX6_tellStep_30 (t_a (show (t_step F P d m b (bI a)) = _ from if_pos (or3b (bF c16)))) (t_m (show (t_step F P d m b (bI a)) = _ from if_pos (or3b (bF c16)))) | exact r_ret rfl rfl dX6_tellStep_30 (t_a (show (t_step F P d m b (bI a)) = _ from if_pos (or3c (bF c25)))) (t_m (show (t_step F P d m b (bI a)) = _ from if_pos (or3c (bF c25))))
theorem dX6_tellNeed_0 : decode cX6_tellNeed 0 = .ok (.aload_n 0, 1) := by decide +kernel
theorem dX6_tellNeed_1 : decode cX6_tellNeed 1 = .ok (.getfield 12, 3) := by decide +kernel
theorem dX6_tellNeed_4 : decode cX6_tellNeed 4 = .ok (.iload_n 1, 1) := by decide +kernel
theorem dX6_tellNeed_5 : decode cX6_tellNeed 5 = .ok (.invokevirtual 77, 3) := by decide +kernel
theorem dX6_tellNeed_8 : decode cX6_tellNeed 8 = .ok (.ifCond .eq 14, 3) := by decide +kernel
theorem dX6_tellNeed_11 : decode cX6_tellNeed 11 = .ok (.aload_n 0, 1) := by decide +kernel
theorem dX6_tellNeed_12 : decode cX6_tellNeed 12 = .ok (.getfield 12, 3) := by decide +kernel
theorem dX6_tellNeed_15 : decode cX6_tellNeed 15 = .ok (.iload_n 2, 1) := by decide +kernel
theorem dX6_tellNeed_16 : decode cX6_tellNeed 16 = .ok (.invokevirtual 77, 3) := by decide +kernel
theorem dX6_tellNeed_19 : decode cX6_tellNeed 19 = .ok (.ifCond .ne 6, 3) := by decide +kernel
theorem dX6_tellNeed_22 : decode cX6_tellNeed 22 = .ok (.bipush (-11), 2) := by decide +kernel
theorem dX6_tellNeed_24 : decode cX6_tellNeed 24 = .ok (.ireturn, 1) := by decide +kernel
theorem dX6_tellNeed_25 : decode cX6_tellNeed 25 = .ok (.iload_n 1, 1) := by decide +kernel
theorem dX6_tellNeed_26 : decode cX6_tellNeed 26 = .ok (.iload_n 2, 1) := by decide +kernel
theorem dX6_tellNeed_27 : decode cX6_tellNeed 27 = .ok (.if_icmp .ne 10, 3) := by decide +kernel
theorem dX6_tellNeed_30 : decode cX6_tellNeed 30 = .ok (.aload_n 0, 1) := by decide +kernel
theorem dX6_tellNeed_31 : decode cX6_tellNeed 31 = .ok (.iconst 2, 1) := by decide +kernel
theorem dX6_tellNeed_32 : decode cX6_tellNeed 32 = .ok (.iload_n 1, 1) := by decide +kernel
theorem dX6_tellNeed_33 : decode cX6_tellNeed 33 = .ok (.invokevirtual 201, 3) := by decide +kernel
theorem dX6_tellNeed_36 : decode cX6_tellNeed 36 = .ok (.ireturn, 1) := by decide +kernel
theorem dX6_tellNeed_37 : decode cX6_tellNeed 37 = .ok (.aload_n 0, 1) := by decide +kernel
theorem dX6_tellNeed_38 : decode cX6_tellNeed 38 = .ok (.getfield 12, 3) := by decide +kernel
theorem dX6_tellNeed_41 : decode cX6_tellNeed 41 = .ok (.getfield 81, 3) := by decide +kernel
theorem dX6_tellNeed_44 : decode cX6_tellNeed 44 = .ok (.iload_n 1, 1) := by decide +kernel
theorem dX6_tellNeed_45 : decode cX6_tellNeed 45 = .ok (.aaload, 1) := by decide +kernel
theorem dX6_tellNeed_46 : decode cX6_tellNeed 46 = .ok (.astore_n 3, 1) := by decide +kernel
theorem dX6_tellNeed_47 : decode cX6_tellNeed 47 = .ok (.aload_n 3, 1) := by decide +kernel
theorem dX6_tellNeed_48 : decode cX6_tellNeed 48 = .ok (.getfield 101, 3) := by decide +kernel
theorem dX6_tellNeed_51 : decode cX6_tellNeed 51 = .ok (.ifCond .eq 13, 3) := by decide +kernel
theorem dX6_tellNeed_54 : decode cX6_tellNeed 54 = .ok (.aload_n 0, 1) := by decide +kernel
theorem dX6_tellNeed_55 : decode cX6_tellNeed 55 = .ok (.iconst 5, 1) := by decide +kernel
theorem dX6_tellNeed_56 : decode cX6_tellNeed 56 = .ok (.aload_n 3, 1) := by decide +kernel
theorem dX6_tellNeed_57 : decode cX6_tellNeed 57 = .ok (.getfield 101, 3) := by decide +kernel
theorem dX6_tellNeed_60 : decode cX6_tellNeed 60 = .ok (.invokevirtual 201, 3) := by decide +kernel
theorem dX6_tellNeed_63 : decode cX6_tellNeed 63 = .ok (.ireturn, 1) := by decide +kernel
theorem dX6_tellNeed_64 : decode cX6_tellNeed 64 = .ok (.aload_n 3, 1) := by decide +kernel
theorem dX6_tellNeed_65 : decode cX6_tellNeed 65 = .ok (.getfield 116, 3) := by decide +kernel
theorem dX6_tellNeed_68 : decode cX6_tellNeed 68 = .ok (.iconst 1, 1) := by decide +kernel
theorem dX6_tellNeed_69 : decode cX6_tellNeed 69 = .ok (.iload_n 2, 1) := by decide +kernel
theorem dX6_tellNeed_70 : decode cX6_tellNeed 70 = .ok (.ishl, 1) := by decide +kernel
theorem dX6_tellNeed_71 : decode cX6_tellNeed 71 = .ok (.iand, 1) := by decide +kernel
theorem dX6_tellNeed_72 : decode cX6_tellNeed 72 = .ok (.ifCond .eq 10, 3) := by decide +kernel
theorem dX6_tellNeed_75 : decode cX6_tellNeed 75 = .ok (.aload_n 0, 1) := by decide +kernel
theorem dX6_tellNeed_76 : decode cX6_tellNeed 76 = .ok (.iconst 3, 1) := by decide +kernel
theorem dX6_tellNeed_77 : decode cX6_tellNeed 77 = .ok (.iload_n 2, 1) := by decide +kernel
theorem dX6_tellNeed_78 : decode cX6_tellNeed 78 = .ok (.invokevirtual 201, 3) := by decide +kernel
theorem dX6_tellNeed_81 : decode cX6_tellNeed 81 = .ok (.ireturn, 1) := by decide +kernel
theorem dX6_tellNeed_82 : decode cX6_tellNeed 82 = .ok (.aload_n 0, 1) := by decide +kernel
theorem dX6_tellNeed_83 : decode cX6_tellNeed 83 = .ok (.getfield 12, 3) := by decide +kernel
theorem dX6_tellNeed_86 : decode cX6_tellNeed 86 = .ok (.iload_n 2, 1) := by decide +kernel
theorem dX6_tellNeed_87 : decode cX6_tellNeed 87 = .ok (.iload_n 1, 1) := by decide +kernel
theorem dX6_tellNeed_88 : decode cX6_tellNeed 88 = .ok (.invokevirtual 260, 3) := by decide +kernel
theorem dX6_tellNeed_91 : decode cX6_tellNeed 91 = .ok (.ifCond .eq 10, 3) := by decide +kernel
theorem dX6_tellNeed_94 : decode cX6_tellNeed 94 = .ok (.aload_n 0, 1) := by decide +kernel
theorem dX6_tellNeed_95 : decode cX6_tellNeed 95 = .ok (.iconst 4, 1) := by decide +kernel
theorem dX6_tellNeed_96 : decode cX6_tellNeed 96 = .ok (.iload_n 2, 1) := by decide +kernel
theorem dX6_tellNeed_97 : decode cX6_tellNeed 97 = .ok (.invokevirtual 201, 3) := by decide +kernel
theorem dX6_tellNeed_100 : decode cX6_tellNeed 100 = .ok (.ireturn, 1) := by decide +kernel
theorem dX6_tellNeed_101 : decode cX6_tellNeed 101 = .ok (.aload_n 3, 1) := by decide +kernel
theorem dX6_tellNeed_102 : decode cX6_tellNeed 102 = .ok (.dup, 1) := by decide +kernel
theorem dX6_tellNeed_103 : decode cX6_tellNeed 103 = .ok (.getfield 116, 3) := by decide +kernel
theorem dX6_tellNeed_106 : decode cX6_tellNeed 106 = .ok (.iconst 1, 1) := by decide +kernel
theorem dX6_tellNeed_107 : decode cX6_tellNeed 107 = .ok (.iload_n 2, 1) := by decide +kernel
theorem dX6_tellNeed_108 : decode cX6_tellNeed 108 = .ok (.ishl, 1) := by decide +kernel
theorem dX6_tellNeed_109 : decode cX6_tellNeed 109 = .ok (.ior, 1) := by decide +kernel
theorem dX6_tellNeed_110 : decode cX6_tellNeed 110 = .ok (.putfield 116, 3) := by decide +kernel
theorem dX6_tellNeed_113 : decode cX6_tellNeed 113 = .ok (.aload_n 3, 1) := by decide +kernel
theorem dX6_tellNeed_114 : decode cX6_tellNeed 114 = .ok (.getfield 116, 3) := by decide +kernel
theorem dX6_tellNeed_117 : decode cX6_tellNeed 117 = .ok (.invokestatic 263, 3) := by decide +kernel
theorem dX6_tellNeed_120 : decode cX6_tellNeed 120 = .ok (.ireturn, 1) := by decide +kernel
theorem dcX6_tellNeed : yX6_tellNeed.cls = RX6 ∧ yX6_tellNeed.cls ≠ "java/lang/invoke/MethodHandle" ∧ yX6_tellNeed.cls ≠ "java/lang/invoke/VarHandle" ∧ (parseMethodDescriptor yX6_tellNeed.desc).map (fun d => d.parameters.length) = some 2 := by decide +kernel
theorem gX6_tellNeed_5 : GoodIn wsL_law (wsV RX6 77 RX4 yX4_hasStep (.code yX4_hasStep cX4_hasStep 2 (some .boolean) :: wsL_law)) := g_V q317 q318 q319 q16 q320
theorem gX6_tellNeed_16 : GoodIn wsL_law (wsV RX6 77 RX4 yX4_hasStep (.code yX4_hasStep cX4_hasStep 2 (some .boolean) :: wsL_law)) := g_V q317 q318 q319 q16 q320
theorem gX6_tellNeed_88 : GoodIn wsL_law (wsV RX6 260 RX4 yX4_needsOverAll (.code yX4_needsOverAll cX4_needsOverAll 7 (some .boolean) :: wsL_law)) := g_V q321 q322 q323 q16 q324
theorem gX6_tellNeed_117 : gS RX6 263 yJ6_bitCount_0f7a4 cJ6_bitCount_0f7a4 1 (some .int) := ⟨q326, q170, q171, q172⟩
theorem gX6_tellNeed_97 : GoodIn wsL_law (wsV RX6 201 RX6 yX6_refuse (.code yX6_refuse cX6_refuse 3 (some .int) :: wsL_law)) := g_V q286 q287 q288 q2 q289
theorem gX6_tellNeed_78 : GoodIn wsL_law (wsV RX6 201 RX6 yX6_refuse (.code yX6_refuse cX6_refuse 3 (some .int) :: wsL_law)) := g_V q286 q287 q288 q2 q289
theorem gX6_tellNeed_60 : GoodIn wsL_law (wsV RX6 201 RX6 yX6_refuse (.code yX6_refuse cX6_refuse 3 (some .int) :: wsL_law)) := g_V q286 q287 q288 q2 q289
theorem gX6_tellNeed_33 : GoodIn wsL_law (wsV RX6 201 RX6 yX6_refuse (.code yX6_refuse cX6_refuse 3 (some .int) :: wsL_law)) := g_V q286 q287 q288 q2 q289
set_option maxRecDepth 100000 in
set_option maxHeartbeats 4000000 in
theorem K_tneed {cA : Nat → ClassId} {ad : tA} {ex : va_W} {M : tM} {F P : tP} {s o : Int32} (hoc : okc P) : Cj yX6_tellNeed cX6_tellNeed 4 (some .int) (rmd 5) 0 0 cA ad [.ref (ad 0 0), .int s, .int o] ex (mm M F P) (Qe (some (.int (t_need F P s o).1)) ex (mm M (t_need F P s o).2.1 (t_need F P s o).2.2)) := by
  refine c_of_r (lv0 := [some (.ref (ad 0 0)), some (.int s), some (.int o), none]) rfl (by decide +kernel) (Nat.le_of_ble_eq_true rfl) rfl ?_
  refine r_aload_n dX6_tellNeed_0 rfl ?_
  refine r_getF 0 (by decide) q17 rfl dX6_tellNeed_1 ?_
  refine r_iload_n dX6_tellNeed_4 rfl ?_
  refine r_cVi dX6_tellNeed_5 (K_hasStep is1) gX6_tellNeed_5 dcX4_hasStep rfl rfl rfl (Nat.le_of_ble_eq_true rfl) (ob_pl is1) ?_
  refine r_if_eq (tgt := 22) dX6_tellNeed_8 (by decide) (fun c8 => ?_) (fun c8 => ?_)
  · refine r_bipush (v := -11) dX6_tellNeed_22 (by decide) ?_
    first | exact r_ret rfl rfl dX6_tellNeed_24 (t_a (show (t_need F P s o) = _ from if_pos (Or.inl (bF c8)))) (t_m (show (t_need F P s o) = _ from if_pos (Or.inl (bF c8)))) | exact r_ret rfl rfl dX6_tellNeed_24 (t_a (show (t_need F P s o) = _ from if_pos (Or.inr (bF c19)))) (t_m (show (t_need F P s o) = _ from if_pos (Or.inr (bF c19))))
  · refine r_aload_n dX6_tellNeed_11 rfl ?_
    refine r_getF 0 (by decide) q17 rfl dX6_tellNeed_12 ?_
    refine r_iload_n dX6_tellNeed_15 rfl ?_
    refine r_cVi dX6_tellNeed_16 (K_hasStep is1) gX6_tellNeed_16 dcX4_hasStep rfl rfl rfl (Nat.le_of_ble_eq_true rfl) (ob_pl is1) ?_
    refine r_if_ne (tgt := 25) dX6_tellNeed_19 (by decide) (fun c19 => ?_) (fun c19 => ?_)
    · refine r_iload_n dX6_tellNeed_25 rfl ?_
      refine r_iload_n dX6_tellNeed_26 rfl ?_
      refine r_icmp_ne (tgt := 37) dX6_tellNeed_27 (by decide) (fun c27 => ?_) (fun c27 => ?_)
      · obtain ⟨i, hi1, hi2, hi3, hi4⟩ := hs_of hoc (bt c8)
        obtain ⟨j, hj1, hj2, hj3, hj4⟩ := hs_of hoc (bt c19)
        refine r_aload_n dX6_tellNeed_37 rfl ?_
        refine r_getF 0 (by decide) q17 rfl dX6_tellNeed_38 ?_
        refine r_getp_pl is1 0 (by decide) q314 rfl dX6_tellNeed_41 ?_
        refine r_iload_n dX6_tellNeed_44 rfl ?_
        refine r_aldp_steps is1 hi3 hi2 dX6_tellNeed_45 ?_
        refine r_astore_n dX6_tellNeed_46 (by decide) rfl ?_
        refine r_aload_n dX6_tellNeed_47 rfl ?_
        refine r_getp_st is1 (by omega) 6 (by decide) q315 rfl dX6_tellNeed_48 ?_
        refine r_if_eq (tgt := 64) dX6_tellNeed_51 (by decide) (fun c51 => ?_) (fun c51 => ?_)
        · refine r_aload_n dX6_tellNeed_64 rfl ?_
          refine r_getp_st is1 (by omega) 4 (by decide) q316 rfl dX6_tellNeed_65 ?_
          refine r_iconst (v := 1) dX6_tellNeed_68 (by decide) ?_
          refine r_iload_n dX6_tellNeed_69 rfl ?_
          refine r_ishl dX6_tellNeed_70 ?_
          refine r_iand dX6_tellNeed_71 ?_
          refine r_if_eq (tgt := 82) dX6_tellNeed_72 (by decide) (fun c72 => ?_) (fun c72 => ?_)
          · refine r_aload_n dX6_tellNeed_82 rfl ?_
            refine r_getF 0 (by decide) q17 rfl dX6_tellNeed_83 ?_
            refine r_iload_n dX6_tellNeed_86 rfl ?_
            refine r_iload_n dX6_tellNeed_87 rfl ?_
            refine r_cVi dX6_tellNeed_88 ((hj3 ▸ K_noa is1 hj2 hoc)) gX6_tellNeed_88 dcX4_needsOverAll rfl rfl rfl (Nat.le_of_ble_eq_true rfl) (ob_pl is1) ?_
            refine r_if_eq (tgt := 101) dX6_tellNeed_91 (by decide) (fun c91 => ?_) (fun c91 => ?_)
            · refine r_aload_n dX6_tellNeed_101 rfl ?_
              refine r_dup dX6_tellNeed_102 rfl ?_
              refine r_getp_st is1 (by omega) 4 (by decide) q316 rfl dX6_tellNeed_103 ?_
              refine r_iconst (v := 1) dX6_tellNeed_106 (by decide) ?_
              refine r_iload_n dX6_tellNeed_107 rfl ?_
              refine r_ishl dX6_tellNeed_108 ?_
              refine r_ior dX6_tellNeed_109 ?_
              refine r_putp_st is1 (by omega) 4 (by decide) q316 rfl rfl rfl rfl rfl dX6_tellNeed_110 ?_
              refine r_aload_n dX6_tellNeed_113 rfl ?_
              refine r_getp_st is1 (by omega) 4 (by decide) q316 rfl dX6_tellNeed_114 ?_
              rw [pu_s]
              refine r_cSi dX6_tellNeed_117 (K_bc) gX6_tellNeed_117 dcJ6_bitCount_0f7a4 rfl rfl rfl (Nat.le_of_ble_eq_true rfl) ?_
              first | exact r_ret rfl rfl dX6_tellNeed_120 (t_a (show (t_need F P s o) = _ from (if_neg (n2 (nf_of c8) (nf_of c19))).trans ((if_neg c27).trans (by rw [hi4, hj4]; exact (if_neg (fun e => e c51)).trans ((if_neg (fun e => e c72)).trans (if_neg (bnt c91))))))) (t_m (show (t_need F P s o) = _ from (if_neg (n2 (nf_of c8) (nf_of c19))).trans ((if_neg c27).trans (by rw [hi4, hj4]; exact (if_neg (fun e => e c51)).trans ((if_neg (fun e => e c72)).trans (if_neg (bnt c91)))))))
            · refine r_aload_n dX6_tellNeed_94 rfl ?_
              refine r_iconst (v := 4) dX6_tellNeed_95 (by decide) ?_
              refine r_iload_n dX6_tellNeed_96 rfl ?_
              refine r_cVi dX6_tellNeed_97 (K_ref) gX6_tellNeed_97 dcX6_refuse rfl rfl rfl (Nat.le_of_ble_eq_true rfl) ob_tf ?_
              first | exact r_ret rfl rfl dX6_tellNeed_100 (t_a (show (t_need F P s o) = _ from (if_neg (n2 (nf_of c8) (nf_of c19))).trans ((if_neg c27).trans (by rw [hi4, hj4]; exact (if_neg (fun e => e c51)).trans ((if_neg (fun e => e c72)).trans (if_pos (bt c91))))))) (t_m (show (t_need F P s o) = _ from (if_neg (n2 (nf_of c8) (nf_of c19))).trans ((if_neg c27).trans (by rw [hi4, hj4]; exact (if_neg (fun e => e c51)).trans ((if_neg (fun e => e c72)).trans (if_pos (bt c91)))))))
          · refine r_aload_n dX6_tellNeed_75 rfl ?_
            refine r_iconst (v := 3) dX6_tellNeed_76 (by decide) ?_
            refine r_iload_n dX6_tellNeed_77 rfl ?_
            refine r_cVi dX6_tellNeed_78 (K_ref) gX6_tellNeed_78 dcX6_refuse rfl rfl rfl (Nat.le_of_ble_eq_true rfl) ob_tf ?_
            first | exact r_ret rfl rfl dX6_tellNeed_81 (t_a (show (t_need F P s o) = _ from (if_neg (n2 (nf_of c8) (nf_of c19))).trans ((if_neg c27).trans (by rw [hi4]; exact (if_neg (fun e => e c51)).trans (if_pos c72))))) (t_m (show (t_need F P s o) = _ from (if_neg (n2 (nf_of c8) (nf_of c19))).trans ((if_neg c27).trans (by rw [hi4]; exact (if_neg (fun e => e c51)).trans (if_pos c72)))))
        · refine r_aload_n dX6_tellNeed_54 rfl ?_
          refine r_iconst (v := 5) dX6_tellNeed_55 (by decide) ?_
          refine r_aload_n dX6_tellNeed_56 rfl ?_
          refine r_getp_st is1 (by omega) 6 (by decide) q315 rfl dX6_tellNeed_57 ?_
          refine r_cVi dX6_tellNeed_60 (K_ref) gX6_tellNeed_60 dcX6_refuse rfl rfl rfl (Nat.le_of_ble_eq_true rfl) ob_tf ?_
          first | exact r_ret rfl rfl dX6_tellNeed_63 (t_a (show (t_need F P s o) = _ from (if_neg (n2 (nf_of c8) (nf_of c19))).trans ((if_neg c27).trans (by rw [hi4]; exact if_pos c51)))) (t_m (show (t_need F P s o) = _ from (if_neg (n2 (nf_of c8) (nf_of c19))).trans ((if_neg c27).trans (by rw [hi4]; exact if_pos c51))))
      · refine r_aload_n dX6_tellNeed_30 rfl ?_
        refine r_iconst (v := 2) dX6_tellNeed_31 (by decide) ?_
        refine r_iload_n dX6_tellNeed_32 rfl ?_
        refine r_cVi dX6_tellNeed_33 (K_ref) gX6_tellNeed_33 dcX6_refuse rfl rfl rfl (Nat.le_of_ble_eq_true rfl) ob_tf ?_
        first | exact r_ret rfl rfl dX6_tellNeed_36 (t_a (show (t_need F P s o) = _ from (if_neg (n2 (nf_of c8) (nf_of c19))).trans (if_pos c27))) (t_m (show (t_need F P s o) = _ from (if_neg (n2 (nf_of c8) (nf_of c19))).trans (if_pos c27)))
    · refine r_bipush (v := -11) dX6_tellNeed_22 (by decide) ?_
      first | exact r_ret rfl rfl dX6_tellNeed_24 (t_a (show (t_need F P s o) = _ from if_pos (Or.inl (bF c8)))) (t_m (show (t_need F P s o) = _ from if_pos (Or.inl (bF c8)))) | exact r_ret rfl rfl dX6_tellNeed_24 (t_a (show (t_need F P s o) = _ from if_pos (Or.inr (bF c19)))) (t_m (show (t_need F P s o) = _ from if_pos (Or.inr (bF c19))))
theorem dX6_tellFault_0 : decode cX6_tellFault 0 = .ok (.aload_n 0, 1) := by decide +kernel
theorem dX6_tellFault_1 : decode cX6_tellFault 1 = .ok (.getfield 12, 3) := by decide +kernel
theorem dX6_tellFault_4 : decode cX6_tellFault 4 = .ok (.iload_n 1, 1) := by decide +kernel
theorem dX6_tellFault_5 : decode cX6_tellFault 5 = .ok (.invokevirtual 77, 3) := by decide +kernel
theorem dX6_tellFault_8 : decode cX6_tellFault 8 = .ok (.ifCond .ne 6, 3) := by decide +kernel
theorem dX6_tellFault_11 : decode cX6_tellFault 11 = .ok (.bipush (-11), 2) := by decide +kernel
theorem dX6_tellFault_13 : decode cX6_tellFault 13 = .ok (.ireturn, 1) := by decide +kernel
theorem dX6_tellFault_14 : decode cX6_tellFault 14 = .ok (.iload_n 2, 1) := by decide +kernel
theorem dX6_tellFault_15 : decode cX6_tellFault 15 = .ok (.iconst 1, 1) := by decide +kernel
theorem dX6_tellFault_16 : decode cX6_tellFault 16 = .ok (.bipush 9, 2) := by decide +kernel
theorem dX6_tellFault_18 : decode cX6_tellFault 18 = .ok (.invokestatic 253, 3) := by decide +kernel
theorem dX6_tellFault_21 : decode cX6_tellFault 21 = .ok (.ifCond .ne 6, 3) := by decide +kernel
theorem dX6_tellFault_24 : decode cX6_tellFault 24 = .ok (.bipush (-12), 2) := by decide +kernel
theorem dX6_tellFault_26 : decode cX6_tellFault 26 = .ok (.ireturn, 1) := by decide +kernel
theorem dX6_tellFault_27 : decode cX6_tellFault 27 = .ok (.aload_n 0, 1) := by decide +kernel
theorem dX6_tellFault_28 : decode cX6_tellFault 28 = .ok (.getfield 12, 3) := by decide +kernel
theorem dX6_tellFault_31 : decode cX6_tellFault 31 = .ok (.getfield 81, 3) := by decide +kernel
theorem dX6_tellFault_34 : decode cX6_tellFault 34 = .ok (.iload_n 1, 1) := by decide +kernel
theorem dX6_tellFault_35 : decode cX6_tellFault 35 = .ok (.aaload, 1) := by decide +kernel
theorem dX6_tellFault_36 : decode cX6_tellFault 36 = .ok (.astore_n 3, 1) := by decide +kernel
theorem dX6_tellFault_37 : decode cX6_tellFault 37 = .ok (.aload_n 3, 1) := by decide +kernel
theorem dX6_tellFault_38 : decode cX6_tellFault 38 = .ok (.invokevirtual 268, 3) := by decide +kernel
theorem dX6_tellFault_41 : decode cX6_tellFault 41 = .ok (.ifCond .ne 13, 3) := by decide +kernel
theorem dX6_tellFault_44 : decode cX6_tellFault 44 = .ok (.aload_n 0, 1) := by decide +kernel
theorem dX6_tellFault_45 : decode cX6_tellFault 45 = .ok (.iconst 5, 1) := by decide +kernel
theorem dX6_tellFault_46 : decode cX6_tellFault 46 = .ok (.aload_n 3, 1) := by decide +kernel
theorem dX6_tellFault_47 : decode cX6_tellFault 47 = .ok (.getfield 101, 3) := by decide +kernel
theorem dX6_tellFault_50 : decode cX6_tellFault 50 = .ok (.invokevirtual 201, 3) := by decide +kernel
theorem dX6_tellFault_53 : decode cX6_tellFault 53 = .ok (.ireturn, 1) := by decide +kernel
theorem dX6_tellFault_54 : decode cX6_tellFault 54 = .ok (.aload_n 3, 1) := by decide +kernel
theorem dX6_tellFault_55 : decode cX6_tellFault 55 = .ok (.dup, 1) := by decide +kernel
theorem dX6_tellFault_56 : decode cX6_tellFault 56 = .ok (.getfield 110, 3) := by decide +kernel
theorem dX6_tellFault_59 : decode cX6_tellFault 59 = .ok (.iload_n 2, 1) := by decide +kernel
theorem dX6_tellFault_60 : decode cX6_tellFault 60 = .ok (.iadd, 1) := by decide +kernel
theorem dX6_tellFault_61 : decode cX6_tellFault 61 = .ok (.putfield 110, 3) := by decide +kernel
theorem dX6_tellFault_64 : decode cX6_tellFault 64 = .ok (.aload_n 3, 1) := by decide +kernel
theorem dX6_tellFault_65 : decode cX6_tellFault 65 = .ok (.getfield 110, 3) := by decide +kernel
theorem dX6_tellFault_68 : decode cX6_tellFault 68 = .ok (.ireturn, 1) := by decide +kernel
theorem dcX6_tellFault : yX6_tellFault.cls = RX6 ∧ yX6_tellFault.cls ≠ "java/lang/invoke/MethodHandle" ∧ yX6_tellFault.cls ≠ "java/lang/invoke/VarHandle" ∧ (parseMethodDescriptor yX6_tellFault.desc).map (fun d => d.parameters.length) = some 2 := by decide +kernel
theorem gX6_tellFault_5 : GoodIn wsL_law (wsV RX6 77 RX4 yX4_hasStep (.code yX4_hasStep cX4_hasStep 2 (some .boolean) :: wsL_law)) := g_V q317 q318 q319 q16 q320
theorem gX6_tellFault_18 : gS RX6 253 yX6_isWithin cX6_isWithin 3 (some .boolean) := ⟨q132, q133, q2, q134⟩
theorem gX6_tellFault_38 : GoodIn wsL_law (wsV RX6 268 RX5 yX5_isOpen (.code yX5_isOpen cX5_isOpen 1 (some .boolean) :: wsL_law)) := g_V q332 q333 q334 q44 q335
theorem gX6_tellFault_50 : GoodIn wsL_law (wsV RX6 201 RX6 yX6_refuse (.code yX6_refuse cX6_refuse 3 (some .int) :: wsL_law)) := g_V q286 q287 q288 q2 q289
set_option maxRecDepth 100000 in
set_option maxHeartbeats 4000000 in
theorem K_tfault {cA : Nat → ClassId} {ad : tA} {ex : va_W} {M : tM} {F P : tP} {s m : Int32} (hoc : okc P) : Cj yX6_tellFault cX6_tellFault 4 (some .int) (rmd 5) 0 0 cA ad [.ref (ad 0 0), .int s, .int m] ex (mm M F P) (Qe (some (.int (t_fault F P s m).1)) ex (mm M (t_fault F P s m).2.1 (t_fault F P s m).2.2)) := by
  refine c_of_r (lv0 := [some (.ref (ad 0 0)), some (.int s), some (.int m), none]) rfl (by decide +kernel) (Nat.le_of_ble_eq_true rfl) rfl ?_
  refine r_aload_n dX6_tellFault_0 rfl ?_
  refine r_getF 0 (by decide) q17 rfl dX6_tellFault_1 ?_
  refine r_iload_n dX6_tellFault_4 rfl ?_
  refine r_cVi dX6_tellFault_5 (K_hasStep is1) gX6_tellFault_5 dcX4_hasStep rfl rfl rfl (Nat.le_of_ble_eq_true rfl) (ob_pl is1) ?_
  refine r_if_ne (tgt := 14) dX6_tellFault_8 (by decide) (fun c8 => ?_) (fun c8 => ?_)
  · refine r_iload_n dX6_tellFault_14 rfl ?_
    refine r_iconst (v := 1) dX6_tellFault_15 (by decide) ?_
    refine r_bipush (v := 9) dX6_tellFault_16 (by decide) ?_
    refine r_cSi dX6_tellFault_18 (K_wi) gX6_tellFault_18 dcX6_isWithin rfl rfl rfl (Nat.le_of_ble_eq_true rfl) ?_
    refine r_if_ne (tgt := 27) dX6_tellFault_21 (by decide) (fun c21 => ?_) (fun c21 => ?_)
    · obtain ⟨i, hi1, hi2, hi3, hi4⟩ := hs_of hoc (bt c8)
      refine r_aload_n dX6_tellFault_27 rfl ?_
      refine r_getF 0 (by decide) q17 rfl dX6_tellFault_28 ?_
      refine r_getp_pl is1 0 (by decide) q314 rfl dX6_tellFault_31 ?_
      refine r_iload_n dX6_tellFault_34 rfl ?_
      refine r_aldp_steps is1 hi3 hi2 dX6_tellFault_35 ?_
      refine r_astore_n dX6_tellFault_36 (by decide) rfl ?_
      refine r_aload_n dX6_tellFault_37 rfl ?_
      refine r_cVi dX6_tellFault_38 (K_isOpen (i := i) is1 hi2) gX6_tellFault_38 dcX5_isOpen rfl rfl rfl (Nat.le_of_ble_eq_true rfl) (ob_st is1 (by omega)) ?_
      refine r_if_ne (tgt := 54) dX6_tellFault_41 (by decide) (fun c41 => ?_) (fun c41 => ?_)
      · refine r_aload_n dX6_tellFault_54 rfl ?_
        refine r_dup dX6_tellFault_55 rfl ?_
        refine r_getp_st is1 (by omega) 9 (by decide) q331 rfl dX6_tellFault_56 ?_
        refine r_iload_n dX6_tellFault_59 rfl ?_
        refine r_iadd dX6_tellFault_60 ?_
        refine r_putp_st is1 (by omega) 9 (by decide) q331 rfl rfl rfl rfl rfl dX6_tellFault_61 ?_
        refine r_aload_n dX6_tellFault_64 rfl ?_
        refine r_getp_st is1 (by omega) 9 (by decide) q331 rfl dX6_tellFault_65 ?_
        rw [pu_s]
        first | exact r_ret rfl rfl dX6_tellFault_68 (t_a (show (t_fault F P s m) = _ from (if_neg (nf_of c8)).trans ((if_neg (nf_of c21)).trans (by rw [hi4]; exact if_neg (nf_of c41))))) (t_m (show (t_fault F P s m) = _ from (if_neg (nf_of c8)).trans ((if_neg (nf_of c21)).trans (by rw [hi4]; exact if_neg (nf_of c41)))))
      · refine r_aload_n dX6_tellFault_44 rfl ?_
        refine r_iconst (v := 5) dX6_tellFault_45 (by decide) ?_
        refine r_aload_n dX6_tellFault_46 rfl ?_
        refine r_getp_st is1 (by omega) 6 (by decide) q315 rfl dX6_tellFault_47 ?_
        refine r_cVi dX6_tellFault_50 (K_ref) gX6_tellFault_50 dcX6_refuse rfl rfl rfl (Nat.le_of_ble_eq_true rfl) ob_tf ?_
        first | exact r_ret rfl rfl dX6_tellFault_53 (t_a (show (t_fault F P s m) = _ from (if_neg (nf_of c8)).trans ((if_neg (nf_of c21)).trans (by rw [hi4]; exact if_pos (bF c41))))) (t_m (show (t_fault F P s m) = _ from (if_neg (nf_of c8)).trans ((if_neg (nf_of c21)).trans (by rw [hi4]; exact if_pos (bF c41)))))
    · refine r_bipush (v := -12) dX6_tellFault_24 (by decide) ?_
      first | exact r_ret rfl rfl dX6_tellFault_26 (t_a (show (t_fault F P s m) = _ from (if_neg (nf_of c8)).trans (if_pos (bF c21)))) (t_m (show (t_fault F P s m) = _ from (if_neg (nf_of c8)).trans (if_pos (bF c21))))
  · refine r_bipush (v := -11) dX6_tellFault_11 (by decide) ?_
    first | exact r_ret rfl rfl dX6_tellFault_13 (t_a (show (t_fault F P s m) = _ from if_pos (bF c8))) (t_m (show (t_fault F P s m) = _ from if_pos (bF c8)))
theorem dX6_setHands_0 : decode cX6_setHands 0 = .ok (.iload_n 1, 1) := by decide +kernel
theorem dX6_setHands_1 : decode cX6_setHands 1 = .ok (.iconst 1, 1) := by decide +kernel
theorem dX6_setHands_2 : decode cX6_setHands 2 = .ok (.iconst 4, 1) := by decide +kernel
theorem dX6_setHands_3 : decode cX6_setHands 3 = .ok (.invokestatic 253, 3) := by decide +kernel
theorem dX6_setHands_6 : decode cX6_setHands 6 = .ok (.ifCond .ne 6, 3) := by decide +kernel
theorem dX6_setHands_9 : decode cX6_setHands 9 = .ok (.bipush (-12), 2) := by decide +kernel
theorem dX6_setHands_11 : decode cX6_setHands 11 = .ok (.ireturn, 1) := by decide +kernel
theorem dX6_setHands_12 : decode cX6_setHands 12 = .ok (.aload_n 0, 1) := by decide +kernel
theorem dX6_setHands_13 : decode cX6_setHands 13 = .ok (.getfield 12, 3) := by decide +kernel
theorem dX6_setHands_16 : decode cX6_setHands 16 = .ok (.getfield 229, 3) := by decide +kernel
theorem dX6_setHands_19 : decode cX6_setHands 19 = .ok (.istore_n 2, 1) := by decide +kernel
theorem dX6_setHands_20 : decode cX6_setHands 20 = .ok (.aload_n 0, 1) := by decide +kernel
theorem dX6_setHands_21 : decode cX6_setHands 21 = .ok (.getfield 12, 3) := by decide +kernel
theorem dX6_setHands_24 : decode cX6_setHands 24 = .ok (.iload_n 1, 1) := by decide +kernel
theorem dX6_setHands_25 : decode cX6_setHands 25 = .ok (.putfield 229, 3) := by decide +kernel
theorem dX6_setHands_28 : decode cX6_setHands 28 = .ok (.iload_n 2, 1) := by decide +kernel
theorem dX6_setHands_29 : decode cX6_setHands 29 = .ok (.ireturn, 1) := by decide +kernel
theorem dcX6_setHands : yX6_setHands.cls = RX6 ∧ yX6_setHands.cls ≠ "java/lang/invoke/MethodHandle" ∧ yX6_setHands.cls ≠ "java/lang/invoke/VarHandle" ∧ (parseMethodDescriptor yX6_setHands.desc).map (fun d => d.parameters.length) = some 1 := by decide +kernel
theorem gX6_setHands_3 : gS RX6 253 yX6_isWithin cX6_isWithin 3 (some .boolean) := ⟨q132, q133, q2, q134⟩
set_option maxRecDepth 100000 in
set_option maxHeartbeats 4000000 in
theorem K_thands {cA : Nat → ClassId} {ad : tA} {ex : va_W} {M : tM} {F P : tP} {m : Int32} : Cj yX6_setHands cX6_setHands 3 (some .int) (rmd 5) 0 0 cA ad [.ref (ad 0 0), .int m] ex (mm M F P) (Qe (some (.int (t_hands F P m).1)) ex (mm M (t_hands F P m).2.1 (t_hands F P m).2.2)) := by
  refine c_of_r (lv0 := [some (.ref (ad 0 0)), some (.int m), none]) rfl (by decide +kernel) (Nat.le_of_ble_eq_true rfl) rfl ?_
  refine r_iload_n dX6_setHands_0 rfl ?_
  refine r_iconst (v := 1) dX6_setHands_1 (by decide) ?_
  refine r_iconst (v := 4) dX6_setHands_2 (by decide) ?_
  refine r_cSi dX6_setHands_3 (K_wi) gX6_setHands_3 dcX6_isWithin rfl rfl rfl (Nat.le_of_ble_eq_true rfl) ?_
  refine r_if_ne (tgt := 12) dX6_setHands_6 (by decide) (fun c6 => ?_) (fun c6 => ?_)
  · refine r_aload_n dX6_setHands_12 rfl ?_
    refine r_getF 0 (by decide) q17 rfl dX6_setHands_13 ?_
    refine r_getp_pl is1 8 (by decide) q131 rfl dX6_setHands_16 ?_
    refine r_istore_n dX6_setHands_19 (by decide) rfl ?_
    refine r_aload_n dX6_setHands_20 rfl ?_
    refine r_getF 0 (by decide) q17 rfl dX6_setHands_21 ?_
    refine r_iload_n dX6_setHands_24 rfl ?_
    refine r_putp_pl is1 8 (by decide) q131 rfl rfl rfl rfl rfl dX6_setHands_25 ?_
    refine r_iload_n dX6_setHands_28 rfl ?_
    first | exact r_ret rfl rfl dX6_setHands_29 (t_a (show (t_hands F P m) = _ from if_neg (nf_of c6))) (t_m (show (t_hands F P m) = _ from if_neg (nf_of c6)))
  · refine r_bipush (v := -12) dX6_setHands_9 (by decide) ?_
    first | exact r_ret rfl rfl dX6_setHands_11 (t_a (show (t_hands F P m) = _ from if_pos (bF c6))) (t_m (show (t_hands F P m) = _ from if_pos (bF c6)))
theorem dX6_tellCancel_0 : decode cX6_tellCancel 0 = .ok (.iload_n 1, 1) := by decide +kernel
theorem dX6_tellCancel_1 : decode cX6_tellCancel 1 = .ok (.iconst 1, 1) := by decide +kernel
theorem dX6_tellCancel_2 : decode cX6_tellCancel 2 = .ok (.iconst 3, 1) := by decide +kernel
theorem dX6_tellCancel_3 : decode cX6_tellCancel 3 = .ok (.invokestatic 253, 3) := by decide +kernel
theorem dX6_tellCancel_6 : decode cX6_tellCancel 6 = .ok (.ifCond .ne 6, 3) := by decide +kernel
theorem dX6_tellCancel_9 : decode cX6_tellCancel 9 = .ok (.bipush (-11), 2) := by decide +kernel
theorem dX6_tellCancel_11 : decode cX6_tellCancel 11 = .ok (.ireturn, 1) := by decide +kernel
theorem dX6_tellCancel_12 : decode cX6_tellCancel 12 = .ok (.aload_n 0, 1) := by decide +kernel
theorem dX6_tellCancel_13 : decode cX6_tellCancel 13 = .ok (.getfield 12, 3) := by decide +kernel
theorem dX6_tellCancel_16 : decode cX6_tellCancel 16 = .ok (.iload_n 1, 1) := by decide +kernel
theorem dX6_tellCancel_17 : decode cX6_tellCancel 17 = .ok (.invokevirtual 272, 3) := by decide +kernel
theorem dX6_tellCancel_20 : decode cX6_tellCancel 20 = .ok (.ifCond .eq 10, 3) := by decide +kernel
theorem dX6_tellCancel_23 : decode cX6_tellCancel 23 = .ok (.aload_n 0, 1) := by decide +kernel
theorem dX6_tellCancel_24 : decode cX6_tellCancel 24 = .ok (.iconst 3, 1) := by decide +kernel
theorem dX6_tellCancel_25 : decode cX6_tellCancel 25 = .ok (.iload_n 1, 1) := by decide +kernel
theorem dX6_tellCancel_26 : decode cX6_tellCancel 26 = .ok (.invokevirtual 201, 3) := by decide +kernel
theorem dX6_tellCancel_29 : decode cX6_tellCancel 29 = .ok (.ireturn, 1) := by decide +kernel
theorem dX6_tellCancel_30 : decode cX6_tellCancel 30 = .ok (.aload_n 0, 1) := by decide +kernel
theorem dX6_tellCancel_31 : decode cX6_tellCancel 31 = .ok (.getfield 12, 3) := by decide +kernel
theorem dX6_tellCancel_34 : decode cX6_tellCancel 34 = .ok (.iload_n 1, 1) := by decide +kernel
theorem dX6_tellCancel_35 : decode cX6_tellCancel 35 = .ok (.invokevirtual 275, 3) := by decide +kernel
theorem dX6_tellCancel_38 : decode cX6_tellCancel 38 = .ok (.ireturn, 1) := by decide +kernel
theorem dcX6_tellCancel : yX6_tellCancel.cls = RX6 ∧ yX6_tellCancel.cls ≠ "java/lang/invoke/MethodHandle" ∧ yX6_tellCancel.cls ≠ "java/lang/invoke/VarHandle" ∧ (parseMethodDescriptor yX6_tellCancel.desc).map (fun d => d.parameters.length) = some 1 := by decide +kernel
theorem gX6_tellCancel_3 : gS RX6 253 yX6_isWithin cX6_isWithin 3 (some .boolean) := ⟨q132, q133, q2, q134⟩
theorem gX6_tellCancel_17 : GoodIn wsL_law (wsV RX6 272 RX4 yX4_isCancelled (.code yX4_isCancelled cX4_isCancelled 2 (some .boolean) :: wsL_law)) := g_V q340 q302 q303 q16 q304
theorem gX6_tellCancel_35 : GoodIn wsL_law (wsV RX6 275 RX4 yX4_cancelBranch (.code yX4_cancelBranch cX4_cancelBranch 5 (some .int) :: wsL_law)) := g_V q341 q342 q343 q16 q344
theorem gX6_tellCancel_26 : GoodIn wsL_law (wsV RX6 201 RX6 yX6_refuse (.code yX6_refuse cX6_refuse 3 (some .int) :: wsL_law)) := g_V q286 q287 q288 q2 q289
set_option maxRecDepth 100000 in
set_option maxHeartbeats 4000000 in
theorem K_tcancel {cA : Nat → ClassId} {ad : tA} {ex : va_W} {M : tM} {F P : tP} {b : Int32} (hoc : okc P) (ho : oke P) : Cj yX6_tellCancel cX6_tellCancel 2 (some .int) (rmd 5) 0 0 cA ad [.ref (ad 0 0), .int b] ex (mm M F P) (Qe (some (.int (t_cancel F P b).1)) ex (mm M (t_cancel F P b).2.1 (t_cancel F P b).2.2)) := by
  refine c_of_r (lv0 := [some (.ref (ad 0 0)), some (.int b)]) rfl (by decide +kernel) (Nat.le_of_ble_eq_true rfl) rfl ?_
  refine r_iload_n dX6_tellCancel_0 rfl ?_
  refine r_iconst (v := 1) dX6_tellCancel_1 (by decide) ?_
  refine r_iconst (v := 3) dX6_tellCancel_2 (by decide) ?_
  refine r_cSi dX6_tellCancel_3 (K_wi) gX6_tellCancel_3 dcX6_isWithin rfl rfl rfl (Nat.le_of_ble_eq_true rfl) ?_
  refine r_if_ne (tgt := 12) dX6_tellCancel_6 (by decide) (fun c6 => ?_) (fun c6 => ?_)
  · refine r_aload_n dX6_tellCancel_12 rfl ?_
    refine r_getF 0 (by decide) q17 rfl dX6_tellCancel_13 ?_
    refine r_iload_n dX6_tellCancel_16 rfl ?_
    refine r_cVi dX6_tellCancel_17 (K_isCancelled is1) gX6_tellCancel_17 dcX4_isCancelled rfl rfl rfl (Nat.le_of_ble_eq_true rfl) (ob_pl is1) ?_
    refine r_if_eq (tgt := 30) dX6_tellCancel_20 (by decide) (fun c20 => ?_) (fun c20 => ?_)
    · refine r_aload_n dX6_tellCancel_30 rfl ?_
      refine r_getF 0 (by decide) q17 rfl dX6_tellCancel_31 ?_
      refine r_iload_n dX6_tellCancel_34 rfl ?_
      refine r_cVi dX6_tellCancel_35 (K_can is1 hoc ho) gX6_tellCancel_35 dcX4_cancelBranch rfl rfl rfl (Nat.le_of_ble_eq_true rfl) (ob_pl is1) ?_
      first | exact r_ret rfl rfl dX6_tellCancel_38 (t_a (show (t_cancel F P b) = _ from (if_neg (nf_of c6)).trans (if_neg (bnt c20)))) (t_m (show (t_cancel F P b) = _ from (if_neg (nf_of c6)).trans (if_neg (bnt c20))))
    · refine r_aload_n dX6_tellCancel_23 rfl ?_
      refine r_iconst (v := 3) dX6_tellCancel_24 (by decide) ?_
      refine r_iload_n dX6_tellCancel_25 rfl ?_
      refine r_cVi dX6_tellCancel_26 (K_ref) gX6_tellCancel_26 dcX6_refuse rfl rfl rfl (Nat.le_of_ble_eq_true rfl) ob_tf ?_
      first | exact r_ret rfl rfl dX6_tellCancel_29 (t_a (show (t_cancel F P b) = _ from (if_neg (nf_of c6)).trans (if_pos (bt c20)))) (t_m (show (t_cancel F P b) = _ from (if_neg (nf_of c6)).trans (if_pos (bt c20))))
  · refine r_bipush (v := -11) dX6_tellCancel_9 (by decide) ?_
    first | exact r_ret rfl rfl dX6_tellCancel_11 (t_a (show (t_cancel F P b) = _ from if_pos (bF c6))) (t_m (show (t_cancel F P b) = _ from if_pos (bF c6)))
def okn (P : tP) : Prop := P 0 3 = nI (mn P) ∧ mn P ≤ 4
theorem lt4 {P : tP} (h : okn P) (h2 : P 0 3 < 4) : mn P < 4 := by
  rw [h.1] at h2
  exact (nI_ltI (b := 4) (by have := h.2; omega) (by omega)).mp h2
theorem dX6_tellMilestone_0 : decode cX6_tellMilestone 0 = .ok (.aload_n 0, 1) := by decide +kernel
theorem dX6_tellMilestone_1 : decode cX6_tellMilestone 1 = .ok (.getfield 12, 3) := by decide +kernel
theorem dX6_tellMilestone_4 : decode cX6_tellMilestone 4 = .ok (.iload_n 1, 1) := by decide +kernel
theorem dX6_tellMilestone_5 : decode cX6_tellMilestone 5 = .ok (.invokevirtual 77, 3) := by decide +kernel
theorem dX6_tellMilestone_8 : decode cX6_tellMilestone 8 = .ok (.ifCond .ne 6, 3) := by decide +kernel
theorem dX6_tellMilestone_11 : decode cX6_tellMilestone 11 = .ok (.bipush (-11), 2) := by decide +kernel
theorem dX6_tellMilestone_13 : decode cX6_tellMilestone 13 = .ok (.ireturn, 1) := by decide +kernel
theorem dX6_tellMilestone_14 : decode cX6_tellMilestone 14 = .ok (.iload_n 2, 1) := by decide +kernel
theorem dX6_tellMilestone_15 : decode cX6_tellMilestone 15 = .ok (.iconst 1, 1) := by decide +kernel
theorem dX6_tellMilestone_16 : decode cX6_tellMilestone 16 = .ok (.sipush 999, 3) := by decide +kernel
theorem dX6_tellMilestone_19 : decode cX6_tellMilestone 19 = .ok (.invokestatic 253, 3) := by decide +kernel
theorem dX6_tellMilestone_22 : decode cX6_tellMilestone 22 = .ok (.ifCond .ne 6, 3) := by decide +kernel
theorem dX6_tellMilestone_25 : decode cX6_tellMilestone 25 = .ok (.bipush (-12), 2) := by decide +kernel
theorem dX6_tellMilestone_27 : decode cX6_tellMilestone 27 = .ok (.ireturn, 1) := by decide +kernel
theorem dX6_tellMilestone_28 : decode cX6_tellMilestone 28 = .ok (.aload_n 0, 1) := by decide +kernel
theorem dX6_tellMilestone_29 : decode cX6_tellMilestone 29 = .ok (.getfield 12, 3) := by decide +kernel
theorem dX6_tellMilestone_32 : decode cX6_tellMilestone 32 = .ok (.getfield 81, 3) := by decide +kernel
theorem dX6_tellMilestone_35 : decode cX6_tellMilestone 35 = .ok (.iload_n 1, 1) := by decide +kernel
theorem dX6_tellMilestone_36 : decode cX6_tellMilestone 36 = .ok (.aaload, 1) := by decide +kernel
theorem dX6_tellMilestone_37 : decode cX6_tellMilestone 37 = .ok (.astore_n 3, 1) := by decide +kernel
theorem dX6_tellMilestone_38 : decode cX6_tellMilestone 38 = .ok (.aload_n 3, 1) := by decide +kernel
theorem dX6_tellMilestone_39 : decode cX6_tellMilestone 39 = .ok (.getfield 133, 3) := by decide +kernel
theorem dX6_tellMilestone_42 : decode cX6_tellMilestone 42 = .ok (.sipush 1000, 3) := by decide +kernel
theorem dX6_tellMilestone_45 : decode cX6_tellMilestone 45 = .ok (.if_icmp .eq 13, 3) := by decide +kernel
theorem dX6_tellMilestone_48 : decode cX6_tellMilestone 48 = .ok (.aload_n 0, 1) := by decide +kernel
theorem dX6_tellMilestone_49 : decode cX6_tellMilestone 49 = .ok (.iconst 3, 1) := by decide +kernel
theorem dX6_tellMilestone_50 : decode cX6_tellMilestone 50 = .ok (.aload_n 3, 1) := by decide +kernel
theorem dX6_tellMilestone_51 : decode cX6_tellMilestone 51 = .ok (.getfield 133, 3) := by decide +kernel
theorem dX6_tellMilestone_54 : decode cX6_tellMilestone 54 = .ok (.invokevirtual 201, 3) := by decide +kernel
theorem dX6_tellMilestone_57 : decode cX6_tellMilestone 57 = .ok (.ireturn, 1) := by decide +kernel
theorem dX6_tellMilestone_58 : decode cX6_tellMilestone 58 = .ok (.aload_n 0, 1) := by decide +kernel
theorem dX6_tellMilestone_59 : decode cX6_tellMilestone 59 = .ok (.getfield 12, 3) := by decide +kernel
theorem dX6_tellMilestone_62 : decode cX6_tellMilestone 62 = .ok (.getfield 126, 3) := by decide +kernel
theorem dX6_tellMilestone_65 : decode cX6_tellMilestone 65 = .ok (.iconst 4, 1) := by decide +kernel
theorem dX6_tellMilestone_66 : decode cX6_tellMilestone 66 = .ok (.if_icmp .lt 16, 3) := by decide +kernel
theorem dX6_tellMilestone_69 : decode cX6_tellMilestone 69 = .ok (.aload_n 0, 1) := by decide +kernel
theorem dX6_tellMilestone_70 : decode cX6_tellMilestone 70 = .ok (.iconst 1, 1) := by decide +kernel
theorem dX6_tellMilestone_71 : decode cX6_tellMilestone 71 = .ok (.aload_n 0, 1) := by decide +kernel
theorem dX6_tellMilestone_72 : decode cX6_tellMilestone 72 = .ok (.getfield 12, 3) := by decide +kernel
theorem dX6_tellMilestone_75 : decode cX6_tellMilestone 75 = .ok (.getfield 126, 3) := by decide +kernel
theorem dX6_tellMilestone_78 : decode cX6_tellMilestone 78 = .ok (.invokevirtual 201, 3) := by decide +kernel
theorem dX6_tellMilestone_81 : decode cX6_tellMilestone 81 = .ok (.ireturn, 1) := by decide +kernel
theorem dX6_tellMilestone_82 : decode cX6_tellMilestone 82 = .ok (.aload_n 0, 1) := by decide +kernel
theorem dX6_tellMilestone_83 : decode cX6_tellMilestone 83 = .ok (.getfield 12, 3) := by decide +kernel
theorem dX6_tellMilestone_86 : decode cX6_tellMilestone 86 = .ok (.iload_n 1, 1) := by decide +kernel
theorem dX6_tellMilestone_87 : decode cX6_tellMilestone 87 = .ok (.iload_n 2, 1) := by decide +kernel
theorem dX6_tellMilestone_88 : decode cX6_tellMilestone 88 = .ok (.invokevirtual 278, 3) := by decide +kernel
theorem dX6_tellMilestone_91 : decode cX6_tellMilestone 91 = .ok (.ireturn, 1) := by decide +kernel
theorem dcX6_tellMilestone : yX6_tellMilestone.cls = RX6 ∧ yX6_tellMilestone.cls ≠ "java/lang/invoke/MethodHandle" ∧ yX6_tellMilestone.cls ≠ "java/lang/invoke/VarHandle" ∧ (parseMethodDescriptor yX6_tellMilestone.desc).map (fun d => d.parameters.length) = some 2 := by decide +kernel
theorem gX6_tellMilestone_5 : GoodIn wsL_law (wsV RX6 77 RX4 yX4_hasStep (.code yX4_hasStep cX4_hasStep 2 (some .boolean) :: wsL_law)) := g_V q317 q318 q319 q16 q320
theorem gX6_tellMilestone_19 : gS RX6 253 yX6_isWithin cX6_isWithin 3 (some .boolean) := ⟨q132, q133, q2, q134⟩
theorem gX6_tellMilestone_88 : GoodIn wsL_law (wsV RX6 278 RX4 yX4_addMilestone (.code yX4_addMilestone cX4_addMilestone 4 (some .int) :: wsL_law)) := g_V q353 q354 q355 q16 q356
theorem gX6_tellMilestone_78 : GoodIn wsL_law (wsV RX6 201 RX6 yX6_refuse (.code yX6_refuse cX6_refuse 3 (some .int) :: wsL_law)) := g_V q286 q287 q288 q2 q289
theorem gX6_tellMilestone_54 : GoodIn wsL_law (wsV RX6 201 RX6 yX6_refuse (.code yX6_refuse cX6_refuse 3 (some .int) :: wsL_law)) := g_V q286 q287 q288 q2 q289
set_option maxRecDepth 100000 in
set_option maxHeartbeats 4000000 in
theorem K_tmile {cA : Nat → ClassId} {ad : tA} {ex : va_W} {M : tM} {F P : tP} {s d : Int32} (hoc : okc P) (hon : okn P) : Cj yX6_tellMilestone cX6_tellMilestone 4 (some .int) (rmd 5) 0 0 cA ad [.ref (ad 0 0), .int s, .int d] ex (mm M F P) (Qe (some (.int (t_mile F P s d).1)) ex (mm M (t_mile F P s d).2.1 (t_mile F P s d).2.2)) := by
  refine c_of_r (lv0 := [some (.ref (ad 0 0)), some (.int s), some (.int d), none]) rfl (by decide +kernel) (Nat.le_of_ble_eq_true rfl) rfl ?_
  refine r_aload_n dX6_tellMilestone_0 rfl ?_
  refine r_getF 0 (by decide) q17 rfl dX6_tellMilestone_1 ?_
  refine r_iload_n dX6_tellMilestone_4 rfl ?_
  refine r_cVi dX6_tellMilestone_5 (K_hasStep is1) gX6_tellMilestone_5 dcX4_hasStep rfl rfl rfl (Nat.le_of_ble_eq_true rfl) (ob_pl is1) ?_
  refine r_if_ne (tgt := 14) dX6_tellMilestone_8 (by decide) (fun c8 => ?_) (fun c8 => ?_)
  · refine r_iload_n dX6_tellMilestone_14 rfl ?_
    refine r_iconst (v := 1) dX6_tellMilestone_15 (by decide) ?_
    refine r_sipush (v := 999) dX6_tellMilestone_16 (by decide) ?_
    refine r_cSi dX6_tellMilestone_19 (K_wi) gX6_tellMilestone_19 dcX6_isWithin rfl rfl rfl (Nat.le_of_ble_eq_true rfl) ?_
    refine r_if_ne (tgt := 28) dX6_tellMilestone_22 (by decide) (fun c22 => ?_) (fun c22 => ?_)
    · obtain ⟨i, hi1, hi2, hi3, hi4⟩ := hs_of hoc (bt c8)
      refine r_aload_n dX6_tellMilestone_28 rfl ?_
      refine r_getF 0 (by decide) q17 rfl dX6_tellMilestone_29 ?_
      refine r_getp_pl is1 0 (by decide) q314 rfl dX6_tellMilestone_32 ?_
      refine r_iload_n dX6_tellMilestone_35 rfl ?_
      refine r_aldp_steps is1 hi3 hi2 dX6_tellMilestone_36 ?_
      refine r_astore_n dX6_tellMilestone_37 (by decide) rfl ?_
      refine r_aload_n dX6_tellMilestone_38 rfl ?_
      refine r_getp_st is1 (by omega) 5 (by decide) q352 rfl dX6_tellMilestone_39 ?_
      refine r_sipush (v := 1000) dX6_tellMilestone_42 (by decide) ?_
      refine r_icmp_eq (tgt := 58) dX6_tellMilestone_45 (by decide) (fun c45 => ?_) (fun c45 => ?_)
      · refine r_aload_n dX6_tellMilestone_58 rfl ?_
        refine r_getF 0 (by decide) q17 rfl dX6_tellMilestone_59 ?_
        refine r_getp_pl is1 3 (by decide) q154 rfl dX6_tellMilestone_62 ?_
        refine r_iconst (v := 4) dX6_tellMilestone_65 (by decide) ?_
        refine r_icmp_lt (tgt := 82) dX6_tellMilestone_66 (by decide) (fun c66 => ?_) (fun c66 => ?_)
        · refine r_aload_n dX6_tellMilestone_82 rfl ?_
          refine r_getF 0 (by decide) q17 rfl dX6_tellMilestone_83 ?_
          refine r_iload_n dX6_tellMilestone_86 rfl ?_
          refine r_iload_n dX6_tellMilestone_87 rfl ?_
          refine r_cVi dX6_tellMilestone_88 ((hi3 ▸ K_addMs (s := i) is1 hi2 hon.1 (lt4 hon c66))) gX6_tellMilestone_88 dcX4_addMilestone rfl rfl rfl (Nat.le_of_ble_eq_true rfl) (ob_pl is1) ?_
          first | exact r_ret rfl rfl dX6_tellMilestone_91 (t_a (show (t_mile F P s d) = _ from (if_neg (nf_of c8)).trans ((if_neg (nf_of c22)).trans (by rw [hi4]; exact (if_neg (fun e => e c45)).trans (if_pos c66))))) (t_m (show (t_mile F P s d) = _ from (if_neg (nf_of c8)).trans ((if_neg (nf_of c22)).trans (by rw [hi4]; exact (if_neg (fun e => e c45)).trans (if_pos c66)))))
        · refine r_aload_n dX6_tellMilestone_69 rfl ?_
          refine r_iconst (v := 1) dX6_tellMilestone_70 (by decide) ?_
          refine r_aload_n dX6_tellMilestone_71 rfl ?_
          refine r_getF 0 (by decide) q17 rfl dX6_tellMilestone_72 ?_
          refine r_getp_pl is1 3 (by decide) q154 rfl dX6_tellMilestone_75 ?_
          refine r_cVi dX6_tellMilestone_78 (K_ref) gX6_tellMilestone_78 dcX6_refuse rfl rfl rfl (Nat.le_of_ble_eq_true rfl) ob_tf ?_
          first | exact r_ret rfl rfl dX6_tellMilestone_81 (t_a (show (t_mile F P s d) = _ from (if_neg (nf_of c8)).trans ((if_neg (nf_of c22)).trans (by rw [hi4]; exact (if_neg (fun e => e c45)).trans (if_neg c66))))) (t_m (show (t_mile F P s d) = _ from (if_neg (nf_of c8)).trans ((if_neg (nf_of c22)).trans (by rw [hi4]; exact (if_neg (fun e => e c45)).trans (if_neg c66)))))
      · refine r_aload_n dX6_tellMilestone_48 rfl ?_
        refine r_iconst (v := 3) dX6_tellMilestone_49 (by decide) ?_
        refine r_aload_n dX6_tellMilestone_50 rfl ?_
        refine r_getp_st is1 (by omega) 5 (by decide) q352 rfl dX6_tellMilestone_51 ?_
        refine r_cVi dX6_tellMilestone_54 (K_ref) gX6_tellMilestone_54 dcX6_refuse rfl rfl rfl (Nat.le_of_ble_eq_true rfl) ob_tf ?_
        first | exact r_ret rfl rfl dX6_tellMilestone_57 (t_a (show (t_mile F P s d) = _ from (if_neg (nf_of c8)).trans ((if_neg (nf_of c22)).trans (by rw [hi4]; exact if_pos c45)))) (t_m (show (t_mile F P s d) = _ from (if_neg (nf_of c8)).trans ((if_neg (nf_of c22)).trans (by rw [hi4]; exact if_pos c45))))
    · refine r_bipush (v := -12) dX6_tellMilestone_25 (by decide) ?_
      first | exact r_ret rfl rfl dX6_tellMilestone_27 (t_a (show (t_mile F P s d) = _ from (if_neg (nf_of c8)).trans (if_pos (bF c22)))) (t_m (show (t_mile F P s d) = _ from (if_neg (nf_of c8)).trans (if_pos (bF c22))))
  · refine r_bipush (v := -11) dX6_tellMilestone_11 (by decide) ?_
    first | exact r_ret rfl rfl dX6_tellMilestone_13 (t_a (show (t_mile F P s d) = _ from if_pos (bF c8))) (t_m (show (t_mile F P s d) = _ from if_pos (bF c8)))
theorem dX6_letDaysGo_0 : decode cX6_letDaysGo 0 = .ok (.iload_n 1, 1) := by decide +kernel
theorem dX6_letDaysGo_1 : decode cX6_letDaysGo 1 = .ok (.iconst 1, 1) := by decide +kernel
theorem dX6_letDaysGo_2 : decode cX6_letDaysGo 2 = .ok (.bipush 30, 2) := by decide +kernel
theorem dX6_letDaysGo_4 : decode cX6_letDaysGo 4 = .ok (.invokestatic 253, 3) := by decide +kernel
theorem dX6_letDaysGo_7 : decode cX6_letDaysGo 7 = .ok (.ifCond .ne 6, 3) := by decide +kernel
theorem dX6_letDaysGo_10 : decode cX6_letDaysGo 10 = .ok (.bipush (-12), 2) := by decide +kernel
theorem dX6_letDaysGo_12 : decode cX6_letDaysGo 12 = .ok (.ireturn, 1) := by decide +kernel
theorem dX6_letDaysGo_13 : decode cX6_letDaysGo 13 = .ok (.aload_n 0, 1) := by decide +kernel
theorem dX6_letDaysGo_14 : decode cX6_letDaysGo 14 = .ok (.getfield 12, 3) := by decide +kernel
theorem dX6_letDaysGo_17 : decode cX6_letDaysGo 17 = .ok (.getfield 241, 3) := by decide +kernel
theorem dX6_letDaysGo_20 : decode cX6_letDaysGo 20 = .ok (.istore_n 2, 1) := by decide +kernel
theorem dX6_letDaysGo_21 : decode cX6_letDaysGo 21 = .ok (.iconst 0, 1) := by decide +kernel
theorem dX6_letDaysGo_22 : decode cX6_letDaysGo 22 = .ok (.istore_n 3, 1) := by decide +kernel
theorem dX6_letDaysGo_23 : decode cX6_letDaysGo 23 = .ok (.iload_n 3, 1) := by decide +kernel
theorem dX6_letDaysGo_24 : decode cX6_letDaysGo 24 = .ok (.iload_n 1, 1) := by decide +kernel
theorem dX6_letDaysGo_25 : decode cX6_letDaysGo 25 = .ok (.if_icmp .ge 16, 3) := by decide +kernel
theorem dX6_letDaysGo_28 : decode cX6_letDaysGo 28 = .ok (.aload_n 0, 1) := by decide +kernel
theorem dX6_letDaysGo_29 : decode cX6_letDaysGo 29 = .ok (.getfield 12, 3) := by decide +kernel
theorem dX6_letDaysGo_32 : decode cX6_letDaysGo 32 = .ok (.invokevirtual 143, 3) := by decide +kernel
theorem dX6_letDaysGo_35 : decode cX6_letDaysGo 35 = .ok (.iinc 3 1, 3) := by decide +kernel
theorem dX6_letDaysGo_38 : decode cX6_letDaysGo 38 = .ok (.goto (-15), 3) := by decide +kernel
theorem dX6_letDaysGo_41 : decode cX6_letDaysGo 41 = .ok (.aload_n 0, 1) := by decide +kernel
theorem dX6_letDaysGo_42 : decode cX6_letDaysGo 42 = .ok (.getfield 12, 3) := by decide +kernel
theorem dX6_letDaysGo_45 : decode cX6_letDaysGo 45 = .ok (.getfield 241, 3) := by decide +kernel
theorem dX6_letDaysGo_48 : decode cX6_letDaysGo 48 = .ok (.iload_n 2, 1) := by decide +kernel
theorem dX6_letDaysGo_49 : decode cX6_letDaysGo 49 = .ok (.isub, 1) := by decide +kernel
theorem dX6_letDaysGo_50 : decode cX6_letDaysGo 50 = .ok (.ireturn, 1) := by decide +kernel
theorem dcX6_letDaysGo : yX6_letDaysGo.cls = RX6 ∧ yX6_letDaysGo.cls ≠ "java/lang/invoke/MethodHandle" ∧ yX6_letDaysGo.cls ≠ "java/lang/invoke/VarHandle" ∧ (parseMethodDescriptor yX6_letDaysGo.desc).map (fun d => d.parameters.length) = some 1 := by decide +kernel
theorem gX6_letDaysGo_32 : GoodIn wsL_law (wsV RX6 143 RX4 yX4_passDay (.code yX4_passDay cX4_passDay 2 none :: wsL_law)) := g_V q362 q363 q364 q16 q365
theorem gX6_letDaysGo_4 : gS RX6 253 yX6_isWithin cX6_isWithin 3 (some .boolean) := ⟨q132, q133, q2, q134⟩
set_option maxRecDepth 100000 in
set_option maxHeartbeats 4000000 in
theorem K_tdays {cA : Nat → ClassId} {ad : tA} {ex : va_W} {M : tM} {F P0 : tP} {d : Int32} (hoc : okc P0) (ho : oke P0) (hoh : okh P0) : Cj yX6_letDaysGo cX6_letDaysGo 4 (some .int) (rmd 5) 0 0 cA ad [.ref (ad 0 0), .int d] ex (mm M F P0) (Qe (some (.int (t_days F P0 d).1)) ex (mm M (t_days F P0 d).2.1 (t_days F P0 d).2.2)) := by
  refine c_of_r (lv0 := [some (.ref (ad 0 0)), some (.int d), none, none]) rfl (by decide +kernel) (Nat.le_of_ble_eq_true rfl) rfl ?_
  have L : ∀ (n0 n k : Nat) (P : tP), k + n = n0 → n0 ≤ 30 → inh P0 P → t_days F P0 (nI n0) = (lp_days n P 0 12 - P0 0 12, F, lp_days n P) → Rj cX6_letDaysGo RX6 4 (some .int) (rmd 5) 0 0 cA ad (Qe (some (.int (t_days F P0 (nI n0)).1)) ex (mm M (t_days F P0 (nI n0)).2.1 (t_days F P0 (nI n0)).2.2)) ex 0 0 23 [some (.ref (ad 0 0)), some (.int (nI n0)), some (.int (P0 0 12)), some (.int (nI k))] [] (mm M F P) := by
    intro n0 n
    induction n with
    | zero =>
      intro k P h h30 hk hP
      refine r_iload_n dX6_letDaysGo_23 rfl ?_
      refine r_iload_n dX6_letDaysGo_24 rfl ?_
      refine r_icmp_ge (tgt := 41) dX6_letDaysGo_25 (by decide) (fun c25 => ?_) (fun c25 => absurd (lp_z rfl h) c25)
      refine r_aload_n dX6_letDaysGo_41 rfl ?_
      refine r_getF 0 (by decide) q17 rfl dX6_letDaysGo_42 ?_
      refine r_getp_pl is1 12 (by decide) q158 rfl dX6_letDaysGo_45 ?_
      refine r_iload_n dX6_letDaysGo_48 rfl ?_
      refine r_isub dX6_letDaysGo_49 ?_
      exact r_ret rfl rfl dX6_letDaysGo_50 (t_a hP) (t_m hP)
    | succ n ih =>
      intro k P h h30 hk hP
      refine r_iload_n dX6_letDaysGo_23 rfl ?_
      refine r_iload_n dX6_letDaysGo_24 rfl ?_
      refine r_icmp_ge (tgt := 41) dX6_letDaysGo_25 (by decide) (fun c25 => absurd c25 (lq_s rfl (by omega) h)) (fun c25 => ?_)
      refine r_aload_n dX6_letDaysGo_28 rfl ?_
      refine r_getF 0 (by decide) q17 rfl dX6_letDaysGo_29 ?_
      refine r_cVv dX6_letDaysGo_32 (K_pass is1 hk.1 hk.2.1 hk.2.2.2) gX6_letDaysGo_32 dcX4_passDay rfl rfl rfl (Nat.le_of_ble_eq_true rfl) (ob_pl is1) ?_
      refine r_iinc dX6_letDaysGo_35 rfl ii_s (by decide) rfl ?_
      refine r_goto (tgt := 23) dX6_letDaysGo_38 (by decide) ?_
      exact ih (k + 1) _ (by omega) h30 (inh_kp kp_pass hk) hP
  refine r_iload_n dX6_letDaysGo_0 rfl ?_
  refine r_iconst (v := 1) dX6_letDaysGo_1 (by decide) ?_
  refine r_bipush (v := 30) dX6_letDaysGo_2 (by decide) ?_
  refine r_cSi dX6_letDaysGo_4 (K_wi) gX6_letDaysGo_4 dcX6_isWithin rfl rfl rfl (Nat.le_of_ble_eq_true rfl) ?_
  refine r_if_ne (tgt := 13) dX6_letDaysGo_7 (by decide) (fun c7 => ?_) (fun c7 => ?_)
  · obtain ⟨n0, hn1, hn2, hn3, hn4⟩ := wi_of (b := 30) (by omega) (bt c7)
    subst hn3
    refine r_aload_n dX6_letDaysGo_13 rfl ?_
    refine r_getF 0 (by decide) q17 rfl dX6_letDaysGo_14 ?_
    refine r_getp_pl is1 12 (by decide) q158 rfl dX6_letDaysGo_17 ?_
    refine r_istore_n dX6_letDaysGo_20 (by decide) rfl ?_
    refine r_iconst (v := 0) dX6_letDaysGo_21 (by decide) ?_
    refine r_istore_n dX6_letDaysGo_22 (by decide) rfl ?_
    exact L n0 n0 0 P0 (by omega) hn2 ⟨hoc, ho, rfl, hoh⟩ ((if_neg (nf_of c7)).trans (by rw [hn4]))
  · refine r_bipush (v := -12) dX6_letDaysGo_10 (by decide) ?_
    first | exact r_ret rfl rfl dX6_letDaysGo_12 (t_a (show (t_days F P0 d) = _ from if_pos (bF c7))) (t_m (show (t_days F P0 d) = _ from if_pos (bF c7)))
end
section
/-! PART 13: carryOut, the public changes, undo, save, restore, append, reason, run -/
theorem i32_of {x : Int32} {a : Nat} (ha : a < 2 ^ 31) (h : x.toInt = (a : Int)) : x = nI a := Int32.toInt_inj.mp (by rw [h, nI_toInt ha])
theorem sw17 (x : Int32) : x.toInt < 99 ∨ 115 < x.toInt ∨ x = 99 ∨ x = 100 ∨ x = 101 ∨ x = 102 ∨ x = 103 ∨ x = 104 ∨ x = 105 ∨ x = 106 ∨ x = 107 ∨ x = 108 ∨ x = 109 ∨ x = 110 ∨ x = 111 ∨ x = 112 ∨ x = 113 ∨ x = 114 ∨ x = 115 := by
  rcases (by omega : x.toInt < 99 ∨ 115 < x.toInt ∨ x.toInt = 99 ∨ x.toInt = 100 ∨ x.toInt = 101 ∨ x.toInt = 102 ∨ x.toInt = 103 ∨ x.toInt = 104 ∨ x.toInt = 105 ∨ x.toInt = 106 ∨ x.toInt = 107 ∨ x.toInt = 108 ∨ x.toInt = 109 ∨ x.toInt = 110 ∨ x.toInt = 111 ∨ x.toInt = 112 ∨ x.toInt = 113 ∨ x.toInt = 114 ∨ x.toInt = 115) with h | h | h | h | h | h | h | h | h | h | h | h | h | h | h | h | h | h | h
  · exact Or.inl h
  · exact Or.inr (Or.inl h)
  · have e := i32_of (a := 99) (by omega) h; rw [show x = 99 from e]; simp
  · have e := i32_of (a := 100) (by omega) h; rw [show x = 100 from e]; simp
  · have e := i32_of (a := 101) (by omega) h; rw [show x = 101 from e]; simp
  · have e := i32_of (a := 102) (by omega) h; rw [show x = 102 from e]; simp
  · have e := i32_of (a := 103) (by omega) h; rw [show x = 103 from e]; simp
  · have e := i32_of (a := 104) (by omega) h; rw [show x = 104 from e]; simp
  · have e := i32_of (a := 105) (by omega) h; rw [show x = 105 from e]; simp
  · have e := i32_of (a := 106) (by omega) h; rw [show x = 106 from e]; simp
  · have e := i32_of (a := 107) (by omega) h; rw [show x = 107 from e]; simp
  · have e := i32_of (a := 108) (by omega) h; rw [show x = 108 from e]; simp
  · have e := i32_of (a := 109) (by omega) h; rw [show x = 109 from e]; simp
  · have e := i32_of (a := 110) (by omega) h; rw [show x = 110 from e]; simp
  · have e := i32_of (a := 111) (by omega) h; rw [show x = 111 from e]; simp
  · have e := i32_of (a := 112) (by omega) h; rw [show x = 112 from e]; simp
  · have e := i32_of (a := 113) (by omega) h; rw [show x = 113 from e]; simp
  · have e := i32_of (a := 114) (by omega) h; rw [show x = 114 from e]; simp
  · have e := i32_of (a := 115) (by omega) h; rw [show x = 115 from e]; simp
theorem sw19 (x : Int32) : x.toInt < 0 ∨ 18 < x.toInt ∨ x = 0 ∨ x = 1 ∨ x = 2 ∨ x = 3 ∨ x = 4 ∨ x = 5 ∨ x = 6 ∨ x = 7 ∨ x = 8 ∨ x = 9 ∨ x = 10 ∨ x = 11 ∨ x = 12 ∨ x = 13 ∨ x = 14 ∨ x = 15 ∨ x = 16 ∨ x = 17 ∨ x = 18 := by
  rcases (by omega : x.toInt < 0 ∨ 18 < x.toInt ∨ x.toInt = 0 ∨ x.toInt = 1 ∨ x.toInt = 2 ∨ x.toInt = 3 ∨ x.toInt = 4 ∨ x.toInt = 5 ∨ x.toInt = 6 ∨ x.toInt = 7 ∨ x.toInt = 8 ∨ x.toInt = 9 ∨ x.toInt = 10 ∨ x.toInt = 11 ∨ x.toInt = 12 ∨ x.toInt = 13 ∨ x.toInt = 14 ∨ x.toInt = 15 ∨ x.toInt = 16 ∨ x.toInt = 17 ∨ x.toInt = 18) with h | h | h | h | h | h | h | h | h | h | h | h | h | h | h | h | h | h | h | h | h
  · exact Or.inl h
  · exact Or.inr (Or.inl h)
  · have e := i32_of (a := 0) (by omega) h; rw [show x = 0 from e]; simp
  · have e := i32_of (a := 1) (by omega) h; rw [show x = 1 from e]; simp
  · have e := i32_of (a := 2) (by omega) h; rw [show x = 2 from e]; simp
  · have e := i32_of (a := 3) (by omega) h; rw [show x = 3 from e]; simp
  · have e := i32_of (a := 4) (by omega) h; rw [show x = 4 from e]; simp
  · have e := i32_of (a := 5) (by omega) h; rw [show x = 5 from e]; simp
  · have e := i32_of (a := 6) (by omega) h; rw [show x = 6 from e]; simp
  · have e := i32_of (a := 7) (by omega) h; rw [show x = 7 from e]; simp
  · have e := i32_of (a := 8) (by omega) h; rw [show x = 8 from e]; simp
  · have e := i32_of (a := 9) (by omega) h; rw [show x = 9 from e]; simp
  · have e := i32_of (a := 10) (by omega) h; rw [show x = 10 from e]; simp
  · have e := i32_of (a := 11) (by omega) h; rw [show x = 11 from e]; simp
  · have e := i32_of (a := 12) (by omega) h; rw [show x = 12 from e]; simp
  · have e := i32_of (a := 13) (by omega) h; rw [show x = 13 from e]; simp
  · have e := i32_of (a := 14) (by omega) h; rw [show x = 14 from e]; simp
  · have e := i32_of (a := 15) (by omega) h; rw [show x = 15 from e]; simp
  · have e := i32_of (a := 16) (by omega) h; rw [show x = 16 from e]; simp
  · have e := i32_of (a := 17) (by omega) h; rw [show x = 17 from e]; simp
  · have e := i32_of (a := 18) (by omega) h; rw [show x = 18 from e]; simp
theorem sw10 (x : Int32) : x.toInt < 0 ∨ 9 < x.toInt ∨ x = 0 ∨ x = 1 ∨ x = 2 ∨ x = 3 ∨ x = 4 ∨ x = 5 ∨ x = 6 ∨ x = 7 ∨ x = 8 ∨ x = 9 := by
  rcases (by omega : x.toInt < 0 ∨ 9 < x.toInt ∨ x.toInt = 0 ∨ x.toInt = 1 ∨ x.toInt = 2 ∨ x.toInt = 3 ∨ x.toInt = 4 ∨ x.toInt = 5 ∨ x.toInt = 6 ∨ x.toInt = 7 ∨ x.toInt = 8 ∨ x.toInt = 9) with h | h | h | h | h | h | h | h | h | h | h | h
  · exact Or.inl h
  · exact Or.inr (Or.inl h)
  · have e := i32_of (a := 0) (by omega) h; rw [show x = 0 from e]; simp
  · have e := i32_of (a := 1) (by omega) h; rw [show x = 1 from e]; simp
  · have e := i32_of (a := 2) (by omega) h; rw [show x = 2 from e]; simp
  · have e := i32_of (a := 3) (by omega) h; rw [show x = 3 from e]; simp
  · have e := i32_of (a := 4) (by omega) h; rw [show x = 4 from e]; simp
  · have e := i32_of (a := 5) (by omega) h; rw [show x = 5 from e]; simp
  · have e := i32_of (a := 6) (by omega) h; rw [show x = 6 from e]; simp
  · have e := i32_of (a := 7) (by omega) h; rw [show x = 7 from e]; simp
  · have e := i32_of (a := 8) (by omega) h; rw [show x = 8 from e]; simp
  · have e := i32_of (a := 9) (by omega) h; rw [show x = 9 from e]; simp
theorem sw4 (x : Int32) : x.toInt < 0 ∨ 3 < x.toInt ∨ x = 0 ∨ x = 1 ∨ x = 2 ∨ x = 3 := by
  rcases (by omega : x.toInt < 0 ∨ 3 < x.toInt ∨ x.toInt = 0 ∨ x.toInt = 1 ∨ x.toInt = 2 ∨ x.toInt = 3) with h | h | h | h | h | h
  · exact Or.inl h
  · exact Or.inr (Or.inl h)
  · have e := i32_of (a := 0) (by omega) h; rw [show x = 0 from e]; simp
  · have e := i32_of (a := 1) (by omega) h; rw [show x = 1 from e]; simp
  · have e := i32_of (a := 2) (by omega) h; rw [show x = 2 from e]; simp
  · have e := i32_of (a := 3) (by omega) h; rw [show x = 3 from e]; simp
def t_carry (F P : tP) (w : Nat → Int32) : TX :=
  if w 0 = 115 then t_step F P (w 1) (w 2) (w 3) (w 4) else if w 0 = 110 then t_need F P (w 1) (w 2) else if w 0 = 102 then t_fault F P (w 1) (w 2)
  else if w 0 = 104 then t_hands F P (w 1) else if w 0 = 99 then t_cancel F P (w 1) else if w 0 = 109 then t_mile F P (w 1) (w 2) else if w 0 = 100 then t_days F P (w 1) else (-12, F, P)
theorem ca_no {F P : tP} {w : Nat → Int32} (h : w 0 ≠ 115 ∧ w 0 ≠ 110 ∧ w 0 ≠ 102 ∧ w 0 ≠ 104 ∧ w 0 ≠ 99 ∧ w 0 ≠ 109 ∧ w 0 ≠ 100) : t_carry F P w = (-12, F, P) := by
  unfold t_carry
  rw [if_neg h.1, if_neg h.2.1, if_neg h.2.2.1, if_neg h.2.2.2.1, if_neg h.2.2.2.2.1, if_neg h.2.2.2.2.2.1, if_neg h.2.2.2.2.2.2]
theorem ca_lo {x : Int32} (h : x.toInt < 99) : x ≠ 115 ∧ x ≠ 110 ∧ x ≠ 102 ∧ x ≠ 104 ∧ x ≠ 99 ∧ x ≠ 109 ∧ x ≠ 100 := by
  refine ⟨?_, ?_, ?_, ?_, ?_, ?_, ?_⟩ <;> (intro e; rw [e] at h; revert h; decide)
theorem ca_hi {x : Int32} (h : 115 < x.toInt) : x ≠ 115 ∧ x ≠ 110 ∧ x ≠ 102 ∧ x ≠ 104 ∧ x ≠ 99 ∧ x ≠ 109 ∧ x ≠ 100 := by
  refine ⟨?_, ?_, ?_, ?_, ?_, ?_, ?_⟩ <;> (intro e; rw [e] at h; revert h; decide)
theorem dX6_carryOut_0 : decode cX6_carryOut 0 = .ok (.aload_n 1, 1) := by decide +kernel
theorem dX6_carryOut_1 : decode cX6_carryOut 1 = .ok (.getfield 281, 3) := by decide +kernel
theorem dX6_carryOut_4 : decode cX6_carryOut 4 = .ok (.tableswitch 171 99 115 #[140, 162, 171, 118, 171, 131, 171, 171, 171, 171, 149, 105, 171, 171, 171, 171, 84], 84) := by decide +kernel
theorem dX6_carryOut_88 : decode cX6_carryOut 88 = .ok (.aload_n 0, 1) := by decide +kernel
theorem dX6_carryOut_89 : decode cX6_carryOut 89 = .ok (.aload_n 1, 1) := by decide +kernel
theorem dX6_carryOut_90 : decode cX6_carryOut 90 = .ok (.getfield 287, 3) := by decide +kernel
theorem dX6_carryOut_93 : decode cX6_carryOut 93 = .ok (.aload_n 1, 1) := by decide +kernel
theorem dX6_carryOut_94 : decode cX6_carryOut 94 = .ok (.getfield 290, 3) := by decide +kernel
theorem dX6_carryOut_97 : decode cX6_carryOut 97 = .ok (.aload_n 1, 1) := by decide +kernel
theorem dX6_carryOut_98 : decode cX6_carryOut 98 = .ok (.getfield 293, 3) := by decide +kernel
theorem dX6_carryOut_101 : decode cX6_carryOut 101 = .ok (.aload_n 1, 1) := by decide +kernel
theorem dX6_carryOut_102 : decode cX6_carryOut 102 = .ok (.getfield 296, 3) := by decide +kernel
theorem dX6_carryOut_105 : decode cX6_carryOut 105 = .ok (.invokevirtual 50, 3) := by decide +kernel
theorem dX6_carryOut_108 : decode cX6_carryOut 108 = .ok (.ireturn, 1) := by decide +kernel
theorem dX6_carryOut_109 : decode cX6_carryOut 109 = .ok (.aload_n 0, 1) := by decide +kernel
theorem dX6_carryOut_110 : decode cX6_carryOut 110 = .ok (.aload_n 1, 1) := by decide +kernel
theorem dX6_carryOut_111 : decode cX6_carryOut 111 = .ok (.getfield 287, 3) := by decide +kernel
theorem dX6_carryOut_114 : decode cX6_carryOut 114 = .ok (.aload_n 1, 1) := by decide +kernel
theorem dX6_carryOut_115 : decode cX6_carryOut 115 = .ok (.getfield 290, 3) := by decide +kernel
theorem dX6_carryOut_118 : decode cX6_carryOut 118 = .ok (.invokevirtual 58, 3) := by decide +kernel
theorem dX6_carryOut_121 : decode cX6_carryOut 121 = .ok (.ireturn, 1) := by decide +kernel
theorem dX6_carryOut_122 : decode cX6_carryOut 122 = .ok (.aload_n 0, 1) := by decide +kernel
theorem dX6_carryOut_123 : decode cX6_carryOut 123 = .ok (.aload_n 1, 1) := by decide +kernel
theorem dX6_carryOut_124 : decode cX6_carryOut 124 = .ok (.getfield 287, 3) := by decide +kernel
theorem dX6_carryOut_127 : decode cX6_carryOut 127 = .ok (.aload_n 1, 1) := by decide +kernel
theorem dX6_carryOut_128 : decode cX6_carryOut 128 = .ok (.getfield 290, 3) := by decide +kernel
theorem dX6_carryOut_131 : decode cX6_carryOut 131 = .ok (.invokevirtual 62, 3) := by decide +kernel
theorem dX6_carryOut_134 : decode cX6_carryOut 134 = .ok (.ireturn, 1) := by decide +kernel
theorem dX6_carryOut_135 : decode cX6_carryOut 135 = .ok (.aload_n 0, 1) := by decide +kernel
theorem dX6_carryOut_136 : decode cX6_carryOut 136 = .ok (.aload_n 1, 1) := by decide +kernel
theorem dX6_carryOut_137 : decode cX6_carryOut 137 = .ok (.getfield 287, 3) := by decide +kernel
theorem dX6_carryOut_140 : decode cX6_carryOut 140 = .ok (.invokevirtual 65, 3) := by decide +kernel
theorem dX6_carryOut_143 : decode cX6_carryOut 143 = .ok (.ireturn, 1) := by decide +kernel
theorem dX6_carryOut_144 : decode cX6_carryOut 144 = .ok (.aload_n 0, 1) := by decide +kernel
theorem dX6_carryOut_145 : decode cX6_carryOut 145 = .ok (.aload_n 1, 1) := by decide +kernel
theorem dX6_carryOut_146 : decode cX6_carryOut 146 = .ok (.getfield 287, 3) := by decide +kernel
theorem dX6_carryOut_149 : decode cX6_carryOut 149 = .ok (.invokevirtual 68, 3) := by decide +kernel
theorem dX6_carryOut_152 : decode cX6_carryOut 152 = .ok (.ireturn, 1) := by decide +kernel
theorem dX6_carryOut_153 : decode cX6_carryOut 153 = .ok (.aload_n 0, 1) := by decide +kernel
theorem dX6_carryOut_154 : decode cX6_carryOut 154 = .ok (.aload_n 1, 1) := by decide +kernel
theorem dX6_carryOut_155 : decode cX6_carryOut 155 = .ok (.getfield 287, 3) := by decide +kernel
theorem dX6_carryOut_158 : decode cX6_carryOut 158 = .ok (.aload_n 1, 1) := by decide +kernel
theorem dX6_carryOut_159 : decode cX6_carryOut 159 = .ok (.getfield 290, 3) := by decide +kernel
theorem dX6_carryOut_162 : decode cX6_carryOut 162 = .ok (.invokevirtual 71, 3) := by decide +kernel
theorem dX6_carryOut_165 : decode cX6_carryOut 165 = .ok (.ireturn, 1) := by decide +kernel
theorem dX6_carryOut_166 : decode cX6_carryOut 166 = .ok (.aload_n 0, 1) := by decide +kernel
theorem dX6_carryOut_167 : decode cX6_carryOut 167 = .ok (.aload_n 1, 1) := by decide +kernel
theorem dX6_carryOut_168 : decode cX6_carryOut 168 = .ok (.getfield 287, 3) := by decide +kernel
theorem dX6_carryOut_171 : decode cX6_carryOut 171 = .ok (.invokevirtual 74, 3) := by decide +kernel
theorem dX6_carryOut_174 : decode cX6_carryOut 174 = .ok (.ireturn, 1) := by decide +kernel
theorem dX6_carryOut_175 : decode cX6_carryOut 175 = .ok (.bipush (-12), 2) := by decide +kernel
theorem dX6_carryOut_177 : decode cX6_carryOut 177 = .ok (.ireturn, 1) := by decide +kernel
theorem dcX6_carryOut : yX6_carryOut.cls = RX6 ∧ yX6_carryOut.cls ≠ "java/lang/invoke/MethodHandle" ∧ yX6_carryOut.cls ≠ "java/lang/invoke/VarHandle" ∧ (parseMethodDescriptor yX6_carryOut.desc).map (fun d => d.parameters.length) = some 1 := by decide +kernel
theorem gX6_carryOut_149 : GoodIn wsL_law (wsV RX6 68 RX6 yX6_tellCancel (.code yX6_tellCancel cX6_tellCancel 2 (some .int) :: wsL_law)) := g_V q336 q337 q338 q2 q339
theorem gX6_carryOut_171 : GoodIn wsL_law (wsV RX6 74 RX6 yX6_letDaysGo (.code yX6_letDaysGo cX6_letDaysGo 4 (some .int) :: wsL_law)) := g_V q358 q359 q360 q2 q361
theorem gX6_carryOut_131 : GoodIn wsL_law (wsV RX6 62 RX6 yX6_tellFault (.code yX6_tellFault cX6_tellFault 4 (some .int) :: wsL_law)) := g_V q327 q328 q329 q2 q330
theorem gX6_carryOut_140 : GoodIn wsL_law (wsV RX6 65 RX6 yX6_setHands (.code yX6_setHands cX6_setHands 3 (some .int) :: wsL_law)) := g_V q127 q128 q129 q2 q130
theorem gX6_carryOut_162 : GoodIn wsL_law (wsV RX6 71 RX6 yX6_tellMilestone (.code yX6_tellMilestone cX6_tellMilestone 4 (some .int) :: wsL_law)) := g_V q348 q349 q350 q2 q351
theorem gX6_carryOut_118 : GoodIn wsL_law (wsV RX6 58 RX6 yX6_tellNeed (.code yX6_tellNeed cX6_tellNeed 4 (some .int) :: wsL_law)) := g_V q310 q311 q312 q2 q313
theorem gX6_carryOut_105 : GoodIn wsL_law (wsV RX6 50 RX6 yX6_tellStep (.code yX6_tellStep cX6_tellStep 5 (some .int) :: wsL_law)) := g_V q282 q283 q284 q2 q285
set_option maxRecDepth 100000 in
set_option maxHeartbeats 4000000 in
theorem K_carry {cA : Nat → ClassId} {ad : tA} {ex : va_W} {M : tM} {F P : tP} {k : Nat} (hk : k < 12) (hb : (M 13 (3 + k)) 4 = 0 ∨ (M 13 (3 + k)) 4 = 1) (hoc : okc P) (ho : oke P) (hoh : okh P) (hon : okn P) : Cj yX6_carryOut cX6_carryOut 2 (some .int) (rmd 6) 0 0 cA ad [.ref (ad 0 0), .ref (ad 13 (3 + k))] ex (mm M F P) (Qe (some (.int (t_carry F P (M 13 (3 + k))).1)) ex (mm M (t_carry F P (M 13 (3 + k))).2.1 (t_carry F P (M 13 (3 + k))).2.2)) := by
  refine c_of_r (lv0 := [some (.ref (ad 0 0)), some (.ref (ad 13 (3 + k)))]) rfl (by decide +kernel) (Nat.le_of_ble_eq_true rfl) rfl ?_
  obtain ⟨a, ha⟩ : ∃ a : Bool, (M 13 (3 + k)) 4 = bI a := by rcases hb with h | h; exact ⟨false, h⟩; exact ⟨true, h⟩
  refine r_aload_n dX6_carryOut_0 rfl ?_
  refine r_getm_or hk 0 (by decide) q277 rfl dX6_carryOut_1 ?_
  rcases sw17 ((M 13 (3 + k)) 0) with h | h | h | h | h | h | h | h | h | h | h | h | h | h | h | h | h | h | h
  · refine r_tableOut (tgt := 175) dX6_carryOut_4 (Or.inl h) (by decide) ?_
    refine r_bipush (v := -12) dX6_carryOut_175 (by decide) ?_
    first | exact r_ret rfl rfl dX6_carryOut_177 (t_a (show t_carry F P (M 13 (3 + k)) = _ from ca_no (ca_lo h))) (t_m (show t_carry F P (M 13 (3 + k)) = _ from ca_no (ca_lo h)))
  · refine r_tableOut (tgt := 175) dX6_carryOut_4 (Or.inr h) (by decide) ?_
    refine r_bipush (v := -12) dX6_carryOut_175 (by decide) ?_
    first | exact r_ret rfl rfl dX6_carryOut_177 (t_a (show t_carry F P (M 13 (3 + k)) = _ from ca_no (ca_hi h))) (t_m (show t_carry F P (M 13 (3 + k)) = _ from ca_no (ca_hi h)))
  · rw [h]
    refine r_tableIn (off := 140) (tgt := 144) dX6_carryOut_4 (by decide) (by decide) (by decide) (by decide) ?_
    rw [show t_carry F P (M 13 (3 + k)) = t_cancel F P ((M 13 (3 + k)) 1) from (if_neg (by rw [h]; decide)).trans ((if_neg (by rw [h]; decide)).trans ((if_neg (by rw [h]; decide)).trans ((if_neg (by rw [h]; decide)).trans (if_pos h))))]
    refine r_aload_n dX6_carryOut_144 rfl ?_
    refine r_aload_n dX6_carryOut_145 rfl ?_
    refine r_getm_or hk 1 (by decide) q278 rfl dX6_carryOut_146 ?_
    refine r_cVi dX6_carryOut_149 (K_tcancel hoc ho) gX6_carryOut_149 dcX6_tellCancel rfl rfl rfl (Nat.le_of_ble_eq_true rfl) ob_tf ?_
    exact r_ret rfl rfl dX6_carryOut_152 rfl rfl
  · rw [h]
    refine r_tableIn (off := 162) (tgt := 166) dX6_carryOut_4 (by decide) (by decide) (by decide) (by decide) ?_
    rw [show t_carry F P (M 13 (3 + k)) = t_days F P ((M 13 (3 + k)) 1) from (if_neg (by rw [h]; decide)).trans ((if_neg (by rw [h]; decide)).trans ((if_neg (by rw [h]; decide)).trans ((if_neg (by rw [h]; decide)).trans ((if_neg (by rw [h]; decide)).trans ((if_neg (by rw [h]; decide)).trans (if_pos h))))))]
    refine r_aload_n dX6_carryOut_166 rfl ?_
    refine r_aload_n dX6_carryOut_167 rfl ?_
    refine r_getm_or hk 1 (by decide) q278 rfl dX6_carryOut_168 ?_
    refine r_cVi dX6_carryOut_171 (K_tdays hoc ho hoh) gX6_carryOut_171 dcX6_letDaysGo rfl rfl rfl (Nat.le_of_ble_eq_true rfl) ob_tf ?_
    exact r_ret rfl rfl dX6_carryOut_174 rfl rfl
  · rw [h]
    refine r_tableIn (off := 171) (tgt := 175) dX6_carryOut_4 (by decide) (by decide) (by decide) (by decide) ?_
    refine r_bipush (v := -12) dX6_carryOut_175 (by decide) ?_
    first | exact r_ret rfl rfl dX6_carryOut_177 (t_a (show t_carry F P (M 13 (3 + k)) = _ from ca_no (by rw [h]; decide))) (t_m (show t_carry F P (M 13 (3 + k)) = _ from ca_no (by rw [h]; decide)))
  · rw [h]
    refine r_tableIn (off := 118) (tgt := 122) dX6_carryOut_4 (by decide) (by decide) (by decide) (by decide) ?_
    rw [show t_carry F P (M 13 (3 + k)) = t_fault F P ((M 13 (3 + k)) 1) ((M 13 (3 + k)) 2) from (if_neg (by rw [h]; decide)).trans ((if_neg (by rw [h]; decide)).trans (if_pos h))]
    refine r_aload_n dX6_carryOut_122 rfl ?_
    refine r_aload_n dX6_carryOut_123 rfl ?_
    refine r_getm_or hk 1 (by decide) q278 rfl dX6_carryOut_124 ?_
    refine r_aload_n dX6_carryOut_127 rfl ?_
    refine r_getm_or hk 2 (by decide) q279 rfl dX6_carryOut_128 ?_
    refine r_cVi dX6_carryOut_131 (K_tfault hoc) gX6_carryOut_131 dcX6_tellFault rfl rfl rfl (Nat.le_of_ble_eq_true rfl) ob_tf ?_
    exact r_ret rfl rfl dX6_carryOut_134 rfl rfl
  · rw [h]
    refine r_tableIn (off := 171) (tgt := 175) dX6_carryOut_4 (by decide) (by decide) (by decide) (by decide) ?_
    refine r_bipush (v := -12) dX6_carryOut_175 (by decide) ?_
    first | exact r_ret rfl rfl dX6_carryOut_177 (t_a (show t_carry F P (M 13 (3 + k)) = _ from ca_no (by rw [h]; decide))) (t_m (show t_carry F P (M 13 (3 + k)) = _ from ca_no (by rw [h]; decide)))
  · rw [h]
    refine r_tableIn (off := 131) (tgt := 135) dX6_carryOut_4 (by decide) (by decide) (by decide) (by decide) ?_
    rw [show t_carry F P (M 13 (3 + k)) = t_hands F P ((M 13 (3 + k)) 1) from (if_neg (by rw [h]; decide)).trans ((if_neg (by rw [h]; decide)).trans ((if_neg (by rw [h]; decide)).trans (if_pos h)))]
    refine r_aload_n dX6_carryOut_135 rfl ?_
    refine r_aload_n dX6_carryOut_136 rfl ?_
    refine r_getm_or hk 1 (by decide) q278 rfl dX6_carryOut_137 ?_
    refine r_cVi dX6_carryOut_140 (K_thands) gX6_carryOut_140 dcX6_setHands rfl rfl rfl (Nat.le_of_ble_eq_true rfl) ob_tf ?_
    exact r_ret rfl rfl dX6_carryOut_143 rfl rfl
  · rw [h]
    refine r_tableIn (off := 171) (tgt := 175) dX6_carryOut_4 (by decide) (by decide) (by decide) (by decide) ?_
    refine r_bipush (v := -12) dX6_carryOut_175 (by decide) ?_
    first | exact r_ret rfl rfl dX6_carryOut_177 (t_a (show t_carry F P (M 13 (3 + k)) = _ from ca_no (by rw [h]; decide))) (t_m (show t_carry F P (M 13 (3 + k)) = _ from ca_no (by rw [h]; decide)))
  · rw [h]
    refine r_tableIn (off := 171) (tgt := 175) dX6_carryOut_4 (by decide) (by decide) (by decide) (by decide) ?_
    refine r_bipush (v := -12) dX6_carryOut_175 (by decide) ?_
    first | exact r_ret rfl rfl dX6_carryOut_177 (t_a (show t_carry F P (M 13 (3 + k)) = _ from ca_no (by rw [h]; decide))) (t_m (show t_carry F P (M 13 (3 + k)) = _ from ca_no (by rw [h]; decide)))
  · rw [h]
    refine r_tableIn (off := 171) (tgt := 175) dX6_carryOut_4 (by decide) (by decide) (by decide) (by decide) ?_
    refine r_bipush (v := -12) dX6_carryOut_175 (by decide) ?_
    first | exact r_ret rfl rfl dX6_carryOut_177 (t_a (show t_carry F P (M 13 (3 + k)) = _ from ca_no (by rw [h]; decide))) (t_m (show t_carry F P (M 13 (3 + k)) = _ from ca_no (by rw [h]; decide)))
  · rw [h]
    refine r_tableIn (off := 171) (tgt := 175) dX6_carryOut_4 (by decide) (by decide) (by decide) (by decide) ?_
    refine r_bipush (v := -12) dX6_carryOut_175 (by decide) ?_
    first | exact r_ret rfl rfl dX6_carryOut_177 (t_a (show t_carry F P (M 13 (3 + k)) = _ from ca_no (by rw [h]; decide))) (t_m (show t_carry F P (M 13 (3 + k)) = _ from ca_no (by rw [h]; decide)))
  · rw [h]
    refine r_tableIn (off := 149) (tgt := 153) dX6_carryOut_4 (by decide) (by decide) (by decide) (by decide) ?_
    rw [show t_carry F P (M 13 (3 + k)) = t_mile F P ((M 13 (3 + k)) 1) ((M 13 (3 + k)) 2) from (if_neg (by rw [h]; decide)).trans ((if_neg (by rw [h]; decide)).trans ((if_neg (by rw [h]; decide)).trans ((if_neg (by rw [h]; decide)).trans ((if_neg (by rw [h]; decide)).trans (if_pos h)))))]
    refine r_aload_n dX6_carryOut_153 rfl ?_
    refine r_aload_n dX6_carryOut_154 rfl ?_
    refine r_getm_or hk 1 (by decide) q278 rfl dX6_carryOut_155 ?_
    refine r_aload_n dX6_carryOut_158 rfl ?_
    refine r_getm_or hk 2 (by decide) q279 rfl dX6_carryOut_159 ?_
    refine r_cVi dX6_carryOut_162 (K_tmile hoc hon) gX6_carryOut_162 dcX6_tellMilestone rfl rfl rfl (Nat.le_of_ble_eq_true rfl) ob_tf ?_
    exact r_ret rfl rfl dX6_carryOut_165 rfl rfl
  · rw [h]
    refine r_tableIn (off := 105) (tgt := 109) dX6_carryOut_4 (by decide) (by decide) (by decide) (by decide) ?_
    rw [show t_carry F P (M 13 (3 + k)) = t_need F P ((M 13 (3 + k)) 1) ((M 13 (3 + k)) 2) from (if_neg (by rw [h]; decide)).trans (if_pos h)]
    refine r_aload_n dX6_carryOut_109 rfl ?_
    refine r_aload_n dX6_carryOut_110 rfl ?_
    refine r_getm_or hk 1 (by decide) q278 rfl dX6_carryOut_111 ?_
    refine r_aload_n dX6_carryOut_114 rfl ?_
    refine r_getm_or hk 2 (by decide) q279 rfl dX6_carryOut_115 ?_
    refine r_cVi dX6_carryOut_118 (K_tneed hoc) gX6_carryOut_118 dcX6_tellNeed rfl rfl rfl (Nat.le_of_ble_eq_true rfl) ob_tf ?_
    exact r_ret rfl rfl dX6_carryOut_121 rfl rfl
  · rw [h]
    refine r_tableIn (off := 171) (tgt := 175) dX6_carryOut_4 (by decide) (by decide) (by decide) (by decide) ?_
    refine r_bipush (v := -12) dX6_carryOut_175 (by decide) ?_
    first | exact r_ret rfl rfl dX6_carryOut_177 (t_a (show t_carry F P (M 13 (3 + k)) = _ from ca_no (by rw [h]; decide))) (t_m (show t_carry F P (M 13 (3 + k)) = _ from ca_no (by rw [h]; decide)))
  · rw [h]
    refine r_tableIn (off := 171) (tgt := 175) dX6_carryOut_4 (by decide) (by decide) (by decide) (by decide) ?_
    refine r_bipush (v := -12) dX6_carryOut_175 (by decide) ?_
    first | exact r_ret rfl rfl dX6_carryOut_177 (t_a (show t_carry F P (M 13 (3 + k)) = _ from ca_no (by rw [h]; decide))) (t_m (show t_carry F P (M 13 (3 + k)) = _ from ca_no (by rw [h]; decide)))
  · rw [h]
    refine r_tableIn (off := 171) (tgt := 175) dX6_carryOut_4 (by decide) (by decide) (by decide) (by decide) ?_
    refine r_bipush (v := -12) dX6_carryOut_175 (by decide) ?_
    first | exact r_ret rfl rfl dX6_carryOut_177 (t_a (show t_carry F P (M 13 (3 + k)) = _ from ca_no (by rw [h]; decide))) (t_m (show t_carry F P (M 13 (3 + k)) = _ from ca_no (by rw [h]; decide)))
  · rw [h]
    refine r_tableIn (off := 171) (tgt := 175) dX6_carryOut_4 (by decide) (by decide) (by decide) (by decide) ?_
    refine r_bipush (v := -12) dX6_carryOut_175 (by decide) ?_
    first | exact r_ret rfl rfl dX6_carryOut_177 (t_a (show t_carry F P (M 13 (3 + k)) = _ from ca_no (by rw [h]; decide))) (t_m (show t_carry F P (M 13 (3 + k)) = _ from ca_no (by rw [h]; decide)))
  · rw [h]
    refine r_tableIn (off := 84) (tgt := 88) dX6_carryOut_4 (by decide) (by decide) (by decide) (by decide) ?_
    rw [show t_carry F P (M 13 (3 + k)) = t_step F P ((M 13 (3 + k)) 1) ((M 13 (3 + k)) 2) ((M 13 (3 + k)) 3) ((M 13 (3 + k)) 4) from if_pos h]
    refine r_aload_n dX6_carryOut_88 rfl ?_
    refine r_aload_n dX6_carryOut_89 rfl ?_
    refine r_getm_or hk 1 (by decide) q278 rfl dX6_carryOut_90 ?_
    refine r_aload_n dX6_carryOut_93 rfl ?_
    refine r_getm_or hk 2 (by decide) q279 rfl dX6_carryOut_94 ?_
    refine r_aload_n dX6_carryOut_97 rfl ?_
    refine r_getm_or hk 3 (by decide) q280 rfl dX6_carryOut_98 ?_
    refine r_aload_n dX6_carryOut_101 rfl ?_
    refine r_getm_or hk 4 (by decide) q281 rfl dX6_carryOut_102 ?_
    refine r_cVi dX6_carryOut_105 ((ha ▸ K_tstep hoc ho)) gX6_carryOut_105 dcX6_tellStep rfl rfl rfl (Nat.le_of_ble_eq_true rfl) ob_tf ?_
    exact r_ret rfl rfl dX6_carryOut_108 rfl rfl
def c_mark (M : tM) (F P : tP) : tM := m_pl M (4 + km F) (f_copy (M (4 + km F)) P)
theorem dX6_step_0 : decode cX6_step 0 = .ok (.aload_n 0, 1) := by decide +kernel
theorem dX6_step_1 : decode cX6_step 1 = .ok (.invokevirtual 47, 3) := by decide +kernel
theorem dX6_step_4 : decode cX6_step 4 = .ok (.aload_n 0, 1) := by decide +kernel
theorem dX6_step_5 : decode cX6_step 5 = .ok (.aload_n 0, 1) := by decide +kernel
theorem dX6_step_6 : decode cX6_step 6 = .ok (.iload_n 1, 1) := by decide +kernel
theorem dX6_step_7 : decode cX6_step 7 = .ok (.iload_n 2, 1) := by decide +kernel
theorem dX6_step_8 : decode cX6_step 8 = .ok (.iload_n 3, 1) := by decide +kernel
theorem dX6_step_9 : decode cX6_step 9 = .ok (.iload 4, 2) := by decide +kernel
theorem dX6_step_11 : decode cX6_step 11 = .ok (.invokevirtual 50, 3) := by decide +kernel
theorem dX6_step_14 : decode cX6_step 14 = .ok (.invokevirtual 54, 3) := by decide +kernel
theorem dX6_step_17 : decode cX6_step 17 = .ok (.ireturn, 1) := by decide +kernel
theorem dcX6_step : yX6_step.cls = RX6 ∧ yX6_step.cls ≠ "java/lang/invoke/MethodHandle" ∧ yX6_step.cls ≠ "java/lang/invoke/VarHandle" ∧ (parseMethodDescriptor yX6_step.desc).map (fun d => d.parameters.length) = some 4 := by decide +kernel
theorem gX6_step_1 : GoodIn wsL_law (wsV RX6 47 RX6 yX6_markBefore (.code yX6_markBefore cX6_markBefore 1 none :: wsL_law)) := g_V q123 q124 q125 q2 q126
theorem gX6_step_11 : GoodIn wsL_law (wsV RX6 50 RX6 yX6_tellStep (.code yX6_tellStep cX6_tellStep 5 (some .int) :: wsL_law)) := g_V q282 q283 q284 q2 q285
theorem gX6_step_14 : GoodIn wsL_law (wsV RX6 54 RX6 yX6_keepChange (.code yX6_keepChange cX6_keepChange 2 (some .int) :: wsL_law)) := g_V q135 q136 q137 q2 q138
set_option maxRecDepth 100000 in
set_option maxHeartbeats 4000000 in
theorem K_step {cA : Nat → ClassId} {ad : tA} {ex : va_W} {M : tM} {F P : tP} {d m b : Int32} {a : Bool} (hm : okm F) (hoc : okc P) (hob : okb P) (ho : oke P) (hoh : okh P) (hon : okn P) : Cj yX6_step cX6_step 5 (some .int) (rmd 6) 0 0 cA ad [.ref (ad 0 0), .int d, .int m, .int b, .int (bI a)] ex (mm M F P) (Qe (some (.int (t_step F P d m b (bI a)).1)) ex (mm (c_mark M F P) (f_keep (t_step F P d m b (bI a)).2.1 (t_step F P d m b (bI a)).1) (t_step F P d m b (bI a)).2.2)) := by
  refine c_of_r (lv0 := [some (.ref (ad 0 0)), some (.int d), some (.int m), some (.int b), some (.int (bI a))]) rfl (by decide +kernel) (Nat.le_of_ble_eq_true rfl) rfl ?_
  refine r_aload_n dX6_step_0 rfl ?_
  refine r_cVv dX6_step_1 (K_mark hm hoc hob) gX6_step_1 dcX6_markBefore rfl rfl rfl (Nat.le_of_ble_eq_true rfl) ob_tf ?_
  refine r_aload_n dX6_step_4 rfl ?_
  refine r_aload_n dX6_step_5 rfl ?_
  refine r_iload_n dX6_step_6 rfl ?_
  refine r_iload_n dX6_step_7 rfl ?_
  refine r_iload_n dX6_step_8 rfl ?_
  refine r_iload dX6_step_9 rfl ?_
  refine r_cVi dX6_step_11 (K_tstep hoc ho) gX6_step_11 dcX6_tellStep rfl rfl rfl (Nat.le_of_ble_eq_true rfl) ob_tf ?_
  refine r_cVi dX6_step_14 (K_keep) gX6_step_14 dcX6_keepChange rfl rfl rfl (Nat.le_of_ble_eq_true rfl) ob_tf ?_
  exact r_ret rfl rfl dX6_step_17 rfl rfl
theorem dX6_need_0 : decode cX6_need 0 = .ok (.aload_n 0, 1) := by decide +kernel
theorem dX6_need_1 : decode cX6_need 1 = .ok (.invokevirtual 47, 3) := by decide +kernel
theorem dX6_need_4 : decode cX6_need 4 = .ok (.aload_n 0, 1) := by decide +kernel
theorem dX6_need_5 : decode cX6_need 5 = .ok (.aload_n 0, 1) := by decide +kernel
theorem dX6_need_6 : decode cX6_need 6 = .ok (.iload_n 1, 1) := by decide +kernel
theorem dX6_need_7 : decode cX6_need 7 = .ok (.iload_n 2, 1) := by decide +kernel
theorem dX6_need_8 : decode cX6_need 8 = .ok (.invokevirtual 58, 3) := by decide +kernel
theorem dX6_need_11 : decode cX6_need 11 = .ok (.invokevirtual 54, 3) := by decide +kernel
theorem dX6_need_14 : decode cX6_need 14 = .ok (.ireturn, 1) := by decide +kernel
theorem dcX6_need : yX6_need.cls = RX6 ∧ yX6_need.cls ≠ "java/lang/invoke/MethodHandle" ∧ yX6_need.cls ≠ "java/lang/invoke/VarHandle" ∧ (parseMethodDescriptor yX6_need.desc).map (fun d => d.parameters.length) = some 2 := by decide +kernel
theorem gX6_need_1 : GoodIn wsL_law (wsV RX6 47 RX6 yX6_markBefore (.code yX6_markBefore cX6_markBefore 1 none :: wsL_law)) := g_V q123 q124 q125 q2 q126
theorem gX6_need_8 : GoodIn wsL_law (wsV RX6 58 RX6 yX6_tellNeed (.code yX6_tellNeed cX6_tellNeed 4 (some .int) :: wsL_law)) := g_V q310 q311 q312 q2 q313
theorem gX6_need_11 : GoodIn wsL_law (wsV RX6 54 RX6 yX6_keepChange (.code yX6_keepChange cX6_keepChange 2 (some .int) :: wsL_law)) := g_V q135 q136 q137 q2 q138
set_option maxRecDepth 100000 in
set_option maxHeartbeats 4000000 in
theorem K_need {cA : Nat → ClassId} {ad : tA} {ex : va_W} {M : tM} {F P : tP} {s x : Int32} (hm : okm F) (hoc : okc P) (hob : okb P) (ho : oke P) (hoh : okh P) (hon : okn P) : Cj yX6_need cX6_need 3 (some .int) (rmd 6) 0 0 cA ad [.ref (ad 0 0), .int s, .int x] ex (mm M F P) (Qe (some (.int (t_need F P s x).1)) ex (mm (c_mark M F P) (f_keep (t_need F P s x).2.1 (t_need F P s x).1) (t_need F P s x).2.2)) := by
  refine c_of_r (lv0 := [some (.ref (ad 0 0)), some (.int s), some (.int x)]) rfl (by decide +kernel) (Nat.le_of_ble_eq_true rfl) rfl ?_
  refine r_aload_n dX6_need_0 rfl ?_
  refine r_cVv dX6_need_1 (K_mark hm hoc hob) gX6_need_1 dcX6_markBefore rfl rfl rfl (Nat.le_of_ble_eq_true rfl) ob_tf ?_
  refine r_aload_n dX6_need_4 rfl ?_
  refine r_aload_n dX6_need_5 rfl ?_
  refine r_iload_n dX6_need_6 rfl ?_
  refine r_iload_n dX6_need_7 rfl ?_
  refine r_cVi dX6_need_8 (K_tneed hoc) gX6_need_8 dcX6_tellNeed rfl rfl rfl (Nat.le_of_ble_eq_true rfl) ob_tf ?_
  refine r_cVi dX6_need_11 (K_keep) gX6_need_11 dcX6_keepChange rfl rfl rfl (Nat.le_of_ble_eq_true rfl) ob_tf ?_
  exact r_ret rfl rfl dX6_need_14 rfl rfl
theorem dX6_fault_0 : decode cX6_fault 0 = .ok (.aload_n 0, 1) := by decide +kernel
theorem dX6_fault_1 : decode cX6_fault 1 = .ok (.invokevirtual 47, 3) := by decide +kernel
theorem dX6_fault_4 : decode cX6_fault 4 = .ok (.aload_n 0, 1) := by decide +kernel
theorem dX6_fault_5 : decode cX6_fault 5 = .ok (.aload_n 0, 1) := by decide +kernel
theorem dX6_fault_6 : decode cX6_fault 6 = .ok (.iload_n 1, 1) := by decide +kernel
theorem dX6_fault_7 : decode cX6_fault 7 = .ok (.iload_n 2, 1) := by decide +kernel
theorem dX6_fault_8 : decode cX6_fault 8 = .ok (.invokevirtual 62, 3) := by decide +kernel
theorem dX6_fault_11 : decode cX6_fault 11 = .ok (.invokevirtual 54, 3) := by decide +kernel
theorem dX6_fault_14 : decode cX6_fault 14 = .ok (.ireturn, 1) := by decide +kernel
theorem dcX6_fault : yX6_fault.cls = RX6 ∧ yX6_fault.cls ≠ "java/lang/invoke/MethodHandle" ∧ yX6_fault.cls ≠ "java/lang/invoke/VarHandle" ∧ (parseMethodDescriptor yX6_fault.desc).map (fun d => d.parameters.length) = some 2 := by decide +kernel
theorem gX6_fault_1 : GoodIn wsL_law (wsV RX6 47 RX6 yX6_markBefore (.code yX6_markBefore cX6_markBefore 1 none :: wsL_law)) := g_V q123 q124 q125 q2 q126
theorem gX6_fault_8 : GoodIn wsL_law (wsV RX6 62 RX6 yX6_tellFault (.code yX6_tellFault cX6_tellFault 4 (some .int) :: wsL_law)) := g_V q327 q328 q329 q2 q330
theorem gX6_fault_11 : GoodIn wsL_law (wsV RX6 54 RX6 yX6_keepChange (.code yX6_keepChange cX6_keepChange 2 (some .int) :: wsL_law)) := g_V q135 q136 q137 q2 q138
set_option maxRecDepth 100000 in
set_option maxHeartbeats 4000000 in
theorem K_fault {cA : Nat → ClassId} {ad : tA} {ex : va_W} {M : tM} {F P : tP} {s x : Int32} (hm : okm F) (hoc : okc P) (hob : okb P) (ho : oke P) (hoh : okh P) (hon : okn P) : Cj yX6_fault cX6_fault 3 (some .int) (rmd 6) 0 0 cA ad [.ref (ad 0 0), .int s, .int x] ex (mm M F P) (Qe (some (.int (t_fault F P s x).1)) ex (mm (c_mark M F P) (f_keep (t_fault F P s x).2.1 (t_fault F P s x).1) (t_fault F P s x).2.2)) := by
  refine c_of_r (lv0 := [some (.ref (ad 0 0)), some (.int s), some (.int x)]) rfl (by decide +kernel) (Nat.le_of_ble_eq_true rfl) rfl ?_
  refine r_aload_n dX6_fault_0 rfl ?_
  refine r_cVv dX6_fault_1 (K_mark hm hoc hob) gX6_fault_1 dcX6_markBefore rfl rfl rfl (Nat.le_of_ble_eq_true rfl) ob_tf ?_
  refine r_aload_n dX6_fault_4 rfl ?_
  refine r_aload_n dX6_fault_5 rfl ?_
  refine r_iload_n dX6_fault_6 rfl ?_
  refine r_iload_n dX6_fault_7 rfl ?_
  refine r_cVi dX6_fault_8 (K_tfault hoc) gX6_fault_8 dcX6_tellFault rfl rfl rfl (Nat.le_of_ble_eq_true rfl) ob_tf ?_
  refine r_cVi dX6_fault_11 (K_keep) gX6_fault_11 dcX6_keepChange rfl rfl rfl (Nat.le_of_ble_eq_true rfl) ob_tf ?_
  exact r_ret rfl rfl dX6_fault_14 rfl rfl
theorem dX6_hands_0 : decode cX6_hands 0 = .ok (.aload_n 0, 1) := by decide +kernel
theorem dX6_hands_1 : decode cX6_hands 1 = .ok (.invokevirtual 47, 3) := by decide +kernel
theorem dX6_hands_4 : decode cX6_hands 4 = .ok (.aload_n 0, 1) := by decide +kernel
theorem dX6_hands_5 : decode cX6_hands 5 = .ok (.aload_n 0, 1) := by decide +kernel
theorem dX6_hands_6 : decode cX6_hands 6 = .ok (.iload_n 1, 1) := by decide +kernel
theorem dX6_hands_7 : decode cX6_hands 7 = .ok (.invokevirtual 65, 3) := by decide +kernel
theorem dX6_hands_10 : decode cX6_hands 10 = .ok (.invokevirtual 54, 3) := by decide +kernel
theorem dX6_hands_13 : decode cX6_hands 13 = .ok (.ireturn, 1) := by decide +kernel
theorem dcX6_hands : yX6_hands.cls = RX6 ∧ yX6_hands.cls ≠ "java/lang/invoke/MethodHandle" ∧ yX6_hands.cls ≠ "java/lang/invoke/VarHandle" ∧ (parseMethodDescriptor yX6_hands.desc).map (fun d => d.parameters.length) = some 1 := by decide +kernel
theorem gX6_hands_1 : GoodIn wsL_law (wsV RX6 47 RX6 yX6_markBefore (.code yX6_markBefore cX6_markBefore 1 none :: wsL_law)) := g_V q123 q124 q125 q2 q126
theorem gX6_hands_7 : GoodIn wsL_law (wsV RX6 65 RX6 yX6_setHands (.code yX6_setHands cX6_setHands 3 (some .int) :: wsL_law)) := g_V q127 q128 q129 q2 q130
theorem gX6_hands_10 : GoodIn wsL_law (wsV RX6 54 RX6 yX6_keepChange (.code yX6_keepChange cX6_keepChange 2 (some .int) :: wsL_law)) := g_V q135 q136 q137 q2 q138
set_option maxRecDepth 100000 in
set_option maxHeartbeats 4000000 in
theorem K_hands {cA : Nat → ClassId} {ad : tA} {ex : va_W} {M : tM} {F P : tP} {x : Int32} (hm : okm F) (hoc : okc P) (hob : okb P) (ho : oke P) (hoh : okh P) (hon : okn P) : Cj yX6_hands cX6_hands 2 (some .int) (rmd 6) 0 0 cA ad [.ref (ad 0 0), .int x] ex (mm M F P) (Qe (some (.int (t_hands F P x).1)) ex (mm (c_mark M F P) (f_keep (t_hands F P x).2.1 (t_hands F P x).1) (t_hands F P x).2.2)) := by
  refine c_of_r (lv0 := [some (.ref (ad 0 0)), some (.int x)]) rfl (by decide +kernel) (Nat.le_of_ble_eq_true rfl) rfl ?_
  refine r_aload_n dX6_hands_0 rfl ?_
  refine r_cVv dX6_hands_1 (K_mark hm hoc hob) gX6_hands_1 dcX6_markBefore rfl rfl rfl (Nat.le_of_ble_eq_true rfl) ob_tf ?_
  refine r_aload_n dX6_hands_4 rfl ?_
  refine r_aload_n dX6_hands_5 rfl ?_
  refine r_iload_n dX6_hands_6 rfl ?_
  refine r_cVi dX6_hands_7 (K_thands) gX6_hands_7 dcX6_setHands rfl rfl rfl (Nat.le_of_ble_eq_true rfl) ob_tf ?_
  refine r_cVi dX6_hands_10 (K_keep) gX6_hands_10 dcX6_keepChange rfl rfl rfl (Nat.le_of_ble_eq_true rfl) ob_tf ?_
  exact r_ret rfl rfl dX6_hands_13 rfl rfl
theorem dX6_cancel_0 : decode cX6_cancel 0 = .ok (.aload_n 0, 1) := by decide +kernel
theorem dX6_cancel_1 : decode cX6_cancel 1 = .ok (.invokevirtual 47, 3) := by decide +kernel
theorem dX6_cancel_4 : decode cX6_cancel 4 = .ok (.aload_n 0, 1) := by decide +kernel
theorem dX6_cancel_5 : decode cX6_cancel 5 = .ok (.aload_n 0, 1) := by decide +kernel
theorem dX6_cancel_6 : decode cX6_cancel 6 = .ok (.iload_n 1, 1) := by decide +kernel
theorem dX6_cancel_7 : decode cX6_cancel 7 = .ok (.invokevirtual 68, 3) := by decide +kernel
theorem dX6_cancel_10 : decode cX6_cancel 10 = .ok (.invokevirtual 54, 3) := by decide +kernel
theorem dX6_cancel_13 : decode cX6_cancel 13 = .ok (.ireturn, 1) := by decide +kernel
theorem dcX6_cancel : yX6_cancel.cls = RX6 ∧ yX6_cancel.cls ≠ "java/lang/invoke/MethodHandle" ∧ yX6_cancel.cls ≠ "java/lang/invoke/VarHandle" ∧ (parseMethodDescriptor yX6_cancel.desc).map (fun d => d.parameters.length) = some 1 := by decide +kernel
theorem gX6_cancel_1 : GoodIn wsL_law (wsV RX6 47 RX6 yX6_markBefore (.code yX6_markBefore cX6_markBefore 1 none :: wsL_law)) := g_V q123 q124 q125 q2 q126
theorem gX6_cancel_7 : GoodIn wsL_law (wsV RX6 68 RX6 yX6_tellCancel (.code yX6_tellCancel cX6_tellCancel 2 (some .int) :: wsL_law)) := g_V q336 q337 q338 q2 q339
theorem gX6_cancel_10 : GoodIn wsL_law (wsV RX6 54 RX6 yX6_keepChange (.code yX6_keepChange cX6_keepChange 2 (some .int) :: wsL_law)) := g_V q135 q136 q137 q2 q138
set_option maxRecDepth 100000 in
set_option maxHeartbeats 4000000 in
theorem K_cancel {cA : Nat → ClassId} {ad : tA} {ex : va_W} {M : tM} {F P : tP} {x : Int32} (hm : okm F) (hoc : okc P) (hob : okb P) (ho : oke P) (hoh : okh P) (hon : okn P) : Cj yX6_cancel cX6_cancel 2 (some .int) (rmd 6) 0 0 cA ad [.ref (ad 0 0), .int x] ex (mm M F P) (Qe (some (.int (t_cancel F P x).1)) ex (mm (c_mark M F P) (f_keep (t_cancel F P x).2.1 (t_cancel F P x).1) (t_cancel F P x).2.2)) := by
  refine c_of_r (lv0 := [some (.ref (ad 0 0)), some (.int x)]) rfl (by decide +kernel) (Nat.le_of_ble_eq_true rfl) rfl ?_
  refine r_aload_n dX6_cancel_0 rfl ?_
  refine r_cVv dX6_cancel_1 (K_mark hm hoc hob) gX6_cancel_1 dcX6_markBefore rfl rfl rfl (Nat.le_of_ble_eq_true rfl) ob_tf ?_
  refine r_aload_n dX6_cancel_4 rfl ?_
  refine r_aload_n dX6_cancel_5 rfl ?_
  refine r_iload_n dX6_cancel_6 rfl ?_
  refine r_cVi dX6_cancel_7 (K_tcancel hoc ho) gX6_cancel_7 dcX6_tellCancel rfl rfl rfl (Nat.le_of_ble_eq_true rfl) ob_tf ?_
  refine r_cVi dX6_cancel_10 (K_keep) gX6_cancel_10 dcX6_keepChange rfl rfl rfl (Nat.le_of_ble_eq_true rfl) ob_tf ?_
  exact r_ret rfl rfl dX6_cancel_13 rfl rfl
theorem dX6_milestone_0 : decode cX6_milestone 0 = .ok (.aload_n 0, 1) := by decide +kernel
theorem dX6_milestone_1 : decode cX6_milestone 1 = .ok (.invokevirtual 47, 3) := by decide +kernel
theorem dX6_milestone_4 : decode cX6_milestone 4 = .ok (.aload_n 0, 1) := by decide +kernel
theorem dX6_milestone_5 : decode cX6_milestone 5 = .ok (.aload_n 0, 1) := by decide +kernel
theorem dX6_milestone_6 : decode cX6_milestone 6 = .ok (.iload_n 1, 1) := by decide +kernel
theorem dX6_milestone_7 : decode cX6_milestone 7 = .ok (.iload_n 2, 1) := by decide +kernel
theorem dX6_milestone_8 : decode cX6_milestone 8 = .ok (.invokevirtual 71, 3) := by decide +kernel
theorem dX6_milestone_11 : decode cX6_milestone 11 = .ok (.invokevirtual 54, 3) := by decide +kernel
theorem dX6_milestone_14 : decode cX6_milestone 14 = .ok (.ireturn, 1) := by decide +kernel
theorem dcX6_milestone : yX6_milestone.cls = RX6 ∧ yX6_milestone.cls ≠ "java/lang/invoke/MethodHandle" ∧ yX6_milestone.cls ≠ "java/lang/invoke/VarHandle" ∧ (parseMethodDescriptor yX6_milestone.desc).map (fun d => d.parameters.length) = some 2 := by decide +kernel
theorem gX6_milestone_1 : GoodIn wsL_law (wsV RX6 47 RX6 yX6_markBefore (.code yX6_markBefore cX6_markBefore 1 none :: wsL_law)) := g_V q123 q124 q125 q2 q126
theorem gX6_milestone_8 : GoodIn wsL_law (wsV RX6 71 RX6 yX6_tellMilestone (.code yX6_tellMilestone cX6_tellMilestone 4 (some .int) :: wsL_law)) := g_V q348 q349 q350 q2 q351
theorem gX6_milestone_11 : GoodIn wsL_law (wsV RX6 54 RX6 yX6_keepChange (.code yX6_keepChange cX6_keepChange 2 (some .int) :: wsL_law)) := g_V q135 q136 q137 q2 q138
set_option maxRecDepth 100000 in
set_option maxHeartbeats 4000000 in
theorem K_mile {cA : Nat → ClassId} {ad : tA} {ex : va_W} {M : tM} {F P : tP} {s x : Int32} (hm : okm F) (hoc : okc P) (hob : okb P) (ho : oke P) (hoh : okh P) (hon : okn P) : Cj yX6_milestone cX6_milestone 3 (some .int) (rmd 6) 0 0 cA ad [.ref (ad 0 0), .int s, .int x] ex (mm M F P) (Qe (some (.int (t_mile F P s x).1)) ex (mm (c_mark M F P) (f_keep (t_mile F P s x).2.1 (t_mile F P s x).1) (t_mile F P s x).2.2)) := by
  refine c_of_r (lv0 := [some (.ref (ad 0 0)), some (.int s), some (.int x)]) rfl (by decide +kernel) (Nat.le_of_ble_eq_true rfl) rfl ?_
  refine r_aload_n dX6_milestone_0 rfl ?_
  refine r_cVv dX6_milestone_1 (K_mark hm hoc hob) gX6_milestone_1 dcX6_markBefore rfl rfl rfl (Nat.le_of_ble_eq_true rfl) ob_tf ?_
  refine r_aload_n dX6_milestone_4 rfl ?_
  refine r_aload_n dX6_milestone_5 rfl ?_
  refine r_iload_n dX6_milestone_6 rfl ?_
  refine r_iload_n dX6_milestone_7 rfl ?_
  refine r_cVi dX6_milestone_8 (K_tmile hoc hon) gX6_milestone_8 dcX6_tellMilestone rfl rfl rfl (Nat.le_of_ble_eq_true rfl) ob_tf ?_
  refine r_cVi dX6_milestone_11 (K_keep) gX6_milestone_11 dcX6_keepChange rfl rfl rfl (Nat.le_of_ble_eq_true rfl) ob_tf ?_
  exact r_ret rfl rfl dX6_milestone_14 rfl rfl
theorem dX6_days_0 : decode cX6_days 0 = .ok (.aload_n 0, 1) := by decide +kernel
theorem dX6_days_1 : decode cX6_days 1 = .ok (.invokevirtual 47, 3) := by decide +kernel
theorem dX6_days_4 : decode cX6_days 4 = .ok (.aload_n 0, 1) := by decide +kernel
theorem dX6_days_5 : decode cX6_days 5 = .ok (.aload_n 0, 1) := by decide +kernel
theorem dX6_days_6 : decode cX6_days 6 = .ok (.iload_n 1, 1) := by decide +kernel
theorem dX6_days_7 : decode cX6_days 7 = .ok (.invokevirtual 74, 3) := by decide +kernel
theorem dX6_days_10 : decode cX6_days 10 = .ok (.invokevirtual 54, 3) := by decide +kernel
theorem dX6_days_13 : decode cX6_days 13 = .ok (.ireturn, 1) := by decide +kernel
theorem dcX6_days : yX6_days.cls = RX6 ∧ yX6_days.cls ≠ "java/lang/invoke/MethodHandle" ∧ yX6_days.cls ≠ "java/lang/invoke/VarHandle" ∧ (parseMethodDescriptor yX6_days.desc).map (fun d => d.parameters.length) = some 1 := by decide +kernel
theorem gX6_days_1 : GoodIn wsL_law (wsV RX6 47 RX6 yX6_markBefore (.code yX6_markBefore cX6_markBefore 1 none :: wsL_law)) := g_V q123 q124 q125 q2 q126
theorem gX6_days_7 : GoodIn wsL_law (wsV RX6 74 RX6 yX6_letDaysGo (.code yX6_letDaysGo cX6_letDaysGo 4 (some .int) :: wsL_law)) := g_V q358 q359 q360 q2 q361
theorem gX6_days_10 : GoodIn wsL_law (wsV RX6 54 RX6 yX6_keepChange (.code yX6_keepChange cX6_keepChange 2 (some .int) :: wsL_law)) := g_V q135 q136 q137 q2 q138
set_option maxRecDepth 100000 in
set_option maxHeartbeats 4000000 in
theorem K_days {cA : Nat → ClassId} {ad : tA} {ex : va_W} {M : tM} {F P : tP} {x : Int32} (hm : okm F) (hoc : okc P) (hob : okb P) (ho : oke P) (hoh : okh P) (hon : okn P) : Cj yX6_days cX6_days 2 (some .int) (rmd 6) 0 0 cA ad [.ref (ad 0 0), .int x] ex (mm M F P) (Qe (some (.int (t_days F P x).1)) ex (mm (c_mark M F P) (f_keep (t_days F P x).2.1 (t_days F P x).1) (t_days F P x).2.2)) := by
  refine c_of_r (lv0 := [some (.ref (ad 0 0)), some (.int x)]) rfl (by decide +kernel) (Nat.le_of_ble_eq_true rfl) rfl ?_
  refine r_aload_n dX6_days_0 rfl ?_
  refine r_cVv dX6_days_1 (K_mark hm hoc hob) gX6_days_1 dcX6_markBefore rfl rfl rfl (Nat.le_of_ble_eq_true rfl) ob_tf ?_
  refine r_aload_n dX6_days_4 rfl ?_
  refine r_aload_n dX6_days_5 rfl ?_
  refine r_iload_n dX6_days_6 rfl ?_
  refine r_cVi dX6_days_7 (K_tdays hoc ho hoh) gX6_days_7 dcX6_letDaysGo rfl rfl rfl (Nat.le_of_ble_eq_true rfl) ob_tf ?_
  refine r_cVi dX6_days_10 (K_keep) gX6_days_10 dcX6_keepChange rfl rfl rfl (Nat.le_of_ble_eq_true rfl) ob_tf ?_
  exact r_ret rfl rfl dX6_days_13 rfl rfl
def f_app (T : tP) (x : Int32) : Int32 × tP := if x < 32 ∨ 126 < x then (-12, T) else if T 0 1 < 60 then (f_as T (c16 x) 0 1, f_as T (c16 x)) else (-13, T)
theorem a_a {q : Int32 × tP} {x : Int32} {T : tP} (h : q = (x, T)) : x = q.1 := by rw [h]
theorem a_m {M : tM} {F P : tP} {r : Nat} {q : Int32 × tP} {x : Int32} (hr : 2 ≤ r) (h : q = (x, M r)) : mm M F P = mm (m_pl M r q.2) F P := by rw [h, m_pl_self]
theorem lt60 {T : tP} (h1 : T 0 1 = nI (tl T)) (h3 : tl T ≤ 60) (h2 : T 0 1 < 60) : tl T < 60 := by
  rw [h1] at h2
  exact (nI_ltI (b := 60) (by omega) (by omega)).mp h2
theorem dX6_append_0 : decode cX6_append 0 = .ok (.iload_n 1, 1) := by decide +kernel
theorem dX6_append_1 : decode cX6_append 1 = .ok (.bipush 32, 2) := by decide +kernel
theorem dX6_append_3 : decode cX6_append 3 = .ok (.if_icmp .lt 9, 3) := by decide +kernel
theorem dX6_append_6 : decode cX6_append 6 = .ok (.iload_n 1, 1) := by decide +kernel
theorem dX6_append_7 : decode cX6_append 7 = .ok (.bipush 126, 2) := by decide +kernel
theorem dX6_append_9 : decode cX6_append 9 = .ok (.if_icmp .le 6, 3) := by decide +kernel
theorem dX6_append_12 : decode cX6_append 12 = .ok (.bipush (-12), 2) := by decide +kernel
theorem dX6_append_14 : decode cX6_append 14 = .ok (.ireturn, 1) := by decide +kernel
theorem dX6_append_15 : decode cX6_append 15 = .ok (.aload_n 0, 1) := by decide +kernel
theorem dX6_append_16 : decode cX6_append 16 = .ok (.getfield 29, 3) := by decide +kernel
theorem dX6_append_19 : decode cX6_append 19 = .ok (.getfield 176, 3) := by decide +kernel
theorem dX6_append_22 : decode cX6_append 22 = .ok (.bipush 60, 2) := by decide +kernel
theorem dX6_append_24 : decode cX6_append 24 = .ok (.if_icmp .lt 6, 3) := by decide +kernel
theorem dX6_append_27 : decode cX6_append 27 = .ok (.bipush (-13), 2) := by decide +kernel
theorem dX6_append_29 : decode cX6_append 29 = .ok (.ireturn, 1) := by decide +kernel
theorem dX6_append_30 : decode cX6_append 30 = .ok (.aload_n 0, 1) := by decide +kernel
theorem dX6_append_31 : decode cX6_append 31 = .ok (.getfield 29, 3) := by decide +kernel
theorem dX6_append_34 : decode cX6_append 34 = .ok (.iload_n 1, 1) := by decide +kernel
theorem dX6_append_35 : decode cX6_append 35 = .ok (.i2c, 1) := by decide +kernel
theorem dX6_append_36 : decode cX6_append 36 = .ok (.invokevirtual 179, 3) := by decide +kernel
theorem dX6_append_39 : decode cX6_append 39 = .ok (.aload_n 0, 1) := by decide +kernel
theorem dX6_append_40 : decode cX6_append 40 = .ok (.getfield 29, 3) := by decide +kernel
theorem dX6_append_43 : decode cX6_append 43 = .ok (.getfield 176, 3) := by decide +kernel
theorem dX6_append_46 : decode cX6_append 46 = .ok (.ireturn, 1) := by decide +kernel
theorem dcX6_append : yX6_append.cls = RX6 ∧ yX6_append.cls ≠ "java/lang/invoke/MethodHandle" ∧ yX6_append.cls ≠ "java/lang/invoke/VarHandle" ∧ (parseMethodDescriptor yX6_append.desc).map (fun d => d.parameters.length) = some 1 := by decide +kernel
theorem gX6_append_36 : GoodIn wsL_law (wsV RX6 179 RX3 yX3_addSign (.code yX3_addSign cX3_addSign 2 none :: wsL_law)) := g_V q144 q145 q146 q23 q147
set_option maxRecDepth 100000 in
set_option maxHeartbeats 4000000 in
theorem K_app {cA : Nat → ClassId} {ad : tA} {ex : va_W} {M : tM} {F P : tP} {x : Int32} (hl1 : M 13 0 1 = nI (tl (M 13))) (hl2 : tl (M 13) ≤ 60) : Cj yX6_append cX6_append 2 (some .int) (rmd 1) 0 0 cA ad [.ref (ad 0 0), .int x] ex (mm M F P) (Qe (some (.int (f_app (M 13) x).1)) ex (mm (m_pl M 13 (f_app (M 13) x).2) F P)) := by
  refine c_of_r (lv0 := [some (.ref (ad 0 0)), some (.int x)]) rfl (by decide +kernel) (Nat.le_of_ble_eq_true rfl) rfl ?_
  refine r_iload_n dX6_append_0 rfl ?_
  refine r_bipush (v := 32) dX6_append_1 (by decide) ?_
  refine r_icmp_lt (tgt := 12) dX6_append_3 (by decide) (fun c3 => ?_) (fun c3 => ?_)
  · refine r_bipush (v := -12) dX6_append_12 (by decide) ?_
    first | exact r_ret rfl rfl dX6_append_14 (a_a (show f_app (M 13) x = _ from if_pos (Or.inl c3))) (a_m (by omega) (show f_app (M 13) x = _ from if_pos (Or.inl c3))) | exact r_ret rfl rfl dX6_append_14 (a_a (show f_app (M 13) x = _ from if_pos (Or.inr (Int32.not_le.mp c9)))) (a_m (by omega) (show f_app (M 13) x = _ from if_pos (Or.inr (Int32.not_le.mp c9))))
  · refine r_iload_n dX6_append_6 rfl ?_
    refine r_bipush (v := 126) dX6_append_7 (by decide) ?_
    refine r_icmp_le (tgt := 15) dX6_append_9 (by decide) (fun c9 => ?_) (fun c9 => ?_)
    · refine r_aload_n dX6_append_15 rfl ?_
      refine r_getF 7 (by decide) q24 rfl dX6_append_16 ?_
      refine r_getm_ot 1 (by decide) q143 rfl dX6_append_19 ?_
      refine r_bipush (v := 60) dX6_append_22 (by decide) ?_
      refine r_icmp_lt (tgt := 30) dX6_append_24 (by decide) (fun c24 => ?_) (fun c24 => ?_)
      · refine r_aload_n dX6_append_30 rfl ?_
        refine r_getF 7 (by decide) q24 rfl dX6_append_31 ?_
        refine r_iload_n dX6_append_34 rfl ?_
        refine r_i2c dX6_append_35 rfl ?_
        refine r_cVv dX6_append_36 (cmm (by omega) rfl (K_as c16_x hl1 (lt60 hl1 hl2 c24))) gX6_append_36 dcX3_addSign rfl rfl rfl (Nat.le_of_ble_eq_true rfl) ob_ot ?_
        refine r_aload_n dX6_append_39 rfl ?_
        refine r_getF 7 (by decide) q24 rfl dX6_append_40 ?_
        refine r_getm_ot 1 (by decide) q143 rfl dX6_append_43 ?_
        exact r_ret rfl rfl dX6_append_46 (a_a (show f_app (M 13) x = _ from (if_neg (n2 c3 (Int32.not_lt.mpr c9))).trans (if_pos c24))) (by rw [show f_app (M 13) x = _ from (if_neg (n2 c3 (Int32.not_lt.mpr c9))).trans (if_pos c24)])
      · refine r_bipush (v := -13) dX6_append_27 (by decide) ?_
        exact r_ret rfl rfl dX6_append_29 (a_a (show f_app (M 13) x = _ from (if_neg (n2 c3 (Int32.not_lt.mpr c9))).trans (if_neg c24))) (a_m (by omega) (show f_app (M 13) x = _ from (if_neg (n2 c3 (Int32.not_lt.mpr c9))).trans (if_neg c24)))
    · refine r_bipush (v := -12) dX6_append_12 (by decide) ?_
      first | exact r_ret rfl rfl dX6_append_14 (a_a (show f_app (M 13) x = _ from if_pos (Or.inl c3))) (a_m (by omega) (show f_app (M 13) x = _ from if_pos (Or.inl c3))) | exact r_ret rfl rfl dX6_append_14 (a_a (show f_app (M 13) x = _ from if_pos (Or.inr (Int32.not_le.mp c9)))) (a_m (by omega) (show f_app (M 13) x = _ from if_pos (Or.inr (Int32.not_le.mp c9))))
def f_un1 (F : tP) : tP := pu F 0 5 ((F 0 5 + 9 - 1) - (F 0 5 + 9 - 1) / 9 * 9)
theorem un_ix {x : Int32} {e : Nat} (h : x = nI e) (h2 : e < 9) : (x + 9 - 1) - (x + 9 - 1) / 9 * 9 = nI ((e + 8) % 9) := by
  subst h
  rw [show nI e + 9 - 1 = nI (e + 8) from by rw [show nI e + 9 = nI (e + 9) from nI_add e 9]; exact nI_pred (e + 8)]
  exact pk_rem (d := 9) (by omega) (by omega) (by omega)
theorem un_km {F : tP} (h : okm F) : okm (f_un1 F) ∧ km (f_un1 F) = (km F + 8) % 9 := by
  have e : f_un1 F 0 5 = nI ((km F + 8) % 9) := by rw [f_un1, pu_s]; exact un_ix h.1 h.2
  have hlt : (km F + 8) % 9 < 9 := Nat.mod_lt _ (by omega)
  have e2 : km (f_un1 F) = (km F + 8) % 9 := by rw [km, e]; exact nI_clamp (by omega)
  exact ⟨⟨by rw [e2]; exact e, by rw [e2]; exact hlt⟩, e2⟩
def t_undo (M : tM) (F P : tP) : TX := if F 0 6 = 0 then (-15, F, P) else (f_un1 F 0 6 - 1, pu (f_un1 F) 0 6 (f_un1 F 0 6 - 1), f_copy P (M (4 + km (f_un1 F))))
def t_restore (M : tM) (F P : tP) : TX := if F 0 3 = 0 then (-15, F, P) else (f_copy P (M 3) 0 7, pu F 0 6 0, f_copy P (M 3))
def f_reason (F : tP) (x : Int32) : Int32 := if F 0 10 = 0 then -15 else if x = 0 then F 0 11 else F 0 12
theorem dX6_undo_0 : decode cX6_undo 0 = .ok (.aload_n 0, 1) := by decide +kernel
theorem dX6_undo_1 : decode cX6_undo 1 = .ok (.getfield 247, 3) := by decide +kernel
theorem dX6_undo_4 : decode cX6_undo 4 = .ok (.ifCond .ne 6, 3) := by decide +kernel
theorem dX6_undo_7 : decode cX6_undo 7 = .ok (.bipush (-15), 2) := by decide +kernel
theorem dX6_undo_9 : decode cX6_undo 9 = .ok (.ireturn, 1) := by decide +kernel
theorem dX6_undo_10 : decode cX6_undo 10 = .ok (.aload_n 0, 1) := by decide +kernel
theorem dX6_undo_11 : decode cX6_undo 11 = .ok (.aload_n 0, 1) := by decide +kernel
theorem dX6_undo_12 : decode cX6_undo 12 = .ok (.getfield 198, 3) := by decide +kernel
theorem dX6_undo_15 : decode cX6_undo 15 = .ok (.bipush 9, 2) := by decide +kernel
theorem dX6_undo_17 : decode cX6_undo 17 = .ok (.iadd, 1) := by decide +kernel
theorem dX6_undo_18 : decode cX6_undo 18 = .ok (.iconst 1, 1) := by decide +kernel
theorem dX6_undo_19 : decode cX6_undo 19 = .ok (.isub, 1) := by decide +kernel
theorem dX6_undo_20 : decode cX6_undo 20 = .ok (.bipush 9, 2) := by decide +kernel
theorem dX6_undo_22 : decode cX6_undo 22 = .ok (.irem, 1) := by decide +kernel
theorem dX6_undo_23 : decode cX6_undo 23 = .ok (.putfield 198, 3) := by decide +kernel
theorem dX6_undo_26 : decode cX6_undo 26 = .ok (.aload_n 0, 1) := by decide +kernel
theorem dX6_undo_27 : decode cX6_undo 27 = .ok (.getfield 12, 3) := by decide +kernel
theorem dX6_undo_30 : decode cX6_undo 30 = .ok (.aload_n 0, 1) := by decide +kernel
theorem dX6_undo_31 : decode cX6_undo 31 = .ok (.getfield 22, 3) := by decide +kernel
theorem dX6_undo_34 : decode cX6_undo 34 = .ok (.aload_n 0, 1) := by decide +kernel
theorem dX6_undo_35 : decode cX6_undo 35 = .ok (.getfield 198, 3) := by decide +kernel
theorem dX6_undo_38 : decode cX6_undo 38 = .ok (.aaload, 1) := by decide +kernel
theorem dX6_undo_39 : decode cX6_undo 39 = .ok (.invokevirtual 139, 3) := by decide +kernel
theorem dX6_undo_42 : decode cX6_undo 42 = .ok (.aload_n 0, 1) := by decide +kernel
theorem dX6_undo_43 : decode cX6_undo 43 = .ok (.dup, 1) := by decide +kernel
theorem dX6_undo_44 : decode cX6_undo 44 = .ok (.getfield 247, 3) := by decide +kernel
theorem dX6_undo_47 : decode cX6_undo 47 = .ok (.iconst 1, 1) := by decide +kernel
theorem dX6_undo_48 : decode cX6_undo 48 = .ok (.isub, 1) := by decide +kernel
theorem dX6_undo_49 : decode cX6_undo 49 = .ok (.putfield 247, 3) := by decide +kernel
theorem dX6_undo_52 : decode cX6_undo 52 = .ok (.aload_n 0, 1) := by decide +kernel
theorem dX6_undo_53 : decode cX6_undo 53 = .ok (.getfield 247, 3) := by decide +kernel
theorem dX6_undo_56 : decode cX6_undo 56 = .ok (.ireturn, 1) := by decide +kernel
theorem dcX6_undo : yX6_undo.cls = RX6 ∧ yX6_undo.cls ≠ "java/lang/invoke/MethodHandle" ∧ yX6_undo.cls ≠ "java/lang/invoke/VarHandle" ∧ (parseMethodDescriptor yX6_undo.desc).map (fun d => d.parameters.length) = some 0 := by decide +kernel
theorem gX6_undo_39 : GoodIn wsL_law (wsV RX6 139 RX4 yX4_copyFrom (.code yX4_copyFrom cX4_copyFrom 3 none :: wsL_law)) := g_V q76 q77 q78 q16 q79
set_option maxRecDepth 100000 in
set_option maxHeartbeats 4000000 in
theorem K_undo {cA : Nat → ClassId} {ad : tA} {ex : va_W} {M : tM} {F P : tP} (hm : okm F) (hq : ∀ k, k < 9 → okc (M (4 + k)) ∧ okb (M (4 + k))) : Cj yX6_undo cX6_undo 1 (some .int) (rmd 2) 0 0 cA ad [.ref (ad 0 0)] ex (mm M F P) (Qe (some (.int (t_undo M F P).1)) ex (mm M (t_undo M F P).2.1 (t_undo M F P).2.2)) := by
  refine c_of_r (lv0 := [some (.ref (ad 0 0))]) rfl (by decide +kernel) (Nat.le_of_ble_eq_true rfl) rfl ?_
  have hu := (un_km hm).1
  refine r_aload_n dX6_undo_0 rfl ?_
  refine r_getF 6 (by decide) q74 rfl dX6_undo_1 ?_
  refine r_if_ne (tgt := 10) dX6_undo_4 (by decide) (fun c4 => ?_) (fun c4 => ?_)
  · refine r_aload_n dX6_undo_10 rfl ?_
    refine r_aload_n dX6_undo_11 rfl ?_
    refine r_getF 5 (by decide) q75 rfl dX6_undo_12 ?_
    refine r_bipush (v := 9) dX6_undo_15 (by decide) ?_
    refine r_iadd dX6_undo_17 ?_
    refine r_iconst (v := 1) dX6_undo_18 (by decide) ?_
    refine r_isub dX6_undo_19 ?_
    refine r_bipush (v := 9) dX6_undo_20 (by decide) ?_
    refine r_irem dX6_undo_22 (by decide) ?_
    refine r_putF 5 (by decide) q75 rfl rfl rfl rfl rfl dX6_undo_23 ?_
    refine r_aload_n dX6_undo_26 rfl ?_
    refine r_getF 0 (by decide) q17 rfl dX6_undo_27 ?_
    refine r_aload_n dX6_undo_30 rfl ?_
    refine r_getF 4 (by decide) q20 rfl dX6_undo_31 ?_
    refine r_aload_n dX6_undo_34 rfl ?_
    refine r_getF 5 (by decide) q75 rfl dX6_undo_35 ?_
    refine r_ald_marks hu.1 hu.2 dX6_undo_38 ?_
    refine r_cVv dX6_undo_39 (KC_to (isk hu.2) (by omega) (hq _ hu.2).1 (hq _ hu.2).2) gX6_undo_39 dcX4_copyFrom rfl rfl rfl (Nat.le_of_ble_eq_true rfl) (ob_pl is1) ?_
    refine r_aload_n dX6_undo_42 rfl ?_
    refine r_dup dX6_undo_43 rfl ?_
    refine r_getF 6 (by decide) q74 rfl dX6_undo_44 ?_
    refine r_iconst (v := 1) dX6_undo_47 (by decide) ?_
    refine r_isub dX6_undo_48 ?_
    refine r_putF 6 (by decide) q74 rfl rfl rfl rfl rfl dX6_undo_49 ?_
    refine r_aload_n dX6_undo_52 rfl ?_
    refine r_getF 6 (by decide) q74 rfl dX6_undo_53 ?_
    exact r_ret rfl rfl dX6_undo_56 (by rw [pu_s]; exact t_a (show t_undo M F P = _ from if_neg c4)) (t_m (show t_undo M F P = _ from if_neg c4))
  · refine r_bipush (v := -15) dX6_undo_7 (by decide) ?_
    first | exact r_ret rfl rfl dX6_undo_9 (t_a (show t_undo M F P = _ from if_pos c4)) (t_m (show t_undo M F P = _ from if_pos c4))
theorem dX6_save_0 : decode cX6_save 0 = .ok (.aload_n 0, 1) := by decide +kernel
theorem dX6_save_1 : decode cX6_save 1 = .ok (.getfield 19, 3) := by decide +kernel
theorem dX6_save_4 : decode cX6_save 4 = .ok (.aload_n 0, 1) := by decide +kernel
theorem dX6_save_5 : decode cX6_save 5 = .ok (.getfield 12, 3) := by decide +kernel
theorem dX6_save_8 : decode cX6_save 8 = .ok (.invokevirtual 139, 3) := by decide +kernel
theorem dX6_save_11 : decode cX6_save 11 = .ok (.aload_n 0, 1) := by decide +kernel
theorem dX6_save_12 : decode cX6_save 12 = .ok (.iconst 1, 1) := by decide +kernel
theorem dX6_save_13 : decode cX6_save 13 = .ok (.putfield 250, 3) := by decide +kernel
theorem dX6_save_16 : decode cX6_save 16 = .ok (.aload_n 0, 1) := by decide +kernel
theorem dX6_save_17 : decode cX6_save 17 = .ok (.getfield 12, 3) := by decide +kernel
theorem dX6_save_20 : decode cX6_save 20 = .ok (.getfield 226, 3) := by decide +kernel
theorem dX6_save_23 : decode cX6_save 23 = .ok (.ireturn, 1) := by decide +kernel
theorem dcX6_save : yX6_save.cls = RX6 ∧ yX6_save.cls ≠ "java/lang/invoke/MethodHandle" ∧ yX6_save.cls ≠ "java/lang/invoke/VarHandle" ∧ (parseMethodDescriptor yX6_save.desc).map (fun d => d.parameters.length) = some 0 := by decide +kernel
theorem gX6_save_8 : GoodIn wsL_law (wsV RX6 139 RX4 yX4_copyFrom (.code yX4_copyFrom cX4_copyFrom 3 none :: wsL_law)) := g_V q76 q77 q78 q16 q79
set_option maxRecDepth 100000 in
set_option maxHeartbeats 4000000 in
theorem K_save {cA : Nat → ClassId} {ad : tA} {ex : va_W} {M : tM} {F P : tP} (hoc : okc P) (hob : okb P) : Cj yX6_save cX6_save 1 (some .int) (rmd 2) 0 0 cA ad [.ref (ad 0 0)] ex (mm M F P) (Qe (some (.int (P 0 7))) ex (mm (m_pl M 3 (f_copy (M 3) P)) (pu F 0 3 1) P)) := by
  refine c_of_r (lv0 := [some (.ref (ad 0 0))]) rfl (by decide +kernel) (Nat.le_of_ble_eq_true rfl) rfl ?_
  refine r_aload_n dX6_save_0 rfl ?_
  refine r_getF 2 (by decide) q19 rfl dX6_save_1 ?_
  refine r_aload_n dX6_save_4 rfl ?_
  refine r_getF 0 (by decide) q17 rfl dX6_save_5 ?_
  refine r_cVv dX6_save_8 (KC_from is3 (by omega) hoc hob) gX6_save_8 dcX4_copyFrom rfl rfl rfl (Nat.le_of_ble_eq_true rfl) (ob_pl is3) ?_
  refine r_aload_n dX6_save_11 rfl ?_
  refine r_iconst (v := 1) dX6_save_12 (by decide) ?_
  refine r_putF 3 (by decide) q113 rfl rfl (by decide) (by decide) rfl dX6_save_13 ?_
  refine r_aload_n dX6_save_16 rfl ?_
  refine r_getF 0 (by decide) q17 rfl dX6_save_17 ?_
  refine r_getp_pl is1 7 (by decide) q114 rfl dX6_save_20 ?_
  exact r_ret rfl rfl dX6_save_23 rfl rfl
theorem dX6_restore_0 : decode cX6_restore 0 = .ok (.aload_n 0, 1) := by decide +kernel
theorem dX6_restore_1 : decode cX6_restore 1 = .ok (.getfield 250, 3) := by decide +kernel
theorem dX6_restore_4 : decode cX6_restore 4 = .ok (.ifCond .ne 6, 3) := by decide +kernel
theorem dX6_restore_7 : decode cX6_restore 7 = .ok (.bipush (-15), 2) := by decide +kernel
theorem dX6_restore_9 : decode cX6_restore 9 = .ok (.ireturn, 1) := by decide +kernel
theorem dX6_restore_10 : decode cX6_restore 10 = .ok (.aload_n 0, 1) := by decide +kernel
theorem dX6_restore_11 : decode cX6_restore 11 = .ok (.getfield 12, 3) := by decide +kernel
theorem dX6_restore_14 : decode cX6_restore 14 = .ok (.aload_n 0, 1) := by decide +kernel
theorem dX6_restore_15 : decode cX6_restore 15 = .ok (.getfield 19, 3) := by decide +kernel
theorem dX6_restore_18 : decode cX6_restore 18 = .ok (.invokevirtual 139, 3) := by decide +kernel
theorem dX6_restore_21 : decode cX6_restore 21 = .ok (.aload_n 0, 1) := by decide +kernel
theorem dX6_restore_22 : decode cX6_restore 22 = .ok (.iconst 0, 1) := by decide +kernel
theorem dX6_restore_23 : decode cX6_restore 23 = .ok (.putfield 247, 3) := by decide +kernel
theorem dX6_restore_26 : decode cX6_restore 26 = .ok (.aload_n 0, 1) := by decide +kernel
theorem dX6_restore_27 : decode cX6_restore 27 = .ok (.getfield 12, 3) := by decide +kernel
theorem dX6_restore_30 : decode cX6_restore 30 = .ok (.getfield 226, 3) := by decide +kernel
theorem dX6_restore_33 : decode cX6_restore 33 = .ok (.ireturn, 1) := by decide +kernel
theorem dcX6_restore : yX6_restore.cls = RX6 ∧ yX6_restore.cls ≠ "java/lang/invoke/MethodHandle" ∧ yX6_restore.cls ≠ "java/lang/invoke/VarHandle" ∧ (parseMethodDescriptor yX6_restore.desc).map (fun d => d.parameters.length) = some 0 := by decide +kernel
theorem gX6_restore_18 : GoodIn wsL_law (wsV RX6 139 RX4 yX4_copyFrom (.code yX4_copyFrom cX4_copyFrom 3 none :: wsL_law)) := g_V q76 q77 q78 q16 q79
set_option maxRecDepth 100000 in
set_option maxHeartbeats 4000000 in
theorem K_restore {cA : Nat → ClassId} {ad : tA} {ex : va_W} {M : tM} {F P : tP} (hs1 : okc (M 3)) (hs2 : okb (M 3)) : Cj yX6_restore cX6_restore 1 (some .int) (rmd 2) 0 0 cA ad [.ref (ad 0 0)] ex (mm M F P) (Qe (some (.int (t_restore M F P).1)) ex (mm M (t_restore M F P).2.1 (t_restore M F P).2.2)) := by
  refine c_of_r (lv0 := [some (.ref (ad 0 0))]) rfl (by decide +kernel) (Nat.le_of_ble_eq_true rfl) rfl ?_
  refine r_aload_n dX6_restore_0 rfl ?_
  refine r_getF 3 (by decide) q113 rfl dX6_restore_1 ?_
  refine r_if_ne (tgt := 10) dX6_restore_4 (by decide) (fun c4 => ?_) (fun c4 => ?_)
  · refine r_aload_n dX6_restore_10 rfl ?_
    refine r_getF 0 (by decide) q17 rfl dX6_restore_11 ?_
    refine r_aload_n dX6_restore_14 rfl ?_
    refine r_getF 2 (by decide) q19 rfl dX6_restore_15 ?_
    refine r_cVv dX6_restore_18 (KC_to is3 (by omega) hs1 hs2) gX6_restore_18 dcX4_copyFrom rfl rfl rfl (Nat.le_of_ble_eq_true rfl) (ob_pl is1) ?_
    refine r_aload_n dX6_restore_21 rfl ?_
    refine r_iconst (v := 0) dX6_restore_22 (by decide) ?_
    refine r_putF 6 (by decide) q74 rfl rfl rfl rfl rfl dX6_restore_23 ?_
    refine r_aload_n dX6_restore_26 rfl ?_
    refine r_getF 0 (by decide) q17 rfl dX6_restore_27 ?_
    refine r_getp_pl is1 7 (by decide) q114 rfl dX6_restore_30 ?_
    first | exact r_ret rfl rfl dX6_restore_33 (t_a (show t_restore M F P = _ from if_neg c4)) (t_m (show t_restore M F P = _ from if_neg c4))
  · refine r_bipush (v := -15) dX6_restore_7 (by decide) ?_
    first | exact r_ret rfl rfl dX6_restore_9 (t_a (show t_restore M F P = _ from if_pos c4)) (t_m (show t_restore M F P = _ from if_pos c4))
theorem dX6_reason_0 : decode cX6_reason 0 = .ok (.aload_n 0, 1) := by decide +kernel
theorem dX6_reason_1 : decode cX6_reason 1 = .ok (.getfield 217, 3) := by decide +kernel
theorem dX6_reason_4 : decode cX6_reason 4 = .ok (.ifCond .ne 6, 3) := by decide +kernel
theorem dX6_reason_7 : decode cX6_reason 7 = .ok (.bipush (-15), 2) := by decide +kernel
theorem dX6_reason_9 : decode cX6_reason 9 = .ok (.ireturn, 1) := by decide +kernel
theorem dX6_reason_10 : decode cX6_reason 10 = .ok (.iload_n 1, 1) := by decide +kernel
theorem dX6_reason_11 : decode cX6_reason 11 = .ok (.ifCond .eq 10, 3) := by decide +kernel
theorem dX6_reason_14 : decode cX6_reason 14 = .ok (.aload_n 0, 1) := by decide +kernel
theorem dX6_reason_15 : decode cX6_reason 15 = .ok (.getfield 220, 3) := by decide +kernel
theorem dX6_reason_18 : decode cX6_reason 18 = .ok (.goto 7, 3) := by decide +kernel
theorem dX6_reason_21 : decode cX6_reason 21 = .ok (.aload_n 0, 1) := by decide +kernel
theorem dX6_reason_22 : decode cX6_reason 22 = .ok (.getfield 223, 3) := by decide +kernel
theorem dX6_reason_25 : decode cX6_reason 25 = .ok (.ireturn, 1) := by decide +kernel
theorem dcX6_reason : yX6_reason.cls = RX6 ∧ yX6_reason.cls ≠ "java/lang/invoke/MethodHandle" ∧ yX6_reason.cls ≠ "java/lang/invoke/VarHandle" ∧ (parseMethodDescriptor yX6_reason.desc).map (fun d => d.parameters.length) = some 1 := by decide +kernel
set_option maxRecDepth 100000 in
set_option maxHeartbeats 4000000 in
theorem K_reason {cA : Nat → ClassId} {ad : tA} {ex : va_W} {M : tM} {F P : tP} {x : Int32} : Cj yX6_reason cX6_reason 2 (some .int) (rmd 0) 0 0 cA ad [.ref (ad 0 0), .int x] ex (mm M F P) (Qe (some (.int (f_reason F x))) ex (mm M F P)) := by
  refine c_of_r (lv0 := [some (.ref (ad 0 0)), some (.int x)]) rfl (by decide +kernel) (Nat.le_of_ble_eq_true rfl) rfl ?_
  refine r_aload_n dX6_reason_0 rfl ?_
  refine r_getF 10 (by decide) q290 rfl dX6_reason_1 ?_
  refine r_if_ne (tgt := 10) dX6_reason_4 (by decide) (fun c4 => ?_) (fun c4 => ?_)
  · refine r_iload_n dX6_reason_10 rfl ?_
    refine r_if_eq (tgt := 21) dX6_reason_11 (by decide) (fun c11 => ?_) (fun c11 => ?_)
    · refine r_aload_n dX6_reason_21 rfl ?_
      refine r_getF 11 (by decide) q291 rfl dX6_reason_22 ?_
      first | exact r_ret rfl rfl dX6_reason_25 (show _ = f_reason F x from ((if_neg c4).trans (if_pos c11)).symm) rfl | exact r_ret rfl rfl dX6_reason_25 (show _ = f_reason F x from ((if_neg c4).trans (if_neg c11)).symm) rfl
    · refine r_aload_n dX6_reason_14 rfl ?_
      refine r_getF 12 (by decide) q292 rfl dX6_reason_15 ?_
      refine r_goto (tgt := 25) dX6_reason_18 (by decide) ?_
      first | exact r_ret rfl rfl dX6_reason_25 (show _ = f_reason F x from ((if_neg c4).trans (if_pos c11)).symm) rfl | exact r_ret rfl rfl dX6_reason_25 (show _ = f_reason F x from ((if_neg c4).trans (if_neg c11)).symm) rfl
  · refine r_bipush (v := -15) dX6_reason_7 (by decide) ?_
    exact r_ret rfl rfl dX6_reason_9 (show _ = f_reason F x from (if_pos c4).symm) rfl
end
section
/-! PART 14: the queries -/
def f_stp (w : Nat → Int32) (x : Int32) : Int32 :=
  if x = 0 then w 0 else if x = 1 then w 1 else if x = 2 then w 2 else if x = 3 then (if w 3 = 0 then 0 else 1) else if x = 4 then w 6 else if x = 5 then w 7 else if x = 6 then w 8
  else if x = 7 then w 9 else if x = 8 then w 10 else if x = 9 then w 4 else -12
def f_stepOf (P : tP) (s x : Int32) : Int32 := if f_hasStep P s = false then -11 else f_stp (P (4 + s.toNatClampNeg)) x
theorem stp_no {w : Nat → Int32} {x : Int32} (h : x ≠ 0 ∧ x ≠ 1 ∧ x ≠ 2 ∧ x ≠ 3 ∧ x ≠ 4 ∧ x ≠ 5 ∧ x ≠ 6 ∧ x ≠ 7 ∧ x ≠ 8 ∧ x ≠ 9) : f_stp w x = -12 := by
  unfold f_stp
  obtain ⟨h0, h1, h2, h3, h4, h5, h6, h7, h8, h9⟩ := h
  rw [if_neg h0, if_neg h1, if_neg h2, if_neg h3, if_neg h4, if_neg h5, if_neg h6, if_neg h7, if_neg h8, if_neg h9]
theorem ne10_lo {x : Int32} (h : x.toInt < 0) : x ≠ 0 ∧ x ≠ 1 ∧ x ≠ 2 ∧ x ≠ 3 ∧ x ≠ 4 ∧ x ≠ 5 ∧ x ≠ 6 ∧ x ≠ 7 ∧ x ≠ 8 ∧ x ≠ 9 := by
  refine ⟨?_, ?_, ?_, ?_, ?_, ?_, ?_, ?_, ?_, ?_⟩ <;> (intro e; rw [e] at h; revert h; decide)
theorem ne10_hi {x : Int32} (h : 9 < x.toInt) : x ≠ 0 ∧ x ≠ 1 ∧ x ≠ 2 ∧ x ≠ 3 ∧ x ≠ 4 ∧ x ≠ 5 ∧ x ≠ 6 ∧ x ≠ 7 ∧ x ≠ 8 ∧ x ≠ 9 := by
  refine ⟨?_, ?_, ?_, ?_, ?_, ?_, ?_, ?_, ?_, ?_⟩ <;> (intro e; rw [e] at h; revert h; decide)
def ms (P : tP) (k : Nat) : Nat := (P 2 k).toNatClampNeg
def okM (P : tP) : Prop := ∀ k, k < mn P → P 2 k = nI (ms P k) ∧ ms P k < 12
theorem dX6_stepOf_0 : decode cX6_stepOf 0 = .ok (.aload_n 0, 1) := by decide +kernel
theorem dX6_stepOf_1 : decode cX6_stepOf 1 = .ok (.getfield 12, 3) := by decide +kernel
theorem dX6_stepOf_4 : decode cX6_stepOf 4 = .ok (.iload_n 1, 1) := by decide +kernel
theorem dX6_stepOf_5 : decode cX6_stepOf 5 = .ok (.invokevirtual 77, 3) := by decide +kernel
theorem dX6_stepOf_8 : decode cX6_stepOf 8 = .ok (.ifCond .ne 6, 3) := by decide +kernel
theorem dX6_stepOf_11 : decode cX6_stepOf 11 = .ok (.bipush (-11), 2) := by decide +kernel
theorem dX6_stepOf_13 : decode cX6_stepOf 13 = .ok (.ireturn, 1) := by decide +kernel
theorem dX6_stepOf_14 : decode cX6_stepOf 14 = .ok (.aload_n 0, 1) := by decide +kernel
theorem dX6_stepOf_15 : decode cX6_stepOf 15 = .ok (.getfield 12, 3) := by decide +kernel
theorem dX6_stepOf_18 : decode cX6_stepOf 18 = .ok (.getfield 81, 3) := by decide +kernel
theorem dX6_stepOf_21 : decode cX6_stepOf 21 = .ok (.iload_n 1, 1) := by decide +kernel
theorem dX6_stepOf_22 : decode cX6_stepOf 22 = .ok (.aaload, 1) := by decide +kernel
theorem dX6_stepOf_23 : decode cX6_stepOf 23 = .ok (.astore_n 3, 1) := by decide +kernel
theorem dX6_stepOf_24 : decode cX6_stepOf 24 = .ok (.iload_n 2, 1) := by decide +kernel
theorem dX6_stepOf_25 : decode cX6_stepOf 25 = .ok (.tableswitch 113 0 9 #[55, 60, 65, 70, 83, 88, 93, 98, 103, 108], 55) := by decide +kernel
theorem dX6_stepOf_80 : decode cX6_stepOf 80 = .ok (.aload_n 3, 1) := by decide +kernel
theorem dX6_stepOf_81 : decode cX6_stepOf 81 = .ok (.getfield 85, 3) := by decide +kernel
theorem dX6_stepOf_84 : decode cX6_stepOf 84 = .ok (.ireturn, 1) := by decide +kernel
theorem dX6_stepOf_85 : decode cX6_stepOf 85 = .ok (.aload_n 3, 1) := by decide +kernel
theorem dX6_stepOf_86 : decode cX6_stepOf 86 = .ok (.getfield 91, 3) := by decide +kernel
theorem dX6_stepOf_89 : decode cX6_stepOf 89 = .ok (.ireturn, 1) := by decide +kernel
theorem dX6_stepOf_90 : decode cX6_stepOf 90 = .ok (.aload_n 3, 1) := by decide +kernel
theorem dX6_stepOf_91 : decode cX6_stepOf 91 = .ok (.getfield 94, 3) := by decide +kernel
theorem dX6_stepOf_94 : decode cX6_stepOf 94 = .ok (.ireturn, 1) := by decide +kernel
theorem dX6_stepOf_95 : decode cX6_stepOf 95 = .ok (.aload_n 3, 1) := by decide +kernel
theorem dX6_stepOf_96 : decode cX6_stepOf 96 = .ok (.getfield 97, 3) := by decide +kernel
theorem dX6_stepOf_99 : decode cX6_stepOf 99 = .ok (.ifCond .eq 7, 3) := by decide +kernel
theorem dX6_stepOf_102 : decode cX6_stepOf 102 = .ok (.iconst 1, 1) := by decide +kernel
theorem dX6_stepOf_103 : decode cX6_stepOf 103 = .ok (.goto 4, 3) := by decide +kernel
theorem dX6_stepOf_106 : decode cX6_stepOf 106 = .ok (.iconst 0, 1) := by decide +kernel
theorem dX6_stepOf_107 : decode cX6_stepOf 107 = .ok (.ireturn, 1) := by decide +kernel
theorem dX6_stepOf_108 : decode cX6_stepOf 108 = .ok (.aload_n 3, 1) := by decide +kernel
theorem dX6_stepOf_109 : decode cX6_stepOf 109 = .ok (.getfield 101, 3) := by decide +kernel
theorem dX6_stepOf_112 : decode cX6_stepOf 112 = .ok (.ireturn, 1) := by decide +kernel
theorem dX6_stepOf_113 : decode cX6_stepOf 113 = .ok (.aload_n 3, 1) := by decide +kernel
theorem dX6_stepOf_114 : decode cX6_stepOf 114 = .ok (.getfield 104, 3) := by decide +kernel
theorem dX6_stepOf_117 : decode cX6_stepOf 117 = .ok (.ireturn, 1) := by decide +kernel
theorem dX6_stepOf_118 : decode cX6_stepOf 118 = .ok (.aload_n 3, 1) := by decide +kernel
theorem dX6_stepOf_119 : decode cX6_stepOf 119 = .ok (.getfield 107, 3) := by decide +kernel
theorem dX6_stepOf_122 : decode cX6_stepOf 122 = .ok (.ireturn, 1) := by decide +kernel
theorem dX6_stepOf_123 : decode cX6_stepOf 123 = .ok (.aload_n 3, 1) := by decide +kernel
theorem dX6_stepOf_124 : decode cX6_stepOf 124 = .ok (.getfield 110, 3) := by decide +kernel
theorem dX6_stepOf_127 : decode cX6_stepOf 127 = .ok (.ireturn, 1) := by decide +kernel
theorem dX6_stepOf_128 : decode cX6_stepOf 128 = .ok (.aload_n 3, 1) := by decide +kernel
theorem dX6_stepOf_129 : decode cX6_stepOf 129 = .ok (.getfield 113, 3) := by decide +kernel
theorem dX6_stepOf_132 : decode cX6_stepOf 132 = .ok (.ireturn, 1) := by decide +kernel
theorem dX6_stepOf_133 : decode cX6_stepOf 133 = .ok (.aload_n 3, 1) := by decide +kernel
theorem dX6_stepOf_134 : decode cX6_stepOf 134 = .ok (.getfield 116, 3) := by decide +kernel
theorem dX6_stepOf_137 : decode cX6_stepOf 137 = .ok (.ireturn, 1) := by decide +kernel
theorem dX6_stepOf_138 : decode cX6_stepOf 138 = .ok (.bipush (-12), 2) := by decide +kernel
theorem dX6_stepOf_140 : decode cX6_stepOf 140 = .ok (.ireturn, 1) := by decide +kernel
theorem dcX6_stepOf : yX6_stepOf.cls = RX6 ∧ yX6_stepOf.cls ≠ "java/lang/invoke/MethodHandle" ∧ yX6_stepOf.cls ≠ "java/lang/invoke/VarHandle" ∧ (parseMethodDescriptor yX6_stepOf.desc).map (fun d => d.parameters.length) = some 2 := by decide +kernel
theorem gX6_stepOf_5 : GoodIn wsL_law (wsV RX6 77 RX4 yX4_hasStep (.code yX4_hasStep cX4_hasStep 2 (some .boolean) :: wsL_law)) := g_V q317 q318 q319 q16 q320
set_option maxRecDepth 100000 in
set_option maxHeartbeats 4000000 in
theorem K_stepOf {cA : Nat → ClassId} {ad : tA} {ex : va_W} {M : tM} {F P : tP} {s x : Int32} (hoc : okc P) : Cj yX6_stepOf cX6_stepOf 4 (some .int) (rmd 1) 0 0 cA ad [.ref (ad 0 0), .int s, .int x] ex (mm M F P) (Qe (some (.int (f_stepOf P s x))) ex (mm M F P)) := by
  refine c_of_r (lv0 := [some (.ref (ad 0 0)), some (.int s), some (.int x), none]) rfl (by decide +kernel) (Nat.le_of_ble_eq_true rfl) rfl ?_
  refine r_aload_n dX6_stepOf_0 rfl ?_
  refine r_getF 0 (by decide) q17 rfl dX6_stepOf_1 ?_
  refine r_iload_n dX6_stepOf_4 rfl ?_
  refine r_cVi dX6_stepOf_5 (K_hasStep is1) gX6_stepOf_5 dcX4_hasStep rfl rfl rfl (Nat.le_of_ble_eq_true rfl) (ob_pl is1) ?_
  refine r_if_ne (tgt := 14) dX6_stepOf_8 (by decide) (fun c8 => ?_) (fun c8 => ?_)
  · obtain ⟨i, hi1, hi2, hi3, hi4⟩ := hs_of hoc (bt c8)
    rw [show f_stepOf P s x = f_stp (P (4 + i)) x from (if_neg (nf_of c8)).trans (by rw [hi4])]
    refine r_aload_n dX6_stepOf_14 rfl ?_
    refine r_getF 0 (by decide) q17 rfl dX6_stepOf_15 ?_
    refine r_getp_pl is1 0 (by decide) q314 rfl dX6_stepOf_18 ?_
    refine r_iload_n dX6_stepOf_21 rfl ?_
    refine r_aldp_steps is1 hi3 hi2 dX6_stepOf_22 ?_
    refine r_astore_n dX6_stepOf_23 (by decide) rfl ?_
    refine r_iload_n dX6_stepOf_24 rfl ?_
    rcases sw10 (x) with h | h | h | h | h | h | h | h | h | h | h | h
    · refine r_tableOut (tgt := 138) dX6_stepOf_25 (Or.inl h) (by decide) ?_
      refine r_bipush (v := -12) dX6_stepOf_138 (by decide) ?_
      first | exact r_ret rfl rfl dX6_stepOf_140 (show _ = f_stp (P (4 + i)) x from (stp_no (ne10_lo h)).symm) rfl
    · refine r_tableOut (tgt := 138) dX6_stepOf_25 (Or.inr h) (by decide) ?_
      refine r_bipush (v := -12) dX6_stepOf_138 (by decide) ?_
      first | exact r_ret rfl rfl dX6_stepOf_140 (show _ = f_stp (P (4 + i)) x from (stp_no (ne10_hi h)).symm) rfl
    · subst h
      refine r_tableIn (off := 55) (tgt := 80) dX6_stepOf_25 (by decide) (by decide) (by decide) (by decide) ?_
      refine r_aload_n dX6_stepOf_80 rfl ?_
      refine r_getp_st is1 hi2 0 (by decide) q479 rfl dX6_stepOf_81 ?_
      first | exact r_ret rfl rfl dX6_stepOf_84 (show _ = f_stp (P (4 + i)) 0 from (if_pos rfl).symm) rfl
    · subst h
      refine r_tableIn (off := 60) (tgt := 85) dX6_stepOf_25 (by decide) (by decide) (by decide) (by decide) ?_
      refine r_aload_n dX6_stepOf_85 rfl ?_
      refine r_getp_st is1 hi2 1 (by decide) q480 rfl dX6_stepOf_86 ?_
      first | exact r_ret rfl rfl dX6_stepOf_89 (show _ = f_stp (P (4 + i)) 1 from ((if_neg (by decide)).trans (if_pos rfl)).symm) rfl
    · subst h
      refine r_tableIn (off := 65) (tgt := 90) dX6_stepOf_25 (by decide) (by decide) (by decide) (by decide) ?_
      refine r_aload_n dX6_stepOf_90 rfl ?_
      refine r_getp_st is1 hi2 2 (by decide) q481 rfl dX6_stepOf_91 ?_
      first | exact r_ret rfl rfl dX6_stepOf_94 (show _ = f_stp (P (4 + i)) 2 from ((if_neg (by decide)).trans ((if_neg (by decide)).trans (if_pos rfl))).symm) rfl
    · subst h
      refine r_tableIn (off := 70) (tgt := 95) dX6_stepOf_25 (by decide) (by decide) (by decide) (by decide) ?_
      refine r_aload_n dX6_stepOf_95 rfl ?_
      refine r_getp_st is1 hi2 3 (by decide) q482 rfl dX6_stepOf_96 ?_
      refine r_if_eq (tgt := 106) dX6_stepOf_99 (by decide) (fun c99 => ?_) (fun c99 => ?_)
      · refine r_iconst (v := 0) dX6_stepOf_106 (by decide) ?_
        first | exact r_ret rfl rfl dX6_stepOf_107 (show _ = f_stp (P (4 + i)) 3 from ((if_neg (by decide)).trans ((if_neg (by decide)).trans ((if_neg (by decide)).trans ((if_pos rfl).trans (if_pos c99))))).symm) rfl | exact r_ret rfl rfl dX6_stepOf_107 (show _ = f_stp (P (4 + i)) 3 from ((if_neg (by decide)).trans ((if_neg (by decide)).trans ((if_neg (by decide)).trans ((if_pos rfl).trans (if_neg c99))))).symm) rfl
      · refine r_iconst (v := 1) dX6_stepOf_102 (by decide) ?_
        refine r_goto (tgt := 107) dX6_stepOf_103 (by decide) ?_
        first | exact r_ret rfl rfl dX6_stepOf_107 (show _ = f_stp (P (4 + i)) 3 from ((if_neg (by decide)).trans ((if_neg (by decide)).trans ((if_neg (by decide)).trans ((if_pos rfl).trans (if_pos c99))))).symm) rfl | exact r_ret rfl rfl dX6_stepOf_107 (show _ = f_stp (P (4 + i)) 3 from ((if_neg (by decide)).trans ((if_neg (by decide)).trans ((if_neg (by decide)).trans ((if_pos rfl).trans (if_neg c99))))).symm) rfl
    · subst h
      refine r_tableIn (off := 83) (tgt := 108) dX6_stepOf_25 (by decide) (by decide) (by decide) (by decide) ?_
      refine r_aload_n dX6_stepOf_108 rfl ?_
      refine r_getp_st is1 hi2 6 (by decide) q315 rfl dX6_stepOf_109 ?_
      first | exact r_ret rfl rfl dX6_stepOf_112 (show _ = f_stp (P (4 + i)) 4 from ((if_neg (by decide)).trans ((if_neg (by decide)).trans ((if_neg (by decide)).trans ((if_neg (by decide)).trans (if_pos rfl))))).symm) rfl
    · subst h
      refine r_tableIn (off := 88) (tgt := 113) dX6_stepOf_25 (by decide) (by decide) (by decide) (by decide) ?_
      refine r_aload_n dX6_stepOf_113 rfl ?_
      refine r_getp_st is1 hi2 7 (by decide) q483 rfl dX6_stepOf_114 ?_
      first | exact r_ret rfl rfl dX6_stepOf_117 (show _ = f_stp (P (4 + i)) 5 from ((if_neg (by decide)).trans ((if_neg (by decide)).trans ((if_neg (by decide)).trans ((if_neg (by decide)).trans ((if_neg (by decide)).trans (if_pos rfl)))))).symm) rfl
    · subst h
      refine r_tableIn (off := 93) (tgt := 118) dX6_stepOf_25 (by decide) (by decide) (by decide) (by decide) ?_
      refine r_aload_n dX6_stepOf_118 rfl ?_
      refine r_getp_st is1 hi2 8 (by decide) q484 rfl dX6_stepOf_119 ?_
      first | exact r_ret rfl rfl dX6_stepOf_122 (show _ = f_stp (P (4 + i)) 6 from ((if_neg (by decide)).trans ((if_neg (by decide)).trans ((if_neg (by decide)).trans ((if_neg (by decide)).trans ((if_neg (by decide)).trans ((if_neg (by decide)).trans (if_pos rfl))))))).symm) rfl
    · subst h
      refine r_tableIn (off := 98) (tgt := 123) dX6_stepOf_25 (by decide) (by decide) (by decide) (by decide) ?_
      refine r_aload_n dX6_stepOf_123 rfl ?_
      refine r_getp_st is1 hi2 9 (by decide) q331 rfl dX6_stepOf_124 ?_
      first | exact r_ret rfl rfl dX6_stepOf_127 (show _ = f_stp (P (4 + i)) 7 from ((if_neg (by decide)).trans ((if_neg (by decide)).trans ((if_neg (by decide)).trans ((if_neg (by decide)).trans ((if_neg (by decide)).trans ((if_neg (by decide)).trans ((if_neg (by decide)).trans (if_pos rfl)))))))).symm) rfl
    · subst h
      refine r_tableIn (off := 103) (tgt := 128) dX6_stepOf_25 (by decide) (by decide) (by decide) (by decide) ?_
      refine r_aload_n dX6_stepOf_128 rfl ?_
      refine r_getp_st is1 hi2 10 (by decide) q485 rfl dX6_stepOf_129 ?_
      first | exact r_ret rfl rfl dX6_stepOf_132 (show _ = f_stp (P (4 + i)) 8 from ((if_neg (by decide)).trans ((if_neg (by decide)).trans ((if_neg (by decide)).trans ((if_neg (by decide)).trans ((if_neg (by decide)).trans ((if_neg (by decide)).trans ((if_neg (by decide)).trans ((if_neg (by decide)).trans (if_pos rfl))))))))).symm) rfl
    · subst h
      refine r_tableIn (off := 108) (tgt := 133) dX6_stepOf_25 (by decide) (by decide) (by decide) (by decide) ?_
      refine r_aload_n dX6_stepOf_133 rfl ?_
      refine r_getp_st is1 hi2 4 (by decide) q316 rfl dX6_stepOf_134 ?_
      first | exact r_ret rfl rfl dX6_stepOf_137 (show _ = f_stp (P (4 + i)) 9 from ((if_neg (by decide)).trans ((if_neg (by decide)).trans ((if_neg (by decide)).trans ((if_neg (by decide)).trans ((if_neg (by decide)).trans ((if_neg (by decide)).trans ((if_neg (by decide)).trans ((if_neg (by decide)).trans ((if_neg (by decide)).trans (if_pos rfl)))))))))).symm) rfl
  · refine r_bipush (v := -11) dX6_stepOf_11 (by decide) ?_
    first | exact r_ret rfl rfl dX6_stepOf_13 (show _ = f_stepOf P s x from (if_pos (bF c8)).symm) rfl
def f_ready (P : tP) (s : Int32) : Int32 := if f_hasStep P s = false then -11 else bI (f_isReady (P (4 + s.toNatClampNeg)) (f_setOf P 3))
theorem dX6_ready_0 : decode cX6_ready 0 = .ok (.aload_n 0, 1) := by decide +kernel
theorem dX6_ready_1 : decode cX6_ready 1 = .ok (.getfield 12, 3) := by decide +kernel
theorem dX6_ready_4 : decode cX6_ready 4 = .ok (.iload_n 1, 1) := by decide +kernel
theorem dX6_ready_5 : decode cX6_ready 5 = .ok (.invokevirtual 77, 3) := by decide +kernel
theorem dX6_ready_8 : decode cX6_ready 8 = .ok (.ifCond .ne 6, 3) := by decide +kernel
theorem dX6_ready_11 : decode cX6_ready 11 = .ok (.bipush (-11), 2) := by decide +kernel
theorem dX6_ready_13 : decode cX6_ready 13 = .ok (.ireturn, 1) := by decide +kernel
theorem dX6_ready_14 : decode cX6_ready 14 = .ok (.aload_n 0, 1) := by decide +kernel
theorem dX6_ready_15 : decode cX6_ready 15 = .ok (.getfield 12, 3) := by decide +kernel
theorem dX6_ready_18 : decode cX6_ready 18 = .ok (.iload_n 1, 1) := by decide +kernel
theorem dX6_ready_19 : decode cX6_ready 19 = .ok (.aload_n 0, 1) := by decide +kernel
theorem dX6_ready_20 : decode cX6_ready 20 = .ok (.getfield 12, 3) := by decide +kernel
theorem dX6_ready_23 : decode cX6_ready 23 = .ok (.iconst 3, 1) := by decide +kernel
theorem dX6_ready_24 : decode cX6_ready 24 = .ok (.invokevirtual 119, 3) := by decide +kernel
theorem dX6_ready_27 : decode cX6_ready 27 = .ok (.invokevirtual 122, 3) := by decide +kernel
theorem dX6_ready_30 : decode cX6_ready 30 = .ok (.ifCond .eq 7, 3) := by decide +kernel
theorem dX6_ready_33 : decode cX6_ready 33 = .ok (.iconst 1, 1) := by decide +kernel
theorem dX6_ready_34 : decode cX6_ready 34 = .ok (.goto 4, 3) := by decide +kernel
theorem dX6_ready_37 : decode cX6_ready 37 = .ok (.iconst 0, 1) := by decide +kernel
theorem dX6_ready_38 : decode cX6_ready 38 = .ok (.ireturn, 1) := by decide +kernel
theorem dcX6_ready : yX6_ready.cls = RX6 ∧ yX6_ready.cls ≠ "java/lang/invoke/MethodHandle" ∧ yX6_ready.cls ≠ "java/lang/invoke/VarHandle" ∧ (parseMethodDescriptor yX6_ready.desc).map (fun d => d.parameters.length) = some 1 := by decide +kernel
theorem gX6_ready_5 : GoodIn wsL_law (wsV RX6 77 RX4 yX4_hasStep (.code yX4_hasStep cX4_hasStep 2 (some .boolean) :: wsL_law)) := g_V q317 q318 q319 q16 q320
theorem gX6_ready_24 : GoodIn wsL_law (wsV RX6 119 RX4 yX4_setOf (.code yX4_setOf cX4_setOf 4 (some .int) :: wsL_law)) := g_V q543 q165 q166 q16 q167
theorem gX6_ready_27 : GoodIn wsL_law (wsV RX6 122 RX4 yX4_isReady (.code yX4_isReady cX4_isReady 4 (some .boolean) :: wsL_law)) := g_V q544 q414 q415 q16 q416
set_option maxRecDepth 100000 in
set_option maxHeartbeats 4000000 in
theorem K_ready {cA : Nat → ClassId} {ad : tA} {ex : va_W} {M : tM} {F P : tP} {s : Int32} (hoc : okc P) : Cj yX6_ready cX6_ready 2 (some .int) (rmd 1) 0 0 cA ad [.ref (ad 0 0), .int s] ex (mm M F P) (Qe (some (.int (f_ready P s))) ex (mm M F P)) := by
  refine c_of_r (lv0 := [some (.ref (ad 0 0)), some (.int s)]) rfl (by decide +kernel) (Nat.le_of_ble_eq_true rfl) rfl ?_
  refine r_aload_n dX6_ready_0 rfl ?_
  refine r_getF 0 (by decide) q17 rfl dX6_ready_1 ?_
  refine r_iload_n dX6_ready_4 rfl ?_
  refine r_cVi dX6_ready_5 (K_hasStep is1) gX6_ready_5 dcX4_hasStep rfl rfl rfl (Nat.le_of_ble_eq_true rfl) (ob_pl is1) ?_
  refine r_if_ne (tgt := 14) dX6_ready_8 (by decide) (fun c8 => ?_) (fun c8 => ?_)
  · obtain ⟨i, hi1, hi2, hi3, hi4⟩ := hs_of hoc (bt c8)
    have e : f_ready P s = bI (f_isReady (P (4 + i)) (f_setOf P 3)) := (if_neg (nf_of c8)).trans (by rw [hi4])
    refine r_aload_n dX6_ready_14 rfl ?_
    refine r_getF 0 (by decide) q17 rfl dX6_ready_15 ?_
    refine r_iload_n dX6_ready_18 rfl ?_
    refine r_aload_n dX6_ready_19 rfl ?_
    refine r_getF 0 (by decide) q17 rfl dX6_ready_20 ?_
    refine r_iconst (v := 3) dX6_ready_23 (by decide) ?_
    refine r_cVi dX6_ready_24 (K_setOf is1 hoc.1 hoc.2) gX6_ready_24 dcX4_setOf rfl rfl rfl (Nat.le_of_ble_eq_true rfl) (ob_pl is1) ?_
    refine r_cVi dX6_ready_27 ((hi3 ▸ K_isReady (i := i) is1 hi2)) gX6_ready_27 dcX4_isReady rfl rfl rfl (Nat.le_of_ble_eq_true rfl) (ob_pl is1) ?_
    refine r_if_eq (tgt := 37) dX6_ready_30 (by decide) (fun c30 => ?_) (fun c30 => ?_)
    · refine r_iconst (v := 0) dX6_ready_37 (by decide) ?_
      first | exact r_ret rfl rfl dX6_ready_38 (by rw [e, bI_1 c30]; rfl) rfl | exact r_ret rfl rfl dX6_ready_38 (by rw [e, bI_0 c30]; rfl) rfl
    · refine r_iconst (v := 1) dX6_ready_33 (by decide) ?_
      refine r_goto (tgt := 38) dX6_ready_34 (by decide) ?_
      first | exact r_ret rfl rfl dX6_ready_38 (by rw [e, bI_1 c30]; rfl) rfl | exact r_ret rfl rfl dX6_ready_38 (by rw [e, bI_0 c30]; rfl) rfl
  · refine r_bipush (v := -11) dX6_ready_11 (by decide) ?_
    first | exact r_ret rfl rfl dX6_ready_13 (show _ = f_ready P s from (if_pos (bF c8)).symm) rfl
def f_mof (P : tP) (k : Nat) (x : Int32) : Int32 :=
  if x = 0 then P 2 k else if x = 1 then P (4 + ms P k) 5 else if x = 2 then (if P (4 + ms P k) 6 = 3 then P (4 + ms P k) 10 else -15) else if x = 3 then f_lateBy P k (ms P k) else -12
def f_mileOf (P : tP) (p x : Int32) : Int32 := if p < 0 ∨ P 0 3 ≤ p then -11 else f_mof P p.toNatClampNeg x
theorem mof_no {P : tP} {k : Nat} {x : Int32} (h : x ≠ 0 ∧ x ≠ 1 ∧ x ≠ 2 ∧ x ≠ 3) : f_mof P k x = -12 := by
  unfold f_mof
  rw [if_neg h.1, if_neg h.2.1, if_neg h.2.2.1, if_neg h.2.2.2]
theorem ne4_lo {x : Int32} (h : x.toInt < 0) : x ≠ 0 ∧ x ≠ 1 ∧ x ≠ 2 ∧ x ≠ 3 := by
  refine ⟨?_, ?_, ?_, ?_⟩ <;> (intro e; rw [e] at h; revert h; decide)
theorem ne4_hi {x : Int32} (h : 3 < x.toInt) : x ≠ 0 ∧ x ≠ 1 ∧ x ≠ 2 ∧ x ≠ 3 := by
  refine ⟨?_, ?_, ?_, ?_⟩ <;> (intro e; rw [e] at h; revert h; decide)
theorem pos_of {y p : Int32} {n : Nat} (hy : y = nI n) (hn : n < 2 ^ 30) (h1 : ¬ p < 0) (h2 : p < y) : ∃ k, k < n ∧ p = nI k ∧ p.toNatClampNeg = k := by
  obtain ⟨k, hk, rfl⟩ := nI_of h1
  rw [hy] at h2
  have : k < n := (nI_ltI (by omega) (by omega)).mp h2
  exact ⟨k, this, rfl, nI_clamp hk⟩
theorem dX6_milestoneOf_0 : decode cX6_milestoneOf 0 = .ok (.iload_n 1, 1) := by decide +kernel
theorem dX6_milestoneOf_1 : decode cX6_milestoneOf 1 = .ok (.ifCond .lt 14, 3) := by decide +kernel
theorem dX6_milestoneOf_4 : decode cX6_milestoneOf 4 = .ok (.iload_n 1, 1) := by decide +kernel
theorem dX6_milestoneOf_5 : decode cX6_milestoneOf 5 = .ok (.aload_n 0, 1) := by decide +kernel
theorem dX6_milestoneOf_6 : decode cX6_milestoneOf 6 = .ok (.getfield 12, 3) := by decide +kernel
theorem dX6_milestoneOf_9 : decode cX6_milestoneOf 9 = .ok (.getfield 126, 3) := by decide +kernel
theorem dX6_milestoneOf_12 : decode cX6_milestoneOf 12 = .ok (.if_icmp .lt 6, 3) := by decide +kernel
theorem dX6_milestoneOf_15 : decode cX6_milestoneOf 15 = .ok (.bipush (-11), 2) := by decide +kernel
theorem dX6_milestoneOf_17 : decode cX6_milestoneOf 17 = .ok (.ireturn, 1) := by decide +kernel
theorem dX6_milestoneOf_18 : decode cX6_milestoneOf 18 = .ok (.aload_n 0, 1) := by decide +kernel
theorem dX6_milestoneOf_19 : decode cX6_milestoneOf 19 = .ok (.getfield 12, 3) := by decide +kernel
theorem dX6_milestoneOf_22 : decode cX6_milestoneOf 22 = .ok (.getfield 81, 3) := by decide +kernel
theorem dX6_milestoneOf_25 : decode cX6_milestoneOf 25 = .ok (.aload_n 0, 1) := by decide +kernel
theorem dX6_milestoneOf_26 : decode cX6_milestoneOf 26 = .ok (.getfield 12, 3) := by decide +kernel
theorem dX6_milestoneOf_29 : decode cX6_milestoneOf 29 = .ok (.getfield 129, 3) := by decide +kernel
theorem dX6_milestoneOf_32 : decode cX6_milestoneOf 32 = .ok (.iload_n 1, 1) := by decide +kernel
theorem dX6_milestoneOf_33 : decode cX6_milestoneOf 33 = .ok (.iaload, 1) := by decide +kernel
theorem dX6_milestoneOf_34 : decode cX6_milestoneOf 34 = .ok (.aaload, 1) := by decide +kernel
theorem dX6_milestoneOf_35 : decode cX6_milestoneOf 35 = .ok (.astore_n 3, 1) := by decide +kernel
theorem dX6_milestoneOf_36 : decode cX6_milestoneOf 36 = .ok (.iload_n 2, 1) := by decide +kernel
theorem dX6_milestoneOf_37 : decode cX6_milestoneOf 37 = .ok (.tableswitch 73 0 3 #[31, 41, 46, 64], 31) := by decide +kernel
theorem dX6_milestoneOf_68 : decode cX6_milestoneOf 68 = .ok (.aload_n 0, 1) := by decide +kernel
theorem dX6_milestoneOf_69 : decode cX6_milestoneOf 69 = .ok (.getfield 12, 3) := by decide +kernel
theorem dX6_milestoneOf_72 : decode cX6_milestoneOf 72 = .ok (.getfield 129, 3) := by decide +kernel
theorem dX6_milestoneOf_75 : decode cX6_milestoneOf 75 = .ok (.iload_n 1, 1) := by decide +kernel
theorem dX6_milestoneOf_76 : decode cX6_milestoneOf 76 = .ok (.iaload, 1) := by decide +kernel
theorem dX6_milestoneOf_77 : decode cX6_milestoneOf 77 = .ok (.ireturn, 1) := by decide +kernel
theorem dX6_milestoneOf_78 : decode cX6_milestoneOf 78 = .ok (.aload_n 3, 1) := by decide +kernel
theorem dX6_milestoneOf_79 : decode cX6_milestoneOf 79 = .ok (.getfield 133, 3) := by decide +kernel
theorem dX6_milestoneOf_82 : decode cX6_milestoneOf 82 = .ok (.ireturn, 1) := by decide +kernel
theorem dX6_milestoneOf_83 : decode cX6_milestoneOf 83 = .ok (.aload_n 3, 1) := by decide +kernel
theorem dX6_milestoneOf_84 : decode cX6_milestoneOf 84 = .ok (.getfield 101, 3) := by decide +kernel
theorem dX6_milestoneOf_87 : decode cX6_milestoneOf 87 = .ok (.iconst 3, 1) := by decide +kernel
theorem dX6_milestoneOf_88 : decode cX6_milestoneOf 88 = .ok (.if_icmp .ne 10, 3) := by decide +kernel
theorem dX6_milestoneOf_91 : decode cX6_milestoneOf 91 = .ok (.aload_n 3, 1) := by decide +kernel
theorem dX6_milestoneOf_92 : decode cX6_milestoneOf 92 = .ok (.getfield 113, 3) := by decide +kernel
theorem dX6_milestoneOf_95 : decode cX6_milestoneOf 95 = .ok (.goto 5, 3) := by decide +kernel
theorem dX6_milestoneOf_98 : decode cX6_milestoneOf 98 = .ok (.bipush (-15), 2) := by decide +kernel
theorem dX6_milestoneOf_100 : decode cX6_milestoneOf 100 = .ok (.ireturn, 1) := by decide +kernel
theorem dX6_milestoneOf_101 : decode cX6_milestoneOf 101 = .ok (.aload_n 0, 1) := by decide +kernel
theorem dX6_milestoneOf_102 : decode cX6_milestoneOf 102 = .ok (.getfield 12, 3) := by decide +kernel
theorem dX6_milestoneOf_105 : decode cX6_milestoneOf 105 = .ok (.iload_n 1, 1) := by decide +kernel
theorem dX6_milestoneOf_106 : decode cX6_milestoneOf 106 = .ok (.invokevirtual 136, 3) := by decide +kernel
theorem dX6_milestoneOf_109 : decode cX6_milestoneOf 109 = .ok (.ireturn, 1) := by decide +kernel
theorem dX6_milestoneOf_110 : decode cX6_milestoneOf 110 = .ok (.bipush (-12), 2) := by decide +kernel
theorem dX6_milestoneOf_112 : decode cX6_milestoneOf 112 = .ok (.ireturn, 1) := by decide +kernel
theorem dcX6_milestoneOf : yX6_milestoneOf.cls = RX6 ∧ yX6_milestoneOf.cls ≠ "java/lang/invoke/MethodHandle" ∧ yX6_milestoneOf.cls ≠ "java/lang/invoke/VarHandle" ∧ (parseMethodDescriptor yX6_milestoneOf.desc).map (fun d => d.parameters.length) = some 2 := by decide +kernel
theorem gX6_milestoneOf_106 : GoodIn wsL_law (wsV RX6 136 RX4 yX4_lateBy (.code yX4_lateBy cX4_lateBy 4 (some .int) :: wsL_law)) := g_V q590 q591 q592 q16 q593
set_option maxRecDepth 100000 in
set_option maxHeartbeats 4000000 in
theorem K_mileOf {cA : Nat → ClassId} {ad : tA} {ex : va_W} {M : tM} {F P : tP} {p x : Int32} (hoc : okc P) (hon : okn P) (hok : okM P) : Cj yX6_milestoneOf cX6_milestoneOf 4 (some .int) (rmd 2) 0 0 cA ad [.ref (ad 0 0), .int p, .int x] ex (mm M F P) (Qe (some (.int (f_mileOf P p x))) ex (mm M F P)) := by
  refine c_of_r (lv0 := [some (.ref (ad 0 0)), some (.int p), some (.int x), none]) rfl (by decide +kernel) (Nat.le_of_ble_eq_true rfl) rfl ?_
  refine r_iload_n dX6_milestoneOf_0 rfl ?_
  refine r_if_lt (tgt := 15) dX6_milestoneOf_1 (by decide) (fun c1 => ?_) (fun c1 => ?_)
  · refine r_bipush (v := -11) dX6_milestoneOf_15 (by decide) ?_
    first | exact r_ret rfl rfl dX6_milestoneOf_17 (show _ = f_mileOf P p x from (if_pos (Or.inl c1)).symm) rfl | exact r_ret rfl rfl dX6_milestoneOf_17 (show _ = f_mileOf P p x from (if_pos (Or.inr (Int32.not_lt.mp c12))).symm) rfl
  · refine r_iload_n dX6_milestoneOf_4 rfl ?_
    refine r_aload_n dX6_milestoneOf_5 rfl ?_
    refine r_getF 0 (by decide) q17 rfl dX6_milestoneOf_6 ?_
    refine r_getp_pl is1 3 (by decide) q154 rfl dX6_milestoneOf_9 ?_
    refine r_icmp_lt (tgt := 18) dX6_milestoneOf_12 (by decide) (fun c12 => ?_) (fun c12 => ?_)
    · obtain ⟨k, hk1, hk3, hk4⟩ := pos_of hon.1 (by have := hon.2; omega) c1 c12
      have hk2 : k < 4 := by have := hon.2; omega
      have hM := hok k hk1
      rw [show f_mileOf P p x = f_mof P k x from (if_neg (n2 c1 (Int32.not_le.mpr c12))).trans (by rw [hk4])]
      refine r_aload_n dX6_milestoneOf_18 rfl ?_
      refine r_getF 0 (by decide) q17 rfl dX6_milestoneOf_19 ?_
      refine r_getp_pl is1 0 (by decide) q314 rfl dX6_milestoneOf_22 ?_
      refine r_aload_n dX6_milestoneOf_25 rfl ?_
      refine r_getF 0 (by decide) q17 rfl dX6_milestoneOf_26 ?_
      refine r_getp_pl is1 2 (by decide) q589 rfl dX6_milestoneOf_29 ?_
      refine r_iload_n dX6_milestoneOf_32 rfl ?_
      refine r_ldp_mi is1 hk3 hk2 dX6_milestoneOf_33 ?_
      refine r_aldp_steps is1 hM.1 hM.2 dX6_milestoneOf_34 ?_
      refine r_astore_n dX6_milestoneOf_35 (by decide) rfl ?_
      refine r_iload_n dX6_milestoneOf_36 rfl ?_
      rcases sw4 (x) with h | h | h | h | h | h
      · refine r_tableOut (tgt := 110) dX6_milestoneOf_37 (Or.inl h) (by decide) ?_
        refine r_bipush (v := -12) dX6_milestoneOf_110 (by decide) ?_
        first | exact r_ret rfl rfl dX6_milestoneOf_112 (show _ = f_mof P k x from (mof_no (ne4_lo h)).symm) rfl
      · refine r_tableOut (tgt := 110) dX6_milestoneOf_37 (Or.inr h) (by decide) ?_
        refine r_bipush (v := -12) dX6_milestoneOf_110 (by decide) ?_
        first | exact r_ret rfl rfl dX6_milestoneOf_112 (show _ = f_mof P k x from (mof_no (ne4_hi h)).symm) rfl
      · subst h
        refine r_tableIn (off := 31) (tgt := 68) dX6_milestoneOf_37 (by decide) (by decide) (by decide) (by decide) ?_
        refine r_aload_n dX6_milestoneOf_68 rfl ?_
        refine r_getF 0 (by decide) q17 rfl dX6_milestoneOf_69 ?_
        refine r_getp_pl is1 2 (by decide) q589 rfl dX6_milestoneOf_72 ?_
        refine r_iload_n dX6_milestoneOf_75 rfl ?_
        refine r_ldp_mi is1 hk3 hk2 dX6_milestoneOf_76 ?_
        first | exact r_ret rfl rfl dX6_milestoneOf_77 (show _ = f_mof P k 0 from (if_pos rfl).symm) rfl
      · subst h
        refine r_tableIn (off := 41) (tgt := 78) dX6_milestoneOf_37 (by decide) (by decide) (by decide) (by decide) ?_
        refine r_aload_n dX6_milestoneOf_78 rfl ?_
        refine r_getp_st is1 hM.2 5 (by decide) q352 rfl dX6_milestoneOf_79 ?_
        first | exact r_ret rfl rfl dX6_milestoneOf_82 (show _ = f_mof P k 1 from ((if_neg (by decide)).trans (if_pos rfl)).symm) rfl
      · subst h
        refine r_tableIn (off := 46) (tgt := 83) dX6_milestoneOf_37 (by decide) (by decide) (by decide) (by decide) ?_
        refine r_aload_n dX6_milestoneOf_83 rfl ?_
        refine r_getp_st is1 hM.2 6 (by decide) q315 rfl dX6_milestoneOf_84 ?_
        refine r_iconst (v := 3) dX6_milestoneOf_87 (by decide) ?_
        refine r_icmp_ne (tgt := 98) dX6_milestoneOf_88 (by decide) (fun c88 => ?_) (fun c88 => ?_)
        · refine r_bipush (v := -15) dX6_milestoneOf_98 (by decide) ?_
          first | exact r_ret rfl rfl dX6_milestoneOf_100 (show _ = f_mof P k 2 from ((if_neg (by decide)).trans ((if_neg (by decide)).trans ((if_pos rfl).trans (if_pos c88)))).symm) rfl | exact r_ret rfl rfl dX6_milestoneOf_100 (show _ = f_mof P k 2 from ((if_neg (by decide)).trans ((if_neg (by decide)).trans ((if_pos rfl).trans (if_neg c88)))).symm) rfl
        · refine r_aload_n dX6_milestoneOf_91 rfl ?_
          refine r_getp_st is1 hM.2 10 (by decide) q485 rfl dX6_milestoneOf_92 ?_
          refine r_goto (tgt := 100) dX6_milestoneOf_95 (by decide) ?_
          first | exact r_ret rfl rfl dX6_milestoneOf_100 (show _ = f_mof P k 2 from ((if_neg (by decide)).trans ((if_neg (by decide)).trans ((if_pos rfl).trans (if_pos c88)))).symm) rfl | exact r_ret rfl rfl dX6_milestoneOf_100 (show _ = f_mof P k 2 from ((if_neg (by decide)).trans ((if_neg (by decide)).trans ((if_pos rfl).trans (if_neg c88)))).symm) rfl
      · subst h
        refine r_tableIn (off := 64) (tgt := 101) dX6_milestoneOf_37 (by decide) (by decide) (by decide) (by decide) ?_
        refine r_aload_n dX6_milestoneOf_101 rfl ?_
        refine r_getF 0 (by decide) q17 rfl dX6_milestoneOf_102 ?_
        refine r_iload_n dX6_milestoneOf_105 rfl ?_
        refine r_cVi dX6_milestoneOf_106 ((hk3 ▸ K_lateBy (k := k) (m := ms P k) is1 hk2 hM.1 hM.2)) gX6_milestoneOf_106 dcX4_lateBy rfl rfl rfl (Nat.le_of_ble_eq_true rfl) (ob_pl is1) ?_
        first | exact r_ret rfl rfl dX6_milestoneOf_109 (show _ = f_mof P k 3 from ((if_neg (by decide)).trans ((if_neg (by decide)).trans ((if_neg (by decide)).trans (if_pos rfl)))).symm) rfl
    · refine r_bipush (v := -11) dX6_milestoneOf_15 (by decide) ?_
      first | exact r_ret rfl rfl dX6_milestoneOf_17 (show _ = f_mileOf P p x from (if_pos (Or.inl c1)).symm) rfl | exact r_ret rfl rfl dX6_milestoneOf_17 (show _ = f_mileOf P p x from (if_pos (Or.inr (Int32.not_lt.mp c12))).symm) rfl
def lp_late (P : tP) : Nat → Nat → Int32 → Int32
  | 0, _, x => x
  | n + 1, k, x => lp_late P n (k + 1) (x + f_lateBy P k (ms P k))
def f_late (P : tP) : Int32 := lp_late P (mn P) 0 0
theorem dX6_late_0 : decode cX6_late 0 = .ok (.iconst 0, 1) := by decide +kernel
theorem dX6_late_1 : decode cX6_late 1 = .ok (.istore_n 1, 1) := by decide +kernel
theorem dX6_late_2 : decode cX6_late 2 = .ok (.iconst 0, 1) := by decide +kernel
theorem dX6_late_3 : decode cX6_late 3 = .ok (.istore_n 2, 1) := by decide +kernel
theorem dX6_late_4 : decode cX6_late 4 = .ok (.iload_n 2, 1) := by decide +kernel
theorem dX6_late_5 : decode cX6_late 5 = .ok (.aload_n 0, 1) := by decide +kernel
theorem dX6_late_6 : decode cX6_late 6 = .ok (.getfield 12, 3) := by decide +kernel
theorem dX6_late_9 : decode cX6_late 9 = .ok (.getfield 126, 3) := by decide +kernel
theorem dX6_late_12 : decode cX6_late 12 = .ok (.if_icmp .ge 20, 3) := by decide +kernel
theorem dX6_late_15 : decode cX6_late 15 = .ok (.iload_n 1, 1) := by decide +kernel
theorem dX6_late_16 : decode cX6_late 16 = .ok (.aload_n 0, 1) := by decide +kernel
theorem dX6_late_17 : decode cX6_late 17 = .ok (.getfield 12, 3) := by decide +kernel
theorem dX6_late_20 : decode cX6_late 20 = .ok (.iload_n 2, 1) := by decide +kernel
theorem dX6_late_21 : decode cX6_late 21 = .ok (.invokevirtual 136, 3) := by decide +kernel
theorem dX6_late_24 : decode cX6_late 24 = .ok (.iadd, 1) := by decide +kernel
theorem dX6_late_25 : decode cX6_late 25 = .ok (.istore_n 1, 1) := by decide +kernel
theorem dX6_late_26 : decode cX6_late 26 = .ok (.iinc 2 1, 3) := by decide +kernel
theorem dX6_late_29 : decode cX6_late 29 = .ok (.goto (-25), 3) := by decide +kernel
theorem dX6_late_32 : decode cX6_late 32 = .ok (.iload_n 1, 1) := by decide +kernel
theorem dX6_late_33 : decode cX6_late 33 = .ok (.ireturn, 1) := by decide +kernel
theorem dcX6_late : yX6_late.cls = RX6 ∧ yX6_late.cls ≠ "java/lang/invoke/MethodHandle" ∧ yX6_late.cls ≠ "java/lang/invoke/VarHandle" ∧ (parseMethodDescriptor yX6_late.desc).map (fun d => d.parameters.length) = some 0 := by decide +kernel
theorem gX6_late_21 : GoodIn wsL_law (wsV RX6 136 RX4 yX4_lateBy (.code yX4_lateBy cX4_lateBy 4 (some .int) :: wsL_law)) := g_V q590 q591 q592 q16 q593
set_option maxRecDepth 100000 in
set_option maxHeartbeats 4000000 in
theorem K_late {cA : Nat → ClassId} {ad : tA} {ex : va_W} {M : tM} {F P : tP} (hon : okn P) (hok : okM P) : Cj yX6_late cX6_late 3 (some .int) (rmd 2) 0 0 cA ad [.ref (ad 0 0)] ex (mm M F P) (Qe (some (.int (f_late P))) ex (mm M F P)) := by
  refine c_of_r (lv0 := [some (.ref (ad 0 0)), none, none]) rfl (by decide +kernel) (Nat.le_of_ble_eq_true rfl) rfl ?_
  have L : ∀ (n k : Nat) (x : Int32), k + n = mn P → lp_late P n k x = f_late P → Rj cX6_late RX6 3 (some .int) (rmd 2) 0 0 cA ad (Qe (some (.int (f_late P))) ex (mm M F P)) ex 0 0 4 [some (.ref (ad 0 0)), some (.int x), some (.int (nI k))] [] (mm M F P) := by
    intro n
    induction n with
    | zero =>
      intro k x h hx
      refine r_iload_n dX6_late_4 rfl ?_
      refine r_aload_n dX6_late_5 rfl ?_
      refine r_getF 0 (by decide) q17 rfl dX6_late_6 ?_
      refine r_getp_pl is1 3 (by decide) q154 rfl dX6_late_9 ?_
      refine r_icmp_ge (tgt := 32) dX6_late_12 (by decide) (fun c12 => ?_) (fun c12 => absurd (lp_z hon.1 h) c12)
      refine r_iload_n dX6_late_32 rfl ?_
      exact r_ret rfl rfl dX6_late_33 hx rfl
    | succ n ih =>
      intro k x h hx
      have hk : k < 4 := by have := hon.2; omega
      have hM := hok k (by omega)
      refine r_iload_n dX6_late_4 rfl ?_
      refine r_aload_n dX6_late_5 rfl ?_
      refine r_getF 0 (by decide) q17 rfl dX6_late_6 ?_
      refine r_getp_pl is1 3 (by decide) q154 rfl dX6_late_9 ?_
      refine r_icmp_ge (tgt := 32) dX6_late_12 (by decide) (fun c12 => absurd c12 (lp_s hon.1 (by have := hon.2; omega) h)) (fun c12 => ?_)
      refine r_iload_n dX6_late_15 rfl ?_
      refine r_aload_n dX6_late_16 rfl ?_
      refine r_getF 0 (by decide) q17 rfl dX6_late_17 ?_
      refine r_iload_n dX6_late_20 rfl ?_
      refine r_cVi dX6_late_21 (K_lateBy (k := k) (m := ms P k) is1 hk hM.1 hM.2) gX6_late_21 dcX4_lateBy rfl rfl rfl (Nat.le_of_ble_eq_true rfl) (ob_pl is1) ?_
      refine r_iadd dX6_late_24 ?_
      refine r_istore_n dX6_late_25 (by decide) rfl ?_
      refine r_iinc dX6_late_26 rfl ii_s (by decide) rfl ?_
      refine r_goto (tgt := 4) dX6_late_29 (by decide) ?_
      exact ih (k + 1) _ (by omega) hx
  refine r_iconst (v := 0) dX6_late_0 (by decide) ?_
  refine r_istore_n dX6_late_1 (by decide) rfl ?_
  refine r_iconst (v := 0) dX6_late_2 (by decide) ?_
  refine r_istore_n dX6_late_3 (by decide) rfl ?_
  exact L (mn P) 0 0 (by omega) rfl
def ec (P : tP) : Nat := (P 0 6).toNatClampNeg
def okE (P : tP) : Prop := P 0 6 = nI (ec P) ∧ ec P ≤ 16
def f_log (P : tP) (p w : Int32) : Int32 := if p < 0 ∨ P 0 6 ≤ p then -11 else if w < 0 ∨ 3 ≤ w then -12 else P 3 ((en P + 31 - p.toNatClampNeg) % 16 * 3 + w.toNatClampNeg)
theorem lg_ix {x : Int32} {e p : Nat} (h : x = nI e) (h2 : e < 16) (hp : p < 16) : (x + 32 - 1 - nI p) - (x + 32 - 1 - nI p) / 16 * 16 = nI ((e + 31 - p) % 16) := by
  subst h
  have e1 : nI e + 32 - 1 - nI p = nI (e + 31 - p) := by
    rw [show nI e + 32 = nI (e + 32) from nI_add e 32, show nI (e + 32) - 1 = nI (e + 31) from nI_pred (e + 31)]
    exact pk_sub (by omega)
  rw [e1]
  exact pk_rem (d := 16) (by omega) (by omega) (by omega)
theorem lg_i2 {x : Int32} {s w : Nat} (h : x = nI s) : x * 3 + nI w = nI (s * 3 + w) := by subst h; rw [show nI s * 3 = nI (s * 3) from pk_mul s 3]; exact nI_add _ _
theorem dX6_logged_0 : decode cX6_logged 0 = .ok (.iload_n 1, 1) := by decide +kernel
theorem dX6_logged_1 : decode cX6_logged 1 = .ok (.ifCond .lt 14, 3) := by decide +kernel
theorem dX6_logged_4 : decode cX6_logged 4 = .ok (.iload_n 1, 1) := by decide +kernel
theorem dX6_logged_5 : decode cX6_logged 5 = .ok (.aload_n 0, 1) := by decide +kernel
theorem dX6_logged_6 : decode cX6_logged 6 = .ok (.getfield 12, 3) := by decide +kernel
theorem dX6_logged_9 : decode cX6_logged 9 = .ok (.getfield 161, 3) := by decide +kernel
theorem dX6_logged_12 : decode cX6_logged 12 = .ok (.if_icmp .lt 6, 3) := by decide +kernel
theorem dX6_logged_15 : decode cX6_logged 15 = .ok (.bipush (-11), 2) := by decide +kernel
theorem dX6_logged_17 : decode cX6_logged 17 = .ok (.ireturn, 1) := by decide +kernel
theorem dX6_logged_18 : decode cX6_logged 18 = .ok (.iload_n 2, 1) := by decide +kernel
theorem dX6_logged_19 : decode cX6_logged 19 = .ok (.ifCond .lt 8, 3) := by decide +kernel
theorem dX6_logged_22 : decode cX6_logged 22 = .ok (.iload_n 2, 1) := by decide +kernel
theorem dX6_logged_23 : decode cX6_logged 23 = .ok (.iconst 3, 1) := by decide +kernel
theorem dX6_logged_24 : decode cX6_logged 24 = .ok (.if_icmp .lt 6, 3) := by decide +kernel
theorem dX6_logged_27 : decode cX6_logged 27 = .ok (.bipush (-12), 2) := by decide +kernel
theorem dX6_logged_29 : decode cX6_logged 29 = .ok (.ireturn, 1) := by decide +kernel
theorem dX6_logged_30 : decode cX6_logged 30 = .ok (.aload_n 0, 1) := by decide +kernel
theorem dX6_logged_31 : decode cX6_logged 31 = .ok (.getfield 12, 3) := by decide +kernel
theorem dX6_logged_34 : decode cX6_logged 34 = .ok (.getfield 164, 3) := by decide +kernel
theorem dX6_logged_37 : decode cX6_logged 37 = .ok (.bipush 32, 2) := by decide +kernel
theorem dX6_logged_39 : decode cX6_logged 39 = .ok (.iadd, 1) := by decide +kernel
theorem dX6_logged_40 : decode cX6_logged 40 = .ok (.iconst 1, 1) := by decide +kernel
theorem dX6_logged_41 : decode cX6_logged 41 = .ok (.isub, 1) := by decide +kernel
theorem dX6_logged_42 : decode cX6_logged 42 = .ok (.iload_n 1, 1) := by decide +kernel
theorem dX6_logged_43 : decode cX6_logged 43 = .ok (.isub, 1) := by decide +kernel
theorem dX6_logged_44 : decode cX6_logged 44 = .ok (.bipush 16, 2) := by decide +kernel
theorem dX6_logged_46 : decode cX6_logged 46 = .ok (.irem, 1) := by decide +kernel
theorem dX6_logged_47 : decode cX6_logged 47 = .ok (.istore_n 3, 1) := by decide +kernel
theorem dX6_logged_48 : decode cX6_logged 48 = .ok (.aload_n 0, 1) := by decide +kernel
theorem dX6_logged_49 : decode cX6_logged 49 = .ok (.getfield 12, 3) := by decide +kernel
theorem dX6_logged_52 : decode cX6_logged 52 = .ok (.getfield 167, 3) := by decide +kernel
theorem dX6_logged_55 : decode cX6_logged 55 = .ok (.iload_n 3, 1) := by decide +kernel
theorem dX6_logged_56 : decode cX6_logged 56 = .ok (.iconst 3, 1) := by decide +kernel
theorem dX6_logged_57 : decode cX6_logged 57 = .ok (.imul, 1) := by decide +kernel
theorem dX6_logged_58 : decode cX6_logged 58 = .ok (.iload_n 2, 1) := by decide +kernel
theorem dX6_logged_59 : decode cX6_logged 59 = .ok (.iadd, 1) := by decide +kernel
theorem dX6_logged_60 : decode cX6_logged 60 = .ok (.iaload, 1) := by decide +kernel
theorem dX6_logged_61 : decode cX6_logged 61 = .ok (.ireturn, 1) := by decide +kernel
theorem dcX6_logged : yX6_logged.cls = RX6 ∧ yX6_logged.cls ≠ "java/lang/invoke/MethodHandle" ∧ yX6_logged.cls ≠ "java/lang/invoke/VarHandle" ∧ (parseMethodDescriptor yX6_logged.desc).map (fun d => d.parameters.length) = some 2 := by decide +kernel
set_option maxRecDepth 100000 in
set_option maxHeartbeats 4000000 in
theorem K_logged {cA : Nat → ClassId} {ad : tA} {ex : va_W} {M : tM} {F P : tP} {p w : Int32} (ho : oke P) (hE : okE P) : Cj yX6_logged cX6_logged 4 (some .int) (rmd 0) 0 0 cA ad [.ref (ad 0 0), .int p, .int w] ex (mm M F P) (Qe (some (.int (f_log P p w))) ex (mm M F P)) := by
  refine c_of_r (lv0 := [some (.ref (ad 0 0)), some (.int p), some (.int w), none]) rfl (by decide +kernel) (Nat.le_of_ble_eq_true rfl) rfl ?_
  refine r_iload_n dX6_logged_0 rfl ?_
  refine r_if_lt (tgt := 15) dX6_logged_1 (by decide) (fun c1 => ?_) (fun c1 => ?_)
  · refine r_bipush (v := -11) dX6_logged_15 (by decide) ?_
    first | exact r_ret rfl rfl dX6_logged_17 (show _ = f_log P p w from (if_pos (Or.inl c1)).symm) rfl | exact r_ret rfl rfl dX6_logged_17 (show _ = f_log P p w from (if_pos (Or.inr (Int32.not_lt.mp c12))).symm) rfl
  · refine r_iload_n dX6_logged_4 rfl ?_
    refine r_aload_n dX6_logged_5 rfl ?_
    refine r_getF 0 (by decide) q17 rfl dX6_logged_6 ?_
    refine r_getp_pl is1 6 (by decide) q599 rfl dX6_logged_9 ?_
    refine r_icmp_lt (tgt := 18) dX6_logged_12 (by decide) (fun c12 => ?_) (fun c12 => ?_)
    · refine r_iload_n dX6_logged_18 rfl ?_
      refine r_if_lt (tgt := 27) dX6_logged_19 (by decide) (fun c19 => ?_) (fun c19 => ?_)
      · refine r_bipush (v := -12) dX6_logged_27 (by decide) ?_
        first | exact r_ret rfl rfl dX6_logged_29 (show _ = f_log P p w from ((if_neg (n2 c1 (Int32.not_le.mpr c12))).trans (if_pos (Or.inl c19))).symm) rfl | exact r_ret rfl rfl dX6_logged_29 (show _ = f_log P p w from ((if_neg (n2 c1 (Int32.not_le.mpr c12))).trans (if_pos (Or.inr (Int32.not_lt.mp c24)))).symm) rfl
      · refine r_iload_n dX6_logged_22 rfl ?_
        refine r_iconst (v := 3) dX6_logged_23 (by decide) ?_
        refine r_icmp_lt (tgt := 30) dX6_logged_24 (by decide) (fun c24 => ?_) (fun c24 => ?_)
        · obtain ⟨k, hk1, hk3, hk4⟩ := pos_of hE.1 (by have := hE.2; omega) c1 c12
          obtain ⟨j, hj1, hj3, hj4⟩ := pos_of (y := 3) (n := 3) rfl (by omega) c19 c24
          have hk : k < 16 := by have := hE.2; omega
          have e : f_log P p w = P 3 ((en P + 31 - k) % 16 * 3 + j) := (if_neg (n2 c1 (Int32.not_le.mpr c12))).trans ((if_neg (n2 c19 (Int32.not_le.mpr c24))).trans (by rw [hk4, hj4]))
          have hix := lg_ix ho.1 ho.2 hk
          have hs16 : (en P + 31 - k) % 16 < 16 := Nat.mod_lt _ (by omega)
          subst hk3
          subst hj3
          refine r_aload_n dX6_logged_30 rfl ?_
          refine r_getF 0 (by decide) q17 rfl dX6_logged_31 ?_
          refine r_getp_pl is1 5 (by decide) q600 rfl dX6_logged_34 ?_
          refine r_bipush (v := 32) dX6_logged_37 (by decide) ?_
          refine r_iadd dX6_logged_39 ?_
          refine r_iconst (v := 1) dX6_logged_40 (by decide) ?_
          refine r_isub dX6_logged_41 ?_
          refine r_iload_n dX6_logged_42 rfl ?_
          refine r_isub dX6_logged_43 ?_
          refine r_bipush (v := 16) dX6_logged_44 (by decide) ?_
          refine r_irem dX6_logged_46 (by decide) ?_
          refine r_istore_n dX6_logged_47 (by decide) rfl ?_
          refine r_aload_n dX6_logged_48 rfl ?_
          refine r_getF 0 (by decide) q17 rfl dX6_logged_49 ?_
          refine r_getp_pl is1 4 (by decide) q601 rfl dX6_logged_52 ?_
          refine r_iload_n dX6_logged_55 rfl ?_
          refine r_iconst (v := 3) dX6_logged_56 (by decide) ?_
          refine r_imul dX6_logged_57 ?_
          refine r_iload_n dX6_logged_58 rfl ?_
          refine r_iadd dX6_logged_59 ?_
          refine r_ldp_ev is1 (lg_i2 hix) (by omega) dX6_logged_60 ?_
          exact r_ret rfl rfl dX6_logged_61 e.symm rfl
        · refine r_bipush (v := -12) dX6_logged_27 (by decide) ?_
          first | exact r_ret rfl rfl dX6_logged_29 (show _ = f_log P p w from ((if_neg (n2 c1 (Int32.not_le.mpr c12))).trans (if_pos (Or.inl c19))).symm) rfl | exact r_ret rfl rfl dX6_logged_29 (show _ = f_log P p w from ((if_neg (n2 c1 (Int32.not_le.mpr c12))).trans (if_pos (Or.inr (Int32.not_lt.mp c24)))).symm) rfl
    · refine r_bipush (v := -11) dX6_logged_15 (by decide) ?_
      first | exact r_ret rfl rfl dX6_logged_17 (show _ = f_log P p w from (if_pos (Or.inl c1)).symm) rfl | exact r_ret rfl rfl dX6_logged_17 (show _ = f_log P p w from (if_pos (Or.inr (Int32.not_lt.mp c12))).symm) rfl
def lp_rk (P : tP) (p : Int32) : Nat → Nat → Int32
  | 0, _ => -11
  | n + 1, i => if f_sao P i = p then nI i else lp_rk P p n (i + 1)
def f_rank (P : tP) (p : Int32) : Int32 := lp_rk P p (cn P) 0
theorem rk_a {P : tP} {p : Int32} {n i : Nat} (h : f_sao P i = p) : lp_rk P p (n + 1) i = nI i := if_pos h
theorem rk_b {P : tP} {p : Int32} {n i : Nat} (h : ¬ f_sao P i = p) : lp_rk P p (n + 1) i = lp_rk P p n (i + 1) := if_neg h
theorem dX6_ranked_0 : decode cX6_ranked 0 = .ok (.iconst 0, 1) := by decide +kernel
theorem dX6_ranked_1 : decode cX6_ranked 1 = .ok (.istore_n 2, 1) := by decide +kernel
theorem dX6_ranked_2 : decode cX6_ranked 2 = .ok (.iload_n 2, 1) := by decide +kernel
theorem dX6_ranked_3 : decode cX6_ranked 3 = .ok (.aload_n 0, 1) := by decide +kernel
theorem dX6_ranked_4 : decode cX6_ranked 4 = .ok (.getfield 12, 3) := by decide +kernel
theorem dX6_ranked_7 : decode cX6_ranked 7 = .ok (.getfield 170, 3) := by decide +kernel
theorem dX6_ranked_10 : decode cX6_ranked 10 = .ok (.if_icmp .ge 23, 3) := by decide +kernel
theorem dX6_ranked_13 : decode cX6_ranked 13 = .ok (.aload_n 0, 1) := by decide +kernel
theorem dX6_ranked_14 : decode cX6_ranked 14 = .ok (.getfield 12, 3) := by decide +kernel
theorem dX6_ranked_17 : decode cX6_ranked 17 = .ok (.iload_n 2, 1) := by decide +kernel
theorem dX6_ranked_18 : decode cX6_ranked 18 = .ok (.invokevirtual 173, 3) := by decide +kernel
theorem dX6_ranked_21 : decode cX6_ranked 21 = .ok (.iload_n 1, 1) := by decide +kernel
theorem dX6_ranked_22 : decode cX6_ranked 22 = .ok (.if_icmp .ne 5, 3) := by decide +kernel
theorem dX6_ranked_25 : decode cX6_ranked 25 = .ok (.iload_n 2, 1) := by decide +kernel
theorem dX6_ranked_26 : decode cX6_ranked 26 = .ok (.ireturn, 1) := by decide +kernel
theorem dX6_ranked_27 : decode cX6_ranked 27 = .ok (.iinc 2 1, 3) := by decide +kernel
theorem dX6_ranked_30 : decode cX6_ranked 30 = .ok (.goto (-28), 3) := by decide +kernel
theorem dX6_ranked_33 : decode cX6_ranked 33 = .ok (.bipush (-11), 2) := by decide +kernel
theorem dX6_ranked_35 : decode cX6_ranked 35 = .ok (.ireturn, 1) := by decide +kernel
theorem dcX6_ranked : yX6_ranked.cls = RX6 ∧ yX6_ranked.cls ≠ "java/lang/invoke/MethodHandle" ∧ yX6_ranked.cls ≠ "java/lang/invoke/VarHandle" ∧ (parseMethodDescriptor yX6_ranked.desc).map (fun d => d.parameters.length) = some 1 := by decide +kernel
theorem gX6_ranked_18 : GoodIn wsL_law (wsV RX6 173 RX4 yX4_stepsAheadOf (.code yX4_stepsAheadOf cX4_stepsAheadOf 4 (some .int) :: wsL_law)) := g_V q549 q550 q551 q16 q552
set_option maxRecDepth 100000 in
set_option maxHeartbeats 4000000 in
theorem K_ranked {cA : Nat → ClassId} {ad : tA} {ex : va_W} {M : tM} {F P : tP} {p : Int32} (hoc : okc P) : Cj yX6_ranked cX6_ranked 3 (some .int) (rmd 2) 0 0 cA ad [.ref (ad 0 0), .int p] ex (mm M F P) (Qe (some (.int (f_rank P p))) ex (mm M F P)) := by
  refine c_of_r (lv0 := [some (.ref (ad 0 0)), some (.int p), none]) rfl (by decide +kernel) (Nat.le_of_ble_eq_true rfl) rfl ?_
  have L : ∀ (n i : Nat), i + n = cn P → lp_rk P p n i = f_rank P p → Rj cX6_ranked RX6 3 (some .int) (rmd 2) 0 0 cA ad (Qe (some (.int (f_rank P p))) ex (mm M F P)) ex 0 0 2 [some (.ref (ad 0 0)), some (.int p), some (.int (nI i))] [] (mm M F P) := by
    intro n
    induction n with
    | zero =>
      intro i h hx
      refine r_iload_n dX6_ranked_2 rfl ?_
      refine r_aload_n dX6_ranked_3 rfl ?_
      refine r_getF 0 (by decide) q17 rfl dX6_ranked_4 ?_
      refine r_getp_pl is1 1 (by decide) q153 rfl dX6_ranked_7 ?_
      refine r_icmp_ge (tgt := 33) dX6_ranked_10 (by decide) (fun c10 => ?_) (fun c10 => absurd (lp_z hoc.1 h) c10)
      refine r_bipush (v := -11) dX6_ranked_33 (by decide) ?_
      exact r_ret rfl rfl dX6_ranked_35 hx rfl
    | succ n ih =>
      intro i h hx
      have hi : i < 12 := by have := hoc.2; omega
      refine r_iload_n dX6_ranked_2 rfl ?_
      refine r_aload_n dX6_ranked_3 rfl ?_
      refine r_getF 0 (by decide) q17 rfl dX6_ranked_4 ?_
      refine r_getp_pl is1 1 (by decide) q153 rfl dX6_ranked_7 ?_
      refine r_icmp_ge (tgt := 33) dX6_ranked_10 (by decide) (fun c10 => absurd c10 (lp_s hoc.1 hoc.2 h)) (fun c10 => ?_)
      refine r_aload_n dX6_ranked_13 rfl ?_
      refine r_getF 0 (by decide) q17 rfl dX6_ranked_14 ?_
      refine r_iload_n dX6_ranked_17 rfl ?_
      refine r_cVi dX6_ranked_18 (K_sao (j := i) is1 hoc.1 hoc.2 hi) gX6_ranked_18 dcX4_stepsAheadOf rfl rfl rfl (Nat.le_of_ble_eq_true rfl) (ob_pl is1) ?_
      refine r_iload_n dX6_ranked_21 rfl ?_
      refine r_icmp_ne (tgt := 27) dX6_ranked_22 (by decide) (fun c22 => ?_) (fun c22 => ?_)
      · refine r_iinc dX6_ranked_27 rfl ii_s (by decide) rfl ?_
        refine r_goto (tgt := 2) dX6_ranked_30 (by decide) ?_
        exact ih (i + 1) (by omega) ((rk_b c22).symm.trans hx)
      · refine r_iload_n dX6_ranked_25 rfl ?_
        exact r_ret rfl rfl dX6_ranked_26 ((rk_a c22).symm.trans hx) rfl
  refine r_iconst (v := 0) dX6_ranked_0 (by decide) ?_
  refine r_istore_n dX6_ranked_1 (by decide) rfl ?_
  exact L (cn P) 0 (by omega) rfl
theorem KT_mn {cA : Nat → ClassId} {ad : tA} {ex : va_W} {M : tM} {F P : tP} (hoc : okc P) : Cj yX0_measureByNeeds cX0_measureByNeeds 3 none (rmd 15) 0 0 cA ad [.ref (ad 15 0), .ref (ad 1 0)] ex (mm M F P) (Qe none ex (mm (m_pl M 15 (f_mn P (M 15))) F P)) := by
  have h := K_mn (cA := cA) (ad := ad) (ex := ex) (M := mm M F P) (C0 := M 15) is1 (by omega) (by rw [mm_1]; exact hoc)
  rw [mm_1] at h
  exact cmm (by omega) rfl h
theorem KT_mr {cA : Nat → ClassId} {ad : tA} {ex : va_W} {M : tM} {F P : tP} (hoc : okc P) : Cj yX0_measureByRounds cX0_measureByRounds 5 none (rmd 1) 0 0 cA ad [.ref (ad 15 0), .ref (ad 1 0)] ex (mm M F P) (Qe none ex (mm (m_pl M 15 (f_mr P (M 15))) F P)) := by
  have h := K_mr (cA := cA) (ad := ad) (ex := ex) (M := mm M F P) (C0 := M 15) is1 (by omega) (by rw [mm_1]; exact hoc)
  rw [mm_1] at h
  exact cmm (by omega) rfl h
theorem KT_pst {cA : Nat → ClassId} {ad : tA} {ex : va_W} {M : tM} {F P : tP} {s j : Nat} (hj : j < 12) (hl : okl (M 14)) : Cj yX1_putStep cX1_putStep 4 none (rmd 2) 0 0 cA ad [.ref (ad 14 0), .int (nI s), .ref (ad 1 (4 + j))] ex (mm M F P) (Qe none ex (mm (m_pl M 14 (f_pst (M 14) s (P (4 + j)))) F P)) := by
  have h := K_pst (cA := cA) (ad := ad) (ex := ex) (M := mm M F P) (N0 := M 14) (s := s) is1 (by omega) hj hl
  rw [mm_1] at h
  exact cmm (by omega) rfl h
def t_chain (P C : tP) (s : Int32) : Int32 × tP := if f_hasStep P s = false then (-11, C) else (f_mn P C 1 s.toNatClampNeg, f_mn P C)
def t_chain2 (P C : tP) (s : Int32) : Int32 × tP := if f_hasStep P s = false then (-11, C) else (f_mr P C 2 s.toNatClampNeg, f_mr P C)
theorem dX6_chain_0 : decode cX6_chain 0 = .ok (.aload_n 0, 1) := by decide +kernel
theorem dX6_chain_1 : decode cX6_chain 1 = .ok (.getfield 12, 3) := by decide +kernel
theorem dX6_chain_4 : decode cX6_chain 4 = .ok (.iload_n 1, 1) := by decide +kernel
theorem dX6_chain_5 : decode cX6_chain 5 = .ok (.invokevirtual 77, 3) := by decide +kernel
theorem dX6_chain_8 : decode cX6_chain 8 = .ok (.ifCond .ne 6, 3) := by decide +kernel
theorem dX6_chain_11 : decode cX6_chain 11 = .ok (.bipush (-11), 2) := by decide +kernel
theorem dX6_chain_13 : decode cX6_chain 13 = .ok (.ireturn, 1) := by decide +kernel
theorem dX6_chain_14 : decode cX6_chain 14 = .ok (.aload_n 0, 1) := by decide +kernel
theorem dX6_chain_15 : decode cX6_chain 15 = .ok (.getfield 43, 3) := by decide +kernel
theorem dX6_chain_18 : decode cX6_chain 18 = .ok (.aload_n 0, 1) := by decide +kernel
theorem dX6_chain_19 : decode cX6_chain 19 = .ok (.getfield 12, 3) := by decide +kernel
theorem dX6_chain_22 : decode cX6_chain 22 = .ok (.invokevirtual 149, 3) := by decide +kernel
theorem dX6_chain_25 : decode cX6_chain 25 = .ok (.aload_n 0, 1) := by decide +kernel
theorem dX6_chain_26 : decode cX6_chain 26 = .ok (.getfield 43, 3) := by decide +kernel
theorem dX6_chain_29 : decode cX6_chain 29 = .ok (.getfield 152, 3) := by decide +kernel
theorem dX6_chain_32 : decode cX6_chain 32 = .ok (.iload_n 1, 1) := by decide +kernel
theorem dX6_chain_33 : decode cX6_chain 33 = .ok (.iaload, 1) := by decide +kernel
theorem dX6_chain_34 : decode cX6_chain 34 = .ok (.ireturn, 1) := by decide +kernel
theorem dcX6_chain : yX6_chain.cls = RX6 ∧ yX6_chain.cls ≠ "java/lang/invoke/MethodHandle" ∧ yX6_chain.cls ≠ "java/lang/invoke/VarHandle" ∧ (parseMethodDescriptor yX6_chain.desc).map (fun d => d.parameters.length) = some 1 := by decide +kernel
theorem gX6_chain_5 : GoodIn wsL_law (wsV RX6 77 RX4 yX4_hasStep (.code yX4_hasStep cX4_hasStep 2 (some .boolean) :: wsL_law)) := g_V q317 q318 q319 q16 q320
theorem gX6_chain_22 : GoodIn wsL_law (wsV RX6 149 RX0 yX0_measureByNeeds (.code yX0_measureByNeeds cX0_measureByNeeds 3 none :: wsL_law)) := g_V q442 q443 q444 q31 q445
set_option maxRecDepth 100000 in
set_option maxHeartbeats 4000000 in
theorem K_chain {cA : Nat → ClassId} {ad : tA} {ex : va_W} {M : tM} {F P : tP} {s : Int32} (hoc : okc P) : Cj yX6_chain cX6_chain 2 (some .int) (rmd 16) 0 0 cA ad [.ref (ad 0 0), .int s] ex (mm M F P) (Qe (some (.int (t_chain P (M 15) s).1)) ex (mm (m_pl M 15 (t_chain P (M 15) s).2) F P)) := by
  refine c_of_r (lv0 := [some (.ref (ad 0 0)), some (.int s)]) rfl (by decide +kernel) (Nat.le_of_ble_eq_true rfl) rfl ?_
  refine r_aload_n dX6_chain_0 rfl ?_
  refine r_getF 0 (by decide) q17 rfl dX6_chain_1 ?_
  refine r_iload_n dX6_chain_4 rfl ?_
  refine r_cVi dX6_chain_5 (K_hasStep is1) gX6_chain_5 dcX4_hasStep rfl rfl rfl (Nat.le_of_ble_eq_true rfl) (ob_pl is1) ?_
  refine r_if_ne (tgt := 14) dX6_chain_8 (by decide) (fun c8 => ?_) (fun c8 => ?_)
  · obtain ⟨i, hi1, hi2, hi3, hi4⟩ := hs_of hoc (bt c8)
    have e : t_chain P (M 15) s = (f_mn P (M 15) 1 i, f_mn P (M 15)) := (if_neg (nf_of c8)).trans (by rw [hi4])
    refine r_aload_n dX6_chain_14 rfl ?_
    refine r_getF 9 (by decide) q32 rfl dX6_chain_15 ?_
    refine r_aload_n dX6_chain_18 rfl ?_
    refine r_getF 0 (by decide) q17 rfl dX6_chain_19 ?_
    refine r_cVv dX6_chain_22 (KT_mn hoc) gX6_chain_22 dcX0_measureByNeeds rfl rfl rfl (Nat.le_of_ble_eq_true rfl) ob_ch ?_
    refine r_aload_n dX6_chain_25 rfl ?_
    refine r_getF 9 (by decide) q32 rfl dX6_chain_26 ?_
    refine r_get_ch 0 (by decide) q441 rfl dX6_chain_29 ?_
    refine r_iload_n dX6_chain_32 rfl ?_
    refine r_ldm_cn hi3 hi2 (by rw [m_pl_s]) dX6_chain_33 ?_
    exact r_ret rfl rfl dX6_chain_34 (by rw [e]) (by rw [e])
  · refine r_bipush (v := -11) dX6_chain_11 (by decide) ?_
    exact r_ret rfl rfl dX6_chain_13 (a_a (show t_chain P (M 15) s = _ from if_pos (bF c8))) (a_m (by omega) (show t_chain P (M 15) s = _ from if_pos (bF c8)))
theorem dX6_chainAgain_0 : decode cX6_chainAgain 0 = .ok (.aload_n 0, 1) := by decide +kernel
theorem dX6_chainAgain_1 : decode cX6_chainAgain 1 = .ok (.getfield 12, 3) := by decide +kernel
theorem dX6_chainAgain_4 : decode cX6_chainAgain 4 = .ok (.iload_n 1, 1) := by decide +kernel
theorem dX6_chainAgain_5 : decode cX6_chainAgain 5 = .ok (.invokevirtual 77, 3) := by decide +kernel
theorem dX6_chainAgain_8 : decode cX6_chainAgain 8 = .ok (.ifCond .ne 6, 3) := by decide +kernel
theorem dX6_chainAgain_11 : decode cX6_chainAgain 11 = .ok (.bipush (-11), 2) := by decide +kernel
theorem dX6_chainAgain_13 : decode cX6_chainAgain 13 = .ok (.ireturn, 1) := by decide +kernel
theorem dX6_chainAgain_14 : decode cX6_chainAgain 14 = .ok (.aload_n 0, 1) := by decide +kernel
theorem dX6_chainAgain_15 : decode cX6_chainAgain 15 = .ok (.getfield 43, 3) := by decide +kernel
theorem dX6_chainAgain_18 : decode cX6_chainAgain 18 = .ok (.aload_n 0, 1) := by decide +kernel
theorem dX6_chainAgain_19 : decode cX6_chainAgain 19 = .ok (.getfield 12, 3) := by decide +kernel
theorem dX6_chainAgain_22 : decode cX6_chainAgain 22 = .ok (.invokevirtual 155, 3) := by decide +kernel
theorem dX6_chainAgain_25 : decode cX6_chainAgain 25 = .ok (.aload_n 0, 1) := by decide +kernel
theorem dX6_chainAgain_26 : decode cX6_chainAgain 26 = .ok (.getfield 43, 3) := by decide +kernel
theorem dX6_chainAgain_29 : decode cX6_chainAgain 29 = .ok (.getfield 158, 3) := by decide +kernel
theorem dX6_chainAgain_32 : decode cX6_chainAgain 32 = .ok (.iload_n 1, 1) := by decide +kernel
theorem dX6_chainAgain_33 : decode cX6_chainAgain 33 = .ok (.iaload, 1) := by decide +kernel
theorem dX6_chainAgain_34 : decode cX6_chainAgain 34 = .ok (.ireturn, 1) := by decide +kernel
theorem dcX6_chainAgain : yX6_chainAgain.cls = RX6 ∧ yX6_chainAgain.cls ≠ "java/lang/invoke/MethodHandle" ∧ yX6_chainAgain.cls ≠ "java/lang/invoke/VarHandle" ∧ (parseMethodDescriptor yX6_chainAgain.desc).map (fun d => d.parameters.length) = some 1 := by decide +kernel
theorem gX6_chainAgain_5 : GoodIn wsL_law (wsV RX6 77 RX4 yX4_hasStep (.code yX4_hasStep cX4_hasStep 2 (some .boolean) :: wsL_law)) := g_V q317 q318 q319 q16 q320
theorem gX6_chainAgain_22 : GoodIn wsL_law (wsV RX6 155 RX0 yX0_measureByRounds (.code yX0_measureByRounds cX0_measureByRounds 5 none :: wsL_law)) := g_V q459 q460 q461 q31 q462
set_option maxRecDepth 100000 in
set_option maxHeartbeats 4000000 in
theorem K_chain2 {cA : Nat → ClassId} {ad : tA} {ex : va_W} {M : tM} {F P : tP} {s : Int32} (hoc : okc P) : Cj yX6_chainAgain cX6_chainAgain 2 (some .int) (rmd 16) 0 0 cA ad [.ref (ad 0 0), .int s] ex (mm M F P) (Qe (some (.int (t_chain2 P (M 15) s).1)) ex (mm (m_pl M 15 (t_chain2 P (M 15) s).2) F P)) := by
  refine c_of_r (lv0 := [some (.ref (ad 0 0)), some (.int s)]) rfl (by decide +kernel) (Nat.le_of_ble_eq_true rfl) rfl ?_
  refine r_aload_n dX6_chainAgain_0 rfl ?_
  refine r_getF 0 (by decide) q17 rfl dX6_chainAgain_1 ?_
  refine r_iload_n dX6_chainAgain_4 rfl ?_
  refine r_cVi dX6_chainAgain_5 (K_hasStep is1) gX6_chainAgain_5 dcX4_hasStep rfl rfl rfl (Nat.le_of_ble_eq_true rfl) (ob_pl is1) ?_
  refine r_if_ne (tgt := 14) dX6_chainAgain_8 (by decide) (fun c8 => ?_) (fun c8 => ?_)
  · obtain ⟨i, hi1, hi2, hi3, hi4⟩ := hs_of hoc (bt c8)
    have e : t_chain2 P (M 15) s = (f_mr P (M 15) 2 i, f_mr P (M 15)) := (if_neg (nf_of c8)).trans (by rw [hi4])
    refine r_aload_n dX6_chainAgain_14 rfl ?_
    refine r_getF 9 (by decide) q32 rfl dX6_chainAgain_15 ?_
    refine r_aload_n dX6_chainAgain_18 rfl ?_
    refine r_getF 0 (by decide) q17 rfl dX6_chainAgain_19 ?_
    refine r_cVv dX6_chainAgain_22 (KT_mr hoc) gX6_chainAgain_22 dcX0_measureByRounds rfl rfl rfl (Nat.le_of_ble_eq_true rfl) ob_ch ?_
    refine r_aload_n dX6_chainAgain_25 rfl ?_
    refine r_getF 9 (by decide) q32 rfl dX6_chainAgain_26 ?_
    refine r_get_ch 1 (by decide) q458 rfl dX6_chainAgain_29 ?_
    refine r_iload_n dX6_chainAgain_32 rfl ?_
    refine r_ldm_cr hi3 hi2 (by rw [m_pl_s]) dX6_chainAgain_33 ?_
    exact r_ret rfl rfl dX6_chainAgain_34 (by rw [e]) (by rw [e])
  · refine r_bipush (v := -11) dX6_chainAgain_11 (by decide) ?_
    exact r_ret rfl rfl dX6_chainAgain_13 (a_a (show t_chain2 P (M 15) s = _ from if_pos (bF c8))) (a_m (by omega) (show t_chain2 P (M 15) s = _ from if_pos (bF c8)))
end
section
theorem zz_end : True := trivial
end

-- ===== PART A: goes FIRST, ahead of the names: the tables' words, and 'selects' of the private methods out of them =====
/-- a private method of a class that the tables say can be made, by its rows of tables_1 -/
def lw_okq (q : MethodName × Nat) : Prop := (q.1.cls ≠ "java/lang/invoke/MethodHandle" ∧ q.1.cls ≠ "java/lang/invoke/VarHandle") ∧ Cond.instantiable q.1.cls q.2 ∈ tables_1 ∧ Cond.privateMethod q.1 ∈ tables_1 ∧ Cond.instanceMethod q.1 ∈ tables_1
theorem lw_p0 : lw_okq (⟨"TrousseauFlow", "markBefore", "()V"⟩, 13) := ⟨⟨by decide +kernel, by decide +kernel⟩, List.mem_of_getElem? (i := 23) (by decide +kernel), List.mem_of_getElem? (i := 296) (by decide +kernel), List.mem_of_getElem? (i := 297) (by decide +kernel)⟩
theorem lw_p1 : lw_okq (⟨"TrousseauFlow", "tellStep", "(IIIZ)I"⟩, 13) := ⟨⟨by decide +kernel, by decide +kernel⟩, List.mem_of_getElem? (i := 23) (by decide +kernel), List.mem_of_getElem? (i := 311) (by decide +kernel), List.mem_of_getElem? (i := 312) (by decide +kernel)⟩
theorem lw_p2 : lw_okq (⟨"TrousseauFlow", "refuse", "(II)I"⟩, 13) := ⟨⟨by decide +kernel, by decide +kernel⟩, List.mem_of_getElem? (i := 23) (by decide +kernel), List.mem_of_getElem? (i := 318) (by decide +kernel), List.mem_of_getElem? (i := 319) (by decide +kernel)⟩
theorem lw_p3 : lw_okq (⟨"TrousseauFlow$Plan", "turn", "(III)V"⟩, 14) := ⟨⟨by decide +kernel, by decide +kernel⟩, List.mem_of_getElem? (i := 31) (by decide +kernel), List.mem_of_getElem? (i := 334) (by decide +kernel), List.mem_of_getElem? (i := 335) (by decide +kernel)⟩
theorem lw_p4 : lw_okq (⟨"TrousseauFlow", "keepChange", "(I)I"⟩, 13) := ⟨⟨by decide +kernel, by decide +kernel⟩, List.mem_of_getElem? (i := 23) (by decide +kernel), List.mem_of_getElem? (i := 338) (by decide +kernel), List.mem_of_getElem? (i := 339) (by decide +kernel)⟩
theorem lw_p5 : lw_okq (⟨"TrousseauFlow", "tellNeed", "(II)I"⟩, 13) := ⟨⟨by decide +kernel, by decide +kernel⟩, List.mem_of_getElem? (i := 23) (by decide +kernel), List.mem_of_getElem? (i := 346) (by decide +kernel), List.mem_of_getElem? (i := 347) (by decide +kernel)⟩
theorem lw_p6 : lw_okq (⟨"TrousseauFlow", "setHands", "(I)I"⟩, 13) := ⟨⟨by decide +kernel, by decide +kernel⟩, List.mem_of_getElem? (i := 23) (by decide +kernel), List.mem_of_getElem? (i := 368) (by decide +kernel), List.mem_of_getElem? (i := 369) (by decide +kernel)⟩
theorem lw_p7 : lw_okq (⟨"TrousseauFlow", "tellMilestone", "(II)I"⟩, 13) := ⟨⟨by decide +kernel, by decide +kernel⟩, List.mem_of_getElem? (i := 23) (by decide +kernel), List.mem_of_getElem? (i := 376) (by decide +kernel), List.mem_of_getElem? (i := 377) (by decide +kernel)⟩
theorem lw_p8 : lw_okq (⟨"TrousseauFlow", "letDaysGo", "(I)I"⟩, 13) := ⟨⟨by decide +kernel, by decide +kernel⟩, List.mem_of_getElem? (i := 23) (by decide +kernel), List.mem_of_getElem? (i := 388) (by decide +kernel), List.mem_of_getElem? (i := 389) (by decide +kernel)⟩
theorem lw_p9 : lw_okq (⟨"TrousseauFlow$Plan", "workOn", "(I)V"⟩, 14) := ⟨⟨by decide +kernel, by decide +kernel⟩, List.mem_of_getElem? (i := 31) (by decide +kernel), List.mem_of_getElem? (i := 396) (by decide +kernel), List.mem_of_getElem? (i := 397) (by decide +kernel)⟩
theorem lw_p10 : lw_okq (⟨"TrousseauFlow$Plan", "undoInBranch", "(I)V"⟩, 14) := ⟨⟨by decide +kernel, by decide +kernel⟩, List.mem_of_getElem? (i := 31) (by decide +kernel), List.mem_of_getElem? (i := 408) (by decide +kernel), List.mem_of_getElem? (i := 409) (by decide +kernel)⟩
theorem lw_p11 : lw_okq (⟨"TrousseauFlow$Plan", "firstToUndo", "(I)I"⟩, 14) := ⟨⟨by decide +kernel, by decide +kernel⟩, List.mem_of_getElem? (i := 31) (by decide +kernel), List.mem_of_getElem? (i := 412) (by decide +kernel), List.mem_of_getElem? (i := 413) (by decide +kernel)⟩
theorem lw_p12 : lw_okq (⟨"TrousseauFlow$Plan", "leaveOutHopeless", "()V"⟩, 14) := ⟨⟨by decide +kernel, by decide +kernel⟩, List.mem_of_getElem? (i := 31) (by decide +kernel), List.mem_of_getElem? (i := 416) (by decide +kernel), List.mem_of_getElem? (i := 417) (by decide +kernel)⟩
theorem lw_p13 : lw_okq (⟨"TrousseauFlow$Plan", "lowestHopeless", "(I)I"⟩, 14) := ⟨⟨by decide +kernel, by decide +kernel⟩, List.mem_of_getElem? (i := 31) (by decide +kernel), List.mem_of_getElem? (i := 428) (by decide +kernel), List.mem_of_getElem? (i := 429) (by decide +kernel)⟩
theorem lw_p14 : lw_okq (⟨"TrousseauFlow$Plan", "beginTries", "()V"⟩, 14) := ⟨⟨by decide +kernel, by decide +kernel⟩, List.mem_of_getElem? (i := 31) (by decide +kernel), List.mem_of_getElem? (i := 436) (by decide +kernel), List.mem_of_getElem? (i := 437) (by decide +kernel)⟩
theorem lw_p15 : lw_okq (⟨"TrousseauFlow$Plan", "firstToBegin", "(I)I"⟩, 14) := ⟨⟨by decide +kernel, by decide +kernel⟩, List.mem_of_getElem? (i := 31) (by decide +kernel), List.mem_of_getElem? (i := 449) (by decide +kernel), List.mem_of_getElem? (i := 450) (by decide +kernel)⟩
def lw_privs_1 : List (MethodName × Nat) := [(⟨"TrousseauFlow", "markBefore", "()V"⟩, 13), (⟨"TrousseauFlow", "tellStep", "(IIIZ)I"⟩, 13), (⟨"TrousseauFlow", "refuse", "(II)I"⟩, 13), (⟨"TrousseauFlow$Plan", "turn", "(III)V"⟩, 14), (⟨"TrousseauFlow", "keepChange", "(I)I"⟩, 13), (⟨"TrousseauFlow", "tellNeed", "(II)I"⟩, 13), (⟨"TrousseauFlow", "setHands", "(I)I"⟩, 13), (⟨"TrousseauFlow", "tellMilestone", "(II)I"⟩, 13), (⟨"TrousseauFlow", "letDaysGo", "(I)I"⟩, 13), (⟨"TrousseauFlow$Plan", "workOn", "(I)V"⟩, 14), (⟨"TrousseauFlow$Plan", "undoInBranch", "(I)V"⟩, 14), (⟨"TrousseauFlow$Plan", "firstToUndo", "(I)I"⟩, 14), (⟨"TrousseauFlow$Plan", "leaveOutHopeless", "()V"⟩, 14), (⟨"TrousseauFlow$Plan", "lowestHopeless", "(I)I"⟩, 14), (⟨"TrousseauFlow$Plan", "beginTries", "()V"⟩, 14), (⟨"TrousseauFlow$Plan", "firstToBegin", "(I)I"⟩, 14)]
theorem lw_r1 : ∀ q ∈ lw_privs_1, lw_okq q := List.forall_mem_cons.mpr ⟨lw_p0, List.forall_mem_cons.mpr ⟨lw_p1, List.forall_mem_cons.mpr ⟨lw_p2, List.forall_mem_cons.mpr ⟨lw_p3, List.forall_mem_cons.mpr ⟨lw_p4, List.forall_mem_cons.mpr ⟨lw_p5, List.forall_mem_cons.mpr ⟨lw_p6, List.forall_mem_cons.mpr ⟨lw_p7, List.forall_mem_cons.mpr ⟨lw_p8, List.forall_mem_cons.mpr ⟨lw_p9, List.forall_mem_cons.mpr ⟨lw_p10, List.forall_mem_cons.mpr ⟨lw_p11, List.forall_mem_cons.mpr ⟨lw_p12, List.forall_mem_cons.mpr ⟨lw_p13, List.forall_mem_cons.mpr ⟨lw_p14, List.forall_mem_cons.mpr ⟨lw_p15, fun _ h => absurd h List.not_mem_nil⟩⟩⟩⟩⟩⟩⟩⟩⟩⟩⟩⟩⟩⟩⟩⟩
theorem lw_p16 : lw_okq (⟨"TrousseauFlow$Chains", "lengthen", "(LTrousseauFlow$Plan;I)Z"⟩, 2) := ⟨⟨by decide +kernel, by decide +kernel⟩, List.mem_of_getElem? (i := 237) (by decide +kernel), List.mem_of_getElem? (i := 488) (by decide +kernel), List.mem_of_getElem? (i := 489) (by decide +kernel)⟩
theorem lw_p17 : lw_okq (⟨"TrousseauFlow$OrderText", "readOrder", "(LTrousseauFlow$Order;)Z"⟩, 5) := ⟨⟨by decide +kernel, by decide +kernel⟩, List.mem_of_getElem? (i := 168) (by decide +kernel), List.mem_of_getElem? (i := 508) (by decide +kernel), List.mem_of_getElem? (i := 509) (by decide +kernel)⟩
theorem lw_p18 : lw_okq (⟨"TrousseauFlow$OrderText", "readStep", "(LTrousseauFlow$Order;)Z"⟩, 5) := ⟨⟨by decide +kernel, by decide +kernel⟩, List.mem_of_getElem? (i := 168) (by decide +kernel), List.mem_of_getElem? (i := 512) (by decide +kernel), List.mem_of_getElem? (i := 513) (by decide +kernel)⟩
theorem lw_p19 : lw_okq (⟨"TrousseauFlow$OrderText", "readOne", "(LTrousseauFlow$Order;Ljava/lang/String;I)Z"⟩, 5) := ⟨⟨by decide +kernel, by decide +kernel⟩, List.mem_of_getElem? (i := 168) (by decide +kernel), List.mem_of_getElem? (i := 517) (by decide +kernel), List.mem_of_getElem? (i := 518) (by decide +kernel)⟩
theorem lw_p20 : lw_okq (⟨"TrousseauFlow$OrderText", "takeWord", "(Ljava/lang/String;)Z"⟩, 5) := ⟨⟨by decide +kernel, by decide +kernel⟩, List.mem_of_getElem? (i := 168) (by decide +kernel), List.mem_of_getElem? (i := 521) (by decide +kernel), List.mem_of_getElem? (i := 522) (by decide +kernel)⟩
theorem lw_p21 : lw_okq (⟨"TrousseauFlow$OrderText", "takeSign", "(C)Z"⟩, 5) := ⟨⟨by decide +kernel, by decide +kernel⟩, List.mem_of_getElem? (i := 168) (by decide +kernel), List.mem_of_getElem? (i := 573) (by decide +kernel), List.mem_of_getElem? (i := 574) (by decide +kernel)⟩
theorem lw_p22 : lw_okq (⟨"TrousseauFlow$OrderText", "takeNumber", "(I)I"⟩, 5) := ⟨⟨by decide +kernel, by decide +kernel⟩, List.mem_of_getElem? (i := 168) (by decide +kernel), List.mem_of_getElem? (i := 577) (by decide +kernel), List.mem_of_getElem? (i := 578) (by decide +kernel)⟩
theorem lw_p23 : lw_okq (⟨"TrousseauFlow$OrderText", "readPair", "(LTrousseauFlow$Order;Ljava/lang/String;CI)Z"⟩, 5) := ⟨⟨by decide +kernel, by decide +kernel⟩, List.mem_of_getElem? (i := 168) (by decide +kernel), List.mem_of_getElem? (i := 583) (by decide +kernel), List.mem_of_getElem? (i := 584) (by decide +kernel)⟩
theorem lw_p24 : lw_okq (⟨"TrousseauFlow", "carryOut", "(LTrousseauFlow$Order;)I"⟩, 13) := ⟨⟨by decide +kernel, by decide +kernel⟩, List.mem_of_getElem? (i := 23) (by decide +kernel), List.mem_of_getElem? (i := 592) (by decide +kernel), List.mem_of_getElem? (i := 593) (by decide +kernel)⟩
theorem lw_p25 : lw_okq (⟨"TrousseauFlow", "tellFault", "(II)I"⟩, 13) := ⟨⟨by decide +kernel, by decide +kernel⟩, List.mem_of_getElem? (i := 23) (by decide +kernel), List.mem_of_getElem? (i := 596) (by decide +kernel), List.mem_of_getElem? (i := 597) (by decide +kernel)⟩
theorem lw_p26 : lw_okq (⟨"TrousseauFlow", "tellCancel", "(I)I"⟩, 13) := ⟨⟨by decide +kernel, by decide +kernel⟩, List.mem_of_getElem? (i := 23) (by decide +kernel), List.mem_of_getElem? (i := 601) (by decide +kernel), List.mem_of_getElem? (i := 602) (by decide +kernel)⟩
theorem lw_p27 : lw_okq (⟨"TrousseauFlow$Plan", "isRankedAhead", "(II)Z"⟩, 14) := ⟨⟨by decide +kernel, by decide +kernel⟩, List.mem_of_getElem? (i := 31) (by decide +kernel), List.mem_of_getElem? (i := 694) (by decide +kernel), List.mem_of_getElem? (i := 695) (by decide +kernel)⟩
theorem lw_p28 : lw_okq (⟨"TrousseauFlow$Line", "putNumber", "(I)V"⟩, 2) := ⟨⟨by decide +kernel, by decide +kernel⟩, List.mem_of_getElem? (i := 222) (by decide +kernel), List.mem_of_getElem? (i := 706) (by decide +kernel), List.mem_of_getElem? (i := 707) (by decide +kernel)⟩
theorem lw_p29 : lw_okq (⟨"TrousseauFlow$Line", "putSign", "(C)V"⟩, 2) := ⟨⟨by decide +kernel, by decide +kernel⟩, List.mem_of_getElem? (i := 222) (by decide +kernel), List.mem_of_getElem? (i := 710) (by decide +kernel), List.mem_of_getElem? (i := 711) (by decide +kernel)⟩
def lw_privs_2 : List (MethodName × Nat) := [(⟨"TrousseauFlow$Chains", "lengthen", "(LTrousseauFlow$Plan;I)Z"⟩, 2), (⟨"TrousseauFlow$OrderText", "readOrder", "(LTrousseauFlow$Order;)Z"⟩, 5), (⟨"TrousseauFlow$OrderText", "readStep", "(LTrousseauFlow$Order;)Z"⟩, 5), (⟨"TrousseauFlow$OrderText", "readOne", "(LTrousseauFlow$Order;Ljava/lang/String;I)Z"⟩, 5), (⟨"TrousseauFlow$OrderText", "takeWord", "(Ljava/lang/String;)Z"⟩, 5), (⟨"TrousseauFlow$OrderText", "takeSign", "(C)Z"⟩, 5), (⟨"TrousseauFlow$OrderText", "takeNumber", "(I)I"⟩, 5), (⟨"TrousseauFlow$OrderText", "readPair", "(LTrousseauFlow$Order;Ljava/lang/String;CI)Z"⟩, 5), (⟨"TrousseauFlow", "carryOut", "(LTrousseauFlow$Order;)I"⟩, 13), (⟨"TrousseauFlow", "tellFault", "(II)I"⟩, 13), (⟨"TrousseauFlow", "tellCancel", "(I)I"⟩, 13), (⟨"TrousseauFlow$Plan", "isRankedAhead", "(II)Z"⟩, 14), (⟨"TrousseauFlow$Line", "putNumber", "(I)V"⟩, 2), (⟨"TrousseauFlow$Line", "putSign", "(C)V"⟩, 2)]
theorem lw_r2 : ∀ q ∈ lw_privs_2, lw_okq q := List.forall_mem_cons.mpr ⟨lw_p16, List.forall_mem_cons.mpr ⟨lw_p17, List.forall_mem_cons.mpr ⟨lw_p18, List.forall_mem_cons.mpr ⟨lw_p19, List.forall_mem_cons.mpr ⟨lw_p20, List.forall_mem_cons.mpr ⟨lw_p21, List.forall_mem_cons.mpr ⟨lw_p22, List.forall_mem_cons.mpr ⟨lw_p23, List.forall_mem_cons.mpr ⟨lw_p24, List.forall_mem_cons.mpr ⟨lw_p25, List.forall_mem_cons.mpr ⟨lw_p26, List.forall_mem_cons.mpr ⟨lw_p27, List.forall_mem_cons.mpr ⟨lw_p28, List.forall_mem_cons.mpr ⟨lw_p29, fun _ h => absurd h List.not_mem_nil⟩⟩⟩⟩⟩⟩⟩⟩⟩⟩⟩⟩⟩⟩
def lw_privs : List (MethodName × Nat) := lw_privs_1 ++ (lw_privs_2)
def lw_tbl : List Cond := k2_sels lw_privs ++ tables_1
theorem lw_privs_ok : ∀ q ∈ lw_privs, lw_okq q := by
  show ∀ q ∈ lw_privs_1 ++ (lw_privs_2), lw_okq q
  exact List.forall_mem_append.mpr ⟨lw_r1, lw_r2⟩
/-- the streams that the claim lets the run draw from -/
abbrev lw_cs : List Choice := [Jvm.Choice.named "NaN.bits"]
theorem lw_bits : nanBits ∈ lw_cs := by first | decide | exact List.mem_cons_self | simp [lw_cs, nanBits]
-- ===== end of PART A; then your names; then what follows =====
theorem goodIn_r {big : List Cond} (ws : List Cond) (ps : List Nat) (hp : ws = ps.filterMap (fun i => big[i]?)) (h : ws.all goodWord = true) : GoodIn big ws := by
  intro w hw
  have h1 := List.all_eq_true.mp h w hw
  rw [hp] at hw
  obtain ⟨i, -, hi⟩ := List.mem_filterMap.mp hw
  have hm : w ∈ big := by first | exact List.mem_of_getElem? hi | exact List.getElem?_mem hi
  exact ⟨hm, good_of_word h1⟩
def RX0 : String := "TrousseauFlow$Chains"
def TX0 : u_T := fun k => match k with
  | 0 => ("TrousseauFlow$Chains", "byNeeds", "[I", true)
  | _ => ("TrousseauFlow$Chains", "byRounds", "[I", true)
def tyX0 : Nat → FieldType := fun k => match k with
  | 0 => .array .int
  | _ => .array .int
abbrev wsX00 : List Cond := u_ws RX0 TX0 2
theorem nmX0 : ∀ a, a < 2 → ∀ b, b < 2 → a ≠ b → (TX0 a).2.1 ≠ (TX0 b).2.1 := by decide +kernel
theorem tyX0_ok : ∀ k, k < 2 → parseFieldDescriptor (TX0 k).2.2.1 = some (tyX0 k) := by decide +kernel
abbrev cX0_init : ByteArray := prog_2_method_1_code
def yX0_init : MethodName := ⟨RX0, "<init>", "()V"⟩
abbrev cX0_measureByNeeds : ByteArray := prog_2_method_2_code
def yX0_measureByNeeds : MethodName := ⟨RX0, "measureByNeeds", "(LTrousseauFlow$Plan;)V"⟩
abbrev cX0_longest : ByteArray := prog_2_method_3_code
def yX0_longest : MethodName := ⟨RX0, "longest", "(LTrousseauFlow$Plan;I[II)I"⟩
abbrev cX0_measureByRounds : ByteArray := prog_2_method_4_code
def yX0_measureByRounds : MethodName := ⟨RX0, "measureByRounds", "(LTrousseauFlow$Plan;)V"⟩
abbrev cX0_lengthen : ByteArray := prog_2_method_5_code
def yX0_lengthen : MethodName := ⟨RX0, "lengthen", "(LTrousseauFlow$Plan;I)Z"⟩
def RX1 : String := "TrousseauFlow$Line"
def TX1 : u_T := fun k => match k with
  | 0 => ("TrousseauFlow$Line", "signs", "[C", true)
  | _ => ("TrousseauFlow$Line", "length", "I", false)
def tyX1 : Nat → FieldType := fun k => match k with
  | 0 => .array .char
  | _ => .int
abbrev wsX10 : List Cond := u_ws RX1 TX1 2
theorem nmX1 : ∀ a, a < 2 → ∀ b, b < 2 → a ≠ b → (TX1 a).2.1 ≠ (TX1 b).2.1 := by decide +kernel
theorem tyX1_ok : ∀ k, k < 2 → parseFieldDescriptor (TX1 k).2.2.1 = some (tyX1 k) := by decide +kernel
abbrev cX1_init : ByteArray := prog_3_method_1_code
def yX1_init : MethodName := ⟨RX1, "<init>", "()V"⟩
abbrev cX1_putStep : ByteArray := prog_3_method_2_code
def yX1_putStep : MethodName := ⟨RX1, "putStep", "(ILTrousseauFlow$Step;)V"⟩
abbrev cX1_putLetterOf : ByteArray := prog_3_method_3_code
def yX1_putLetterOf : MethodName := ⟨RX1, "putLetterOf", "(I)V"⟩
abbrev cX1_putNumber : ByteArray := prog_3_method_4_code
def yX1_putNumber : MethodName := ⟨RX1, "putNumber", "(I)V"⟩
abbrev cX1_putSign : ByteArray := prog_3_method_5_code
def yX1_putSign : MethodName := ⟨RX1, "putSign", "(C)V"⟩
def RX2 : String := "TrousseauFlow$Order"
def TX2 : u_T := fun k => match k with
  | 0 => ("TrousseauFlow$Order", "kind", "C", false)
  | 1 => ("TrousseauFlow$Order", "first", "I", false)
  | 2 => ("TrousseauFlow$Order", "second", "I", false)
  | 3 => ("TrousseauFlow$Order", "third", "I", false)
  | _ => ("TrousseauFlow$Order", "isAny", "Z", false)
def tyX2 : Nat → FieldType := fun k => match k with
  | 0 => .char
  | 1 => .int
  | 2 => .int
  | 3 => .int
  | _ => .boolean
abbrev wsX20 : List Cond := u_ws RX2 TX2 5
theorem nmX2 : ∀ a, a < 5 → ∀ b, b < 5 → a ≠ b → (TX2 a).2.1 ≠ (TX2 b).2.1 := by decide +kernel
theorem tyX2_ok : ∀ k, k < 5 → parseFieldDescriptor (TX2 k).2.2.1 = some (tyX2 k) := by decide +kernel
abbrev cX2_init : ByteArray := prog_4_method_1_code
def yX2_init : MethodName := ⟨RX2, "<init>", "()V"⟩
def RX3 : String := "TrousseauFlow$OrderText"
def TX3 : u_T := fun k => match k with
  | 0 => ("TrousseauFlow$OrderText", "signs", "[C", true)
  | 1 => ("TrousseauFlow$OrderText", "length", "I", false)
  | 2 => ("TrousseauFlow$OrderText", "at", "I", false)
  | 3 => ("TrousseauFlow$OrderText", "orders", "[LTrousseauFlow$Order;", true)
  | _ => ("TrousseauFlow$OrderText", "orderCount", "I", false)
def tyX3 : Nat → FieldType := fun k => match k with
  | 0 => .array .char
  | 1 => .int
  | 2 => .int
  | 3 => .array (.object "TrousseauFlow$Order")
  | _ => .int
abbrev wsX30 : List Cond := u_ws RX3 TX3 5
theorem nmX3 : ∀ a, a < 5 → ∀ b, b < 5 → a ≠ b → (TX3 a).2.1 ≠ (TX3 b).2.1 := by decide +kernel
theorem tyX3_ok : ∀ k, k < 5 → parseFieldDescriptor (TX3 k).2.2.1 = some (tyX3 k) := by decide +kernel
abbrev cX3_init : ByteArray := prog_5_method_1_code
def yX3_init : MethodName := ⟨RX3, "<init>", "()V"⟩
abbrev cX3_addSign : ByteArray := prog_5_method_2_code
def yX3_addSign : MethodName := ⟨RX3, "addSign", "(C)V"⟩
abbrev cX3_readOrders : ByteArray := prog_5_method_3_code
def yX3_readOrders : MethodName := ⟨RX3, "readOrders", "()I"⟩
abbrev cX3_readOrder : ByteArray := prog_5_method_4_code
def yX3_readOrder : MethodName := ⟨RX3, "readOrder", "(LTrousseauFlow$Order;)Z"⟩
abbrev cX3_readStep : ByteArray := prog_5_method_5_code
def yX3_readStep : MethodName := ⟨RX3, "readStep", "(LTrousseauFlow$Order;)Z"⟩
abbrev cX3_readPair : ByteArray := prog_5_method_6_code
def yX3_readPair : MethodName := ⟨RX3, "readPair", "(LTrousseauFlow$Order;Ljava/lang/String;CI)Z"⟩
abbrev cX3_readOne : ByteArray := prog_5_method_7_code
def yX3_readOne : MethodName := ⟨RX3, "readOne", "(LTrousseauFlow$Order;Ljava/lang/String;I)Z"⟩
abbrev cX3_takeWord : ByteArray := prog_5_method_8_code
def yX3_takeWord : MethodName := ⟨RX3, "takeWord", "(Ljava/lang/String;)Z"⟩
abbrev cX3_takeSign : ByteArray := prog_5_method_9_code
def yX3_takeSign : MethodName := ⟨RX3, "takeSign", "(C)Z"⟩
abbrev cX3_takeNumber : ByteArray := prog_5_method_10_code
def yX3_takeNumber : MethodName := ⟨RX3, "takeNumber", "(I)I"⟩
def RX4 : String := "TrousseauFlow$Plan"
def TX4 : u_T := fun k => match k with
  | 0 => ("TrousseauFlow$Plan", "steps", "[LTrousseauFlow$Step;", true)
  | 1 => ("TrousseauFlow$Plan", "count", "I", false)
  | 2 => ("TrousseauFlow$Plan", "milestones", "[I", true)
  | 3 => ("TrousseauFlow$Plan", "milestoneCount", "I", false)
  | 4 => ("TrousseauFlow$Plan", "events", "[I", true)
  | 5 => ("TrousseauFlow$Plan", "nextEvent", "I", false)
  | 6 => ("TrousseauFlow$Plan", "eventCount", "I", false)
  | 7 => ("TrousseauFlow$Plan", "day", "I", false)
  | 8 => ("TrousseauFlow$Plan", "handCount", "I", false)
  | 9 => ("TrousseauFlow$Plan", "cancelled", "I", false)
  | 10 => ("TrousseauFlow$Plan", "triesBegun", "I", false)
  | 11 => ("TrousseauFlow$Plan", "triesWrong", "I", false)
  | 12 => ("TrousseauFlow$Plan", "doneSoFar", "I", false)
  | _ => ("TrousseauFlow$Plan", "undoneSoFar", "I", false)
def tyX4 : Nat → FieldType := fun k => match k with
  | 0 => .array (.object "TrousseauFlow$Step")
  | 1 => .int
  | 2 => .array .int
  | 3 => .int
  | 4 => .array .int
  | 5 => .int
  | 6 => .int
  | 7 => .int
  | 8 => .int
  | 9 => .int
  | 10 => .int
  | 11 => .int
  | 12 => .int
  | _ => .int
abbrev wsX40 : List Cond := u_ws RX4 TX4 14
theorem nmX4 : ∀ a, a < 14 → ∀ b, b < 14 → a ≠ b → (TX4 a).2.1 ≠ (TX4 b).2.1 := by decide +kernel
theorem tyX4_ok : ∀ k, k < 14 → parseFieldDescriptor (TX4 k).2.2.1 = some (tyX4 k) := by decide +kernel
abbrev cX4_init : ByteArray := prog_6_method_1_code
def yX4_init : MethodName := ⟨RX4, "<init>", "()V"⟩
abbrev cX4_copyFrom : ByteArray := prog_6_method_2_code
def yX4_copyFrom : MethodName := ⟨RX4, "copyFrom", "(LTrousseauFlow$Plan;)V"⟩
abbrev cX4_hasStep : ByteArray := prog_6_method_3_code
def yX4_hasStep : MethodName := ⟨RX4, "hasStep", "(I)Z"⟩
abbrev cX4_addStep : ByteArray := prog_6_method_4_code
def yX4_addStep : MethodName := ⟨RX4, "addStep", "(IIIZ)I"⟩
abbrev cX4_addMilestone : ByteArray := prog_6_method_5_code
def yX4_addMilestone : MethodName := ⟨RX4, "addMilestone", "(II)I"⟩
abbrev cX4_lateBy : ByteArray := prog_6_method_6_code
def yX4_lateBy : MethodName := ⟨RX4, "lateBy", "(I)I"⟩
abbrev cX4_countOf : ByteArray := prog_6_method_7_code
def yX4_countOf : MethodName := ⟨RX4, "countOf", "(I)I"⟩
abbrev cX4_setOf : ByteArray := prog_6_method_8_code
def yX4_setOf : MethodName := ⟨RX4, "setOf", "(I)I"⟩
abbrev cX4_setOfOff : ByteArray := prog_6_method_9_code
def yX4_setOfOff : MethodName := ⟨RX4, "setOfOff", "()I"⟩
abbrev cX4_isReady : ByteArray := prog_6_method_10_code
def yX4_isReady : MethodName := ⟨RX4, "isReady", "(II)Z"⟩
abbrev cX4_isHopeless : ByteArray := prog_6_method_11_code
def yX4_isHopeless : MethodName := ⟨RX4, "isHopeless", "(II)Z"⟩
abbrev cX4_needsOverAll : ByteArray := prog_6_method_12_code
def yX4_needsOverAll : MethodName := ⟨RX4, "needsOverAll", "(II)Z"⟩
abbrev cX4_stepsAheadOf : ByteArray := prog_6_method_13_code
def yX4_stepsAheadOf : MethodName := ⟨RX4, "stepsAheadOf", "(I)I"⟩
abbrev cX4_isRankedAhead : ByteArray := prog_6_method_14_code
def yX4_isRankedAhead : MethodName := ⟨RX4, "isRankedAhead", "(II)Z"⟩
abbrev cX4_isCancelled : ByteArray := prog_6_method_15_code
def yX4_isCancelled : MethodName := ⟨RX4, "isCancelled", "(I)Z"⟩
abbrev cX4_cancelBranch : ByteArray := prog_6_method_16_code
def yX4_cancelBranch : MethodName := ⟨RX4, "cancelBranch", "(I)I"⟩
abbrev cX4_passDay : ByteArray := prog_6_method_17_code
def yX4_passDay : MethodName := ⟨RX4, "passDay", "()V"⟩
abbrev cX4_workOn : ByteArray := prog_6_method_18_code
def yX4_workOn : MethodName := ⟨RX4, "workOn", "(I)V"⟩
abbrev cX4_undoInBranch : ByteArray := prog_6_method_19_code
def yX4_undoInBranch : MethodName := ⟨RX4, "undoInBranch", "(I)V"⟩
abbrev cX4_firstToUndo : ByteArray := prog_6_method_20_code
def yX4_firstToUndo : MethodName := ⟨RX4, "firstToUndo", "(I)I"⟩
abbrev cX4_leaveOutHopeless : ByteArray := prog_6_method_21_code
def yX4_leaveOutHopeless : MethodName := ⟨RX4, "leaveOutHopeless", "()V"⟩
abbrev cX4_lowestHopeless : ByteArray := prog_6_method_22_code
def yX4_lowestHopeless : MethodName := ⟨RX4, "lowestHopeless", "(I)I"⟩
abbrev cX4_beginTries : ByteArray := prog_6_method_23_code
def yX4_beginTries : MethodName := ⟨RX4, "beginTries", "()V"⟩
abbrev cX4_firstToBegin : ByteArray := prog_6_method_24_code
def yX4_firstToBegin : MethodName := ⟨RX4, "firstToBegin", "(I)I"⟩
abbrev cX4_turn : ByteArray := prog_6_method_25_code
def yX4_turn : MethodName := ⟨RX4, "turn", "(III)V"⟩
def RX5 : String := "TrousseauFlow$Step"
def TX5 : u_T := fun k => match k with
  | 0 => ("TrousseauFlow$Step", "days", "I", false)
  | 1 => ("TrousseauFlow$Step", "more", "I", false)
  | 2 => ("TrousseauFlow$Step", "branch", "I", false)
  | 3 => ("TrousseauFlow$Step", "isAny", "Z", false)
  | 4 => ("TrousseauFlow$Step", "needs", "I", false)
  | 5 => ("TrousseauFlow$Step", "dueDay", "I", false)
  | 6 => ("TrousseauFlow$Step", "how", "I", false)
  | 7 => ("TrousseauFlow$Step", "toGo", "I", false)
  | 8 => ("TrousseauFlow$Step", "begun", "I", false)
  | 9 => ("TrousseauFlow$Step", "wrongNext", "I", false)
  | _ => ("TrousseauFlow$Step", "doneDay", "I", false)
def tyX5 : Nat → FieldType := fun k => match k with
  | 0 => .int
  | 1 => .int
  | 2 => .int
  | 3 => .boolean
  | 4 => .int
  | 5 => .int
  | 6 => .int
  | 7 => .int
  | 8 => .int
  | 9 => .int
  | _ => .int
abbrev wsX50 : List Cond := u_ws RX5 TX5 11
theorem nmX5 : ∀ a, a < 11 → ∀ b, b < 11 → a ≠ b → (TX5 a).2.1 ≠ (TX5 b).2.1 := by decide +kernel
theorem tyX5_ok : ∀ k, k < 11 → parseFieldDescriptor (TX5 k).2.2.1 = some (tyX5 k) := by decide +kernel
abbrev cX5_init : ByteArray := prog_7_method_1_code
def yX5_init : MethodName := ⟨RX5, "<init>", "()V"⟩
abbrev cX5_tellAnew : ByteArray := prog_7_method_2_code
def yX5_tellAnew : MethodName := ⟨RX5, "tellAnew", "(IIIZ)V"⟩
abbrev cX5_copyFrom : ByteArray := prog_7_method_3_code
def yX5_copyFrom : MethodName := ⟨RX5, "copyFrom", "(LTrousseauFlow$Step;)V"⟩
abbrev cX5_isOpen : ByteArray := prog_7_method_4_code
def yX5_isOpen : MethodName := ⟨RX5, "isOpen", "()Z"⟩
abbrev cX5_isOff : ByteArray := prog_7_method_5_code
def yX5_isOff : MethodName := ⟨RX5, "isOff", "()Z"⟩
def RX6 : String := "TrousseauFlow"
def TX6 : u_T := fun k => match k with
  | 0 => ("TrousseauFlow", "now", "LTrousseauFlow$Plan;", true)
  | 1 => ("TrousseauFlow", "forecast", "LTrousseauFlow$Plan;", true)
  | 2 => ("TrousseauFlow", "snapshot", "LTrousseauFlow$Plan;", true)
  | 3 => ("TrousseauFlow", "hasSnapshot", "Z", false)
  | 4 => ("TrousseauFlow", "marks", "[LTrousseauFlow$Plan;", true)
  | 5 => ("TrousseauFlow", "nextMark", "I", false)
  | 6 => ("TrousseauFlow", "undoable", "I", false)
  | 7 => ("TrousseauFlow", "text", "LTrousseauFlow$OrderText;", true)
  | 8 => ("TrousseauFlow", "line", "LTrousseauFlow$Line;", true)
  | 9 => ("TrousseauFlow", "chains", "LTrousseauFlow$Chains;", true)
  | 10 => ("TrousseauFlow", "wasRefused", "Z", false)
  | 11 => ("TrousseauFlow", "lastReason", "I", false)
  | _ => ("TrousseauFlow", "lastDetail", "I", false)
def tyX6 : Nat → FieldType := fun k => match k with
  | 0 => .object "TrousseauFlow$Plan"
  | 1 => .object "TrousseauFlow$Plan"
  | 2 => .object "TrousseauFlow$Plan"
  | 3 => .boolean
  | 4 => .array (.object "TrousseauFlow$Plan")
  | 5 => .int
  | 6 => .int
  | 7 => .object "TrousseauFlow$OrderText"
  | 8 => .object "TrousseauFlow$Line"
  | 9 => .object "TrousseauFlow$Chains"
  | 10 => .boolean
  | 11 => .int
  | _ => .int
abbrev wsX60 : List Cond := u_ws RX6 TX6 13
theorem nmX6 : ∀ a, a < 13 → ∀ b, b < 13 → a ≠ b → (TX6 a).2.1 ≠ (TX6 b).2.1 := by decide +kernel
theorem tyX6_ok : ∀ k, k < 13 → parseFieldDescriptor (TX6 k).2.2.1 = some (tyX6 k) := by decide +kernel
abbrev cX6_init : ByteArray := prog_1_method_1_code
def yX6_init : MethodName := ⟨RX6, "<init>", "()V"⟩
abbrev cX6_step : ByteArray := prog_1_method_2_code
def yX6_step : MethodName := ⟨RX6, "step", "(IIIZ)I"⟩
abbrev cX6_need : ByteArray := prog_1_method_3_code
def yX6_need : MethodName := ⟨RX6, "need", "(II)I"⟩
abbrev cX6_fault : ByteArray := prog_1_method_4_code
def yX6_fault : MethodName := ⟨RX6, "fault", "(II)I"⟩
abbrev cX6_hands : ByteArray := prog_1_method_5_code
def yX6_hands : MethodName := ⟨RX6, "hands", "(I)I"⟩
abbrev cX6_cancel : ByteArray := prog_1_method_6_code
def yX6_cancel : MethodName := ⟨RX6, "cancel", "(I)I"⟩
abbrev cX6_milestone : ByteArray := prog_1_method_7_code
def yX6_milestone : MethodName := ⟨RX6, "milestone", "(II)I"⟩
abbrev cX6_days : ByteArray := prog_1_method_8_code
def yX6_days : MethodName := ⟨RX6, "days", "(I)I"⟩
abbrev cX6_stepOf : ByteArray := prog_1_method_9_code
def yX6_stepOf : MethodName := ⟨RX6, "stepOf", "(II)I"⟩
abbrev cX6_ready : ByteArray := prog_1_method_10_code
def yX6_ready : MethodName := ⟨RX6, "ready", "(I)I"⟩
abbrev cX6_milestoneOf : ByteArray := prog_1_method_11_code
def yX6_milestoneOf : MethodName := ⟨RX6, "milestoneOf", "(II)I"⟩
abbrev cX6_late : ByteArray := prog_1_method_12_code
def yX6_late : MethodName := ⟨RX6, "late", "()I"⟩
abbrev cX6_doneIn : ByteArray := prog_1_method_13_code
def yX6_doneIn : MethodName := ⟨RX6, "doneIn", "(I)I"⟩
abbrev cX6_chain : ByteArray := prog_1_method_14_code
def yX6_chain : MethodName := ⟨RX6, "chain", "(I)I"⟩
abbrev cX6_chainAgain : ByteArray := prog_1_method_15_code
def yX6_chainAgain : MethodName := ⟨RX6, "chainAgain", "(I)I"⟩
abbrev cX6_logged : ByteArray := prog_1_method_16_code
def yX6_logged : MethodName := ⟨RX6, "logged", "(II)I"⟩
abbrev cX6_ranked : ByteArray := prog_1_method_17_code
def yX6_ranked : MethodName := ⟨RX6, "ranked", "(I)I"⟩
abbrev cX6_append : ByteArray := prog_1_method_18_code
def yX6_append : MethodName := ⟨RX6, "append", "(I)I"⟩
abbrev cX6_run : ByteArray := prog_1_method_19_code
def yX6_run : MethodName := ⟨RX6, "run", "()I"⟩
abbrev cX6_tell : ByteArray := prog_1_method_20_code
def yX6_tell : MethodName := ⟨RX6, "tell", "(I)I"⟩
abbrev cX6_tellAll : ByteArray := prog_1_method_21_code
def yX6_tellAll : MethodName := ⟨RX6, "tellAll", "()I"⟩
abbrev cX6_character : ByteArray := prog_1_method_22_code
def yX6_character : MethodName := ⟨RX6, "character", "(I)I"⟩
abbrev cX6_reason : ByteArray := prog_1_method_23_code
def yX6_reason : MethodName := ⟨RX6, "reason", "(Z)I"⟩
abbrev cX6_account : ByteArray := prog_1_method_24_code
def yX6_account : MethodName := ⟨RX6, "account", "(I)I"⟩
abbrev cX6_isBalanced : ByteArray := prog_1_method_25_code
def yX6_isBalanced : MethodName := ⟨RX6, "isBalanced", "()I"⟩
abbrev cX6_meanDays : ByteArray := prog_1_method_26_code
def yX6_meanDays : MethodName := ⟨RX6, "meanDays", "()D"⟩
abbrev cX6_wrongShare : ByteArray := prog_1_method_27_code
def yX6_wrongShare : MethodName := ⟨RX6, "wrongShare", "()F"⟩
abbrev cX6_undo : ByteArray := prog_1_method_28_code
def yX6_undo : MethodName := ⟨RX6, "undo", "()I"⟩
abbrev cX6_save : ByteArray := prog_1_method_29_code
def yX6_save : MethodName := ⟨RX6, "save", "()I"⟩
abbrev cX6_restore : ByteArray := prog_1_method_30_code
def yX6_restore : MethodName := ⟨RX6, "restore", "()I"⟩
abbrev cX6_tellStep : ByteArray := prog_1_method_31_code
def yX6_tellStep : MethodName := ⟨RX6, "tellStep", "(IIIZ)I"⟩
abbrev cX6_tellNeed : ByteArray := prog_1_method_32_code
def yX6_tellNeed : MethodName := ⟨RX6, "tellNeed", "(II)I"⟩
abbrev cX6_tellFault : ByteArray := prog_1_method_33_code
def yX6_tellFault : MethodName := ⟨RX6, "tellFault", "(II)I"⟩
abbrev cX6_setHands : ByteArray := prog_1_method_34_code
def yX6_setHands : MethodName := ⟨RX6, "setHands", "(I)I"⟩
abbrev cX6_tellCancel : ByteArray := prog_1_method_35_code
def yX6_tellCancel : MethodName := ⟨RX6, "tellCancel", "(I)I"⟩
abbrev cX6_tellMilestone : ByteArray := prog_1_method_36_code
def yX6_tellMilestone : MethodName := ⟨RX6, "tellMilestone", "(II)I"⟩
abbrev cX6_letDaysGo : ByteArray := prog_1_method_37_code
def yX6_letDaysGo : MethodName := ⟨RX6, "letDaysGo", "(I)I"⟩
abbrev cX6_carryOut : ByteArray := prog_1_method_38_code
def yX6_carryOut : MethodName := ⟨RX6, "carryOut", "(LTrousseauFlow$Order;)I"⟩
abbrev cX6_refuse : ByteArray := prog_1_method_39_code
def yX6_refuse : MethodName := ⟨RX6, "refuse", "(II)I"⟩
abbrev cX6_markBefore : ByteArray := prog_1_method_40_code
def yX6_markBefore : MethodName := ⟨RX6, "markBefore", "()V"⟩
abbrev cX6_keepChange : ByteArray := prog_1_method_41_code
def yX6_keepChange : MethodName := ⟨RX6, "keepChange", "(I)I"⟩
abbrev cX6_isWithin : ByteArray := prog_1_method_42_code
def yX6_isWithin : MethodName := ⟨RX6, "isWithin", "(III)Z"⟩
def RX7 : String := "TrousseauFlowModel"
def TX7 : u_T := fun k => match k with
  | _ => ("", "", "", false)
def tyX7 : Nat → FieldType := fun k => match k with
  | _ => .int
abbrev wsX70 : List Cond := u_ws RX7 TX7 0
theorem nmX7 : ∀ a, a < 0 → ∀ b, b < 0 → a ≠ b → (TX7 a).2.1 ≠ (TX7 b).2.1 := by decide +kernel
theorem tyX7_ok : ∀ k, k < 0 → parseFieldDescriptor (TX7 k).2.2.1 = some (tyX7 k) := by decide +kernel
def RJx145de : String := "java/io/Serializable"
def TJx145de : u_T := fun k => match k with
  | _ => ("", "", "", false)
def tyJx145de : Nat → FieldType := fun k => match k with
  | _ => .int
abbrev wsJx145de0 : List Cond := u_ws RJx145de TJx145de 0
theorem nmJx145de : ∀ a, a < 0 → ∀ b, b < 0 → a ≠ b → (TJx145de a).2.1 ≠ (TJx145de b).2.1 := by decide +kernel
theorem tyJx145de_ok : ∀ k, k < 0 → parseFieldDescriptor (TJx145de k).2.2.1 = some (tyJx145de k) := by decide +kernel
def RJ5 : String := "java/lang/AbstractStringBuilder"
def TJ5 : u_T := fun k => match k with
  | _ => ("", "", "", false)
def tyJ5 : Nat → FieldType := fun k => match k with
  | _ => .int
abbrev wsJ50 : List Cond := u_ws RJ5 TJ5 0
theorem nmJ5 : ∀ a, a < 0 → ∀ b, b < 0 → a ≠ b → (TJ5 a).2.1 ≠ (TJ5 b).2.1 := by decide +kernel
theorem tyJ5_ok : ∀ k, k < 0 → parseFieldDescriptor (TJ5 k).2.2.1 = some (tyJ5 k) := by decide +kernel
abbrev cJ5_init_d00df : ByteArray := prog_10_method_2_code
def yJ5_init_d00df : MethodName := ⟨RJ5, "<init>", "(I)V"⟩
abbrev cJ5_length_8abf5 : ByteArray := prog_10_method_6_code
def yJ5_length_8abf5 : MethodName := ⟨RJ5, "length", "()I"⟩
abbrev cJ5_ensureCapacityInternal_d00df : ByteArray := prog_10_method_9_code
def yJ5_ensureCapacityInternal_d00df : MethodName := ⟨RJ5, "ensureCapacityInternal", "(I)V"⟩
abbrev cJ5_newCapacity_0f7a4 : ByteArray := prog_10_method_10_code
def yJ5_newCapacity_0f7a4 : MethodName := ⟨RJ5, "newCapacity", "(I)I"⟩
abbrev cJ5_inflate_da8c8 : ByteArray := prog_10_method_11_code
def yJ5_inflate_da8c8 : MethodName := ⟨RJ5, "inflate", "()V"⟩
abbrev cJ5_append_cf1ce : ByteArray := prog_10_method_22_code
def yJ5_append_cf1ce : MethodName := ⟨RJ5, "append", "(Ljava/lang/String;)Ljava/lang/AbstractStringBuilder;"⟩
abbrev cJ5_appendNull_278bc : ByteArray := prog_10_method_26_code
def yJ5_appendNull_278bc : MethodName := ⟨RJ5, "appendNull", "()Ljava/lang/AbstractStringBuilder;"⟩
abbrev cJ5_append_c97b9 : ByteArray := prog_10_method_32_code
def yJ5_append_c97b9 : MethodName := ⟨RJ5, "append", "(I)Ljava/lang/AbstractStringBuilder;"⟩
abbrev cJ5_getValue_6d5f1 : ByteArray := prog_10_method_64_code
def yJ5_getValue_6d5f1 : MethodName := ⟨RJ5, "getValue", "()[B"⟩
abbrev cJ5_isLatin1_aae02 : ByteArray := prog_10_method_68_code
def yJ5_isLatin1_aae02 : MethodName := ⟨RJ5, "isLatin1", "()Z"⟩
abbrev cJ5_inflateIfNeededFor_a7421 : ByteArray := prog_10_method_71_code
def yJ5_inflateIfNeededFor_a7421 : MethodName := ⟨RJ5, "inflateIfNeededFor", "(Ljava/lang/String;)V"⟩
abbrev cJ5_putStringAt_47b60 : ByteArray := prog_10_method_73_code
def yJ5_putStringAt_47b60 : MethodName := ⟨RJ5, "putStringAt", "(ILjava/lang/String;)V"⟩
def RJx2cfe8 : String := "java/lang/Appendable"
def TJx2cfe8 : u_T := fun k => match k with
  | _ => ("", "", "", false)
def tyJx2cfe8 : Nat → FieldType := fun k => match k with
  | _ => .int
abbrev wsJx2cfe80 : List Cond := u_ws RJx2cfe8 TJx2cfe8 0
theorem nmJx2cfe8 : ∀ a, a < 0 → ∀ b, b < 0 → a ≠ b → (TJx2cfe8 a).2.1 ≠ (TJx2cfe8 b).2.1 := by decide +kernel
theorem tyJx2cfe8_ok : ∀ k, k < 0 → parseFieldDescriptor (TJx2cfe8 k).2.2.1 = some (tyJx2cfe8 k) := by decide +kernel
def RJx9f9b0 : String := "java/lang/CharSequence"
def TJx9f9b0 : u_T := fun k => match k with
  | _ => ("", "", "", false)
def tyJx9f9b0 : Nat → FieldType := fun k => match k with
  | _ => .int
abbrev wsJx9f9b00 : List Cond := u_ws RJx9f9b0 TJx9f9b0 0
theorem nmJx9f9b0 : ∀ a, a < 0 → ∀ b, b < 0 → a ≠ b → (TJx9f9b0 a).2.1 ≠ (TJx9f9b0 b).2.1 := by decide +kernel
theorem tyJx9f9b0_ok : ∀ k, k < 0 → parseFieldDescriptor (TJx9f9b0 k).2.2.1 = some (tyJx9f9b0 k) := by decide +kernel
def RJx8e188 : String := "java/lang/Cloneable"
def TJx8e188 : u_T := fun k => match k with
  | _ => ("", "", "", false)
def tyJx8e188 : Nat → FieldType := fun k => match k with
  | _ => .int
abbrev wsJx8e1880 : List Cond := u_ws RJx8e188 TJx8e188 0
theorem nmJx8e188 : ∀ a, a < 0 → ∀ b, b < 0 → a ≠ b → (TJx8e188 a).2.1 ≠ (TJx8e188 b).2.1 := by decide +kernel
theorem tyJx8e188_ok : ∀ k, k < 0 → parseFieldDescriptor (TJx8e188 k).2.2.1 = some (tyJx8e188 k) := by decide +kernel
def RJxb160c : String := "java/lang/Comparable"
def TJxb160c : u_T := fun k => match k with
  | _ => ("", "", "", false)
def tyJxb160c : Nat → FieldType := fun k => match k with
  | _ => .int
abbrev wsJxb160c0 : List Cond := u_ws RJxb160c TJxb160c 0
theorem nmJxb160c : ∀ a, a < 0 → ∀ b, b < 0 → a ≠ b → (TJxb160c a).2.1 ≠ (TJxb160c b).2.1 := by decide +kernel
theorem tyJxb160c_ok : ∀ k, k < 0 → parseFieldDescriptor (TJxb160c k).2.2.1 = some (tyJxb160c k) := by decide +kernel
def RJxe99ae : String := "java/lang/Double"
def TJxe99ae : u_T := fun k => match k with
  | _ => ("", "", "", false)
def tyJxe99ae : Nat → FieldType := fun k => match k with
  | _ => .int
abbrev wsJxe99ae0 : List Cond := u_ws RJxe99ae TJxe99ae 0
theorem nmJxe99ae : ∀ a, a < 0 → ∀ b, b < 0 → a ≠ b → (TJxe99ae a).2.1 ≠ (TJxe99ae b).2.1 := by decide +kernel
theorem tyJxe99ae_ok : ∀ k, k < 0 → parseFieldDescriptor (TJxe99ae k).2.2.1 = some (tyJxe99ae k) := by decide +kernel
abbrev cJxe99ae_isNaN_b9ae7 : ByteArray := prog_12_method_6_code
def yJxe99ae_isNaN_b9ae7 : MethodName := ⟨RJxe99ae, "isNaN", "(D)Z"⟩
abbrev cJxe99ae_doubleToLongBits_ccdee : ByteArray := prog_12_method_23_code
def yJxe99ae_doubleToLongBits_ccdee : MethodName := ⟨RJxe99ae, "doubleToLongBits", "(D)J"⟩
def RJxf58ca : String := "java/lang/Float"
def TJxf58ca : u_T := fun k => match k with
  | _ => ("", "", "", false)
def tyJxf58ca : Nat → FieldType := fun k => match k with
  | _ => .int
abbrev wsJxf58ca0 : List Cond := u_ws RJxf58ca TJxf58ca 0
theorem nmJxf58ca : ∀ a, a < 0 → ∀ b, b < 0 → a ≠ b → (TJxf58ca a).2.1 ≠ (TJxf58ca b).2.1 := by decide +kernel
theorem tyJxf58ca_ok : ∀ k, k < 0 → parseFieldDescriptor (TJxf58ca k).2.2.1 = some (tyJxf58ca k) := by decide +kernel
abbrev cJxf58ca_isNaN_12338 : ByteArray := prog_13_method_6_code
def yJxf58ca_isNaN_12338 : MethodName := ⟨RJxf58ca, "isNaN", "(F)Z"⟩
abbrev cJxf58ca_floatToIntBits_5c35a : ByteArray := prog_13_method_24_code
def yJxf58ca_floatToIntBits_5c35a : MethodName := ⟨RJxf58ca, "floatToIntBits", "(F)I"⟩
def RJ6 : String := "java/lang/Integer"
def TJ6 : u_T := fun k => match k with
  | _ => ("", "", "", false)
def tyJ6 : Nat → FieldType := fun k => match k with
  | _ => .int
abbrev wsJ60 : List Cond := u_ws RJ6 TJ6 0
theorem nmJ6 : ∀ a, a < 0 → ∀ b, b < 0 → a ≠ b → (TJ6 a).2.1 ≠ (TJ6 b).2.1 := by decide +kernel
theorem tyJ6_ok : ∀ k, k < 0 → parseFieldDescriptor (TJ6 k).2.2.1 = some (tyJ6 k) := by decide +kernel
abbrev cJ6_getChars_ba4f3 : ByteArray := prog_14_method_12_code
def yJ6_getChars_ba4f3 : MethodName := ⟨RJ6, "getChars", "(II[B)I"⟩
abbrev cJ6_stringSize_0f7a4 : ByteArray := prog_14_method_13_code
def yJ6_stringSize_0f7a4 : MethodName := ⟨RJ6, "stringSize", "(I)I"⟩
abbrev cJ6_bitCount_0f7a4 : ByteArray := prog_14_method_49_code
def yJ6_bitCount_0f7a4 : MethodName := ⟨RJ6, "bitCount", "(I)I"⟩
def RJ9 : String := "java/lang/Math"
def TJ9 : u_T := fun k => match k with
  | _ => ("", "", "", false)
def tyJ9 : Nat → FieldType := fun k => match k with
  | _ => .int
abbrev wsJ90 : List Cond := u_ws RJ9 TJ9 0
theorem nmJ9 : ∀ a, a < 0 → ∀ b, b < 0 → a ≠ b → (TJ9 a).2.1 ≠ (TJ9 b).2.1 := by decide +kernel
theorem tyJ9_ok : ∀ k, k < 0 → parseFieldDescriptor (TJ9 k).2.2.1 = some (tyJ9 k) := by decide +kernel
abbrev cJ9_max_7cf53 : ByteArray := prog_15_method_65_code
def yJ9_max_7cf53 : MethodName := ⟨RJ9, "max", "(II)I"⟩
abbrev cJ9_min_7cf53 : ByteArray := prog_15_method_69_code
def yJ9_min_7cf53 : MethodName := ⟨RJ9, "min", "(II)I"⟩
def RJxd2413 : String := "java/lang/Number"
def TJxd2413 : u_T := fun k => match k with
  | _ => ("", "", "", false)
def tyJxd2413 : Nat → FieldType := fun k => match k with
  | _ => .int
abbrev wsJxd24130 : List Cond := u_ws RJxd2413 TJxd2413 0
theorem nmJxd2413 : ∀ a, a < 0 → ∀ b, b < 0 → a ≠ b → (TJxd2413 a).2.1 ≠ (TJxd2413 b).2.1 := by decide +kernel
theorem tyJxd2413_ok : ∀ k, k < 0 → parseFieldDescriptor (TJxd2413 k).2.2.1 = some (tyJxd2413 k) := by decide +kernel
def RJ0 : String := "java/lang/String"
def TJ0 : u_T := fun k => match k with
  | 0 => ("java/lang/String", "value", "[B", true)
  | 1 => ("java/lang/String", "coder", "B", true)
  | 2 => ("java/lang/String", "hash", "I", false)
  | _ => ("java/lang/String", "hashIsZero", "Z", false)
def tyJ0 : Nat → FieldType := fun k => match k with
  | 0 => .array .byte
  | 1 => .byte
  | 2 => .int
  | _ => .boolean
abbrev wsJ00 : List Cond := u_ws RJ0 TJ0 4
theorem nmJ0 : ∀ a, a < 4 → ∀ b, b < 4 → a ≠ b → (TJ0 a).2.1 ≠ (TJ0 b).2.1 := by decide +kernel
theorem tyJ0_ok : ∀ k, k < 4 → parseFieldDescriptor (TJ0 k).2.2.1 = some (tyJ0 k) := by decide +kernel
abbrev cJ0_init_81219 : ByteArray := prog_17_method_53_code
def yJ0_init_81219 : MethodName := ⟨RJ0, "<init>", "(Ljava/lang/StringBuilder;)V"⟩
abbrev cJ0_length_8abf5 : ByteArray := prog_17_method_54_code
def yJ0_length_8abf5 : MethodName := ⟨RJ0, "length", "()I"⟩
abbrev cJ0_charAt_5068e : ByteArray := prog_17_method_56_code
def yJ0_charAt_5068e : MethodName := ⟨RJ0, "charAt", "(I)C"⟩
abbrev cJ0_getBytes_840e7 : ByteArray := prog_17_method_147_code
def yJ0_getBytes_840e7 : MethodName := ⟨RJ0, "getBytes", "([BIB)V"⟩
abbrev cJ0_init_db425 : ByteArray := prog_17_method_150_code
def yJ0_init_db425 : MethodName := ⟨RJ0, "<init>", "(Ljava/lang/AbstractStringBuilder;Ljava/lang/Void;)V"⟩
abbrev cJ0_coder_7d493 : ByteArray := prog_17_method_152_code
def yJ0_coder_7d493 : MethodName := ⟨RJ0, "coder", "()B"⟩
abbrev cJ0_isLatin1_aae02 : ByteArray := prog_17_method_154_code
def yJ0_isLatin1_aae02 : MethodName := ⟨RJ0, "isLatin1", "()Z"⟩
abbrev cJ0_checkIndex_df160 : ByteArray := prog_17_method_155_code
def yJ0_checkIndex_df160 : MethodName := ⟨RJ0, "checkIndex", "(II)V"⟩
abbrev cJ0_checkBoundsOffCount_cabcc : ByteArray := prog_17_method_157_code
def yJ0_checkBoundsOffCount_cabcc : MethodName := ⟨RJ0, "checkBoundsOffCount", "(III)I"⟩
abbrev cJ0_checkBoundsBeginEnd_23922 : ByteArray := prog_17_method_158_code
def yJ0_checkBoundsBeginEnd_23922 : MethodName := ⟨RJ0, "checkBoundsBeginEnd", "(III)V"⟩
def RJ4 : String := "java/lang/StringBuilder"
def TJ4 : u_T := fun k => match k with
  | 0 => ("java/lang/AbstractStringBuilder", "value", "[B", false)
  | 1 => ("java/lang/AbstractStringBuilder", "coder", "B", false)
  | 2 => ("java/lang/AbstractStringBuilder", "maybeLatin1", "Z", false)
  | _ => ("java/lang/AbstractStringBuilder", "count", "I", false)
def tyJ4 : Nat → FieldType := fun k => match k with
  | 0 => .array .byte
  | 1 => .byte
  | 2 => .boolean
  | _ => .int
abbrev wsJ40 : List Cond := u_ws RJ4 TJ4 4
theorem nmJ4 : ∀ a, a < 4 → ∀ b, b < 4 → a ≠ b → (TJ4 a).2.1 ≠ (TJ4 b).2.1 := by decide +kernel
theorem tyJ4_ok : ∀ k, k < 4 → parseFieldDescriptor (TJ4 k).2.2.1 = some (tyJ4 k) := by decide +kernel
abbrev cJ4_init_da8c8 : ByteArray := prog_18_method_1_code
def yJ4_init_da8c8 : MethodName := ⟨RJ4, "<init>", "()V"⟩
abbrev cJ4_append_15ec4 : ByteArray := prog_18_method_7_code
def yJ4_append_15ec4 : MethodName := ⟨RJ4, "append", "(Ljava/lang/String;)Ljava/lang/StringBuilder;"⟩
abbrev cJ4_append_bf812 : ByteArray := prog_18_method_15_code
def yJ4_append_bf812 : MethodName := ⟨RJ4, "append", "(I)Ljava/lang/StringBuilder;"⟩
abbrev cJ4_toString_0e30d : ByteArray := prog_18_method_42_code
def yJ4_toString_0e30d : MethodName := ⟨RJ4, "toString", "()Ljava/lang/String;"⟩
abbrev cJ4_length_8abf5 : ByteArray := prog_18_method_93_code
def yJ4_length_8abf5 : MethodName := ⟨RJ4, "length", "()I"⟩
def RJ1 : String := "java/lang/StringLatin1"
def TJ1 : u_T := fun k => match k with
  | _ => ("", "", "", false)
def tyJ1 : Nat → FieldType := fun k => match k with
  | _ => .int
abbrev wsJ10 : List Cond := u_ws RJ1 TJ1 0
theorem nmJ1 : ∀ a, a < 0 → ∀ b, b < 0 → a ≠ b → (TJ1 a).2.1 ≠ (TJ1 b).2.1 := by decide +kernel
theorem tyJ1_ok : ∀ k, k < 0 → parseFieldDescriptor (TJ1 k).2.2.1 = some (tyJ1 k) := by decide +kernel
abbrev cJ1_charAt_3b067 : ByteArray := prog_19_method_2_code
def yJ1_charAt_3b067 : MethodName := ⟨RJ1, "charAt", "([BI)C"⟩
abbrev cJ1_inflate_0e8fd : ByteArray := prog_19_method_50_code
def yJ1_inflate_0e8fd : MethodName := ⟨RJ1, "inflate", "([BI[BII)V"⟩
def RJ2 : String := "java/lang/StringUTF16"
def TJ2 : u_T := fun k => match k with
  | _ => ("", "", "", false)
def tyJ2 : Nat → FieldType := fun k => match k with
  | _ => .int
abbrev wsJ20 : List Cond := u_ws RJ2 TJ2 0
theorem nmJ2 : ∀ a, a < 0 → ∀ b, b < 0 → a ≠ b → (TJ2 a).2.1 ≠ (TJ2 b).2.1 := by decide +kernel
theorem tyJ2_ok : ∀ k, k < 0 → parseFieldDescriptor (TJ2 k).2.2.1 = some (tyJ2 k) := by decide +kernel
abbrev cJ2_newBytesFor_77867 : ByteArray := prog_20_method_2_code
def yJ2_newBytesFor_77867 : MethodName := ⟨RJ2, "newBytesFor", "(I)[B"⟩
abbrev cJ2_newBytesLength_0f7a4 : ByteArray := prog_20_method_3_code
def yJ2_newBytesLength_0f7a4 : MethodName := ⟨RJ2, "newBytesLength", "(I)I"⟩
abbrev cJ2_putChar_b72d1 : ByteArray := prog_20_method_4_code
def yJ2_putChar_b72d1 : MethodName := ⟨RJ2, "putChar", "([BII)V"⟩
abbrev cJ2_getChar_3b067 : ByteArray := prog_20_method_5_code
def yJ2_getChar_3b067 : MethodName := ⟨RJ2, "getChar", "([BI)C"⟩
abbrev cJ2_length_9d52b : ByteArray := prog_20_method_6_code
def yJ2_length_9d52b : MethodName := ⟨RJ2, "length", "([B)I"⟩
abbrev cJ2_coderFromArrayLen_85cad : ByteArray := prog_20_method_15_code
def yJ2_coderFromArrayLen_85cad : MethodName := ⟨RJ2, "coderFromArrayLen", "([BI)B"⟩
abbrev cJ2_compress_39247 : ByteArray := prog_20_method_17_code
def yJ2_compress_39247 : MethodName := ⟨RJ2, "compress", "([BII)[B"⟩
abbrev cJ2_compress_5af95 : ByteArray := prog_20_method_22_code
def yJ2_compress_5af95 : MethodName := ⟨RJ2, "compress", "([BI[BII)I"⟩
abbrev cJ2_getChars_46870 : ByteArray := prog_20_method_77_code
def yJ2_getChars_46870 : MethodName := ⟨RJ2, "getChars", "(III[B)I"⟩
abbrev cJ2_putCharsAt_cd4e5 : ByteArray := prog_20_method_81_code
def yJ2_putCharsAt_cd4e5 : MethodName := ⟨RJ2, "putCharsAt", "([BICCCC)I"⟩
abbrev cJ2_charAt_3b067 : ByteArray := prog_20_method_83_code
def yJ2_charAt_3b067 : MethodName := ⟨RJ2, "charAt", "([BI)C"⟩
abbrev cJ2_inflate_0e8fd : ByteArray := prog_20_method_86_code
def yJ2_inflate_0e8fd : MethodName := ⟨RJ2, "inflate", "([BI[BII)V"⟩
abbrev cJ2_getChars_ba4f3 : ByteArray := prog_20_method_89_code
def yJ2_getChars_ba4f3 : MethodName := ⟨RJ2, "getChars", "(II[B)I"⟩
abbrev cJ2_checkIndex_2214a : ByteArray := prog_20_method_91_code
def yJ2_checkIndex_2214a : MethodName := ⟨RJ2, "checkIndex", "(I[B)V"⟩
abbrev cJ2_checkBoundsBeginEnd_d044e : ByteArray := prog_20_method_93_code
def yJ2_checkBoundsBeginEnd_d044e : MethodName := ⟨RJ2, "checkBoundsBeginEnd", "(II[B)V"⟩
abbrev cJ2_checkBoundsOffCount_d044e : ByteArray := prog_20_method_94_code
def yJ2_checkBoundsOffCount_d044e : MethodName := ⟨RJ2, "checkBoundsOffCount", "(II[B)V"⟩
def RJ10 : String := "java/lang/System"
def TJ10 : u_T := fun k => match k with
  | _ => ("", "", "", false)
def tyJ10 : Nat → FieldType := fun k => match k with
  | _ => .int
abbrev wsJ100 : List Cond := u_ws RJ10 TJ10 0
theorem nmJ10 : ∀ a, a < 0 → ∀ b, b < 0 → a ≠ b → (TJ10 a).2.1 ≠ (TJ10 b).2.1 := by decide +kernel
theorem tyJ10_ok : ∀ k, k < 0 → parseFieldDescriptor (TJ10 k).2.2.1 = some (tyJ10 k) := by decide +kernel
def RJxfd54e : String := "java/lang/constant/Constable"
def TJxfd54e : u_T := fun k => match k with
  | _ => ("", "", "", false)
def tyJxfd54e : Nat → FieldType := fun k => match k with
  | _ => .int
abbrev wsJxfd54e0 : List Cond := u_ws RJxfd54e TJxfd54e 0
theorem nmJxfd54e : ∀ a, a < 0 → ∀ b, b < 0 → a ≠ b → (TJxfd54e a).2.1 ≠ (TJxfd54e b).2.1 := by decide +kernel
theorem tyJxfd54e_ok : ∀ k, k < 0 → parseFieldDescriptor (TJxfd54e k).2.2.1 = some (tyJxfd54e k) := by decide +kernel
def RJx3cf43 : String := "java/lang/constant/ConstantDesc"
def TJx3cf43 : u_T := fun k => match k with
  | _ => ("", "", "", false)
def tyJx3cf43 : Nat → FieldType := fun k => match k with
  | _ => .int
abbrev wsJx3cf430 : List Cond := u_ws RJx3cf43 TJx3cf43 0
theorem nmJx3cf43 : ∀ a, a < 0 → ∀ b, b < 0 → a ≠ b → (TJx3cf43 a).2.1 ≠ (TJx3cf43 b).2.1 := by decide +kernel
theorem tyJx3cf43_ok : ∀ k, k < 0 → parseFieldDescriptor (TJx3cf43 k).2.2.1 = some (tyJx3cf43 k) := by decide +kernel
def RJ7 : String := "java/util/Arrays"
def TJ7 : u_T := fun k => match k with
  | _ => ("", "", "", false)
def tyJ7 : Nat → FieldType := fun k => match k with
  | _ => .int
abbrev wsJ70 : List Cond := u_ws RJ7 TJ7 0
theorem nmJ7 : ∀ a, a < 0 → ∀ b, b < 0 → a ≠ b → (TJ7 a).2.1 ≠ (TJ7 b).2.1 := by decide +kernel
theorem tyJ7_ok : ∀ k, k < 0 → parseFieldDescriptor (TJ7 k).2.2.1 = some (tyJ7 k) := by decide +kernel
abbrev cJ7_copyOf_9075b : ByteArray := prog_22_method_121_code
def yJ7_copyOf_9075b : MethodName := ⟨RJ7, "copyOf", "([BI)[B"⟩
abbrev cJ7_checkLength_df160 : ByteArray := prog_22_method_131_code
def yJ7_checkLength_df160 : MethodName := ⟨RJ7, "checkLength", "(II)V"⟩
abbrev cJ7_copyOfRange_39247 : ByteArray := prog_22_method_132_code
def yJ7_copyOfRange_39247 : MethodName := ⟨RJ7, "copyOfRange", "([BII)[B"⟩
abbrev cJ7_copyOfRangeByte_39247 : ByteArray := prog_22_method_133_code
def yJ7_copyOfRangeByte_39247 : MethodName := ⟨RJ7, "copyOfRangeByte", "([BII)[B"⟩
def RJ8 : String := "jdk/internal/util/ArraysSupport"
def TJ8 : u_T := fun k => match k with
  | _ => ("", "", "", false)
def tyJ8 : Nat → FieldType := fun k => match k with
  | _ => .int
abbrev wsJ80 : List Cond := u_ws RJ8 TJ8 0
theorem nmJ8 : ∀ a, a < 0 → ∀ b, b < 0 → a ≠ b → (TJ8 a).2.1 ≠ (TJ8 b).2.1 := by decide +kernel
theorem tyJ8_ok : ∀ k, k < 0 → parseFieldDescriptor (TJ8 k).2.2.1 = some (tyJ8 k) := by decide +kernel
abbrev cJ8_newLength_cabcc : ByteArray := prog_23_method_27_code
def yJ8_newLength_cabcc : MethodName := ⟨RJ8, "newLength", "(III)I"⟩
abbrev cJ8_hugeLength_7cf53 : ByteArray := prog_23_method_28_code
def yJ8_hugeLength_7cf53 : MethodName := ⟨RJ8, "hugeLength", "(II)I"⟩
def RJ3 : String := "jdk/internal/util/Preconditions"
def TJ3 : u_T := fun k => match k with
  | _ => ("", "", "", false)
def tyJ3 : Nat → FieldType := fun k => match k with
  | _ => .int
abbrev wsJ30 : List Cond := u_ws RJ3 TJ3 0
theorem nmJ3 : ∀ a, a < 0 → ∀ b, b < 0 → a ≠ b → (TJ3 a).2.1 ≠ (TJ3 b).2.1 := by decide +kernel
theorem tyJ3_ok : ∀ k, k < 0 → parseFieldDescriptor (TJ3 k).2.2.1 = some (tyJ3 k) := by decide +kernel
abbrev cJ3_checkIndex_8e157 : ByteArray := prog_24_method_11_code
def yJ3_checkIndex_8e157 : MethodName := ⟨RJ3, "checkIndex", "(IILjava/util/function/BiFunction;)I"⟩
abbrev cJ3_checkFromToIndex_8c36e : ByteArray := prog_24_method_12_code
def yJ3_checkFromToIndex_8c36e : MethodName := ⟨RJ3, "checkFromToIndex", "(IIILjava/util/function/BiFunction;)I"⟩
abbrev cJ3_checkFromIndexSize_8c36e : ByteArray := prog_24_method_13_code
def yJ3_checkFromIndexSize_8c36e : MethodName := ⟨RJ3, "checkFromIndexSize", "(IIILjava/util/function/BiFunction;)I"⟩
def RL : String := "TrousseauFlowLaw"
abbrev cL_at : ByteArray := method_2_code
def yL_at : MethodName := ⟨RL, "at", "([II)I"⟩
abbrev cL_some : ByteArray := method_3_code
def yL_some : MethodName := ⟨RL, "some", "(II)I"⟩
abbrev cL_reads : ByteArray := method_4_code
def yL_reads : MethodName := ⟨RL, "reads", "(LTrousseauFlow;Ljava/lang/String;)I"⟩
abbrev cL_is : ByteArray := method_5_code
def yL_is : MethodName := ⟨RL, "is", "(LTrousseauFlow;II)Z"⟩
abbrev cL_makes : ByteArray := method_7_code
def yL_makes : MethodName := ⟨RL, "makes", "(LTrousseauFlow;[I)Z"⟩
abbrev cL_asks : ByteArray := method_8_code
def yL_asks : MethodName := ⟨RL, "asks", "(LTrousseauFlow;)J"⟩
abbrev cL_changes : ByteArray := method_9_code
def yL_changes : MethodName := ⟨RL, "changes", "(LTrousseauFlow;I)Z"⟩
abbrev cL_refused : ByteArray := method_10_code
def yL_refused : MethodName := ⟨RL, "refused", "(LTrousseauFlow;)Z"⟩
abbrev cL_refusedAt : ByteArray := method_11_code
def yL_refusedAt : MethodName := ⟨RL, "refusedAt", "(LTrousseauFlow;I)Z"⟩
abbrev cL_law : ByteArray := code
def yL_law : MethodName := ⟨RL, "law", "([I)Z"⟩
def wsL_law_r1 : List Cond := [Cond.classLink RL 18 RX6, Cond.instantiable RX6 13, Cond.initialized RX6, Cond.arrayClass .long, Cond.methodLink RL 194 Lib.Math.min.name, Cond.static Lib.Math.min.name, Cond.initialized "java/lang/Math", Cond.code Lib.Math.min.name Lib.Math.min.code 2 (some .int), Cond.methodLink RL 173 yX6_init, Cond.instanceMethod yX6_init, Cond.code yX6_init cX6_init 2 none, Cond.methodLink RX6 3 objectInit, Cond.instanceMethod objectInit, Cond.code objectInit ⟨#[0xb1]⟩ 1 none, Cond.classLink RX6 9 RX4, Cond.instantiable RX4 14, Cond.initialized RX4, Cond.fieldLink RX6 12 "TrousseauFlow" "now" "LTrousseauFlow$Plan;", Cond.fieldLink RX6 16 "TrousseauFlow" "forecast" "LTrousseauFlow$Plan;", Cond.fieldLink RX6 19 "TrousseauFlow" "snapshot" "LTrousseauFlow$Plan;", Cond.fieldLink RX6 22 "TrousseauFlow" "marks" "[LTrousseauFlow$Plan;", Cond.classLink RX6 26 RX3, Cond.instantiable RX3 5, Cond.initialized RX3]
def wsL_law_r2 : List Cond := [Cond.fieldLink RX6 29 "TrousseauFlow" "text" "LTrousseauFlow$OrderText;", Cond.classLink RX6 33 RX1, Cond.instantiable RX1 2, Cond.initialized RX1, Cond.fieldLink RX6 36 "TrousseauFlow" "line" "LTrousseauFlow$Line;", Cond.classLink RX6 40 RX0, Cond.instantiable RX0 2, Cond.initialized RX0, Cond.fieldLink RX6 43 "TrousseauFlow" "chains" "LTrousseauFlow$Chains;", Cond.methodLink RX6 11 yX4_init, Cond.instanceMethod yX4_init, Cond.code yX4_init cX4_init 2 none, Cond.methodLink RX4 3 objectInit, Cond.classLink RX4 9 RX5, Cond.fieldLink RX4 11 "TrousseauFlow$Plan" "steps" "[LTrousseauFlow$Step;", Cond.arrayClass .int, Cond.fieldLink RX4 17 "TrousseauFlow$Plan" "milestones" "[I", Cond.fieldLink RX4 21 "TrousseauFlow$Plan" "events" "[I", Cond.fieldLink RX4 24 "TrousseauFlow$Plan" "handCount" "I", Cond.instantiable RX5 11, Cond.initialized RX5, Cond.instanceMethod yX5_init, Cond.code yX5_init cX5_init 1 none, Cond.methodLink RX5 3 objectInit]
def wsL_law_r3 : List Cond := [Cond.methodLink RX6 28 yX3_init, Cond.instanceMethod yX3_init, Cond.code yX3_init cX3_init 2 none, Cond.methodLink RX3 3 objectInit, Cond.arrayClass .char, Cond.fieldLink RX3 9 "TrousseauFlow$OrderText" "signs" "[C", Cond.classLink RX3 15 RX2, Cond.fieldLink RX3 17 "TrousseauFlow$OrderText" "orders" "[LTrousseauFlow$Order;", Cond.instantiable RX2 5, Cond.initialized RX2, Cond.instanceMethod yX2_init, Cond.code yX2_init cX2_init 1 none, Cond.methodLink RX2 1 objectInit, Cond.instanceMethod yX1_init, Cond.code yX1_init cX1_init 1 none, Cond.methodLink RX1 3 objectInit, Cond.fieldLink RX1 9 "TrousseauFlow$Line" "signs" "[C", Cond.instanceMethod yX0_init, Cond.code yX0_init cX0_init 1 none, Cond.methodLink RX0 3 objectInit, Cond.fieldLink RX0 9 "TrousseauFlow$Chains" "byNeeds" "[I", Cond.fieldLink RX0 15 "TrousseauFlow$Chains" "byRounds" "[I", Cond.methodLink RL 174 yX6_undo, Cond.instanceMethod yX6_undo]
def wsL_law_r4 : List Cond := [Cond.selects RX6 yX6_undo yX6_undo, Cond.code yX6_undo cX6_undo 1 (some .int), Cond.fieldLink RX6 247 "TrousseauFlow" "undoable" "I", Cond.fieldLink RX6 198 "TrousseauFlow" "nextMark" "I", Cond.methodLink RX6 139 yX4_copyFrom, Cond.instanceMethod yX4_copyFrom, Cond.selects RX4 yX4_copyFrom yX4_copyFrom, Cond.code yX4_copyFrom cX4_copyFrom 3 none, Cond.fieldLink RX4 29 "TrousseauFlow$Plan" "count" "I", Cond.methodLink RX4 36 arraycopyName, Cond.native arraycopyName, Cond.static arraycopyName, Cond.initialized "java/lang/System", Cond.fieldLink RX4 42 "TrousseauFlow$Plan" "milestoneCount" "I", Cond.fieldLink RX4 45 "TrousseauFlow$Plan" "nextEvent" "I", Cond.fieldLink RX4 48 "TrousseauFlow$Plan" "eventCount" "I", Cond.fieldLink RX4 51 "TrousseauFlow$Plan" "day" "I", Cond.fieldLink RX4 54 "TrousseauFlow$Plan" "cancelled" "I", Cond.fieldLink RX4 57 "TrousseauFlow$Plan" "triesBegun" "I", Cond.fieldLink RX4 60 "TrousseauFlow$Plan" "triesWrong" "I", Cond.fieldLink RX4 63 "TrousseauFlow$Plan" "doneSoFar" "I", Cond.fieldLink RX4 66 "TrousseauFlow$Plan" "undoneSoFar" "I", Cond.methodLink RX4 32 yX5_copyFrom, Cond.instanceMethod yX5_copyFrom]
def wsL_law_r5 : List Cond := [Cond.selects RX5 yX5_copyFrom yX5_copyFrom, Cond.code yX5_copyFrom cX5_copyFrom 2 none, Cond.fieldLink RX5 9 "TrousseauFlow$Step" "days" "I", Cond.fieldLink RX5 15 "TrousseauFlow$Step" "more" "I", Cond.fieldLink RX5 18 "TrousseauFlow$Step" "branch" "I", Cond.fieldLink RX5 21 "TrousseauFlow$Step" "isAny" "Z", Cond.fieldLink RX5 25 "TrousseauFlow$Step" "needs" "I", Cond.fieldLink RX5 28 "TrousseauFlow$Step" "dueDay" "I", Cond.fieldLink RX5 31 "TrousseauFlow$Step" "how" "I", Cond.fieldLink RX5 34 "TrousseauFlow$Step" "toGo" "I", Cond.fieldLink RX5 37 "TrousseauFlow$Step" "begun" "I", Cond.fieldLink RX5 40 "TrousseauFlow$Step" "wrongNext" "I", Cond.fieldLink RX5 43 "TrousseauFlow$Step" "doneDay" "I", Cond.methodLink RL 177 yX6_restore, Cond.instanceMethod yX6_restore, Cond.selects RX6 yX6_restore yX6_restore, Cond.code yX6_restore cX6_restore 1 (some .int), Cond.fieldLink RX6 250 "TrousseauFlow" "hasSnapshot" "Z", Cond.fieldLink RX6 226 "TrousseauFlow$Plan" "day" "I", Cond.methodLink RL 180 yX6_save, Cond.instanceMethod yX6_save, Cond.selects RX6 yX6_save yX6_save, Cond.code yX6_save cX6_save 1 (some .int), Cond.methodLink RL 56 yX6_hands]
def wsL_law_r6 : List Cond := [Cond.instanceMethod yX6_hands, Cond.selects RX6 yX6_hands yX6_hands, Cond.code yX6_hands cX6_hands 2 (some .int), Cond.methodLink RX6 47 yX6_markBefore, Cond.instanceMethod yX6_markBefore, Cond.selects RX6 yX6_markBefore yX6_markBefore, Cond.code yX6_markBefore cX6_markBefore 1 none, Cond.methodLink RX6 65 yX6_setHands, Cond.instanceMethod yX6_setHands, Cond.selects RX6 yX6_setHands yX6_setHands, Cond.code yX6_setHands cX6_setHands 3 (some .int), Cond.fieldLink RX6 229 "TrousseauFlow$Plan" "handCount" "I", Cond.methodLink RX6 253 yX6_isWithin, Cond.static yX6_isWithin, Cond.code yX6_isWithin cX6_isWithin 3 (some .boolean), Cond.methodLink RX6 54 yX6_keepChange, Cond.instanceMethod yX6_keepChange, Cond.selects RX6 yX6_keepChange yX6_keepChange, Cond.code yX6_keepChange cX6_keepChange 2 (some .int), Cond.methodLink RL 17 yX6_append, Cond.instanceMethod yX6_append, Cond.selects RX6 yX6_append yX6_append, Cond.code yX6_append cX6_append 2 (some .int), Cond.fieldLink RX6 176 "TrousseauFlow$OrderText" "length" "I"]
def wsL_law_r7 : List Cond := [Cond.methodLink RX6 179 yX3_addSign, Cond.instanceMethod yX3_addSign, Cond.selects RX3 yX3_addSign yX3_addSign, Cond.code yX3_addSign cX3_addSign 2 none, Cond.fieldLink RX3 22 "TrousseauFlow$OrderText" "length" "I", Cond.methodLink RL 87 yX6_account, Cond.instanceMethod yX6_account, Cond.selects RX6 yX6_account yX6_account, Cond.code yX6_account cX6_account 2 (some .int), Cond.fieldLink RX6 170 "TrousseauFlow$Plan" "count" "I", Cond.fieldLink RX6 126 "TrousseauFlow$Plan" "milestoneCount" "I", Cond.fieldLink RX6 232 "TrousseauFlow$Plan" "cancelled" "I", Cond.fieldLink RX6 235 "TrousseauFlow$Plan" "triesBegun" "I", Cond.fieldLink RX6 238 "TrousseauFlow$Plan" "triesWrong" "I", Cond.fieldLink RX6 241 "TrousseauFlow$Plan" "doneSoFar" "I", Cond.fieldLink RX6 244 "TrousseauFlow$Plan" "undoneSoFar" "I", Cond.methodLink RX6 146 yX4_countOf, Cond.instanceMethod yX4_countOf, Cond.selects RX4 yX4_countOf yX4_countOf, Cond.code yX4_countOf cX4_countOf 2 (some .int), Cond.methodLink RX4 96 yX4_setOf, Cond.instanceMethod yX4_setOf, Cond.selects RX4 yX4_setOf yX4_setOf, Cond.code yX4_setOf cX4_setOf 4 (some .int)]
def wsL_law_r8 : List Cond := [Cond.fieldLink RX4 84 "TrousseauFlow$Step" "how" "I", Cond.methodLink RX4 100 yJ6_bitCount_0f7a4, Cond.static yJ6_bitCount_0f7a4, Cond.initialized RJ6, Cond.code yJ6_bitCount_0f7a4 cJ6_bitCount_0f7a4 1 (some .int), Cond.constant RJ6 265 (1431655765), Cond.constant RJ6 266 (858993459), Cond.constant RJ6 267 (252645135), Cond.methodLink RL 23 yX6_run, Cond.instanceMethod yX6_run, Cond.selects RX6 yX6_run yX6_run, Cond.code yX6_run cX6_run 3 (some .int), Cond.fieldLink RX6 187 "TrousseauFlow$OrderText" "orderCount" "I", Cond.fieldLink RX6 190 "TrousseauFlow$OrderText" "orders" "[LTrousseauFlow$Order;", Cond.methodLink RX6 183 yX3_readOrders, Cond.instanceMethod yX3_readOrders, Cond.selects RX3 yX3_readOrders yX3_readOrders, Cond.code yX3_readOrders cX3_readOrders 2 (some .int), Cond.fieldLink RX3 26 "TrousseauFlow$OrderText" "at" "I", Cond.fieldLink RX3 29 "TrousseauFlow$OrderText" "orderCount" "I", Cond.methodLink RX3 32 yX3_readOrder, Cond.instanceMethod yX3_readOrder, Cond.selects RX3 yX3_readOrder yX3_readOrder, Cond.code yX3_readOrder cX3_readOrder 2 (some .boolean)]
def wsL_law_r9 : List Cond := [Cond.fieldLink RX3 40 "TrousseauFlow$Order" "kind" "C", Cond.methodLink RX3 44 yX3_readStep, Cond.instanceMethod yX3_readStep, Cond.selects RX3 yX3_readStep yX3_readStep, Cond.code yX3_readStep cX3_readStep 2 (some .boolean), Cond.fieldLink RX3 73 "TrousseauFlow$Order" "second" "I", Cond.fieldLink RX3 76 "TrousseauFlow$Order" "third" "I", Cond.fieldLink RX3 79 "TrousseauFlow$Order" "isAny" "Z", Cond.methodLink RX3 57 yX3_readOne, Cond.instanceMethod yX3_readOne, Cond.selects RX3 yX3_readOne yX3_readOne, Cond.code yX3_readOne cX3_readOne 4 (some .boolean), Cond.fieldLink RX3 87 "TrousseauFlow$Order" "first" "I", Cond.methodLink RX3 83 yX3_takeWord, Cond.instanceMethod yX3_takeWord, Cond.selects RX3 yX3_takeWord yX3_takeWord, Cond.code yX3_takeWord cX3_takeWord 3 (some .boolean), Cond.methodLink RX3 90 yJ0_length_8abf5, Cond.instanceMethod yJ0_length_8abf5, Cond.selects RJ0 yJ0_length_8abf5 yJ0_length_8abf5, Cond.initialized RJ0, Cond.code yJ0_length_8abf5 cJ0_length_8abf5 1 (some .int), Cond.fieldLink RJ0 9 "java/lang/String" "value" "[B", Cond.methodLink RJ0 335 yJ0_coder_7d493]
def wsL_law_r10 : List Cond := [Cond.instanceMethod yJ0_coder_7d493, Cond.selects RJ0 yJ0_coder_7d493 yJ0_coder_7d493, Cond.code yJ0_coder_7d493 cJ0_coder_7d493 1 (some .byte), Cond.fieldLink RJ0 38 "java/lang/String" "COMPACT_STRINGS" "Z", Cond.fieldLink RJ0 15 "java/lang/String" "coder" "B", Cond.methodLink RX3 95 yJ0_charAt_5068e, Cond.instanceMethod yJ0_charAt_5068e, Cond.selects RJ0 yJ0_charAt_5068e yJ0_charAt_5068e, Cond.code yJ0_charAt_5068e cJ0_charAt_5068e 2 (some .char), Cond.methodLink RJ0 492 yJ0_isLatin1_aae02, Cond.instanceMethod yJ0_isLatin1_aae02, Cond.selects RJ0 yJ0_isLatin1_aae02 yJ0_isLatin1_aae02, Cond.code yJ0_isLatin1_aae02 cJ0_isLatin1_aae02 1 (some .boolean), Cond.methodLink RJ0 495 yJ1_charAt_3b067, Cond.static yJ1_charAt_3b067, Cond.initialized RJ1, Cond.code yJ1_charAt_3b067 cJ1_charAt_3b067 2 (some .char), Cond.methodLink RJ1 9 yJ0_checkIndex_df160, Cond.static yJ0_checkIndex_df160, Cond.code yJ0_checkIndex_df160 cJ0_checkIndex_df160 2 none, Cond.fieldLink RJ0 1053 "jdk/internal/util/Preconditions" "SIOOBE_FORMATTER" "Ljava/util/function/BiFunction;", Cond.methodLink RJ0 1059 yJ3_checkIndex_8e157, Cond.static yJ3_checkIndex_8e157, Cond.initialized RJ3]
def wsL_law_r11 : List Cond := [Cond.code yJ3_checkIndex_8e157 cJ3_checkIndex_8e157 3 (some .int), Cond.methodLink RJ0 498 yJ2_charAt_3b067, Cond.static yJ2_charAt_3b067, Cond.initialized RJ2, Cond.code yJ2_charAt_3b067 cJ2_charAt_3b067 2 (some .char), Cond.methodLink RJ2 67 yJ2_checkIndex_2214a, Cond.static yJ2_checkIndex_2214a, Cond.code yJ2_checkIndex_2214a cJ2_checkIndex_2214a 2 none, Cond.methodLink RJ2 48 yJ2_length_9d52b, Cond.static yJ2_length_9d52b, Cond.code yJ2_length_9d52b cJ2_length_9d52b 1 (some .int), Cond.methodLink RJ2 414 yJ0_checkIndex_df160, Cond.methodLink RJ2 71 yJ2_getChar_3b067, Cond.static yJ2_getChar_3b067, Cond.code yJ2_getChar_3b067 cJ2_getChar_3b067 2 (some .char), Cond.fieldLink RJ2 44 "java/lang/StringUTF16" "$assertionsDisabled" "Z", Cond.fieldLink RJ2 59 "java/lang/StringUTF16" "HI_BYTE_SHIFT" "I", Cond.fieldLink RJ2 63 "java/lang/StringUTF16" "LO_BYTE_SHIFT" "I", Cond.methodLink RX3 36 yX3_takeSign, Cond.instanceMethod yX3_takeSign, Cond.selects RX3 yX3_takeSign yX3_takeSign, Cond.code yX3_takeSign cX3_takeSign 2 (some .boolean), Cond.methodLink RX3 69 yX3_takeNumber, Cond.instanceMethod yX3_takeNumber]
def wsL_law_r12 : List Cond := [Cond.selects RX3 yX3_takeNumber yX3_takeNumber, Cond.code yX3_takeNumber cX3_takeNumber 4 (some .int), Cond.methodLink RX3 99 Lib.Math.max.name, Cond.static Lib.Math.max.name, Cond.code Lib.Math.max.name Lib.Math.max.code 2 (some .int), Cond.methodLink RX3 49 yX3_readPair, Cond.instanceMethod yX3_readPair, Cond.selects RX3 yX3_readPair yX3_readPair, Cond.code yX3_readPair cX3_readPair 5 (some .boolean), Cond.methodLink RX6 194 yX6_carryOut, Cond.instanceMethod yX6_carryOut, Cond.selects RX6 yX6_carryOut yX6_carryOut, Cond.code yX6_carryOut cX6_carryOut 2 (some .int), Cond.fieldLink RX6 281 "TrousseauFlow$Order" "kind" "C", Cond.fieldLink RX6 287 "TrousseauFlow$Order" "first" "I", Cond.fieldLink RX6 290 "TrousseauFlow$Order" "second" "I", Cond.fieldLink RX6 293 "TrousseauFlow$Order" "third" "I", Cond.fieldLink RX6 296 "TrousseauFlow$Order" "isAny" "Z", Cond.methodLink RX6 50 yX6_tellStep, Cond.instanceMethod yX6_tellStep, Cond.selects RX6 yX6_tellStep yX6_tellStep, Cond.code yX6_tellStep cX6_tellStep 5 (some .int), Cond.methodLink RX6 201 yX6_refuse, Cond.instanceMethod yX6_refuse]
def wsL_law_r13 : List Cond := [Cond.selects RX6 yX6_refuse yX6_refuse, Cond.code yX6_refuse cX6_refuse 3 (some .int), Cond.fieldLink RX6 217 "TrousseauFlow" "wasRefused" "Z", Cond.fieldLink RX6 223 "TrousseauFlow" "lastReason" "I", Cond.fieldLink RX6 220 "TrousseauFlow" "lastDetail" "I", Cond.methodLink RX6 257 yX4_addStep, Cond.instanceMethod yX4_addStep, Cond.selects RX4 yX4_addStep yX4_addStep, Cond.code yX4_addStep cX4_addStep 6 (some .int), Cond.methodLink RX4 69 yX5_tellAnew, Cond.instanceMethod yX5_tellAnew, Cond.selects RX5 yX5_tellAnew yX5_tellAnew, Cond.code yX5_tellAnew cX5_tellAnew 5 none, Cond.methodLink RX4 73 yX4_isCancelled, Cond.instanceMethod yX4_isCancelled, Cond.selects RX4 yX4_isCancelled yX4_isCancelled, Cond.code yX4_isCancelled cX4_isCancelled 2 (some .boolean), Cond.methodLink RX4 77 yX4_turn, Cond.instanceMethod yX4_turn, Cond.selects RX4 yX4_turn yX4_turn, Cond.code yX4_turn cX4_turn 5 none, Cond.fieldLink RX4 132 "TrousseauFlow$Step" "toGo" "I", Cond.methodLink RX6 58 yX6_tellNeed, Cond.instanceMethod yX6_tellNeed]
def wsL_law_r14 : List Cond := [Cond.selects RX6 yX6_tellNeed yX6_tellNeed, Cond.code yX6_tellNeed cX6_tellNeed 4 (some .int), Cond.fieldLink RX6 81 "TrousseauFlow$Plan" "steps" "[LTrousseauFlow$Step;", Cond.fieldLink RX6 101 "TrousseauFlow$Step" "how" "I", Cond.fieldLink RX6 116 "TrousseauFlow$Step" "needs" "I", Cond.methodLink RX6 77 yX4_hasStep, Cond.instanceMethod yX4_hasStep, Cond.selects RX4 yX4_hasStep yX4_hasStep, Cond.code yX4_hasStep cX4_hasStep 2 (some .boolean), Cond.methodLink RX6 260 yX4_needsOverAll, Cond.instanceMethod yX4_needsOverAll, Cond.selects RX4 yX4_needsOverAll yX4_needsOverAll, Cond.code yX4_needsOverAll cX4_needsOverAll 7 (some .boolean), Cond.fieldLink RX4 109 "TrousseauFlow$Step" "needs" "I", Cond.methodLink RX6 263 yJ6_bitCount_0f7a4, Cond.methodLink RX6 62 yX6_tellFault, Cond.instanceMethod yX6_tellFault, Cond.selects RX6 yX6_tellFault yX6_tellFault, Cond.code yX6_tellFault cX6_tellFault 4 (some .int), Cond.fieldLink RX6 110 "TrousseauFlow$Step" "wrongNext" "I", Cond.methodLink RX6 268 yX5_isOpen, Cond.instanceMethod yX5_isOpen, Cond.selects RX5 yX5_isOpen yX5_isOpen, Cond.code yX5_isOpen cX5_isOpen 1 (some .boolean)]
def wsL_law_r15 : List Cond := [Cond.methodLink RX6 68 yX6_tellCancel, Cond.instanceMethod yX6_tellCancel, Cond.selects RX6 yX6_tellCancel yX6_tellCancel, Cond.code yX6_tellCancel cX6_tellCancel 2 (some .int), Cond.methodLink RX6 272 yX4_isCancelled, Cond.methodLink RX6 275 yX4_cancelBranch, Cond.instanceMethod yX4_cancelBranch, Cond.selects RX4 yX4_cancelBranch yX4_cancelBranch, Cond.code yX4_cancelBranch cX4_cancelBranch 5 (some .int), Cond.fieldLink RX4 129 "TrousseauFlow$Step" "branch" "I", Cond.fieldLink RX4 126 "TrousseauFlow$Step" "days" "I", Cond.methodLink RX4 116 yX5_isOpen, Cond.methodLink RX6 71 yX6_tellMilestone, Cond.instanceMethod yX6_tellMilestone, Cond.selects RX6 yX6_tellMilestone yX6_tellMilestone, Cond.code yX6_tellMilestone cX6_tellMilestone 4 (some .int), Cond.fieldLink RX6 133 "TrousseauFlow$Step" "dueDay" "I", Cond.methodLink RX6 278 yX4_addMilestone, Cond.instanceMethod yX4_addMilestone, Cond.selects RX4 yX4_addMilestone yX4_addMilestone, Cond.code yX4_addMilestone cX4_addMilestone 4 (some .int), Cond.fieldLink RX4 81 "TrousseauFlow$Step" "dueDay" "I", Cond.methodLink RX6 74 yX6_letDaysGo, Cond.instanceMethod yX6_letDaysGo]
def wsL_law_r16 : List Cond := [Cond.selects RX6 yX6_letDaysGo yX6_letDaysGo, Cond.code yX6_letDaysGo cX6_letDaysGo 4 (some .int), Cond.methodLink RX6 143 yX4_passDay, Cond.instanceMethod yX4_passDay, Cond.selects RX4 yX4_passDay yX4_passDay, Cond.code yX4_passDay cX4_passDay 2 none, Cond.methodLink RX4 135 yX4_workOn, Cond.instanceMethod yX4_workOn, Cond.selects RX4 yX4_workOn yX4_workOn, Cond.code yX4_workOn cX4_workOn 3 none, Cond.fieldLink RX4 148 "TrousseauFlow$Step" "wrongNext" "I", Cond.fieldLink RX4 87 "TrousseauFlow$Step" "doneDay" "I", Cond.fieldLink RX4 123 "TrousseauFlow$Step" "begun" "I", Cond.fieldLink RX4 151 "TrousseauFlow$Step" "more" "I", Cond.methodLink RX4 154 yX4_cancelBranch, Cond.methodLink RX4 139 yX4_undoInBranch, Cond.instanceMethod yX4_undoInBranch, Cond.selects RX4 yX4_undoInBranch yX4_undoInBranch, Cond.code yX4_undoInBranch cX4_undoInBranch 4 none, Cond.methodLink RX4 157 yX4_firstToUndo, Cond.instanceMethod yX4_firstToUndo, Cond.selects RX4 yX4_firstToUndo yX4_firstToUndo, Cond.code yX4_firstToUndo cX4_firstToUndo 6 (some .int), Cond.methodLink RX4 142 yX4_leaveOutHopeless]
def wsL_law_r17 : List Cond := [Cond.instanceMethod yX4_leaveOutHopeless, Cond.selects RX4 yX4_leaveOutHopeless yX4_leaveOutHopeless, Cond.code yX4_leaveOutHopeless cX4_leaveOutHopeless 4 none, Cond.methodLink RX4 160 yX4_setOfOff, Cond.instanceMethod yX4_setOfOff, Cond.selects RX4 yX4_setOfOff yX4_setOfOff, Cond.code yX4_setOfOff cX4_setOfOff 3 (some .int), Cond.methodLink RX4 105 yX5_isOff, Cond.instanceMethod yX5_isOff, Cond.selects RX5 yX5_isOff yX5_isOff, Cond.code yX5_isOff cX5_isOff 1 (some .boolean), Cond.methodLink RX4 164 yX4_lowestHopeless, Cond.instanceMethod yX4_lowestHopeless, Cond.selects RX4 yX4_lowestHopeless yX4_lowestHopeless, Cond.code yX4_lowestHopeless cX4_lowestHopeless 3 (some .int), Cond.methodLink RX4 167 yX4_isHopeless, Cond.instanceMethod yX4_isHopeless, Cond.selects RX4 yX4_isHopeless yX4_isHopeless, Cond.code yX4_isHopeless cX4_isHopeless 4 (some .boolean), Cond.fieldLink RX4 112 "TrousseauFlow$Step" "isAny" "Z", Cond.methodLink RX4 145 yX4_beginTries, Cond.instanceMethod yX4_beginTries, Cond.selects RX4 yX4_beginTries yX4_beginTries, Cond.code yX4_beginTries cX4_beginTries 5 none]
def wsL_law_r18 : List Cond := [Cond.methodLink RX4 170 yX4_countOf, Cond.methodLink RX4 173 yX4_firstToBegin, Cond.instanceMethod yX4_firstToBegin, Cond.selects RX4 yX4_firstToBegin yX4_firstToBegin, Cond.code yX4_firstToBegin cX4_firstToBegin 6 (some .int), Cond.methodLink RX4 176 yX4_isReady, Cond.instanceMethod yX4_isReady, Cond.selects RX4 yX4_isReady yX4_isReady, Cond.code yX4_isReady cX4_isReady 4 (some .boolean), Cond.methodLink RL 43 yX6_step, Cond.instanceMethod yX6_step, Cond.selects RX6 yX6_step yX6_step, Cond.code yX6_step cX6_step 5 (some .int), Cond.methodLink RL 159 yL_is, Cond.static yL_is, Cond.initialized RL, Cond.code yL_is cL_is 3 (some .boolean), Cond.methodLink RL 26 yX6_reason, Cond.instanceMethod yX6_reason, Cond.selects RX6 yX6_reason yX6_reason, Cond.code yX6_reason cX6_reason 2 (some .int), Cond.methodLink RL 47 yX6_need, Cond.instanceMethod yX6_need, Cond.selects RX6 yX6_need yX6_need]
def wsL_law_r19 : List Cond := [Cond.code yX6_need cX6_need 3 (some .int), Cond.methodLink RL 53 yX6_milestone, Cond.instanceMethod yX6_milestone, Cond.selects RX6 yX6_milestone yX6_milestone, Cond.code yX6_milestone cX6_milestone 3 (some .int), Cond.methodLink RL 99 yX6_chain, Cond.instanceMethod yX6_chain, Cond.selects RX6 yX6_chain yX6_chain, Cond.code yX6_chain cX6_chain 2 (some .int), Cond.fieldLink RX6 152 "TrousseauFlow$Chains" "byNeeds" "[I", Cond.methodLink RX6 149 yX0_measureByNeeds, Cond.instanceMethod yX0_measureByNeeds, Cond.selects RX0 yX0_measureByNeeds yX0_measureByNeeds, Cond.code yX0_measureByNeeds cX0_measureByNeeds 3 none, Cond.fieldLink RX0 18 "TrousseauFlow$Plan" "count" "I", Cond.methodLink RX0 24 yX0_longest, Cond.static yX0_longest, Cond.code yX0_longest cX0_longest 7 (some .int), Cond.fieldLink RX0 28 "TrousseauFlow$Plan" "steps" "[LTrousseauFlow$Step;", Cond.fieldLink RX0 32 "TrousseauFlow$Step" "needs" "I", Cond.methodLink RX0 37 Lib.Math.max.name, Cond.fieldLink RX0 43 "TrousseauFlow$Step" "days" "I", Cond.methodLink RL 102 yX6_chainAgain, Cond.instanceMethod yX6_chainAgain]
def wsL_law_r20 : List Cond := [Cond.selects RX6 yX6_chainAgain yX6_chainAgain, Cond.code yX6_chainAgain cX6_chainAgain 2 (some .int), Cond.fieldLink RX6 158 "TrousseauFlow$Chains" "byRounds" "[I", Cond.methodLink RX6 155 yX0_measureByRounds, Cond.instanceMethod yX0_measureByRounds, Cond.selects RX0 yX0_measureByRounds yX0_measureByRounds, Cond.code yX0_measureByRounds cX0_measureByRounds 5 none, Cond.methodLink RX0 46 yX0_lengthen, Cond.instanceMethod yX0_lengthen, Cond.selects RX0 yX0_lengthen yX0_lengthen, Cond.code yX0_lengthen cX0_lengthen 6 (some .boolean), Cond.methodLink RL 96 yX6_doneIn, Cond.instanceMethod yX6_doneIn, Cond.selects RX6 yX6_doneIn yX6_doneIn, Cond.code yX6_doneIn cX6_doneIn 3 (some .int), Cond.methodLink RL 59 yX6_days, Cond.instanceMethod yX6_days, Cond.selects RX6 yX6_days yX6_days, Cond.code yX6_days cX6_days 2 (some .int), Cond.methodLink RL 90 yX6_stepOf, Cond.instanceMethod yX6_stepOf, Cond.selects RX6 yX6_stepOf yX6_stepOf, Cond.code yX6_stepOf cX6_stepOf 4 (some .int), Cond.fieldLink RX6 85 "TrousseauFlow$Step" "days" "I"]
def wsL_law_r21 : List Cond := [Cond.fieldLink RX6 91 "TrousseauFlow$Step" "more" "I", Cond.fieldLink RX6 94 "TrousseauFlow$Step" "branch" "I", Cond.fieldLink RX6 97 "TrousseauFlow$Step" "isAny" "Z", Cond.fieldLink RX6 104 "TrousseauFlow$Step" "toGo" "I", Cond.fieldLink RX6 107 "TrousseauFlow$Step" "begun" "I", Cond.fieldLink RX6 113 "TrousseauFlow$Step" "doneDay" "I", Cond.methodLink RL 183 yL_makes, Cond.static yL_makes, Cond.code yL_makes cL_makes 6 (some .boolean), Cond.methodLink RL 33 yL_at, Cond.static yL_at, Cond.code yL_at cL_at 2 (some .int), Cond.methodLink RL 39 yL_some, Cond.static yL_some, Cond.code yL_some cL_some 3 (some .int), Cond.methodLink RL 50 yX6_fault, Cond.instanceMethod yX6_fault, Cond.selects RX6 yX6_fault yX6_fault, Cond.code yX6_fault cX6_fault 3 (some .int), Cond.methodLink RL 155 yL_asks, Cond.static yL_asks, Cond.code yL_asks cL_asks 6 (some .long), Cond.constantLong RL 62 (31), Cond.methodLink RL 64 yX6_meanDays]
def wsL_law_r22 : List Cond := [Cond.instanceMethod yX6_meanDays, Cond.selects RX6 yX6_meanDays yX6_meanDays, Cond.code yX6_meanDays cX6_meanDays 3 (some .double), Cond.methodLink RL 68 yJxe99ae_doubleToLongBits_ccdee, Cond.static yJxe99ae_doubleToLongBits_ccdee, Cond.initialized RJxe99ae, Cond.code yJxe99ae_doubleToLongBits_ccdee cJxe99ae_doubleToLongBits_ccdee 2 (some .long), Cond.methodLink RJxe99ae 134 ⟨"java/lang/Double", "doubleToRawLongBits", "(D)J"⟩, Cond.native ⟨"java/lang/Double", "doubleToRawLongBits", "(D)J"⟩, Cond.static ⟨"java/lang/Double", "doubleToRawLongBits", "(D)J"⟩, Cond.initialized "java/lang/Double", Cond.constantLong RJxe99ae 137 (9221120237041090560), Cond.methodLink RJxe99ae 122 yJxe99ae_isNaN_b9ae7, Cond.static yJxe99ae_isNaN_b9ae7, Cond.code yJxe99ae_isNaN_b9ae7 cJxe99ae_isNaN_b9ae7 2 (some .boolean), Cond.methodLink RL 74 yX6_wrongShare, Cond.instanceMethod yX6_wrongShare, Cond.selects RX6 yX6_wrongShare yX6_wrongShare, Cond.code yX6_wrongShare cX6_wrongShare 1 (some .float), Cond.methodLink RL 78 yJxf58ca_floatToIntBits_5c35a, Cond.static yJxf58ca_floatToIntBits_5c35a, Cond.initialized RJxf58ca, Cond.code yJxf58ca_floatToIntBits_5c35a cJxf58ca_floatToIntBits_5c35a 1 (some .int), Cond.methodLink RJxf58ca 74 ⟨"java/lang/Float", "floatToRawIntBits", "(F)I"⟩]
def wsL_law_r23 : List Cond := [Cond.native ⟨"java/lang/Float", "floatToRawIntBits", "(F)I"⟩, Cond.static ⟨"java/lang/Float", "floatToRawIntBits", "(F)I"⟩, Cond.initialized "java/lang/Float", Cond.constant RJxf58ca 77 (2143289344), Cond.methodLink RJxf58ca 59 yJxf58ca_isNaN_12338, Cond.static yJxf58ca_isNaN_12338, Cond.code yJxf58ca_isNaN_12338 cJxf58ca_isNaN_12338 1 (some .boolean), Cond.methodLink RL 84 yX6_isBalanced, Cond.instanceMethod yX6_isBalanced, Cond.selects RX6 yX6_isBalanced yX6_isBalanced, Cond.code yX6_isBalanced cX6_isBalanced 3 (some .int), Cond.methodLink RL 93 yX6_ready, Cond.instanceMethod yX6_ready, Cond.selects RX6 yX6_ready yX6_ready, Cond.code yX6_ready cX6_ready 2 (some .int), Cond.methodLink RX6 119 yX4_setOf, Cond.methodLink RX6 122 yX4_isReady, Cond.methodLink RL 105 yX6_ranked, Cond.instanceMethod yX6_ranked, Cond.selects RX6 yX6_ranked yX6_ranked, Cond.code yX6_ranked cX6_ranked 3 (some .int), Cond.methodLink RX6 173 yX4_stepsAheadOf, Cond.instanceMethod yX4_stepsAheadOf, Cond.selects RX4 yX4_stepsAheadOf yX4_stepsAheadOf]
def wsL_law_r24 : List Cond := [Cond.code yX4_stepsAheadOf cX4_stepsAheadOf 4 (some .int), Cond.methodLink RX4 119 yX4_isRankedAhead, Cond.instanceMethod yX4_isRankedAhead, Cond.selects RX4 yX4_isRankedAhead yX4_isRankedAhead, Cond.code yX4_isRankedAhead cX4_isRankedAhead 5 (some .boolean), Cond.methodLink RL 108 yX6_tell, Cond.instanceMethod yX6_tell, Cond.selects RX6 yX6_tell yX6_tell, Cond.code yX6_tell cX6_tell 2 (some .int), Cond.fieldLink RX6 204 "TrousseauFlow$Line" "length" "I", Cond.methodLink RX6 205 yX1_putStep, Cond.instanceMethod yX1_putStep, Cond.selects RX1 yX1_putStep yX1_putStep, Cond.code yX1_putStep cX1_putStep 4 none, Cond.fieldLink RX1 23 "TrousseauFlow$Step" "days" "I", Cond.fieldLink RX1 29 "TrousseauFlow$Step" "more" "I", Cond.fieldLink RX1 32 "TrousseauFlow$Step" "isAny" "Z", Cond.fieldLink RX1 36 "TrousseauFlow$Step" "branch" "I", Cond.fieldLink RX1 39 "TrousseauFlow$Step" "needs" "I", Cond.methodLink RX1 15 yX1_putNumber, Cond.instanceMethod yX1_putNumber, Cond.selects RX1 yX1_putNumber yX1_putNumber, Cond.code yX1_putNumber cX1_putNumber 2 none, Cond.methodLink RX1 19 yX1_putSign]
def wsL_law_r25 : List Cond := [Cond.instanceMethod yX1_putSign, Cond.selects RX1 yX1_putSign yX1_putSign, Cond.code yX1_putSign cX1_putSign 2 none, Cond.fieldLink RX1 54 "TrousseauFlow$Line" "length" "I", Cond.methodLink RL 30 yX6_character, Cond.instanceMethod yX6_character, Cond.selects RX6 yX6_character yX6_character, Cond.code yX6_character cX6_character 2 (some .int), Cond.fieldLink RX6 213 "TrousseauFlow$Line" "signs" "[C", Cond.methodLink RL 111 yX6_milestoneOf, Cond.instanceMethod yX6_milestoneOf, Cond.selects RX6 yX6_milestoneOf yX6_milestoneOf, Cond.code yX6_milestoneOf cX6_milestoneOf 4 (some .int), Cond.fieldLink RX6 129 "TrousseauFlow$Plan" "milestones" "[I", Cond.methodLink RX6 136 yX4_lateBy, Cond.instanceMethod yX4_lateBy, Cond.selects RX4 yX4_lateBy yX4_lateBy, Cond.code yX4_lateBy cX4_lateBy 4 (some .int), Cond.methodLink RX4 90 Lib.Math.max.name, Cond.methodLink RL 114 yX6_logged, Cond.instanceMethod yX6_logged, Cond.selects RX6 yX6_logged yX6_logged, Cond.code yX6_logged cX6_logged 4 (some .int), Cond.fieldLink RX6 161 "TrousseauFlow$Plan" "eventCount" "I"]
def wsL_law_r26 : List Cond := [Cond.fieldLink RX6 164 "TrousseauFlow$Plan" "nextEvent" "I", Cond.fieldLink RX6 167 "TrousseauFlow$Plan" "events" "[I", Cond.methodLink RL 117 yX6_tellAll, Cond.instanceMethod yX6_tellAll, Cond.selects RX6 yX6_tellAll yX6_tellAll, Cond.code yX6_tellAll cX6_tellAll 2 (some .int), Cond.methodLink RX6 209 yX1_putLetterOf, Cond.instanceMethod yX1_putLetterOf, Cond.selects RX1 yX1_putLetterOf yX1_putLetterOf, Cond.code yX1_putLetterOf cX1_putLetterOf 2 none, Cond.methodLink RX1 44 yJ0_length_8abf5, Cond.methodLink RX1 50 yJ0_charAt_5068e, Cond.methodLink RL 120 yX6_late, Cond.instanceMethod yX6_late, Cond.selects RX6 yX6_late yX6_late, Cond.code yX6_late cX6_late 3 (some .int), Cond.methodLink RL 187 yL_refused, Cond.static yL_refused, Cond.code yL_refused cL_refused 7 (some .boolean), Cond.methodLink RL 123 yX6_cancel, Cond.instanceMethod yX6_cancel, Cond.selects RX6 yX6_cancel yX6_cancel, Cond.code yX6_cancel cX6_cancel 2 (some .int), Cond.methodLink RL 151 yL_reads]
def wsL_law_r27 : List Cond := [Cond.static yL_reads, Cond.code yL_reads cL_reads 3 (some .int), Cond.methodLink RL 7 yJ0_length_8abf5, Cond.methodLink RL 13 yJ0_charAt_5068e, Cond.methodLink RL 169 yL_refusedAt, Cond.static yL_refusedAt, Cond.code yL_refusedAt cL_refusedAt 2 (some .boolean), Cond.methodLink RL 191 yL_changes, Cond.static yL_changes, Cond.code yL_changes cL_changes 4 (some .boolean), Cond.classLink RL 126 RJ4, Cond.instantiable RJ4 4, Cond.initialized RJ4, Cond.methodLink RL 128 yJ4_init_da8c8, Cond.instanceMethod yJ4_init_da8c8, Cond.code yJ4_init_da8c8 cJ4_init_da8c8 1 none, Cond.methodLink RJ4 1 yJ5_init_d00df, Cond.instanceMethod yJ5_init_d00df, Cond.initialized RJ5, Cond.code yJ5_init_d00df cJ5_init_d00df 2 none, Cond.methodLink RJ5 3 objectInit, Cond.fieldLink RJ5 18 "java/lang/String" "COMPACT_STRINGS" "Z", Cond.arrayClass .byte, Cond.fieldLink RJ5 15 "java/lang/AbstractStringBuilder" "value" "[B"]
def wsL_law_r28 : List Cond := [Cond.fieldLink RJ5 22 "java/lang/AbstractStringBuilder" "coder" "B", Cond.methodLink RJ5 26 yJ2_newBytesFor_77867, Cond.static yJ2_newBytesFor_77867, Cond.code yJ2_newBytesFor_77867 cJ2_newBytesFor_77867 1 (some (.array .byte)), Cond.methodLink RJ2 11 yJ2_newBytesLength_0f7a4, Cond.static yJ2_newBytesLength_0f7a4, Cond.code yJ2_newBytesLength_0f7a4 cJ2_newBytesLength_0f7a4 1 (some .int), Cond.constant RJ2 20 (1073741823), Cond.methodLink RL 131 yJ4_append_15ec4, Cond.instanceMethod yJ4_append_15ec4, Cond.selects RJ4 yJ4_append_15ec4 yJ4_append_15ec4, Cond.code yJ4_append_15ec4 cJ4_append_15ec4 2 (some (.object "java/lang/StringBuilder")), Cond.methodLink RJ4 29 yJ5_append_cf1ce, Cond.sameMethod "java/lang/AbstractStringBuilder" "java/lang/AbstractStringBuilder" "append" "(Ljava/lang/String;)Ljava/lang/AbstractStringBuilder;", Cond.superclass RJ4 RJ5, Cond.instanceMethod yJ5_append_cf1ce, Cond.code yJ5_append_cf1ce cJ5_append_cf1ce 3 (some (.object "java/lang/AbstractStringBuilder")), Cond.fieldLink RJ5 79 "java/lang/AbstractStringBuilder" "count" "I", Cond.methodLink RJ5 204 ⟨"java/lang/AbstractStringBuilder", "appendNull", "()Ljava/lang/AbstractStringBuilder;"⟩, Cond.sameMethod "java/lang/AbstractStringBuilder" "java/lang/AbstractStringBuilder" "appendNull" "()Ljava/lang/AbstractStringBuilder;", Cond.instanceMethod yJ5_appendNull_278bc, Cond.code yJ5_appendNull_278bc cJ5_appendNull_278bc 3 (some (.object "java/lang/AbstractStringBuilder")), Cond.methodLink RJ5 100 ⟨"java/lang/AbstractStringBuilder", "ensureCapacityInternal", "(I)V"⟩]
def wsL_law_r29 : List Cond := [Cond.sameMethod "java/lang/AbstractStringBuilder" "java/lang/AbstractStringBuilder" "ensureCapacityInternal" "(I)V", Cond.instanceMethod yJ5_ensureCapacityInternal_d00df, Cond.code yJ5_ensureCapacityInternal_d00df cJ5_ensureCapacityInternal_d00df 3 none, Cond.methodLink RJ5 104 ⟨"java/lang/AbstractStringBuilder", "newCapacity", "(I)I"⟩, Cond.sameMethod "java/lang/AbstractStringBuilder" "java/lang/AbstractStringBuilder" "newCapacity" "(I)I", Cond.instanceMethod yJ5_newCapacity_0f7a4, Cond.code yJ5_newCapacity_0f7a4 cJ5_newCapacity_0f7a4 6 (some .int), Cond.constant RJ5 39 (2147483647), Cond.methodLink RJ5 114 yJ8_newLength_cabcc, Cond.static yJ8_newLength_cabcc, Cond.initialized RJ8, Cond.code yJ8_newLength_cabcc cJ8_newLength_cabcc 4 (some .int), Cond.methodLink RJ8 194 Lib.Math.max.name, Cond.constant RJ8 200 (2147483639), Cond.methodLink RJ8 201 yJ8_hugeLength_7cf53, Cond.static yJ8_hugeLength_7cf53, Cond.code yJ8_hugeLength_7cf53 cJ8_hugeLength_7cf53 3 (some .int), Cond.methodLink RJ5 108 yJ7_copyOf_9075b, Cond.static yJ7_copyOf_9075b, Cond.initialized RJ7, Cond.code yJ7_copyOf_9075b cJ7_copyOf_9075b 3 (some (.array .byte)), Cond.methodLink RJ7 310 ⟨"[B", "clone", "()Ljava/lang/Object;"⟩]
def wsL_law_r30 : List Cond := [Cond.sameMethod "[B" "java/lang/Object" "clone" "()Ljava/lang/Object;", Cond.native ⟨"java/lang/Object", "clone", "()Ljava/lang/Object;"⟩, Cond.instanceMethod ⟨"java/lang/Object", "clone", "()Ljava/lang/Object;"⟩, Cond.selects "[B" ⟨"[B", "clone", "()Ljava/lang/Object;"⟩ ⟨"java/lang/Object", "clone", "()Ljava/lang/Object;"⟩, Cond.classLink RJ7 311 "[B", Cond.methodLink RJ7 304 Lib.Math.min.name, Cond.methodLink RJ7 150 arraycopyName, Cond.methodLink RJ5 83 ⟨"java/lang/AbstractStringBuilder", "isLatin1", "()Z"⟩, Cond.sameMethod "java/lang/AbstractStringBuilder" "java/lang/AbstractStringBuilder" "isLatin1" "()Z", Cond.selects RJ4 ⟨"java/lang/AbstractStringBuilder", "isLatin1", "()Z"⟩ yJ5_isLatin1_aae02, Cond.instanceMethod yJ5_isLatin1_aae02, Cond.code yJ5_isLatin1_aae02 cJ5_isLatin1_aae02 1 (some .boolean), Cond.methodLink RJ5 226 yJ2_putCharsAt_cd4e5, Cond.static yJ2_putCharsAt_cd4e5, Cond.code yJ2_putCharsAt_cd4e5 cJ2_putCharsAt_cd4e5 7 (some .int), Cond.methodLink RJ2 96 yJ2_checkBoundsBeginEnd_d044e, Cond.static yJ2_checkBoundsBeginEnd_d044e, Cond.code yJ2_checkBoundsBeginEnd_d044e cJ2_checkBoundsBeginEnd_d044e 3 none, Cond.methodLink RJ2 241 yJ0_checkBoundsBeginEnd_23922, Cond.static yJ0_checkBoundsBeginEnd_23922, Cond.code yJ0_checkBoundsBeginEnd_23922 cJ0_checkBoundsBeginEnd_23922 3 none, Cond.methodLink RJ0 1062 yJ3_checkFromToIndex_8c36e, Cond.static yJ3_checkFromToIndex_8c36e, Cond.code yJ3_checkFromToIndex_8c36e cJ3_checkFromToIndex_8c36e 4 (some .int)]
def wsL_law_r31 : List Cond := [Cond.methodLink RJ2 111 yJ2_putChar_b72d1, Cond.static yJ2_putChar_b72d1, Cond.code yJ2_putChar_b72d1 cJ2_putChar_b72d1 3 none, Cond.methodLink RJ5 32 yJ0_length_8abf5, Cond.methodLink RJ5 208 ⟨"java/lang/AbstractStringBuilder", "putStringAt", "(ILjava/lang/String;)V"⟩, Cond.sameMethod "java/lang/AbstractStringBuilder" "java/lang/AbstractStringBuilder" "putStringAt" "(ILjava/lang/String;)V", Cond.instanceMethod yJ5_putStringAt_47b60, Cond.code yJ5_putStringAt_47b60 cJ5_putStringAt_47b60 3 none, Cond.methodLink RJ5 397 ⟨"java/lang/AbstractStringBuilder", "inflateIfNeededFor", "(Ljava/lang/String;)V"⟩, Cond.sameMethod "java/lang/AbstractStringBuilder" "java/lang/AbstractStringBuilder" "inflateIfNeededFor" "(Ljava/lang/String;)V", Cond.instanceMethod yJ5_inflateIfNeededFor_a7421, Cond.code yJ5_inflateIfNeededFor_a7421 cJ5_inflateIfNeededFor_a7421 2 none, Cond.methodLink RJ5 40 yJ0_coder_7d493, Cond.methodLink RJ5 195 ⟨"java/lang/AbstractStringBuilder", "inflate", "()V"⟩, Cond.sameMethod "java/lang/AbstractStringBuilder" "java/lang/AbstractStringBuilder" "inflate" "()V", Cond.instanceMethod yJ5_inflate_da8c8, Cond.code yJ5_inflate_da8c8 cJ5_inflate_da8c8 2 none, Cond.methodLink RJ5 125 yJ1_inflate_0e8fd, Cond.static yJ1_inflate_0e8fd, Cond.code yJ1_inflate_0e8fd cJ1_inflate_0e8fd 5 none, Cond.methodLink RJ1 240 yJ2_inflate_0e8fd]
def wsL_law_r32 : List Cond := [Cond.static yJ2_inflate_0e8fd, Cond.code yJ2_inflate_0e8fd cJ2_inflate_0e8fd 6 none, Cond.methodLink RJ2 173 yJ2_checkBoundsOffCount_d044e, Cond.static yJ2_checkBoundsOffCount_d044e, Cond.code yJ2_checkBoundsOffCount_d044e cJ2_checkBoundsOffCount_d044e 3 none, Cond.methodLink RJ2 419 yJ0_checkBoundsOffCount_cabcc, Cond.static yJ0_checkBoundsOffCount_cabcc, Cond.code yJ0_checkBoundsOffCount_cabcc cJ0_checkBoundsOffCount_cabcc 3 (some .int), Cond.methodLink RJ0 1065 yJ3_checkFromIndexSize_8c36e, Cond.static yJ3_checkFromIndexSize_8c36e, Cond.code yJ3_checkFromIndexSize_8c36e cJ3_checkFromIndexSize_8c36e 4 (some .int), Cond.methodLink RJ5 399 yJ0_getBytes_840e7, Cond.instanceMethod yJ0_getBytes_840e7, Cond.selects RJ0 yJ0_getBytes_840e7 yJ0_getBytes_840e7, Cond.code yJ0_getBytes_840e7 cJ0_getBytes_840e7 4 none, Cond.methodLink RJ0 212 arraycopyName, Cond.methodLink RJ0 106 yJ1_inflate_0e8fd, Cond.methodLink RL 134 yJ4_append_bf812, Cond.instanceMethod yJ4_append_bf812, Cond.selects RJ4 yJ4_append_bf812 yJ4_append_bf812, Cond.code yJ4_append_bf812 cJ4_append_bf812 2 (some (.object "java/lang/StringBuilder")), Cond.methodLink RJ4 53 yJ5_append_c97b9, Cond.sameMethod "java/lang/AbstractStringBuilder" "java/lang/AbstractStringBuilder" "append" "(I)Ljava/lang/AbstractStringBuilder;", Cond.instanceMethod yJ5_append_c97b9]
def wsL_law_r33 : List Cond := [Cond.code yJ5_append_c97b9 cJ5_append_c97b9 4 (some (.object "java/lang/AbstractStringBuilder")), Cond.methodLink RJ5 245 yJ6_stringSize_0f7a4, Cond.static yJ6_stringSize_0f7a4, Cond.code yJ6_stringSize_0f7a4 cJ6_stringSize_0f7a4 4 (some .int), Cond.methodLink RJ5 248 yJ6_getChars_ba4f3, Cond.static yJ6_getChars_ba4f3, Cond.code yJ6_getChars_ba4f3 cJ6_getChars_ba4f3 7 (some .int), Cond.fieldLink RJ6 83 "java/lang/Integer" "DigitOnes" "[B", Cond.fieldLink RJ6 87 "java/lang/Integer" "DigitTens" "[B", Cond.methodLink RJ5 251 yJ2_getChars_46870, Cond.static yJ2_getChars_46870, Cond.code yJ2_getChars_46870 cJ2_getChars_46870 5 (some .int), Cond.methodLink RJ2 393 yJ2_getChars_ba4f3, Cond.static yJ2_getChars_ba4f3, Cond.code yJ2_getChars_ba4f3 cJ2_getChars_ba4f3 7 (some .int), Cond.fieldLink RJ2 403 "java/lang/Integer" "DigitOnes" "[B", Cond.fieldLink RJ2 407 "java/lang/Integer" "DigitTens" "[B", Cond.methodLink RL 141 yJ4_toString_0e30d, Cond.instanceMethod yJ4_toString_0e30d, Cond.selects RJ4 yJ4_toString_0e30d yJ4_toString_0e30d, Cond.code yJ4_toString_0e30d cJ4_toString_0e30d 1 (some (.object "java/lang/String")), Cond.classLink RJ4 18 RJ0, Cond.instantiable RJ0 4, Cond.methodLink RJ4 137 yJ0_init_81219]
def wsL_law_r34 : List Cond := [Cond.instanceMethod yJ0_init_81219, Cond.code yJ0_init_81219 cJ0_init_81219 2 none, Cond.methodLink RJ0 489 yJ0_init_db425, Cond.instanceMethod yJ0_init_db425, Cond.code yJ0_init_db425 cJ0_init_db425 5 none, Cond.methodLink RJ0 1 objectInit, Cond.fieldLink RJ0 1048 "java/lang/AbstractStringBuilder" "maybeLatin1" "Z", Cond.methodLink RJ0 552 ⟨"java/lang/AbstractStringBuilder", "getValue", "()[B"⟩, Cond.sameMethod "java/lang/AbstractStringBuilder" "java/lang/AbstractStringBuilder" "getValue" "()[B", Cond.selects RJ4 ⟨"java/lang/AbstractStringBuilder", "getValue", "()[B"⟩ yJ5_getValue_6d5f1, Cond.instanceMethod yJ5_getValue_6d5f1, Cond.code yJ5_getValue_6d5f1 cJ5_getValue_6d5f1 1 (some (.array .byte)), Cond.methodLink RJ0 549 ⟨"java/lang/AbstractStringBuilder", "length", "()I"⟩, Cond.sameMethod "java/lang/AbstractStringBuilder" "java/lang/AbstractStringBuilder" "length" "()I", Cond.instanceMethod ⟨"java/lang/AbstractStringBuilder", "length", "()I"⟩, Cond.selects RJ4 ⟨"java/lang/AbstractStringBuilder", "length", "()I"⟩ yJ4_length_8abf5, Cond.instanceMethod yJ4_length_8abf5, Cond.code yJ4_length_8abf5 cJ4_length_8abf5 1 (some .int), Cond.methodLink RJ4 343 yJ5_length_8abf5, Cond.instanceMethod yJ5_length_8abf5, Cond.code yJ5_length_8abf5 cJ5_length_8abf5 1 (some .int), Cond.methodLink RJ0 1047 ⟨"java/lang/AbstractStringBuilder", "isLatin1", "()Z"⟩, Cond.methodLink RJ0 54 yJ7_copyOfRange_39247, Cond.static yJ7_copyOfRange_39247]
def wsL_law_r35 : List Cond := [Cond.code yJ7_copyOfRange_39247 cJ7_copyOfRange_39247 3 (some (.array .byte)), Cond.methodLink RJ7 339 yJ7_copyOfRangeByte_39247, Cond.static yJ7_copyOfRangeByte_39247, Cond.code yJ7_copyOfRangeByte_39247 cJ7_copyOfRangeByte_39247 5 (some (.array .byte)), Cond.methodLink RJ7 343 yJ7_checkLength_df160, Cond.static yJ7_checkLength_df160, Cond.code yJ7_checkLength_df160 cJ7_checkLength_df160 2 none, Cond.methodLink RJ0 1051 yJ2_compress_39247, Cond.static yJ2_compress_39247, Cond.code yJ2_compress_39247 cJ2_compress_39247 6 (some (.array .byte)), Cond.methodLink RJ2 123 yJ2_compress_5af95, Cond.static yJ2_compress_5af95, Cond.code yJ2_compress_5af95 cJ2_compress_5af95 7 (some .int), Cond.methodLink RJ2 126 yJ7_copyOfRange_39247, Cond.methodLink RJ0 47 yJ2_coderFromArrayLen_85cad, Cond.static yJ2_coderFromArrayLen_85cad, Cond.code yJ2_coderFromArrayLen_85cad cJ2_coderFromArrayLen_85cad 2 (some .byte)]
def wsL_law : List Cond := (wsL_law_r1 ++ (wsL_law_r2 ++ (wsL_law_r3 ++ (wsL_law_r4 ++ (wsL_law_r5 ++ (wsL_law_r6 ++ (wsL_law_r7 ++ (wsL_law_r8 ++ (wsL_law_r9 ++ (wsL_law_r10 ++ (wsL_law_r11 ++ (wsL_law_r12 ++ (wsL_law_r13 ++ (wsL_law_r14 ++ (wsL_law_r15 ++ (wsL_law_r16 ++ (wsL_law_r17 ++ (wsL_law_r18 ++ (wsL_law_r19 ++ (wsL_law_r20 ++ (wsL_law_r21 ++ (wsL_law_r22 ++ (wsL_law_r23 ++ (wsL_law_r24 ++ (wsL_law_r25 ++ (wsL_law_r26 ++ (wsL_law_r27 ++ (wsL_law_r28 ++ (wsL_law_r29 ++ (wsL_law_r30 ++ (wsL_law_r31 ++ (wsL_law_r32 ++ (wsL_law_r33 ++ (wsL_law_r34 ++ wsL_law_r35)))))))))))))))))))))))))))))))))) ++ wsX60 ++ wsX40 ++ wsX30 ++ wsX10 ++ wsX00 ++ wsX50 ++ wsX20 ++ wsJ00 ++ wsJ40 ++ ([] : List Cond)
theorem inlX0 : ∀ w ∈ wsX00, w ∈ wsL_law := fun _ h => List.mem_append_left _ (List.mem_append_left _ (List.mem_append_left _ (List.mem_append_left _ (List.mem_append_left _ (List.mem_append_right _ h)))))
theorem inlX1 : ∀ w ∈ wsX10, w ∈ wsL_law := fun _ h => List.mem_append_left _ (List.mem_append_left _ (List.mem_append_left _ (List.mem_append_left _ (List.mem_append_left _ (List.mem_append_left _ (List.mem_append_right _ h))))))
theorem inlX2 : ∀ w ∈ wsX20, w ∈ wsL_law := fun _ h => List.mem_append_left _ (List.mem_append_left _ (List.mem_append_left _ (List.mem_append_right _ h)))
theorem inlX3 : ∀ w ∈ wsX30, w ∈ wsL_law := fun _ h => List.mem_append_left _ (List.mem_append_left _ (List.mem_append_left _ (List.mem_append_left _ (List.mem_append_left _ (List.mem_append_left _ (List.mem_append_left _ (List.mem_append_right _ h)))))))
theorem inlX4 : ∀ w ∈ wsX40, w ∈ wsL_law := fun _ h => List.mem_append_left _ (List.mem_append_left _ (List.mem_append_left _ (List.mem_append_left _ (List.mem_append_left _ (List.mem_append_left _ (List.mem_append_left _ (List.mem_append_left _ (List.mem_append_right _ h))))))))
theorem inlX5 : ∀ w ∈ wsX50, w ∈ wsL_law := fun _ h => List.mem_append_left _ (List.mem_append_left _ (List.mem_append_left _ (List.mem_append_left _ (List.mem_append_right _ h))))
theorem inlX6 : ∀ w ∈ wsX60, w ∈ wsL_law := fun _ h => List.mem_append_left _ (List.mem_append_left _ (List.mem_append_left _ (List.mem_append_left _ (List.mem_append_left _ (List.mem_append_left _ (List.mem_append_left _ (List.mem_append_left _ (List.mem_append_left _ (List.mem_append_right _ h)))))))))
theorem inlJ0 : ∀ w ∈ wsJ00, w ∈ wsL_law := fun _ h => List.mem_append_left _ (List.mem_append_left _ (List.mem_append_right _ h))
theorem inlJ4 : ∀ w ∈ wsJ40, w ∈ wsL_law := fun _ h => List.mem_append_left _ (List.mem_append_right _ h)
abbrev vwCl : List vw_C := [(RJ0, TJ0, 4), (RJ4, TJ4, 4), (RX0, TX0, 2), (RX1, TX1, 2), (RX2, TX2, 5), (RX3, TX3, 5), (RX4, TX4, 14), (RX5, TX5, 11), (RX6, TX6, 13)]

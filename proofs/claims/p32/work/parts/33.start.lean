/-! PART 33: what the Statement gives of the start -/
abbrev st_L : List Cond := flatC (Jvm.Cond.and given_1 narrow_1)
def st_own : List (String × Nat) := [(RX3, 67), (RX3, 47), (RX3, 53), (RX3, 55), (RX3, 61), (RX3, 63), (RX3, 65), (RX1, 42), (RL, 137), (RL, 139), (RL, 147), (RL, 149), (RL, 163), (RL, 165), (RL, 167)]
def st_t (i : Nat) : Term := Term.string (st_own.getD i ("", 0)).1 (st_own.getD i ("", 0)).2
theorem st_ones : ∀ j, j < 100 → st_L[12 + j]? = some (Cond.eq (.elem (.static "java/lang/Integer" "DigitOnes" "[B") (.int (Int32.ofNat j))) (.int (nI (48 + j % 10)))) := by decide +kernel
theorem st_tens : ∀ j, j < 100 → st_L[115 + j]? = some (Cond.eq (.elem (.static "java/lang/Integer" "DigitTens" "[B") (.int (Int32.ofNat j))) (.int (nI (48 + j / 10)))) := by decide +kernel
theorem st_few : Cond.eq (.static "java/lang/String" "COMPACT_STRINGS" "Z") (.int 1) ∈ st_L ∧ Cond.isRef (.static "jdk/internal/util/Preconditions" "SIOOBE_FORMATTER" "Ljava/util/function/BiFunction;") ∈ st_L ∧ Cond.arrayOf (.static "java/lang/Integer" "DigitOnes" "[B") .byte ∈ st_L ∧ Cond.eq (.length (.static "java/lang/Integer" "DigitOnes" "[B")) (.int 100) ∈ st_L ∧ Cond.arrayOf (.static "java/lang/Integer" "DigitTens" "[B") .byte ∈ st_L ∧ Cond.eq (.length (.static "java/lang/Integer" "DigitTens" "[B")) (.int 100) ∈ st_L ∧ Cond.eq (.string RX3 67) (.string RL 129) ∈ st_L ∧ Cond.eq (.string RX3 53) (.string RL 145) ∈ st_L := by decide +kernel
theorem st_ex : ∀ i, i < 15 → Cond.exactly (st_t i) "java/lang/String" ∈ st_L := by decide +kernel
theorem st_co : ∀ i, i < 15 → Cond.eq (.field (st_t i) "java/lang/String" "coder" "B") (.int 0) ∈ st_L := by decide +kernel
theorem st_ar : ∀ i, i < 15 → Cond.arrayOf (.field (st_t i) "java/lang/String" "value" "[B") .byte ∈ st_L := by decide +kernel
theorem st_le : ∀ i, i < 15 → Cond.eq (.length (.field (st_t i) "java/lang/String" "value" "[B")) (.int (Int32.ofNat (lenS.getD i 0))) ∈ st_L := by decide +kernel
theorem st_el0 : ∀ j, j < lenS.getD 0 0 → st_L[243 + j]? = some (Cond.eq (.elem (.field (st_t 0) "java/lang/String" "value" "[B") (.int (Int32.ofNat j))) (.int ((bytS.getD 0 []).getD j 0))) := by decide +kernel
theorem st_el1 : ∀ j, j < lenS.getD 1 0 → st_L[252 + j]? = some (Cond.eq (.elem (.field (st_t 1) "java/lang/String" "value" "[B") (.int (Int32.ofNat j))) (.int ((bytS.getD 1 []).getD j 0))) := by decide +kernel
theorem st_el2 : ∀ j, j < lenS.getD 2 0 → st_L[262 + j]? = some (Cond.eq (.elem (.field (st_t 2) "java/lang/String" "value" "[B") (.int (Int32.ofNat j))) (.int ((bytS.getD 2 []).getD j 0))) := by decide +kernel
theorem st_el3 : ∀ j, j < lenS.getD 3 0 → st_L[274 + j]? = some (Cond.eq (.elem (.field (st_t 3) "java/lang/String" "value" "[B") (.int (Int32.ofNat j))) (.int ((bytS.getD 3 []).getD j 0))) := by decide +kernel
theorem st_el4 : ∀ j, j < lenS.getD 4 0 → st_L[287 + j]? = some (Cond.eq (.elem (.field (st_t 4) "java/lang/String" "value" "[B") (.int (Int32.ofNat j))) (.int ((bytS.getD 4 []).getD j 0))) := by decide +kernel
theorem st_el5 : ∀ j, j < lenS.getD 5 0 → st_L[302 + j]? = some (Cond.eq (.elem (.field (st_t 5) "java/lang/String" "value" "[B") (.int (Int32.ofNat j))) (.int ((bytS.getD 5 []).getD j 0))) := by decide +kernel
theorem st_el6 : ∀ j, j < lenS.getD 6 0 → st_L[316 + j]? = some (Cond.eq (.elem (.field (st_t 6) "java/lang/String" "value" "[B") (.int (Int32.ofNat j))) (.int ((bytS.getD 6 []).getD j 0))) := by decide +kernel
theorem st_el7 : ∀ j, j < lenS.getD 7 0 → st_L[330 + j]? = some (Cond.eq (.elem (.field (st_t 7) "java/lang/String" "value" "[B") (.int (Int32.ofNat j))) (.int ((bytS.getD 7 []).getD j 0))) := by decide +kernel
theorem st_el8 : ∀ j, j < lenS.getD 8 0 → st_L[366 + j]? = some (Cond.eq (.elem (.field (st_t 8) "java/lang/String" "value" "[B") (.int (Int32.ofNat j))) (.int ((bytS.getD 8 []).getD j 0))) := by decide +kernel
theorem st_el9 : ∀ j, j < lenS.getD 9 0 → st_L[382 + j]? = some (Cond.eq (.elem (.field (st_t 9) "java/lang/String" "value" "[B") (.int (Int32.ofNat j))) (.int ((bytS.getD 9 []).getD j 0))) := by decide +kernel
theorem st_el10 : ∀ j, j < lenS.getD 10 0 → st_L[422 + j]? = some (Cond.eq (.elem (.field (st_t 10) "java/lang/String" "value" "[B") (.int (Int32.ofNat j))) (.int ((bytS.getD 10 []).getD j 0))) := by decide +kernel
theorem st_el11 : ∀ j, j < lenS.getD 11 0 → st_L[446 + j]? = some (Cond.eq (.elem (.field (st_t 11) "java/lang/String" "value" "[B") (.int (Int32.ofNat j))) (.int ((bytS.getD 11 []).getD j 0))) := by decide +kernel
theorem st_el12 : ∀ j, j < lenS.getD 12 0 → st_L[464 + j]? = some (Cond.eq (.elem (.field (st_t 12) "java/lang/String" "value" "[B") (.int (Int32.ofNat j))) (.int ((bytS.getD 12 []).getD j 0))) := by decide +kernel
theorem st_el13 : ∀ j, j < lenS.getD 13 0 → st_L[483 + j]? = some (Cond.eq (.elem (.field (st_t 13) "java/lang/String" "value" "[B") (.int (Int32.ofNat j))) (.int ((bytS.getD 13 []).getD j 0))) := by decide +kernel
theorem st_el14 : ∀ j, j < lenS.getD 14 0 → st_L[521 + j]? = some (Cond.eq (.elem (.field (st_t 14) "java/lang/String" "value" "[B") (.int (Int32.ofNat j))) (.int ((bytS.getD 14 []).getD j 0))) := by decide +kernel
theorem st_el : ∀ i, i < 15 → ∀ j, j < lenS.getD i 0 → Cond.eq (.elem (.field (st_t i) "java/lang/String" "value" "[B") (.int (Int32.ofNat j))) (.int ((bytS.getD i []).getD j 0)) ∈ st_L := by
  intro i hi j hj
  rcases (by omega : i = 0 ∨ i = 1 ∨ i = 2 ∨ i = 3 ∨ i = 4 ∨ i = 5 ∨ i = 6 ∨ i = 7 ∨ i = 8 ∨ i = 9 ∨ i = 10 ∨ i = 11 ∨ i = 12 ∨ i = 13 ∨ i = 14) with rfl | rfl | rfl | rfl | rfl | rfl | rfl | rfl | rfl | rfl | rfl | rfl | rfl | rfl | rfl
  · exact List.mem_of_getElem? (st_el0 j hj)
  · exact List.mem_of_getElem? (st_el1 j hj)
  · exact List.mem_of_getElem? (st_el2 j hj)
  · exact List.mem_of_getElem? (st_el3 j hj)
  · exact List.mem_of_getElem? (st_el4 j hj)
  · exact List.mem_of_getElem? (st_el5 j hj)
  · exact List.mem_of_getElem? (st_el6 j hj)
  · exact List.mem_of_getElem? (st_el7 j hj)
  · exact List.mem_of_getElem? (st_el8 j hj)
  · exact List.mem_of_getElem? (st_el9 j hj)
  · exact List.mem_of_getElem? (st_el10 j hj)
  · exact List.mem_of_getElem? (st_el11 j hj)
  · exact List.mem_of_getElem? (st_el12 j hj)
  · exact List.mem_of_getElem? (st_el13 j hj)
  · exact List.mem_of_getElem? (st_el14 j hj)
theorem st_ne1 : ∀ i, i < 1 → st_L[([257] : List Nat).getD i 0]? = some (Cond.not (Cond.eq (st_t i) (st_t 1))) := by decide +kernel
theorem st_ne2 : ∀ i, i < 2 → st_L[([268, 269] : List Nat).getD i 0]? = some (Cond.not (Cond.eq (st_t i) (st_t 2))) := by decide +kernel
theorem st_ne3 : ∀ i, i < 3 → st_L[([280, 281, 282] : List Nat).getD i 0]? = some (Cond.not (Cond.eq (st_t i) (st_t 3))) := by decide +kernel
theorem st_ne4 : ∀ i, i < 4 → st_L[([294, 295, 296, 297] : List Nat).getD i 0]? = some (Cond.not (Cond.eq (st_t i) (st_t 4))) := by decide +kernel
theorem st_ne5 : ∀ i, i < 5 → st_L[([307, 308, 309, 310, 311] : List Nat).getD i 0]? = some (Cond.not (Cond.eq (st_t i) (st_t 5))) := by decide +kernel
theorem st_ne6 : ∀ i, i < 6 → st_L[([320, 321, 322, 323, 324, 325] : List Nat).getD i 0]? = some (Cond.not (Cond.eq (st_t i) (st_t 6))) := by decide +kernel
theorem st_ne7 : ∀ i, i < 7 → st_L[([338, 339, 340, 341, 342, 343, 344] : List Nat).getD i 0]? = some (Cond.not (Cond.eq (st_t i) (st_t 7))) := by decide +kernel
theorem st_ne8 : ∀ i, i < 8 → st_L[([369, 370, 371, 372, 373, 374, 375, 376] : List Nat).getD i 0]? = some (Cond.not (Cond.eq (st_t i) (st_t 8))) := by decide +kernel
theorem st_ne9 : ∀ i, i < 9 → st_L[([387, 388, 389, 390, 391, 392, 393, 394, 396] : List Nat).getD i 0]? = some (Cond.not (Cond.eq (st_t i) (st_t 9))) := by decide +kernel
theorem st_ne10 : ∀ i, i < 10 → st_L[([430, 431, 432, 433, 434, 435, 436, 437, 439, 440] : List Nat).getD i 0]? = some (Cond.not (Cond.eq (st_t i) (st_t 10))) := by decide +kernel
theorem st_ne11 : ∀ i, i < 11 → st_L[([447, 448, 449, 450, 451, 452, 453, 454, 456, 457, 459] : List Nat).getD i 0]? = some (Cond.not (Cond.eq (st_t i) (st_t 11))) := by decide +kernel
theorem st_ne12 : ∀ i, i < 12 → st_L[([465, 466, 467, 468, 469, 470, 471, 472, 474, 475, 477, 478] : List Nat).getD i 0]? = some (Cond.not (Cond.eq (st_t i) (st_t 12))) := by decide +kernel
theorem st_ne13 : ∀ i, i < 13 → st_L[([502, 503, 504, 505, 506, 507, 508, 509, 511, 512, 514, 515, 516] : List Nat).getD i 0]? = some (Cond.not (Cond.eq (st_t i) (st_t 13))) := by decide +kernel
theorem st_ne14 : ∀ i, i < 14 → st_L[([540, 541, 542, 543, 544, 545, 546, 547, 549, 550, 552, 553, 554, 555] : List Nat).getD i 0]? = some (Cond.not (Cond.eq (st_t i) (st_t 14))) := by decide +kernel
theorem st_neL : ∀ j, j < 15 → ∀ i, i < j → Cond.not (Cond.eq (st_t i) (st_t j)) ∈ st_L := by
  intro j hj i hi
  rcases (by omega : j = 0 ∨ j = 1 ∨ j = 2 ∨ j = 3 ∨ j = 4 ∨ j = 5 ∨ j = 6 ∨ j = 7 ∨ j = 8 ∨ j = 9 ∨ j = 10 ∨ j = 11 ∨ j = 12 ∨ j = 13 ∨ j = 14) with rfl | rfl | rfl | rfl | rfl | rfl | rfl | rfl | rfl | rfl | rfl | rfl | rfl | rfl | rfl
  · omega
  · exact List.mem_of_getElem? (st_ne1 i hi)
  · exact List.mem_of_getElem? (st_ne2 i hi)
  · exact List.mem_of_getElem? (st_ne3 i hi)
  · exact List.mem_of_getElem? (st_ne4 i hi)
  · exact List.mem_of_getElem? (st_ne5 i hi)
  · exact List.mem_of_getElem? (st_ne6 i hi)
  · exact List.mem_of_getElem? (st_ne7 i hi)
  · exact List.mem_of_getElem? (st_ne8 i hi)
  · exact List.mem_of_getElem? (st_ne9 i hi)
  · exact List.mem_of_getElem? (st_ne10 i hi)
  · exact List.mem_of_getElem? (st_ne11 i hi)
  · exact List.mem_of_getElem? (st_ne12 i hi)
  · exact List.mem_of_getElem? (st_ne13 i hi)
  · exact List.mem_of_getElem? (st_ne14 i hi)
theorem st_ne : ∀ i j, i < 15 → j < 15 → i ≠ j → Cond.not (Cond.eq (st_t i) (st_t j)) ∈ st_L ∨ Cond.not (Cond.eq (st_t j) (st_t i)) ∈ st_L := by
  intro i j hi hj h
  rcases Nat.lt_or_gt_of_ne h with z | z
  · exact Or.inl (st_neL j hj i z)
  · exact Or.inr (st_neL i hi j z)
-- of the tables
theorem st_R : ∀ q ∈ jsR, Cond.stringRef q.1 q.2.1 q.2.2.1 ∈ lw_tbl := by decide +kernel
theorem st_T : Cond.laysStatic "java/lang/String" "COMPACT_STRINGS" "Z" ∈ lw_tbl ∧ Cond.laysStatic "jdk/internal/util/Preconditions" "SIOOBE_FORMATTER" "Ljava/util/function/BiFunction;" ∈ lw_tbl ∧ Cond.laysStatic "java/lang/Integer" "DigitOnes" "[B" ∈ lw_tbl ∧ Cond.laysStatic "java/lang/Integer" "DigitTens" "[B" ∈ lw_tbl ∧ Cond.initialized "java/lang/String" ∈ lw_tbl ∧ Cond.initialized "jdk/internal/util/Preconditions" ∈ lw_tbl ∧ Cond.initialized "java/lang/Integer" ∈ lw_tbl := by decide +kernel
theorem st_A : Cond.arrayOver (.object RX2) ∈ lw_tbl ∧ Cond.arrayOver (.object RX4) ∈ lw_tbl ∧ Cond.arrayOver (.object RX5) ∈ lw_tbl ∧ Cond.arrayClass .int ∈ lw_tbl ∧ Cond.arrayClass .char ∈ lw_tbl ∧ Cond.arrayClass .byte ∈ lw_tbl ∧ Cond.arrayClass .long ∈ lw_tbl ∧ Cond.castable "[B" "java/lang/Cloneable" ∈ lw_tbl := by decide +kernel
theorem st_I : ∀ q ∈ vwCl, Cond.instantiable q.1 q.2.2 ∈ lw_tbl := by decide +kernel
theorem st_P : ∀ x ∈ sel4, Cond.privateMethod x ∈ lw_tbl ∧ Cond.instanceMethod x ∈ lw_tbl ∧ x.cls = "java/lang/AbstractStringBuilder" := by decide +kernel
theorem st_S : Cond.selects RJ4 ⟨"java/lang/AbstractStringBuilder", "isLatin1", "()Z"⟩ ⟨"java/lang/AbstractStringBuilder", "isLatin1", "()Z"⟩ ∈ lw_tbl := by decide +kernel
theorem st_N : ∀ q ∈ nst4, Cond.methodLinkNest q.1 q.2.1 q.2.2 "TrousseauFlow" ∈ lw_tbl := by decide +kernel
theorem sel_priv {x z : MethodName} {s : State} {args : Array Value} (hc : x.cls = z.cls) (hy : x.cls ≠ "java/lang/invoke/MethodHandle" ∧ x.cls ≠ "java/lang/invoke/VarHandle") (hsel : (Cond.selects RJ4 z z).before args s = true) (hpriv : (Cond.privateMethod x).before args s = true) (hinst : (Cond.instanceMethod x).before args s = true) : (Cond.selects RJ4 x x).before args s = true := by
  obtain ⟨c2, r2, m2, q1, q2, q3, q4, kP, hkP, hkPi⟩ := Cond.selects_spec hsel
  obtain ⟨mk, methM, hnamed, hmethM, -, -⟩ := Cond.instanceMethod_spec hinst
  have hfound : s.methodFound? x.cls x.name x.desc = some mk := State.methodFound?_of_named hnamed hy
  have hn2 := findClass_of_methodNamed q3
  rw [← hc] at hn2
  have hcls : mk.cls = m2.cls := Option.some.inj ((findClass_of_methodNamed hnamed).symm.trans hn2)
  have hs2 : selectMethod {} s.vm c2 mk = .method mk := selectMethod_private hmethM (Cond.privateMethod_at hpriv mk methM hnamed hmethM)
  simp only [Cond.before, Cond.holds, Cond.value, q1, hfound, hnamed, hs2, hcls, hkP]
  simp
  exact hkPi
theorem i32_n (x : Int32) : Int32.ofNat x.toBitVec.toNat = x := by
  apply Int32.toBitVec_inj.mp
  simp
/-- nothing old is written: the places that were written may be left out -/
theorem sbn_forget {s t : State} {L : List Loc} {k n : Nat} (h : s.sameButNew t L k n) (hL : ∀ q ∈ L, s.heap.size ≤ q.base) : s.sameButNew t [] k n := by
  obtain ⟨h1, h2, h3, h4, h5, h6⟩ := h
  refine ⟨h1, h2, h3, h4, h5, fun a c hc => ?_⟩
  obtain ⟨c', e1, e2, e3, e4⟩ := h6 a c hc
  exact ⟨c', e1, e2, e3, fun i _ => e4 i (fun hm => by
    have z1 := hL _ hm
    have z2 := (Array.getElem?_eq_some_iff.mp hc).1
    exact absurd z2 (Nat.not_lt.mpr z1))⟩
theorem arr_p {s : State} {args : Array Value} {ty : FieldType} (h : (Cond.arrayClass ty).before args s = true) : ∃ c, ArrOfT s c ty ∧ s.vm.findClass ("[" ++ ty.toString) = some c := by
  obtain ⟨c, k, comp, h1, h2, h3⟩ := Cond.arrayClass_spec h
  exact ⟨c, fun n z => ⟨(fun k h => by cases h), k, h2, comp, h3⟩, h1⟩
theorem arr_o {s : State} {args : Array Value} {C : String} (h : (Cond.arrayOver (.object C)).before args s = true) : ∃ c, ArrOfT s c (.object C) ∧ va_RA s c (.object C) := by
  obtain ⟨comp, c, k, f1, -, f2, f3, f4⟩ := Cond.arrayOver_spec h
  exact ⟨c, fun n z => ⟨(fun k h => by cases h), k, f2, comp, f3⟩, k, comp, f2, f3, f1, f4⟩

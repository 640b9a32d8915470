/-! PART 03: the world of one TrousseauFlow as a matrix of ints (region, item, slot); Rj: the machine at a place of a method, over that world; a row an instruction. -/
abbrev tM : Type := Nat → Nat → Nat → Int32
abbrev tA : Type := Nat → Nat → Nat
def m_set (M : tM) (r j : Nat) (w : Nat → Int32) : tM := fun r' j' => if r' = r ∧ j' = j then w else M r' j'
theorem m_set_s {M : tM} {r j : Nat} {w : Nat → Int32} : m_set M r j w r j = w := by simp [m_set]
theorem m_set_n {M : tM} {r j r' j' : Nat} {w : Nat → Int32} (h : ¬ (r' = r ∧ j' = j)) : m_set M r j w r' j' = M r' j' := by simp only [m_set, if_neg h]
theorem m_set_self {M : tM} {r j : Nat} : m_set M r j (M r j) = M := by
  funext r' j'
  by_cases h : r' = r ∧ j' = j
  · obtain ⟨rfl, rfl⟩ := h; exact m_set_s
  · exact m_set_n h
theorem m_set_set {M : tM} {r j : Nat} {w w' : Nat → Int32} : m_set (m_set M r j w) r j w' = m_set M r j w' := by
  funext r' j'
  by_cases h : r' = r ∧ j' = j
  · obtain ⟨rfl, rfl⟩ := h; rw [m_set_s, m_set_s]
  · rw [m_set_n h, m_set_n h, m_set_n h]
abbrev t_rf (f : Nat → Nat) : (Nat → Int32) ⊕ (Nat → Int64) ⊕ (Nat → UInt32) ⊕ (Nat → UInt64) ⊕ (Nat → Option Nat) := .inr (.inr (.inr (.inr (fun i => some (f i)))))
def l_tf (ad : tA) (w : Nat → Int32) : List Value := [.ref (ad 1 0), .ref (ad 2 0), .ref (ad 3 0), .int (w 3), .ref (ad 0 1), .int (w 5), .int (w 6), .ref (ad 13 0), .ref (ad 14 0), .ref (ad 15 0), .int (w 10), .int (w 11), .int (w 12)]
def l_pl (ad : tA) (r : Nat) (w : Nat → Int32) : List Value := [.ref (ad r 1), .int (w 1), .ref (ad r 2), .int (w 3), .ref (ad r 3), .int (w 5), .int (w 6), .int (w 7), .int (w 8), .int (w 9), .int (w 10), .int (w 11), .int (w 12), .int (w 13)]
def l_st (w : Nat → Int32) : List Value := [.int (w 0), .int (w 1), .int (w 2), .int (w 3), .int (w 4), .int (w 5), .int (w 6), .int (w 7), .int (w 8), .int (w 9), .int (w 10)]
def l_or (w : Nat → Int32) : List Value := [.int (w 0), .int (w 1), .int (w 2), .int (w 3), .int (w 4)]
def l_ot (ad : tA) (w : Nat → Int32) : List Value := [.ref (ad 13 1), .int (w 1), .int (w 2), .ref (ad 13 2), .int (w 4)]
def l_ln (ad : tA) (w : Nat → Int32) : List Value := [.ref (ad 14 1), .int (w 1)]
def l_ch (ad : tA) : List Value := [.ref (ad 15 1), .ref (ad 15 2)]
/-- the cell of the item q of the object: q.1 = 0 the TrousseauFlow, 1 to 12 plans (now, forecast, snapshot, nine marks), 13 the text, 14 the line, 15 the chains -/
def t_cell (cA : Nat → ClassId) (ad : tA) (q : Nat × Nat) (w : Nat → Int32) : va_E :=
  if q.1 = 0 then (if q.2 = 0 then .inr (8, l_tf ad w) else .inl (cA 4, 9, t_rf (fun i => ad (4 + i) 0)))
  else if q.1 = 13 then (if q.2 = 0 then .inr (5, l_ot ad w) else if q.2 = 1 then .inl (cA 1, 60, .inl w) else if q.2 = 2 then .inl (cA 3, 12, t_rf (fun i => ad 13 (3 + i))) else .inr (4, l_or w))
  else if q.1 = 14 then (if q.2 = 0 then .inr (3, l_ln ad w) else .inl (cA 1, 64, .inl w))
  else if q.1 = 15 then (if q.2 = 0 then .inr (2, l_ch ad) else .inl (cA 0, 12, .inl w))
  else (if q.2 = 0 then .inr (6, l_pl ad q.1 w) else if q.2 = 1 then .inl (cA 2, 12, t_rf (fun i => ad q.1 (4 + i))) else if q.2 = 2 then .inl (cA 0, 4, .inl w) else if q.2 = 3 then .inl (cA 0, 48, .inl w) else .inr (7, l_st w))
def t_size (r : Nat) : Nat := if r = 0 then 2 else if r = 13 then 15 else if r = 14 then 2 else if r = 15 then 3 else 16
def t_ids : List (Nat × Nat) := (List.range 16).flatMap (fun r => (List.range (t_size r)).map (fun j => (r, j)))
theorem t_nodup : t_ids.Nodup := by decide +kernel
theorem t_mem {r j : Nat} (h : r < 16 ∧ j < t_size r) : (r, j) ∈ t_ids := by
  simp only [t_ids, List.mem_flatMap, List.mem_map, List.mem_range]
  exact ⟨r, h.1, j, h.2, rfl⟩
def wsT (cA : Nat → ClassId) (ad : tA) (ex : va_W) (M : tM) : va_W := t_ids.map (fun q => (ad q.1 q.2, t_cell cA ad q (M q.1 q.2))) ++ ex
theorem wsT_at {cA : Nat → ClassId} {ad : tA} {ex : va_W} {M : tM} {r j : Nat} (h : r < 16 ∧ j < t_size r) : ∃ q0, (wsT cA ad ex M)[q0]? = some (ad r j, t_cell cA ad (r, j) (M r j)) ∧ ∀ w, (wsT cA ad ex M).set q0 (ad r j, t_cell cA ad (r, j) w) = wsT cA ad ex (m_set M r j w) := by
  obtain ⟨q0, hq⟩ := List.mem_iff_getElem?.mp (t_mem h)
  have hlt : q0 < t_ids.length := (List.getElem?_eq_some_iff.mp hq).1
  have hlt2 : q0 < (t_ids.map (fun q => (ad q.1 q.2, t_cell cA ad q (M q.1 q.2)))).length := by rw [List.length_map]; exact hlt
  refine ⟨q0, ?_, ?_⟩
  · rw [wsT, List.getElem?_append_left hlt2, List.getElem?_map, hq]; rfl
  · intro w
    rw [wsT, List.set_append_left _ _ hlt2, wsT]
    congr 1
    apply List.ext_getElem?
    intro i
    rw [List.getElem?_set, List.getElem?_map, List.getElem?_map]
    by_cases hi : q0 = i
    · subst hi
      rw [if_pos rfl, if_pos hlt2, hq]
      show some (ad r j, t_cell cA ad (r, j) w) = some (ad r j, t_cell cA ad (r, j) (m_set M r j w r j))
      rw [m_set_s]
    · rw [if_neg hi]
      rcases hti : t_ids[i]? with _ | q
      · rfl
      · show some (ad q.1 q.2, t_cell cA ad q (M q.1 q.2)) = some (ad q.1 q.2, t_cell cA ad q (m_set M r j w q.1 q.2))
        rw [m_set_n]
        rintro ⟨h1, h2⟩
        have hqe : q = (r, j) := Prod.ext h1 h2
        apply hi
        exact (List.getElem?_inj hlt t_nodup).mp (by rw [hq, hti, hqe])
def tysT (cA : Nat → ClassId) : List (ClassId × FieldType) := [(cA 0, .int), (cA 1, .char), (cA 2, .object RX5), (cA 3, .object RX2), (cA 4, .object RX4), (cA 5, .byte), (cA 6, .long)]
-- WHAT LIES OUTSIDE THE WORLD: the literals, the JDK's statics, the script
def lenS : List Nat := [5, 5, 6, 6, 7, 5, 4, 8, 3, 5, 8, 1, 1, 19, 19]
def bytS : List (List Int32) := [[115, 116, 101, 112, 32], [110, 101, 101, 100, 32], [102, 97, 117, 108, 116, 32], [104, 97, 110, 100, 115, 32], [99, 97, 110, 99, 101, 108, 32], [109, 105, 108, 101, 32], [100, 97, 121, 32], [119, 114, 122, 100, 117, 120, 111, 102], [32, 49, 32], [59, 100, 97, 121, 32], [42, 49, 59, 110, 101, 101, 100, 32], [32], [113], [100, 97, 121, 32, 51, 59, 104, 97, 110, 100, 115, 32, 49, 59, 100, 97, 121, 32, 48], [115, 116, 101, 112, 32, 49, 32, 48, 32, 48, 59, 110, 101, 101, 100, 32, 48, 32, 48]]
def jsR : List (String × Nat × String × Nat) := [(RX3, 67, "step ", 0), (RX3, 47, "need ", 1), (RX3, 53, "fault ", 2), (RX3, 55, "hands ", 3), (RX3, 61, "cancel ", 4), (RX3, 63, "mile ", 5), (RX3, 65, "day ", 6), (RX1, 42, "wrzduxof", 7), (RL, 129, "step ", 0), (RL, 137, " 1 ", 8), (RL, 139, ";day ", 9), (RL, 145, "fault ", 2), (RL, 147, "*1;need ", 10), (RL, 149, " ", 11), (RL, 163, "q", 12), (RL, 165, "day 3;hands 1;day 0", 13), (RL, 167, "step 1 0 0;need 0 0", 14)]
/-- the four private methods of AbstractStringBuilder that a StringBuilder's run reaches -/
def sel4 : List MethodName := [yJ5_ensureCapacityInternal_d00df, yJ5_newCapacity_0f7a4, yJ5_putStringAt_47b60, yJ5_inflateIfNeededFor_a7421]
/-- the private constructors of nest mates that are called -/
def nst4 : List (String × Nat × MethodName) := [(RX4, 28, yX5_init), (RX3, 21, yX2_init), (RX6, 35, yX1_init), (RX6, 42, yX0_init)]
/-- what else is said of the classes: arrays over three of them, byte[] as Cloneable, which private methods a StringBuilder selects -/
def JY (U : State) : Prop := va_AO RX2 U ∧ va_AO RX4 U ∧ va_AO RX5 U ∧ va_Nw (.castable "[B" "java/lang/Cloneable") U ∧ (∀ x ∈ sel4, va_Nw (.selects RJ4 x x) U) ∧ ∀ q ∈ nst4, va_Nw (.methodLinkNest q.1 q.2.1 q.2.2 "TrousseauFlow") U
theorem JY.vm {u U : State} (hv : U.vm = u.vm) (h : JY u) : JY U := by
  have ha : u.vm.Alike U.vm := by rw [hv]; exact Vm.Alike.refl _
  exact ⟨h.1.moved ha, h.2.1.moved ha, h.2.2.1.moved ha, va_Nw.same rfl hv.symm h.2.2.2.1, fun x hx => va_Nw.same rfl hv.symm (h.2.2.2.2.1 x hx), fun q hq => va_Nw.same rfl hv.symm (h.2.2.2.2.2 q hq)⟩
theorem JY.go {s U : State} (hW : s.WarmedH U.vm) (h : JY s) : JY U := by
  have ha := hW.alike
  exact ⟨h.1.moved ha, h.2.1.moved ha, h.2.2.1.moved ha, va_Nw.warmC hW h.2.2.2.1, fun x hx => word_at hW (Or.inl rfl) (h.2.2.2.2.1 x hx), fun q hq => va_Nw.warmM hW (h.2.2.2.2.2 q hq)⟩
/-- ad 16 i, ad 17 i: the literal i and its bytes; ad 18: DigitOnes, DigitTens, the script's length, the script; ad 19: the script's ints -/
def JZ (ad : tA) (A : Nat → Prop) (U : State) (H : Heap) : Prop :=
  vk_S 15 lenS bytS (ad 16) (ad 17) A U H ∧ (∀ q ∈ jsR, vk_R q.1 q.2.1 q.2.2.1 (ad 16 q.2.2.2) U) ∧ va_Z "java/lang/String" "COMPACT_STRINGS" "Z" (.int 1) A U H ∧ (∃ v : Value, v.category = 1 ∧ va_Z "jdk/internal/util/Preconditions" "SIOOBE_FORMATTER" "Ljava/util/function/BiFunction;" v A U H) ∧ va_Z "java/lang/Integer" "DigitOnes" "[B" (.ref (ad 18 0)) A U H ∧ va_Z "java/lang/Integer" "DigitTens" "[B" (.ref (ad 18 1)) A U H ∧ va_T .byte (ad 18 0) 100 (fun j => .int (nI (48 + j % 10))) A U H ∧ va_T .byte (ad 18 1) 100 (fun j => .int (nI (48 + j / 10))) A U H ∧ va_T .int (ad 18 3) (ad 18 2) (fun j => .int (Int32.ofNat (ad 19 j))) A U H ∧ ad 18 2 ≤ 260 ∧ JY U
theorem JZ.vm {ad : tA} {A : Nat → Prop} {u U : State} {H : Heap} (hv : U.vm = u.vm) (h : JZ ad A u H) : JZ ad A U H := by
  have ha : u.vm.Alike U.vm := by rw [hv]; exact Vm.Alike.refl _
  obtain ⟨h1, h2, h3, ⟨v, h4c, h4⟩, h5, h6, h7, h8, h9, h10⟩ := h
  exact ⟨h1.moved ha, fun q hq => (h2 q hq).same hv, h3.moved ha, ⟨v, h4c, h4.moved ha⟩, h5.moved ha, h6.moved ha, h7.moved ha, h8.moved ha, h9.moved ha, h10.1, h10.2.vm hv⟩
theorem JZ.go {ad : tA} {A : Nat → Prop} {s U : State} {H : Heap} {locs : List Loc} (hS : va_S A s.heap H locs) (hW : s.WarmedH U.vm) (h : JZ ad A s s.heap) : JZ ad A U H := by
  have ha := hW.alike
  have hq := hS.2.1
  obtain ⟨h1, h2, h3, ⟨v, h4c, h4⟩, h5, h6, h7, h8, h9, h10⟩ := h
  exact ⟨(h1.kept hq).moved ha, fun q hq => (h2 q hq).warm hW, (h3.kept hq).moved ha, ⟨v, h4c, (h4.kept hq).moved ha⟩, (h5.kept hq).moved ha, (h6.kept hq).moved ha, (h7.kept hq).moved ha, (h8.kept hq).moved ha, (h9.kept hq).moved ha, h10.1, h10.2.go hW⟩
theorem lenS_le : ∀ i, lenS.getD i 0 ≤ 20 := by
  intro i
  by_cases h : i < 15
  · exact (by decide : ∀ i < 15, lenS.getD i 0 ≤ 20) i h
  · rw [List.getD_eq_getElem?_getD, List.getElem?_eq_none (by have : lenS.length = 15 := rfl; omega)]; exact Nat.zero_le _
-- LOCALS
def enL : Nat → List (Option Value) → List (Nat × Value)
  | _, [] => []
  | i, none :: t => enL (i + 1) t
  | i, some v :: t => (i, v) :: enL (i + 1) t
theorem enL_mem {n : Nat} {lv : List (Option Value)} {q : Nat × Value} : q ∈ enL n lv ↔ ∃ j, q.1 = n + j ∧ lv[j]? = some (some q.2) := by
  induction lv generalizing n with
  | nil => simp [enL]
  | cons a t ih =>
    cases a with
    | none =>
      simp only [enL, ih]
      constructor
      · rintro ⟨j, h1, h2⟩
        exact ⟨j + 1, by omega, by simpa using h2⟩
      · rintro ⟨j, h1, h2⟩
        cases j with
        | zero => simp at h2
        | succ j => exact ⟨j, by omega, by simpa using h2⟩
    | some v =>
      simp only [enL, List.mem_cons, ih]
      constructor
      · rintro (rfl | ⟨j, h1, h2⟩)
        · exact ⟨0, rfl, rfl⟩
        · exact ⟨j + 1, by omega, by simpa using h2⟩
      · rintro ⟨j, h1, h2⟩
        cases j with
        | zero =>
          simp at h2
          left
          exact Prod.ext h1 h2.symm
        | succ j => exact Or.inr ⟨j, by omega, by simpa using h2⟩
theorem enL_at {ls : Array Slot} {nL : Nat} {lv : List (Option Value)} {i : Nat} {v : Value} (h : lv_has ls nL (enL 0 lv)) (hi : lv[i]? = some (some v)) : ls[i]? = some (.val v) := h.2.2 (i, v) (enL_mem.mpr ⟨i, (Nat.zero_add i).symm, hi⟩)
def okS (lv : List (Option Value)) : Nat → Bool
  | 0 => true
  | j + 1 => match lv[j]? with
    | some (some w) => w.category != 2
    | _ => true
theorem enL_set {ls : Array Slot} {nL : Nat} {lv : List (Option Value)} {i : Nat} {v : Value} (ho : okS lv i = true) (h : lv_has ls nL ((i, v) :: (enL 0 lv).filter (fun q => !(q.1 == i) && !(q.1 + 1 == i && q.2.category == 2)))) : lv_has ls nL (enL 0 (lv.set i (some v))) := by
  refine ⟨h.1, h.2.1, fun q hq => h.2.2 q ?_⟩
  obtain ⟨j, h1, h2⟩ := enL_mem.mp hq
  rw [List.getElem?_set] at h2
  by_cases hij : i = j
  · rw [if_pos hij] at h2
    split at h2
    · have : q = (i, v) := Prod.ext (by rw [h1, hij]; exact Nat.zero_add j) (by simpa using h2.symm)
      rw [this]; exact List.mem_cons_self
    · cases h2
  · rw [if_neg hij] at h2
    refine List.mem_cons_of_mem _ (List.mem_filter.mpr ⟨enL_mem.mpr ⟨j, h1, h2⟩, ?_⟩)
    have h1' : q.1 = j := by rw [h1]; exact Nat.zero_add j
    have e1 : (q.1 == i) = false := by rw [h1']; simpa using fun e => hij e.symm
    rw [e1]
    by_cases hj : j + 1 = i
    · subst hj
      have : (q.2.category != 2) = true := by simpa [okS, h2] using ho
      have h3 : (q.2.category == 2) = false := by simpa using this
      simp [h3]
    · have : (q.1 + 1 == i) = false := by rw [h1']; simpa using hj
      simp [this]
theorem enL_ix {lv : List (Option Value)} {i : Nat} {v : Value} (hi : lv[i]? = some (some v)) : ∃ k : Nat, (enL 0 lv)[k]? = some (i, v) := List.mem_iff_getElem?.mp (enL_mem.mpr ⟨i, (Nat.zero_add i).symm, hi⟩)
-- THE JUDGEMENT
def CX (cc : ByteArray) (own : String) (nL : Nat) (ret : Option FieldType) (cA : Nat → ClassId) (ad : tA) (p : Program) (s : State) (m : MethodId) (args : Array Value) (meth : Method) (c : Code) (G : va_G) (tx : List (ClassId × FieldType)) (A free : Nat → Prop) : Prop :=
  p.tables.exec = Jvm.exec ∧ c.code = cc ∧ c.maxLocals = nL ∧ s.vm.findClass own = some m.cls ∧ (∀ w ∈ wsL_law, w.before args s = true) ∧ meth.sig.returnType = ret ∧ meth.locks = false ∧ va_K G vwCl (tysT cA ++ tx) s ∧ (∀ q, s.heap.size ≤ q → A q) ∧ (∀ q, A q → free q) ∧ JZ ad A s s.heap
def Rj (cc : ByteArray) (own : String) (nL : Nat) (ret : Option FieldType) (rm : Room) (mc ms : Nat) (cA : Nat → ClassId) (ad : tA) (Q : Option Value → va_W → tM → Prop) (ex : va_W) (cells slots pc : Nat) (lv : List (Option Value)) (st : List Value) (M : tM) : Prop :=
  ∀ (p : Program) (l : Launch) (e : Env) (s : State) (m : MethodId) (args : Array Value) (below : List Frame) (meth : Method) (c : Code) (G : va_G) (tx : List (ClassId × FieldType)) (A : Nat → Prop) (Qc : Array Value → State → Outcome → State → Prop) (free : Nat → Prop) (d0 : Drawn),
    CX cc own nL ret cA ad p s m args meth c G tx A free →
    (∀ (v : Option Value) (ex' : va_W) (M' : tM) (t : State) (d1 : Drawn), Q v ex' M' → s.drawn.sameBut d1 lw_cs → (s.setDrawn d1).WarmedH t.vm → va_P G vwCl (wsT cA ad ex' M') t.heap → va_D A (wsT cA ad ex' M') → va_F A s t → Qc args (s.setDrawn d1) (.returned v) t) →
    s.drawn.sameBut d0 lw_cs → ∀ (H : Heap) (locs : List Loc) (ls : Array Slot), va_P G vwCl (wsT cA ad ex M) H → va_D A (wsT cA ad ex M) → va_S A s.heap H locs → lv_has ls nL (enL 0 lv) →
    W p l e rm (s.setDrawn d0) m args below meth c H locs cells slots (MQD lw_cs below Qc args s mc ms free) (F0 m pc ls st)
/-- the contract of a method over the world of the object -/
def Cj (y : MethodName) (cc : ByteArray) (nL : Nat) (ret : Option FieldType) (rm : Room) (mc ms : Nat) (cA : Nat → ClassId) (ad : tA) (vs : List Value) (ex : va_W) (M : tM) (Q : Option Value → va_W → tM → Prop) : Prop :=
  ∀ (l : Launch) (G : va_G) (tx : List (ClassId × FieldType)) (A : Nat → Prop), MetD lw_cs l y (.code y cc nL ret :: wsL_law) rm (va_Pc vs (fun U => va_P G vwCl (wsT cA ad ex M) U.heap ∧ va_K G vwCl (tysT cA ++ tx) U ∧ va_D A (wsT cA ad ex M) ∧ (∀ q, U.heap.size ≤ q → A q) ∧ JZ ad A U U.heap)) (fun _ st o t => (∃ v ex' M', o = .returned v ∧ Q v ex' M' ∧ va_P G vwCl (wsT cA ad ex' M') t.heap ∧ va_D A (wsT cA ad ex' M')) ∧ va_F A st t) mc ms A
theorem c_of_r {y : MethodName} {cc : ByteArray} {nL : Nat} {ret : Option FieldType} {rm : Room} {mc ms : Nat} {cA : Nat → ClassId} {ad : tA} {vs : List Value} {ex : va_W} {M : tM} {Q : Option Value → va_W → tM → Prop} {lv0 : List (Option Value)} {own : String} (ho : y.cls = own) (hy : plainName y.cls = true) (hlen : (lg_sl vs).length ≤ nL) (hlv : lv_args 0 vs = enL 0 lv0) (h : Rj cc own nL ret rm mc ms cA ad Q ex 0 0 0 lv0 [] M) : Cj y cc nL ret rm mc ms cA ad vs ex M Q := by
  subst ho
  intro l G tx A
  refine MetD.ofW (cc := cc) (maxL := nL) (ret := ret) hy rfl ?_
  intro p e s m args below meth c s₁ B hml hv hd0
  obtain ⟨rfl, hP, hK, hD, hA, hJ⟩ := hv
  have hts := atoms_spec (ws := .code y cc nL ret :: wsL_law) B.pre
  have hown : s.vm.findClass y.cls = some m.cls := findClass_of_methodNamed B.named
  have hl := lv_entry vs (n := nL) hlen
  rw [hlv] at hl
  rw [lg_entry_eq]
  exact h p l e s m _ below meth c G tx A _ A s.drawn ⟨B.exec, B.bytes, hml, hown, fun w hw => hts w (List.mem_cons_of_mem _ hw), B.returns, B.notSynchronized, hK, hA, fun _ h => h, hJ⟩ (fun v ex' M' t d1 hQ _ _ hP' hD' hF => ⟨⟨v, ex', M', rfl, hQ, hP', hD'⟩, hF⟩) hd0 s.heap [] _ hP hD va_S.rf hl
section
variable {cc : ByteArray} {own : String} {nL : Nat} {ret : Option FieldType} {rm : Room} {mc ms : Nat} {cA : Nat → ClassId} {ad : tA} {Q : Option Value → va_W → tM → Prop} {ex : va_W} {cells slots pc : Nat} {lv : List (Option Value)} {st : List Value} {M : tM}
/-- another way to write the same place -/
theorem r_eq {lv' : List (Option Value)} {st' : List Value} {M' : tM} (h1 : lv' = lv) (h2 : st' = st) (h3 : M' = M) (k : Rj cc own nL ret rm mc ms cA ad Q ex cells slots pc lv' st' M') : Rj cc own nL ret rm mc ms cA ad Q ex cells slots pc lv st M := by subst h1; subst h2; subst h3; exact k
theorem r_end {Q' : Option Value → va_W → tM → Prop} (h : ∀ v x m, Q' v x m → Q v x m) (k : Rj cc own nL ret rm mc ms cA ad Q' ex cells slots pc lv st M) : Rj cc own nL ret rm mc ms cA ad Q ex cells slots pc lv st M := fun p l e s m args below meth c G tx A Qc free d0 X E => k p l e s m args below meth c G tx A Qc free d0 X (fun v x m t d1 hq => E v x m t d1 (h v x m hq))

theorem r_iadd {x y : Int32} (hd : decode cc pc = .ok (.iadd, 1)) (k : Rj cc own nL ret rm mc ms cA ad Q ex cells slots (pc + 1) lv (.int (x + y) :: st) M) : Rj cc own nL ret rm mc ms cA ad Q ex cells slots pc lv (.int y :: .int x :: st) M := by
  intro p l e s m args below meth c G tx A Qc free d0 X E hd0 H locs ls hP hD hS hl
  exact lv_iadd X.1 X.2.1 hd (k p l e s m args below meth c G tx A Qc free d0 X E hd0 H locs ls hP hD hS hl)
theorem r_isub {x y : Int32} (hd : decode cc pc = .ok (.isub, 1)) (k : Rj cc own nL ret rm mc ms cA ad Q ex cells slots (pc + 1) lv (.int (x - y) :: st) M) : Rj cc own nL ret rm mc ms cA ad Q ex cells slots pc lv (.int y :: .int x :: st) M := by
  intro p l e s m args below meth c G tx A Qc free d0 X E hd0 H locs ls hP hD hS hl
  exact lv_isub X.1 X.2.1 hd (k p l e s m args below meth c G tx A Qc free d0 X E hd0 H locs ls hP hD hS hl)
theorem r_imul {x y : Int32} (hd : decode cc pc = .ok (.imul, 1)) (k : Rj cc own nL ret rm mc ms cA ad Q ex cells slots (pc + 1) lv (.int (x * y) :: st) M) : Rj cc own nL ret rm mc ms cA ad Q ex cells slots pc lv (.int y :: .int x :: st) M := by
  intro p l e s m args below meth c G tx A Qc free d0 X E hd0 H locs ls hP hD hS hl
  exact lv_imul X.1 X.2.1 hd (k p l e s m args below meth c G tx A Qc free d0 X E hd0 H locs ls hP hD hS hl)
theorem r_iand {x y : Int32} (hd : decode cc pc = .ok (.iand, 1)) (k : Rj cc own nL ret rm mc ms cA ad Q ex cells slots (pc + 1) lv (.int (x &&& y) :: st) M) : Rj cc own nL ret rm mc ms cA ad Q ex cells slots pc lv (.int y :: .int x :: st) M := by
  intro p l e s m args below meth c G tx A Qc free d0 X E hd0 H locs ls hP hD hS hl
  exact lv_iand X.1 X.2.1 hd (k p l e s m args below meth c G tx A Qc free d0 X E hd0 H locs ls hP hD hS hl)
theorem r_ior {x y : Int32} (hd : decode cc pc = .ok (.ior, 1)) (k : Rj cc own nL ret rm mc ms cA ad Q ex cells slots (pc + 1) lv (.int (x ||| y) :: st) M) : Rj cc own nL ret rm mc ms cA ad Q ex cells slots pc lv (.int y :: .int x :: st) M := by
  intro p l e s m args below meth c G tx A Qc free d0 X E hd0 H locs ls hP hD hS hl
  exact lv_ior X.1 X.2.1 hd (k p l e s m args below meth c G tx A Qc free d0 X E hd0 H locs ls hP hD hS hl)
theorem r_ixor {x y : Int32} (hd : decode cc pc = .ok (.ixor, 1)) (k : Rj cc own nL ret rm mc ms cA ad Q ex cells slots (pc + 1) lv (.int (x ^^^ y) :: st) M) : Rj cc own nL ret rm mc ms cA ad Q ex cells slots pc lv (.int y :: .int x :: st) M := by
  intro p l e s m args below meth c G tx A Qc free d0 X E hd0 H locs ls hP hD hS hl
  exact lv_ixor X.1 X.2.1 hd (k p l e s m args below meth c G tx A Qc free d0 X E hd0 H locs ls hP hD hS hl)
theorem r_ishl {x y : Int32} (hd : decode cc pc = .ok (.ishl, 1)) (k : Rj cc own nL ret rm mc ms cA ad Q ex cells slots (pc + 1) lv (.int (x <<< (y &&& 31)) :: st) M) : Rj cc own nL ret rm mc ms cA ad Q ex cells slots pc lv (.int y :: .int x :: st) M := by
  intro p l e s m args below meth c G tx A Qc free d0 X E hd0 H locs ls hP hD hS hl
  exact lv_ishl X.1 X.2.1 hd (k p l e s m args below meth c G tx A Qc free d0 X E hd0 H locs ls hP hD hS hl)
theorem r_ishr {x y : Int32} (hd : decode cc pc = .ok (.ishr, 1)) (k : Rj cc own nL ret rm mc ms cA ad Q ex cells slots (pc + 1) lv (.int (x >>> (y &&& 31)) :: st) M) : Rj cc own nL ret rm mc ms cA ad Q ex cells slots pc lv (.int y :: .int x :: st) M := by
  intro p l e s m args below meth c G tx A Qc free d0 X E hd0 H locs ls hP hD hS hl
  exact lv_ishr X.1 X.2.1 hd (k p l e s m args below meth c G tx A Qc free d0 X E hd0 H locs ls hP hD hS hl)
theorem r_idiv {x y : Int32} (hd : decode cc pc = .ok (.idiv, 1)) (hne : ¬ y = 0) (k : Rj cc own nL ret rm mc ms cA ad Q ex cells slots (pc + 1) lv (.int (x / y) :: st) M) : Rj cc own nL ret rm mc ms cA ad Q ex cells slots pc lv (.int y :: .int x :: st) M := by
  intro p l e s m args below meth c G tx A Qc free d0 X E hd0 H locs ls hP hD hS hl
  exact lv_idiv X.1 X.2.1 hd hne (k p l e s m args below meth c G tx A Qc free d0 X E hd0 H locs ls hP hD hS hl)
theorem r_irem {x y : Int32} (hd : decode cc pc = .ok (.irem, 1)) (hne : ¬ y = 0) (k : Rj cc own nL ret rm mc ms cA ad Q ex cells slots (pc + 1) lv (.int (x - x / y * y) :: st) M) : Rj cc own nL ret rm mc ms cA ad Q ex cells slots pc lv (.int y :: .int x :: st) M := by
  intro p l e s m args below meth c G tx A Qc free d0 X E hd0 H locs ls hP hD hS hl
  exact lv_irem X.1 X.2.1 hd hne (k p l e s m args below meth c G tx A Qc free d0 X E hd0 H locs ls hP hD hS hl)
theorem r_ladd {x y : Int64} (hd : decode cc pc = .ok (.ladd, 1)) (k : Rj cc own nL ret rm mc ms cA ad Q ex cells slots (pc + 1) lv (.long (x + y) :: st) M) : Rj cc own nL ret rm mc ms cA ad Q ex cells slots pc lv (.long y :: .long x :: st) M := by
  intro p l e s m args below meth c G tx A Qc free d0 X E hd0 H locs ls hP hD hS hl
  exact lv_ladd X.1 X.2.1 hd (k p l e s m args below meth c G tx A Qc free d0 X E hd0 H locs ls hP hD hS hl)
theorem r_lmul {x y : Int64} (hd : decode cc pc = .ok (.lmul, 1)) (k : Rj cc own nL ret rm mc ms cA ad Q ex cells slots (pc + 1) lv (.long (x * y) :: st) M) : Rj cc own nL ret rm mc ms cA ad Q ex cells slots pc lv (.long y :: .long x :: st) M := by
  intro p l e s m args below meth c G tx A Qc free d0 X E hd0 H locs ls hP hD hS hl
  exact lv_lmul X.1 X.2.1 hd (k p l e s m args below meth c G tx A Qc free d0 X E hd0 H locs ls hP hD hS hl)
theorem r_lcmp {x y : Int64} (hd : decode cc pc = .ok (.lcmp, 1)) (k : Rj cc own nL ret rm mc ms cA ad Q ex cells slots (pc + 1) lv (.int (lg_cmp x y) :: st) M) : Rj cc own nL ret rm mc ms cA ad Q ex cells slots pc lv (.long y :: .long x :: st) M := by
  intro p l e s m args below meth c G tx A Qc free d0 X E hd0 H locs ls hP hD hS hl
  exact W.lcmp X.1 X.2.1 hd (k p l e s m args below meth c G tx A Qc free d0 X E hd0 H locs ls hP hD hS hl)
theorem r_i2l {x : Int32} {v : Int64} (hd : decode cc pc = .ok (.i2l, 1)) (hv : x.toInt64 = v) (k : Rj cc own nL ret rm mc ms cA ad Q ex cells slots (pc + 1) lv (.long v :: st) M) : Rj cc own nL ret rm mc ms cA ad Q ex cells slots pc lv (.int x :: st) M := by
  intro p l e s m args below meth c G tx A Qc free d0 X E hd0 H locs ls hP hD hS hl
  exact lv_i2l X.1 X.2.1 hd hv (k p l e s m args below meth c G tx A Qc free d0 X E hd0 H locs ls hP hD hS hl)
theorem r_i2c {x v : Int32} (hd : decode cc pc = .ok (.i2c, 1)) (hv : (x.toUInt32 % 65536).toInt32 = v) (k : Rj cc own nL ret rm mc ms cA ad Q ex cells slots (pc + 1) lv (.int v :: st) M) : Rj cc own nL ret rm mc ms cA ad Q ex cells slots pc lv (.int x :: st) M := by
  intro p l e s m args below meth c G tx A Qc free d0 X E hd0 H locs ls hP hD hS hl
  exact lv_i2c X.1 X.2.1 hd hv (k p l e s m args below meth c G tx A Qc free d0 X E hd0 H locs ls hP hD hS hl)
theorem r_iushr {x y v : Int32} (hd : decode cc pc = .ok (.iushr, 1)) (hv : (x.toUInt32 >>> (y.toUInt32 &&& Int32.toUInt32 31)).toInt32 = v) (k : Rj cc own nL ret rm mc ms cA ad Q ex cells slots (pc + 1) lv (.int v :: st) M) : Rj cc own nL ret rm mc ms cA ad Q ex cells slots pc lv (.int y :: .int x :: st) M := by
  intro p l e s m args below meth c G tx A Qc free d0 X E hd0 H locs ls hP hD hS hl
  exact lv_iushr X.1 X.2.1 hd hv (k p l e s m args below meth c G tx A Qc free d0 X E hd0 H locs ls hP hD hS hl)
theorem r_ldc {idx : Nat} {v : Int32} (hd : decode cc pc = .ok (.ldc idx, 2)) (hw : Cond.constant own idx v ∈ wsL_law) (k : Rj cc own nL ret rm mc ms cA ad Q ex cells slots (pc + 2) lv (.int v :: st) M) : Rj cc own nL ret rm mc ms cA ad Q ex cells slots pc lv (st) M := by
  intro p l e s m args below meth c G tx A Qc free d0 X E hd0 H locs ls hP hD hS hl
  exact lv_ldc X.1 X.2.1 X.2.2.2.1 (dr_words X.2.2.2.2.1 d0 _ hw) hd (k p l e s m args below meth c G tx A Qc free d0 X E hd0 H locs ls hP hD hS hl)
theorem r_ldc2 {idx : Nat} {v : Int64} (hd : decode cc pc = .ok (.ldc2_w idx, 3)) (hw : Cond.constantLong own idx v ∈ wsL_law) (k : Rj cc own nL ret rm mc ms cA ad Q ex cells slots (pc + 3) lv (.long v :: st) M) : Rj cc own nL ret rm mc ms cA ad Q ex cells slots pc lv (st) M := by
  intro p l e s m args below meth c G tx A Qc free d0 X E hd0 H locs ls hP hD hS hl
  exact lv_ldc2 X.1 X.2.1 X.2.2.2.1 (dr_words X.2.2.2.2.1 d0 _ hw) hd (k p l e s m args below meth c G tx A Qc free d0 X E hd0 H locs ls hP hD hS hl)
theorem r_i2d {x : Int32} (hd : decode cc pc = .ok (.i2d, 1)) (k : Rj cc own nL ret rm mc ms cA ad Q ex cells slots (pc + 1) lv (.double (FP.i2d x) :: st) M) : Rj cc own nL ret rm mc ms cA ad Q ex cells slots pc lv (.int x :: st) M := by
  intro p l e s m args below meth c G tx A Qc free d0 X E hd0 H locs ls hP hD hS hl
  exact lv_i2d X.1 X.2.1 hd (k p l e s m args below meth c G tx A Qc free d0 X E hd0 H locs ls hP hD hS hl)
theorem r_i2f {x : Int32} (hd : decode cc pc = .ok (.i2f, 1)) (k : Rj cc own nL ret rm mc ms cA ad Q ex cells slots (pc + 1) lv (.float (FP.i2f x) :: st) M) : Rj cc own nL ret rm mc ms cA ad Q ex cells slots pc lv (.int x :: st) M := by
  intro p l e s m args below meth c G tx A Qc free d0 X E hd0 H locs ls hP hD hS hl
  exact lv_i2f X.1 X.2.1 hd (k p l e s m args below meth c G tx A Qc free d0 X E hd0 H locs ls hP hD hS hl)
theorem r_iconst {n : Int} {v : Int32} (hd : decode cc pc = .ok (.iconst n, 1)) (hv : Int32.ofInt n = v) (k : Rj cc own nL ret rm mc ms cA ad Q ex cells slots (pc + 1) lv (.int v :: st) M) : Rj cc own nL ret rm mc ms cA ad Q ex cells slots pc lv (st) M := by
  intro p l e s m args below meth c G tx A Qc free d0 X E hd0 H locs ls hP hD hS hl
  exact lv_iconst X.1 X.2.1 hd hv (k p l e s m args below meth c G tx A Qc free d0 X E hd0 H locs ls hP hD hS hl)
theorem r_bipush {n : Int} {v : Int32} (hd : decode cc pc = .ok (.bipush n, 2)) (hv : (Int8.ofInt n).toInt32 = v) (k : Rj cc own nL ret rm mc ms cA ad Q ex cells slots (pc + 2) lv (.int v :: st) M) : Rj cc own nL ret rm mc ms cA ad Q ex cells slots pc lv (st) M := by
  intro p l e s m args below meth c G tx A Qc free d0 X E hd0 H locs ls hP hD hS hl
  exact lv_bipush X.1 X.2.1 hd hv (k p l e s m args below meth c G tx A Qc free d0 X E hd0 H locs ls hP hD hS hl)
theorem r_sipush {n : Int} {v : Int32} (hd : decode cc pc = .ok (.sipush n, 3)) (hv : (Int16.ofInt n).toInt32 = v) (k : Rj cc own nL ret rm mc ms cA ad Q ex cells slots (pc + 3) lv (.int v :: st) M) : Rj cc own nL ret rm mc ms cA ad Q ex cells slots pc lv (st) M := by
  intro p l e s m args below meth c G tx A Qc free d0 X E hd0 H locs ls hP hD hS hl
  exact lv_sipush X.1 X.2.1 hd hv (k p l e s m args below meth c G tx A Qc free d0 X E hd0 H locs ls hP hD hS hl)
theorem r_dup {va : Value} (hd : decode cc pc = .ok (.dup, 1)) (hva : va.category = 1) (k : Rj cc own nL ret rm mc ms cA ad Q ex cells slots (pc + 1) lv (va :: va :: st) M) : Rj cc own nL ret rm mc ms cA ad Q ex cells slots pc lv (va :: st) M := by
  intro p l e s m args below meth c G tx A Qc free d0 X E hd0 H locs ls hP hD hS hl
  exact lv_dup X.1 X.2.1 hd hva (k p l e s m args below meth c G tx A Qc free d0 X E hd0 H locs ls hP hD hS hl)
theorem r_pop {va : Value} (hd : decode cc pc = .ok (.pop, 1)) (hva : va.category = 1) (k : Rj cc own nL ret rm mc ms cA ad Q ex cells slots (pc + 1) lv (st) M) : Rj cc own nL ret rm mc ms cA ad Q ex cells slots pc lv (va :: st) M := by
  intro p l e s m args below meth c G tx A Qc free d0 X E hd0 H locs ls hP hD hS hl
  exact lv_pop X.1 X.2.1 hd hva (k p l e s m args below meth c G tx A Qc free d0 X E hd0 H locs ls hP hD hS hl)
theorem r_dconst0  (hd : decode cc pc = .ok (.dconst 0, 1)) (k : Rj cc own nL ret rm mc ms cA ad Q ex cells slots (pc + 1) lv (.double FP.dconst0 :: st) M) : Rj cc own nL ret rm mc ms cA ad Q ex cells slots pc lv (st) M := by
  intro p l e s m args below meth c G tx A Qc free d0 X E hd0 H locs ls hP hD hS hl
  exact lv_dconst0 X.1 X.2.1 hd (k p l e s m args below meth c G tx A Qc free d0 X E hd0 H locs ls hP hD hS hl)
theorem r_fconst0  (hd : decode cc pc = .ok (.fconst 0, 1)) (k : Rj cc own nL ret rm mc ms cA ad Q ex cells slots (pc + 1) lv (.float FP.fconst0 :: st) M) : Rj cc own nL ret rm mc ms cA ad Q ex cells slots pc lv (st) M := by
  intro p l e s m args below meth c G tx A Qc free d0 X E hd0 H locs ls hP hD hS hl
  exact lv_fconst0 X.1 X.2.1 hd (k p l e s m args below meth c G tx A Qc free d0 X E hd0 H locs ls hP hD hS hl)
theorem r_iload_n {k : Fin 4} {x : Int32} (hd : decode cc pc = .ok (.iload_n k, 1)) (hv : lv[(k : Nat)]? = some (some (.int x))) (k9 : Rj cc own nL ret rm mc ms cA ad Q ex cells slots (pc + 1) lv (.int x :: st) M) : Rj cc own nL ret rm mc ms cA ad Q ex cells slots pc lv (st) M := by
  intro p l e s m args below meth c G tx A Qc free d0 X E hd0 H locs ls hP hD hS hl
  exact lv_iload_n X.1 X.2.1 hd rfl (enL_at hl hv) (k9 p l e s m args below meth c G tx A Qc free d0 X E hd0 H locs ls hP hD hS hl)
theorem r_iload {i : Nat} {x : Int32} (hd : decode cc pc = .ok (.iload i, 2)) (hv : lv[i]? = some (some (.int x))) (k : Rj cc own nL ret rm mc ms cA ad Q ex cells slots (pc + 2) lv (.int x :: st) M) : Rj cc own nL ret rm mc ms cA ad Q ex cells slots pc lv (st) M := by
  intro p l e s m args below meth c G tx A Qc free d0 X E hd0 H locs ls hP hD hS hl
  exact lv_iload X.1 X.2.1 hd (enL_at hl hv) (k p l e s m args below meth c G tx A Qc free d0 X E hd0 H locs ls hP hD hS hl)
theorem r_aload_n {k : Fin 4} {x : Nat} (hd : decode cc pc = .ok (.aload_n k, 1)) (hv : lv[(k : Nat)]? = some (some (.ref x))) (k9 : Rj cc own nL ret rm mc ms cA ad Q ex cells slots (pc + 1) lv (.ref x :: st) M) : Rj cc own nL ret rm mc ms cA ad Q ex cells slots pc lv (st) M := by
  intro p l e s m args below meth c G tx A Qc free d0 X E hd0 H locs ls hP hD hS hl
  exact lv_aload_n X.1 X.2.1 hd rfl (enL_at hl hv) (k9 p l e s m args below meth c G tx A Qc free d0 X E hd0 H locs ls hP hD hS hl)
theorem r_aload {i : Nat} {x : Nat} (hd : decode cc pc = .ok (.aload i, 2)) (hv : lv[i]? = some (some (.ref x))) (k : Rj cc own nL ret rm mc ms cA ad Q ex cells slots (pc + 2) lv (.ref x :: st) M) : Rj cc own nL ret rm mc ms cA ad Q ex cells slots pc lv (st) M := by
  intro p l e s m args below meth c G tx A Qc free d0 X E hd0 H locs ls hP hD hS hl
  exact lv_aload X.1 X.2.1 hd (enL_at hl hv) (k p l e s m args below meth c G tx A Qc free d0 X E hd0 H locs ls hP hD hS hl)
theorem r_lload_n {k : Fin 4} {x : Int64} (hd : decode cc pc = .ok (.lload_n k, 1)) (hv : lv[(k : Nat)]? = some (some (.long x))) (k9 : Rj cc own nL ret rm mc ms cA ad Q ex cells slots (pc + 1) lv (.long x :: st) M) : Rj cc own nL ret rm mc ms cA ad Q ex cells slots pc lv (st) M := by
  intro p l e s m args below meth c G tx A Qc free d0 X E hd0 H locs ls hP hD hS hl
  exact lv_lload_n X.1 X.2.1 hd rfl (enL_at hl hv) (k9 p l e s m args below meth c G tx A Qc free d0 X E hd0 H locs ls hP hD hS hl)
theorem r_lload {i : Nat} {x : Int64} (hd : decode cc pc = .ok (.lload i, 2)) (hv : lv[i]? = some (some (.long x))) (k : Rj cc own nL ret rm mc ms cA ad Q ex cells slots (pc + 2) lv (.long x :: st) M) : Rj cc own nL ret rm mc ms cA ad Q ex cells slots pc lv (st) M := by
  intro p l e s m args below meth c G tx A Qc free d0 X E hd0 H locs ls hP hD hS hl
  exact lv_lload X.1 X.2.1 hd (enL_at hl hv) (k p l e s m args below meth c G tx A Qc free d0 X E hd0 H locs ls hP hD hS hl)
theorem r_istore_n {k : Fin 4} {x : Int32} (hd : decode cc pc = .ok (.istore_n k, 1)) (hn : (k : Nat) < nL) (ho : okS lv (k : Nat) = true) (k9 : Rj cc own nL ret rm mc ms cA ad Q ex cells slots (pc + 1) (lv.set (k : Nat) (some (.int x))) st M) : Rj cc own nL ret rm mc ms cA ad Q ex cells slots pc lv (.int x :: st) M := by
  intro p l e s m args below meth c G tx A Qc free d0 X E hd0 H locs ls hP hD hS hl
  exact lv_istore_n X.1 X.2.1 hd rfl hl hn rfl (fun ls2 hl2 => k9 p l e s m args below meth c G tx A Qc free d0 X E hd0 H locs ls2 hP hD hS (enL_set ho hl2))
theorem r_istore {i : Nat} {x : Int32} (hd : decode cc pc = .ok (.istore i, 2)) (hn : i < nL) (ho : okS lv i = true) (k9 : Rj cc own nL ret rm mc ms cA ad Q ex cells slots (pc + 2) (lv.set i (some (.int x))) st M) : Rj cc own nL ret rm mc ms cA ad Q ex cells slots pc lv (.int x :: st) M := by
  intro p l e s m args below meth c G tx A Qc free d0 X E hd0 H locs ls hP hD hS hl
  exact lv_istore X.1 X.2.1 hd hl hn rfl (fun ls2 hl2 => k9 p l e s m args below meth c G tx A Qc free d0 X E hd0 H locs ls2 hP hD hS (enL_set ho hl2))
theorem r_astore_n {k : Fin 4} {x : Nat} (hd : decode cc pc = .ok (.astore_n k, 1)) (hn : (k : Nat) < nL) (ho : okS lv (k : Nat) = true) (k9 : Rj cc own nL ret rm mc ms cA ad Q ex cells slots (pc + 1) (lv.set (k : Nat) (some (.ref x))) st M) : Rj cc own nL ret rm mc ms cA ad Q ex cells slots pc lv (.ref x :: st) M := by
  intro p l e s m args below meth c G tx A Qc free d0 X E hd0 H locs ls hP hD hS hl
  exact lv_astore_n X.1 X.2.1 hd rfl hl hn rfl (fun ls2 hl2 => k9 p l e s m args below meth c G tx A Qc free d0 X E hd0 H locs ls2 hP hD hS (enL_set ho hl2))
theorem r_astore {i : Nat} {x : Nat} (hd : decode cc pc = .ok (.astore i, 2)) (hn : i < nL) (ho : okS lv i = true) (k9 : Rj cc own nL ret rm mc ms cA ad Q ex cells slots (pc + 2) (lv.set i (some (.ref x))) st M) : Rj cc own nL ret rm mc ms cA ad Q ex cells slots pc lv (.ref x :: st) M := by
  intro p l e s m args below meth c G tx A Qc free d0 X E hd0 H locs ls hP hD hS hl
  exact lv_astore X.1 X.2.1 hd hl hn rfl (fun ls2 hl2 => k9 p l e s m args below meth c G tx A Qc free d0 X E hd0 H locs ls2 hP hD hS (enL_set ho hl2))
theorem r_iinc {i : Nat} {n : Int} {x v : Int32} (hd : decode cc pc = .ok (.iinc i n, 3)) (hi : lv[i]? = some (some (.int x))) (hv : x + Int32.ofInt n = v) (hn : i < nL) (ho : okS lv i = true) (k9 : Rj cc own nL ret rm mc ms cA ad Q ex cells slots (pc + 3) (lv.set i (some (.int v))) st M) : Rj cc own nL ret rm mc ms cA ad Q ex cells slots pc lv st M := by
  intro p l e s m args below meth c G tx A Qc free d0 X E hd0 H locs ls hP hD hS hl
  obtain ⟨k, hk⟩ := enL_ix hi
  exact lv_iinc X.1 X.2.1 hd hl hk hv hn rfl (fun ls2 hl2 => k9 p l e s m args below meth c G tx A Qc free d0 X E hd0 H locs ls2 hP hD hS (enL_set ho hl2))
theorem r_icmp_eq {x y : Int32} {off : Int} {tgt : Nat} (hd : decode cc pc = .ok (.if_icmp .eq off, 3)) (ht : (pc : Int) + off = (tgt : Int)) (kt : x = y → Rj cc own nL ret rm mc ms cA ad Q ex cells slots tgt lv st M) (kf : ¬ x = y → Rj cc own nL ret rm mc ms cA ad Q ex cells slots (pc + 3) lv st M) : Rj cc own nL ret rm mc ms cA ad Q ex cells slots pc lv (.int y :: .int x :: st) M := by
  intro p l e s m args below meth c G tx A Qc free d0 X E hd0 H locs ls hP hD hS hl
  exact lv_icmp_eq X.1 X.2.1 hd ht (fun h => kt h p l e s m args below meth c G tx A Qc free d0 X E hd0 H locs ls hP hD hS hl) (fun h => kf h p l e s m args below meth c G tx A Qc free d0 X E hd0 H locs ls hP hD hS hl)
theorem r_if_eq {x : Int32} {off : Int} {tgt : Nat} (hd : decode cc pc = .ok (.ifCond .eq off, 3)) (ht : (pc : Int) + off = (tgt : Int)) (kt : x = 0 → Rj cc own nL ret rm mc ms cA ad Q ex cells slots tgt lv st M) (kf : ¬ x = 0 → Rj cc own nL ret rm mc ms cA ad Q ex cells slots (pc + 3) lv st M) : Rj cc own nL ret rm mc ms cA ad Q ex cells slots pc lv (.int x :: st) M := by
  intro p l e s m args below meth c G tx A Qc free d0 X E hd0 H locs ls hP hD hS hl
  exact lv_if_eq X.1 X.2.1 hd ht (fun h => kt h p l e s m args below meth c G tx A Qc free d0 X E hd0 H locs ls hP hD hS hl) (fun h => kf h p l e s m args below meth c G tx A Qc free d0 X E hd0 H locs ls hP hD hS hl)
theorem r_icmp_ne {x y : Int32} {off : Int} {tgt : Nat} (hd : decode cc pc = .ok (.if_icmp .ne off, 3)) (ht : (pc : Int) + off = (tgt : Int)) (kt : ¬ x = y → Rj cc own nL ret rm mc ms cA ad Q ex cells slots tgt lv st M) (kf : x = y → Rj cc own nL ret rm mc ms cA ad Q ex cells slots (pc + 3) lv st M) : Rj cc own nL ret rm mc ms cA ad Q ex cells slots pc lv (.int y :: .int x :: st) M := by
  intro p l e s m args below meth c G tx A Qc free d0 X E hd0 H locs ls hP hD hS hl
  exact lv_icmp_ne X.1 X.2.1 hd ht (fun h => kt h p l e s m args below meth c G tx A Qc free d0 X E hd0 H locs ls hP hD hS hl) (fun h => kf h p l e s m args below meth c G tx A Qc free d0 X E hd0 H locs ls hP hD hS hl)
theorem r_if_ne {x : Int32} {off : Int} {tgt : Nat} (hd : decode cc pc = .ok (.ifCond .ne off, 3)) (ht : (pc : Int) + off = (tgt : Int)) (kt : ¬ x = 0 → Rj cc own nL ret rm mc ms cA ad Q ex cells slots tgt lv st M) (kf : x = 0 → Rj cc own nL ret rm mc ms cA ad Q ex cells slots (pc + 3) lv st M) : Rj cc own nL ret rm mc ms cA ad Q ex cells slots pc lv (.int x :: st) M := by
  intro p l e s m args below meth c G tx A Qc free d0 X E hd0 H locs ls hP hD hS hl
  exact lv_if_ne X.1 X.2.1 hd ht (fun h => kt h p l e s m args below meth c G tx A Qc free d0 X E hd0 H locs ls hP hD hS hl) (fun h => kf h p l e s m args below meth c G tx A Qc free d0 X E hd0 H locs ls hP hD hS hl)
theorem r_icmp_lt {x y : Int32} {off : Int} {tgt : Nat} (hd : decode cc pc = .ok (.if_icmp .lt off, 3)) (ht : (pc : Int) + off = (tgt : Int)) (kt : x < y → Rj cc own nL ret rm mc ms cA ad Q ex cells slots tgt lv st M) (kf : ¬ x < y → Rj cc own nL ret rm mc ms cA ad Q ex cells slots (pc + 3) lv st M) : Rj cc own nL ret rm mc ms cA ad Q ex cells slots pc lv (.int y :: .int x :: st) M := by
  intro p l e s m args below meth c G tx A Qc free d0 X E hd0 H locs ls hP hD hS hl
  exact lv_icmp_lt X.1 X.2.1 hd ht (fun h => kt h p l e s m args below meth c G tx A Qc free d0 X E hd0 H locs ls hP hD hS hl) (fun h => kf h p l e s m args below meth c G tx A Qc free d0 X E hd0 H locs ls hP hD hS hl)
theorem r_if_lt {x : Int32} {off : Int} {tgt : Nat} (hd : decode cc pc = .ok (.ifCond .lt off, 3)) (ht : (pc : Int) + off = (tgt : Int)) (kt : x < 0 → Rj cc own nL ret rm mc ms cA ad Q ex cells slots tgt lv st M) (kf : ¬ x < 0 → Rj cc own nL ret rm mc ms cA ad Q ex cells slots (pc + 3) lv st M) : Rj cc own nL ret rm mc ms cA ad Q ex cells slots pc lv (.int x :: st) M := by
  intro p l e s m args below meth c G tx A Qc free d0 X E hd0 H locs ls hP hD hS hl
  exact lv_if_lt X.1 X.2.1 hd ht (fun h => kt h p l e s m args below meth c G tx A Qc free d0 X E hd0 H locs ls hP hD hS hl) (fun h => kf h p l e s m args below meth c G tx A Qc free d0 X E hd0 H locs ls hP hD hS hl)
theorem r_icmp_ge {x y : Int32} {off : Int} {tgt : Nat} (hd : decode cc pc = .ok (.if_icmp .ge off, 3)) (ht : (pc : Int) + off = (tgt : Int)) (kt : y ≤ x → Rj cc own nL ret rm mc ms cA ad Q ex cells slots tgt lv st M) (kf : ¬ y ≤ x → Rj cc own nL ret rm mc ms cA ad Q ex cells slots (pc + 3) lv st M) : Rj cc own nL ret rm mc ms cA ad Q ex cells slots pc lv (.int y :: .int x :: st) M := by
  intro p l e s m args below meth c G tx A Qc free d0 X E hd0 H locs ls hP hD hS hl
  exact lv_icmp_ge X.1 X.2.1 hd ht (fun h => kt h p l e s m args below meth c G tx A Qc free d0 X E hd0 H locs ls hP hD hS hl) (fun h => kf h p l e s m args below meth c G tx A Qc free d0 X E hd0 H locs ls hP hD hS hl)
theorem r_if_ge {x : Int32} {off : Int} {tgt : Nat} (hd : decode cc pc = .ok (.ifCond .ge off, 3)) (ht : (pc : Int) + off = (tgt : Int)) (kt : 0 ≤ x → Rj cc own nL ret rm mc ms cA ad Q ex cells slots tgt lv st M) (kf : ¬ 0 ≤ x → Rj cc own nL ret rm mc ms cA ad Q ex cells slots (pc + 3) lv st M) : Rj cc own nL ret rm mc ms cA ad Q ex cells slots pc lv (.int x :: st) M := by
  intro p l e s m args below meth c G tx A Qc free d0 X E hd0 H locs ls hP hD hS hl
  exact lv_if_ge X.1 X.2.1 hd ht (fun h => kt h p l e s m args below meth c G tx A Qc free d0 X E hd0 H locs ls hP hD hS hl) (fun h => kf h p l e s m args below meth c G tx A Qc free d0 X E hd0 H locs ls hP hD hS hl)
theorem r_icmp_gt {x y : Int32} {off : Int} {tgt : Nat} (hd : decode cc pc = .ok (.if_icmp .gt off, 3)) (ht : (pc : Int) + off = (tgt : Int)) (kt : y < x → Rj cc own nL ret rm mc ms cA ad Q ex cells slots tgt lv st M) (kf : ¬ y < x → Rj cc own nL ret rm mc ms cA ad Q ex cells slots (pc + 3) lv st M) : Rj cc own nL ret rm mc ms cA ad Q ex cells slots pc lv (.int y :: .int x :: st) M := by
  intro p l e s m args below meth c G tx A Qc free d0 X E hd0 H locs ls hP hD hS hl
  exact lv_icmp_gt X.1 X.2.1 hd ht (fun h => kt h p l e s m args below meth c G tx A Qc free d0 X E hd0 H locs ls hP hD hS hl) (fun h => kf h p l e s m args below meth c G tx A Qc free d0 X E hd0 H locs ls hP hD hS hl)
theorem r_if_gt {x : Int32} {off : Int} {tgt : Nat} (hd : decode cc pc = .ok (.ifCond .gt off, 3)) (ht : (pc : Int) + off = (tgt : Int)) (kt : 0 < x → Rj cc own nL ret rm mc ms cA ad Q ex cells slots tgt lv st M) (kf : ¬ 0 < x → Rj cc own nL ret rm mc ms cA ad Q ex cells slots (pc + 3) lv st M) : Rj cc own nL ret rm mc ms cA ad Q ex cells slots pc lv (.int x :: st) M := by
  intro p l e s m args below meth c G tx A Qc free d0 X E hd0 H locs ls hP hD hS hl
  exact lv_if_gt X.1 X.2.1 hd ht (fun h => kt h p l e s m args below meth c G tx A Qc free d0 X E hd0 H locs ls hP hD hS hl) (fun h => kf h p l e s m args below meth c G tx A Qc free d0 X E hd0 H locs ls hP hD hS hl)
theorem r_icmp_le {x y : Int32} {off : Int} {tgt : Nat} (hd : decode cc pc = .ok (.if_icmp .le off, 3)) (ht : (pc : Int) + off = (tgt : Int)) (kt : x ≤ y → Rj cc own nL ret rm mc ms cA ad Q ex cells slots tgt lv st M) (kf : ¬ x ≤ y → Rj cc own nL ret rm mc ms cA ad Q ex cells slots (pc + 3) lv st M) : Rj cc own nL ret rm mc ms cA ad Q ex cells slots pc lv (.int y :: .int x :: st) M := by
  intro p l e s m args below meth c G tx A Qc free d0 X E hd0 H locs ls hP hD hS hl
  exact lv_icmp_le X.1 X.2.1 hd ht (fun h => kt h p l e s m args below meth c G tx A Qc free d0 X E hd0 H locs ls hP hD hS hl) (fun h => kf h p l e s m args below meth c G tx A Qc free d0 X E hd0 H locs ls hP hD hS hl)
theorem r_if_le {x : Int32} {off : Int} {tgt : Nat} (hd : decode cc pc = .ok (.ifCond .le off, 3)) (ht : (pc : Int) + off = (tgt : Int)) (kt : x ≤ 0 → Rj cc own nL ret rm mc ms cA ad Q ex cells slots tgt lv st M) (kf : ¬ x ≤ 0 → Rj cc own nL ret rm mc ms cA ad Q ex cells slots (pc + 3) lv st M) : Rj cc own nL ret rm mc ms cA ad Q ex cells slots pc lv (.int x :: st) M := by
  intro p l e s m args below meth c G tx A Qc free d0 X E hd0 H locs ls hP hD hS hl
  exact lv_if_le X.1 X.2.1 hd ht (fun h => kt h p l e s m args below meth c G tx A Qc free d0 X E hd0 H locs ls hP hD hS hl) (fun h => kf h p l e s m args below meth c G tx A Qc free d0 X E hd0 H locs ls hP hD hS hl)
theorem r_goto {off : Int} {tgt : Nat} (hd : decode cc pc = .ok (.goto off, 3)) (ht : (pc : Int) + off = (tgt : Int)) (k : Rj cc own nL ret rm mc ms cA ad Q ex cells slots tgt lv st M) : Rj cc own nL ret rm mc ms cA ad Q ex cells slots pc lv st M := by
  intro p l e s m args below meth c G tx A Qc free d0 X E hd0 H locs ls hP hD hS hl
  exact lv_goto X.1 X.2.1 hd ht (k p l e s m args below meth c G tx A Qc free d0 X E hd0 H locs ls hP hD hS hl)
theorem r_lookup {dflt : Int} {ps : Array (Int × Int)} {len : Nat} {x : Int32} {off : Int} {tgt : Nat} (hd : decode cc pc = .ok (.lookupswitch dflt ps, len)) (hp : (ps.toList.zip (ps.toList.drop 1)).all (fun (a, next) => a.1 < next.1) = true) (ho : Op.lookupswitch.offset ps.toList dflt x.toInt = off) (ht : (pc : Int) + off = (tgt : Int)) (k : Rj cc own nL ret rm mc ms cA ad Q ex cells slots tgt lv st M) : Rj cc own nL ret rm mc ms cA ad Q ex cells slots pc lv (.int x :: st) M := by
  intro p l e s m args below meth c G tx A Qc free d0 X E hd0 H locs ls hP hD hS hl
  exact lv_lookup X.1 X.2.1 hd hp ho ht (k p l e s m args below meth c G tx A Qc free d0 X E hd0 H locs ls hP hD hS hl)
theorem r_tableIn {dflt lo hi : Int} {offs : Array Int} {len : Nat} {x : Int32} {off : Int} {tgt : Nat} (hd : decode cc pc = .ok (.tableswitch dflt lo hi offs, len)) (h1 : ¬ x.toInt < lo) (h2 : ¬ hi < x.toInt) (ho : offs[(x.toInt - lo).toNat]? = some off) (ht : (pc : Int) + off = (tgt : Int)) (k : Rj cc own nL ret rm mc ms cA ad Q ex cells slots tgt lv st M) : Rj cc own nL ret rm mc ms cA ad Q ex cells slots pc lv (.int x :: st) M := by
  intro p l e s m args below meth c G tx A Qc free d0 X E hd0 H locs ls hP hD hS hl
  exact lv_tableIn X.1 X.2.1 hd h1 h2 ho ht (k p l e s m args below meth c G tx A Qc free d0 X E hd0 H locs ls hP hD hS hl)
theorem r_tableOut {dflt lo hi : Int} {offs : Array Int} {len : Nat} {x : Int32} {tgt : Nat} (hd : decode cc pc = .ok (.tableswitch dflt lo hi offs, len)) (h : x.toInt < lo ∨ hi < x.toInt) (ht : (pc : Int) + dflt = (tgt : Int)) (k : Rj cc own nL ret rm mc ms cA ad Q ex cells slots tgt lv st M) : Rj cc own nL ret rm mc ms cA ad Q ex cells slots pc lv (.int x :: st) M := by
  intro p l e s m args below meth c G tx A Qc free d0 X E hd0 H locs ls hP hD hS hl
  exact lv_tableOut X.1 X.2.1 hd h ht (k p l e s m args below meth c G tx A Qc free d0 X E hd0 H locs ls hP hD hS hl)
theorem r_getg {idx ci N : Nat} {C : String} {T : u_T} {fs : List Value} {v : Value} {r j : Nat} (hj : r < 16 ∧ j < t_size r) (hcell : t_cell cA ad (r, j) (M r j) = .inr (ci, fs)) (hc : vwCl[ci]? = some (C, T, N)) (hin : ∀ w ∈ u_ws C T N, w ∈ wsL_law) (kf : Nat) (hk : kf < N) (hw : Cond.fieldLink own idx (T kf).1 (T kf).2.1 (T kf).2.2.1 ∈ wsL_law) (hv : fs[kf]? = some v) (hd : decode cc pc = .ok (.getfield idx, 3)) (k : Rj cc own nL ret rm mc ms cA ad Q ex cells slots (pc + 3) lv (v :: st) M) : Rj cc own nL ret rm mc ms cA ad Q ex cells slots pc lv (.ref (ad r j) :: st) M := by
  intro p l e s m args below meth c G tx A Qc free d0 X E hd0 H locs ls hP hD hS hl
  obtain ⟨q0, hq, -⟩ := wsT_at (cA := cA) (ad := ad) (ex := ex) (M := M) hj
  rw [hcell] at hq
  exact va_get X.1 X.2.1 (dr_words X.2.2.2.2.1 d0) hin X.2.2.2.1 X.2.2.2.2.2.2.2.1 hP q0 hq hc kf hk (dr_words X.2.2.2.2.1 d0 _ hw) (fun _ h => h) hv hd (k p l e s m args below meth c G tx A Qc free d0 X E hd0 H locs ls hP hD hS hl)
theorem r_putg {idx ci N : Nat} {C : String} {T : u_T} {fs : List Value} {v : Value} {ty : FieldType} {r j : Nat} (w : Nat → Int32) (hj : r < 16 ∧ j < t_size r) (hcell : t_cell cA ad (r, j) (M r j) = .inr (ci, fs)) (hc : vwCl[ci]? = some (C, T, N)) (hin : ∀ w ∈ u_ws C T N, w ∈ wsL_law) (ty0 : Nat → FieldType) (hty : ∀ k, k < N → parseFieldDescriptor (T k).2.2.1 = some (ty0 k)) (hnm : ∀ a, a < N → ∀ b, b < N → a ≠ b → (T a).2.1 ≠ (T b).2.1) (kf : Nat) (hk : kf < N) (hfl : kf < fs.length) (hw : Cond.fieldLink own idx (T kf).1 (T kf).2.1 (T kf).2.2.1 ∈ wsL_law) (hfin : (T kf).2.2.2 = false) (het : ty0 kf = ty) (hn : narrow ty v = v) (hfit : fits ty v = true) (hset : t_cell cA ad (r, j) w = .inr (ci, fs.set kf v)) (hd : decode cc pc = .ok (.putfield idx, 3)) (k : Rj cc own nL ret rm mc ms cA ad Q ex cells slots (pc + 3) lv st (m_set M r j w)) : Rj cc own nL ret rm mc ms cA ad Q ex cells slots pc lv (v :: .ref (ad r j) :: st) M := by
  intro p l e s m args below meth c G tx A Qc free d0 X E hd0 H locs ls hP hD hS hl
  obtain ⟨q0, hq, hs⟩ := wsT_at (cA := cA) (ad := ad) (ex := ex) (M := M) hj
  rw [hcell] at hq
  have hs2 := hs w
  rw [hset] at hs2
  refine va_put X.1 X.2.1 (dr_words X.2.2.2.2.1 d0) hin ty0 hty hnm X.2.2.2.1 X.2.2.2.2.2.2.2.1 hP hD hS q0 hq hc kf hk (dr_words X.2.2.2.2.1 d0 _ hw) (fun _ h => h) hfin (by rw [hty kf hk, het]) hn hfit hfl hd (fun H1 locs1 hP1 hD1 hS1 => ?_)
  rw [hs2] at hP1 hD1
  exact k p l e s m args below meth c G tx A Qc free d0 X E hd0 H1 locs1 ls hP1 hD1 hS1 hl
theorem r_aldg {n : Nat} {f : Nat → Nat} {ca : ClassId} {C : String} {i : Int32} {r j t0 : Nat} (hj : r < 16 ∧ j < t_size r) (hcell : t_cell cA ad (r, j) (M r j) = .inl (ca, n, t_rf f)) (ht : ∀ tx, (tysT cA ++ tx)[t0]? = some (ca, .object C)) (hi : vp_in i n) (hd : decode cc pc = .ok (.aaload, 1)) (k : Rj cc own nL ret rm mc ms cA ad Q ex cells slots (pc + 1) lv (.ref (f i.toNatClampNeg) :: st) M) : Rj cc own nL ret rm mc ms cA ad Q ex cells slots pc lv (.int i :: .ref (ad r j) :: st) M := by
  intro p l e s m args below meth c G tx A Qc free d0 X E hd0 H locs ls hP hD hS hl
  obtain ⟨q0, hq, -⟩ := wsT_at (cA := cA) (ad := ad) (ex := ex) (M := M) hj
  rw [hcell] at hq
  exact va_aldq (s := s.setDrawn d0) X.1 X.2.1 X.2.2.2.2.2.2.2.1 hP q0 t0 hq (ht tx) hi hd (k p l e s m args below meth c G tx A Qc free d0 X E hd0 H locs ls hP hD hS hl)
theorem r_ialdg {n : Nat} {f : Nat → Int32} {i : Int32} {r j : Nat} (hj : r < 16 ∧ j < t_size r) (hcell : t_cell cA ad (r, j) (M r j) = .inl (cA 0, n, .inl f)) (hi : vp_in i n) (hd : decode cc pc = .ok (.iaload, 1)) (k : Rj cc own nL ret rm mc ms cA ad Q ex cells slots (pc + 1) lv (.int (f i.toNatClampNeg) :: st) M) : Rj cc own nL ret rm mc ms cA ad Q ex cells slots pc lv (.int i :: .ref (ad r j) :: st) M := by
  intro p l e s m args below meth c G tx A Qc free d0 X E hd0 H locs ls hP hD hS hl
  obtain ⟨q0, hq, -⟩ := wsT_at (cA := cA) (ad := ad) (ex := ex) (M := M) hj
  rw [hcell] at hq
  exact va_iald (s := s.setDrawn d0) X.1 X.2.1 X.2.2.2.2.2.2.2.1 hP q0 0 hq rfl hi hd (k p l e s m args below meth c G tx A Qc free d0 X E hd0 H locs ls hP hD hS hl)
theorem r_iastg {n : Nat} {f : Nat → Int32} {i x : Int32} {r j : Nat} (w : Nat → Int32) (hj : r < 16 ∧ j < t_size r) (hcell : t_cell cA ad (r, j) (M r j) = .inl (cA 0, n, .inl f)) (hi : vp_in i n) (hset : t_cell cA ad (r, j) w = .inl (cA 0, n, .inl (upd f i.toNatClampNeg x))) (hd : decode cc pc = .ok (.iastore, 1)) (k : Rj cc own nL ret rm mc ms cA ad Q ex cells slots (pc + 1) lv st (m_set M r j w)) : Rj cc own nL ret rm mc ms cA ad Q ex cells slots pc lv (.int x :: .int i :: .ref (ad r j) :: st) M := by
  intro p l e s m args below meth c G tx A Qc free d0 X E hd0 H locs ls hP hD hS hl
  obtain ⟨q0, hq, hs⟩ := wsT_at (cA := cA) (ad := ad) (ex := ex) (M := M) hj
  rw [hcell] at hq
  have hs2 := hs w
  rw [hset] at hs2
  refine va_iast (s := s.setDrawn d0) X.1 X.2.1 X.2.2.2.2.2.2.2.1 hP hD hS q0 0 hq rfl hi hd (fun H1 locs1 hP1 hD1 hS1 => ?_)
  rw [hs2] at hP1 hD1
  exact k p l e s m args below meth c G tx A Qc free d0 X E hd0 H1 locs1 ls hP1 hD1 hS1 hl
theorem r_caldg {n : Nat} {f : Nat → Int32} {i : Int32} {r j : Nat} (hj : r < 16 ∧ j < t_size r) (hcell : t_cell cA ad (r, j) (M r j) = .inl (cA 1, n, .inl f)) (hi : vp_in i n) (hd : decode cc pc = .ok (.caload, 1)) (k : Rj cc own nL ret rm mc ms cA ad Q ex cells slots (pc + 1) lv (.int (f i.toNatClampNeg) :: st) M) : Rj cc own nL ret rm mc ms cA ad Q ex cells slots pc lv (.int i :: .ref (ad r j) :: st) M := by
  intro p l e s m args below meth c G tx A Qc free d0 X E hd0 H locs ls hP hD hS hl
  obtain ⟨q0, hq, -⟩ := wsT_at (cA := cA) (ad := ad) (ex := ex) (M := M) hj
  rw [hcell] at hq
  exact va_cald (s := s.setDrawn d0) X.1 X.2.1 X.2.2.2.2.2.2.2.1 hP q0 1 hq rfl hi hd (k p l e s m args below meth c G tx A Qc free d0 X E hd0 H locs ls hP hD hS hl)
theorem r_castg {n : Nat} {f : Nat → Int32} {i x : Int32} {r j : Nat} (w : Nat → Int32) (hj : r < 16 ∧ j < t_size r) (hcell : t_cell cA ad (r, j) (M r j) = .inl (cA 1, n, .inl f)) (hi : vp_in i n) (hset : t_cell cA ad (r, j) w = .inl (cA 1, n, .inl (upd f i.toNatClampNeg (vp_nar .char x)))) (hd : decode cc pc = .ok (.castore, 1)) (k : Rj cc own nL ret rm mc ms cA ad Q ex cells slots (pc + 1) lv st (m_set M r j w)) : Rj cc own nL ret rm mc ms cA ad Q ex cells slots pc lv (.int x :: .int i :: .ref (ad r j) :: st) M := by
  intro p l e s m args below meth c G tx A Qc free d0 X E hd0 H locs ls hP hD hS hl
  obtain ⟨q0, hq, hs⟩ := wsT_at (cA := cA) (ad := ad) (ex := ex) (M := M) hj
  rw [hcell] at hq
  have hs2 := hs w
  rw [hset] at hs2
  refine va_cast (s := s.setDrawn d0) X.1 X.2.1 X.2.2.2.2.2.2.2.1 hP hD hS q0 1 hq rfl hi hd (fun H1 locs1 hP1 hD1 hS1 => ?_)
  rw [hs2] at hP1 hD1
  exact k p l e s m args below meth c G tx A Qc free d0 X E hd0 H1 locs1 ls hP1 hD1 hS1 hl
theorem r_ldcS {idx : Nat} {tx0 : String} {i : Nat} (hin : (own, idx, tx0, i) ∈ jsR) (hd : decode cc pc = .ok (.ldc idx, 2)) (k : Rj cc own nL ret rm mc ms cA ad Q ex cells slots (pc + 2) lv (.ref (ad 16 i) :: st) M) : Rj cc own nL ret rm mc ms cA ad Q ex cells slots pc lv st M := by
  intro p l e s m args below meth c G tx A Qc free d0 X E hd0 H locs ls hP hD hS hl
  have hJ0 : JZ ad A (s.setDrawn d0) (s.setDrawn d0).heap := JZ.vm (u := s) rfl X.2.2.2.2.2.2.2.2.2.2
  exact va_ldcS (s := s.setDrawn d0) X.1 X.2.1 X.2.2.2.1 (hJ0.2.1 _ hin) hd (k p l e s m args below meth c G tx A Qc free d0 X E hd0 H locs ls hP hD hS hl)
theorem r_getsC {idx : Nat} (hw : Cond.fieldLink own idx "java/lang/String" "COMPACT_STRINGS" "Z" ∈ wsL_law) (hd : decode cc pc = .ok (.getstatic idx, 3)) (k : Rj cc own nL ret rm mc ms cA ad Q ex cells slots (pc + 3) lv (.int 1 :: st) M) : Rj cc own nL ret rm mc ms cA ad Q ex cells slots pc lv st M := by
  intro p l e s m args below meth c G tx A Qc free d0 X E hd0 H locs ls hP hD hS hl
  have hJ0 : JZ ad A (s.setDrawn d0) (s.setDrawn d0).heap := JZ.vm (u := s) rfl X.2.2.2.2.2.2.2.2.2.2
  exact va_gets (s := s.setDrawn d0) X.1 X.2.1 hJ0.2.2.1 hS X.2.2.2.1 (dr_words X.2.2.2.2.1 d0 _ hw) (fun _ h => h) hd (k p l e s m args below meth c G tx A Qc free d0 X E hd0 H locs ls hP hD hS hl)
theorem r_getsD {idx : Nat} {i : Nat} {nm : String} (hi : (i = 0 ∧ nm = "DigitOnes") ∨ (i = 1 ∧ nm = "DigitTens")) (hw : Cond.fieldLink own idx "java/lang/Integer" nm "[B" ∈ wsL_law) (hd : decode cc pc = .ok (.getstatic idx, 3)) (k : Rj cc own nL ret rm mc ms cA ad Q ex cells slots (pc + 3) lv (.ref (ad 18 i) :: st) M) : Rj cc own nL ret rm mc ms cA ad Q ex cells slots pc lv st M := by
  intro p l e s m args below meth c G tx A Qc free d0 X E hd0 H locs ls hP hD hS hl
  have hJ0 : JZ ad A (s.setDrawn d0) (s.setDrawn d0).heap := JZ.vm (u := s) rfl X.2.2.2.2.2.2.2.2.2.2
  rcases hi with ⟨rfl, rfl⟩ | ⟨rfl, rfl⟩
  · exact va_gets (s := s.setDrawn d0) X.1 X.2.1 hJ0.2.2.2.2.1 hS X.2.2.2.1 (dr_words X.2.2.2.2.1 d0 _ hw) (fun _ h => h) hd (k p l e s m args below meth c G tx A Qc free d0 X E hd0 H locs ls hP hD hS hl)
  · exact va_gets (s := s.setDrawn d0) X.1 X.2.1 hJ0.2.2.2.2.2.1 hS X.2.2.2.1 (dr_words X.2.2.2.2.1 d0 _ hw) (fun _ h => h) hd (k p l e s m args below meth c G tx A Qc free d0 X E hd0 H locs ls hP hD hS hl)
theorem r_getsP {idx : Nat} (hw : Cond.fieldLink own idx "jdk/internal/util/Preconditions" "SIOOBE_FORMATTER" "Ljava/util/function/BiFunction;" ∈ wsL_law) (hd : decode cc pc = .ok (.getstatic idx, 3)) (k : ∀ v : Value, v.category = 1 → Rj cc own nL ret rm mc ms cA ad Q ex cells slots (pc + 3) lv (v :: st) M) : Rj cc own nL ret rm mc ms cA ad Q ex cells slots pc lv st M := by
  intro p l e s m args below meth c G tx A Qc free d0 X E hd0 H locs ls hP hD hS hl
  have hJ0 : JZ ad A (s.setDrawn d0) (s.setDrawn d0).heap := JZ.vm (u := s) rfl X.2.2.2.2.2.2.2.2.2.2
  obtain ⟨v, hvc, hZ⟩ := hJ0.2.2.2.1
  exact va_gets (s := s.setDrawn d0) X.1 X.2.1 hZ hS X.2.2.2.1 (dr_words X.2.2.2.2.1 d0 _ hw) (fun _ h => h) hd (k v hvc p l e s m args below meth c G tx A Qc free d0 X E hd0 H locs ls hP hD hS hl)
theorem r_lit_coder {idx i : Nat} (hi : i < 15) (hw : Cond.fieldLink own idx "java/lang/String" "coder" "B" ∈ wsL_law) (hd : decode cc pc = .ok (.getfield idx, 3)) (k : Rj cc own nL ret rm mc ms cA ad Q ex cells slots (pc + 3) lv (.int 0 :: st) M) : Rj cc own nL ret rm mc ms cA ad Q ex cells slots pc lv (.ref (ad 16 i) :: st) M := by
  intro p l e s m args below meth c G tx A Qc free d0 X E hd0 H locs ls hP hD hS hl
  have hJ0 : JZ ad A (s.setDrawn d0) (s.setDrawn d0).heap := JZ.vm (u := s) rfl X.2.2.2.2.2.2.2.2.2.2
  exact vk_getf (s := s.setDrawn d0) X.1 X.2.1 (hJ0.1.1 i hi).2.1 hS X.2.2.2.1 (dr_words X.2.2.2.2.1 d0 _ hw) (fun _ h => h) hd (k p l e s m args below meth c G tx A Qc free d0 X E hd0 H locs ls hP hD hS hl)
theorem r_lit_value {idx i : Nat} (hi : i < 15) (hw : Cond.fieldLink own idx "java/lang/String" "value" "[B" ∈ wsL_law) (hd : decode cc pc = .ok (.getfield idx, 3)) (k : Rj cc own nL ret rm mc ms cA ad Q ex cells slots (pc + 3) lv (.ref (ad 17 i) :: st) M) : Rj cc own nL ret rm mc ms cA ad Q ex cells slots pc lv (.ref (ad 16 i) :: st) M := by
  intro p l e s m args below meth c G tx A Qc free d0 X E hd0 H locs ls hP hD hS hl
  have hJ0 : JZ ad A (s.setDrawn d0) (s.setDrawn d0).heap := JZ.vm (u := s) rfl X.2.2.2.2.2.2.2.2.2.2
  exact vk_getf (s := s.setDrawn d0) X.1 X.2.1 (hJ0.1.1 i hi).2.2.1 hS X.2.2.2.1 (dr_words X.2.2.2.2.1 d0 _ hw) (fun _ h => h) hd (k p l e s m args below meth c G tx A Qc free d0 X E hd0 H locs ls hP hD hS hl)
theorem r_lit_len {i : Nat} (hi : i < 15) (hd : decode cc pc = .ok (.arraylength, 1)) (k : Rj cc own nL ret rm mc ms cA ad Q ex cells slots (pc + 1) lv (.int (nI (lenS.getD i 0)) :: st) M) : Rj cc own nL ret rm mc ms cA ad Q ex cells slots pc lv (.ref (ad 17 i) :: st) M := by
  intro p l e s m args below meth c G tx A Qc free d0 X E hd0 H locs ls hP hD hS hl
  have hJ0 : JZ ad A (s.setDrawn d0) (s.setDrawn d0).heap := JZ.vm (u := s) rfl X.2.2.2.2.2.2.2.2.2.2
  exact va_tlen (s := s.setDrawn d0) X.1 X.2.1 (hJ0.1.1 i hi).2.2.2 hS rfl hd (k p l e s m args below meth c G tx A Qc free d0 X E hd0 H locs ls hP hD hS hl)
theorem r_lit_ld {i j : Nat} {x : Int32} (hi : i < 15) (hx : x = nI j) (hj : j < lenS.getD i 0) (hd : decode cc pc = .ok (.baload, 1)) (k : Rj cc own nL ret rm mc ms cA ad Q ex cells slots (pc + 1) lv (.int ((bytS.getD i []).getD j 0) :: st) M) : Rj cc own nL ret rm mc ms cA ad Q ex cells slots pc lv (.int x :: .ref (ad 17 i) :: st) M := by
  intro p l e s m args below meth c G tx A Qc free d0 X E hd0 H locs ls hP hD hS hl
  have hJ0 : JZ ad A (s.setDrawn d0) (s.setDrawn d0).heap := JZ.vm (u := s) rfl X.2.2.2.2.2.2.2.2.2.2
  subst hx
  have h20 : lenS.getD i 0 ≤ 20 := lenS_le i
  exact va_tb (s := s.setDrawn d0) X.1 X.2.1 (hJ0.1.1 i hi).2.2.2 hS (vp_in_nI hj (by omega)) (by rw [nI_clamp (by omega)]) hd (k p l e s m args below meth c G tx A Qc free d0 X E hd0 H locs ls hP hD hS hl)
theorem r_dig_ld {i j : Nat} {x : Int32} (hi : i = 0 ∨ i = 1) (hx : x = nI j) (hj : j < 100) (hd : decode cc pc = .ok (.baload, 1)) (k : Rj cc own nL ret rm mc ms cA ad Q ex cells slots (pc + 1) lv (.int (nI (48 + (if i = 0 then j % 10 else j / 10))) :: st) M) : Rj cc own nL ret rm mc ms cA ad Q ex cells slots pc lv (.int x :: .ref (ad 18 i) :: st) M := by
  intro p l e s m args below meth c G tx A Qc free d0 X E hd0 H locs ls hP hD hS hl
  have hJ0 : JZ ad A (s.setDrawn d0) (s.setDrawn d0).heap := JZ.vm (u := s) rfl X.2.2.2.2.2.2.2.2.2.2
  subst hx
  rcases hi with rfl | rfl
  · exact va_tb (s := s.setDrawn d0) X.1 X.2.1 hJ0.2.2.2.2.2.2.1 hS (vp_in_nI hj (by omega)) (by rw [nI_clamp (by omega)]; rfl) hd (k p l e s m args below meth c G tx A Qc free d0 X E hd0 H locs ls hP hD hS hl)
  · exact va_tb (s := s.setDrawn d0) X.1 X.2.1 hJ0.2.2.2.2.2.2.2.1 hS (vp_in_nI hj (by omega)) (by rw [nI_clamp (by omega)]; rfl) hd (k p l e s m args below meth c G tx A Qc free d0 X E hd0 H locs ls hP hD hS hl)
theorem r_scr_len (hd : decode cc pc = .ok (.arraylength, 1)) (k : Rj cc own nL ret rm mc ms cA ad Q ex cells slots (pc + 1) lv (.int (nI (ad 18 2)) :: st) M) : Rj cc own nL ret rm mc ms cA ad Q ex cells slots pc lv (.ref (ad 18 3) :: st) M := by
  intro p l e s m args below meth c G tx A Qc free d0 X E hd0 H locs ls hP hD hS hl
  have hJ0 : JZ ad A (s.setDrawn d0) (s.setDrawn d0).heap := JZ.vm (u := s) rfl X.2.2.2.2.2.2.2.2.2.2
  exact va_tlen (s := s.setDrawn d0) X.1 X.2.1 hJ0.2.2.2.2.2.2.2.2.1 hS rfl hd (k p l e s m args below meth c G tx A Qc free d0 X E hd0 H locs ls hP hD hS hl)
theorem r_scr_ld {j : Nat} {x : Int32} (hx : x = nI j) (hj : j < ad 18 2) (hL : ad 18 2 ≤ 260) (hd : decode cc pc = .ok (.iaload, 1)) (k : Rj cc own nL ret rm mc ms cA ad Q ex cells slots (pc + 1) lv (.int (Int32.ofNat (ad 19 j)) :: st) M) : Rj cc own nL ret rm mc ms cA ad Q ex cells slots pc lv (.int x :: .ref (ad 18 3) :: st) M := by
  intro p l e s m args below meth c G tx A Qc free d0 X E hd0 H locs ls hP hD hS hl
  have hJ0 : JZ ad A (s.setDrawn d0) (s.setDrawn d0).heap := JZ.vm (u := s) rfl X.2.2.2.2.2.2.2.2.2.2
  subst hx
  exact va_ti (s := s.setDrawn d0) X.1 X.2.1 hJ0.2.2.2.2.2.2.2.2.1 hS (vp_in_nI hj (by omega)) (by rw [nI_clamp (by omega)]) hd (k p l e s m args below meth c G tx A Qc free d0 X E hd0 H locs ls hP hD hS hl)
theorem r_zret  {ty : FieldType} {v : Int32} (hr : ret = some ty) (hn : narrow ty (.int v) = .int v) (hd : decode cc pc = .ok (.ireturn, 1)) (hc : cells ≤ mc) (hs : slots ≤ ms) (hQ : Q (some (.int v)) ex M)  : Rj cc own nL ret rm mc ms cA ad Q ex cells slots pc lv [.int v] M := by
  intro p l e s m args below meth c G tx A Qc free d0 X E hd0 H locs ls hP hD hS hl
  refine W.endD hd0 (W.widen hc hs ?_)
  exact W.zret X.1 X.2.1 (X.2.2.2.2.2.1.trans hr) hn (fun t ht hW => E _ _ _ t d0 hQ hd0 hW (by rw [ht]; exact hP) hD ⟨by rw [ht]; exact hS.1, by rw [ht]; exact hS.2.1⟩) (fun q hq => X.2.2.2.2.2.2.2.2.2.1 _ (hS.2.2 q hq)) hd X.2.2.2.2.2.2.1
theorem r_dret  {v : UInt64} (hr : ret = some .double) (hd : decode cc pc = .ok (.dreturn, 1)) (hc : cells ≤ mc) (hs : slots ≤ ms) (hQ : Q (some (.double v)) ex M)  : Rj cc own nL ret rm mc ms cA ad Q ex cells slots pc lv [.double v] M := by
  intro p l e s m args below meth c G tx A Qc free d0 X E hd0 H locs ls hP hD hS hl
  refine W.endD hd0 (W.widen hc hs ?_)
  exact W.dret X.1 X.2.1 (X.2.2.2.2.2.1.trans hr) (fun t ht hW => E _ _ _ t d0 hQ hd0 hW (by rw [ht]; exact hP) hD ⟨by rw [ht]; exact hS.1, by rw [ht]; exact hS.2.1⟩) (fun q hq => X.2.2.2.2.2.2.2.2.2.1 _ (hS.2.2 q hq)) hd X.2.2.2.2.2.2.1
theorem r_fret  {v : UInt32} (hr : ret = some .float) (hd : decode cc pc = .ok (.freturn, 1)) (hc : cells ≤ mc) (hs : slots ≤ ms) (hQ : Q (some (.float v)) ex M)  : Rj cc own nL ret rm mc ms cA ad Q ex cells slots pc lv [.float v] M := by
  intro p l e s m args below meth c G tx A Qc free d0 X E hd0 H locs ls hP hD hS hl
  refine W.endD hd0 (W.widen hc hs ?_)
  exact W.fret X.1 X.2.1 (X.2.2.2.2.2.1.trans hr) (fun t ht hW => E _ _ _ t d0 hQ hd0 hW (by rw [ht]; exact hP) hD ⟨by rw [ht]; exact hS.1, by rw [ht]; exact hS.2.1⟩) (fun q hq => X.2.2.2.2.2.2.2.2.2.1 _ (hS.2.2 q hq)) hd X.2.2.2.2.2.2.1
theorem r_lret  {v : Int64} (hr : ret = some .long) (hd : decode cc pc = .ok (.lreturn, 1)) (hc : cells ≤ mc) (hs : slots ≤ ms) (hQ : Q (some (.long v)) ex M)  : Rj cc own nL ret rm mc ms cA ad Q ex cells slots pc lv [.long v] M := by
  intro p l e s m args below meth c G tx A Qc free d0 X E hd0 H locs ls hP hD hS hl
  refine W.endD hd0 (W.widen hc hs ?_)
  exact W.lret X.1 X.2.1 (X.2.2.2.2.2.1.trans hr) (fun t ht hW => E _ _ _ t d0 hQ hd0 hW (by rw [ht]; exact hP) hD ⟨by rw [ht]; exact hS.1, by rw [ht]; exact hS.2.1⟩) (fun q hq => X.2.2.2.2.2.2.2.2.2.1 _ (hS.2.2 q hq)) hd X.2.2.2.2.2.2.1
theorem r_vret  (hr : ret = none) (hd : decode cc pc = .ok (.return_, 1)) (hc : cells ≤ mc) (hs : slots ≤ ms) (hQ : Q none ex M)  : Rj cc own nL ret rm mc ms cA ad Q ex cells slots pc lv [] M := by
  intro p l e s m args below meth c G tx A Qc free d0 X E hd0 H locs ls hP hD hS hl
  refine W.endD hd0 (W.widen hc hs ?_)
  exact W.vret X.1 X.2.1 (X.2.2.2.2.2.1.trans hr) (fun t ht hW => E _ _ _ t d0 hQ hd0 hW (by rw [ht]; exact hP) hD ⟨by rw [ht]; exact hS.1, by rw [ht]; exact hS.2.1⟩) (fun q hq => X.2.2.2.2.2.2.2.2.2.1 _ (hS.2.2 q hq)) hd X.2.2.2.2.2.2.1
def gS (own : String) (idx : Nat) (y : MethodName) (cc : ByteArray) (nL : Nat) (ret : Option FieldType) : Prop := Cond.methodLink own idx y ∈ wsL_law ∧ Cond.static y ∈ wsL_law ∧ Cond.initialized y.cls ∈ wsL_law ∧ Cond.code y cc nL ret ∈ wsL_law
theorem gS_good {own : String} {idx : Nat} {y : MethodName} {cc : ByteArray} {nL : Nat} {ret : Option FieldType} (h : gS own idx y cc nL ret) : GoodIn wsL_law (.code y cc nL ret :: wsL_law) := by
  intro w hw
  rcases List.mem_cons.mp hw with rfl | h2
  · exact lw_good _ h.2.2.2
  · exact lw_good _ h2
/-- a is an object of class C of the world -/
def isObj (cA : Nat → ClassId) (ad : tA) (M : tM) (b : Nat) (C : String) : Prop := ∃ (r j ci : Nat) (fs : List Value) (q : vw_C), (r < 16 ∧ j < t_size r) ∧ b = ad r j ∧ t_cell cA ad (r, j) (M r j) = .inr (ci, fs) ∧ vwCl[ci]? = some q ∧ q.1 = C
/-- b may receive a call of class C's -/
def isRc (cA : Nat → ClassId) (ad : tA) (ex : va_W) (M : tM) (b : Nat) (C : String) : Prop := ∀ (s : State) (H : Heap) (locs : List Loc) (G : va_G) (tx : List (ClassId × FieldType)) (A : Nat → Prop), va_K G vwCl (tysT cA ++ tx) s → va_P G vwCl (wsT cA ad ex M) H → va_S A s.heap H locs → JZ ad A s s.heap → ∃ cell : Cell, H[b]? = some cell ∧ cell.vm.isStatics = false ∧ s.vm.findClass C = some cell.cls
theorem rc_ob {cA : Nat → ClassId} {ad : tA} {ex : va_W} {M : tM} {b : Nat} {C : String} (h : isObj cA ad M b C) : isRc cA ad ex M b C := by
  intro s H locs G tx A hK hP hS hJ
  obtain ⟨r, j, ci, fs, qc, hj, rfl, hcell, hc, rfl⟩ := h
  obtain ⟨q0, hq, -⟩ := wsT_at (cA := cA) (ad := ad) (ex := ex) (M := M) hj
  rw [hcell] at hq
  exact va_recv hK hP hc hq
theorem rc_lit {cA : Nat → ClassId} {ad : tA} {ex : va_W} {M : tM} {i : Nat} (h : i < 15) : isRc cA ad ex M (ad 16 i) "java/lang/String" := by
  intro s H locs G tx A hK hP hS hJ
  exact vk_recv hJ.1 h hS
theorem r_callV {idx n nL2 mc2 ms2 : Nat} {y : MethodName} {cc2 : ByteArray} {ret2 : Option FieldType} {rm2 : Room} {Q2 : Option Value → va_W → tM → Prop} {C : String} {b : Nat} {As rest : List Value} (hd : decode cc pc = .ok (.invokevirtual idx, 3)) (hC : Cj y cc2 nL2 ret2 rm2 mc2 ms2 cA ad (.ref b :: As) ex M Q2) (hG : GoodIn wsL_law (wsV own idx C y (.code y cc2 nL2 ret2 :: wsL_law))) (hdc : y.cls = C ∧ y.cls ≠ "java/lang/invoke/MethodHandle" ∧ y.cls ≠ "java/lang/invoke/VarHandle" ∧ (parseMethodDescriptor y.desc).map (fun d => d.parameters.length) = some n) (hst : st = As.reverse ++ .ref b :: rest) (hn : As.length = n) (hrc : rm2.cells = mc2) (hrs : rm2.slots = ms2) (hR : rm2.frames + 1 ≤ rm.frames ∧ 8 + (nL2 + 11) + rm2.locals ≤ rm.locals) (hcat : (rest.map fun v => v.category).sum ≤ 8) (hf : cells + mc2 ≤ rm.cells ∧ slots + ms2 ≤ rm.slots) (hob : isRc cA ad ex M b C) (k : ∀ v ex' M', Q2 v ex' M' → Rj cc own nL ret rm mc ms cA ad Q ex' (cells + mc2) (slots + ms2) (pc + 3) lv (v.toList ++ rest) M') : Rj cc own nL ret rm mc ms cA ad Q ex cells slots pc lv st M := by
  intro p l e s m args below meth c G tx A Qc free d0 X E hd0 H locs ls hP hD hS hl
  obtain ⟨hx, hb, hml, hown, hts, hret, hlk, hK, hA, hfree, hJ⟩ := id X
  have hJ0 : JZ ad A (s.setDrawn d0) (s.setDrawn d0).heap := JZ.vm (u := s) rfl hJ
  have hts1 := dr_words hts d0
  have hM := hC l G tx A
  have hsz : s.heap.size ≤ H.size := hS.1
  have hrv := hob (s.setDrawn d0) H locs G tx A hK hP hS hJ0
  have hrun := va_runV_D (e := e) (below := below) (meth := meth) (locs := locs) (s := s.setDrawn d0) (As := As) (rest := rest) ⟨hx, hb, hml, hown, hts1⟩ hM (cwV n hts1 hG rfl hrc hrs hdc hR) ⟨fun a U g mk q => ⟨q.1, q.2.1, va_K.moved (u := U) (U := U.calling g mk a) (Vm.Alike.refl U.vm) q.2.2.1, q.2.2.2.1, q.2.2.2.2.1, JZ.vm (u := U) rfl q.2.2.2.2.2⟩, hrv, fun U hU hW => ⟨rfl, by rw [hU]; exact hP, va_K.moved hW.alike hK, hD, by rw [hU]; exact fun q hq => hA q (Nat.le_trans hsz hq), by rw [hU]; exact JZ.go (s := s.setDrawn d0) hS hW hJ0⟩⟩ rfl hn hl.1 hst (lv_room hcat) hd hf
  intro T hT XX
  obtain ⟨v, st₀, t, T', L, d', hd', h0, X', hL, e1, e2, ⟨⟨v', ex', M', hv, hQ, hP1, hD1⟩, hz, hk⟩, stp⟩ := hrun T hT XX
  cases hv
  rw [h0] at hz hk
  have hS2 : va_S A s.heap T'.heap (locs ++ L) := ⟨Nat.le_trans hS.1 (by rw [e1]; exact hz), fun q h1 h2 => by rw [e1, hk q (Nat.lt_of_lt_of_le h1 hS.1) h2]; exact hS.2.1 q h1 h2, fun q hq => by
    rcases List.mem_append.mp hq with h | h
    · exact hS.2.2 q h
    · exact hL q h⟩
  obtain ⟨t2, a1, b1⟩ := k v ex' M' hQ p l e s m args below meth c G tx A Qc free d' X E (hd0.trans hd') T'.heap (locs ++ L) ls (by rw [e1]; exact hP1) hD1 hS2 hl T' rfl X'
  exact ⟨t2, stp t2 a1, b1⟩
theorem r_callS {idx n nL2 mc2 ms2 : Nat} {y : MethodName} {cc2 : ByteArray} {ret2 : Option FieldType} {rm2 : Room} {Q2 : Option Value → va_W → tM → Prop} {As rest : List Value} (hd : decode cc pc = .ok (.invokestatic idx, 3)) (hC : Cj y cc2 nL2 ret2 rm2 mc2 ms2 cA ad As ex M Q2) {C0 : String} (hG : gS own idx y cc2 nL2 ret2) (hdc : y.cls = C0 ∧ y.cls ≠ "java/lang/invoke/MethodHandle" ∧ y.cls ≠ "java/lang/invoke/VarHandle" ∧ (parseMethodDescriptor y.desc).map (fun d => d.parameters.length) = some n) (hst : st = As.reverse ++ rest) (hn : As.length = n) (hrc : rm2.cells = mc2) (hrs : rm2.slots = ms2) (hR : rm2.frames + 1 ≤ rm.frames ∧ 8 + (nL2 + 11) + rm2.locals ≤ rm.locals) (hcat : (rest.map fun v => v.category).sum ≤ 8) (hf : cells + mc2 ≤ rm.cells ∧ slots + ms2 ≤ rm.slots) (k : ∀ v ex' M', Q2 v ex' M' → Rj cc own nL ret rm mc ms cA ad Q ex' (cells + mc2) (slots + ms2) (pc + 3) lv (v.toList ++ rest) M') : Rj cc own nL ret rm mc ms cA ad Q ex cells slots pc lv st M := by
  intro p l e s m args below meth c G tx A Qc free d0 X E hd0 H locs ls hP hD hS hl
  obtain ⟨hx, hb, hml, hown, hts, hret, hlk, hK, hA, hfree, hJ⟩ := id X
  have hJ0 : JZ ad A (s.setDrawn d0) (s.setDrawn d0).heap := JZ.vm (u := s) rfl hJ
  have hts1 := dr_words hts d0
  have hM := hC l G tx A
  have hsz : s.heap.size ≤ H.size := hS.1
  have hrun := va_runS_D (e := e) (below := below) (meth := meth) (locs := locs) (s := s.setDrawn d0) (As := As) (rest := rest) ⟨hx, hb, hml, hown, hts1⟩ hM ⟨callB_of (ws' := wsL_law) n hts1 (gS_good hG) rfl hrc hrs (hts1 _ hG.2.2.1) (hts1 _ hG.1) hdc.2 hR, hts1 _ hG.2.1⟩ ⟨fun a U g mk q => ⟨q.1, q.2.1, va_K.moved (u := U) (U := U.calling g mk a) (Vm.Alike.refl U.vm) q.2.2.1, q.2.2.2.1, q.2.2.2.2.1, JZ.vm (u := U) rfl q.2.2.2.2.2⟩, fun U hU hW => ⟨rfl, by rw [hU]; exact hP, va_K.moved hW.alike hK, hD, by rw [hU]; exact fun q hq => hA q (Nat.le_trans hsz hq), by rw [hU]; exact JZ.go (s := s.setDrawn d0) hS hW hJ0⟩⟩ rfl hn hl.1 hst (lv_room hcat) hd hf
  intro T hT XX
  obtain ⟨v, st₀, t, T', L, d', hd', h0, X', hL, e1, e2, ⟨⟨v', ex', M', hv, hQ, hP1, hD1⟩, hz, hk⟩, stp⟩ := hrun T hT XX
  cases hv
  rw [h0] at hz hk
  have hS2 : va_S A s.heap T'.heap (locs ++ L) := ⟨Nat.le_trans hS.1 (by rw [e1]; exact hz), fun q h1 h2 => by rw [e1, hk q (Nat.lt_of_lt_of_le h1 hS.1) h2]; exact hS.2.1 q h1 h2, fun q hq => by
    rcases List.mem_append.mp hq with h | h
    · exact hS.2.2 q h
    · exact hL q h⟩
  obtain ⟨t2, a1, b1⟩ := k v ex' M' hQ p l e s m args below meth c G tx A Qc free d' X E (hd0.trans hd') T'.heap (locs ++ L) ls (by rw [e1]; exact hP1) hD1 hS2 hl T' rfl X'
  exact ⟨t2, stp t2 a1, b1⟩
end
theorem g_V {own C : String} {idx nL : Nat} {y : MethodName} {cc : ByteArray} {ret : Option FieldType} (h1 : Cond.methodLink own idx y ∈ wsL_law) (h2 : Cond.instanceMethod y ∈ wsL_law) (h3 : Cond.selects C y y ∈ wsL_law) (h4 : Cond.initialized C ∈ wsL_law) (h5 : Cond.code y cc nL ret ∈ wsL_law) : GoodIn wsL_law (wsV own idx C y (.code y cc nL ret :: wsL_law)) := by
  intro w hw
  simp only [wsV, List.mem_append, List.mem_cons, List.not_mem_nil, or_false] at hw
  rcases hw with (rfl | rfl | rfl | rfl) | rfl | h
  · exact lw_good _ h1
  · exact lw_good _ h2
  · exact lw_good _ h3
  · exact lw_good _ h4
  · exact lw_good _ h5
  · exact lw_good _ h

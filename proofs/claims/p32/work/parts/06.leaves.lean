/-! PART 06: steps, and the plan's queries: their models and contracts -/
theorem ii_s {i : Nat} : nI i + Int32.ofInt 1 = nI (i + 1) := by rw [show Int32.ofInt 1 = 1 from rfl]; exact nI_1 i
theorem lp_z {x : Int32} {c i : Nat} (hx : x = nI c) (h : i + 0 = c) : x ≤ nI i := by subst hx; subst h; exact Int32.le_refl _
theorem lp_s {x : Int32} {c i n : Nat} (hx : x = nI c) (hc : c ≤ 12) (h : i + (n + 1) = c) : ¬ x ≤ nI i := by subst hx; exact nI_ge (by omega) (by omega)
def f_isOpen (x : Int32) : Bool := decide (¬ 2 < x)
def f_isOff (x : Int32) : Bool := decide (¬ x < 4)
def f_hasStep (P : tP) (x : Int32) : Bool := decide (¬ x < 0) && decide (¬ P 0 1 ≤ x)
def f_isCancelled (P : tP) (b : Int32) : Bool := decide (¬ P 0 9 &&& 1 <<< (b &&& 31) = 0)
def f_bc (x : Int32) : Int32 :=
  let us (a b : Int32) : Int32 := (a.toUInt32 >>> (b.toUInt32 &&& Int32.toUInt32 31)).toInt32
  let x1 := x - (us x 1 &&& 1431655765)
  let x2 := (x1 &&& 858993459) + (us x1 2 &&& 858993459)
  let x3 := (x2 + us x2 4) &&& 252645135
  let x4 := x3 + us x3 8
  let x5 := x4 + us x4 16
  x5 &&& 63
theorem f_bc_pos {x : Int32} : ∃ j : Nat, j < 64 ∧ f_bc x = nI j := by
  obtain ⟨j, h1, h2⟩ := pk_andE (m := 63) (((((x - ((x.toUInt32 >>> ((1 : Int32).toUInt32 &&& Int32.toUInt32 31)).toInt32 &&& 1431655765)) &&& 858993459))) ) 6 (by decide)
  have : ∃ z, f_bc x = z &&& 63 := ⟨_, rfl⟩
  obtain ⟨z, hz⟩ := this
  obtain ⟨j, h1, h2⟩ := pk_andE (m := 63) z 6 (by decide)
  exact ⟨j, h1, hz.trans h2⟩
def lp_setOf (P : tP) (how : Int32) : Nat → Nat → Int32 → Int32
  | 0, _, x => x
  | n + 1, i, x => lp_setOf P how n (i + 1) (if P (4 + i) 6 = how then x ||| sh i else x)
def f_setOf (P : tP) (how : Int32) : Int32 := lp_setOf P how (cn P) 0 0
def f_countOf (P : tP) (how : Int32) : Int32 := f_bc (f_setOf P how)
def lp_setOff (P : tP) : Nat → Nat → Int32 → Int32
  | 0, _, x => x
  | n + 1, i, x => lp_setOff P n (i + 1) (if f_isOff (P (4 + i) 6) then x ||| sh i else x)
def f_setOff (P : tP) : Int32 := lp_setOff P (cn P) 0 0
def f_isReady (w : Nat → Int32) (d : Int32) : Bool := if w 4 = 0 then true else if w 3 = 0 then decide (w 4 &&& (d ^^^ (-1)) = 0) else decide (¬ w 4 &&& d = 0)
def f_isHopeless (w : Nat → Int32) (d : Int32) : Bool := if f_isOpen (w 6) = false ∨ w 6 = 1 ∨ w 4 = 0 then false else if w 3 = 0 then decide (¬ w 4 &&& d = 0) else decide (w 4 &&& (d ^^^ (-1)) = 0)
def lp_lowH (P : tP) (d : Int32) : Nat → Nat → Int32
  | 0, _ => -1
  | n + 1, i => if f_isHopeless (P (4 + i)) d then nI i else lp_lowH P d n (i + 1)
def f_lowH (P : tP) (d : Int32) : Int32 := lp_lowH P d (cn P) 0
def lp_ftu (P : tP) (b : Int32) : Nat → Nat → Int32 → Int32 → Int32
  | 0, _, x, _ => x
  | n + 1, i, x, y => if P (4 + i) 6 = 4 ∧ P (4 + i) 2 = b ∧ ¬ P (4 + i) 10 < y then lp_ftu P b n (i + 1) (nI i) (P (4 + i) 10) else lp_ftu P b n (i + 1) x y
def f_ftu (P : tP) (b : Int32) : Int32 := lp_ftu P b (cn P) 0 (-1) (-1)
def lp_ftb (P : tP) (d : Int32) : Nat → Nat → Int32 → Int32 → Int32
  | 0, _, x, _ => x
  | n + 1, i, x, y => if (P (4 + i) 6 = 0 ∨ P (4 + i) 6 = 2) ∧ ¬ y ≤ P (4 + i) 5 ∧ f_isReady (P (4 + i)) d = true then lp_ftb P d n (i + 1) (nI i) (P (4 + i) 5) else lp_ftb P d n (i + 1) x y
def f_ftb (P : tP) (d : Int32) : Int32 := lp_ftb P d (cn P) 0 (-1) 1001
def f_ahead (P : tP) (i j : Nat) : Bool := if P (4 + i) 8 = P (4 + j) 8 then (if P (4 + i) 0 = P (4 + j) 0 then decide (¬ nI j ≤ nI i) else decide (¬ P (4 + i) 0 ≤ P (4 + j) 0)) else decide (¬ P (4 + i) 8 ≤ P (4 + j) 8)
def lp_sao (P : tP) (j : Nat) : Nat → Nat → Int32 → Int32
  | 0, _, x => x
  | n + 1, i, x => lp_sao P j n (i + 1) (if nI i = nI j then x else if f_ahead P i j then x + Int32.ofInt 1 else x)
def f_sao (P : tP) (j : Nat) : Int32 := lp_sao P j (cn P) 0 0
def lp_wid (P : tP) (x : Int32) : Nat → Nat → Int32 → Int32
  | 0, _, w => w
  | n + 1, i, w => lp_wid P x n (i + 1) (if x &&& sh i = 0 then w else w ||| P (4 + i) 4)
def lp_reach (P : tP) : Nat → Int32 → Int32
  | 0, x => x
  | n + 1, x => if lp_wid P x (cn P) 0 x = x then x else lp_reach P n (lp_wid P x (cn P) 0 x)
def f_noa (P : tP) (i : Nat) (j : Int32) : Bool := decide (¬ lp_reach P 12 (P (4 + i) 4) &&& 1 <<< (j &&& 31) = 0)
def f_lateBy (P : tP) (i : Nat) (m : Nat) : Int32 :=
  let l := (if P (4 + m) 6 = 3 then P (4 + m) 10 else P 0 7) - P (4 + m) 5
  if 0 < l then l else 0
theorem dX5_isOpen_0 : decode cX5_isOpen 0 = .ok (.aload_n 0, 1) := by decide +kernel
theorem dX5_isOpen_1 : decode cX5_isOpen 1 = .ok (.getfield 31, 3) := by decide +kernel
theorem dX5_isOpen_4 : decode cX5_isOpen 4 = .ok (.iconst 2, 1) := by decide +kernel
theorem dX5_isOpen_5 : decode cX5_isOpen 5 = .ok (.if_icmp .gt 7, 3) := by decide +kernel
theorem dX5_isOpen_8 : decode cX5_isOpen 8 = .ok (.iconst 1, 1) := by decide +kernel
theorem dX5_isOpen_9 : decode cX5_isOpen 9 = .ok (.goto 4, 3) := by decide +kernel
theorem dX5_isOpen_12 : decode cX5_isOpen 12 = .ok (.iconst 0, 1) := by decide +kernel
theorem dX5_isOpen_13 : decode cX5_isOpen 13 = .ok (.ireturn, 1) := by decide +kernel
theorem dcX5_isOpen : yX5_isOpen.cls = RX5 ∧ yX5_isOpen.cls ≠ "java/lang/invoke/MethodHandle" ∧ yX5_isOpen.cls ≠ "java/lang/invoke/VarHandle" ∧ (parseMethodDescriptor yX5_isOpen.desc).map (fun d => d.parameters.length) = some 0 := by decide +kernel
set_option maxRecDepth 100000 in
set_option maxHeartbeats 4000000 in
theorem K_isOpen {cA : Nat → ClassId} {ad : tA} {ex : va_W} {M : tM} {r : Nat} {P : tP} {i : Nat} (hr : isPlan r) (hi : i < 12) : Cj yX5_isOpen cX5_isOpen 1 (some .boolean) (rmd 0) 0 0 cA ad [.ref (ad r (4 + i))] ex (m_pl M r P) (Qe (some (.int (bI (f_isOpen (P (4 + i) 6))))) ex (m_pl M r P)) := by
  refine c_of_r (lv0 := [some (.ref (ad r (4 + i)))]) rfl (by decide +kernel) (Nat.le_of_ble_eq_true rfl) rfl ?_
  refine r_aload_n dX5_isOpen_0 rfl ?_
  refine r_getp_st (by assumption) (by omega) 6 (by decide) q104 rfl dX5_isOpen_1 ?_
  refine r_iconst (v := 2) dX5_isOpen_4 (by decide) ?_
  refine r_icmp_gt (tgt := 12) dX5_isOpen_5 (by decide) (fun c5 => ?_) (fun c5 => ?_)
  · refine r_iconst (v := 0) dX5_isOpen_12 (by decide) ?_
    exact r_ret rfl rfl dX5_isOpen_13 (by first | (simp [f_isOpen, bI, *]; done) | simp_all [f_isOpen, bI]) rfl
  · refine r_iconst (v := 1) dX5_isOpen_8 (by decide) ?_
    refine r_goto (tgt := 13) dX5_isOpen_9 (by decide) ?_
    exact r_ret rfl rfl dX5_isOpen_13 (by first | (simp [f_isOpen, bI, *]; done) | simp_all [f_isOpen, bI]) rfl
theorem dX5_isOff_0 : decode cX5_isOff 0 = .ok (.aload_n 0, 1) := by decide +kernel
theorem dX5_isOff_1 : decode cX5_isOff 1 = .ok (.getfield 31, 3) := by decide +kernel
theorem dX5_isOff_4 : decode cX5_isOff 4 = .ok (.iconst 4, 1) := by decide +kernel
theorem dX5_isOff_5 : decode cX5_isOff 5 = .ok (.if_icmp .lt 7, 3) := by decide +kernel
theorem dX5_isOff_8 : decode cX5_isOff 8 = .ok (.iconst 1, 1) := by decide +kernel
theorem dX5_isOff_9 : decode cX5_isOff 9 = .ok (.goto 4, 3) := by decide +kernel
theorem dX5_isOff_12 : decode cX5_isOff 12 = .ok (.iconst 0, 1) := by decide +kernel
theorem dX5_isOff_13 : decode cX5_isOff 13 = .ok (.ireturn, 1) := by decide +kernel
theorem dcX5_isOff : yX5_isOff.cls = RX5 ∧ yX5_isOff.cls ≠ "java/lang/invoke/MethodHandle" ∧ yX5_isOff.cls ≠ "java/lang/invoke/VarHandle" ∧ (parseMethodDescriptor yX5_isOff.desc).map (fun d => d.parameters.length) = some 0 := by decide +kernel
set_option maxRecDepth 100000 in
set_option maxHeartbeats 4000000 in
theorem K_isOff {cA : Nat → ClassId} {ad : tA} {ex : va_W} {M : tM} {r : Nat} {P : tP} {i : Nat} (hr : isPlan r) (hi : i < 12) : Cj yX5_isOff cX5_isOff 1 (some .boolean) (rmd 0) 0 0 cA ad [.ref (ad r (4 + i))] ex (m_pl M r P) (Qe (some (.int (bI (f_isOff (P (4 + i) 6))))) ex (m_pl M r P)) := by
  refine c_of_r (lv0 := [some (.ref (ad r (4 + i)))]) rfl (by decide +kernel) (Nat.le_of_ble_eq_true rfl) rfl ?_
  refine r_aload_n dX5_isOff_0 rfl ?_
  refine r_getp_st (by assumption) (by omega) 6 (by decide) q104 rfl dX5_isOff_1 ?_
  refine r_iconst (v := 4) dX5_isOff_4 (by decide) ?_
  refine r_icmp_lt (tgt := 12) dX5_isOff_5 (by decide) (fun c5 => ?_) (fun c5 => ?_)
  · refine r_iconst (v := 0) dX5_isOff_12 (by decide) ?_
    exact r_ret rfl rfl dX5_isOff_13 (by first | (simp [f_isOff, bI, *]; done) | simp_all [f_isOff, bI]) rfl
  · refine r_iconst (v := 1) dX5_isOff_8 (by decide) ?_
    refine r_goto (tgt := 13) dX5_isOff_9 (by decide) ?_
    exact r_ret rfl rfl dX5_isOff_13 (by first | (simp [f_isOff, bI, *]; done) | simp_all [f_isOff, bI]) rfl
theorem dX4_hasStep_0 : decode cX4_hasStep 0 = .ok (.iload_n 1, 1) := by decide +kernel
theorem dX4_hasStep_1 : decode cX4_hasStep 1 = .ok (.ifCond .lt 15, 3) := by decide +kernel
theorem dX4_hasStep_4 : decode cX4_hasStep 4 = .ok (.iload_n 1, 1) := by decide +kernel
theorem dX4_hasStep_5 : decode cX4_hasStep 5 = .ok (.aload_n 0, 1) := by decide +kernel
theorem dX4_hasStep_6 : decode cX4_hasStep 6 = .ok (.getfield 29, 3) := by decide +kernel
theorem dX4_hasStep_9 : decode cX4_hasStep 9 = .ok (.if_icmp .ge 7, 3) := by decide +kernel
theorem dX4_hasStep_12 : decode cX4_hasStep 12 = .ok (.iconst 1, 1) := by decide +kernel
theorem dX4_hasStep_13 : decode cX4_hasStep 13 = .ok (.goto 4, 3) := by decide +kernel
theorem dX4_hasStep_16 : decode cX4_hasStep 16 = .ok (.iconst 0, 1) := by decide +kernel
theorem dX4_hasStep_17 : decode cX4_hasStep 17 = .ok (.ireturn, 1) := by decide +kernel
theorem dcX4_hasStep : yX4_hasStep.cls = RX4 ∧ yX4_hasStep.cls ≠ "java/lang/invoke/MethodHandle" ∧ yX4_hasStep.cls ≠ "java/lang/invoke/VarHandle" ∧ (parseMethodDescriptor yX4_hasStep.desc).map (fun d => d.parameters.length) = some 1 := by decide +kernel
set_option maxRecDepth 100000 in
set_option maxHeartbeats 4000000 in
theorem K_hasStep {cA : Nat → ClassId} {ad : tA} {ex : va_W} {M : tM} {r : Nat} {P : tP} {x : Int32} (hr : isPlan r) : Cj yX4_hasStep cX4_hasStep 2 (some .boolean) (rmd 0) 0 0 cA ad [.ref (ad r 0), .int x] ex (m_pl M r P) (Qe (some (.int (bI (f_hasStep P x)))) ex (m_pl M r P)) := by
  refine c_of_r (lv0 := [some (.ref (ad r 0)), some (.int x)]) rfl (by decide +kernel) (Nat.le_of_ble_eq_true rfl) rfl ?_
  refine r_iload_n dX4_hasStep_0 rfl ?_
  refine r_if_lt (tgt := 16) dX4_hasStep_1 (by decide) (fun c1 => ?_) (fun c1 => ?_)
  · refine r_iconst (v := 0) dX4_hasStep_16 (by decide) ?_
    exact r_ret rfl rfl dX4_hasStep_17 (by first | (simp [f_hasStep, bI, *]; done) | simp_all [f_hasStep, bI]) rfl
  · refine r_iload_n dX4_hasStep_4 rfl ?_
    refine r_aload_n dX4_hasStep_5 rfl ?_
    refine r_getp_pl (by assumption) 1 (by decide) q80 rfl dX4_hasStep_6 ?_
    refine r_icmp_ge (tgt := 16) dX4_hasStep_9 (by decide) (fun c9 => ?_) (fun c9 => ?_)
    · refine r_iconst (v := 0) dX4_hasStep_16 (by decide) ?_
      exact r_ret rfl rfl dX4_hasStep_17 (by first | (simp [f_hasStep, bI, *]; done) | simp_all [f_hasStep, bI]) rfl
    · refine r_iconst (v := 1) dX4_hasStep_12 (by decide) ?_
      refine r_goto (tgt := 17) dX4_hasStep_13 (by decide) ?_
      exact r_ret rfl rfl dX4_hasStep_17 (by first | (simp [f_hasStep, bI, *]; done) | simp_all [f_hasStep, bI]) rfl
theorem dX4_isCancelled_0 : decode cX4_isCancelled 0 = .ok (.aload_n 0, 1) := by decide +kernel
theorem dX4_isCancelled_1 : decode cX4_isCancelled 1 = .ok (.getfield 54, 3) := by decide +kernel
theorem dX4_isCancelled_4 : decode cX4_isCancelled 4 = .ok (.iconst 1, 1) := by decide +kernel
theorem dX4_isCancelled_5 : decode cX4_isCancelled 5 = .ok (.iload_n 1, 1) := by decide +kernel
theorem dX4_isCancelled_6 : decode cX4_isCancelled 6 = .ok (.ishl, 1) := by decide +kernel
theorem dX4_isCancelled_7 : decode cX4_isCancelled 7 = .ok (.iand, 1) := by decide +kernel
theorem dX4_isCancelled_8 : decode cX4_isCancelled 8 = .ok (.ifCond .eq 7, 3) := by decide +kernel
theorem dX4_isCancelled_11 : decode cX4_isCancelled 11 = .ok (.iconst 1, 1) := by decide +kernel
theorem dX4_isCancelled_12 : decode cX4_isCancelled 12 = .ok (.goto 4, 3) := by decide +kernel
theorem dX4_isCancelled_15 : decode cX4_isCancelled 15 = .ok (.iconst 0, 1) := by decide +kernel
theorem dX4_isCancelled_16 : decode cX4_isCancelled 16 = .ok (.ireturn, 1) := by decide +kernel
theorem dcX4_isCancelled : yX4_isCancelled.cls = RX4 ∧ yX4_isCancelled.cls ≠ "java/lang/invoke/MethodHandle" ∧ yX4_isCancelled.cls ≠ "java/lang/invoke/VarHandle" ∧ (parseMethodDescriptor yX4_isCancelled.desc).map (fun d => d.parameters.length) = some 1 := by decide +kernel
set_option maxRecDepth 100000 in
set_option maxHeartbeats 4000000 in
theorem K_isCancelled {cA : Nat → ClassId} {ad : tA} {ex : va_W} {M : tM} {r : Nat} {P : tP} {x : Int32} (hr : isPlan r) : Cj yX4_isCancelled cX4_isCancelled 2 (some .boolean) (rmd 0) 0 0 cA ad [.ref (ad r 0), .int x] ex (m_pl M r P) (Qe (some (.int (bI (f_isCancelled P x)))) ex (m_pl M r P)) := by
  refine c_of_r (lv0 := [some (.ref (ad r 0)), some (.int x)]) rfl (by decide +kernel) (Nat.le_of_ble_eq_true rfl) rfl ?_
  refine r_aload_n dX4_isCancelled_0 rfl ?_
  refine r_getp_pl (by assumption) 9 (by decide) q89 rfl dX4_isCancelled_1 ?_
  refine r_iconst (v := 1) dX4_isCancelled_4 (by decide) ?_
  refine r_iload_n dX4_isCancelled_5 rfl ?_
  refine r_ishl dX4_isCancelled_6 ?_
  refine r_iand dX4_isCancelled_7 ?_
  refine r_if_eq (tgt := 15) dX4_isCancelled_8 (by decide) (fun c8 => ?_) (fun c8 => ?_)
  · refine r_iconst (v := 0) dX4_isCancelled_15 (by decide) ?_
    exact r_ret rfl rfl dX4_isCancelled_16 (by first | (simp [f_isCancelled, bI, *]; done) | simp_all [f_isCancelled, bI]) rfl
  · refine r_iconst (v := 1) dX4_isCancelled_11 (by decide) ?_
    refine r_goto (tgt := 16) dX4_isCancelled_12 (by decide) ?_
    exact r_ret rfl rfl dX4_isCancelled_16 (by first | (simp [f_isCancelled, bI, *]; done) | simp_all [f_isCancelled, bI]) rfl
theorem dJ6_bitCount_0f7a4_0 : decode cJ6_bitCount_0f7a4 0 = .ok (.iload_n 0, 1) := by decide +kernel
theorem dJ6_bitCount_0f7a4_1 : decode cJ6_bitCount_0f7a4 1 = .ok (.iload_n 0, 1) := by decide +kernel
theorem dJ6_bitCount_0f7a4_2 : decode cJ6_bitCount_0f7a4 2 = .ok (.iconst 1, 1) := by decide +kernel
theorem dJ6_bitCount_0f7a4_3 : decode cJ6_bitCount_0f7a4 3 = .ok (.iushr, 1) := by decide +kernel
theorem dJ6_bitCount_0f7a4_4 : decode cJ6_bitCount_0f7a4 4 = .ok (.ldc_w 265, 3) := by decide +kernel
theorem dJ6_bitCount_0f7a4_7 : decode cJ6_bitCount_0f7a4 7 = .ok (.iand, 1) := by decide +kernel
theorem dJ6_bitCount_0f7a4_8 : decode cJ6_bitCount_0f7a4 8 = .ok (.isub, 1) := by decide +kernel
theorem dJ6_bitCount_0f7a4_9 : decode cJ6_bitCount_0f7a4 9 = .ok (.istore_n 0, 1) := by decide +kernel
theorem dJ6_bitCount_0f7a4_10 : decode cJ6_bitCount_0f7a4 10 = .ok (.iload_n 0, 1) := by decide +kernel
theorem dJ6_bitCount_0f7a4_11 : decode cJ6_bitCount_0f7a4 11 = .ok (.ldc_w 266, 3) := by decide +kernel
theorem dJ6_bitCount_0f7a4_14 : decode cJ6_bitCount_0f7a4 14 = .ok (.iand, 1) := by decide +kernel
theorem dJ6_bitCount_0f7a4_15 : decode cJ6_bitCount_0f7a4 15 = .ok (.iload_n 0, 1) := by decide +kernel
theorem dJ6_bitCount_0f7a4_16 : decode cJ6_bitCount_0f7a4 16 = .ok (.iconst 2, 1) := by decide +kernel
theorem dJ6_bitCount_0f7a4_17 : decode cJ6_bitCount_0f7a4 17 = .ok (.iushr, 1) := by decide +kernel
theorem dJ6_bitCount_0f7a4_18 : decode cJ6_bitCount_0f7a4 18 = .ok (.ldc_w 266, 3) := by decide +kernel
theorem dJ6_bitCount_0f7a4_21 : decode cJ6_bitCount_0f7a4 21 = .ok (.iand, 1) := by decide +kernel
theorem dJ6_bitCount_0f7a4_22 : decode cJ6_bitCount_0f7a4 22 = .ok (.iadd, 1) := by decide +kernel
theorem dJ6_bitCount_0f7a4_23 : decode cJ6_bitCount_0f7a4 23 = .ok (.istore_n 0, 1) := by decide +kernel
theorem dJ6_bitCount_0f7a4_24 : decode cJ6_bitCount_0f7a4 24 = .ok (.iload_n 0, 1) := by decide +kernel
theorem dJ6_bitCount_0f7a4_25 : decode cJ6_bitCount_0f7a4 25 = .ok (.iload_n 0, 1) := by decide +kernel
theorem dJ6_bitCount_0f7a4_26 : decode cJ6_bitCount_0f7a4 26 = .ok (.iconst 4, 1) := by decide +kernel
theorem dJ6_bitCount_0f7a4_27 : decode cJ6_bitCount_0f7a4 27 = .ok (.iushr, 1) := by decide +kernel
theorem dJ6_bitCount_0f7a4_28 : decode cJ6_bitCount_0f7a4 28 = .ok (.iadd, 1) := by decide +kernel
theorem dJ6_bitCount_0f7a4_29 : decode cJ6_bitCount_0f7a4 29 = .ok (.ldc_w 267, 3) := by decide +kernel
theorem dJ6_bitCount_0f7a4_32 : decode cJ6_bitCount_0f7a4 32 = .ok (.iand, 1) := by decide +kernel
theorem dJ6_bitCount_0f7a4_33 : decode cJ6_bitCount_0f7a4 33 = .ok (.istore_n 0, 1) := by decide +kernel
theorem dJ6_bitCount_0f7a4_34 : decode cJ6_bitCount_0f7a4 34 = .ok (.iload_n 0, 1) := by decide +kernel
theorem dJ6_bitCount_0f7a4_35 : decode cJ6_bitCount_0f7a4 35 = .ok (.iload_n 0, 1) := by decide +kernel
theorem dJ6_bitCount_0f7a4_36 : decode cJ6_bitCount_0f7a4 36 = .ok (.bipush 8, 2) := by decide +kernel
theorem dJ6_bitCount_0f7a4_38 : decode cJ6_bitCount_0f7a4 38 = .ok (.iushr, 1) := by decide +kernel
theorem dJ6_bitCount_0f7a4_39 : decode cJ6_bitCount_0f7a4 39 = .ok (.iadd, 1) := by decide +kernel
theorem dJ6_bitCount_0f7a4_40 : decode cJ6_bitCount_0f7a4 40 = .ok (.istore_n 0, 1) := by decide +kernel
theorem dJ6_bitCount_0f7a4_41 : decode cJ6_bitCount_0f7a4 41 = .ok (.iload_n 0, 1) := by decide +kernel
theorem dJ6_bitCount_0f7a4_42 : decode cJ6_bitCount_0f7a4 42 = .ok (.iload_n 0, 1) := by decide +kernel
theorem dJ6_bitCount_0f7a4_43 : decode cJ6_bitCount_0f7a4 43 = .ok (.bipush 16, 2) := by decide +kernel
theorem dJ6_bitCount_0f7a4_45 : decode cJ6_bitCount_0f7a4 45 = .ok (.iushr, 1) := by decide +kernel
theorem dJ6_bitCount_0f7a4_46 : decode cJ6_bitCount_0f7a4 46 = .ok (.iadd, 1) := by decide +kernel
theorem dJ6_bitCount_0f7a4_47 : decode cJ6_bitCount_0f7a4 47 = .ok (.istore_n 0, 1) := by decide +kernel
theorem dJ6_bitCount_0f7a4_48 : decode cJ6_bitCount_0f7a4 48 = .ok (.iload_n 0, 1) := by decide +kernel
theorem dJ6_bitCount_0f7a4_49 : decode cJ6_bitCount_0f7a4 49 = .ok (.bipush 63, 2) := by decide +kernel
theorem dJ6_bitCount_0f7a4_51 : decode cJ6_bitCount_0f7a4 51 = .ok (.iand, 1) := by decide +kernel
theorem dJ6_bitCount_0f7a4_52 : decode cJ6_bitCount_0f7a4 52 = .ok (.ireturn, 1) := by decide +kernel
theorem dcJ6_bitCount_0f7a4 : yJ6_bitCount_0f7a4.cls = RJ6 ∧ yJ6_bitCount_0f7a4.cls ≠ "java/lang/invoke/MethodHandle" ∧ yJ6_bitCount_0f7a4.cls ≠ "java/lang/invoke/VarHandle" ∧ (parseMethodDescriptor yJ6_bitCount_0f7a4.desc).map (fun d => d.parameters.length) = some 1 := by decide +kernel
set_option maxRecDepth 100000 in
set_option maxHeartbeats 4000000 in
theorem K_bc {cA : Nat → ClassId} {ad : tA} {ex : va_W} {M : tM} {x : Int32} : Cj yJ6_bitCount_0f7a4 cJ6_bitCount_0f7a4 1 (some .int) (rmd 0) 0 0 cA ad [.int x] ex M (Qe (some (.int (f_bc x))) ex M) := by
  refine c_of_r (lv0 := [some (.int x)]) rfl (by decide +kernel) (Nat.le_of_ble_eq_true rfl) rfl ?_
  refine r_iload_n dJ6_bitCount_0f7a4_0 rfl ?_
  refine r_iload_n dJ6_bitCount_0f7a4_1 rfl ?_
  refine r_iconst (v := 1) dJ6_bitCount_0f7a4_2 (by decide) ?_
  refine r_iushr dJ6_bitCount_0f7a4_3 rfl ?_
  refine r_ldcw dJ6_bitCount_0f7a4_4 q173 ?_
  refine r_iand dJ6_bitCount_0f7a4_7 ?_
  refine r_isub dJ6_bitCount_0f7a4_8 ?_
  refine r_istore_n dJ6_bitCount_0f7a4_9 (by decide) rfl ?_
  refine r_iload_n dJ6_bitCount_0f7a4_10 rfl ?_
  refine r_ldcw dJ6_bitCount_0f7a4_11 q174 ?_
  refine r_iand dJ6_bitCount_0f7a4_14 ?_
  refine r_iload_n dJ6_bitCount_0f7a4_15 rfl ?_
  refine r_iconst (v := 2) dJ6_bitCount_0f7a4_16 (by decide) ?_
  refine r_iushr dJ6_bitCount_0f7a4_17 rfl ?_
  refine r_ldcw dJ6_bitCount_0f7a4_18 q174 ?_
  refine r_iand dJ6_bitCount_0f7a4_21 ?_
  refine r_iadd dJ6_bitCount_0f7a4_22 ?_
  refine r_istore_n dJ6_bitCount_0f7a4_23 (by decide) rfl ?_
  refine r_iload_n dJ6_bitCount_0f7a4_24 rfl ?_
  refine r_iload_n dJ6_bitCount_0f7a4_25 rfl ?_
  refine r_iconst (v := 4) dJ6_bitCount_0f7a4_26 (by decide) ?_
  refine r_iushr dJ6_bitCount_0f7a4_27 rfl ?_
  refine r_iadd dJ6_bitCount_0f7a4_28 ?_
  refine r_ldcw dJ6_bitCount_0f7a4_29 q175 ?_
  refine r_iand dJ6_bitCount_0f7a4_32 ?_
  refine r_istore_n dJ6_bitCount_0f7a4_33 (by decide) rfl ?_
  refine r_iload_n dJ6_bitCount_0f7a4_34 rfl ?_
  refine r_iload_n dJ6_bitCount_0f7a4_35 rfl ?_
  refine r_bipush (v := 8) dJ6_bitCount_0f7a4_36 (by decide) ?_
  refine r_iushr dJ6_bitCount_0f7a4_38 rfl ?_
  refine r_iadd dJ6_bitCount_0f7a4_39 ?_
  refine r_istore_n dJ6_bitCount_0f7a4_40 (by decide) rfl ?_
  refine r_iload_n dJ6_bitCount_0f7a4_41 rfl ?_
  refine r_iload_n dJ6_bitCount_0f7a4_42 rfl ?_
  refine r_bipush (v := 16) dJ6_bitCount_0f7a4_43 (by decide) ?_
  refine r_iushr dJ6_bitCount_0f7a4_45 rfl ?_
  refine r_iadd dJ6_bitCount_0f7a4_46 ?_
  refine r_istore_n dJ6_bitCount_0f7a4_47 (by decide) rfl ?_
  refine r_iload_n dJ6_bitCount_0f7a4_48 rfl ?_
  refine r_bipush (v := 63) dJ6_bitCount_0f7a4_49 (by decide) ?_
  refine r_iand dJ6_bitCount_0f7a4_51 ?_
  exact r_ret rfl rfl dJ6_bitCount_0f7a4_52 rfl rfl
theorem dX4_setOf_0 : decode cX4_setOf 0 = .ok (.iconst 0, 1) := by decide +kernel
theorem dX4_setOf_1 : decode cX4_setOf 1 = .ok (.istore_n 2, 1) := by decide +kernel
theorem dX4_setOf_2 : decode cX4_setOf 2 = .ok (.iconst 0, 1) := by decide +kernel
theorem dX4_setOf_3 : decode cX4_setOf 3 = .ok (.istore_n 3, 1) := by decide +kernel
theorem dX4_setOf_4 : decode cX4_setOf 4 = .ok (.iload_n 3, 1) := by decide +kernel
theorem dX4_setOf_5 : decode cX4_setOf 5 = .ok (.aload_n 0, 1) := by decide +kernel
theorem dX4_setOf_6 : decode cX4_setOf 6 = .ok (.getfield 29, 3) := by decide +kernel
theorem dX4_setOf_9 : decode cX4_setOf 9 = .ok (.if_icmp .ge 28, 3) := by decide +kernel
theorem dX4_setOf_12 : decode cX4_setOf 12 = .ok (.aload_n 0, 1) := by decide +kernel
theorem dX4_setOf_13 : decode cX4_setOf 13 = .ok (.getfield 11, 3) := by decide +kernel
theorem dX4_setOf_16 : decode cX4_setOf 16 = .ok (.iload_n 3, 1) := by decide +kernel
theorem dX4_setOf_17 : decode cX4_setOf 17 = .ok (.aaload, 1) := by decide +kernel
theorem dX4_setOf_18 : decode cX4_setOf 18 = .ok (.getfield 84, 3) := by decide +kernel
theorem dX4_setOf_21 : decode cX4_setOf 21 = .ok (.iload_n 1, 1) := by decide +kernel
theorem dX4_setOf_22 : decode cX4_setOf 22 = .ok (.if_icmp .ne 9, 3) := by decide +kernel
theorem dX4_setOf_25 : decode cX4_setOf 25 = .ok (.iload_n 2, 1) := by decide +kernel
theorem dX4_setOf_26 : decode cX4_setOf 26 = .ok (.iconst 1, 1) := by decide +kernel
theorem dX4_setOf_27 : decode cX4_setOf 27 = .ok (.iload_n 3, 1) := by decide +kernel
theorem dX4_setOf_28 : decode cX4_setOf 28 = .ok (.ishl, 1) := by decide +kernel
theorem dX4_setOf_29 : decode cX4_setOf 29 = .ok (.ior, 1) := by decide +kernel
theorem dX4_setOf_30 : decode cX4_setOf 30 = .ok (.istore_n 2, 1) := by decide +kernel
theorem dX4_setOf_31 : decode cX4_setOf 31 = .ok (.iinc 3 1, 3) := by decide +kernel
theorem dX4_setOf_34 : decode cX4_setOf 34 = .ok (.goto (-30), 3) := by decide +kernel
theorem dX4_setOf_37 : decode cX4_setOf 37 = .ok (.iload_n 2, 1) := by decide +kernel
theorem dX4_setOf_38 : decode cX4_setOf 38 = .ok (.ireturn, 1) := by decide +kernel
theorem dcX4_setOf : yX4_setOf.cls = RX4 ∧ yX4_setOf.cls ≠ "java/lang/invoke/MethodHandle" ∧ yX4_setOf.cls ≠ "java/lang/invoke/VarHandle" ∧ (parseMethodDescriptor yX4_setOf.desc).map (fun d => d.parameters.length) = some 1 := by decide +kernel
set_option maxRecDepth 100000 in
set_option maxHeartbeats 4000000 in
theorem K_setOf {cA : Nat → ClassId} {ad : tA} {ex : va_W} {M : tM} {r : Nat} {P : tP} {how : Int32} {c : Nat} (hr : isPlan r) (hc : P 0 1 = nI c) (hc2 : c ≤ 12) : Cj yX4_setOf cX4_setOf 4 (some .int) (rmd 0) 0 0 cA ad [.ref (ad r 0), .int how] ex (m_pl M r P) (Qe (some (.int (f_setOf P how))) ex (m_pl M r P)) := by
  refine c_of_r (lv0 := [some (.ref (ad r 0)), some (.int how), none, none]) rfl (by decide +kernel) (Nat.le_of_ble_eq_true rfl) rfl ?_
  have L : ∀ (n i : Nat) (x : Int32), i + n = c → Rj cX4_setOf RX4 4 (some .int) (rmd 0) 0 0 cA ad (Qe (some (.int (lp_setOf P how n i x))) ex (m_pl M r P)) ex 0 0 4 [some (.ref (ad r 0)), some (.int how), some (.int x), some (.int (nI i))] [] (m_pl M r P) := by
    intro n
    induction n with
    | zero =>
      intro i x h
      refine r_iload_n dX4_setOf_4 rfl ?_
      refine r_aload_n dX4_setOf_5 rfl ?_
      refine r_getp_pl (by assumption) 1 (by decide) q80 rfl dX4_setOf_6 ?_
      refine r_icmp_ge (tgt := 37) dX4_setOf_9 (by decide) (fun c9 => ?_) (fun c9 => absurd (lp_z hc h) c9)
      refine r_iload_n dX4_setOf_37 rfl ?_
      exact r_ret rfl rfl dX4_setOf_38 rfl rfl
    | succ n ih =>
      intro i x h
      refine r_iload_n dX4_setOf_4 rfl ?_
      refine r_aload_n dX4_setOf_5 rfl ?_
      refine r_getp_pl (by assumption) 1 (by decide) q80 rfl dX4_setOf_6 ?_
      refine r_icmp_ge (tgt := 37) dX4_setOf_9 (by decide) (fun c9 => absurd c9 (lp_s hc hc2 h)) (fun c9 => ?_)
      refine r_aload_n dX4_setOf_12 rfl ?_
      refine r_getp_pl (by assumption) 0 (by decide) q38 rfl dX4_setOf_13 ?_
      refine r_iload_n dX4_setOf_16 rfl ?_
      refine r_aldp_steps (by assumption) rfl (by omega) dX4_setOf_17 ?_
      refine r_getp_st (by assumption) (by omega) 6 (by decide) q168 rfl dX4_setOf_18 ?_
      refine r_iload_n dX4_setOf_21 rfl ?_
      refine r_icmp_ne (tgt := 31) dX4_setOf_22 (by decide) (fun c22 => ?_) (fun c22 => ?_)
      · rw [lp_setOf, if_neg c22]
        refine r_iinc dX4_setOf_31 rfl ii_s (by decide) rfl ?_
        refine r_goto (tgt := 4) dX4_setOf_34 (by decide) ?_
        exact ih (i + 1) _ (by omega)
      · rw [lp_setOf, if_pos (c22)]
        refine r_iload_n dX4_setOf_25 rfl ?_
        refine r_iconst (v := 1) dX4_setOf_26 (by decide) ?_
        refine r_iload_n dX4_setOf_27 rfl ?_
        refine r_ishl dX4_setOf_28 ?_
        refine r_ior dX4_setOf_29 ?_
        refine r_istore_n dX4_setOf_30 (by decide) rfl ?_
        refine r_iinc dX4_setOf_31 rfl ii_s (by decide) rfl ?_
        refine r_goto (tgt := 4) dX4_setOf_34 (by decide) ?_
        exact ih (i + 1) _ (by omega)
  refine r_iconst (v := 0) dX4_setOf_0 (by decide) ?_
  refine r_istore_n dX4_setOf_1 (by decide) rfl ?_
  refine r_iconst (v := 0) dX4_setOf_2 (by decide) ?_
  refine r_istore_n dX4_setOf_3 (by decide) rfl ?_
  rw [f_setOf, cn_of hc hc2]; exact L c 0 0 (by omega)
theorem dX4_setOfOff_0 : decode cX4_setOfOff 0 = .ok (.iconst 0, 1) := by decide +kernel
theorem dX4_setOfOff_1 : decode cX4_setOfOff 1 = .ok (.istore_n 1, 1) := by decide +kernel
theorem dX4_setOfOff_2 : decode cX4_setOfOff 2 = .ok (.iconst 0, 1) := by decide +kernel
theorem dX4_setOfOff_3 : decode cX4_setOfOff 3 = .ok (.istore_n 2, 1) := by decide +kernel
theorem dX4_setOfOff_4 : decode cX4_setOfOff 4 = .ok (.iload_n 2, 1) := by decide +kernel
theorem dX4_setOfOff_5 : decode cX4_setOfOff 5 = .ok (.aload_n 0, 1) := by decide +kernel
theorem dX4_setOfOff_6 : decode cX4_setOfOff 6 = .ok (.getfield 29, 3) := by decide +kernel
theorem dX4_setOfOff_9 : decode cX4_setOfOff 9 = .ok (.if_icmp .ge 27, 3) := by decide +kernel
theorem dX4_setOfOff_12 : decode cX4_setOfOff 12 = .ok (.aload_n 0, 1) := by decide +kernel
theorem dX4_setOfOff_13 : decode cX4_setOfOff 13 = .ok (.getfield 11, 3) := by decide +kernel
theorem dX4_setOfOff_16 : decode cX4_setOfOff 16 = .ok (.iload_n 2, 1) := by decide +kernel
theorem dX4_setOfOff_17 : decode cX4_setOfOff 17 = .ok (.aaload, 1) := by decide +kernel
theorem dX4_setOfOff_18 : decode cX4_setOfOff 18 = .ok (.invokevirtual 105, 3) := by decide +kernel
theorem dX4_setOfOff_21 : decode cX4_setOfOff 21 = .ok (.ifCond .eq 9, 3) := by decide +kernel
theorem dX4_setOfOff_24 : decode cX4_setOfOff 24 = .ok (.iload_n 1, 1) := by decide +kernel
theorem dX4_setOfOff_25 : decode cX4_setOfOff 25 = .ok (.iconst 1, 1) := by decide +kernel
theorem dX4_setOfOff_26 : decode cX4_setOfOff 26 = .ok (.iload_n 2, 1) := by decide +kernel
theorem dX4_setOfOff_27 : decode cX4_setOfOff 27 = .ok (.ishl, 1) := by decide +kernel
theorem dX4_setOfOff_28 : decode cX4_setOfOff 28 = .ok (.ior, 1) := by decide +kernel
theorem dX4_setOfOff_29 : decode cX4_setOfOff 29 = .ok (.istore_n 1, 1) := by decide +kernel
theorem dX4_setOfOff_30 : decode cX4_setOfOff 30 = .ok (.iinc 2 1, 3) := by decide +kernel
theorem dX4_setOfOff_33 : decode cX4_setOfOff 33 = .ok (.goto (-29), 3) := by decide +kernel
theorem dX4_setOfOff_36 : decode cX4_setOfOff 36 = .ok (.iload_n 1, 1) := by decide +kernel
theorem dX4_setOfOff_37 : decode cX4_setOfOff 37 = .ok (.ireturn, 1) := by decide +kernel
theorem dcX4_setOfOff : yX4_setOfOff.cls = RX4 ∧ yX4_setOfOff.cls ≠ "java/lang/invoke/MethodHandle" ∧ yX4_setOfOff.cls ≠ "java/lang/invoke/VarHandle" ∧ (parseMethodDescriptor yX4_setOfOff.desc).map (fun d => d.parameters.length) = some 0 := by decide +kernel
theorem gX4_setOfOff_18 : GoodIn wsL_law (wsV RX4 105 RX5 yX5_isOff (.code yX5_isOff cX5_isOff 1 (some .boolean) :: wsL_law)) := g_V q391 q392 q393 q44 q394
set_option maxRecDepth 100000 in
set_option maxHeartbeats 4000000 in
theorem K_setOff {cA : Nat → ClassId} {ad : tA} {ex : va_W} {M : tM} {r : Nat} {P : tP} {c : Nat} (hr : isPlan r) (hc : P 0 1 = nI c) (hc2 : c ≤ 12) : Cj yX4_setOfOff cX4_setOfOff 3 (some .int) (rmd 1) 0 0 cA ad [.ref (ad r 0)] ex (m_pl M r P) (Qe (some (.int (f_setOff P))) ex (m_pl M r P)) := by
  refine c_of_r (lv0 := [some (.ref (ad r 0)), none, none]) rfl (by decide +kernel) (Nat.le_of_ble_eq_true rfl) rfl ?_
  have L : ∀ (n i : Nat) (x : Int32), i + n = c → Rj cX4_setOfOff RX4 3 (some .int) (rmd 1) 0 0 cA ad (Qe (some (.int (lp_setOff P n i x))) ex (m_pl M r P)) ex 0 0 4 [some (.ref (ad r 0)), some (.int x), some (.int (nI i))] [] (m_pl M r P) := by
    intro n
    induction n with
    | zero =>
      intro i x h
      refine r_iload_n dX4_setOfOff_4 rfl ?_
      refine r_aload_n dX4_setOfOff_5 rfl ?_
      refine r_getp_pl (by assumption) 1 (by decide) q80 rfl dX4_setOfOff_6 ?_
      refine r_icmp_ge (tgt := 36) dX4_setOfOff_9 (by decide) (fun c9 => ?_) (fun c9 => absurd (lp_z hc h) c9)
      refine r_iload_n dX4_setOfOff_36 rfl ?_
      exact r_ret rfl rfl dX4_setOfOff_37 rfl rfl
    | succ n ih =>
      intro i x h
      refine r_iload_n dX4_setOfOff_4 rfl ?_
      refine r_aload_n dX4_setOfOff_5 rfl ?_
      refine r_getp_pl (by assumption) 1 (by decide) q80 rfl dX4_setOfOff_6 ?_
      refine r_icmp_ge (tgt := 36) dX4_setOfOff_9 (by decide) (fun c9 => absurd c9 (lp_s hc hc2 h)) (fun c9 => ?_)
      refine r_aload_n dX4_setOfOff_12 rfl ?_
      refine r_getp_pl (by assumption) 0 (by decide) q38 rfl dX4_setOfOff_13 ?_
      refine r_iload_n dX4_setOfOff_16 rfl ?_
      refine r_aldp_steps (by assumption) rfl (by omega) dX4_setOfOff_17 ?_
      refine r_cVi dX4_setOfOff_18 (K_isOff (i := i) (by assumption) (by omega)) gX4_setOfOff_18 dcX5_isOff rfl rfl rfl (by decide) (ob_st (by assumption) (by omega)) ?_
      refine r_if_eq (tgt := 30) dX4_setOfOff_21 (by decide) (fun c21 => ?_) (fun c21 => ?_)
      · rw [lp_setOff, bI_0 c21, if_neg (by decide)]
        refine r_iinc dX4_setOfOff_30 rfl ii_s (by decide) rfl ?_
        refine r_goto (tgt := 4) dX4_setOfOff_33 (by decide) ?_
        exact ih (i + 1) _ (by omega)
      · rw [lp_setOff, bI_1 c21, if_pos rfl]
        refine r_iload_n dX4_setOfOff_24 rfl ?_
        refine r_iconst (v := 1) dX4_setOfOff_25 (by decide) ?_
        refine r_iload_n dX4_setOfOff_26 rfl ?_
        refine r_ishl dX4_setOfOff_27 ?_
        refine r_ior dX4_setOfOff_28 ?_
        refine r_istore_n dX4_setOfOff_29 (by decide) rfl ?_
        refine r_iinc dX4_setOfOff_30 rfl ii_s (by decide) rfl ?_
        refine r_goto (tgt := 4) dX4_setOfOff_33 (by decide) ?_
        exact ih (i + 1) _ (by omega)
  refine r_iconst (v := 0) dX4_setOfOff_0 (by decide) ?_
  refine r_istore_n dX4_setOfOff_1 (by decide) rfl ?_
  refine r_iconst (v := 0) dX4_setOfOff_2 (by decide) ?_
  refine r_istore_n dX4_setOfOff_3 (by decide) rfl ?_
  rw [f_setOff, cn_of hc hc2]; exact L c 0 0 (by omega)
theorem dX4_countOf_0 : decode cX4_countOf 0 = .ok (.aload_n 0, 1) := by decide +kernel
theorem dX4_countOf_1 : decode cX4_countOf 1 = .ok (.iload_n 1, 1) := by decide +kernel
theorem dX4_countOf_2 : decode cX4_countOf 2 = .ok (.invokevirtual 96, 3) := by decide +kernel
theorem dX4_countOf_5 : decode cX4_countOf 5 = .ok (.invokestatic 100, 3) := by decide +kernel
theorem dX4_countOf_8 : decode cX4_countOf 8 = .ok (.ireturn, 1) := by decide +kernel
theorem dcX4_countOf : yX4_countOf.cls = RX4 ∧ yX4_countOf.cls ≠ "java/lang/invoke/MethodHandle" ∧ yX4_countOf.cls ≠ "java/lang/invoke/VarHandle" ∧ (parseMethodDescriptor yX4_countOf.desc).map (fun d => d.parameters.length) = some 1 := by decide +kernel
theorem gX4_countOf_2 : GoodIn wsL_law (wsV RX4 96 RX4 yX4_setOf (.code yX4_setOf cX4_setOf 4 (some .int) :: wsL_law)) := g_V q164 q165 q166 q16 q167
theorem gX4_countOf_5 : gS RX4 100 yJ6_bitCount_0f7a4 cJ6_bitCount_0f7a4 1 (some .int) := ⟨q169, q170, q171, q172⟩
set_option maxRecDepth 100000 in
set_option maxHeartbeats 4000000 in
theorem K_countOf {cA : Nat → ClassId} {ad : tA} {ex : va_W} {M : tM} {r : Nat} {P : tP} {how : Int32} {c : Nat} (hr : isPlan r) (hc : P 0 1 = nI c) (hc2 : c ≤ 12) : Cj yX4_countOf cX4_countOf 2 (some .int) (rmd 1) 0 0 cA ad [.ref (ad r 0), .int how] ex (m_pl M r P) (Qe (some (.int (f_countOf P how))) ex (m_pl M r P)) := by
  refine c_of_r (lv0 := [some (.ref (ad r 0)), some (.int how)]) rfl (by decide +kernel) (Nat.le_of_ble_eq_true rfl) rfl ?_
  refine r_aload_n dX4_countOf_0 rfl ?_
  refine r_iload_n dX4_countOf_1 rfl ?_
  refine r_cVi dX4_countOf_2 (K_setOf (by assumption) hc hc2) gX4_countOf_2 dcX4_setOf rfl rfl rfl (by decide) (ob_pl (by assumption)) ?_
  refine r_cSi dX4_countOf_5 (K_bc) gX4_countOf_5 dcJ6_bitCount_0f7a4 rfl rfl rfl (by decide) ?_
  exact r_ret rfl rfl dX4_countOf_8 rfl rfl
theorem dX4_isReady_0 : decode cX4_isReady 0 = .ok (.aload_n 0, 1) := by decide +kernel
theorem dX4_isReady_1 : decode cX4_isReady 1 = .ok (.getfield 11, 3) := by decide +kernel
theorem dX4_isReady_4 : decode cX4_isReady 4 = .ok (.iload_n 1, 1) := by decide +kernel
theorem dX4_isReady_5 : decode cX4_isReady 5 = .ok (.aaload, 1) := by decide +kernel
theorem dX4_isReady_6 : decode cX4_isReady 6 = .ok (.astore_n 3, 1) := by decide +kernel
theorem dX4_isReady_7 : decode cX4_isReady 7 = .ok (.aload_n 3, 1) := by decide +kernel
theorem dX4_isReady_8 : decode cX4_isReady 8 = .ok (.getfield 109, 3) := by decide +kernel
theorem dX4_isReady_11 : decode cX4_isReady 11 = .ok (.ifCond .ne 5, 3) := by decide +kernel
theorem dX4_isReady_14 : decode cX4_isReady 14 = .ok (.iconst 1, 1) := by decide +kernel
theorem dX4_isReady_15 : decode cX4_isReady 15 = .ok (.ireturn, 1) := by decide +kernel
theorem dX4_isReady_16 : decode cX4_isReady 16 = .ok (.aload_n 3, 1) := by decide +kernel
theorem dX4_isReady_17 : decode cX4_isReady 17 = .ok (.getfield 112, 3) := by decide +kernel
theorem dX4_isReady_20 : decode cX4_isReady 20 = .ok (.ifCond .eq 20, 3) := by decide +kernel
theorem dX4_isReady_23 : decode cX4_isReady 23 = .ok (.aload_n 3, 1) := by decide +kernel
theorem dX4_isReady_24 : decode cX4_isReady 24 = .ok (.getfield 109, 3) := by decide +kernel
theorem dX4_isReady_27 : decode cX4_isReady 27 = .ok (.iload_n 2, 1) := by decide +kernel
theorem dX4_isReady_28 : decode cX4_isReady 28 = .ok (.iand, 1) := by decide +kernel
theorem dX4_isReady_29 : decode cX4_isReady 29 = .ok (.ifCond .eq 7, 3) := by decide +kernel
theorem dX4_isReady_32 : decode cX4_isReady 32 = .ok (.iconst 1, 1) := by decide +kernel
theorem dX4_isReady_33 : decode cX4_isReady 33 = .ok (.goto 23, 3) := by decide +kernel
theorem dX4_isReady_36 : decode cX4_isReady 36 = .ok (.iconst 0, 1) := by decide +kernel
theorem dX4_isReady_37 : decode cX4_isReady 37 = .ok (.goto 19, 3) := by decide +kernel
theorem dX4_isReady_40 : decode cX4_isReady 40 = .ok (.aload_n 3, 1) := by decide +kernel
theorem dX4_isReady_41 : decode cX4_isReady 41 = .ok (.getfield 109, 3) := by decide +kernel
theorem dX4_isReady_44 : decode cX4_isReady 44 = .ok (.iload_n 2, 1) := by decide +kernel
theorem dX4_isReady_45 : decode cX4_isReady 45 = .ok (.iconst (-1), 1) := by decide +kernel
theorem dX4_isReady_46 : decode cX4_isReady 46 = .ok (.ixor, 1) := by decide +kernel
theorem dX4_isReady_47 : decode cX4_isReady 47 = .ok (.iand, 1) := by decide +kernel
theorem dX4_isReady_48 : decode cX4_isReady 48 = .ok (.ifCond .ne 7, 3) := by decide +kernel
theorem dX4_isReady_51 : decode cX4_isReady 51 = .ok (.iconst 1, 1) := by decide +kernel
theorem dX4_isReady_52 : decode cX4_isReady 52 = .ok (.goto 4, 3) := by decide +kernel
theorem dX4_isReady_55 : decode cX4_isReady 55 = .ok (.iconst 0, 1) := by decide +kernel
theorem dX4_isReady_56 : decode cX4_isReady 56 = .ok (.ireturn, 1) := by decide +kernel
theorem dcX4_isReady : yX4_isReady.cls = RX4 ∧ yX4_isReady.cls ≠ "java/lang/invoke/MethodHandle" ∧ yX4_isReady.cls ≠ "java/lang/invoke/VarHandle" ∧ (parseMethodDescriptor yX4_isReady.desc).map (fun d => d.parameters.length) = some 2 := by decide +kernel
set_option maxRecDepth 100000 in
set_option maxHeartbeats 4000000 in
theorem K_isReady {cA : Nat → ClassId} {ad : tA} {ex : va_W} {M : tM} {r : Nat} {P : tP} {i : Nat} {d : Int32} (hr : isPlan r) (hi : i < 12) : Cj yX4_isReady cX4_isReady 4 (some .boolean) (rmd 0) 0 0 cA ad [.ref (ad r 0), .int (nI i), .int d] ex (m_pl M r P) (Qe (some (.int (bI (f_isReady (P (4 + i)) d)))) ex (m_pl M r P)) := by
  refine c_of_r (lv0 := [some (.ref (ad r 0)), some (.int (nI i)), some (.int d), none]) rfl (by decide +kernel) (Nat.le_of_ble_eq_true rfl) rfl ?_
  refine r_aload_n dX4_isReady_0 rfl ?_
  refine r_getp_pl (by assumption) 0 (by decide) q38 rfl dX4_isReady_1 ?_
  refine r_iload_n dX4_isReady_4 rfl ?_
  refine r_aldp_steps (by assumption) rfl (by omega) dX4_isReady_5 ?_
  refine r_astore_n dX4_isReady_6 (by decide) rfl ?_
  refine r_aload_n dX4_isReady_7 rfl ?_
  refine r_getp_st (by assumption) (by omega) 4 (by decide) q325 rfl dX4_isReady_8 ?_
  refine r_if_ne (tgt := 16) dX4_isReady_11 (by decide) (fun c11 => ?_) (fun c11 => ?_)
  · refine r_aload_n dX4_isReady_16 rfl ?_
    refine r_getp_st (by assumption) (by omega) 3 (by decide) q403 rfl dX4_isReady_17 ?_
    refine r_if_eq (tgt := 40) dX4_isReady_20 (by decide) (fun c20 => ?_) (fun c20 => ?_)
    · refine r_aload_n dX4_isReady_40 rfl ?_
      refine r_getp_st (by assumption) (by omega) 4 (by decide) q325 rfl dX4_isReady_41 ?_
      refine r_iload_n dX4_isReady_44 rfl ?_
      refine r_iconst (v := -1) dX4_isReady_45 (by decide) ?_
      refine r_ixor dX4_isReady_46 ?_
      refine r_iand dX4_isReady_47 ?_
      refine r_if_ne (tgt := 55) dX4_isReady_48 (by decide) (fun c48 => ?_) (fun c48 => ?_)
      · refine r_iconst (v := 0) dX4_isReady_55 (by decide) ?_
        exact r_ret rfl rfl dX4_isReady_56 (by first | (simp [f_isReady, bI, *]; done) | simp_all [f_isReady, bI]) rfl
      · refine r_iconst (v := 1) dX4_isReady_51 (by decide) ?_
        refine r_goto (tgt := 56) dX4_isReady_52 (by decide) ?_
        exact r_ret rfl rfl dX4_isReady_56 (by first | (simp [f_isReady, bI, *]; done) | simp_all [f_isReady, bI]) rfl
    · refine r_aload_n dX4_isReady_23 rfl ?_
      refine r_getp_st (by assumption) (by omega) 4 (by decide) q325 rfl dX4_isReady_24 ?_
      refine r_iload_n dX4_isReady_27 rfl ?_
      refine r_iand dX4_isReady_28 ?_
      refine r_if_eq (tgt := 36) dX4_isReady_29 (by decide) (fun c29 => ?_) (fun c29 => ?_)
      · refine r_iconst (v := 0) dX4_isReady_36 (by decide) ?_
        refine r_goto (tgt := 56) dX4_isReady_37 (by decide) ?_
        exact r_ret rfl rfl dX4_isReady_56 (by first | (simp [f_isReady, bI, *]; done) | simp_all [f_isReady, bI]) rfl
      · refine r_iconst (v := 1) dX4_isReady_32 (by decide) ?_
        refine r_goto (tgt := 56) dX4_isReady_33 (by decide) ?_
        exact r_ret rfl rfl dX4_isReady_56 (by first | (simp [f_isReady, bI, *]; done) | simp_all [f_isReady, bI]) rfl
  · refine r_iconst (v := 1) dX4_isReady_14 (by decide) ?_
    exact r_ret rfl rfl dX4_isReady_15 (by first | (simp [f_isReady, bI, *]; done) | simp_all [f_isReady, bI]) rfl
theorem dX4_isHopeless_0 : decode cX4_isHopeless 0 = .ok (.aload_n 0, 1) := by decide +kernel
theorem dX4_isHopeless_1 : decode cX4_isHopeless 1 = .ok (.getfield 11, 3) := by decide +kernel
theorem dX4_isHopeless_4 : decode cX4_isHopeless 4 = .ok (.iload_n 1, 1) := by decide +kernel
theorem dX4_isHopeless_5 : decode cX4_isHopeless 5 = .ok (.aaload, 1) := by decide +kernel
theorem dX4_isHopeless_6 : decode cX4_isHopeless 6 = .ok (.astore_n 3, 1) := by decide +kernel
theorem dX4_isHopeless_7 : decode cX4_isHopeless 7 = .ok (.aload_n 3, 1) := by decide +kernel
theorem dX4_isHopeless_8 : decode cX4_isHopeless 8 = .ok (.invokevirtual 116, 3) := by decide +kernel
theorem dX4_isHopeless_11 : decode cX4_isHopeless 11 = .ok (.ifCond .eq 18, 3) := by decide +kernel
theorem dX4_isHopeless_14 : decode cX4_isHopeless 14 = .ok (.aload_n 3, 1) := by decide +kernel
theorem dX4_isHopeless_15 : decode cX4_isHopeless 15 = .ok (.getfield 84, 3) := by decide +kernel
theorem dX4_isHopeless_18 : decode cX4_isHopeless 18 = .ok (.iconst 1, 1) := by decide +kernel
theorem dX4_isHopeless_19 : decode cX4_isHopeless 19 = .ok (.if_icmp .eq 10, 3) := by decide +kernel
theorem dX4_isHopeless_22 : decode cX4_isHopeless 22 = .ok (.aload_n 3, 1) := by decide +kernel
theorem dX4_isHopeless_23 : decode cX4_isHopeless 23 = .ok (.getfield 109, 3) := by decide +kernel
theorem dX4_isHopeless_26 : decode cX4_isHopeless 26 = .ok (.ifCond .ne 5, 3) := by decide +kernel
theorem dX4_isHopeless_29 : decode cX4_isHopeless 29 = .ok (.iconst 0, 1) := by decide +kernel
theorem dX4_isHopeless_30 : decode cX4_isHopeless 30 = .ok (.ireturn, 1) := by decide +kernel
theorem dX4_isHopeless_31 : decode cX4_isHopeless 31 = .ok (.aload_n 3, 1) := by decide +kernel
theorem dX4_isHopeless_32 : decode cX4_isHopeless 32 = .ok (.getfield 112, 3) := by decide +kernel
theorem dX4_isHopeless_35 : decode cX4_isHopeless 35 = .ok (.ifCond .eq 22, 3) := by decide +kernel
theorem dX4_isHopeless_38 : decode cX4_isHopeless 38 = .ok (.aload_n 3, 1) := by decide +kernel
theorem dX4_isHopeless_39 : decode cX4_isHopeless 39 = .ok (.getfield 109, 3) := by decide +kernel
theorem dX4_isHopeless_42 : decode cX4_isHopeless 42 = .ok (.iload_n 2, 1) := by decide +kernel
theorem dX4_isHopeless_43 : decode cX4_isHopeless 43 = .ok (.iconst (-1), 1) := by decide +kernel
theorem dX4_isHopeless_44 : decode cX4_isHopeless 44 = .ok (.ixor, 1) := by decide +kernel
theorem dX4_isHopeless_45 : decode cX4_isHopeless 45 = .ok (.iand, 1) := by decide +kernel
theorem dX4_isHopeless_46 : decode cX4_isHopeless 46 = .ok (.ifCond .ne 7, 3) := by decide +kernel
theorem dX4_isHopeless_49 : decode cX4_isHopeless 49 = .ok (.iconst 1, 1) := by decide +kernel
theorem dX4_isHopeless_50 : decode cX4_isHopeless 50 = .ok (.goto 21, 3) := by decide +kernel
theorem dX4_isHopeless_53 : decode cX4_isHopeless 53 = .ok (.iconst 0, 1) := by decide +kernel
theorem dX4_isHopeless_54 : decode cX4_isHopeless 54 = .ok (.goto 17, 3) := by decide +kernel
theorem dX4_isHopeless_57 : decode cX4_isHopeless 57 = .ok (.aload_n 3, 1) := by decide +kernel
theorem dX4_isHopeless_58 : decode cX4_isHopeless 58 = .ok (.getfield 109, 3) := by decide +kernel
theorem dX4_isHopeless_61 : decode cX4_isHopeless 61 = .ok (.iload_n 2, 1) := by decide +kernel
theorem dX4_isHopeless_62 : decode cX4_isHopeless 62 = .ok (.iand, 1) := by decide +kernel
theorem dX4_isHopeless_63 : decode cX4_isHopeless 63 = .ok (.ifCond .eq 7, 3) := by decide +kernel
theorem dX4_isHopeless_66 : decode cX4_isHopeless 66 = .ok (.iconst 1, 1) := by decide +kernel
theorem dX4_isHopeless_67 : decode cX4_isHopeless 67 = .ok (.goto 4, 3) := by decide +kernel
theorem dX4_isHopeless_70 : decode cX4_isHopeless 70 = .ok (.iconst 0, 1) := by decide +kernel
theorem dX4_isHopeless_71 : decode cX4_isHopeless 71 = .ok (.ireturn, 1) := by decide +kernel
theorem dcX4_isHopeless : yX4_isHopeless.cls = RX4 ∧ yX4_isHopeless.cls ≠ "java/lang/invoke/MethodHandle" ∧ yX4_isHopeless.cls ≠ "java/lang/invoke/VarHandle" ∧ (parseMethodDescriptor yX4_isHopeless.desc).map (fun d => d.parameters.length) = some 2 := by decide +kernel
theorem gX4_isHopeless_8 : GoodIn wsL_law (wsV RX4 116 RX5 yX5_isOpen (.code yX5_isOpen cX5_isOpen 1 (some .boolean) :: wsL_law)) := g_V q347 q333 q334 q44 q335
set_option maxRecDepth 100000 in
set_option maxHeartbeats 4000000 in
theorem K_isHopeless {cA : Nat → ClassId} {ad : tA} {ex : va_W} {M : tM} {r : Nat} {P : tP} {i : Nat} {d : Int32} (hr : isPlan r) (hi : i < 12) : Cj yX4_isHopeless cX4_isHopeless 4 (some .boolean) (rmd 1) 0 0 cA ad [.ref (ad r 0), .int (nI i), .int d] ex (m_pl M r P) (Qe (some (.int (bI (f_isHopeless (P (4 + i)) d)))) ex (m_pl M r P)) := by
  refine c_of_r (lv0 := [some (.ref (ad r 0)), some (.int (nI i)), some (.int d), none]) rfl (by decide +kernel) (Nat.le_of_ble_eq_true rfl) rfl ?_
  refine r_aload_n dX4_isHopeless_0 rfl ?_
  refine r_getp_pl (by assumption) 0 (by decide) q38 rfl dX4_isHopeless_1 ?_
  refine r_iload_n dX4_isHopeless_4 rfl ?_
  refine r_aldp_steps (by assumption) rfl (by omega) dX4_isHopeless_5 ?_
  refine r_astore_n dX4_isHopeless_6 (by decide) rfl ?_
  refine r_aload_n dX4_isHopeless_7 rfl ?_
  refine r_cVi dX4_isHopeless_8 (K_isOpen (i := i) (by assumption) (by omega)) gX4_isHopeless_8 dcX5_isOpen rfl rfl rfl (by decide) (ob_st (by assumption) (by omega)) ?_
  refine r_if_eq (tgt := 29) dX4_isHopeless_11 (by decide) (fun c11 => ?_) (fun c11 => ?_)
  · have c11b := bI_0 c11
    refine r_iconst (v := 0) dX4_isHopeless_29 (by decide) ?_
    exact r_ret rfl rfl dX4_isHopeless_30 (by first | (simp [f_isHopeless, bI, *]; done) | simp_all [f_isHopeless, bI]) rfl
  · have c11b := bI_1 c11
    refine r_aload_n dX4_isHopeless_14 rfl ?_
    refine r_getp_st (by assumption) (by omega) 6 (by decide) q168 rfl dX4_isHopeless_15 ?_
    refine r_iconst (v := 1) dX4_isHopeless_18 (by decide) ?_
    refine r_icmp_eq (tgt := 29) dX4_isHopeless_19 (by decide) (fun c19 => ?_) (fun c19 => ?_)
    · refine r_iconst (v := 0) dX4_isHopeless_29 (by decide) ?_
      exact r_ret rfl rfl dX4_isHopeless_30 (by first | (simp [f_isHopeless, bI, *]; done) | simp_all [f_isHopeless, bI]) rfl
    · refine r_aload_n dX4_isHopeless_22 rfl ?_
      refine r_getp_st (by assumption) (by omega) 4 (by decide) q325 rfl dX4_isHopeless_23 ?_
      refine r_if_ne (tgt := 31) dX4_isHopeless_26 (by decide) (fun c26 => ?_) (fun c26 => ?_)
      · refine r_aload_n dX4_isHopeless_31 rfl ?_
        refine r_getp_st (by assumption) (by omega) 3 (by decide) q403 rfl dX4_isHopeless_32 ?_
        refine r_if_eq (tgt := 57) dX4_isHopeless_35 (by decide) (fun c35 => ?_) (fun c35 => ?_)
        · refine r_aload_n dX4_isHopeless_57 rfl ?_
          refine r_getp_st (by assumption) (by omega) 4 (by decide) q325 rfl dX4_isHopeless_58 ?_
          refine r_iload_n dX4_isHopeless_61 rfl ?_
          refine r_iand dX4_isHopeless_62 ?_
          refine r_if_eq (tgt := 70) dX4_isHopeless_63 (by decide) (fun c63 => ?_) (fun c63 => ?_)
          · refine r_iconst (v := 0) dX4_isHopeless_70 (by decide) ?_
            exact r_ret rfl rfl dX4_isHopeless_71 (by first | (simp [f_isHopeless, bI, *]; done) | simp_all [f_isHopeless, bI]) rfl
          · refine r_iconst (v := 1) dX4_isHopeless_66 (by decide) ?_
            refine r_goto (tgt := 71) dX4_isHopeless_67 (by decide) ?_
            exact r_ret rfl rfl dX4_isHopeless_71 (by first | (simp [f_isHopeless, bI, *]; done) | simp_all [f_isHopeless, bI]) rfl
        · refine r_aload_n dX4_isHopeless_38 rfl ?_
          refine r_getp_st (by assumption) (by omega) 4 (by decide) q325 rfl dX4_isHopeless_39 ?_
          refine r_iload_n dX4_isHopeless_42 rfl ?_
          refine r_iconst (v := -1) dX4_isHopeless_43 (by decide) ?_
          refine r_ixor dX4_isHopeless_44 ?_
          refine r_iand dX4_isHopeless_45 ?_
          refine r_if_ne (tgt := 53) dX4_isHopeless_46 (by decide) (fun c46 => ?_) (fun c46 => ?_)
          · refine r_iconst (v := 0) dX4_isHopeless_53 (by decide) ?_
            refine r_goto (tgt := 71) dX4_isHopeless_54 (by decide) ?_
            exact r_ret rfl rfl dX4_isHopeless_71 (by first | (simp [f_isHopeless, bI, *]; done) | simp_all [f_isHopeless, bI]) rfl
          · refine r_iconst (v := 1) dX4_isHopeless_49 (by decide) ?_
            refine r_goto (tgt := 71) dX4_isHopeless_50 (by decide) ?_
            exact r_ret rfl rfl dX4_isHopeless_71 (by first | (simp [f_isHopeless, bI, *]; done) | simp_all [f_isHopeless, bI]) rfl
      · refine r_iconst (v := 0) dX4_isHopeless_29 (by decide) ?_
        exact r_ret rfl rfl dX4_isHopeless_30 (by first | (simp [f_isHopeless, bI, *]; done) | simp_all [f_isHopeless, bI]) rfl
theorem dX4_lowestHopeless_0 : decode cX4_lowestHopeless 0 = .ok (.iconst 0, 1) := by decide +kernel
theorem dX4_lowestHopeless_1 : decode cX4_lowestHopeless 1 = .ok (.istore_n 2, 1) := by decide +kernel
theorem dX4_lowestHopeless_2 : decode cX4_lowestHopeless 2 = .ok (.iload_n 2, 1) := by decide +kernel
theorem dX4_lowestHopeless_3 : decode cX4_lowestHopeless 3 = .ok (.aload_n 0, 1) := by decide +kernel
theorem dX4_lowestHopeless_4 : decode cX4_lowestHopeless 4 = .ok (.getfield 29, 3) := by decide +kernel
theorem dX4_lowestHopeless_7 : decode cX4_lowestHopeless 7 = .ok (.if_icmp .ge 20, 3) := by decide +kernel
theorem dX4_lowestHopeless_10 : decode cX4_lowestHopeless 10 = .ok (.aload_n 0, 1) := by decide +kernel
theorem dX4_lowestHopeless_11 : decode cX4_lowestHopeless 11 = .ok (.iload_n 2, 1) := by decide +kernel
theorem dX4_lowestHopeless_12 : decode cX4_lowestHopeless 12 = .ok (.iload_n 1, 1) := by decide +kernel
theorem dX4_lowestHopeless_13 : decode cX4_lowestHopeless 13 = .ok (.invokevirtual 167, 3) := by decide +kernel
theorem dX4_lowestHopeless_16 : decode cX4_lowestHopeless 16 = .ok (.ifCond .eq 5, 3) := by decide +kernel
theorem dX4_lowestHopeless_19 : decode cX4_lowestHopeless 19 = .ok (.iload_n 2, 1) := by decide +kernel
theorem dX4_lowestHopeless_20 : decode cX4_lowestHopeless 20 = .ok (.ireturn, 1) := by decide +kernel
theorem dX4_lowestHopeless_21 : decode cX4_lowestHopeless 21 = .ok (.iinc 2 1, 3) := by decide +kernel
theorem dX4_lowestHopeless_24 : decode cX4_lowestHopeless 24 = .ok (.goto (-22), 3) := by decide +kernel
theorem dX4_lowestHopeless_27 : decode cX4_lowestHopeless 27 = .ok (.iconst (-1), 1) := by decide +kernel
theorem dX4_lowestHopeless_28 : decode cX4_lowestHopeless 28 = .ok (.ireturn, 1) := by decide +kernel
theorem dcX4_lowestHopeless : yX4_lowestHopeless.cls = RX4 ∧ yX4_lowestHopeless.cls ≠ "java/lang/invoke/MethodHandle" ∧ yX4_lowestHopeless.cls ≠ "java/lang/invoke/VarHandle" ∧ (parseMethodDescriptor yX4_lowestHopeless.desc).map (fun d => d.parameters.length) = some 1 := by decide +kernel
theorem gX4_lowestHopeless_13 : GoodIn wsL_law (wsV RX4 167 RX4 yX4_isHopeless (.code yX4_isHopeless cX4_isHopeless 4 (some .boolean) :: wsL_law)) := g_V q399 q400 q401 q16 q402
set_option maxRecDepth 100000 in
set_option maxHeartbeats 4000000 in
theorem K_lowH {cA : Nat → ClassId} {ad : tA} {ex : va_W} {M : tM} {r : Nat} {P : tP} {d : Int32} {c : Nat} (hr : isPlan r) (hc : P 0 1 = nI c) (hc2 : c ≤ 12) : Cj yX4_lowestHopeless cX4_lowestHopeless 3 (some .int) (rmd 2) 0 0 cA ad [.ref (ad r 0), .int d] ex (m_pl M r P) (Qe (some (.int (f_lowH P d))) ex (m_pl M r P)) := by
  refine c_of_r (lv0 := [some (.ref (ad r 0)), some (.int d), none]) rfl (by decide +kernel) (Nat.le_of_ble_eq_true rfl) rfl ?_
  have L : ∀ (n i : Nat) , i + n = c → Rj cX4_lowestHopeless RX4 3 (some .int) (rmd 2) 0 0 cA ad (Qe (some (.int (lp_lowH P d n i))) ex (m_pl M r P)) ex 0 0 2 [some (.ref (ad r 0)), some (.int d), some (.int (nI i))] [] (m_pl M r P) := by
    intro n
    induction n with
    | zero =>
      intro i  h
      refine r_iload_n dX4_lowestHopeless_2 rfl ?_
      refine r_aload_n dX4_lowestHopeless_3 rfl ?_
      refine r_getp_pl (by assumption) 1 (by decide) q80 rfl dX4_lowestHopeless_4 ?_
      refine r_icmp_ge (tgt := 27) dX4_lowestHopeless_7 (by decide) (fun c7 => ?_) (fun c7 => absurd (lp_z hc h) c7)
      refine r_iconst (v := -1) dX4_lowestHopeless_27 (by decide) ?_
      exact r_ret rfl rfl dX4_lowestHopeless_28 rfl rfl
    | succ n ih =>
      intro i  h
      refine r_iload_n dX4_lowestHopeless_2 rfl ?_
      refine r_aload_n dX4_lowestHopeless_3 rfl ?_
      refine r_getp_pl (by assumption) 1 (by decide) q80 rfl dX4_lowestHopeless_4 ?_
      refine r_icmp_ge (tgt := 27) dX4_lowestHopeless_7 (by decide) (fun c7 => absurd c7 (lp_s hc hc2 h)) (fun c7 => ?_)
      refine r_aload_n dX4_lowestHopeless_10 rfl ?_
      refine r_iload_n dX4_lowestHopeless_11 rfl ?_
      refine r_iload_n dX4_lowestHopeless_12 rfl ?_
      refine r_cVi dX4_lowestHopeless_13 (K_isHopeless (i := i) (by assumption) (by omega)) gX4_lowestHopeless_13 dcX4_isHopeless rfl rfl rfl (by decide) (ob_pl (by assumption)) ?_
      refine r_if_eq (tgt := 21) dX4_lowestHopeless_16 (by decide) (fun c16 => ?_) (fun c16 => ?_)
      · rw [lp_lowH, bI_0 c16, if_neg (by decide)]
        refine r_iinc dX4_lowestHopeless_21 rfl ii_s (by decide) rfl ?_
        refine r_goto (tgt := 2) dX4_lowestHopeless_24 (by decide) ?_
        exact ih (i + 1)  (by omega)
      · rw [lp_lowH, bI_1 c16, if_pos rfl]
        refine r_iload_n dX4_lowestHopeless_19 rfl ?_
        exact r_ret rfl rfl dX4_lowestHopeless_20 rfl rfl
  refine r_iconst (v := 0) dX4_lowestHopeless_0 (by decide) ?_
  refine r_istore_n dX4_lowestHopeless_1 (by decide) rfl ?_
  rw [f_lowH, cn_of hc hc2]; exact L c 0 (by omega)
theorem dX4_firstToUndo_0 : decode cX4_firstToUndo 0 = .ok (.iconst (-1), 1) := by decide +kernel
theorem dX4_firstToUndo_1 : decode cX4_firstToUndo 1 = .ok (.istore_n 2, 1) := by decide +kernel
theorem dX4_firstToUndo_2 : decode cX4_firstToUndo 2 = .ok (.iconst (-1), 1) := by decide +kernel
theorem dX4_firstToUndo_3 : decode cX4_firstToUndo 3 = .ok (.istore_n 3, 1) := by decide +kernel
theorem dX4_firstToUndo_4 : decode cX4_firstToUndo 4 = .ok (.iconst 0, 1) := by decide +kernel
theorem dX4_firstToUndo_5 : decode cX4_firstToUndo 5 = .ok (.istore 4, 2) := by decide +kernel
theorem dX4_firstToUndo_7 : decode cX4_firstToUndo 7 = .ok (.iload 4, 2) := by decide +kernel
theorem dX4_firstToUndo_9 : decode cX4_firstToUndo 9 = .ok (.aload_n 0, 1) := by decide +kernel
theorem dX4_firstToUndo_10 : decode cX4_firstToUndo 10 = .ok (.getfield 29, 3) := by decide +kernel
theorem dX4_firstToUndo_13 : decode cX4_firstToUndo 13 = .ok (.if_icmp .ge 54, 3) := by decide +kernel
theorem dX4_firstToUndo_16 : decode cX4_firstToUndo 16 = .ok (.aload_n 0, 1) := by decide +kernel
theorem dX4_firstToUndo_17 : decode cX4_firstToUndo 17 = .ok (.getfield 11, 3) := by decide +kernel
theorem dX4_firstToUndo_20 : decode cX4_firstToUndo 20 = .ok (.iload 4, 2) := by decide +kernel
theorem dX4_firstToUndo_22 : decode cX4_firstToUndo 22 = .ok (.aaload, 1) := by decide +kernel
theorem dX4_firstToUndo_23 : decode cX4_firstToUndo 23 = .ok (.astore 5, 2) := by decide +kernel
theorem dX4_firstToUndo_25 : decode cX4_firstToUndo 25 = .ok (.aload 5, 2) := by decide +kernel
theorem dX4_firstToUndo_27 : decode cX4_firstToUndo 27 = .ok (.getfield 84, 3) := by decide +kernel
theorem dX4_firstToUndo_30 : decode cX4_firstToUndo 30 = .ok (.iconst 4, 1) := by decide +kernel
theorem dX4_firstToUndo_31 : decode cX4_firstToUndo 31 = .ok (.if_icmp .ne 30, 3) := by decide +kernel
theorem dX4_firstToUndo_34 : decode cX4_firstToUndo 34 = .ok (.aload 5, 2) := by decide +kernel
theorem dX4_firstToUndo_36 : decode cX4_firstToUndo 36 = .ok (.getfield 129, 3) := by decide +kernel
theorem dX4_firstToUndo_39 : decode cX4_firstToUndo 39 = .ok (.iload_n 1, 1) := by decide +kernel
theorem dX4_firstToUndo_40 : decode cX4_firstToUndo 40 = .ok (.if_icmp .ne 21, 3) := by decide +kernel
theorem dX4_firstToUndo_43 : decode cX4_firstToUndo 43 = .ok (.aload 5, 2) := by decide +kernel
theorem dX4_firstToUndo_45 : decode cX4_firstToUndo 45 = .ok (.getfield 87, 3) := by decide +kernel
theorem dX4_firstToUndo_48 : decode cX4_firstToUndo 48 = .ok (.iload_n 3, 1) := by decide +kernel
theorem dX4_firstToUndo_49 : decode cX4_firstToUndo 49 = .ok (.if_icmp .lt 12, 3) := by decide +kernel
theorem dX4_firstToUndo_52 : decode cX4_firstToUndo 52 = .ok (.iload 4, 2) := by decide +kernel
theorem dX4_firstToUndo_54 : decode cX4_firstToUndo 54 = .ok (.istore_n 2, 1) := by decide +kernel
theorem dX4_firstToUndo_55 : decode cX4_firstToUndo 55 = .ok (.aload 5, 2) := by decide +kernel
theorem dX4_firstToUndo_57 : decode cX4_firstToUndo 57 = .ok (.getfield 87, 3) := by decide +kernel
theorem dX4_firstToUndo_60 : decode cX4_firstToUndo 60 = .ok (.istore_n 3, 1) := by decide +kernel
theorem dX4_firstToUndo_61 : decode cX4_firstToUndo 61 = .ok (.iinc 4 1, 3) := by decide +kernel
theorem dX4_firstToUndo_64 : decode cX4_firstToUndo 64 = .ok (.goto (-57), 3) := by decide +kernel
theorem dX4_firstToUndo_67 : decode cX4_firstToUndo 67 = .ok (.iload_n 2, 1) := by decide +kernel
theorem dX4_firstToUndo_68 : decode cX4_firstToUndo 68 = .ok (.ireturn, 1) := by decide +kernel
theorem dcX4_firstToUndo : yX4_firstToUndo.cls = RX4 ∧ yX4_firstToUndo.cls ≠ "java/lang/invoke/MethodHandle" ∧ yX4_firstToUndo.cls ≠ "java/lang/invoke/VarHandle" ∧ (parseMethodDescriptor yX4_firstToUndo.desc).map (fun d => d.parameters.length) = some 1 := by decide +kernel
set_option maxRecDepth 100000 in
set_option maxHeartbeats 4000000 in
theorem K_ftu {cA : Nat → ClassId} {ad : tA} {ex : va_W} {M : tM} {r : Nat} {P : tP} {b : Int32} {c : Nat} (hr : isPlan r) (hc : P 0 1 = nI c) (hc2 : c ≤ 12) : Cj yX4_firstToUndo cX4_firstToUndo 6 (some .int) (rmd 0) 0 0 cA ad [.ref (ad r 0), .int b] ex (m_pl M r P) (Qe (some (.int (f_ftu P b))) ex (m_pl M r P)) := by
  refine c_of_r (lv0 := [some (.ref (ad r 0)), some (.int b), none, none, none, none]) rfl (by decide +kernel) (Nat.le_of_ble_eq_true rfl) rfl ?_
  have L : ∀ (n i : Nat) (x y : Int32), i + n = c → Rj cX4_firstToUndo RX4 6 (some .int) (rmd 0) 0 0 cA ad (Qe (some (.int (lp_ftu P b n i x y))) ex (m_pl M r P)) ex 0 0 7 [some (.ref (ad r 0)), some (.int b), some (.int x), some (.int y), some (.int (nI i)), none] [] (m_pl M r P) := by
    intro n
    induction n with
    | zero =>
      intro i x y h
      refine r_iload dX4_firstToUndo_7 rfl ?_
      refine r_aload_n dX4_firstToUndo_9 rfl ?_
      refine r_getp_pl (by assumption) 1 (by decide) q80 rfl dX4_firstToUndo_10 ?_
      refine r_icmp_ge (tgt := 67) dX4_firstToUndo_13 (by decide) (fun c13 => ?_) (fun c13 => absurd (lp_z hc h) c13)
      refine r_iload_n dX4_firstToUndo_67 rfl ?_
      exact r_ret rfl rfl dX4_firstToUndo_68 rfl rfl
    | succ n ih =>
      intro i x y h
      refine r_iload dX4_firstToUndo_7 rfl ?_
      refine r_aload_n dX4_firstToUndo_9 rfl ?_
      refine r_getp_pl (by assumption) 1 (by decide) q80 rfl dX4_firstToUndo_10 ?_
      refine r_icmp_ge (tgt := 67) dX4_firstToUndo_13 (by decide) (fun c13 => absurd c13 (lp_s hc hc2 h)) (fun c13 => ?_)
      refine r_aload_n dX4_firstToUndo_16 rfl ?_
      refine r_getp_pl (by assumption) 0 (by decide) q38 rfl dX4_firstToUndo_17 ?_
      refine r_iload dX4_firstToUndo_20 rfl ?_
      refine r_aldp_steps (by assumption) rfl (by omega) dX4_firstToUndo_22 ?_
      refine r_astore dX4_firstToUndo_23 (by decide) rfl ?_
      refine r_aload dX4_firstToUndo_25 rfl ?_
      refine r_getp_st (by assumption) (by omega) 6 (by decide) q168 rfl dX4_firstToUndo_27 ?_
      refine r_iconst (v := 4) dX4_firstToUndo_30 (by decide) ?_
      refine r_icmp_ne (tgt := 61) dX4_firstToUndo_31 (by decide) (fun c31 => ?_) (fun c31 => ?_)
      · rw [lp_ftu, if_neg (fun h => c31 h.1)]
        refine r_iinc dX4_firstToUndo_61 rfl ii_s (by decide) rfl ?_
        refine r_goto (tgt := 7) dX4_firstToUndo_64 (by decide) ?_
        refine r_fgt 5 ?_
        exact ih (i + 1) _ _ (by omega)
      · refine r_aload dX4_firstToUndo_34 rfl ?_
        refine r_getp_st (by assumption) (by omega) 2 (by decide) q345 rfl dX4_firstToUndo_36 ?_
        refine r_iload_n dX4_firstToUndo_39 rfl ?_
        refine r_icmp_ne (tgt := 61) dX4_firstToUndo_40 (by decide) (fun c40 => ?_) (fun c40 => ?_)
        · rw [lp_ftu, if_neg (fun h => c40 h.2.1)]
          refine r_iinc dX4_firstToUndo_61 rfl ii_s (by decide) rfl ?_
          refine r_goto (tgt := 7) dX4_firstToUndo_64 (by decide) ?_
          refine r_fgt 5 ?_
          exact ih (i + 1) _ _ (by omega)
        · refine r_aload dX4_firstToUndo_43 rfl ?_
          refine r_getp_st (by assumption) (by omega) 10 (by decide) q371 rfl dX4_firstToUndo_45 ?_
          refine r_iload_n dX4_firstToUndo_48 rfl ?_
          refine r_icmp_lt (tgt := 61) dX4_firstToUndo_49 (by decide) (fun c49 => ?_) (fun c49 => ?_)
          · rw [lp_ftu, if_neg (fun h => h.2.2 c49)]
            refine r_iinc dX4_firstToUndo_61 rfl ii_s (by decide) rfl ?_
            refine r_goto (tgt := 7) dX4_firstToUndo_64 (by decide) ?_
            refine r_fgt 5 ?_
            exact ih (i + 1) _ _ (by omega)
          · rw [lp_ftu, if_pos ⟨c31, c40, c49⟩]
            refine r_iload dX4_firstToUndo_52 rfl ?_
            refine r_istore_n dX4_firstToUndo_54 (by decide) rfl ?_
            refine r_aload dX4_firstToUndo_55 rfl ?_
            refine r_getp_st (by assumption) (by omega) 10 (by decide) q371 rfl dX4_firstToUndo_57 ?_
            refine r_istore_n dX4_firstToUndo_60 (by decide) rfl ?_
            refine r_iinc dX4_firstToUndo_61 rfl ii_s (by decide) rfl ?_
            refine r_goto (tgt := 7) dX4_firstToUndo_64 (by decide) ?_
            refine r_fgt 5 ?_
            exact ih (i + 1) _ _ (by omega)
  refine r_iconst (v := -1) dX4_firstToUndo_0 (by decide) ?_
  refine r_istore_n dX4_firstToUndo_1 (by decide) rfl ?_
  refine r_iconst (v := -1) dX4_firstToUndo_2 (by decide) ?_
  refine r_istore_n dX4_firstToUndo_3 (by decide) rfl ?_
  refine r_iconst (v := 0) dX4_firstToUndo_4 (by decide) ?_
  refine r_istore dX4_firstToUndo_5 (by decide) rfl ?_
  rw [f_ftu, cn_of hc hc2]; exact L c 0 (-1) (-1) (by omega)
theorem dX4_firstToBegin_0 : decode cX4_firstToBegin 0 = .ok (.iconst (-1), 1) := by decide +kernel
theorem dX4_firstToBegin_1 : decode cX4_firstToBegin 1 = .ok (.istore_n 2, 1) := by decide +kernel
theorem dX4_firstToBegin_2 : decode cX4_firstToBegin 2 = .ok (.sipush 1001, 3) := by decide +kernel
theorem dX4_firstToBegin_5 : decode cX4_firstToBegin 5 = .ok (.istore_n 3, 1) := by decide +kernel
theorem dX4_firstToBegin_6 : decode cX4_firstToBegin 6 = .ok (.iconst 0, 1) := by decide +kernel
theorem dX4_firstToBegin_7 : decode cX4_firstToBegin 7 = .ok (.istore 4, 2) := by decide +kernel
theorem dX4_firstToBegin_9 : decode cX4_firstToBegin 9 = .ok (.iload 4, 2) := by decide +kernel
theorem dX4_firstToBegin_11 : decode cX4_firstToBegin 11 = .ok (.aload_n 0, 1) := by decide +kernel
theorem dX4_firstToBegin_12 : decode cX4_firstToBegin 12 = .ok (.getfield 29, 3) := by decide +kernel
theorem dX4_firstToBegin_15 : decode cX4_firstToBegin 15 = .ok (.if_icmp .ge 63, 3) := by decide +kernel
theorem dX4_firstToBegin_18 : decode cX4_firstToBegin 18 = .ok (.aload_n 0, 1) := by decide +kernel
theorem dX4_firstToBegin_19 : decode cX4_firstToBegin 19 = .ok (.getfield 11, 3) := by decide +kernel
theorem dX4_firstToBegin_22 : decode cX4_firstToBegin 22 = .ok (.iload 4, 2) := by decide +kernel
theorem dX4_firstToBegin_24 : decode cX4_firstToBegin 24 = .ok (.aaload, 1) := by decide +kernel
theorem dX4_firstToBegin_25 : decode cX4_firstToBegin 25 = .ok (.astore 5, 2) := by decide +kernel
theorem dX4_firstToBegin_27 : decode cX4_firstToBegin 27 = .ok (.aload 5, 2) := by decide +kernel
theorem dX4_firstToBegin_29 : decode cX4_firstToBegin 29 = .ok (.getfield 84, 3) := by decide +kernel
theorem dX4_firstToBegin_32 : decode cX4_firstToBegin 32 = .ok (.ifCond .eq 12, 3) := by decide +kernel
theorem dX4_firstToBegin_35 : decode cX4_firstToBegin 35 = .ok (.aload 5, 2) := by decide +kernel
theorem dX4_firstToBegin_37 : decode cX4_firstToBegin 37 = .ok (.getfield 84, 3) := by decide +kernel
theorem dX4_firstToBegin_40 : decode cX4_firstToBegin 40 = .ok (.iconst 2, 1) := by decide +kernel
theorem dX4_firstToBegin_41 : decode cX4_firstToBegin 41 = .ok (.if_icmp .ne 31, 3) := by decide +kernel
theorem dX4_firstToBegin_44 : decode cX4_firstToBegin 44 = .ok (.aload 5, 2) := by decide +kernel
theorem dX4_firstToBegin_46 : decode cX4_firstToBegin 46 = .ok (.getfield 81, 3) := by decide +kernel
theorem dX4_firstToBegin_49 : decode cX4_firstToBegin 49 = .ok (.iload_n 3, 1) := by decide +kernel
theorem dX4_firstToBegin_50 : decode cX4_firstToBegin 50 = .ok (.if_icmp .ge 22, 3) := by decide +kernel
theorem dX4_firstToBegin_53 : decode cX4_firstToBegin 53 = .ok (.aload_n 0, 1) := by decide +kernel
theorem dX4_firstToBegin_54 : decode cX4_firstToBegin 54 = .ok (.iload 4, 2) := by decide +kernel
theorem dX4_firstToBegin_56 : decode cX4_firstToBegin 56 = .ok (.iload_n 1, 1) := by decide +kernel
theorem dX4_firstToBegin_57 : decode cX4_firstToBegin 57 = .ok (.invokevirtual 176, 3) := by decide +kernel
theorem dX4_firstToBegin_60 : decode cX4_firstToBegin 60 = .ok (.ifCond .eq 12, 3) := by decide +kernel
theorem dX4_firstToBegin_63 : decode cX4_firstToBegin 63 = .ok (.iload 4, 2) := by decide +kernel
theorem dX4_firstToBegin_65 : decode cX4_firstToBegin 65 = .ok (.istore_n 2, 1) := by decide +kernel
theorem dX4_firstToBegin_66 : decode cX4_firstToBegin 66 = .ok (.aload 5, 2) := by decide +kernel
theorem dX4_firstToBegin_68 : decode cX4_firstToBegin 68 = .ok (.getfield 81, 3) := by decide +kernel
theorem dX4_firstToBegin_71 : decode cX4_firstToBegin 71 = .ok (.istore_n 3, 1) := by decide +kernel
theorem dX4_firstToBegin_72 : decode cX4_firstToBegin 72 = .ok (.iinc 4 1, 3) := by decide +kernel
theorem dX4_firstToBegin_75 : decode cX4_firstToBegin 75 = .ok (.goto (-66), 3) := by decide +kernel
theorem dX4_firstToBegin_78 : decode cX4_firstToBegin 78 = .ok (.iload_n 2, 1) := by decide +kernel
theorem dX4_firstToBegin_79 : decode cX4_firstToBegin 79 = .ok (.ireturn, 1) := by decide +kernel
theorem dcX4_firstToBegin : yX4_firstToBegin.cls = RX4 ∧ yX4_firstToBegin.cls ≠ "java/lang/invoke/MethodHandle" ∧ yX4_firstToBegin.cls ≠ "java/lang/invoke/VarHandle" ∧ (parseMethodDescriptor yX4_firstToBegin.desc).map (fun d => d.parameters.length) = some 1 := by decide +kernel
theorem gX4_firstToBegin_57 : GoodIn wsL_law (wsV RX4 176 RX4 yX4_isReady (.code yX4_isReady cX4_isReady 4 (some .boolean) :: wsL_law)) := g_V q413 q414 q415 q16 q416
set_option maxRecDepth 100000 in
set_option maxHeartbeats 4000000 in
theorem K_ftb {cA : Nat → ClassId} {ad : tA} {ex : va_W} {M : tM} {r : Nat} {P : tP} {d : Int32} {c : Nat} (hr : isPlan r) (hc : P 0 1 = nI c) (hc2 : c ≤ 12) : Cj yX4_firstToBegin cX4_firstToBegin 6 (some .int) (rmd 1) 0 0 cA ad [.ref (ad r 0), .int d] ex (m_pl M r P) (Qe (some (.int (f_ftb P d))) ex (m_pl M r P)) := by
  refine c_of_r (lv0 := [some (.ref (ad r 0)), some (.int d), none, none, none, none]) rfl (by decide +kernel) (Nat.le_of_ble_eq_true rfl) rfl ?_
  have L : ∀ (n i : Nat) (x y : Int32), i + n = c → Rj cX4_firstToBegin RX4 6 (some .int) (rmd 1) 0 0 cA ad (Qe (some (.int (lp_ftb P d n i x y))) ex (m_pl M r P)) ex 0 0 9 [some (.ref (ad r 0)), some (.int d), some (.int x), some (.int y), some (.int (nI i)), none] [] (m_pl M r P) := by
    intro n
    induction n with
    | zero =>
      intro i x y h
      refine r_iload dX4_firstToBegin_9 rfl ?_
      refine r_aload_n dX4_firstToBegin_11 rfl ?_
      refine r_getp_pl (by assumption) 1 (by decide) q80 rfl dX4_firstToBegin_12 ?_
      refine r_icmp_ge (tgt := 78) dX4_firstToBegin_15 (by decide) (fun c15 => ?_) (fun c15 => absurd (lp_z hc h) c15)
      refine r_iload_n dX4_firstToBegin_78 rfl ?_
      exact r_ret rfl rfl dX4_firstToBegin_79 rfl rfl
    | succ n ih =>
      intro i x y h
      refine r_iload dX4_firstToBegin_9 rfl ?_
      refine r_aload_n dX4_firstToBegin_11 rfl ?_
      refine r_getp_pl (by assumption) 1 (by decide) q80 rfl dX4_firstToBegin_12 ?_
      refine r_icmp_ge (tgt := 78) dX4_firstToBegin_15 (by decide) (fun c15 => absurd c15 (lp_s hc hc2 h)) (fun c15 => ?_)
      refine r_aload_n dX4_firstToBegin_18 rfl ?_
      refine r_getp_pl (by assumption) 0 (by decide) q38 rfl dX4_firstToBegin_19 ?_
      refine r_iload dX4_firstToBegin_22 rfl ?_
      refine r_aldp_steps (by assumption) rfl (by omega) dX4_firstToBegin_24 ?_
      refine r_astore dX4_firstToBegin_25 (by decide) rfl ?_
      refine r_aload dX4_firstToBegin_27 rfl ?_
      refine r_getp_st (by assumption) (by omega) 6 (by decide) q168 rfl dX4_firstToBegin_29 ?_
      refine r_if_eq (tgt := 44) dX4_firstToBegin_32 (by decide) (fun c32 => ?_) (fun c32 => ?_)
      · refine r_aload dX4_firstToBegin_44 rfl ?_
        refine r_getp_st (by assumption) (by omega) 5 (by decide) q357 rfl dX4_firstToBegin_46 ?_
        refine r_iload_n dX4_firstToBegin_49 rfl ?_
        refine r_icmp_ge (tgt := 72) dX4_firstToBegin_50 (by decide) (fun c50 => ?_) (fun c50 => ?_)
        · rw [lp_ftb, if_neg (fun h => h.2.1 c50)]
          refine r_iinc dX4_firstToBegin_72 rfl ii_s (by decide) rfl ?_
          refine r_goto (tgt := 9) dX4_firstToBegin_75 (by decide) ?_
          refine r_fgt 5 ?_
          exact ih (i + 1) _ _ (by omega)
        · refine r_aload_n dX4_firstToBegin_53 rfl ?_
          refine r_iload dX4_firstToBegin_54 rfl ?_
          refine r_iload_n dX4_firstToBegin_56 rfl ?_
          refine r_cVi dX4_firstToBegin_57 (K_isReady (i := i) (by assumption) (by omega)) gX4_firstToBegin_57 dcX4_isReady rfl rfl rfl (by decide) (ob_pl (by assumption)) ?_
          refine r_if_eq (tgt := 72) dX4_firstToBegin_60 (by decide) (fun c60 => ?_) (fun c60 => ?_)
          · rw [lp_ftb, if_neg (fun h => absurd h.2.2 (by rw [bI_0 c60]; decide))]
            refine r_iinc dX4_firstToBegin_72 rfl ii_s (by decide) rfl ?_
            refine r_goto (tgt := 9) dX4_firstToBegin_75 (by decide) ?_
            refine r_fgt 5 ?_
            exact ih (i + 1) _ _ (by omega)
          · rw [lp_ftb, if_pos ⟨by first | exact Or.inl c32 | exact Or.inr (c41), c50, bI_1 c60⟩]
            refine r_iload dX4_firstToBegin_63 rfl ?_
            refine r_istore_n dX4_firstToBegin_65 (by decide) rfl ?_
            refine r_aload dX4_firstToBegin_66 rfl ?_
            refine r_getp_st (by assumption) (by omega) 5 (by decide) q357 rfl dX4_firstToBegin_68 ?_
            refine r_istore_n dX4_firstToBegin_71 (by decide) rfl ?_
            refine r_iinc dX4_firstToBegin_72 rfl ii_s (by decide) rfl ?_
            refine r_goto (tgt := 9) dX4_firstToBegin_75 (by decide) ?_
            refine r_fgt 5 ?_
            exact ih (i + 1) _ _ (by omega)
      · refine r_aload dX4_firstToBegin_35 rfl ?_
        refine r_getp_st (by assumption) (by omega) 6 (by decide) q168 rfl dX4_firstToBegin_37 ?_
        refine r_iconst (v := 2) dX4_firstToBegin_40 (by decide) ?_
        refine r_icmp_ne (tgt := 72) dX4_firstToBegin_41 (by decide) (fun c41 => ?_) (fun c41 => ?_)
        · rw [lp_ftb, if_neg (fun h => h.1.elim c32 c41)]
          refine r_iinc dX4_firstToBegin_72 rfl ii_s (by decide) rfl ?_
          refine r_goto (tgt := 9) dX4_firstToBegin_75 (by decide) ?_
          refine r_fgt 5 ?_
          exact ih (i + 1) _ _ (by omega)
        · refine r_aload dX4_firstToBegin_44 rfl ?_
          refine r_getp_st (by assumption) (by omega) 5 (by decide) q357 rfl dX4_firstToBegin_46 ?_
          refine r_iload_n dX4_firstToBegin_49 rfl ?_
          refine r_icmp_ge (tgt := 72) dX4_firstToBegin_50 (by decide) (fun c50 => ?_) (fun c50 => ?_)
          · rw [lp_ftb, if_neg (fun h => h.2.1 c50)]
            refine r_iinc dX4_firstToBegin_72 rfl ii_s (by decide) rfl ?_
            refine r_goto (tgt := 9) dX4_firstToBegin_75 (by decide) ?_
            refine r_fgt 5 ?_
            exact ih (i + 1) _ _ (by omega)
          · refine r_aload_n dX4_firstToBegin_53 rfl ?_
            refine r_iload dX4_firstToBegin_54 rfl ?_
            refine r_iload_n dX4_firstToBegin_56 rfl ?_
            refine r_cVi dX4_firstToBegin_57 (K_isReady (i := i) (by assumption) (by omega)) gX4_firstToBegin_57 dcX4_isReady rfl rfl rfl (by decide) (ob_pl (by assumption)) ?_
            refine r_if_eq (tgt := 72) dX4_firstToBegin_60 (by decide) (fun c60 => ?_) (fun c60 => ?_)
            · rw [lp_ftb, if_neg (fun h => absurd h.2.2 (by rw [bI_0 c60]; decide))]
              refine r_iinc dX4_firstToBegin_72 rfl ii_s (by decide) rfl ?_
              refine r_goto (tgt := 9) dX4_firstToBegin_75 (by decide) ?_
              refine r_fgt 5 ?_
              exact ih (i + 1) _ _ (by omega)
            · rw [lp_ftb, if_pos ⟨by first | exact Or.inl c32 | exact Or.inr (c41), c50, bI_1 c60⟩]
              refine r_iload dX4_firstToBegin_63 rfl ?_
              refine r_istore_n dX4_firstToBegin_65 (by decide) rfl ?_
              refine r_aload dX4_firstToBegin_66 rfl ?_
              refine r_getp_st (by assumption) (by omega) 5 (by decide) q357 rfl dX4_firstToBegin_68 ?_
              refine r_istore_n dX4_firstToBegin_71 (by decide) rfl ?_
              refine r_iinc dX4_firstToBegin_72 rfl ii_s (by decide) rfl ?_
              refine r_goto (tgt := 9) dX4_firstToBegin_75 (by decide) ?_
              refine r_fgt 5 ?_
              exact ih (i + 1) _ _ (by omega)
  refine r_iconst (v := -1) dX4_firstToBegin_0 (by decide) ?_
  refine r_istore_n dX4_firstToBegin_1 (by decide) rfl ?_
  refine r_sipush (v := 1001) dX4_firstToBegin_2 (by decide) ?_
  refine r_istore_n dX4_firstToBegin_5 (by decide) rfl ?_
  refine r_iconst (v := 0) dX4_firstToBegin_6 (by decide) ?_
  refine r_istore dX4_firstToBegin_7 (by decide) rfl ?_
  rw [f_ftb, cn_of hc hc2]; exact L c 0 (-1) 1001 (by omega)
theorem dX4_isRankedAhead_0 : decode cX4_isRankedAhead 0 = .ok (.aload_n 0, 1) := by decide +kernel
theorem dX4_isRankedAhead_1 : decode cX4_isRankedAhead 1 = .ok (.getfield 11, 3) := by decide +kernel
theorem dX4_isRankedAhead_4 : decode cX4_isRankedAhead 4 = .ok (.iload_n 1, 1) := by decide +kernel
theorem dX4_isRankedAhead_5 : decode cX4_isRankedAhead 5 = .ok (.aaload, 1) := by decide +kernel
theorem dX4_isRankedAhead_6 : decode cX4_isRankedAhead 6 = .ok (.astore_n 3, 1) := by decide +kernel
theorem dX4_isRankedAhead_7 : decode cX4_isRankedAhead 7 = .ok (.aload_n 0, 1) := by decide +kernel
theorem dX4_isRankedAhead_8 : decode cX4_isRankedAhead 8 = .ok (.getfield 11, 3) := by decide +kernel
theorem dX4_isRankedAhead_11 : decode cX4_isRankedAhead 11 = .ok (.iload_n 2, 1) := by decide +kernel
theorem dX4_isRankedAhead_12 : decode cX4_isRankedAhead 12 = .ok (.aaload, 1) := by decide +kernel
theorem dX4_isRankedAhead_13 : decode cX4_isRankedAhead 13 = .ok (.astore 4, 2) := by decide +kernel
theorem dX4_isRankedAhead_15 : decode cX4_isRankedAhead 15 = .ok (.aload_n 3, 1) := by decide +kernel
theorem dX4_isRankedAhead_16 : decode cX4_isRankedAhead 16 = .ok (.getfield 123, 3) := by decide +kernel
theorem dX4_isRankedAhead_19 : decode cX4_isRankedAhead 19 = .ok (.aload 4, 2) := by decide +kernel
theorem dX4_isRankedAhead_21 : decode cX4_isRankedAhead 21 = .ok (.getfield 123, 3) := by decide +kernel
theorem dX4_isRankedAhead_24 : decode cX4_isRankedAhead 24 = .ok (.if_icmp .eq 21, 3) := by decide +kernel
theorem dX4_isRankedAhead_27 : decode cX4_isRankedAhead 27 = .ok (.aload_n 3, 1) := by decide +kernel
theorem dX4_isRankedAhead_28 : decode cX4_isRankedAhead 28 = .ok (.getfield 123, 3) := by decide +kernel
theorem dX4_isRankedAhead_31 : decode cX4_isRankedAhead 31 = .ok (.aload 4, 2) := by decide +kernel
theorem dX4_isRankedAhead_33 : decode cX4_isRankedAhead 33 = .ok (.getfield 123, 3) := by decide +kernel
theorem dX4_isRankedAhead_36 : decode cX4_isRankedAhead 36 = .ok (.if_icmp .le 7, 3) := by decide +kernel
theorem dX4_isRankedAhead_39 : decode cX4_isRankedAhead 39 = .ok (.iconst 1, 1) := by decide +kernel
theorem dX4_isRankedAhead_40 : decode cX4_isRankedAhead 40 = .ok (.goto 4, 3) := by decide +kernel
theorem dX4_isRankedAhead_43 : decode cX4_isRankedAhead 43 = .ok (.iconst 0, 1) := by decide +kernel
theorem dX4_isRankedAhead_44 : decode cX4_isRankedAhead 44 = .ok (.ireturn, 1) := by decide +kernel
theorem dX4_isRankedAhead_45 : decode cX4_isRankedAhead 45 = .ok (.aload_n 3, 1) := by decide +kernel
theorem dX4_isRankedAhead_46 : decode cX4_isRankedAhead 46 = .ok (.getfield 126, 3) := by decide +kernel
theorem dX4_isRankedAhead_49 : decode cX4_isRankedAhead 49 = .ok (.aload 4, 2) := by decide +kernel
theorem dX4_isRankedAhead_51 : decode cX4_isRankedAhead 51 = .ok (.getfield 126, 3) := by decide +kernel
theorem dX4_isRankedAhead_54 : decode cX4_isRankedAhead 54 = .ok (.if_icmp .eq 21, 3) := by decide +kernel
theorem dX4_isRankedAhead_57 : decode cX4_isRankedAhead 57 = .ok (.aload_n 3, 1) := by decide +kernel
theorem dX4_isRankedAhead_58 : decode cX4_isRankedAhead 58 = .ok (.getfield 126, 3) := by decide +kernel
theorem dX4_isRankedAhead_61 : decode cX4_isRankedAhead 61 = .ok (.aload 4, 2) := by decide +kernel
theorem dX4_isRankedAhead_63 : decode cX4_isRankedAhead 63 = .ok (.getfield 126, 3) := by decide +kernel
theorem dX4_isRankedAhead_66 : decode cX4_isRankedAhead 66 = .ok (.if_icmp .le 7, 3) := by decide +kernel
theorem dX4_isRankedAhead_69 : decode cX4_isRankedAhead 69 = .ok (.iconst 1, 1) := by decide +kernel
theorem dX4_isRankedAhead_70 : decode cX4_isRankedAhead 70 = .ok (.goto 4, 3) := by decide +kernel
theorem dX4_isRankedAhead_73 : decode cX4_isRankedAhead 73 = .ok (.iconst 0, 1) := by decide +kernel
theorem dX4_isRankedAhead_74 : decode cX4_isRankedAhead 74 = .ok (.ireturn, 1) := by decide +kernel
theorem dX4_isRankedAhead_75 : decode cX4_isRankedAhead 75 = .ok (.iload_n 1, 1) := by decide +kernel
theorem dX4_isRankedAhead_76 : decode cX4_isRankedAhead 76 = .ok (.iload_n 2, 1) := by decide +kernel
theorem dX4_isRankedAhead_77 : decode cX4_isRankedAhead 77 = .ok (.if_icmp .ge 7, 3) := by decide +kernel
theorem dX4_isRankedAhead_80 : decode cX4_isRankedAhead 80 = .ok (.iconst 1, 1) := by decide +kernel
theorem dX4_isRankedAhead_81 : decode cX4_isRankedAhead 81 = .ok (.goto 4, 3) := by decide +kernel
theorem dX4_isRankedAhead_84 : decode cX4_isRankedAhead 84 = .ok (.iconst 0, 1) := by decide +kernel
theorem dX4_isRankedAhead_85 : decode cX4_isRankedAhead 85 = .ok (.ireturn, 1) := by decide +kernel
theorem dcX4_isRankedAhead : yX4_isRankedAhead.cls = RX4 ∧ yX4_isRankedAhead.cls ≠ "java/lang/invoke/MethodHandle" ∧ yX4_isRankedAhead.cls ≠ "java/lang/invoke/VarHandle" ∧ (parseMethodDescriptor yX4_isRankedAhead.desc).map (fun d => d.parameters.length) = some 2 := by decide +kernel
set_option maxRecDepth 100000 in
set_option maxHeartbeats 4000000 in
theorem K_ahead {cA : Nat → ClassId} {ad : tA} {ex : va_W} {M : tM} {r : Nat} {P : tP} {i j : Nat} (hr : isPlan r) (hi : i < 12) (hj : j < 12) : Cj yX4_isRankedAhead cX4_isRankedAhead 5 (some .boolean) (rmd 0) 0 0 cA ad [.ref (ad r 0), .int (nI i), .int (nI j)] ex (m_pl M r P) (Qe (some (.int (bI (f_ahead P i j)))) ex (m_pl M r P)) := by
  refine c_of_r (lv0 := [some (.ref (ad r 0)), some (.int (nI i)), some (.int (nI j)), none, none]) rfl (by decide +kernel) (Nat.le_of_ble_eq_true rfl) rfl ?_
  refine r_aload_n dX4_isRankedAhead_0 rfl ?_
  refine r_getp_pl (by assumption) 0 (by decide) q38 rfl dX4_isRankedAhead_1 ?_
  refine r_iload_n dX4_isRankedAhead_4 rfl ?_
  refine r_aldp_steps (by assumption) rfl (by omega) dX4_isRankedAhead_5 ?_
  refine r_astore_n dX4_isRankedAhead_6 (by decide) rfl ?_
  refine r_aload_n dX4_isRankedAhead_7 rfl ?_
  refine r_getp_pl (by assumption) 0 (by decide) q38 rfl dX4_isRankedAhead_8 ?_
  refine r_iload_n dX4_isRankedAhead_11 rfl ?_
  refine r_aldp_steps (by assumption) rfl (by omega) dX4_isRankedAhead_12 ?_
  refine r_astore dX4_isRankedAhead_13 (by decide) rfl ?_
  refine r_aload_n dX4_isRankedAhead_15 rfl ?_
  refine r_getp_st (by assumption) (by omega) 8 (by decide) q372 rfl dX4_isRankedAhead_16 ?_
  refine r_aload dX4_isRankedAhead_19 rfl ?_
  refine r_getp_st (by assumption) (by omega) 8 (by decide) q372 rfl dX4_isRankedAhead_21 ?_
  refine r_icmp_eq (tgt := 45) dX4_isRankedAhead_24 (by decide) (fun c24 => ?_) (fun c24 => ?_)
  · refine r_aload_n dX4_isRankedAhead_45 rfl ?_
    refine r_getp_st (by assumption) (by omega) 0 (by decide) q346 rfl dX4_isRankedAhead_46 ?_
    refine r_aload dX4_isRankedAhead_49 rfl ?_
    refine r_getp_st (by assumption) (by omega) 0 (by decide) q346 rfl dX4_isRankedAhead_51 ?_
    refine r_icmp_eq (tgt := 75) dX4_isRankedAhead_54 (by decide) (fun c54 => ?_) (fun c54 => ?_)
    · refine r_iload_n dX4_isRankedAhead_75 rfl ?_
      refine r_iload_n dX4_isRankedAhead_76 rfl ?_
      refine r_icmp_ge (tgt := 84) dX4_isRankedAhead_77 (by decide) (fun c77 => ?_) (fun c77 => ?_)
      · refine r_iconst (v := 0) dX4_isRankedAhead_84 (by decide) ?_
        exact r_ret rfl rfl dX4_isRankedAhead_85 (by first | (simp [f_ahead, bI, *]; done) | simp_all [f_ahead, bI]) rfl
      · refine r_iconst (v := 1) dX4_isRankedAhead_80 (by decide) ?_
        refine r_goto (tgt := 85) dX4_isRankedAhead_81 (by decide) ?_
        exact r_ret rfl rfl dX4_isRankedAhead_85 (by first | (simp [f_ahead, bI, *]; done) | simp_all [f_ahead, bI]) rfl
    · refine r_aload_n dX4_isRankedAhead_57 rfl ?_
      refine r_getp_st (by assumption) (by omega) 0 (by decide) q346 rfl dX4_isRankedAhead_58 ?_
      refine r_aload dX4_isRankedAhead_61 rfl ?_
      refine r_getp_st (by assumption) (by omega) 0 (by decide) q346 rfl dX4_isRankedAhead_63 ?_
      refine r_icmp_le (tgt := 73) dX4_isRankedAhead_66 (by decide) (fun c66 => ?_) (fun c66 => ?_)
      · refine r_iconst (v := 0) dX4_isRankedAhead_73 (by decide) ?_
        exact r_ret rfl rfl dX4_isRankedAhead_74 (by first | (simp [f_ahead, bI, *]; done) | simp_all [f_ahead, bI]) rfl
      · refine r_iconst (v := 1) dX4_isRankedAhead_69 (by decide) ?_
        refine r_goto (tgt := 74) dX4_isRankedAhead_70 (by decide) ?_
        exact r_ret rfl rfl dX4_isRankedAhead_74 (by first | (simp [f_ahead, bI, *]; done) | simp_all [f_ahead, bI]) rfl
  · refine r_aload_n dX4_isRankedAhead_27 rfl ?_
    refine r_getp_st (by assumption) (by omega) 8 (by decide) q372 rfl dX4_isRankedAhead_28 ?_
    refine r_aload dX4_isRankedAhead_31 rfl ?_
    refine r_getp_st (by assumption) (by omega) 8 (by decide) q372 rfl dX4_isRankedAhead_33 ?_
    refine r_icmp_le (tgt := 43) dX4_isRankedAhead_36 (by decide) (fun c36 => ?_) (fun c36 => ?_)
    · refine r_iconst (v := 0) dX4_isRankedAhead_43 (by decide) ?_
      exact r_ret rfl rfl dX4_isRankedAhead_44 (by first | (simp [f_ahead, bI, *]; done) | simp_all [f_ahead, bI]) rfl
    · refine r_iconst (v := 1) dX4_isRankedAhead_39 (by decide) ?_
      refine r_goto (tgt := 44) dX4_isRankedAhead_40 (by decide) ?_
      exact r_ret rfl rfl dX4_isRankedAhead_44 (by first | (simp [f_ahead, bI, *]; done) | simp_all [f_ahead, bI]) rfl
theorem dX4_stepsAheadOf_0 : decode cX4_stepsAheadOf 0 = .ok (.iconst 0, 1) := by decide +kernel
theorem dX4_stepsAheadOf_1 : decode cX4_stepsAheadOf 1 = .ok (.istore_n 2, 1) := by decide +kernel
theorem dX4_stepsAheadOf_2 : decode cX4_stepsAheadOf 2 = .ok (.iconst 0, 1) := by decide +kernel
theorem dX4_stepsAheadOf_3 : decode cX4_stepsAheadOf 3 = .ok (.istore_n 3, 1) := by decide +kernel
theorem dX4_stepsAheadOf_4 : decode cX4_stepsAheadOf 4 = .ok (.iload_n 3, 1) := by decide +kernel
theorem dX4_stepsAheadOf_5 : decode cX4_stepsAheadOf 5 = .ok (.aload_n 0, 1) := by decide +kernel
theorem dX4_stepsAheadOf_6 : decode cX4_stepsAheadOf 6 = .ok (.getfield 29, 3) := by decide +kernel
theorem dX4_stepsAheadOf_9 : decode cX4_stepsAheadOf 9 = .ok (.if_icmp .ge 26, 3) := by decide +kernel
theorem dX4_stepsAheadOf_12 : decode cX4_stepsAheadOf 12 = .ok (.iload_n 3, 1) := by decide +kernel
theorem dX4_stepsAheadOf_13 : decode cX4_stepsAheadOf 13 = .ok (.iload_n 1, 1) := by decide +kernel
theorem dX4_stepsAheadOf_14 : decode cX4_stepsAheadOf 14 = .ok (.if_icmp .eq 15, 3) := by decide +kernel
theorem dX4_stepsAheadOf_17 : decode cX4_stepsAheadOf 17 = .ok (.aload_n 0, 1) := by decide +kernel
theorem dX4_stepsAheadOf_18 : decode cX4_stepsAheadOf 18 = .ok (.iload_n 3, 1) := by decide +kernel
theorem dX4_stepsAheadOf_19 : decode cX4_stepsAheadOf 19 = .ok (.iload_n 1, 1) := by decide +kernel
theorem dX4_stepsAheadOf_20 : decode cX4_stepsAheadOf 20 = .ok (.invokevirtual 119, 3) := by decide +kernel
theorem dX4_stepsAheadOf_23 : decode cX4_stepsAheadOf 23 = .ok (.ifCond .eq 6, 3) := by decide +kernel
theorem dX4_stepsAheadOf_26 : decode cX4_stepsAheadOf 26 = .ok (.iinc 2 1, 3) := by decide +kernel
theorem dX4_stepsAheadOf_29 : decode cX4_stepsAheadOf 29 = .ok (.iinc 3 1, 3) := by decide +kernel
theorem dX4_stepsAheadOf_32 : decode cX4_stepsAheadOf 32 = .ok (.goto (-28), 3) := by decide +kernel
theorem dX4_stepsAheadOf_35 : decode cX4_stepsAheadOf 35 = .ok (.iload_n 2, 1) := by decide +kernel
theorem dX4_stepsAheadOf_36 : decode cX4_stepsAheadOf 36 = .ok (.ireturn, 1) := by decide +kernel
theorem dcX4_stepsAheadOf : yX4_stepsAheadOf.cls = RX4 ∧ yX4_stepsAheadOf.cls ≠ "java/lang/invoke/MethodHandle" ∧ yX4_stepsAheadOf.cls ≠ "java/lang/invoke/VarHandle" ∧ (parseMethodDescriptor yX4_stepsAheadOf.desc).map (fun d => d.parameters.length) = some 1 := by decide +kernel
theorem gX4_stepsAheadOf_20 : GoodIn wsL_law (wsV RX4 119 RX4 yX4_isRankedAhead (.code yX4_isRankedAhead cX4_isRankedAhead 5 (some .boolean) :: wsL_law)) := g_V q553 q554 q555 q16 q556
set_option maxRecDepth 100000 in
set_option maxHeartbeats 4000000 in
theorem K_sao {cA : Nat → ClassId} {ad : tA} {ex : va_W} {M : tM} {r : Nat} {P : tP} {j : Nat} {c : Nat} (hr : isPlan r) (hc : P 0 1 = nI c) (hc2 : c ≤ 12) (hj : j < 12) : Cj yX4_stepsAheadOf cX4_stepsAheadOf 4 (some .int) (rmd 1) 0 0 cA ad [.ref (ad r 0), .int (nI j)] ex (m_pl M r P) (Qe (some (.int (f_sao P j))) ex (m_pl M r P)) := by
  refine c_of_r (lv0 := [some (.ref (ad r 0)), some (.int (nI j)), none, none]) rfl (by decide +kernel) (Nat.le_of_ble_eq_true rfl) rfl ?_
  have L : ∀ (n i : Nat) (x : Int32), i + n = c → Rj cX4_stepsAheadOf RX4 4 (some .int) (rmd 1) 0 0 cA ad (Qe (some (.int (lp_sao P j n i x))) ex (m_pl M r P)) ex 0 0 4 [some (.ref (ad r 0)), some (.int (nI j)), some (.int x), some (.int (nI i))] [] (m_pl M r P) := by
    intro n
    induction n with
    | zero =>
      intro i x h
      refine r_iload_n dX4_stepsAheadOf_4 rfl ?_
      refine r_aload_n dX4_stepsAheadOf_5 rfl ?_
      refine r_getp_pl (by assumption) 1 (by decide) q80 rfl dX4_stepsAheadOf_6 ?_
      refine r_icmp_ge (tgt := 35) dX4_stepsAheadOf_9 (by decide) (fun c9 => ?_) (fun c9 => absurd (lp_z hc h) c9)
      refine r_iload_n dX4_stepsAheadOf_35 rfl ?_
      exact r_ret rfl rfl dX4_stepsAheadOf_36 rfl rfl
    | succ n ih =>
      intro i x h
      refine r_iload_n dX4_stepsAheadOf_4 rfl ?_
      refine r_aload_n dX4_stepsAheadOf_5 rfl ?_
      refine r_getp_pl (by assumption) 1 (by decide) q80 rfl dX4_stepsAheadOf_6 ?_
      refine r_icmp_ge (tgt := 35) dX4_stepsAheadOf_9 (by decide) (fun c9 => absurd c9 (lp_s hc hc2 h)) (fun c9 => ?_)
      refine r_iload_n dX4_stepsAheadOf_12 rfl ?_
      refine r_iload_n dX4_stepsAheadOf_13 rfl ?_
      refine r_icmp_eq (tgt := 29) dX4_stepsAheadOf_14 (by decide) (fun c14 => ?_) (fun c14 => ?_)
      · rw [lp_sao, if_pos c14]
        refine r_iinc dX4_stepsAheadOf_29 rfl ii_s (by decide) rfl ?_
        refine r_goto (tgt := 4) dX4_stepsAheadOf_32 (by decide) ?_
        exact ih (i + 1) _ (by omega)
      · refine r_aload_n dX4_stepsAheadOf_17 rfl ?_
        refine r_iload_n dX4_stepsAheadOf_18 rfl ?_
        refine r_iload_n dX4_stepsAheadOf_19 rfl ?_
        refine r_cVi dX4_stepsAheadOf_20 (K_ahead (i := i) (j := j) (by assumption) (by omega) (by omega)) gX4_stepsAheadOf_20 dcX4_isRankedAhead rfl rfl rfl (by decide) (ob_pl (by assumption)) ?_
        refine r_if_eq (tgt := 29) dX4_stepsAheadOf_23 (by decide) (fun c23 => ?_) (fun c23 => ?_)
        · rw [lp_sao, if_neg c14, bI_0 c23, if_neg (by decide)]
          refine r_iinc dX4_stepsAheadOf_29 rfl ii_s (by decide) rfl ?_
          refine r_goto (tgt := 4) dX4_stepsAheadOf_32 (by decide) ?_
          exact ih (i + 1) _ (by omega)
        · rw [lp_sao, if_neg c14, bI_1 c23, if_pos rfl]
          refine r_iinc dX4_stepsAheadOf_26 rfl rfl (by decide) rfl ?_
          refine r_iinc dX4_stepsAheadOf_29 rfl ii_s (by decide) rfl ?_
          refine r_goto (tgt := 4) dX4_stepsAheadOf_32 (by decide) ?_
          exact ih (i + 1) _ (by omega)
  refine r_iconst (v := 0) dX4_stepsAheadOf_0 (by decide) ?_
  refine r_istore_n dX4_stepsAheadOf_1 (by decide) rfl ?_
  refine r_iconst (v := 0) dX4_stepsAheadOf_2 (by decide) ?_
  refine r_istore_n dX4_stepsAheadOf_3 (by decide) rfl ?_
  rw [f_sao, cn_of hc hc2]; exact L c 0 0 (by omega)

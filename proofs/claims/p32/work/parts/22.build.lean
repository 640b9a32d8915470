/-! PART 22: StringBuilder and String: texts of letters from 32 to 126; the capacity is 16 or 34 -/
def Qs (r : Option Value) (ws : va_W) : Option Value → va_W → Prop := fun v w => v = r ∧ w = ws
/-- the first n bytes are letters -/
def okby (a : Nat → Int32) (n : Nat) : Prop := ∀ j, j < n → ∃ c : Nat, 32 ≤ c ∧ c ≤ 126 ∧ a j = nI c
def fitB (a : Nat → Int32) : Prop := ∀ i, fits .byte (.int (a i)) = true
theorem fit_n {c : Nat} (h : c ≤ 126) : fits .byte (.int (nI c)) = true := by
  have h1 : (-128 : Int32) ≤ nI c := Int32.le_trans (by decide) (nI_pos' (n := c) (by omega))
  have h2 : nI c ≤ 127 := nI_le (a := c) (b := 127) (by omega) (by omega)
  simp [fits, h1, h2]
theorem fit_0 : fitB (fun _ => 0) := fun _ => rfl
theorem fit_u {a : Nat → Int32} {k : Nat} {x : Int32} (h : fitB a) (hx : fits .byte (.int x) = true) : fitB (upd a k x) := fun i => by
  by_cases e : i = k
  · subst e; rw [pk_us]; exact hx
  · rw [pk_un e]; exact h i
theorem fit_c {a b : Nat → Int32} {sp dp n : Nat} (ha : fitB a) (hb : fitB b) : fitB (va_cpy a b sp dp n) := fun i => by
  unfold va_cpy
  split
  · exact ha _
  · exact hb _
theorem nar_n {c : Nat} (h : c ≤ 126) : vp_nar .byte (nI c) = nI c := by
  have : ∀ c, c < 127 → vp_nar .byte (nI c) = nI c := by decide +kernel
  exact this c (by omega)
theorem lit_fit : ∀ i j, fits .byte (.int ((bytS.getD i []).getD j 0)) = true := by
  intro i j
  by_cases hi : i < 15
  · by_cases hj : j < 20
    · exact (by decide +kernel : ∀ i, i < 15 → ∀ j, j < 20 → fits .byte (.int ((bytS.getD i []).getD j 0)) = true) i hi j hj
    · have hl : ∀ i, i < 15 → (bytS.getD i []).length ≤ 20 := by decide +kernel
      have := hl i hi
      rw [List.getD_eq_getElem?_getD, List.getElem?_eq_none (by omega)]; rfl
  · have e : bytS.getD i [] = [] := by rw [List.getD_eq_getElem?_getD, List.getElem?_eq_none (by have : bytS.length = 15 := rfl; omega)]; rfl
    rw [e]; rfl
theorem lit_by : ∀ i, i < 15 → ∀ j, j < lenS.getD i 0 → ∃ c : Nat, c < 127 ∧ 32 ≤ c ∧ (bytS.getD i []).getD j 0 = nI c := by
  have h : ∀ i, i < 15 → ∀ j, j < lenS.getD i 0 → 32 ≤ ((bytS.getD i []).getD j 0).toNatClampNeg ∧ ((bytS.getD i []).getD j 0).toNatClampNeg < 127 ∧ (bytS.getD i []).getD j 0 = nI ((bytS.getD i []).getD j 0).toNatClampNeg := by decide +kernel
  intro i hi j hj
  obtain ⟨h1, h2, h3⟩ := h i hi j hj
  exact ⟨_, h2, h1, h3⟩
theorem shr0 {x : Int32} : x >>> ((0 : Int32) &&& 31) = x := by
  rw [show ((0 : Int32) &&& 31) = 0 from rfl]
  exact Int32.shiftRight_zero
theorem shl0 {x : Int32} : x <<< ((0 : Int32) &&& 31) = x := by
  rw [show ((0 : Int32) &&& 31) = 0 from rfl]
  exact Int32.shiftLeft_zero
theorem okby_keep {a b : Nat → Int32} {n : Nat} (h : okby a n) (hk : ∀ j, j < n → b j = a j) : okby b n := fun j hj => by rw [hk j hj]; exact h j hj
/-- the cells of a StringBuilder -/
abbrev sbc (cA : Nat → ClassId) (b v n m : Nat) (a : Nat → Int32) : va_W := [(b, .inr (1, [.ref v, .int 0, .int 0, .int (nI n)])), (v, .inl (cA 5, m, .inl a))]
/-- the cells of a String -/
abbrev stc (cA : Nat → ClassId) (b v n : Nat) (a : Nat → Int32) : va_W := [(b, .inr (0, [.ref v, .int 0, .int 0, .int 0])), (v, .inl (cA 5, n, .inl a))]
section
variable {isI : Bool} {cc : ByteArray} {own : String} {nL : Nat} {ret : Option FieldType} {rm : Room} {mc ms : Nat} {cA : Nat → ClassId} {ad : tA} {Q : Option Value → va_W → Prop} {cells slots pc : Nat} {lv : List (Option Value)} {st : List Value} {ws ws' : va_W}
theorem g_mmax {idx : Nat} {x y : Int32} (hw : Cond.methodLink own idx Lib.Math.max.name ∈ wsL_law) (hfr : 1 ≤ rm.frames) (hlo : (st.map fun v => v.category).sum + 13 ≤ rm.locals) (hcs : cells ≤ rm.cells ∧ slots ≤ rm.slots) (hd : decode cc pc = .ok (.invokestatic idx, 3)) (k : Rg isI cc own nL ret rm mc ms cA ad Q cells slots (pc + 3) lv (.int (if x < y then y else x) :: st) ws) : Rg isI cc own nL ret rm mc ms cA ad Q cells slots pc lv (.int y :: .int x :: st) ws := by
  intro p l e s m args below meth c G tx A Qc free d0 X I E hd0 H locs ls hP hD hS hl
  have hts := dr_words X.2.2.2.2.1 d0
  exact va_mmax (s := s.setDrawn d0) X.1 X.2.1 (X.2.2.1.trans hl.1.symm) X.2.2.2.1 (hts _ hw) (hts _ q267) (hts _ q6) (hts _ q268) hfr hlo hcs.1 hcs.2 hd (k p l e s m args below meth c G tx A Qc free d0 X I E hd0 H locs ls hP hD hS hl)
end

set_option maxRecDepth 100000 in
set_option maxHeartbeats 4000000 in
theorem G_litCoder {cA : Nat → ClassId} {ad : tA} {ws : va_W} {i : Nat} (hi : i < 15) : Cg yJ0_coder_7d493 cJ0_coder_7d493 1 (some .byte) (rmg 0 0 0) 0 0 cA ad [.ref (ad 16 i)] ws (Qs (some (.int 0)) ws) := by
  refine c_of_g (isI := false) (lv0 := [some (.ref (ad 16 i))]) (fun h => by first | rfl | cases h) rfl (by decide +kernel) (Nat.le_of_ble_eq_true rfl) rfl ?_
  refine g_getsC q219 dJ0_coder_7d493_0 ?_
  refine g_if_eq (tgt := 13) dJ0_coder_7d493_3 (by decide) (fun c3 => absurd c3 (by decide)) (fun c3 => ?_)
  refine g_aload_n dJ0_coder_7d493_6 rfl ?_
  refine g_lit_coder hi q220 dJ0_coder_7d493_7 ?_
  refine g_goto (tgt := 14) dJ0_coder_7d493_10 (by decide) ?_
  exact g_zret rfl rfl dJ0_coder_7d493_14 (Nat.le_of_ble_eq_true rfl) (Nat.le_of_ble_eq_true rfl) ⟨rfl, rfl⟩

set_option maxRecDepth 100000 in
set_option maxHeartbeats 4000000 in
theorem G_litLen {cA : Nat → ClassId} {ad : tA} {ws : va_W} {i : Nat} (hi : i < 15) : Cg yJ0_length_8abf5 cJ0_length_8abf5 1 (some .int) (rmg 1 0 0) 0 0 cA ad [.ref (ad 16 i)] ws (Qs (some (.int (nI (lenS.getD i 0)))) ws) := by
  refine c_of_g (isI := false) (lv0 := [some (.ref (ad 16 i))]) (fun h => by first | rfl | cases h) rfl (by decide +kernel) (Nat.le_of_ble_eq_true rfl) rfl ?_
  refine g_aload_n dJ0_length_8abf5_0 rfl ?_
  refine g_lit_value hi q214 dJ0_length_8abf5_1 ?_
  refine g_lit_len hi dJ0_length_8abf5_4 ?_
  refine g_aload_n dJ0_length_8abf5_5 rfl ?_
  refine g_callV (n := 0) (As := []) (rest := [.int (nI (lenS.getD i 0))]) dJ0_length_8abf5_6 (G_litCoder hi) (g_V q215 q216 q217 q212 q218) ⟨rfl, by decide, by decide, by decide +kernel⟩ rfl rfl rfl rfl ⟨by decide, by decide⟩ (Nat.le_of_ble_eq_true rfl) ⟨Nat.le_of_ble_eq_true rfl, Nat.le_of_ble_eq_true rfl⟩ (rw_lit hi) (fun v w hv => ?_)
  obtain ⟨rfl, hw0⟩ := hv
  rw [hw0]
  refine g_ishr dJ0_length_8abf5_9 ?_
  rw [shr0]
  exact g_zret rfl rfl dJ0_length_8abf5_10 (Nat.le_of_ble_eq_true rfl) (Nat.le_of_ble_eq_true rfl) ⟨rfl, rfl⟩
/-- how many letters a number below 100 has -/
def dg (v : Nat) : Nat := if v < 10 then 1 else 2
theorem dg_le {v : Nat} : 1 ≤ dg v ∧ dg v ≤ 2 := by unfold dg; split <;> omega
theorem neg_lt {v c : Nat} (hv : v < 100) (hc : c ≤ 100) : -nI c < -nI v ↔ v < c := by
  have h : ∀ v, v < 100 → ∀ c, c < 101 → (-nI c < -nI v ↔ v < c) := by decide +kernel
  exact h v hv c (by omega)
theorem neg_le {v c : Nat} (hv : v < 100) (hc : c ≤ 100) : -nI c ≤ -nI v ↔ v ≤ c := by
  have h : ∀ v, v < 100 → ∀ c, c < 101 → (-nI c ≤ -nI v ↔ v ≤ c) := by decide +kernel
  exact h v hv c (by omega)
theorem dJ6_stringSize_0f7a4_0 : decode cJ6_stringSize_0f7a4 0 = .ok (.iconst 1, 1) := by decide +kernel
theorem dJ6_stringSize_0f7a4_1 : decode cJ6_stringSize_0f7a4 1 = .ok (.istore_n 1, 1) := by decide +kernel
theorem dJ6_stringSize_0f7a4_2 : decode cJ6_stringSize_0f7a4 2 = .ok (.iload_n 0, 1) := by decide +kernel
theorem dJ6_stringSize_0f7a4_3 : decode cJ6_stringSize_0f7a4 3 = .ok (.ifCond .lt 8, 3) := by decide +kernel
theorem dJ6_stringSize_0f7a4_6 : decode cJ6_stringSize_0f7a4 6 = .ok (.iconst 0, 1) := by decide +kernel
theorem dJ6_stringSize_0f7a4_7 : decode cJ6_stringSize_0f7a4 7 = .ok (.istore_n 1, 1) := by decide +kernel
theorem dJ6_stringSize_0f7a4_8 : decode cJ6_stringSize_0f7a4 8 = .ok (.iload_n 0, 1) := by decide +kernel
theorem dJ6_stringSize_0f7a4_9 : decode cJ6_stringSize_0f7a4 9 = .ok (.ineg, 1) := by decide +kernel
theorem dJ6_stringSize_0f7a4_10 : decode cJ6_stringSize_0f7a4 10 = .ok (.istore_n 0, 1) := by decide +kernel
theorem dJ6_stringSize_0f7a4_11 : decode cJ6_stringSize_0f7a4 11 = .ok (.bipush (-10), 2) := by decide +kernel
theorem dJ6_stringSize_0f7a4_13 : decode cJ6_stringSize_0f7a4 13 = .ok (.istore_n 2, 1) := by decide +kernel
theorem dJ6_stringSize_0f7a4_14 : decode cJ6_stringSize_0f7a4 14 = .ok (.iconst 1, 1) := by decide +kernel
theorem dJ6_stringSize_0f7a4_15 : decode cJ6_stringSize_0f7a4 15 = .ok (.istore_n 3, 1) := by decide +kernel
theorem dJ6_stringSize_0f7a4_16 : decode cJ6_stringSize_0f7a4 16 = .ok (.iload_n 3, 1) := by decide +kernel
theorem dJ6_stringSize_0f7a4_17 : decode cJ6_stringSize_0f7a4 17 = .ok (.bipush 10, 2) := by decide +kernel
theorem dJ6_stringSize_0f7a4_19 : decode cJ6_stringSize_0f7a4 19 = .ok (.if_icmp .ge 23, 3) := by decide +kernel
theorem dJ6_stringSize_0f7a4_22 : decode cJ6_stringSize_0f7a4 22 = .ok (.iload_n 0, 1) := by decide +kernel
theorem dJ6_stringSize_0f7a4_23 : decode cJ6_stringSize_0f7a4 23 = .ok (.iload_n 2, 1) := by decide +kernel
theorem dJ6_stringSize_0f7a4_24 : decode cJ6_stringSize_0f7a4 24 = .ok (.if_icmp .le 7, 3) := by decide +kernel
theorem dJ6_stringSize_0f7a4_27 : decode cJ6_stringSize_0f7a4 27 = .ok (.iload_n 3, 1) := by decide +kernel
theorem dJ6_stringSize_0f7a4_28 : decode cJ6_stringSize_0f7a4 28 = .ok (.iload_n 1, 1) := by decide +kernel
theorem dJ6_stringSize_0f7a4_29 : decode cJ6_stringSize_0f7a4 29 = .ok (.iadd, 1) := by decide +kernel
theorem dJ6_stringSize_0f7a4_30 : decode cJ6_stringSize_0f7a4 30 = .ok (.ireturn, 1) := by decide +kernel
theorem dJ6_stringSize_0f7a4_31 : decode cJ6_stringSize_0f7a4 31 = .ok (.bipush 10, 2) := by decide +kernel
theorem dJ6_stringSize_0f7a4_33 : decode cJ6_stringSize_0f7a4 33 = .ok (.iload_n 2, 1) := by decide +kernel
theorem dJ6_stringSize_0f7a4_34 : decode cJ6_stringSize_0f7a4 34 = .ok (.imul, 1) := by decide +kernel
theorem dJ6_stringSize_0f7a4_35 : decode cJ6_stringSize_0f7a4 35 = .ok (.istore_n 2, 1) := by decide +kernel
theorem dJ6_stringSize_0f7a4_36 : decode cJ6_stringSize_0f7a4 36 = .ok (.iinc 3 1, 3) := by decide +kernel
theorem dJ6_stringSize_0f7a4_39 : decode cJ6_stringSize_0f7a4 39 = .ok (.goto (-23), 3) := by decide +kernel
theorem dJ6_stringSize_0f7a4_42 : decode cJ6_stringSize_0f7a4 42 = .ok (.bipush 10, 2) := by decide +kernel
theorem dJ6_stringSize_0f7a4_44 : decode cJ6_stringSize_0f7a4 44 = .ok (.iload_n 1, 1) := by decide +kernel
theorem dJ6_stringSize_0f7a4_45 : decode cJ6_stringSize_0f7a4 45 = .ok (.iadd, 1) := by decide +kernel
theorem dJ6_stringSize_0f7a4_46 : decode cJ6_stringSize_0f7a4 46 = .ok (.ireturn, 1) := by decide +kernel
set_option maxRecDepth 100000 in
set_option maxHeartbeats 4000000 in
theorem G_size {cA : Nat → ClassId} {ad : tA} {ws : va_W} {v : Nat} (hv : v < 100) : Cg yJ6_stringSize_0f7a4 cJ6_stringSize_0f7a4 4 (some .int) (rmg 0 0 0) 0 0 cA ad [.int (nI v)] ws (Qs (some (.int (nI (dg v)))) ws) := by
  refine c_of_g (isI := false) (lv0 := [some (.int (nI v)), none, none, none]) (fun h => by first | rfl | cases h) rfl (by decide +kernel) (Nat.le_of_ble_eq_true rfl) rfl ?_
  by_cases h10 : v < 10
  · skip
    refine g_iconst (v := 1) dJ6_stringSize_0f7a4_0 (by decide) ?_
    refine g_istore_n dJ6_stringSize_0f7a4_1 (by decide) rfl ?_
    refine g_iload_n dJ6_stringSize_0f7a4_2 rfl ?_
    refine g_if_lt (tgt := 11) dJ6_stringSize_0f7a4_3 (by decide) (fun c3 => absurd c3 (nI_pos (by omega))) (fun c3 => ?_)
    refine g_iconst (v := 0) dJ6_stringSize_0f7a4_6 (by decide) ?_
    refine g_istore_n dJ6_stringSize_0f7a4_7 (by decide) rfl ?_
    refine g_iload_n dJ6_stringSize_0f7a4_8 rfl ?_
    refine g_ineg dJ6_stringSize_0f7a4_9 ?_
    refine g_istore_n dJ6_stringSize_0f7a4_10 (by decide) rfl ?_
    refine g_bipush (v := -10) dJ6_stringSize_0f7a4_11 (by decide) ?_
    refine g_istore_n dJ6_stringSize_0f7a4_13 (by decide) rfl ?_
    refine g_iconst (v := 1) dJ6_stringSize_0f7a4_14 (by decide) ?_
    refine g_istore_n dJ6_stringSize_0f7a4_15 (by decide) rfl ?_
    refine g_iload_n dJ6_stringSize_0f7a4_16 rfl ?_
    refine g_bipush (v := 10) dJ6_stringSize_0f7a4_17 (by decide) ?_
    refine g_icmp_ge (tgt := 42) dJ6_stringSize_0f7a4_19 (by decide) (fun c19 => absurd c19 (by decide)) (fun c19 => ?_)
    refine g_iload_n dJ6_stringSize_0f7a4_22 rfl ?_
    refine g_iload_n dJ6_stringSize_0f7a4_23 rfl ?_
    refine g_icmp_le (tgt := 31) dJ6_stringSize_0f7a4_24 (by decide) (fun c24 => absurd c24 (Int32.not_le.mpr ((neg_lt (c := 10) hv (by omega)).mpr h10))) (fun c24 => ?_)
    refine g_iload_n dJ6_stringSize_0f7a4_27 rfl ?_
    refine g_iload_n dJ6_stringSize_0f7a4_28 rfl ?_
    refine g_iadd dJ6_stringSize_0f7a4_29 ?_
    exact g_zret rfl rfl dJ6_stringSize_0f7a4_30 (Nat.le_of_ble_eq_true rfl) (Nat.le_of_ble_eq_true rfl) ⟨by rw [dg, if_pos h10]; rfl, rfl⟩
  · skip
    refine g_iconst (v := 1) dJ6_stringSize_0f7a4_0 (by decide) ?_
    refine g_istore_n dJ6_stringSize_0f7a4_1 (by decide) rfl ?_
    refine g_iload_n dJ6_stringSize_0f7a4_2 rfl ?_
    refine g_if_lt (tgt := 11) dJ6_stringSize_0f7a4_3 (by decide) (fun c3 => absurd c3 (nI_pos (by omega))) (fun c3 => ?_)
    refine g_iconst (v := 0) dJ6_stringSize_0f7a4_6 (by decide) ?_
    refine g_istore_n dJ6_stringSize_0f7a4_7 (by decide) rfl ?_
    refine g_iload_n dJ6_stringSize_0f7a4_8 rfl ?_
    refine g_ineg dJ6_stringSize_0f7a4_9 ?_
    refine g_istore_n dJ6_stringSize_0f7a4_10 (by decide) rfl ?_
    refine g_bipush (v := -10) dJ6_stringSize_0f7a4_11 (by decide) ?_
    refine g_istore_n dJ6_stringSize_0f7a4_13 (by decide) rfl ?_
    refine g_iconst (v := 1) dJ6_stringSize_0f7a4_14 (by decide) ?_
    refine g_istore_n dJ6_stringSize_0f7a4_15 (by decide) rfl ?_
    refine g_iload_n dJ6_stringSize_0f7a4_16 rfl ?_
    refine g_bipush (v := 10) dJ6_stringSize_0f7a4_17 (by decide) ?_
    refine g_icmp_ge (tgt := 42) dJ6_stringSize_0f7a4_19 (by decide) (fun c19 => absurd c19 (by decide)) (fun c19 => ?_)
    refine g_iload_n dJ6_stringSize_0f7a4_22 rfl ?_
    refine g_iload_n dJ6_stringSize_0f7a4_23 rfl ?_
    refine g_icmp_le (tgt := 31) dJ6_stringSize_0f7a4_24 (by decide) (fun c24 => ?_) (fun c24 => absurd (Int32.not_lt.mp (fun z => h10 ((neg_lt (c := 10) hv (by omega)).mp z))) c24)
    refine g_bipush (v := 10) dJ6_stringSize_0f7a4_31 (by decide) ?_
    refine g_iload_n dJ6_stringSize_0f7a4_33 rfl ?_
    refine g_imul dJ6_stringSize_0f7a4_34 ?_
    refine g_istore_n dJ6_stringSize_0f7a4_35 (by decide) rfl ?_
    refine g_iinc dJ6_stringSize_0f7a4_36 rfl (rfl : _ = (2 : Int32)) (by decide) rfl ?_
    refine g_goto (tgt := 16) dJ6_stringSize_0f7a4_39 (by decide) ?_
    refine g_iload_n dJ6_stringSize_0f7a4_16 rfl ?_
    refine g_bipush (v := 10) dJ6_stringSize_0f7a4_17 (by decide) ?_
    refine g_icmp_ge (tgt := 42) dJ6_stringSize_0f7a4_19 (by decide) (fun c19 => absurd c19 (by decide)) (fun c19 => ?_)
    refine g_iload_n dJ6_stringSize_0f7a4_22 rfl ?_
    refine g_iload_n dJ6_stringSize_0f7a4_23 rfl ?_
    refine g_icmp_le (tgt := 31) dJ6_stringSize_0f7a4_24 (by decide) (fun c24 => absurd c24 (Int32.not_le.mpr ((neg_lt (c := 100) hv (by omega)).mpr hv))) (fun c24 => ?_)
    refine g_iload_n dJ6_stringSize_0f7a4_27 rfl ?_
    refine g_iload_n dJ6_stringSize_0f7a4_28 rfl ?_
    refine g_iadd dJ6_stringSize_0f7a4_29 ?_
    exact g_zret rfl rfl dJ6_stringSize_0f7a4_30 (Nat.le_of_ble_eq_true rfl) (Nat.le_of_ble_eq_true rfl) ⟨by rw [dg, if_neg h10]; rfl, rfl⟩
def wr (a : Nat → Int32) (n v : Nat) : Nat → Int32 := if v < 10 then upd a n (nI (48 + v % 10)) else upd (upd a (n + 1) (nI (48 + v % 10))) n (nI (48 + v / 10))
theorem nI_m1 {n : Nat} : nI (n + 1) + Int32.ofInt (-1) = nI n := by
  rw [show Int32.ofInt (-1) = -1 from rfl, ← Int32.sub_eq_add_neg]
  exact nI_pred n
theorem wr_fit {a : Nat → Int32} {n v : Nat} (h : fitB a) (hv : v < 100) : fitB (wr a n v) := by
  unfold wr
  split
  · exact fit_u h (fit_n (by omega))
  · exact fit_u (fit_u h (fit_n (by omega))) (fit_n (by omega))
theorem wr_by {a : Nat → Int32} {n v : Nat} (h : okby a n) (hv : v < 100) : okby (wr a n v) (n + dg v) := by
  intro j hj
  unfold wr dg at *
  by_cases h10 : v < 10
  · rw [if_pos h10]
    rw [if_pos h10] at hj
    by_cases e : j = n
    · subst e; exact ⟨48 + v % 10, by omega, by omega, pk_us⟩
    · rw [pk_un e]; exact h j (by omega)
  · rw [if_neg h10]
    rw [if_neg h10] at hj
    by_cases e : j = n
    · subst e; exact ⟨48 + v / 10, by omega, by omega, pk_us⟩
    · rw [pk_un e]
      by_cases e2 : j = n + 1
      · subst e2; exact ⟨48 + v % 10, by omega, by omega, pk_us⟩
      · rw [pk_un e2]; exact h j (by omega)
theorem set_at {ws : va_W} {i : Nat} {x y : Nat × va_E} (h : ws[i]? = some y) : (ws.set i x)[i]? = some x := by
  rw [List.getElem?_set_self (List.getElem?_eq_some_iff.mp h).1]
theorem set_set {ws : va_W} {i : Nat} {x y : Nat × va_E} : (ws.set i x).set i y = ws.set i y := List.set_set ..
theorem dJ6_getChars_ba4f3_0 : decode cJ6_getChars_ba4f3 0 = .ok (.iload_n 1, 1) := by decide +kernel
theorem dJ6_getChars_ba4f3_1 : decode cJ6_getChars_ba4f3 1 = .ok (.istore 5, 2) := by decide +kernel
theorem dJ6_getChars_ba4f3_3 : decode cJ6_getChars_ba4f3 3 = .ok (.iload_n 0, 1) := by decide +kernel
theorem dJ6_getChars_ba4f3_4 : decode cJ6_getChars_ba4f3 4 = .ok (.ifCond .ge 7, 3) := by decide +kernel
theorem dJ6_getChars_ba4f3_7 : decode cJ6_getChars_ba4f3 7 = .ok (.iconst 1, 1) := by decide +kernel
theorem dJ6_getChars_ba4f3_8 : decode cJ6_getChars_ba4f3 8 = .ok (.goto 4, 3) := by decide +kernel
theorem dJ6_getChars_ba4f3_11 : decode cJ6_getChars_ba4f3 11 = .ok (.iconst 0, 1) := by decide +kernel
theorem dJ6_getChars_ba4f3_12 : decode cJ6_getChars_ba4f3 12 = .ok (.istore 6, 2) := by decide +kernel
theorem dJ6_getChars_ba4f3_14 : decode cJ6_getChars_ba4f3 14 = .ok (.iload 6, 2) := by decide +kernel
theorem dJ6_getChars_ba4f3_16 : decode cJ6_getChars_ba4f3 16 = .ok (.ifCond .ne 6, 3) := by decide +kernel
theorem dJ6_getChars_ba4f3_19 : decode cJ6_getChars_ba4f3 19 = .ok (.iload_n 0, 1) := by decide +kernel
theorem dJ6_getChars_ba4f3_20 : decode cJ6_getChars_ba4f3 20 = .ok (.ineg, 1) := by decide +kernel
theorem dJ6_getChars_ba4f3_21 : decode cJ6_getChars_ba4f3 21 = .ok (.istore_n 0, 1) := by decide +kernel
theorem dJ6_getChars_ba4f3_22 : decode cJ6_getChars_ba4f3 22 = .ok (.iload_n 0, 1) := by decide +kernel
theorem dJ6_getChars_ba4f3_23 : decode cJ6_getChars_ba4f3 23 = .ok (.bipush (-100), 2) := by decide +kernel
theorem dJ6_getChars_ba4f3_25 : decode cJ6_getChars_ba4f3 25 = .ok (.if_icmp .gt 47, 3) := by decide +kernel
theorem dJ6_getChars_ba4f3_28 : decode cJ6_getChars_ba4f3 28 = .ok (.iload_n 0, 1) := by decide +kernel
theorem dJ6_getChars_ba4f3_29 : decode cJ6_getChars_ba4f3 29 = .ok (.bipush 100, 2) := by decide +kernel
theorem dJ6_getChars_ba4f3_31 : decode cJ6_getChars_ba4f3 31 = .ok (.idiv, 1) := by decide +kernel
theorem dJ6_getChars_ba4f3_32 : decode cJ6_getChars_ba4f3 32 = .ok (.istore_n 3, 1) := by decide +kernel
theorem dJ6_getChars_ba4f3_33 : decode cJ6_getChars_ba4f3 33 = .ok (.iload_n 3, 1) := by decide +kernel
theorem dJ6_getChars_ba4f3_34 : decode cJ6_getChars_ba4f3 34 = .ok (.bipush 100, 2) := by decide +kernel
theorem dJ6_getChars_ba4f3_36 : decode cJ6_getChars_ba4f3 36 = .ok (.imul, 1) := by decide +kernel
theorem dJ6_getChars_ba4f3_37 : decode cJ6_getChars_ba4f3 37 = .ok (.iload_n 0, 1) := by decide +kernel
theorem dJ6_getChars_ba4f3_38 : decode cJ6_getChars_ba4f3 38 = .ok (.isub, 1) := by decide +kernel
theorem dJ6_getChars_ba4f3_39 : decode cJ6_getChars_ba4f3 39 = .ok (.istore 4, 2) := by decide +kernel
theorem dJ6_getChars_ba4f3_41 : decode cJ6_getChars_ba4f3 41 = .ok (.iload_n 3, 1) := by decide +kernel
theorem dJ6_getChars_ba4f3_42 : decode cJ6_getChars_ba4f3 42 = .ok (.istore_n 0, 1) := by decide +kernel
theorem dJ6_getChars_ba4f3_43 : decode cJ6_getChars_ba4f3 43 = .ok (.aload_n 2, 1) := by decide +kernel
theorem dJ6_getChars_ba4f3_44 : decode cJ6_getChars_ba4f3 44 = .ok (.iinc 5 (-1), 3) := by decide +kernel
theorem dJ6_getChars_ba4f3_47 : decode cJ6_getChars_ba4f3 47 = .ok (.iload 5, 2) := by decide +kernel
theorem dJ6_getChars_ba4f3_49 : decode cJ6_getChars_ba4f3 49 = .ok (.getstatic 83, 3) := by decide +kernel
theorem dJ6_getChars_ba4f3_52 : decode cJ6_getChars_ba4f3 52 = .ok (.iload 4, 2) := by decide +kernel
theorem dJ6_getChars_ba4f3_54 : decode cJ6_getChars_ba4f3 54 = .ok (.baload, 1) := by decide +kernel
theorem dJ6_getChars_ba4f3_55 : decode cJ6_getChars_ba4f3 55 = .ok (.bastore, 1) := by decide +kernel
theorem dJ6_getChars_ba4f3_56 : decode cJ6_getChars_ba4f3 56 = .ok (.aload_n 2, 1) := by decide +kernel
theorem dJ6_getChars_ba4f3_57 : decode cJ6_getChars_ba4f3 57 = .ok (.iinc 5 (-1), 3) := by decide +kernel
theorem dJ6_getChars_ba4f3_60 : decode cJ6_getChars_ba4f3 60 = .ok (.iload 5, 2) := by decide +kernel
theorem dJ6_getChars_ba4f3_62 : decode cJ6_getChars_ba4f3 62 = .ok (.getstatic 87, 3) := by decide +kernel
theorem dJ6_getChars_ba4f3_65 : decode cJ6_getChars_ba4f3 65 = .ok (.iload 4, 2) := by decide +kernel
theorem dJ6_getChars_ba4f3_67 : decode cJ6_getChars_ba4f3 67 = .ok (.baload, 1) := by decide +kernel
theorem dJ6_getChars_ba4f3_68 : decode cJ6_getChars_ba4f3 68 = .ok (.bastore, 1) := by decide +kernel
theorem dJ6_getChars_ba4f3_69 : decode cJ6_getChars_ba4f3 69 = .ok (.goto (-47), 3) := by decide +kernel
theorem dJ6_getChars_ba4f3_72 : decode cJ6_getChars_ba4f3 72 = .ok (.aload_n 2, 1) := by decide +kernel
theorem dJ6_getChars_ba4f3_73 : decode cJ6_getChars_ba4f3 73 = .ok (.iinc 5 (-1), 3) := by decide +kernel
theorem dJ6_getChars_ba4f3_76 : decode cJ6_getChars_ba4f3 76 = .ok (.iload 5, 2) := by decide +kernel
theorem dJ6_getChars_ba4f3_78 : decode cJ6_getChars_ba4f3 78 = .ok (.getstatic 83, 3) := by decide +kernel
theorem dJ6_getChars_ba4f3_81 : decode cJ6_getChars_ba4f3 81 = .ok (.iload_n 0, 1) := by decide +kernel
theorem dJ6_getChars_ba4f3_82 : decode cJ6_getChars_ba4f3 82 = .ok (.ineg, 1) := by decide +kernel
theorem dJ6_getChars_ba4f3_83 : decode cJ6_getChars_ba4f3 83 = .ok (.baload, 1) := by decide +kernel
theorem dJ6_getChars_ba4f3_84 : decode cJ6_getChars_ba4f3 84 = .ok (.bastore, 1) := by decide +kernel
theorem dJ6_getChars_ba4f3_85 : decode cJ6_getChars_ba4f3 85 = .ok (.iload_n 0, 1) := by decide +kernel
theorem dJ6_getChars_ba4f3_86 : decode cJ6_getChars_ba4f3 86 = .ok (.bipush (-9), 2) := by decide +kernel
theorem dJ6_getChars_ba4f3_88 : decode cJ6_getChars_ba4f3 88 = .ok (.if_icmp .ge 16, 3) := by decide +kernel
theorem dJ6_getChars_ba4f3_91 : decode cJ6_getChars_ba4f3 91 = .ok (.aload_n 2, 1) := by decide +kernel
theorem dJ6_getChars_ba4f3_92 : decode cJ6_getChars_ba4f3 92 = .ok (.iinc 5 (-1), 3) := by decide +kernel
theorem dJ6_getChars_ba4f3_95 : decode cJ6_getChars_ba4f3 95 = .ok (.iload 5, 2) := by decide +kernel
theorem dJ6_getChars_ba4f3_97 : decode cJ6_getChars_ba4f3 97 = .ok (.getstatic 87, 3) := by decide +kernel
theorem dJ6_getChars_ba4f3_100 : decode cJ6_getChars_ba4f3 100 = .ok (.iload_n 0, 1) := by decide +kernel
theorem dJ6_getChars_ba4f3_101 : decode cJ6_getChars_ba4f3 101 = .ok (.ineg, 1) := by decide +kernel
theorem dJ6_getChars_ba4f3_102 : decode cJ6_getChars_ba4f3 102 = .ok (.baload, 1) := by decide +kernel
theorem dJ6_getChars_ba4f3_103 : decode cJ6_getChars_ba4f3 103 = .ok (.bastore, 1) := by decide +kernel
theorem dJ6_getChars_ba4f3_104 : decode cJ6_getChars_ba4f3 104 = .ok (.iload 6, 2) := by decide +kernel
theorem dJ6_getChars_ba4f3_106 : decode cJ6_getChars_ba4f3 106 = .ok (.ifCond .eq 12, 3) := by decide +kernel
theorem dJ6_getChars_ba4f3_109 : decode cJ6_getChars_ba4f3 109 = .ok (.aload_n 2, 1) := by decide +kernel
theorem dJ6_getChars_ba4f3_110 : decode cJ6_getChars_ba4f3 110 = .ok (.iinc 5 (-1), 3) := by decide +kernel
theorem dJ6_getChars_ba4f3_113 : decode cJ6_getChars_ba4f3 113 = .ok (.iload 5, 2) := by decide +kernel
theorem dJ6_getChars_ba4f3_115 : decode cJ6_getChars_ba4f3 115 = .ok (.bipush 45, 2) := by decide +kernel
theorem dJ6_getChars_ba4f3_117 : decode cJ6_getChars_ba4f3 117 = .ok (.bastore, 1) := by decide +kernel
theorem dJ6_getChars_ba4f3_118 : decode cJ6_getChars_ba4f3 118 = .ok (.iload 5, 2) := by decide +kernel
theorem dJ6_getChars_ba4f3_120 : decode cJ6_getChars_ba4f3 120 = .ok (.ireturn, 1) := by decide +kernel
set_option maxRecDepth 100000 in
set_option maxHeartbeats 4000000 in
theorem G_chars {cA : Nat → ClassId} {ad : tA} {ws : va_W} {i r m n v p : Nat} {a : Nat → Int32} (hv : v < 100) (ha : ws[i]? = some (r, .inl (cA 5, m, .inl a))) (hp : p = n + dg v) (hm : p ≤ m) (hm2 : m ≤ 100) : Cg yJ6_getChars_ba4f3 cJ6_getChars_ba4f3 7 (some .int) (rmg 0 0 0) 0 0 cA ad [.int (nI v), .int (nI p), .ref r] ws (Qs (some (.int (nI n))) (ws.set i (r, .inl (cA 5, m, .inl (wr a n v))))) := by
  refine c_of_g (isI := false) (lv0 := [some (.int (nI v)), some (.int (nI p)), some (.ref r), none, none, none, none]) (fun h => by first | rfl | cases h) rfl (by decide +kernel) (Nat.le_of_ble_eq_true rfl) rfl ?_
  by_cases h10 : v < 10
  · obtain rfl : p = n + 1 := by rw [hp, dg, if_pos h10]
    refine g_iload_n dJ6_getChars_ba4f3_0 rfl ?_
    refine g_istore dJ6_getChars_ba4f3_1 (by decide) rfl ?_
    refine g_iload_n dJ6_getChars_ba4f3_3 rfl ?_
    refine g_if_ge (tgt := 11) dJ6_getChars_ba4f3_4 (by decide) (fun c4 => ?_) (fun c4 => absurd (nI_pos' (by omega)) c4)
    refine g_iconst (v := 0) dJ6_getChars_ba4f3_11 (by decide) ?_
    refine g_istore dJ6_getChars_ba4f3_12 (by decide) rfl ?_
    refine g_iload dJ6_getChars_ba4f3_14 rfl ?_
    refine g_if_ne (tgt := 22) dJ6_getChars_ba4f3_16 (by decide) (fun c16 => absurd rfl c16) (fun c16 => ?_)
    refine g_iload_n dJ6_getChars_ba4f3_19 rfl ?_
    refine g_ineg dJ6_getChars_ba4f3_20 ?_
    refine g_istore_n dJ6_getChars_ba4f3_21 (by decide) rfl ?_
    refine g_iload_n dJ6_getChars_ba4f3_22 rfl ?_
    refine g_bipush (v := -100) dJ6_getChars_ba4f3_23 (by decide) ?_
    refine g_icmp_gt (tgt := 72) dJ6_getChars_ba4f3_25 (by decide) (fun c25 => ?_) (fun c25 => absurd ((neg_lt (c := 100) hv (by omega)).mpr hv) c25)
    refine g_aload_n dJ6_getChars_ba4f3_72 rfl ?_
    refine g_iinc dJ6_getChars_ba4f3_73 rfl (nI_m1 (n := n)) (by decide) rfl ?_
    refine g_iload dJ6_getChars_ba4f3_76 rfl ?_
    refine g_getsD (i := 0) (by decide) q769 dJ6_getChars_ba4f3_78 ?_
    refine g_iload_n dJ6_getChars_ba4f3_81 rfl ?_
    refine g_ineg dJ6_getChars_ba4f3_82 ?_
    refine g_dig_ld (Or.inl rfl) (Int32.neg_neg (a := nI v)) hv dJ6_getChars_ba4f3_83 ?_
    refine g_bast 5 (fun _ => rfl) ha (vp_in_nI (by omega) (by omega)) rfl dJ6_getChars_ba4f3_84 ?_
    refine g_iload_n dJ6_getChars_ba4f3_85 rfl ?_
    refine g_bipush (v := -9) dJ6_getChars_ba4f3_86 (by decide) ?_
    refine g_icmp_ge (tgt := 104) dJ6_getChars_ba4f3_88 (by decide) (fun c88 => ?_) (fun c88 => absurd ((neg_le (c := 9) hv (by omega)).mpr (by omega)) c88)
    refine g_iload dJ6_getChars_ba4f3_104 rfl ?_
    refine g_if_eq (tgt := 118) dJ6_getChars_ba4f3_106 (by decide) (fun c106 => ?_) (fun c106 => absurd rfl c106)
    refine g_iload dJ6_getChars_ba4f3_118 rfl ?_
    exact g_zret rfl rfl dJ6_getChars_ba4f3_120 (Nat.le_of_ble_eq_true rfl) (Nat.le_of_ble_eq_true rfl) ⟨rfl, by rw [nI_clamp (n := n) (by omega), show (if 0 = 0 then v % 10 else v / 10) = v % 10 from if_pos rfl, nar_n (by omega), wr, if_pos h10]⟩
  · obtain rfl : p = n + 1 + 1 := by rw [hp, dg, if_neg h10]
    refine g_iload_n dJ6_getChars_ba4f3_0 rfl ?_
    refine g_istore dJ6_getChars_ba4f3_1 (by decide) rfl ?_
    refine g_iload_n dJ6_getChars_ba4f3_3 rfl ?_
    refine g_if_ge (tgt := 11) dJ6_getChars_ba4f3_4 (by decide) (fun c4 => ?_) (fun c4 => absurd (nI_pos' (by omega)) c4)
    refine g_iconst (v := 0) dJ6_getChars_ba4f3_11 (by decide) ?_
    refine g_istore dJ6_getChars_ba4f3_12 (by decide) rfl ?_
    refine g_iload dJ6_getChars_ba4f3_14 rfl ?_
    refine g_if_ne (tgt := 22) dJ6_getChars_ba4f3_16 (by decide) (fun c16 => absurd rfl c16) (fun c16 => ?_)
    refine g_iload_n dJ6_getChars_ba4f3_19 rfl ?_
    refine g_ineg dJ6_getChars_ba4f3_20 ?_
    refine g_istore_n dJ6_getChars_ba4f3_21 (by decide) rfl ?_
    refine g_iload_n dJ6_getChars_ba4f3_22 rfl ?_
    refine g_bipush (v := -100) dJ6_getChars_ba4f3_23 (by decide) ?_
    refine g_icmp_gt (tgt := 72) dJ6_getChars_ba4f3_25 (by decide) (fun c25 => ?_) (fun c25 => absurd ((neg_lt (c := 100) hv (by omega)).mpr hv) c25)
    refine g_aload_n dJ6_getChars_ba4f3_72 rfl ?_
    refine g_iinc dJ6_getChars_ba4f3_73 rfl (nI_m1 (n := n + 1)) (by decide) rfl ?_
    refine g_iload dJ6_getChars_ba4f3_76 rfl ?_
    refine g_getsD (i := 0) (by decide) q769 dJ6_getChars_ba4f3_78 ?_
    refine g_iload_n dJ6_getChars_ba4f3_81 rfl ?_
    refine g_ineg dJ6_getChars_ba4f3_82 ?_
    refine g_dig_ld (Or.inl rfl) (Int32.neg_neg (a := nI v)) hv dJ6_getChars_ba4f3_83 ?_
    refine g_bast 5 (fun _ => rfl) ha (vp_in_nI (by omega) (by omega)) rfl dJ6_getChars_ba4f3_84 ?_
    have hb := set_at (x := (r, (.inl (cA 5, m, .inl (upd a (nI (n + 1)).toNatClampNeg (vp_nar .byte (nI (48 + (if 0 = 0 then v % 10 else v / 10))))) ) : va_E))) ha
    refine g_iload_n dJ6_getChars_ba4f3_85 rfl ?_
    refine g_bipush (v := -9) dJ6_getChars_ba4f3_86 (by decide) ?_
    refine g_icmp_ge (tgt := 104) dJ6_getChars_ba4f3_88 (by decide) (fun c88 => absurd ((neg_le (c := 9) hv (by omega)).mp c88) (by omega)) (fun c88 => ?_)
    refine g_aload_n dJ6_getChars_ba4f3_91 rfl ?_
    refine g_iinc dJ6_getChars_ba4f3_92 rfl (nI_m1 (n := n)) (by decide) rfl ?_
    refine g_iload dJ6_getChars_ba4f3_95 rfl ?_
    refine g_getsD (i := 1) (by decide) q770 dJ6_getChars_ba4f3_97 ?_
    refine g_iload_n dJ6_getChars_ba4f3_100 rfl ?_
    refine g_ineg dJ6_getChars_ba4f3_101 ?_
    refine g_dig_ld (Or.inr rfl) (Int32.neg_neg (a := nI v)) hv dJ6_getChars_ba4f3_102 ?_
    refine g_bast 5 (fun _ => rfl) hb (vp_in_nI (by omega) (by omega)) rfl dJ6_getChars_ba4f3_103 ?_
    refine g_iload dJ6_getChars_ba4f3_104 rfl ?_
    refine g_if_eq (tgt := 118) dJ6_getChars_ba4f3_106 (by decide) (fun c106 => ?_) (fun c106 => absurd rfl c106)
    refine g_iload dJ6_getChars_ba4f3_118 rfl ?_
    exact g_zret rfl rfl dJ6_getChars_ba4f3_120 (Nat.le_of_ble_eq_true rfl) (Nat.le_of_ble_eq_true rfl) ⟨rfl, by rw [nI_clamp (n := n) (by omega), nI_clamp (n := n + 1) (by omega), show (if 0 = 0 then v % 10 else v / 10) = v % 10 from if_pos rfl, show (if 1 = 0 then v % 10 else v / 10) = v / 10 from if_neg (by omega), nar_n (by omega), nar_n (by omega), wr, if_neg h10, set_set]⟩
theorem max18 {g : Nat} (hg : g ≤ 18) : (if nI g < 18 then 18 else nI g) = (18 : Int32) := by
  have h : ∀ g, g < 19 → (if nI g < 18 then 18 else nI g) = (18 : Int32) := by decide +kernel
  exact h g (by omega)
theorem cap_no {m q : Nat} (hm : m ≤ 34) (hq : q ≤ m) : nI q - nI m ≤ 0 := by
  have h : ∀ m, m < 35 → ∀ q, q < 35 → q ≤ m → nI q - nI m ≤ 0 := by decide +kernel
  exact h m (by omega) q (by omega) hq
theorem cap_yes {q : Nat} (h1 : 16 < q) (h2 : q ≤ 34) : ¬ nI q - nI 16 ≤ 0 := by
  have h : ∀ q, q < 35 → 16 < q → ¬ nI q - nI 16 ≤ 0 := by decide +kernel
  exact h q (by omega) h1
theorem min_le {n m : Nat} (h : n ≤ m) (hm : m ≤ 34) : (if nI n < nI m then nI n else nI m) = nI n := by
  by_cases e : n < m
  · exact if_pos (nI_lt e (by omega))
  · obtain rfl : n = m := by omega
    exact if_neg (nI_nlt (Nat.le_refl _) (by omega))
theorem dJ8_newLength_cabcc_0 : decode cJ8_newLength_cabcc 0 = .ok (.iload_n 0, 1) := by decide +kernel
theorem dJ8_newLength_cabcc_1 : decode cJ8_newLength_cabcc 1 = .ok (.iload_n 1, 1) := by decide +kernel
theorem dJ8_newLength_cabcc_2 : decode cJ8_newLength_cabcc 2 = .ok (.iload_n 2, 1) := by decide +kernel
theorem dJ8_newLength_cabcc_3 : decode cJ8_newLength_cabcc 3 = .ok (.invokestatic 194, 3) := by decide +kernel
theorem dJ8_newLength_cabcc_6 : decode cJ8_newLength_cabcc 6 = .ok (.iadd, 1) := by decide +kernel
theorem dJ8_newLength_cabcc_7 : decode cJ8_newLength_cabcc 7 = .ok (.istore_n 3, 1) := by decide +kernel
theorem dJ8_newLength_cabcc_8 : decode cJ8_newLength_cabcc 8 = .ok (.iconst 0, 1) := by decide +kernel
theorem dJ8_newLength_cabcc_9 : decode cJ8_newLength_cabcc 9 = .ok (.iload_n 3, 1) := by decide +kernel
theorem dJ8_newLength_cabcc_10 : decode cJ8_newLength_cabcc 10 = .ok (.if_icmp .ge 11, 3) := by decide +kernel
theorem dJ8_newLength_cabcc_13 : decode cJ8_newLength_cabcc 13 = .ok (.iload_n 3, 1) := by decide +kernel
theorem dJ8_newLength_cabcc_14 : decode cJ8_newLength_cabcc 14 = .ok (.ldc 200, 2) := by decide +kernel
theorem dJ8_newLength_cabcc_16 : decode cJ8_newLength_cabcc 16 = .ok (.if_icmp .gt 5, 3) := by decide +kernel
theorem dJ8_newLength_cabcc_19 : decode cJ8_newLength_cabcc 19 = .ok (.iload_n 3, 1) := by decide +kernel
theorem dJ8_newLength_cabcc_20 : decode cJ8_newLength_cabcc 20 = .ok (.ireturn, 1) := by decide +kernel
theorem dJ8_newLength_cabcc_21 : decode cJ8_newLength_cabcc 21 = .ok (.iload_n 0, 1) := by decide +kernel
theorem dJ8_newLength_cabcc_22 : decode cJ8_newLength_cabcc 22 = .ok (.iload_n 1, 1) := by decide +kernel
theorem dJ8_newLength_cabcc_23 : decode cJ8_newLength_cabcc 23 = .ok (.invokestatic 201, 3) := by decide +kernel
theorem dJ8_newLength_cabcc_26 : decode cJ8_newLength_cabcc 26 = .ok (.ireturn, 1) := by decide +kernel
set_option maxRecDepth 100000 in
set_option maxHeartbeats 4000000 in
theorem G_newLen {cA : Nat → ClassId} {ad : tA} {ws : va_W} {g : Nat} (hg : g ≤ 18) : Cg yJ8_newLength_cabcc cJ8_newLength_cabcc 4 (some .int) (rmg 1 0 0) 0 0 cA ad [.int 16, .int (nI g), .int 18] ws (Qs (some (.int 34)) ws) := by
  refine c_of_g (isI := false) (lv0 := [some (.int 16), some (.int (nI g)), some (.int 18), none]) (fun h => by first | rfl | cases h) rfl (by decide +kernel) (Nat.le_of_ble_eq_true rfl) rfl ?_
  refine g_iload_n dJ8_newLength_cabcc_0 rfl ?_
  refine g_iload_n dJ8_newLength_cabcc_1 rfl ?_
  refine g_iload_n dJ8_newLength_cabcc_2 rfl ?_
  refine g_mmax q683 (Nat.le_of_ble_eq_true rfl) (Nat.le_of_ble_eq_true rfl) ⟨(Nat.le_of_ble_eq_true rfl), (Nat.le_of_ble_eq_true rfl)⟩ dJ8_newLength_cabcc_3 ?_
  rw [max18 hg]
  refine g_iadd dJ8_newLength_cabcc_6 ?_
  refine g_istore_n dJ8_newLength_cabcc_7 (by decide) rfl ?_
  refine g_iconst (v := 0) dJ8_newLength_cabcc_8 (by decide) ?_
  refine g_iload_n dJ8_newLength_cabcc_9 rfl ?_
  refine g_icmp_ge (tgt := 21) dJ8_newLength_cabcc_10 (by decide) (fun c10 => absurd c10 (by decide)) (fun c10 => ?_)
  refine g_iload_n dJ8_newLength_cabcc_13 rfl ?_
  refine g_ldc dJ8_newLength_cabcc_14 q684 ?_
  refine g_icmp_gt (tgt := 21) dJ8_newLength_cabcc_16 (by decide) (fun c16 => absurd c16 (by decide)) (fun c16 => ?_)
  refine g_iload_n dJ8_newLength_cabcc_19 rfl ?_
  exact g_zret rfl rfl dJ8_newLength_cabcc_20 (Nat.le_of_ble_eq_true rfl) (Nat.le_of_ble_eq_true rfl) ⟨rfl, rfl⟩
theorem dJ5_newCapacity_0f7a4_0 : decode cJ5_newCapacity_0f7a4 0 = .ok (.aload_n 0, 1) := by decide +kernel
theorem dJ5_newCapacity_0f7a4_1 : decode cJ5_newCapacity_0f7a4 1 = .ok (.getfield 15, 3) := by decide +kernel
theorem dJ5_newCapacity_0f7a4_4 : decode cJ5_newCapacity_0f7a4 4 = .ok (.arraylength, 1) := by decide +kernel
theorem dJ5_newCapacity_0f7a4_5 : decode cJ5_newCapacity_0f7a4 5 = .ok (.istore_n 2, 1) := by decide +kernel
theorem dJ5_newCapacity_0f7a4_6 : decode cJ5_newCapacity_0f7a4 6 = .ok (.iload_n 1, 1) := by decide +kernel
theorem dJ5_newCapacity_0f7a4_7 : decode cJ5_newCapacity_0f7a4 7 = .ok (.aload_n 0, 1) := by decide +kernel
theorem dJ5_newCapacity_0f7a4_8 : decode cJ5_newCapacity_0f7a4 8 = .ok (.getfield 22, 3) := by decide +kernel
theorem dJ5_newCapacity_0f7a4_11 : decode cJ5_newCapacity_0f7a4 11 = .ok (.ishl, 1) := by decide +kernel
theorem dJ5_newCapacity_0f7a4_12 : decode cJ5_newCapacity_0f7a4 12 = .ok (.istore_n 3, 1) := by decide +kernel
theorem dJ5_newCapacity_0f7a4_13 : decode cJ5_newCapacity_0f7a4 13 = .ok (.iload_n 3, 1) := by decide +kernel
theorem dJ5_newCapacity_0f7a4_14 : decode cJ5_newCapacity_0f7a4 14 = .ok (.iload_n 2, 1) := by decide +kernel
theorem dJ5_newCapacity_0f7a4_15 : decode cJ5_newCapacity_0f7a4 15 = .ok (.isub, 1) := by decide +kernel
theorem dJ5_newCapacity_0f7a4_16 : decode cJ5_newCapacity_0f7a4 16 = .ok (.istore 4, 2) := by decide +kernel
theorem dJ5_newCapacity_0f7a4_18 : decode cJ5_newCapacity_0f7a4 18 = .ok (.iload_n 2, 1) := by decide +kernel
theorem dJ5_newCapacity_0f7a4_19 : decode cJ5_newCapacity_0f7a4 19 = .ok (.iload 4, 2) := by decide +kernel
theorem dJ5_newCapacity_0f7a4_21 : decode cJ5_newCapacity_0f7a4 21 = .ok (.iload_n 2, 1) := by decide +kernel
theorem dJ5_newCapacity_0f7a4_22 : decode cJ5_newCapacity_0f7a4 22 = .ok (.iconst 2, 1) := by decide +kernel
theorem dJ5_newCapacity_0f7a4_23 : decode cJ5_newCapacity_0f7a4 23 = .ok (.aload_n 0, 1) := by decide +kernel
theorem dJ5_newCapacity_0f7a4_24 : decode cJ5_newCapacity_0f7a4 24 = .ok (.getfield 22, 3) := by decide +kernel
theorem dJ5_newCapacity_0f7a4_27 : decode cJ5_newCapacity_0f7a4 27 = .ok (.ishl, 1) := by decide +kernel
theorem dJ5_newCapacity_0f7a4_28 : decode cJ5_newCapacity_0f7a4 28 = .ok (.iadd, 1) := by decide +kernel
theorem dJ5_newCapacity_0f7a4_29 : decode cJ5_newCapacity_0f7a4 29 = .ok (.invokestatic 114, 3) := by decide +kernel
theorem dJ5_newCapacity_0f7a4_32 : decode cJ5_newCapacity_0f7a4 32 = .ok (.istore 5, 2) := by decide +kernel
theorem dJ5_newCapacity_0f7a4_34 : decode cJ5_newCapacity_0f7a4 34 = .ok (.iload 5, 2) := by decide +kernel
theorem dJ5_newCapacity_0f7a4_36 : decode cJ5_newCapacity_0f7a4 36 = .ok (.ldc 39, 2) := by decide +kernel
theorem dJ5_newCapacity_0f7a4_38 : decode cJ5_newCapacity_0f7a4 38 = .ok (.if_icmp .ne 13, 3) := by decide +kernel
theorem dJ5_newCapacity_0f7a4_41 : decode cJ5_newCapacity_0f7a4 41 = .ok (.new 120, 3) := by decide +kernel
theorem dJ5_newCapacity_0f7a4_44 : decode cJ5_newCapacity_0f7a4 44 = .ok (.dup, 1) := by decide +kernel
theorem dJ5_newCapacity_0f7a4_45 : decode cJ5_newCapacity_0f7a4 45 = .ok (.ldc 122, 2) := by decide +kernel
theorem dJ5_newCapacity_0f7a4_47 : decode cJ5_newCapacity_0f7a4 47 = .ok (.invokespecial 124, 3) := by decide +kernel
theorem dJ5_newCapacity_0f7a4_50 : decode cJ5_newCapacity_0f7a4 50 = .ok (.athrow, 1) := by decide +kernel
theorem dJ5_newCapacity_0f7a4_51 : decode cJ5_newCapacity_0f7a4 51 = .ok (.iload 5, 2) := by decide +kernel
theorem dJ5_newCapacity_0f7a4_53 : decode cJ5_newCapacity_0f7a4 53 = .ok (.aload_n 0, 1) := by decide +kernel
theorem dJ5_newCapacity_0f7a4_54 : decode cJ5_newCapacity_0f7a4 54 = .ok (.getfield 22, 3) := by decide +kernel
theorem dJ5_newCapacity_0f7a4_57 : decode cJ5_newCapacity_0f7a4 57 = .ok (.ishr, 1) := by decide +kernel
theorem dJ5_newCapacity_0f7a4_58 : decode cJ5_newCapacity_0f7a4 58 = .ok (.ireturn, 1) := by decide +kernel
set_option maxRecDepth 100000 in
set_option maxHeartbeats 4000000 in
theorem G_newCap {cA : Nat → ClassId} {ad : tA} {W : va_W} {b v n qq : Nat} {a : Nat → Int32} (h1 : 16 < qq) (h2 : qq ≤ 34) : Cg yJ5_newCapacity_0f7a4 cJ5_newCapacity_0f7a4 6 (some .int) (rmg 2 0 0) 0 0 cA ad [.ref b, .int (nI qq)] (W ++ sbc cA b v n 16 a) (Qs (some (.int 34)) (W ++ sbc cA b v n 16 a)) := by
  refine c_of_g (isI := false) (lv0 := [some (.ref b), some (.int (nI qq)), none, none, none, none]) (fun h => by first | rfl | cases h) rfl (by decide +kernel) (Nat.le_of_ble_eq_true rfl) rfl ?_
  refine g_aload_n dJ5_newCapacity_0f7a4_0 rfl ?_
  refine g_get (i := W.length) at_0 (rfl : vwCl[1]? = some (RJ4, TJ4, 4)) inlJ4 0 (by decide) q647 rfl dJ5_newCapacity_0f7a4_1 ?_
  refine g_alen (v := nI 16) 5 (fun _ => rfl) at_1 rfl dJ5_newCapacity_0f7a4_4 ?_
  refine g_istore_n dJ5_newCapacity_0f7a4_5 (by decide) rfl ?_
  refine g_iload_n dJ5_newCapacity_0f7a4_6 rfl ?_
  refine g_aload_n dJ5_newCapacity_0f7a4_7 rfl ?_
  refine g_get (i := W.length) at_0 (rfl : vwCl[1]? = some (RJ4, TJ4, 4)) inlJ4 1 (by decide) q648 rfl dJ5_newCapacity_0f7a4_8 ?_
  refine g_ishl dJ5_newCapacity_0f7a4_11 ?_
  rw [shl0]
  refine g_istore_n dJ5_newCapacity_0f7a4_12 (by decide) rfl ?_
  refine g_iload_n dJ5_newCapacity_0f7a4_13 rfl ?_
  refine g_iload_n dJ5_newCapacity_0f7a4_14 rfl ?_
  refine g_isub dJ5_newCapacity_0f7a4_15 ?_
  rw [show nI qq - nI 16 = nI (qq - 16) from pk_sub (by omega)]
  refine g_istore dJ5_newCapacity_0f7a4_16 (by decide) rfl ?_
  refine g_iload_n dJ5_newCapacity_0f7a4_18 rfl ?_
  refine g_iload dJ5_newCapacity_0f7a4_19 rfl ?_
  refine g_iload_n dJ5_newCapacity_0f7a4_21 rfl ?_
  refine g_iconst (v := 2) dJ5_newCapacity_0f7a4_22 (by decide) ?_
  refine g_aload_n dJ5_newCapacity_0f7a4_23 rfl ?_
  refine g_get (i := W.length) at_0 (rfl : vwCl[1]? = some (RJ4, TJ4, 4)) inlJ4 1 (by decide) q648 rfl dJ5_newCapacity_0f7a4_24 ?_
  refine g_ishl dJ5_newCapacity_0f7a4_27 ?_
  refine g_iadd dJ5_newCapacity_0f7a4_28 ?_
  refine g_callS (n := 3) (As := [.int 16, .int (nI (qq - 16)), .int 18]) (rest := []) dJ5_newCapacity_0f7a4_29 (G_newLen (g := qq - 16) (by omega)) ⟨q679, q680, q681, q682⟩ ⟨rfl, by decide, by decide, by decide +kernel⟩ rfl rfl rfl rfl ⟨by decide, by decide⟩ (Nat.le_of_ble_eq_true rfl) ⟨Nat.le_of_ble_eq_true rfl, Nat.le_of_ble_eq_true rfl⟩ (fun v w hv => ?_)
  obtain ⟨rfl, hw0⟩ := hv
  rw [hw0]
  refine g_istore dJ5_newCapacity_0f7a4_32 (by decide) rfl ?_
  refine g_iload dJ5_newCapacity_0f7a4_34 rfl ?_
  refine g_ldc dJ5_newCapacity_0f7a4_36 q678 ?_
  refine g_icmp_ne (tgt := 51) dJ5_newCapacity_0f7a4_38 (by decide) (fun c38 => ?_) (fun c38 => absurd c38 (by decide))
  refine g_iload dJ5_newCapacity_0f7a4_51 rfl ?_
  refine g_aload_n dJ5_newCapacity_0f7a4_53 rfl ?_
  refine g_get (i := W.length) at_0 (rfl : vwCl[1]? = some (RJ4, TJ4, 4)) inlJ4 1 (by decide) q648 rfl dJ5_newCapacity_0f7a4_54 ?_
  refine g_ishr dJ5_newCapacity_0f7a4_57 ?_
  rw [shr0]
  exact g_zret rfl rfl dJ5_newCapacity_0f7a4_58 (Nat.le_of_ble_eq_true rfl) (Nat.le_of_ble_eq_true rfl) ⟨rfl, rfl⟩
theorem dJ7_copyOf_9075b_0 : decode cJ7_copyOf_9075b 0 = .ok (.iload_n 1, 1) := by decide +kernel
theorem dJ7_copyOf_9075b_1 : decode cJ7_copyOf_9075b 1 = .ok (.aload_n 0, 1) := by decide +kernel
theorem dJ7_copyOf_9075b_2 : decode cJ7_copyOf_9075b 2 = .ok (.arraylength, 1) := by decide +kernel
theorem dJ7_copyOf_9075b_3 : decode cJ7_copyOf_9075b 3 = .ok (.if_icmp .ne 11, 3) := by decide +kernel
theorem dJ7_copyOf_9075b_6 : decode cJ7_copyOf_9075b 6 = .ok (.aload_n 0, 1) := by decide +kernel
theorem dJ7_copyOf_9075b_7 : decode cJ7_copyOf_9075b 7 = .ok (.invokevirtual 310, 3) := by decide +kernel
theorem dJ7_copyOf_9075b_10 : decode cJ7_copyOf_9075b 10 = .ok (.checkcast 311, 3) := by decide +kernel
theorem dJ7_copyOf_9075b_13 : decode cJ7_copyOf_9075b 13 = .ok (.areturn, 1) := by decide +kernel
theorem dJ7_copyOf_9075b_14 : decode cJ7_copyOf_9075b 14 = .ok (.iload_n 1, 1) := by decide +kernel
theorem dJ7_copyOf_9075b_15 : decode cJ7_copyOf_9075b 15 = .ok (.newarray .byte, 2) := by decide +kernel
theorem dJ7_copyOf_9075b_17 : decode cJ7_copyOf_9075b 17 = .ok (.astore_n 2, 1) := by decide +kernel
theorem dJ7_copyOf_9075b_18 : decode cJ7_copyOf_9075b 18 = .ok (.aload_n 0, 1) := by decide +kernel
theorem dJ7_copyOf_9075b_19 : decode cJ7_copyOf_9075b 19 = .ok (.iconst 0, 1) := by decide +kernel
theorem dJ7_copyOf_9075b_20 : decode cJ7_copyOf_9075b 20 = .ok (.aload_n 2, 1) := by decide +kernel
theorem dJ7_copyOf_9075b_21 : decode cJ7_copyOf_9075b 21 = .ok (.iconst 0, 1) := by decide +kernel
theorem dJ7_copyOf_9075b_22 : decode cJ7_copyOf_9075b 22 = .ok (.aload_n 0, 1) := by decide +kernel
theorem dJ7_copyOf_9075b_23 : decode cJ7_copyOf_9075b 23 = .ok (.arraylength, 1) := by decide +kernel
theorem dJ7_copyOf_9075b_24 : decode cJ7_copyOf_9075b 24 = .ok (.iload_n 1, 1) := by decide +kernel
theorem dJ7_copyOf_9075b_25 : decode cJ7_copyOf_9075b 25 = .ok (.invokestatic 304, 3) := by decide +kernel
theorem dJ7_copyOf_9075b_28 : decode cJ7_copyOf_9075b 28 = .ok (.invokestatic 150, 3) := by decide +kernel
theorem dJ7_copyOf_9075b_31 : decode cJ7_copyOf_9075b 31 = .ok (.aload_n 2, 1) := by decide +kernel
theorem dJ7_copyOf_9075b_32 : decode cJ7_copyOf_9075b 32 = .ok (.areturn, 1) := by decide +kernel
set_option maxRecDepth 100000 in
set_option maxHeartbeats 4000000 in
theorem G_copyOf {cA : Nat → ClassId} {ad : tA} {ws : va_W} {i v : Nat} {a : Nat → Int32} (ha : ws[i]? = some (v, .inl (cA 5, 16, .inl a))) (hf : fitB a) : Cg yJ7_copyOf_9075b cJ7_copyOf_9075b 3 (some (.array .byte)) (rmg 1 1 34) 1 34 cA ad [.ref v, .int 34] ws (fun x w => ∃ r : Nat, x = some (.ref r) ∧ w = ws ++ [(r, .inl (cA 5, 34, .inl (va_cpy a (fun _ => 0) 0 0 16)))]) := by
  refine c_of_g (isI := false) (lv0 := [some (.ref v), some (.int 34), none]) (fun h => by first | rfl | cases h) rfl (by decide +kernel) (Nat.le_of_ble_eq_true rfl) rfl ?_
  refine g_iload_n dJ7_copyOf_9075b_0 rfl ?_
  refine g_aload_n dJ7_copyOf_9075b_1 rfl ?_
  refine g_alen (v := nI 16) 5 (fun _ => rfl) ha rfl dJ7_copyOf_9075b_2 ?_
  refine g_icmp_ne (tgt := 14) dJ7_copyOf_9075b_3 (by decide) (fun c3 => ?_) (fun c3 => absurd c3 (by decide))
  refine g_iload_n dJ7_copyOf_9075b_14 rfl ?_
  refine g_newa (N := 34) (a0 := (34, .inl (fun _ => 0))) 5 (fun _ => rfl) q646 rfl (fun _ => rfl) (by decide) (by decide) (by decide) ⟨(Nat.le_of_ble_eq_true rfl), (Nat.le_of_ble_eq_true rfl)⟩ dJ7_copyOf_9075b_15 (fun r15 => ?_)
  refine g_astore_n dJ7_copyOf_9075b_17 (by decide) rfl ?_
  have ha2 : (ws ++ [(r15, (.inl (cA 5, 34, .inl (fun _ => 0)) : va_E))])[i]? = some (v, .inl (cA 5, 16, .inl a)) := by rw [List.getElem?_append_left (List.getElem?_eq_some_iff.mp ha).1]; exact ha
  refine g_aload_n dJ7_copyOf_9075b_18 rfl ?_
  refine g_iconst (v := 0) dJ7_copyOf_9075b_19 (by decide) ?_
  refine g_aload_n dJ7_copyOf_9075b_20 rfl ?_
  refine g_iconst (v := 0) dJ7_copyOf_9075b_21 (by decide) ?_
  refine g_aload_n dJ7_copyOf_9075b_22 rfl ?_
  refine g_alen (v := nI 16) 5 (fun _ => rfl) ha2 rfl dJ7_copyOf_9075b_23 ?_
  refine g_iload_n dJ7_copyOf_9075b_24 rfl ?_
  refine g_mmin q698 (Nat.le_of_ble_eq_true rfl) (Nat.le_of_ble_eq_true rfl) ⟨(Nat.le_of_ble_eq_true rfl), (Nat.le_of_ble_eq_true rfl)⟩ dJ7_copyOf_9075b_25 ?_
  refine g_copyB (n := 16) (j := ws.length) ha2 at_0 (by decide) (by decide) (by decide) (by decide) (by decide) hf (set_0 (T := [])) q699 q82 q83 q84 (Nat.le_of_ble_eq_true rfl) (Nat.le_of_ble_eq_true rfl) dJ7_copyOf_9075b_28 ?_
  refine g_aload_n dJ7_copyOf_9075b_31 rfl ?_
  exact g_aret rfl (Or.inr ⟨_, rfl⟩) dJ7_copyOf_9075b_32 (Nat.le_of_ble_eq_true rfl) (Nat.le_of_ble_eq_true rfl) ⟨r15, rfl, rfl⟩
theorem dJ5_ensureCapacityInternal_d00df_0 : decode cJ5_ensureCapacityInternal_d00df 0 = .ok (.aload_n 0, 1) := by decide +kernel
theorem dJ5_ensureCapacityInternal_d00df_1 : decode cJ5_ensureCapacityInternal_d00df 1 = .ok (.getfield 15, 3) := by decide +kernel
theorem dJ5_ensureCapacityInternal_d00df_4 : decode cJ5_ensureCapacityInternal_d00df 4 = .ok (.arraylength, 1) := by decide +kernel
theorem dJ5_ensureCapacityInternal_d00df_5 : decode cJ5_ensureCapacityInternal_d00df 5 = .ok (.aload_n 0, 1) := by decide +kernel
theorem dJ5_ensureCapacityInternal_d00df_6 : decode cJ5_ensureCapacityInternal_d00df 6 = .ok (.getfield 22, 3) := by decide +kernel
theorem dJ5_ensureCapacityInternal_d00df_9 : decode cJ5_ensureCapacityInternal_d00df 9 = .ok (.ishr, 1) := by decide +kernel
theorem dJ5_ensureCapacityInternal_d00df_10 : decode cJ5_ensureCapacityInternal_d00df 10 = .ok (.istore_n 2, 1) := by decide +kernel
theorem dJ5_ensureCapacityInternal_d00df_11 : decode cJ5_ensureCapacityInternal_d00df 11 = .ok (.iload_n 1, 1) := by decide +kernel
theorem dJ5_ensureCapacityInternal_d00df_12 : decode cJ5_ensureCapacityInternal_d00df 12 = .ok (.iload_n 2, 1) := by decide +kernel
theorem dJ5_ensureCapacityInternal_d00df_13 : decode cJ5_ensureCapacityInternal_d00df 13 = .ok (.isub, 1) := by decide +kernel
theorem dJ5_ensureCapacityInternal_d00df_14 : decode cJ5_ensureCapacityInternal_d00df 14 = .ok (.ifCond .le 24, 3) := by decide +kernel
theorem dJ5_ensureCapacityInternal_d00df_17 : decode cJ5_ensureCapacityInternal_d00df 17 = .ok (.aload_n 0, 1) := by decide +kernel
theorem dJ5_ensureCapacityInternal_d00df_18 : decode cJ5_ensureCapacityInternal_d00df 18 = .ok (.aload_n 0, 1) := by decide +kernel
theorem dJ5_ensureCapacityInternal_d00df_19 : decode cJ5_ensureCapacityInternal_d00df 19 = .ok (.getfield 15, 3) := by decide +kernel
theorem dJ5_ensureCapacityInternal_d00df_22 : decode cJ5_ensureCapacityInternal_d00df 22 = .ok (.aload_n 0, 1) := by decide +kernel
theorem dJ5_ensureCapacityInternal_d00df_23 : decode cJ5_ensureCapacityInternal_d00df 23 = .ok (.iload_n 1, 1) := by decide +kernel
theorem dJ5_ensureCapacityInternal_d00df_24 : decode cJ5_ensureCapacityInternal_d00df 24 = .ok (.invokevirtual 104, 3) := by decide +kernel
theorem dJ5_ensureCapacityInternal_d00df_27 : decode cJ5_ensureCapacityInternal_d00df 27 = .ok (.aload_n 0, 1) := by decide +kernel
theorem dJ5_ensureCapacityInternal_d00df_28 : decode cJ5_ensureCapacityInternal_d00df 28 = .ok (.getfield 22, 3) := by decide +kernel
theorem dJ5_ensureCapacityInternal_d00df_31 : decode cJ5_ensureCapacityInternal_d00df 31 = .ok (.ishl, 1) := by decide +kernel
theorem dJ5_ensureCapacityInternal_d00df_32 : decode cJ5_ensureCapacityInternal_d00df 32 = .ok (.invokestatic 108, 3) := by decide +kernel
theorem dJ5_ensureCapacityInternal_d00df_35 : decode cJ5_ensureCapacityInternal_d00df 35 = .ok (.putfield 15, 3) := by decide +kernel
theorem dJ5_ensureCapacityInternal_d00df_38 : decode cJ5_ensureCapacityInternal_d00df 38 = .ok (.return_, 1) := by decide +kernel
set_option maxRecDepth 100000 in
set_option maxHeartbeats 4000000 in
theorem G_ensure {cA : Nat → ClassId} {ad : tA} {W : va_W} {b v n m qq : Nat} {a : Nat → Int32} (hm : m = 16 ∨ m = 34) (hq2 : qq ≤ 34) (hf : fitB a) : Cg yJ5_ensureCapacityInternal_d00df cJ5_ensureCapacityInternal_d00df 3 none (rmg 3 1 34) 1 34 cA ad [.ref b, .int (nI qq)] (W ++ sbc cA b v n m a) (fun x w => x = none ∧ ∃ v2 m2 a2, (m2 = 16 ∨ m2 = 34) ∧ qq ≤ m2 ∧ (∀ j, j < m → a2 j = a j) ∧ fitB a2 ∧ w = W ++ sbc cA b v2 n m2 a2) := by
  refine c_of_g (isI := false) (lv0 := [some (.ref b), some (.int (nI qq)), none]) (fun h => by first | rfl | cases h) rfl (by decide +kernel) (Nat.le_of_ble_eq_true rfl) rfl ?_
  by_cases hq : qq ≤ m
  · have hm34 : m ≤ 34 := by omega
    refine g_aload_n dJ5_ensureCapacityInternal_d00df_0 rfl ?_
    refine g_get (i := W.length) at_0 (rfl : vwCl[1]? = some (RJ4, TJ4, 4)) inlJ4 0 (by decide) q647 rfl dJ5_ensureCapacityInternal_d00df_1 ?_
    refine g_alen (v := nI m) 5 (fun _ => rfl) at_1 rfl dJ5_ensureCapacityInternal_d00df_4 ?_
    refine g_aload_n dJ5_ensureCapacityInternal_d00df_5 rfl ?_
    refine g_get (i := W.length) at_0 (rfl : vwCl[1]? = some (RJ4, TJ4, 4)) inlJ4 1 (by decide) q648 rfl dJ5_ensureCapacityInternal_d00df_6 ?_
    refine g_ishr dJ5_ensureCapacityInternal_d00df_9 ?_
    rw [shr0]
    refine g_istore_n dJ5_ensureCapacityInternal_d00df_10 (by decide) rfl ?_
    refine g_iload_n dJ5_ensureCapacityInternal_d00df_11 rfl ?_
    refine g_iload_n dJ5_ensureCapacityInternal_d00df_12 rfl ?_
    refine g_isub dJ5_ensureCapacityInternal_d00df_13 ?_
    refine g_if_le (tgt := 38) dJ5_ensureCapacityInternal_d00df_14 (by decide) (fun c14 => ?_) (fun c14 => absurd (cap_no hm34 hq) c14)
    exact g_vret rfl dJ5_ensureCapacityInternal_d00df_38 (Nat.le_of_ble_eq_true rfl) (Nat.le_of_ble_eq_true rfl) ⟨rfl, v, m, a, hm, hq, fun _ _ => rfl, hf, rfl⟩
  · obtain rfl : m = 16 := by omega
    refine g_aload_n dJ5_ensureCapacityInternal_d00df_0 rfl ?_
    refine g_get (i := W.length) at_0 (rfl : vwCl[1]? = some (RJ4, TJ4, 4)) inlJ4 0 (by decide) q647 rfl dJ5_ensureCapacityInternal_d00df_1 ?_
    refine g_alen (v := nI 16) 5 (fun _ => rfl) at_1 rfl dJ5_ensureCapacityInternal_d00df_4 ?_
    refine g_aload_n dJ5_ensureCapacityInternal_d00df_5 rfl ?_
    refine g_get (i := W.length) at_0 (rfl : vwCl[1]? = some (RJ4, TJ4, 4)) inlJ4 1 (by decide) q648 rfl dJ5_ensureCapacityInternal_d00df_6 ?_
    refine g_ishr dJ5_ensureCapacityInternal_d00df_9 ?_
    rw [shr0]
    refine g_istore_n dJ5_ensureCapacityInternal_d00df_10 (by decide) rfl ?_
    refine g_iload_n dJ5_ensureCapacityInternal_d00df_11 rfl ?_
    refine g_iload_n dJ5_ensureCapacityInternal_d00df_12 rfl ?_
    refine g_isub dJ5_ensureCapacityInternal_d00df_13 ?_
    refine g_if_le (tgt := 38) dJ5_ensureCapacityInternal_d00df_14 (by decide) (fun c14 => absurd c14 (cap_yes (by omega) hq2)) (fun c14 => ?_)
    refine g_aload_n dJ5_ensureCapacityInternal_d00df_17 rfl ?_
    refine g_aload_n dJ5_ensureCapacityInternal_d00df_18 rfl ?_
    refine g_get (i := W.length) at_0 (rfl : vwCl[1]? = some (RJ4, TJ4, 4)) inlJ4 0 (by decide) q647 rfl dJ5_ensureCapacityInternal_d00df_19 ?_
    refine g_aload_n dJ5_ensureCapacityInternal_d00df_22 rfl ?_
    refine g_iload_n dJ5_ensureCapacityInternal_d00df_23 rfl ?_
    refine g_callU (n := 1) (x := yJ5_newCapacity_0f7a4) (y := yJ5_newCapacity_0f7a4) (As := [.int (nI qq)]) (rest := [.ref v, .ref b]) dJ5_ensureCapacityInternal_d00df_24 (G_newCap (by omega) hq2) q674 q675 (Or.inr ⟨rfl, List.mem_of_getElem? (i := 1) rfl⟩) q676 q677 q676 q677 q642 (by decide +kernel) rfl rfl rfl rfl ⟨by decide, by decide⟩ (Nat.le_of_ble_eq_true rfl) ⟨Nat.le_of_ble_eq_true rfl, Nat.le_of_ble_eq_true rfl⟩ (rw_at (i := W.length) at_0 (rfl : vwCl[1]? = some _) rfl) (fun v w hv => ?_)
    obtain ⟨rfl, hw0⟩ := hv
    rw [hw0]
    refine g_aload_n dJ5_ensureCapacityInternal_d00df_27 rfl ?_
    refine g_get (i := W.length) at_0 (rfl : vwCl[1]? = some (RJ4, TJ4, 4)) inlJ4 1 (by decide) q648 rfl dJ5_ensureCapacityInternal_d00df_28 ?_
    refine g_ishl dJ5_ensureCapacityInternal_d00df_31 ?_
    rw [shl0]
    refine g_callS (n := 2) (As := [.ref v, .int 34]) (rest := [.ref b]) dJ5_ensureCapacityInternal_d00df_32 (G_copyOf (i := W.length + 1) at_1 hf) ⟨q688, q689, q690, q691⟩ ⟨rfl, by decide, by decide, by decide +kernel⟩ rfl rfl rfl rfl ⟨by decide, by decide⟩ (Nat.le_of_ble_eq_true rfl) ⟨Nat.le_of_ble_eq_true rfl, Nat.le_of_ble_eq_true rfl⟩ (fun v w hv => ?_)
    obtain ⟨r, rfl, rfl⟩ := hv
    simp only [List.append_assoc, List.cons_append, List.nil_append, List.append_nil]
    refine g_put (i := W.length) at_0 (rfl : vwCl[1]? = some (RJ4, TJ4, 4)) inlJ4 tyJ4 tyJ4_ok nmJ4 0 (by decide) (Nat.le_of_ble_eq_true rfl) q647 rfl rfl rfl rfl set_0 dJ5_ensureCapacityInternal_d00df_35 ?_
    refine g_eq (ws' := (W ++ [(b, .inr (1, [.ref r, .int 0, .int 0, .int (nI n)]))]) ++ [(v, .inl (cA 5, 16, .inl a))] ++ [(r, .inl (cA 5, 34, .inl (va_cpy a (fun _ => 0) 0 0 16)))]) (by simp only [List.append_assoc, List.cons_append, List.nil_append, List.append_nil]; rfl) ?_
    refine g_drop ?_
    exact g_vret rfl dJ5_ensureCapacityInternal_d00df_38 (Nat.le_of_ble_eq_true rfl) (Nat.le_of_ble_eq_true rfl) ⟨rfl, r, 34, va_cpy a (fun _ => 0) 0 0 16, Or.inr rfl, hq2, fun j hj => (pk_cpy_in (Nat.zero_le _) (by omega)).trans (congrArg a (show 0 + (j - 0) = j by omega)), fit_c hf fit_0, by simp only [List.append_assoc, List.cons_append, List.nil_append, List.append_nil]⟩
theorem dJ5_isLatin1_aae02_0 : decode cJ5_isLatin1_aae02 0 = .ok (.getstatic 18, 3) := by decide +kernel
theorem dJ5_isLatin1_aae02_3 : decode cJ5_isLatin1_aae02 3 = .ok (.ifCond .eq 14, 3) := by decide +kernel
theorem dJ5_isLatin1_aae02_6 : decode cJ5_isLatin1_aae02 6 = .ok (.aload_n 0, 1) := by decide +kernel
theorem dJ5_isLatin1_aae02_7 : decode cJ5_isLatin1_aae02 7 = .ok (.getfield 22, 3) := by decide +kernel
theorem dJ5_isLatin1_aae02_10 : decode cJ5_isLatin1_aae02 10 = .ok (.ifCond .ne 7, 3) := by decide +kernel
theorem dJ5_isLatin1_aae02_13 : decode cJ5_isLatin1_aae02 13 = .ok (.iconst 1, 1) := by decide +kernel
theorem dJ5_isLatin1_aae02_14 : decode cJ5_isLatin1_aae02 14 = .ok (.goto 4, 3) := by decide +kernel
theorem dJ5_isLatin1_aae02_17 : decode cJ5_isLatin1_aae02 17 = .ok (.iconst 0, 1) := by decide +kernel
theorem dJ5_isLatin1_aae02_18 : decode cJ5_isLatin1_aae02 18 = .ok (.ireturn, 1) := by decide +kernel
set_option maxRecDepth 100000 in
set_option maxHeartbeats 4000000 in
theorem G_latin {cA : Nat → ClassId} {ad : tA} {ws : va_W} {i b v n : Nat} (he : ws[i]? = some (b, .inr (1, [.ref v, .int 0, .int 0, .int (nI n)]))) : Cg yJ5_isLatin1_aae02 cJ5_isLatin1_aae02 1 (some .boolean) (rmg 0 0 0) 0 0 cA ad [.ref b] ws (Qs (some (.int 1)) ws) := by
  refine c_of_g (isI := false) (lv0 := [some (.ref b)]) (fun h => by first | rfl | cases h) rfl (by decide +kernel) (Nat.le_of_ble_eq_true rfl) rfl ?_
  refine g_getsC q645 dJ5_isLatin1_aae02_0 ?_
  refine g_if_eq (tgt := 17) dJ5_isLatin1_aae02_3 (by decide) (fun c3 => absurd c3 (by decide)) (fun c3 => ?_)
  refine g_aload_n dJ5_isLatin1_aae02_6 rfl ?_
  refine g_get (i := i) he (rfl : vwCl[1]? = some (RJ4, TJ4, 4)) inlJ4 1 (by decide) q648 rfl dJ5_isLatin1_aae02_7 ?_
  refine g_if_ne (tgt := 17) dJ5_isLatin1_aae02_10 (by decide) (fun c10 => absurd rfl c10) (fun c10 => ?_)
  refine g_iconst (v := 1) dJ5_isLatin1_aae02_13 (by decide) ?_
  refine g_goto (tgt := 18) dJ5_isLatin1_aae02_14 (by decide) ?_
  exact g_zret rfl rfl dJ5_isLatin1_aae02_18 (Nat.le_of_ble_eq_true rfl) (Nat.le_of_ble_eq_true rfl) ⟨rfl, rfl⟩
theorem dJ5_inflateIfNeededFor_a7421_0 : decode cJ5_inflateIfNeededFor_a7421 0 = .ok (.getstatic 18, 3) := by decide +kernel
theorem dJ5_inflateIfNeededFor_a7421_3 : decode cJ5_inflateIfNeededFor_a7421 3 = .ok (.ifCond .eq 18, 3) := by decide +kernel
theorem dJ5_inflateIfNeededFor_a7421_6 : decode cJ5_inflateIfNeededFor_a7421 6 = .ok (.aload_n 0, 1) := by decide +kernel
theorem dJ5_inflateIfNeededFor_a7421_7 : decode cJ5_inflateIfNeededFor_a7421 7 = .ok (.getfield 22, 3) := by decide +kernel
theorem dJ5_inflateIfNeededFor_a7421_10 : decode cJ5_inflateIfNeededFor_a7421 10 = .ok (.aload_n 1, 1) := by decide +kernel
theorem dJ5_inflateIfNeededFor_a7421_11 : decode cJ5_inflateIfNeededFor_a7421 11 = .ok (.invokevirtual 40, 3) := by decide +kernel
theorem dJ5_inflateIfNeededFor_a7421_14 : decode cJ5_inflateIfNeededFor_a7421 14 = .ok (.if_icmp .eq 7, 3) := by decide +kernel
theorem dJ5_inflateIfNeededFor_a7421_17 : decode cJ5_inflateIfNeededFor_a7421 17 = .ok (.aload_n 0, 1) := by decide +kernel
theorem dJ5_inflateIfNeededFor_a7421_18 : decode cJ5_inflateIfNeededFor_a7421 18 = .ok (.invokevirtual 195, 3) := by decide +kernel
theorem dJ5_inflateIfNeededFor_a7421_21 : decode cJ5_inflateIfNeededFor_a7421 21 = .ok (.return_, 1) := by decide +kernel
set_option maxRecDepth 100000 in
set_option maxHeartbeats 4000000 in
theorem G_inflN {cA : Nat → ClassId} {ad : tA} {ws : va_W} {i b v n k : Nat} (he : ws[i]? = some (b, .inr (1, [.ref v, .int 0, .int 0, .int (nI n)]))) (hi : k < 15) : Cg yJ5_inflateIfNeededFor_a7421 cJ5_inflateIfNeededFor_a7421 2 none (rmg 1 0 0) 0 0 cA ad [.ref b, .ref (ad 16 k)] ws (Qs none ws) := by
  refine c_of_g (isI := false) (lv0 := [some (.ref b), some (.ref (ad 16 k))]) (fun h => by first | rfl | cases h) rfl (by decide +kernel) (Nat.le_of_ble_eq_true rfl) rfl ?_
  refine g_getsC q645 dJ5_inflateIfNeededFor_a7421_0 ?_
  refine g_if_eq (tgt := 21) dJ5_inflateIfNeededFor_a7421_3 (by decide) (fun c3 => absurd c3 (by decide)) (fun c3 => ?_)
  refine g_aload_n dJ5_inflateIfNeededFor_a7421_6 rfl ?_
  refine g_get (i := i) he (rfl : vwCl[1]? = some (RJ4, TJ4, 4)) inlJ4 1 (by decide) q648 rfl dJ5_inflateIfNeededFor_a7421_7 ?_
  refine g_aload_n dJ5_inflateIfNeededFor_a7421_10 rfl ?_
  refine g_callV (n := 0) (As := []) (rest := [.int 0]) dJ5_inflateIfNeededFor_a7421_11 (G_litCoder hi) (g_V q729 q216 q217 q212 q218) ⟨rfl, by decide, by decide, by decide +kernel⟩ rfl rfl rfl rfl ⟨by decide, by decide⟩ (Nat.le_of_ble_eq_true rfl) ⟨Nat.le_of_ble_eq_true rfl, Nat.le_of_ble_eq_true rfl⟩ (rw_lit hi) (fun v w hv => ?_)
  obtain ⟨rfl, hw0⟩ := hv
  rw [hw0]
  refine g_icmp_eq (tgt := 21) dJ5_inflateIfNeededFor_a7421_14 (by decide) (fun c14 => ?_) (fun c14 => absurd rfl c14)
  exact g_vret rfl dJ5_inflateIfNeededFor_a7421_21 (Nat.le_of_ble_eq_true rfl) (Nat.le_of_ble_eq_true rfl) ⟨rfl, rfl⟩
theorem dJ0_getBytes_840e7_0 : decode cJ0_getBytes_840e7 0 = .ok (.aload_n 0, 1) := by decide +kernel
theorem dJ0_getBytes_840e7_1 : decode cJ0_getBytes_840e7 1 = .ok (.invokevirtual 335, 3) := by decide +kernel
theorem dJ0_getBytes_840e7_4 : decode cJ0_getBytes_840e7 4 = .ok (.iload_n 3, 1) := by decide +kernel
theorem dJ0_getBytes_840e7_5 : decode cJ0_getBytes_840e7 5 = .ok (.if_icmp .ne 23, 3) := by decide +kernel
theorem dJ0_getBytes_840e7_8 : decode cJ0_getBytes_840e7 8 = .ok (.aload_n 0, 1) := by decide +kernel
theorem dJ0_getBytes_840e7_9 : decode cJ0_getBytes_840e7 9 = .ok (.getfield 9, 3) := by decide +kernel
theorem dJ0_getBytes_840e7_12 : decode cJ0_getBytes_840e7 12 = .ok (.iconst 0, 1) := by decide +kernel
theorem dJ0_getBytes_840e7_13 : decode cJ0_getBytes_840e7 13 = .ok (.aload_n 1, 1) := by decide +kernel
theorem dJ0_getBytes_840e7_14 : decode cJ0_getBytes_840e7 14 = .ok (.iload_n 2, 1) := by decide +kernel
theorem dJ0_getBytes_840e7_15 : decode cJ0_getBytes_840e7 15 = .ok (.iload_n 3, 1) := by decide +kernel
theorem dJ0_getBytes_840e7_16 : decode cJ0_getBytes_840e7 16 = .ok (.ishl, 1) := by decide +kernel
theorem dJ0_getBytes_840e7_17 : decode cJ0_getBytes_840e7 17 = .ok (.aload_n 0, 1) := by decide +kernel
theorem dJ0_getBytes_840e7_18 : decode cJ0_getBytes_840e7 18 = .ok (.getfield 9, 3) := by decide +kernel
theorem dJ0_getBytes_840e7_21 : decode cJ0_getBytes_840e7 21 = .ok (.arraylength, 1) := by decide +kernel
theorem dJ0_getBytes_840e7_22 : decode cJ0_getBytes_840e7 22 = .ok (.invokestatic 212, 3) := by decide +kernel
theorem dJ0_getBytes_840e7_25 : decode cJ0_getBytes_840e7 25 = .ok (.goto 18, 3) := by decide +kernel
theorem dJ0_getBytes_840e7_28 : decode cJ0_getBytes_840e7 28 = .ok (.aload_n 0, 1) := by decide +kernel
theorem dJ0_getBytes_840e7_29 : decode cJ0_getBytes_840e7 29 = .ok (.getfield 9, 3) := by decide +kernel
theorem dJ0_getBytes_840e7_32 : decode cJ0_getBytes_840e7 32 = .ok (.iconst 0, 1) := by decide +kernel
theorem dJ0_getBytes_840e7_33 : decode cJ0_getBytes_840e7 33 = .ok (.aload_n 1, 1) := by decide +kernel
theorem dJ0_getBytes_840e7_34 : decode cJ0_getBytes_840e7 34 = .ok (.iload_n 2, 1) := by decide +kernel
theorem dJ0_getBytes_840e7_35 : decode cJ0_getBytes_840e7 35 = .ok (.aload_n 0, 1) := by decide +kernel
theorem dJ0_getBytes_840e7_36 : decode cJ0_getBytes_840e7 36 = .ok (.getfield 9, 3) := by decide +kernel
theorem dJ0_getBytes_840e7_39 : decode cJ0_getBytes_840e7 39 = .ok (.arraylength, 1) := by decide +kernel
theorem dJ0_getBytes_840e7_40 : decode cJ0_getBytes_840e7 40 = .ok (.invokestatic 106, 3) := by decide +kernel
theorem dJ0_getBytes_840e7_43 : decode cJ0_getBytes_840e7 43 = .ok (.return_, 1) := by decide +kernel
set_option maxRecDepth 100000 in
set_option maxHeartbeats 4000000 in
theorem G_bytes {cA : Nat → ClassId} {ad : tA} {ws : va_W} {i r m n k : Nat} {a : Nat → Int32} (hi : k < 15) (ha : ws[i]? = some (r, .inl (cA 5, m, .inl a))) (hm : n + lenS.getD k 0 ≤ m) (hm2 : m ≤ 34) : Cg yJ0_getBytes_840e7 cJ0_getBytes_840e7 4 none (rmg 1 0 0) 0 0 cA ad [.ref (ad 16 k), .ref r, .int (nI n), .int 0] ws (Qs none (ws.set i (r, .inl (cA 5, m, .inl (va_cpy (fun q => (bytS.getD k []).getD q 0) a 0 n (lenS.getD k 0)))))) := by
  refine c_of_g (isI := false) (lv0 := [some (.ref (ad 16 k)), some (.ref r), some (.int (nI n)), some (.int 0)]) (fun h => by first | rfl | cases h) rfl (by decide +kernel) (Nat.le_of_ble_eq_true rfl) rfl ?_
  refine g_aload_n dJ0_getBytes_840e7_0 rfl ?_
  refine g_callV (n := 0) (As := []) (rest := []) dJ0_getBytes_840e7_1 (G_litCoder hi) (g_V q215 q216 q217 q212 q218) ⟨rfl, by decide, by decide, by decide +kernel⟩ rfl rfl rfl rfl ⟨by decide, by decide⟩ (Nat.le_of_ble_eq_true rfl) ⟨Nat.le_of_ble_eq_true rfl, Nat.le_of_ble_eq_true rfl⟩ (rw_lit hi) (fun v w hv => ?_)
  obtain ⟨rfl, hw0⟩ := hv
  rw [hw0]
  refine g_iload_n dJ0_getBytes_840e7_4 rfl ?_
  refine g_icmp_ne (tgt := 28) dJ0_getBytes_840e7_5 (by decide) (fun c5 => absurd rfl c5) (fun c5 => ?_)
  refine g_aload_n dJ0_getBytes_840e7_8 rfl ?_
  refine g_lit_value hi q214 dJ0_getBytes_840e7_9 ?_
  refine g_iconst (v := 0) dJ0_getBytes_840e7_12 (by decide) ?_
  refine g_aload_n dJ0_getBytes_840e7_13 rfl ?_
  refine g_iload_n dJ0_getBytes_840e7_14 rfl ?_
  refine g_iload_n dJ0_getBytes_840e7_15 rfl ?_
  refine g_ishl dJ0_getBytes_840e7_16 ?_
  rw [shl0]
  refine g_aload_n dJ0_getBytes_840e7_17 rfl ?_
  refine g_lit_value hi q214 dJ0_getBytes_840e7_18 ?_
  refine g_lit_len hi dJ0_getBytes_840e7_21 ?_
  refine g_copyT (j := i) hi ha (nI_pos (by omega)) rfl (by rw [nI_clamp (by omega)]; exact hm) lit_fit rfl q753 q82 q83 q84 (Nat.le_of_ble_eq_true rfl) (Nat.le_of_ble_eq_true rfl) dJ0_getBytes_840e7_22 ?_
  rw [nI_clamp (n := n) (by omega)]
  refine g_goto (tgt := 43) dJ0_getBytes_840e7_25 (by decide) ?_
  exact g_vret rfl dJ0_getBytes_840e7_43 (Nat.le_of_ble_eq_true rfl) (Nat.le_of_ble_eq_true rfl) ⟨rfl, rfl⟩
theorem dJ5_putStringAt_47b60_0 : decode cJ5_putStringAt_47b60 0 = .ok (.aload_n 0, 1) := by decide +kernel
theorem dJ5_putStringAt_47b60_1 : decode cJ5_putStringAt_47b60 1 = .ok (.aload_n 2, 1) := by decide +kernel
theorem dJ5_putStringAt_47b60_2 : decode cJ5_putStringAt_47b60 2 = .ok (.invokevirtual 397, 3) := by decide +kernel
theorem dJ5_putStringAt_47b60_5 : decode cJ5_putStringAt_47b60 5 = .ok (.aload_n 2, 1) := by decide +kernel
theorem dJ5_putStringAt_47b60_6 : decode cJ5_putStringAt_47b60 6 = .ok (.aload_n 0, 1) := by decide +kernel
theorem dJ5_putStringAt_47b60_7 : decode cJ5_putStringAt_47b60 7 = .ok (.getfield 15, 3) := by decide +kernel
theorem dJ5_putStringAt_47b60_10 : decode cJ5_putStringAt_47b60 10 = .ok (.iload_n 1, 1) := by decide +kernel
theorem dJ5_putStringAt_47b60_11 : decode cJ5_putStringAt_47b60 11 = .ok (.aload_n 0, 1) := by decide +kernel
theorem dJ5_putStringAt_47b60_12 : decode cJ5_putStringAt_47b60 12 = .ok (.getfield 22, 3) := by decide +kernel
theorem dJ5_putStringAt_47b60_15 : decode cJ5_putStringAt_47b60 15 = .ok (.invokevirtual 399, 3) := by decide +kernel
theorem dJ5_putStringAt_47b60_18 : decode cJ5_putStringAt_47b60 18 = .ok (.return_, 1) := by decide +kernel
set_option maxRecDepth 100000 in
set_option maxHeartbeats 4000000 in
theorem G_putS {cA : Nat → ClassId} {ad : tA} {W : va_W} {b v m n k : Nat} {a : Nat → Int32} (hi : k < 15) (hm : n + lenS.getD k 0 ≤ m) (hm2 : m ≤ 34) : Cg yJ5_putStringAt_47b60 cJ5_putStringAt_47b60 3 none (rmg 2 0 0) 0 0 cA ad [.ref b, .int (nI n), .ref (ad 16 k)] (W ++ sbc cA b v n m a) (Qs none (W ++ sbc cA b v n m (va_cpy (fun q => (bytS.getD k []).getD q 0) a 0 n (lenS.getD k 0)))) := by
  refine c_of_g (isI := false) (lv0 := [some (.ref b), some (.int (nI n)), some (.ref (ad 16 k))]) (fun h => by first | rfl | cases h) rfl (by decide +kernel) (Nat.le_of_ble_eq_true rfl) rfl ?_
  refine g_aload_n dJ5_putStringAt_47b60_0 rfl ?_
  refine g_aload_n dJ5_putStringAt_47b60_1 rfl ?_
  refine g_callU (n := 1) (x := yJ5_inflateIfNeededFor_a7421) (y := yJ5_inflateIfNeededFor_a7421) (As := [.ref (ad 16 k)]) (rest := []) dJ5_putStringAt_47b60_2 (G_inflN (i := W.length) at_0 hi) q725 q726 (Or.inr ⟨rfl, List.mem_of_getElem? (i := 3) rfl⟩) q727 q728 q727 q728 q642 (by decide +kernel) rfl rfl rfl rfl ⟨by decide, by decide⟩ (Nat.le_of_ble_eq_true rfl) ⟨Nat.le_of_ble_eq_true rfl, Nat.le_of_ble_eq_true rfl⟩ (rw_at (i := W.length) at_0 (rfl : vwCl[1]? = some _) rfl) (fun v w hv => ?_)
  obtain ⟨rfl, hw0⟩ := hv
  rw [hw0]
  refine g_aload_n dJ5_putStringAt_47b60_5 rfl ?_
  refine g_aload_n dJ5_putStringAt_47b60_6 rfl ?_
  refine g_get (i := W.length) at_0 (rfl : vwCl[1]? = some (RJ4, TJ4, 4)) inlJ4 0 (by decide) q647 rfl dJ5_putStringAt_47b60_7 ?_
  refine g_iload_n dJ5_putStringAt_47b60_10 rfl ?_
  refine g_aload_n dJ5_putStringAt_47b60_11 rfl ?_
  refine g_get (i := W.length) at_0 (rfl : vwCl[1]? = some (RJ4, TJ4, 4)) inlJ4 1 (by decide) q648 rfl dJ5_putStringAt_47b60_12 ?_
  refine g_callV (n := 3) (As := [.ref v, .int (nI n), .int 0]) (rest := []) dJ5_putStringAt_47b60_15 (G_bytes (i := W.length + 1) hi at_1 hm hm2) (g_V q749 q750 q751 q212 q752) ⟨rfl, by decide, by decide, by decide +kernel⟩ rfl rfl rfl rfl ⟨by decide, by decide⟩ (Nat.le_of_ble_eq_true rfl) ⟨Nat.le_of_ble_eq_true rfl, Nat.le_of_ble_eq_true rfl⟩ (rw_lit hi) (fun v w hv => ?_)
  obtain ⟨rfl, hw0⟩ := hv
  rw [hw0, set_1]
  exact g_vret rfl dJ5_putStringAt_47b60_18 (Nat.le_of_ble_eq_true rfl) (Nat.le_of_ble_eq_true rfl) ⟨rfl, rfl⟩
theorem lit_ok {k n : Nat} {a : Nat → Int32} (hi : k < 15) (h : okby a n) : okby (va_cpy (fun q => (bytS.getD k []).getD q 0) a 0 n (lenS.getD k 0)) (n + lenS.getD k 0) := by
  intro j hj
  by_cases e : j < n
  · rw [pk_cpy_out (Or.inl e)]; exact h j e
  · rw [pk_cpy_in (by omega) (by omega)]
    obtain ⟨c, h1, h2, h3⟩ := lit_by k hi (0 + (j - n)) (by omega)
    exact ⟨c, h2, by omega, h3⟩
theorem dJ5_append_cf1ce_0 : decode cJ5_append_cf1ce 0 = .ok (.aload_n 1, 1) := by decide +kernel
theorem dJ5_append_cf1ce_1 : decode cJ5_append_cf1ce 1 = .ok (.ifnonnull 8, 3) := by decide +kernel
theorem dJ5_append_cf1ce_4 : decode cJ5_append_cf1ce 4 = .ok (.aload_n 0, 1) := by decide +kernel
theorem dJ5_append_cf1ce_5 : decode cJ5_append_cf1ce 5 = .ok (.invokevirtual 204, 3) := by decide +kernel
theorem dJ5_append_cf1ce_8 : decode cJ5_append_cf1ce 8 = .ok (.areturn, 1) := by decide +kernel
theorem dJ5_append_cf1ce_9 : decode cJ5_append_cf1ce 9 = .ok (.aload_n 1, 1) := by decide +kernel
theorem dJ5_append_cf1ce_10 : decode cJ5_append_cf1ce 10 = .ok (.invokevirtual 32, 3) := by decide +kernel
theorem dJ5_append_cf1ce_13 : decode cJ5_append_cf1ce 13 = .ok (.istore_n 2, 1) := by decide +kernel
theorem dJ5_append_cf1ce_14 : decode cJ5_append_cf1ce 14 = .ok (.aload_n 0, 1) := by decide +kernel
theorem dJ5_append_cf1ce_15 : decode cJ5_append_cf1ce 15 = .ok (.aload_n 0, 1) := by decide +kernel
theorem dJ5_append_cf1ce_16 : decode cJ5_append_cf1ce 16 = .ok (.getfield 79, 3) := by decide +kernel
theorem dJ5_append_cf1ce_19 : decode cJ5_append_cf1ce 19 = .ok (.iload_n 2, 1) := by decide +kernel
theorem dJ5_append_cf1ce_20 : decode cJ5_append_cf1ce 20 = .ok (.iadd, 1) := by decide +kernel
theorem dJ5_append_cf1ce_21 : decode cJ5_append_cf1ce 21 = .ok (.invokevirtual 100, 3) := by decide +kernel
theorem dJ5_append_cf1ce_24 : decode cJ5_append_cf1ce 24 = .ok (.aload_n 0, 1) := by decide +kernel
theorem dJ5_append_cf1ce_25 : decode cJ5_append_cf1ce 25 = .ok (.aload_n 0, 1) := by decide +kernel
theorem dJ5_append_cf1ce_26 : decode cJ5_append_cf1ce 26 = .ok (.getfield 79, 3) := by decide +kernel
theorem dJ5_append_cf1ce_29 : decode cJ5_append_cf1ce 29 = .ok (.aload_n 1, 1) := by decide +kernel
theorem dJ5_append_cf1ce_30 : decode cJ5_append_cf1ce 30 = .ok (.invokevirtual 208, 3) := by decide +kernel
theorem dJ5_append_cf1ce_33 : decode cJ5_append_cf1ce 33 = .ok (.aload_n 0, 1) := by decide +kernel
theorem dJ5_append_cf1ce_34 : decode cJ5_append_cf1ce 34 = .ok (.dup, 1) := by decide +kernel
theorem dJ5_append_cf1ce_35 : decode cJ5_append_cf1ce 35 = .ok (.getfield 79, 3) := by decide +kernel
theorem dJ5_append_cf1ce_38 : decode cJ5_append_cf1ce 38 = .ok (.iload_n 2, 1) := by decide +kernel
theorem dJ5_append_cf1ce_39 : decode cJ5_append_cf1ce 39 = .ok (.iadd, 1) := by decide +kernel
theorem dJ5_append_cf1ce_40 : decode cJ5_append_cf1ce 40 = .ok (.putfield 79, 3) := by decide +kernel
theorem dJ5_append_cf1ce_43 : decode cJ5_append_cf1ce 43 = .ok (.aload_n 0, 1) := by decide +kernel
theorem dJ5_append_cf1ce_44 : decode cJ5_append_cf1ce 44 = .ok (.areturn, 1) := by decide +kernel
set_option maxRecDepth 100000 in
set_option maxHeartbeats 4000000 in
theorem G_appS5 {cA : Nat → ClassId} {ad : tA} {W : va_W} {b v n m k} {a : Nat → Int32} (hm : m = 16 ∨ m = 34) (hnm : n ≤ m) (hb : okby a n) (hf : fitB a) (hi : k < 15) (hq : n + lenS.getD k 0 ≤ 34) : Cg yJ5_append_cf1ce cJ5_append_cf1ce 3 (some (.object "java/lang/AbstractStringBuilder")) (rmg 4 1 34) 1 34 cA ad [.ref b, .ref (ad 16 k)] (W ++ sbc cA b v n m a) (fun x w => x = some (.ref b) ∧ ∃ v2 m2 a2, (m2 = 16 ∨ m2 = 34) ∧ n + lenS.getD k 0 ≤ m2 ∧ okby a2 (n + lenS.getD k 0) ∧ fitB a2 ∧ w = W ++ sbc cA b v2 (n + lenS.getD k 0) m2 a2) := by
  refine c_of_g (isI := false) (lv0 := [some (.ref b), some (.ref (ad 16 k)), none]) (fun h => by first | rfl | cases h) rfl (by decide +kernel) (Nat.le_of_ble_eq_true rfl) rfl ?_
  have h20 := lenS_le k
  refine g_aload_n dJ5_append_cf1ce_0 rfl ?_
  refine g_ifnonnull (tgt := 9) dJ5_append_cf1ce_1 (by decide) ?_
  refine g_aload_n dJ5_append_cf1ce_9 rfl ?_
  refine g_callV (n := 0) (As := []) (rest := []) dJ5_append_cf1ce_10 (G_litLen hi) (g_V q720 q210 q211 q212 q213) ⟨rfl, by decide, by decide, by decide +kernel⟩ rfl rfl rfl rfl ⟨by decide, by decide⟩ (Nat.le_of_ble_eq_true rfl) ⟨Nat.le_of_ble_eq_true rfl, Nat.le_of_ble_eq_true rfl⟩ (rw_lit hi) (fun v w hv => ?_)
  obtain ⟨rfl, hw0⟩ := hv
  rw [hw0]
  refine g_istore_n dJ5_append_cf1ce_13 (by decide) rfl ?_
  refine g_aload_n dJ5_append_cf1ce_14 rfl ?_
  refine g_aload_n dJ5_append_cf1ce_15 rfl ?_
  refine g_get (i := W.length) at_0 (rfl : vwCl[1]? = some (RJ4, TJ4, 4)) inlJ4 3 (by decide) q665 rfl dJ5_append_cf1ce_16 ?_
  refine g_iload_n dJ5_append_cf1ce_19 rfl ?_
  refine g_iadd dJ5_append_cf1ce_20 ?_
  rw [nI_add]
  refine g_callU (n := 1) (x := yJ5_ensureCapacityInternal_d00df) (y := yJ5_ensureCapacityInternal_d00df) (As := [.int (nI (n + lenS.getD k 0))]) (rest := []) dJ5_append_cf1ce_21 (G_ensure hm hq hf) q670 q671 (Or.inr ⟨rfl, List.mem_of_getElem? (i := 0) rfl⟩) q672 q673 q672 q673 q642 (by decide +kernel) rfl rfl rfl rfl ⟨by decide, by decide⟩ (Nat.le_of_ble_eq_true rfl) ⟨Nat.le_of_ble_eq_true rfl, Nat.le_of_ble_eq_true rfl⟩ (rw_at (i := W.length) at_0 (rfl : vwCl[1]? = some _) rfl) (fun v w hv => ?_)
  obtain ⟨rfl, v2, m2, a2, h1, h2, h3, h4, rfl⟩ := hv
  refine g_aload_n dJ5_append_cf1ce_24 rfl ?_
  refine g_aload_n dJ5_append_cf1ce_25 rfl ?_
  refine g_get (i := W.length) at_0 (rfl : vwCl[1]? = some (RJ4, TJ4, 4)) inlJ4 3 (by decide) q665 rfl dJ5_append_cf1ce_26 ?_
  refine g_aload_n dJ5_append_cf1ce_29 rfl ?_
  refine g_callU (n := 2) (x := yJ5_putStringAt_47b60) (y := yJ5_putStringAt_47b60) (As := [.int (nI n), .ref (ad 16 k)]) (rest := []) dJ5_append_cf1ce_30 (G_putS hi h2 (by omega)) q721 q722 (Or.inr ⟨rfl, List.mem_of_getElem? (i := 2) rfl⟩) q723 q724 q723 q724 q642 (by decide +kernel) rfl rfl rfl rfl ⟨by decide, by decide⟩ (Nat.le_of_ble_eq_true rfl) ⟨Nat.le_of_ble_eq_true rfl, Nat.le_of_ble_eq_true rfl⟩ (rw_at (i := W.length) at_0 (rfl : vwCl[1]? = some _) rfl) (fun v w hv => ?_)
  obtain ⟨rfl, hw0⟩ := hv
  rw [hw0]
  refine g_aload_n dJ5_append_cf1ce_33 rfl ?_
  refine g_dup dJ5_append_cf1ce_34 rfl ?_
  refine g_get (i := W.length) at_0 (rfl : vwCl[1]? = some (RJ4, TJ4, 4)) inlJ4 3 (by decide) q665 rfl dJ5_append_cf1ce_35 ?_
  refine g_iload_n dJ5_append_cf1ce_38 rfl ?_
  refine g_iadd dJ5_append_cf1ce_39 ?_
  rw [nI_add]
  refine g_put (i := W.length) at_0 (rfl : vwCl[1]? = some (RJ4, TJ4, 4)) inlJ4 tyJ4 tyJ4_ok nmJ4 3 (by decide) (Nat.le_of_ble_eq_true rfl) q665 rfl rfl rfl rfl set_0 dJ5_append_cf1ce_40 ?_
  refine g_aload_n dJ5_append_cf1ce_43 rfl ?_
  exact g_aret rfl (Or.inl ⟨_, rfl⟩) dJ5_append_cf1ce_44 (Nat.le_of_ble_eq_true rfl) (Nat.le_of_ble_eq_true rfl) ⟨rfl, v2, m2, _, h1, h2, lit_ok hi (okby_keep hb (fun j hj => h3 j (by omega))), fit_c (lit_fit k) h4, rfl⟩
theorem dJ4_append_15ec4_0 : decode cJ4_append_15ec4 0 = .ok (.aload_n 0, 1) := by decide +kernel
theorem dJ4_append_15ec4_1 : decode cJ4_append_15ec4 1 = .ok (.aload_n 1, 1) := by decide +kernel
theorem dJ4_append_15ec4_2 : decode cJ4_append_15ec4 2 = .ok (.invokespecial 29, 3) := by decide +kernel
theorem dJ4_append_15ec4_5 : decode cJ4_append_15ec4 5 = .ok (.pop, 1) := by decide +kernel
theorem dJ4_append_15ec4_6 : decode cJ4_append_15ec4 6 = .ok (.aload_n 0, 1) := by decide +kernel
theorem dJ4_append_15ec4_7 : decode cJ4_append_15ec4 7 = .ok (.areturn, 1) := by decide +kernel
set_option maxRecDepth 100000 in
set_option maxHeartbeats 4000000 in
theorem G_appS {cA : Nat → ClassId} {ad : tA} {W : va_W} {b v n m k} {a : Nat → Int32} (hm : m = 16 ∨ m = 34) (hnm : n ≤ m) (hb : okby a n) (hf : fitB a) (hi : k < 15) (hq : n + lenS.getD k 0 ≤ 34) : Cg yJ4_append_15ec4 cJ4_append_15ec4 2 (some (.object "java/lang/StringBuilder")) (rmg 5 1 34) 1 34 cA ad [.ref b, .ref (ad 16 k)] (W ++ sbc cA b v n m a) (fun x w => x = some (.ref b) ∧ ∃ v2 m2 a2, (m2 = 16 ∨ m2 = 34) ∧ n + lenS.getD k 0 ≤ m2 ∧ okby a2 (n + lenS.getD k 0) ∧ fitB a2 ∧ w = W ++ sbc cA b v2 (n + lenS.getD k 0) m2 a2) := by
  refine c_of_g (isI := false) (lv0 := [some (.ref b), some (.ref (ad 16 k))]) (fun h => by first | rfl | cases h) rfl (by decide +kernel) (Nat.le_of_ble_eq_true rfl) rfl ?_
  refine g_aload_n dJ4_append_15ec4_0 rfl ?_
  refine g_aload_n dJ4_append_15ec4_1 rfl ?_
  refine g_callSU (n := 1) (As := [.ref (ad 16 k)]) (rest := []) dJ4_append_15ec4_2 (G_appS5 hm hnm hb hf hi hq) q660 q661 q662 q663 q664 q642 ⟨by decide, by decide +kernel⟩ rfl rfl rfl rfl ⟨by decide, by decide⟩ (Nat.le_of_ble_eq_true rfl) ⟨Nat.le_of_ble_eq_true rfl, Nat.le_of_ble_eq_true rfl⟩ (i := W.length) at_0 (fun v w hv => ?_)
  obtain ⟨rfl, v2, m2, a2, h1, h2, h3, h4, rfl⟩ := hv
  refine g_pop dJ4_append_15ec4_5 rfl ?_
  refine g_aload_n dJ4_append_15ec4_6 rfl ?_
  exact g_aret rfl (Or.inl ⟨_, rfl⟩) dJ4_append_15ec4_7 (Nat.le_of_ble_eq_true rfl) (Nat.le_of_ble_eq_true rfl) ⟨rfl, v2, m2, a2, h1, h2, h3, h4, rfl⟩
theorem dJ5_append_c97b9_0 : decode cJ5_append_c97b9 0 = .ok (.aload_n 0, 1) := by decide +kernel
theorem dJ5_append_c97b9_1 : decode cJ5_append_c97b9 1 = .ok (.getfield 79, 3) := by decide +kernel
theorem dJ5_append_c97b9_4 : decode cJ5_append_c97b9 4 = .ok (.istore_n 2, 1) := by decide +kernel
theorem dJ5_append_c97b9_5 : decode cJ5_append_c97b9 5 = .ok (.iload_n 2, 1) := by decide +kernel
theorem dJ5_append_c97b9_6 : decode cJ5_append_c97b9 6 = .ok (.iload_n 1, 1) := by decide +kernel
theorem dJ5_append_c97b9_7 : decode cJ5_append_c97b9 7 = .ok (.invokestatic 245, 3) := by decide +kernel
theorem dJ5_append_c97b9_10 : decode cJ5_append_c97b9 10 = .ok (.iadd, 1) := by decide +kernel
theorem dJ5_append_c97b9_11 : decode cJ5_append_c97b9 11 = .ok (.istore_n 3, 1) := by decide +kernel
theorem dJ5_append_c97b9_12 : decode cJ5_append_c97b9 12 = .ok (.aload_n 0, 1) := by decide +kernel
theorem dJ5_append_c97b9_13 : decode cJ5_append_c97b9 13 = .ok (.iload_n 3, 1) := by decide +kernel
theorem dJ5_append_c97b9_14 : decode cJ5_append_c97b9 14 = .ok (.invokevirtual 100, 3) := by decide +kernel
theorem dJ5_append_c97b9_17 : decode cJ5_append_c97b9 17 = .ok (.aload_n 0, 1) := by decide +kernel
theorem dJ5_append_c97b9_18 : decode cJ5_append_c97b9 18 = .ok (.invokevirtual 83, 3) := by decide +kernel
theorem dJ5_append_c97b9_21 : decode cJ5_append_c97b9 21 = .ok (.ifCond .eq 16, 3) := by decide +kernel
theorem dJ5_append_c97b9_24 : decode cJ5_append_c97b9 24 = .ok (.iload_n 1, 1) := by decide +kernel
theorem dJ5_append_c97b9_25 : decode cJ5_append_c97b9 25 = .ok (.iload_n 3, 1) := by decide +kernel
theorem dJ5_append_c97b9_26 : decode cJ5_append_c97b9 26 = .ok (.aload_n 0, 1) := by decide +kernel
theorem dJ5_append_c97b9_27 : decode cJ5_append_c97b9 27 = .ok (.getfield 15, 3) := by decide +kernel
theorem dJ5_append_c97b9_30 : decode cJ5_append_c97b9 30 = .ok (.invokestatic 248, 3) := by decide +kernel
theorem dJ5_append_c97b9_33 : decode cJ5_append_c97b9 33 = .ok (.pop, 1) := by decide +kernel
theorem dJ5_append_c97b9_34 : decode cJ5_append_c97b9 34 = .ok (.goto 14, 3) := by decide +kernel
theorem dJ5_append_c97b9_37 : decode cJ5_append_c97b9 37 = .ok (.iload_n 1, 1) := by decide +kernel
theorem dJ5_append_c97b9_38 : decode cJ5_append_c97b9 38 = .ok (.iload_n 2, 1) := by decide +kernel
theorem dJ5_append_c97b9_39 : decode cJ5_append_c97b9 39 = .ok (.iload_n 3, 1) := by decide +kernel
theorem dJ5_append_c97b9_40 : decode cJ5_append_c97b9 40 = .ok (.aload_n 0, 1) := by decide +kernel
theorem dJ5_append_c97b9_41 : decode cJ5_append_c97b9 41 = .ok (.getfield 15, 3) := by decide +kernel
theorem dJ5_append_c97b9_44 : decode cJ5_append_c97b9 44 = .ok (.invokestatic 251, 3) := by decide +kernel
theorem dJ5_append_c97b9_47 : decode cJ5_append_c97b9 47 = .ok (.pop, 1) := by decide +kernel
theorem dJ5_append_c97b9_48 : decode cJ5_append_c97b9 48 = .ok (.aload_n 0, 1) := by decide +kernel
theorem dJ5_append_c97b9_49 : decode cJ5_append_c97b9 49 = .ok (.iload_n 3, 1) := by decide +kernel
theorem dJ5_append_c97b9_50 : decode cJ5_append_c97b9 50 = .ok (.putfield 79, 3) := by decide +kernel
theorem dJ5_append_c97b9_53 : decode cJ5_append_c97b9 53 = .ok (.aload_n 0, 1) := by decide +kernel
theorem dJ5_append_c97b9_54 : decode cJ5_append_c97b9 54 = .ok (.areturn, 1) := by decide +kernel
set_option maxRecDepth 100000 in
set_option maxHeartbeats 4000000 in
theorem G_appI5 {cA : Nat → ClassId} {ad : tA} {W : va_W} {b v n m z} {a : Nat → Int32} (hm : m = 16 ∨ m = 34) (hnm : n ≤ m) (hb : okby a n) (hf : fitB a) (hz : z < 100) (hq : n + dg z ≤ 34) : Cg yJ5_append_c97b9 cJ5_append_c97b9 4 (some (.object "java/lang/AbstractStringBuilder")) (rmg 4 1 34) 1 34 cA ad [.ref b, .int (nI z)] (W ++ sbc cA b v n m a) (fun x w => x = some (.ref b) ∧ ∃ v2 m2 a2, (m2 = 16 ∨ m2 = 34) ∧ n + dg z ≤ m2 ∧ okby a2 (n + dg z) ∧ fitB a2 ∧ w = W ++ sbc cA b v2 (n + dg z) m2 a2) := by
  refine c_of_g (isI := false) (lv0 := [some (.ref b), some (.int (nI z)), none, none]) (fun h => by first | rfl | cases h) rfl (by decide +kernel) (Nat.le_of_ble_eq_true rfl) rfl ?_
  have hdg := dg_le (v := z)
  refine g_aload_n dJ5_append_c97b9_0 rfl ?_
  refine g_get (i := W.length) at_0 (rfl : vwCl[1]? = some (RJ4, TJ4, 4)) inlJ4 3 (by decide) q665 rfl dJ5_append_c97b9_1 ?_
  refine g_istore_n dJ5_append_c97b9_4 (by decide) rfl ?_
  refine g_iload_n dJ5_append_c97b9_5 rfl ?_
  refine g_iload_n dJ5_append_c97b9_6 rfl ?_
  refine g_callS (n := 1) (As := [.int (nI z)]) (rest := [.int (nI n)]) dJ5_append_c97b9_7 (G_size hz) ⟨q763, q764, q171, q765⟩ ⟨rfl, by decide, by decide, by decide +kernel⟩ rfl rfl rfl rfl ⟨by decide, by decide⟩ (Nat.le_of_ble_eq_true rfl) ⟨Nat.le_of_ble_eq_true rfl, Nat.le_of_ble_eq_true rfl⟩ (fun v w hv => ?_)
  obtain ⟨rfl, hw0⟩ := hv
  rw [hw0]
  refine g_iadd dJ5_append_c97b9_10 ?_
  rw [nI_add]
  refine g_istore_n dJ5_append_c97b9_11 (by decide) rfl ?_
  refine g_aload_n dJ5_append_c97b9_12 rfl ?_
  refine g_iload_n dJ5_append_c97b9_13 rfl ?_
  refine g_callU (n := 1) (x := yJ5_ensureCapacityInternal_d00df) (y := yJ5_ensureCapacityInternal_d00df) (As := [.int (nI (n + dg z))]) (rest := []) dJ5_append_c97b9_14 (G_ensure hm hq hf) q670 q671 (Or.inr ⟨rfl, List.mem_of_getElem? (i := 0) rfl⟩) q672 q673 q672 q673 q642 (by decide +kernel) rfl rfl rfl rfl ⟨by decide, by decide⟩ (Nat.le_of_ble_eq_true rfl) ⟨Nat.le_of_ble_eq_true rfl, Nat.le_of_ble_eq_true rfl⟩ (rw_at (i := W.length) at_0 (rfl : vwCl[1]? = some _) rfl) (fun v w hv => ?_)
  obtain ⟨rfl, v2, m2, a2, h1, h2, h3, h4, rfl⟩ := hv
  refine g_aload_n dJ5_append_c97b9_17 rfl ?_
  refine g_callU (n := 0) (x := yJ5_isLatin1_aae02) (y := yJ5_isLatin1_aae02) (As := []) (rest := []) dJ5_append_c97b9_18 (G_latin (i := W.length) at_0) q700 q701 (Or.inl q702) q703 q704 q703 q704 q642 (by decide +kernel) rfl rfl rfl rfl ⟨by decide, by decide⟩ (Nat.le_of_ble_eq_true rfl) ⟨Nat.le_of_ble_eq_true rfl, Nat.le_of_ble_eq_true rfl⟩ (rw_at (i := W.length) at_0 (rfl : vwCl[1]? = some _) rfl) (fun v w hv => ?_)
  obtain ⟨rfl, hw0⟩ := hv
  rw [hw0]
  refine g_if_eq (tgt := 37) dJ5_append_c97b9_21 (by decide) (fun c21 => absurd c21 (by decide)) (fun c21 => ?_)
  refine g_iload_n dJ5_append_c97b9_24 rfl ?_
  refine g_iload_n dJ5_append_c97b9_25 rfl ?_
  refine g_aload_n dJ5_append_c97b9_26 rfl ?_
  refine g_get (i := W.length) at_0 (rfl : vwCl[1]? = some (RJ4, TJ4, 4)) inlJ4 0 (by decide) q647 rfl dJ5_append_c97b9_27 ?_
  refine g_callS (n := 3) (As := [.int (nI z), .int (nI (n + dg z)), .ref v2]) (rest := []) dJ5_append_c97b9_30 (G_chars (i := W.length + 1) hz at_1 rfl h2 (by omega)) ⟨q766, q767, q171, q768⟩ ⟨rfl, by decide, by decide, by decide +kernel⟩ rfl rfl rfl rfl ⟨by decide, by decide⟩ (Nat.le_of_ble_eq_true rfl) ⟨Nat.le_of_ble_eq_true rfl, Nat.le_of_ble_eq_true rfl⟩ (fun v w hv => ?_)
  obtain ⟨rfl, hw0⟩ := hv
  rw [hw0, set_1]
  refine g_pop dJ5_append_c97b9_33 rfl ?_
  refine g_goto (tgt := 48) dJ5_append_c97b9_34 (by decide) ?_
  refine g_aload_n dJ5_append_c97b9_48 rfl ?_
  refine g_iload_n dJ5_append_c97b9_49 rfl ?_
  refine g_put (i := W.length) at_0 (rfl : vwCl[1]? = some (RJ4, TJ4, 4)) inlJ4 tyJ4 tyJ4_ok nmJ4 3 (by decide) (Nat.le_of_ble_eq_true rfl) q665 rfl rfl rfl rfl set_0 dJ5_append_c97b9_50 ?_
  refine g_aload_n dJ5_append_c97b9_53 rfl ?_
  exact g_aret rfl (Or.inl ⟨_, rfl⟩) dJ5_append_c97b9_54 (Nat.le_of_ble_eq_true rfl) (Nat.le_of_ble_eq_true rfl) ⟨rfl, v2, m2, _, h1, h2, wr_by (okby_keep hb (fun j hj => h3 j (by omega))) hz, wr_fit h4 hz, rfl⟩
theorem dJ4_append_bf812_0 : decode cJ4_append_bf812 0 = .ok (.aload_n 0, 1) := by decide +kernel
theorem dJ4_append_bf812_1 : decode cJ4_append_bf812 1 = .ok (.iload_n 1, 1) := by decide +kernel
theorem dJ4_append_bf812_2 : decode cJ4_append_bf812 2 = .ok (.invokespecial 53, 3) := by decide +kernel
theorem dJ4_append_bf812_5 : decode cJ4_append_bf812 5 = .ok (.pop, 1) := by decide +kernel
theorem dJ4_append_bf812_6 : decode cJ4_append_bf812 6 = .ok (.aload_n 0, 1) := by decide +kernel
theorem dJ4_append_bf812_7 : decode cJ4_append_bf812 7 = .ok (.areturn, 1) := by decide +kernel
set_option maxRecDepth 100000 in
set_option maxHeartbeats 4000000 in
theorem G_appI {cA : Nat → ClassId} {ad : tA} {W : va_W} {b v n m z} {a : Nat → Int32} (hm : m = 16 ∨ m = 34) (hnm : n ≤ m) (hb : okby a n) (hf : fitB a) (hz : z < 100) (hq : n + dg z ≤ 34) : Cg yJ4_append_bf812 cJ4_append_bf812 2 (some (.object "java/lang/StringBuilder")) (rmg 5 1 34) 1 34 cA ad [.ref b, .int (nI z)] (W ++ sbc cA b v n m a) (fun x w => x = some (.ref b) ∧ ∃ v2 m2 a2, (m2 = 16 ∨ m2 = 34) ∧ n + dg z ≤ m2 ∧ okby a2 (n + dg z) ∧ fitB a2 ∧ w = W ++ sbc cA b v2 (n + dg z) m2 a2) := by
  refine c_of_g (isI := false) (lv0 := [some (.ref b), some (.int (nI z))]) (fun h => by first | rfl | cases h) rfl (by decide +kernel) (Nat.le_of_ble_eq_true rfl) rfl ?_
  refine g_aload_n dJ4_append_bf812_0 rfl ?_
  refine g_iload_n dJ4_append_bf812_1 rfl ?_
  refine g_callSU (n := 1) (As := [.int (nI z)]) (rest := []) dJ4_append_bf812_2 (G_appI5 hm hnm hb hf hz hq) q759 q760 q662 q761 q762 q642 ⟨by decide, by decide +kernel⟩ rfl rfl rfl rfl ⟨by decide, by decide⟩ (Nat.le_of_ble_eq_true rfl) ⟨Nat.le_of_ble_eq_true rfl, Nat.le_of_ble_eq_true rfl⟩ (i := W.length) at_0 (fun v w hv => ?_)
  obtain ⟨rfl, v2, m2, a2, h1, h2, h3, h4, rfl⟩ := hv
  refine g_pop dJ4_append_bf812_5 rfl ?_
  refine g_aload_n dJ4_append_bf812_6 rfl ?_
  exact g_aret rfl (Or.inl ⟨_, rfl⟩) dJ4_append_bf812_7 (Nat.le_of_ble_eq_true rfl) (Nat.le_of_ble_eq_true rfl) ⟨rfl, v2, m2, a2, h1, h2, h3, h4, rfl⟩
theorem dJ5_init_d00df_0 : decode cJ5_init_d00df 0 = .ok (.aload_n 0, 1) := by decide +kernel
theorem dJ5_init_d00df_1 : decode cJ5_init_d00df 1 = .ok (.invokespecial 3, 3) := by decide +kernel
theorem dJ5_init_d00df_4 : decode cJ5_init_d00df 4 = .ok (.getstatic 18, 3) := by decide +kernel
theorem dJ5_init_d00df_7 : decode cJ5_init_d00df 7 = .ok (.ifCond .eq 18, 3) := by decide +kernel
theorem dJ5_init_d00df_10 : decode cJ5_init_d00df 10 = .ok (.aload_n 0, 1) := by decide +kernel
theorem dJ5_init_d00df_11 : decode cJ5_init_d00df 11 = .ok (.iload_n 1, 1) := by decide +kernel
theorem dJ5_init_d00df_12 : decode cJ5_init_d00df 12 = .ok (.newarray .byte, 2) := by decide +kernel
theorem dJ5_init_d00df_14 : decode cJ5_init_d00df 14 = .ok (.putfield 15, 3) := by decide +kernel
theorem dJ5_init_d00df_17 : decode cJ5_init_d00df 17 = .ok (.aload_n 0, 1) := by decide +kernel
theorem dJ5_init_d00df_18 : decode cJ5_init_d00df 18 = .ok (.iconst 0, 1) := by decide +kernel
theorem dJ5_init_d00df_19 : decode cJ5_init_d00df 19 = .ok (.putfield 22, 3) := by decide +kernel
theorem dJ5_init_d00df_22 : decode cJ5_init_d00df 22 = .ok (.goto 16, 3) := by decide +kernel
theorem dJ5_init_d00df_25 : decode cJ5_init_d00df 25 = .ok (.aload_n 0, 1) := by decide +kernel
theorem dJ5_init_d00df_26 : decode cJ5_init_d00df 26 = .ok (.iload_n 1, 1) := by decide +kernel
theorem dJ5_init_d00df_27 : decode cJ5_init_d00df 27 = .ok (.invokestatic 26, 3) := by decide +kernel
theorem dJ5_init_d00df_30 : decode cJ5_init_d00df 30 = .ok (.putfield 15, 3) := by decide +kernel
theorem dJ5_init_d00df_33 : decode cJ5_init_d00df 33 = .ok (.aload_n 0, 1) := by decide +kernel
theorem dJ5_init_d00df_34 : decode cJ5_init_d00df 34 = .ok (.iconst 1, 1) := by decide +kernel
theorem dJ5_init_d00df_35 : decode cJ5_init_d00df 35 = .ok (.putfield 22, 3) := by decide +kernel
theorem dJ5_init_d00df_38 : decode cJ5_init_d00df 38 = .ok (.return_, 1) := by decide +kernel
set_option maxRecDepth 100000 in
set_option maxHeartbeats 4000000 in
theorem G_sb5 {cA : Nat → ClassId} {ad : tA} {W : va_W} {b : Nat} : Cg yJ5_init_d00df cJ5_init_d00df 2 none (rmg 1 1 16) 1 16 cA ad [.ref b, .int 16] (W ++ [(b, .inr (1, [.null, .int 0, .int 0, .int 0]))]) (fun x w => x = none ∧ ∃ v : Nat, w = W ++ sbc cA b v 0 16 (fun _ => 0)) := by
  refine c_of_g (isI := true) (lv0 := [some (.ref b), some (.int 16)]) (fun h => by first | rfl | cases h) rfl (by decide +kernel) (Nat.le_of_ble_eq_true rfl) rfl ?_
  refine g_aload_n dJ5_init_d00df_0 rfl ?_
  refine g_objInit q644 (Nat.le_of_ble_eq_true rfl) (Nat.le_of_ble_eq_true rfl) dJ5_init_d00df_1 ?_
  refine g_getsC q645 dJ5_init_d00df_4 ?_
  refine g_if_eq (tgt := 25) dJ5_init_d00df_7 (by decide) (fun c7 => absurd c7 (by decide)) (fun c7 => ?_)
  refine g_aload_n dJ5_init_d00df_10 rfl ?_
  refine g_iload_n dJ5_init_d00df_11 rfl ?_
  refine g_newa (N := 16) (a0 := (16, .inl (fun _ => 0))) 5 (fun _ => rfl) q646 rfl (fun _ => rfl) (by decide) (by decide) (by decide) ⟨(Nat.le_of_ble_eq_true rfl), (Nat.le_of_ble_eq_true rfl)⟩ dJ5_init_d00df_12 (fun r12 => ?_)
  simp only [List.append_assoc, List.cons_append, List.nil_append, List.append_nil]
  refine g_put (i := W.length) at_0 (rfl : vwCl[1]? = some (RJ4, TJ4, 4)) inlJ4 tyJ4 tyJ4_ok nmJ4 0 (by decide) (Nat.le_of_ble_eq_true rfl) q647 rfl rfl rfl rfl set_0 dJ5_init_d00df_14 ?_
  refine g_aload_n dJ5_init_d00df_17 rfl ?_
  refine g_iconst (v := 0) dJ5_init_d00df_18 (by decide) ?_
  refine g_put (i := W.length) at_0 (rfl : vwCl[1]? = some (RJ4, TJ4, 4)) inlJ4 tyJ4 tyJ4_ok nmJ4 1 (by decide) (Nat.le_of_ble_eq_true rfl) q648 rfl rfl rfl rfl set_0 dJ5_init_d00df_19 ?_
  refine g_goto (tgt := 38) dJ5_init_d00df_22 (by decide) ?_
  exact g_vret rfl dJ5_init_d00df_38 (Nat.le_of_ble_eq_true rfl) (Nat.le_of_ble_eq_true rfl) ⟨rfl, r12, rfl⟩
theorem dJ4_init_da8c8_0 : decode cJ4_init_da8c8 0 = .ok (.aload_n 0, 1) := by decide +kernel
theorem dJ4_init_da8c8_1 : decode cJ4_init_da8c8 1 = .ok (.bipush 16, 2) := by decide +kernel
theorem dJ4_init_da8c8_3 : decode cJ4_init_da8c8 3 = .ok (.invokespecial 1, 3) := by decide +kernel
theorem dJ4_init_da8c8_6 : decode cJ4_init_da8c8 6 = .ok (.return_, 1) := by decide +kernel
set_option maxRecDepth 100000 in
set_option maxHeartbeats 4000000 in
theorem G_sb {cA : Nat → ClassId} {ad : tA} {W : va_W} {b : Nat} : Cg yJ4_init_da8c8 cJ4_init_da8c8 1 none (rmg 2 1 16) 1 16 cA ad [.ref b] (W ++ [(b, .inr (1, [.null, .int 0, .int 0, .int 0]))]) (fun x w => x = none ∧ ∃ v : Nat, w = W ++ sbc cA b v 0 16 (fun _ => 0)) := by
  refine c_of_g (isI := true) (lv0 := [some (.ref b)]) (fun h => by first | rfl | cases h) rfl (by decide +kernel) (Nat.le_of_ble_eq_true rfl) rfl ?_
  refine g_aload_n dJ4_init_da8c8_0 rfl ?_
  refine g_bipush (v := 16) dJ4_init_da8c8_1 (by decide) ?_
  refine g_callI (n := 1) (As := [.int 16]) (rest := []) dJ4_init_da8c8_3 G_sb5 ⟨q640, q641, q642, q643, rfl⟩ ⟨by decide, by decide, by decide +kernel⟩ rfl rfl rfl rfl ⟨by decide, by decide⟩ (Nat.le_of_ble_eq_true rfl) ⟨Nat.le_of_ble_eq_true rfl, Nat.le_of_ble_eq_true rfl⟩ (fun v w hv => ?_)
  obtain ⟨rfl, v, rfl⟩ := hv
  exact g_vret rfl dJ4_init_da8c8_6 (Nat.le_of_ble_eq_true rfl) (Nat.le_of_ble_eq_true rfl) ⟨rfl, v, rfl⟩
theorem dJ5_getValue_6d5f1_0 : decode cJ5_getValue_6d5f1 0 = .ok (.aload_n 0, 1) := by decide +kernel
theorem dJ5_getValue_6d5f1_1 : decode cJ5_getValue_6d5f1 1 = .ok (.getfield 15, 3) := by decide +kernel
theorem dJ5_getValue_6d5f1_4 : decode cJ5_getValue_6d5f1 4 = .ok (.areturn, 1) := by decide +kernel
set_option maxRecDepth 100000 in
set_option maxHeartbeats 4000000 in
theorem G_val {cA : Nat → ClassId} {ad : tA} {ws : va_W} {i b v n : Nat} (he : ws[i]? = some (b, .inr (1, [.ref v, .int 0, .int 0, .int (nI n)]))) : Cg yJ5_getValue_6d5f1 cJ5_getValue_6d5f1 1 (some (.array .byte)) (rmg 0 0 0) 0 0 cA ad [.ref b] ws (Qs (some (.ref v)) ws) := by
  refine c_of_g (isI := false) (lv0 := [some (.ref b)]) (fun h => by first | rfl | cases h) rfl (by decide +kernel) (Nat.le_of_ble_eq_true rfl) rfl ?_
  refine g_aload_n dJ5_getValue_6d5f1_0 rfl ?_
  refine g_get (i := i) he (rfl : vwCl[1]? = some (RJ4, TJ4, 4)) inlJ4 0 (by decide) q647 rfl dJ5_getValue_6d5f1_1 ?_
  exact g_aret rfl (Or.inr ⟨_, rfl⟩) dJ5_getValue_6d5f1_4 (Nat.le_of_ble_eq_true rfl) (Nat.le_of_ble_eq_true rfl) ⟨rfl, rfl⟩
theorem dJ5_length_8abf5_0 : decode cJ5_length_8abf5 0 = .ok (.aload_n 0, 1) := by decide +kernel
theorem dJ5_length_8abf5_1 : decode cJ5_length_8abf5 1 = .ok (.getfield 79, 3) := by decide +kernel
theorem dJ5_length_8abf5_4 : decode cJ5_length_8abf5 4 = .ok (.ireturn, 1) := by decide +kernel
set_option maxRecDepth 100000 in
set_option maxHeartbeats 4000000 in
theorem G_len5 {cA : Nat → ClassId} {ad : tA} {ws : va_W} {i b v n : Nat} (he : ws[i]? = some (b, .inr (1, [.ref v, .int 0, .int 0, .int (nI n)]))) : Cg yJ5_length_8abf5 cJ5_length_8abf5 1 (some .int) (rmg 0 0 0) 0 0 cA ad [.ref b] ws (Qs (some (.int (nI n))) ws) := by
  refine c_of_g (isI := false) (lv0 := [some (.ref b)]) (fun h => by first | rfl | cases h) rfl (by decide +kernel) (Nat.le_of_ble_eq_true rfl) rfl ?_
  refine g_aload_n dJ5_length_8abf5_0 rfl ?_
  refine g_get (i := i) he (rfl : vwCl[1]? = some (RJ4, TJ4, 4)) inlJ4 3 (by decide) q665 rfl dJ5_length_8abf5_1 ?_
  exact g_zret rfl rfl dJ5_length_8abf5_4 (Nat.le_of_ble_eq_true rfl) (Nat.le_of_ble_eq_true rfl) ⟨rfl, rfl⟩
theorem dJ4_length_8abf5_0 : decode cJ4_length_8abf5 0 = .ok (.aload_n 0, 1) := by decide +kernel
theorem dJ4_length_8abf5_1 : decode cJ4_length_8abf5 1 = .ok (.invokespecial 343, 3) := by decide +kernel
theorem dJ4_length_8abf5_4 : decode cJ4_length_8abf5 4 = .ok (.ireturn, 1) := by decide +kernel
set_option maxRecDepth 100000 in
set_option maxHeartbeats 4000000 in
theorem G_len4 {cA : Nat → ClassId} {ad : tA} {ws : va_W} {i b v n : Nat} (he : ws[i]? = some (b, .inr (1, [.ref v, .int 0, .int 0, .int (nI n)]))) : Cg yJ4_length_8abf5 cJ4_length_8abf5 1 (some .int) (rmg 1 0 0) 0 0 cA ad [.ref b] ws (Qs (some (.int (nI n))) ws) := by
  refine c_of_g (isI := false) (lv0 := [some (.ref b)]) (fun h => by first | rfl | cases h) rfl (by decide +kernel) (Nat.le_of_ble_eq_true rfl) rfl ?_
  refine g_aload_n dJ4_length_8abf5_0 rfl ?_
  refine g_callSU (n := 0) (As := []) (rest := []) dJ4_length_8abf5_1 (G_len5 he) q804 q799 q662 q805 q806 q642 ⟨by decide, by decide +kernel⟩ rfl rfl rfl rfl ⟨by decide, by decide⟩ (Nat.le_of_ble_eq_true rfl) ⟨Nat.le_of_ble_eq_true rfl, Nat.le_of_ble_eq_true rfl⟩ he (fun v w hv => ?_)
  obtain ⟨rfl, hw0⟩ := hv
  rw [hw0]
  exact g_zret rfl rfl dJ4_length_8abf5_4 (Nat.le_of_ble_eq_true rfl) (Nat.le_of_ble_eq_true rfl) ⟨rfl, rfl⟩
theorem dJ7_checkLength_df160_0 : decode cJ7_checkLength_df160 0 = .ok (.iload_n 1, 1) := by decide +kernel
theorem dJ7_checkLength_df160_1 : decode cJ7_checkLength_df160 1 = .ok (.iload_n 0, 1) := by decide +kernel
theorem dJ7_checkLength_df160_2 : decode cJ7_checkLength_df160 2 = .ok (.if_icmp .ge 35, 3) := by decide +kernel
theorem dJ7_checkLength_df160_5 : decode cJ7_checkLength_df160 5 = .ok (.new 43, 3) := by decide +kernel
theorem dJ7_checkLength_df160_8 : decode cJ7_checkLength_df160 8 = .ok (.dup, 1) := by decide +kernel
theorem dJ7_checkLength_df160_9 : decode cJ7_checkLength_df160 9 = .ok (.new 45, 3) := by decide +kernel
theorem dJ7_checkLength_df160_12 : decode cJ7_checkLength_df160 12 = .ok (.dup, 1) := by decide +kernel
theorem dJ7_checkLength_df160_13 : decode cJ7_checkLength_df160 13 = .ok (.invokespecial 47, 3) := by decide +kernel
theorem dJ7_checkLength_df160_16 : decode cJ7_checkLength_df160 16 = .ok (.iload_n 0, 1) := by decide +kernel
theorem dJ7_checkLength_df160_17 : decode cJ7_checkLength_df160 17 = .ok (.invokevirtual 54, 3) := by decide +kernel
theorem dJ7_checkLength_df160_20 : decode cJ7_checkLength_df160 20 = .ok (.ldc_w 337, 3) := by decide +kernel
theorem dJ7_checkLength_df160_23 : decode cJ7_checkLength_df160 23 = .ok (.invokevirtual 50, 3) := by decide +kernel
theorem dJ7_checkLength_df160_26 : decode cJ7_checkLength_df160 26 = .ok (.iload_n 1, 1) := by decide +kernel
theorem dJ7_checkLength_df160_27 : decode cJ7_checkLength_df160 27 = .ok (.invokevirtual 54, 3) := by decide +kernel
theorem dJ7_checkLength_df160_30 : decode cJ7_checkLength_df160 30 = .ok (.invokevirtual 61, 3) := by decide +kernel
theorem dJ7_checkLength_df160_33 : decode cJ7_checkLength_df160 33 = .ok (.invokespecial 65, 3) := by decide +kernel
theorem dJ7_checkLength_df160_36 : decode cJ7_checkLength_df160 36 = .ok (.athrow, 1) := by decide +kernel
theorem dJ7_checkLength_df160_37 : decode cJ7_checkLength_df160 37 = .ok (.return_, 1) := by decide +kernel
set_option maxRecDepth 100000 in
set_option maxHeartbeats 4000000 in
theorem G_ckl {cA : Nat → ClassId} {ad : tA} {ws : va_W} {n : Nat} (hn : n ≤ 34) : Cg yJ7_checkLength_df160 cJ7_checkLength_df160 2 none (rmg 0 0 0) 0 0 cA ad [.int 0, .int (nI n)] ws (Qs none ws) := by
  refine c_of_g (isI := false) (lv0 := [some (.int 0), some (.int (nI n))]) (fun h => by first | rfl | cases h) rfl (by decide +kernel) (Nat.le_of_ble_eq_true rfl) rfl ?_
  refine g_iload_n dJ7_checkLength_df160_0 rfl ?_
  refine g_iload_n dJ7_checkLength_df160_1 rfl ?_
  refine g_icmp_ge (tgt := 37) dJ7_checkLength_df160_2 (by decide) (fun c2 => ?_) (fun c2 => absurd (nI_pos' (by omega)) c2)
  exact g_vret rfl dJ7_checkLength_df160_37 (Nat.le_of_ble_eq_true rfl) (Nat.le_of_ble_eq_true rfl) ⟨rfl, rfl⟩
theorem dJ7_copyOfRangeByte_39247_0 : decode cJ7_copyOfRangeByte_39247 0 = .ok (.iload_n 1, 1) := by decide +kernel
theorem dJ7_copyOfRangeByte_39247_1 : decode cJ7_copyOfRangeByte_39247 1 = .ok (.iload_n 2, 1) := by decide +kernel
theorem dJ7_copyOfRangeByte_39247_2 : decode cJ7_copyOfRangeByte_39247 2 = .ok (.invokestatic 343, 3) := by decide +kernel
theorem dJ7_copyOfRangeByte_39247_5 : decode cJ7_copyOfRangeByte_39247 5 = .ok (.iload_n 2, 1) := by decide +kernel
theorem dJ7_copyOfRangeByte_39247_6 : decode cJ7_copyOfRangeByte_39247 6 = .ok (.iload_n 1, 1) := by decide +kernel
theorem dJ7_copyOfRangeByte_39247_7 : decode cJ7_copyOfRangeByte_39247 7 = .ok (.isub, 1) := by decide +kernel
theorem dJ7_copyOfRangeByte_39247_8 : decode cJ7_copyOfRangeByte_39247 8 = .ok (.istore_n 3, 1) := by decide +kernel
theorem dJ7_copyOfRangeByte_39247_9 : decode cJ7_copyOfRangeByte_39247 9 = .ok (.iload_n 3, 1) := by decide +kernel
theorem dJ7_copyOfRangeByte_39247_10 : decode cJ7_copyOfRangeByte_39247 10 = .ok (.newarray .byte, 2) := by decide +kernel
theorem dJ7_copyOfRangeByte_39247_12 : decode cJ7_copyOfRangeByte_39247 12 = .ok (.astore 4, 2) := by decide +kernel
theorem dJ7_copyOfRangeByte_39247_14 : decode cJ7_copyOfRangeByte_39247 14 = .ok (.aload_n 0, 1) := by decide +kernel
theorem dJ7_copyOfRangeByte_39247_15 : decode cJ7_copyOfRangeByte_39247 15 = .ok (.iload_n 1, 1) := by decide +kernel
theorem dJ7_copyOfRangeByte_39247_16 : decode cJ7_copyOfRangeByte_39247 16 = .ok (.aload 4, 2) := by decide +kernel
theorem dJ7_copyOfRangeByte_39247_18 : decode cJ7_copyOfRangeByte_39247 18 = .ok (.iconst 0, 1) := by decide +kernel
theorem dJ7_copyOfRangeByte_39247_19 : decode cJ7_copyOfRangeByte_39247 19 = .ok (.aload_n 0, 1) := by decide +kernel
theorem dJ7_copyOfRangeByte_39247_20 : decode cJ7_copyOfRangeByte_39247 20 = .ok (.arraylength, 1) := by decide +kernel
theorem dJ7_copyOfRangeByte_39247_21 : decode cJ7_copyOfRangeByte_39247 21 = .ok (.iload_n 1, 1) := by decide +kernel
theorem dJ7_copyOfRangeByte_39247_22 : decode cJ7_copyOfRangeByte_39247 22 = .ok (.isub, 1) := by decide +kernel
theorem dJ7_copyOfRangeByte_39247_23 : decode cJ7_copyOfRangeByte_39247 23 = .ok (.iload_n 3, 1) := by decide +kernel
theorem dJ7_copyOfRangeByte_39247_24 : decode cJ7_copyOfRangeByte_39247 24 = .ok (.invokestatic 304, 3) := by decide +kernel
theorem dJ7_copyOfRangeByte_39247_27 : decode cJ7_copyOfRangeByte_39247 27 = .ok (.invokestatic 150, 3) := by decide +kernel
theorem dJ7_copyOfRangeByte_39247_30 : decode cJ7_copyOfRangeByte_39247 30 = .ok (.aload 4, 2) := by decide +kernel
theorem dJ7_copyOfRangeByte_39247_32 : decode cJ7_copyOfRangeByte_39247 32 = .ok (.areturn, 1) := by decide +kernel
set_option maxRecDepth 100000 in
set_option maxHeartbeats 4000000 in
theorem G_cprB {cA : Nat → ClassId} {ad : tA} {ws : va_W} {i v n m : Nat} {a : Nat → Int32} (ha : ws[i]? = some (v, .inl (cA 5, m, .inl a))) (hf : fitB a) (hnm : n ≤ m) (hm2 : m ≤ 34) (hn : n ≤ 34) : Cg yJ7_copyOfRangeByte_39247 cJ7_copyOfRangeByte_39247 5 (some (.array .byte)) (rmg 1 1 34) 1 34 cA ad [.ref v, .int 0, .int (nI n)] ws (fun x w => ∃ (r : Nat) (a2 : Nat → Int32), x = some (.ref r) ∧ (∀ j, j < n → a2 j = a j) ∧ fitB a2 ∧ w = ws ++ [(r, .inl (cA 5, n, .inl a2))]) := by
  refine c_of_g (isI := false) (lv0 := [some (.ref v), some (.int 0), some (.int (nI n)), none, none]) (fun h => by first | rfl | cases h) rfl (by decide +kernel) (Nat.le_of_ble_eq_true rfl) rfl ?_
  refine g_iload_n dJ7_copyOfRangeByte_39247_0 rfl ?_
  refine g_iload_n dJ7_copyOfRangeByte_39247_1 rfl ?_
  refine g_callS (n := 2) (As := [.int 0, .int (nI n)]) (rest := []) dJ7_copyOfRangeByte_39247_2 (G_ckl hn) ⟨q814, q815, q690, q816⟩ ⟨rfl, by decide, by decide, by decide +kernel⟩ rfl rfl rfl rfl ⟨by decide, by decide⟩ (Nat.le_of_ble_eq_true rfl) ⟨Nat.le_of_ble_eq_true rfl, Nat.le_of_ble_eq_true rfl⟩ (fun v w hv => ?_)
  obtain ⟨rfl, hw0⟩ := hv
  rw [hw0]
  refine g_iload_n dJ7_copyOfRangeByte_39247_5 rfl ?_
  refine g_iload_n dJ7_copyOfRangeByte_39247_6 rfl ?_
  refine g_isub dJ7_copyOfRangeByte_39247_7 ?_
  rw [show nI n - 0 = nI n from pk_sub (a := n) (b := 0) (by omega)]
  refine g_istore_n dJ7_copyOfRangeByte_39247_8 (by decide) rfl ?_
  refine g_iload_n dJ7_copyOfRangeByte_39247_9 rfl ?_
  refine g_newa (N := n) (a0 := (n, .inl (fun _ => 0))) 5 (fun _ => rfl) q646 rfl (fun _ => rfl) (nI_pos (by omega)) (nI_clamp (by omega)) (by show n * 1 ≤ 536870912; omega) ⟨Nat.le_of_ble_eq_true rfl, by show 0 + n ≤ 34; omega⟩ dJ7_copyOfRangeByte_39247_10 (fun r10 => ?_)
  refine g_astore dJ7_copyOfRangeByte_39247_12 (by decide) rfl ?_
  have ha2 : (ws ++ [(r10, (.inl (cA 5, n, .inl (fun _ => 0)) : va_E))])[i]? = some (v, .inl (cA 5, m, .inl a)) := by rw [List.getElem?_append_left (List.getElem?_eq_some_iff.mp ha).1]; exact ha
  refine g_aload_n dJ7_copyOfRangeByte_39247_14 rfl ?_
  refine g_iload_n dJ7_copyOfRangeByte_39247_15 rfl ?_
  refine g_aload dJ7_copyOfRangeByte_39247_16 rfl ?_
  refine g_iconst (v := 0) dJ7_copyOfRangeByte_39247_18 (by decide) ?_
  refine g_aload_n dJ7_copyOfRangeByte_39247_19 rfl ?_
  refine g_alen (v := nI m) 5 (fun _ => rfl) ha2 rfl dJ7_copyOfRangeByte_39247_20 ?_
  refine g_iload_n dJ7_copyOfRangeByte_39247_21 rfl ?_
  refine g_isub dJ7_copyOfRangeByte_39247_22 ?_
  rw [show nI m - 0 = nI m from pk_sub (a := m) (b := 0) (by omega)]
  refine g_iload_n dJ7_copyOfRangeByte_39247_23 rfl ?_
  refine g_mmin q698 (Nat.le_of_ble_eq_true rfl) (Nat.le_of_ble_eq_true rfl) ⟨Nat.le_of_ble_eq_true rfl, by show 0 + n ≤ 34; omega⟩ dJ7_copyOfRangeByte_39247_24 ?_
  rw [min_le hnm hm2]
  refine g_copyB (n := nI n) (j := ws.length) ha2 at_0 (by decide) (by decide) (nI_pos (by omega)) (by rw [nI_clamp (by omega)]; show 0 + n ≤ m; omega) (by rw [nI_clamp (by omega)]; show 0 + n ≤ n; omega) hf (set_0 (T := [])) q699 q82 q83 q84 (Nat.le_of_ble_eq_true rfl) (Nat.le_of_ble_eq_true rfl) dJ7_copyOfRangeByte_39247_27 ?_
  refine g_aload dJ7_copyOfRangeByte_39247_30 rfl ?_
  exact g_aret rfl (Or.inr ⟨_, rfl⟩) dJ7_copyOfRangeByte_39247_32 (Nat.le_of_ble_eq_true rfl) (by show 0 + n ≤ 34; omega) ⟨r10, _, rfl, fun j hj => by show va_cpy a (fun _ => 0) 0 0 (nI n).toNatClampNeg j = a j; rw [nI_clamp (n := n) (by omega)]; exact (pk_cpy_in (Nat.zero_le _) (by omega)).trans (congrArg a (show 0 + (j - 0) = j by omega)), fit_c hf fit_0, rfl⟩
theorem dJ7_copyOfRange_39247_0 : decode cJ7_copyOfRange_39247 0 = .ok (.iload_n 1, 1) := by decide +kernel
theorem dJ7_copyOfRange_39247_1 : decode cJ7_copyOfRange_39247 1 = .ok (.ifCond .ne 9, 3) := by decide +kernel
theorem dJ7_copyOfRange_39247_4 : decode cJ7_copyOfRange_39247 4 = .ok (.iload_n 2, 1) := by decide +kernel
theorem dJ7_copyOfRange_39247_5 : decode cJ7_copyOfRange_39247 5 = .ok (.aload_n 0, 1) := by decide +kernel
theorem dJ7_copyOfRange_39247_6 : decode cJ7_copyOfRange_39247 6 = .ok (.arraylength, 1) := by decide +kernel
theorem dJ7_copyOfRange_39247_7 : decode cJ7_copyOfRange_39247 7 = .ok (.if_icmp .eq 10, 3) := by decide +kernel
theorem dJ7_copyOfRange_39247_10 : decode cJ7_copyOfRange_39247 10 = .ok (.aload_n 0, 1) := by decide +kernel
theorem dJ7_copyOfRange_39247_11 : decode cJ7_copyOfRange_39247 11 = .ok (.iload_n 1, 1) := by decide +kernel
theorem dJ7_copyOfRange_39247_12 : decode cJ7_copyOfRange_39247 12 = .ok (.iload_n 2, 1) := by decide +kernel
theorem dJ7_copyOfRange_39247_13 : decode cJ7_copyOfRange_39247 13 = .ok (.invokestatic 339, 3) := by decide +kernel
theorem dJ7_copyOfRange_39247_16 : decode cJ7_copyOfRange_39247 16 = .ok (.areturn, 1) := by decide +kernel
theorem dJ7_copyOfRange_39247_17 : decode cJ7_copyOfRange_39247 17 = .ok (.aload_n 0, 1) := by decide +kernel
theorem dJ7_copyOfRange_39247_18 : decode cJ7_copyOfRange_39247 18 = .ok (.invokevirtual 310, 3) := by decide +kernel
theorem dJ7_copyOfRange_39247_21 : decode cJ7_copyOfRange_39247 21 = .ok (.checkcast 311, 3) := by decide +kernel
theorem dJ7_copyOfRange_39247_24 : decode cJ7_copyOfRange_39247 24 = .ok (.areturn, 1) := by decide +kernel
set_option maxRecDepth 100000 in
set_option maxHeartbeats 4000000 in
theorem G_cpr {cA : Nat → ClassId} {ad : tA} {ws : va_W} {i v n m : Nat} {a : Nat → Int32} (ha : ws[i]? = some (v, .inl (cA 5, m, .inl a))) (hf : fitB a) (hnm : n ≤ m) (hm2 : m ≤ 34) (hn : n ≤ 34) : Cg yJ7_copyOfRange_39247 cJ7_copyOfRange_39247 3 (some (.array .byte)) (rmg 2 1 34) 1 34 cA ad [.ref v, .int 0, .int (nI n)] ws (fun x w => ∃ (r : Nat) (a2 : Nat → Int32), x = some (.ref r) ∧ (∀ j, j < n → a2 j = a j) ∧ fitB a2 ∧ w = ws ++ [(r, .inl (cA 5, n, .inl a2))]) := by
  refine c_of_g (isI := false) (lv0 := [some (.ref v), some (.int 0), some (.int (nI n))]) (fun h => by first | rfl | cases h) rfl (by decide +kernel) (Nat.le_of_ble_eq_true rfl) rfl ?_
  by_cases e : n = m
  · subst e
    refine g_iload_n dJ7_copyOfRange_39247_0 rfl ?_
    refine g_if_ne (tgt := 10) dJ7_copyOfRange_39247_1 (by decide) (fun c1 => absurd rfl c1) (fun c1 => ?_)
    refine g_iload_n dJ7_copyOfRange_39247_4 rfl ?_
    refine g_aload_n dJ7_copyOfRange_39247_5 rfl ?_
    refine g_alen (v := nI n) 5 (fun _ => rfl) ha rfl dJ7_copyOfRange_39247_6 ?_
    refine g_icmp_eq (tgt := 17) dJ7_copyOfRange_39247_7 (by decide) (fun c7 => ?_) (fun c7 => absurd rfl c7)
    refine g_aload_n dJ7_copyOfRange_39247_17 rfl ?_
    refine g_clone q692 ha hf (Nat.le_of_ble_eq_true rfl) (Nat.le_of_ble_eq_true rfl) ⟨Nat.le_of_ble_eq_true rfl, by show 0 + n ≤ 34; omega⟩ dJ7_copyOfRange_39247_18 (fun r => ?_)
    refine g_castB (i := ws.length) q697 at_0 dJ7_copyOfRange_39247_21 ?_
    exact g_aret rfl (Or.inr ⟨_, rfl⟩) dJ7_copyOfRange_39247_24 (Nat.le_of_ble_eq_true rfl) (by show 0 + n ≤ 34; omega) ⟨r, a, rfl, fun _ _ => rfl, hf, rfl⟩
  · skip
    refine g_iload_n dJ7_copyOfRange_39247_0 rfl ?_
    refine g_if_ne (tgt := 10) dJ7_copyOfRange_39247_1 (by decide) (fun c1 => absurd rfl c1) (fun c1 => ?_)
    refine g_iload_n dJ7_copyOfRange_39247_4 rfl ?_
    refine g_aload_n dJ7_copyOfRange_39247_5 rfl ?_
    refine g_alen (v := nI m) 5 (fun _ => rfl) ha rfl dJ7_copyOfRange_39247_6 ?_
    refine g_icmp_eq (tgt := 17) dJ7_copyOfRange_39247_7 (by decide) (fun c7 => absurd ((nI_eq (by omega) (by omega)).mp c7) e) (fun c7 => ?_)
    refine g_aload_n dJ7_copyOfRange_39247_10 rfl ?_
    refine g_iload_n dJ7_copyOfRange_39247_11 rfl ?_
    refine g_iload_n dJ7_copyOfRange_39247_12 rfl ?_
    refine g_callS (n := 3) (As := [.ref v, .int 0, .int (nI n)]) (rest := []) dJ7_copyOfRange_39247_13 (G_cprB ha hf hnm hm2 hn) ⟨q811, q812, q690, q813⟩ ⟨rfl, by decide, by decide, by decide +kernel⟩ rfl rfl rfl rfl ⟨by decide, by decide⟩ (Nat.le_of_ble_eq_true rfl) ⟨Nat.le_of_ble_eq_true rfl, Nat.le_of_ble_eq_true rfl⟩ (fun v w hv => ?_)
    obtain ⟨r, a2, rfl, h1, h2, rfl⟩ := hv
    exact g_aret rfl (Or.inr ⟨_, rfl⟩) dJ7_copyOfRange_39247_16 (Nat.le_of_ble_eq_true rfl) (Nat.le_of_ble_eq_true rfl) ⟨r, a2, rfl, h1, h2, rfl⟩
theorem dJ0_init_db425_0 : decode cJ0_init_db425 0 = .ok (.aload_n 0, 1) := by decide +kernel
theorem dJ0_init_db425_1 : decode cJ0_init_db425 1 = .ok (.invokespecial 1, 3) := by decide +kernel
theorem dJ0_init_db425_4 : decode cJ0_init_db425 4 = .ok (.aload_n 1, 1) := by decide +kernel
theorem dJ0_init_db425_5 : decode cJ0_init_db425 5 = .ok (.invokevirtual 552, 3) := by decide +kernel
theorem dJ0_init_db425_8 : decode cJ0_init_db425 8 = .ok (.astore_n 3, 1) := by decide +kernel
theorem dJ0_init_db425_9 : decode cJ0_init_db425 9 = .ok (.aload_n 1, 1) := by decide +kernel
theorem dJ0_init_db425_10 : decode cJ0_init_db425 10 = .ok (.invokevirtual 549, 3) := by decide +kernel
theorem dJ0_init_db425_13 : decode cJ0_init_db425 13 = .ok (.istore 4, 2) := by decide +kernel
theorem dJ0_init_db425_15 : decode cJ0_init_db425 15 = .ok (.aload_n 1, 1) := by decide +kernel
theorem dJ0_init_db425_16 : decode cJ0_init_db425 16 = .ok (.invokevirtual 1047, 3) := by decide +kernel
theorem dJ0_init_db425_19 : decode cJ0_init_db425 19 = .ok (.ifCond .eq 22, 3) := by decide +kernel
theorem dJ0_init_db425_22 : decode cJ0_init_db425 22 = .ok (.aload_n 0, 1) := by decide +kernel
theorem dJ0_init_db425_23 : decode cJ0_init_db425 23 = .ok (.iconst 0, 1) := by decide +kernel
theorem dJ0_init_db425_24 : decode cJ0_init_db425 24 = .ok (.putfield 15, 3) := by decide +kernel
theorem dJ0_init_db425_27 : decode cJ0_init_db425 27 = .ok (.aload_n 0, 1) := by decide +kernel
theorem dJ0_init_db425_28 : decode cJ0_init_db425 28 = .ok (.aload_n 3, 1) := by decide +kernel
theorem dJ0_init_db425_29 : decode cJ0_init_db425 29 = .ok (.iconst 0, 1) := by decide +kernel
theorem dJ0_init_db425_30 : decode cJ0_init_db425 30 = .ok (.iload 4, 2) := by decide +kernel
theorem dJ0_init_db425_32 : decode cJ0_init_db425 32 = .ok (.invokestatic 54, 3) := by decide +kernel
theorem dJ0_init_db425_35 : decode cJ0_init_db425 35 = .ok (.putfield 9, 3) := by decide +kernel
theorem dJ0_init_db425_38 : decode cJ0_init_db425 38 = .ok (.goto 59, 3) := by decide +kernel
theorem dJ0_init_db425_41 : decode cJ0_init_db425 41 = .ok (.getstatic 38, 3) := by decide +kernel
theorem dJ0_init_db425_44 : decode cJ0_init_db425 44 = .ok (.ifCond .eq 35, 3) := by decide +kernel
theorem dJ0_init_db425_47 : decode cJ0_init_db425 47 = .ok (.aload_n 1, 1) := by decide +kernel
theorem dJ0_init_db425_48 : decode cJ0_init_db425 48 = .ok (.getfield 1048, 3) := by decide +kernel
theorem dJ0_init_db425_51 : decode cJ0_init_db425 51 = .ok (.ifCond .eq 28, 3) := by decide +kernel
theorem dJ0_init_db425_54 : decode cJ0_init_db425 54 = .ok (.aload_n 0, 1) := by decide +kernel
theorem dJ0_init_db425_55 : decode cJ0_init_db425 55 = .ok (.aload_n 3, 1) := by decide +kernel
theorem dJ0_init_db425_56 : decode cJ0_init_db425 56 = .ok (.iconst 0, 1) := by decide +kernel
theorem dJ0_init_db425_57 : decode cJ0_init_db425 57 = .ok (.iload 4, 2) := by decide +kernel
theorem dJ0_init_db425_59 : decode cJ0_init_db425 59 = .ok (.invokestatic 1051, 3) := by decide +kernel
theorem dJ0_init_db425_62 : decode cJ0_init_db425 62 = .ok (.putfield 9, 3) := by decide +kernel
theorem dJ0_init_db425_65 : decode cJ0_init_db425 65 = .ok (.aload_n 0, 1) := by decide +kernel
theorem dJ0_init_db425_66 : decode cJ0_init_db425 66 = .ok (.aload_n 0, 1) := by decide +kernel
theorem dJ0_init_db425_67 : decode cJ0_init_db425 67 = .ok (.getfield 9, 3) := by decide +kernel
theorem dJ0_init_db425_70 : decode cJ0_init_db425 70 = .ok (.iload 4, 2) := by decide +kernel
theorem dJ0_init_db425_72 : decode cJ0_init_db425 72 = .ok (.invokestatic 47, 3) := by decide +kernel
theorem dJ0_init_db425_75 : decode cJ0_init_db425 75 = .ok (.putfield 15, 3) := by decide +kernel
theorem dJ0_init_db425_78 : decode cJ0_init_db425 78 = .ok (.return_, 1) := by decide +kernel
theorem dJ0_init_db425_79 : decode cJ0_init_db425 79 = .ok (.aload_n 0, 1) := by decide +kernel
theorem dJ0_init_db425_80 : decode cJ0_init_db425 80 = .ok (.iconst 1, 1) := by decide +kernel
theorem dJ0_init_db425_81 : decode cJ0_init_db425 81 = .ok (.putfield 15, 3) := by decide +kernel
theorem dJ0_init_db425_84 : decode cJ0_init_db425 84 = .ok (.aload_n 0, 1) := by decide +kernel
theorem dJ0_init_db425_85 : decode cJ0_init_db425 85 = .ok (.aload_n 3, 1) := by decide +kernel
theorem dJ0_init_db425_86 : decode cJ0_init_db425 86 = .ok (.iconst 0, 1) := by decide +kernel
theorem dJ0_init_db425_87 : decode cJ0_init_db425 87 = .ok (.iload 4, 2) := by decide +kernel
theorem dJ0_init_db425_89 : decode cJ0_init_db425 89 = .ok (.iconst 1, 1) := by decide +kernel
theorem dJ0_init_db425_90 : decode cJ0_init_db425 90 = .ok (.ishl, 1) := by decide +kernel
theorem dJ0_init_db425_91 : decode cJ0_init_db425 91 = .ok (.invokestatic 54, 3) := by decide +kernel
theorem dJ0_init_db425_94 : decode cJ0_init_db425 94 = .ok (.putfield 9, 3) := by decide +kernel
theorem dJ0_init_db425_97 : decode cJ0_init_db425 97 = .ok (.return_, 1) := by decide +kernel
set_option maxRecDepth 100000 in
set_option maxHeartbeats 4000000 in
theorem G_str0 {cA : Nat → ClassId} {ad : tA} {W : va_W} {b v n m s : Nat} {a : Nat → Int32} (hm : m = 16 ∨ m = 34) (hnm : n ≤ m) (hb : okby a n) (hf : fitB a) : Cg yJ0_init_db425 cJ0_init_db425 5 none (rmg 3 1 34) 1 34 cA ad [.ref s, .ref b, .null] (W ++ (b, .inr (1, [.ref v, .int 0, .int 0, .int (nI n)])) :: (v, .inl (cA 5, m, .inl a)) :: [(s, .inr (0, [.null, .int 0, .int 0, .int 0]))]) (fun x w => x = none ∧ ∃ (r : Nat) (a2 : Nat → Int32), okby a2 n ∧ w = W ++ stc cA s r n a2) := by
  refine c_of_g (isI := true) (lv0 := [some (.ref s), some (.ref b), some .null, none, none]) (fun h => by first | rfl | cases h) rfl (by decide +kernel) (Nat.le_of_ble_eq_true rfl) rfl ?_
  refine g_aload_n dJ0_init_db425_0 rfl ?_
  refine g_objInit q791 (Nat.le_of_ble_eq_true rfl) (Nat.le_of_ble_eq_true rfl) dJ0_init_db425_1 ?_
  refine g_aload_n dJ0_init_db425_4 rfl ?_
  refine g_callU (n := 0) (x := yJ5_getValue_6d5f1) (y := yJ5_getValue_6d5f1) (As := []) (rest := []) dJ0_init_db425_5 (G_val (i := W.length) at_0) q793 q794 (Or.inl q795) q796 q797 q796 q797 q642 (by decide +kernel) rfl rfl rfl rfl ⟨by decide, by decide⟩ (Nat.le_of_ble_eq_true rfl) ⟨Nat.le_of_ble_eq_true rfl, Nat.le_of_ble_eq_true rfl⟩ (rw_at (i := W.length) at_0 (rfl : vwCl[1]? = some _) rfl) (fun v w hv => ?_)
  obtain ⟨rfl, hw0⟩ := hv
  rw [hw0]
  refine g_astore_n dJ0_init_db425_8 (by decide) rfl ?_
  refine g_aload_n dJ0_init_db425_9 rfl ?_
  refine g_callU (n := 0) (x := yJ5_length_8abf5) (y := yJ4_length_8abf5) (As := []) (rest := []) dJ0_init_db425_10 (G_len4 (i := W.length) at_0) q798 q799 (Or.inl q801) q805 q806 q802 q803 q636 (by decide +kernel) rfl rfl rfl rfl ⟨by decide, by decide⟩ (Nat.le_of_ble_eq_true rfl) ⟨Nat.le_of_ble_eq_true rfl, Nat.le_of_ble_eq_true rfl⟩ (rw_at (i := W.length) at_0 (rfl : vwCl[1]? = some _) rfl) (fun v w hv => ?_)
  obtain ⟨rfl, hw0⟩ := hv
  rw [hw0]
  refine g_istore dJ0_init_db425_13 (by decide) rfl ?_
  refine g_aload_n dJ0_init_db425_15 rfl ?_
  refine g_callU (n := 0) (x := yJ5_isLatin1_aae02) (y := yJ5_isLatin1_aae02) (As := []) (rest := []) dJ0_init_db425_16 (G_latin (i := W.length) at_0) q807 q701 (Or.inl q702) q703 q704 q703 q704 q642 (by decide +kernel) rfl rfl rfl rfl ⟨by decide, by decide⟩ (Nat.le_of_ble_eq_true rfl) ⟨Nat.le_of_ble_eq_true rfl, Nat.le_of_ble_eq_true rfl⟩ (rw_at (i := W.length) at_0 (rfl : vwCl[1]? = some _) rfl) (fun v w hv => ?_)
  obtain ⟨rfl, hw0⟩ := hv
  rw [hw0]
  refine g_if_eq (tgt := 41) dJ0_init_db425_19 (by decide) (fun c19 => absurd c19 (by decide)) (fun c19 => ?_)
  refine g_aload_n dJ0_init_db425_22 rfl ?_
  refine g_iconst (v := 0) dJ0_init_db425_23 (by decide) ?_
  refine g_putF (i := W.length + 2) at_2 (rfl : vwCl[0]? = some (RJ0, TJ0, 4)) inlJ0 tyJ0 tyJ0_ok nmJ0 1 (by decide) (Nat.le_of_ble_eq_true rfl) q220 rfl rfl rfl rfl rfl rfl set_2 dJ0_init_db425_24 ?_
  refine g_aload_n dJ0_init_db425_27 rfl ?_
  refine g_aload_n dJ0_init_db425_28 rfl ?_
  refine g_iconst (v := 0) dJ0_init_db425_29 (by decide) ?_
  refine g_iload dJ0_init_db425_30 rfl ?_
  refine g_callS (n := 3) (As := [.ref v, .int 0, .int (nI n)]) (rest := [.ref s]) dJ0_init_db425_32 (G_cpr (i := W.length + 1) at_1 hf hnm (by omega) (by omega)) ⟨q808, q809, q690, q810⟩ ⟨rfl, by decide, by decide, by decide +kernel⟩ rfl rfl rfl rfl ⟨by decide, by decide⟩ (Nat.le_of_ble_eq_true rfl) ⟨Nat.le_of_ble_eq_true rfl, Nat.le_of_ble_eq_true rfl⟩ (fun v w hv => ?_)
  obtain ⟨r, a2, rfl, h1, h2, rfl⟩ := hv
  simp only [List.append_assoc, List.cons_append, List.nil_append, List.append_nil]
  refine g_putF (i := W.length + 2) at_2 (rfl : vwCl[0]? = some (RJ0, TJ0, 4)) inlJ0 tyJ0 tyJ0_ok nmJ0 0 (by decide) (Nat.le_of_ble_eq_true rfl) q214 rfl rfl rfl rfl rfl rfl set_2 dJ0_init_db425_35 ?_
  refine g_goto (tgt := 97) dJ0_init_db425_38 (by decide) ?_
  refine g_eq (ws' := W ++ [(b, .inr (1, [.ref v, .int 0, .int 0, .int (nI n)])), (v, .inl (cA 5, m, .inl a))] ++ [(s, .inr (0, [.ref r, .int 0, .int 0, .int 0])), (r, .inl (cA 5, n, .inl a2))]) (by simp only [List.append_assoc, List.cons_append, List.nil_append, List.append_nil]; rfl) ?_
  refine g_drop ?_
  exact g_vret rfl dJ0_init_db425_97 (Nat.le_of_ble_eq_true rfl) (Nat.le_of_ble_eq_true rfl) ⟨rfl, r, a2, okby_keep hb h1, rfl⟩
theorem dJ0_init_81219_0 : decode cJ0_init_81219 0 = .ok (.aload_n 0, 1) := by decide +kernel
theorem dJ0_init_81219_1 : decode cJ0_init_81219 1 = .ok (.aload_n 1, 1) := by decide +kernel
theorem dJ0_init_81219_2 : decode cJ0_init_81219 2 = .ok (.aconst_null, 1) := by decide +kernel
theorem dJ0_init_81219_3 : decode cJ0_init_81219 3 = .ok (.invokespecial 489, 3) := by decide +kernel
theorem dJ0_init_81219_6 : decode cJ0_init_81219 6 = .ok (.return_, 1) := by decide +kernel
set_option maxRecDepth 100000 in
set_option maxHeartbeats 4000000 in
theorem G_str1 {cA : Nat → ClassId} {ad : tA} {W : va_W} {b v n m s : Nat} {a : Nat → Int32} (hm : m = 16 ∨ m = 34) (hnm : n ≤ m) (hb : okby a n) (hf : fitB a) : Cg yJ0_init_81219 cJ0_init_81219 2 none (rmg 4 1 34) 1 34 cA ad [.ref s, .ref b] (W ++ (b, .inr (1, [.ref v, .int 0, .int 0, .int (nI n)])) :: (v, .inl (cA 5, m, .inl a)) :: [(s, .inr (0, [.null, .int 0, .int 0, .int 0]))]) (fun x w => x = none ∧ ∃ (r : Nat) (a2 : Nat → Int32), okby a2 n ∧ w = W ++ stc cA s r n a2) := by
  refine c_of_g (isI := true) (lv0 := [some (.ref s), some (.ref b)]) (fun h => by first | rfl | cases h) rfl (by decide +kernel) (Nat.le_of_ble_eq_true rfl) rfl ?_
  refine g_aload_n dJ0_init_81219_0 rfl ?_
  refine g_aload_n dJ0_init_81219_1 rfl ?_
  refine g_null dJ0_init_81219_2 ?_
  refine g_callI (n := 2) (As := [.ref b, .null]) (rest := []) dJ0_init_81219_3 (G_str0 hm hnm hb hf) ⟨q788, q789, q212, q790, rfl⟩ ⟨by decide, by decide, by decide +kernel⟩ rfl rfl rfl rfl ⟨by decide, by decide⟩ (Nat.le_of_ble_eq_true rfl) ⟨Nat.le_of_ble_eq_true rfl, Nat.le_of_ble_eq_true rfl⟩ (fun v w hv => ?_)
  obtain ⟨rfl, r, a2, h1, rfl⟩ := hv
  exact g_vret rfl dJ0_init_81219_6 (Nat.le_of_ble_eq_true rfl) (Nat.le_of_ble_eq_true rfl) ⟨rfl, r, a2, h1, rfl⟩
theorem dJ4_toString_0e30d_0 : decode cJ4_toString_0e30d 0 = .ok (.new 18, 3) := by decide +kernel
theorem dJ4_toString_0e30d_3 : decode cJ4_toString_0e30d 3 = .ok (.dup, 1) := by decide +kernel
theorem dJ4_toString_0e30d_4 : decode cJ4_toString_0e30d 4 = .ok (.aload_n 0, 1) := by decide +kernel
theorem dJ4_toString_0e30d_5 : decode cJ4_toString_0e30d 5 = .ok (.invokespecial 137, 3) := by decide +kernel
theorem dJ4_toString_0e30d_8 : decode cJ4_toString_0e30d 8 = .ok (.areturn, 1) := by decide +kernel
set_option maxRecDepth 100000 in
set_option maxHeartbeats 4000000 in
theorem G_toS {cA : Nat → ClassId} {ad : tA} {W : va_W} {b v n m : Nat} {a : Nat → Int32} (hm : m = 16 ∨ m = 34) (hnm : n ≤ m) (hb : okby a n) (hf : fitB a) : Cg yJ4_toString_0e30d cJ4_toString_0e30d 1 (some (.object "java/lang/String")) (rmg 5 2 38) 2 38 cA ad [.ref b] (W ++ sbc cA b v n m a) (fun x w => ∃ s : Nat, x = some (.ref s) ∧ ∃ (r : Nat) (a2 : Nat → Int32), okby a2 n ∧ w = W ++ stc cA s r n a2) := by
  refine c_of_g (isI := false) (lv0 := [some (.ref b)]) (fun h => by first | rfl | cases h) rfl (by decide +kernel) (Nat.le_of_ble_eq_true rfl) rfl ?_
  refine g_new (ci := 0) (C := RJ0) (T := TJ0) (N := 4) (fs := [.null, .int 0, .int 0, .int 0]) rfl inlJ0 tyJ0 tyJ0_ok q783 q784 q212 (by decide) ⟨(Nat.le_of_ble_eq_true rfl), (Nat.le_of_ble_eq_true rfl)⟩ dJ4_toString_0e30d_0 (fun s => ?_)
  simp only [List.append_assoc, List.cons_append, List.nil_append, List.append_nil]
  refine g_dup dJ4_toString_0e30d_3 rfl ?_
  refine g_aload_n dJ4_toString_0e30d_4 rfl ?_
  refine g_callI (n := 1) (As := [.ref b]) (rest := [.ref s]) dJ4_toString_0e30d_5 (G_str1 hm hnm hb hf) ⟨q785, q786, q212, q787, rfl⟩ ⟨by decide, by decide, by decide +kernel⟩ rfl rfl rfl rfl ⟨by decide, by decide⟩ (Nat.le_of_ble_eq_true rfl) ⟨Nat.le_of_ble_eq_true rfl, Nat.le_of_ble_eq_true rfl⟩ (fun v w hv => ?_)
  obtain ⟨rfl, r, a2, h1, rfl⟩ := hv
  exact g_aret rfl (Or.inl ⟨_, rfl⟩) dJ4_toString_0e30d_8 (Nat.le_of_ble_eq_true rfl) (Nat.le_of_ble_eq_true rfl) ⟨s, rfl, r, a2, h1, rfl⟩

set_option maxRecDepth 100000 in
set_option maxHeartbeats 4000000 in
theorem G_sCoder {cA : Nat → ClassId} {ad : tA} {ws : va_W} {i s r : Nat} (he : ws[i]? = some (s, .inr (0, [.ref r, .int 0, .int 0, .int 0]))) : Cg yJ0_coder_7d493 cJ0_coder_7d493 1 (some .byte) (rmg 0 0 0) 0 0 cA ad [.ref s] ws (Qs (some (.int 0)) ws) := by
  refine c_of_g (isI := false) (lv0 := [some (.ref s)]) (fun h => by first | rfl | cases h) rfl (by decide +kernel) (Nat.le_of_ble_eq_true rfl) rfl ?_
  refine g_getsC q219 dJ0_coder_7d493_0 ?_
  refine g_if_eq (tgt := 13) dJ0_coder_7d493_3 (by decide) (fun c3 => absurd c3 (by decide)) (fun c3 => ?_)
  refine g_aload_n dJ0_coder_7d493_6 rfl ?_
  refine g_get (i := i) he (rfl : vwCl[0]? = some (RJ0, TJ0, 4)) inlJ0 1 (by decide) q220 rfl dJ0_coder_7d493_7 ?_
  refine g_goto (tgt := 14) dJ0_coder_7d493_10 (by decide) ?_
  exact g_zret rfl rfl dJ0_coder_7d493_14 (Nat.le_of_ble_eq_true rfl) (Nat.le_of_ble_eq_true rfl) ⟨rfl, rfl⟩

set_option maxRecDepth 100000 in
set_option maxHeartbeats 4000000 in
theorem G_sLatin {cA : Nat → ClassId} {ad : tA} {ws : va_W} {i s r : Nat} (he : ws[i]? = some (s, .inr (0, [.ref r, .int 0, .int 0, .int 0]))) : Cg yJ0_isLatin1_aae02 cJ0_isLatin1_aae02 1 (some .boolean) (rmg 0 0 0) 0 0 cA ad [.ref s] ws (Qs (some (.int 1)) ws) := by
  refine c_of_g (isI := false) (lv0 := [some (.ref s)]) (fun h => by first | rfl | cases h) rfl (by decide +kernel) (Nat.le_of_ble_eq_true rfl) rfl ?_
  refine g_getsC q219 dJ0_isLatin1_aae02_0 ?_
  refine g_if_eq (tgt := 17) dJ0_isLatin1_aae02_3 (by decide) (fun c3 => absurd c3 (by decide)) (fun c3 => ?_)
  refine g_aload_n dJ0_isLatin1_aae02_6 rfl ?_
  refine g_get (i := i) he (rfl : vwCl[0]? = some (RJ0, TJ0, 4)) inlJ0 1 (by decide) q220 rfl dJ0_isLatin1_aae02_7 ?_
  refine g_if_ne (tgt := 17) dJ0_isLatin1_aae02_10 (by decide) (fun c10 => absurd rfl c10) (fun c10 => ?_)
  refine g_iconst (v := 1) dJ0_isLatin1_aae02_13 (by decide) ?_
  refine g_goto (tgt := 18) dJ0_isLatin1_aae02_14 (by decide) ?_
  exact g_zret rfl rfl dJ0_isLatin1_aae02_18 (Nat.le_of_ble_eq_true rfl) (Nat.le_of_ble_eq_true rfl) ⟨rfl, rfl⟩

set_option maxRecDepth 100000 in
set_option maxHeartbeats 4000000 in
theorem G_sLen {cA : Nat → ClassId} {ad : tA} {ws : va_W} {i j s r n : Nat} {a : Nat → Int32} (he : ws[i]? = some (s, .inr (0, [.ref r, .int 0, .int 0, .int 0]))) (ha : ws[j]? = some (r, .inl (cA 5, n, .inl a))) : Cg yJ0_length_8abf5 cJ0_length_8abf5 1 (some .int) (rmg 1 0 0) 0 0 cA ad [.ref s] ws (Qs (some (.int (nI n))) ws) := by
  refine c_of_g (isI := false) (lv0 := [some (.ref s)]) (fun h => by first | rfl | cases h) rfl (by decide +kernel) (Nat.le_of_ble_eq_true rfl) rfl ?_
  refine g_aload_n dJ0_length_8abf5_0 rfl ?_
  refine g_get (i := i) he (rfl : vwCl[0]? = some (RJ0, TJ0, 4)) inlJ0 0 (by decide) q214 rfl dJ0_length_8abf5_1 ?_
  refine g_alen (v := nI n) 5 (fun _ => rfl) ha rfl dJ0_length_8abf5_4 ?_
  refine g_aload_n dJ0_length_8abf5_5 rfl ?_
  refine g_callV (n := 0) (As := []) (rest := [.int (nI n)]) dJ0_length_8abf5_6 (G_sCoder he) (g_V q215 q216 q217 q212 q218) ⟨rfl, by decide, by decide, by decide +kernel⟩ rfl rfl rfl rfl ⟨by decide, by decide⟩ (Nat.le_of_ble_eq_true rfl) ⟨Nat.le_of_ble_eq_true rfl, Nat.le_of_ble_eq_true rfl⟩ (rw_at he (rfl : vwCl[0]? = some _) rfl) (fun v w hv => ?_)
  obtain ⟨rfl, hw0⟩ := hv
  rw [hw0]
  refine g_ishr dJ0_length_8abf5_9 ?_
  rw [shr0]
  exact g_zret rfl rfl dJ0_length_8abf5_10 (Nat.le_of_ble_eq_true rfl) (Nat.le_of_ble_eq_true rfl) ⟨rfl, rfl⟩

set_option maxRecDepth 100000 in
set_option maxHeartbeats 4000000 in
theorem G_ckx {cA : Nat → ClassId} {ad : tA} {ws : va_W} {k n : Nat} {v : Value} (hv : v.category = 1) (hk : k < n) (hn : n < 2 ^ 31) : Cg yJ3_checkIndex_8e157 cJ3_checkIndex_8e157 3 (some .int) (rmg 0 0 0) 0 0 cA ad [.int (nI k), .int (nI n), v] ws (Qs (some (.int (nI k))) ws) := by
  refine c_of_g (isI := false) (lv0 := [some (.int (nI k)), some (.int (nI n)), some v]) (fun h => by first | rfl | cases h) rfl (by decide +kernel) (by simp [lg_sl, hv, c_int]) rfl ?_
  refine g_iload_n dJ3_checkIndex_8e157_0 rfl ?_
  refine g_if_lt (tgt := 9) dJ3_checkIndex_8e157_1 (by decide) (fun c1 => absurd c1 (nI_pos (by omega))) (fun c1 => ?_)
  refine g_iload_n dJ3_checkIndex_8e157_4 rfl ?_
  refine g_iload_n dJ3_checkIndex_8e157_5 rfl ?_
  refine g_icmp_lt (tgt := 16) dJ3_checkIndex_8e157_6 (by decide) (fun c6 => ?_) (fun c6 => absurd (nI_lt (by omega) (by omega)) c6)
  refine g_iload_n dJ3_checkIndex_8e157_16 rfl ?_
  exact g_zret rfl rfl dJ3_checkIndex_8e157_17 (Nat.le_of_ble_eq_true rfl) (Nat.le_of_ble_eq_true rfl) ⟨rfl, rfl⟩

set_option maxRecDepth 100000 in
set_option maxHeartbeats 4000000 in
theorem G_ck0 {cA : Nat → ClassId} {ad : tA} {ws : va_W} {k n : Nat} (hk : k < n) (hn : n < 2 ^ 31) : Cg yJ0_checkIndex_df160 cJ0_checkIndex_df160 2 none (rmg 1 0 0) 0 0 cA ad [.int (nI k), .int (nI n)] ws (Qs none ws) := by
  refine c_of_g (isI := false) (lv0 := [some (.int (nI k)), some (.int (nI n))]) (fun h => by first | rfl | cases h) rfl (by decide +kernel) (Nat.le_of_ble_eq_true rfl) rfl ?_
  refine g_iload_n dJ0_checkIndex_df160_0 rfl ?_
  refine g_iload_n dJ0_checkIndex_df160_1 rfl ?_
  refine g_getsP q236 dJ0_checkIndex_df160_2 (fun vf hvf => ?_)
  refine g_callS (n := 3) (As := [.int (nI k), .int (nI n), vf]) (rest := []) dJ0_checkIndex_df160_5 (G_ckx hvf hk hn) ⟨q237, q238, q239, q240⟩ ⟨rfl, by decide, by decide, by decide +kernel⟩ rfl rfl rfl rfl ⟨by decide, by decide⟩ (Nat.le_of_ble_eq_true rfl) ⟨Nat.le_of_ble_eq_true rfl, Nat.le_of_ble_eq_true rfl⟩ (fun v w hv => ?_)
  obtain ⟨rfl, hw0⟩ := hv
  rw [hw0]
  refine g_pop dJ0_checkIndex_df160_8 rfl ?_
  exact g_vret rfl dJ0_checkIndex_df160_9 (Nat.le_of_ble_eq_true rfl) (Nat.le_of_ble_eq_true rfl) ⟨rfl, rfl⟩
theorem chr_ok {c : Nat} (h : c ≤ 126) : ((nI c &&& 255).toUInt32 % 65536).toInt32 = nI c := by
  have : ∀ c, c < 127 → ((nI c &&& 255).toUInt32 % 65536).toInt32 = nI c := by decide +kernel
  exact this c (by omega)
theorem chr_nar {c : Nat} (h : c ≤ 126) : narrow .char (.int (nI c)) = .int (nI c) := by
  have : ∀ c, c < 127 → narrow .char (.int (nI c)) = .int (nI c) := by decide +kernel
  exact this c (by omega)

set_option maxRecDepth 100000 in
set_option maxHeartbeats 4000000 in
theorem G_sJ1 {cA : Nat → ClassId} {ad : tA} {ws : va_W} {j r n k : Nat} {a : Nat → Int32} (ha : ws[j]? = some (r, .inl (cA 5, n, .inl a))) (ho : okby a n) (hk : k < n) (hn : n < 100) : Cg yJ1_charAt_3b067 cJ1_charAt_3b067 2 (some .char) (rmg 2 0 0) 0 0 cA ad [.ref r, .int (nI k)] ws (Qs (some (.int (a k))) ws) := by
  refine c_of_g (isI := false) (lv0 := [some (.ref r), some (.int (nI k))]) (fun h => by first | rfl | cases h) rfl (by decide +kernel) (Nat.le_of_ble_eq_true rfl) rfl ?_
  obtain ⟨c, hc1, hc2, hc3⟩ := ho k hk
  refine g_iload_n dJ1_charAt_3b067_0 rfl ?_
  refine g_aload_n dJ1_charAt_3b067_1 rfl ?_
  refine g_alen (v := nI n) 5 (fun _ => rfl) ha rfl dJ1_charAt_3b067_2 ?_
  refine g_callS (n := 2) (As := [.int (nI k), .int (nI n)]) (rest := []) dJ1_charAt_3b067_3 (G_ck0 hk (by omega)) ⟨q233, q234, q212, q235⟩ ⟨rfl, by decide, by decide, by decide +kernel⟩ rfl rfl rfl rfl ⟨by decide, by decide⟩ (Nat.le_of_ble_eq_true rfl) ⟨Nat.le_of_ble_eq_true rfl, Nat.le_of_ble_eq_true rfl⟩ (fun v w hv => ?_)
  obtain ⟨rfl, hw0⟩ := hv
  rw [hw0]
  refine g_aload_n dJ1_charAt_3b067_6 rfl ?_
  refine g_iload_n dJ1_charAt_3b067_7 rfl ?_
  refine g_bald 5 (fun _ => rfl) ha (vp_in_nI hk (by omega)) dJ1_charAt_3b067_8 ?_
  rw [nI_clamp (n := k) (by omega), hc3]
  refine g_sipush (v := 255) dJ1_charAt_3b067_9 (by decide) ?_
  refine g_iand dJ1_charAt_3b067_12 ?_
  refine g_i2c dJ1_charAt_3b067_13 (chr_ok hc2) ?_
  exact g_zret rfl (chr_nar hc2) dJ1_charAt_3b067_14 (Nat.le_of_ble_eq_true rfl) (Nat.le_of_ble_eq_true rfl) ⟨rfl, rfl⟩

set_option maxRecDepth 100000 in
set_option maxHeartbeats 4000000 in
theorem G_sChar {cA : Nat → ClassId} {ad : tA} {ws : va_W} {i j s r n : Nat} {a : Nat → Int32} (he : ws[i]? = some (s, .inr (0, [.ref r, .int 0, .int 0, .int 0]))) (ha : ws[j]? = some (r, .inl (cA 5, n, .inl a))) (ho : okby a n) {k : Nat} (hk : k < n) (hn : n < 100) : Cg yJ0_charAt_5068e cJ0_charAt_5068e 2 (some .char) (rmg 3 0 0) 0 0 cA ad [.ref s, .int (nI k)] ws (Qs (some (.int (a k))) ws) := by
  refine c_of_g (isI := false) (lv0 := [some (.ref s), some (.int (nI k))]) (fun h => by first | rfl | cases h) rfl (by decide +kernel) (Nat.le_of_ble_eq_true rfl) rfl ?_
  obtain ⟨c, hc1, hc2, hc3⟩ := ho k hk
  refine g_aload_n dJ0_charAt_5068e_0 rfl ?_
  refine g_callV (n := 0) (As := []) (rest := []) dJ0_charAt_5068e_1 (G_sLatin he) (g_V q225 q226 q227 q212 q228) ⟨rfl, by decide, by decide, by decide +kernel⟩ rfl rfl rfl rfl ⟨by decide, by decide⟩ (Nat.le_of_ble_eq_true rfl) ⟨Nat.le_of_ble_eq_true rfl, Nat.le_of_ble_eq_true rfl⟩ (rw_at he (rfl : vwCl[0]? = some _) rfl) (fun v w hv => ?_)
  obtain ⟨rfl, hw0⟩ := hv
  rw [hw0]
  refine g_if_eq (tgt := 16) dJ0_charAt_5068e_4 (by decide) (fun c4 => absurd c4 (by decide)) (fun c4 => ?_)
  refine g_aload_n dJ0_charAt_5068e_7 rfl ?_
  refine g_get (i := i) he (rfl : vwCl[0]? = some (RJ0, TJ0, 4)) inlJ0 0 (by decide) q214 rfl dJ0_charAt_5068e_8 ?_
  refine g_iload_n dJ0_charAt_5068e_11 rfl ?_
  refine g_callS (n := 2) (As := [.ref r, .int (nI k)]) (rest := []) dJ0_charAt_5068e_12 (G_sJ1 ha ho hk hn) ⟨q229, q230, q231, q232⟩ ⟨rfl, by decide, by decide, by decide +kernel⟩ rfl rfl rfl rfl ⟨by decide, by decide⟩ (Nat.le_of_ble_eq_true rfl) ⟨Nat.le_of_ble_eq_true rfl, Nat.le_of_ble_eq_true rfl⟩ (fun v w hv => ?_)
  obtain ⟨rfl, hw0⟩ := hv
  rw [hw0, hc3]
  exact g_zret rfl (chr_nar hc2) dJ0_charAt_5068e_15 (Nat.le_of_ble_eq_true rfl) (Nat.le_of_ble_eq_true rfl) ⟨rfl, rfl⟩

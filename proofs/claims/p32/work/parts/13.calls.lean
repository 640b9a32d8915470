/-! PART 13: carryOut, the public changes, undo, save, restore, append, reason, run -/
theorem i32_of {x : Int32} {a : Nat} (ha : a < 2 ^ 31) (h : x.toInt = (a : Int)) : x = nI a := Int32.toInt_inj.mp (by rw [h, nI_toInt ha])
theorem sw17 (x : Int32) : x.toInt < 99 ∨ 115 < x.toInt ∨ x = 99 ∨ x = 100 ∨ x = 101 ∨ x = 102 ∨ x = 103 ∨ x = 104 ∨ x = 105 ∨ x = 106 ∨ x = 107 ∨ x = 108 ∨ x = 109 ∨ x = 110 ∨ x = 111 ∨ x = 112 ∨ x = 113 ∨ x = 114 ∨ x = 115 := by
  rcases (by omega : x.toInt < 99 ∨ 115 < x.toInt ∨ x.toInt = 99 ∨ x.toInt = 100 ∨ x.toInt = 101 ∨ x.toInt = 102 ∨ x.toInt = 103 ∨ x.toInt = 104 ∨ x.toInt = 105 ∨ x.toInt = 106 ∨ x.toInt = 107 ∨ x.toInt = 108 ∨ x.toInt = 109 ∨ x.toInt = 110 ∨ x.toInt = 111 ∨ x.toInt = 112 ∨ x.toInt = 113 ∨ x.toInt = 114 ∨ x.toInt = 115) with h | h | h | h | h | h | h | h | h | h | h | h | h | h | h | h | h | h | h
  · exact Or.inl h
  · exact Or.inr (Or.inl h)
  · have e := i32_of (a := 99) (by omega) h; rw [show x = 99 from e]; simp
  · have e := i32_of (a := 100) (by omega) h; rw [show x = 100 from e]; simp
  · have e := i32_of (a := 101) (by omega) h; rw [show x = 101 from e]; simp
  · have e := i32_of (a := 102) (by omega) h; rw [show x = 102 from e]; simp
  · have e := i32_of (a := 103) (by omega) h; rw [show x = 103 from e]; simp
  · have e := i32_of (a := 104) (by omega) h; rw [show x = 104 from e]; simp
  · have e := i32_of (a := 105) (by omega) h; rw [show x = 105 from e]; simp
  · have e := i32_of (a := 106) (by omega) h; rw [show x = 106 from e]; simp
  · have e := i32_of (a := 107) (by omega) h; rw [show x = 107 from e]; simp
  · have e := i32_of (a := 108) (by omega) h; rw [show x = 108 from e]; simp
  · have e := i32_of (a := 109) (by omega) h; rw [show x = 109 from e]; simp
  · have e := i32_of (a := 110) (by omega) h; rw [show x = 110 from e]; simp
  · have e := i32_of (a := 111) (by omega) h; rw [show x = 111 from e]; simp
  · have e := i32_of (a := 112) (by omega) h; rw [show x = 112 from e]; simp
  · have e := i32_of (a := 113) (by omega) h; rw [show x = 113 from e]; simp
  · have e := i32_of (a := 114) (by omega) h; rw [show x = 114 from e]; simp
  · have e := i32_of (a := 115) (by omega) h; rw [show x = 115 from e]; simp
theorem sw19 (x : Int32) : x.toInt < 0 ∨ 18 < x.toInt ∨ x = 0 ∨ x = 1 ∨ x = 2 ∨ x = 3 ∨ x = 4 ∨ x = 5 ∨ x = 6 ∨ x = 7 ∨ x = 8 ∨ x = 9 ∨ x = 10 ∨ x = 11 ∨ x = 12 ∨ x = 13 ∨ x = 14 ∨ x = 15 ∨ x = 16 ∨ x = 17 ∨ x = 18 := by
  rcases (by omega : x.toInt < 0 ∨ 18 < x.toInt ∨ x.toInt = 0 ∨ x.toInt = 1 ∨ x.toInt = 2 ∨ x.toInt = 3 ∨ x.toInt = 4 ∨ x.toInt = 5 ∨ x.toInt = 6 ∨ x.toInt = 7 ∨ x.toInt = 8 ∨ x.toInt = 9 ∨ x.toInt = 10 ∨ x.toInt = 11 ∨ x.toInt = 12 ∨ x.toInt = 13 ∨ x.toInt = 14 ∨ x.toInt = 15 ∨ x.toInt = 16 ∨ x.toInt = 17 ∨ x.toInt = 18) with h | h | h | h | h | h | h | h | h | h | h | h | h | h | h | h | h | h | h | h | h
  · exact Or.inl h
  · exact Or.inr (Or.inl h)
  · have e := i32_of (a := 0) (by omega) h; rw [show x = 0 from e]; simp
  · have e := i32_of (a := 1) (by omega) h; rw [show x = 1 from e]; simp
  · have e := i32_of (a := 2) (by omega) h; rw [show x = 2 from e]; simp
  · have e := i32_of (a := 3) (by omega) h; rw [show x = 3 from e]; simp
  · have e := i32_of (a := 4) (by omega) h; rw [show x = 4 from e]; simp
  · have e := i32_of (a := 5) (by omega) h; rw [show x = 5 from e]; simp
  · have e := i32_of (a := 6) (by omega) h; rw [show x = 6 from e]; simp
  · have e := i32_of (a := 7) (by omega) h; rw [show x = 7 from e]; simp
  · have e := i32_of (a := 8) (by omega) h; rw [show x = 8 from e]; simp
  · have e := i32_of (a := 9) (by omega) h; rw [show x = 9 from e]; simp
  · have e := i32_of (a := 10) (by omega) h; rw [show x = 10 from e]; simp
  · have e := i32_of (a := 11) (by omega) h; rw [show x = 11 from e]; simp
  · have e := i32_of (a := 12) (by omega) h; rw [show x = 12 from e]; simp
  · have e := i32_of (a := 13) (by omega) h; rw [show x = 13 from e]; simp
  · have e := i32_of (a := 14) (by omega) h; rw [show x = 14 from e]; simp
  · have e := i32_of (a := 15) (by omega) h; rw [show x = 15 from e]; simp
  · have e := i32_of (a := 16) (by omega) h; rw [show x = 16 from e]; simp
  · have e := i32_of (a := 17) (by omega) h; rw [show x = 17 from e]; simp
  · have e := i32_of (a := 18) (by omega) h; rw [show x = 18 from e]; simp
theorem sw10 (x : Int32) : x.toInt < 0 ∨ 9 < x.toInt ∨ x = 0 ∨ x = 1 ∨ x = 2 ∨ x = 3 ∨ x = 4 ∨ x = 5 ∨ x = 6 ∨ x = 7 ∨ x = 8 ∨ x = 9 := by
  rcases (by omega : x.toInt < 0 ∨ 9 < x.toInt ∨ x.toInt = 0 ∨ x.toInt = 1 ∨ x.toInt = 2 ∨ x.toInt = 3 ∨ x.toInt = 4 ∨ x.toInt = 5 ∨ x.toInt = 6 ∨ x.toInt = 7 ∨ x.toInt = 8 ∨ x.toInt = 9) with h | h | h | h | h | h | h | h | h | h | h | h
  · exact Or.inl h
  · exact Or.inr (Or.inl h)
  · have e := i32_of (a := 0) (by omega) h; rw [show x = 0 from e]; simp
  · have e := i32_of (a := 1) (by omega) h; rw [show x = 1 from e]; simp
  · have e := i32_of (a := 2) (by omega) h; rw [show x = 2 from e]; simp
  · have e := i32_of (a := 3) (by omega) h; rw [show x = 3 from e]; simp
  · have e := i32_of (a := 4) (by omega) h; rw [show x = 4 from e]; simp
  · have e := i32_of (a := 5) (by omega) h; rw [show x = 5 from e]; simp
  · have e := i32_of (a := 6) (by omega) h; rw [show x = 6 from e]; simp
  · have e := i32_of (a := 7) (by omega) h; rw [show x = 7 from e]; simp
  · have e := i32_of (a := 8) (by omega) h; rw [show x = 8 from e]; simp
  · have e := i32_of (a := 9) (by omega) h; rw [show x = 9 from e]; simp
theorem sw4 (x : Int32) : x.toInt < 0 ∨ 3 < x.toInt ∨ x = 0 ∨ x = 1 ∨ x = 2 ∨ x = 3 := by
  rcases (by omega : x.toInt < 0 ∨ 3 < x.toInt ∨ x.toInt = 0 ∨ x.toInt = 1 ∨ x.toInt = 2 ∨ x.toInt = 3) with h | h | h | h | h | h
  · exact Or.inl h
  · exact Or.inr (Or.inl h)
  · have e := i32_of (a := 0) (by omega) h; rw [show x = 0 from e]; simp
  · have e := i32_of (a := 1) (by omega) h; rw [show x = 1 from e]; simp
  · have e := i32_of (a := 2) (by omega) h; rw [show x = 2 from e]; simp
  · have e := i32_of (a := 3) (by omega) h; rw [show x = 3 from e]; simp
def t_carry (F P : tP) (w : Nat → Int32) : TX :=
  if w 0 = 115 then t_step F P (w 1) (w 2) (w 3) (w 4) else if w 0 = 110 then t_need F P (w 1) (w 2) else if w 0 = 102 then t_fault F P (w 1) (w 2)
  else if w 0 = 104 then t_hands F P (w 1) else if w 0 = 99 then t_cancel F P (w 1) else if w 0 = 109 then t_mile F P (w 1) (w 2) else if w 0 = 100 then t_days F P (w 1) else (-12, F, P)
theorem ca_no {F P : tP} {w : Nat → Int32} (h : w 0 ≠ 115 ∧ w 0 ≠ 110 ∧ w 0 ≠ 102 ∧ w 0 ≠ 104 ∧ w 0 ≠ 99 ∧ w 0 ≠ 109 ∧ w 0 ≠ 100) : t_carry F P w = (-12, F, P) := by
  unfold t_carry
  rw [if_neg h.1, if_neg h.2.1, if_neg h.2.2.1, if_neg h.2.2.2.1, if_neg h.2.2.2.2.1, if_neg h.2.2.2.2.2.1, if_neg h.2.2.2.2.2.2]
theorem ca_lo {x : Int32} (h : x.toInt < 99) : x ≠ 115 ∧ x ≠ 110 ∧ x ≠ 102 ∧ x ≠ 104 ∧ x ≠ 99 ∧ x ≠ 109 ∧ x ≠ 100 := by
  refine ⟨?_, ?_, ?_, ?_, ?_, ?_, ?_⟩ <;> (intro e; rw [e] at h; revert h; decide)
theorem ca_hi {x : Int32} (h : 115 < x.toInt) : x ≠ 115 ∧ x ≠ 110 ∧ x ≠ 102 ∧ x ≠ 104 ∧ x ≠ 99 ∧ x ≠ 109 ∧ x ≠ 100 := by
  refine ⟨?_, ?_, ?_, ?_, ?_, ?_, ?_⟩ <;> (intro e; rw [e] at h; revert h; decide)
theorem dX6_carryOut_0 : decode cX6_carryOut 0 = .ok (.aload_n 1, 1) := by decide +kernel
theorem dX6_carryOut_1 : decode cX6_carryOut 1 = .ok (.getfield 281, 3) := by decide +kernel
theorem dX6_carryOut_4 : decode cX6_carryOut 4 = .ok (.tableswitch 171 99 115 #[140, 162, 171, 118, 171, 131, 171, 171, 171, 171, 149, 105, 171, 171, 171, 171, 84], 84) := by decide +kernel
theorem dX6_carryOut_88 : decode cX6_carryOut 88 = .ok (.aload_n 0, 1) := by decide +kernel
theorem dX6_carryOut_89 : decode cX6_carryOut 89 = .ok (.aload_n 1, 1) := by decide +kernel
theorem dX6_carryOut_90 : decode cX6_carryOut 90 = .ok (.getfield 287, 3) := by decide +kernel
theorem dX6_carryOut_93 : decode cX6_carryOut 93 = .ok (.aload_n 1, 1) := by decide +kernel
theorem dX6_carryOut_94 : decode cX6_carryOut 94 = .ok (.getfield 290, 3) := by decide +kernel
theorem dX6_carryOut_97 : decode cX6_carryOut 97 = .ok (.aload_n 1, 1) := by decide +kernel
theorem dX6_carryOut_98 : decode cX6_carryOut 98 = .ok (.getfield 293, 3) := by decide +kernel
theorem dX6_carryOut_101 : decode cX6_carryOut 101 = .ok (.aload_n 1, 1) := by decide +kernel
theorem dX6_carryOut_102 : decode cX6_carryOut 102 = .ok (.getfield 296, 3) := by decide +kernel
theorem dX6_carryOut_105 : decode cX6_carryOut 105 = .ok (.invokevirtual 50, 3) := by decide +kernel
theorem dX6_carryOut_108 : decode cX6_carryOut 108 = .ok (.ireturn, 1) := by decide +kernel
theorem dX6_carryOut_109 : decode cX6_carryOut 109 = .ok (.aload_n 0, 1) := by decide +kernel
theorem dX6_carryOut_110 : decode cX6_carryOut 110 = .ok (.aload_n 1, 1) := by decide +kernel
theorem dX6_carryOut_111 : decode cX6_carryOut 111 = .ok (.getfield 287, 3) := by decide +kernel
theorem dX6_carryOut_114 : decode cX6_carryOut 114 = .ok (.aload_n 1, 1) := by decide +kernel
theorem dX6_carryOut_115 : decode cX6_carryOut 115 = .ok (.getfield 290, 3) := by decide +kernel
theorem dX6_carryOut_118 : decode cX6_carryOut 118 = .ok (.invokevirtual 58, 3) := by decide +kernel
theorem dX6_carryOut_121 : decode cX6_carryOut 121 = .ok (.ireturn, 1) := by decide +kernel
theorem dX6_carryOut_122 : decode cX6_carryOut 122 = .ok (.aload_n 0, 1) := by decide +kernel
theorem dX6_carryOut_123 : decode cX6_carryOut 123 = .ok (.aload_n 1, 1) := by decide +kernel
theorem dX6_carryOut_124 : decode cX6_carryOut 124 = .ok (.getfield 287, 3) := by decide +kernel
theorem dX6_carryOut_127 : decode cX6_carryOut 127 = .ok (.aload_n 1, 1) := by decide +kernel
theorem dX6_carryOut_128 : decode cX6_carryOut 128 = .ok (.getfield 290, 3) := by decide +kernel
theorem dX6_carryOut_131 : decode cX6_carryOut 131 = .ok (.invokevirtual 62, 3) := by decide +kernel
theorem dX6_carryOut_134 : decode cX6_carryOut 134 = .ok (.ireturn, 1) := by decide +kernel
theorem dX6_carryOut_135 : decode cX6_carryOut 135 = .ok (.aload_n 0, 1) := by decide +kernel
theorem dX6_carryOut_136 : decode cX6_carryOut 136 = .ok (.aload_n 1, 1) := by decide +kernel
theorem dX6_carryOut_137 : decode cX6_carryOut 137 = .ok (.getfield 287, 3) := by decide +kernel
theorem dX6_carryOut_140 : decode cX6_carryOut 140 = .ok (.invokevirtual 65, 3) := by decide +kernel
theorem dX6_carryOut_143 : decode cX6_carryOut 143 = .ok (.ireturn, 1) := by decide +kernel
theorem dX6_carryOut_144 : decode cX6_carryOut 144 = .ok (.aload_n 0, 1) := by decide +kernel
theorem dX6_carryOut_145 : decode cX6_carryOut 145 = .ok (.aload_n 1, 1) := by decide +kernel
theorem dX6_carryOut_146 : decode cX6_carryOut 146 = .ok (.getfield 287, 3) := by decide +kernel
theorem dX6_carryOut_149 : decode cX6_carryOut 149 = .ok (.invokevirtual 68, 3) := by decide +kernel
theorem dX6_carryOut_152 : decode cX6_carryOut 152 = .ok (.ireturn, 1) := by decide +kernel
theorem dX6_carryOut_153 : decode cX6_carryOut 153 = .ok (.aload_n 0, 1) := by decide +kernel
theorem dX6_carryOut_154 : decode cX6_carryOut 154 = .ok (.aload_n 1, 1) := by decide +kernel
theorem dX6_carryOut_155 : decode cX6_carryOut 155 = .ok (.getfield 287, 3) := by decide +kernel
theorem dX6_carryOut_158 : decode cX6_carryOut 158 = .ok (.aload_n 1, 1) := by decide +kernel
theorem dX6_carryOut_159 : decode cX6_carryOut 159 = .ok (.getfield 290, 3) := by decide +kernel
theorem dX6_carryOut_162 : decode cX6_carryOut 162 = .ok (.invokevirtual 71, 3) := by decide +kernel
theorem dX6_carryOut_165 : decode cX6_carryOut 165 = .ok (.ireturn, 1) := by decide +kernel
theorem dX6_carryOut_166 : decode cX6_carryOut 166 = .ok (.aload_n 0, 1) := by decide +kernel
theorem dX6_carryOut_167 : decode cX6_carryOut 167 = .ok (.aload_n 1, 1) := by decide +kernel
theorem dX6_carryOut_168 : decode cX6_carryOut 168 = .ok (.getfield 287, 3) := by decide +kernel
theorem dX6_carryOut_171 : decode cX6_carryOut 171 = .ok (.invokevirtual 74, 3) := by decide +kernel
theorem dX6_carryOut_174 : decode cX6_carryOut 174 = .ok (.ireturn, 1) := by decide +kernel
theorem dX6_carryOut_175 : decode cX6_carryOut 175 = .ok (.bipush (-12), 2) := by decide +kernel
theorem dX6_carryOut_177 : decode cX6_carryOut 177 = .ok (.ireturn, 1) := by decide +kernel
theorem dcX6_carryOut : yX6_carryOut.cls = RX6 ∧ yX6_carryOut.cls ≠ "java/lang/invoke/MethodHandle" ∧ yX6_carryOut.cls ≠ "java/lang/invoke/VarHandle" ∧ (parseMethodDescriptor yX6_carryOut.desc).map (fun d => d.parameters.length) = some 1 := by decide +kernel
theorem gX6_carryOut_149 : GoodIn wsL_law (wsV RX6 68 RX6 yX6_tellCancel (.code yX6_tellCancel cX6_tellCancel 2 (some .int) :: wsL_law)) := g_V q336 q337 q338 q2 q339
theorem gX6_carryOut_171 : GoodIn wsL_law (wsV RX6 74 RX6 yX6_letDaysGo (.code yX6_letDaysGo cX6_letDaysGo 4 (some .int) :: wsL_law)) := g_V q358 q359 q360 q2 q361
theorem gX6_carryOut_131 : GoodIn wsL_law (wsV RX6 62 RX6 yX6_tellFault (.code yX6_tellFault cX6_tellFault 4 (some .int) :: wsL_law)) := g_V q327 q328 q329 q2 q330
theorem gX6_carryOut_140 : GoodIn wsL_law (wsV RX6 65 RX6 yX6_setHands (.code yX6_setHands cX6_setHands 3 (some .int) :: wsL_law)) := g_V q127 q128 q129 q2 q130
theorem gX6_carryOut_162 : GoodIn wsL_law (wsV RX6 71 RX6 yX6_tellMilestone (.code yX6_tellMilestone cX6_tellMilestone 4 (some .int) :: wsL_law)) := g_V q348 q349 q350 q2 q351
theorem gX6_carryOut_118 : GoodIn wsL_law (wsV RX6 58 RX6 yX6_tellNeed (.code yX6_tellNeed cX6_tellNeed 4 (some .int) :: wsL_law)) := g_V q310 q311 q312 q2 q313
theorem gX6_carryOut_105 : GoodIn wsL_law (wsV RX6 50 RX6 yX6_tellStep (.code yX6_tellStep cX6_tellStep 5 (some .int) :: wsL_law)) := g_V q282 q283 q284 q2 q285
set_option maxRecDepth 100000 in
set_option maxHeartbeats 4000000 in
theorem K_carry {cA : Nat → ClassId} {ad : tA} {ex : va_W} {M : tM} {F P : tP} {k : Nat} (hk : k < 12) (hb : (M 13 (3 + k)) 4 = 0 ∨ (M 13 (3 + k)) 4 = 1) (hoc : okc P) (ho : oke P) (hoh : okh P) (hon : okn P) : Cj yX6_carryOut cX6_carryOut 2 (some .int) (rmd 6) 0 0 cA ad [.ref (ad 0 0), .ref (ad 13 (3 + k))] ex (mm M F P) (Qe (some (.int (t_carry F P (M 13 (3 + k))).1)) ex (mm M (t_carry F P (M 13 (3 + k))).2.1 (t_carry F P (M 13 (3 + k))).2.2)) := by
  refine c_of_r (lv0 := [some (.ref (ad 0 0)), some (.ref (ad 13 (3 + k)))]) rfl (by decide +kernel) (Nat.le_of_ble_eq_true rfl) rfl ?_
  obtain ⟨a, ha⟩ : ∃ a : Bool, (M 13 (3 + k)) 4 = bI a := by rcases hb with h | h; exact ⟨false, h⟩; exact ⟨true, h⟩
  refine r_aload_n dX6_carryOut_0 rfl ?_
  refine r_getm_or hk 0 (by decide) q277 rfl dX6_carryOut_1 ?_
  rcases sw17 ((M 13 (3 + k)) 0) with h | h | h | h | h | h | h | h | h | h | h | h | h | h | h | h | h | h | h
  · refine r_tableOut (tgt := 175) dX6_carryOut_4 (Or.inl h) (by decide) ?_
    refine r_bipush (v := -12) dX6_carryOut_175 (by decide) ?_
    first | exact r_ret rfl rfl dX6_carryOut_177 (t_a (show t_carry F P (M 13 (3 + k)) = _ from ca_no (ca_lo h))) (t_m (show t_carry F P (M 13 (3 + k)) = _ from ca_no (ca_lo h)))
  · refine r_tableOut (tgt := 175) dX6_carryOut_4 (Or.inr h) (by decide) ?_
    refine r_bipush (v := -12) dX6_carryOut_175 (by decide) ?_
    first | exact r_ret rfl rfl dX6_carryOut_177 (t_a (show t_carry F P (M 13 (3 + k)) = _ from ca_no (ca_hi h))) (t_m (show t_carry F P (M 13 (3 + k)) = _ from ca_no (ca_hi h)))
  · rw [h]
    refine r_tableIn (off := 140) (tgt := 144) dX6_carryOut_4 (by decide) (by decide) (by decide) (by decide) ?_
    rw [show t_carry F P (M 13 (3 + k)) = t_cancel F P ((M 13 (3 + k)) 1) from (if_neg (by rw [h]; decide)).trans ((if_neg (by rw [h]; decide)).trans ((if_neg (by rw [h]; decide)).trans ((if_neg (by rw [h]; decide)).trans (if_pos h))))]
    refine r_aload_n dX6_carryOut_144 rfl ?_
    refine r_aload_n dX6_carryOut_145 rfl ?_
    refine r_getm_or hk 1 (by decide) q278 rfl dX6_carryOut_146 ?_
    refine r_cVi dX6_carryOut_149 (K_tcancel hoc ho) gX6_carryOut_149 dcX6_tellCancel rfl rfl rfl (Nat.le_of_ble_eq_true rfl) ob_tf ?_
    exact r_ret rfl rfl dX6_carryOut_152 rfl rfl
  · rw [h]
    refine r_tableIn (off := 162) (tgt := 166) dX6_carryOut_4 (by decide) (by decide) (by decide) (by decide) ?_
    rw [show t_carry F P (M 13 (3 + k)) = t_days F P ((M 13 (3 + k)) 1) from (if_neg (by rw [h]; decide)).trans ((if_neg (by rw [h]; decide)).trans ((if_neg (by rw [h]; decide)).trans ((if_neg (by rw [h]; decide)).trans ((if_neg (by rw [h]; decide)).trans ((if_neg (by rw [h]; decide)).trans (if_pos h))))))]
    refine r_aload_n dX6_carryOut_166 rfl ?_
    refine r_aload_n dX6_carryOut_167 rfl ?_
    refine r_getm_or hk 1 (by decide) q278 rfl dX6_carryOut_168 ?_
    refine r_cVi dX6_carryOut_171 (K_tdays hoc ho hoh) gX6_carryOut_171 dcX6_letDaysGo rfl rfl rfl (Nat.le_of_ble_eq_true rfl) ob_tf ?_
    exact r_ret rfl rfl dX6_carryOut_174 rfl rfl
  · rw [h]
    refine r_tableIn (off := 171) (tgt := 175) dX6_carryOut_4 (by decide) (by decide) (by decide) (by decide) ?_
    refine r_bipush (v := -12) dX6_carryOut_175 (by decide) ?_
    first | exact r_ret rfl rfl dX6_carryOut_177 (t_a (show t_carry F P (M 13 (3 + k)) = _ from ca_no (by rw [h]; decide))) (t_m (show t_carry F P (M 13 (3 + k)) = _ from ca_no (by rw [h]; decide)))
  · rw [h]
    refine r_tableIn (off := 118) (tgt := 122) dX6_carryOut_4 (by decide) (by decide) (by decide) (by decide) ?_
    rw [show t_carry F P (M 13 (3 + k)) = t_fault F P ((M 13 (3 + k)) 1) ((M 13 (3 + k)) 2) from (if_neg (by rw [h]; decide)).trans ((if_neg (by rw [h]; decide)).trans (if_pos h))]
    refine r_aload_n dX6_carryOut_122 rfl ?_
    refine r_aload_n dX6_carryOut_123 rfl ?_
    refine r_getm_or hk 1 (by decide) q278 rfl dX6_carryOut_124 ?_
    refine r_aload_n dX6_carryOut_127 rfl ?_
    refine r_getm_or hk 2 (by decide) q279 rfl dX6_carryOut_128 ?_
    refine r_cVi dX6_carryOut_131 (K_tfault hoc) gX6_carryOut_131 dcX6_tellFault rfl rfl rfl (Nat.le_of_ble_eq_true rfl) ob_tf ?_
    exact r_ret rfl rfl dX6_carryOut_134 rfl rfl
  · rw [h]
    refine r_tableIn (off := 171) (tgt := 175) dX6_carryOut_4 (by decide) (by decide) (by decide) (by decide) ?_
    refine r_bipush (v := -12) dX6_carryOut_175 (by decide) ?_
    first | exact r_ret rfl rfl dX6_carryOut_177 (t_a (show t_carry F P (M 13 (3 + k)) = _ from ca_no (by rw [h]; decide))) (t_m (show t_carry F P (M 13 (3 + k)) = _ from ca_no (by rw [h]; decide)))
  · rw [h]
    refine r_tableIn (off := 131) (tgt := 135) dX6_carryOut_4 (by decide) (by decide) (by decide) (by decide) ?_
    rw [show t_carry F P (M 13 (3 + k)) = t_hands F P ((M 13 (3 + k)) 1) from (if_neg (by rw [h]; decide)).trans ((if_neg (by rw [h]; decide)).trans ((if_neg (by rw [h]; decide)).trans (if_pos h)))]
    refine r_aload_n dX6_carryOut_135 rfl ?_
    refine r_aload_n dX6_carryOut_136 rfl ?_
    refine r_getm_or hk 1 (by decide) q278 rfl dX6_carryOut_137 ?_
    refine r_cVi dX6_carryOut_140 (K_thands) gX6_carryOut_140 dcX6_setHands rfl rfl rfl (Nat.le_of_ble_eq_true rfl) ob_tf ?_
    exact r_ret rfl rfl dX6_carryOut_143 rfl rfl
  · rw [h]
    refine r_tableIn (off := 171) (tgt := 175) dX6_carryOut_4 (by decide) (by decide) (by decide) (by decide) ?_
    refine r_bipush (v := -12) dX6_carryOut_175 (by decide) ?_
    first | exact r_ret rfl rfl dX6_carryOut_177 (t_a (show t_carry F P (M 13 (3 + k)) = _ from ca_no (by rw [h]; decide))) (t_m (show t_carry F P (M 13 (3 + k)) = _ from ca_no (by rw [h]; decide)))
  · rw [h]
    refine r_tableIn (off := 171) (tgt := 175) dX6_carryOut_4 (by decide) (by decide) (by decide) (by decide) ?_
    refine r_bipush (v := -12) dX6_carryOut_175 (by decide) ?_
    first | exact r_ret rfl rfl dX6_carryOut_177 (t_a (show t_carry F P (M 13 (3 + k)) = _ from ca_no (by rw [h]; decide))) (t_m (show t_carry F P (M 13 (3 + k)) = _ from ca_no (by rw [h]; decide)))
  · rw [h]
    refine r_tableIn (off := 171) (tgt := 175) dX6_carryOut_4 (by decide) (by decide) (by decide) (by decide) ?_
    refine r_bipush (v := -12) dX6_carryOut_175 (by decide) ?_
    first | exact r_ret rfl rfl dX6_carryOut_177 (t_a (show t_carry F P (M 13 (3 + k)) = _ from ca_no (by rw [h]; decide))) (t_m (show t_carry F P (M 13 (3 + k)) = _ from ca_no (by rw [h]; decide)))
  · rw [h]
    refine r_tableIn (off := 171) (tgt := 175) dX6_carryOut_4 (by decide) (by decide) (by decide) (by decide) ?_
    refine r_bipush (v := -12) dX6_carryOut_175 (by decide) ?_
    first | exact r_ret rfl rfl dX6_carryOut_177 (t_a (show t_carry F P (M 13 (3 + k)) = _ from ca_no (by rw [h]; decide))) (t_m (show t_carry F P (M 13 (3 + k)) = _ from ca_no (by rw [h]; decide)))
  · rw [h]
    refine r_tableIn (off := 149) (tgt := 153) dX6_carryOut_4 (by decide) (by decide) (by decide) (by decide) ?_
    rw [show t_carry F P (M 13 (3 + k)) = t_mile F P ((M 13 (3 + k)) 1) ((M 13 (3 + k)) 2) from (if_neg (by rw [h]; decide)).trans ((if_neg (by rw [h]; decide)).trans ((if_neg (by rw [h]; decide)).trans ((if_neg (by rw [h]; decide)).trans ((if_neg (by rw [h]; decide)).trans (if_pos h)))))]
    refine r_aload_n dX6_carryOut_153 rfl ?_
    refine r_aload_n dX6_carryOut_154 rfl ?_
    refine r_getm_or hk 1 (by decide) q278 rfl dX6_carryOut_155 ?_
    refine r_aload_n dX6_carryOut_158 rfl ?_
    refine r_getm_or hk 2 (by decide) q279 rfl dX6_carryOut_159 ?_
    refine r_cVi dX6_carryOut_162 (K_tmile hoc hon) gX6_carryOut_162 dcX6_tellMilestone rfl rfl rfl (Nat.le_of_ble_eq_true rfl) ob_tf ?_
    exact r_ret rfl rfl dX6_carryOut_165 rfl rfl
  · rw [h]
    refine r_tableIn (off := 105) (tgt := 109) dX6_carryOut_4 (by decide) (by decide) (by decide) (by decide) ?_
    rw [show t_carry F P (M 13 (3 + k)) = t_need F P ((M 13 (3 + k)) 1) ((M 13 (3 + k)) 2) from (if_neg (by rw [h]; decide)).trans (if_pos h)]
    refine r_aload_n dX6_carryOut_109 rfl ?_
    refine r_aload_n dX6_carryOut_110 rfl ?_
    refine r_getm_or hk 1 (by decide) q278 rfl dX6_carryOut_111 ?_
    refine r_aload_n dX6_carryOut_114 rfl ?_
    refine r_getm_or hk 2 (by decide) q279 rfl dX6_carryOut_115 ?_
    refine r_cVi dX6_carryOut_118 (K_tneed hoc) gX6_carryOut_118 dcX6_tellNeed rfl rfl rfl (Nat.le_of_ble_eq_true rfl) ob_tf ?_
    exact r_ret rfl rfl dX6_carryOut_121 rfl rfl
  · rw [h]
    refine r_tableIn (off := 171) (tgt := 175) dX6_carryOut_4 (by decide) (by decide) (by decide) (by decide) ?_
    refine r_bipush (v := -12) dX6_carryOut_175 (by decide) ?_
    first | exact r_ret rfl rfl dX6_carryOut_177 (t_a (show t_carry F P (M 13 (3 + k)) = _ from ca_no (by rw [h]; decide))) (t_m (show t_carry F P (M 13 (3 + k)) = _ from ca_no (by rw [h]; decide)))
  · rw [h]
    refine r_tableIn (off := 171) (tgt := 175) dX6_carryOut_4 (by decide) (by decide) (by decide) (by decide) ?_
    refine r_bipush (v := -12) dX6_carryOut_175 (by decide) ?_
    first | exact r_ret rfl rfl dX6_carryOut_177 (t_a (show t_carry F P (M 13 (3 + k)) = _ from ca_no (by rw [h]; decide))) (t_m (show t_carry F P (M 13 (3 + k)) = _ from ca_no (by rw [h]; decide)))
  · rw [h]
    refine r_tableIn (off := 171) (tgt := 175) dX6_carryOut_4 (by decide) (by decide) (by decide) (by decide) ?_
    refine r_bipush (v := -12) dX6_carryOut_175 (by decide) ?_
    first | exact r_ret rfl rfl dX6_carryOut_177 (t_a (show t_carry F P (M 13 (3 + k)) = _ from ca_no (by rw [h]; decide))) (t_m (show t_carry F P (M 13 (3 + k)) = _ from ca_no (by rw [h]; decide)))
  · rw [h]
    refine r_tableIn (off := 171) (tgt := 175) dX6_carryOut_4 (by decide) (by decide) (by decide) (by decide) ?_
    refine r_bipush (v := -12) dX6_carryOut_175 (by decide) ?_
    first | exact r_ret rfl rfl dX6_carryOut_177 (t_a (show t_carry F P (M 13 (3 + k)) = _ from ca_no (by rw [h]; decide))) (t_m (show t_carry F P (M 13 (3 + k)) = _ from ca_no (by rw [h]; decide)))
  · rw [h]
    refine r_tableIn (off := 84) (tgt := 88) dX6_carryOut_4 (by decide) (by decide) (by decide) (by decide) ?_
    rw [show t_carry F P (M 13 (3 + k)) = t_step F P ((M 13 (3 + k)) 1) ((M 13 (3 + k)) 2) ((M 13 (3 + k)) 3) ((M 13 (3 + k)) 4) from if_pos h]
    refine r_aload_n dX6_carryOut_88 rfl ?_
    refine r_aload_n dX6_carryOut_89 rfl ?_
    refine r_getm_or hk 1 (by decide) q278 rfl dX6_carryOut_90 ?_
    refine r_aload_n dX6_carryOut_93 rfl ?_
    refine r_getm_or hk 2 (by decide) q279 rfl dX6_carryOut_94 ?_
    refine r_aload_n dX6_carryOut_97 rfl ?_
    refine r_getm_or hk 3 (by decide) q280 rfl dX6_carryOut_98 ?_
    refine r_aload_n dX6_carryOut_101 rfl ?_
    refine r_getm_or hk 4 (by decide) q281 rfl dX6_carryOut_102 ?_
    refine r_cVi dX6_carryOut_105 ((ha ▸ K_tstep hoc ho)) gX6_carryOut_105 dcX6_tellStep rfl rfl rfl (Nat.le_of_ble_eq_true rfl) ob_tf ?_
    exact r_ret rfl rfl dX6_carryOut_108 rfl rfl
def c_mark (M : tM) (F P : tP) : tM := m_pl M (4 + km F) (f_copy (M (4 + km F)) P)
theorem dX6_step_0 : decode cX6_step 0 = .ok (.aload_n 0, 1) := by decide +kernel
theorem dX6_step_1 : decode cX6_step 1 = .ok (.invokevirtual 47, 3) := by decide +kernel
theorem dX6_step_4 : decode cX6_step 4 = .ok (.aload_n 0, 1) := by decide +kernel
theorem dX6_step_5 : decode cX6_step 5 = .ok (.aload_n 0, 1) := by decide +kernel
theorem dX6_step_6 : decode cX6_step 6 = .ok (.iload_n 1, 1) := by decide +kernel
theorem dX6_step_7 : decode cX6_step 7 = .ok (.iload_n 2, 1) := by decide +kernel
theorem dX6_step_8 : decode cX6_step 8 = .ok (.iload_n 3, 1) := by decide +kernel
theorem dX6_step_9 : decode cX6_step 9 = .ok (.iload 4, 2) := by decide +kernel
theorem dX6_step_11 : decode cX6_step 11 = .ok (.invokevirtual 50, 3) := by decide +kernel
theorem dX6_step_14 : decode cX6_step 14 = .ok (.invokevirtual 54, 3) := by decide +kernel
theorem dX6_step_17 : decode cX6_step 17 = .ok (.ireturn, 1) := by decide +kernel
theorem dcX6_step : yX6_step.cls = RX6 ∧ yX6_step.cls ≠ "java/lang/invoke/MethodHandle" ∧ yX6_step.cls ≠ "java/lang/invoke/VarHandle" ∧ (parseMethodDescriptor yX6_step.desc).map (fun d => d.parameters.length) = some 4 := by decide +kernel
theorem gX6_step_1 : GoodIn wsL_law (wsV RX6 47 RX6 yX6_markBefore (.code yX6_markBefore cX6_markBefore 1 none :: wsL_law)) := g_V q123 q124 q125 q2 q126
theorem gX6_step_11 : GoodIn wsL_law (wsV RX6 50 RX6 yX6_tellStep (.code yX6_tellStep cX6_tellStep 5 (some .int) :: wsL_law)) := g_V q282 q283 q284 q2 q285
theorem gX6_step_14 : GoodIn wsL_law (wsV RX6 54 RX6 yX6_keepChange (.code yX6_keepChange cX6_keepChange 2 (some .int) :: wsL_law)) := g_V q135 q136 q137 q2 q138
set_option maxRecDepth 100000 in
set_option maxHeartbeats 4000000 in
theorem K_step {cA : Nat → ClassId} {ad : tA} {ex : va_W} {M : tM} {F P : tP} {d m b : Int32} {a : Bool} (hm : okm F) (hoc : okc P) (hob : okb P) (ho : oke P) (hoh : okh P) (hon : okn P) : Cj yX6_step cX6_step 5 (some .int) (rmd 6) 0 0 cA ad [.ref (ad 0 0), .int d, .int m, .int b, .int (bI a)] ex (mm M F P) (Qe (some (.int (t_step F P d m b (bI a)).1)) ex (mm (c_mark M F P) (f_keep (t_step F P d m b (bI a)).2.1 (t_step F P d m b (bI a)).1) (t_step F P d m b (bI a)).2.2)) := by
  refine c_of_r (lv0 := [some (.ref (ad 0 0)), some (.int d), some (.int m), some (.int b), some (.int (bI a))]) rfl (by decide +kernel) (Nat.le_of_ble_eq_true rfl) rfl ?_
  refine r_aload_n dX6_step_0 rfl ?_
  refine r_cVv dX6_step_1 (K_mark hm hoc hob) gX6_step_1 dcX6_markBefore rfl rfl rfl (Nat.le_of_ble_eq_true rfl) ob_tf ?_
  refine r_aload_n dX6_step_4 rfl ?_
  refine r_aload_n dX6_step_5 rfl ?_
  refine r_iload_n dX6_step_6 rfl ?_
  refine r_iload_n dX6_step_7 rfl ?_
  refine r_iload_n dX6_step_8 rfl ?_
  refine r_iload dX6_step_9 rfl ?_
  refine r_cVi dX6_step_11 (K_tstep hoc ho) gX6_step_11 dcX6_tellStep rfl rfl rfl (Nat.le_of_ble_eq_true rfl) ob_tf ?_
  refine r_cVi dX6_step_14 (K_keep) gX6_step_14 dcX6_keepChange rfl rfl rfl (Nat.le_of_ble_eq_true rfl) ob_tf ?_
  exact r_ret rfl rfl dX6_step_17 rfl rfl
theorem dX6_need_0 : decode cX6_need 0 = .ok (.aload_n 0, 1) := by decide +kernel
theorem dX6_need_1 : decode cX6_need 1 = .ok (.invokevirtual 47, 3) := by decide +kernel
theorem dX6_need_4 : decode cX6_need 4 = .ok (.aload_n 0, 1) := by decide +kernel
theorem dX6_need_5 : decode cX6_need 5 = .ok (.aload_n 0, 1) := by decide +kernel
theorem dX6_need_6 : decode cX6_need 6 = .ok (.iload_n 1, 1) := by decide +kernel
theorem dX6_need_7 : decode cX6_need 7 = .ok (.iload_n 2, 1) := by decide +kernel
theorem dX6_need_8 : decode cX6_need 8 = .ok (.invokevirtual 58, 3) := by decide +kernel
theorem dX6_need_11 : decode cX6_need 11 = .ok (.invokevirtual 54, 3) := by decide +kernel
theorem dX6_need_14 : decode cX6_need 14 = .ok (.ireturn, 1) := by decide +kernel
theorem dcX6_need : yX6_need.cls = RX6 ∧ yX6_need.cls ≠ "java/lang/invoke/MethodHandle" ∧ yX6_need.cls ≠ "java/lang/invoke/VarHandle" ∧ (parseMethodDescriptor yX6_need.desc).map (fun d => d.parameters.length) = some 2 := by decide +kernel
theorem gX6_need_1 : GoodIn wsL_law (wsV RX6 47 RX6 yX6_markBefore (.code yX6_markBefore cX6_markBefore 1 none :: wsL_law)) := g_V q123 q124 q125 q2 q126
theorem gX6_need_8 : GoodIn wsL_law (wsV RX6 58 RX6 yX6_tellNeed (.code yX6_tellNeed cX6_tellNeed 4 (some .int) :: wsL_law)) := g_V q310 q311 q312 q2 q313
theorem gX6_need_11 : GoodIn wsL_law (wsV RX6 54 RX6 yX6_keepChange (.code yX6_keepChange cX6_keepChange 2 (some .int) :: wsL_law)) := g_V q135 q136 q137 q2 q138
set_option maxRecDepth 100000 in
set_option maxHeartbeats 4000000 in
theorem K_need {cA : Nat → ClassId} {ad : tA} {ex : va_W} {M : tM} {F P : tP} {s x : Int32} (hm : okm F) (hoc : okc P) (hob : okb P) (ho : oke P) (hoh : okh P) (hon : okn P) : Cj yX6_need cX6_need 3 (some .int) (rmd 6) 0 0 cA ad [.ref (ad 0 0), .int s, .int x] ex (mm M F P) (Qe (some (.int (t_need F P s x).1)) ex (mm (c_mark M F P) (f_keep (t_need F P s x).2.1 (t_need F P s x).1) (t_need F P s x).2.2)) := by
  refine c_of_r (lv0 := [some (.ref (ad 0 0)), some (.int s), some (.int x)]) rfl (by decide +kernel) (Nat.le_of_ble_eq_true rfl) rfl ?_
  refine r_aload_n dX6_need_0 rfl ?_
  refine r_cVv dX6_need_1 (K_mark hm hoc hob) gX6_need_1 dcX6_markBefore rfl rfl rfl (Nat.le_of_ble_eq_true rfl) ob_tf ?_
  refine r_aload_n dX6_need_4 rfl ?_
  refine r_aload_n dX6_need_5 rfl ?_
  refine r_iload_n dX6_need_6 rfl ?_
  refine r_iload_n dX6_need_7 rfl ?_
  refine r_cVi dX6_need_8 (K_tneed hoc) gX6_need_8 dcX6_tellNeed rfl rfl rfl (Nat.le_of_ble_eq_true rfl) ob_tf ?_
  refine r_cVi dX6_need_11 (K_keep) gX6_need_11 dcX6_keepChange rfl rfl rfl (Nat.le_of_ble_eq_true rfl) ob_tf ?_
  exact r_ret rfl rfl dX6_need_14 rfl rfl
theorem dX6_fault_0 : decode cX6_fault 0 = .ok (.aload_n 0, 1) := by decide +kernel
theorem dX6_fault_1 : decode cX6_fault 1 = .ok (.invokevirtual 47, 3) := by decide +kernel
theorem dX6_fault_4 : decode cX6_fault 4 = .ok (.aload_n 0, 1) := by decide +kernel
theorem dX6_fault_5 : decode cX6_fault 5 = .ok (.aload_n 0, 1) := by decide +kernel
theorem dX6_fault_6 : decode cX6_fault 6 = .ok (.iload_n 1, 1) := by decide +kernel
theorem dX6_fault_7 : decode cX6_fault 7 = .ok (.iload_n 2, 1) := by decide +kernel
theorem dX6_fault_8 : decode cX6_fault 8 = .ok (.invokevirtual 62, 3) := by decide +kernel
theorem dX6_fault_11 : decode cX6_fault 11 = .ok (.invokevirtual 54, 3) := by decide +kernel
theorem dX6_fault_14 : decode cX6_fault 14 = .ok (.ireturn, 1) := by decide +kernel
theorem dcX6_fault : yX6_fault.cls = RX6 ∧ yX6_fault.cls ≠ "java/lang/invoke/MethodHandle" ∧ yX6_fault.cls ≠ "java/lang/invoke/VarHandle" ∧ (parseMethodDescriptor yX6_fault.desc).map (fun d => d.parameters.length) = some 2 := by decide +kernel
theorem gX6_fault_1 : GoodIn wsL_law (wsV RX6 47 RX6 yX6_markBefore (.code yX6_markBefore cX6_markBefore 1 none :: wsL_law)) := g_V q123 q124 q125 q2 q126
theorem gX6_fault_8 : GoodIn wsL_law (wsV RX6 62 RX6 yX6_tellFault (.code yX6_tellFault cX6_tellFault 4 (some .int) :: wsL_law)) := g_V q327 q328 q329 q2 q330
theorem gX6_fault_11 : GoodIn wsL_law (wsV RX6 54 RX6 yX6_keepChange (.code yX6_keepChange cX6_keepChange 2 (some .int) :: wsL_law)) := g_V q135 q136 q137 q2 q138
set_option maxRecDepth 100000 in
set_option maxHeartbeats 4000000 in
theorem K_fault {cA : Nat → ClassId} {ad : tA} {ex : va_W} {M : tM} {F P : tP} {s x : Int32} (hm : okm F) (hoc : okc P) (hob : okb P) (ho : oke P) (hoh : okh P) (hon : okn P) : Cj yX6_fault cX6_fault 3 (some .int) (rmd 6) 0 0 cA ad [.ref (ad 0 0), .int s, .int x] ex (mm M F P) (Qe (some (.int (t_fault F P s x).1)) ex (mm (c_mark M F P) (f_keep (t_fault F P s x).2.1 (t_fault F P s x).1) (t_fault F P s x).2.2)) := by
  refine c_of_r (lv0 := [some (.ref (ad 0 0)), some (.int s), some (.int x)]) rfl (by decide +kernel) (Nat.le_of_ble_eq_true rfl) rfl ?_
  refine r_aload_n dX6_fault_0 rfl ?_
  refine r_cVv dX6_fault_1 (K_mark hm hoc hob) gX6_fault_1 dcX6_markBefore rfl rfl rfl (Nat.le_of_ble_eq_true rfl) ob_tf ?_
  refine r_aload_n dX6_fault_4 rfl ?_
  refine r_aload_n dX6_fault_5 rfl ?_
  refine r_iload_n dX6_fault_6 rfl ?_
  refine r_iload_n dX6_fault_7 rfl ?_
  refine r_cVi dX6_fault_8 (K_tfault hoc) gX6_fault_8 dcX6_tellFault rfl rfl rfl (Nat.le_of_ble_eq_true rfl) ob_tf ?_
  refine r_cVi dX6_fault_11 (K_keep) gX6_fault_11 dcX6_keepChange rfl rfl rfl (Nat.le_of_ble_eq_true rfl) ob_tf ?_
  exact r_ret rfl rfl dX6_fault_14 rfl rfl
theorem dX6_hands_0 : decode cX6_hands 0 = .ok (.aload_n 0, 1) := by decide +kernel
theorem dX6_hands_1 : decode cX6_hands 1 = .ok (.invokevirtual 47, 3) := by decide +kernel
theorem dX6_hands_4 : decode cX6_hands 4 = .ok (.aload_n 0, 1) := by decide +kernel
theorem dX6_hands_5 : decode cX6_hands 5 = .ok (.aload_n 0, 1) := by decide +kernel
theorem dX6_hands_6 : decode cX6_hands 6 = .ok (.iload_n 1, 1) := by decide +kernel
theorem dX6_hands_7 : decode cX6_hands 7 = .ok (.invokevirtual 65, 3) := by decide +kernel
theorem dX6_hands_10 : decode cX6_hands 10 = .ok (.invokevirtual 54, 3) := by decide +kernel
theorem dX6_hands_13 : decode cX6_hands 13 = .ok (.ireturn, 1) := by decide +kernel
theorem dcX6_hands : yX6_hands.cls = RX6 ∧ yX6_hands.cls ≠ "java/lang/invoke/MethodHandle" ∧ yX6_hands.cls ≠ "java/lang/invoke/VarHandle" ∧ (parseMethodDescriptor yX6_hands.desc).map (fun d => d.parameters.length) = some 1 := by decide +kernel
theorem gX6_hands_1 : GoodIn wsL_law (wsV RX6 47 RX6 yX6_markBefore (.code yX6_markBefore cX6_markBefore 1 none :: wsL_law)) := g_V q123 q124 q125 q2 q126
theorem gX6_hands_7 : GoodIn wsL_law (wsV RX6 65 RX6 yX6_setHands (.code yX6_setHands cX6_setHands 3 (some .int) :: wsL_law)) := g_V q127 q128 q129 q2 q130
theorem gX6_hands_10 : GoodIn wsL_law (wsV RX6 54 RX6 yX6_keepChange (.code yX6_keepChange cX6_keepChange 2 (some .int) :: wsL_law)) := g_V q135 q136 q137 q2 q138
set_option maxRecDepth 100000 in
set_option maxHeartbeats 4000000 in
theorem K_hands {cA : Nat → ClassId} {ad : tA} {ex : va_W} {M : tM} {F P : tP} {x : Int32} (hm : okm F) (hoc : okc P) (hob : okb P) (ho : oke P) (hoh : okh P) (hon : okn P) : Cj yX6_hands cX6_hands 2 (some .int) (rmd 6) 0 0 cA ad [.ref (ad 0 0), .int x] ex (mm M F P) (Qe (some (.int (t_hands F P x).1)) ex (mm (c_mark M F P) (f_keep (t_hands F P x).2.1 (t_hands F P x).1) (t_hands F P x).2.2)) := by
  refine c_of_r (lv0 := [some (.ref (ad 0 0)), some (.int x)]) rfl (by decide +kernel) (Nat.le_of_ble_eq_true rfl) rfl ?_
  refine r_aload_n dX6_hands_0 rfl ?_
  refine r_cVv dX6_hands_1 (K_mark hm hoc hob) gX6_hands_1 dcX6_markBefore rfl rfl rfl (Nat.le_of_ble_eq_true rfl) ob_tf ?_
  refine r_aload_n dX6_hands_4 rfl ?_
  refine r_aload_n dX6_hands_5 rfl ?_
  refine r_iload_n dX6_hands_6 rfl ?_
  refine r_cVi dX6_hands_7 (K_thands) gX6_hands_7 dcX6_setHands rfl rfl rfl (Nat.le_of_ble_eq_true rfl) ob_tf ?_
  refine r_cVi dX6_hands_10 (K_keep) gX6_hands_10 dcX6_keepChange rfl rfl rfl (Nat.le_of_ble_eq_true rfl) ob_tf ?_
  exact r_ret rfl rfl dX6_hands_13 rfl rfl
theorem dX6_cancel_0 : decode cX6_cancel 0 = .ok (.aload_n 0, 1) := by decide +kernel
theorem dX6_cancel_1 : decode cX6_cancel 1 = .ok (.invokevirtual 47, 3) := by decide +kernel
theorem dX6_cancel_4 : decode cX6_cancel 4 = .ok (.aload_n 0, 1) := by decide +kernel
theorem dX6_cancel_5 : decode cX6_cancel 5 = .ok (.aload_n 0, 1) := by decide +kernel
theorem dX6_cancel_6 : decode cX6_cancel 6 = .ok (.iload_n 1, 1) := by decide +kernel
theorem dX6_cancel_7 : decode cX6_cancel 7 = .ok (.invokevirtual 68, 3) := by decide +kernel
theorem dX6_cancel_10 : decode cX6_cancel 10 = .ok (.invokevirtual 54, 3) := by decide +kernel
theorem dX6_cancel_13 : decode cX6_cancel 13 = .ok (.ireturn, 1) := by decide +kernel
theorem dcX6_cancel : yX6_cancel.cls = RX6 ∧ yX6_cancel.cls ≠ "java/lang/invoke/MethodHandle" ∧ yX6_cancel.cls ≠ "java/lang/invoke/VarHandle" ∧ (parseMethodDescriptor yX6_cancel.desc).map (fun d => d.parameters.length) = some 1 := by decide +kernel
theorem gX6_cancel_1 : GoodIn wsL_law (wsV RX6 47 RX6 yX6_markBefore (.code yX6_markBefore cX6_markBefore 1 none :: wsL_law)) := g_V q123 q124 q125 q2 q126
theorem gX6_cancel_7 : GoodIn wsL_law (wsV RX6 68 RX6 yX6_tellCancel (.code yX6_tellCancel cX6_tellCancel 2 (some .int) :: wsL_law)) := g_V q336 q337 q338 q2 q339
theorem gX6_cancel_10 : GoodIn wsL_law (wsV RX6 54 RX6 yX6_keepChange (.code yX6_keepChange cX6_keepChange 2 (some .int) :: wsL_law)) := g_V q135 q136 q137 q2 q138
set_option maxRecDepth 100000 in
set_option maxHeartbeats 4000000 in
theorem K_cancel {cA : Nat → ClassId} {ad : tA} {ex : va_W} {M : tM} {F P : tP} {x : Int32} (hm : okm F) (hoc : okc P) (hob : okb P) (ho : oke P) (hoh : okh P) (hon : okn P) : Cj yX6_cancel cX6_cancel 2 (some .int) (rmd 6) 0 0 cA ad [.ref (ad 0 0), .int x] ex (mm M F P) (Qe (some (.int (t_cancel F P x).1)) ex (mm (c_mark M F P) (f_keep (t_cancel F P x).2.1 (t_cancel F P x).1) (t_cancel F P x).2.2)) := by
  refine c_of_r (lv0 := [some (.ref (ad 0 0)), some (.int x)]) rfl (by decide +kernel) (Nat.le_of_ble_eq_true rfl) rfl ?_
  refine r_aload_n dX6_cancel_0 rfl ?_
  refine r_cVv dX6_cancel_1 (K_mark hm hoc hob) gX6_cancel_1 dcX6_markBefore rfl rfl rfl (Nat.le_of_ble_eq_true rfl) ob_tf ?_
  refine r_aload_n dX6_cancel_4 rfl ?_
  refine r_aload_n dX6_cancel_5 rfl ?_
  refine r_iload_n dX6_cancel_6 rfl ?_
  refine r_cVi dX6_cancel_7 (K_tcancel hoc ho) gX6_cancel_7 dcX6_tellCancel rfl rfl rfl (Nat.le_of_ble_eq_true rfl) ob_tf ?_
  refine r_cVi dX6_cancel_10 (K_keep) gX6_cancel_10 dcX6_keepChange rfl rfl rfl (Nat.le_of_ble_eq_true rfl) ob_tf ?_
  exact r_ret rfl rfl dX6_cancel_13 rfl rfl
theorem dX6_milestone_0 : decode cX6_milestone 0 = .ok (.aload_n 0, 1) := by decide +kernel
theorem dX6_milestone_1 : decode cX6_milestone 1 = .ok (.invokevirtual 47, 3) := by decide +kernel
theorem dX6_milestone_4 : decode cX6_milestone 4 = .ok (.aload_n 0, 1) := by decide +kernel
theorem dX6_milestone_5 : decode cX6_milestone 5 = .ok (.aload_n 0, 1) := by decide +kernel
theorem dX6_milestone_6 : decode cX6_milestone 6 = .ok (.iload_n 1, 1) := by decide +kernel
theorem dX6_milestone_7 : decode cX6_milestone 7 = .ok (.iload_n 2, 1) := by decide +kernel
theorem dX6_milestone_8 : decode cX6_milestone 8 = .ok (.invokevirtual 71, 3) := by decide +kernel
theorem dX6_milestone_11 : decode cX6_milestone 11 = .ok (.invokevirtual 54, 3) := by decide +kernel
theorem dX6_milestone_14 : decode cX6_milestone 14 = .ok (.ireturn, 1) := by decide +kernel
theorem dcX6_milestone : yX6_milestone.cls = RX6 ∧ yX6_milestone.cls ≠ "java/lang/invoke/MethodHandle" ∧ yX6_milestone.cls ≠ "java/lang/invoke/VarHandle" ∧ (parseMethodDescriptor yX6_milestone.desc).map (fun d => d.parameters.length) = some 2 := by decide +kernel
theorem gX6_milestone_1 : GoodIn wsL_law (wsV RX6 47 RX6 yX6_markBefore (.code yX6_markBefore cX6_markBefore 1 none :: wsL_law)) := g_V q123 q124 q125 q2 q126
theorem gX6_milestone_8 : GoodIn wsL_law (wsV RX6 71 RX6 yX6_tellMilestone (.code yX6_tellMilestone cX6_tellMilestone 4 (some .int) :: wsL_law)) := g_V q348 q349 q350 q2 q351
theorem gX6_milestone_11 : GoodIn wsL_law (wsV RX6 54 RX6 yX6_keepChange (.code yX6_keepChange cX6_keepChange 2 (some .int) :: wsL_law)) := g_V q135 q136 q137 q2 q138
set_option maxRecDepth 100000 in
set_option maxHeartbeats 4000000 in
theorem K_mile {cA : Nat → ClassId} {ad : tA} {ex : va_W} {M : tM} {F P : tP} {s x : Int32} (hm : okm F) (hoc : okc P) (hob : okb P) (ho : oke P) (hoh : okh P) (hon : okn P) : Cj yX6_milestone cX6_milestone 3 (some .int) (rmd 6) 0 0 cA ad [.ref (ad 0 0), .int s, .int x] ex (mm M F P) (Qe (some (.int (t_mile F P s x).1)) ex (mm (c_mark M F P) (f_keep (t_mile F P s x).2.1 (t_mile F P s x).1) (t_mile F P s x).2.2)) := by
  refine c_of_r (lv0 := [some (.ref (ad 0 0)), some (.int s), some (.int x)]) rfl (by decide +kernel) (Nat.le_of_ble_eq_true rfl) rfl ?_
  refine r_aload_n dX6_milestone_0 rfl ?_
  refine r_cVv dX6_milestone_1 (K_mark hm hoc hob) gX6_milestone_1 dcX6_markBefore rfl rfl rfl (Nat.le_of_ble_eq_true rfl) ob_tf ?_
  refine r_aload_n dX6_milestone_4 rfl ?_
  refine r_aload_n dX6_milestone_5 rfl ?_
  refine r_iload_n dX6_milestone_6 rfl ?_
  refine r_iload_n dX6_milestone_7 rfl ?_
  refine r_cVi dX6_milestone_8 (K_tmile hoc hon) gX6_milestone_8 dcX6_tellMilestone rfl rfl rfl (Nat.le_of_ble_eq_true rfl) ob_tf ?_
  refine r_cVi dX6_milestone_11 (K_keep) gX6_milestone_11 dcX6_keepChange rfl rfl rfl (Nat.le_of_ble_eq_true rfl) ob_tf ?_
  exact r_ret rfl rfl dX6_milestone_14 rfl rfl
theorem dX6_days_0 : decode cX6_days 0 = .ok (.aload_n 0, 1) := by decide +kernel
theorem dX6_days_1 : decode cX6_days 1 = .ok (.invokevirtual 47, 3) := by decide +kernel
theorem dX6_days_4 : decode cX6_days 4 = .ok (.aload_n 0, 1) := by decide +kernel
theorem dX6_days_5 : decode cX6_days 5 = .ok (.aload_n 0, 1) := by decide +kernel
theorem dX6_days_6 : decode cX6_days 6 = .ok (.iload_n 1, 1) := by decide +kernel
theorem dX6_days_7 : decode cX6_days 7 = .ok (.invokevirtual 74, 3) := by decide +kernel
theorem dX6_days_10 : decode cX6_days 10 = .ok (.invokevirtual 54, 3) := by decide +kernel
theorem dX6_days_13 : decode cX6_days 13 = .ok (.ireturn, 1) := by decide +kernel
theorem dcX6_days : yX6_days.cls = RX6 ∧ yX6_days.cls ≠ "java/lang/invoke/MethodHandle" ∧ yX6_days.cls ≠ "java/lang/invoke/VarHandle" ∧ (parseMethodDescriptor yX6_days.desc).map (fun d => d.parameters.length) = some 1 := by decide +kernel
theorem gX6_days_1 : GoodIn wsL_law (wsV RX6 47 RX6 yX6_markBefore (.code yX6_markBefore cX6_markBefore 1 none :: wsL_law)) := g_V q123 q124 q125 q2 q126
theorem gX6_days_7 : GoodIn wsL_law (wsV RX6 74 RX6 yX6_letDaysGo (.code yX6_letDaysGo cX6_letDaysGo 4 (some .int) :: wsL_law)) := g_V q358 q359 q360 q2 q361
theorem gX6_days_10 : GoodIn wsL_law (wsV RX6 54 RX6 yX6_keepChange (.code yX6_keepChange cX6_keepChange 2 (some .int) :: wsL_law)) := g_V q135 q136 q137 q2 q138
set_option maxRecDepth 100000 in
set_option maxHeartbeats 4000000 in
theorem K_days {cA : Nat → ClassId} {ad : tA} {ex : va_W} {M : tM} {F P : tP} {x : Int32} (hm : okm F) (hoc : okc P) (hob : okb P) (ho : oke P) (hoh : okh P) (hon : okn P) : Cj yX6_days cX6_days 2 (some .int) (rmd 6) 0 0 cA ad [.ref (ad 0 0), .int x] ex (mm M F P) (Qe (some (.int (t_days F P x).1)) ex (mm (c_mark M F P) (f_keep (t_days F P x).2.1 (t_days F P x).1) (t_days F P x).2.2)) := by
  refine c_of_r (lv0 := [some (.ref (ad 0 0)), some (.int x)]) rfl (by decide +kernel) (Nat.le_of_ble_eq_true rfl) rfl ?_
  refine r_aload_n dX6_days_0 rfl ?_
  refine r_cVv dX6_days_1 (K_mark hm hoc hob) gX6_days_1 dcX6_markBefore rfl rfl rfl (Nat.le_of_ble_eq_true rfl) ob_tf ?_
  refine r_aload_n dX6_days_4 rfl ?_
  refine r_aload_n dX6_days_5 rfl ?_
  refine r_iload_n dX6_days_6 rfl ?_
  refine r_cVi dX6_days_7 (K_tdays hoc ho hoh) gX6_days_7 dcX6_letDaysGo rfl rfl rfl (Nat.le_of_ble_eq_true rfl) ob_tf ?_
  refine r_cVi dX6_days_10 (K_keep) gX6_days_10 dcX6_keepChange rfl rfl rfl (Nat.le_of_ble_eq_true rfl) ob_tf ?_
  exact r_ret rfl rfl dX6_days_13 rfl rfl
def f_app (T : tP) (x : Int32) : Int32 × tP := if x < 32 ∨ 126 < x then (-12, T) else if T 0 1 < 60 then (f_as T (c16 x) 0 1, f_as T (c16 x)) else (-13, T)
theorem a_a {q : Int32 × tP} {x : Int32} {T : tP} (h : q = (x, T)) : x = q.1 := by rw [h]
theorem a_m {M : tM} {F P : tP} {r : Nat} {q : Int32 × tP} {x : Int32} (hr : 2 ≤ r) (h : q = (x, M r)) : mm M F P = mm (m_pl M r q.2) F P := by rw [h, m_pl_self]
theorem lt60 {T : tP} (h1 : T 0 1 = nI (tl T)) (h3 : tl T ≤ 60) (h2 : T 0 1 < 60) : tl T < 60 := by
  rw [h1] at h2
  exact (nI_ltI (b := 60) (by omega) (by omega)).mp h2
theorem dX6_append_0 : decode cX6_append 0 = .ok (.iload_n 1, 1) := by decide +kernel
theorem dX6_append_1 : decode cX6_append 1 = .ok (.bipush 32, 2) := by decide +kernel
theorem dX6_append_3 : decode cX6_append 3 = .ok (.if_icmp .lt 9, 3) := by decide +kernel
theorem dX6_append_6 : decode cX6_append 6 = .ok (.iload_n 1, 1) := by decide +kernel
theorem dX6_append_7 : decode cX6_append 7 = .ok (.bipush 126, 2) := by decide +kernel
theorem dX6_append_9 : decode cX6_append 9 = .ok (.if_icmp .le 6, 3) := by decide +kernel
theorem dX6_append_12 : decode cX6_append 12 = .ok (.bipush (-12), 2) := by decide +kernel
theorem dX6_append_14 : decode cX6_append 14 = .ok (.ireturn, 1) := by decide +kernel
theorem dX6_append_15 : decode cX6_append 15 = .ok (.aload_n 0, 1) := by decide +kernel
theorem dX6_append_16 : decode cX6_append 16 = .ok (.getfield 29, 3) := by decide +kernel
theorem dX6_append_19 : decode cX6_append 19 = .ok (.getfield 176, 3) := by decide +kernel
theorem dX6_append_22 : decode cX6_append 22 = .ok (.bipush 60, 2) := by decide +kernel
theorem dX6_append_24 : decode cX6_append 24 = .ok (.if_icmp .lt 6, 3) := by decide +kernel
theorem dX6_append_27 : decode cX6_append 27 = .ok (.bipush (-13), 2) := by decide +kernel
theorem dX6_append_29 : decode cX6_append 29 = .ok (.ireturn, 1) := by decide +kernel
theorem dX6_append_30 : decode cX6_append 30 = .ok (.aload_n 0, 1) := by decide +kernel
theorem dX6_append_31 : decode cX6_append 31 = .ok (.getfield 29, 3) := by decide +kernel
theorem dX6_append_34 : decode cX6_append 34 = .ok (.iload_n 1, 1) := by decide +kernel
theorem dX6_append_35 : decode cX6_append 35 = .ok (.i2c, 1) := by decide +kernel
theorem dX6_append_36 : decode cX6_append 36 = .ok (.invokevirtual 179, 3) := by decide +kernel
theorem dX6_append_39 : decode cX6_append 39 = .ok (.aload_n 0, 1) := by decide +kernel
theorem dX6_append_40 : decode cX6_append 40 = .ok (.getfield 29, 3) := by decide +kernel
theorem dX6_append_43 : decode cX6_append 43 = .ok (.getfield 176, 3) := by decide +kernel
theorem dX6_append_46 : decode cX6_append 46 = .ok (.ireturn, 1) := by decide +kernel
theorem dcX6_append : yX6_append.cls = RX6 ∧ yX6_append.cls ≠ "java/lang/invoke/MethodHandle" ∧ yX6_append.cls ≠ "java/lang/invoke/VarHandle" ∧ (parseMethodDescriptor yX6_append.desc).map (fun d => d.parameters.length) = some 1 := by decide +kernel
theorem gX6_append_36 : GoodIn wsL_law (wsV RX6 179 RX3 yX3_addSign (.code yX3_addSign cX3_addSign 2 none :: wsL_law)) := g_V q144 q145 q146 q23 q147
set_option maxRecDepth 100000 in
set_option maxHeartbeats 4000000 in
theorem K_app {cA : Nat → ClassId} {ad : tA} {ex : va_W} {M : tM} {F P : tP} {x : Int32} (hl1 : M 13 0 1 = nI (tl (M 13))) (hl2 : tl (M 13) ≤ 60) : Cj yX6_append cX6_append 2 (some .int) (rmd 1) 0 0 cA ad [.ref (ad 0 0), .int x] ex (mm M F P) (Qe (some (.int (f_app (M 13) x).1)) ex (mm (m_pl M 13 (f_app (M 13) x).2) F P)) := by
  refine c_of_r (lv0 := [some (.ref (ad 0 0)), some (.int x)]) rfl (by decide +kernel) (Nat.le_of_ble_eq_true rfl) rfl ?_
  refine r_iload_n dX6_append_0 rfl ?_
  refine r_bipush (v := 32) dX6_append_1 (by decide) ?_
  refine r_icmp_lt (tgt := 12) dX6_append_3 (by decide) (fun c3 => ?_) (fun c3 => ?_)
  · refine r_bipush (v := -12) dX6_append_12 (by decide) ?_
    first | exact r_ret rfl rfl dX6_append_14 (a_a (show f_app (M 13) x = _ from if_pos (Or.inl c3))) (a_m (by omega) (show f_app (M 13) x = _ from if_pos (Or.inl c3))) | exact r_ret rfl rfl dX6_append_14 (a_a (show f_app (M 13) x = _ from if_pos (Or.inr (Int32.not_le.mp c9)))) (a_m (by omega) (show f_app (M 13) x = _ from if_pos (Or.inr (Int32.not_le.mp c9))))
  · refine r_iload_n dX6_append_6 rfl ?_
    refine r_bipush (v := 126) dX6_append_7 (by decide) ?_
    refine r_icmp_le (tgt := 15) dX6_append_9 (by decide) (fun c9 => ?_) (fun c9 => ?_)
    · refine r_aload_n dX6_append_15 rfl ?_
      refine r_getF 7 (by decide) q24 rfl dX6_append_16 ?_
      refine r_getm_ot 1 (by decide) q143 rfl dX6_append_19 ?_
      refine r_bipush (v := 60) dX6_append_22 (by decide) ?_
      refine r_icmp_lt (tgt := 30) dX6_append_24 (by decide) (fun c24 => ?_) (fun c24 => ?_)
      · refine r_aload_n dX6_append_30 rfl ?_
        refine r_getF 7 (by decide) q24 rfl dX6_append_31 ?_
        refine r_iload_n dX6_append_34 rfl ?_
        refine r_i2c dX6_append_35 rfl ?_
        refine r_cVv dX6_append_36 (cmm (by omega) rfl (K_as c16_x hl1 (lt60 hl1 hl2 c24))) gX6_append_36 dcX3_addSign rfl rfl rfl (Nat.le_of_ble_eq_true rfl) ob_ot ?_
        refine r_aload_n dX6_append_39 rfl ?_
        refine r_getF 7 (by decide) q24 rfl dX6_append_40 ?_
        refine r_getm_ot 1 (by decide) q143 rfl dX6_append_43 ?_
        exact r_ret rfl rfl dX6_append_46 (a_a (show f_app (M 13) x = _ from (if_neg (n2 c3 (Int32.not_lt.mpr c9))).trans (if_pos c24))) (by rw [show f_app (M 13) x = _ from (if_neg (n2 c3 (Int32.not_lt.mpr c9))).trans (if_pos c24)])
      · refine r_bipush (v := -13) dX6_append_27 (by decide) ?_
        exact r_ret rfl rfl dX6_append_29 (a_a (show f_app (M 13) x = _ from (if_neg (n2 c3 (Int32.not_lt.mpr c9))).trans (if_neg c24))) (a_m (by omega) (show f_app (M 13) x = _ from (if_neg (n2 c3 (Int32.not_lt.mpr c9))).trans (if_neg c24)))
    · refine r_bipush (v := -12) dX6_append_12 (by decide) ?_
      first | exact r_ret rfl rfl dX6_append_14 (a_a (show f_app (M 13) x = _ from if_pos (Or.inl c3))) (a_m (by omega) (show f_app (M 13) x = _ from if_pos (Or.inl c3))) | exact r_ret rfl rfl dX6_append_14 (a_a (show f_app (M 13) x = _ from if_pos (Or.inr (Int32.not_le.mp c9)))) (a_m (by omega) (show f_app (M 13) x = _ from if_pos (Or.inr (Int32.not_le.mp c9))))
def f_un1 (F : tP) : tP := pu F 0 5 ((F 0 5 + 9 - 1) - (F 0 5 + 9 - 1) / 9 * 9)
theorem un_ix {x : Int32} {e : Nat} (h : x = nI e) (h2 : e < 9) : (x + 9 - 1) - (x + 9 - 1) / 9 * 9 = nI ((e + 8) % 9) := by
  subst h
  rw [show nI e + 9 - 1 = nI (e + 8) from by rw [show nI e + 9 = nI (e + 9) from nI_add e 9]; exact nI_pred (e + 8)]
  exact pk_rem (d := 9) (by omega) (by omega) (by omega)
theorem un_km {F : tP} (h : okm F) : okm (f_un1 F) ∧ km (f_un1 F) = (km F + 8) % 9 := by
  have e : f_un1 F 0 5 = nI ((km F + 8) % 9) := by rw [f_un1, pu_s]; exact un_ix h.1 h.2
  have hlt : (km F + 8) % 9 < 9 := Nat.mod_lt _ (by omega)
  have e2 : km (f_un1 F) = (km F + 8) % 9 := by rw [km, e]; exact nI_clamp (by omega)
  exact ⟨⟨by rw [e2]; exact e, by rw [e2]; exact hlt⟩, e2⟩
def t_undo (M : tM) (F P : tP) : TX := if F 0 6 = 0 then (-15, F, P) else (f_un1 F 0 6 - 1, pu (f_un1 F) 0 6 (f_un1 F 0 6 - 1), f_copy P (M (4 + km (f_un1 F))))
def t_restore (M : tM) (F P : tP) : TX := if F 0 3 = 0 then (-15, F, P) else (f_copy P (M 3) 0 7, pu F 0 6 0, f_copy P (M 3))
def f_reason (F : tP) (x : Int32) : Int32 := if F 0 10 = 0 then -15 else if x = 0 then F 0 11 else F 0 12
theorem dX6_undo_0 : decode cX6_undo 0 = .ok (.aload_n 0, 1) := by decide +kernel
theorem dX6_undo_1 : decode cX6_undo 1 = .ok (.getfield 247, 3) := by decide +kernel
theorem dX6_undo_4 : decode cX6_undo 4 = .ok (.ifCond .ne 6, 3) := by decide +kernel
theorem dX6_undo_7 : decode cX6_undo 7 = .ok (.bipush (-15), 2) := by decide +kernel
theorem dX6_undo_9 : decode cX6_undo 9 = .ok (.ireturn, 1) := by decide +kernel
theorem dX6_undo_10 : decode cX6_undo 10 = .ok (.aload_n 0, 1) := by decide +kernel
theorem dX6_undo_11 : decode cX6_undo 11 = .ok (.aload_n 0, 1) := by decide +kernel
theorem dX6_undo_12 : decode cX6_undo 12 = .ok (.getfield 198, 3) := by decide +kernel
theorem dX6_undo_15 : decode cX6_undo 15 = .ok (.bipush 9, 2) := by decide +kernel
theorem dX6_undo_17 : decode cX6_undo 17 = .ok (.iadd, 1) := by decide +kernel
theorem dX6_undo_18 : decode cX6_undo 18 = .ok (.iconst 1, 1) := by decide +kernel
theorem dX6_undo_19 : decode cX6_undo 19 = .ok (.isub, 1) := by decide +kernel
theorem dX6_undo_20 : decode cX6_undo 20 = .ok (.bipush 9, 2) := by decide +kernel
theorem dX6_undo_22 : decode cX6_undo 22 = .ok (.irem, 1) := by decide +kernel
theorem dX6_undo_23 : decode cX6_undo 23 = .ok (.putfield 198, 3) := by decide +kernel
theorem dX6_undo_26 : decode cX6_undo 26 = .ok (.aload_n 0, 1) := by decide +kernel
theorem dX6_undo_27 : decode cX6_undo 27 = .ok (.getfield 12, 3) := by decide +kernel
theorem dX6_undo_30 : decode cX6_undo 30 = .ok (.aload_n 0, 1) := by decide +kernel
theorem dX6_undo_31 : decode cX6_undo 31 = .ok (.getfield 22, 3) := by decide +kernel
theorem dX6_undo_34 : decode cX6_undo 34 = .ok (.aload_n 0, 1) := by decide +kernel
theorem dX6_undo_35 : decode cX6_undo 35 = .ok (.getfield 198, 3) := by decide +kernel
theorem dX6_undo_38 : decode cX6_undo 38 = .ok (.aaload, 1) := by decide +kernel
theorem dX6_undo_39 : decode cX6_undo 39 = .ok (.invokevirtual 139, 3) := by decide +kernel
theorem dX6_undo_42 : decode cX6_undo 42 = .ok (.aload_n 0, 1) := by decide +kernel
theorem dX6_undo_43 : decode cX6_undo 43 = .ok (.dup, 1) := by decide +kernel
theorem dX6_undo_44 : decode cX6_undo 44 = .ok (.getfield 247, 3) := by decide +kernel
theorem dX6_undo_47 : decode cX6_undo 47 = .ok (.iconst 1, 1) := by decide +kernel
theorem dX6_undo_48 : decode cX6_undo 48 = .ok (.isub, 1) := by decide +kernel
theorem dX6_undo_49 : decode cX6_undo 49 = .ok (.putfield 247, 3) := by decide +kernel
theorem dX6_undo_52 : decode cX6_undo 52 = .ok (.aload_n 0, 1) := by decide +kernel
theorem dX6_undo_53 : decode cX6_undo 53 = .ok (.getfield 247, 3) := by decide +kernel
theorem dX6_undo_56 : decode cX6_undo 56 = .ok (.ireturn, 1) := by decide +kernel
theorem dcX6_undo : yX6_undo.cls = RX6 ∧ yX6_undo.cls ≠ "java/lang/invoke/MethodHandle" ∧ yX6_undo.cls ≠ "java/lang/invoke/VarHandle" ∧ (parseMethodDescriptor yX6_undo.desc).map (fun d => d.parameters.length) = some 0 := by decide +kernel
theorem gX6_undo_39 : GoodIn wsL_law (wsV RX6 139 RX4 yX4_copyFrom (.code yX4_copyFrom cX4_copyFrom 3 none :: wsL_law)) := g_V q76 q77 q78 q16 q79
set_option maxRecDepth 100000 in
set_option maxHeartbeats 4000000 in
theorem K_undo {cA : Nat → ClassId} {ad : tA} {ex : va_W} {M : tM} {F P : tP} (hm : okm F) (hq : ∀ k, k < 9 → okc (M (4 + k)) ∧ okb (M (4 + k))) : Cj yX6_undo cX6_undo 1 (some .int) (rmd 2) 0 0 cA ad [.ref (ad 0 0)] ex (mm M F P) (Qe (some (.int (t_undo M F P).1)) ex (mm M (t_undo M F P).2.1 (t_undo M F P).2.2)) := by
  refine c_of_r (lv0 := [some (.ref (ad 0 0))]) rfl (by decide +kernel) (Nat.le_of_ble_eq_true rfl) rfl ?_
  have hu := (un_km hm).1
  refine r_aload_n dX6_undo_0 rfl ?_
  refine r_getF 6 (by decide) q74 rfl dX6_undo_1 ?_
  refine r_if_ne (tgt := 10) dX6_undo_4 (by decide) (fun c4 => ?_) (fun c4 => ?_)
  · refine r_aload_n dX6_undo_10 rfl ?_
    refine r_aload_n dX6_undo_11 rfl ?_
    refine r_getF 5 (by decide) q75 rfl dX6_undo_12 ?_
    refine r_bipush (v := 9) dX6_undo_15 (by decide) ?_
    refine r_iadd dX6_undo_17 ?_
    refine r_iconst (v := 1) dX6_undo_18 (by decide) ?_
    refine r_isub dX6_undo_19 ?_
    refine r_bipush (v := 9) dX6_undo_20 (by decide) ?_
    refine r_irem dX6_undo_22 (by decide) ?_
    refine r_putF 5 (by decide) q75 rfl rfl rfl rfl rfl dX6_undo_23 ?_
    refine r_aload_n dX6_undo_26 rfl ?_
    refine r_getF 0 (by decide) q17 rfl dX6_undo_27 ?_
    refine r_aload_n dX6_undo_30 rfl ?_
    refine r_getF 4 (by decide) q20 rfl dX6_undo_31 ?_
    refine r_aload_n dX6_undo_34 rfl ?_
    refine r_getF 5 (by decide) q75 rfl dX6_undo_35 ?_
    refine r_ald_marks hu.1 hu.2 dX6_undo_38 ?_
    refine r_cVv dX6_undo_39 (KC_to (isk hu.2) (by omega) (hq _ hu.2).1 (hq _ hu.2).2) gX6_undo_39 dcX4_copyFrom rfl rfl rfl (Nat.le_of_ble_eq_true rfl) (ob_pl is1) ?_
    refine r_aload_n dX6_undo_42 rfl ?_
    refine r_dup dX6_undo_43 rfl ?_
    refine r_getF 6 (by decide) q74 rfl dX6_undo_44 ?_
    refine r_iconst (v := 1) dX6_undo_47 (by decide) ?_
    refine r_isub dX6_undo_48 ?_
    refine r_putF 6 (by decide) q74 rfl rfl rfl rfl rfl dX6_undo_49 ?_
    refine r_aload_n dX6_undo_52 rfl ?_
    refine r_getF 6 (by decide) q74 rfl dX6_undo_53 ?_
    exact r_ret rfl rfl dX6_undo_56 (by rw [pu_s]; exact t_a (show t_undo M F P = _ from if_neg c4)) (t_m (show t_undo M F P = _ from if_neg c4))
  · refine r_bipush (v := -15) dX6_undo_7 (by decide) ?_
    first | exact r_ret rfl rfl dX6_undo_9 (t_a (show t_undo M F P = _ from if_pos c4)) (t_m (show t_undo M F P = _ from if_pos c4))
theorem dX6_save_0 : decode cX6_save 0 = .ok (.aload_n 0, 1) := by decide +kernel
theorem dX6_save_1 : decode cX6_save 1 = .ok (.getfield 19, 3) := by decide +kernel
theorem dX6_save_4 : decode cX6_save 4 = .ok (.aload_n 0, 1) := by decide +kernel
theorem dX6_save_5 : decode cX6_save 5 = .ok (.getfield 12, 3) := by decide +kernel
theorem dX6_save_8 : decode cX6_save 8 = .ok (.invokevirtual 139, 3) := by decide +kernel
theorem dX6_save_11 : decode cX6_save 11 = .ok (.aload_n 0, 1) := by decide +kernel
theorem dX6_save_12 : decode cX6_save 12 = .ok (.iconst 1, 1) := by decide +kernel
theorem dX6_save_13 : decode cX6_save 13 = .ok (.putfield 250, 3) := by decide +kernel
theorem dX6_save_16 : decode cX6_save 16 = .ok (.aload_n 0, 1) := by decide +kernel
theorem dX6_save_17 : decode cX6_save 17 = .ok (.getfield 12, 3) := by decide +kernel
theorem dX6_save_20 : decode cX6_save 20 = .ok (.getfield 226, 3) := by decide +kernel
theorem dX6_save_23 : decode cX6_save 23 = .ok (.ireturn, 1) := by decide +kernel
theorem dcX6_save : yX6_save.cls = RX6 ∧ yX6_save.cls ≠ "java/lang/invoke/MethodHandle" ∧ yX6_save.cls ≠ "java/lang/invoke/VarHandle" ∧ (parseMethodDescriptor yX6_save.desc).map (fun d => d.parameters.length) = some 0 := by decide +kernel
theorem gX6_save_8 : GoodIn wsL_law (wsV RX6 139 RX4 yX4_copyFrom (.code yX4_copyFrom cX4_copyFrom 3 none :: wsL_law)) := g_V q76 q77 q78 q16 q79
set_option maxRecDepth 100000 in
set_option maxHeartbeats 4000000 in
theorem K_save {cA : Nat → ClassId} {ad : tA} {ex : va_W} {M : tM} {F P : tP} (hoc : okc P) (hob : okb P) : Cj yX6_save cX6_save 1 (some .int) (rmd 2) 0 0 cA ad [.ref (ad 0 0)] ex (mm M F P) (Qe (some (.int (P 0 7))) ex (mm (m_pl M 3 (f_copy (M 3) P)) (pu F 0 3 1) P)) := by
  refine c_of_r (lv0 := [some (.ref (ad 0 0))]) rfl (by decide +kernel) (Nat.le_of_ble_eq_true rfl) rfl ?_
  refine r_aload_n dX6_save_0 rfl ?_
  refine r_getF 2 (by decide) q19 rfl dX6_save_1 ?_
  refine r_aload_n dX6_save_4 rfl ?_
  refine r_getF 0 (by decide) q17 rfl dX6_save_5 ?_
  refine r_cVv dX6_save_8 (KC_from is3 (by omega) hoc hob) gX6_save_8 dcX4_copyFrom rfl rfl rfl (Nat.le_of_ble_eq_true rfl) (ob_pl is3) ?_
  refine r_aload_n dX6_save_11 rfl ?_
  refine r_iconst (v := 1) dX6_save_12 (by decide) ?_
  refine r_putF 3 (by decide) q113 rfl rfl (by decide) (by decide) rfl dX6_save_13 ?_
  refine r_aload_n dX6_save_16 rfl ?_
  refine r_getF 0 (by decide) q17 rfl dX6_save_17 ?_
  refine r_getp_pl is1 7 (by decide) q114 rfl dX6_save_20 ?_
  exact r_ret rfl rfl dX6_save_23 rfl rfl
theorem dX6_restore_0 : decode cX6_restore 0 = .ok (.aload_n 0, 1) := by decide +kernel
theorem dX6_restore_1 : decode cX6_restore 1 = .ok (.getfield 250, 3) := by decide +kernel
theorem dX6_restore_4 : decode cX6_restore 4 = .ok (.ifCond .ne 6, 3) := by decide +kernel
theorem dX6_restore_7 : decode cX6_restore 7 = .ok (.bipush (-15), 2) := by decide +kernel
theorem dX6_restore_9 : decode cX6_restore 9 = .ok (.ireturn, 1) := by decide +kernel
theorem dX6_restore_10 : decode cX6_restore 10 = .ok (.aload_n 0, 1) := by decide +kernel
theorem dX6_restore_11 : decode cX6_restore 11 = .ok (.getfield 12, 3) := by decide +kernel
theorem dX6_restore_14 : decode cX6_restore 14 = .ok (.aload_n 0, 1) := by decide +kernel
theorem dX6_restore_15 : decode cX6_restore 15 = .ok (.getfield 19, 3) := by decide +kernel
theorem dX6_restore_18 : decode cX6_restore 18 = .ok (.invokevirtual 139, 3) := by decide +kernel
theorem dX6_restore_21 : decode cX6_restore 21 = .ok (.aload_n 0, 1) := by decide +kernel
theorem dX6_restore_22 : decode cX6_restore 22 = .ok (.iconst 0, 1) := by decide +kernel
theorem dX6_restore_23 : decode cX6_restore 23 = .ok (.putfield 247, 3) := by decide +kernel
theorem dX6_restore_26 : decode cX6_restore 26 = .ok (.aload_n 0, 1) := by decide +kernel
theorem dX6_restore_27 : decode cX6_restore 27 = .ok (.getfield 12, 3) := by decide +kernel
theorem dX6_restore_30 : decode cX6_restore 30 = .ok (.getfield 226, 3) := by decide +kernel
theorem dX6_restore_33 : decode cX6_restore 33 = .ok (.ireturn, 1) := by decide +kernel
theorem dcX6_restore : yX6_restore.cls = RX6 ∧ yX6_restore.cls ≠ "java/lang/invoke/MethodHandle" ∧ yX6_restore.cls ≠ "java/lang/invoke/VarHandle" ∧ (parseMethodDescriptor yX6_restore.desc).map (fun d => d.parameters.length) = some 0 := by decide +kernel
theorem gX6_restore_18 : GoodIn wsL_law (wsV RX6 139 RX4 yX4_copyFrom (.code yX4_copyFrom cX4_copyFrom 3 none :: wsL_law)) := g_V q76 q77 q78 q16 q79
set_option maxRecDepth 100000 in
set_option maxHeartbeats 4000000 in
theorem K_restore {cA : Nat → ClassId} {ad : tA} {ex : va_W} {M : tM} {F P : tP} (hs1 : okc (M 3)) (hs2 : okb (M 3)) : Cj yX6_restore cX6_restore 1 (some .int) (rmd 2) 0 0 cA ad [.ref (ad 0 0)] ex (mm M F P) (Qe (some (.int (t_restore M F P).1)) ex (mm M (t_restore M F P).2.1 (t_restore M F P).2.2)) := by
  refine c_of_r (lv0 := [some (.ref (ad 0 0))]) rfl (by decide +kernel) (Nat.le_of_ble_eq_true rfl) rfl ?_
  refine r_aload_n dX6_restore_0 rfl ?_
  refine r_getF 3 (by decide) q113 rfl dX6_restore_1 ?_
  refine r_if_ne (tgt := 10) dX6_restore_4 (by decide) (fun c4 => ?_) (fun c4 => ?_)
  · refine r_aload_n dX6_restore_10 rfl ?_
    refine r_getF 0 (by decide) q17 rfl dX6_restore_11 ?_
    refine r_aload_n dX6_restore_14 rfl ?_
    refine r_getF 2 (by decide) q19 rfl dX6_restore_15 ?_
    refine r_cVv dX6_restore_18 (KC_to is3 (by omega) hs1 hs2) gX6_restore_18 dcX4_copyFrom rfl rfl rfl (Nat.le_of_ble_eq_true rfl) (ob_pl is1) ?_
    refine r_aload_n dX6_restore_21 rfl ?_
    refine r_iconst (v := 0) dX6_restore_22 (by decide) ?_
    refine r_putF 6 (by decide) q74 rfl rfl rfl rfl rfl dX6_restore_23 ?_
    refine r_aload_n dX6_restore_26 rfl ?_
    refine r_getF 0 (by decide) q17 rfl dX6_restore_27 ?_
    refine r_getp_pl is1 7 (by decide) q114 rfl dX6_restore_30 ?_
    first | exact r_ret rfl rfl dX6_restore_33 (t_a (show t_restore M F P = _ from if_neg c4)) (t_m (show t_restore M F P = _ from if_neg c4))
  · refine r_bipush (v := -15) dX6_restore_7 (by decide) ?_
    first | exact r_ret rfl rfl dX6_restore_9 (t_a (show t_restore M F P = _ from if_pos c4)) (t_m (show t_restore M F P = _ from if_pos c4))
theorem dX6_reason_0 : decode cX6_reason 0 = .ok (.aload_n 0, 1) := by decide +kernel
theorem dX6_reason_1 : decode cX6_reason 1 = .ok (.getfield 217, 3) := by decide +kernel
theorem dX6_reason_4 : decode cX6_reason 4 = .ok (.ifCond .ne 6, 3) := by decide +kernel
theorem dX6_reason_7 : decode cX6_reason 7 = .ok (.bipush (-15), 2) := by decide +kernel
theorem dX6_reason_9 : decode cX6_reason 9 = .ok (.ireturn, 1) := by decide +kernel
theorem dX6_reason_10 : decode cX6_reason 10 = .ok (.iload_n 1, 1) := by decide +kernel
theorem dX6_reason_11 : decode cX6_reason 11 = .ok (.ifCond .eq 10, 3) := by decide +kernel
theorem dX6_reason_14 : decode cX6_reason 14 = .ok (.aload_n 0, 1) := by decide +kernel
theorem dX6_reason_15 : decode cX6_reason 15 = .ok (.getfield 220, 3) := by decide +kernel
theorem dX6_reason_18 : decode cX6_reason 18 = .ok (.goto 7, 3) := by decide +kernel
theorem dX6_reason_21 : decode cX6_reason 21 = .ok (.aload_n 0, 1) := by decide +kernel
theorem dX6_reason_22 : decode cX6_reason 22 = .ok (.getfield 223, 3) := by decide +kernel
theorem dX6_reason_25 : decode cX6_reason 25 = .ok (.ireturn, 1) := by decide +kernel
theorem dcX6_reason : yX6_reason.cls = RX6 ∧ yX6_reason.cls ≠ "java/lang/invoke/MethodHandle" ∧ yX6_reason.cls ≠ "java/lang/invoke/VarHandle" ∧ (parseMethodDescriptor yX6_reason.desc).map (fun d => d.parameters.length) = some 1 := by decide +kernel
set_option maxRecDepth 100000 in
set_option maxHeartbeats 4000000 in
theorem K_reason {cA : Nat → ClassId} {ad : tA} {ex : va_W} {M : tM} {F P : tP} {x : Int32} : Cj yX6_reason cX6_reason 2 (some .int) (rmd 0) 0 0 cA ad [.ref (ad 0 0), .int x] ex (mm M F P) (Qe (some (.int (f_reason F x))) ex (mm M F P)) := by
  refine c_of_r (lv0 := [some (.ref (ad 0 0)), some (.int x)]) rfl (by decide +kernel) (Nat.le_of_ble_eq_true rfl) rfl ?_
  refine r_aload_n dX6_reason_0 rfl ?_
  refine r_getF 10 (by decide) q290 rfl dX6_reason_1 ?_
  refine r_if_ne (tgt := 10) dX6_reason_4 (by decide) (fun c4 => ?_) (fun c4 => ?_)
  · refine r_iload_n dX6_reason_10 rfl ?_
    refine r_if_eq (tgt := 21) dX6_reason_11 (by decide) (fun c11 => ?_) (fun c11 => ?_)
    · refine r_aload_n dX6_reason_21 rfl ?_
      refine r_getF 11 (by decide) q291 rfl dX6_reason_22 ?_
      first | exact r_ret rfl rfl dX6_reason_25 (show _ = f_reason F x from ((if_neg c4).trans (if_pos c11)).symm) rfl | exact r_ret rfl rfl dX6_reason_25 (show _ = f_reason F x from ((if_neg c4).trans (if_neg c11)).symm) rfl
    · refine r_aload_n dX6_reason_14 rfl ?_
      refine r_getF 12 (by decide) q292 rfl dX6_reason_15 ?_
      refine r_goto (tgt := 25) dX6_reason_18 (by decide) ?_
      first | exact r_ret rfl rfl dX6_reason_25 (show _ = f_reason F x from ((if_neg c4).trans (if_pos c11)).symm) rfl | exact r_ret rfl rfl dX6_reason_25 (show _ = f_reason F x from ((if_neg c4).trans (if_neg c11)).symm) rfl
  · refine r_bipush (v := -15) dX6_reason_7 (by decide) ?_
    exact r_ret rfl rfl dX6_reason_9 (show _ = f_reason F x from (if_pos c4).symm) rfl

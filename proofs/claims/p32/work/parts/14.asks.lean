/-! PART 14: the queries -/
def f_stp (w : Nat → Int32) (x : Int32) : Int32 :=
  if x = 0 then w 0 else if x = 1 then w 1 else if x = 2 then w 2 else if x = 3 then (if w 3 = 0 then 0 else 1) else if x = 4 then w 6 else if x = 5 then w 7 else if x = 6 then w 8
  else if x = 7 then w 9 else if x = 8 then w 10 else if x = 9 then w 4 else -12
def f_stepOf (P : tP) (s x : Int32) : Int32 := if f_hasStep P s = false then -11 else f_stp (P (4 + s.toNatClampNeg)) x
theorem stp_no {w : Nat → Int32} {x : Int32} (h : x ≠ 0 ∧ x ≠ 1 ∧ x ≠ 2 ∧ x ≠ 3 ∧ x ≠ 4 ∧ x ≠ 5 ∧ x ≠ 6 ∧ x ≠ 7 ∧ x ≠ 8 ∧ x ≠ 9) : f_stp w x = -12 := by
  unfold f_stp
  obtain ⟨h0, h1, h2, h3, h4, h5, h6, h7, h8, h9⟩ := h
  rw [if_neg h0, if_neg h1, if_neg h2, if_neg h3, if_neg h4, if_neg h5, if_neg h6, if_neg h7, if_neg h8, if_neg h9]
theorem ne10_lo {x : Int32} (h : x.toInt < 0) : x ≠ 0 ∧ x ≠ 1 ∧ x ≠ 2 ∧ x ≠ 3 ∧ x ≠ 4 ∧ x ≠ 5 ∧ x ≠ 6 ∧ x ≠ 7 ∧ x ≠ 8 ∧ x ≠ 9 := by
  refine ⟨?_, ?_, ?_, ?_, ?_, ?_, ?_, ?_, ?_, ?_⟩ <;> (intro e; rw [e] at h; revert h; decide)
theorem ne10_hi {x : Int32} (h : 9 < x.toInt) : x ≠ 0 ∧ x ≠ 1 ∧ x ≠ 2 ∧ x ≠ 3 ∧ x ≠ 4 ∧ x ≠ 5 ∧ x ≠ 6 ∧ x ≠ 7 ∧ x ≠ 8 ∧ x ≠ 9 := by
  refine ⟨?_, ?_, ?_, ?_, ?_, ?_, ?_, ?_, ?_, ?_⟩ <;> (intro e; rw [e] at h; revert h; decide)
def ms (P : tP) (k : Nat) : Nat := (P 2 k).toNatClampNeg
def okM (P : tP) : Prop := ∀ k, k < mn P → P 2 k = nI (ms P k) ∧ ms P k < 12
theorem dX6_stepOf_0 : decode cX6_stepOf 0 = .ok (.aload_n 0, 1) := by decide +kernel
theorem dX6_stepOf_1 : decode cX6_stepOf 1 = .ok (.getfield 12, 3) := by decide +kernel
theorem dX6_stepOf_4 : decode cX6_stepOf 4 = .ok (.iload_n 1, 1) := by decide +kernel
theorem dX6_stepOf_5 : decode cX6_stepOf 5 = .ok (.invokevirtual 77, 3) := by decide +kernel
theorem dX6_stepOf_8 : decode cX6_stepOf 8 = .ok (.ifCond .ne 6, 3) := by decide +kernel
theorem dX6_stepOf_11 : decode cX6_stepOf 11 = .ok (.bipush (-11), 2) := by decide +kernel
theorem dX6_stepOf_13 : decode cX6_stepOf 13 = .ok (.ireturn, 1) := by decide +kernel
theorem dX6_stepOf_14 : decode cX6_stepOf 14 = .ok (.aload_n 0, 1) := by decide +kernel
theorem dX6_stepOf_15 : decode cX6_stepOf 15 = .ok (.getfield 12, 3) := by decide +kernel
theorem dX6_stepOf_18 : decode cX6_stepOf 18 = .ok (.getfield 81, 3) := by decide +kernel
theorem dX6_stepOf_21 : decode cX6_stepOf 21 = .ok (.iload_n 1, 1) := by decide +kernel
theorem dX6_stepOf_22 : decode cX6_stepOf 22 = .ok (.aaload, 1) := by decide +kernel
theorem dX6_stepOf_23 : decode cX6_stepOf 23 = .ok (.astore_n 3, 1) := by decide +kernel
theorem dX6_stepOf_24 : decode cX6_stepOf 24 = .ok (.iload_n 2, 1) := by decide +kernel
theorem dX6_stepOf_25 : decode cX6_stepOf 25 = .ok (.tableswitch 113 0 9 #[55, 60, 65, 70, 83, 88, 93, 98, 103, 108], 55) := by decide +kernel
theorem dX6_stepOf_80 : decode cX6_stepOf 80 = .ok (.aload_n 3, 1) := by decide +kernel
theorem dX6_stepOf_81 : decode cX6_stepOf 81 = .ok (.getfield 85, 3) := by decide +kernel
theorem dX6_stepOf_84 : decode cX6_stepOf 84 = .ok (.ireturn, 1) := by decide +kernel
theorem dX6_stepOf_85 : decode cX6_stepOf 85 = .ok (.aload_n 3, 1) := by decide +kernel
theorem dX6_stepOf_86 : decode cX6_stepOf 86 = .ok (.getfield 91, 3) := by decide +kernel
theorem dX6_stepOf_89 : decode cX6_stepOf 89 = .ok (.ireturn, 1) := by decide +kernel
theorem dX6_stepOf_90 : decode cX6_stepOf 90 = .ok (.aload_n 3, 1) := by decide +kernel
theorem dX6_stepOf_91 : decode cX6_stepOf 91 = .ok (.getfield 94, 3) := by decide +kernel
theorem dX6_stepOf_94 : decode cX6_stepOf 94 = .ok (.ireturn, 1) := by decide +kernel
theorem dX6_stepOf_95 : decode cX6_stepOf 95 = .ok (.aload_n 3, 1) := by decide +kernel
theorem dX6_stepOf_96 : decode cX6_stepOf 96 = .ok (.getfield 97, 3) := by decide +kernel
theorem dX6_stepOf_99 : decode cX6_stepOf 99 = .ok (.ifCond .eq 7, 3) := by decide +kernel
theorem dX6_stepOf_102 : decode cX6_stepOf 102 = .ok (.iconst 1, 1) := by decide +kernel
theorem dX6_stepOf_103 : decode cX6_stepOf 103 = .ok (.goto 4, 3) := by decide +kernel
theorem dX6_stepOf_106 : decode cX6_stepOf 106 = .ok (.iconst 0, 1) := by decide +kernel
theorem dX6_stepOf_107 : decode cX6_stepOf 107 = .ok (.ireturn, 1) := by decide +kernel
theorem dX6_stepOf_108 : decode cX6_stepOf 108 = .ok (.aload_n 3, 1) := by decide +kernel
theorem dX6_stepOf_109 : decode cX6_stepOf 109 = .ok (.getfield 101, 3) := by decide +kernel
theorem dX6_stepOf_112 : decode cX6_stepOf 112 = .ok (.ireturn, 1) := by decide +kernel
theorem dX6_stepOf_113 : decode cX6_stepOf 113 = .ok (.aload_n 3, 1) := by decide +kernel
theorem dX6_stepOf_114 : decode cX6_stepOf 114 = .ok (.getfield 104, 3) := by decide +kernel
theorem dX6_stepOf_117 : decode cX6_stepOf 117 = .ok (.ireturn, 1) := by decide +kernel
theorem dX6_stepOf_118 : decode cX6_stepOf 118 = .ok (.aload_n 3, 1) := by decide +kernel
theorem dX6_stepOf_119 : decode cX6_stepOf 119 = .ok (.getfield 107, 3) := by decide +kernel
theorem dX6_stepOf_122 : decode cX6_stepOf 122 = .ok (.ireturn, 1) := by decide +kernel
theorem dX6_stepOf_123 : decode cX6_stepOf 123 = .ok (.aload_n 3, 1) := by decide +kernel
theorem dX6_stepOf_124 : decode cX6_stepOf 124 = .ok (.getfield 110, 3) := by decide +kernel
theorem dX6_stepOf_127 : decode cX6_stepOf 127 = .ok (.ireturn, 1) := by decide +kernel
theorem dX6_stepOf_128 : decode cX6_stepOf 128 = .ok (.aload_n 3, 1) := by decide +kernel
theorem dX6_stepOf_129 : decode cX6_stepOf 129 = .ok (.getfield 113, 3) := by decide +kernel
theorem dX6_stepOf_132 : decode cX6_stepOf 132 = .ok (.ireturn, 1) := by decide +kernel
theorem dX6_stepOf_133 : decode cX6_stepOf 133 = .ok (.aload_n 3, 1) := by decide +kernel
theorem dX6_stepOf_134 : decode cX6_stepOf 134 = .ok (.getfield 116, 3) := by decide +kernel
theorem dX6_stepOf_137 : decode cX6_stepOf 137 = .ok (.ireturn, 1) := by decide +kernel
theorem dX6_stepOf_138 : decode cX6_stepOf 138 = .ok (.bipush (-12), 2) := by decide +kernel
theorem dX6_stepOf_140 : decode cX6_stepOf 140 = .ok (.ireturn, 1) := by decide +kernel
theorem dcX6_stepOf : yX6_stepOf.cls = RX6 ∧ yX6_stepOf.cls ≠ "java/lang/invoke/MethodHandle" ∧ yX6_stepOf.cls ≠ "java/lang/invoke/VarHandle" ∧ (parseMethodDescriptor yX6_stepOf.desc).map (fun d => d.parameters.length) = some 2 := by decide +kernel
theorem gX6_stepOf_5 : GoodIn wsL_law (wsV RX6 77 RX4 yX4_hasStep (.code yX4_hasStep cX4_hasStep 2 (some .boolean) :: wsL_law)) := g_V q317 q318 q319 q16 q320
set_option maxRecDepth 100000 in
set_option maxHeartbeats 4000000 in
theorem K_stepOf {cA : Nat → ClassId} {ad : tA} {ex : va_W} {M : tM} {F P : tP} {s x : Int32} (hoc : okc P) : Cj yX6_stepOf cX6_stepOf 4 (some .int) (rmd 1) 0 0 cA ad [.ref (ad 0 0), .int s, .int x] ex (mm M F P) (Qe (some (.int (f_stepOf P s x))) ex (mm M F P)) := by
  refine c_of_r (lv0 := [some (.ref (ad 0 0)), some (.int s), some (.int x), none]) rfl (by decide +kernel) (Nat.le_of_ble_eq_true rfl) rfl ?_
  refine r_aload_n dX6_stepOf_0 rfl ?_
  refine r_getF 0 (by decide) q17 rfl dX6_stepOf_1 ?_
  refine r_iload_n dX6_stepOf_4 rfl ?_
  refine r_cVi dX6_stepOf_5 (K_hasStep is1) gX6_stepOf_5 dcX4_hasStep rfl rfl rfl (Nat.le_of_ble_eq_true rfl) (ob_pl is1) ?_
  refine r_if_ne (tgt := 14) dX6_stepOf_8 (by decide) (fun c8 => ?_) (fun c8 => ?_)
  · obtain ⟨i, hi1, hi2, hi3, hi4⟩ := hs_of hoc (bt c8)
    rw [show f_stepOf P s x = f_stp (P (4 + i)) x from (if_neg (nf_of c8)).trans (by rw [hi4])]
    refine r_aload_n dX6_stepOf_14 rfl ?_
    refine r_getF 0 (by decide) q17 rfl dX6_stepOf_15 ?_
    refine r_getp_pl is1 0 (by decide) q314 rfl dX6_stepOf_18 ?_
    refine r_iload_n dX6_stepOf_21 rfl ?_
    refine r_aldp_steps is1 hi3 hi2 dX6_stepOf_22 ?_
    refine r_astore_n dX6_stepOf_23 (by decide) rfl ?_
    refine r_iload_n dX6_stepOf_24 rfl ?_
    rcases sw10 (x) with h | h | h | h | h | h | h | h | h | h | h | h
    · refine r_tableOut (tgt := 138) dX6_stepOf_25 (Or.inl h) (by decide) ?_
      refine r_bipush (v := -12) dX6_stepOf_138 (by decide) ?_
      first | exact r_ret rfl rfl dX6_stepOf_140 (show _ = f_stp (P (4 + i)) x from (stp_no (ne10_lo h)).symm) rfl
    · refine r_tableOut (tgt := 138) dX6_stepOf_25 (Or.inr h) (by decide) ?_
      refine r_bipush (v := -12) dX6_stepOf_138 (by decide) ?_
      first | exact r_ret rfl rfl dX6_stepOf_140 (show _ = f_stp (P (4 + i)) x from (stp_no (ne10_hi h)).symm) rfl
    · subst h
      refine r_tableIn (off := 55) (tgt := 80) dX6_stepOf_25 (by decide) (by decide) (by decide) (by decide) ?_
      refine r_aload_n dX6_stepOf_80 rfl ?_
      refine r_getp_st is1 hi2 0 (by decide) q479 rfl dX6_stepOf_81 ?_
      first | exact r_ret rfl rfl dX6_stepOf_84 (show _ = f_stp (P (4 + i)) 0 from (if_pos rfl).symm) rfl
    · subst h
      refine r_tableIn (off := 60) (tgt := 85) dX6_stepOf_25 (by decide) (by decide) (by decide) (by decide) ?_
      refine r_aload_n dX6_stepOf_85 rfl ?_
      refine r_getp_st is1 hi2 1 (by decide) q480 rfl dX6_stepOf_86 ?_
      first | exact r_ret rfl rfl dX6_stepOf_89 (show _ = f_stp (P (4 + i)) 1 from ((if_neg (by decide)).trans (if_pos rfl)).symm) rfl
    · subst h
      refine r_tableIn (off := 65) (tgt := 90) dX6_stepOf_25 (by decide) (by decide) (by decide) (by decide) ?_
      refine r_aload_n dX6_stepOf_90 rfl ?_
      refine r_getp_st is1 hi2 2 (by decide) q481 rfl dX6_stepOf_91 ?_
      first | exact r_ret rfl rfl dX6_stepOf_94 (show _ = f_stp (P (4 + i)) 2 from ((if_neg (by decide)).trans ((if_neg (by decide)).trans (if_pos rfl))).symm) rfl
    · subst h
      refine r_tableIn (off := 70) (tgt := 95) dX6_stepOf_25 (by decide) (by decide) (by decide) (by decide) ?_
      refine r_aload_n dX6_stepOf_95 rfl ?_
      refine r_getp_st is1 hi2 3 (by decide) q482 rfl dX6_stepOf_96 ?_
      refine r_if_eq (tgt := 106) dX6_stepOf_99 (by decide) (fun c99 => ?_) (fun c99 => ?_)
      · refine r_iconst (v := 0) dX6_stepOf_106 (by decide) ?_
        first | exact r_ret rfl rfl dX6_stepOf_107 (show _ = f_stp (P (4 + i)) 3 from ((if_neg (by decide)).trans ((if_neg (by decide)).trans ((if_neg (by decide)).trans ((if_pos rfl).trans (if_pos c99))))).symm) rfl | exact r_ret rfl rfl dX6_stepOf_107 (show _ = f_stp (P (4 + i)) 3 from ((if_neg (by decide)).trans ((if_neg (by decide)).trans ((if_neg (by decide)).trans ((if_pos rfl).trans (if_neg c99))))).symm) rfl
      · refine r_iconst (v := 1) dX6_stepOf_102 (by decide) ?_
        refine r_goto (tgt := 107) dX6_stepOf_103 (by decide) ?_
        first | exact r_ret rfl rfl dX6_stepOf_107 (show _ = f_stp (P (4 + i)) 3 from ((if_neg (by decide)).trans ((if_neg (by decide)).trans ((if_neg (by decide)).trans ((if_pos rfl).trans (if_pos c99))))).symm) rfl | exact r_ret rfl rfl dX6_stepOf_107 (show _ = f_stp (P (4 + i)) 3 from ((if_neg (by decide)).trans ((if_neg (by decide)).trans ((if_neg (by decide)).trans ((if_pos rfl).trans (if_neg c99))))).symm) rfl
    · subst h
      refine r_tableIn (off := 83) (tgt := 108) dX6_stepOf_25 (by decide) (by decide) (by decide) (by decide) ?_
      refine r_aload_n dX6_stepOf_108 rfl ?_
      refine r_getp_st is1 hi2 6 (by decide) q315 rfl dX6_stepOf_109 ?_
      first | exact r_ret rfl rfl dX6_stepOf_112 (show _ = f_stp (P (4 + i)) 4 from ((if_neg (by decide)).trans ((if_neg (by decide)).trans ((if_neg (by decide)).trans ((if_neg (by decide)).trans (if_pos rfl))))).symm) rfl
    · subst h
      refine r_tableIn (off := 88) (tgt := 113) dX6_stepOf_25 (by decide) (by decide) (by decide) (by decide) ?_
      refine r_aload_n dX6_stepOf_113 rfl ?_
      refine r_getp_st is1 hi2 7 (by decide) q483 rfl dX6_stepOf_114 ?_
      first | exact r_ret rfl rfl dX6_stepOf_117 (show _ = f_stp (P (4 + i)) 5 from ((if_neg (by decide)).trans ((if_neg (by decide)).trans ((if_neg (by decide)).trans ((if_neg (by decide)).trans ((if_neg (by decide)).trans (if_pos rfl)))))).symm) rfl
    · subst h
      refine r_tableIn (off := 93) (tgt := 118) dX6_stepOf_25 (by decide) (by decide) (by decide) (by decide) ?_
      refine r_aload_n dX6_stepOf_118 rfl ?_
      refine r_getp_st is1 hi2 8 (by decide) q484 rfl dX6_stepOf_119 ?_
      first | exact r_ret rfl rfl dX6_stepOf_122 (show _ = f_stp (P (4 + i)) 6 from ((if_neg (by decide)).trans ((if_neg (by decide)).trans ((if_neg (by decide)).trans ((if_neg (by decide)).trans ((if_neg (by decide)).trans ((if_neg (by decide)).trans (if_pos rfl))))))).symm) rfl
    · subst h
      refine r_tableIn (off := 98) (tgt := 123) dX6_stepOf_25 (by decide) (by decide) (by decide) (by decide) ?_
      refine r_aload_n dX6_stepOf_123 rfl ?_
      refine r_getp_st is1 hi2 9 (by decide) q331 rfl dX6_stepOf_124 ?_
      first | exact r_ret rfl rfl dX6_stepOf_127 (show _ = f_stp (P (4 + i)) 7 from ((if_neg (by decide)).trans ((if_neg (by decide)).trans ((if_neg (by decide)).trans ((if_neg (by decide)).trans ((if_neg (by decide)).trans ((if_neg (by decide)).trans ((if_neg (by decide)).trans (if_pos rfl)))))))).symm) rfl
    · subst h
      refine r_tableIn (off := 103) (tgt := 128) dX6_stepOf_25 (by decide) (by decide) (by decide) (by decide) ?_
      refine r_aload_n dX6_stepOf_128 rfl ?_
      refine r_getp_st is1 hi2 10 (by decide) q485 rfl dX6_stepOf_129 ?_
      first | exact r_ret rfl rfl dX6_stepOf_132 (show _ = f_stp (P (4 + i)) 8 from ((if_neg (by decide)).trans ((if_neg (by decide)).trans ((if_neg (by decide)).trans ((if_neg (by decide)).trans ((if_neg (by decide)).trans ((if_neg (by decide)).trans ((if_neg (by decide)).trans ((if_neg (by decide)).trans (if_pos rfl))))))))).symm) rfl
    · subst h
      refine r_tableIn (off := 108) (tgt := 133) dX6_stepOf_25 (by decide) (by decide) (by decide) (by decide) ?_
      refine r_aload_n dX6_stepOf_133 rfl ?_
      refine r_getp_st is1 hi2 4 (by decide) q316 rfl dX6_stepOf_134 ?_
      first | exact r_ret rfl rfl dX6_stepOf_137 (show _ = f_stp (P (4 + i)) 9 from ((if_neg (by decide)).trans ((if_neg (by decide)).trans ((if_neg (by decide)).trans ((if_neg (by decide)).trans ((if_neg (by decide)).trans ((if_neg (by decide)).trans ((if_neg (by decide)).trans ((if_neg (by decide)).trans ((if_neg (by decide)).trans (if_pos rfl)))))))))).symm) rfl
  · refine r_bipush (v := -11) dX6_stepOf_11 (by decide) ?_
    first | exact r_ret rfl rfl dX6_stepOf_13 (show _ = f_stepOf P s x from (if_pos (bF c8)).symm) rfl
def f_ready (P : tP) (s : Int32) : Int32 := if f_hasStep P s = false then -11 else bI (f_isReady (P (4 + s.toNatClampNeg)) (f_setOf P 3))
theorem dX6_ready_0 : decode cX6_ready 0 = .ok (.aload_n 0, 1) := by decide +kernel
theorem dX6_ready_1 : decode cX6_ready 1 = .ok (.getfield 12, 3) := by decide +kernel
theorem dX6_ready_4 : decode cX6_ready 4 = .ok (.iload_n 1, 1) := by decide +kernel
theorem dX6_ready_5 : decode cX6_ready 5 = .ok (.invokevirtual 77, 3) := by decide +kernel
theorem dX6_ready_8 : decode cX6_ready 8 = .ok (.ifCond .ne 6, 3) := by decide +kernel
theorem dX6_ready_11 : decode cX6_ready 11 = .ok (.bipush (-11), 2) := by decide +kernel
theorem dX6_ready_13 : decode cX6_ready 13 = .ok (.ireturn, 1) := by decide +kernel
theorem dX6_ready_14 : decode cX6_ready 14 = .ok (.aload_n 0, 1) := by decide +kernel
theorem dX6_ready_15 : decode cX6_ready 15 = .ok (.getfield 12, 3) := by decide +kernel
theorem dX6_ready_18 : decode cX6_ready 18 = .ok (.iload_n 1, 1) := by decide +kernel
theorem dX6_ready_19 : decode cX6_ready 19 = .ok (.aload_n 0, 1) := by decide +kernel
theorem dX6_ready_20 : decode cX6_ready 20 = .ok (.getfield 12, 3) := by decide +kernel
theorem dX6_ready_23 : decode cX6_ready 23 = .ok (.iconst 3, 1) := by decide +kernel
theorem dX6_ready_24 : decode cX6_ready 24 = .ok (.invokevirtual 119, 3) := by decide +kernel
theorem dX6_ready_27 : decode cX6_ready 27 = .ok (.invokevirtual 122, 3) := by decide +kernel
theorem dX6_ready_30 : decode cX6_ready 30 = .ok (.ifCond .eq 7, 3) := by decide +kernel
theorem dX6_ready_33 : decode cX6_ready 33 = .ok (.iconst 1, 1) := by decide +kernel
theorem dX6_ready_34 : decode cX6_ready 34 = .ok (.goto 4, 3) := by decide +kernel
theorem dX6_ready_37 : decode cX6_ready 37 = .ok (.iconst 0, 1) := by decide +kernel
theorem dX6_ready_38 : decode cX6_ready 38 = .ok (.ireturn, 1) := by decide +kernel
theorem dcX6_ready : yX6_ready.cls = RX6 ∧ yX6_ready.cls ≠ "java/lang/invoke/MethodHandle" ∧ yX6_ready.cls ≠ "java/lang/invoke/VarHandle" ∧ (parseMethodDescriptor yX6_ready.desc).map (fun d => d.parameters.length) = some 1 := by decide +kernel
theorem gX6_ready_5 : GoodIn wsL_law (wsV RX6 77 RX4 yX4_hasStep (.code yX4_hasStep cX4_hasStep 2 (some .boolean) :: wsL_law)) := g_V q317 q318 q319 q16 q320
theorem gX6_ready_24 : GoodIn wsL_law (wsV RX6 119 RX4 yX4_setOf (.code yX4_setOf cX4_setOf 4 (some .int) :: wsL_law)) := g_V q543 q165 q166 q16 q167
theorem gX6_ready_27 : GoodIn wsL_law (wsV RX6 122 RX4 yX4_isReady (.code yX4_isReady cX4_isReady 4 (some .boolean) :: wsL_law)) := g_V q544 q414 q415 q16 q416
set_option maxRecDepth 100000 in
set_option maxHeartbeats 4000000 in
theorem K_ready {cA : Nat → ClassId} {ad : tA} {ex : va_W} {M : tM} {F P : tP} {s : Int32} (hoc : okc P) : Cj yX6_ready cX6_ready 2 (some .int) (rmd 1) 0 0 cA ad [.ref (ad 0 0), .int s] ex (mm M F P) (Qe (some (.int (f_ready P s))) ex (mm M F P)) := by
  refine c_of_r (lv0 := [some (.ref (ad 0 0)), some (.int s)]) rfl (by decide +kernel) (Nat.le_of_ble_eq_true rfl) rfl ?_
  refine r_aload_n dX6_ready_0 rfl ?_
  refine r_getF 0 (by decide) q17 rfl dX6_ready_1 ?_
  refine r_iload_n dX6_ready_4 rfl ?_
  refine r_cVi dX6_ready_5 (K_hasStep is1) gX6_ready_5 dcX4_hasStep rfl rfl rfl (Nat.le_of_ble_eq_true rfl) (ob_pl is1) ?_
  refine r_if_ne (tgt := 14) dX6_ready_8 (by decide) (fun c8 => ?_) (fun c8 => ?_)
  · obtain ⟨i, hi1, hi2, hi3, hi4⟩ := hs_of hoc (bt c8)
    have e : f_ready P s = bI (f_isReady (P (4 + i)) (f_setOf P 3)) := (if_neg (nf_of c8)).trans (by rw [hi4])
    refine r_aload_n dX6_ready_14 rfl ?_
    refine r_getF 0 (by decide) q17 rfl dX6_ready_15 ?_
    refine r_iload_n dX6_ready_18 rfl ?_
    refine r_aload_n dX6_ready_19 rfl ?_
    refine r_getF 0 (by decide) q17 rfl dX6_ready_20 ?_
    refine r_iconst (v := 3) dX6_ready_23 (by decide) ?_
    refine r_cVi dX6_ready_24 (K_setOf is1 hoc.1 hoc.2) gX6_ready_24 dcX4_setOf rfl rfl rfl (Nat.le_of_ble_eq_true rfl) (ob_pl is1) ?_
    refine r_cVi dX6_ready_27 ((hi3 ▸ K_isReady (i := i) is1 hi2)) gX6_ready_27 dcX4_isReady rfl rfl rfl (Nat.le_of_ble_eq_true rfl) (ob_pl is1) ?_
    refine r_if_eq (tgt := 37) dX6_ready_30 (by decide) (fun c30 => ?_) (fun c30 => ?_)
    · refine r_iconst (v := 0) dX6_ready_37 (by decide) ?_
      first | exact r_ret rfl rfl dX6_ready_38 (by rw [e, bI_1 c30]; rfl) rfl | exact r_ret rfl rfl dX6_ready_38 (by rw [e, bI_0 c30]; rfl) rfl
    · refine r_iconst (v := 1) dX6_ready_33 (by decide) ?_
      refine r_goto (tgt := 38) dX6_ready_34 (by decide) ?_
      first | exact r_ret rfl rfl dX6_ready_38 (by rw [e, bI_1 c30]; rfl) rfl | exact r_ret rfl rfl dX6_ready_38 (by rw [e, bI_0 c30]; rfl) rfl
  · refine r_bipush (v := -11) dX6_ready_11 (by decide) ?_
    first | exact r_ret rfl rfl dX6_ready_13 (show _ = f_ready P s from (if_pos (bF c8)).symm) rfl
def f_mof (P : tP) (k : Nat) (x : Int32) : Int32 :=
  if x = 0 then P 2 k else if x = 1 then P (4 + ms P k) 5 else if x = 2 then (if P (4 + ms P k) 6 = 3 then P (4 + ms P k) 10 else -15) else if x = 3 then f_lateBy P k (ms P k) else -12
def f_mileOf (P : tP) (p x : Int32) : Int32 := if p < 0 ∨ P 0 3 ≤ p then -11 else f_mof P p.toNatClampNeg x
theorem mof_no {P : tP} {k : Nat} {x : Int32} (h : x ≠ 0 ∧ x ≠ 1 ∧ x ≠ 2 ∧ x ≠ 3) : f_mof P k x = -12 := by
  unfold f_mof
  rw [if_neg h.1, if_neg h.2.1, if_neg h.2.2.1, if_neg h.2.2.2]
theorem ne4_lo {x : Int32} (h : x.toInt < 0) : x ≠ 0 ∧ x ≠ 1 ∧ x ≠ 2 ∧ x ≠ 3 := by
  refine ⟨?_, ?_, ?_, ?_⟩ <;> (intro e; rw [e] at h; revert h; decide)
theorem ne4_hi {x : Int32} (h : 3 < x.toInt) : x ≠ 0 ∧ x ≠ 1 ∧ x ≠ 2 ∧ x ≠ 3 := by
  refine ⟨?_, ?_, ?_, ?_⟩ <;> (intro e; rw [e] at h; revert h; decide)
theorem pos_of {y p : Int32} {n : Nat} (hy : y = nI n) (hn : n < 2 ^ 30) (h1 : ¬ p < 0) (h2 : p < y) : ∃ k, k < n ∧ p = nI k ∧ p.toNatClampNeg = k := by
  obtain ⟨k, hk, rfl⟩ := nI_of h1
  rw [hy] at h2
  have : k < n := (nI_ltI (by omega) (by omega)).mp h2
  exact ⟨k, this, rfl, nI_clamp hk⟩
theorem dX6_milestoneOf_0 : decode cX6_milestoneOf 0 = .ok (.iload_n 1, 1) := by decide +kernel
theorem dX6_milestoneOf_1 : decode cX6_milestoneOf 1 = .ok (.ifCond .lt 14, 3) := by decide +kernel
theorem dX6_milestoneOf_4 : decode cX6_milestoneOf 4 = .ok (.iload_n 1, 1) := by decide +kernel
theorem dX6_milestoneOf_5 : decode cX6_milestoneOf 5 = .ok (.aload_n 0, 1) := by decide +kernel
theorem dX6_milestoneOf_6 : decode cX6_milestoneOf 6 = .ok (.getfield 12, 3) := by decide +kernel
theorem dX6_milestoneOf_9 : decode cX6_milestoneOf 9 = .ok (.getfield 126, 3) := by decide +kernel
theorem dX6_milestoneOf_12 : decode cX6_milestoneOf 12 = .ok (.if_icmp .lt 6, 3) := by decide +kernel
theorem dX6_milestoneOf_15 : decode cX6_milestoneOf 15 = .ok (.bipush (-11), 2) := by decide +kernel
theorem dX6_milestoneOf_17 : decode cX6_milestoneOf 17 = .ok (.ireturn, 1) := by decide +kernel
theorem dX6_milestoneOf_18 : decode cX6_milestoneOf 18 = .ok (.aload_n 0, 1) := by decide +kernel
theorem dX6_milestoneOf_19 : decode cX6_milestoneOf 19 = .ok (.getfield 12, 3) := by decide +kernel
theorem dX6_milestoneOf_22 : decode cX6_milestoneOf 22 = .ok (.getfield 81, 3) := by decide +kernel
theorem dX6_milestoneOf_25 : decode cX6_milestoneOf 25 = .ok (.aload_n 0, 1) := by decide +kernel
theorem dX6_milestoneOf_26 : decode cX6_milestoneOf 26 = .ok (.getfield 12, 3) := by decide +kernel
theorem dX6_milestoneOf_29 : decode cX6_milestoneOf 29 = .ok (.getfield 129, 3) := by decide +kernel
theorem dX6_milestoneOf_32 : decode cX6_milestoneOf 32 = .ok (.iload_n 1, 1) := by decide +kernel
theorem dX6_milestoneOf_33 : decode cX6_milestoneOf 33 = .ok (.iaload, 1) := by decide +kernel
theorem dX6_milestoneOf_34 : decode cX6_milestoneOf 34 = .ok (.aaload, 1) := by decide +kernel
theorem dX6_milestoneOf_35 : decode cX6_milestoneOf 35 = .ok (.astore_n 3, 1) := by decide +kernel
theorem dX6_milestoneOf_36 : decode cX6_milestoneOf 36 = .ok (.iload_n 2, 1) := by decide +kernel
theorem dX6_milestoneOf_37 : decode cX6_milestoneOf 37 = .ok (.tableswitch 73 0 3 #[31, 41, 46, 64], 31) := by decide +kernel
theorem dX6_milestoneOf_68 : decode cX6_milestoneOf 68 = .ok (.aload_n 0, 1) := by decide +kernel
theorem dX6_milestoneOf_69 : decode cX6_milestoneOf 69 = .ok (.getfield 12, 3) := by decide +kernel
theorem dX6_milestoneOf_72 : decode cX6_milestoneOf 72 = .ok (.getfield 129, 3) := by decide +kernel
theorem dX6_milestoneOf_75 : decode cX6_milestoneOf 75 = .ok (.iload_n 1, 1) := by decide +kernel
theorem dX6_milestoneOf_76 : decode cX6_milestoneOf 76 = .ok (.iaload, 1) := by decide +kernel
theorem dX6_milestoneOf_77 : decode cX6_milestoneOf 77 = .ok (.ireturn, 1) := by decide +kernel
theorem dX6_milestoneOf_78 : decode cX6_milestoneOf 78 = .ok (.aload_n 3, 1) := by decide +kernel
theorem dX6_milestoneOf_79 : decode cX6_milestoneOf 79 = .ok (.getfield 133, 3) := by decide +kernel
theorem dX6_milestoneOf_82 : decode cX6_milestoneOf 82 = .ok (.ireturn, 1) := by decide +kernel
theorem dX6_milestoneOf_83 : decode cX6_milestoneOf 83 = .ok (.aload_n 3, 1) := by decide +kernel
theorem dX6_milestoneOf_84 : decode cX6_milestoneOf 84 = .ok (.getfield 101, 3) := by decide +kernel
theorem dX6_milestoneOf_87 : decode cX6_milestoneOf 87 = .ok (.iconst 3, 1) := by decide +kernel
theorem dX6_milestoneOf_88 : decode cX6_milestoneOf 88 = .ok (.if_icmp .ne 10, 3) := by decide +kernel
theorem dX6_milestoneOf_91 : decode cX6_milestoneOf 91 = .ok (.aload_n 3, 1) := by decide +kernel
theorem dX6_milestoneOf_92 : decode cX6_milestoneOf 92 = .ok (.getfield 113, 3) := by decide +kernel
theorem dX6_milestoneOf_95 : decode cX6_milestoneOf 95 = .ok (.goto 5, 3) := by decide +kernel
theorem dX6_milestoneOf_98 : decode cX6_milestoneOf 98 = .ok (.bipush (-15), 2) := by decide +kernel
theorem dX6_milestoneOf_100 : decode cX6_milestoneOf 100 = .ok (.ireturn, 1) := by decide +kernel
theorem dX6_milestoneOf_101 : decode cX6_milestoneOf 101 = .ok (.aload_n 0, 1) := by decide +kernel
theorem dX6_milestoneOf_102 : decode cX6_milestoneOf 102 = .ok (.getfield 12, 3) := by decide +kernel
theorem dX6_milestoneOf_105 : decode cX6_milestoneOf 105 = .ok (.iload_n 1, 1) := by decide +kernel
theorem dX6_milestoneOf_106 : decode cX6_milestoneOf 106 = .ok (.invokevirtual 136, 3) := by decide +kernel
theorem dX6_milestoneOf_109 : decode cX6_milestoneOf 109 = .ok (.ireturn, 1) := by decide +kernel
theorem dX6_milestoneOf_110 : decode cX6_milestoneOf 110 = .ok (.bipush (-12), 2) := by decide +kernel
theorem dX6_milestoneOf_112 : decode cX6_milestoneOf 112 = .ok (.ireturn, 1) := by decide +kernel
theorem dcX6_milestoneOf : yX6_milestoneOf.cls = RX6 ∧ yX6_milestoneOf.cls ≠ "java/lang/invoke/MethodHandle" ∧ yX6_milestoneOf.cls ≠ "java/lang/invoke/VarHandle" ∧ (parseMethodDescriptor yX6_milestoneOf.desc).map (fun d => d.parameters.length) = some 2 := by decide +kernel
theorem gX6_milestoneOf_106 : GoodIn wsL_law (wsV RX6 136 RX4 yX4_lateBy (.code yX4_lateBy cX4_lateBy 4 (some .int) :: wsL_law)) := g_V q590 q591 q592 q16 q593
set_option maxRecDepth 100000 in
set_option maxHeartbeats 4000000 in
theorem K_mileOf {cA : Nat → ClassId} {ad : tA} {ex : va_W} {M : tM} {F P : tP} {p x : Int32} (hoc : okc P) (hon : okn P) (hok : okM P) : Cj yX6_milestoneOf cX6_milestoneOf 4 (some .int) (rmd 2) 0 0 cA ad [.ref (ad 0 0), .int p, .int x] ex (mm M F P) (Qe (some (.int (f_mileOf P p x))) ex (mm M F P)) := by
  refine c_of_r (lv0 := [some (.ref (ad 0 0)), some (.int p), some (.int x), none]) rfl (by decide +kernel) (Nat.le_of_ble_eq_true rfl) rfl ?_
  refine r_iload_n dX6_milestoneOf_0 rfl ?_
  refine r_if_lt (tgt := 15) dX6_milestoneOf_1 (by decide) (fun c1 => ?_) (fun c1 => ?_)
  · refine r_bipush (v := -11) dX6_milestoneOf_15 (by decide) ?_
    first | exact r_ret rfl rfl dX6_milestoneOf_17 (show _ = f_mileOf P p x from (if_pos (Or.inl c1)).symm) rfl | exact r_ret rfl rfl dX6_milestoneOf_17 (show _ = f_mileOf P p x from (if_pos (Or.inr (Int32.not_lt.mp c12))).symm) rfl
  · refine r_iload_n dX6_milestoneOf_4 rfl ?_
    refine r_aload_n dX6_milestoneOf_5 rfl ?_
    refine r_getF 0 (by decide) q17 rfl dX6_milestoneOf_6 ?_
    refine r_getp_pl is1 3 (by decide) q154 rfl dX6_milestoneOf_9 ?_
    refine r_icmp_lt (tgt := 18) dX6_milestoneOf_12 (by decide) (fun c12 => ?_) (fun c12 => ?_)
    · obtain ⟨k, hk1, hk3, hk4⟩ := pos_of hon.1 (by have := hon.2; omega) c1 c12
      have hk2 : k < 4 := by have := hon.2; omega
      have hM := hok k hk1
      rw [show f_mileOf P p x = f_mof P k x from (if_neg (n2 c1 (Int32.not_le.mpr c12))).trans (by rw [hk4])]
      refine r_aload_n dX6_milestoneOf_18 rfl ?_
      refine r_getF 0 (by decide) q17 rfl dX6_milestoneOf_19 ?_
      refine r_getp_pl is1 0 (by decide) q314 rfl dX6_milestoneOf_22 ?_
      refine r_aload_n dX6_milestoneOf_25 rfl ?_
      refine r_getF 0 (by decide) q17 rfl dX6_milestoneOf_26 ?_
      refine r_getp_pl is1 2 (by decide) q589 rfl dX6_milestoneOf_29 ?_
      refine r_iload_n dX6_milestoneOf_32 rfl ?_
      refine r_ldp_mi is1 hk3 hk2 dX6_milestoneOf_33 ?_
      refine r_aldp_steps is1 hM.1 hM.2 dX6_milestoneOf_34 ?_
      refine r_astore_n dX6_milestoneOf_35 (by decide) rfl ?_
      refine r_iload_n dX6_milestoneOf_36 rfl ?_
      rcases sw4 (x) with h | h | h | h | h | h
      · refine r_tableOut (tgt := 110) dX6_milestoneOf_37 (Or.inl h) (by decide) ?_
        refine r_bipush (v := -12) dX6_milestoneOf_110 (by decide) ?_
        first | exact r_ret rfl rfl dX6_milestoneOf_112 (show _ = f_mof P k x from (mof_no (ne4_lo h)).symm) rfl
      · refine r_tableOut (tgt := 110) dX6_milestoneOf_37 (Or.inr h) (by decide) ?_
        refine r_bipush (v := -12) dX6_milestoneOf_110 (by decide) ?_
        first | exact r_ret rfl rfl dX6_milestoneOf_112 (show _ = f_mof P k x from (mof_no (ne4_hi h)).symm) rfl
      · subst h
        refine r_tableIn (off := 31) (tgt := 68) dX6_milestoneOf_37 (by decide) (by decide) (by decide) (by decide) ?_
        refine r_aload_n dX6_milestoneOf_68 rfl ?_
        refine r_getF 0 (by decide) q17 rfl dX6_milestoneOf_69 ?_
        refine r_getp_pl is1 2 (by decide) q589 rfl dX6_milestoneOf_72 ?_
        refine r_iload_n dX6_milestoneOf_75 rfl ?_
        refine r_ldp_mi is1 hk3 hk2 dX6_milestoneOf_76 ?_
        first | exact r_ret rfl rfl dX6_milestoneOf_77 (show _ = f_mof P k 0 from (if_pos rfl).symm) rfl
      · subst h
        refine r_tableIn (off := 41) (tgt := 78) dX6_milestoneOf_37 (by decide) (by decide) (by decide) (by decide) ?_
        refine r_aload_n dX6_milestoneOf_78 rfl ?_
        refine r_getp_st is1 hM.2 5 (by decide) q352 rfl dX6_milestoneOf_79 ?_
        first | exact r_ret rfl rfl dX6_milestoneOf_82 (show _ = f_mof P k 1 from ((if_neg (by decide)).trans (if_pos rfl)).symm) rfl
      · subst h
        refine r_tableIn (off := 46) (tgt := 83) dX6_milestoneOf_37 (by decide) (by decide) (by decide) (by decide) ?_
        refine r_aload_n dX6_milestoneOf_83 rfl ?_
        refine r_getp_st is1 hM.2 6 (by decide) q315 rfl dX6_milestoneOf_84 ?_
        refine r_iconst (v := 3) dX6_milestoneOf_87 (by decide) ?_
        refine r_icmp_ne (tgt := 98) dX6_milestoneOf_88 (by decide) (fun c88 => ?_) (fun c88 => ?_)
        · refine r_bipush (v := -15) dX6_milestoneOf_98 (by decide) ?_
          first | exact r_ret rfl rfl dX6_milestoneOf_100 (show _ = f_mof P k 2 from ((if_neg (by decide)).trans ((if_neg (by decide)).trans ((if_pos rfl).trans (if_pos c88)))).symm) rfl | exact r_ret rfl rfl dX6_milestoneOf_100 (show _ = f_mof P k 2 from ((if_neg (by decide)).trans ((if_neg (by decide)).trans ((if_pos rfl).trans (if_neg c88)))).symm) rfl
        · refine r_aload_n dX6_milestoneOf_91 rfl ?_
          refine r_getp_st is1 hM.2 10 (by decide) q485 rfl dX6_milestoneOf_92 ?_
          refine r_goto (tgt := 100) dX6_milestoneOf_95 (by decide) ?_
          first | exact r_ret rfl rfl dX6_milestoneOf_100 (show _ = f_mof P k 2 from ((if_neg (by decide)).trans ((if_neg (by decide)).trans ((if_pos rfl).trans (if_pos c88)))).symm) rfl | exact r_ret rfl rfl dX6_milestoneOf_100 (show _ = f_mof P k 2 from ((if_neg (by decide)).trans ((if_neg (by decide)).trans ((if_pos rfl).trans (if_neg c88)))).symm) rfl
      · subst h
        refine r_tableIn (off := 64) (tgt := 101) dX6_milestoneOf_37 (by decide) (by decide) (by decide) (by decide) ?_
        refine r_aload_n dX6_milestoneOf_101 rfl ?_
        refine r_getF 0 (by decide) q17 rfl dX6_milestoneOf_102 ?_
        refine r_iload_n dX6_milestoneOf_105 rfl ?_
        refine r_cVi dX6_milestoneOf_106 ((hk3 ▸ K_lateBy (k := k) (m := ms P k) is1 hk2 hM.1 hM.2)) gX6_milestoneOf_106 dcX4_lateBy rfl rfl rfl (Nat.le_of_ble_eq_true rfl) (ob_pl is1) ?_
        first | exact r_ret rfl rfl dX6_milestoneOf_109 (show _ = f_mof P k 3 from ((if_neg (by decide)).trans ((if_neg (by decide)).trans ((if_neg (by decide)).trans (if_pos rfl)))).symm) rfl
    · refine r_bipush (v := -11) dX6_milestoneOf_15 (by decide) ?_
      first | exact r_ret rfl rfl dX6_milestoneOf_17 (show _ = f_mileOf P p x from (if_pos (Or.inl c1)).symm) rfl | exact r_ret rfl rfl dX6_milestoneOf_17 (show _ = f_mileOf P p x from (if_pos (Or.inr (Int32.not_lt.mp c12))).symm) rfl
def lp_late (P : tP) : Nat → Nat → Int32 → Int32
  | 0, _, x => x
  | n + 1, k, x => lp_late P n (k + 1) (x + f_lateBy P k (ms P k))
def f_late (P : tP) : Int32 := lp_late P (mn P) 0 0
theorem dX6_late_0 : decode cX6_late 0 = .ok (.iconst 0, 1) := by decide +kernel
theorem dX6_late_1 : decode cX6_late 1 = .ok (.istore_n 1, 1) := by decide +kernel
theorem dX6_late_2 : decode cX6_late 2 = .ok (.iconst 0, 1) := by decide +kernel
theorem dX6_late_3 : decode cX6_late 3 = .ok (.istore_n 2, 1) := by decide +kernel
theorem dX6_late_4 : decode cX6_late 4 = .ok (.iload_n 2, 1) := by decide +kernel
theorem dX6_late_5 : decode cX6_late 5 = .ok (.aload_n 0, 1) := by decide +kernel
theorem dX6_late_6 : decode cX6_late 6 = .ok (.getfield 12, 3) := by decide +kernel
theorem dX6_late_9 : decode cX6_late 9 = .ok (.getfield 126, 3) := by decide +kernel
theorem dX6_late_12 : decode cX6_late 12 = .ok (.if_icmp .ge 20, 3) := by decide +kernel
theorem dX6_late_15 : decode cX6_late 15 = .ok (.iload_n 1, 1) := by decide +kernel
theorem dX6_late_16 : decode cX6_late 16 = .ok (.aload_n 0, 1) := by decide +kernel
theorem dX6_late_17 : decode cX6_late 17 = .ok (.getfield 12, 3) := by decide +kernel
theorem dX6_late_20 : decode cX6_late 20 = .ok (.iload_n 2, 1) := by decide +kernel
theorem dX6_late_21 : decode cX6_late 21 = .ok (.invokevirtual 136, 3) := by decide +kernel
theorem dX6_late_24 : decode cX6_late 24 = .ok (.iadd, 1) := by decide +kernel
theorem dX6_late_25 : decode cX6_late 25 = .ok (.istore_n 1, 1) := by decide +kernel
theorem dX6_late_26 : decode cX6_late 26 = .ok (.iinc 2 1, 3) := by decide +kernel
theorem dX6_late_29 : decode cX6_late 29 = .ok (.goto (-25), 3) := by decide +kernel
theorem dX6_late_32 : decode cX6_late 32 = .ok (.iload_n 1, 1) := by decide +kernel
theorem dX6_late_33 : decode cX6_late 33 = .ok (.ireturn, 1) := by decide +kernel
theorem dcX6_late : yX6_late.cls = RX6 ∧ yX6_late.cls ≠ "java/lang/invoke/MethodHandle" ∧ yX6_late.cls ≠ "java/lang/invoke/VarHandle" ∧ (parseMethodDescriptor yX6_late.desc).map (fun d => d.parameters.length) = some 0 := by decide +kernel
theorem gX6_late_21 : GoodIn wsL_law (wsV RX6 136 RX4 yX4_lateBy (.code yX4_lateBy cX4_lateBy 4 (some .int) :: wsL_law)) := g_V q590 q591 q592 q16 q593
set_option maxRecDepth 100000 in
set_option maxHeartbeats 4000000 in
theorem K_late {cA : Nat → ClassId} {ad : tA} {ex : va_W} {M : tM} {F P : tP} (hon : okn P) (hok : okM P) : Cj yX6_late cX6_late 3 (some .int) (rmd 2) 0 0 cA ad [.ref (ad 0 0)] ex (mm M F P) (Qe (some (.int (f_late P))) ex (mm M F P)) := by
  refine c_of_r (lv0 := [some (.ref (ad 0 0)), none, none]) rfl (by decide +kernel) (Nat.le_of_ble_eq_true rfl) rfl ?_
  have L : ∀ (n k : Nat) (x : Int32), k + n = mn P → lp_late P n k x = f_late P → Rj cX6_late RX6 3 (some .int) (rmd 2) 0 0 cA ad (Qe (some (.int (f_late P))) ex (mm M F P)) ex 0 0 4 [some (.ref (ad 0 0)), some (.int x), some (.int (nI k))] [] (mm M F P) := by
    intro n
    induction n with
    | zero =>
      intro k x h hx
      refine r_iload_n dX6_late_4 rfl ?_
      refine r_aload_n dX6_late_5 rfl ?_
      refine r_getF 0 (by decide) q17 rfl dX6_late_6 ?_
      refine r_getp_pl is1 3 (by decide) q154 rfl dX6_late_9 ?_
      refine r_icmp_ge (tgt := 32) dX6_late_12 (by decide) (fun c12 => ?_) (fun c12 => absurd (lp_z hon.1 h) c12)
      refine r_iload_n dX6_late_32 rfl ?_
      exact r_ret rfl rfl dX6_late_33 hx rfl
    | succ n ih =>
      intro k x h hx
      have hk : k < 4 := by have := hon.2; omega
      have hM := hok k (by omega)
      refine r_iload_n dX6_late_4 rfl ?_
      refine r_aload_n dX6_late_5 rfl ?_
      refine r_getF 0 (by decide) q17 rfl dX6_late_6 ?_
      refine r_getp_pl is1 3 (by decide) q154 rfl dX6_late_9 ?_
      refine r_icmp_ge (tgt := 32) dX6_late_12 (by decide) (fun c12 => absurd c12 (lp_s hon.1 (by have := hon.2; omega) h)) (fun c12 => ?_)
      refine r_iload_n dX6_late_15 rfl ?_
      refine r_aload_n dX6_late_16 rfl ?_
      refine r_getF 0 (by decide) q17 rfl dX6_late_17 ?_
      refine r_iload_n dX6_late_20 rfl ?_
      refine r_cVi dX6_late_21 (K_lateBy (k := k) (m := ms P k) is1 hk hM.1 hM.2) gX6_late_21 dcX4_lateBy rfl rfl rfl (Nat.le_of_ble_eq_true rfl) (ob_pl is1) ?_
      refine r_iadd dX6_late_24 ?_
      refine r_istore_n dX6_late_25 (by decide) rfl ?_
      refine r_iinc dX6_late_26 rfl ii_s (by decide) rfl ?_
      refine r_goto (tgt := 4) dX6_late_29 (by decide) ?_
      exact ih (k + 1) _ (by omega) hx
  refine r_iconst (v := 0) dX6_late_0 (by decide) ?_
  refine r_istore_n dX6_late_1 (by decide) rfl ?_
  refine r_iconst (v := 0) dX6_late_2 (by decide) ?_
  refine r_istore_n dX6_late_3 (by decide) rfl ?_
  exact L (mn P) 0 0 (by omega) rfl
def f_log (P : tP) (p w : Int32) : Int32 := if p < 0 ∨ P 0 6 ≤ p then -11 else if w < 0 ∨ 3 ≤ w then -12 else P 3 ((en P + 31 - p.toNatClampNeg) % 16 * 3 + w.toNatClampNeg)
theorem lg_ix {x : Int32} {e p : Nat} (h : x = nI e) (h2 : e < 16) (hp : p < 16) : (x + 32 - 1 - nI p) - (x + 32 - 1 - nI p) / 16 * 16 = nI ((e + 31 - p) % 16) := by
  subst h
  have e1 : nI e + 32 - 1 - nI p = nI (e + 31 - p) := by
    rw [show nI e + 32 = nI (e + 32) from nI_add e 32, show nI (e + 32) - 1 = nI (e + 31) from nI_pred (e + 31)]
    exact pk_sub (by omega)
  rw [e1]
  exact pk_rem (d := 16) (by omega) (by omega) (by omega)
theorem lg_i2 {x : Int32} {s w : Nat} (h : x = nI s) : x * 3 + nI w = nI (s * 3 + w) := by subst h; rw [show nI s * 3 = nI (s * 3) from pk_mul s 3]; exact nI_add _ _
theorem dX6_logged_0 : decode cX6_logged 0 = .ok (.iload_n 1, 1) := by decide +kernel
theorem dX6_logged_1 : decode cX6_logged 1 = .ok (.ifCond .lt 14, 3) := by decide +kernel
theorem dX6_logged_4 : decode cX6_logged 4 = .ok (.iload_n 1, 1) := by decide +kernel
theorem dX6_logged_5 : decode cX6_logged 5 = .ok (.aload_n 0, 1) := by decide +kernel
theorem dX6_logged_6 : decode cX6_logged 6 = .ok (.getfield 12, 3) := by decide +kernel
theorem dX6_logged_9 : decode cX6_logged 9 = .ok (.getfield 161, 3) := by decide +kernel
theorem dX6_logged_12 : decode cX6_logged 12 = .ok (.if_icmp .lt 6, 3) := by decide +kernel
theorem dX6_logged_15 : decode cX6_logged 15 = .ok (.bipush (-11), 2) := by decide +kernel
theorem dX6_logged_17 : decode cX6_logged 17 = .ok (.ireturn, 1) := by decide +kernel
theorem dX6_logged_18 : decode cX6_logged 18 = .ok (.iload_n 2, 1) := by decide +kernel
theorem dX6_logged_19 : decode cX6_logged 19 = .ok (.ifCond .lt 8, 3) := by decide +kernel
theorem dX6_logged_22 : decode cX6_logged 22 = .ok (.iload_n 2, 1) := by decide +kernel
theorem dX6_logged_23 : decode cX6_logged 23 = .ok (.iconst 3, 1) := by decide +kernel
theorem dX6_logged_24 : decode cX6_logged 24 = .ok (.if_icmp .lt 6, 3) := by decide +kernel
theorem dX6_logged_27 : decode cX6_logged 27 = .ok (.bipush (-12), 2) := by decide +kernel
theorem dX6_logged_29 : decode cX6_logged 29 = .ok (.ireturn, 1) := by decide +kernel
theorem dX6_logged_30 : decode cX6_logged 30 = .ok (.aload_n 0, 1) := by decide +kernel
theorem dX6_logged_31 : decode cX6_logged 31 = .ok (.getfield 12, 3) := by decide +kernel
theorem dX6_logged_34 : decode cX6_logged 34 = .ok (.getfield 164, 3) := by decide +kernel
theorem dX6_logged_37 : decode cX6_logged 37 = .ok (.bipush 32, 2) := by decide +kernel
theorem dX6_logged_39 : decode cX6_logged 39 = .ok (.iadd, 1) := by decide +kernel
theorem dX6_logged_40 : decode cX6_logged 40 = .ok (.iconst 1, 1) := by decide +kernel
theorem dX6_logged_41 : decode cX6_logged 41 = .ok (.isub, 1) := by decide +kernel
theorem dX6_logged_42 : decode cX6_logged 42 = .ok (.iload_n 1, 1) := by decide +kernel
theorem dX6_logged_43 : decode cX6_logged 43 = .ok (.isub, 1) := by decide +kernel
theorem dX6_logged_44 : decode cX6_logged 44 = .ok (.bipush 16, 2) := by decide +kernel
theorem dX6_logged_46 : decode cX6_logged 46 = .ok (.irem, 1) := by decide +kernel
theorem dX6_logged_47 : decode cX6_logged 47 = .ok (.istore_n 3, 1) := by decide +kernel
theorem dX6_logged_48 : decode cX6_logged 48 = .ok (.aload_n 0, 1) := by decide +kernel
theorem dX6_logged_49 : decode cX6_logged 49 = .ok (.getfield 12, 3) := by decide +kernel
theorem dX6_logged_52 : decode cX6_logged 52 = .ok (.getfield 167, 3) := by decide +kernel
theorem dX6_logged_55 : decode cX6_logged 55 = .ok (.iload_n 3, 1) := by decide +kernel
theorem dX6_logged_56 : decode cX6_logged 56 = .ok (.iconst 3, 1) := by decide +kernel
theorem dX6_logged_57 : decode cX6_logged 57 = .ok (.imul, 1) := by decide +kernel
theorem dX6_logged_58 : decode cX6_logged 58 = .ok (.iload_n 2, 1) := by decide +kernel
theorem dX6_logged_59 : decode cX6_logged 59 = .ok (.iadd, 1) := by decide +kernel
theorem dX6_logged_60 : decode cX6_logged 60 = .ok (.iaload, 1) := by decide +kernel
theorem dX6_logged_61 : decode cX6_logged 61 = .ok (.ireturn, 1) := by decide +kernel
theorem dcX6_logged : yX6_logged.cls = RX6 ∧ yX6_logged.cls ≠ "java/lang/invoke/MethodHandle" ∧ yX6_logged.cls ≠ "java/lang/invoke/VarHandle" ∧ (parseMethodDescriptor yX6_logged.desc).map (fun d => d.parameters.length) = some 2 := by decide +kernel
set_option maxRecDepth 100000 in
set_option maxHeartbeats 4000000 in
theorem K_logged {cA : Nat → ClassId} {ad : tA} {ex : va_W} {M : tM} {F P : tP} {p w : Int32} (ho : oke P) (hE : okE P) : Cj yX6_logged cX6_logged 4 (some .int) (rmd 0) 0 0 cA ad [.ref (ad 0 0), .int p, .int w] ex (mm M F P) (Qe (some (.int (f_log P p w))) ex (mm M F P)) := by
  refine c_of_r (lv0 := [some (.ref (ad 0 0)), some (.int p), some (.int w), none]) rfl (by decide +kernel) (Nat.le_of_ble_eq_true rfl) rfl ?_
  refine r_iload_n dX6_logged_0 rfl ?_
  refine r_if_lt (tgt := 15) dX6_logged_1 (by decide) (fun c1 => ?_) (fun c1 => ?_)
  · refine r_bipush (v := -11) dX6_logged_15 (by decide) ?_
    first | exact r_ret rfl rfl dX6_logged_17 (show _ = f_log P p w from (if_pos (Or.inl c1)).symm) rfl | exact r_ret rfl rfl dX6_logged_17 (show _ = f_log P p w from (if_pos (Or.inr (Int32.not_lt.mp c12))).symm) rfl
  · refine r_iload_n dX6_logged_4 rfl ?_
    refine r_aload_n dX6_logged_5 rfl ?_
    refine r_getF 0 (by decide) q17 rfl dX6_logged_6 ?_
    refine r_getp_pl is1 6 (by decide) q599 rfl dX6_logged_9 ?_
    refine r_icmp_lt (tgt := 18) dX6_logged_12 (by decide) (fun c12 => ?_) (fun c12 => ?_)
    · refine r_iload_n dX6_logged_18 rfl ?_
      refine r_if_lt (tgt := 27) dX6_logged_19 (by decide) (fun c19 => ?_) (fun c19 => ?_)
      · refine r_bipush (v := -12) dX6_logged_27 (by decide) ?_
        first | exact r_ret rfl rfl dX6_logged_29 (show _ = f_log P p w from ((if_neg (n2 c1 (Int32.not_le.mpr c12))).trans (if_pos (Or.inl c19))).symm) rfl | exact r_ret rfl rfl dX6_logged_29 (show _ = f_log P p w from ((if_neg (n2 c1 (Int32.not_le.mpr c12))).trans (if_pos (Or.inr (Int32.not_lt.mp c24)))).symm) rfl
      · refine r_iload_n dX6_logged_22 rfl ?_
        refine r_iconst (v := 3) dX6_logged_23 (by decide) ?_
        refine r_icmp_lt (tgt := 30) dX6_logged_24 (by decide) (fun c24 => ?_) (fun c24 => ?_)
        · obtain ⟨k, hk1, hk3, hk4⟩ := pos_of hE.1 (by have := hE.2; omega) c1 c12
          obtain ⟨j, hj1, hj3, hj4⟩ := pos_of (y := 3) (n := 3) rfl (by omega) c19 c24
          have hk : k < 16 := by have := hE.2; omega
          have e : f_log P p w = P 3 ((en P + 31 - k) % 16 * 3 + j) := (if_neg (n2 c1 (Int32.not_le.mpr c12))).trans ((if_neg (n2 c19 (Int32.not_le.mpr c24))).trans (by rw [hk4, hj4]))
          have hix := lg_ix ho.1 ho.2 hk
          have hs16 : (en P + 31 - k) % 16 < 16 := Nat.mod_lt _ (by omega)
          subst hk3
          subst hj3
          refine r_aload_n dX6_logged_30 rfl ?_
          refine r_getF 0 (by decide) q17 rfl dX6_logged_31 ?_
          refine r_getp_pl is1 5 (by decide) q600 rfl dX6_logged_34 ?_
          refine r_bipush (v := 32) dX6_logged_37 (by decide) ?_
          refine r_iadd dX6_logged_39 ?_
          refine r_iconst (v := 1) dX6_logged_40 (by decide) ?_
          refine r_isub dX6_logged_41 ?_
          refine r_iload_n dX6_logged_42 rfl ?_
          refine r_isub dX6_logged_43 ?_
          refine r_bipush (v := 16) dX6_logged_44 (by decide) ?_
          refine r_irem dX6_logged_46 (by decide) ?_
          refine r_istore_n dX6_logged_47 (by decide) rfl ?_
          refine r_aload_n dX6_logged_48 rfl ?_
          refine r_getF 0 (by decide) q17 rfl dX6_logged_49 ?_
          refine r_getp_pl is1 4 (by decide) q601 rfl dX6_logged_52 ?_
          refine r_iload_n dX6_logged_55 rfl ?_
          refine r_iconst (v := 3) dX6_logged_56 (by decide) ?_
          refine r_imul dX6_logged_57 ?_
          refine r_iload_n dX6_logged_58 rfl ?_
          refine r_iadd dX6_logged_59 ?_
          refine r_ldp_ev is1 (lg_i2 hix) (by omega) dX6_logged_60 ?_
          exact r_ret rfl rfl dX6_logged_61 e.symm rfl
        · refine r_bipush (v := -12) dX6_logged_27 (by decide) ?_
          first | exact r_ret rfl rfl dX6_logged_29 (show _ = f_log P p w from ((if_neg (n2 c1 (Int32.not_le.mpr c12))).trans (if_pos (Or.inl c19))).symm) rfl | exact r_ret rfl rfl dX6_logged_29 (show _ = f_log P p w from ((if_neg (n2 c1 (Int32.not_le.mpr c12))).trans (if_pos (Or.inr (Int32.not_lt.mp c24)))).symm) rfl
    · refine r_bipush (v := -11) dX6_logged_15 (by decide) ?_
      first | exact r_ret rfl rfl dX6_logged_17 (show _ = f_log P p w from (if_pos (Or.inl c1)).symm) rfl | exact r_ret rfl rfl dX6_logged_17 (show _ = f_log P p w from (if_pos (Or.inr (Int32.not_lt.mp c12))).symm) rfl
def lp_rk (P : tP) (p : Int32) : Nat → Nat → Int32
  | 0, _ => -11
  | n + 1, i => if f_sao P i = p then nI i else lp_rk P p n (i + 1)
def f_rank (P : tP) (p : Int32) : Int32 := lp_rk P p (cn P) 0
theorem rk_a {P : tP} {p : Int32} {n i : Nat} (h : f_sao P i = p) : lp_rk P p (n + 1) i = nI i := if_pos h
theorem rk_b {P : tP} {p : Int32} {n i : Nat} (h : ¬ f_sao P i = p) : lp_rk P p (n + 1) i = lp_rk P p n (i + 1) := if_neg h
theorem dX6_ranked_0 : decode cX6_ranked 0 = .ok (.iconst 0, 1) := by decide +kernel
theorem dX6_ranked_1 : decode cX6_ranked 1 = .ok (.istore_n 2, 1) := by decide +kernel
theorem dX6_ranked_2 : decode cX6_ranked 2 = .ok (.iload_n 2, 1) := by decide +kernel
theorem dX6_ranked_3 : decode cX6_ranked 3 = .ok (.aload_n 0, 1) := by decide +kernel
theorem dX6_ranked_4 : decode cX6_ranked 4 = .ok (.getfield 12, 3) := by decide +kernel
theorem dX6_ranked_7 : decode cX6_ranked 7 = .ok (.getfield 170, 3) := by decide +kernel
theorem dX6_ranked_10 : decode cX6_ranked 10 = .ok (.if_icmp .ge 23, 3) := by decide +kernel
theorem dX6_ranked_13 : decode cX6_ranked 13 = .ok (.aload_n 0, 1) := by decide +kernel
theorem dX6_ranked_14 : decode cX6_ranked 14 = .ok (.getfield 12, 3) := by decide +kernel
theorem dX6_ranked_17 : decode cX6_ranked 17 = .ok (.iload_n 2, 1) := by decide +kernel
theorem dX6_ranked_18 : decode cX6_ranked 18 = .ok (.invokevirtual 173, 3) := by decide +kernel
theorem dX6_ranked_21 : decode cX6_ranked 21 = .ok (.iload_n 1, 1) := by decide +kernel
theorem dX6_ranked_22 : decode cX6_ranked 22 = .ok (.if_icmp .ne 5, 3) := by decide +kernel
theorem dX6_ranked_25 : decode cX6_ranked 25 = .ok (.iload_n 2, 1) := by decide +kernel
theorem dX6_ranked_26 : decode cX6_ranked 26 = .ok (.ireturn, 1) := by decide +kernel
theorem dX6_ranked_27 : decode cX6_ranked 27 = .ok (.iinc 2 1, 3) := by decide +kernel
theorem dX6_ranked_30 : decode cX6_ranked 30 = .ok (.goto (-28), 3) := by decide +kernel
theorem dX6_ranked_33 : decode cX6_ranked 33 = .ok (.bipush (-11), 2) := by decide +kernel
theorem dX6_ranked_35 : decode cX6_ranked 35 = .ok (.ireturn, 1) := by decide +kernel
theorem dcX6_ranked : yX6_ranked.cls = RX6 ∧ yX6_ranked.cls ≠ "java/lang/invoke/MethodHandle" ∧ yX6_ranked.cls ≠ "java/lang/invoke/VarHandle" ∧ (parseMethodDescriptor yX6_ranked.desc).map (fun d => d.parameters.length) = some 1 := by decide +kernel
theorem gX6_ranked_18 : GoodIn wsL_law (wsV RX6 173 RX4 yX4_stepsAheadOf (.code yX4_stepsAheadOf cX4_stepsAheadOf 4 (some .int) :: wsL_law)) := g_V q549 q550 q551 q16 q552
set_option maxRecDepth 100000 in
set_option maxHeartbeats 4000000 in
theorem K_ranked {cA : Nat → ClassId} {ad : tA} {ex : va_W} {M : tM} {F P : tP} {p : Int32} (hoc : okc P) : Cj yX6_ranked cX6_ranked 3 (some .int) (rmd 2) 0 0 cA ad [.ref (ad 0 0), .int p] ex (mm M F P) (Qe (some (.int (f_rank P p))) ex (mm M F P)) := by
  refine c_of_r (lv0 := [some (.ref (ad 0 0)), some (.int p), none]) rfl (by decide +kernel) (Nat.le_of_ble_eq_true rfl) rfl ?_
  have L : ∀ (n i : Nat), i + n = cn P → lp_rk P p n i = f_rank P p → Rj cX6_ranked RX6 3 (some .int) (rmd 2) 0 0 cA ad (Qe (some (.int (f_rank P p))) ex (mm M F P)) ex 0 0 2 [some (.ref (ad 0 0)), some (.int p), some (.int (nI i))] [] (mm M F P) := by
    intro n
    induction n with
    | zero =>
      intro i h hx
      refine r_iload_n dX6_ranked_2 rfl ?_
      refine r_aload_n dX6_ranked_3 rfl ?_
      refine r_getF 0 (by decide) q17 rfl dX6_ranked_4 ?_
      refine r_getp_pl is1 1 (by decide) q153 rfl dX6_ranked_7 ?_
      refine r_icmp_ge (tgt := 33) dX6_ranked_10 (by decide) (fun c10 => ?_) (fun c10 => absurd (lp_z hoc.1 h) c10)
      refine r_bipush (v := -11) dX6_ranked_33 (by decide) ?_
      exact r_ret rfl rfl dX6_ranked_35 hx rfl
    | succ n ih =>
      intro i h hx
      have hi : i < 12 := by have := hoc.2; omega
      refine r_iload_n dX6_ranked_2 rfl ?_
      refine r_aload_n dX6_ranked_3 rfl ?_
      refine r_getF 0 (by decide) q17 rfl dX6_ranked_4 ?_
      refine r_getp_pl is1 1 (by decide) q153 rfl dX6_ranked_7 ?_
      refine r_icmp_ge (tgt := 33) dX6_ranked_10 (by decide) (fun c10 => absurd c10 (lp_s hoc.1 hoc.2 h)) (fun c10 => ?_)
      refine r_aload_n dX6_ranked_13 rfl ?_
      refine r_getF 0 (by decide) q17 rfl dX6_ranked_14 ?_
      refine r_iload_n dX6_ranked_17 rfl ?_
      refine r_cVi dX6_ranked_18 (K_sao (j := i) is1 hoc.1 hoc.2 hi) gX6_ranked_18 dcX4_stepsAheadOf rfl rfl rfl (Nat.le_of_ble_eq_true rfl) (ob_pl is1) ?_
      refine r_iload_n dX6_ranked_21 rfl ?_
      refine r_icmp_ne (tgt := 27) dX6_ranked_22 (by decide) (fun c22 => ?_) (fun c22 => ?_)
      · refine r_iinc dX6_ranked_27 rfl ii_s (by decide) rfl ?_
        refine r_goto (tgt := 2) dX6_ranked_30 (by decide) ?_
        exact ih (i + 1) (by omega) ((rk_b c22).symm.trans hx)
      · refine r_iload_n dX6_ranked_25 rfl ?_
        exact r_ret rfl rfl dX6_ranked_26 ((rk_a c22).symm.trans hx) rfl
  refine r_iconst (v := 0) dX6_ranked_0 (by decide) ?_
  refine r_istore_n dX6_ranked_1 (by decide) rfl ?_
  exact L (cn P) 0 (by omega) rfl
theorem KT_mn {cA : Nat → ClassId} {ad : tA} {ex : va_W} {M : tM} {F P : tP} (hoc : okc P) : Cj yX0_measureByNeeds cX0_measureByNeeds 3 none (rmd 15) 0 0 cA ad [.ref (ad 15 0), .ref (ad 1 0)] ex (mm M F P) (Qe none ex (mm (m_pl M 15 (f_mn P (M 15))) F P)) := by
  have h := K_mn (cA := cA) (ad := ad) (ex := ex) (M := mm M F P) (C0 := M 15) is1 (by omega) (by rw [mm_1]; exact hoc)
  rw [mm_1] at h
  exact cmm (by omega) rfl h
theorem KT_mr {cA : Nat → ClassId} {ad : tA} {ex : va_W} {M : tM} {F P : tP} (hoc : okc P) : Cj yX0_measureByRounds cX0_measureByRounds 5 none (rmd 1) 0 0 cA ad [.ref (ad 15 0), .ref (ad 1 0)] ex (mm M F P) (Qe none ex (mm (m_pl M 15 (f_mr P (M 15))) F P)) := by
  have h := K_mr (cA := cA) (ad := ad) (ex := ex) (M := mm M F P) (C0 := M 15) is1 (by omega) (by rw [mm_1]; exact hoc)
  rw [mm_1] at h
  exact cmm (by omega) rfl h
theorem KT_pst {cA : Nat → ClassId} {ad : tA} {ex : va_W} {M : tM} {F P : tP} {s j : Nat} (hj : j < 12) (hl : okl (M 14)) : Cj yX1_putStep cX1_putStep 4 none (rmd 2) 0 0 cA ad [.ref (ad 14 0), .int (nI s), .ref (ad 1 (4 + j))] ex (mm M F P) (Qe none ex (mm (m_pl M 14 (f_pst (M 14) s (P (4 + j)))) F P)) := by
  have h := K_pst (cA := cA) (ad := ad) (ex := ex) (M := mm M F P) (N0 := M 14) (s := s) is1 (by omega) hj hl
  rw [mm_1] at h
  exact cmm (by omega) rfl h
def t_chain (P C : tP) (s : Int32) : Int32 × tP := if f_hasStep P s = false then (-11, C) else (f_mn P C 1 s.toNatClampNeg, f_mn P C)
def t_chain2 (P C : tP) (s : Int32) : Int32 × tP := if f_hasStep P s = false then (-11, C) else (f_mr P C 2 s.toNatClampNeg, f_mr P C)
theorem dX6_chain_0 : decode cX6_chain 0 = .ok (.aload_n 0, 1) := by decide +kernel
theorem dX6_chain_1 : decode cX6_chain 1 = .ok (.getfield 12, 3) := by decide +kernel
theorem dX6_chain_4 : decode cX6_chain 4 = .ok (.iload_n 1, 1) := by decide +kernel
theorem dX6_chain_5 : decode cX6_chain 5 = .ok (.invokevirtual 77, 3) := by decide +kernel
theorem dX6_chain_8 : decode cX6_chain 8 = .ok (.ifCond .ne 6, 3) := by decide +kernel
theorem dX6_chain_11 : decode cX6_chain 11 = .ok (.bipush (-11), 2) := by decide +kernel
theorem dX6_chain_13 : decode cX6_chain 13 = .ok (.ireturn, 1) := by decide +kernel
theorem dX6_chain_14 : decode cX6_chain 14 = .ok (.aload_n 0, 1) := by decide +kernel
theorem dX6_chain_15 : decode cX6_chain 15 = .ok (.getfield 43, 3) := by decide +kernel
theorem dX6_chain_18 : decode cX6_chain 18 = .ok (.aload_n 0, 1) := by decide +kernel
theorem dX6_chain_19 : decode cX6_chain 19 = .ok (.getfield 12, 3) := by decide +kernel
theorem dX6_chain_22 : decode cX6_chain 22 = .ok (.invokevirtual 149, 3) := by decide +kernel
theorem dX6_chain_25 : decode cX6_chain 25 = .ok (.aload_n 0, 1) := by decide +kernel
theorem dX6_chain_26 : decode cX6_chain 26 = .ok (.getfield 43, 3) := by decide +kernel
theorem dX6_chain_29 : decode cX6_chain 29 = .ok (.getfield 152, 3) := by decide +kernel
theorem dX6_chain_32 : decode cX6_chain 32 = .ok (.iload_n 1, 1) := by decide +kernel
theorem dX6_chain_33 : decode cX6_chain 33 = .ok (.iaload, 1) := by decide +kernel
theorem dX6_chain_34 : decode cX6_chain 34 = .ok (.ireturn, 1) := by decide +kernel
theorem dcX6_chain : yX6_chain.cls = RX6 ∧ yX6_chain.cls ≠ "java/lang/invoke/MethodHandle" ∧ yX6_chain.cls ≠ "java/lang/invoke/VarHandle" ∧ (parseMethodDescriptor yX6_chain.desc).map (fun d => d.parameters.length) = some 1 := by decide +kernel
theorem gX6_chain_5 : GoodIn wsL_law (wsV RX6 77 RX4 yX4_hasStep (.code yX4_hasStep cX4_hasStep 2 (some .boolean) :: wsL_law)) := g_V q317 q318 q319 q16 q320
theorem gX6_chain_22 : GoodIn wsL_law (wsV RX6 149 RX0 yX0_measureByNeeds (.code yX0_measureByNeeds cX0_measureByNeeds 3 none :: wsL_law)) := g_V q442 q443 q444 q31 q445
set_option maxRecDepth 100000 in
set_option maxHeartbeats 4000000 in
theorem K_chain {cA : Nat → ClassId} {ad : tA} {ex : va_W} {M : tM} {F P : tP} {s : Int32} (hoc : okc P) : Cj yX6_chain cX6_chain 2 (some .int) (rmd 16) 0 0 cA ad [.ref (ad 0 0), .int s] ex (mm M F P) (Qe (some (.int (t_chain P (M 15) s).1)) ex (mm (m_pl M 15 (t_chain P (M 15) s).2) F P)) := by
  refine c_of_r (lv0 := [some (.ref (ad 0 0)), some (.int s)]) rfl (by decide +kernel) (Nat.le_of_ble_eq_true rfl) rfl ?_
  refine r_aload_n dX6_chain_0 rfl ?_
  refine r_getF 0 (by decide) q17 rfl dX6_chain_1 ?_
  refine r_iload_n dX6_chain_4 rfl ?_
  refine r_cVi dX6_chain_5 (K_hasStep is1) gX6_chain_5 dcX4_hasStep rfl rfl rfl (Nat.le_of_ble_eq_true rfl) (ob_pl is1) ?_
  refine r_if_ne (tgt := 14) dX6_chain_8 (by decide) (fun c8 => ?_) (fun c8 => ?_)
  · obtain ⟨i, hi1, hi2, hi3, hi4⟩ := hs_of hoc (bt c8)
    have e : t_chain P (M 15) s = (f_mn P (M 15) 1 i, f_mn P (M 15)) := (if_neg (nf_of c8)).trans (by rw [hi4])
    refine r_aload_n dX6_chain_14 rfl ?_
    refine r_getF 9 (by decide) q32 rfl dX6_chain_15 ?_
    refine r_aload_n dX6_chain_18 rfl ?_
    refine r_getF 0 (by decide) q17 rfl dX6_chain_19 ?_
    refine r_cVv dX6_chain_22 (KT_mn hoc) gX6_chain_22 dcX0_measureByNeeds rfl rfl rfl (Nat.le_of_ble_eq_true rfl) ob_ch ?_
    refine r_aload_n dX6_chain_25 rfl ?_
    refine r_getF 9 (by decide) q32 rfl dX6_chain_26 ?_
    refine r_get_ch 0 (by decide) q441 rfl dX6_chain_29 ?_
    refine r_iload_n dX6_chain_32 rfl ?_
    refine r_ldm_cn hi3 hi2 (by rw [m_pl_s]) dX6_chain_33 ?_
    exact r_ret rfl rfl dX6_chain_34 (by rw [e]) (by rw [e])
  · refine r_bipush (v := -11) dX6_chain_11 (by decide) ?_
    exact r_ret rfl rfl dX6_chain_13 (a_a (show t_chain P (M 15) s = _ from if_pos (bF c8))) (a_m (by omega) (show t_chain P (M 15) s = _ from if_pos (bF c8)))
theorem dX6_chainAgain_0 : decode cX6_chainAgain 0 = .ok (.aload_n 0, 1) := by decide +kernel
theorem dX6_chainAgain_1 : decode cX6_chainAgain 1 = .ok (.getfield 12, 3) := by decide +kernel
theorem dX6_chainAgain_4 : decode cX6_chainAgain 4 = .ok (.iload_n 1, 1) := by decide +kernel
theorem dX6_chainAgain_5 : decode cX6_chainAgain 5 = .ok (.invokevirtual 77, 3) := by decide +kernel
theorem dX6_chainAgain_8 : decode cX6_chainAgain 8 = .ok (.ifCond .ne 6, 3) := by decide +kernel
theorem dX6_chainAgain_11 : decode cX6_chainAgain 11 = .ok (.bipush (-11), 2) := by decide +kernel
theorem dX6_chainAgain_13 : decode cX6_chainAgain 13 = .ok (.ireturn, 1) := by decide +kernel
theorem dX6_chainAgain_14 : decode cX6_chainAgain 14 = .ok (.aload_n 0, 1) := by decide +kernel
theorem dX6_chainAgain_15 : decode cX6_chainAgain 15 = .ok (.getfield 43, 3) := by decide +kernel
theorem dX6_chainAgain_18 : decode cX6_chainAgain 18 = .ok (.aload_n 0, 1) := by decide +kernel
theorem dX6_chainAgain_19 : decode cX6_chainAgain 19 = .ok (.getfield 12, 3) := by decide +kernel
theorem dX6_chainAgain_22 : decode cX6_chainAgain 22 = .ok (.invokevirtual 155, 3) := by decide +kernel
theorem dX6_chainAgain_25 : decode cX6_chainAgain 25 = .ok (.aload_n 0, 1) := by decide +kernel
theorem dX6_chainAgain_26 : decode cX6_chainAgain 26 = .ok (.getfield 43, 3) := by decide +kernel
theorem dX6_chainAgain_29 : decode cX6_chainAgain 29 = .ok (.getfield 158, 3) := by decide +kernel
theorem dX6_chainAgain_32 : decode cX6_chainAgain 32 = .ok (.iload_n 1, 1) := by decide +kernel
theorem dX6_chainAgain_33 : decode cX6_chainAgain 33 = .ok (.iaload, 1) := by decide +kernel
theorem dX6_chainAgain_34 : decode cX6_chainAgain 34 = .ok (.ireturn, 1) := by decide +kernel
theorem dcX6_chainAgain : yX6_chainAgain.cls = RX6 ∧ yX6_chainAgain.cls ≠ "java/lang/invoke/MethodHandle" ∧ yX6_chainAgain.cls ≠ "java/lang/invoke/VarHandle" ∧ (parseMethodDescriptor yX6_chainAgain.desc).map (fun d => d.parameters.length) = some 1 := by decide +kernel
theorem gX6_chainAgain_5 : GoodIn wsL_law (wsV RX6 77 RX4 yX4_hasStep (.code yX4_hasStep cX4_hasStep 2 (some .boolean) :: wsL_law)) := g_V q317 q318 q319 q16 q320
theorem gX6_chainAgain_22 : GoodIn wsL_law (wsV RX6 155 RX0 yX0_measureByRounds (.code yX0_measureByRounds cX0_measureByRounds 5 none :: wsL_law)) := g_V q459 q460 q461 q31 q462
set_option maxRecDepth 100000 in
set_option maxHeartbeats 4000000 in
theorem K_chain2 {cA : Nat → ClassId} {ad : tA} {ex : va_W} {M : tM} {F P : tP} {s : Int32} (hoc : okc P) : Cj yX6_chainAgain cX6_chainAgain 2 (some .int) (rmd 16) 0 0 cA ad [.ref (ad 0 0), .int s] ex (mm M F P) (Qe (some (.int (t_chain2 P (M 15) s).1)) ex (mm (m_pl M 15 (t_chain2 P (M 15) s).2) F P)) := by
  refine c_of_r (lv0 := [some (.ref (ad 0 0)), some (.int s)]) rfl (by decide +kernel) (Nat.le_of_ble_eq_true rfl) rfl ?_
  refine r_aload_n dX6_chainAgain_0 rfl ?_
  refine r_getF 0 (by decide) q17 rfl dX6_chainAgain_1 ?_
  refine r_iload_n dX6_chainAgain_4 rfl ?_
  refine r_cVi dX6_chainAgain_5 (K_hasStep is1) gX6_chainAgain_5 dcX4_hasStep rfl rfl rfl (Nat.le_of_ble_eq_true rfl) (ob_pl is1) ?_
  refine r_if_ne (tgt := 14) dX6_chainAgain_8 (by decide) (fun c8 => ?_) (fun c8 => ?_)
  · obtain ⟨i, hi1, hi2, hi3, hi4⟩ := hs_of hoc (bt c8)
    have e : t_chain2 P (M 15) s = (f_mr P (M 15) 2 i, f_mr P (M 15)) := (if_neg (nf_of c8)).trans (by rw [hi4])
    refine r_aload_n dX6_chainAgain_14 rfl ?_
    refine r_getF 9 (by decide) q32 rfl dX6_chainAgain_15 ?_
    refine r_aload_n dX6_chainAgain_18 rfl ?_
    refine r_getF 0 (by decide) q17 rfl dX6_chainAgain_19 ?_
    refine r_cVv dX6_chainAgain_22 (KT_mr hoc) gX6_chainAgain_22 dcX0_measureByRounds rfl rfl rfl (Nat.le_of_ble_eq_true rfl) ob_ch ?_
    refine r_aload_n dX6_chainAgain_25 rfl ?_
    refine r_getF 9 (by decide) q32 rfl dX6_chainAgain_26 ?_
    refine r_get_ch 1 (by decide) q458 rfl dX6_chainAgain_29 ?_
    refine r_iload_n dX6_chainAgain_32 rfl ?_
    refine r_ldm_cr hi3 hi2 (by rw [m_pl_s]) dX6_chainAgain_33 ?_
    exact r_ret rfl rfl dX6_chainAgain_34 (by rw [e]) (by rw [e])
  · refine r_bipush (v := -11) dX6_chainAgain_11 (by decide) ?_
    exact r_ret rfl rfl dX6_chainAgain_13 (a_a (show t_chain2 P (M 15) s = _ from if_pos (bF c8))) (a_m (by omega) (show t_chain2 P (M 15) s = _ from if_pos (bF c8)))

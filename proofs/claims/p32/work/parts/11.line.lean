/-! PART 11: readOrder, readOrders, addSign; the line -/
def f_rd1 (T1 : tP) (k : Nat) (x : Int32) : Bool × tP :=
  if x = 115 then f_rs T1 k else if x = 110 then f_rp T1 k 1 32 2 else if x = 102 then f_rp T1 k 2 42 1 else if x = 104 then f_ro T1 k 3 1
  else if x = 99 then f_ro T1 k 4 1 else if x = 109 then f_rp T1 k 5 64 3 else if x = 100 then f_ro T1 k 6 2 else (false, T1)
def f_rd (T : tP) (k : Nat) : Bool × tP := if T 0 1 ≤ T 0 2 then (false, T) else f_rd1 (pu T (3 + k) 0 (T 1 (ta T))) k (T 1 (ta T))
theorem kt_rd1 {T : tP} {k : Nat} {x : Int32} : kt T (f_rd1 T k x).2 := by
  unfold f_rd1
  repeat' split
  · exact kt_rs
  · exact kt_rp
  · exact kt_rp
  · exact kt_ro
  · exact kt_ro
  · exact kt_rp
  · exact kt_ro
  · exact kt_rfl
theorem kt_rd {T : tP} {k : Nat} : kt T (f_rd T k).2 := by
  unfold f_rd
  split
  · exact kt_rfl
  · exact kt_tr kt_or kt_rd1
theorem rd_no {T : tP} {k q : Nat} (hq : q < 65536) (h : q ≠ 115 ∧ q ≠ 110 ∧ q ≠ 102 ∧ q ≠ 104 ∧ q ≠ 99 ∧ q ≠ 109 ∧ q ≠ 100) : f_rd1 T k (nI q) = (false, T) := by
  have f : ∀ a : Nat, a < 65536 → q ≠ a → ¬ nI q = nI a := fun a ha hn e => hn ((nI_eq (by omega) (by omega)).mp e)
  unfold f_rd1
  rw [if_neg (show ¬ nI q = 115 from f 115 (by omega) h.1), if_neg (show ¬ nI q = 110 from f 110 (by omega) h.2.1), if_neg (show ¬ nI q = 102 from f 102 (by omega) h.2.2.1), if_neg (show ¬ nI q = 104 from f 104 (by omega) h.2.2.2.1), if_neg (show ¬ nI q = 99 from f 99 (by omega) h.2.2.2.2.1), if_neg (show ¬ nI q = 109 from f 109 (by omega) h.2.2.2.2.2.1), if_neg (show ¬ nI q = 100 from f 100 (by omega) h.2.2.2.2.2.2)]
theorem dX3_readOrder_0 : decode cX3_readOrder 0 = .ok (.aload_n 0, 1) := by decide +kernel
theorem dX3_readOrder_1 : decode cX3_readOrder 1 = .ok (.getfield 26, 3) := by decide +kernel
theorem dX3_readOrder_4 : decode cX3_readOrder 4 = .ok (.aload_n 0, 1) := by decide +kernel
theorem dX3_readOrder_5 : decode cX3_readOrder 5 = .ok (.getfield 22, 3) := by decide +kernel
theorem dX3_readOrder_8 : decode cX3_readOrder 8 = .ok (.if_icmp .lt 5, 3) := by decide +kernel
theorem dX3_readOrder_11 : decode cX3_readOrder 11 = .ok (.iconst 0, 1) := by decide +kernel
theorem dX3_readOrder_12 : decode cX3_readOrder 12 = .ok (.ireturn, 1) := by decide +kernel
theorem dX3_readOrder_13 : decode cX3_readOrder 13 = .ok (.aload_n 1, 1) := by decide +kernel
theorem dX3_readOrder_14 : decode cX3_readOrder 14 = .ok (.aload_n 0, 1) := by decide +kernel
theorem dX3_readOrder_15 : decode cX3_readOrder 15 = .ok (.getfield 9, 3) := by decide +kernel
theorem dX3_readOrder_18 : decode cX3_readOrder 18 = .ok (.aload_n 0, 1) := by decide +kernel
theorem dX3_readOrder_19 : decode cX3_readOrder 19 = .ok (.getfield 26, 3) := by decide +kernel
theorem dX3_readOrder_22 : decode cX3_readOrder 22 = .ok (.caload, 1) := by decide +kernel
theorem dX3_readOrder_23 : decode cX3_readOrder 23 = .ok (.putfield 40, 3) := by decide +kernel
theorem dX3_readOrder_26 : decode cX3_readOrder 26 = .ok (.aload_n 1, 1) := by decide +kernel
theorem dX3_readOrder_27 : decode cX3_readOrder 27 = .ok (.getfield 40, 3) := by decide +kernel
theorem dX3_readOrder_30 : decode cX3_readOrder 30 = .ok (.tableswitch 148 99 115 #[119, 139, 148, 99, 148, 110, 148, 148, 148, 148, 128, 88, 148, 148, 148, 148, 82], 82) := by decide +kernel
theorem dX3_readOrder_112 : decode cX3_readOrder 112 = .ok (.aload_n 0, 1) := by decide +kernel
theorem dX3_readOrder_113 : decode cX3_readOrder 113 = .ok (.aload_n 1, 1) := by decide +kernel
theorem dX3_readOrder_114 : decode cX3_readOrder 114 = .ok (.invokevirtual 44, 3) := by decide +kernel
theorem dX3_readOrder_117 : decode cX3_readOrder 117 = .ok (.ireturn, 1) := by decide +kernel
theorem dX3_readOrder_118 : decode cX3_readOrder 118 = .ok (.aload_n 0, 1) := by decide +kernel
theorem dX3_readOrder_119 : decode cX3_readOrder 119 = .ok (.aload_n 1, 1) := by decide +kernel
theorem dX3_readOrder_120 : decode cX3_readOrder 120 = .ok (.ldc 47, 2) := by decide +kernel
theorem dX3_readOrder_122 : decode cX3_readOrder 122 = .ok (.bipush 32, 2) := by decide +kernel
theorem dX3_readOrder_124 : decode cX3_readOrder 124 = .ok (.iconst 2, 1) := by decide +kernel
theorem dX3_readOrder_125 : decode cX3_readOrder 125 = .ok (.invokevirtual 49, 3) := by decide +kernel
theorem dX3_readOrder_128 : decode cX3_readOrder 128 = .ok (.ireturn, 1) := by decide +kernel
theorem dX3_readOrder_129 : decode cX3_readOrder 129 = .ok (.aload_n 0, 1) := by decide +kernel
theorem dX3_readOrder_130 : decode cX3_readOrder 130 = .ok (.aload_n 1, 1) := by decide +kernel
theorem dX3_readOrder_131 : decode cX3_readOrder 131 = .ok (.ldc 53, 2) := by decide +kernel
theorem dX3_readOrder_133 : decode cX3_readOrder 133 = .ok (.bipush 42, 2) := by decide +kernel
theorem dX3_readOrder_135 : decode cX3_readOrder 135 = .ok (.iconst 1, 1) := by decide +kernel
theorem dX3_readOrder_136 : decode cX3_readOrder 136 = .ok (.invokevirtual 49, 3) := by decide +kernel
theorem dX3_readOrder_139 : decode cX3_readOrder 139 = .ok (.ireturn, 1) := by decide +kernel
theorem dX3_readOrder_140 : decode cX3_readOrder 140 = .ok (.aload_n 0, 1) := by decide +kernel
theorem dX3_readOrder_141 : decode cX3_readOrder 141 = .ok (.aload_n 1, 1) := by decide +kernel
theorem dX3_readOrder_142 : decode cX3_readOrder 142 = .ok (.ldc 55, 2) := by decide +kernel
theorem dX3_readOrder_144 : decode cX3_readOrder 144 = .ok (.iconst 1, 1) := by decide +kernel
theorem dX3_readOrder_145 : decode cX3_readOrder 145 = .ok (.invokevirtual 57, 3) := by decide +kernel
theorem dX3_readOrder_148 : decode cX3_readOrder 148 = .ok (.ireturn, 1) := by decide +kernel
theorem dX3_readOrder_149 : decode cX3_readOrder 149 = .ok (.aload_n 0, 1) := by decide +kernel
theorem dX3_readOrder_150 : decode cX3_readOrder 150 = .ok (.aload_n 1, 1) := by decide +kernel
theorem dX3_readOrder_151 : decode cX3_readOrder 151 = .ok (.ldc 61, 2) := by decide +kernel
theorem dX3_readOrder_153 : decode cX3_readOrder 153 = .ok (.iconst 1, 1) := by decide +kernel
theorem dX3_readOrder_154 : decode cX3_readOrder 154 = .ok (.invokevirtual 57, 3) := by decide +kernel
theorem dX3_readOrder_157 : decode cX3_readOrder 157 = .ok (.ireturn, 1) := by decide +kernel
theorem dX3_readOrder_158 : decode cX3_readOrder 158 = .ok (.aload_n 0, 1) := by decide +kernel
theorem dX3_readOrder_159 : decode cX3_readOrder 159 = .ok (.aload_n 1, 1) := by decide +kernel
theorem dX3_readOrder_160 : decode cX3_readOrder 160 = .ok (.ldc 63, 2) := by decide +kernel
theorem dX3_readOrder_162 : decode cX3_readOrder 162 = .ok (.bipush 64, 2) := by decide +kernel
theorem dX3_readOrder_164 : decode cX3_readOrder 164 = .ok (.iconst 3, 1) := by decide +kernel
theorem dX3_readOrder_165 : decode cX3_readOrder 165 = .ok (.invokevirtual 49, 3) := by decide +kernel
theorem dX3_readOrder_168 : decode cX3_readOrder 168 = .ok (.ireturn, 1) := by decide +kernel
theorem dX3_readOrder_169 : decode cX3_readOrder 169 = .ok (.aload_n 0, 1) := by decide +kernel
theorem dX3_readOrder_170 : decode cX3_readOrder 170 = .ok (.aload_n 1, 1) := by decide +kernel
theorem dX3_readOrder_171 : decode cX3_readOrder 171 = .ok (.ldc 65, 2) := by decide +kernel
theorem dX3_readOrder_173 : decode cX3_readOrder 173 = .ok (.iconst 2, 1) := by decide +kernel
theorem dX3_readOrder_174 : decode cX3_readOrder 174 = .ok (.invokevirtual 57, 3) := by decide +kernel
theorem dX3_readOrder_177 : decode cX3_readOrder 177 = .ok (.ireturn, 1) := by decide +kernel
theorem dX3_readOrder_178 : decode cX3_readOrder 178 = .ok (.iconst 0, 1) := by decide +kernel
theorem dX3_readOrder_179 : decode cX3_readOrder 179 = .ok (.ireturn, 1) := by decide +kernel
theorem dcX3_readOrder : yX3_readOrder.cls = RX3 ∧ yX3_readOrder.cls ≠ "java/lang/invoke/MethodHandle" ∧ yX3_readOrder.cls ≠ "java/lang/invoke/VarHandle" ∧ (parseMethodDescriptor yX3_readOrder.desc).map (fun d => d.parameters.length) = some 1 := by decide +kernel
theorem gX3_readOrder_154 : GoodIn wsL_law (wsV RX3 57 RX3 yX3_readOne (.code yX3_readOne cX3_readOne 4 (some .boolean) :: wsL_law)) := g_V q200 q201 q202 q23 q203
theorem gX3_readOrder_174 : GoodIn wsL_law (wsV RX3 57 RX3 yX3_readOne (.code yX3_readOne cX3_readOne 4 (some .boolean) :: wsL_law)) := g_V q200 q201 q202 q23 q203
theorem gX3_readOrder_136 : GoodIn wsL_law (wsV RX3 49 RX3 yX3_readPair (.code yX3_readPair cX3_readPair 5 (some .boolean) :: wsL_law)) := g_V q269 q270 q271 q23 q272
theorem gX3_readOrder_145 : GoodIn wsL_law (wsV RX3 57 RX3 yX3_readOne (.code yX3_readOne cX3_readOne 4 (some .boolean) :: wsL_law)) := g_V q200 q201 q202 q23 q203
theorem gX3_readOrder_165 : GoodIn wsL_law (wsV RX3 49 RX3 yX3_readPair (.code yX3_readPair cX3_readPair 5 (some .boolean) :: wsL_law)) := g_V q269 q270 q271 q23 q272
theorem gX3_readOrder_125 : GoodIn wsL_law (wsV RX3 49 RX3 yX3_readPair (.code yX3_readPair cX3_readPair 5 (some .boolean) :: wsL_law)) := g_V q269 q270 q271 q23 q272
theorem gX3_readOrder_114 : GoodIn wsL_law (wsV RX3 44 RX3 yX3_readStep (.code yX3_readStep cX3_readStep 2 (some .boolean) :: wsL_law)) := g_V q193 q194 q195 q23 q196
set_option maxRecDepth 100000 in
set_option maxHeartbeats 4000000 in
theorem K_rd {cA : Nat → ClassId} {ad : tA} {ex : va_W} {M : tM} {T : tP} {k : Nat} (hk : k < 12) (ho : okt T) (hs : oks T) : Cj yX3_readOrder cX3_readOrder 2 (some .boolean) (rmd 7) 0 0 cA ad [.ref (ad 13 0), .ref (ad 13 (3 + k))] ex (m_pl M 13 T) (Qe (some (.int (bI (f_rd T k).1))) ex (m_pl M 13 (f_rd T k).2)) := by
  refine c_of_r (lv0 := [some (.ref (ad 13 0)), some (.ref (ad 13 (3 + k)))]) rfl (by decide +kernel) (Nat.le_of_ble_eq_true rfl) rfl ?_
  by_cases c8 : T 0 1 ≤ T 0 2
  · refine r_aload_n dX3_readOrder_0 rfl ?_
    refine r_getp_ot 2 (by decide) q186 rfl dX3_readOrder_1 ?_
    refine r_aload_n dX3_readOrder_4 rfl ?_
    refine r_getp_ot 1 (by decide) q148 rfl dX3_readOrder_5 ?_
    refine r_icmp_lt (tgt := 13) dX3_readOrder_8 (by decide) (fun k8 => absurd k8 (Int32.not_lt.mpr c8)) (fun k8 => ?_)
    refine r_iconst (v := 0) dX3_readOrder_11 (by decide) ?_
    exact r_ret rfl rfl dX3_readOrder_12 (p_ans (q := f_rd T k) (if_pos c8)) (p_st (q := f_rd T k) (if_pos c8))
  · have hx : okx (T 1 (ta T)) := hs _ (okt_lt ho c8).2
    obtain ⟨q, hq, hxq⟩ := hx
    have e : f_rd T k = f_rd1 (pu T (3 + k) 0 (nI q)) k (nI q) := by rw [f_rd, if_neg c8, hxq]
    rw [e]
    have ho1 : okt (pu T (3 + k) 0 (nI q)) := kt_or.2.2.1 ho
    refine r_aload_n dX3_readOrder_0 rfl ?_
    refine r_getp_ot 2 (by decide) q186 rfl dX3_readOrder_1 ?_
    refine r_aload_n dX3_readOrder_4 rfl ?_
    refine r_getp_ot 1 (by decide) q148 rfl dX3_readOrder_5 ?_
    refine r_icmp_lt (tgt := 13) dX3_readOrder_8 (by decide) (fun k8 => ?_) (fun k8 => absurd (Int32.not_le.mp c8) k8)
    refine r_aload_n dX3_readOrder_13 rfl ?_
    refine r_aload_n dX3_readOrder_14 rfl ?_
    refine r_getp_ot 0 (by decide) q53 rfl dX3_readOrder_15 ?_
    refine r_aload_n dX3_readOrder_18 rfl ?_
    refine r_getp_ot 2 (by decide) q186 rfl dX3_readOrder_19 ?_
    refine r_ldp_os ho.1 (okt_lt ho c8).2 dX3_readOrder_22 ?_
    rw [hxq]
    refine r_putp_or (by omega) 0 (by decide) q192 rfl rfl (pk_charN hq).1 (pk_charN hq).2 rfl dX3_readOrder_23 ?_
    refine r_aload_n dX3_readOrder_26 rfl ?_
    refine r_getp_or (by omega) 0 (by decide) q192 rfl dX3_readOrder_27 ?_
    rw [pu_s]
    rcases (by omega : q < 99 ∨ 115 < q ∨ q = 99 ∨ q = 100 ∨ q = 101 ∨ q = 102 ∨ q = 103 ∨ q = 104 ∨ q = 105 ∨ q = 106 ∨ q = 107 ∨ q = 108 ∨ q = 109 ∨ q = 110 ∨ q = 111 ∨ q = 112 ∨ q = 113 ∨ q = 114 ∨ q = 115) with h | h | rfl | rfl | rfl | rfl | rfl | rfl | rfl | rfl | rfl | rfl | rfl | rfl | rfl | rfl | rfl | rfl | rfl
    · refine r_tableOut (tgt := 178) dX3_readOrder_30 (Or.inl (by rw [nI_toInt (by omega)]; omega)) (by decide) ?_
      refine r_iconst (v := 0) dX3_readOrder_178 (by decide) ?_
      exact r_ret rfl rfl dX3_readOrder_179 (p_ans (rd_no hq (by omega))) (p_st (rd_no hq (by omega)))
    · refine r_tableOut (tgt := 178) dX3_readOrder_30 (Or.inr (by rw [nI_toInt (by omega)]; omega)) (by decide) ?_
      refine r_iconst (v := 0) dX3_readOrder_178 (by decide) ?_
      exact r_ret rfl rfl dX3_readOrder_179 (p_ans (rd_no hq (by omega))) (p_st (rd_no hq (by omega)))
    · refine r_tableIn (off := 119) (tgt := 149) dX3_readOrder_30 (by decide) (by decide) (by decide) (by decide) ?_
      refine r_aload_n dX3_readOrder_149 rfl ?_
      refine r_aload_n dX3_readOrder_150 rfl ?_
      refine r_ldcS (List.mem_of_getElem? (i := 4) rfl) dX3_readOrder_151 ?_
      refine r_iconst (v := 1) dX3_readOrder_153 (by decide) ?_
      refine r_cVi dX3_readOrder_154 (K_ro (i := 4) (n := 1) hk (by omega) (by omega) ho1) gX3_readOrder_154 dcX3_readOne rfl rfl rfl (Nat.le_of_ble_eq_true rfl) ob_ot ?_
      exact r_ret rfl bI_nar dX3_readOrder_157 rfl rfl
    · refine r_tableIn (off := 139) (tgt := 169) dX3_readOrder_30 (by decide) (by decide) (by decide) (by decide) ?_
      refine r_aload_n dX3_readOrder_169 rfl ?_
      refine r_aload_n dX3_readOrder_170 rfl ?_
      refine r_ldcS (List.mem_of_getElem? (i := 6) rfl) dX3_readOrder_171 ?_
      refine r_iconst (v := 2) dX3_readOrder_173 (by decide) ?_
      refine r_cVi dX3_readOrder_174 (K_ro (i := 6) (n := 2) hk (by omega) (by omega) ho1) gX3_readOrder_174 dcX3_readOne rfl rfl rfl (Nat.le_of_ble_eq_true rfl) ob_ot ?_
      exact r_ret rfl bI_nar dX3_readOrder_177 rfl rfl
    · refine r_tableIn (off := 148) (tgt := 178) dX3_readOrder_30 (by decide) (by decide) (by decide) (by decide) ?_
      refine r_iconst (v := 0) dX3_readOrder_178 (by decide) ?_
      exact r_ret rfl rfl dX3_readOrder_179 (p_ans (rd_no hq (by omega))) (p_st (rd_no hq (by omega)))
    · refine r_tableIn (off := 99) (tgt := 129) dX3_readOrder_30 (by decide) (by decide) (by decide) (by decide) ?_
      refine r_aload_n dX3_readOrder_129 rfl ?_
      refine r_aload_n dX3_readOrder_130 rfl ?_
      refine r_ldcS (List.mem_of_getElem? (i := 2) rfl) dX3_readOrder_131 ?_
      refine r_bipush (v := 42) dX3_readOrder_133 (by decide) ?_
      refine r_iconst (v := 1) dX3_readOrder_135 (by decide) ?_
      refine r_cVi dX3_readOrder_136 (K_rp (i := 2) (n := 1) hk (by omega) (by omega) ho1) gX3_readOrder_136 dcX3_readPair rfl rfl rfl (Nat.le_of_ble_eq_true rfl) ob_ot ?_
      exact r_ret rfl bI_nar dX3_readOrder_139 rfl rfl
    · refine r_tableIn (off := 148) (tgt := 178) dX3_readOrder_30 (by decide) (by decide) (by decide) (by decide) ?_
      refine r_iconst (v := 0) dX3_readOrder_178 (by decide) ?_
      exact r_ret rfl rfl dX3_readOrder_179 (p_ans (rd_no hq (by omega))) (p_st (rd_no hq (by omega)))
    · refine r_tableIn (off := 110) (tgt := 140) dX3_readOrder_30 (by decide) (by decide) (by decide) (by decide) ?_
      refine r_aload_n dX3_readOrder_140 rfl ?_
      refine r_aload_n dX3_readOrder_141 rfl ?_
      refine r_ldcS (List.mem_of_getElem? (i := 3) rfl) dX3_readOrder_142 ?_
      refine r_iconst (v := 1) dX3_readOrder_144 (by decide) ?_
      refine r_cVi dX3_readOrder_145 (K_ro (i := 3) (n := 1) hk (by omega) (by omega) ho1) gX3_readOrder_145 dcX3_readOne rfl rfl rfl (Nat.le_of_ble_eq_true rfl) ob_ot ?_
      exact r_ret rfl bI_nar dX3_readOrder_148 rfl rfl
    · refine r_tableIn (off := 148) (tgt := 178) dX3_readOrder_30 (by decide) (by decide) (by decide) (by decide) ?_
      refine r_iconst (v := 0) dX3_readOrder_178 (by decide) ?_
      exact r_ret rfl rfl dX3_readOrder_179 (p_ans (rd_no hq (by omega))) (p_st (rd_no hq (by omega)))
    · refine r_tableIn (off := 148) (tgt := 178) dX3_readOrder_30 (by decide) (by decide) (by decide) (by decide) ?_
      refine r_iconst (v := 0) dX3_readOrder_178 (by decide) ?_
      exact r_ret rfl rfl dX3_readOrder_179 (p_ans (rd_no hq (by omega))) (p_st (rd_no hq (by omega)))
    · refine r_tableIn (off := 148) (tgt := 178) dX3_readOrder_30 (by decide) (by decide) (by decide) (by decide) ?_
      refine r_iconst (v := 0) dX3_readOrder_178 (by decide) ?_
      exact r_ret rfl rfl dX3_readOrder_179 (p_ans (rd_no hq (by omega))) (p_st (rd_no hq (by omega)))
    · refine r_tableIn (off := 148) (tgt := 178) dX3_readOrder_30 (by decide) (by decide) (by decide) (by decide) ?_
      refine r_iconst (v := 0) dX3_readOrder_178 (by decide) ?_
      exact r_ret rfl rfl dX3_readOrder_179 (p_ans (rd_no hq (by omega))) (p_st (rd_no hq (by omega)))
    · refine r_tableIn (off := 128) (tgt := 158) dX3_readOrder_30 (by decide) (by decide) (by decide) (by decide) ?_
      refine r_aload_n dX3_readOrder_158 rfl ?_
      refine r_aload_n dX3_readOrder_159 rfl ?_
      refine r_ldcS (List.mem_of_getElem? (i := 5) rfl) dX3_readOrder_160 ?_
      refine r_bipush (v := 64) dX3_readOrder_162 (by decide) ?_
      refine r_iconst (v := 3) dX3_readOrder_164 (by decide) ?_
      refine r_cVi dX3_readOrder_165 (K_rp (i := 5) (n := 3) hk (by omega) (by omega) ho1) gX3_readOrder_165 dcX3_readPair rfl rfl rfl (Nat.le_of_ble_eq_true rfl) ob_ot ?_
      exact r_ret rfl bI_nar dX3_readOrder_168 rfl rfl
    · refine r_tableIn (off := 88) (tgt := 118) dX3_readOrder_30 (by decide) (by decide) (by decide) (by decide) ?_
      refine r_aload_n dX3_readOrder_118 rfl ?_
      refine r_aload_n dX3_readOrder_119 rfl ?_
      refine r_ldcS (List.mem_of_getElem? (i := 1) rfl) dX3_readOrder_120 ?_
      refine r_bipush (v := 32) dX3_readOrder_122 (by decide) ?_
      refine r_iconst (v := 2) dX3_readOrder_124 (by decide) ?_
      refine r_cVi dX3_readOrder_125 (K_rp (i := 1) (n := 2) hk (by omega) (by omega) ho1) gX3_readOrder_125 dcX3_readPair rfl rfl rfl (Nat.le_of_ble_eq_true rfl) ob_ot ?_
      exact r_ret rfl bI_nar dX3_readOrder_128 rfl rfl
    · refine r_tableIn (off := 148) (tgt := 178) dX3_readOrder_30 (by decide) (by decide) (by decide) (by decide) ?_
      refine r_iconst (v := 0) dX3_readOrder_178 (by decide) ?_
      exact r_ret rfl rfl dX3_readOrder_179 (p_ans (rd_no hq (by omega))) (p_st (rd_no hq (by omega)))
    · refine r_tableIn (off := 148) (tgt := 178) dX3_readOrder_30 (by decide) (by decide) (by decide) (by decide) ?_
      refine r_iconst (v := 0) dX3_readOrder_178 (by decide) ?_
      exact r_ret rfl rfl dX3_readOrder_179 (p_ans (rd_no hq (by omega))) (p_st (rd_no hq (by omega)))
    · refine r_tableIn (off := 148) (tgt := 178) dX3_readOrder_30 (by decide) (by decide) (by decide) (by decide) ?_
      refine r_iconst (v := 0) dX3_readOrder_178 (by decide) ?_
      exact r_ret rfl rfl dX3_readOrder_179 (p_ans (rd_no hq (by omega))) (p_st (rd_no hq (by omega)))
    · refine r_tableIn (off := 148) (tgt := 178) dX3_readOrder_30 (by decide) (by decide) (by decide) (by decide) ?_
      refine r_iconst (v := 0) dX3_readOrder_178 (by decide) ?_
      exact r_ret rfl rfl dX3_readOrder_179 (p_ans (rd_no hq (by omega))) (p_st (rd_no hq (by omega)))
    · refine r_tableIn (off := 82) (tgt := 112) dX3_readOrder_30 (by decide) (by decide) (by decide) (by decide) ?_
      refine r_aload_n dX3_readOrder_112 rfl ?_
      refine r_aload_n dX3_readOrder_113 rfl ?_
      refine r_cVi dX3_readOrder_114 (K_rs hk ho1) gX3_readOrder_114 dcX3_readStep rfl rfl rfl (Nat.le_of_ble_eq_true rfl) ob_ot ?_
      exact r_ret rfl bI_nar dX3_readOrder_117 rfl rfl
def lp_ros : Nat → Nat → tP → Int32 × tP
  | 0, _, T => (T 0 2, T)
  | n + 1, k, T =>
    let T1 := (f_rd T k).2
    let T2 := pu T1 0 4 (T1 0 4 + 1)
    if (f_rd T k).1 = false then (T1 0 2, T1)
    else if T2 0 1 ≤ T2 0 2 then (-1, T2)
    else if (f_ts T2 59).1 = false then ((f_ts T2 59).2 0 2, (f_ts T2 59).2)
    else lp_ros n (k + 1) (f_ts T2 59).2
def f_ros (T : tP) : Int32 × tP := lp_ros 12 0 (pu (pu T 0 2 0) 0 4 0)
section
variable {n k : Nat} {T T1 T2 : tP}
theorem ros_1 (h : bI (f_rd T k).1 = 0) : lp_ros (n + 1) k T = ((f_rd T k).2 0 2, (f_rd T k).2) := by rw [lp_ros, bI_0 h]; rfl
theorem ros_2 (h : ¬ bI (f_rd T k).1 = 0) (e : T2 = pu (f_rd T k).2 0 4 ((f_rd T k).2 0 4 + 1)) (h2 : T2 0 1 ≤ T2 0 2) : lp_ros (n + 1) k T = (-1, T2) := by subst e; rw [lp_ros]; rw [bI_1 h, if_neg (by decide), if_pos h2]
theorem ros_3 (h : ¬ bI (f_rd T k).1 = 0) (e : T2 = pu (f_rd T k).2 0 4 ((f_rd T k).2 0 4 + 1)) (h2 : ¬ T2 0 1 ≤ T2 0 2) (h3 : bI (f_ts T2 59).1 = 0) : lp_ros (n + 1) k T = ((f_ts T2 59).2 0 2, (f_ts T2 59).2) := by subst e; rw [lp_ros]; rw [bI_1 h, if_neg (by decide), if_neg h2, bI_0 h3, if_pos rfl]
theorem ros_4 (h : ¬ bI (f_rd T k).1 = 0) (e : T2 = pu (f_rd T k).2 0 4 ((f_rd T k).2 0 4 + 1)) (h2 : ¬ T2 0 1 ≤ T2 0 2) (h3 : ¬ bI (f_ts T2 59).1 = 0) : lp_ros (n + 1) k T = lp_ros n (k + 1) (f_ts T2 59).2 := by subst e; rw [lp_ros]; rw [bI_1 h, if_neg (by decide), if_neg h2, bI_1 h3, if_neg (by decide)]
end
theorem p_a2 {q : Int32 × tP} {b : Int32} {T : tP} (h : q = (b, T)) : b = q.1 := by rw [h]
theorem p_s2 {M : tM} {r : Nat} {q : Int32 × tP} {b : Int32} {T : tP} (h : q = (b, T)) : m_pl M r T = m_pl M r q.2 := by rw [h]
def ktx (T T' : tP) : Prop := T' 0 1 = T 0 1 ∧ T' 1 = T 1 ∧ (okt T → okt T')
theorem ktx_kt {T T' : tP} (h : kt T T') : ktx T T' := ⟨h.1, h.2.1, h.2.2.1⟩
theorem ktx_tr {T T' T'' : tP} (h : ktx T T') (h2 : ktx T' T'') : ktx T T'' := ⟨h2.1.trans h.1, h2.2.1.trans h.2.1, fun o => h2.2.2 (h.2.2 o)⟩
theorem ktx_4 {T : tP} {x : Int32} : ktx T (pu T 0 4 x) := ⟨pu_k (by omega), pu_jj (by omega), fun h => okt_of (T := pu T 0 4 x) ((pu_k (by omega)).trans h.1) h.2.1 ((pu_k (by omega)).trans h.2.2.1) h.2.2.2⟩
theorem ktx_s {T T' : tP} (h : ktx T T') (o : oks T) : oks T' := fun i hi => by rw [h.2.1]; exact o i hi
theorem ktx_ros : ∀ (n k : Nat) (T : tP), ktx T (lp_ros n k T).2 := by
  intro n
  induction n with
  | zero => intro k T; exact ktx_kt kt_rfl
  | succ n ih =>
    intro k T
    have h1 : ktx T (f_rd T k).2 := ktx_kt kt_rd
    have h2 : ktx T (pu (f_rd T k).2 0 4 ((f_rd T k).2 0 4 + 1)) := ktx_tr h1 ktx_4
    have h3 := ktx_tr h2 (ktx_kt (kt_ts (c := 59)))
    rw [lp_ros]
    split
    · exact h1
    · split
      · exact h2
      · split
        · exact h3
        · exact ktx_tr h3 (ih _ _)
theorem dX3_readOrders_0 : decode cX3_readOrders 0 = .ok (.aload_n 0, 1) := by decide +kernel
theorem dX3_readOrders_1 : decode cX3_readOrders 1 = .ok (.iconst 0, 1) := by decide +kernel
theorem dX3_readOrders_2 : decode cX3_readOrders 2 = .ok (.putfield 26, 3) := by decide +kernel
theorem dX3_readOrders_5 : decode cX3_readOrders 5 = .ok (.aload_n 0, 1) := by decide +kernel
theorem dX3_readOrders_6 : decode cX3_readOrders 6 = .ok (.iconst 0, 1) := by decide +kernel
theorem dX3_readOrders_7 : decode cX3_readOrders 7 = .ok (.putfield 29, 3) := by decide +kernel
theorem dX3_readOrders_10 : decode cX3_readOrders 10 = .ok (.iconst 0, 1) := by decide +kernel
theorem dX3_readOrders_11 : decode cX3_readOrders 11 = .ok (.istore_n 1, 1) := by decide +kernel
theorem dX3_readOrders_12 : decode cX3_readOrders 12 = .ok (.iload_n 1, 1) := by decide +kernel
theorem dX3_readOrders_13 : decode cX3_readOrders 13 = .ok (.bipush 12, 2) := by decide +kernel
theorem dX3_readOrders_15 : decode cX3_readOrders 15 = .ok (.if_icmp .ge 64, 3) := by decide +kernel
theorem dX3_readOrders_18 : decode cX3_readOrders 18 = .ok (.aload_n 0, 1) := by decide +kernel
theorem dX3_readOrders_19 : decode cX3_readOrders 19 = .ok (.aload_n 0, 1) := by decide +kernel
theorem dX3_readOrders_20 : decode cX3_readOrders 20 = .ok (.getfield 17, 3) := by decide +kernel
theorem dX3_readOrders_23 : decode cX3_readOrders 23 = .ok (.iload_n 1, 1) := by decide +kernel
theorem dX3_readOrders_24 : decode cX3_readOrders 24 = .ok (.aaload, 1) := by decide +kernel
theorem dX3_readOrders_25 : decode cX3_readOrders 25 = .ok (.invokevirtual 32, 3) := by decide +kernel
theorem dX3_readOrders_28 : decode cX3_readOrders 28 = .ok (.ifCond .ne 8, 3) := by decide +kernel
theorem dX3_readOrders_31 : decode cX3_readOrders 31 = .ok (.aload_n 0, 1) := by decide +kernel
theorem dX3_readOrders_32 : decode cX3_readOrders 32 = .ok (.getfield 26, 3) := by decide +kernel
theorem dX3_readOrders_35 : decode cX3_readOrders 35 = .ok (.ireturn, 1) := by decide +kernel
theorem dX3_readOrders_36 : decode cX3_readOrders 36 = .ok (.aload_n 0, 1) := by decide +kernel
theorem dX3_readOrders_37 : decode cX3_readOrders 37 = .ok (.dup, 1) := by decide +kernel
theorem dX3_readOrders_38 : decode cX3_readOrders 38 = .ok (.getfield 29, 3) := by decide +kernel
theorem dX3_readOrders_41 : decode cX3_readOrders 41 = .ok (.iconst 1, 1) := by decide +kernel
theorem dX3_readOrders_42 : decode cX3_readOrders 42 = .ok (.iadd, 1) := by decide +kernel
theorem dX3_readOrders_43 : decode cX3_readOrders 43 = .ok (.putfield 29, 3) := by decide +kernel
theorem dX3_readOrders_46 : decode cX3_readOrders 46 = .ok (.aload_n 0, 1) := by decide +kernel
theorem dX3_readOrders_47 : decode cX3_readOrders 47 = .ok (.getfield 26, 3) := by decide +kernel
theorem dX3_readOrders_50 : decode cX3_readOrders 50 = .ok (.aload_n 0, 1) := by decide +kernel
theorem dX3_readOrders_51 : decode cX3_readOrders 51 = .ok (.getfield 22, 3) := by decide +kernel
theorem dX3_readOrders_54 : decode cX3_readOrders 54 = .ok (.if_icmp .lt 5, 3) := by decide +kernel
theorem dX3_readOrders_57 : decode cX3_readOrders 57 = .ok (.iconst (-1), 1) := by decide +kernel
theorem dX3_readOrders_58 : decode cX3_readOrders 58 = .ok (.ireturn, 1) := by decide +kernel
theorem dX3_readOrders_59 : decode cX3_readOrders 59 = .ok (.aload_n 0, 1) := by decide +kernel
theorem dX3_readOrders_60 : decode cX3_readOrders 60 = .ok (.bipush 59, 2) := by decide +kernel
theorem dX3_readOrders_62 : decode cX3_readOrders 62 = .ok (.invokevirtual 36, 3) := by decide +kernel
theorem dX3_readOrders_65 : decode cX3_readOrders 65 = .ok (.ifCond .ne 8, 3) := by decide +kernel
theorem dX3_readOrders_68 : decode cX3_readOrders 68 = .ok (.aload_n 0, 1) := by decide +kernel
theorem dX3_readOrders_69 : decode cX3_readOrders 69 = .ok (.getfield 26, 3) := by decide +kernel
theorem dX3_readOrders_72 : decode cX3_readOrders 72 = .ok (.ireturn, 1) := by decide +kernel
theorem dX3_readOrders_73 : decode cX3_readOrders 73 = .ok (.iinc 1 1, 3) := by decide +kernel
theorem dX3_readOrders_76 : decode cX3_readOrders 76 = .ok (.goto (-64), 3) := by decide +kernel
theorem dX3_readOrders_79 : decode cX3_readOrders 79 = .ok (.aload_n 0, 1) := by decide +kernel
theorem dX3_readOrders_80 : decode cX3_readOrders 80 = .ok (.getfield 26, 3) := by decide +kernel
theorem dX3_readOrders_83 : decode cX3_readOrders 83 = .ok (.ireturn, 1) := by decide +kernel
theorem dcX3_readOrders : yX3_readOrders.cls = RX3 ∧ yX3_readOrders.cls ≠ "java/lang/invoke/MethodHandle" ∧ yX3_readOrders.cls ≠ "java/lang/invoke/VarHandle" ∧ (parseMethodDescriptor yX3_readOrders.desc).map (fun d => d.parameters.length) = some 0 := by decide +kernel
theorem gX3_readOrders_25 : GoodIn wsL_law (wsV RX3 32 RX3 yX3_readOrder (.code yX3_readOrder cX3_readOrder 2 (some .boolean) :: wsL_law)) := g_V q188 q189 q190 q23 q191
theorem gX3_readOrders_62 : GoodIn wsL_law (wsV RX3 36 RX3 yX3_takeSign (.code yX3_takeSign cX3_takeSign 2 (some .boolean) :: wsL_law)) := g_V q258 q259 q260 q23 q261
set_option maxRecDepth 100000 in
set_option maxHeartbeats 4000000 in
theorem K_ros {cA : Nat → ClassId} {ad : tA} {ex : va_W} {M : tM} {T0 : tP} (hl1 : T0 0 1 = nI (tl T0)) (hl2 : tl T0 ≤ 60) (hs : oks T0) : Cj yX3_readOrders cX3_readOrders 2 (some .int) (rmd 8) 0 0 cA ad [.ref (ad 13 0)] ex (m_pl M 13 T0) (Qe (some (.int (f_ros T0).1)) ex (m_pl M 13 (f_ros T0).2)) := by
  refine c_of_r (lv0 := [some (.ref (ad 13 0)), none]) rfl (by decide +kernel) (Nat.le_of_ble_eq_true rfl) rfl ?_
  have L : ∀ (n k : Nat) (T : tP), k + n = 12 → okt T → oks T → lp_ros n k T = f_ros T0 → Rj cX3_readOrders RX3 2 (some .int) (rmd 8) 0 0 cA ad (Qe (some (.int (f_ros T0).1)) ex (m_pl M 13 (f_ros T0).2)) ex 0 0 12 [some (.ref (ad 13 0)), some (.int (nI k))] [] (m_pl M 13 T) := by
    intro n
    induction n with
    | zero =>
      intro k T h ho hs hT
      refine r_iload_n dX3_readOrders_12 rfl ?_
      refine r_bipush (v := 12) dX3_readOrders_13 (by decide) ?_
      refine r_icmp_ge (tgt := 79) dX3_readOrders_15 (by decide) (fun c15 => ?_) (fun c15 => absurd (lp_z (x := 12) (c := 12) rfl h) c15)
      refine r_aload_n dX3_readOrders_79 rfl ?_
      refine r_getp_ot 2 (by decide) q186 rfl dX3_readOrders_80 ?_
      exact r_ret rfl rfl dX3_readOrders_83 (p_a2 (q := f_ros T0) (hT.symm.trans rfl)) (p_s2 (q := f_ros T0) (hT.symm.trans rfl))
    | succ n ih =>
      intro k T h ho hs hT
      have hk1 := ktx_kt (kt_rd (T := T) (k := k))
      have hk2 := ktx_tr hk1 (ktx_4 (x := (f_rd T k).2 0 4 + 1))
      have hk3 := ktx_tr hk2 (ktx_kt (kt_ts (c := 59)))
      refine r_iload_n dX3_readOrders_12 rfl ?_
      refine r_bipush (v := 12) dX3_readOrders_13 (by decide) ?_
      refine r_icmp_ge (tgt := 79) dX3_readOrders_15 (by decide) (fun c15 => absurd c15 (lp_s (x := 12) (c := 12) rfl (by omega) h)) (fun c15 => ?_)
      refine r_aload_n dX3_readOrders_18 rfl ?_
      refine r_aload_n dX3_readOrders_19 rfl ?_
      refine r_getp_ot 3 (by decide) q55 rfl dX3_readOrders_20 ?_
      refine r_iload_n dX3_readOrders_23 rfl ?_
      refine r_ald_orders rfl (by omega) dX3_readOrders_24 ?_
      refine r_cVi dX3_readOrders_25 (K_rd (k := k) (by omega) ho hs) gX3_readOrders_25 dcX3_readOrder rfl rfl rfl (Nat.le_of_ble_eq_true rfl) ob_ot ?_
      refine r_if_ne (tgt := 36) dX3_readOrders_28 (by decide) (fun c28 => ?_) (fun c28 => ?_)
      · refine r_aload_n dX3_readOrders_36 rfl ?_
        refine r_dup dX3_readOrders_37 rfl ?_
        refine r_getp_ot 4 (by decide) q187 rfl dX3_readOrders_38 ?_
        refine r_iconst (v := 1) dX3_readOrders_41 (by decide) ?_
        refine r_iadd dX3_readOrders_42 ?_
        refine r_putp_ot 4 (by decide) q187 rfl rfl rfl rfl rfl dX3_readOrders_43 ?_
        refine r_aload_n dX3_readOrders_46 rfl ?_
        refine r_getp_ot 2 (by decide) q186 rfl dX3_readOrders_47 ?_
        refine r_aload_n dX3_readOrders_50 rfl ?_
        refine r_getp_ot 1 (by decide) q148 rfl dX3_readOrders_51 ?_
        refine r_icmp_lt (tgt := 59) dX3_readOrders_54 (by decide) (fun c54 => ?_) (fun c54 => ?_)
        · refine r_aload_n dX3_readOrders_59 rfl ?_
          refine r_bipush (v := 59) dX3_readOrders_60 (by decide) ?_
          refine r_cVi dX3_readOrders_62 (K_ts (hk2.2.2 ho)) gX3_readOrders_62 dcX3_takeSign rfl rfl rfl (Nat.le_of_ble_eq_true rfl) ob_ot ?_
          refine r_if_ne (tgt := 73) dX3_readOrders_65 (by decide) (fun c65 => ?_) (fun c65 => ?_)
          · refine r_iinc dX3_readOrders_73 rfl ii_s (by decide) rfl ?_
            refine r_goto (tgt := 12) dX3_readOrders_76 (by decide) ?_
            exact ih (k + 1) _ (by omega) (hk3.2.2 ho) (ktx_s hk3 hs) ((ros_4 c28 rfl (Int32.not_le.mpr c54) c65).symm.trans hT)
          · refine r_aload_n dX3_readOrders_68 rfl ?_
            refine r_getp_ot 2 (by decide) q186 rfl dX3_readOrders_69 ?_
            exact r_ret rfl rfl dX3_readOrders_72 (p_a2 (q := f_ros T0) (hT.symm.trans (ros_3 c28 rfl (Int32.not_le.mpr c54) c65))) (p_s2 (q := f_ros T0) (hT.symm.trans (ros_3 c28 rfl (Int32.not_le.mpr c54) c65)))
        · refine r_iconst (v := -1) dX3_readOrders_57 (by decide) ?_
          exact r_ret rfl rfl dX3_readOrders_58 (p_a2 (q := f_ros T0) (hT.symm.trans (ros_2 c28 rfl (Int32.not_lt.mp c54)))) (p_s2 (q := f_ros T0) (hT.symm.trans (ros_2 c28 rfl (Int32.not_lt.mp c54))))
      · refine r_aload_n dX3_readOrders_31 rfl ?_
        refine r_getp_ot 2 (by decide) q186 rfl dX3_readOrders_32 ?_
        exact r_ret rfl rfl dX3_readOrders_35 (p_a2 (q := f_ros T0) (hT.symm.trans (ros_1 c28))) (p_s2 (q := f_ros T0) (hT.symm.trans (ros_1 c28)))
  have hz : okt (pu (pu T0 0 2 0) 0 4 0) := ktx_4.2.2 (okt_of (T := pu T0 0 2 0) (a := 0) (l := tl T0) pu_s (by omega) ((pu_k (by omega)).trans hl1) hl2)
  refine r_aload_n dX3_readOrders_0 rfl ?_
  refine r_iconst (v := 0) dX3_readOrders_1 (by decide) ?_
  refine r_putp_ot 2 (by decide) q186 rfl rfl rfl rfl rfl dX3_readOrders_2 ?_
  refine r_aload_n dX3_readOrders_5 rfl ?_
  refine r_iconst (v := 0) dX3_readOrders_6 (by decide) ?_
  refine r_putp_ot 4 (by decide) q187 rfl rfl rfl rfl rfl dX3_readOrders_7 ?_
  refine r_iconst (v := 0) dX3_readOrders_10 (by decide) ?_
  refine r_istore_n dX3_readOrders_11 (by decide) rfl ?_
  exact L 12 0 _ (by omega) hz (fun i hi => by rw [pu_jj (by omega), pu_jj (by omega)]; exact hs i hi) rfl
def f_as (T : tP) (c : Int32) : tP := let T1 := pu T 1 (tl T) c; pu T1 0 1 (T1 0 1 + 1)
theorem dX3_addSign_0 : decode cX3_addSign 0 = .ok (.aload_n 0, 1) := by decide +kernel
theorem dX3_addSign_1 : decode cX3_addSign 1 = .ok (.getfield 9, 3) := by decide +kernel
theorem dX3_addSign_4 : decode cX3_addSign 4 = .ok (.aload_n 0, 1) := by decide +kernel
theorem dX3_addSign_5 : decode cX3_addSign 5 = .ok (.getfield 22, 3) := by decide +kernel
theorem dX3_addSign_8 : decode cX3_addSign 8 = .ok (.iload_n 1, 1) := by decide +kernel
theorem dX3_addSign_9 : decode cX3_addSign 9 = .ok (.castore, 1) := by decide +kernel
theorem dX3_addSign_10 : decode cX3_addSign 10 = .ok (.aload_n 0, 1) := by decide +kernel
theorem dX3_addSign_11 : decode cX3_addSign 11 = .ok (.dup, 1) := by decide +kernel
theorem dX3_addSign_12 : decode cX3_addSign 12 = .ok (.getfield 22, 3) := by decide +kernel
theorem dX3_addSign_15 : decode cX3_addSign 15 = .ok (.iconst 1, 1) := by decide +kernel
theorem dX3_addSign_16 : decode cX3_addSign 16 = .ok (.iadd, 1) := by decide +kernel
theorem dX3_addSign_17 : decode cX3_addSign 17 = .ok (.putfield 22, 3) := by decide +kernel
theorem dX3_addSign_20 : decode cX3_addSign 20 = .ok (.return_, 1) := by decide +kernel
theorem dcX3_addSign : yX3_addSign.cls = RX3 ∧ yX3_addSign.cls ≠ "java/lang/invoke/MethodHandle" ∧ yX3_addSign.cls ≠ "java/lang/invoke/VarHandle" ∧ (parseMethodDescriptor yX3_addSign.desc).map (fun d => d.parameters.length) = some 1 := by decide +kernel
set_option maxRecDepth 100000 in
set_option maxHeartbeats 4000000 in
theorem K_as {cA : Nat → ClassId} {ad : tA} {ex : va_W} {M : tM} {T : tP} {c : Int32} (hc : okx c) (hl1 : T 0 1 = nI (tl T)) (hl2 : tl T < 60) : Cj yX3_addSign cX3_addSign 2 none (rmd 0) 0 0 cA ad [.ref (ad 13 0), .int c] ex (m_pl M 13 T) (Qe none ex (m_pl M 13 (f_as T c))) := by
  refine c_of_r (lv0 := [some (.ref (ad 13 0)), some (.int c)]) rfl (by decide +kernel) (Nat.le_of_ble_eq_true rfl) rfl ?_
  refine r_aload_n dX3_addSign_0 rfl ?_
  refine r_getp_ot 0 (by decide) q53 rfl dX3_addSign_1 ?_
  refine r_aload_n dX3_addSign_4 rfl ?_
  refine r_getp_ot 1 (by decide) q148 rfl dX3_addSign_5 ?_
  refine r_iload_n dX3_addSign_8 rfl ?_
  refine r_strp_os hl1 hl2 (okx_vp hc) dX3_addSign_9 ?_
  refine r_aload_n dX3_addSign_10 rfl ?_
  refine r_dup dX3_addSign_11 rfl ?_
  refine r_getp_ot 1 (by decide) q148 rfl dX3_addSign_12 ?_
  refine r_iconst (v := 1) dX3_addSign_15 (by decide) ?_
  refine r_iadd dX3_addSign_16 ?_
  refine r_putp_ot 1 (by decide) q148 rfl rfl rfl rfl rfl dX3_addSign_17 ?_
  exact r_retv rfl dX3_addSign_20 rfl
def ll (N : tP) : Nat := (N 0 1).toNatClampNeg
def okl (N : tP) : Prop := N 0 1 = nI (ll N) ∧ ll N ≤ 64
def f_ps (N : tP) (c : Int32) : tP := if 64 ≤ N 0 1 then N else pu (pu N 1 (ll N) c) 0 1 (pu N 1 (ll N) c 0 1 + 1)
theorem okl_ps {N : tP} {c : Int32} (h : okl N) : okl (f_ps N c) := by
  unfold f_ps
  split
  · exact h
  · rename_i h2
    have h3 : ll N < 64 := by
      rw [h.1] at h2
      have : ¬ 64 ≤ ll N := fun e => h2 (nI_le (a := 64) e (by have := h.2; omega))
      omega
    have e : pu (pu N 1 (ll N) c) 0 1 (pu N 1 (ll N) c 0 1 + 1) 0 1 = nI (ll N + 1) := by rw [pu_s, pu_j (by omega), h.1]; exact nI_1 _
    have e2 : ll (pu (pu N 1 (ll N) c) 0 1 (pu N 1 (ll N) c 0 1 + 1)) = ll N + 1 := by rw [ll, e]; exact nI_clamp (by omega)
    exact ⟨by rw [e2]; exact e, by rw [e2]; omega⟩
theorem okl_lt {N : tP} (h : okl N) (h2 : ¬ 64 ≤ N 0 1) : ll N < 64 := by
  rw [h.1] at h2
  have : ¬ 64 ≤ ll N := fun e => h2 (nI_le (a := 64) e (by have := h.2; omega))
  omega
def c16 (x : Int32) : Int32 := (x.toUInt32 % 65536).toInt32
theorem c16_x {x : Int32} : okx (c16 x) := ⟨x.toBitVec.toNat % 65536, Nat.mod_lt _ (by omega), pk_char x⟩
def f_pn (N : tP) (x : Int32) : tP := if x < 10 then f_ps N (c16 (48 + (x - x / 10 * 10))) else f_ps (f_ps N (c16 (48 + x / 10))) (c16 (48 + (x - x / 10 * 10)))
theorem okl_pn {N : tP} {x : Int32} (h : okl N) : okl (f_pn N x) := by
  unfold f_pn
  split
  · exact okl_ps h
  · exact okl_ps (okl_ps h)
theorem kI {q : Nat} (h : q < 65536) : okx (nI q) := ⟨q, h, rfl⟩
theorem dX1_putSign_0 : decode cX1_putSign 0 = .ok (.aload_n 0, 1) := by decide +kernel
theorem dX1_putSign_1 : decode cX1_putSign 1 = .ok (.getfield 54, 3) := by decide +kernel
theorem dX1_putSign_4 : decode cX1_putSign 4 = .ok (.bipush 64, 2) := by decide +kernel
theorem dX1_putSign_6 : decode cX1_putSign 6 = .ok (.if_icmp .ge 23, 3) := by decide +kernel
theorem dX1_putSign_9 : decode cX1_putSign 9 = .ok (.aload_n 0, 1) := by decide +kernel
theorem dX1_putSign_10 : decode cX1_putSign 10 = .ok (.getfield 9, 3) := by decide +kernel
theorem dX1_putSign_13 : decode cX1_putSign 13 = .ok (.aload_n 0, 1) := by decide +kernel
theorem dX1_putSign_14 : decode cX1_putSign 14 = .ok (.getfield 54, 3) := by decide +kernel
theorem dX1_putSign_17 : decode cX1_putSign 17 = .ok (.iload_n 1, 1) := by decide +kernel
theorem dX1_putSign_18 : decode cX1_putSign 18 = .ok (.castore, 1) := by decide +kernel
theorem dX1_putSign_19 : decode cX1_putSign 19 = .ok (.aload_n 0, 1) := by decide +kernel
theorem dX1_putSign_20 : decode cX1_putSign 20 = .ok (.dup, 1) := by decide +kernel
theorem dX1_putSign_21 : decode cX1_putSign 21 = .ok (.getfield 54, 3) := by decide +kernel
theorem dX1_putSign_24 : decode cX1_putSign 24 = .ok (.iconst 1, 1) := by decide +kernel
theorem dX1_putSign_25 : decode cX1_putSign 25 = .ok (.iadd, 1) := by decide +kernel
theorem dX1_putSign_26 : decode cX1_putSign 26 = .ok (.putfield 54, 3) := by decide +kernel
theorem dX1_putSign_29 : decode cX1_putSign 29 = .ok (.return_, 1) := by decide +kernel
theorem dcX1_putSign : yX1_putSign.cls = RX1 ∧ yX1_putSign.cls ≠ "java/lang/invoke/MethodHandle" ∧ yX1_putSign.cls ≠ "java/lang/invoke/VarHandle" ∧ (parseMethodDescriptor yX1_putSign.desc).map (fun d => d.parameters.length) = some 1 := by decide +kernel
set_option maxRecDepth 100000 in
set_option maxHeartbeats 4000000 in
theorem K_ps {cA : Nat → ClassId} {ad : tA} {ex : va_W} {M : tM} {N : tP} {c : Int32} (hc : okx c) (hl : okl N) : Cj yX1_putSign cX1_putSign 2 none (rmd 0) 0 0 cA ad [.ref (ad 14 0), .int c] ex (m_pl M 14 N) (Qe none ex (m_pl M 14 (f_ps N c))) := by
  refine c_of_r (lv0 := [some (.ref (ad 14 0)), some (.int c)]) rfl (by decide +kernel) (Nat.le_of_ble_eq_true rfl) rfl ?_
  refine r_aload_n dX1_putSign_0 rfl ?_
  refine r_getp_ln 1 (by decide) q579 rfl dX1_putSign_1 ?_
  refine r_bipush (v := 64) dX1_putSign_4 (by decide) ?_
  refine r_icmp_ge (tgt := 29) dX1_putSign_6 (by decide) (fun c6 => ?_) (fun c6 => ?_)
  · first | exact r_retv rfl dX1_putSign_29 (congrArg (m_pl M 14) (if_pos c6).symm) | exact r_retv rfl dX1_putSign_29 (congrArg (m_pl M 14) (if_neg c6).symm)
  · refine r_aload_n dX1_putSign_9 rfl ?_
    refine r_getp_ln 0 (by decide) q64 rfl dX1_putSign_10 ?_
    refine r_aload_n dX1_putSign_13 rfl ?_
    refine r_getp_ln 1 (by decide) q579 rfl dX1_putSign_14 ?_
    refine r_iload_n dX1_putSign_17 rfl ?_
    refine r_strp_ls hl.1 (okl_lt hl c6) (okx_vp hc) dX1_putSign_18 ?_
    refine r_aload_n dX1_putSign_19 rfl ?_
    refine r_dup dX1_putSign_20 rfl ?_
    refine r_getp_ln 1 (by decide) q579 rfl dX1_putSign_21 ?_
    refine r_iconst (v := 1) dX1_putSign_24 (by decide) ?_
    refine r_iadd dX1_putSign_25 ?_
    refine r_putp_ln 1 (by decide) q579 rfl rfl rfl rfl rfl dX1_putSign_26 ?_
    first | exact r_retv rfl dX1_putSign_29 (congrArg (m_pl M 14) (if_pos c6).symm) | exact r_retv rfl dX1_putSign_29 (congrArg (m_pl M 14) (if_neg c6).symm)
theorem dX1_putNumber_0 : decode cX1_putNumber 0 = .ok (.iload_n 1, 1) := by decide +kernel
theorem dX1_putNumber_1 : decode cX1_putNumber 1 = .ok (.bipush 10, 2) := by decide +kernel
theorem dX1_putNumber_3 : decode cX1_putNumber 3 = .ok (.if_icmp .lt 15, 3) := by decide +kernel
theorem dX1_putNumber_6 : decode cX1_putNumber 6 = .ok (.aload_n 0, 1) := by decide +kernel
theorem dX1_putNumber_7 : decode cX1_putNumber 7 = .ok (.bipush 48, 2) := by decide +kernel
theorem dX1_putNumber_9 : decode cX1_putNumber 9 = .ok (.iload_n 1, 1) := by decide +kernel
theorem dX1_putNumber_10 : decode cX1_putNumber 10 = .ok (.bipush 10, 2) := by decide +kernel
theorem dX1_putNumber_12 : decode cX1_putNumber 12 = .ok (.idiv, 1) := by decide +kernel
theorem dX1_putNumber_13 : decode cX1_putNumber 13 = .ok (.iadd, 1) := by decide +kernel
theorem dX1_putNumber_14 : decode cX1_putNumber 14 = .ok (.i2c, 1) := by decide +kernel
theorem dX1_putNumber_15 : decode cX1_putNumber 15 = .ok (.invokevirtual 19, 3) := by decide +kernel
theorem dX1_putNumber_18 : decode cX1_putNumber 18 = .ok (.aload_n 0, 1) := by decide +kernel
theorem dX1_putNumber_19 : decode cX1_putNumber 19 = .ok (.bipush 48, 2) := by decide +kernel
theorem dX1_putNumber_21 : decode cX1_putNumber 21 = .ok (.iload_n 1, 1) := by decide +kernel
theorem dX1_putNumber_22 : decode cX1_putNumber 22 = .ok (.bipush 10, 2) := by decide +kernel
theorem dX1_putNumber_24 : decode cX1_putNumber 24 = .ok (.irem, 1) := by decide +kernel
theorem dX1_putNumber_25 : decode cX1_putNumber 25 = .ok (.iadd, 1) := by decide +kernel
theorem dX1_putNumber_26 : decode cX1_putNumber 26 = .ok (.i2c, 1) := by decide +kernel
theorem dX1_putNumber_27 : decode cX1_putNumber 27 = .ok (.invokevirtual 19, 3) := by decide +kernel
theorem dX1_putNumber_30 : decode cX1_putNumber 30 = .ok (.return_, 1) := by decide +kernel
theorem dcX1_putNumber : yX1_putNumber.cls = RX1 ∧ yX1_putNumber.cls ≠ "java/lang/invoke/MethodHandle" ∧ yX1_putNumber.cls ≠ "java/lang/invoke/VarHandle" ∧ (parseMethodDescriptor yX1_putNumber.desc).map (fun d => d.parameters.length) = some 1 := by decide +kernel
theorem gX1_putNumber_27 : GoodIn wsL_law (wsV RX1 19 RX1 yX1_putSign (.code yX1_putSign cX1_putSign 2 none :: wsL_law)) := g_V q575 q576 q577 q27 q578
theorem gX1_putNumber_15 : GoodIn wsL_law (wsV RX1 19 RX1 yX1_putSign (.code yX1_putSign cX1_putSign 2 none :: wsL_law)) := g_V q575 q576 q577 q27 q578
set_option maxRecDepth 100000 in
set_option maxHeartbeats 4000000 in
theorem K_pn {cA : Nat → ClassId} {ad : tA} {ex : va_W} {M : tM} {N : tP} {x : Int32} (hl : okl N) : Cj yX1_putNumber cX1_putNumber 2 none (rmd 1) 0 0 cA ad [.ref (ad 14 0), .int x] ex (m_pl M 14 N) (Qe none ex (m_pl M 14 (f_pn N x))) := by
  refine c_of_r (lv0 := [some (.ref (ad 14 0)), some (.int x)]) rfl (by decide +kernel) (Nat.le_of_ble_eq_true rfl) rfl ?_
  refine r_iload_n dX1_putNumber_0 rfl ?_
  refine r_bipush (v := 10) dX1_putNumber_1 (by decide) ?_
  refine r_icmp_lt (tgt := 18) dX1_putNumber_3 (by decide) (fun c3 => ?_) (fun c3 => ?_)
  · refine r_aload_n dX1_putNumber_18 rfl ?_
    refine r_bipush (v := 48) dX1_putNumber_19 (by decide) ?_
    refine r_iload_n dX1_putNumber_21 rfl ?_
    refine r_bipush (v := 10) dX1_putNumber_22 (by decide) ?_
    refine r_irem dX1_putNumber_24 (by decide) ?_
    refine r_iadd dX1_putNumber_25 ?_
    refine r_i2c dX1_putNumber_26 rfl ?_
    refine r_cVv dX1_putNumber_27 (K_ps c16_x (by first | exact hl | exact okl_ps hl)) gX1_putNumber_27 dcX1_putSign rfl rfl rfl (Nat.le_of_ble_eq_true rfl) ob_ln ?_
    first | exact r_retv rfl dX1_putNumber_30 (congrArg (m_pl M 14) (if_pos c3).symm) | exact r_retv rfl dX1_putNumber_30 (congrArg (m_pl M 14) (if_neg c3).symm)
  · refine r_aload_n dX1_putNumber_6 rfl ?_
    refine r_bipush (v := 48) dX1_putNumber_7 (by decide) ?_
    refine r_iload_n dX1_putNumber_9 rfl ?_
    refine r_bipush (v := 10) dX1_putNumber_10 (by decide) ?_
    refine r_idiv dX1_putNumber_12 (by decide) ?_
    refine r_iadd dX1_putNumber_13 ?_
    refine r_i2c dX1_putNumber_14 rfl ?_
    refine r_cVv dX1_putNumber_15 (K_ps c16_x hl) gX1_putNumber_15 dcX1_putSign rfl rfl rfl (Nat.le_of_ble_eq_true rfl) ob_ln ?_
    refine r_aload_n dX1_putNumber_18 rfl ?_
    refine r_bipush (v := 48) dX1_putNumber_19 (by decide) ?_
    refine r_iload_n dX1_putNumber_21 rfl ?_
    refine r_bipush (v := 10) dX1_putNumber_22 (by decide) ?_
    refine r_irem dX1_putNumber_24 (by decide) ?_
    refine r_iadd dX1_putNumber_25 ?_
    refine r_i2c dX1_putNumber_26 rfl ?_
    refine r_cVv dX1_putNumber_27 (K_ps c16_x (by first | exact hl | exact okl_ps hl)) gX1_putNumber_27 dcX1_putSign rfl rfl rfl (Nat.le_of_ble_eq_true rfl) ob_ln ?_
    first | exact r_retv rfl dX1_putNumber_30 (congrArg (m_pl M 14) (if_pos c3).symm) | exact r_retv rfl dX1_putNumber_30 (congrArg (m_pl M 14) (if_neg c3).symm)
def f_ps1 (N : tP) (s : Nat) (w : Nat → Int32) : tP := f_pn (f_ps (f_pn N (nI s)) 61) (w 0)
def f_ps2 (N : tP) (w : Nat → Int32) : tP := if w 1 ≤ 0 then N else f_pn (f_ps N 42) (w 1)
def f_ps3 (N : tP) (w : Nat → Int32) : tP := if w 3 = 0 then N else f_ps N 63
def f_ps4 (N : tP) (w : Nat → Int32) : tP := if w 2 ≤ 0 then N else f_pn (f_ps N 47) (w 2)
def lp_ps5 (w : Nat → Int32) : Nat → Nat → tP → tP
  | 0, _, N => N
  | n + 1, i, N => if w 4 &&& sh i = 0 then lp_ps5 w n (i + 1) N else lp_ps5 w n (i + 1) (f_pn (f_ps N 60) (nI i))
def f_pst (N : tP) (s : Nat) (w : Nat → Int32) : tP := lp_ps5 w 12 0 (f_ps4 (f_ps3 (f_ps2 (f_ps1 N s w) w) w) w)
theorem ps5_a {w : Nat → Int32} {n i : Nat} {N : tP} (h : w 4 &&& sh i = 0) : lp_ps5 w (n + 1) i N = lp_ps5 w n (i + 1) N := if_pos h
theorem ps5_b {w : Nat → Int32} {n i : Nat} {N : tP} (h : ¬ w 4 &&& sh i = 0) : lp_ps5 w (n + 1) i N = lp_ps5 w n (i + 1) (f_pn (f_ps N 60) (nI i)) := if_neg h
theorem okl_2 {N : tP} {w : Nat → Int32} (h : okl N) : okl (f_ps2 N w) := by unfold f_ps2; split; exact h; exact okl_pn (okl_ps h)
theorem okl_3 {N : tP} {w : Nat → Int32} (h : okl N) : okl (f_ps3 N w) := by unfold f_ps3; split; exact h; exact okl_ps h
theorem okl_4 {N : tP} {w : Nat → Int32} (h : okl N) : okl (f_ps4 N w) := by unfold f_ps4; split; exact h; exact okl_pn (okl_ps h)
theorem okl_5 {w : Nat → Int32} : ∀ (n i : Nat) (N : tP), okl N → okl (lp_ps5 w n i N) := by
  intro n
  induction n with
  | zero => intro i N h; exact h
  | succ n ih =>
    intro i N h
    rw [lp_ps5]
    split
    · exact ih _ _ h
    · exact ih _ _ (okl_pn (okl_ps h))
theorem okl_st {N : tP} {s : Nat} {w : Nat → Int32} (h : okl N) : okl (f_pst N s w) := okl_5 _ _ _ (okl_4 (okl_3 (okl_2 (okl_pn (okl_ps (okl_pn h))))))
theorem dX1_putStep_0 : decode cX1_putStep 0 = .ok (.aload_n 0, 1) := by decide +kernel
theorem dX1_putStep_1 : decode cX1_putStep 1 = .ok (.iload_n 1, 1) := by decide +kernel
theorem dX1_putStep_2 : decode cX1_putStep 2 = .ok (.invokevirtual 15, 3) := by decide +kernel
theorem dX1_putStep_5 : decode cX1_putStep 5 = .ok (.aload_n 0, 1) := by decide +kernel
theorem dX1_putStep_6 : decode cX1_putStep 6 = .ok (.bipush 61, 2) := by decide +kernel
theorem dX1_putStep_8 : decode cX1_putStep 8 = .ok (.invokevirtual 19, 3) := by decide +kernel
theorem dX1_putStep_11 : decode cX1_putStep 11 = .ok (.aload_n 0, 1) := by decide +kernel
theorem dX1_putStep_12 : decode cX1_putStep 12 = .ok (.aload_n 2, 1) := by decide +kernel
theorem dX1_putStep_13 : decode cX1_putStep 13 = .ok (.getfield 23, 3) := by decide +kernel
theorem dX1_putStep_16 : decode cX1_putStep 16 = .ok (.invokevirtual 15, 3) := by decide +kernel
theorem dX1_putStep_19 : decode cX1_putStep 19 = .ok (.aload_n 2, 1) := by decide +kernel
theorem dX1_putStep_20 : decode cX1_putStep 20 = .ok (.getfield 29, 3) := by decide +kernel
theorem dX1_putStep_23 : decode cX1_putStep 23 = .ok (.ifCond .le 17, 3) := by decide +kernel
theorem dX1_putStep_26 : decode cX1_putStep 26 = .ok (.aload_n 0, 1) := by decide +kernel
theorem dX1_putStep_27 : decode cX1_putStep 27 = .ok (.bipush 42, 2) := by decide +kernel
theorem dX1_putStep_29 : decode cX1_putStep 29 = .ok (.invokevirtual 19, 3) := by decide +kernel
theorem dX1_putStep_32 : decode cX1_putStep 32 = .ok (.aload_n 0, 1) := by decide +kernel
theorem dX1_putStep_33 : decode cX1_putStep 33 = .ok (.aload_n 2, 1) := by decide +kernel
theorem dX1_putStep_34 : decode cX1_putStep 34 = .ok (.getfield 29, 3) := by decide +kernel
theorem dX1_putStep_37 : decode cX1_putStep 37 = .ok (.invokevirtual 15, 3) := by decide +kernel
theorem dX1_putStep_40 : decode cX1_putStep 40 = .ok (.aload_n 2, 1) := by decide +kernel
theorem dX1_putStep_41 : decode cX1_putStep 41 = .ok (.getfield 32, 3) := by decide +kernel
theorem dX1_putStep_44 : decode cX1_putStep 44 = .ok (.ifCond .eq 9, 3) := by decide +kernel
theorem dX1_putStep_47 : decode cX1_putStep 47 = .ok (.aload_n 0, 1) := by decide +kernel
theorem dX1_putStep_48 : decode cX1_putStep 48 = .ok (.bipush 63, 2) := by decide +kernel
theorem dX1_putStep_50 : decode cX1_putStep 50 = .ok (.invokevirtual 19, 3) := by decide +kernel
theorem dX1_putStep_53 : decode cX1_putStep 53 = .ok (.aload_n 2, 1) := by decide +kernel
theorem dX1_putStep_54 : decode cX1_putStep 54 = .ok (.getfield 36, 3) := by decide +kernel
theorem dX1_putStep_57 : decode cX1_putStep 57 = .ok (.ifCond .le 17, 3) := by decide +kernel
theorem dX1_putStep_60 : decode cX1_putStep 60 = .ok (.aload_n 0, 1) := by decide +kernel
theorem dX1_putStep_61 : decode cX1_putStep 61 = .ok (.bipush 47, 2) := by decide +kernel
theorem dX1_putStep_63 : decode cX1_putStep 63 = .ok (.invokevirtual 19, 3) := by decide +kernel
theorem dX1_putStep_66 : decode cX1_putStep 66 = .ok (.aload_n 0, 1) := by decide +kernel
theorem dX1_putStep_67 : decode cX1_putStep 67 = .ok (.aload_n 2, 1) := by decide +kernel
theorem dX1_putStep_68 : decode cX1_putStep 68 = .ok (.getfield 36, 3) := by decide +kernel
theorem dX1_putStep_71 : decode cX1_putStep 71 = .ok (.invokevirtual 15, 3) := by decide +kernel
theorem dX1_putStep_74 : decode cX1_putStep 74 = .ok (.iconst 0, 1) := by decide +kernel
theorem dX1_putStep_75 : decode cX1_putStep 75 = .ok (.istore_n 3, 1) := by decide +kernel
theorem dX1_putStep_76 : decode cX1_putStep 76 = .ok (.iload_n 3, 1) := by decide +kernel
theorem dX1_putStep_77 : decode cX1_putStep 77 = .ok (.bipush 12, 2) := by decide +kernel
theorem dX1_putStep_79 : decode cX1_putStep 79 = .ok (.if_icmp .ge 31, 3) := by decide +kernel
theorem dX1_putStep_82 : decode cX1_putStep 82 = .ok (.aload_n 2, 1) := by decide +kernel
theorem dX1_putStep_83 : decode cX1_putStep 83 = .ok (.getfield 39, 3) := by decide +kernel
theorem dX1_putStep_86 : decode cX1_putStep 86 = .ok (.iconst 1, 1) := by decide +kernel
theorem dX1_putStep_87 : decode cX1_putStep 87 = .ok (.iload_n 3, 1) := by decide +kernel
theorem dX1_putStep_88 : decode cX1_putStep 88 = .ok (.ishl, 1) := by decide +kernel
theorem dX1_putStep_89 : decode cX1_putStep 89 = .ok (.iand, 1) := by decide +kernel
theorem dX1_putStep_90 : decode cX1_putStep 90 = .ok (.ifCond .eq 14, 3) := by decide +kernel
theorem dX1_putStep_93 : decode cX1_putStep 93 = .ok (.aload_n 0, 1) := by decide +kernel
theorem dX1_putStep_94 : decode cX1_putStep 94 = .ok (.bipush 60, 2) := by decide +kernel
theorem dX1_putStep_96 : decode cX1_putStep 96 = .ok (.invokevirtual 19, 3) := by decide +kernel
theorem dX1_putStep_99 : decode cX1_putStep 99 = .ok (.aload_n 0, 1) := by decide +kernel
theorem dX1_putStep_100 : decode cX1_putStep 100 = .ok (.iload_n 3, 1) := by decide +kernel
theorem dX1_putStep_101 : decode cX1_putStep 101 = .ok (.invokevirtual 15, 3) := by decide +kernel
theorem dX1_putStep_104 : decode cX1_putStep 104 = .ok (.iinc 3 1, 3) := by decide +kernel
theorem dX1_putStep_107 : decode cX1_putStep 107 = .ok (.goto (-31), 3) := by decide +kernel
theorem dX1_putStep_110 : decode cX1_putStep 110 = .ok (.return_, 1) := by decide +kernel
theorem dcX1_putStep : yX1_putStep.cls = RX1 ∧ yX1_putStep.cls ≠ "java/lang/invoke/MethodHandle" ∧ yX1_putStep.cls ≠ "java/lang/invoke/VarHandle" ∧ (parseMethodDescriptor yX1_putStep.desc).map (fun d => d.parameters.length) = some 2 := by decide +kernel
theorem gX1_putStep_96 : GoodIn wsL_law (wsV RX1 19 RX1 yX1_putSign (.code yX1_putSign cX1_putSign 2 none :: wsL_law)) := g_V q575 q576 q577 q27 q578
theorem gX1_putStep_101 : GoodIn wsL_law (wsV RX1 15 RX1 yX1_putNumber (.code yX1_putNumber cX1_putNumber 2 none :: wsL_law)) := g_V q571 q572 q573 q27 q574
theorem gX1_putStep_63 : GoodIn wsL_law (wsV RX1 19 RX1 yX1_putSign (.code yX1_putSign cX1_putSign 2 none :: wsL_law)) := g_V q575 q576 q577 q27 q578
theorem gX1_putStep_71 : GoodIn wsL_law (wsV RX1 15 RX1 yX1_putNumber (.code yX1_putNumber cX1_putNumber 2 none :: wsL_law)) := g_V q571 q572 q573 q27 q574
theorem gX1_putStep_50 : GoodIn wsL_law (wsV RX1 19 RX1 yX1_putSign (.code yX1_putSign cX1_putSign 2 none :: wsL_law)) := g_V q575 q576 q577 q27 q578
theorem gX1_putStep_29 : GoodIn wsL_law (wsV RX1 19 RX1 yX1_putSign (.code yX1_putSign cX1_putSign 2 none :: wsL_law)) := g_V q575 q576 q577 q27 q578
theorem gX1_putStep_37 : GoodIn wsL_law (wsV RX1 15 RX1 yX1_putNumber (.code yX1_putNumber cX1_putNumber 2 none :: wsL_law)) := g_V q571 q572 q573 q27 q574
theorem gX1_putStep_2 : GoodIn wsL_law (wsV RX1 15 RX1 yX1_putNumber (.code yX1_putNumber cX1_putNumber 2 none :: wsL_law)) := g_V q571 q572 q573 q27 q574
theorem gX1_putStep_8 : GoodIn wsL_law (wsV RX1 19 RX1 yX1_putSign (.code yX1_putSign cX1_putSign 2 none :: wsL_law)) := g_V q575 q576 q577 q27 q578
theorem gX1_putStep_16 : GoodIn wsL_law (wsV RX1 15 RX1 yX1_putNumber (.code yX1_putNumber cX1_putNumber 2 none :: wsL_law)) := g_V q571 q572 q573 q27 q574
set_option maxRecDepth 100000 in
set_option maxHeartbeats 4000000 in
theorem K_pst {cA : Nat → ClassId} {ad : tA} {ex : va_W} {M : tM} {N0 : tP} {r s j : Nat} (hr : isPlan r) (hne : r ≠ 14) (hj : j < 12) (hl0 : okl N0) : Cj yX1_putStep cX1_putStep 4 none (rmd 2) 0 0 cA ad [.ref (ad 14 0), .int (nI s), .ref (ad r (4 + j))] ex (m_pl M 14 N0) (Qe none ex (m_pl M 14 (f_pst N0 s (M r (4 + j))))) := by
  refine c_of_r (lv0 := [some (.ref (ad 14 0)), some (.int (nI s)), some (.ref (ad r (4 + j))), none]) rfl (by decide +kernel) (Nat.le_of_ble_eq_true rfl) rfl ?_
  have L5 : ∀ (n i : Nat) (N : tP), i + n = 12 → okl N → lp_ps5 (M r (4 + j)) n i N = f_pst N0 s (M r (4 + j)) → Rj cX1_putStep RX1 4 none (rmd 2) 0 0 cA ad (Qe none ex (m_pl M 14 (f_pst N0 s (M r (4 + j))))) ex 0 0 76 [some (.ref (ad 14 0)), some (.int (nI s)), some (.ref (ad r (4 + j))), some (.int (nI i))] [] (m_pl M 14 N) := by
    intro n
    induction n with
    | zero =>
      intro i N h hl hN
      refine r_iload_n dX1_putStep_76 rfl ?_
      refine r_bipush (v := 12) dX1_putStep_77 (by decide) ?_
      refine r_icmp_ge (tgt := 110) dX1_putStep_79 (by decide) (fun c79 => ?_) (fun c79 => absurd (lp_z (x := 12) (c := 12) rfl h) c79)
      exact r_retv rfl dX1_putStep_110 (by rw [← hN]; rfl)
    | succ n ih =>
      intro i N h hl hN
      refine r_iload_n dX1_putStep_76 rfl ?_
      refine r_bipush (v := 12) dX1_putStep_77 (by decide) ?_
      refine r_icmp_ge (tgt := 110) dX1_putStep_79 (by decide) (fun c79 => absurd c79 (lp_s (x := 12) (c := 12) rfl (by omega) h)) (fun c79 => ?_)
      refine r_aload_n dX1_putStep_82 rfl ?_
      refine r_getq_st (by assumption) (by assumption) (by omega) 4 (by decide) q570 rfl dX1_putStep_83 ?_
      refine r_iconst (v := 1) dX1_putStep_86 (by decide) ?_
      refine r_iload_n dX1_putStep_87 rfl ?_
      refine r_ishl dX1_putStep_88 ?_
      refine r_iand dX1_putStep_89 ?_
      refine r_if_eq (tgt := 104) dX1_putStep_90 (by decide) (fun c90 => ?_) (fun c90 => ?_)
      · refine r_iinc dX1_putStep_104 rfl ii_s (by decide) rfl ?_
        refine r_goto (tgt := 76) dX1_putStep_107 (by decide) ?_
        exact ih (i + 1) _ (by omega) (by first | exact hl | exact okl_pn (okl_ps hl)) (by rw [← hN]; first | exact (ps5_a c90).symm | exact (ps5_b c90).symm)
      · refine r_aload_n dX1_putStep_93 rfl ?_
        refine r_bipush (v := 60) dX1_putStep_94 (by decide) ?_
        refine r_cVv dX1_putStep_96 (K_ps (show okx 60 from kI (q := 60) (by omega)) hl) gX1_putStep_96 dcX1_putSign rfl rfl rfl (Nat.le_of_ble_eq_true rfl) ob_ln ?_
        refine r_aload_n dX1_putStep_99 rfl ?_
        refine r_iload_n dX1_putStep_100 rfl ?_
        refine r_cVv dX1_putStep_101 (K_pn (okl_ps hl)) gX1_putStep_101 dcX1_putNumber rfl rfl rfl (Nat.le_of_ble_eq_true rfl) ob_ln ?_
        refine r_iinc dX1_putStep_104 rfl ii_s (by decide) rfl ?_
        refine r_goto (tgt := 76) dX1_putStep_107 (by decide) ?_
        exact ih (i + 1) _ (by omega) (by first | exact hl | exact okl_pn (okl_ps hl)) (by rw [← hN]; first | exact (ps5_a c90).symm | exact (ps5_b c90).symm)
  have L4 : ∀ (N : tP), okl N → lp_ps5 (M r (4 + j)) 12 0 (f_ps4 N (M r (4 + j))) = f_pst N0 s (M r (4 + j)) → Rj cX1_putStep RX1 4 none (rmd 2) 0 0 cA ad (Qe none ex (m_pl M 14 (f_pst N0 s (M r (4 + j))))) ex 0 0 53 [some (.ref (ad 14 0)), some (.int (nI s)), some (.ref (ad r (4 + j))), none] [] (m_pl M 14 N) := by
    intro N hl hN
    refine r_aload_n dX1_putStep_53 rfl ?_
    refine r_getq_st (by assumption) (by assumption) (by omega) 2 (by decide) q569 rfl dX1_putStep_54 ?_
    refine r_if_le (tgt := 74) dX1_putStep_57 (by decide) (fun c57 => ?_) (fun c57 => ?_)
    · refine r_iconst (v := 0) dX1_putStep_74 (by decide) ?_
      refine r_istore_n dX1_putStep_75 (by decide) rfl ?_
      exact L5 12 0 _ (by omega) (by first | exact hl | exact okl_pn (okl_ps hl)) (by rw [← hN]; first | rw [show f_ps4 N (M r (4 + j)) = N from if_pos c57] | rw [show f_ps4 N (M r (4 + j)) = _ from if_neg c57])
    · refine r_aload_n dX1_putStep_60 rfl ?_
      refine r_bipush (v := 47) dX1_putStep_61 (by decide) ?_
      refine r_cVv dX1_putStep_63 (K_ps (show okx 47 from kI (q := 47) (by omega)) hl) gX1_putStep_63 dcX1_putSign rfl rfl rfl (Nat.le_of_ble_eq_true rfl) ob_ln ?_
      refine r_aload_n dX1_putStep_66 rfl ?_
      refine r_aload_n dX1_putStep_67 rfl ?_
      refine r_getq_st (by assumption) (by assumption) (by omega) 2 (by decide) q569 rfl dX1_putStep_68 ?_
      refine r_cVv dX1_putStep_71 (K_pn (okl_ps hl)) gX1_putStep_71 dcX1_putNumber rfl rfl rfl (Nat.le_of_ble_eq_true rfl) ob_ln ?_
      refine r_iconst (v := 0) dX1_putStep_74 (by decide) ?_
      refine r_istore_n dX1_putStep_75 (by decide) rfl ?_
      exact L5 12 0 _ (by omega) (by first | exact hl | exact okl_pn (okl_ps hl)) (by rw [← hN]; first | rw [show f_ps4 N (M r (4 + j)) = N from if_pos c57] | rw [show f_ps4 N (M r (4 + j)) = _ from if_neg c57])
  have L3 : ∀ (N : tP), okl N → lp_ps5 (M r (4 + j)) 12 0 (f_ps4 (f_ps3 N (M r (4 + j))) (M r (4 + j))) = f_pst N0 s (M r (4 + j)) → Rj cX1_putStep RX1 4 none (rmd 2) 0 0 cA ad (Qe none ex (m_pl M 14 (f_pst N0 s (M r (4 + j))))) ex 0 0 40 [some (.ref (ad 14 0)), some (.int (nI s)), some (.ref (ad r (4 + j))), none] [] (m_pl M 14 N) := by
    intro N hl hN
    refine r_aload_n dX1_putStep_40 rfl ?_
    refine r_getq_st (by assumption) (by assumption) (by omega) 3 (by decide) q568 rfl dX1_putStep_41 ?_
    refine r_if_eq (tgt := 53) dX1_putStep_44 (by decide) (fun c44 => ?_) (fun c44 => ?_)
    · exact L4 _ (by first | exact hl | exact okl_ps hl) (by rw [← hN]; first | rw [show f_ps3 N (M r (4 + j)) = N from if_pos c44] | rw [show f_ps3 N (M r (4 + j)) = _ from if_neg c44])
    · refine r_aload_n dX1_putStep_47 rfl ?_
      refine r_bipush (v := 63) dX1_putStep_48 (by decide) ?_
      refine r_cVv dX1_putStep_50 (K_ps (show okx 63 from kI (q := 63) (by omega)) hl) gX1_putStep_50 dcX1_putSign rfl rfl rfl (Nat.le_of_ble_eq_true rfl) ob_ln ?_
      exact L4 _ (by first | exact hl | exact okl_ps hl) (by rw [← hN]; first | rw [show f_ps3 N (M r (4 + j)) = N from if_pos c44] | rw [show f_ps3 N (M r (4 + j)) = _ from if_neg c44])
  have L2 : ∀ (N : tP), okl N → lp_ps5 (M r (4 + j)) 12 0 (f_ps4 (f_ps3 (f_ps2 N (M r (4 + j))) (M r (4 + j))) (M r (4 + j))) = f_pst N0 s (M r (4 + j)) → Rj cX1_putStep RX1 4 none (rmd 2) 0 0 cA ad (Qe none ex (m_pl M 14 (f_pst N0 s (M r (4 + j))))) ex 0 0 19 [some (.ref (ad 14 0)), some (.int (nI s)), some (.ref (ad r (4 + j))), none] [] (m_pl M 14 N) := by
    intro N hl hN
    refine r_aload_n dX1_putStep_19 rfl ?_
    refine r_getq_st (by assumption) (by assumption) (by omega) 1 (by decide) q567 rfl dX1_putStep_20 ?_
    refine r_if_le (tgt := 40) dX1_putStep_23 (by decide) (fun c23 => ?_) (fun c23 => ?_)
    · exact L3 _ (by first | exact hl | exact okl_pn (okl_ps hl)) (by rw [← hN]; first | rw [show f_ps2 N (M r (4 + j)) = N from if_pos c23] | rw [show f_ps2 N (M r (4 + j)) = _ from if_neg c23])
    · refine r_aload_n dX1_putStep_26 rfl ?_
      refine r_bipush (v := 42) dX1_putStep_27 (by decide) ?_
      refine r_cVv dX1_putStep_29 (K_ps (show okx 42 from kI (q := 42) (by omega)) hl) gX1_putStep_29 dcX1_putSign rfl rfl rfl (Nat.le_of_ble_eq_true rfl) ob_ln ?_
      refine r_aload_n dX1_putStep_32 rfl ?_
      refine r_aload_n dX1_putStep_33 rfl ?_
      refine r_getq_st (by assumption) (by assumption) (by omega) 1 (by decide) q567 rfl dX1_putStep_34 ?_
      refine r_cVv dX1_putStep_37 (K_pn (okl_ps hl)) gX1_putStep_37 dcX1_putNumber rfl rfl rfl (Nat.le_of_ble_eq_true rfl) ob_ln ?_
      exact L3 _ (by first | exact hl | exact okl_pn (okl_ps hl)) (by rw [← hN]; first | rw [show f_ps2 N (M r (4 + j)) = N from if_pos c23] | rw [show f_ps2 N (M r (4 + j)) = _ from if_neg c23])
  refine r_aload_n dX1_putStep_0 rfl ?_
  refine r_iload_n dX1_putStep_1 rfl ?_
  refine r_cVv dX1_putStep_2 (K_pn hl0) gX1_putStep_2 dcX1_putNumber rfl rfl rfl (Nat.le_of_ble_eq_true rfl) ob_ln ?_
  refine r_aload_n dX1_putStep_5 rfl ?_
  refine r_bipush (v := 61) dX1_putStep_6 (by decide) ?_
  refine r_cVv dX1_putStep_8 (K_ps (show okx 61 from kI (q := 61) (by omega)) (okl_pn hl0)) gX1_putStep_8 dcX1_putSign rfl rfl rfl (Nat.le_of_ble_eq_true rfl) ob_ln ?_
  refine r_aload_n dX1_putStep_11 rfl ?_
  refine r_aload_n dX1_putStep_12 rfl ?_
  refine r_getq_st (by assumption) (by assumption) (by omega) 0 (by decide) q566 rfl dX1_putStep_13 ?_
  refine r_cVv dX1_putStep_16 (K_pn (okl_ps (okl_pn hl0))) gX1_putStep_16 dcX1_putNumber rfl rfl rfl (Nat.le_of_ble_eq_true rfl) ob_ln ?_
  exact L2 _ (okl_pn (okl_ps (okl_pn hl0))) rfl
def f_pl (N : tP) (x : Int32) : tP := if x < 0 ∨ 8 ≤ x then N else f_ps N (litc 7 x.toNatClampNeg)
theorem okl_pl {N : tP} {x : Int32} (h : okl N) : okl (f_pl N x) := by unfold f_pl; split; exact h; exact okl_ps h
theorem pl_no {N : tP} {x : Int32} (h : x < 0 ∨ 8 ≤ x) : f_pl N x = N := if_pos h
theorem pl_ye {N : tP} {k : Nat} (h : k < 8) : f_pl N (nI k) = f_ps N (litc 7 k) := by
  unfold f_pl
  rw [if_neg (fun e => e.elim (nI_pos (by omega)) (nI_ge (b := 8) h (by omega))), nI_clamp (by omega)]
theorem lit_x {i k : Nat} : okx (litc i k) := by
  obtain ⟨j, h1, h2⟩ := pk_andE ((bytS.getD i []).getD k 0) (m := 255) 8 (by decide)
  exact ⟨j, by omega, h2⟩
theorem dX1_putLetterOf_0 : decode cX1_putLetterOf 0 = .ok (.iload_n 1, 1) := by decide +kernel
theorem dX1_putLetterOf_1 : decode cX1_putLetterOf 1 = .ok (.ifCond .lt 22, 3) := by decide +kernel
theorem dX1_putLetterOf_4 : decode cX1_putLetterOf 4 = .ok (.iload_n 1, 1) := by decide +kernel
theorem dX1_putLetterOf_5 : decode cX1_putLetterOf 5 = .ok (.ldc 42, 2) := by decide +kernel
theorem dX1_putLetterOf_7 : decode cX1_putLetterOf 7 = .ok (.invokevirtual 44, 3) := by decide +kernel
theorem dX1_putLetterOf_10 : decode cX1_putLetterOf 10 = .ok (.if_icmp .ge 13, 3) := by decide +kernel
theorem dX1_putLetterOf_13 : decode cX1_putLetterOf 13 = .ok (.aload_n 0, 1) := by decide +kernel
theorem dX1_putLetterOf_14 : decode cX1_putLetterOf 14 = .ok (.ldc 42, 2) := by decide +kernel
theorem dX1_putLetterOf_16 : decode cX1_putLetterOf 16 = .ok (.iload_n 1, 1) := by decide +kernel
theorem dX1_putLetterOf_17 : decode cX1_putLetterOf 17 = .ok (.invokevirtual 50, 3) := by decide +kernel
theorem dX1_putLetterOf_20 : decode cX1_putLetterOf 20 = .ok (.invokevirtual 19, 3) := by decide +kernel
theorem dX1_putLetterOf_23 : decode cX1_putLetterOf 23 = .ok (.return_, 1) := by decide +kernel
theorem dcX1_putLetterOf : yX1_putLetterOf.cls = RX1 ∧ yX1_putLetterOf.cls ≠ "java/lang/invoke/MethodHandle" ∧ yX1_putLetterOf.cls ≠ "java/lang/invoke/VarHandle" ∧ (parseMethodDescriptor yX1_putLetterOf.desc).map (fun d => d.parameters.length) = some 1 := by decide +kernel
theorem gX1_putLetterOf_7 : GoodIn wsL_law (wsV RX1 44 RJ0 yJ0_length_8abf5 (.code yJ0_length_8abf5 cJ0_length_8abf5 1 (some .int) :: wsL_law)) := g_V q610 q210 q211 q212 q213
theorem gX1_putLetterOf_17 : GoodIn wsL_law (wsV RX1 50 RJ0 yJ0_charAt_5068e (.code yJ0_charAt_5068e cJ0_charAt_5068e 2 (some .char) :: wsL_law)) := g_V q611 q222 q223 q212 q224
theorem gX1_putLetterOf_20 : GoodIn wsL_law (wsV RX1 19 RX1 yX1_putSign (.code yX1_putSign cX1_putSign 2 none :: wsL_law)) := g_V q575 q576 q577 q27 q578
set_option maxRecDepth 100000 in
set_option maxHeartbeats 4000000 in
theorem K_pl {cA : Nat → ClassId} {ad : tA} {ex : va_W} {M : tM} {N : tP} {x : Int32} (hl : okl N) : Cj yX1_putLetterOf cX1_putLetterOf 2 none (rmd 4) 0 0 cA ad [.ref (ad 14 0), .int x] ex (m_pl M 14 N) (Qe none ex (m_pl M 14 (f_pl N x))) := by
  refine c_of_r (lv0 := [some (.ref (ad 14 0)), some (.int x)]) rfl (by decide +kernel) (Nat.le_of_ble_eq_true rfl) rfl ?_
  rcases pk_ix x (n := 8) (by omega) with h | h | ⟨k, hk, rfl⟩
  · refine r_iload_n dX1_putLetterOf_0 rfl ?_
    refine r_if_lt (tgt := 23) dX1_putLetterOf_1 (by decide) (fun c1 => ?_) (fun c1 => absurd h c1)
    exact r_retv rfl dX1_putLetterOf_23 (congrArg (m_pl M 14) (pl_no (Or.inl h)).symm)
  · refine r_iload_n dX1_putLetterOf_0 rfl ?_
    refine r_if_lt (tgt := 23) dX1_putLetterOf_1 (by decide) (fun c1 => ?_) (fun c1 => ?_)
    · first | exact r_retv rfl dX1_putLetterOf_23 (congrArg (m_pl M 14) (pl_no (Or.inl c1)).symm) | exact r_retv rfl dX1_putLetterOf_23 (congrArg (m_pl M 14) (pl_no (Or.inr h)).symm)
    · refine r_iload_n dX1_putLetterOf_4 rfl ?_
      refine r_ldcS (List.mem_of_getElem? (i := 7) rfl) dX1_putLetterOf_5 ?_
      refine r_cVi dX1_putLetterOf_7 (K_litLen (i := 7) (by omega)) gX1_putLetterOf_7 dcJ0_length_8abf5 rfl rfl rfl (Nat.le_of_ble_eq_true rfl) (rc_lit (by omega)) ?_
      refine r_icmp_ge (tgt := 23) dX1_putLetterOf_10 (by decide) (fun c10 => ?_) (fun c10 => absurd h c10)
      first | exact r_retv rfl dX1_putLetterOf_23 (congrArg (m_pl M 14) (pl_no (Or.inl c1)).symm) | exact r_retv rfl dX1_putLetterOf_23 (congrArg (m_pl M 14) (pl_no (Or.inr h)).symm)
  · refine r_iload_n dX1_putLetterOf_0 rfl ?_
    refine r_if_lt (tgt := 23) dX1_putLetterOf_1 (by decide) (fun c1 => absurd c1 (nI_pos (by omega))) (fun c1 => ?_)
    refine r_iload_n dX1_putLetterOf_4 rfl ?_
    refine r_ldcS (List.mem_of_getElem? (i := 7) rfl) dX1_putLetterOf_5 ?_
    refine r_cVi dX1_putLetterOf_7 (K_litLen (i := 7) (by omega)) gX1_putLetterOf_7 dcJ0_length_8abf5 rfl rfl rfl (Nat.le_of_ble_eq_true rfl) (rc_lit (by omega)) ?_
    refine r_icmp_ge (tgt := 23) dX1_putLetterOf_10 (by decide) (fun c10 => absurd c10 (nI_ge (b := 8) hk (by omega))) (fun c10 => ?_)
    refine r_aload_n dX1_putLetterOf_13 rfl ?_
    refine r_ldcS (List.mem_of_getElem? (i := 7) rfl) dX1_putLetterOf_14 ?_
    refine r_iload_n dX1_putLetterOf_16 rfl ?_
    refine r_cVi dX1_putLetterOf_17 (K_litChar (i := 7) (k := k) (by omega) hk) gX1_putLetterOf_17 dcJ0_charAt_5068e rfl rfl rfl (Nat.le_of_ble_eq_true rfl) (rc_lit (by omega)) ?_
    refine r_cVv dX1_putLetterOf_20 (K_ps lit_x hl) gX1_putLetterOf_20 dcX1_putSign rfl rfl rfl (Nat.le_of_ble_eq_true rfl) ob_ln ?_
    exact r_retv rfl dX1_putLetterOf_23 (congrArg (m_pl M 14) (pl_ye hk).symm)

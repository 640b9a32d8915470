/-! PART 10: literals, the text of orders, the line: models and contracts -/
theorem c_int {x : Int32} : (Value.int x).category = 1 := rfl
theorem p_ans {q : Bool × tP} {b : Bool} {T : tP} (h : q = (b, T)) : bI b = bI q.1 := by rw [h]
theorem p_st {M : tM} {r : Nat} {q : Bool × tP} {b : Bool} {T : tP} (h : q = (b, T)) : m_pl M r T = m_pl M r q.2 := by rw [h]
def litc (i k : Nat) : Int32 := (bytS.getD i []).getD k 0 &&& 255
theorem dJ3_checkIndex_8e157_0 : decode cJ3_checkIndex_8e157 0 = .ok (.iload_n 0, 1) := by decide +kernel
theorem dJ3_checkIndex_8e157_1 : decode cJ3_checkIndex_8e157 1 = .ok (.ifCond .lt 8, 3) := by decide +kernel
theorem dJ3_checkIndex_8e157_4 : decode cJ3_checkIndex_8e157 4 = .ok (.iload_n 0, 1) := by decide +kernel
theorem dJ3_checkIndex_8e157_5 : decode cJ3_checkIndex_8e157 5 = .ok (.iload_n 1, 1) := by decide +kernel
theorem dJ3_checkIndex_8e157_6 : decode cJ3_checkIndex_8e157 6 = .ok (.if_icmp .lt 10, 3) := by decide +kernel
theorem dJ3_checkIndex_8e157_9 : decode cJ3_checkIndex_8e157 9 = .ok (.aload_n 2, 1) := by decide +kernel
theorem dJ3_checkIndex_8e157_10 : decode cJ3_checkIndex_8e157 10 = .ok (.iload_n 0, 1) := by decide +kernel
theorem dJ3_checkIndex_8e157_11 : decode cJ3_checkIndex_8e157 11 = .ok (.iload_n 1, 1) := by decide +kernel
theorem dJ3_checkIndex_8e157_12 : decode cJ3_checkIndex_8e157 12 = .ok (.invokestatic 95, 3) := by decide +kernel
theorem dJ3_checkIndex_8e157_15 : decode cJ3_checkIndex_8e157 15 = .ok (.athrow, 1) := by decide +kernel
theorem dJ3_checkIndex_8e157_16 : decode cJ3_checkIndex_8e157 16 = .ok (.iload_n 0, 1) := by decide +kernel
theorem dJ3_checkIndex_8e157_17 : decode cJ3_checkIndex_8e157 17 = .ok (.ireturn, 1) := by decide +kernel
theorem dcJ3_checkIndex_8e157 : yJ3_checkIndex_8e157.cls = RJ3 ∧ yJ3_checkIndex_8e157.cls ≠ "java/lang/invoke/MethodHandle" ∧ yJ3_checkIndex_8e157.cls ≠ "java/lang/invoke/VarHandle" ∧ (parseMethodDescriptor yJ3_checkIndex_8e157.desc).map (fun d => d.parameters.length) = some 3 := by decide +kernel
set_option maxRecDepth 100000 in
set_option maxHeartbeats 4000000 in
theorem K_ckx {cA : Nat → ClassId} {ad : tA} {ex : va_W} {M : tM} {k n : Nat} {v : Value} (hv : v.category = 1) (hk : k < n) (hn : n < 2 ^ 31) : Cj yJ3_checkIndex_8e157 cJ3_checkIndex_8e157 3 (some .int) (rmd 0) 0 0 cA ad [.int (nI k), .int (nI n), v] ex M (Qe (some (.int (nI k))) ex M) := by
  refine c_of_r (lv0 := [some (.int (nI k)), some (.int (nI n)), some v]) rfl (by decide +kernel) (by simp [lg_sl, hv, c_int]) rfl ?_
  refine r_iload_n dJ3_checkIndex_8e157_0 rfl ?_
  refine r_if_lt (tgt := 9) dJ3_checkIndex_8e157_1 (by decide) (fun c1 => absurd c1 (nI_pos (by omega))) (fun c1 => ?_)
  refine r_iload_n dJ3_checkIndex_8e157_4 rfl ?_
  refine r_iload_n dJ3_checkIndex_8e157_5 rfl ?_
  refine r_icmp_lt (tgt := 16) dJ3_checkIndex_8e157_6 (by decide) (fun c6 => ?_) (fun c6 => absurd (nI_lt (by omega) (by omega)) c6)
  refine r_iload_n dJ3_checkIndex_8e157_16 rfl ?_
  exact r_ret rfl rfl dJ3_checkIndex_8e157_17 rfl rfl
theorem dJ0_checkIndex_df160_0 : decode cJ0_checkIndex_df160 0 = .ok (.iload_n 0, 1) := by decide +kernel
theorem dJ0_checkIndex_df160_1 : decode cJ0_checkIndex_df160 1 = .ok (.iload_n 1, 1) := by decide +kernel
theorem dJ0_checkIndex_df160_2 : decode cJ0_checkIndex_df160 2 = .ok (.getstatic 1053, 3) := by decide +kernel
theorem dJ0_checkIndex_df160_5 : decode cJ0_checkIndex_df160 5 = .ok (.invokestatic 1059, 3) := by decide +kernel
theorem dJ0_checkIndex_df160_8 : decode cJ0_checkIndex_df160 8 = .ok (.pop, 1) := by decide +kernel
theorem dJ0_checkIndex_df160_9 : decode cJ0_checkIndex_df160 9 = .ok (.return_, 1) := by decide +kernel
theorem dcJ0_checkIndex_df160 : yJ0_checkIndex_df160.cls = RJ0 ∧ yJ0_checkIndex_df160.cls ≠ "java/lang/invoke/MethodHandle" ∧ yJ0_checkIndex_df160.cls ≠ "java/lang/invoke/VarHandle" ∧ (parseMethodDescriptor yJ0_checkIndex_df160.desc).map (fun d => d.parameters.length) = some 2 := by decide +kernel
theorem gJ0_checkIndex_df160_5 : gS RJ0 1059 yJ3_checkIndex_8e157 cJ3_checkIndex_8e157 3 (some .int) := ⟨q237, q238, q239, q240⟩
set_option maxRecDepth 100000 in
set_option maxHeartbeats 4000000 in
theorem K_ck0 {cA : Nat → ClassId} {ad : tA} {ex : va_W} {M : tM} {k n : Nat} (hk : k < n) (hn : n < 2 ^ 31) : Cj yJ0_checkIndex_df160 cJ0_checkIndex_df160 2 none (rmd 1) 0 0 cA ad [.int (nI k), .int (nI n)] ex M (Qe none ex M) := by
  refine c_of_r (lv0 := [some (.int (nI k)), some (.int (nI n))]) rfl (by decide +kernel) (Nat.le_of_ble_eq_true rfl) rfl ?_
  refine r_iload_n dJ0_checkIndex_df160_0 rfl ?_
  refine r_iload_n dJ0_checkIndex_df160_1 rfl ?_
  refine r_getsP q236 dJ0_checkIndex_df160_2 (fun vf hvf => ?_)
  refine r_cSi dJ0_checkIndex_df160_5 (K_ckx hvf hk hn) gJ0_checkIndex_df160_5 dcJ3_checkIndex_8e157 rfl rfl rfl (Nat.le_of_ble_eq_true rfl) ?_
  refine r_pop dJ0_checkIndex_df160_8 rfl ?_
  exact r_retv rfl dJ0_checkIndex_df160_9 rfl
theorem dJ0_coder_7d493_0 : decode cJ0_coder_7d493 0 = .ok (.getstatic 38, 3) := by decide +kernel
theorem dJ0_coder_7d493_3 : decode cJ0_coder_7d493 3 = .ok (.ifCond .eq 10, 3) := by decide +kernel
theorem dJ0_coder_7d493_6 : decode cJ0_coder_7d493 6 = .ok (.aload_n 0, 1) := by decide +kernel
theorem dJ0_coder_7d493_7 : decode cJ0_coder_7d493 7 = .ok (.getfield 15, 3) := by decide +kernel
theorem dJ0_coder_7d493_10 : decode cJ0_coder_7d493 10 = .ok (.goto 4, 3) := by decide +kernel
theorem dJ0_coder_7d493_13 : decode cJ0_coder_7d493 13 = .ok (.iconst 1, 1) := by decide +kernel
theorem dJ0_coder_7d493_14 : decode cJ0_coder_7d493 14 = .ok (.ireturn, 1) := by decide +kernel
theorem dcJ0_coder_7d493 : yJ0_coder_7d493.cls = RJ0 ∧ yJ0_coder_7d493.cls ≠ "java/lang/invoke/MethodHandle" ∧ yJ0_coder_7d493.cls ≠ "java/lang/invoke/VarHandle" ∧ (parseMethodDescriptor yJ0_coder_7d493.desc).map (fun d => d.parameters.length) = some 0 := by decide +kernel
set_option maxRecDepth 100000 in
set_option maxHeartbeats 4000000 in
theorem K_litCoder {cA : Nat → ClassId} {ad : tA} {ex : va_W} {M : tM} {i : Nat} (hi : i < 15) : Cj yJ0_coder_7d493 cJ0_coder_7d493 1 (some .byte) (rmd 0) 0 0 cA ad [.ref (ad 16 i)] ex M (Qe (some (.int 0)) ex M) := by
  refine c_of_r (lv0 := [some (.ref (ad 16 i))]) rfl (by decide +kernel) (Nat.le_of_ble_eq_true rfl) rfl ?_
  refine r_getsC q219 dJ0_coder_7d493_0 ?_
  refine r_if_eq (tgt := 13) dJ0_coder_7d493_3 (by decide) (fun c3 => absurd c3 (by decide)) (fun c3 => ?_)
  refine r_aload_n dJ0_coder_7d493_6 rfl ?_
  refine r_lit_coder (by omega) q220 dJ0_coder_7d493_7 ?_
  refine r_goto (tgt := 14) dJ0_coder_7d493_10 (by decide) ?_
  exact r_ret rfl rfl dJ0_coder_7d493_14 rfl rfl
theorem dJ0_isLatin1_aae02_0 : decode cJ0_isLatin1_aae02 0 = .ok (.getstatic 38, 3) := by decide +kernel
theorem dJ0_isLatin1_aae02_3 : decode cJ0_isLatin1_aae02 3 = .ok (.ifCond .eq 14, 3) := by decide +kernel
theorem dJ0_isLatin1_aae02_6 : decode cJ0_isLatin1_aae02 6 = .ok (.aload_n 0, 1) := by decide +kernel
theorem dJ0_isLatin1_aae02_7 : decode cJ0_isLatin1_aae02 7 = .ok (.getfield 15, 3) := by decide +kernel
theorem dJ0_isLatin1_aae02_10 : decode cJ0_isLatin1_aae02 10 = .ok (.ifCond .ne 7, 3) := by decide +kernel
theorem dJ0_isLatin1_aae02_13 : decode cJ0_isLatin1_aae02 13 = .ok (.iconst 1, 1) := by decide +kernel
theorem dJ0_isLatin1_aae02_14 : decode cJ0_isLatin1_aae02 14 = .ok (.goto 4, 3) := by decide +kernel
theorem dJ0_isLatin1_aae02_17 : decode cJ0_isLatin1_aae02 17 = .ok (.iconst 0, 1) := by decide +kernel
theorem dJ0_isLatin1_aae02_18 : decode cJ0_isLatin1_aae02 18 = .ok (.ireturn, 1) := by decide +kernel
theorem dcJ0_isLatin1_aae02 : yJ0_isLatin1_aae02.cls = RJ0 ∧ yJ0_isLatin1_aae02.cls ≠ "java/lang/invoke/MethodHandle" ∧ yJ0_isLatin1_aae02.cls ≠ "java/lang/invoke/VarHandle" ∧ (parseMethodDescriptor yJ0_isLatin1_aae02.desc).map (fun d => d.parameters.length) = some 0 := by decide +kernel
set_option maxRecDepth 100000 in
set_option maxHeartbeats 4000000 in
theorem K_litLatin {cA : Nat → ClassId} {ad : tA} {ex : va_W} {M : tM} {i : Nat} (hi : i < 15) : Cj yJ0_isLatin1_aae02 cJ0_isLatin1_aae02 1 (some .boolean) (rmd 0) 0 0 cA ad [.ref (ad 16 i)] ex M (Qe (some (.int 1)) ex M) := by
  refine c_of_r (lv0 := [some (.ref (ad 16 i))]) rfl (by decide +kernel) (Nat.le_of_ble_eq_true rfl) rfl ?_
  refine r_getsC q219 dJ0_isLatin1_aae02_0 ?_
  refine r_if_eq (tgt := 17) dJ0_isLatin1_aae02_3 (by decide) (fun c3 => absurd c3 (by decide)) (fun c3 => ?_)
  refine r_aload_n dJ0_isLatin1_aae02_6 rfl ?_
  refine r_lit_coder (by omega) q220 dJ0_isLatin1_aae02_7 ?_
  refine r_if_ne (tgt := 17) dJ0_isLatin1_aae02_10 (by decide) (fun c10 => absurd rfl c10) (fun c10 => ?_)
  refine r_iconst (v := 1) dJ0_isLatin1_aae02_13 (by decide) ?_
  refine r_goto (tgt := 18) dJ0_isLatin1_aae02_14 (by decide) ?_
  exact r_ret rfl rfl dJ0_isLatin1_aae02_18 rfl rfl
theorem dJ0_length_8abf5_0 : decode cJ0_length_8abf5 0 = .ok (.aload_n 0, 1) := by decide +kernel
theorem dJ0_length_8abf5_1 : decode cJ0_length_8abf5 1 = .ok (.getfield 9, 3) := by decide +kernel
theorem dJ0_length_8abf5_4 : decode cJ0_length_8abf5 4 = .ok (.arraylength, 1) := by decide +kernel
theorem dJ0_length_8abf5_5 : decode cJ0_length_8abf5 5 = .ok (.aload_n 0, 1) := by decide +kernel
theorem dJ0_length_8abf5_6 : decode cJ0_length_8abf5 6 = .ok (.invokevirtual 335, 3) := by decide +kernel
theorem dJ0_length_8abf5_9 : decode cJ0_length_8abf5 9 = .ok (.ishr, 1) := by decide +kernel
theorem dJ0_length_8abf5_10 : decode cJ0_length_8abf5 10 = .ok (.ireturn, 1) := by decide +kernel
theorem dcJ0_length_8abf5 : yJ0_length_8abf5.cls = RJ0 ∧ yJ0_length_8abf5.cls ≠ "java/lang/invoke/MethodHandle" ∧ yJ0_length_8abf5.cls ≠ "java/lang/invoke/VarHandle" ∧ (parseMethodDescriptor yJ0_length_8abf5.desc).map (fun d => d.parameters.length) = some 0 := by decide +kernel
theorem gJ0_length_8abf5_6 : GoodIn wsL_law (wsV RJ0 335 RJ0 yJ0_coder_7d493 (.code yJ0_coder_7d493 cJ0_coder_7d493 1 (some .byte) :: wsL_law)) := g_V q215 q216 q217 q212 q218
set_option maxRecDepth 100000 in
set_option maxHeartbeats 4000000 in
theorem K_litLen {cA : Nat → ClassId} {ad : tA} {ex : va_W} {M : tM} {i : Nat} (hi : i < 15) : Cj yJ0_length_8abf5 cJ0_length_8abf5 1 (some .int) (rmd 1) 0 0 cA ad [.ref (ad 16 i)] ex M (Qe (some (.int (nI (lenS.getD i 0)))) ex M) := by
  refine c_of_r (lv0 := [some (.ref (ad 16 i))]) rfl (by decide +kernel) (Nat.le_of_ble_eq_true rfl) rfl ?_
  refine r_aload_n dJ0_length_8abf5_0 rfl ?_
  refine r_lit_value (by omega) q214 dJ0_length_8abf5_1 ?_
  refine r_lit_len (by omega) dJ0_length_8abf5_4 ?_
  refine r_aload_n dJ0_length_8abf5_5 rfl ?_
  refine r_cVi dJ0_length_8abf5_6 (K_litCoder hi) gJ0_length_8abf5_6 dcJ0_coder_7d493 rfl rfl rfl (Nat.le_of_ble_eq_true rfl) (rc_lit (by omega)) ?_
  refine r_ishr dJ0_length_8abf5_9 ?_
  exact r_ret rfl rfl dJ0_length_8abf5_10 (sc_shr0 (by have := lenS_le i; omega)) rfl
theorem dJ1_charAt_3b067_0 : decode cJ1_charAt_3b067 0 = .ok (.iload_n 1, 1) := by decide +kernel
theorem dJ1_charAt_3b067_1 : decode cJ1_charAt_3b067 1 = .ok (.aload_n 0, 1) := by decide +kernel
theorem dJ1_charAt_3b067_2 : decode cJ1_charAt_3b067 2 = .ok (.arraylength, 1) := by decide +kernel
theorem dJ1_charAt_3b067_3 : decode cJ1_charAt_3b067 3 = .ok (.invokestatic 9, 3) := by decide +kernel
theorem dJ1_charAt_3b067_6 : decode cJ1_charAt_3b067 6 = .ok (.aload_n 0, 1) := by decide +kernel
theorem dJ1_charAt_3b067_7 : decode cJ1_charAt_3b067 7 = .ok (.iload_n 1, 1) := by decide +kernel
theorem dJ1_charAt_3b067_8 : decode cJ1_charAt_3b067 8 = .ok (.baload, 1) := by decide +kernel
theorem dJ1_charAt_3b067_9 : decode cJ1_charAt_3b067 9 = .ok (.sipush 255, 3) := by decide +kernel
theorem dJ1_charAt_3b067_12 : decode cJ1_charAt_3b067 12 = .ok (.iand, 1) := by decide +kernel
theorem dJ1_charAt_3b067_13 : decode cJ1_charAt_3b067 13 = .ok (.i2c, 1) := by decide +kernel
theorem dJ1_charAt_3b067_14 : decode cJ1_charAt_3b067 14 = .ok (.ireturn, 1) := by decide +kernel
theorem dcJ1_charAt_3b067 : yJ1_charAt_3b067.cls = RJ1 ∧ yJ1_charAt_3b067.cls ≠ "java/lang/invoke/MethodHandle" ∧ yJ1_charAt_3b067.cls ≠ "java/lang/invoke/VarHandle" ∧ (parseMethodDescriptor yJ1_charAt_3b067.desc).map (fun d => d.parameters.length) = some 2 := by decide +kernel
theorem gJ1_charAt_3b067_3 : gS RJ1 9 yJ0_checkIndex_df160 cJ0_checkIndex_df160 2 none := ⟨q233, q234, q212, q235⟩
set_option maxRecDepth 100000 in
set_option maxHeartbeats 4000000 in
theorem K_litJ1 {cA : Nat → ClassId} {ad : tA} {ex : va_W} {M : tM} {i k : Nat} (hi : i < 15) (hk : k < lenS.getD i 0) : Cj yJ1_charAt_3b067 cJ1_charAt_3b067 2 (some .char) (rmd 2) 0 0 cA ad [.ref (ad 17 i), .int (nI k)] ex M (Qe (some (.int (litc i k))) ex M) := by
  refine c_of_r (lv0 := [some (.ref (ad 17 i)), some (.int (nI k))]) rfl (by decide +kernel) (Nat.le_of_ble_eq_true rfl) rfl ?_
  refine r_iload_n dJ1_charAt_3b067_0 rfl ?_
  refine r_aload_n dJ1_charAt_3b067_1 rfl ?_
  refine r_lit_len (by omega) dJ1_charAt_3b067_2 ?_
  refine r_cSv dJ1_charAt_3b067_3 (K_ck0 hk (by have := lenS_le i; omega)) gJ1_charAt_3b067_3 dcJ0_checkIndex_df160 rfl rfl rfl (Nat.le_of_ble_eq_true rfl) ?_
  refine r_aload_n dJ1_charAt_3b067_6 rfl ?_
  refine r_iload_n dJ1_charAt_3b067_7 rfl ?_
  refine r_lit_ld (by omega) rfl hk dJ1_charAt_3b067_8 ?_
  refine r_sipush (v := 255) dJ1_charAt_3b067_9 (by decide) ?_
  refine r_iand dJ1_charAt_3b067_12 ?_
  refine r_i2c dJ1_charAt_3b067_13 rfl ?_
  exact r_ret rfl (by rw [sc_c2]; exact sc_nar _) dJ1_charAt_3b067_14 (sc_c2 _) rfl
theorem dJ0_charAt_5068e_0 : decode cJ0_charAt_5068e 0 = .ok (.aload_n 0, 1) := by decide +kernel
theorem dJ0_charAt_5068e_1 : decode cJ0_charAt_5068e 1 = .ok (.invokevirtual 492, 3) := by decide +kernel
theorem dJ0_charAt_5068e_4 : decode cJ0_charAt_5068e 4 = .ok (.ifCond .eq 12, 3) := by decide +kernel
theorem dJ0_charAt_5068e_7 : decode cJ0_charAt_5068e 7 = .ok (.aload_n 0, 1) := by decide +kernel
theorem dJ0_charAt_5068e_8 : decode cJ0_charAt_5068e 8 = .ok (.getfield 9, 3) := by decide +kernel
theorem dJ0_charAt_5068e_11 : decode cJ0_charAt_5068e 11 = .ok (.iload_n 1, 1) := by decide +kernel
theorem dJ0_charAt_5068e_12 : decode cJ0_charAt_5068e 12 = .ok (.invokestatic 495, 3) := by decide +kernel
theorem dJ0_charAt_5068e_15 : decode cJ0_charAt_5068e 15 = .ok (.ireturn, 1) := by decide +kernel
theorem dJ0_charAt_5068e_16 : decode cJ0_charAt_5068e 16 = .ok (.aload_n 0, 1) := by decide +kernel
theorem dJ0_charAt_5068e_17 : decode cJ0_charAt_5068e 17 = .ok (.getfield 9, 3) := by decide +kernel
theorem dJ0_charAt_5068e_20 : decode cJ0_charAt_5068e 20 = .ok (.iload_n 1, 1) := by decide +kernel
theorem dJ0_charAt_5068e_21 : decode cJ0_charAt_5068e 21 = .ok (.invokestatic 498, 3) := by decide +kernel
theorem dJ0_charAt_5068e_24 : decode cJ0_charAt_5068e 24 = .ok (.ireturn, 1) := by decide +kernel
theorem dcJ0_charAt_5068e : yJ0_charAt_5068e.cls = RJ0 ∧ yJ0_charAt_5068e.cls ≠ "java/lang/invoke/MethodHandle" ∧ yJ0_charAt_5068e.cls ≠ "java/lang/invoke/VarHandle" ∧ (parseMethodDescriptor yJ0_charAt_5068e.desc).map (fun d => d.parameters.length) = some 1 := by decide +kernel
theorem gJ0_charAt_5068e_1 : GoodIn wsL_law (wsV RJ0 492 RJ0 yJ0_isLatin1_aae02 (.code yJ0_isLatin1_aae02 cJ0_isLatin1_aae02 1 (some .boolean) :: wsL_law)) := g_V q225 q226 q227 q212 q228
theorem gJ0_charAt_5068e_12 : gS RJ0 495 yJ1_charAt_3b067 cJ1_charAt_3b067 2 (some .char) := ⟨q229, q230, q231, q232⟩
set_option maxRecDepth 100000 in
set_option maxHeartbeats 4000000 in
theorem K_litChar {cA : Nat → ClassId} {ad : tA} {ex : va_W} {M : tM} {i k : Nat} (hi : i < 15) (hk : k < lenS.getD i 0) : Cj yJ0_charAt_5068e cJ0_charAt_5068e 2 (some .char) (rmd 3) 0 0 cA ad [.ref (ad 16 i), .int (nI k)] ex M (Qe (some (.int (litc i k))) ex M) := by
  refine c_of_r (lv0 := [some (.ref (ad 16 i)), some (.int (nI k))]) rfl (by decide +kernel) (Nat.le_of_ble_eq_true rfl) rfl ?_
  refine r_aload_n dJ0_charAt_5068e_0 rfl ?_
  refine r_cVi dJ0_charAt_5068e_1 (K_litLatin hi) gJ0_charAt_5068e_1 dcJ0_isLatin1_aae02 rfl rfl rfl (Nat.le_of_ble_eq_true rfl) (rc_lit (by omega)) ?_
  refine r_if_eq (tgt := 16) dJ0_charAt_5068e_4 (by decide) (fun c4 => absurd c4 (by decide)) (fun c4 => ?_)
  refine r_aload_n dJ0_charAt_5068e_7 rfl ?_
  refine r_lit_value (by omega) q214 dJ0_charAt_5068e_8 ?_
  refine r_iload_n dJ0_charAt_5068e_11 rfl ?_
  refine r_cSi dJ0_charAt_5068e_12 (K_litJ1 hi hk) gJ0_charAt_5068e_12 dcJ1_charAt_3b067 rfl rfl rfl (Nat.le_of_ble_eq_true rfl) ?_
  exact r_ret rfl (sc_nar _) dJ0_charAt_5068e_15 rfl rfl
def ta (T : tP) : Nat := (T 0 2).toNatClampNeg
def tl (T : tP) : Nat := (T 0 1).toNatClampNeg
def okt (T : tP) : Prop := T 0 2 = nI (ta T) ∧ ta T ≤ 60 ∧ T 0 1 = nI (tl T) ∧ tl T ≤ 60
def okx (x : Int32) : Prop := ∃ q : Nat, q < 65536 ∧ x = nI q
def oks (T : tP) : Prop := ∀ i, i < 60 → okx (T 1 i)
theorem okx_nar {x : Int32} (h : okx x) : narrow .char (.int x) = .int x := by obtain ⟨q, h1, rfl⟩ := h; exact (pk_charN h1).1
theorem okx_fit {x : Int32} (h : okx x) : fits .char (.int x) = true := by obtain ⟨q, h1, rfl⟩ := h; exact (pk_charN h1).2
theorem okx_vp {x : Int32} (h : okx x) : vp_nar .char x = x := by unfold vp_nar; rw [okx_nar h]
theorem okt_of {T : tP} {a l : Nat} (h1 : T 0 2 = nI a) (h2 : a ≤ 60) (h3 : T 0 1 = nI l) (h4 : l ≤ 60) : okt T := by
  have e1 : ta T = a := by rw [ta, h1]; exact nI_clamp (by omega)
  have e2 : tl T = l := by rw [tl, h3]; exact nI_clamp (by omega)
  exact ⟨by rw [e1]; exact h1, by rw [e1]; exact h2, by rw [e2]; exact h3, by rw [e2]; exact h4⟩
theorem okt_lt {T : tP} (h : okt T) (h2 : ¬ T 0 1 ≤ T 0 2) : ta T < tl T ∧ ta T < 60 := by
  obtain ⟨a, b, c, d⟩ := h
  rw [a, c] at h2
  have : ¬ tl T ≤ ta T := fun e => h2 (nI_le e (by omega))
  omega
def kt (T T' : tP) : Prop := T' 0 1 = T 0 1 ∧ T' 1 = T 1 ∧ (okt T → okt T') ∧ T' 0 4 = T 0 4
theorem kt_rfl {T : tP} : kt T T := ⟨rfl, rfl, fun h => h, rfl⟩
theorem kt_tr {T T' T'' : tP} (h : kt T T') (h2 : kt T' T'') : kt T T'' := ⟨h2.1.trans h.1, h2.2.1.trans h.2.1, fun o => h2.2.2.1 (h.2.2.1 o), h2.2.2.2.trans h.2.2.2⟩
theorem kt_or {T : tP} {k f : Nat} {x : Int32} : kt T (pu T (3 + k) f x) := ⟨pu_j (by omega), pu_jj (by omega), fun h => okt_of (T := pu T (3 + k) f x) ((pu_j (by omega)).trans h.1) h.2.1 ((pu_j (by omega)).trans h.2.2.1) h.2.2.2, pu_j (by omega)⟩
theorem kt_at {T : tP} (h2 : ¬ T 0 1 ≤ T 0 2) : kt T (pu T 0 2 (T 0 2 + 1)) := ⟨pu_k (by omega), pu_jj (by omega), fun h => okt_of (T := pu T 0 2 (T 0 2 + 1)) (a := ta T + 1) (by rw [pu_s, h.1]; exact nI_1 _) (by have := okt_lt h h2; omega) ((pu_k (by omega)).trans h.2.2.1) h.2.2.2, pu_k (by omega)⟩
theorem kt_s {T T' : tP} (h : kt T T') (o : oks T) : oks T' := fun i hi => by rw [h.2.1]; exact o i hi
def f_ts (T : tP) (c : Int32) : Bool × tP := if T 0 1 ≤ T 0 2 then (false, T) else if T 1 (ta T) = c then (true, pu T 0 2 (T 0 2 + 1)) else (false, T)
theorem kt_ts {T : tP} {c : Int32} : kt T (f_ts T c).2 := by
  unfold f_ts
  split
  · exact kt_rfl
  · split
    · exact kt_at (by assumption)
    · exact kt_rfl
theorem ts_a {T : tP} {c : Int32} (h : T 0 1 ≤ T 0 2) : f_ts T c = (false, T) := if_pos h
theorem ts_b {T : tP} {c : Int32} (h : ¬ T 0 1 ≤ T 0 2) (h2 : ¬ T 1 (ta T) = c) : f_ts T c = (false, T) := (if_neg h).trans (if_neg h2)
theorem ts_c {T : tP} {c : Int32} (h : ¬ T 0 1 ≤ T 0 2) (h2 : T 1 (ta T) = c) : f_ts T c = (true, pu T 0 2 (T 0 2 + 1)) := (if_neg h).trans (if_pos h2)
theorem dX3_takeSign_0 : decode cX3_takeSign 0 = .ok (.aload_n 0, 1) := by decide +kernel
theorem dX3_takeSign_1 : decode cX3_takeSign 1 = .ok (.getfield 26, 3) := by decide +kernel
theorem dX3_takeSign_4 : decode cX3_takeSign 4 = .ok (.aload_n 0, 1) := by decide +kernel
theorem dX3_takeSign_5 : decode cX3_takeSign 5 = .ok (.getfield 22, 3) := by decide +kernel
theorem dX3_takeSign_8 : decode cX3_takeSign 8 = .ok (.if_icmp .ge 16, 3) := by decide +kernel
theorem dX3_takeSign_11 : decode cX3_takeSign 11 = .ok (.aload_n 0, 1) := by decide +kernel
theorem dX3_takeSign_12 : decode cX3_takeSign 12 = .ok (.getfield 9, 3) := by decide +kernel
theorem dX3_takeSign_15 : decode cX3_takeSign 15 = .ok (.aload_n 0, 1) := by decide +kernel
theorem dX3_takeSign_16 : decode cX3_takeSign 16 = .ok (.getfield 26, 3) := by decide +kernel
theorem dX3_takeSign_19 : decode cX3_takeSign 19 = .ok (.caload, 1) := by decide +kernel
theorem dX3_takeSign_20 : decode cX3_takeSign 20 = .ok (.iload_n 1, 1) := by decide +kernel
theorem dX3_takeSign_21 : decode cX3_takeSign 21 = .ok (.if_icmp .eq 5, 3) := by decide +kernel
theorem dX3_takeSign_24 : decode cX3_takeSign 24 = .ok (.iconst 0, 1) := by decide +kernel
theorem dX3_takeSign_25 : decode cX3_takeSign 25 = .ok (.ireturn, 1) := by decide +kernel
theorem dX3_takeSign_26 : decode cX3_takeSign 26 = .ok (.aload_n 0, 1) := by decide +kernel
theorem dX3_takeSign_27 : decode cX3_takeSign 27 = .ok (.dup, 1) := by decide +kernel
theorem dX3_takeSign_28 : decode cX3_takeSign 28 = .ok (.getfield 26, 3) := by decide +kernel
theorem dX3_takeSign_31 : decode cX3_takeSign 31 = .ok (.iconst 1, 1) := by decide +kernel
theorem dX3_takeSign_32 : decode cX3_takeSign 32 = .ok (.iadd, 1) := by decide +kernel
theorem dX3_takeSign_33 : decode cX3_takeSign 33 = .ok (.putfield 26, 3) := by decide +kernel
theorem dX3_takeSign_36 : decode cX3_takeSign 36 = .ok (.iconst 1, 1) := by decide +kernel
theorem dX3_takeSign_37 : decode cX3_takeSign 37 = .ok (.ireturn, 1) := by decide +kernel
theorem dcX3_takeSign : yX3_takeSign.cls = RX3 ∧ yX3_takeSign.cls ≠ "java/lang/invoke/MethodHandle" ∧ yX3_takeSign.cls ≠ "java/lang/invoke/VarHandle" ∧ (parseMethodDescriptor yX3_takeSign.desc).map (fun d => d.parameters.length) = some 1 := by decide +kernel
set_option maxRecDepth 100000 in
set_option maxHeartbeats 4000000 in
theorem K_ts {cA : Nat → ClassId} {ad : tA} {ex : va_W} {M : tM} {T : tP} {c : Int32} (ho : okt T) : Cj yX3_takeSign cX3_takeSign 2 (some .boolean) (rmd 0) 0 0 cA ad [.ref (ad 13 0), .int c] ex (m_pl M 13 T) (Qe (some (.int (bI (f_ts T c).1))) ex (m_pl M 13 (f_ts T c).2)) := by
  refine c_of_r (lv0 := [some (.ref (ad 13 0)), some (.int c)]) rfl (by decide +kernel) (Nat.le_of_ble_eq_true rfl) rfl ?_
  refine r_aload_n dX3_takeSign_0 rfl ?_
  refine r_getp_ot 2 (by decide) q186 rfl dX3_takeSign_1 ?_
  refine r_aload_n dX3_takeSign_4 rfl ?_
  refine r_getp_ot 1 (by decide) q148 rfl dX3_takeSign_5 ?_
  refine r_icmp_ge (tgt := 24) dX3_takeSign_8 (by decide) (fun c8 => ?_) (fun c8 => ?_)
  · refine r_iconst (v := 0) dX3_takeSign_24 (by decide) ?_
    first | exact r_ret rfl rfl dX3_takeSign_25 (p_ans (ts_a c8)) (p_st (ts_a c8)) | exact r_ret rfl rfl dX3_takeSign_25 (p_ans (ts_b c8 c21)) (p_st (ts_b c8 c21))
  · refine r_aload_n dX3_takeSign_11 rfl ?_
    refine r_getp_ot 0 (by decide) q53 rfl dX3_takeSign_12 ?_
    refine r_aload_n dX3_takeSign_15 rfl ?_
    refine r_getp_ot 2 (by decide) q186 rfl dX3_takeSign_16 ?_
    refine r_ldp_os ho.1 (okt_lt ho c8).2 dX3_takeSign_19 ?_
    refine r_iload_n dX3_takeSign_20 rfl ?_
    refine r_icmp_eq (tgt := 26) dX3_takeSign_21 (by decide) (fun c21 => ?_) (fun c21 => ?_)
    · refine r_aload_n dX3_takeSign_26 rfl ?_
      refine r_dup dX3_takeSign_27 rfl ?_
      refine r_getp_ot 2 (by decide) q186 rfl dX3_takeSign_28 ?_
      refine r_iconst (v := 1) dX3_takeSign_31 (by decide) ?_
      refine r_iadd dX3_takeSign_32 ?_
      refine r_putp_ot 2 (by decide) q186 rfl rfl rfl rfl rfl dX3_takeSign_33 ?_
      refine r_iconst (v := 1) dX3_takeSign_36 (by decide) ?_
      exact r_ret rfl rfl dX3_takeSign_37 (p_ans (ts_c c8 c21)) (p_st (ts_c c8 c21))
    · refine r_iconst (v := 0) dX3_takeSign_24 (by decide) ?_
      first | exact r_ret rfl rfl dX3_takeSign_25 (p_ans (ts_a c8)) (p_st (ts_a c8)) | exact r_ret rfl rfl dX3_takeSign_25 (p_ans (ts_b c8 c21)) (p_st (ts_b c8 c21))
def lp_tw (i : Nat) : Nat → Nat → tP → Bool × tP
  | 0, _, T => (true, T)
  | n + 1, k, T => if (f_ts T (litc i k)).1 then lp_tw i n (k + 1) (f_ts T (litc i k)).2 else (false, (f_ts T (litc i k)).2)
def f_tw (T : tP) (i : Nat) : Bool × tP := lp_tw i (lenS.getD i 0) 0 T
theorem kt_ltw {i : Nat} : ∀ (n k : Nat) (T : tP), kt T (lp_tw i n k T).2 := by
  intro n
  induction n with
  | zero => intro k T; exact kt_rfl
  | succ n ih =>
    intro k T
    rw [lp_tw]
    split
    · exact kt_tr kt_ts (ih _ _)
    · exact kt_ts
theorem tw_a {i n k : Nat} {T : tP} (h : bI (f_ts T (litc i k)).1 = 0) : lp_tw i (n + 1) k T = (false, (f_ts T (litc i k)).2) := by rw [lp_tw, bI_0 h]; rfl
theorem tw_b {i n k : Nat} {T : tP} (h : ¬ bI (f_ts T (litc i k)).1 = 0) : lp_tw i (n + 1) k T = lp_tw i n (k + 1) (f_ts T (litc i k)).2 := by rw [lp_tw, bI_1 h, if_pos rfl]
theorem lq_z {x : Int32} {c i : Nat} (hx : x = nI c) (h : i + 0 = c) : x ≤ nI i := lp_z hx h
theorem lq_s {x : Int32} {c i n : Nat} (hx : x = nI c) (hc : c < 2 ^ 31) (h : i + (n + 1) = c) : ¬ x ≤ nI i := by subst hx; exact nI_ge (by omega) hc
theorem dX3_takeWord_0 : decode cX3_takeWord 0 = .ok (.iconst 0, 1) := by decide +kernel
theorem dX3_takeWord_1 : decode cX3_takeWord 1 = .ok (.istore_n 2, 1) := by decide +kernel
theorem dX3_takeWord_2 : decode cX3_takeWord 2 = .ok (.iload_n 2, 1) := by decide +kernel
theorem dX3_takeWord_3 : decode cX3_takeWord 3 = .ok (.aload_n 1, 1) := by decide +kernel
theorem dX3_takeWord_4 : decode cX3_takeWord 4 = .ok (.invokevirtual 90, 3) := by decide +kernel
theorem dX3_takeWord_7 : decode cX3_takeWord 7 = .ok (.if_icmp .ge 23, 3) := by decide +kernel
theorem dX3_takeWord_10 : decode cX3_takeWord 10 = .ok (.aload_n 0, 1) := by decide +kernel
theorem dX3_takeWord_11 : decode cX3_takeWord 11 = .ok (.aload_n 1, 1) := by decide +kernel
theorem dX3_takeWord_12 : decode cX3_takeWord 12 = .ok (.iload_n 2, 1) := by decide +kernel
theorem dX3_takeWord_13 : decode cX3_takeWord 13 = .ok (.invokevirtual 95, 3) := by decide +kernel
theorem dX3_takeWord_16 : decode cX3_takeWord 16 = .ok (.invokevirtual 36, 3) := by decide +kernel
theorem dX3_takeWord_19 : decode cX3_takeWord 19 = .ok (.ifCond .ne 5, 3) := by decide +kernel
theorem dX3_takeWord_22 : decode cX3_takeWord 22 = .ok (.iconst 0, 1) := by decide +kernel
theorem dX3_takeWord_23 : decode cX3_takeWord 23 = .ok (.ireturn, 1) := by decide +kernel
theorem dX3_takeWord_24 : decode cX3_takeWord 24 = .ok (.iinc 2 1, 3) := by decide +kernel
theorem dX3_takeWord_27 : decode cX3_takeWord 27 = .ok (.goto (-25), 3) := by decide +kernel
theorem dX3_takeWord_30 : decode cX3_takeWord 30 = .ok (.iconst 1, 1) := by decide +kernel
theorem dX3_takeWord_31 : decode cX3_takeWord 31 = .ok (.ireturn, 1) := by decide +kernel
theorem dcX3_takeWord : yX3_takeWord.cls = RX3 ∧ yX3_takeWord.cls ≠ "java/lang/invoke/MethodHandle" ∧ yX3_takeWord.cls ≠ "java/lang/invoke/VarHandle" ∧ (parseMethodDescriptor yX3_takeWord.desc).map (fun d => d.parameters.length) = some 1 := by decide +kernel
theorem gX3_takeWord_4 : GoodIn wsL_law (wsV RX3 90 RJ0 yJ0_length_8abf5 (.code yJ0_length_8abf5 cJ0_length_8abf5 1 (some .int) :: wsL_law)) := g_V q209 q210 q211 q212 q213
theorem gX3_takeWord_13 : GoodIn wsL_law (wsV RX3 95 RJ0 yJ0_charAt_5068e (.code yJ0_charAt_5068e cJ0_charAt_5068e 2 (some .char) :: wsL_law)) := g_V q221 q222 q223 q212 q224
theorem gX3_takeWord_16 : GoodIn wsL_law (wsV RX3 36 RX3 yX3_takeSign (.code yX3_takeSign cX3_takeSign 2 (some .boolean) :: wsL_law)) := g_V q258 q259 q260 q23 q261
set_option maxRecDepth 100000 in
set_option maxHeartbeats 4000000 in
theorem K_tw {cA : Nat → ClassId} {ad : tA} {ex : va_W} {M : tM} {T0 : tP} {i : Nat} (hi : i < 15) (ho : okt T0) : Cj yX3_takeWord cX3_takeWord 3 (some .boolean) (rmd 4) 0 0 cA ad [.ref (ad 13 0), .ref (ad 16 i)] ex (m_pl M 13 T0) (Qe (some (.int (bI (f_tw T0 i).1))) ex (m_pl M 13 (f_tw T0 i).2)) := by
  refine c_of_r (lv0 := [some (.ref (ad 13 0)), some (.ref (ad 16 i)), none]) rfl (by decide +kernel) (Nat.le_of_ble_eq_true rfl) rfl ?_
  have hl := lenS_le i
  have L : ∀ (n k : Nat) (T : tP), k + n = lenS.getD i 0 → okt T → lp_tw i n k T = f_tw T0 i → Rj cX3_takeWord RX3 3 (some .boolean) (rmd 4) 0 0 cA ad (Qe (some (.int (bI (f_tw T0 i).1))) ex (m_pl M 13 (f_tw T0 i).2)) ex 0 0 2 [some (.ref (ad 13 0)), some (.ref (ad 16 i)), some (.int (nI k))] [] (m_pl M 13 T) := by
    intro n
    induction n with
    | zero =>
      intro k T h ho hT
      refine r_iload_n dX3_takeWord_2 rfl ?_
      refine r_aload_n dX3_takeWord_3 rfl ?_
      refine r_cVi dX3_takeWord_4 (K_litLen hi) gX3_takeWord_4 dcJ0_length_8abf5 rfl rfl rfl (Nat.le_of_ble_eq_true rfl) (rc_lit (by omega)) ?_
      refine r_icmp_ge (tgt := 30) dX3_takeWord_7 (by decide) (fun c7 => ?_) (fun c7 => absurd (lq_z rfl h) c7)
      refine r_iconst (v := 1) dX3_takeWord_30 (by decide) ?_
      exact r_ret rfl rfl dX3_takeWord_31 (by rw [← hT]; rfl) (by rw [← hT]; rfl)
    | succ n ih =>
      intro k T h ho hT
      refine r_iload_n dX3_takeWord_2 rfl ?_
      refine r_aload_n dX3_takeWord_3 rfl ?_
      refine r_cVi dX3_takeWord_4 (K_litLen hi) gX3_takeWord_4 dcJ0_length_8abf5 rfl rfl rfl (Nat.le_of_ble_eq_true rfl) (rc_lit (by omega)) ?_
      refine r_icmp_ge (tgt := 30) dX3_takeWord_7 (by decide) (fun c7 => absurd c7 (lq_s rfl (by omega) h)) (fun c7 => ?_)
      refine r_aload_n dX3_takeWord_10 rfl ?_
      refine r_aload_n dX3_takeWord_11 rfl ?_
      refine r_iload_n dX3_takeWord_12 rfl ?_
      refine r_cVi dX3_takeWord_13 (K_litChar hi (by omega)) gX3_takeWord_13 dcJ0_charAt_5068e rfl rfl rfl (Nat.le_of_ble_eq_true rfl) (rc_lit (by omega)) ?_
      refine r_cVi dX3_takeWord_16 (K_ts ho) gX3_takeWord_16 dcX3_takeSign rfl rfl rfl (Nat.le_of_ble_eq_true rfl) ob_ot ?_
      refine r_if_ne (tgt := 24) dX3_takeWord_19 (by decide) (fun c19 => ?_) (fun c19 => ?_)
      · refine r_iinc dX3_takeWord_24 rfl ii_s (by decide) rfl ?_
        refine r_goto (tgt := 2) dX3_takeWord_27 (by decide) ?_
        exact ih (k + 1) _ (by omega) (kt_ts.2.2.1 ho) (by rw [← hT]; exact (tw_b c19).symm)
      · refine r_iconst (v := 0) dX3_takeWord_22 (by decide) ?_
        exact r_ret rfl rfl dX3_takeWord_23 (by rw [← hT, tw_a c19]; rfl) (by rw [← hT, tw_a c19])
  refine r_iconst (v := 0) dX3_takeWord_0 (by decide) ?_
  refine r_istore_n dX3_takeWord_1 (by decide) rfl ?_
  exact L (lenS.getD i 0) 0 T0 (by omega) ho rfl
def f_dig (x c : Int32) : Int32 := (if x < 0 then 0 else x) * 10 + c - 48
def lp_tn : Nat → Int32 → tP → Int32 × tP
  | 0, x, T => (x, T)
  | n + 1, x, T => if T 0 1 ≤ T 0 2 ∨ T 1 (ta T) < 48 ∨ 57 < T 1 (ta T) then (x, T) else lp_tn n (f_dig x (T 1 (ta T))) (pu T 0 2 (T 0 2 + 1))
def f_tn (T : tP) (n : Nat) : Int32 × tP := lp_tn n (-1) T
theorem kt_ltn : ∀ (n : Nat) (x : Int32) (T : tP), kt T (lp_tn n x T).2 := by
  intro n
  induction n with
  | zero => intro x T; exact kt_rfl
  | succ n ih =>
    intro x T
    rw [lp_tn]
    split
    · exact kt_rfl
    · exact kt_tr (kt_at (fun e => by simp_all)) (ih _ _)
theorem tn_a {n : Nat} {x : Int32} {T : tP} (h : T 0 1 ≤ T 0 2 ∨ T 1 (ta T) < 48 ∨ 57 < T 1 (ta T)) : lp_tn (n + 1) x T = (x, T) := if_pos h
theorem tn_b {n : Nat} {x : Int32} {T : tP} (h1 : ¬ T 0 1 ≤ T 0 2) (h2 : ¬ T 1 (ta T) < 48) (h3 : T 1 (ta T) ≤ 57) : lp_tn (n + 1) x T = lp_tn n (f_dig x (T 1 (ta T))) (pu T 0 2 (T 0 2 + 1)) := if_neg (fun e => e.elim h1 (fun e => e.elim h2 (fun e => absurd h3 (Int32.not_le.mpr e))))
theorem dX3_takeNumber_0 : decode cX3_takeNumber 0 = .ok (.iconst (-1), 1) := by decide +kernel
theorem dX3_takeNumber_1 : decode cX3_takeNumber 1 = .ok (.istore_n 2, 1) := by decide +kernel
theorem dX3_takeNumber_2 : decode cX3_takeNumber 2 = .ok (.iconst 0, 1) := by decide +kernel
theorem dX3_takeNumber_3 : decode cX3_takeNumber 3 = .ok (.istore_n 3, 1) := by decide +kernel
theorem dX3_takeNumber_4 : decode cX3_takeNumber 4 = .ok (.iload_n 3, 1) := by decide +kernel
theorem dX3_takeNumber_5 : decode cX3_takeNumber 5 = .ok (.iload_n 1, 1) := by decide +kernel
theorem dX3_takeNumber_6 : decode cX3_takeNumber 6 = .ok (.if_icmp .ge 82, 3) := by decide +kernel
theorem dX3_takeNumber_9 : decode cX3_takeNumber 9 = .ok (.aload_n 0, 1) := by decide +kernel
theorem dX3_takeNumber_10 : decode cX3_takeNumber 10 = .ok (.getfield 26, 3) := by decide +kernel
theorem dX3_takeNumber_13 : decode cX3_takeNumber 13 = .ok (.aload_n 0, 1) := by decide +kernel
theorem dX3_takeNumber_14 : decode cX3_takeNumber 14 = .ok (.getfield 22, 3) := by decide +kernel
theorem dX3_takeNumber_17 : decode cX3_takeNumber 17 = .ok (.if_icmp .ge 31, 3) := by decide +kernel
theorem dX3_takeNumber_20 : decode cX3_takeNumber 20 = .ok (.aload_n 0, 1) := by decide +kernel
theorem dX3_takeNumber_21 : decode cX3_takeNumber 21 = .ok (.getfield 9, 3) := by decide +kernel
theorem dX3_takeNumber_24 : decode cX3_takeNumber 24 = .ok (.aload_n 0, 1) := by decide +kernel
theorem dX3_takeNumber_25 : decode cX3_takeNumber 25 = .ok (.getfield 26, 3) := by decide +kernel
theorem dX3_takeNumber_28 : decode cX3_takeNumber 28 = .ok (.caload, 1) := by decide +kernel
theorem dX3_takeNumber_29 : decode cX3_takeNumber 29 = .ok (.bipush 48, 2) := by decide +kernel
theorem dX3_takeNumber_31 : decode cX3_takeNumber 31 = .ok (.if_icmp .lt 17, 3) := by decide +kernel
theorem dX3_takeNumber_34 : decode cX3_takeNumber 34 = .ok (.aload_n 0, 1) := by decide +kernel
theorem dX3_takeNumber_35 : decode cX3_takeNumber 35 = .ok (.getfield 9, 3) := by decide +kernel
theorem dX3_takeNumber_38 : decode cX3_takeNumber 38 = .ok (.aload_n 0, 1) := by decide +kernel
theorem dX3_takeNumber_39 : decode cX3_takeNumber 39 = .ok (.getfield 26, 3) := by decide +kernel
theorem dX3_takeNumber_42 : decode cX3_takeNumber 42 = .ok (.caload, 1) := by decide +kernel
theorem dX3_takeNumber_43 : decode cX3_takeNumber 43 = .ok (.bipush 57, 2) := by decide +kernel
theorem dX3_takeNumber_45 : decode cX3_takeNumber 45 = .ok (.if_icmp .le 5, 3) := by decide +kernel
theorem dX3_takeNumber_48 : decode cX3_takeNumber 48 = .ok (.iload_n 2, 1) := by decide +kernel
theorem dX3_takeNumber_49 : decode cX3_takeNumber 49 = .ok (.ireturn, 1) := by decide +kernel
theorem dX3_takeNumber_50 : decode cX3_takeNumber 50 = .ok (.iload_n 2, 1) := by decide +kernel
theorem dX3_takeNumber_51 : decode cX3_takeNumber 51 = .ok (.iconst 0, 1) := by decide +kernel
theorem dX3_takeNumber_52 : decode cX3_takeNumber 52 = .ok (.invokestatic 99, 3) := by decide +kernel
theorem dX3_takeNumber_55 : decode cX3_takeNumber 55 = .ok (.bipush 10, 2) := by decide +kernel
theorem dX3_takeNumber_57 : decode cX3_takeNumber 57 = .ok (.imul, 1) := by decide +kernel
theorem dX3_takeNumber_58 : decode cX3_takeNumber 58 = .ok (.aload_n 0, 1) := by decide +kernel
theorem dX3_takeNumber_59 : decode cX3_takeNumber 59 = .ok (.getfield 9, 3) := by decide +kernel
theorem dX3_takeNumber_62 : decode cX3_takeNumber 62 = .ok (.aload_n 0, 1) := by decide +kernel
theorem dX3_takeNumber_63 : decode cX3_takeNumber 63 = .ok (.getfield 26, 3) := by decide +kernel
theorem dX3_takeNumber_66 : decode cX3_takeNumber 66 = .ok (.caload, 1) := by decide +kernel
theorem dX3_takeNumber_67 : decode cX3_takeNumber 67 = .ok (.iadd, 1) := by decide +kernel
theorem dX3_takeNumber_68 : decode cX3_takeNumber 68 = .ok (.bipush 48, 2) := by decide +kernel
theorem dX3_takeNumber_70 : decode cX3_takeNumber 70 = .ok (.isub, 1) := by decide +kernel
theorem dX3_takeNumber_71 : decode cX3_takeNumber 71 = .ok (.istore_n 2, 1) := by decide +kernel
theorem dX3_takeNumber_72 : decode cX3_takeNumber 72 = .ok (.aload_n 0, 1) := by decide +kernel
theorem dX3_takeNumber_73 : decode cX3_takeNumber 73 = .ok (.dup, 1) := by decide +kernel
theorem dX3_takeNumber_74 : decode cX3_takeNumber 74 = .ok (.getfield 26, 3) := by decide +kernel
theorem dX3_takeNumber_77 : decode cX3_takeNumber 77 = .ok (.iconst 1, 1) := by decide +kernel
theorem dX3_takeNumber_78 : decode cX3_takeNumber 78 = .ok (.iadd, 1) := by decide +kernel
theorem dX3_takeNumber_79 : decode cX3_takeNumber 79 = .ok (.putfield 26, 3) := by decide +kernel
theorem dX3_takeNumber_82 : decode cX3_takeNumber 82 = .ok (.iinc 3 1, 3) := by decide +kernel
theorem dX3_takeNumber_85 : decode cX3_takeNumber 85 = .ok (.goto (-81), 3) := by decide +kernel
theorem dX3_takeNumber_88 : decode cX3_takeNumber 88 = .ok (.iload_n 2, 1) := by decide +kernel
theorem dX3_takeNumber_89 : decode cX3_takeNumber 89 = .ok (.ireturn, 1) := by decide +kernel
theorem dcX3_takeNumber : yX3_takeNumber.cls = RX3 ∧ yX3_takeNumber.cls ≠ "java/lang/invoke/MethodHandle" ∧ yX3_takeNumber.cls ≠ "java/lang/invoke/VarHandle" ∧ (parseMethodDescriptor yX3_takeNumber.desc).map (fun d => d.parameters.length) = some 1 := by decide +kernel
set_option maxRecDepth 100000 in
set_option maxHeartbeats 4000000 in
theorem K_tn {cA : Nat → ClassId} {ad : tA} {ex : va_W} {M : tM} {T0 : tP} {n0 : Nat} (hn : n0 ≤ 12) (ho : okt T0) : Cj yX3_takeNumber cX3_takeNumber 4 (some .int) (rmd 1) 0 0 cA ad [.ref (ad 13 0), .int (nI n0)] ex (m_pl M 13 T0) (Qe (some (.int (f_tn T0 n0).1)) ex (m_pl M 13 (f_tn T0 n0).2)) := by
  refine c_of_r (lv0 := [some (.ref (ad 13 0)), some (.int (nI n0)), none, none]) rfl (by decide +kernel) (Nat.le_of_ble_eq_true rfl) rfl ?_
  have L : ∀ (n k : Nat) (x : Int32) (T : tP), k + n = n0 → okt T → lp_tn n x T = f_tn T0 n0 → Rj cX3_takeNumber RX3 4 (some .int) (rmd 1) 0 0 cA ad (Qe (some (.int (f_tn T0 n0).1)) ex (m_pl M 13 (f_tn T0 n0).2)) ex 0 0 4 [some (.ref (ad 13 0)), some (.int (nI n0)), some (.int x), some (.int (nI k))] [] (m_pl M 13 T) := by
    intro n
    induction n with
    | zero =>
      intro k x T h ho hT
      refine r_iload_n dX3_takeNumber_4 rfl ?_
      refine r_iload_n dX3_takeNumber_5 rfl ?_
      refine r_icmp_ge (tgt := 88) dX3_takeNumber_6 (by decide) (fun c6 => ?_) (fun c6 => absurd (lp_z rfl h) c6)
      refine r_iload_n dX3_takeNumber_88 rfl ?_
      exact r_ret rfl rfl dX3_takeNumber_89 (by rw [← hT]; rfl) (by rw [← hT]; rfl)
    | succ n ih =>
      intro k x T h ho hT
      refine r_iload_n dX3_takeNumber_4 rfl ?_
      refine r_iload_n dX3_takeNumber_5 rfl ?_
      refine r_icmp_ge (tgt := 88) dX3_takeNumber_6 (by decide) (fun c6 => absurd c6 (lp_s rfl hn h)) (fun c6 => ?_)
      refine r_aload_n dX3_takeNumber_9 rfl ?_
      refine r_getp_ot 2 (by decide) q186 rfl dX3_takeNumber_10 ?_
      refine r_aload_n dX3_takeNumber_13 rfl ?_
      refine r_getp_ot 1 (by decide) q148 rfl dX3_takeNumber_14 ?_
      refine r_icmp_ge (tgt := 48) dX3_takeNumber_17 (by decide) (fun c17 => ?_) (fun c17 => ?_)
      · refine r_iload_n dX3_takeNumber_48 rfl ?_
        first | exact r_ret rfl rfl dX3_takeNumber_49 (by rw [← hT, tn_a (Or.inl c17)]) (by rw [← hT, tn_a (Or.inl c17)]) | exact r_ret rfl rfl dX3_takeNumber_49 (by rw [← hT, tn_a (Or.inr (Or.inl c31))]) (by rw [← hT, tn_a (Or.inr (Or.inl c31))]) | exact r_ret rfl rfl dX3_takeNumber_49 (by rw [← hT, tn_a (Or.inr (Or.inr (Int32.not_le.mp c45)))]) (by rw [← hT, tn_a (Or.inr (Or.inr (Int32.not_le.mp c45)))])
      · refine r_aload_n dX3_takeNumber_20 rfl ?_
        refine r_getp_ot 0 (by decide) q53 rfl dX3_takeNumber_21 ?_
        refine r_aload_n dX3_takeNumber_24 rfl ?_
        refine r_getp_ot 2 (by decide) q186 rfl dX3_takeNumber_25 ?_
        refine r_ldp_os ho.1 (okt_lt ho c17).2 dX3_takeNumber_28 ?_
        refine r_bipush (v := 48) dX3_takeNumber_29 (by decide) ?_
        refine r_icmp_lt (tgt := 48) dX3_takeNumber_31 (by decide) (fun c31 => ?_) (fun c31 => ?_)
        · refine r_iload_n dX3_takeNumber_48 rfl ?_
          first | exact r_ret rfl rfl dX3_takeNumber_49 (by rw [← hT, tn_a (Or.inl c17)]) (by rw [← hT, tn_a (Or.inl c17)]) | exact r_ret rfl rfl dX3_takeNumber_49 (by rw [← hT, tn_a (Or.inr (Or.inl c31))]) (by rw [← hT, tn_a (Or.inr (Or.inl c31))]) | exact r_ret rfl rfl dX3_takeNumber_49 (by rw [← hT, tn_a (Or.inr (Or.inr (Int32.not_le.mp c45)))]) (by rw [← hT, tn_a (Or.inr (Or.inr (Int32.not_le.mp c45)))])
        · refine r_aload_n dX3_takeNumber_34 rfl ?_
          refine r_getp_ot 0 (by decide) q53 rfl dX3_takeNumber_35 ?_
          refine r_aload_n dX3_takeNumber_38 rfl ?_
          refine r_getp_ot 2 (by decide) q186 rfl dX3_takeNumber_39 ?_
          refine r_ldp_os ho.1 (okt_lt ho c17).2 dX3_takeNumber_42 ?_
          refine r_bipush (v := 57) dX3_takeNumber_43 (by decide) ?_
          refine r_icmp_le (tgt := 50) dX3_takeNumber_45 (by decide) (fun c45 => ?_) (fun c45 => ?_)
          · refine r_iload_n dX3_takeNumber_50 rfl ?_
            refine r_iconst (v := 0) dX3_takeNumber_51 (by decide) ?_
            refine r_mmax q266 q267 q6 q268 (by decide) (by decide) (Nat.le_refl _) (Nat.le_refl _) dX3_takeNumber_52 ?_
            refine r_bipush (v := 10) dX3_takeNumber_55 (by decide) ?_
            refine r_imul dX3_takeNumber_57 ?_
            refine r_aload_n dX3_takeNumber_58 rfl ?_
            refine r_getp_ot 0 (by decide) q53 rfl dX3_takeNumber_59 ?_
            refine r_aload_n dX3_takeNumber_62 rfl ?_
            refine r_getp_ot 2 (by decide) q186 rfl dX3_takeNumber_63 ?_
            refine r_ldp_os ho.1 (okt_lt ho c17).2 dX3_takeNumber_66 ?_
            refine r_iadd dX3_takeNumber_67 ?_
            refine r_bipush (v := 48) dX3_takeNumber_68 (by decide) ?_
            refine r_isub dX3_takeNumber_70 ?_
            refine r_istore_n dX3_takeNumber_71 (by decide) rfl ?_
            refine r_aload_n dX3_takeNumber_72 rfl ?_
            refine r_dup dX3_takeNumber_73 rfl ?_
            refine r_getp_ot 2 (by decide) q186 rfl dX3_takeNumber_74 ?_
            refine r_iconst (v := 1) dX3_takeNumber_77 (by decide) ?_
            refine r_iadd dX3_takeNumber_78 ?_
            refine r_putp_ot 2 (by decide) q186 rfl rfl rfl rfl rfl dX3_takeNumber_79 ?_
            refine r_iinc dX3_takeNumber_82 rfl ii_s (by decide) rfl ?_
            refine r_goto (tgt := 4) dX3_takeNumber_85 (by decide) ?_
            exact ih (k + 1) _ _ (by omega) ((kt_at c17).2.2.1 ho) (by rw [← hT]; exact (tn_b c17 c31 c45).symm)
          · refine r_iload_n dX3_takeNumber_48 rfl ?_
            first | exact r_ret rfl rfl dX3_takeNumber_49 (by rw [← hT, tn_a (Or.inl c17)]) (by rw [← hT, tn_a (Or.inl c17)]) | exact r_ret rfl rfl dX3_takeNumber_49 (by rw [← hT, tn_a (Or.inr (Or.inl c31))]) (by rw [← hT, tn_a (Or.inr (Or.inl c31))]) | exact r_ret rfl rfl dX3_takeNumber_49 (by rw [← hT, tn_a (Or.inr (Or.inr (Int32.not_le.mp c45)))]) (by rw [← hT, tn_a (Or.inr (Or.inr (Int32.not_le.mp c45)))])
  refine r_iconst (v := -1) dX3_takeNumber_0 (by decide) ?_
  refine r_istore_n dX3_takeNumber_1 (by decide) rfl ?_
  refine r_iconst (v := 0) dX3_takeNumber_2 (by decide) ?_
  refine r_istore_n dX3_takeNumber_3 (by decide) rfl ?_
  exact L n0 0 (-1) T0 (by omega) ho rfl
def f_ro (T : tP) (k i n : Nat) : Bool × tP :=
  let T1 := (f_tw T i).2
  if (f_tw T i).1 then (decide (¬ (f_tn T1 n).1 < 0), pu (f_tn T1 n).2 (3 + k) 1 (f_tn T1 n).1) else (false, T1)
theorem ro_a {T : tP} {k i n : Nat} (h : bI (f_tw T i).1 = 0) : f_ro T k i n = (false, (f_tw T i).2) := by rw [f_ro, bI_0 h]; rfl
theorem ro_b {T : tP} {k i n : Nat} (h : ¬ bI (f_tw T i).1 = 0) : f_ro T k i n = (decide (¬ (f_tn (f_tw T i).2 n).1 < 0), pu (f_tn (f_tw T i).2 n).2 (3 + k) 1 (f_tn (f_tw T i).2 n).1) := by rw [f_ro, bI_1 h]; rfl
theorem kt_tw {T : tP} {i : Nat} : kt T (f_tw T i).2 := kt_ltw _ _ _
theorem kt_tn {T : tP} {n : Nat} : kt T (f_tn T n).2 := kt_ltn _ _ _
theorem kt_ro {T : tP} {k i n : Nat} : kt T (f_ro T k i n).2 := by
  unfold f_ro
  dsimp only
  split
  · exact kt_tr kt_tw (kt_tr kt_tn kt_or)
  · exact kt_tw
theorem bI_dn {x : Int32} (h : ¬ x < 0) : bI (decide (¬ x < 0)) = 1 := by rw [decide_eq_true h]; rfl
theorem bI_dp {x : Int32} (h : x < 0) : bI (decide (¬ x < 0)) = 0 := by rw [decide_eq_false (fun e => e h)]; rfl
def f_rp (T : tP) (k i : Nat) (c : Int32) (n : Nat) : Bool × tP :=
  let T1 := (f_ro T k i 2).2
  if (f_ro T k i 2).1 then (if (f_ts T1 c).1 then (decide (¬ (f_tn (f_ts T1 c).2 n).1 < 0), pu (f_tn (f_ts T1 c).2 n).2 (3 + k) 2 (f_tn (f_ts T1 c).2 n).1) else (false, (f_ts T1 c).2)) else (false, T1)
theorem rp_a {T : tP} {k i n : Nat} {c : Int32} (h : bI (f_ro T k i 2).1 = 0) : f_rp T k i c n = (false, (f_ro T k i 2).2) := by rw [f_rp, bI_0 h]; rfl
theorem rp_b {T : tP} {k i n : Nat} {c : Int32} (h : ¬ bI (f_ro T k i 2).1 = 0) (h2 : bI (f_ts (f_ro T k i 2).2 c).1 = 0) : f_rp T k i c n = (false, (f_ts (f_ro T k i 2).2 c).2) := by rw [f_rp, bI_1 h, bI_0 h2]; rfl
theorem rp_c {T : tP} {k i n : Nat} {c : Int32} (h : ¬ bI (f_ro T k i 2).1 = 0) (h2 : ¬ bI (f_ts (f_ro T k i 2).2 c).1 = 0) : f_rp T k i c n = (decide (¬ (f_tn (f_ts (f_ro T k i 2).2 c).2 n).1 < 0), pu (f_tn (f_ts (f_ro T k i 2).2 c).2 n).2 (3 + k) 2 (f_tn (f_ts (f_ro T k i 2).2 c).2 n).1) := by rw [f_rp, bI_1 h, bI_1 h2]; rfl
theorem kt_rp {T : tP} {k i n : Nat} {c : Int32} : kt T (f_rp T k i c n).2 := by
  unfold f_rp
  dsimp only
  split
  · split
    · exact kt_tr kt_ro (kt_tr kt_ts (kt_tr kt_tn kt_or))
    · exact kt_tr kt_ro kt_ts
  · exact kt_ro
def f_rs (T : tP) (k : Nat) : Bool × tP :=
  let T1 := (f_ro T k 0 1).2
  let T2 := (f_ts T1 32).2
  let x := (f_tn T2 1).1
  let T3 := pu (f_tn T2 1).2 (3 + k) 2 x
  let T4 := (f_ts T3 32).2
  let y := (f_tn T4 1).1
  let T5 := pu (f_tn T4 1).2 (3 + k) 3 y
  if (f_ro T k 0 1).1 = false then (false, T1)
  else if (f_ts T1 32).1 = false then (false, T2)
  else if x < 0 then (false, T3)
  else if (f_ts T3 32).1 = false then (false, T4)
  else if y < 0 then (false, T5)
  else (true, pu (f_ts T5 63).2 (3 + k) 4 (bI (f_ts T5 63).1))
theorem kt_rs {T : tP} {k : Nat} : kt T (f_rs T k).2 := by
  have h1 := kt_ro (T := T) (k := k) (i := 0) (n := 1)
  have h2 := kt_tr h1 (kt_ts (c := 32))
  have h3 := kt_tr h2 (kt_tr (kt_tn (n := 1)) (kt_or (k := k) (f := 2) (x := (f_tn (f_ts (f_ro T k 0 1).2 32).2 1).1)))
  have h4 := kt_tr h3 (kt_ts (c := 32))
  have h5 := kt_tr h4 (kt_tr (kt_tn (n := 1)) (kt_or (k := k) (f := 3) (x := (f_tn (f_ts (pu (f_tn (f_ts (f_ro T k 0 1).2 32).2 1).2 (3 + k) 2 (f_tn (f_ts (f_ro T k 0 1).2 32).2 1).1) 32).2 1).1)))
  have h6 := kt_tr h5 (kt_ts (c := 63))
  unfold f_rs
  dsimp only
  split
  · exact h1
  · split
    · exact h2
    · split
      · exact h3
      · split
        · exact h4
        · split
          · exact h5
          · exact kt_tr h6 kt_or
theorem dX3_readOne_0 : decode cX3_readOne 0 = .ok (.aload_n 0, 1) := by decide +kernel
theorem dX3_readOne_1 : decode cX3_readOne 1 = .ok (.aload_n 2, 1) := by decide +kernel
theorem dX3_readOne_2 : decode cX3_readOne 2 = .ok (.invokevirtual 83, 3) := by decide +kernel
theorem dX3_readOne_5 : decode cX3_readOne 5 = .ok (.ifCond .ne 5, 3) := by decide +kernel
theorem dX3_readOne_8 : decode cX3_readOne 8 = .ok (.iconst 0, 1) := by decide +kernel
theorem dX3_readOne_9 : decode cX3_readOne 9 = .ok (.ireturn, 1) := by decide +kernel
theorem dX3_readOne_10 : decode cX3_readOne 10 = .ok (.aload_n 1, 1) := by decide +kernel
theorem dX3_readOne_11 : decode cX3_readOne 11 = .ok (.aload_n 0, 1) := by decide +kernel
theorem dX3_readOne_12 : decode cX3_readOne 12 = .ok (.iload_n 3, 1) := by decide +kernel
theorem dX3_readOne_13 : decode cX3_readOne 13 = .ok (.invokevirtual 69, 3) := by decide +kernel
theorem dX3_readOne_16 : decode cX3_readOne 16 = .ok (.putfield 87, 3) := by decide +kernel
theorem dX3_readOne_19 : decode cX3_readOne 19 = .ok (.aload_n 1, 1) := by decide +kernel
theorem dX3_readOne_20 : decode cX3_readOne 20 = .ok (.getfield 87, 3) := by decide +kernel
theorem dX3_readOne_23 : decode cX3_readOne 23 = .ok (.ifCond .lt 7, 3) := by decide +kernel
theorem dX3_readOne_26 : decode cX3_readOne 26 = .ok (.iconst 1, 1) := by decide +kernel
theorem dX3_readOne_27 : decode cX3_readOne 27 = .ok (.goto 4, 3) := by decide +kernel
theorem dX3_readOne_30 : decode cX3_readOne 30 = .ok (.iconst 0, 1) := by decide +kernel
theorem dX3_readOne_31 : decode cX3_readOne 31 = .ok (.ireturn, 1) := by decide +kernel
theorem dcX3_readOne : yX3_readOne.cls = RX3 ∧ yX3_readOne.cls ≠ "java/lang/invoke/MethodHandle" ∧ yX3_readOne.cls ≠ "java/lang/invoke/VarHandle" ∧ (parseMethodDescriptor yX3_readOne.desc).map (fun d => d.parameters.length) = some 3 := by decide +kernel
theorem gX3_readOne_2 : GoodIn wsL_law (wsV RX3 83 RX3 yX3_takeWord (.code yX3_takeWord cX3_takeWord 3 (some .boolean) :: wsL_law)) := g_V q205 q206 q207 q23 q208
theorem gX3_readOne_13 : GoodIn wsL_law (wsV RX3 69 RX3 yX3_takeNumber (.code yX3_takeNumber cX3_takeNumber 4 (some .int) :: wsL_law)) := g_V q262 q263 q264 q23 q265
set_option maxRecDepth 100000 in
set_option maxHeartbeats 4000000 in
theorem K_ro {cA : Nat → ClassId} {ad : tA} {ex : va_W} {M : tM} {T : tP} {k i n : Nat} (hk : k < 12) (hi : i < 15) (hn : n ≤ 12) (ho : okt T) : Cj yX3_readOne cX3_readOne 4 (some .boolean) (rmd 5) 0 0 cA ad [.ref (ad 13 0), .ref (ad 13 (3 + k)), .ref (ad 16 i), .int (nI n)] ex (m_pl M 13 T) (Qe (some (.int (bI (f_ro T k i n).1))) ex (m_pl M 13 (f_ro T k i n).2)) := by
  refine c_of_r (lv0 := [some (.ref (ad 13 0)), some (.ref (ad 13 (3 + k))), some (.ref (ad 16 i)), some (.int (nI n))]) rfl (by decide +kernel) (Nat.le_of_ble_eq_true rfl) rfl ?_
  refine r_aload_n dX3_readOne_0 rfl ?_
  refine r_aload_n dX3_readOne_1 rfl ?_
  refine r_cVi dX3_readOne_2 (K_tw hi ho) gX3_readOne_2 dcX3_takeWord rfl rfl rfl (Nat.le_of_ble_eq_true rfl) ob_ot ?_
  refine r_if_ne (tgt := 10) dX3_readOne_5 (by decide) (fun c5 => ?_) (fun c5 => ?_)
  · refine r_aload_n dX3_readOne_10 rfl ?_
    refine r_aload_n dX3_readOne_11 rfl ?_
    refine r_iload_n dX3_readOne_12 rfl ?_
    refine r_cVi dX3_readOne_13 (K_tn hn (kt_tw.2.2.1 ho)) gX3_readOne_13 dcX3_takeNumber rfl rfl rfl (Nat.le_of_ble_eq_true rfl) ob_ot ?_
    refine r_putp_or (by omega) 1 (by decide) q204 rfl rfl rfl rfl rfl dX3_readOne_16 ?_
    refine r_aload_n dX3_readOne_19 rfl ?_
    refine r_getp_or (by omega) 1 (by decide) q204 rfl dX3_readOne_20 ?_
    rw [pu_s]
    refine r_if_lt (tgt := 30) dX3_readOne_23 (by decide) (fun c23 => ?_) (fun c23 => ?_)
    · refine r_iconst (v := 0) dX3_readOne_30 (by decide) ?_
      first | exact r_ret rfl rfl dX3_readOne_31 (by rw [ro_b c5]; exact (bI_dn c23).symm) (by rw [ro_b c5]) | exact r_ret rfl rfl dX3_readOne_31 (by rw [ro_b c5]; exact (bI_dp c23).symm) (by rw [ro_b c5])
    · refine r_iconst (v := 1) dX3_readOne_26 (by decide) ?_
      refine r_goto (tgt := 31) dX3_readOne_27 (by decide) ?_
      first | exact r_ret rfl rfl dX3_readOne_31 (by rw [ro_b c5]; exact (bI_dn c23).symm) (by rw [ro_b c5]) | exact r_ret rfl rfl dX3_readOne_31 (by rw [ro_b c5]; exact (bI_dp c23).symm) (by rw [ro_b c5])
  · refine r_iconst (v := 0) dX3_readOne_8 (by decide) ?_
    exact r_ret rfl rfl dX3_readOne_9 (by rw [ro_a c5]; rfl) (by rw [ro_a c5])
theorem dX3_readPair_0 : decode cX3_readPair 0 = .ok (.aload_n 0, 1) := by decide +kernel
theorem dX3_readPair_1 : decode cX3_readPair 1 = .ok (.aload_n 1, 1) := by decide +kernel
theorem dX3_readPair_2 : decode cX3_readPair 2 = .ok (.aload_n 2, 1) := by decide +kernel
theorem dX3_readPair_3 : decode cX3_readPair 3 = .ok (.iconst 2, 1) := by decide +kernel
theorem dX3_readPair_4 : decode cX3_readPair 4 = .ok (.invokevirtual 57, 3) := by decide +kernel
theorem dX3_readPair_7 : decode cX3_readPair 7 = .ok (.ifCond .eq 11, 3) := by decide +kernel
theorem dX3_readPair_10 : decode cX3_readPair 10 = .ok (.aload_n 0, 1) := by decide +kernel
theorem dX3_readPair_11 : decode cX3_readPair 11 = .ok (.iload_n 3, 1) := by decide +kernel
theorem dX3_readPair_12 : decode cX3_readPair 12 = .ok (.invokevirtual 36, 3) := by decide +kernel
theorem dX3_readPair_15 : decode cX3_readPair 15 = .ok (.ifCond .ne 5, 3) := by decide +kernel
theorem dX3_readPair_18 : decode cX3_readPair 18 = .ok (.iconst 0, 1) := by decide +kernel
theorem dX3_readPair_19 : decode cX3_readPair 19 = .ok (.ireturn, 1) := by decide +kernel
theorem dX3_readPair_20 : decode cX3_readPair 20 = .ok (.aload_n 1, 1) := by decide +kernel
theorem dX3_readPair_21 : decode cX3_readPair 21 = .ok (.aload_n 0, 1) := by decide +kernel
theorem dX3_readPair_22 : decode cX3_readPair 22 = .ok (.iload 4, 2) := by decide +kernel
theorem dX3_readPair_24 : decode cX3_readPair 24 = .ok (.invokevirtual 69, 3) := by decide +kernel
theorem dX3_readPair_27 : decode cX3_readPair 27 = .ok (.putfield 73, 3) := by decide +kernel
theorem dX3_readPair_30 : decode cX3_readPair 30 = .ok (.aload_n 1, 1) := by decide +kernel
theorem dX3_readPair_31 : decode cX3_readPair 31 = .ok (.getfield 73, 3) := by decide +kernel
theorem dX3_readPair_34 : decode cX3_readPair 34 = .ok (.ifCond .lt 7, 3) := by decide +kernel
theorem dX3_readPair_37 : decode cX3_readPair 37 = .ok (.iconst 1, 1) := by decide +kernel
theorem dX3_readPair_38 : decode cX3_readPair 38 = .ok (.goto 4, 3) := by decide +kernel
theorem dX3_readPair_41 : decode cX3_readPair 41 = .ok (.iconst 0, 1) := by decide +kernel
theorem dX3_readPair_42 : decode cX3_readPair 42 = .ok (.ireturn, 1) := by decide +kernel
theorem dcX3_readPair : yX3_readPair.cls = RX3 ∧ yX3_readPair.cls ≠ "java/lang/invoke/MethodHandle" ∧ yX3_readPair.cls ≠ "java/lang/invoke/VarHandle" ∧ (parseMethodDescriptor yX3_readPair.desc).map (fun d => d.parameters.length) = some 4 := by decide +kernel
theorem gX3_readPair_4 : GoodIn wsL_law (wsV RX3 57 RX3 yX3_readOne (.code yX3_readOne cX3_readOne 4 (some .boolean) :: wsL_law)) := g_V q200 q201 q202 q23 q203
theorem gX3_readPair_12 : GoodIn wsL_law (wsV RX3 36 RX3 yX3_takeSign (.code yX3_takeSign cX3_takeSign 2 (some .boolean) :: wsL_law)) := g_V q258 q259 q260 q23 q261
theorem gX3_readPair_24 : GoodIn wsL_law (wsV RX3 69 RX3 yX3_takeNumber (.code yX3_takeNumber cX3_takeNumber 4 (some .int) :: wsL_law)) := g_V q262 q263 q264 q23 q265
set_option maxRecDepth 100000 in
set_option maxHeartbeats 4000000 in
theorem K_rp {cA : Nat → ClassId} {ad : tA} {ex : va_W} {M : tM} {T : tP} {k i n : Nat} {c : Int32} (hk : k < 12) (hi : i < 15) (hn : n ≤ 12) (ho : okt T) : Cj yX3_readPair cX3_readPair 5 (some .boolean) (rmd 6) 0 0 cA ad [.ref (ad 13 0), .ref (ad 13 (3 + k)), .ref (ad 16 i), .int c, .int (nI n)] ex (m_pl M 13 T) (Qe (some (.int (bI (f_rp T k i c n).1))) ex (m_pl M 13 (f_rp T k i c n).2)) := by
  refine c_of_r (lv0 := [some (.ref (ad 13 0)), some (.ref (ad 13 (3 + k))), some (.ref (ad 16 i)), some (.int c), some (.int (nI n))]) rfl (by decide +kernel) (Nat.le_of_ble_eq_true rfl) rfl ?_
  refine r_aload_n dX3_readPair_0 rfl ?_
  refine r_aload_n dX3_readPair_1 rfl ?_
  refine r_aload_n dX3_readPair_2 rfl ?_
  refine r_iconst (v := 2) dX3_readPair_3 (by decide) ?_
  refine r_cVi dX3_readPair_4 (K_ro (n := 2) hk hi (by omega) ho) gX3_readPair_4 dcX3_readOne rfl rfl rfl (Nat.le_of_ble_eq_true rfl) ob_ot ?_
  refine r_if_eq (tgt := 18) dX3_readPair_7 (by decide) (fun c7 => ?_) (fun c7 => ?_)
  · refine r_iconst (v := 0) dX3_readPair_18 (by decide) ?_
    first | exact r_ret rfl rfl dX3_readPair_19 (by rw [rp_a c7]; rfl) (by rw [rp_a c7]) | exact r_ret rfl rfl dX3_readPair_19 (by rw [rp_b c7 c15]; rfl) (by rw [rp_b c7 c15])
  · refine r_aload_n dX3_readPair_10 rfl ?_
    refine r_iload_n dX3_readPair_11 rfl ?_
    refine r_cVi dX3_readPair_12 (K_ts (kt_ro.2.2.1 ho)) gX3_readPair_12 dcX3_takeSign rfl rfl rfl (Nat.le_of_ble_eq_true rfl) ob_ot ?_
    refine r_if_ne (tgt := 20) dX3_readPair_15 (by decide) (fun c15 => ?_) (fun c15 => ?_)
    · refine r_aload_n dX3_readPair_20 rfl ?_
      refine r_aload_n dX3_readPair_21 rfl ?_
      refine r_iload dX3_readPair_22 rfl ?_
      refine r_cVi dX3_readPair_24 (K_tn hn (kt_ts.2.2.1 (kt_ro.2.2.1 ho))) gX3_readPair_24 dcX3_takeNumber rfl rfl rfl (Nat.le_of_ble_eq_true rfl) ob_ot ?_
      refine r_putp_or (by omega) 2 (by decide) q197 rfl rfl rfl rfl rfl dX3_readPair_27 ?_
      refine r_aload_n dX3_readPair_30 rfl ?_
      refine r_getp_or (by omega) 2 (by decide) q197 rfl dX3_readPair_31 ?_
      rw [pu_s]
      refine r_if_lt (tgt := 41) dX3_readPair_34 (by decide) (fun c34 => ?_) (fun c34 => ?_)
      · refine r_iconst (v := 0) dX3_readPair_41 (by decide) ?_
        first | exact r_ret rfl rfl dX3_readPair_42 (by rw [rp_c c7 c15]; exact (bI_dn c34).symm) (by rw [rp_c c7 c15]) | exact r_ret rfl rfl dX3_readPair_42 (by rw [rp_c c7 c15]; exact (bI_dp c34).symm) (by rw [rp_c c7 c15])
      · refine r_iconst (v := 1) dX3_readPair_37 (by decide) ?_
        refine r_goto (tgt := 42) dX3_readPair_38 (by decide) ?_
        first | exact r_ret rfl rfl dX3_readPair_42 (by rw [rp_c c7 c15]; exact (bI_dn c34).symm) (by rw [rp_c c7 c15]) | exact r_ret rfl rfl dX3_readPair_42 (by rw [rp_c c7 c15]; exact (bI_dp c34).symm) (by rw [rp_c c7 c15])
    · refine r_iconst (v := 0) dX3_readPair_18 (by decide) ?_
      first | exact r_ret rfl rfl dX3_readPair_19 (by rw [rp_a c7]; rfl) (by rw [rp_a c7]) | exact r_ret rfl rfl dX3_readPair_19 (by rw [rp_b c7 c15]; rfl) (by rw [rp_b c7 c15])
theorem rs_1 {T : tP} {k : Nat} (a : bI (f_ro T k 0 1).1 = 0) : f_rs T k = (false, (f_ro T k 0 1).2) := by unfold f_rs; rw [bI_0 a]; rfl
section
variable {T T3 T5 : tP} {k : Nat} {x y : Int32}
theorem rs_2 (a : ¬ bI (f_ro T k 0 1).1 = 0) (b : bI (f_ts (f_ro T k 0 1).2 32).1 = 0) : f_rs T k = (false, (f_ts (f_ro T k 0 1).2 32).2) := by unfold f_rs; dsimp only; rw [bI_1 a, bI_0 b]; rfl
theorem rs_3 (a : ¬ bI (f_ro T k 0 1).1 = 0) (b : ¬ bI (f_ts (f_ro T k 0 1).2 32).1 = 0) (ex : x = (f_tn (f_ts (f_ro T k 0 1).2 32).2 1).1) (e3 : T3 = pu (f_tn (f_ts (f_ro T k 0 1).2 32).2 1).2 (3 + k) 2 x) (c : x < 0) : f_rs T k = (false, T3) := by subst e3; subst ex; unfold f_rs; dsimp only; rw [bI_1 a, bI_1 b, if_neg (by decide), if_neg (by decide), if_pos c]
theorem rs_4 (a : ¬ bI (f_ro T k 0 1).1 = 0) (b : ¬ bI (f_ts (f_ro T k 0 1).2 32).1 = 0) (ex : x = (f_tn (f_ts (f_ro T k 0 1).2 32).2 1).1) (e3 : T3 = pu (f_tn (f_ts (f_ro T k 0 1).2 32).2 1).2 (3 + k) 2 x) (c : ¬ x < 0) (d : bI (f_ts T3 32).1 = 0) : f_rs T k = (false, (f_ts T3 32).2) := by subst e3; subst ex; unfold f_rs; dsimp only; rw [bI_1 a, bI_1 b, if_neg (by decide), if_neg (by decide), if_neg c, bI_0 d, if_pos rfl]
theorem rs_5 (a : ¬ bI (f_ro T k 0 1).1 = 0) (b : ¬ bI (f_ts (f_ro T k 0 1).2 32).1 = 0) (ex : x = (f_tn (f_ts (f_ro T k 0 1).2 32).2 1).1) (e3 : T3 = pu (f_tn (f_ts (f_ro T k 0 1).2 32).2 1).2 (3 + k) 2 x) (c : ¬ x < 0) (d : ¬ bI (f_ts T3 32).1 = 0) (ey : y = (f_tn (f_ts T3 32).2 1).1) (e5 : T5 = pu (f_tn (f_ts T3 32).2 1).2 (3 + k) 3 y) (f : y < 0) : f_rs T k = (false, T5) := by subst e5; subst ey; subst e3; subst ex; unfold f_rs; dsimp only; rw [bI_1 a, bI_1 b, if_neg (by decide), if_neg (by decide), if_neg c, bI_1 d, if_neg (by decide), if_pos f]
theorem rs_6 (a : ¬ bI (f_ro T k 0 1).1 = 0) (b : ¬ bI (f_ts (f_ro T k 0 1).2 32).1 = 0) (ex : x = (f_tn (f_ts (f_ro T k 0 1).2 32).2 1).1) (e3 : T3 = pu (f_tn (f_ts (f_ro T k 0 1).2 32).2 1).2 (3 + k) 2 x) (c : ¬ x < 0) (d : ¬ bI (f_ts T3 32).1 = 0) (ey : y = (f_tn (f_ts T3 32).2 1).1) (e5 : T5 = pu (f_tn (f_ts T3 32).2 1).2 (3 + k) 3 y) (f : ¬ y < 0) : f_rs T k = (true, pu (f_ts T5 63).2 (3 + k) 4 (bI (f_ts T5 63).1)) := by subst e5; subst ey; subst e3; subst ex; unfold f_rs; dsimp only; rw [bI_1 a, bI_1 b, if_neg (by decide), if_neg (by decide), if_neg c, bI_1 d, if_neg (by decide), if_neg f]
end
theorem dX3_readStep_0 : decode cX3_readStep 0 = .ok (.aload_n 0, 1) := by decide +kernel
theorem dX3_readStep_1 : decode cX3_readStep 1 = .ok (.aload_n 1, 1) := by decide +kernel
theorem dX3_readStep_2 : decode cX3_readStep 2 = .ok (.ldc 67, 2) := by decide +kernel
theorem dX3_readStep_4 : decode cX3_readStep 4 = .ok (.iconst 1, 1) := by decide +kernel
theorem dX3_readStep_5 : decode cX3_readStep 5 = .ok (.invokevirtual 57, 3) := by decide +kernel
theorem dX3_readStep_8 : decode cX3_readStep 8 = .ok (.ifCond .eq 12, 3) := by decide +kernel
theorem dX3_readStep_11 : decode cX3_readStep 11 = .ok (.aload_n 0, 1) := by decide +kernel
theorem dX3_readStep_12 : decode cX3_readStep 12 = .ok (.bipush 32, 2) := by decide +kernel
theorem dX3_readStep_14 : decode cX3_readStep 14 = .ok (.invokevirtual 36, 3) := by decide +kernel
theorem dX3_readStep_17 : decode cX3_readStep 17 = .ok (.ifCond .ne 5, 3) := by decide +kernel
theorem dX3_readStep_20 : decode cX3_readStep 20 = .ok (.iconst 0, 1) := by decide +kernel
theorem dX3_readStep_21 : decode cX3_readStep 21 = .ok (.ireturn, 1) := by decide +kernel
theorem dX3_readStep_22 : decode cX3_readStep 22 = .ok (.aload_n 1, 1) := by decide +kernel
theorem dX3_readStep_23 : decode cX3_readStep 23 = .ok (.aload_n 0, 1) := by decide +kernel
theorem dX3_readStep_24 : decode cX3_readStep 24 = .ok (.iconst 1, 1) := by decide +kernel
theorem dX3_readStep_25 : decode cX3_readStep 25 = .ok (.invokevirtual 69, 3) := by decide +kernel
theorem dX3_readStep_28 : decode cX3_readStep 28 = .ok (.putfield 73, 3) := by decide +kernel
theorem dX3_readStep_31 : decode cX3_readStep 31 = .ok (.aload_n 1, 1) := by decide +kernel
theorem dX3_readStep_32 : decode cX3_readStep 32 = .ok (.getfield 73, 3) := by decide +kernel
theorem dX3_readStep_35 : decode cX3_readStep 35 = .ok (.ifCond .lt 12, 3) := by decide +kernel
theorem dX3_readStep_38 : decode cX3_readStep 38 = .ok (.aload_n 0, 1) := by decide +kernel
theorem dX3_readStep_39 : decode cX3_readStep 39 = .ok (.bipush 32, 2) := by decide +kernel
theorem dX3_readStep_41 : decode cX3_readStep 41 = .ok (.invokevirtual 36, 3) := by decide +kernel
theorem dX3_readStep_44 : decode cX3_readStep 44 = .ok (.ifCond .ne 5, 3) := by decide +kernel
theorem dX3_readStep_47 : decode cX3_readStep 47 = .ok (.iconst 0, 1) := by decide +kernel
theorem dX3_readStep_48 : decode cX3_readStep 48 = .ok (.ireturn, 1) := by decide +kernel
theorem dX3_readStep_49 : decode cX3_readStep 49 = .ok (.aload_n 1, 1) := by decide +kernel
theorem dX3_readStep_50 : decode cX3_readStep 50 = .ok (.aload_n 0, 1) := by decide +kernel
theorem dX3_readStep_51 : decode cX3_readStep 51 = .ok (.iconst 1, 1) := by decide +kernel
theorem dX3_readStep_52 : decode cX3_readStep 52 = .ok (.invokevirtual 69, 3) := by decide +kernel
theorem dX3_readStep_55 : decode cX3_readStep 55 = .ok (.putfield 76, 3) := by decide +kernel
theorem dX3_readStep_58 : decode cX3_readStep 58 = .ok (.aload_n 1, 1) := by decide +kernel
theorem dX3_readStep_59 : decode cX3_readStep 59 = .ok (.getfield 76, 3) := by decide +kernel
theorem dX3_readStep_62 : decode cX3_readStep 62 = .ok (.ifCond .ge 5, 3) := by decide +kernel
theorem dX3_readStep_65 : decode cX3_readStep 65 = .ok (.iconst 0, 1) := by decide +kernel
theorem dX3_readStep_66 : decode cX3_readStep 66 = .ok (.ireturn, 1) := by decide +kernel
theorem dX3_readStep_67 : decode cX3_readStep 67 = .ok (.aload_n 1, 1) := by decide +kernel
theorem dX3_readStep_68 : decode cX3_readStep 68 = .ok (.aload_n 0, 1) := by decide +kernel
theorem dX3_readStep_69 : decode cX3_readStep 69 = .ok (.bipush 63, 2) := by decide +kernel
theorem dX3_readStep_71 : decode cX3_readStep 71 = .ok (.invokevirtual 36, 3) := by decide +kernel
theorem dX3_readStep_74 : decode cX3_readStep 74 = .ok (.putfield 79, 3) := by decide +kernel
theorem dX3_readStep_77 : decode cX3_readStep 77 = .ok (.iconst 1, 1) := by decide +kernel
theorem dX3_readStep_78 : decode cX3_readStep 78 = .ok (.ireturn, 1) := by decide +kernel
theorem dcX3_readStep : yX3_readStep.cls = RX3 ∧ yX3_readStep.cls ≠ "java/lang/invoke/MethodHandle" ∧ yX3_readStep.cls ≠ "java/lang/invoke/VarHandle" ∧ (parseMethodDescriptor yX3_readStep.desc).map (fun d => d.parameters.length) = some 1 := by decide +kernel
theorem gX3_readStep_5 : GoodIn wsL_law (wsV RX3 57 RX3 yX3_readOne (.code yX3_readOne cX3_readOne 4 (some .boolean) :: wsL_law)) := g_V q200 q201 q202 q23 q203
theorem gX3_readStep_14 : GoodIn wsL_law (wsV RX3 36 RX3 yX3_takeSign (.code yX3_takeSign cX3_takeSign 2 (some .boolean) :: wsL_law)) := g_V q258 q259 q260 q23 q261
theorem gX3_readStep_25 : GoodIn wsL_law (wsV RX3 69 RX3 yX3_takeNumber (.code yX3_takeNumber cX3_takeNumber 4 (some .int) :: wsL_law)) := g_V q262 q263 q264 q23 q265
theorem gX3_readStep_41 : GoodIn wsL_law (wsV RX3 36 RX3 yX3_takeSign (.code yX3_takeSign cX3_takeSign 2 (some .boolean) :: wsL_law)) := g_V q258 q259 q260 q23 q261
theorem gX3_readStep_52 : GoodIn wsL_law (wsV RX3 69 RX3 yX3_takeNumber (.code yX3_takeNumber cX3_takeNumber 4 (some .int) :: wsL_law)) := g_V q262 q263 q264 q23 q265
theorem gX3_readStep_71 : GoodIn wsL_law (wsV RX3 36 RX3 yX3_takeSign (.code yX3_takeSign cX3_takeSign 2 (some .boolean) :: wsL_law)) := g_V q258 q259 q260 q23 q261
set_option maxRecDepth 100000 in
set_option maxHeartbeats 4000000 in
theorem K_rs {cA : Nat → ClassId} {ad : tA} {ex : va_W} {M : tM} {T : tP} {k : Nat} (hk : k < 12) (ho : okt T) : Cj yX3_readStep cX3_readStep 2 (some .boolean) (rmd 6) 0 0 cA ad [.ref (ad 13 0), .ref (ad 13 (3 + k))] ex (m_pl M 13 T) (Qe (some (.int (bI (f_rs T k).1))) ex (m_pl M 13 (f_rs T k).2)) := by
  refine c_of_r (lv0 := [some (.ref (ad 13 0)), some (.ref (ad 13 (3 + k)))]) rfl (by decide +kernel) (Nat.le_of_ble_eq_true rfl) rfl ?_
  have o1 : okt (f_ro T k 0 1).2 := kt_ro.2.2.1 ho
  have o2 : okt (f_ts (f_ro T k 0 1).2 32).2 := kt_ts.2.2.1 o1
  refine r_aload_n dX3_readStep_0 rfl ?_
  refine r_aload_n dX3_readStep_1 rfl ?_
  refine r_ldcS (List.mem_of_getElem? (i := 0) rfl) dX3_readStep_2 ?_
  refine r_iconst (v := 1) dX3_readStep_4 (by decide) ?_
  refine r_cVi dX3_readStep_5 (K_ro (i := 0) (n := 1) hk (by omega) (by omega) ho) gX3_readStep_5 dcX3_readOne rfl rfl rfl (Nat.le_of_ble_eq_true rfl) ob_ot ?_
  refine r_if_eq (tgt := 20) dX3_readStep_8 (by decide) (fun c8 => ?_) (fun c8 => ?_)
  · refine r_iconst (v := 0) dX3_readStep_20 (by decide) ?_
    first | exact r_ret rfl rfl dX3_readStep_21 (p_ans (rs_1 c8)) (p_st (rs_1 c8)) | exact r_ret rfl rfl dX3_readStep_21 (p_ans (rs_2 c8 c17)) (p_st (rs_2 c8 c17))
  · refine r_aload_n dX3_readStep_11 rfl ?_
    refine r_bipush (v := 32) dX3_readStep_12 (by decide) ?_
    refine r_cVi dX3_readStep_14 (K_ts o1) gX3_readStep_14 dcX3_takeSign rfl rfl rfl (Nat.le_of_ble_eq_true rfl) ob_ot ?_
    refine r_if_ne (tgt := 22) dX3_readStep_17 (by decide) (fun c17 => ?_) (fun c17 => ?_)
    · refine r_aload_n dX3_readStep_22 rfl ?_
      refine r_aload_n dX3_readStep_23 rfl ?_
      refine r_iconst (v := 1) dX3_readStep_24 (by decide) ?_
      refine r_cVi dX3_readStep_25 (K_tn (n0 := 1) (by omega) o2) gX3_readStep_25 dcX3_takeNumber rfl rfl rfl (Nat.le_of_ble_eq_true rfl) ob_ot ?_
      refine r_putp_or (by omega) 2 (by decide) q197 rfl rfl rfl rfl rfl dX3_readStep_28 ?_
      refine r_aload_n dX3_readStep_31 rfl ?_
      refine r_getp_or (by omega) 2 (by decide) q197 rfl dX3_readStep_32 ?_
      rw [pu_s]
      refine r_if_lt (tgt := 47) dX3_readStep_35 (by decide) (fun c35 => ?_) (fun c35 => ?_)
      · refine r_iconst (v := 0) dX3_readStep_47 (by decide) ?_
        first | exact r_ret rfl rfl dX3_readStep_48 (p_ans (rs_3 c8 c17 rfl rfl c35)) (p_st (rs_3 c8 c17 rfl rfl c35)) | exact r_ret rfl rfl dX3_readStep_48 (p_ans (rs_4 c8 c17 rfl rfl c35 c44)) (p_st (rs_4 c8 c17 rfl rfl c35 c44))
      · refine r_aload_n dX3_readStep_38 rfl ?_
        refine r_bipush (v := 32) dX3_readStep_39 (by decide) ?_
        refine r_cVi dX3_readStep_41 (K_ts (kt_or.2.2.1 (kt_tn.2.2.1 o2))) gX3_readStep_41 dcX3_takeSign rfl rfl rfl (Nat.le_of_ble_eq_true rfl) ob_ot ?_
        refine r_if_ne (tgt := 49) dX3_readStep_44 (by decide) (fun c44 => ?_) (fun c44 => ?_)
        · refine r_aload_n dX3_readStep_49 rfl ?_
          refine r_aload_n dX3_readStep_50 rfl ?_
          refine r_iconst (v := 1) dX3_readStep_51 (by decide) ?_
          refine r_cVi dX3_readStep_52 (K_tn (n0 := 1) (by omega) (kt_ts.2.2.1 (kt_or.2.2.1 (kt_tn.2.2.1 o2)))) gX3_readStep_52 dcX3_takeNumber rfl rfl rfl (Nat.le_of_ble_eq_true rfl) ob_ot ?_
          refine r_putp_or (by omega) 3 (by decide) q198 rfl rfl rfl rfl rfl dX3_readStep_55 ?_
          refine r_aload_n dX3_readStep_58 rfl ?_
          refine r_getp_or (by omega) 3 (by decide) q198 rfl dX3_readStep_59 ?_
          rw [pu_s]
          refine r_if_ge (tgt := 67) dX3_readStep_62 (by decide) (fun c62 => ?_) (fun c62 => ?_)
          · refine r_aload_n dX3_readStep_67 rfl ?_
            refine r_aload_n dX3_readStep_68 rfl ?_
            refine r_bipush (v := 63) dX3_readStep_69 (by decide) ?_
            refine r_cVi dX3_readStep_71 (K_ts (kt_or.2.2.1 (kt_tn.2.2.1 (kt_ts.2.2.1 (kt_or.2.2.1 (kt_tn.2.2.1 o2)))))) gX3_readStep_71 dcX3_takeSign rfl rfl rfl (Nat.le_of_ble_eq_true rfl) ob_ot ?_
            refine r_putp_or (by omega) 4 (by decide) q199 rfl rfl bI_nar bI_fit rfl dX3_readStep_74 ?_
            refine r_iconst (v := 1) dX3_readStep_77 (by decide) ?_
            first | exact r_ret rfl rfl dX3_readStep_78 (p_ans (rs_6 c8 c17 rfl rfl c35 c44 rfl rfl (Int32.not_lt.mpr c62))) (p_st (rs_6 c8 c17 rfl rfl c35 c44 rfl rfl (Int32.not_lt.mpr c62)))
          · refine r_iconst (v := 0) dX3_readStep_65 (by decide) ?_
            first | exact r_ret rfl rfl dX3_readStep_66 (p_ans (rs_5 c8 c17 rfl rfl c35 c44 rfl rfl (Int32.not_le.mp c62))) (p_st (rs_5 c8 c17 rfl rfl c35 c44 rfl rfl (Int32.not_le.mp c62)))
        · refine r_iconst (v := 0) dX3_readStep_47 (by decide) ?_
          first | exact r_ret rfl rfl dX3_readStep_48 (p_ans (rs_3 c8 c17 rfl rfl c35)) (p_st (rs_3 c8 c17 rfl rfl c35)) | exact r_ret rfl rfl dX3_readStep_48 (p_ans (rs_4 c8 c17 rfl rfl c35 c44)) (p_st (rs_4 c8 c17 rfl rfl c35 c44))
    · refine r_iconst (v := 0) dX3_readStep_20 (by decide) ?_
      first | exact r_ret rfl rfl dX3_readStep_21 (p_ans (rs_1 c8)) (p_st (rs_1 c8)) | exact r_ret rfl rfl dX3_readStep_21 (p_ans (rs_2 c8 c17)) (p_st (rs_2 c8 c17))

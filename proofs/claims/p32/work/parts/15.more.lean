/-! PART 15: doneIn, tell, tellAll, character, account, isBalanced, meanDays, wrongShare -/
section
variable {cc : ByteArray} {own : String} {nL : Nat} {ret : Option FieldType} {rm : Room} {mc ms : Nat} {cA : Nat → ClassId} {ad : tA} {Q : Option Value → va_W → tM → Prop} {ex : va_W} {cells slots pc : Nat} {lv : List (Option Value)} {st : List Value} {M : tM}
theorem r_ddiv {x y : UInt64} (hd : decode cc pc = .ok (.ddiv, 1)) (k : ∀ r : UInt64, alike64 r (FP.ddiv x y) = true → Rj cc own nL ret rm mc ms cA ad Q ex cells slots (pc + 1) lv (.double r :: st) M) : Rj cc own nL ret rm mc ms cA ad Q ex cells slots pc lv (.double y :: .double x :: st) M := by
  intro p l e s m args below meth c G tx A Qc free d0 X E hd0 H locs ls hP hD hS hl
  exact lv_ddiv_any hd0 lw_bits X.1 X.2.1 hd (fun r d' hal hd' => k r hal p l e s m args below meth c G tx A Qc free d' X E hd' H locs ls hP hD hS hl)
theorem r_fdiv {x y : UInt32} (hd : decode cc pc = .ok (.fdiv, 1)) (k : ∀ r : UInt32, alike32 r (FP.fdiv x y) = true → Rj cc own nL ret rm mc ms cA ad Q ex cells slots (pc + 1) lv (.float r :: st) M) : Rj cc own nL ret rm mc ms cA ad Q ex cells slots pc lv (.float y :: .float x :: st) M := by
  intro p l e s m args below meth c G tx A Qc free d0 X E hd0 H locs ls hP hD hS hl
  exact lv_fdiv_any hd0 lw_bits X.1 X.2.1 hd (fun r d' hal hd' => k r hal p l e s m args below meth c G tx A Qc free d' X E hd' H locs ls hP hD hS hl)
end
-- copies
theorem lcp_0 {Q : tP} : ∀ (n i : Nat) (P : tP), lp_cps Q n i P 0 = P 0 := by
  intro n
  induction n with
  | zero => intro i P; rfl
  | succ n ih =>
    intro i P
    rw [lp_cps, ih]
    unfold f_cps
    rw [pu_jj (by omega), pu_jj (by omega), pu_jj (by omega), pu_jj (by omega), pu_jj (by omega), pu_jj (by omega), pu_jj (by omega), pu_jj (by omega), pu_jj (by omega), pu_jj (by omega), pu_jj (by omega)]
theorem fc_0 {A P : tP} {k : Nat} (hk : k = 1 ∨ k = 3 ∨ k = 5 ∨ k = 6 ∨ k = 7 ∨ k = 8 ∨ k = 9 ∨ k = 10 ∨ k = 11 ∨ k = 12 ∨ k = 13) : f_copy A P 0 k = P 0 k := by
  unfold f_copy f_cp0
  rcases hk with rfl | rfl | rfl | rfl | rfl | rfl | rfl | rfl | rfl | rfl | rfl <;> simp [pu, p_row, upd]
theorem fc_okc {A P : tP} (h : okc P) : okc (f_copy A P) := okc_of (c := cn P) ((fc_0 (by omega)).trans h.1) h.2
theorem fc_oke {A P : tP} (h : oke P) : oke (f_copy A P) := oke_of (e := en P) ((fc_0 (by omega)).trans h.1) h.2
theorem fc_okh {A P : tP} (h : okh P) : okh (f_copy A P) := by obtain ⟨a, b, c⟩ := h; exact ⟨a, b, (fc_0 (by omega)).trans c⟩
theorem fc_cn {A P : tP} : cn (f_copy A P) = cn P := by rw [cn, cn, fc_0 (by omega)]
-- contracts over forecast and line
theorem cm2 {y : MethodName} {cc : ByteArray} {nL : Nat} {ret : Option FieldType} {rm : Room} {cA : Nat → ClassId} {ad : tA} {vs : List Value} {ex : va_W} {M : tM} {F P X X' : tP} {r : Nat} {v : Option Value} (hr : 2 ≤ r) (h : Cj y cc nL ret rm 0 0 cA ad vs ex (m_pl (mm (m_pl M r X) F P) r X) (Qe v ex (m_pl (mm (m_pl M r X) F P) r X'))) : Cj y cc nL ret rm 0 0 cA ad vs ex (mm (m_pl M r X) F P) (Qe v ex (mm (m_pl M r X') F P)) := by
  have h2 := cmm (M := m_pl M r X) hr m_pl_s h
  rw [m_pl_pl] at h2
  exact h2
theorem cj_eq {y : MethodName} {cc : ByteArray} {nL : Nat} {ret : Option FieldType} {rm : Room} {cA : Nat → ClassId} {ad : tA} {vs : List Value} {ex : va_W} {M M' : tM} {Q : Option Value → va_W → tM → Prop} (e : M' = M) (h : Cj y cc nL ret rm 0 0 cA ad vs ex M' Q) : Cj y cc nL ret rm 0 0 cA ad vs ex M Q := e ▸ h
def lp_di (i : Nat) : Nat → Nat → tP → Int32 × tP
  | 0, _, X => (-15, X)
  | n + 1, d, X => if f_pass X (4 + i) 6 = 3 then (nI d, f_pass X) else if f_countOf (f_pass X) 1 = 0 then (-15, f_pass X) else lp_di i n (d + 1) (f_pass X)
def t_doneIn (P X : tP) (s : Int32) : Int32 × tP := if f_hasStep P s = false then (-11, X) else if P (4 + s.toNatClampNeg) 6 = 3 then (0, X) else lp_di s.toNatClampNeg 200 1 (f_copy X P)
theorem di_a {i n d : Nat} {X : tP} (h : f_pass X (4 + i) 6 = 3) : lp_di i (n + 1) d X = (nI d, f_pass X) := if_pos h
theorem di_b {i n d : Nat} {X : tP} (h : ¬ f_pass X (4 + i) 6 = 3) (h2 : f_countOf (f_pass X) 1 = 0) : lp_di i (n + 1) d X = (-15, f_pass X) := (if_neg h).trans (if_pos h2)
theorem di_c {i n d : Nat} {X : tP} (h : ¬ f_pass X (4 + i) 6 = 3) (h2 : ¬ f_countOf (f_pass X) 1 = 0) : lp_di i (n + 1) d X = lp_di i n (d + 1) (f_pass X) := (if_neg h).trans (if_neg h2)
theorem di_0 {d : Nat} (h : d + 0 = 201) : (200 : Int32) < nI d := nI_lt (a := 200) (by omega) (by omega)
theorem di_s {d n : Nat} (h : d + (n + 1) = 201) : ¬ (200 : Int32) < nI d := nI_nlt (a := 200) (by omega) (by omega)
theorem dX6_doneIn_0 : decode cX6_doneIn 0 = .ok (.aload_n 0, 1) := by decide +kernel
theorem dX6_doneIn_1 : decode cX6_doneIn 1 = .ok (.getfield 12, 3) := by decide +kernel
theorem dX6_doneIn_4 : decode cX6_doneIn 4 = .ok (.iload_n 1, 1) := by decide +kernel
theorem dX6_doneIn_5 : decode cX6_doneIn 5 = .ok (.invokevirtual 77, 3) := by decide +kernel
theorem dX6_doneIn_8 : decode cX6_doneIn 8 = .ok (.ifCond .ne 6, 3) := by decide +kernel
theorem dX6_doneIn_11 : decode cX6_doneIn 11 = .ok (.bipush (-11), 2) := by decide +kernel
theorem dX6_doneIn_13 : decode cX6_doneIn 13 = .ok (.ireturn, 1) := by decide +kernel
theorem dX6_doneIn_14 : decode cX6_doneIn 14 = .ok (.aload_n 0, 1) := by decide +kernel
theorem dX6_doneIn_15 : decode cX6_doneIn 15 = .ok (.getfield 12, 3) := by decide +kernel
theorem dX6_doneIn_18 : decode cX6_doneIn 18 = .ok (.getfield 81, 3) := by decide +kernel
theorem dX6_doneIn_21 : decode cX6_doneIn 21 = .ok (.iload_n 1, 1) := by decide +kernel
theorem dX6_doneIn_22 : decode cX6_doneIn 22 = .ok (.aaload, 1) := by decide +kernel
theorem dX6_doneIn_23 : decode cX6_doneIn 23 = .ok (.getfield 101, 3) := by decide +kernel
theorem dX6_doneIn_26 : decode cX6_doneIn 26 = .ok (.iconst 3, 1) := by decide +kernel
theorem dX6_doneIn_27 : decode cX6_doneIn 27 = .ok (.if_icmp .ne 5, 3) := by decide +kernel
theorem dX6_doneIn_30 : decode cX6_doneIn 30 = .ok (.iconst 0, 1) := by decide +kernel
theorem dX6_doneIn_31 : decode cX6_doneIn 31 = .ok (.ireturn, 1) := by decide +kernel
theorem dX6_doneIn_32 : decode cX6_doneIn 32 = .ok (.aload_n 0, 1) := by decide +kernel
theorem dX6_doneIn_33 : decode cX6_doneIn 33 = .ok (.getfield 16, 3) := by decide +kernel
theorem dX6_doneIn_36 : decode cX6_doneIn 36 = .ok (.aload_n 0, 1) := by decide +kernel
theorem dX6_doneIn_37 : decode cX6_doneIn 37 = .ok (.getfield 12, 3) := by decide +kernel
theorem dX6_doneIn_40 : decode cX6_doneIn 40 = .ok (.invokevirtual 139, 3) := by decide +kernel
theorem dX6_doneIn_43 : decode cX6_doneIn 43 = .ok (.iconst 1, 1) := by decide +kernel
theorem dX6_doneIn_44 : decode cX6_doneIn 44 = .ok (.istore_n 2, 1) := by decide +kernel
theorem dX6_doneIn_45 : decode cX6_doneIn 45 = .ok (.iload_n 2, 1) := by decide +kernel
theorem dX6_doneIn_46 : decode cX6_doneIn 46 = .ok (.sipush 200, 3) := by decide +kernel
theorem dX6_doneIn_49 : decode cX6_doneIn 49 = .ok (.if_icmp .gt 48, 3) := by decide +kernel
theorem dX6_doneIn_52 : decode cX6_doneIn 52 = .ok (.aload_n 0, 1) := by decide +kernel
theorem dX6_doneIn_53 : decode cX6_doneIn 53 = .ok (.getfield 16, 3) := by decide +kernel
theorem dX6_doneIn_56 : decode cX6_doneIn 56 = .ok (.invokevirtual 143, 3) := by decide +kernel
theorem dX6_doneIn_59 : decode cX6_doneIn 59 = .ok (.aload_n 0, 1) := by decide +kernel
theorem dX6_doneIn_60 : decode cX6_doneIn 60 = .ok (.getfield 16, 3) := by decide +kernel
theorem dX6_doneIn_63 : decode cX6_doneIn 63 = .ok (.getfield 81, 3) := by decide +kernel
theorem dX6_doneIn_66 : decode cX6_doneIn 66 = .ok (.iload_n 1, 1) := by decide +kernel
theorem dX6_doneIn_67 : decode cX6_doneIn 67 = .ok (.aaload, 1) := by decide +kernel
theorem dX6_doneIn_68 : decode cX6_doneIn 68 = .ok (.getfield 101, 3) := by decide +kernel
theorem dX6_doneIn_71 : decode cX6_doneIn 71 = .ok (.iconst 3, 1) := by decide +kernel
theorem dX6_doneIn_72 : decode cX6_doneIn 72 = .ok (.if_icmp .ne 5, 3) := by decide +kernel
theorem dX6_doneIn_75 : decode cX6_doneIn 75 = .ok (.iload_n 2, 1) := by decide +kernel
theorem dX6_doneIn_76 : decode cX6_doneIn 76 = .ok (.ireturn, 1) := by decide +kernel
theorem dX6_doneIn_77 : decode cX6_doneIn 77 = .ok (.aload_n 0, 1) := by decide +kernel
theorem dX6_doneIn_78 : decode cX6_doneIn 78 = .ok (.getfield 16, 3) := by decide +kernel
theorem dX6_doneIn_81 : decode cX6_doneIn 81 = .ok (.iconst 1, 1) := by decide +kernel
theorem dX6_doneIn_82 : decode cX6_doneIn 82 = .ok (.invokevirtual 146, 3) := by decide +kernel
theorem dX6_doneIn_85 : decode cX6_doneIn 85 = .ok (.ifCond .ne 6, 3) := by decide +kernel
theorem dX6_doneIn_88 : decode cX6_doneIn 88 = .ok (.bipush (-15), 2) := by decide +kernel
theorem dX6_doneIn_90 : decode cX6_doneIn 90 = .ok (.ireturn, 1) := by decide +kernel
theorem dX6_doneIn_91 : decode cX6_doneIn 91 = .ok (.iinc 2 1, 3) := by decide +kernel
theorem dX6_doneIn_94 : decode cX6_doneIn 94 = .ok (.goto (-49), 3) := by decide +kernel
theorem dX6_doneIn_97 : decode cX6_doneIn 97 = .ok (.bipush (-15), 2) := by decide +kernel
theorem dX6_doneIn_99 : decode cX6_doneIn 99 = .ok (.ireturn, 1) := by decide +kernel
theorem dcX6_doneIn : yX6_doneIn.cls = RX6 ∧ yX6_doneIn.cls ≠ "java/lang/invoke/MethodHandle" ∧ yX6_doneIn.cls ≠ "java/lang/invoke/VarHandle" ∧ (parseMethodDescriptor yX6_doneIn.desc).map (fun d => d.parameters.length) = some 1 := by decide +kernel
theorem gX6_doneIn_56 : GoodIn wsL_law (wsV RX6 143 RX4 yX4_passDay (.code yX4_passDay cX4_passDay 2 none :: wsL_law)) := g_V q362 q363 q364 q16 q365
theorem gX6_doneIn_82 : GoodIn wsL_law (wsV RX6 146 RX4 yX4_countOf (.code yX4_countOf cX4_countOf 2 (some .int) :: wsL_law)) := g_V q160 q161 q162 q16 q163
theorem gX6_doneIn_5 : GoodIn wsL_law (wsV RX6 77 RX4 yX4_hasStep (.code yX4_hasStep cX4_hasStep 2 (some .boolean) :: wsL_law)) := g_V q317 q318 q319 q16 q320
theorem gX6_doneIn_40 : GoodIn wsL_law (wsV RX6 139 RX4 yX4_copyFrom (.code yX4_copyFrom cX4_copyFrom 3 none :: wsL_law)) := g_V q76 q77 q78 q16 q79
set_option maxRecDepth 100000 in
set_option maxHeartbeats 4000000 in
theorem K_doneIn {cA : Nat → ClassId} {ad : tA} {ex : va_W} {M : tM} {F P : tP} {s : Int32} (hoc : okc P) (hob : okb P) (ho : oke P) (hh : okh P) : Cj yX6_doneIn cX6_doneIn 3 (some .int) (rmd 5) 0 0 cA ad [.ref (ad 0 0), .int s] ex (mm M F P) (Qe (some (.int (t_doneIn P (M 2) s).1)) ex (mm (m_pl M 2 (t_doneIn P (M 2) s).2) F P)) := by
  refine c_of_r (lv0 := [some (.ref (ad 0 0)), some (.int s), none]) rfl (by decide +kernel) (Nat.le_of_ble_eq_true rfl) rfl ?_
  have L : ∀ (i : Nat), i < 12 → s = nI i → ∀ (n d : Nat) (X : tP), d + n = 201 → okc X → oke X → okh X → lp_di i n d X = t_doneIn P (M 2) s → Rj cX6_doneIn RX6 3 (some .int) (rmd 5) 0 0 cA ad (Qe (some (.int (t_doneIn P (M 2) s).1)) ex (mm (m_pl M 2 (t_doneIn P (M 2) s).2) F P)) ex 0 0 45 [some (.ref (ad 0 0)), some (.int s), some (.int (nI d))] [] (mm (m_pl M 2 X) F P) := by
    intro i hi2 hi3 n
    induction n with
    | zero =>
      intro d X h hc ho hh hX
      refine r_iload_n dX6_doneIn_45 rfl ?_
      refine r_sipush (v := 200) dX6_doneIn_46 (by decide) ?_
      refine r_icmp_gt (tgt := 97) dX6_doneIn_49 (by decide) (fun c49 => ?_) (fun c49 => absurd (di_0 h) c49)
      refine r_bipush (v := -15) dX6_doneIn_97 (by decide) ?_
      exact r_ret rfl rfl dX6_doneIn_99 (by rw [← hX]; rfl) (by rw [← hX]; rfl)
    | succ n ih =>
      intro d X h hc ho hh hX
      refine r_iload_n dX6_doneIn_45 rfl ?_
      refine r_sipush (v := 200) dX6_doneIn_46 (by decide) ?_
      refine r_icmp_gt (tgt := 97) dX6_doneIn_49 (by decide) (fun c49 => absurd c49 (di_s h)) (fun c49 => ?_)
      refine r_aload_n dX6_doneIn_52 rfl ?_
      refine r_getF 1 (by decide) q18 rfl dX6_doneIn_53 ?_
      refine r_cVv dX6_doneIn_56 (cm2 (by omega) (K_pass is2 hc ho hh)) gX6_doneIn_56 dcX4_passDay rfl rfl rfl (Nat.le_of_ble_eq_true rfl) (ob_pl is2) ?_
      refine r_aload_n dX6_doneIn_59 rfl ?_
      refine r_getF 1 (by decide) q18 rfl dX6_doneIn_60 ?_
      refine r_getm_pl is2 (by omega) 0 (by decide) q314 rfl dX6_doneIn_63 ?_
      refine r_iload_n dX6_doneIn_66 rfl ?_
      refine r_ald_steps is2 hi3 hi2 dX6_doneIn_67 ?_
      refine r_getm_st is2 (by omega) hi2 6 (by decide) q315 rfl dX6_doneIn_68 ?_
      refine r_iconst (v := 3) dX6_doneIn_71 (by decide) ?_
      refine r_icmp_ne (tgt := 77) dX6_doneIn_72 (by decide) (fun c72 => ?_) (fun c72 => ?_)
      · refine r_aload_n dX6_doneIn_77 rfl ?_
        refine r_getF 1 (by decide) q18 rfl dX6_doneIn_78 ?_
        refine r_iconst (v := 1) dX6_doneIn_81 (by decide) ?_
        refine r_cVi dX6_doneIn_82 (cm2 (by omega) (K_countOf is2 (kp_okc kp_pass hc).1 (kp_okc kp_pass hc).2)) gX6_doneIn_82 dcX4_countOf rfl rfl rfl (Nat.le_of_ble_eq_true rfl) (ob_pl is2) ?_
        refine r_if_ne (tgt := 91) dX6_doneIn_85 (by decide) (fun c85 => ?_) (fun c85 => ?_)
        · refine r_iinc dX6_doneIn_91 rfl ii_s (by decide) rfl ?_
          refine r_goto (tgt := 45) dX6_doneIn_94 (by decide) ?_
          exact ih (d + 1) _ (by omega) (kp_okc kp_pass hc) (kp_pass.2.2.1 ho) (kp_okh kp_pass hh) ((di_c c72 c85).symm.trans hX)
        · refine r_bipush (v := -15) dX6_doneIn_88 (by decide) ?_
          exact r_ret rfl rfl dX6_doneIn_90 (a_a (hX.symm.trans (di_b c72 c85))) (by rw [show t_doneIn P (M 2) s = _ from hX.symm.trans (di_b c72 c85)])
      · refine r_iload_n dX6_doneIn_75 rfl ?_
        exact r_ret rfl rfl dX6_doneIn_76 (a_a (hX.symm.trans (di_a c72))) (by rw [show t_doneIn P (M 2) s = _ from hX.symm.trans (di_a c72)])
  refine r_aload_n dX6_doneIn_0 rfl ?_
  refine r_getF 0 (by decide) q17 rfl dX6_doneIn_1 ?_
  refine r_iload_n dX6_doneIn_4 rfl ?_
  refine r_cVi dX6_doneIn_5 (K_hasStep is1) gX6_doneIn_5 dcX4_hasStep rfl rfl rfl (Nat.le_of_ble_eq_true rfl) (ob_pl is1) ?_
  refine r_if_ne (tgt := 14) dX6_doneIn_8 (by decide) (fun c8 => ?_) (fun c8 => ?_)
  · obtain ⟨i, hi1, hi2, hi3, hi4⟩ := hs_of hoc (bt c8)
    refine r_aload_n dX6_doneIn_14 rfl ?_
    refine r_getF 0 (by decide) q17 rfl dX6_doneIn_15 ?_
    refine r_getp_pl is1 0 (by decide) q314 rfl dX6_doneIn_18 ?_
    refine r_iload_n dX6_doneIn_21 rfl ?_
    refine r_aldp_steps is1 hi3 hi2 dX6_doneIn_22 ?_
    refine r_getp_st is1 hi2 6 (by decide) q315 rfl dX6_doneIn_23 ?_
    refine r_iconst (v := 3) dX6_doneIn_26 (by decide) ?_
    refine r_icmp_ne (tgt := 32) dX6_doneIn_27 (by decide) (fun c27 => ?_) (fun c27 => ?_)
    · refine r_aload_n dX6_doneIn_32 rfl ?_
      refine r_getF 1 (by decide) q18 rfl dX6_doneIn_33 ?_
      refine r_aload_n dX6_doneIn_36 rfl ?_
      refine r_getF 0 (by decide) q17 rfl dX6_doneIn_37 ?_
      refine r_cVv dX6_doneIn_40 (KC_from is2 (by omega) hoc hob) gX6_doneIn_40 dcX4_copyFrom rfl rfl rfl (Nat.le_of_ble_eq_true rfl) (ob_pl is2) ?_
      refine r_iconst (v := 1) dX6_doneIn_43 (by decide) ?_
      refine r_istore_n dX6_doneIn_44 (by decide) rfl ?_
      exact L i hi2 hi3 200 1 _ (by omega) (fc_okc hoc) (fc_oke ho) (fc_okh hh) ((show t_doneIn P (M 2) s = _ from (if_neg (nf_of c8)).trans (by rw [hi4]; exact if_neg c27)).symm)
    · refine r_iconst (v := 0) dX6_doneIn_30 (by decide) ?_
      first | exact r_ret rfl rfl dX6_doneIn_31 (a_a (show t_doneIn P (M 2) s = _ from (if_neg (nf_of c8)).trans (by rw [hi4]; exact if_pos c27))) (a_m (by omega) (show t_doneIn P (M 2) s = _ from (if_neg (nf_of c8)).trans (by rw [hi4]; exact if_pos c27)))
  · refine r_bipush (v := -11) dX6_doneIn_11 (by decide) ?_
    first | exact r_ret rfl rfl dX6_doneIn_13 (a_a (show t_doneIn P (M 2) s = _ from if_pos (bF c8))) (a_m (by omega) (show t_doneIn P (M 2) s = _ from if_pos (bF c8)))
theorem KT_pst2 {cA : Nat → ClassId} {ad : tA} {ex : va_W} {M : tM} {F P N : tP} {s j : Nat} (hj : j < 12) (hl : okl N) : Cj yX1_putStep cX1_putStep 4 none (rmd 2) 0 0 cA ad [.ref (ad 14 0), .int (nI s), .ref (ad 1 (4 + j))] ex (mm (m_pl M 14 N) F P) (Qe none ex (mm (m_pl M 14 (f_pst N s (P (4 + j)))) F P)) := by
  have h := K_pst (cA := cA) (ad := ad) (ex := ex) (M := mm (m_pl M 14 N) F P) (N0 := N) (s := s) is1 (by omega) hj hl
  rw [mm_1] at h
  exact cm2 (by omega) h
theorem okl_z {N : tP} : okl (pu N 0 1 0) := by
  have e : ll (pu N 0 1 0) = 0 := by rw [ll, pu_s]; rfl
  exact ⟨by rw [e, pu_s]; rfl, by rw [e]; omega⟩
def t_tell (P N : tP) (s : Int32) : Int32 × tP := if f_hasStep P s = false then (-11, N) else (f_pst (pu N 0 1 0) s.toNatClampNeg (P (4 + s.toNatClampNeg)) 0 1, f_pst (pu N 0 1 0) s.toNatClampNeg (P (4 + s.toNatClampNeg)))
def lp_ta (P : tP) : Nat → Nat → tP → tP
  | 0, _, N => N
  | n + 1, i, N => lp_ta P n (i + 1) (f_pl N (P (4 + i) 6))
def f_tellAll (P N : tP) : tP := lp_ta P (cn P) 0 (pu N 0 1 0)
def f_chr (N : tP) (x : Int32) : Int32 := if x < 0 ∨ N 0 1 ≤ x then -11 else N 1 x.toNatClampNeg
theorem okl_ta {P : tP} : ∀ (n i : Nat) (N : tP), okl N → okl (lp_ta P n i N) := by
  intro n
  induction n with
  | zero => intro i N h; exact h
  | succ n ih => intro i N h; exact ih _ _ (okl_pl h)
theorem dX6_tell_0 : decode cX6_tell 0 = .ok (.aload_n 0, 1) := by decide +kernel
theorem dX6_tell_1 : decode cX6_tell 1 = .ok (.getfield 12, 3) := by decide +kernel
theorem dX6_tell_4 : decode cX6_tell 4 = .ok (.iload_n 1, 1) := by decide +kernel
theorem dX6_tell_5 : decode cX6_tell 5 = .ok (.invokevirtual 77, 3) := by decide +kernel
theorem dX6_tell_8 : decode cX6_tell 8 = .ok (.ifCond .ne 6, 3) := by decide +kernel
theorem dX6_tell_11 : decode cX6_tell 11 = .ok (.bipush (-11), 2) := by decide +kernel
theorem dX6_tell_13 : decode cX6_tell 13 = .ok (.ireturn, 1) := by decide +kernel
theorem dX6_tell_14 : decode cX6_tell 14 = .ok (.aload_n 0, 1) := by decide +kernel
theorem dX6_tell_15 : decode cX6_tell 15 = .ok (.getfield 36, 3) := by decide +kernel
theorem dX6_tell_18 : decode cX6_tell 18 = .ok (.iconst 0, 1) := by decide +kernel
theorem dX6_tell_19 : decode cX6_tell 19 = .ok (.putfield 204, 3) := by decide +kernel
theorem dX6_tell_22 : decode cX6_tell 22 = .ok (.aload_n 0, 1) := by decide +kernel
theorem dX6_tell_23 : decode cX6_tell 23 = .ok (.getfield 36, 3) := by decide +kernel
theorem dX6_tell_26 : decode cX6_tell 26 = .ok (.iload_n 1, 1) := by decide +kernel
theorem dX6_tell_27 : decode cX6_tell 27 = .ok (.aload_n 0, 1) := by decide +kernel
theorem dX6_tell_28 : decode cX6_tell 28 = .ok (.getfield 12, 3) := by decide +kernel
theorem dX6_tell_31 : decode cX6_tell 31 = .ok (.getfield 81, 3) := by decide +kernel
theorem dX6_tell_34 : decode cX6_tell 34 = .ok (.iload_n 1, 1) := by decide +kernel
theorem dX6_tell_35 : decode cX6_tell 35 = .ok (.aaload, 1) := by decide +kernel
theorem dX6_tell_36 : decode cX6_tell 36 = .ok (.invokevirtual 205, 3) := by decide +kernel
theorem dX6_tell_39 : decode cX6_tell 39 = .ok (.aload_n 0, 1) := by decide +kernel
theorem dX6_tell_40 : decode cX6_tell 40 = .ok (.getfield 36, 3) := by decide +kernel
theorem dX6_tell_43 : decode cX6_tell 43 = .ok (.getfield 204, 3) := by decide +kernel
theorem dX6_tell_46 : decode cX6_tell 46 = .ok (.ireturn, 1) := by decide +kernel
theorem dcX6_tell : yX6_tell.cls = RX6 ∧ yX6_tell.cls ≠ "java/lang/invoke/MethodHandle" ∧ yX6_tell.cls ≠ "java/lang/invoke/VarHandle" ∧ (parseMethodDescriptor yX6_tell.desc).map (fun d => d.parameters.length) = some 1 := by decide +kernel
theorem gX6_tell_5 : GoodIn wsL_law (wsV RX6 77 RX4 yX4_hasStep (.code yX4_hasStep cX4_hasStep 2 (some .boolean) :: wsL_law)) := g_V q317 q318 q319 q16 q320
theorem gX6_tell_36 : GoodIn wsL_law (wsV RX6 205 RX1 yX1_putStep (.code yX1_putStep cX1_putStep 4 none :: wsL_law)) := g_V q562 q563 q564 q27 q565
set_option maxRecDepth 100000 in
set_option maxHeartbeats 4000000 in
theorem K_tell6 {cA : Nat → ClassId} {ad : tA} {ex : va_W} {M : tM} {F P : tP} {s : Int32} (hoc : okc P) : Cj yX6_tell cX6_tell 2 (some .int) (rmd 3) 0 0 cA ad [.ref (ad 0 0), .int s] ex (mm M F P) (Qe (some (.int (t_tell P (M 14) s).1)) ex (mm (m_pl M 14 (t_tell P (M 14) s).2) F P)) := by
  refine c_of_r (lv0 := [some (.ref (ad 0 0)), some (.int s)]) rfl (by decide +kernel) (Nat.le_of_ble_eq_true rfl) rfl ?_
  refine r_aload_n dX6_tell_0 rfl ?_
  refine r_getF 0 (by decide) q17 rfl dX6_tell_1 ?_
  refine r_iload_n dX6_tell_4 rfl ?_
  refine r_cVi dX6_tell_5 (K_hasStep is1) gX6_tell_5 dcX4_hasStep rfl rfl rfl (Nat.le_of_ble_eq_true rfl) (ob_pl is1) ?_
  refine r_if_ne (tgt := 14) dX6_tell_8 (by decide) (fun c8 => ?_) (fun c8 => ?_)
  · obtain ⟨i, hi1, hi2, hi3, hi4⟩ := hs_of hoc (bt c8)
    have e : t_tell P (M 14) s = (f_pst (pu (M 14) 0 1 0) i (P (4 + i)) 0 1, f_pst (pu (M 14) 0 1 0) i (P (4 + i))) := (if_neg (nf_of c8)).trans (by rw [hi4])
    refine r_aload_n dX6_tell_14 rfl ?_
    refine r_getF 8 (by decide) q28 rfl dX6_tell_15 ?_
    refine r_iconst (v := 0) dX6_tell_18 (by decide) ?_
    refine r_putm_ln 1 (by decide) q561 rfl rfl rfl rfl rfl dX6_tell_19 ?_
    refine r_aload_n dX6_tell_22 rfl ?_
    refine r_getF 8 (by decide) q28 rfl dX6_tell_23 ?_
    refine r_iload_n dX6_tell_26 rfl ?_
    refine r_aload_n dX6_tell_27 rfl ?_
    refine r_getF 0 (by decide) q17 rfl dX6_tell_28 ?_
    refine r_getp_pl is1 0 (by decide) q314 rfl dX6_tell_31 ?_
    refine r_iload_n dX6_tell_34 rfl ?_
    refine r_aldp_steps is1 hi3 hi2 dX6_tell_35 ?_
    refine r_cVv dX6_tell_36 ((hi3 ▸ KT_pst2 (s := i) hi2 okl_z)) gX6_tell_36 dcX1_putStep rfl rfl rfl (Nat.le_of_ble_eq_true rfl) ob_ln ?_
    refine r_aload_n dX6_tell_39 rfl ?_
    refine r_getF 8 (by decide) q28 rfl dX6_tell_40 ?_
    refine r_getm_ln 1 (by decide) q561 rfl dX6_tell_43 ?_
    exact r_ret rfl rfl dX6_tell_46 (by rw [e]; rfl) (by rw [e])
  · refine r_bipush (v := -11) dX6_tell_11 (by decide) ?_
    first | exact r_ret rfl rfl dX6_tell_13 (a_a (show t_tell P (M 14) s = _ from if_pos (bF c8))) (a_m (by omega) (show t_tell P (M 14) s = _ from if_pos (bF c8)))
theorem dX6_tellAll_0 : decode cX6_tellAll 0 = .ok (.aload_n 0, 1) := by decide +kernel
theorem dX6_tellAll_1 : decode cX6_tellAll 1 = .ok (.getfield 36, 3) := by decide +kernel
theorem dX6_tellAll_4 : decode cX6_tellAll 4 = .ok (.iconst 0, 1) := by decide +kernel
theorem dX6_tellAll_5 : decode cX6_tellAll 5 = .ok (.putfield 204, 3) := by decide +kernel
theorem dX6_tellAll_8 : decode cX6_tellAll 8 = .ok (.iconst 0, 1) := by decide +kernel
theorem dX6_tellAll_9 : decode cX6_tellAll 9 = .ok (.istore_n 1, 1) := by decide +kernel
theorem dX6_tellAll_10 : decode cX6_tellAll 10 = .ok (.iload_n 1, 1) := by decide +kernel
theorem dX6_tellAll_11 : decode cX6_tellAll 11 = .ok (.aload_n 0, 1) := by decide +kernel
theorem dX6_tellAll_12 : decode cX6_tellAll 12 = .ok (.getfield 12, 3) := by decide +kernel
theorem dX6_tellAll_15 : decode cX6_tellAll 15 = .ok (.getfield 170, 3) := by decide +kernel
theorem dX6_tellAll_18 : decode cX6_tellAll 18 = .ok (.if_icmp .ge 28, 3) := by decide +kernel
theorem dX6_tellAll_21 : decode cX6_tellAll 21 = .ok (.aload_n 0, 1) := by decide +kernel
theorem dX6_tellAll_22 : decode cX6_tellAll 22 = .ok (.getfield 36, 3) := by decide +kernel
theorem dX6_tellAll_25 : decode cX6_tellAll 25 = .ok (.aload_n 0, 1) := by decide +kernel
theorem dX6_tellAll_26 : decode cX6_tellAll 26 = .ok (.getfield 12, 3) := by decide +kernel
theorem dX6_tellAll_29 : decode cX6_tellAll 29 = .ok (.getfield 81, 3) := by decide +kernel
theorem dX6_tellAll_32 : decode cX6_tellAll 32 = .ok (.iload_n 1, 1) := by decide +kernel
theorem dX6_tellAll_33 : decode cX6_tellAll 33 = .ok (.aaload, 1) := by decide +kernel
theorem dX6_tellAll_34 : decode cX6_tellAll 34 = .ok (.getfield 101, 3) := by decide +kernel
theorem dX6_tellAll_37 : decode cX6_tellAll 37 = .ok (.invokevirtual 209, 3) := by decide +kernel
theorem dX6_tellAll_40 : decode cX6_tellAll 40 = .ok (.iinc 1 1, 3) := by decide +kernel
theorem dX6_tellAll_43 : decode cX6_tellAll 43 = .ok (.goto (-33), 3) := by decide +kernel
theorem dX6_tellAll_46 : decode cX6_tellAll 46 = .ok (.aload_n 0, 1) := by decide +kernel
theorem dX6_tellAll_47 : decode cX6_tellAll 47 = .ok (.getfield 36, 3) := by decide +kernel
theorem dX6_tellAll_50 : decode cX6_tellAll 50 = .ok (.getfield 204, 3) := by decide +kernel
theorem dX6_tellAll_53 : decode cX6_tellAll 53 = .ok (.ireturn, 1) := by decide +kernel
theorem dcX6_tellAll : yX6_tellAll.cls = RX6 ∧ yX6_tellAll.cls ≠ "java/lang/invoke/MethodHandle" ∧ yX6_tellAll.cls ≠ "java/lang/invoke/VarHandle" ∧ (parseMethodDescriptor yX6_tellAll.desc).map (fun d => d.parameters.length) = some 0 := by decide +kernel
theorem gX6_tellAll_37 : GoodIn wsL_law (wsV RX6 209 RX1 yX1_putLetterOf (.code yX1_putLetterOf cX1_putLetterOf 2 none :: wsL_law)) := g_V q606 q607 q608 q27 q609
set_option maxRecDepth 100000 in
set_option maxHeartbeats 4000000 in
theorem K_tellAll {cA : Nat → ClassId} {ad : tA} {ex : va_W} {M : tM} {F P : tP} (hoc : okc P) : Cj yX6_tellAll cX6_tellAll 2 (some .int) (rmd 5) 0 0 cA ad [.ref (ad 0 0)] ex (mm M F P) (Qe (some (.int (f_tellAll P (M 14) 0 1))) ex (mm (m_pl M 14 (f_tellAll P (M 14))) F P)) := by
  refine c_of_r (lv0 := [some (.ref (ad 0 0)), none]) rfl (by decide +kernel) (Nat.le_of_ble_eq_true rfl) rfl ?_
  have L : ∀ (n i : Nat) (N : tP), i + n = cn P → okl N → lp_ta P n i N = f_tellAll P (M 14) → Rj cX6_tellAll RX6 2 (some .int) (rmd 5) 0 0 cA ad (Qe (some (.int (f_tellAll P (M 14) 0 1))) ex (mm (m_pl M 14 (f_tellAll P (M 14))) F P)) ex 0 0 10 [some (.ref (ad 0 0)), some (.int (nI i))] [] (mm (m_pl M 14 N) F P) := by
    intro n
    induction n with
    | zero =>
      intro i N h hl hN
      refine r_iload_n dX6_tellAll_10 rfl ?_
      refine r_aload_n dX6_tellAll_11 rfl ?_
      refine r_getF 0 (by decide) q17 rfl dX6_tellAll_12 ?_
      refine r_getp_pl is1 1 (by decide) q153 rfl dX6_tellAll_15 ?_
      refine r_icmp_ge (tgt := 46) dX6_tellAll_18 (by decide) (fun c18 => ?_) (fun c18 => absurd (lp_z hoc.1 h) c18)
      refine r_aload_n dX6_tellAll_46 rfl ?_
      refine r_getF 8 (by decide) q28 rfl dX6_tellAll_47 ?_
      refine r_getm_ln 1 (by decide) q561 rfl dX6_tellAll_50 ?_
      exact r_ret rfl rfl dX6_tellAll_53 (by rw [← hN]; rfl) (by rw [← hN]; rfl)
    | succ n ih =>
      intro i N h hl hN
      have hi : i < 12 := by have := hoc.2; omega
      refine r_iload_n dX6_tellAll_10 rfl ?_
      refine r_aload_n dX6_tellAll_11 rfl ?_
      refine r_getF 0 (by decide) q17 rfl dX6_tellAll_12 ?_
      refine r_getp_pl is1 1 (by decide) q153 rfl dX6_tellAll_15 ?_
      refine r_icmp_ge (tgt := 46) dX6_tellAll_18 (by decide) (fun c18 => absurd c18 (lp_s hoc.1 hoc.2 h)) (fun c18 => ?_)
      refine r_aload_n dX6_tellAll_21 rfl ?_
      refine r_getF 8 (by decide) q28 rfl dX6_tellAll_22 ?_
      refine r_aload_n dX6_tellAll_25 rfl ?_
      refine r_getF 0 (by decide) q17 rfl dX6_tellAll_26 ?_
      refine r_getp_pl is1 0 (by decide) q314 rfl dX6_tellAll_29 ?_
      refine r_iload_n dX6_tellAll_32 rfl ?_
      refine r_aldp_steps is1 rfl hi dX6_tellAll_33 ?_
      refine r_getp_st is1 hi 6 (by decide) q315 rfl dX6_tellAll_34 ?_
      refine r_cVv dX6_tellAll_37 (cm2 (by omega) (K_pl hl)) gX6_tellAll_37 dcX1_putLetterOf rfl rfl rfl (Nat.le_of_ble_eq_true rfl) ob_ln ?_
      refine r_iinc dX6_tellAll_40 rfl ii_s (by decide) rfl ?_
      refine r_goto (tgt := 10) dX6_tellAll_43 (by decide) ?_
      exact ih (i + 1) _ (by omega) (okl_pl hl) hN
  refine r_aload_n dX6_tellAll_0 rfl ?_
  refine r_getF 8 (by decide) q28 rfl dX6_tellAll_1 ?_
  refine r_iconst (v := 0) dX6_tellAll_4 (by decide) ?_
  refine r_putm_ln 1 (by decide) q561 rfl rfl rfl rfl rfl dX6_tellAll_5 ?_
  refine r_iconst (v := 0) dX6_tellAll_8 (by decide) ?_
  refine r_istore_n dX6_tellAll_9 (by decide) rfl ?_
  exact L (cn P) 0 _ (by omega) okl_z rfl
theorem dX6_character_0 : decode cX6_character 0 = .ok (.iload_n 1, 1) := by decide +kernel
theorem dX6_character_1 : decode cX6_character 1 = .ok (.ifCond .lt 14, 3) := by decide +kernel
theorem dX6_character_4 : decode cX6_character 4 = .ok (.iload_n 1, 1) := by decide +kernel
theorem dX6_character_5 : decode cX6_character 5 = .ok (.aload_n 0, 1) := by decide +kernel
theorem dX6_character_6 : decode cX6_character 6 = .ok (.getfield 36, 3) := by decide +kernel
theorem dX6_character_9 : decode cX6_character 9 = .ok (.getfield 204, 3) := by decide +kernel
theorem dX6_character_12 : decode cX6_character 12 = .ok (.if_icmp .lt 6, 3) := by decide +kernel
theorem dX6_character_15 : decode cX6_character 15 = .ok (.bipush (-11), 2) := by decide +kernel
theorem dX6_character_17 : decode cX6_character 17 = .ok (.ireturn, 1) := by decide +kernel
theorem dX6_character_18 : decode cX6_character 18 = .ok (.aload_n 0, 1) := by decide +kernel
theorem dX6_character_19 : decode cX6_character 19 = .ok (.getfield 36, 3) := by decide +kernel
theorem dX6_character_22 : decode cX6_character 22 = .ok (.getfield 213, 3) := by decide +kernel
theorem dX6_character_25 : decode cX6_character 25 = .ok (.iload_n 1, 1) := by decide +kernel
theorem dX6_character_26 : decode cX6_character 26 = .ok (.caload, 1) := by decide +kernel
theorem dX6_character_27 : decode cX6_character 27 = .ok (.ireturn, 1) := by decide +kernel
theorem dcX6_character : yX6_character.cls = RX6 ∧ yX6_character.cls ≠ "java/lang/invoke/MethodHandle" ∧ yX6_character.cls ≠ "java/lang/invoke/VarHandle" ∧ (parseMethodDescriptor yX6_character.desc).map (fun d => d.parameters.length) = some 1 := by decide +kernel
set_option maxRecDepth 100000 in
set_option maxHeartbeats 4000000 in
theorem K_char {cA : Nat → ClassId} {ad : tA} {ex : va_W} {M : tM} {F P : tP} {x : Int32} (hl : okl (M 14)) : Cj yX6_character cX6_character 2 (some .int) (rmd 0) 0 0 cA ad [.ref (ad 0 0), .int x] ex (mm M F P) (Qe (some (.int (f_chr (M 14) x))) ex (mm M F P)) := by
  refine c_of_r (lv0 := [some (.ref (ad 0 0)), some (.int x)]) rfl (by decide +kernel) (Nat.le_of_ble_eq_true rfl) rfl ?_
  refine r_iload_n dX6_character_0 rfl ?_
  refine r_if_lt (tgt := 15) dX6_character_1 (by decide) (fun c1 => ?_) (fun c1 => ?_)
  · refine r_bipush (v := -11) dX6_character_15 (by decide) ?_
    first | exact r_ret rfl rfl dX6_character_17 (show _ = f_chr (M 14) x from (if_pos (Or.inl c1)).symm) rfl | exact r_ret rfl rfl dX6_character_17 (show _ = f_chr (M 14) x from (if_pos (Or.inr (Int32.not_lt.mp c12))).symm) rfl
  · refine r_iload_n dX6_character_4 rfl ?_
    refine r_aload_n dX6_character_5 rfl ?_
    refine r_getF 8 (by decide) q28 rfl dX6_character_6 ?_
    refine r_getm_ln 1 (by decide) q561 rfl dX6_character_9 ?_
    refine r_icmp_lt (tgt := 18) dX6_character_12 (by decide) (fun c12 => ?_) (fun c12 => ?_)
    · obtain ⟨k, hk1, hk3, hk4⟩ := pos_of hl.1 (by have := hl.2; omega) c1 c12
      have hk : k < 64 := by have := hl.2; omega
      have e : f_chr (M 14) x = M 14 1 k := (if_neg (n2 c1 (Int32.not_le.mpr c12))).trans (by rw [hk4])
      refine r_aload_n dX6_character_18 rfl ?_
      refine r_getF 8 (by decide) q28 rfl dX6_character_19 ?_
      refine r_getm_ln 0 (by decide) q584 rfl dX6_character_22 ?_
      refine r_iload_n dX6_character_25 rfl ?_
      refine r_ldm_ls hk3 hk rfl dX6_character_26 ?_
      exact r_ret rfl rfl dX6_character_27 e.symm rfl
    · refine r_bipush (v := -11) dX6_character_15 (by decide) ?_
      first | exact r_ret rfl rfl dX6_character_17 (show _ = f_chr (M 14) x from (if_pos (Or.inl c1)).symm) rfl | exact r_ret rfl rfl dX6_character_17 (show _ = f_chr (M 14) x from (if_pos (Or.inr (Int32.not_lt.mp c12))).symm) rfl
def f_ac2 (T F P : tP) (x : Int32) : Int32 := if x = 0 then P 0 7 else if x = 1 then P 0 1 else if x = 10 then P 0 8 else if x = 11 then P 0 3 else if x = 12 then P 0 9 else if x = 13 then P 0 10 else if x = 14 then P 0 11 else if x = 15 then P 0 12 else if x = 16 then P 0 13 else if x = 17 then T 0 1 else if x = 18 then F 0 6 else -12
def f_acc (T F P : tP) (x : Int32) : Int32 := if x < 2 ∨ 9 < x then f_ac2 T F P x else f_countOf P (x - 2)
theorem ac_no {T F P : tP} {x : Int32} (h : x ≠ 0 ∧ x ≠ 1 ∧ x ≠ 10 ∧ x ≠ 11 ∧ x ≠ 12 ∧ x ≠ 13 ∧ x ≠ 14 ∧ x ≠ 15 ∧ x ≠ 16 ∧ x ≠ 17 ∧ x ≠ 18) : f_ac2 T F P x = -12 := by
  obtain ⟨h0, h1, h10, h11, h12, h13, h14, h15, h16, h17, h18⟩ := h
  unfold f_ac2
  rw [if_neg h0, if_neg h1, if_neg h10, if_neg h11, if_neg h12, if_neg h13, if_neg h14, if_neg h15, if_neg h16, if_neg h17, if_neg h18]
theorem neac_lo {x : Int32} (h : x.toInt < 0) : x ≠ 0 ∧ x ≠ 1 ∧ x ≠ 10 ∧ x ≠ 11 ∧ x ≠ 12 ∧ x ≠ 13 ∧ x ≠ 14 ∧ x ≠ 15 ∧ x ≠ 16 ∧ x ≠ 17 ∧ x ≠ 18 := by
  refine ⟨?_, ?_, ?_, ?_, ?_, ?_, ?_, ?_, ?_, ?_, ?_⟩ <;> (intro e; rw [e] at h; revert h; decide)
theorem neac_hi {x : Int32} (h : 18 < x.toInt) : x ≠ 0 ∧ x ≠ 1 ∧ x ≠ 10 ∧ x ≠ 11 ∧ x ≠ 12 ∧ x ≠ 13 ∧ x ≠ 14 ∧ x ≠ 15 ∧ x ≠ 16 ∧ x ≠ 17 ∧ x ≠ 18 := by
  refine ⟨?_, ?_, ?_, ?_, ?_, ?_, ?_, ?_, ?_, ?_, ?_⟩ <;> (intro e; rw [e] at h; revert h; decide)
theorem dX6_account_0 : decode cX6_account 0 = .ok (.iload_n 1, 1) := by decide +kernel
theorem dX6_account_1 : decode cX6_account 1 = .ok (.iconst 2, 1) := by decide +kernel
theorem dX6_account_2 : decode cX6_account 2 = .ok (.if_icmp .lt 20, 3) := by decide +kernel
theorem dX6_account_5 : decode cX6_account 5 = .ok (.iload_n 1, 1) := by decide +kernel
theorem dX6_account_6 : decode cX6_account 6 = .ok (.bipush 9, 2) := by decide +kernel
theorem dX6_account_8 : decode cX6_account 8 = .ok (.if_icmp .gt 14, 3) := by decide +kernel
theorem dX6_account_11 : decode cX6_account 11 = .ok (.aload_n 0, 1) := by decide +kernel
theorem dX6_account_12 : decode cX6_account 12 = .ok (.getfield 12, 3) := by decide +kernel
theorem dX6_account_15 : decode cX6_account 15 = .ok (.iload_n 1, 1) := by decide +kernel
theorem dX6_account_16 : decode cX6_account 16 = .ok (.iconst 2, 1) := by decide +kernel
theorem dX6_account_17 : decode cX6_account 17 = .ok (.isub, 1) := by decide +kernel
theorem dX6_account_18 : decode cX6_account 18 = .ok (.invokevirtual 146, 3) := by decide +kernel
theorem dX6_account_21 : decode cX6_account 21 = .ok (.ireturn, 1) := by decide +kernel
theorem dX6_account_22 : decode cX6_account 22 = .ok (.iload_n 1, 1) := by decide +kernel
theorem dX6_account_23 : decode cX6_account 23 = .ok (.tableswitch 174 0 18 #[89, 97, 174, 174, 174, 174, 174, 174, 174, 174, 105, 113, 121, 129, 137, 145, 153, 161, 169], 89) := by decide +kernel
theorem dX6_account_112 : decode cX6_account 112 = .ok (.aload_n 0, 1) := by decide +kernel
theorem dX6_account_113 : decode cX6_account 113 = .ok (.getfield 12, 3) := by decide +kernel
theorem dX6_account_116 : decode cX6_account 116 = .ok (.getfield 226, 3) := by decide +kernel
theorem dX6_account_119 : decode cX6_account 119 = .ok (.ireturn, 1) := by decide +kernel
theorem dX6_account_120 : decode cX6_account 120 = .ok (.aload_n 0, 1) := by decide +kernel
theorem dX6_account_121 : decode cX6_account 121 = .ok (.getfield 12, 3) := by decide +kernel
theorem dX6_account_124 : decode cX6_account 124 = .ok (.getfield 170, 3) := by decide +kernel
theorem dX6_account_127 : decode cX6_account 127 = .ok (.ireturn, 1) := by decide +kernel
theorem dX6_account_128 : decode cX6_account 128 = .ok (.aload_n 0, 1) := by decide +kernel
theorem dX6_account_129 : decode cX6_account 129 = .ok (.getfield 12, 3) := by decide +kernel
theorem dX6_account_132 : decode cX6_account 132 = .ok (.getfield 229, 3) := by decide +kernel
theorem dX6_account_135 : decode cX6_account 135 = .ok (.ireturn, 1) := by decide +kernel
theorem dX6_account_136 : decode cX6_account 136 = .ok (.aload_n 0, 1) := by decide +kernel
theorem dX6_account_137 : decode cX6_account 137 = .ok (.getfield 12, 3) := by decide +kernel
theorem dX6_account_140 : decode cX6_account 140 = .ok (.getfield 126, 3) := by decide +kernel
theorem dX6_account_143 : decode cX6_account 143 = .ok (.ireturn, 1) := by decide +kernel
theorem dX6_account_144 : decode cX6_account 144 = .ok (.aload_n 0, 1) := by decide +kernel
theorem dX6_account_145 : decode cX6_account 145 = .ok (.getfield 12, 3) := by decide +kernel
theorem dX6_account_148 : decode cX6_account 148 = .ok (.getfield 232, 3) := by decide +kernel
theorem dX6_account_151 : decode cX6_account 151 = .ok (.ireturn, 1) := by decide +kernel
theorem dX6_account_152 : decode cX6_account 152 = .ok (.aload_n 0, 1) := by decide +kernel
theorem dX6_account_153 : decode cX6_account 153 = .ok (.getfield 12, 3) := by decide +kernel
theorem dX6_account_156 : decode cX6_account 156 = .ok (.getfield 235, 3) := by decide +kernel
theorem dX6_account_159 : decode cX6_account 159 = .ok (.ireturn, 1) := by decide +kernel
theorem dX6_account_160 : decode cX6_account 160 = .ok (.aload_n 0, 1) := by decide +kernel
theorem dX6_account_161 : decode cX6_account 161 = .ok (.getfield 12, 3) := by decide +kernel
theorem dX6_account_164 : decode cX6_account 164 = .ok (.getfield 238, 3) := by decide +kernel
theorem dX6_account_167 : decode cX6_account 167 = .ok (.ireturn, 1) := by decide +kernel
theorem dX6_account_168 : decode cX6_account 168 = .ok (.aload_n 0, 1) := by decide +kernel
theorem dX6_account_169 : decode cX6_account 169 = .ok (.getfield 12, 3) := by decide +kernel
theorem dX6_account_172 : decode cX6_account 172 = .ok (.getfield 241, 3) := by decide +kernel
theorem dX6_account_175 : decode cX6_account 175 = .ok (.ireturn, 1) := by decide +kernel
theorem dX6_account_176 : decode cX6_account 176 = .ok (.aload_n 0, 1) := by decide +kernel
theorem dX6_account_177 : decode cX6_account 177 = .ok (.getfield 12, 3) := by decide +kernel
theorem dX6_account_180 : decode cX6_account 180 = .ok (.getfield 244, 3) := by decide +kernel
theorem dX6_account_183 : decode cX6_account 183 = .ok (.ireturn, 1) := by decide +kernel
theorem dX6_account_184 : decode cX6_account 184 = .ok (.aload_n 0, 1) := by decide +kernel
theorem dX6_account_185 : decode cX6_account 185 = .ok (.getfield 29, 3) := by decide +kernel
theorem dX6_account_188 : decode cX6_account 188 = .ok (.getfield 176, 3) := by decide +kernel
theorem dX6_account_191 : decode cX6_account 191 = .ok (.ireturn, 1) := by decide +kernel
theorem dX6_account_192 : decode cX6_account 192 = .ok (.aload_n 0, 1) := by decide +kernel
theorem dX6_account_193 : decode cX6_account 193 = .ok (.getfield 247, 3) := by decide +kernel
theorem dX6_account_196 : decode cX6_account 196 = .ok (.ireturn, 1) := by decide +kernel
theorem dX6_account_197 : decode cX6_account 197 = .ok (.bipush (-12), 2) := by decide +kernel
theorem dX6_account_199 : decode cX6_account 199 = .ok (.ireturn, 1) := by decide +kernel
theorem dcX6_account : yX6_account.cls = RX6 ∧ yX6_account.cls ≠ "java/lang/invoke/MethodHandle" ∧ yX6_account.cls ≠ "java/lang/invoke/VarHandle" ∧ (parseMethodDescriptor yX6_account.desc).map (fun d => d.parameters.length) = some 1 := by decide +kernel
theorem gX6_account_18 : GoodIn wsL_law (wsV RX6 146 RX4 yX4_countOf (.code yX4_countOf cX4_countOf 2 (some .int) :: wsL_law)) := g_V q160 q161 q162 q16 q163
set_option maxRecDepth 100000 in
set_option maxHeartbeats 4000000 in
theorem K_acc {cA : Nat → ClassId} {ad : tA} {ex : va_W} {M : tM} {F P : tP} {x : Int32} (hoc : okc P) : Cj yX6_account cX6_account 2 (some .int) (rmd 2) 0 0 cA ad [.ref (ad 0 0), .int x] ex (mm M F P) (Qe (some (.int (f_acc (M 13) F P x))) ex (mm M F P)) := by
  refine c_of_r (lv0 := [some (.ref (ad 0 0)), some (.int x)]) rfl (by decide +kernel) (Nat.le_of_ble_eq_true rfl) rfl ?_
  by_cases hx : x < 2 ∨ 9 < x
  · rw [show f_acc (M 13) F P x = f_ac2 (M 13) F P x from if_pos hx]
    have L : Rj cX6_account RX6 2 (some .int) (rmd 2) 0 0 cA ad (Qe (some (.int (f_ac2 (M 13) F P x))) ex (mm M F P)) ex 0 0 22 [some (.ref (ad 0 0)), some (.int x)] [] (mm M F P) := by
      refine r_iload_n dX6_account_22 rfl ?_
      rcases sw19 (x) with h | h | h | h | h | h | h | h | h | h | h | h | h | h | h | h | h | h | h | h | h
      · refine r_tableOut (tgt := 197) dX6_account_23 (Or.inl h) (by decide) ?_
        refine r_bipush (v := -12) dX6_account_197 (by decide) ?_
        first | exact r_ret rfl rfl dX6_account_199 (show _ = f_ac2 (M 13) F P x from (ac_no (neac_lo h)).symm) rfl
      · refine r_tableOut (tgt := 197) dX6_account_23 (Or.inr h) (by decide) ?_
        refine r_bipush (v := -12) dX6_account_197 (by decide) ?_
        first | exact r_ret rfl rfl dX6_account_199 (show _ = f_ac2 (M 13) F P x from (ac_no (neac_hi h)).symm) rfl
      · subst h
        refine r_tableIn (off := 89) (tgt := 112) dX6_account_23 (by decide) (by decide) (by decide) (by decide) ?_
        refine r_aload_n dX6_account_112 rfl ?_
        refine r_getF 0 (by decide) q17 rfl dX6_account_113 ?_
        refine r_getp_pl is1 7 (by decide) q114 rfl dX6_account_116 ?_
        first | exact r_ret rfl rfl dX6_account_119 (show _ = f_ac2 (M 13) F P 0 from (if_pos rfl).symm) rfl
      · subst h
        refine r_tableIn (off := 97) (tgt := 120) dX6_account_23 (by decide) (by decide) (by decide) (by decide) ?_
        refine r_aload_n dX6_account_120 rfl ?_
        refine r_getF 0 (by decide) q17 rfl dX6_account_121 ?_
        refine r_getp_pl is1 1 (by decide) q153 rfl dX6_account_124 ?_
        first | exact r_ret rfl rfl dX6_account_127 (show _ = f_ac2 (M 13) F P 1 from ((if_neg (by decide)).trans (if_pos rfl)).symm) rfl
      · subst h
        refine r_tableIn (off := 174) (tgt := 197) dX6_account_23 (by decide) (by decide) (by decide) (by decide) ?_
        refine r_bipush (v := -12) dX6_account_197 (by decide) ?_
        first | exact r_ret rfl rfl dX6_account_199 (show _ = f_ac2 (M 13) F P 2 from (ac_no (by decide)).symm) rfl
      · subst h
        refine r_tableIn (off := 174) (tgt := 197) dX6_account_23 (by decide) (by decide) (by decide) (by decide) ?_
        refine r_bipush (v := -12) dX6_account_197 (by decide) ?_
        first | exact r_ret rfl rfl dX6_account_199 (show _ = f_ac2 (M 13) F P 3 from (ac_no (by decide)).symm) rfl
      · subst h
        refine r_tableIn (off := 174) (tgt := 197) dX6_account_23 (by decide) (by decide) (by decide) (by decide) ?_
        refine r_bipush (v := -12) dX6_account_197 (by decide) ?_
        first | exact r_ret rfl rfl dX6_account_199 (show _ = f_ac2 (M 13) F P 4 from (ac_no (by decide)).symm) rfl
      · subst h
        refine r_tableIn (off := 174) (tgt := 197) dX6_account_23 (by decide) (by decide) (by decide) (by decide) ?_
        refine r_bipush (v := -12) dX6_account_197 (by decide) ?_
        first | exact r_ret rfl rfl dX6_account_199 (show _ = f_ac2 (M 13) F P 5 from (ac_no (by decide)).symm) rfl
      · subst h
        refine r_tableIn (off := 174) (tgt := 197) dX6_account_23 (by decide) (by decide) (by decide) (by decide) ?_
        refine r_bipush (v := -12) dX6_account_197 (by decide) ?_
        first | exact r_ret rfl rfl dX6_account_199 (show _ = f_ac2 (M 13) F P 6 from (ac_no (by decide)).symm) rfl
      · subst h
        refine r_tableIn (off := 174) (tgt := 197) dX6_account_23 (by decide) (by decide) (by decide) (by decide) ?_
        refine r_bipush (v := -12) dX6_account_197 (by decide) ?_
        first | exact r_ret rfl rfl dX6_account_199 (show _ = f_ac2 (M 13) F P 7 from (ac_no (by decide)).symm) rfl
      · subst h
        refine r_tableIn (off := 174) (tgt := 197) dX6_account_23 (by decide) (by decide) (by decide) (by decide) ?_
        refine r_bipush (v := -12) dX6_account_197 (by decide) ?_
        first | exact r_ret rfl rfl dX6_account_199 (show _ = f_ac2 (M 13) F P 8 from (ac_no (by decide)).symm) rfl
      · subst h
        refine r_tableIn (off := 174) (tgt := 197) dX6_account_23 (by decide) (by decide) (by decide) (by decide) ?_
        refine r_bipush (v := -12) dX6_account_197 (by decide) ?_
        first | exact r_ret rfl rfl dX6_account_199 (show _ = f_ac2 (M 13) F P 9 from (ac_no (by decide)).symm) rfl
      · subst h
        refine r_tableIn (off := 105) (tgt := 128) dX6_account_23 (by decide) (by decide) (by decide) (by decide) ?_
        refine r_aload_n dX6_account_128 rfl ?_
        refine r_getF 0 (by decide) q17 rfl dX6_account_129 ?_
        refine r_getp_pl is1 8 (by decide) q131 rfl dX6_account_132 ?_
        first | exact r_ret rfl rfl dX6_account_135 (show _ = f_ac2 (M 13) F P 10 from ((if_neg (by decide)).trans ((if_neg (by decide)).trans (if_pos rfl))).symm) rfl
      · subst h
        refine r_tableIn (off := 113) (tgt := 136) dX6_account_23 (by decide) (by decide) (by decide) (by decide) ?_
        refine r_aload_n dX6_account_136 rfl ?_
        refine r_getF 0 (by decide) q17 rfl dX6_account_137 ?_
        refine r_getp_pl is1 3 (by decide) q154 rfl dX6_account_140 ?_
        first | exact r_ret rfl rfl dX6_account_143 (show _ = f_ac2 (M 13) F P 11 from ((if_neg (by decide)).trans ((if_neg (by decide)).trans ((if_neg (by decide)).trans (if_pos rfl)))).symm) rfl
      · subst h
        refine r_tableIn (off := 121) (tgt := 144) dX6_account_23 (by decide) (by decide) (by decide) (by decide) ?_
        refine r_aload_n dX6_account_144 rfl ?_
        refine r_getF 0 (by decide) q17 rfl dX6_account_145 ?_
        refine r_getp_pl is1 9 (by decide) q155 rfl dX6_account_148 ?_
        first | exact r_ret rfl rfl dX6_account_151 (show _ = f_ac2 (M 13) F P 12 from ((if_neg (by decide)).trans ((if_neg (by decide)).trans ((if_neg (by decide)).trans ((if_neg (by decide)).trans (if_pos rfl))))).symm) rfl
      · subst h
        refine r_tableIn (off := 129) (tgt := 152) dX6_account_23 (by decide) (by decide) (by decide) (by decide) ?_
        refine r_aload_n dX6_account_152 rfl ?_
        refine r_getF 0 (by decide) q17 rfl dX6_account_153 ?_
        refine r_getp_pl is1 10 (by decide) q156 rfl dX6_account_156 ?_
        first | exact r_ret rfl rfl dX6_account_159 (show _ = f_ac2 (M 13) F P 13 from ((if_neg (by decide)).trans ((if_neg (by decide)).trans ((if_neg (by decide)).trans ((if_neg (by decide)).trans ((if_neg (by decide)).trans (if_pos rfl)))))).symm) rfl
      · subst h
        refine r_tableIn (off := 137) (tgt := 160) dX6_account_23 (by decide) (by decide) (by decide) (by decide) ?_
        refine r_aload_n dX6_account_160 rfl ?_
        refine r_getF 0 (by decide) q17 rfl dX6_account_161 ?_
        refine r_getp_pl is1 11 (by decide) q157 rfl dX6_account_164 ?_
        first | exact r_ret rfl rfl dX6_account_167 (show _ = f_ac2 (M 13) F P 14 from ((if_neg (by decide)).trans ((if_neg (by decide)).trans ((if_neg (by decide)).trans ((if_neg (by decide)).trans ((if_neg (by decide)).trans ((if_neg (by decide)).trans (if_pos rfl))))))).symm) rfl
      · subst h
        refine r_tableIn (off := 145) (tgt := 168) dX6_account_23 (by decide) (by decide) (by decide) (by decide) ?_
        refine r_aload_n dX6_account_168 rfl ?_
        refine r_getF 0 (by decide) q17 rfl dX6_account_169 ?_
        refine r_getp_pl is1 12 (by decide) q158 rfl dX6_account_172 ?_
        first | exact r_ret rfl rfl dX6_account_175 (show _ = f_ac2 (M 13) F P 15 from ((if_neg (by decide)).trans ((if_neg (by decide)).trans ((if_neg (by decide)).trans ((if_neg (by decide)).trans ((if_neg (by decide)).trans ((if_neg (by decide)).trans ((if_neg (by decide)).trans (if_pos rfl)))))))).symm) rfl
      · subst h
        refine r_tableIn (off := 153) (tgt := 176) dX6_account_23 (by decide) (by decide) (by decide) (by decide) ?_
        refine r_aload_n dX6_account_176 rfl ?_
        refine r_getF 0 (by decide) q17 rfl dX6_account_177 ?_
        refine r_getp_pl is1 13 (by decide) q159 rfl dX6_account_180 ?_
        first | exact r_ret rfl rfl dX6_account_183 (show _ = f_ac2 (M 13) F P 16 from ((if_neg (by decide)).trans ((if_neg (by decide)).trans ((if_neg (by decide)).trans ((if_neg (by decide)).trans ((if_neg (by decide)).trans ((if_neg (by decide)).trans ((if_neg (by decide)).trans ((if_neg (by decide)).trans (if_pos rfl))))))))).symm) rfl
      · subst h
        refine r_tableIn (off := 161) (tgt := 184) dX6_account_23 (by decide) (by decide) (by decide) (by decide) ?_
        refine r_aload_n dX6_account_184 rfl ?_
        refine r_getF 7 (by decide) q24 rfl dX6_account_185 ?_
        refine r_getm_ot 1 (by decide) q143 rfl dX6_account_188 ?_
        first | exact r_ret rfl rfl dX6_account_191 (show _ = f_ac2 (M 13) F P 17 from ((if_neg (by decide)).trans ((if_neg (by decide)).trans ((if_neg (by decide)).trans ((if_neg (by decide)).trans ((if_neg (by decide)).trans ((if_neg (by decide)).trans ((if_neg (by decide)).trans ((if_neg (by decide)).trans ((if_neg (by decide)).trans (if_pos rfl)))))))))).symm) rfl
      · subst h
        refine r_tableIn (off := 169) (tgt := 192) dX6_account_23 (by decide) (by decide) (by decide) (by decide) ?_
        refine r_aload_n dX6_account_192 rfl ?_
        refine r_getF 6 (by decide) q74 rfl dX6_account_193 ?_
        first | exact r_ret rfl rfl dX6_account_196 (show _ = f_ac2 (M 13) F P 18 from ((if_neg (by decide)).trans ((if_neg (by decide)).trans ((if_neg (by decide)).trans ((if_neg (by decide)).trans ((if_neg (by decide)).trans ((if_neg (by decide)).trans ((if_neg (by decide)).trans ((if_neg (by decide)).trans ((if_neg (by decide)).trans ((if_neg (by decide)).trans (if_pos rfl))))))))))).symm) rfl
    refine r_iload_n dX6_account_0 rfl ?_
    refine r_iconst (v := 2) dX6_account_1 (by decide) ?_
    refine r_icmp_lt (tgt := 22) dX6_account_2 (by decide) (fun c2 => ?_) (fun c2 => ?_)
    · exact L
    · refine r_iload_n dX6_account_5 rfl ?_
      refine r_bipush (v := 9) dX6_account_6 (by decide) ?_
      refine r_icmp_gt (tgt := 22) dX6_account_8 (by decide) (fun c8 => ?_) (fun c8 => ?_)
      · exact L
      · refine r_aload_n dX6_account_11 rfl ?_
        refine r_getF 0 (by decide) q17 rfl dX6_account_12 ?_
        refine r_iload_n dX6_account_15 rfl ?_
        refine r_iconst (v := 2) dX6_account_16 (by decide) ?_
        refine r_isub dX6_account_17 ?_
        refine r_cVi dX6_account_18 (K_countOf is1 hoc.1 hoc.2) gX6_account_18 dcX4_countOf rfl rfl rfl (Nat.le_of_ble_eq_true rfl) (ob_pl is1) ?_
        exact absurd hx (n2 (Int32.not_lt.mpr (Int32.not_lt.mp c2)) (Int32.not_lt.mpr (Int32.not_lt.mp c8)))
  · refine r_iload_n dX6_account_0 rfl ?_
    refine r_iconst (v := 2) dX6_account_1 (by decide) ?_
    refine r_icmp_lt (tgt := 22) dX6_account_2 (by decide) (fun c2 => ?_) (fun c2 => ?_)
    · exact absurd (by first | exact Or.inl c2 | exact Or.inr c8) hx
    · refine r_iload_n dX6_account_5 rfl ?_
      refine r_bipush (v := 9) dX6_account_6 (by decide) ?_
      refine r_icmp_gt (tgt := 22) dX6_account_8 (by decide) (fun c8 => ?_) (fun c8 => ?_)
      · exact absurd (by first | exact Or.inl c2 | exact Or.inr c8) hx
      · refine r_aload_n dX6_account_11 rfl ?_
        refine r_getF 0 (by decide) q17 rfl dX6_account_12 ?_
        refine r_iload_n dX6_account_15 rfl ?_
        refine r_iconst (v := 2) dX6_account_16 (by decide) ?_
        refine r_isub dX6_account_17 ?_
        refine r_cVi dX6_account_18 (K_countOf is1 hoc.1 hoc.2) gX6_account_18 dcX4_countOf rfl rfl rfl (Nat.le_of_ble_eq_true rfl) (ob_pl is1) ?_
        first | exact r_ret rfl rfl dX6_account_21 (show _ = f_acc (M 13) F P x from (if_neg hx).symm) rfl
def lp_bal (C : tP) : Nat → Nat → Int32
  | 0, _ => 1
  | n + 1, i => if C 1 i = C 2 i then lp_bal C n (i + 1) else 0
def f_wd (P : tP) : Int32 := f_countOf P 3 + f_countOf P 4 + f_countOf P 5
def t_bal (P C : tP) : Int32 × tP := if ¬ P 0 12 = f_wd P ∨ ¬ f_countOf P 1 ≤ 4 then (0, C) else (lp_bal (f_mr P (f_mn P C)) (cn P) 0, f_mr P (f_mn P C))
theorem bal_a {C : tP} {n i : Nat} (h : C 1 i = C 2 i) : lp_bal C (n + 1) i = lp_bal C n (i + 1) := if_pos h
theorem bal_b {C : tP} {n i : Nat} (h : ¬ C 1 i = C 2 i) : lp_bal C (n + 1) i = 0 := if_neg h
theorem dX6_isBalanced_0 : decode cX6_isBalanced 0 = .ok (.aload_n 0, 1) := by decide +kernel
theorem dX6_isBalanced_1 : decode cX6_isBalanced 1 = .ok (.getfield 12, 3) := by decide +kernel
theorem dX6_isBalanced_4 : decode cX6_isBalanced 4 = .ok (.iconst 3, 1) := by decide +kernel
theorem dX6_isBalanced_5 : decode cX6_isBalanced 5 = .ok (.invokevirtual 146, 3) := by decide +kernel
theorem dX6_isBalanced_8 : decode cX6_isBalanced 8 = .ok (.aload_n 0, 1) := by decide +kernel
theorem dX6_isBalanced_9 : decode cX6_isBalanced 9 = .ok (.getfield 12, 3) := by decide +kernel
theorem dX6_isBalanced_12 : decode cX6_isBalanced 12 = .ok (.iconst 4, 1) := by decide +kernel
theorem dX6_isBalanced_13 : decode cX6_isBalanced 13 = .ok (.invokevirtual 146, 3) := by decide +kernel
theorem dX6_isBalanced_16 : decode cX6_isBalanced 16 = .ok (.iadd, 1) := by decide +kernel
theorem dX6_isBalanced_17 : decode cX6_isBalanced 17 = .ok (.aload_n 0, 1) := by decide +kernel
theorem dX6_isBalanced_18 : decode cX6_isBalanced 18 = .ok (.getfield 12, 3) := by decide +kernel
theorem dX6_isBalanced_21 : decode cX6_isBalanced 21 = .ok (.iconst 5, 1) := by decide +kernel
theorem dX6_isBalanced_22 : decode cX6_isBalanced 22 = .ok (.invokevirtual 146, 3) := by decide +kernel
theorem dX6_isBalanced_25 : decode cX6_isBalanced 25 = .ok (.iadd, 1) := by decide +kernel
theorem dX6_isBalanced_26 : decode cX6_isBalanced 26 = .ok (.istore_n 1, 1) := by decide +kernel
theorem dX6_isBalanced_27 : decode cX6_isBalanced 27 = .ok (.aload_n 0, 1) := by decide +kernel
theorem dX6_isBalanced_28 : decode cX6_isBalanced 28 = .ok (.getfield 12, 3) := by decide +kernel
theorem dX6_isBalanced_31 : decode cX6_isBalanced 31 = .ok (.getfield 241, 3) := by decide +kernel
theorem dX6_isBalanced_34 : decode cX6_isBalanced 34 = .ok (.iload_n 1, 1) := by decide +kernel
theorem dX6_isBalanced_35 : decode cX6_isBalanced 35 = .ok (.if_icmp .ne 15, 3) := by decide +kernel
theorem dX6_isBalanced_38 : decode cX6_isBalanced 38 = .ok (.aload_n 0, 1) := by decide +kernel
theorem dX6_isBalanced_39 : decode cX6_isBalanced 39 = .ok (.getfield 12, 3) := by decide +kernel
theorem dX6_isBalanced_42 : decode cX6_isBalanced 42 = .ok (.iconst 1, 1) := by decide +kernel
theorem dX6_isBalanced_43 : decode cX6_isBalanced 43 = .ok (.invokevirtual 146, 3) := by decide +kernel
theorem dX6_isBalanced_46 : decode cX6_isBalanced 46 = .ok (.iconst 4, 1) := by decide +kernel
theorem dX6_isBalanced_47 : decode cX6_isBalanced 47 = .ok (.if_icmp .le 5, 3) := by decide +kernel
theorem dX6_isBalanced_50 : decode cX6_isBalanced 50 = .ok (.iconst 0, 1) := by decide +kernel
theorem dX6_isBalanced_51 : decode cX6_isBalanced 51 = .ok (.ireturn, 1) := by decide +kernel
theorem dX6_isBalanced_52 : decode cX6_isBalanced 52 = .ok (.aload_n 0, 1) := by decide +kernel
theorem dX6_isBalanced_53 : decode cX6_isBalanced 53 = .ok (.getfield 43, 3) := by decide +kernel
theorem dX6_isBalanced_56 : decode cX6_isBalanced 56 = .ok (.aload_n 0, 1) := by decide +kernel
theorem dX6_isBalanced_57 : decode cX6_isBalanced 57 = .ok (.getfield 12, 3) := by decide +kernel
theorem dX6_isBalanced_60 : decode cX6_isBalanced 60 = .ok (.invokevirtual 149, 3) := by decide +kernel
theorem dX6_isBalanced_63 : decode cX6_isBalanced 63 = .ok (.aload_n 0, 1) := by decide +kernel
theorem dX6_isBalanced_64 : decode cX6_isBalanced 64 = .ok (.getfield 43, 3) := by decide +kernel
theorem dX6_isBalanced_67 : decode cX6_isBalanced 67 = .ok (.aload_n 0, 1) := by decide +kernel
theorem dX6_isBalanced_68 : decode cX6_isBalanced 68 = .ok (.getfield 12, 3) := by decide +kernel
theorem dX6_isBalanced_71 : decode cX6_isBalanced 71 = .ok (.invokevirtual 155, 3) := by decide +kernel
theorem dX6_isBalanced_74 : decode cX6_isBalanced 74 = .ok (.iconst 0, 1) := by decide +kernel
theorem dX6_isBalanced_75 : decode cX6_isBalanced 75 = .ok (.istore_n 2, 1) := by decide +kernel
theorem dX6_isBalanced_76 : decode cX6_isBalanced 76 = .ok (.iload_n 2, 1) := by decide +kernel
theorem dX6_isBalanced_77 : decode cX6_isBalanced 77 = .ok (.aload_n 0, 1) := by decide +kernel
theorem dX6_isBalanced_78 : decode cX6_isBalanced 78 = .ok (.getfield 12, 3) := by decide +kernel
theorem dX6_isBalanced_81 : decode cX6_isBalanced 81 = .ok (.getfield 170, 3) := by decide +kernel
theorem dX6_isBalanced_84 : decode cX6_isBalanced 84 = .ok (.if_icmp .ge 32, 3) := by decide +kernel
theorem dX6_isBalanced_87 : decode cX6_isBalanced 87 = .ok (.aload_n 0, 1) := by decide +kernel
theorem dX6_isBalanced_88 : decode cX6_isBalanced 88 = .ok (.getfield 43, 3) := by decide +kernel
theorem dX6_isBalanced_91 : decode cX6_isBalanced 91 = .ok (.getfield 152, 3) := by decide +kernel
theorem dX6_isBalanced_94 : decode cX6_isBalanced 94 = .ok (.iload_n 2, 1) := by decide +kernel
theorem dX6_isBalanced_95 : decode cX6_isBalanced 95 = .ok (.iaload, 1) := by decide +kernel
theorem dX6_isBalanced_96 : decode cX6_isBalanced 96 = .ok (.aload_n 0, 1) := by decide +kernel
theorem dX6_isBalanced_97 : decode cX6_isBalanced 97 = .ok (.getfield 43, 3) := by decide +kernel
theorem dX6_isBalanced_100 : decode cX6_isBalanced 100 = .ok (.getfield 158, 3) := by decide +kernel
theorem dX6_isBalanced_103 : decode cX6_isBalanced 103 = .ok (.iload_n 2, 1) := by decide +kernel
theorem dX6_isBalanced_104 : decode cX6_isBalanced 104 = .ok (.iaload, 1) := by decide +kernel
theorem dX6_isBalanced_105 : decode cX6_isBalanced 105 = .ok (.if_icmp .eq 5, 3) := by decide +kernel
theorem dX6_isBalanced_108 : decode cX6_isBalanced 108 = .ok (.iconst 0, 1) := by decide +kernel
theorem dX6_isBalanced_109 : decode cX6_isBalanced 109 = .ok (.ireturn, 1) := by decide +kernel
theorem dX6_isBalanced_110 : decode cX6_isBalanced 110 = .ok (.iinc 2 1, 3) := by decide +kernel
theorem dX6_isBalanced_113 : decode cX6_isBalanced 113 = .ok (.goto (-37), 3) := by decide +kernel
theorem dX6_isBalanced_116 : decode cX6_isBalanced 116 = .ok (.iconst 1, 1) := by decide +kernel
theorem dX6_isBalanced_117 : decode cX6_isBalanced 117 = .ok (.ireturn, 1) := by decide +kernel
theorem dcX6_isBalanced : yX6_isBalanced.cls = RX6 ∧ yX6_isBalanced.cls ≠ "java/lang/invoke/MethodHandle" ∧ yX6_isBalanced.cls ≠ "java/lang/invoke/VarHandle" ∧ (parseMethodDescriptor yX6_isBalanced.desc).map (fun d => d.parameters.length) = some 0 := by decide +kernel
theorem gX6_isBalanced_5 : GoodIn wsL_law (wsV RX6 146 RX4 yX4_countOf (.code yX4_countOf cX4_countOf 2 (some .int) :: wsL_law)) := g_V q160 q161 q162 q16 q163
theorem gX6_isBalanced_13 : GoodIn wsL_law (wsV RX6 146 RX4 yX4_countOf (.code yX4_countOf cX4_countOf 2 (some .int) :: wsL_law)) := g_V q160 q161 q162 q16 q163
theorem gX6_isBalanced_22 : GoodIn wsL_law (wsV RX6 146 RX4 yX4_countOf (.code yX4_countOf cX4_countOf 2 (some .int) :: wsL_law)) := g_V q160 q161 q162 q16 q163
theorem gX6_isBalanced_43 : GoodIn wsL_law (wsV RX6 146 RX4 yX4_countOf (.code yX4_countOf cX4_countOf 2 (some .int) :: wsL_law)) := g_V q160 q161 q162 q16 q163
theorem gX6_isBalanced_60 : GoodIn wsL_law (wsV RX6 149 RX0 yX0_measureByNeeds (.code yX0_measureByNeeds cX0_measureByNeeds 3 none :: wsL_law)) := g_V q442 q443 q444 q31 q445
theorem gX6_isBalanced_71 : GoodIn wsL_law (wsV RX6 155 RX0 yX0_measureByRounds (.code yX0_measureByRounds cX0_measureByRounds 5 none :: wsL_law)) := g_V q459 q460 q461 q31 q462
set_option maxRecDepth 100000 in
set_option maxHeartbeats 4000000 in
theorem K_bal {cA : Nat → ClassId} {ad : tA} {ex : va_W} {M : tM} {F P : tP} (hoc : okc P) : Cj yX6_isBalanced cX6_isBalanced 3 (some .int) (rmd 16) 0 0 cA ad [.ref (ad 0 0)] ex (mm M F P) (Qe (some (.int (t_bal P (M 15)).1)) ex (mm (m_pl M 15 (t_bal P (M 15)).2) F P)) := by
  refine c_of_r (lv0 := [some (.ref (ad 0 0)), none, none]) rfl (by decide +kernel) (Nat.le_of_ble_eq_true rfl) rfl ?_
  have L : ∀ (y : Int32), t_bal P (M 15) = (lp_bal (f_mr P (f_mn P (M 15))) (cn P) 0, (f_mr P (f_mn P (M 15)))) → ∀ (n i : Nat), i + n = cn P → lp_bal (f_mr P (f_mn P (M 15))) n i = lp_bal (f_mr P (f_mn P (M 15))) (cn P) 0 → Rj cX6_isBalanced RX6 3 (some .int) (rmd 16) 0 0 cA ad (Qe (some (.int (t_bal P (M 15)).1)) ex (mm (m_pl M 15 (t_bal P (M 15)).2) F P)) ex 0 0 76 [some (.ref (ad 0 0)), some (.int y), some (.int (nI i))] [] (mm (m_pl M 15 (f_mr P (f_mn P (M 15)))) F P) := by
    intro y hq n
    induction n with
    | zero =>
      intro i h hx
      refine r_iload_n dX6_isBalanced_76 rfl ?_
      refine r_aload_n dX6_isBalanced_77 rfl ?_
      refine r_getF 0 (by decide) q17 rfl dX6_isBalanced_78 ?_
      refine r_getp_pl is1 1 (by decide) q153 rfl dX6_isBalanced_81 ?_
      refine r_icmp_ge (tgt := 116) dX6_isBalanced_84 (by decide) (fun c84 => ?_) (fun c84 => absurd (lp_z hoc.1 h) c84)
      refine r_iconst (v := 1) dX6_isBalanced_116 (by decide) ?_
      exact r_ret rfl rfl dX6_isBalanced_117 (by rw [hq]; exact hx) (by rw [hq])
    | succ n ih =>
      intro i h hx
      have hi : i < 12 := by have := hoc.2; omega
      refine r_iload_n dX6_isBalanced_76 rfl ?_
      refine r_aload_n dX6_isBalanced_77 rfl ?_
      refine r_getF 0 (by decide) q17 rfl dX6_isBalanced_78 ?_
      refine r_getp_pl is1 1 (by decide) q153 rfl dX6_isBalanced_81 ?_
      refine r_icmp_ge (tgt := 116) dX6_isBalanced_84 (by decide) (fun c84 => absurd c84 (lp_s hoc.1 hoc.2 h)) (fun c84 => ?_)
      refine r_aload_n dX6_isBalanced_87 rfl ?_
      refine r_getF 9 (by decide) q32 rfl dX6_isBalanced_88 ?_
      refine r_get_ch 0 (by decide) q441 rfl dX6_isBalanced_91 ?_
      refine r_iload_n dX6_isBalanced_94 rfl ?_
      refine r_ldm_cn rfl hi (by rw [m_pl_s]) dX6_isBalanced_95 ?_
      refine r_aload_n dX6_isBalanced_96 rfl ?_
      refine r_getF 9 (by decide) q32 rfl dX6_isBalanced_97 ?_
      refine r_get_ch 1 (by decide) q458 rfl dX6_isBalanced_100 ?_
      refine r_iload_n dX6_isBalanced_103 rfl ?_
      refine r_ldm_cr rfl hi (by rw [m_pl_s]) dX6_isBalanced_104 ?_
      refine r_icmp_eq (tgt := 110) dX6_isBalanced_105 (by decide) (fun c105 => ?_) (fun c105 => ?_)
      · refine r_iinc dX6_isBalanced_110 rfl ii_s (by decide) rfl ?_
        refine r_goto (tgt := 76) dX6_isBalanced_113 (by decide) ?_
        exact ih (i + 1) (by omega) ((bal_a c105).symm.trans hx)
      · refine r_iconst (v := 0) dX6_isBalanced_108 (by decide) ?_
        exact r_ret rfl rfl dX6_isBalanced_109 (by rw [hq]; exact ((bal_b c105).symm.trans hx)) (by rw [hq])
  refine r_aload_n dX6_isBalanced_0 rfl ?_
  refine r_getF 0 (by decide) q17 rfl dX6_isBalanced_1 ?_
  refine r_iconst (v := 3) dX6_isBalanced_4 (by decide) ?_
  refine r_cVi dX6_isBalanced_5 (K_countOf is1 hoc.1 hoc.2) gX6_isBalanced_5 dcX4_countOf rfl rfl rfl (Nat.le_of_ble_eq_true rfl) (ob_pl is1) ?_
  refine r_aload_n dX6_isBalanced_8 rfl ?_
  refine r_getF 0 (by decide) q17 rfl dX6_isBalanced_9 ?_
  refine r_iconst (v := 4) dX6_isBalanced_12 (by decide) ?_
  refine r_cVi dX6_isBalanced_13 (K_countOf is1 hoc.1 hoc.2) gX6_isBalanced_13 dcX4_countOf rfl rfl rfl (Nat.le_of_ble_eq_true rfl) (ob_pl is1) ?_
  refine r_iadd dX6_isBalanced_16 ?_
  refine r_aload_n dX6_isBalanced_17 rfl ?_
  refine r_getF 0 (by decide) q17 rfl dX6_isBalanced_18 ?_
  refine r_iconst (v := 5) dX6_isBalanced_21 (by decide) ?_
  refine r_cVi dX6_isBalanced_22 (K_countOf is1 hoc.1 hoc.2) gX6_isBalanced_22 dcX4_countOf rfl rfl rfl (Nat.le_of_ble_eq_true rfl) (ob_pl is1) ?_
  refine r_iadd dX6_isBalanced_25 ?_
  refine r_istore_n dX6_isBalanced_26 (by decide) rfl ?_
  refine r_aload_n dX6_isBalanced_27 rfl ?_
  refine r_getF 0 (by decide) q17 rfl dX6_isBalanced_28 ?_
  refine r_getp_pl is1 12 (by decide) q158 rfl dX6_isBalanced_31 ?_
  refine r_iload_n dX6_isBalanced_34 rfl ?_
  refine r_icmp_ne (tgt := 50) dX6_isBalanced_35 (by decide) (fun c35 => ?_) (fun c35 => ?_)
  · refine r_iconst (v := 0) dX6_isBalanced_50 (by decide) ?_
    first | exact r_ret rfl rfl dX6_isBalanced_51 (a_a (show t_bal P (M 15) = _ from if_pos (Or.inl c35))) (a_m (by omega) (show t_bal P (M 15) = _ from if_pos (Or.inl c35))) | exact r_ret rfl rfl dX6_isBalanced_51 (a_a (show t_bal P (M 15) = _ from if_pos (Or.inr c47))) (a_m (by omega) (show t_bal P (M 15) = _ from if_pos (Or.inr c47)))
  · refine r_aload_n dX6_isBalanced_38 rfl ?_
    refine r_getF 0 (by decide) q17 rfl dX6_isBalanced_39 ?_
    refine r_iconst (v := 1) dX6_isBalanced_42 (by decide) ?_
    refine r_cVi dX6_isBalanced_43 (K_countOf is1 hoc.1 hoc.2) gX6_isBalanced_43 dcX4_countOf rfl rfl rfl (Nat.le_of_ble_eq_true rfl) (ob_pl is1) ?_
    refine r_iconst (v := 4) dX6_isBalanced_46 (by decide) ?_
    refine r_icmp_le (tgt := 52) dX6_isBalanced_47 (by decide) (fun c47 => ?_) (fun c47 => ?_)
    · refine r_aload_n dX6_isBalanced_52 rfl ?_
      refine r_getF 9 (by decide) q32 rfl dX6_isBalanced_53 ?_
      refine r_aload_n dX6_isBalanced_56 rfl ?_
      refine r_getF 0 (by decide) q17 rfl dX6_isBalanced_57 ?_
      refine r_cVv dX6_isBalanced_60 (KT_mn hoc) gX6_isBalanced_60 dcX0_measureByNeeds rfl rfl rfl (Nat.le_of_ble_eq_true rfl) ob_ch ?_
      refine r_aload_n dX6_isBalanced_63 rfl ?_
      refine r_getF 9 (by decide) q32 rfl dX6_isBalanced_64 ?_
      refine r_aload_n dX6_isBalanced_67 rfl ?_
      refine r_getF 0 (by decide) q17 rfl dX6_isBalanced_68 ?_
      refine r_cVv dX6_isBalanced_71 (KT_mr hoc) gX6_isBalanced_71 dcX0_measureByRounds rfl rfl rfl (Nat.le_of_ble_eq_true rfl) ob_ch ?_
      rw [m_pl_s, m_pl_pl]
      refine r_iconst (v := 0) dX6_isBalanced_74 (by decide) ?_
      refine r_istore_n dX6_isBalanced_75 (by decide) rfl ?_
      exact L _ (if_neg (n2 (fun z => z c35) (fun z => z c47))) (cn P) 0 (by omega) rfl
    · refine r_iconst (v := 0) dX6_isBalanced_50 (by decide) ?_
      first | exact r_ret rfl rfl dX6_isBalanced_51 (a_a (show t_bal P (M 15) = _ from if_pos (Or.inl c35))) (a_m (by omega) (show t_bal P (M 15) = _ from if_pos (Or.inl c35))) | exact r_ret rfl rfl dX6_isBalanced_51 (a_a (show t_bal P (M 15) = _ from if_pos (Or.inr c47))) (a_m (by omega) (show t_bal P (M 15) = _ from if_pos (Or.inr c47)))

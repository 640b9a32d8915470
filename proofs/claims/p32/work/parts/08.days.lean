/-! PART 08: cancelBranch, the work of a day, needs over all, late -/
theorem can_a {b : Int32} {n i : Nat} {P : tP} {u : Int32} (h : ¬ P (4 + i) 2 = b) : lp_can b (n + 1) i P u = lp_can b n (i + 1) P u := by rw [lp_can, if_neg h]
theorem can_b {b : Int32} {n i : Nat} {P : tP} {u : Int32} (h : P (4 + i) 2 = b) (h2 : f_isOpen (P (4 + i) 6) = true) : lp_can b (n + 1) i P u = lp_can b n (i + 1) (f_turn P i 6 5) u := by rw [lp_can, if_pos h, if_pos h2]
theorem can_c {b : Int32} {n i : Nat} {P : tP} {u : Int32} (h : P (4 + i) 2 = b) (h2 : f_isOpen (P (4 + i) 6) = false) (h3 : P (4 + i) 6 = 3) : lp_can b (n + 1) i P u = lp_can b n (i + 1) (pu (pu P (4 + i) 6 4) (4 + i) 7 ((pu P (4 + i) 6 4 (4 + i) 0 + 1) / 2)) (u + Int32.ofInt 1) := by rw [lp_can, if_pos h, h2, if_neg (by decide), if_pos h3]
theorem can_d {b : Int32} {n i : Nat} {P : tP} {u : Int32} (h : P (4 + i) 2 = b) (h2 : f_isOpen (P (4 + i) 6) = false) (h3 : ¬ P (4 + i) 6 = 3) : lp_can b (n + 1) i P u = lp_can b n (i + 1) P u := by rw [lp_can, if_pos h, h2, if_neg (by decide), if_neg h3]
def ink (P0 P : tP) : Prop := okc P ∧ oke P ∧ cn P = cn P0
theorem dX4_cancelBranch_0 : decode cX4_cancelBranch 0 = .ok (.aload_n 0, 1) := by decide +kernel
theorem dX4_cancelBranch_1 : decode cX4_cancelBranch 1 = .ok (.dup, 1) := by decide +kernel
theorem dX4_cancelBranch_2 : decode cX4_cancelBranch 2 = .ok (.getfield 54, 3) := by decide +kernel
theorem dX4_cancelBranch_5 : decode cX4_cancelBranch 5 = .ok (.iconst 1, 1) := by decide +kernel
theorem dX4_cancelBranch_6 : decode cX4_cancelBranch 6 = .ok (.iload_n 1, 1) := by decide +kernel
theorem dX4_cancelBranch_7 : decode cX4_cancelBranch 7 = .ok (.ishl, 1) := by decide +kernel
theorem dX4_cancelBranch_8 : decode cX4_cancelBranch 8 = .ok (.ior, 1) := by decide +kernel
theorem dX4_cancelBranch_9 : decode cX4_cancelBranch 9 = .ok (.putfield 54, 3) := by decide +kernel
theorem dX4_cancelBranch_12 : decode cX4_cancelBranch 12 = .ok (.iconst 0, 1) := by decide +kernel
theorem dX4_cancelBranch_13 : decode cX4_cancelBranch 13 = .ok (.istore_n 2, 1) := by decide +kernel
theorem dX4_cancelBranch_14 : decode cX4_cancelBranch 14 = .ok (.iconst 0, 1) := by decide +kernel
theorem dX4_cancelBranch_15 : decode cX4_cancelBranch 15 = .ok (.istore_n 3, 1) := by decide +kernel
theorem dX4_cancelBranch_16 : decode cX4_cancelBranch 16 = .ok (.iload_n 3, 1) := by decide +kernel
theorem dX4_cancelBranch_17 : decode cX4_cancelBranch 17 = .ok (.aload_n 0, 1) := by decide +kernel
theorem dX4_cancelBranch_18 : decode cX4_cancelBranch 18 = .ok (.getfield 29, 3) := by decide +kernel
theorem dX4_cancelBranch_21 : decode cX4_cancelBranch 21 = .ok (.if_icmp .ge 80, 3) := by decide +kernel
theorem dX4_cancelBranch_24 : decode cX4_cancelBranch 24 = .ok (.aload_n 0, 1) := by decide +kernel
theorem dX4_cancelBranch_25 : decode cX4_cancelBranch 25 = .ok (.getfield 11, 3) := by decide +kernel
theorem dX4_cancelBranch_28 : decode cX4_cancelBranch 28 = .ok (.iload_n 3, 1) := by decide +kernel
theorem dX4_cancelBranch_29 : decode cX4_cancelBranch 29 = .ok (.aaload, 1) := by decide +kernel
theorem dX4_cancelBranch_30 : decode cX4_cancelBranch 30 = .ok (.astore 4, 2) := by decide +kernel
theorem dX4_cancelBranch_32 : decode cX4_cancelBranch 32 = .ok (.aload 4, 2) := by decide +kernel
theorem dX4_cancelBranch_34 : decode cX4_cancelBranch 34 = .ok (.getfield 129, 3) := by decide +kernel
theorem dX4_cancelBranch_37 : decode cX4_cancelBranch 37 = .ok (.iload_n 1, 1) := by decide +kernel
theorem dX4_cancelBranch_38 : decode cX4_cancelBranch 38 = .ok (.if_icmp .eq 6, 3) := by decide +kernel
theorem dX4_cancelBranch_41 : decode cX4_cancelBranch 41 = .ok (.goto 54, 3) := by decide +kernel
theorem dX4_cancelBranch_44 : decode cX4_cancelBranch 44 = .ok (.aload 4, 2) := by decide +kernel
theorem dX4_cancelBranch_46 : decode cX4_cancelBranch 46 = .ok (.invokevirtual 116, 3) := by decide +kernel
theorem dX4_cancelBranch_49 : decode cX4_cancelBranch 49 = .ok (.ifCond .eq 14, 3) := by decide +kernel
theorem dX4_cancelBranch_52 : decode cX4_cancelBranch 52 = .ok (.aload_n 0, 1) := by decide +kernel
theorem dX4_cancelBranch_53 : decode cX4_cancelBranch 53 = .ok (.iload_n 3, 1) := by decide +kernel
theorem dX4_cancelBranch_54 : decode cX4_cancelBranch 54 = .ok (.bipush 6, 2) := by decide +kernel
theorem dX4_cancelBranch_56 : decode cX4_cancelBranch 56 = .ok (.iconst 5, 1) := by decide +kernel
theorem dX4_cancelBranch_57 : decode cX4_cancelBranch 57 = .ok (.invokevirtual 77, 3) := by decide +kernel
theorem dX4_cancelBranch_60 : decode cX4_cancelBranch 60 = .ok (.goto 35, 3) := by decide +kernel
theorem dX4_cancelBranch_63 : decode cX4_cancelBranch 63 = .ok (.aload 4, 2) := by decide +kernel
theorem dX4_cancelBranch_65 : decode cX4_cancelBranch 65 = .ok (.getfield 84, 3) := by decide +kernel
theorem dX4_cancelBranch_68 : decode cX4_cancelBranch 68 = .ok (.iconst 3, 1) := by decide +kernel
theorem dX4_cancelBranch_69 : decode cX4_cancelBranch 69 = .ok (.if_icmp .ne 26, 3) := by decide +kernel
theorem dX4_cancelBranch_72 : decode cX4_cancelBranch 72 = .ok (.aload 4, 2) := by decide +kernel
theorem dX4_cancelBranch_74 : decode cX4_cancelBranch 74 = .ok (.iconst 4, 1) := by decide +kernel
theorem dX4_cancelBranch_75 : decode cX4_cancelBranch 75 = .ok (.putfield 84, 3) := by decide +kernel
theorem dX4_cancelBranch_78 : decode cX4_cancelBranch 78 = .ok (.aload 4, 2) := by decide +kernel
theorem dX4_cancelBranch_80 : decode cX4_cancelBranch 80 = .ok (.aload 4, 2) := by decide +kernel
theorem dX4_cancelBranch_82 : decode cX4_cancelBranch 82 = .ok (.getfield 126, 3) := by decide +kernel
theorem dX4_cancelBranch_85 : decode cX4_cancelBranch 85 = .ok (.iconst 1, 1) := by decide +kernel
theorem dX4_cancelBranch_86 : decode cX4_cancelBranch 86 = .ok (.iadd, 1) := by decide +kernel
theorem dX4_cancelBranch_87 : decode cX4_cancelBranch 87 = .ok (.iconst 2, 1) := by decide +kernel
theorem dX4_cancelBranch_88 : decode cX4_cancelBranch 88 = .ok (.idiv, 1) := by decide +kernel
theorem dX4_cancelBranch_89 : decode cX4_cancelBranch 89 = .ok (.putfield 132, 3) := by decide +kernel
theorem dX4_cancelBranch_92 : decode cX4_cancelBranch 92 = .ok (.iinc 2 1, 3) := by decide +kernel
theorem dX4_cancelBranch_95 : decode cX4_cancelBranch 95 = .ok (.iinc 3 1, 3) := by decide +kernel
theorem dX4_cancelBranch_98 : decode cX4_cancelBranch 98 = .ok (.goto (-82), 3) := by decide +kernel
theorem dX4_cancelBranch_101 : decode cX4_cancelBranch 101 = .ok (.iload_n 2, 1) := by decide +kernel
theorem dX4_cancelBranch_102 : decode cX4_cancelBranch 102 = .ok (.ireturn, 1) := by decide +kernel
theorem dcX4_cancelBranch : yX4_cancelBranch.cls = RX4 ∧ yX4_cancelBranch.cls ≠ "java/lang/invoke/MethodHandle" ∧ yX4_cancelBranch.cls ≠ "java/lang/invoke/VarHandle" ∧ (parseMethodDescriptor yX4_cancelBranch.desc).map (fun d => d.parameters.length) = some 1 := by decide +kernel
theorem gX4_cancelBranch_46 : GoodIn wsL_law (wsV RX4 116 RX5 yX5_isOpen (.code yX5_isOpen cX5_isOpen 1 (some .boolean) :: wsL_law)) := g_V q347 q333 q334 q44 q335
theorem gX4_cancelBranch_57 : GoodIn wsL_law (wsV RX4 77 RX4 yX4_turn (.code yX4_turn cX4_turn 5 none :: wsL_law)) := g_V q305 q306 q307 q16 q308
set_option maxRecDepth 100000 in
set_option maxHeartbeats 4000000 in
theorem K_can {cA : Nat → ClassId} {ad : tA} {ex : va_W} {M : tM} {r : Nat} {P0 : tP} {b : Int32} (hr : isPlan r) (hoc : okc P0) (ho : oke P0) : Cj yX4_cancelBranch cX4_cancelBranch 5 (some .int) (rmd 1) 0 0 cA ad [.ref (ad r 0), .int b] ex (m_pl M r P0) (Qe (some (.int (f_can P0 b).2)) ex (m_pl M r (f_can P0 b).1)) := by
  refine c_of_r (lv0 := [some (.ref (ad r 0)), some (.int b), none, none, none]) rfl (by decide +kernel) (Nat.le_of_ble_eq_true rfl) rfl ?_
  have L : ∀ (n i : Nat) (P : tP) (u : Int32), i + n = cn P0 → ink P0 P → lp_can b n i P u = f_can P0 b → Rj cX4_cancelBranch RX4 5 (some .int) (rmd 1) 0 0 cA ad (Qe (some (.int (f_can P0 b).2)) ex (m_pl M r (f_can P0 b).1)) ex 0 0 16 [some (.ref (ad r 0)), some (.int b), some (.int u), some (.int (nI i)), none] [] (m_pl M r P) := by
    intro n
    induction n with
    | zero =>
      intro i P u h hk hP
      have hx : P 0 1 = nI (cn P0) := by rw [← hk.2.2]; exact hk.1.1
      refine r_iload_n dX4_cancelBranch_16 rfl ?_
      refine r_aload_n dX4_cancelBranch_17 rfl ?_
      refine r_getp_pl (by assumption) 1 (by decide) q80 rfl dX4_cancelBranch_18 ?_
      refine r_icmp_ge (tgt := 101) dX4_cancelBranch_21 (by decide) (fun c21 => ?_) (fun c21 => absurd (lp_z hx h) c21)
      refine r_iload_n dX4_cancelBranch_101 rfl ?_
      exact r_ret rfl rfl dX4_cancelBranch_102 (by rw [← hP]; rfl) (by rw [← hP]; rfl)
    | succ n ih =>
      intro i P u h hk hP
      have hx : P 0 1 = nI (cn P0) := by rw [← hk.2.2]; exact hk.1.1
      have hc2 : cn P0 ≤ 12 := by rw [← hk.2.2]; exact hk.1.2
      have ho : oke P := hk.2.1
      refine r_iload_n dX4_cancelBranch_16 rfl ?_
      refine r_aload_n dX4_cancelBranch_17 rfl ?_
      refine r_getp_pl (by assumption) 1 (by decide) q80 rfl dX4_cancelBranch_18 ?_
      refine r_icmp_ge (tgt := 101) dX4_cancelBranch_21 (by decide) (fun c21 => absurd c21 (lp_s hx hc2 h)) (fun c21 => ?_)
      refine r_aload_n dX4_cancelBranch_24 rfl ?_
      refine r_getp_pl (by assumption) 0 (by decide) q38 rfl dX4_cancelBranch_25 ?_
      refine r_iload_n dX4_cancelBranch_28 rfl ?_
      refine r_aldp_steps (by assumption) rfl (by omega) dX4_cancelBranch_29 ?_
      refine r_astore dX4_cancelBranch_30 (by decide) rfl ?_
      refine r_aload dX4_cancelBranch_32 rfl ?_
      refine r_getp_st (by assumption) (by omega) 2 (by decide) q345 rfl dX4_cancelBranch_34 ?_
      refine r_iload_n dX4_cancelBranch_37 rfl ?_
      refine r_icmp_eq (tgt := 44) dX4_cancelBranch_38 (by decide) (fun c38 => ?_) (fun c38 => ?_)
      · refine r_aload dX4_cancelBranch_44 rfl ?_
        refine r_cVi dX4_cancelBranch_46 (K_isOpen (i := i) (by assumption) (by omega)) gX4_cancelBranch_46 dcX5_isOpen rfl rfl rfl (by decide) (ob_st (by assumption) (by omega)) ?_
        refine r_if_eq (tgt := 63) dX4_cancelBranch_49 (by decide) (fun c49 => ?_) (fun c49 => ?_)
        · refine r_aload dX4_cancelBranch_63 rfl ?_
          refine r_getp_st (by assumption) (by omega) 6 (by decide) q168 rfl dX4_cancelBranch_65 ?_
          refine r_iconst (v := 3) dX4_cancelBranch_68 (by decide) ?_
          refine r_icmp_ne (tgt := 95) dX4_cancelBranch_69 (by decide) (fun c69 => ?_) (fun c69 => ?_)
          · refine r_iinc dX4_cancelBranch_95 rfl ii_s (by decide) rfl ?_
            refine r_goto (tgt := 16) dX4_cancelBranch_98 (by decide) ?_
            refine r_fgt 4 ?_
            exact ih (i + 1) _ _ (by omega) (by first | exact hk | exact ⟨kp_okc kp_turn hk.1, kp_turn.2.2.1 ho, (kp_cn kp_turn).trans hk.2.2⟩ | exact (have z := kp_tr (kp_st (P := P) (i := i) (k := 6) (x := 4) (by omega)) (kp_st (by omega)); ⟨kp_okc z hk.1, z.2.2.1 ho, (kp_cn z).trans hk.2.2⟩)) (by rw [← hP]; first | exact (can_a c38).symm | exact (can_b c38 (bI_1 c49)).symm | exact (can_c c38 (bI_0 c49) c69).symm | exact (can_d c38 (bI_0 c49) c69).symm)
          · refine r_aload dX4_cancelBranch_72 rfl ?_
            refine r_iconst (v := 4) dX4_cancelBranch_74 (by decide) ?_
            refine r_putp_st (by assumption) (by omega) 6 (by decide) q168 rfl rfl rfl rfl rfl dX4_cancelBranch_75 ?_
            refine r_aload dX4_cancelBranch_78 rfl ?_
            refine r_aload dX4_cancelBranch_80 rfl ?_
            refine r_getp_st (by assumption) (by omega) 0 (by decide) q346 rfl dX4_cancelBranch_82 ?_
            refine r_iconst (v := 1) dX4_cancelBranch_85 (by decide) ?_
            refine r_iadd dX4_cancelBranch_86 ?_
            refine r_iconst (v := 2) dX4_cancelBranch_87 (by decide) ?_
            refine r_idiv dX4_cancelBranch_88 (by decide) ?_
            refine r_putp_st (by assumption) (by omega) 7 (by decide) q309 rfl rfl rfl rfl rfl dX4_cancelBranch_89 ?_
            refine r_iinc dX4_cancelBranch_92 rfl rfl (by decide) rfl ?_
            refine r_iinc dX4_cancelBranch_95 rfl ii_s (by decide) rfl ?_
            refine r_goto (tgt := 16) dX4_cancelBranch_98 (by decide) ?_
            refine r_fgt 4 ?_
            exact ih (i + 1) _ _ (by omega) (by first | exact hk | exact ⟨kp_okc kp_turn hk.1, kp_turn.2.2.1 ho, (kp_cn kp_turn).trans hk.2.2⟩ | exact (have z := kp_tr (kp_st (P := P) (i := i) (k := 6) (x := 4) (by omega)) (kp_st (by omega)); ⟨kp_okc z hk.1, z.2.2.1 ho, (kp_cn z).trans hk.2.2⟩)) (by rw [← hP]; first | exact (can_a c38).symm | exact (can_b c38 (bI_1 c49)).symm | exact (can_c c38 (bI_0 c49) c69).symm | exact (can_d c38 (bI_0 c49) c69).symm)
        · refine r_aload_n dX4_cancelBranch_52 rfl ?_
          refine r_iload_n dX4_cancelBranch_53 rfl ?_
          refine r_bipush (v := 6) dX4_cancelBranch_54 (by decide) ?_
          refine r_iconst (v := 5) dX4_cancelBranch_56 (by decide) ?_
          refine r_cVv dX4_cancelBranch_57 (K_turn (n := i) (by assumption) (by omega) ho) gX4_cancelBranch_57 dcX4_turn rfl rfl rfl (by decide) (ob_pl (by assumption)) ?_
          refine r_goto (tgt := 95) dX4_cancelBranch_60 (by decide) ?_
          refine r_iinc dX4_cancelBranch_95 rfl ii_s (by decide) rfl ?_
          refine r_goto (tgt := 16) dX4_cancelBranch_98 (by decide) ?_
          refine r_fgt 4 ?_
          exact ih (i + 1) _ _ (by omega) (by first | exact hk | exact ⟨kp_okc kp_turn hk.1, kp_turn.2.2.1 ho, (kp_cn kp_turn).trans hk.2.2⟩ | exact (have z := kp_tr (kp_st (P := P) (i := i) (k := 6) (x := 4) (by omega)) (kp_st (by omega)); ⟨kp_okc z hk.1, z.2.2.1 ho, (kp_cn z).trans hk.2.2⟩)) (by rw [← hP]; first | exact (can_a c38).symm | exact (can_b c38 (bI_1 c49)).symm | exact (can_c c38 (bI_0 c49) c69).symm | exact (can_d c38 (bI_0 c49) c69).symm)
      · refine r_goto (tgt := 95) dX4_cancelBranch_41 (by decide) ?_
        refine r_iinc dX4_cancelBranch_95 rfl ii_s (by decide) rfl ?_
        refine r_goto (tgt := 16) dX4_cancelBranch_98 (by decide) ?_
        refine r_fgt 4 ?_
        exact ih (i + 1) _ _ (by omega) (by first | exact hk | exact ⟨kp_okc kp_turn hk.1, kp_turn.2.2.1 ho, (kp_cn kp_turn).trans hk.2.2⟩ | exact (have z := kp_tr (kp_st (P := P) (i := i) (k := 6) (x := 4) (by omega)) (kp_st (by omega)); ⟨kp_okc z hk.1, z.2.2.1 ho, (kp_cn z).trans hk.2.2⟩)) (by rw [← hP]; first | exact (can_a c38).symm | exact (can_b c38 (bI_1 c49)).symm | exact (can_c c38 (bI_0 c49) c69).symm | exact (can_d c38 (bI_0 c49) c69).symm)
  refine r_aload_n dX4_cancelBranch_0 rfl ?_
  refine r_dup dX4_cancelBranch_1 rfl ?_
  refine r_getp_pl (by assumption) 9 (by decide) q89 rfl dX4_cancelBranch_2 ?_
  refine r_iconst (v := 1) dX4_cancelBranch_5 (by decide) ?_
  refine r_iload_n dX4_cancelBranch_6 rfl ?_
  refine r_ishl dX4_cancelBranch_7 ?_
  refine r_ior dX4_cancelBranch_8 ?_
  refine r_putp_pl (by assumption) 9 (by decide) q89 rfl rfl rfl rfl rfl dX4_cancelBranch_9 ?_
  refine r_iconst (v := 0) dX4_cancelBranch_12 (by decide) ?_
  refine r_istore_n dX4_cancelBranch_13 (by decide) rfl ?_
  refine r_iconst (v := 0) dX4_cancelBranch_14 (by decide) ?_
  refine r_istore_n dX4_cancelBranch_15 (by decide) rfl ?_
  have z := kp_0 (P := P0) (k := 9) (x := P0 0 9 ||| 1 <<< (b &&& 31)) (by omega)
  exact L (cn P0) 0 _ 0 (by omega) ⟨kp_okc z hoc, z.2.2.1 ho, kp_cn z⟩ rfl
theorem wk_a {P : tP} {i : Nat} (h : ¬ P (4 + i) 6 = 1) : f_work P i = P := by rw [f_work, if_neg h]
theorem wk_b {P P1 : tP} {i : Nat} (h : P (4 + i) 6 = 1) (e : P1 = pu P (4 + i) 7 (P (4 + i) 7 - 1)) (h2 : ¬ P1 (4 + i) 7 ≤ 0) : f_work P i = P1 := by subst e; rw [f_work, if_pos h, f_work1, if_neg h2]
theorem wk_c {P P1 : tP} {i : Nat} (h : P (4 + i) 6 = 1) (e : P1 = pu P (4 + i) 7 (P (4 + i) 7 - 1)) (h2 : P1 (4 + i) 7 ≤ 0) (h3 : P1 (4 + i) 9 = 0) : f_work P i = f_turn (pu (pu P1 (4 + i) 10 (P1 0 7)) 0 12 (pu P1 (4 + i) 10 (P1 0 7) 0 12 + 1)) i 3 1 := by subst e; rw [f_work, if_pos h, f_work1, if_pos h2, if_pos h3]
theorem wk_d {P P1 : tP} {i : Nat} (h : P (4 + i) 6 = 1) (e : P1 = pu P (4 + i) 7 (P (4 + i) 7 - 1)) (h2 : P1 (4 + i) 7 ≤ 0) (h3 : ¬ P1 (4 + i) 9 = 0) : f_work P i = f_work2 P1 i := by subst e; rw [f_work, if_pos h, f_work1, if_pos h2, if_neg h3]
def f_wk3 (P : tP) (i : Nat) : tP := let P2 := pu P (4 + i) 9 (P (4 + i) 9 - 1); pu P2 0 11 (P2 0 11 + 1)
theorem wk_e {P : tP} {i : Nat} (h : ¬ f_wk3 P i (4 + i) 1 < f_wk3 P i (4 + i) 8) : f_work2 P i = f_turn (f_wk3 P i) i 2 2 := if_neg h
theorem wk_f {P : tP} {i : Nat} (h : f_wk3 P i (4 + i) 1 < f_wk3 P i (4 + i) 8) (h2 : f_turn (f_wk3 P i) i 7 3 (4 + i) 2 = 0) : f_work2 P i = f_turn (f_wk3 P i) i 7 3 := (if_pos h).trans (if_pos h2)
theorem wk_g {P : tP} {i : Nat} (h : f_wk3 P i (4 + i) 1 < f_wk3 P i (4 + i) 8) (h2 : ¬ f_turn (f_wk3 P i) i 7 3 (4 + i) 2 = 0) (h3 : f_isCancelled (f_turn (f_wk3 P i) i 7 3) (f_turn (f_wk3 P i) i 7 3 (4 + i) 2) = true) : f_work2 P i = f_turn (f_wk3 P i) i 7 3 := (if_pos h).trans ((if_neg h2).trans (if_pos h3))
theorem wk_h {P : tP} {i : Nat} (h : f_wk3 P i (4 + i) 1 < f_wk3 P i (4 + i) 8) (h2 : ¬ f_turn (f_wk3 P i) i 7 3 (4 + i) 2 = 0) (h3 : f_isCancelled (f_turn (f_wk3 P i) i 7 3) (f_turn (f_wk3 P i) i 7 3 (4 + i) 2) = false) : f_work2 P i = (f_can (f_turn (f_wk3 P i) i 7 3) (f_turn (f_wk3 P i) i 7 3 (4 + i) 2)).1 := (if_pos h).trans ((if_neg h2).trans (if_neg (fun z => Bool.noConfusion ((h3.symm.trans z : false = true)))))
theorem kp_wk3 {P : tP} {i : Nat} : kp P (f_wk3 P i) := kp_tr (kp_st (by omega)) (kp_0 (by omega))
theorem dX4_workOn_0 : decode cX4_workOn 0 = .ok (.aload_n 0, 1) := by decide +kernel
theorem dX4_workOn_1 : decode cX4_workOn 1 = .ok (.getfield 11, 3) := by decide +kernel
theorem dX4_workOn_4 : decode cX4_workOn 4 = .ok (.iload_n 1, 1) := by decide +kernel
theorem dX4_workOn_5 : decode cX4_workOn 5 = .ok (.aaload, 1) := by decide +kernel
theorem dX4_workOn_6 : decode cX4_workOn 6 = .ok (.astore_n 2, 1) := by decide +kernel
theorem dX4_workOn_7 : decode cX4_workOn 7 = .ok (.aload_n 2, 1) := by decide +kernel
theorem dX4_workOn_8 : decode cX4_workOn 8 = .ok (.getfield 84, 3) := by decide +kernel
theorem dX4_workOn_11 : decode cX4_workOn 11 = .ok (.iconst 1, 1) := by decide +kernel
theorem dX4_workOn_12 : decode cX4_workOn 12 = .ok (.if_icmp .eq 4, 3) := by decide +kernel
theorem dX4_workOn_15 : decode cX4_workOn 15 = .ok (.return_, 1) := by decide +kernel
theorem dX4_workOn_16 : decode cX4_workOn 16 = .ok (.aload_n 2, 1) := by decide +kernel
theorem dX4_workOn_17 : decode cX4_workOn 17 = .ok (.dup, 1) := by decide +kernel
theorem dX4_workOn_18 : decode cX4_workOn 18 = .ok (.getfield 132, 3) := by decide +kernel
theorem dX4_workOn_21 : decode cX4_workOn 21 = .ok (.iconst 1, 1) := by decide +kernel
theorem dX4_workOn_22 : decode cX4_workOn 22 = .ok (.isub, 1) := by decide +kernel
theorem dX4_workOn_23 : decode cX4_workOn 23 = .ok (.putfield 132, 3) := by decide +kernel
theorem dX4_workOn_26 : decode cX4_workOn 26 = .ok (.aload_n 2, 1) := by decide +kernel
theorem dX4_workOn_27 : decode cX4_workOn 27 = .ok (.getfield 132, 3) := by decide +kernel
theorem dX4_workOn_30 : decode cX4_workOn 30 = .ok (.ifCond .le 4, 3) := by decide +kernel
theorem dX4_workOn_33 : decode cX4_workOn 33 = .ok (.return_, 1) := by decide +kernel
theorem dX4_workOn_34 : decode cX4_workOn 34 = .ok (.aload_n 2, 1) := by decide +kernel
theorem dX4_workOn_35 : decode cX4_workOn 35 = .ok (.getfield 148, 3) := by decide +kernel
theorem dX4_workOn_38 : decode cX4_workOn 38 = .ok (.ifCond .ne 29, 3) := by decide +kernel
theorem dX4_workOn_41 : decode cX4_workOn 41 = .ok (.aload_n 2, 1) := by decide +kernel
theorem dX4_workOn_42 : decode cX4_workOn 42 = .ok (.aload_n 0, 1) := by decide +kernel
theorem dX4_workOn_43 : decode cX4_workOn 43 = .ok (.getfield 51, 3) := by decide +kernel
theorem dX4_workOn_46 : decode cX4_workOn 46 = .ok (.putfield 87, 3) := by decide +kernel
theorem dX4_workOn_49 : decode cX4_workOn 49 = .ok (.aload_n 0, 1) := by decide +kernel
theorem dX4_workOn_50 : decode cX4_workOn 50 = .ok (.dup, 1) := by decide +kernel
theorem dX4_workOn_51 : decode cX4_workOn 51 = .ok (.getfield 63, 3) := by decide +kernel
theorem dX4_workOn_54 : decode cX4_workOn 54 = .ok (.iconst 1, 1) := by decide +kernel
theorem dX4_workOn_55 : decode cX4_workOn 55 = .ok (.iadd, 1) := by decide +kernel
theorem dX4_workOn_56 : decode cX4_workOn 56 = .ok (.putfield 63, 3) := by decide +kernel
theorem dX4_workOn_59 : decode cX4_workOn 59 = .ok (.aload_n 0, 1) := by decide +kernel
theorem dX4_workOn_60 : decode cX4_workOn 60 = .ok (.iload_n 1, 1) := by decide +kernel
theorem dX4_workOn_61 : decode cX4_workOn 61 = .ok (.iconst 3, 1) := by decide +kernel
theorem dX4_workOn_62 : decode cX4_workOn 62 = .ok (.iconst 1, 1) := by decide +kernel
theorem dX4_workOn_63 : decode cX4_workOn 63 = .ok (.invokevirtual 77, 3) := by decide +kernel
theorem dX4_workOn_66 : decode cX4_workOn 66 = .ok (.return_, 1) := by decide +kernel
theorem dX4_workOn_67 : decode cX4_workOn 67 = .ok (.aload_n 2, 1) := by decide +kernel
theorem dX4_workOn_68 : decode cX4_workOn 68 = .ok (.dup, 1) := by decide +kernel
theorem dX4_workOn_69 : decode cX4_workOn 69 = .ok (.getfield 148, 3) := by decide +kernel
theorem dX4_workOn_72 : decode cX4_workOn 72 = .ok (.iconst 1, 1) := by decide +kernel
theorem dX4_workOn_73 : decode cX4_workOn 73 = .ok (.isub, 1) := by decide +kernel
theorem dX4_workOn_74 : decode cX4_workOn 74 = .ok (.putfield 148, 3) := by decide +kernel
theorem dX4_workOn_77 : decode cX4_workOn 77 = .ok (.aload_n 0, 1) := by decide +kernel
theorem dX4_workOn_78 : decode cX4_workOn 78 = .ok (.dup, 1) := by decide +kernel
theorem dX4_workOn_79 : decode cX4_workOn 79 = .ok (.getfield 60, 3) := by decide +kernel
theorem dX4_workOn_82 : decode cX4_workOn 82 = .ok (.iconst 1, 1) := by decide +kernel
theorem dX4_workOn_83 : decode cX4_workOn 83 = .ok (.iadd, 1) := by decide +kernel
theorem dX4_workOn_84 : decode cX4_workOn 84 = .ok (.putfield 60, 3) := by decide +kernel
theorem dX4_workOn_87 : decode cX4_workOn 87 = .ok (.aload_n 2, 1) := by decide +kernel
theorem dX4_workOn_88 : decode cX4_workOn 88 = .ok (.getfield 123, 3) := by decide +kernel
theorem dX4_workOn_91 : decode cX4_workOn 91 = .ok (.aload_n 2, 1) := by decide +kernel
theorem dX4_workOn_92 : decode cX4_workOn 92 = .ok (.getfield 151, 3) := by decide +kernel
theorem dX4_workOn_95 : decode cX4_workOn 95 = .ok (.if_icmp .gt 11, 3) := by decide +kernel
theorem dX4_workOn_98 : decode cX4_workOn 98 = .ok (.aload_n 0, 1) := by decide +kernel
theorem dX4_workOn_99 : decode cX4_workOn 99 = .ok (.iload_n 1, 1) := by decide +kernel
theorem dX4_workOn_100 : decode cX4_workOn 100 = .ok (.iconst 2, 1) := by decide +kernel
theorem dX4_workOn_101 : decode cX4_workOn 101 = .ok (.iconst 2, 1) := by decide +kernel
theorem dX4_workOn_102 : decode cX4_workOn 102 = .ok (.invokevirtual 77, 3) := by decide +kernel
theorem dX4_workOn_105 : decode cX4_workOn 105 = .ok (.return_, 1) := by decide +kernel
theorem dX4_workOn_106 : decode cX4_workOn 106 = .ok (.aload_n 0, 1) := by decide +kernel
theorem dX4_workOn_107 : decode cX4_workOn 107 = .ok (.iload_n 1, 1) := by decide +kernel
theorem dX4_workOn_108 : decode cX4_workOn 108 = .ok (.bipush 7, 2) := by decide +kernel
theorem dX4_workOn_110 : decode cX4_workOn 110 = .ok (.iconst 3, 1) := by decide +kernel
theorem dX4_workOn_111 : decode cX4_workOn 111 = .ok (.invokevirtual 77, 3) := by decide +kernel
theorem dX4_workOn_114 : decode cX4_workOn 114 = .ok (.aload_n 2, 1) := by decide +kernel
theorem dX4_workOn_115 : decode cX4_workOn 115 = .ok (.getfield 129, 3) := by decide +kernel
theorem dX4_workOn_118 : decode cX4_workOn 118 = .ok (.ifCond .eq 23, 3) := by decide +kernel
theorem dX4_workOn_121 : decode cX4_workOn 121 = .ok (.aload_n 0, 1) := by decide +kernel
theorem dX4_workOn_122 : decode cX4_workOn 122 = .ok (.aload_n 2, 1) := by decide +kernel
theorem dX4_workOn_123 : decode cX4_workOn 123 = .ok (.getfield 129, 3) := by decide +kernel
theorem dX4_workOn_126 : decode cX4_workOn 126 = .ok (.invokevirtual 73, 3) := by decide +kernel
theorem dX4_workOn_129 : decode cX4_workOn 129 = .ok (.ifCond .ne 12, 3) := by decide +kernel
theorem dX4_workOn_132 : decode cX4_workOn 132 = .ok (.aload_n 0, 1) := by decide +kernel
theorem dX4_workOn_133 : decode cX4_workOn 133 = .ok (.aload_n 2, 1) := by decide +kernel
theorem dX4_workOn_134 : decode cX4_workOn 134 = .ok (.getfield 129, 3) := by decide +kernel
theorem dX4_workOn_137 : decode cX4_workOn 137 = .ok (.invokevirtual 154, 3) := by decide +kernel
theorem dX4_workOn_140 : decode cX4_workOn 140 = .ok (.pop, 1) := by decide +kernel
theorem dX4_workOn_141 : decode cX4_workOn 141 = .ok (.return_, 1) := by decide +kernel
theorem dcX4_workOn : yX4_workOn.cls = RX4 ∧ yX4_workOn.cls ≠ "java/lang/invoke/MethodHandle" ∧ yX4_workOn.cls ≠ "java/lang/invoke/VarHandle" ∧ (parseMethodDescriptor yX4_workOn.desc).map (fun d => d.parameters.length) = some 1 := by decide +kernel
theorem gX4_workOn_111 : GoodIn wsL_law (wsV RX4 77 RX4 yX4_turn (.code yX4_turn cX4_turn 5 none :: wsL_law)) := g_V q305 q306 q307 q16 q308
theorem gX4_workOn_126 : GoodIn wsL_law (wsV RX4 73 RX4 yX4_isCancelled (.code yX4_isCancelled cX4_isCancelled 2 (some .boolean) :: wsL_law)) := g_V q301 q302 q303 q16 q304
theorem gX4_workOn_137 : GoodIn wsL_law (wsV RX4 154 RX4 yX4_cancelBranch (.code yX4_cancelBranch cX4_cancelBranch 5 (some .int) :: wsL_law)) := g_V q374 q342 q343 q16 q344
theorem gX4_workOn_102 : GoodIn wsL_law (wsV RX4 77 RX4 yX4_turn (.code yX4_turn cX4_turn 5 none :: wsL_law)) := g_V q305 q306 q307 q16 q308
theorem gX4_workOn_63 : GoodIn wsL_law (wsV RX4 77 RX4 yX4_turn (.code yX4_turn cX4_turn 5 none :: wsL_law)) := g_V q305 q306 q307 q16 q308
set_option maxRecDepth 100000 in
set_option maxHeartbeats 4000000 in
theorem K_work {cA : Nat → ClassId} {ad : tA} {ex : va_W} {M : tM} {r : Nat} {P : tP} {i : Nat} (hr : isPlan r) (hi : i < 12) (hoc : okc P) (ho : oke P) : Cj yX4_workOn cX4_workOn 3 none (rmd 2) 0 0 cA ad [.ref (ad r 0), .int (nI i)] ex (m_pl M r P) (Qe none ex (m_pl M r (f_work P i))) := by
  refine c_of_r (lv0 := [some (.ref (ad r 0)), some (.int (nI i)), none]) rfl (by decide +kernel) (Nat.le_of_ble_eq_true rfl) rfl ?_
  have ho1 : oke (pu P (4 + i) 7 (P (4 + i) 7 - 1)) := (kp_st (by omega)).2.2.1 ho
  have ho2 : oke (f_wk3 (pu P (4 + i) 7 (P (4 + i) 7 - 1)) i) := kp_wk3.2.2.1 ho1
  have hc2 : okc (f_turn (f_wk3 (pu P (4 + i) 7 (P (4 + i) 7 - 1)) i) i 7 3) := kp_okc (kp_tr (kp_st (by omega)) (kp_tr kp_wk3 kp_turn)) hoc
  refine r_aload_n dX4_workOn_0 rfl ?_
  refine r_getp_pl (by assumption) 0 (by decide) q38 rfl dX4_workOn_1 ?_
  refine r_iload_n dX4_workOn_4 rfl ?_
  refine r_aldp_steps (by assumption) rfl (by omega) dX4_workOn_5 ?_
  refine r_astore_n dX4_workOn_6 (by decide) rfl ?_
  refine r_aload_n dX4_workOn_7 rfl ?_
  refine r_getp_st (by assumption) (by omega) 6 (by decide) q168 rfl dX4_workOn_8 ?_
  refine r_iconst (v := 1) dX4_workOn_11 (by decide) ?_
  refine r_icmp_eq (tgt := 16) dX4_workOn_12 (by decide) (fun c12 => ?_) (fun c12 => ?_)
  · refine r_aload_n dX4_workOn_16 rfl ?_
    refine r_dup dX4_workOn_17 rfl ?_
    refine r_getp_st (by assumption) (by omega) 7 (by decide) q309 rfl dX4_workOn_18 ?_
    refine r_iconst (v := 1) dX4_workOn_21 (by decide) ?_
    refine r_isub dX4_workOn_22 ?_
    refine r_putp_st (by assumption) (by omega) 7 (by decide) q309 rfl rfl rfl rfl rfl dX4_workOn_23 ?_
    refine r_aload_n dX4_workOn_26 rfl ?_
    refine r_getp_st (by assumption) (by omega) 7 (by decide) q309 rfl dX4_workOn_27 ?_
    refine r_if_le (tgt := 34) dX4_workOn_30 (by decide) (fun c30 => ?_) (fun c30 => ?_)
    · refine r_aload_n dX4_workOn_34 rfl ?_
      refine r_getp_st (by assumption) (by omega) 9 (by decide) q370 rfl dX4_workOn_35 ?_
      refine r_if_ne (tgt := 67) dX4_workOn_38 (by decide) (fun c38 => ?_) (fun c38 => ?_)
      · refine r_aload_n dX4_workOn_67 rfl ?_
        refine r_dup dX4_workOn_68 rfl ?_
        refine r_getp_st (by assumption) (by omega) 9 (by decide) q370 rfl dX4_workOn_69 ?_
        refine r_iconst (v := 1) dX4_workOn_72 (by decide) ?_
        refine r_isub dX4_workOn_73 ?_
        refine r_putp_st (by assumption) (by omega) 9 (by decide) q370 rfl rfl rfl rfl rfl dX4_workOn_74 ?_
        refine r_aload_n dX4_workOn_77 rfl ?_
        refine r_dup dX4_workOn_78 rfl ?_
        refine r_getp_pl (by assumption) 11 (by decide) q91 rfl dX4_workOn_79 ?_
        refine r_iconst (v := 1) dX4_workOn_82 (by decide) ?_
        refine r_iadd dX4_workOn_83 ?_
        refine r_putp_pl (by assumption) 11 (by decide) q91 rfl rfl rfl rfl rfl dX4_workOn_84 ?_
        refine r_aload_n dX4_workOn_87 rfl ?_
        refine r_getp_st (by assumption) (by omega) 8 (by decide) q372 rfl dX4_workOn_88 ?_
        refine r_aload_n dX4_workOn_91 rfl ?_
        refine r_getp_st (by assumption) (by omega) 1 (by decide) q373 rfl dX4_workOn_92 ?_
        refine r_icmp_gt (tgt := 106) dX4_workOn_95 (by decide) (fun c95 => ?_) (fun c95 => ?_)
        · refine r_aload_n dX4_workOn_106 rfl ?_
          refine r_iload_n dX4_workOn_107 rfl ?_
          refine r_bipush (v := 7) dX4_workOn_108 (by decide) ?_
          refine r_iconst (v := 3) dX4_workOn_110 (by decide) ?_
          refine r_cVv dX4_workOn_111 (K_turn (P := f_wk3 (pu P (4 + i) 7 (P (4 + i) 7 - 1)) i) (n := i) (by assumption) hi ho2) gX4_workOn_111 dcX4_turn rfl rfl rfl (by decide) (ob_pl (by assumption)) ?_
          refine r_aload_n dX4_workOn_114 rfl ?_
          refine r_getp_st (by assumption) (by omega) 2 (by decide) q345 rfl dX4_workOn_115 ?_
          refine r_if_eq (tgt := 141) dX4_workOn_118 (by decide) (fun c118 => ?_) (fun c118 => ?_)
          · first | exact r_retv rfl dX4_workOn_141 (congrArg (m_pl M r) ((wk_d (by assumption) rfl c30 c38).trans (wk_f c95 c118)).symm) | exact r_retv rfl dX4_workOn_141 (congrArg (m_pl M r) ((wk_d (by assumption) rfl c30 c38).trans (wk_g c95 c118 (bI_1 c129))).symm) | exact r_retv rfl dX4_workOn_141 (congrArg (m_pl M r) ((wk_d (by assumption) rfl c30 c38).trans (wk_h c95 c118 (bI_0 c129))).symm)
          · refine r_aload_n dX4_workOn_121 rfl ?_
            refine r_aload_n dX4_workOn_122 rfl ?_
            refine r_getp_st (by assumption) (by omega) 2 (by decide) q345 rfl dX4_workOn_123 ?_
            refine r_cVi dX4_workOn_126 (K_isCancelled (by assumption)) gX4_workOn_126 dcX4_isCancelled rfl rfl rfl (by decide) (ob_pl (by assumption)) ?_
            refine r_if_ne (tgt := 141) dX4_workOn_129 (by decide) (fun c129 => ?_) (fun c129 => ?_)
            · first | exact r_retv rfl dX4_workOn_141 (congrArg (m_pl M r) ((wk_d (by assumption) rfl c30 c38).trans (wk_f c95 c118)).symm) | exact r_retv rfl dX4_workOn_141 (congrArg (m_pl M r) ((wk_d (by assumption) rfl c30 c38).trans (wk_g c95 c118 (bI_1 c129))).symm) | exact r_retv rfl dX4_workOn_141 (congrArg (m_pl M r) ((wk_d (by assumption) rfl c30 c38).trans (wk_h c95 c118 (bI_0 c129))).symm)
            · refine r_aload_n dX4_workOn_132 rfl ?_
              refine r_aload_n dX4_workOn_133 rfl ?_
              refine r_getp_st (by assumption) (by omega) 2 (by decide) q345 rfl dX4_workOn_134 ?_
              refine r_cVi dX4_workOn_137 (K_can (by assumption) hc2 (kp_turn.2.2.1 ho2)) gX4_workOn_137 dcX4_cancelBranch rfl rfl rfl (by decide) (ob_pl (by assumption)) ?_
              refine r_pop dX4_workOn_140 rfl ?_
              first | exact r_retv rfl dX4_workOn_141 (congrArg (m_pl M r) ((wk_d (by assumption) rfl c30 c38).trans (wk_f c95 c118)).symm) | exact r_retv rfl dX4_workOn_141 (congrArg (m_pl M r) ((wk_d (by assumption) rfl c30 c38).trans (wk_g c95 c118 (bI_1 c129))).symm) | exact r_retv rfl dX4_workOn_141 (congrArg (m_pl M r) ((wk_d (by assumption) rfl c30 c38).trans (wk_h c95 c118 (bI_0 c129))).symm)
        · refine r_aload_n dX4_workOn_98 rfl ?_
          refine r_iload_n dX4_workOn_99 rfl ?_
          refine r_iconst (v := 2) dX4_workOn_100 (by decide) ?_
          refine r_iconst (v := 2) dX4_workOn_101 (by decide) ?_
          refine r_cVv dX4_workOn_102 (K_turn (P := f_wk3 (pu P (4 + i) 7 (P (4 + i) 7 - 1)) i) (n := i) (by assumption) hi ho2) gX4_workOn_102 dcX4_turn rfl rfl rfl (by decide) (ob_pl (by assumption)) ?_
          exact r_retv rfl dX4_workOn_105 (congrArg (m_pl M r) ((wk_d (by assumption) rfl c30 c38).trans (wk_e c95)).symm)
      · refine r_aload_n dX4_workOn_41 rfl ?_
        refine r_aload_n dX4_workOn_42 rfl ?_
        refine r_getp_pl (by assumption) 7 (by decide) q88 rfl dX4_workOn_43 ?_
        refine r_putp_st (by assumption) (by omega) 10 (by decide) q371 rfl rfl rfl rfl rfl dX4_workOn_46 ?_
        refine r_aload_n dX4_workOn_49 rfl ?_
        refine r_dup dX4_workOn_50 rfl ?_
        refine r_getp_pl (by assumption) 12 (by decide) q92 rfl dX4_workOn_51 ?_
        refine r_iconst (v := 1) dX4_workOn_54 (by decide) ?_
        refine r_iadd dX4_workOn_55 ?_
        refine r_putp_pl (by assumption) 12 (by decide) q92 rfl rfl rfl rfl rfl dX4_workOn_56 ?_
        refine r_aload_n dX4_workOn_59 rfl ?_
        refine r_iload_n dX4_workOn_60 rfl ?_
        refine r_iconst (v := 3) dX4_workOn_61 (by decide) ?_
        refine r_iconst (v := 1) dX4_workOn_62 (by decide) ?_
        refine r_cVv dX4_workOn_63 (K_turn (n := i) (by assumption) hi ((kp_0 (k := 12) (by omega)).2.2.1 ((kp_st (k := 10) (by omega)).2.2.1 ho1))) gX4_workOn_63 dcX4_turn rfl rfl rfl (by decide) (ob_pl (by assumption)) ?_
        exact r_retv rfl dX4_workOn_66 (congrArg (m_pl M r) (wk_c (by assumption) rfl c30 c38).symm)
    · exact r_retv rfl dX4_workOn_33 (congrArg (m_pl M r) (wk_b (by assumption) rfl c30).symm)
  · exact r_retv rfl dX4_workOn_15 (congrArg (m_pl M r) (wk_a c12).symm)
theorem ud_a {P : tP} {b : Int32} (h : ¬ 0 ≤ f_ftu P b) : f_und P b = P := if_neg h
theorem ud_b {P : tP} {b : Int32} {l : Nat} (h : 0 ≤ f_ftu P b) (e : (f_ftu P b).toNatClampNeg = l) (h2 : 0 < pu P (4 + l) 7 (P (4 + l) 7 - 1) (4 + l) 7) : f_und P b = pu P (4 + l) 7 (P (4 + l) 7 - 1) := by subst e; exact (if_pos h).trans (if_pos h2)
theorem ud_c {P : tP} {b : Int32} {l : Nat} (h : 0 ≤ f_ftu P b) (e : (f_ftu P b).toNatClampNeg = l) (h2 : ¬ 0 < pu P (4 + l) 7 (P (4 + l) 7 - 1) (4 + l) 7) : f_und P b = f_turn (pu (pu P (4 + l) 7 (P (4 + l) 7 - 1)) 0 13 (pu P (4 + l) 7 (P (4 + l) 7 - 1) 0 13 + 1)) l 5 4 := by subst e; exact (if_pos h).trans (if_neg h2)
theorem dX4_undoInBranch_0 : decode cX4_undoInBranch 0 = .ok (.aload_n 0, 1) := by decide +kernel
theorem dX4_undoInBranch_1 : decode cX4_undoInBranch 1 = .ok (.iload_n 1, 1) := by decide +kernel
theorem dX4_undoInBranch_2 : decode cX4_undoInBranch 2 = .ok (.invokevirtual 157, 3) := by decide +kernel
theorem dX4_undoInBranch_5 : decode cX4_undoInBranch 5 = .ok (.istore_n 2, 1) := by decide +kernel
theorem dX4_undoInBranch_6 : decode cX4_undoInBranch 6 = .ok (.iload_n 2, 1) := by decide +kernel
theorem dX4_undoInBranch_7 : decode cX4_undoInBranch 7 = .ok (.ifCond .ge 4, 3) := by decide +kernel
theorem dX4_undoInBranch_10 : decode cX4_undoInBranch 10 = .ok (.return_, 1) := by decide +kernel
theorem dX4_undoInBranch_11 : decode cX4_undoInBranch 11 = .ok (.aload_n 0, 1) := by decide +kernel
theorem dX4_undoInBranch_12 : decode cX4_undoInBranch 12 = .ok (.getfield 11, 3) := by decide +kernel
theorem dX4_undoInBranch_15 : decode cX4_undoInBranch 15 = .ok (.iload_n 2, 1) := by decide +kernel
theorem dX4_undoInBranch_16 : decode cX4_undoInBranch 16 = .ok (.aaload, 1) := by decide +kernel
theorem dX4_undoInBranch_17 : decode cX4_undoInBranch 17 = .ok (.astore_n 3, 1) := by decide +kernel
theorem dX4_undoInBranch_18 : decode cX4_undoInBranch 18 = .ok (.aload_n 3, 1) := by decide +kernel
theorem dX4_undoInBranch_19 : decode cX4_undoInBranch 19 = .ok (.dup, 1) := by decide +kernel
theorem dX4_undoInBranch_20 : decode cX4_undoInBranch 20 = .ok (.getfield 132, 3) := by decide +kernel
theorem dX4_undoInBranch_23 : decode cX4_undoInBranch 23 = .ok (.iconst 1, 1) := by decide +kernel
theorem dX4_undoInBranch_24 : decode cX4_undoInBranch 24 = .ok (.isub, 1) := by decide +kernel
theorem dX4_undoInBranch_25 : decode cX4_undoInBranch 25 = .ok (.putfield 132, 3) := by decide +kernel
theorem dX4_undoInBranch_28 : decode cX4_undoInBranch 28 = .ok (.aload_n 3, 1) := by decide +kernel
theorem dX4_undoInBranch_29 : decode cX4_undoInBranch 29 = .ok (.getfield 132, 3) := by decide +kernel
theorem dX4_undoInBranch_32 : decode cX4_undoInBranch 32 = .ok (.ifCond .gt 20, 3) := by decide +kernel
theorem dX4_undoInBranch_35 : decode cX4_undoInBranch 35 = .ok (.aload_n 0, 1) := by decide +kernel
theorem dX4_undoInBranch_36 : decode cX4_undoInBranch 36 = .ok (.dup, 1) := by decide +kernel
theorem dX4_undoInBranch_37 : decode cX4_undoInBranch 37 = .ok (.getfield 66, 3) := by decide +kernel
theorem dX4_undoInBranch_40 : decode cX4_undoInBranch 40 = .ok (.iconst 1, 1) := by decide +kernel
theorem dX4_undoInBranch_41 : decode cX4_undoInBranch 41 = .ok (.iadd, 1) := by decide +kernel
theorem dX4_undoInBranch_42 : decode cX4_undoInBranch 42 = .ok (.putfield 66, 3) := by decide +kernel
theorem dX4_undoInBranch_45 : decode cX4_undoInBranch 45 = .ok (.aload_n 0, 1) := by decide +kernel
theorem dX4_undoInBranch_46 : decode cX4_undoInBranch 46 = .ok (.iload_n 2, 1) := by decide +kernel
theorem dX4_undoInBranch_47 : decode cX4_undoInBranch 47 = .ok (.iconst 5, 1) := by decide +kernel
theorem dX4_undoInBranch_48 : decode cX4_undoInBranch 48 = .ok (.iconst 4, 1) := by decide +kernel
theorem dX4_undoInBranch_49 : decode cX4_undoInBranch 49 = .ok (.invokevirtual 77, 3) := by decide +kernel
theorem dX4_undoInBranch_52 : decode cX4_undoInBranch 52 = .ok (.return_, 1) := by decide +kernel
theorem dcX4_undoInBranch : yX4_undoInBranch.cls = RX4 ∧ yX4_undoInBranch.cls ≠ "java/lang/invoke/MethodHandle" ∧ yX4_undoInBranch.cls ≠ "java/lang/invoke/VarHandle" ∧ (parseMethodDescriptor yX4_undoInBranch.desc).map (fun d => d.parameters.length) = some 1 := by decide +kernel
theorem gX4_undoInBranch_2 : GoodIn wsL_law (wsV RX4 157 RX4 yX4_firstToUndo (.code yX4_firstToUndo cX4_firstToUndo 6 (some .int) :: wsL_law)) := g_V q379 q380 q381 q16 q382
theorem gX4_undoInBranch_49 : GoodIn wsL_law (wsV RX4 77 RX4 yX4_turn (.code yX4_turn cX4_turn 5 none :: wsL_law)) := g_V q305 q306 q307 q16 q308
set_option maxRecDepth 100000 in
set_option maxHeartbeats 4000000 in
theorem K_und {cA : Nat → ClassId} {ad : tA} {ex : va_W} {M : tM} {r : Nat} {P : tP} {b : Int32} (hr : isPlan r) (hoc : okc P) (ho : oke P) : Cj yX4_undoInBranch cX4_undoInBranch 4 none (rmd 1) 0 0 cA ad [.ref (ad r 0), .int b] ex (m_pl M r P) (Qe none ex (m_pl M r (f_und P b))) := by
  refine c_of_r (lv0 := [some (.ref (ad r 0)), some (.int b), none, none]) rfl (by decide +kernel) (Nat.le_of_ble_eq_true rfl) rfl ?_
  rcases ftu_c (b := b) hoc with ⟨hn, hn2⟩ | ⟨l, hl, hl2, he, he2, he3⟩
  · refine r_aload_n dX4_undoInBranch_0 rfl ?_
    refine r_iload_n dX4_undoInBranch_1 rfl ?_
    refine r_cVi dX4_undoInBranch_2 (K_ftu (by assumption) hoc.1 hoc.2) gX4_undoInBranch_2 dcX4_firstToUndo rfl rfl rfl (by decide) (ob_pl (by assumption)) ?_
    refine r_istore_n dX4_undoInBranch_5 (by decide) rfl ?_
    refine r_iload_n dX4_undoInBranch_6 rfl ?_
    refine r_if_ge (tgt := 11) dX4_undoInBranch_7 (by decide) (fun c7 => absurd c7 hn2) (fun c7 => ?_)
    exact r_retv rfl dX4_undoInBranch_10 (congrArg (m_pl M r) (ud_a hn2).symm)
  · refine r_aload_n dX4_undoInBranch_0 rfl ?_
    refine r_iload_n dX4_undoInBranch_1 rfl ?_
    refine r_cVi dX4_undoInBranch_2 (K_ftu (by assumption) hoc.1 hoc.2) gX4_undoInBranch_2 dcX4_firstToUndo rfl rfl rfl (by decide) (ob_pl (by assumption)) ?_
    refine r_istore_n dX4_undoInBranch_5 (by decide) rfl ?_
    refine r_iload_n dX4_undoInBranch_6 rfl ?_
    refine r_if_ge (tgt := 11) dX4_undoInBranch_7 (by decide) (fun c7 => ?_) (fun c7 => absurd he3 c7)
    refine r_aload_n dX4_undoInBranch_11 rfl ?_
    refine r_getp_pl (by assumption) 0 (by decide) q38 rfl dX4_undoInBranch_12 ?_
    refine r_iload_n dX4_undoInBranch_15 rfl ?_
    refine r_aldp_steps (by assumption) he hl2 dX4_undoInBranch_16 ?_
    refine r_astore_n dX4_undoInBranch_17 (by decide) rfl ?_
    refine r_aload_n dX4_undoInBranch_18 rfl ?_
    refine r_dup dX4_undoInBranch_19 rfl ?_
    refine r_getp_st (by assumption) (by omega) 7 (by decide) q309 rfl dX4_undoInBranch_20 ?_
    refine r_iconst (v := 1) dX4_undoInBranch_23 (by decide) ?_
    refine r_isub dX4_undoInBranch_24 ?_
    refine r_putp_st (by assumption) (by omega) 7 (by decide) q309 rfl rfl rfl rfl rfl dX4_undoInBranch_25 ?_
    refine r_aload_n dX4_undoInBranch_28 rfl ?_
    refine r_getp_st (by assumption) (by omega) 7 (by decide) q309 rfl dX4_undoInBranch_29 ?_
    refine r_if_gt (tgt := 52) dX4_undoInBranch_32 (by decide) (fun c32 => ?_) (fun c32 => ?_)
    · first | exact r_retv rfl dX4_undoInBranch_52 (congrArg (m_pl M r) (ud_b he3 he2 c32).symm) | exact r_retv rfl dX4_undoInBranch_52 (congrArg (m_pl M r) (ud_c he3 he2 c32).symm)
    · refine r_aload_n dX4_undoInBranch_35 rfl ?_
      refine r_dup dX4_undoInBranch_36 rfl ?_
      refine r_getp_pl (by assumption) 13 (by decide) q93 rfl dX4_undoInBranch_37 ?_
      refine r_iconst (v := 1) dX4_undoInBranch_40 (by decide) ?_
      refine r_iadd dX4_undoInBranch_41 ?_
      refine r_putp_pl (by assumption) 13 (by decide) q93 rfl rfl rfl rfl rfl dX4_undoInBranch_42 ?_
      refine r_aload_n dX4_undoInBranch_45 rfl ?_
      refine r_iload_n dX4_undoInBranch_46 rfl ?_
      refine r_iconst (v := 5) dX4_undoInBranch_47 (by decide) ?_
      refine r_iconst (v := 4) dX4_undoInBranch_48 (by decide) ?_
      refine r_cVv dX4_undoInBranch_49 ((he ▸ K_turn (n := l) (by assumption) hl2 ((kp_0 (k := 13) (by omega)).2.2.1 ((kp_st (k := 7) (by omega)).2.2.1 ho)))) gX4_undoInBranch_49 dcX4_turn rfl rfl rfl (by decide) (ob_pl (by assumption)) ?_
      first | exact r_retv rfl dX4_undoInBranch_52 (congrArg (m_pl M r) (ud_b he3 he2 c32).symm) | exact r_retv rfl dX4_undoInBranch_52 (congrArg (m_pl M r) (ud_c he3 he2 c32).symm)
theorem lo_a {n : Nat} {P : tP} {x : Int32} (h : ¬ 0 ≤ f_lowH P x) : lp_lo (n + 1) P x = P := if_neg h
theorem lo_b {n : Nat} {P : tP} {x : Int32} {l : Nat} (h : 0 ≤ f_lowH P x) (e : (f_lowH P x).toNatClampNeg = l) : lp_lo (n + 1) P x = lp_lo n (f_turn P l 6 5) (x ||| sh l) := by subst e; exact if_pos h
theorem dX4_leaveOutHopeless_0 : decode cX4_leaveOutHopeless 0 = .ok (.aload_n 0, 1) := by decide +kernel
theorem dX4_leaveOutHopeless_1 : decode cX4_leaveOutHopeless 1 = .ok (.invokevirtual 160, 3) := by decide +kernel
theorem dX4_leaveOutHopeless_4 : decode cX4_leaveOutHopeless 4 = .ok (.istore_n 1, 1) := by decide +kernel
theorem dX4_leaveOutHopeless_5 : decode cX4_leaveOutHopeless 5 = .ok (.iconst 0, 1) := by decide +kernel
theorem dX4_leaveOutHopeless_6 : decode cX4_leaveOutHopeless 6 = .ok (.istore_n 2, 1) := by decide +kernel
theorem dX4_leaveOutHopeless_7 : decode cX4_leaveOutHopeless 7 = .ok (.iload_n 2, 1) := by decide +kernel
theorem dX4_leaveOutHopeless_8 : decode cX4_leaveOutHopeless 8 = .ok (.bipush 12, 2) := by decide +kernel
theorem dX4_leaveOutHopeless_10 : decode cX4_leaveOutHopeless 10 = .ok (.if_icmp .ge 34, 3) := by decide +kernel
theorem dX4_leaveOutHopeless_13 : decode cX4_leaveOutHopeless 13 = .ok (.aload_n 0, 1) := by decide +kernel
theorem dX4_leaveOutHopeless_14 : decode cX4_leaveOutHopeless 14 = .ok (.iload_n 1, 1) := by decide +kernel
theorem dX4_leaveOutHopeless_15 : decode cX4_leaveOutHopeless 15 = .ok (.invokevirtual 164, 3) := by decide +kernel
theorem dX4_leaveOutHopeless_18 : decode cX4_leaveOutHopeless 18 = .ok (.istore_n 3, 1) := by decide +kernel
theorem dX4_leaveOutHopeless_19 : decode cX4_leaveOutHopeless 19 = .ok (.iload_n 3, 1) := by decide +kernel
theorem dX4_leaveOutHopeless_20 : decode cX4_leaveOutHopeless 20 = .ok (.ifCond .ge 4, 3) := by decide +kernel
theorem dX4_leaveOutHopeless_23 : decode cX4_leaveOutHopeless 23 = .ok (.return_, 1) := by decide +kernel
theorem dX4_leaveOutHopeless_24 : decode cX4_leaveOutHopeless 24 = .ok (.aload_n 0, 1) := by decide +kernel
theorem dX4_leaveOutHopeless_25 : decode cX4_leaveOutHopeless 25 = .ok (.iload_n 3, 1) := by decide +kernel
theorem dX4_leaveOutHopeless_26 : decode cX4_leaveOutHopeless 26 = .ok (.bipush 6, 2) := by decide +kernel
theorem dX4_leaveOutHopeless_28 : decode cX4_leaveOutHopeless 28 = .ok (.iconst 5, 1) := by decide +kernel
theorem dX4_leaveOutHopeless_29 : decode cX4_leaveOutHopeless 29 = .ok (.invokevirtual 77, 3) := by decide +kernel
theorem dX4_leaveOutHopeless_32 : decode cX4_leaveOutHopeless 32 = .ok (.iload_n 1, 1) := by decide +kernel
theorem dX4_leaveOutHopeless_33 : decode cX4_leaveOutHopeless 33 = .ok (.iconst 1, 1) := by decide +kernel
theorem dX4_leaveOutHopeless_34 : decode cX4_leaveOutHopeless 34 = .ok (.iload_n 3, 1) := by decide +kernel
theorem dX4_leaveOutHopeless_35 : decode cX4_leaveOutHopeless 35 = .ok (.ishl, 1) := by decide +kernel
theorem dX4_leaveOutHopeless_36 : decode cX4_leaveOutHopeless 36 = .ok (.ior, 1) := by decide +kernel
theorem dX4_leaveOutHopeless_37 : decode cX4_leaveOutHopeless 37 = .ok (.istore_n 1, 1) := by decide +kernel
theorem dX4_leaveOutHopeless_38 : decode cX4_leaveOutHopeless 38 = .ok (.iinc 2 1, 3) := by decide +kernel
theorem dX4_leaveOutHopeless_41 : decode cX4_leaveOutHopeless 41 = .ok (.goto (-34), 3) := by decide +kernel
theorem dX4_leaveOutHopeless_44 : decode cX4_leaveOutHopeless 44 = .ok (.return_, 1) := by decide +kernel
theorem dcX4_leaveOutHopeless : yX4_leaveOutHopeless.cls = RX4 ∧ yX4_leaveOutHopeless.cls ≠ "java/lang/invoke/MethodHandle" ∧ yX4_leaveOutHopeless.cls ≠ "java/lang/invoke/VarHandle" ∧ (parseMethodDescriptor yX4_leaveOutHopeless.desc).map (fun d => d.parameters.length) = some 0 := by decide +kernel
theorem gX4_leaveOutHopeless_15 : GoodIn wsL_law (wsV RX4 164 RX4 yX4_lowestHopeless (.code yX4_lowestHopeless cX4_lowestHopeless 3 (some .int) :: wsL_law)) := g_V q395 q396 q397 q16 q398
theorem gX4_leaveOutHopeless_29 : GoodIn wsL_law (wsV RX4 77 RX4 yX4_turn (.code yX4_turn cX4_turn 5 none :: wsL_law)) := g_V q305 q306 q307 q16 q308
theorem gX4_leaveOutHopeless_1 : GoodIn wsL_law (wsV RX4 160 RX4 yX4_setOfOff (.code yX4_setOfOff cX4_setOfOff 3 (some .int) :: wsL_law)) := g_V q387 q388 q389 q16 q390
set_option maxRecDepth 100000 in
set_option maxHeartbeats 4000000 in
theorem K_leave {cA : Nat → ClassId} {ad : tA} {ex : va_W} {M : tM} {r : Nat} {P0 : tP} (hr : isPlan r) (hoc : okc P0) (ho : oke P0) : Cj yX4_leaveOutHopeless cX4_leaveOutHopeless 4 none (rmd 3) 0 0 cA ad [.ref (ad r 0)] ex (m_pl M r P0) (Qe none ex (m_pl M r (f_leave P0))) := by
  refine c_of_r (lv0 := [some (.ref (ad r 0)), none, none, none]) rfl (by decide +kernel) (Nat.le_of_ble_eq_true rfl) rfl ?_
  have L : ∀ (n i : Nat) (P : tP) (x : Int32), i + n = 12 → ink P0 P → lp_lo n P x = f_leave P0 → Rj cX4_leaveOutHopeless RX4 4 none (rmd 3) 0 0 cA ad (Qe none ex (m_pl M r (f_leave P0))) ex 0 0 7 [some (.ref (ad r 0)), some (.int x), some (.int (nI i)), none] [] (m_pl M r P) := by
    intro n
    induction n with
    | zero =>
      intro i P x h hk hP
      refine r_iload_n dX4_leaveOutHopeless_7 rfl ?_
      refine r_bipush (v := 12) dX4_leaveOutHopeless_8 (by decide) ?_
      refine r_icmp_ge (tgt := 44) dX4_leaveOutHopeless_10 (by decide) (fun c10 => ?_) (fun c10 => absurd (lp_z (x := 12) (c := 12) rfl h) c10)
      exact r_retv rfl dX4_leaveOutHopeless_44 (by rw [← hP]; rfl)
    | succ n ih =>
      intro i P x h hk hP
      have ho : oke P := hk.2.1
      rcases lowH_c (d := x) hk.1 with ⟨hn, hn2⟩ | ⟨l, hl, hl2, he, he2, he3⟩
      · refine r_iload_n dX4_leaveOutHopeless_7 rfl ?_
        refine r_bipush (v := 12) dX4_leaveOutHopeless_8 (by decide) ?_
        refine r_icmp_ge (tgt := 44) dX4_leaveOutHopeless_10 (by decide) (fun c10 => absurd c10 (lp_s (x := 12) (c := 12) rfl (by omega) h)) (fun c10 => ?_)
        refine r_aload_n dX4_leaveOutHopeless_13 rfl ?_
        refine r_iload_n dX4_leaveOutHopeless_14 rfl ?_
        refine r_cVi dX4_leaveOutHopeless_15 (K_lowH (by assumption) hk.1.1 hk.1.2) gX4_leaveOutHopeless_15 dcX4_lowestHopeless rfl rfl rfl (by decide) (ob_pl (by assumption)) ?_
        refine r_istore_n dX4_leaveOutHopeless_18 (by decide) rfl ?_
        refine r_iload_n dX4_leaveOutHopeless_19 rfl ?_
        refine r_if_ge (tgt := 24) dX4_leaveOutHopeless_20 (by decide) (fun c20 => absurd c20 hn2) (fun c20 => ?_)
        exact r_retv rfl dX4_leaveOutHopeless_23 (by rw [← hP, lo_a hn2])
      · refine r_iload_n dX4_leaveOutHopeless_7 rfl ?_
        refine r_bipush (v := 12) dX4_leaveOutHopeless_8 (by decide) ?_
        refine r_icmp_ge (tgt := 44) dX4_leaveOutHopeless_10 (by decide) (fun c10 => absurd c10 (lp_s (x := 12) (c := 12) rfl (by omega) h)) (fun c10 => ?_)
        refine r_aload_n dX4_leaveOutHopeless_13 rfl ?_
        refine r_iload_n dX4_leaveOutHopeless_14 rfl ?_
        refine r_cVi dX4_leaveOutHopeless_15 (K_lowH (by assumption) hk.1.1 hk.1.2) gX4_leaveOutHopeless_15 dcX4_lowestHopeless rfl rfl rfl (by decide) (ob_pl (by assumption)) ?_
        refine r_istore_n dX4_leaveOutHopeless_18 (by decide) rfl ?_
        refine r_iload_n dX4_leaveOutHopeless_19 rfl ?_
        refine r_if_ge (tgt := 24) dX4_leaveOutHopeless_20 (by decide) (fun c20 => ?_) (fun c20 => absurd he3 c20)
        refine r_aload_n dX4_leaveOutHopeless_24 rfl ?_
        refine r_iload_n dX4_leaveOutHopeless_25 rfl ?_
        refine r_bipush (v := 6) dX4_leaveOutHopeless_26 (by decide) ?_
        refine r_iconst (v := 5) dX4_leaveOutHopeless_28 (by decide) ?_
        refine r_cVv dX4_leaveOutHopeless_29 ((he ▸ K_turn (n := l) (by assumption) hl2 ho)) gX4_leaveOutHopeless_29 dcX4_turn rfl rfl rfl (by decide) (ob_pl (by assumption)) ?_
        refine r_iload_n dX4_leaveOutHopeless_32 rfl ?_
        refine r_iconst (v := 1) dX4_leaveOutHopeless_33 (by decide) ?_
        refine r_iload_n dX4_leaveOutHopeless_34 rfl ?_
        refine r_ishl dX4_leaveOutHopeless_35 ?_
        refine r_ior dX4_leaveOutHopeless_36 ?_
        refine r_istore_n dX4_leaveOutHopeless_37 (by decide) rfl ?_
        refine r_iinc dX4_leaveOutHopeless_38 rfl ii_s (by decide) rfl ?_
        refine r_goto (tgt := 7) dX4_leaveOutHopeless_41 (by decide) ?_
        refine r_fgt 3 ?_
        rw [he]
        exact ih (i + 1) _ _ (by omega) ⟨kp_okc kp_turn hk.1, kp_turn.2.2.1 ho, (kp_cn kp_turn).trans hk.2.2⟩ (by rw [← hP, lo_b he3 he2]; rfl)
  refine r_aload_n dX4_leaveOutHopeless_0 rfl ?_
  refine r_cVi dX4_leaveOutHopeless_1 (K_setOff (by assumption) hoc.1 hoc.2) gX4_leaveOutHopeless_1 dcX4_setOfOff rfl rfl rfl (by decide) (ob_pl (by assumption)) ?_
  refine r_istore_n dX4_leaveOutHopeless_4 (by decide) rfl ?_
  refine r_iconst (v := 0) dX4_leaveOutHopeless_5 (by decide) ?_
  refine r_istore_n dX4_leaveOutHopeless_6 (by decide) rfl ?_
  exact L 12 0 P0 _ (by omega) ⟨hoc, ho, rfl⟩ rfl
theorem bg_a {d : Int32} {n : Nat} {P : tP} {x : Int32} (h : P 0 8 ≤ x) : lp_beg d (n + 1) P x = P := if_pos h
theorem bg_b {d : Int32} {n : Nat} {P : tP} {x : Int32} (h : ¬ P 0 8 ≤ x) (h2 : ¬ 0 ≤ f_ftb P d) : lp_beg d (n + 1) P x = P := (if_neg h).trans (if_neg h2)
theorem bg_c {d : Int32} {n : Nat} {P : tP} {x : Int32} {l : Nat} (h : ¬ P 0 8 ≤ x) (h2 : 0 ≤ f_ftb P d) (e : (f_ftb P d).toNatClampNeg = l) : lp_beg d (n + 1) P x = lp_beg d n (f_begin1 P l) (x + Int32.ofInt 1) := by subst e; exact (if_neg h).trans (if_pos h2)
theorem bg_x {P : tP} {x : Int32} {j n : Nat} (ho : okh P) (hj : x = nI j) (h : 5 ≤ j + (n + 1)) (hl : j < 128) (hz : n = 0) : P 0 8 ≤ x := by
  obtain ⟨h, h4, e⟩ := ho
  rw [e, hj]
  exact nI_le (by omega) (by omega)
theorem dX4_beginTries_0 : decode cX4_beginTries 0 = .ok (.aload_n 0, 1) := by decide +kernel
theorem dX4_beginTries_1 : decode cX4_beginTries 1 = .ok (.iconst 3, 1) := by decide +kernel
theorem dX4_beginTries_2 : decode cX4_beginTries 2 = .ok (.invokevirtual 96, 3) := by decide +kernel
theorem dX4_beginTries_5 : decode cX4_beginTries 5 = .ok (.istore_n 1, 1) := by decide +kernel
theorem dX4_beginTries_6 : decode cX4_beginTries 6 = .ok (.aload_n 0, 1) := by decide +kernel
theorem dX4_beginTries_7 : decode cX4_beginTries 7 = .ok (.iconst 1, 1) := by decide +kernel
theorem dX4_beginTries_8 : decode cX4_beginTries 8 = .ok (.invokevirtual 170, 3) := by decide +kernel
theorem dX4_beginTries_11 : decode cX4_beginTries 11 = .ok (.istore_n 2, 1) := by decide +kernel
theorem dX4_beginTries_12 : decode cX4_beginTries 12 = .ok (.iload_n 2, 1) := by decide +kernel
theorem dX4_beginTries_13 : decode cX4_beginTries 13 = .ok (.aload_n 0, 1) := by decide +kernel
theorem dX4_beginTries_14 : decode cX4_beginTries 14 = .ok (.getfield 24, 3) := by decide +kernel
theorem dX4_beginTries_17 : decode cX4_beginTries 17 = .ok (.if_icmp .ge 66, 3) := by decide +kernel
theorem dX4_beginTries_20 : decode cX4_beginTries 20 = .ok (.aload_n 0, 1) := by decide +kernel
theorem dX4_beginTries_21 : decode cX4_beginTries 21 = .ok (.iload_n 1, 1) := by decide +kernel
theorem dX4_beginTries_22 : decode cX4_beginTries 22 = .ok (.invokevirtual 173, 3) := by decide +kernel
theorem dX4_beginTries_25 : decode cX4_beginTries 25 = .ok (.istore_n 3, 1) := by decide +kernel
theorem dX4_beginTries_26 : decode cX4_beginTries 26 = .ok (.iload_n 3, 1) := by decide +kernel
theorem dX4_beginTries_27 : decode cX4_beginTries 27 = .ok (.ifCond .ge 4, 3) := by decide +kernel
theorem dX4_beginTries_30 : decode cX4_beginTries 30 = .ok (.return_, 1) := by decide +kernel
theorem dX4_beginTries_31 : decode cX4_beginTries 31 = .ok (.aload_n 0, 1) := by decide +kernel
theorem dX4_beginTries_32 : decode cX4_beginTries 32 = .ok (.getfield 11, 3) := by decide +kernel
theorem dX4_beginTries_35 : decode cX4_beginTries 35 = .ok (.iload_n 3, 1) := by decide +kernel
theorem dX4_beginTries_36 : decode cX4_beginTries 36 = .ok (.aaload, 1) := by decide +kernel
theorem dX4_beginTries_37 : decode cX4_beginTries 37 = .ok (.astore 4, 2) := by decide +kernel
theorem dX4_beginTries_39 : decode cX4_beginTries 39 = .ok (.aload 4, 2) := by decide +kernel
theorem dX4_beginTries_41 : decode cX4_beginTries 41 = .ok (.dup, 1) := by decide +kernel
theorem dX4_beginTries_42 : decode cX4_beginTries 42 = .ok (.getfield 123, 3) := by decide +kernel
theorem dX4_beginTries_45 : decode cX4_beginTries 45 = .ok (.iconst 1, 1) := by decide +kernel
theorem dX4_beginTries_46 : decode cX4_beginTries 46 = .ok (.iadd, 1) := by decide +kernel
theorem dX4_beginTries_47 : decode cX4_beginTries 47 = .ok (.putfield 123, 3) := by decide +kernel
theorem dX4_beginTries_50 : decode cX4_beginTries 50 = .ok (.aload_n 0, 1) := by decide +kernel
theorem dX4_beginTries_51 : decode cX4_beginTries 51 = .ok (.dup, 1) := by decide +kernel
theorem dX4_beginTries_52 : decode cX4_beginTries 52 = .ok (.getfield 57, 3) := by decide +kernel
theorem dX4_beginTries_55 : decode cX4_beginTries 55 = .ok (.iconst 1, 1) := by decide +kernel
theorem dX4_beginTries_56 : decode cX4_beginTries 56 = .ok (.iadd, 1) := by decide +kernel
theorem dX4_beginTries_57 : decode cX4_beginTries 57 = .ok (.putfield 57, 3) := by decide +kernel
theorem dX4_beginTries_60 : decode cX4_beginTries 60 = .ok (.aload_n 0, 1) := by decide +kernel
theorem dX4_beginTries_61 : decode cX4_beginTries 61 = .ok (.iload_n 3, 1) := by decide +kernel
theorem dX4_beginTries_62 : decode cX4_beginTries 62 = .ok (.iconst 1, 1) := by decide +kernel
theorem dX4_beginTries_63 : decode cX4_beginTries 63 = .ok (.iconst 0, 1) := by decide +kernel
theorem dX4_beginTries_64 : decode cX4_beginTries 64 = .ok (.invokevirtual 77, 3) := by decide +kernel
theorem dX4_beginTries_67 : decode cX4_beginTries 67 = .ok (.aload 4, 2) := by decide +kernel
theorem dX4_beginTries_69 : decode cX4_beginTries 69 = .ok (.aload 4, 2) := by decide +kernel
theorem dX4_beginTries_71 : decode cX4_beginTries 71 = .ok (.getfield 126, 3) := by decide +kernel
theorem dX4_beginTries_74 : decode cX4_beginTries 74 = .ok (.putfield 132, 3) := by decide +kernel
theorem dX4_beginTries_77 : decode cX4_beginTries 77 = .ok (.iinc 2 1, 3) := by decide +kernel
theorem dX4_beginTries_80 : decode cX4_beginTries 80 = .ok (.goto (-68), 3) := by decide +kernel
theorem dX4_beginTries_83 : decode cX4_beginTries 83 = .ok (.return_, 1) := by decide +kernel
theorem dcX4_beginTries : yX4_beginTries.cls = RX4 ∧ yX4_beginTries.cls ≠ "java/lang/invoke/MethodHandle" ∧ yX4_beginTries.cls ≠ "java/lang/invoke/VarHandle" ∧ (parseMethodDescriptor yX4_beginTries.desc).map (fun d => d.parameters.length) = some 0 := by decide +kernel
theorem gX4_beginTries_22 : GoodIn wsL_law (wsV RX4 173 RX4 yX4_firstToBegin (.code yX4_firstToBegin cX4_firstToBegin 6 (some .int) :: wsL_law)) := g_V q409 q410 q411 q16 q412
theorem gX4_beginTries_64 : GoodIn wsL_law (wsV RX4 77 RX4 yX4_turn (.code yX4_turn cX4_turn 5 none :: wsL_law)) := g_V q305 q306 q307 q16 q308
theorem gX4_beginTries_2 : GoodIn wsL_law (wsV RX4 96 RX4 yX4_setOf (.code yX4_setOf cX4_setOf 4 (some .int) :: wsL_law)) := g_V q164 q165 q166 q16 q167
theorem gX4_beginTries_8 : GoodIn wsL_law (wsV RX4 170 RX4 yX4_countOf (.code yX4_countOf cX4_countOf 2 (some .int) :: wsL_law)) := g_V q408 q161 q162 q16 q163
set_option maxRecDepth 100000 in
set_option maxHeartbeats 4000000 in
theorem K_begin {cA : Nat → ClassId} {ad : tA} {ex : va_W} {M : tM} {r : Nat} {P0 : tP} (hr : isPlan r) (hoc : okc P0) (ho : oke P0) (hoh : okh P0) : Cj yX4_beginTries cX4_beginTries 5 none (rmd 2) 0 0 cA ad [.ref (ad r 0)] ex (m_pl M r P0) (Qe none ex (m_pl M r (f_begin P0))) := by
  refine c_of_r (lv0 := [some (.ref (ad r 0)), none, none, none, none]) rfl (by decide +kernel) (Nat.le_of_ble_eq_true rfl) rfl ?_
  obtain ⟨j0, hj0, hj1⟩ := f_bc_pos (x := f_setOf P0 1)
  have L : ∀ (n j : Nat) (P : tP), 5 ≤ j + n → j < 100 - n → ink P0 P → okh P → lp_beg (f_setOf P0 3) n P (nI j) = f_begin P0 → Rj cX4_beginTries RX4 5 none (rmd 2) 0 0 cA ad (Qe none ex (m_pl M r (f_begin P0))) ex 0 0 12 [some (.ref (ad r 0)), some (.int (f_setOf P0 3)), some (.int (nI j)), none, none] [] (m_pl M r P) := by
    intro n
    induction n with
    | zero =>
      intro j P h h1 hk hh hP
      have hz : P 0 8 ≤ nI j := by obtain ⟨a, b, e⟩ := hh; rw [e]; exact nI_le (by omega) (by omega)
      refine r_iload_n dX4_beginTries_12 rfl ?_
      refine r_aload_n dX4_beginTries_13 rfl ?_
      refine r_getp_pl (by assumption) 8 (by decide) q42 rfl dX4_beginTries_14 ?_
      refine r_icmp_ge (tgt := 83) dX4_beginTries_17 (by decide) (fun c17 => ?_) (fun c17 => absurd hz c17)
      exact r_retv rfl dX4_beginTries_83 (by rw [← hP]; rfl)
    | succ n ih =>
      intro j P h h1 hk hh hP
      have ho : oke P := hk.2.1
      rcases ftb_c (d := f_setOf P0 3) hk.1 with ⟨hn, hn2⟩ | ⟨l, hl, hl2, he, he2, he3⟩
      · refine r_iload_n dX4_beginTries_12 rfl ?_
        refine r_aload_n dX4_beginTries_13 rfl ?_
        refine r_getp_pl (by assumption) 8 (by decide) q42 rfl dX4_beginTries_14 ?_
        refine r_icmp_ge (tgt := 83) dX4_beginTries_17 (by decide) (fun c17 => ?_) (fun c17 => ?_)
        · exact r_retv rfl dX4_beginTries_83 (by rw [← hP, bg_a c17])
        · refine r_aload_n dX4_beginTries_20 rfl ?_
          refine r_iload_n dX4_beginTries_21 rfl ?_
          refine r_cVi dX4_beginTries_22 (K_ftb (by assumption) hk.1.1 hk.1.2) gX4_beginTries_22 dcX4_firstToBegin rfl rfl rfl (by decide) (ob_pl (by assumption)) ?_
          refine r_istore_n dX4_beginTries_25 (by decide) rfl ?_
          refine r_iload_n dX4_beginTries_26 rfl ?_
          refine r_if_ge (tgt := 31) dX4_beginTries_27 (by decide) (fun c27 => absurd c27 hn2) (fun c27 => ?_)
          exact r_retv rfl dX4_beginTries_30 (by rw [← hP, bg_b c17 hn2])
      · refine r_iload_n dX4_beginTries_12 rfl ?_
        refine r_aload_n dX4_beginTries_13 rfl ?_
        refine r_getp_pl (by assumption) 8 (by decide) q42 rfl dX4_beginTries_14 ?_
        refine r_icmp_ge (tgt := 83) dX4_beginTries_17 (by decide) (fun c17 => ?_) (fun c17 => ?_)
        · exact r_retv rfl dX4_beginTries_83 (by rw [← hP, bg_a c17])
        · refine r_aload_n dX4_beginTries_20 rfl ?_
          refine r_iload_n dX4_beginTries_21 rfl ?_
          refine r_cVi dX4_beginTries_22 (K_ftb (by assumption) hk.1.1 hk.1.2) gX4_beginTries_22 dcX4_firstToBegin rfl rfl rfl (by decide) (ob_pl (by assumption)) ?_
          refine r_istore_n dX4_beginTries_25 (by decide) rfl ?_
          refine r_iload_n dX4_beginTries_26 rfl ?_
          refine r_if_ge (tgt := 31) dX4_beginTries_27 (by decide) (fun c27 => ?_) (fun c27 => absurd he3 c27)
          refine r_aload_n dX4_beginTries_31 rfl ?_
          refine r_getp_pl (by assumption) 0 (by decide) q38 rfl dX4_beginTries_32 ?_
          refine r_iload_n dX4_beginTries_35 rfl ?_
          refine r_aldp_steps (by assumption) he hl2 dX4_beginTries_36 ?_
          refine r_astore dX4_beginTries_37 (by decide) rfl ?_
          refine r_aload dX4_beginTries_39 rfl ?_
          refine r_dup dX4_beginTries_41 rfl ?_
          refine r_getp_st (by assumption) (by omega) 8 (by decide) q372 rfl dX4_beginTries_42 ?_
          refine r_iconst (v := 1) dX4_beginTries_45 (by decide) ?_
          refine r_iadd dX4_beginTries_46 ?_
          refine r_putp_st (by assumption) (by omega) 8 (by decide) q372 rfl rfl rfl rfl rfl dX4_beginTries_47 ?_
          refine r_aload_n dX4_beginTries_50 rfl ?_
          refine r_dup dX4_beginTries_51 rfl ?_
          refine r_getp_pl (by assumption) 10 (by decide) q90 rfl dX4_beginTries_52 ?_
          refine r_iconst (v := 1) dX4_beginTries_55 (by decide) ?_
          refine r_iadd dX4_beginTries_56 ?_
          refine r_putp_pl (by assumption) 10 (by decide) q90 rfl rfl rfl rfl rfl dX4_beginTries_57 ?_
          refine r_aload_n dX4_beginTries_60 rfl ?_
          refine r_iload_n dX4_beginTries_61 rfl ?_
          refine r_iconst (v := 1) dX4_beginTries_62 (by decide) ?_
          refine r_iconst (v := 0) dX4_beginTries_63 (by decide) ?_
          refine r_cVv dX4_beginTries_64 ((he ▸ K_turn (n := l) (by assumption) hl2 ((kp_0 (k := 10) (by omega)).2.2.1 ((kp_st (k := 8) (by omega)).2.2.1 ho)))) gX4_beginTries_64 dcX4_turn rfl rfl rfl (by decide) (ob_pl (by assumption)) ?_
          refine r_aload dX4_beginTries_67 rfl ?_
          refine r_aload dX4_beginTries_69 rfl ?_
          refine r_getp_st (by assumption) (by omega) 0 (by decide) q346 rfl dX4_beginTries_71 ?_
          refine r_putp_st (by assumption) (by omega) 7 (by decide) q309 rfl rfl rfl rfl rfl dX4_beginTries_74 ?_
          refine r_iinc dX4_beginTries_77 rfl ii_s (by decide) rfl ?_
          refine r_goto (tgt := 12) dX4_beginTries_80 (by decide) ?_
          refine r_fgt 3 ?_
          refine r_fgt 4 ?_
          exact ih (j + 1) _ (by omega) (by omega) ⟨kp_okc kp_begin1 hk.1, kp_begin1.2.2.1 ho, (kp_cn kp_begin1).trans hk.2.2⟩ (kp_okh kp_begin1 hh) (by rw [← hP, bg_c c17 he3 he2, ii_s]; rfl)
  refine r_aload_n dX4_beginTries_0 rfl ?_
  refine r_iconst (v := 3) dX4_beginTries_1 (by decide) ?_
  refine r_cVi dX4_beginTries_2 (K_setOf (by assumption) hoc.1 hoc.2) gX4_beginTries_2 dcX4_setOf rfl rfl rfl (by decide) (ob_pl (by assumption)) ?_
  refine r_istore_n dX4_beginTries_5 (by decide) rfl ?_
  refine r_aload_n dX4_beginTries_6 rfl ?_
  refine r_iconst (v := 1) dX4_beginTries_7 (by decide) ?_
  refine r_cVi dX4_beginTries_8 (K_countOf (by assumption) hoc.1 hoc.2) gX4_beginTries_8 dcX4_countOf rfl rfl rfl (by decide) (ob_pl (by assumption)) ?_
  refine r_istore_n dX4_beginTries_11 (by decide) rfl ?_
  rw [show f_countOf P0 1 = nI j0 from hj1]
  exact L 5 j0 P0 (by omega) (by omega) ⟨hoc, ho, rfl⟩ hoh (by rw [← hj1]; rfl)
theorem pd_4 {b n : Nat} (h : b + (n + 1) = 4) : ¬ (3 : Int32) < nI b := nI_nlt (b := b) (a := 3) (by omega) (by omega)
theorem pd_z {b : Nat} (h : b + 0 = 4) : (3 : Int32) < nI b := nI_lt (a := 3) (b := b) (by omega) (by omega)
theorem ld_a {n b : Nat} {P : tP} (h : f_isCancelled P (nI b) = false) : lp_und (n + 1) b P = lp_und n (b + 1) P := by rw [lp_und, h, if_neg (by decide)]
theorem ld_b {n b : Nat} {P : tP} (h : f_isCancelled P (nI b) = true) : lp_und (n + 1) b P = lp_und n (b + 1) (f_und P (nI b)) := by rw [lp_und, h, if_pos rfl]
def inh (P0 P : tP) : Prop := okc P ∧ oke P ∧ cn P = cn P0 ∧ okh P
theorem inh_kp {P0 P P' : tP} (h : kp P P') (k : inh P0 P) : inh P0 P' := ⟨kp_okc h k.1, h.2.2.1 k.2.1, (kp_cn h).trans k.2.2.1, kp_okh h k.2.2.2⟩
theorem dX4_passDay_0 : decode cX4_passDay 0 = .ok (.iconst 0, 1) := by decide +kernel
theorem dX4_passDay_1 : decode cX4_passDay 1 = .ok (.istore_n 1, 1) := by decide +kernel
theorem dX4_passDay_2 : decode cX4_passDay 2 = .ok (.iload_n 1, 1) := by decide +kernel
theorem dX4_passDay_3 : decode cX4_passDay 3 = .ok (.aload_n 0, 1) := by decide +kernel
theorem dX4_passDay_4 : decode cX4_passDay 4 = .ok (.getfield 29, 3) := by decide +kernel
theorem dX4_passDay_7 : decode cX4_passDay 7 = .ok (.if_icmp .ge 14, 3) := by decide +kernel
theorem dX4_passDay_10 : decode cX4_passDay 10 = .ok (.aload_n 0, 1) := by decide +kernel
theorem dX4_passDay_11 : decode cX4_passDay 11 = .ok (.iload_n 1, 1) := by decide +kernel
theorem dX4_passDay_12 : decode cX4_passDay 12 = .ok (.invokevirtual 135, 3) := by decide +kernel
theorem dX4_passDay_15 : decode cX4_passDay 15 = .ok (.iinc 1 1, 3) := by decide +kernel
theorem dX4_passDay_18 : decode cX4_passDay 18 = .ok (.goto (-16), 3) := by decide +kernel
theorem dX4_passDay_21 : decode cX4_passDay 21 = .ok (.iconst 1, 1) := by decide +kernel
theorem dX4_passDay_22 : decode cX4_passDay 22 = .ok (.istore_n 1, 1) := by decide +kernel
theorem dX4_passDay_23 : decode cX4_passDay 23 = .ok (.iload_n 1, 1) := by decide +kernel
theorem dX4_passDay_24 : decode cX4_passDay 24 = .ok (.iconst 3, 1) := by decide +kernel
theorem dX4_passDay_25 : decode cX4_passDay 25 = .ok (.if_icmp .gt 22, 3) := by decide +kernel
theorem dX4_passDay_28 : decode cX4_passDay 28 = .ok (.aload_n 0, 1) := by decide +kernel
theorem dX4_passDay_29 : decode cX4_passDay 29 = .ok (.iload_n 1, 1) := by decide +kernel
theorem dX4_passDay_30 : decode cX4_passDay 30 = .ok (.invokevirtual 73, 3) := by decide +kernel
theorem dX4_passDay_33 : decode cX4_passDay 33 = .ok (.ifCond .eq 8, 3) := by decide +kernel
theorem dX4_passDay_36 : decode cX4_passDay 36 = .ok (.aload_n 0, 1) := by decide +kernel
theorem dX4_passDay_37 : decode cX4_passDay 37 = .ok (.iload_n 1, 1) := by decide +kernel
theorem dX4_passDay_38 : decode cX4_passDay 38 = .ok (.invokevirtual 139, 3) := by decide +kernel
theorem dX4_passDay_41 : decode cX4_passDay 41 = .ok (.iinc 1 1, 3) := by decide +kernel
theorem dX4_passDay_44 : decode cX4_passDay 44 = .ok (.goto (-21), 3) := by decide +kernel
theorem dX4_passDay_47 : decode cX4_passDay 47 = .ok (.aload_n 0, 1) := by decide +kernel
theorem dX4_passDay_48 : decode cX4_passDay 48 = .ok (.invokevirtual 142, 3) := by decide +kernel
theorem dX4_passDay_51 : decode cX4_passDay 51 = .ok (.aload_n 0, 1) := by decide +kernel
theorem dX4_passDay_52 : decode cX4_passDay 52 = .ok (.invokevirtual 145, 3) := by decide +kernel
theorem dX4_passDay_55 : decode cX4_passDay 55 = .ok (.aload_n 0, 1) := by decide +kernel
theorem dX4_passDay_56 : decode cX4_passDay 56 = .ok (.dup, 1) := by decide +kernel
theorem dX4_passDay_57 : decode cX4_passDay 57 = .ok (.getfield 51, 3) := by decide +kernel
theorem dX4_passDay_60 : decode cX4_passDay 60 = .ok (.iconst 1, 1) := by decide +kernel
theorem dX4_passDay_61 : decode cX4_passDay 61 = .ok (.iadd, 1) := by decide +kernel
theorem dX4_passDay_62 : decode cX4_passDay 62 = .ok (.putfield 51, 3) := by decide +kernel
theorem dX4_passDay_65 : decode cX4_passDay 65 = .ok (.return_, 1) := by decide +kernel
theorem dcX4_passDay : yX4_passDay.cls = RX4 ∧ yX4_passDay.cls ≠ "java/lang/invoke/MethodHandle" ∧ yX4_passDay.cls ≠ "java/lang/invoke/VarHandle" ∧ (parseMethodDescriptor yX4_passDay.desc).map (fun d => d.parameters.length) = some 0 := by decide +kernel
theorem gX4_passDay_48 : GoodIn wsL_law (wsV RX4 142 RX4 yX4_leaveOutHopeless (.code yX4_leaveOutHopeless cX4_leaveOutHopeless 4 none :: wsL_law)) := g_V q383 q384 q385 q16 q386
theorem gX4_passDay_52 : GoodIn wsL_law (wsV RX4 145 RX4 yX4_beginTries (.code yX4_beginTries cX4_beginTries 5 none :: wsL_law)) := g_V q404 q405 q406 q16 q407
theorem gX4_passDay_30 : GoodIn wsL_law (wsV RX4 73 RX4 yX4_isCancelled (.code yX4_isCancelled cX4_isCancelled 2 (some .boolean) :: wsL_law)) := g_V q301 q302 q303 q16 q304
theorem gX4_passDay_38 : GoodIn wsL_law (wsV RX4 139 RX4 yX4_undoInBranch (.code yX4_undoInBranch cX4_undoInBranch 4 none :: wsL_law)) := g_V q375 q376 q377 q16 q378
theorem gX4_passDay_12 : GoodIn wsL_law (wsV RX4 135 RX4 yX4_workOn (.code yX4_workOn cX4_workOn 3 none :: wsL_law)) := g_V q366 q367 q368 q16 q369
set_option maxRecDepth 100000 in
set_option maxHeartbeats 4000000 in
theorem K_pass {cA : Nat → ClassId} {ad : tA} {ex : va_W} {M : tM} {r : Nat} {P0 : tP} (hr : isPlan r) (hoc : okc P0) (ho : oke P0) (hoh : okh P0) : Cj yX4_passDay cX4_passDay 2 none (rmd 4) 0 0 cA ad [.ref (ad r 0)] ex (m_pl M r P0) (Qe none ex (m_pl M r (f_pass P0))) := by
  refine c_of_r (lv0 := [some (.ref (ad r 0)), none]) rfl (by decide +kernel) (Nat.le_of_ble_eq_true rfl) rfl ?_
  have L2 : ∀ (n b : Nat) (P : tP), b + n = 4 → inh P0 P → lp_und n b P = lp_und 3 1 (lp_work (cn P0) 0 P0) → Rj cX4_passDay RX4 2 none (rmd 4) 0 0 cA ad (Qe none ex (m_pl M r (f_pass P0))) ex 0 0 23 [some (.ref (ad r 0)), some (.int (nI b))] [] (m_pl M r P) := by
    intro n
    induction n with
    | zero =>
      intro b P h hk hP
      have k3 : inh P0 (f_leave P) := inh_kp (kp_lo _ _ _) hk
      have k4 : inh P0 (f_begin (f_leave P)) := inh_kp (kp_beg _ _ _) k3
      refine r_iload_n dX4_passDay_23 rfl ?_
      refine r_iconst (v := 3) dX4_passDay_24 (by decide) ?_
      refine r_icmp_gt (tgt := 47) dX4_passDay_25 (by decide) (fun c25 => ?_) (fun c25 => absurd (pd_z h) c25)
      refine r_aload_n dX4_passDay_47 rfl ?_
      refine r_cVv dX4_passDay_48 (K_leave (by assumption) hk.1 hk.2.1) gX4_passDay_48 dcX4_leaveOutHopeless rfl rfl rfl (by decide) (ob_pl (by assumption)) ?_
      refine r_aload_n dX4_passDay_51 rfl ?_
      refine r_cVv dX4_passDay_52 (K_begin (by assumption) k3.1 k3.2.1 k3.2.2.2) gX4_passDay_52 dcX4_beginTries rfl rfl rfl (by decide) (ob_pl (by assumption)) ?_
      refine r_aload_n dX4_passDay_55 rfl ?_
      refine r_dup dX4_passDay_56 rfl ?_
      refine r_getp_pl (by assumption) 7 (by decide) q88 rfl dX4_passDay_57 ?_
      refine r_iconst (v := 1) dX4_passDay_60 (by decide) ?_
      refine r_iadd dX4_passDay_61 ?_
      refine r_putp_pl (by assumption) 7 (by decide) q88 rfl rfl rfl rfl rfl dX4_passDay_62 ?_
      exact r_retv rfl dX4_passDay_65 (by rw [f_pass, ← hP]; rfl)
    | succ n ih =>
      intro b P h hk hP
      refine r_iload_n dX4_passDay_23 rfl ?_
      refine r_iconst (v := 3) dX4_passDay_24 (by decide) ?_
      refine r_icmp_gt (tgt := 47) dX4_passDay_25 (by decide) (fun c25 => absurd c25 (pd_4 h)) (fun c25 => ?_)
      refine r_aload_n dX4_passDay_28 rfl ?_
      refine r_iload_n dX4_passDay_29 rfl ?_
      refine r_cVi dX4_passDay_30 (K_isCancelled (by assumption)) gX4_passDay_30 dcX4_isCancelled rfl rfl rfl (by decide) (ob_pl (by assumption)) ?_
      refine r_if_eq (tgt := 41) dX4_passDay_33 (by decide) (fun c33 => ?_) (fun c33 => ?_)
      · refine r_iinc dX4_passDay_41 rfl ii_s (by decide) rfl ?_
        refine r_goto (tgt := 23) dX4_passDay_44 (by decide) ?_
        exact ih (b + 1) _ (by omega) (by first | exact hk | exact inh_kp kp_und hk) (by rw [← hP]; first | exact (ld_a (bI_0 c33)).symm | exact (ld_b (bI_1 c33)).symm)
      · refine r_aload_n dX4_passDay_36 rfl ?_
        refine r_iload_n dX4_passDay_37 rfl ?_
        refine r_cVv dX4_passDay_38 (K_und (by assumption) hk.1 hk.2.1) gX4_passDay_38 dcX4_undoInBranch rfl rfl rfl (by decide) (ob_pl (by assumption)) ?_
        refine r_iinc dX4_passDay_41 rfl ii_s (by decide) rfl ?_
        refine r_goto (tgt := 23) dX4_passDay_44 (by decide) ?_
        exact ih (b + 1) _ (by omega) (by first | exact hk | exact inh_kp kp_und hk) (by rw [← hP]; first | exact (ld_a (bI_0 c33)).symm | exact (ld_b (bI_1 c33)).symm)
  have L1 : ∀ (n i : Nat) (P : tP), i + n = cn P0 → inh P0 P → lp_work n i P = lp_work (cn P0) 0 P0 → Rj cX4_passDay RX4 2 none (rmd 4) 0 0 cA ad (Qe none ex (m_pl M r (f_pass P0))) ex 0 0 2 [some (.ref (ad r 0)), some (.int (nI i))] [] (m_pl M r P) := by
    intro n
    induction n with
    | zero =>
      intro i P h hk hP
      have hx : P 0 1 = nI (cn P0) := by rw [← hk.2.2.1]; exact hk.1.1
      refine r_iload_n dX4_passDay_2 rfl ?_
      refine r_aload_n dX4_passDay_3 rfl ?_
      refine r_getp_pl (by assumption) 1 (by decide) q80 rfl dX4_passDay_4 ?_
      refine r_icmp_ge (tgt := 21) dX4_passDay_7 (by decide) (fun c7 => ?_) (fun c7 => absurd (lp_z hx h) c7)
      refine r_iconst (v := 1) dX4_passDay_21 (by decide) ?_
      refine r_istore_n dX4_passDay_22 (by decide) rfl ?_
      exact L2 3 1 P (by omega) hk (by rw [← hP]; rfl)
    | succ n ih =>
      intro i P h hk hP
      have hx : P 0 1 = nI (cn P0) := by rw [← hk.2.2.1]; exact hk.1.1
      have hc2 : cn P0 ≤ 12 := by rw [← hk.2.2.1]; exact hk.1.2
      refine r_iload_n dX4_passDay_2 rfl ?_
      refine r_aload_n dX4_passDay_3 rfl ?_
      refine r_getp_pl (by assumption) 1 (by decide) q80 rfl dX4_passDay_4 ?_
      refine r_icmp_ge (tgt := 21) dX4_passDay_7 (by decide) (fun c7 => absurd c7 (lp_s hx hc2 h)) (fun c7 => ?_)
      refine r_aload_n dX4_passDay_10 rfl ?_
      refine r_iload_n dX4_passDay_11 rfl ?_
      refine r_cVv dX4_passDay_12 (K_work (i := i) (by assumption) (by omega) hk.1 hk.2.1) gX4_passDay_12 dcX4_workOn rfl rfl rfl (by decide) (ob_pl (by assumption)) ?_
      refine r_iinc dX4_passDay_15 rfl ii_s (by decide) rfl ?_
      refine r_goto (tgt := 2) dX4_passDay_18 (by decide) ?_
      exact ih (i + 1) _ (by omega) (inh_kp kp_work hk) hP
  refine r_iconst (v := 0) dX4_passDay_0 (by decide) ?_
  refine r_istore_n dX4_passDay_1 (by decide) rfl ?_
  exact L1 (cn P0) 0 P0 (by omega) ⟨hoc, ho, rfl, hoh⟩ rfl
theorem dX4_lateBy_0 : decode cX4_lateBy 0 = .ok (.aload_n 0, 1) := by decide +kernel
theorem dX4_lateBy_1 : decode cX4_lateBy 1 = .ok (.getfield 11, 3) := by decide +kernel
theorem dX4_lateBy_4 : decode cX4_lateBy 4 = .ok (.aload_n 0, 1) := by decide +kernel
theorem dX4_lateBy_5 : decode cX4_lateBy 5 = .ok (.getfield 17, 3) := by decide +kernel
theorem dX4_lateBy_8 : decode cX4_lateBy 8 = .ok (.iload_n 1, 1) := by decide +kernel
theorem dX4_lateBy_9 : decode cX4_lateBy 9 = .ok (.iaload, 1) := by decide +kernel
theorem dX4_lateBy_10 : decode cX4_lateBy 10 = .ok (.aaload, 1) := by decide +kernel
theorem dX4_lateBy_11 : decode cX4_lateBy 11 = .ok (.astore_n 2, 1) := by decide +kernel
theorem dX4_lateBy_12 : decode cX4_lateBy 12 = .ok (.aload_n 2, 1) := by decide +kernel
theorem dX4_lateBy_13 : decode cX4_lateBy 13 = .ok (.getfield 84, 3) := by decide +kernel
theorem dX4_lateBy_16 : decode cX4_lateBy 16 = .ok (.iconst 3, 1) := by decide +kernel
theorem dX4_lateBy_17 : decode cX4_lateBy 17 = .ok (.if_icmp .ne 10, 3) := by decide +kernel
theorem dX4_lateBy_20 : decode cX4_lateBy 20 = .ok (.aload_n 2, 1) := by decide +kernel
theorem dX4_lateBy_21 : decode cX4_lateBy 21 = .ok (.getfield 87, 3) := by decide +kernel
theorem dX4_lateBy_24 : decode cX4_lateBy 24 = .ok (.goto 7, 3) := by decide +kernel
theorem dX4_lateBy_27 : decode cX4_lateBy 27 = .ok (.aload_n 0, 1) := by decide +kernel
theorem dX4_lateBy_28 : decode cX4_lateBy 28 = .ok (.getfield 51, 3) := by decide +kernel
theorem dX4_lateBy_31 : decode cX4_lateBy 31 = .ok (.istore_n 3, 1) := by decide +kernel
theorem dX4_lateBy_32 : decode cX4_lateBy 32 = .ok (.iconst 0, 1) := by decide +kernel
theorem dX4_lateBy_33 : decode cX4_lateBy 33 = .ok (.iload_n 3, 1) := by decide +kernel
theorem dX4_lateBy_34 : decode cX4_lateBy 34 = .ok (.aload_n 2, 1) := by decide +kernel
theorem dX4_lateBy_35 : decode cX4_lateBy 35 = .ok (.getfield 81, 3) := by decide +kernel
theorem dX4_lateBy_38 : decode cX4_lateBy 38 = .ok (.isub, 1) := by decide +kernel
theorem dX4_lateBy_39 : decode cX4_lateBy 39 = .ok (.invokestatic 90, 3) := by decide +kernel
theorem dX4_lateBy_42 : decode cX4_lateBy 42 = .ok (.ireturn, 1) := by decide +kernel
theorem dcX4_lateBy : yX4_lateBy.cls = RX4 ∧ yX4_lateBy.cls ≠ "java/lang/invoke/MethodHandle" ∧ yX4_lateBy.cls ≠ "java/lang/invoke/VarHandle" ∧ (parseMethodDescriptor yX4_lateBy.desc).map (fun d => d.parameters.length) = some 1 := by decide +kernel
set_option maxRecDepth 100000 in
set_option maxHeartbeats 4000000 in
theorem K_lateBy {cA : Nat → ClassId} {ad : tA} {ex : va_W} {M : tM} {r : Nat} {P : tP} {k m : Nat} (hr : isPlan r) (hk : k < 4) (hm : P 2 k = nI m) (hm2 : m < 12) : Cj yX4_lateBy cX4_lateBy 4 (some .int) (rmd 1) 0 0 cA ad [.ref (ad r 0), .int (nI k)] ex (m_pl M r P) (Qe (some (.int (f_lateBy P k m))) ex (m_pl M r P)) := by
  refine c_of_r (lv0 := [some (.ref (ad r 0)), some (.int (nI k)), none, none]) rfl (by decide +kernel) (Nat.le_of_ble_eq_true rfl) rfl ?_
  refine r_aload_n dX4_lateBy_0 rfl ?_
  refine r_getp_pl (by assumption) 0 (by decide) q38 rfl dX4_lateBy_1 ?_
  refine r_aload_n dX4_lateBy_4 rfl ?_
  refine r_getp_pl (by assumption) 2 (by decide) q40 rfl dX4_lateBy_5 ?_
  refine r_iload_n dX4_lateBy_8 rfl ?_
  refine r_ldp_mi (by assumption) rfl hk dX4_lateBy_9 ?_
  refine r_aldp_steps (by assumption) hm hm2 dX4_lateBy_10 ?_
  refine r_astore_n dX4_lateBy_11 (by decide) rfl ?_
  refine r_aload_n dX4_lateBy_12 rfl ?_
  refine r_getp_st (by assumption) (by omega) 6 (by decide) q168 rfl dX4_lateBy_13 ?_
  refine r_iconst (v := 3) dX4_lateBy_16 (by decide) ?_
  refine r_icmp_ne (tgt := 27) dX4_lateBy_17 (by decide) (fun c17 => ?_) (fun c17 => ?_)
  · refine r_aload_n dX4_lateBy_27 rfl ?_
    refine r_getp_pl (by assumption) 7 (by decide) q88 rfl dX4_lateBy_28 ?_
    refine r_istore_n dX4_lateBy_31 (by decide) rfl ?_
    refine r_iconst (v := 0) dX4_lateBy_32 (by decide) ?_
    refine r_iload_n dX4_lateBy_33 rfl ?_
    refine r_aload_n dX4_lateBy_34 rfl ?_
    refine r_getp_st (by assumption) (by omega) 5 (by decide) q357 rfl dX4_lateBy_35 ?_
    refine r_isub dX4_lateBy_38 ?_
    refine r_mmax q594 q267 q6 q268 (by decide) (by decide) (Nat.le_refl _) (Nat.le_refl _) dX4_lateBy_39 ?_
    exact r_ret rfl rfl dX4_lateBy_42 (by first | (simp [f_lateBy, c17]; done) | simp_all [f_lateBy]) rfl
  · refine r_aload_n dX4_lateBy_20 rfl ?_
    refine r_getp_st (by assumption) (by omega) 10 (by decide) q371 rfl dX4_lateBy_21 ?_
    refine r_goto (tgt := 31) dX4_lateBy_24 (by decide) ?_
    refine r_istore_n dX4_lateBy_31 (by decide) rfl ?_
    refine r_iconst (v := 0) dX4_lateBy_32 (by decide) ?_
    refine r_iload_n dX4_lateBy_33 rfl ?_
    refine r_aload_n dX4_lateBy_34 rfl ?_
    refine r_getp_st (by assumption) (by omega) 5 (by decide) q357 rfl dX4_lateBy_35 ?_
    refine r_isub dX4_lateBy_38 ?_
    refine r_mmax q594 q267 q6 q268 (by decide) (by decide) (Nat.le_refl _) (Nat.le_refl _) dX4_lateBy_39 ?_
    exact r_ret rfl rfl dX4_lateBy_42 (by first | (simp [f_lateBy, c17]; done) | simp_all [f_lateBy]) rfl
theorem wd_a {P : tP} {x w : Int32} {n i : Nat} (h : x &&& sh i = 0) : lp_wid P x (n + 1) i w = lp_wid P x n (i + 1) w := by rw [lp_wid, if_pos h]
theorem wd_b {P : tP} {x w : Int32} {n i : Nat} (h : ¬ x &&& sh i = 0) : lp_wid P x (n + 1) i w = lp_wid P x n (i + 1) (w ||| P (4 + i) 4) := by rw [lp_wid, if_neg h]
theorem re_a {P : tP} {x : Int32} {n : Nat} (h : lp_wid P x (cn P) 0 x = x) : lp_reach P (n + 1) x = x := by rw [lp_reach, if_pos h]
theorem re_b {P : tP} {x : Int32} {n : Nat} (h : ¬ lp_wid P x (cn P) 0 x = x) : lp_reach P (n + 1) x = lp_reach P n (lp_wid P x (cn P) 0 x) := by rw [lp_reach, if_neg h]
theorem dX4_needsOverAll_0 : decode cX4_needsOverAll 0 = .ok (.aload_n 0, 1) := by decide +kernel
theorem dX4_needsOverAll_1 : decode cX4_needsOverAll 1 = .ok (.getfield 11, 3) := by decide +kernel
theorem dX4_needsOverAll_4 : decode cX4_needsOverAll 4 = .ok (.iload_n 1, 1) := by decide +kernel
theorem dX4_needsOverAll_5 : decode cX4_needsOverAll 5 = .ok (.aaload, 1) := by decide +kernel
theorem dX4_needsOverAll_6 : decode cX4_needsOverAll 6 = .ok (.getfield 109, 3) := by decide +kernel
theorem dX4_needsOverAll_9 : decode cX4_needsOverAll 9 = .ok (.istore_n 3, 1) := by decide +kernel
theorem dX4_needsOverAll_10 : decode cX4_needsOverAll 10 = .ok (.iconst 0, 1) := by decide +kernel
theorem dX4_needsOverAll_11 : decode cX4_needsOverAll 11 = .ok (.istore 4, 2) := by decide +kernel
theorem dX4_needsOverAll_13 : decode cX4_needsOverAll 13 = .ok (.iload 4, 2) := by decide +kernel
theorem dX4_needsOverAll_15 : decode cX4_needsOverAll 15 = .ok (.bipush 12, 2) := by decide +kernel
theorem dX4_needsOverAll_17 : decode cX4_needsOverAll 17 = .ok (.if_icmp .ge 66, 3) := by decide +kernel
theorem dX4_needsOverAll_20 : decode cX4_needsOverAll 20 = .ok (.iload_n 3, 1) := by decide +kernel
theorem dX4_needsOverAll_21 : decode cX4_needsOverAll 21 = .ok (.istore 5, 2) := by decide +kernel
theorem dX4_needsOverAll_23 : decode cX4_needsOverAll 23 = .ok (.iconst 0, 1) := by decide +kernel
theorem dX4_needsOverAll_24 : decode cX4_needsOverAll 24 = .ok (.istore 6, 2) := by decide +kernel
theorem dX4_needsOverAll_26 : decode cX4_needsOverAll 26 = .ok (.iload 6, 2) := by decide +kernel
theorem dX4_needsOverAll_28 : decode cX4_needsOverAll 28 = .ok (.aload_n 0, 1) := by decide +kernel
theorem dX4_needsOverAll_29 : decode cX4_needsOverAll 29 = .ok (.getfield 29, 3) := by decide +kernel
theorem dX4_needsOverAll_32 : decode cX4_needsOverAll 32 = .ok (.if_icmp .ge 33, 3) := by decide +kernel
theorem dX4_needsOverAll_35 : decode cX4_needsOverAll 35 = .ok (.iload_n 3, 1) := by decide +kernel
theorem dX4_needsOverAll_36 : decode cX4_needsOverAll 36 = .ok (.iconst 1, 1) := by decide +kernel
theorem dX4_needsOverAll_37 : decode cX4_needsOverAll 37 = .ok (.iload 6, 2) := by decide +kernel
theorem dX4_needsOverAll_39 : decode cX4_needsOverAll 39 = .ok (.ishl, 1) := by decide +kernel
theorem dX4_needsOverAll_40 : decode cX4_needsOverAll 40 = .ok (.iand, 1) := by decide +kernel
theorem dX4_needsOverAll_41 : decode cX4_needsOverAll 41 = .ok (.ifCond .eq 18, 3) := by decide +kernel
theorem dX4_needsOverAll_44 : decode cX4_needsOverAll 44 = .ok (.iload 5, 2) := by decide +kernel
theorem dX4_needsOverAll_46 : decode cX4_needsOverAll 46 = .ok (.aload_n 0, 1) := by decide +kernel
theorem dX4_needsOverAll_47 : decode cX4_needsOverAll 47 = .ok (.getfield 11, 3) := by decide +kernel
theorem dX4_needsOverAll_50 : decode cX4_needsOverAll 50 = .ok (.iload 6, 2) := by decide +kernel
theorem dX4_needsOverAll_52 : decode cX4_needsOverAll 52 = .ok (.aaload, 1) := by decide +kernel
theorem dX4_needsOverAll_53 : decode cX4_needsOverAll 53 = .ok (.getfield 109, 3) := by decide +kernel
theorem dX4_needsOverAll_56 : decode cX4_needsOverAll 56 = .ok (.ior, 1) := by decide +kernel
theorem dX4_needsOverAll_57 : decode cX4_needsOverAll 57 = .ok (.istore 5, 2) := by decide +kernel
theorem dX4_needsOverAll_59 : decode cX4_needsOverAll 59 = .ok (.iinc 6 1, 3) := by decide +kernel
theorem dX4_needsOverAll_62 : decode cX4_needsOverAll 62 = .ok (.goto (-36), 3) := by decide +kernel
theorem dX4_needsOverAll_65 : decode cX4_needsOverAll 65 = .ok (.iload 5, 2) := by decide +kernel
theorem dX4_needsOverAll_67 : decode cX4_needsOverAll 67 = .ok (.iload_n 3, 1) := by decide +kernel
theorem dX4_needsOverAll_68 : decode cX4_needsOverAll 68 = .ok (.if_icmp .ne 6, 3) := by decide +kernel
theorem dX4_needsOverAll_71 : decode cX4_needsOverAll 71 = .ok (.goto 12, 3) := by decide +kernel
theorem dX4_needsOverAll_74 : decode cX4_needsOverAll 74 = .ok (.iload 5, 2) := by decide +kernel
theorem dX4_needsOverAll_76 : decode cX4_needsOverAll 76 = .ok (.istore_n 3, 1) := by decide +kernel
theorem dX4_needsOverAll_77 : decode cX4_needsOverAll 77 = .ok (.iinc 4 1, 3) := by decide +kernel
theorem dX4_needsOverAll_80 : decode cX4_needsOverAll 80 = .ok (.goto (-67), 3) := by decide +kernel
theorem dX4_needsOverAll_83 : decode cX4_needsOverAll 83 = .ok (.iload_n 3, 1) := by decide +kernel
theorem dX4_needsOverAll_84 : decode cX4_needsOverAll 84 = .ok (.iconst 1, 1) := by decide +kernel
theorem dX4_needsOverAll_85 : decode cX4_needsOverAll 85 = .ok (.iload_n 2, 1) := by decide +kernel
theorem dX4_needsOverAll_86 : decode cX4_needsOverAll 86 = .ok (.ishl, 1) := by decide +kernel
theorem dX4_needsOverAll_87 : decode cX4_needsOverAll 87 = .ok (.iand, 1) := by decide +kernel
theorem dX4_needsOverAll_88 : decode cX4_needsOverAll 88 = .ok (.ifCond .eq 7, 3) := by decide +kernel
theorem dX4_needsOverAll_91 : decode cX4_needsOverAll 91 = .ok (.iconst 1, 1) := by decide +kernel
theorem dX4_needsOverAll_92 : decode cX4_needsOverAll 92 = .ok (.goto 4, 3) := by decide +kernel
theorem dX4_needsOverAll_95 : decode cX4_needsOverAll 95 = .ok (.iconst 0, 1) := by decide +kernel
theorem dX4_needsOverAll_96 : decode cX4_needsOverAll 96 = .ok (.ireturn, 1) := by decide +kernel
theorem dcX4_needsOverAll : yX4_needsOverAll.cls = RX4 ∧ yX4_needsOverAll.cls ≠ "java/lang/invoke/MethodHandle" ∧ yX4_needsOverAll.cls ≠ "java/lang/invoke/VarHandle" ∧ (parseMethodDescriptor yX4_needsOverAll.desc).map (fun d => d.parameters.length) = some 2 := by decide +kernel
set_option maxRecDepth 100000 in
set_option maxHeartbeats 4000000 in
theorem K_noa {cA : Nat → ClassId} {ad : tA} {ex : va_W} {M : tM} {r : Nat} {P : tP} {s : Nat} {j : Int32} (hr : isPlan r) (hs : s < 12) (hoc : okc P) : Cj yX4_needsOverAll cX4_needsOverAll 7 (some .boolean) (rmd 0) 0 0 cA ad [.ref (ad r 0), .int (nI s), .int j] ex (m_pl M r P) (Qe (some (.int (bI (f_noa P s j)))) ex (m_pl M r P)) := by
  refine c_of_r (lv0 := [some (.ref (ad r 0)), some (.int (nI s)), some (.int j), none, none, none, none]) rfl (by decide +kernel) (Nat.le_of_ble_eq_true rfl) rfl ?_
  have Li : ∀ (x : Int32) (k n i : Nat) (w : Int32), i + n = cn P → Rj cX4_needsOverAll RX4 7 (some .boolean) (rmd 0) 0 0 cA ad (Qe (some (.int (bI (f_noa P s j)))) ex (m_pl M r P)) ex 0 0 65 [some (.ref (ad r 0)), some (.int (nI s)), some (.int j), some (.int x), some (.int (nI k)), some (.int (lp_wid P x n i w)), none] [] (m_pl M r P) → Rj cX4_needsOverAll RX4 7 (some .boolean) (rmd 0) 0 0 cA ad (Qe (some (.int (bI (f_noa P s j)))) ex (m_pl M r P)) ex 0 0 26 [some (.ref (ad r 0)), some (.int (nI s)), some (.int j), some (.int x), some (.int (nI k)), some (.int w), some (.int (nI i))] [] (m_pl M r P) := by
    intro x k n
    induction n with
    | zero =>
      intro i w h K
      refine r_iload dX4_needsOverAll_26 rfl ?_
      refine r_aload_n dX4_needsOverAll_28 rfl ?_
      refine r_getp_pl (by assumption) 1 (by decide) q80 rfl dX4_needsOverAll_29 ?_
      refine r_icmp_ge (tgt := 65) dX4_needsOverAll_32 (by decide) (fun c32 => ?_) (fun c32 => absurd (lp_z hoc.1 h) c32)
      refine r_fgt 6 ?_
      exact K
    | succ n ih =>
      intro i w h K
      refine r_iload dX4_needsOverAll_26 rfl ?_
      refine r_aload_n dX4_needsOverAll_28 rfl ?_
      refine r_getp_pl (by assumption) 1 (by decide) q80 rfl dX4_needsOverAll_29 ?_
      refine r_icmp_ge (tgt := 65) dX4_needsOverAll_32 (by decide) (fun c32 => absurd c32 (lp_s hoc.1 hoc.2 h)) (fun c32 => ?_)
      refine r_iload_n dX4_needsOverAll_35 rfl ?_
      refine r_iconst (v := 1) dX4_needsOverAll_36 (by decide) ?_
      refine r_iload dX4_needsOverAll_37 rfl ?_
      refine r_ishl dX4_needsOverAll_39 ?_
      refine r_iand dX4_needsOverAll_40 ?_
      refine r_if_eq (tgt := 59) dX4_needsOverAll_41 (by decide) (fun c41 => ?_) (fun c41 => ?_)
      · refine r_iinc dX4_needsOverAll_59 rfl ii_s (by decide) rfl ?_
        refine r_goto (tgt := 26) dX4_needsOverAll_62 (by decide) ?_
        exact ih (i + 1) _ (by omega) (by first | (rw [← wd_a c41]; exact K) | (rw [← wd_b c41]; exact K))
      · refine r_iload dX4_needsOverAll_44 rfl ?_
        refine r_aload_n dX4_needsOverAll_46 rfl ?_
        refine r_getp_pl (by assumption) 0 (by decide) q38 rfl dX4_needsOverAll_47 ?_
        refine r_iload dX4_needsOverAll_50 rfl ?_
        refine r_aldp_steps (by assumption) rfl (by have := hoc.2; omega) dX4_needsOverAll_52 ?_
        refine r_getp_st (by assumption) (by have := hoc.2; omega) 4 (by decide) q325 rfl dX4_needsOverAll_53 ?_
        refine r_ior dX4_needsOverAll_56 ?_
        refine r_istore dX4_needsOverAll_57 (by decide) rfl ?_
        refine r_iinc dX4_needsOverAll_59 rfl ii_s (by decide) rfl ?_
        refine r_goto (tgt := 26) dX4_needsOverAll_62 (by decide) ?_
        exact ih (i + 1) _ (by omega) (by first | (rw [← wd_a c41]; exact K) | (rw [← wd_b c41]; exact K))
  have Lx : ∀ (x : Int32) (lv2 : List (Option Value)), lp_reach P 12 (P (4 + s) 4) = x → lv2[2]? = some (some (.int j)) → lv2[3]? = some (some (.int x)) → Rj cX4_needsOverAll RX4 7 (some .boolean) (rmd 0) 0 0 cA ad (Qe (some (.int (bI (f_noa P s j)))) ex (m_pl M r P)) ex 0 0 83 lv2 [] (m_pl M r P) := by
    intro x lv2 hx h2 h3
    refine r_iload_n dX4_needsOverAll_83 h3 ?_
    refine r_iconst (v := 1) dX4_needsOverAll_84 (by decide) ?_
    refine r_iload_n dX4_needsOverAll_85 h2 ?_
    refine r_ishl dX4_needsOverAll_86 ?_
    refine r_iand dX4_needsOverAll_87 ?_
    refine r_if_eq (tgt := 95) dX4_needsOverAll_88 (by decide) (fun c88 => ?_) (fun c88 => ?_)
    · refine r_iconst (v := 0) dX4_needsOverAll_95 (by decide) ?_
      exact r_ret rfl rfl dX4_needsOverAll_96 (by first | (rw [f_noa, hx]; simp [bI, *]; done) | (subst hx; simp_all [f_noa, bI])) rfl
    · refine r_iconst (v := 1) dX4_needsOverAll_91 (by decide) ?_
      refine r_goto (tgt := 96) dX4_needsOverAll_92 (by decide) ?_
      exact r_ret rfl rfl dX4_needsOverAll_96 (by first | (rw [f_noa, hx]; simp [bI, *]; done) | (subst hx; simp_all [f_noa, bI])) rfl
  have Lo : ∀ (n k : Nat) (x : Int32), k + n = 12 → lp_reach P n x = lp_reach P 12 (P (4 + s) 4) → Rj cX4_needsOverAll RX4 7 (some .boolean) (rmd 0) 0 0 cA ad (Qe (some (.int (bI (f_noa P s j)))) ex (m_pl M r P)) ex 0 0 13 [some (.ref (ad r 0)), some (.int (nI s)), some (.int j), some (.int x), some (.int (nI k)), none, none] [] (m_pl M r P) := by
    intro n
    induction n with
    | zero =>
      intro k x h hx
      refine r_iload dX4_needsOverAll_13 rfl ?_
      refine r_bipush (v := 12) dX4_needsOverAll_15 (by decide) ?_
      refine r_icmp_ge (tgt := 83) dX4_needsOverAll_17 (by decide) (fun c17 => ?_) (fun c17 => absurd (lp_z (x := 12) (c := 12) rfl h) c17)
      exact Lx x _ (by rw [← hx]; rfl) rfl rfl
    | succ n ih =>
      intro k x h hx
      refine r_iload dX4_needsOverAll_13 rfl ?_
      refine r_bipush (v := 12) dX4_needsOverAll_15 (by decide) ?_
      refine r_icmp_ge (tgt := 83) dX4_needsOverAll_17 (by decide) (fun c17 => absurd c17 (lp_s (x := 12) (c := 12) rfl (by omega) h)) (fun c17 => ?_)
      refine r_iload_n dX4_needsOverAll_20 rfl ?_
      refine r_istore dX4_needsOverAll_21 (by decide) rfl ?_
      refine r_iconst (v := 0) dX4_needsOverAll_23 (by decide) ?_
      refine r_istore dX4_needsOverAll_24 (by decide) rfl ?_
      refine Li x k (cn P) 0 x (by omega) ?_
      refine r_iload dX4_needsOverAll_65 rfl ?_
      refine r_iload_n dX4_needsOverAll_67 rfl ?_
      refine r_icmp_ne (tgt := 74) dX4_needsOverAll_68 (by decide) (fun c68 => ?_) (fun c68 => ?_)
      · refine r_iload dX4_needsOverAll_74 rfl ?_
        refine r_istore_n dX4_needsOverAll_76 (by decide) rfl ?_
        refine r_iinc dX4_needsOverAll_77 rfl ii_s (by decide) rfl ?_
        refine r_goto (tgt := 13) dX4_needsOverAll_80 (by decide) ?_
        refine r_fgt 5 ?_
        exact ih (k + 1) _ (by omega) (by rw [← hx]; exact (re_b c68).symm)
      · refine r_goto (tgt := 83) dX4_needsOverAll_71 (by decide) ?_
        exact Lx x _ (by rw [← hx]; exact re_a c68) rfl rfl
  refine r_aload_n dX4_needsOverAll_0 rfl ?_
  refine r_getp_pl (by assumption) 0 (by decide) q38 rfl dX4_needsOverAll_1 ?_
  refine r_iload_n dX4_needsOverAll_4 rfl ?_
  refine r_aldp_steps (by assumption) rfl hs dX4_needsOverAll_5 ?_
  refine r_getp_st (by assumption) (by omega) 4 (by decide) q325 rfl dX4_needsOverAll_6 ?_
  refine r_istore_n dX4_needsOverAll_9 (by decide) rfl ?_
  refine r_iconst (v := 0) dX4_needsOverAll_10 (by decide) ?_
  refine r_istore dX4_needsOverAll_11 (by decide) rfl ?_
  exact Lo 12 0 _ (by omega) rfl

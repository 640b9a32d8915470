/-! PART 24: the law's reads and changes -/
theorem some_r (v : Int32) {n : Nat} (h0 : 0 < n) (hn : n < 2 ^ 30) : ∃ j, j < n ∧ f_some v (nI n) = nI j := by
  have en : (nI n).toInt = (n : Int) := nI_toInt (by omega)
  have hv1 := Int32.le_toInt v
  have hv2 := Int32.toInt_lt v
  have hne : nI n ≠ -1 := fun e => by
    have h1 := congrArg Int32.toInt e
    rw [en, show (-1 : Int32).toInt = -1 from by decide] at h1
    omega
  have e1 := Int.tmod_add_tdiv_mul v.toInt (n : Int)
  have b1 := Int.tmod_lt_of_pos v.toInt (b := (n : Int)) (by omega)
  have b2 := Int.lt_tmod_of_pos v.toInt (b := (n : Int)) (by omega)
  have b3 : 0 ≤ v.toInt → 0 ≤ v.toInt.tmod n := fun h => Int.tmod_nonneg _ h
  have b4 : v.toInt < 0 → v.toInt.tmod n ≤ 0 := fun h => by
    have h1 := Int.tmod_nonneg (a := -v.toInt) (n : Int) (by omega)
    rw [Int.neg_tmod] at h1
    omega
  have hm : (v / nI n * nI n).toInt = v.toInt - v.toInt.tmod n := by
    rw [Int32.toInt_mul, Int32.toInt_div_of_ne_right _ _ hne, en, show v.toInt.tdiv n * n = v.toInt - v.toInt.tmod n from by omega]
    exact Int.bmod_eq_of_le_mul_two (by omega) (by omega)
  have hr : (v - v / nI n * nI n).toInt = v.toInt.tmod n := by
    rw [Int32.toInt_sub, hm, show v.toInt - (v.toInt - v.toInt.tmod n) = v.toInt.tmod n from by omega]
    exact Int.bmod_eq_of_le_mul_two (by omega) (by omega)
  unfold f_some
  generalize v - v / nI n * nI n = r at hr
  by_cases hp : 0 ≤ r
  · rw [if_pos hp]
    have h1 : (0 : Int32).toInt ≤ r.toInt := Int32.le_iff_toInt_le.mp hp
    rw [show (0 : Int32).toInt = 0 from by decide] at h1
    refine ⟨r.toInt.toNat, by omega, Int32.toInt_inj.mp ?_⟩
    rw [nI_toInt (by omega)]
    omega
  · rw [if_neg hp]
    have h1 : r.toInt < (0 : Int32).toInt := Int32.lt_iff_toInt_lt.mp (Int32.not_le.mp hp)
    rw [show (0 : Int32).toInt = 0 from by decide] at h1
    have h2 : (r + nI n).toInt = r.toInt + n := by
      rw [Int32.toInt_add, en]
      exact Int.bmod_eq_of_le_mul_two (by omega) (by omega)
    refine ⟨(r.toInt + n).toNat, by omega, Int32.toInt_inj.mp ?_⟩
    rw [nI_toInt (by omega), h2]
    omega
-- appending
def apT (c : Nat → Int32) : Nat → Nat → tP → tP
  | 0, _, T => T
  | n + 1, i, T => apT c n (i + 1) (f_app T (c i)).2
theorem app_ok {T : tP} {q : Nat} (o : okTx T) (hl : tl T < 60) (h1 : 32 ≤ q) (h2 : q ≤ 126) : f_app T (nI q) = (nI (tl T + 1), f_as T (nI q)) ∧ okTx (f_as T (nI q)) ∧ tl (f_as T (nI q)) = tl T + 1 := by
  have hc : c16 (nI q) = nI q := by
    have : ∀ q, q < 127 → c16 (nI q) = nI q := by decide +kernel
    exact this q (by omega)
  have e0 : f_as T (nI q) 0 1 = nI (tl T + 1) := by
    unfold f_as
    try dsimp only
    rw [pu_s, pu_j (by omega), o.1, show tl T = tl T from rfl]
    exact nI_1 _
  have el : tl (f_as T (nI q)) = tl T + 1 := by rw [tl, e0]; exact nI_clamp (by omega)
  refine ⟨?_, ⟨by rw [el]; exact e0, by omega, fun i hi => ?_, fun j hj => ?_⟩, el⟩
  · unfold f_app
    rw [if_neg, if_pos, hc, e0]
    · rw [o.1]; exact nI_lt (a := tl T) (b := 60) hl (by omega)
    · rintro (h | h)
      · exact nI_nlt (a := q) (b := 32) h1 (by omega) h
      · exact nI_nlt (a := 126) (b := q) h2 (by omega) h
  · unfold f_as
    try dsimp only
    rw [pu_j (by omega)]
    by_cases e : i = tl T
    · subst e; rw [pu_s]; exact kI (by omega)
    · rw [pu_k e]; exact o.2.2.1 i hi
  · unfold f_as
    try dsimp only
    rw [pu_j (by omega), pu_j (by omega)]
    exact o.2.2.2 j hj
theorem dL_reads_0 : decode cL_reads 0 = .ok (.iconst 0, 1) := by decide +kernel
theorem dL_reads_1 : decode cL_reads 1 = .ok (.istore_n 2, 1) := by decide +kernel
theorem dL_reads_2 : decode cL_reads 2 = .ok (.iload_n 2, 1) := by decide +kernel
theorem dL_reads_3 : decode cL_reads 3 = .ok (.aload_n 1, 1) := by decide +kernel
theorem dL_reads_4 : decode cL_reads 4 = .ok (.invokevirtual 7, 3) := by decide +kernel
theorem dL_reads_7 : decode cL_reads 7 = .ok (.if_icmp .ge 27, 3) := by decide +kernel
theorem dL_reads_10 : decode cL_reads 10 = .ok (.aload_n 0, 1) := by decide +kernel
theorem dL_reads_11 : decode cL_reads 11 = .ok (.aload_n 1, 1) := by decide +kernel
theorem dL_reads_12 : decode cL_reads 12 = .ok (.iload_n 2, 1) := by decide +kernel
theorem dL_reads_13 : decode cL_reads 13 = .ok (.invokevirtual 13, 3) := by decide +kernel
theorem dL_reads_16 : decode cL_reads 16 = .ok (.invokevirtual 17, 3) := by decide +kernel
theorem dL_reads_19 : decode cL_reads 19 = .ok (.iload_n 2, 1) := by decide +kernel
theorem dL_reads_20 : decode cL_reads 20 = .ok (.iconst 1, 1) := by decide +kernel
theorem dL_reads_21 : decode cL_reads 21 = .ok (.iadd, 1) := by decide +kernel
theorem dL_reads_22 : decode cL_reads 22 = .ok (.if_icmp .eq 6, 3) := by decide +kernel
theorem dL_reads_25 : decode cL_reads 25 = .ok (.bipush (-99), 2) := by decide +kernel
theorem dL_reads_27 : decode cL_reads 27 = .ok (.ireturn, 1) := by decide +kernel
theorem dL_reads_28 : decode cL_reads 28 = .ok (.iinc 2 1, 3) := by decide +kernel
theorem dL_reads_31 : decode cL_reads 31 = .ok (.goto (-29), 3) := by decide +kernel
theorem dL_reads_34 : decode cL_reads 34 = .ok (.aload_n 0, 1) := by decide +kernel
theorem dL_reads_35 : decode cL_reads 35 = .ok (.invokevirtual 23, 3) := by decide +kernel
theorem dL_reads_38 : decode cL_reads 38 = .ok (.ireturn, 1) := by decide +kernel
theorem dcL_reads : yL_reads.cls = RL ∧ yL_reads.cls ≠ "java/lang/invoke/MethodHandle" ∧ yL_reads.cls ≠ "java/lang/invoke/VarHandle" ∧ (parseMethodDescriptor yL_reads.desc).map (fun d => d.parameters.length) = some 2 := by decide +kernel
theorem gL_reads_4 : GoodIn wsL_law (wsV RL 7 RJ0 yJ0_length_8abf5 (.code yJ0_length_8abf5 cJ0_length_8abf5 1 (some .int) :: wsL_law)) := g_V q626 q210 q211 q212 q213
theorem gL_reads_35 : GoodIn wsL_law (wsV RL 23 RX6 yX6_run (.code yX6_run cX6_run 3 (some .int) :: wsL_law)) := g_V q176 q177 q178 q2 q179
theorem gL_reads_13 : GoodIn wsL_law (wsV RL 13 RJ0 yJ0_charAt_5068e (.code yJ0_charAt_5068e cJ0_charAt_5068e 2 (some .char) :: wsL_law)) := g_V q627 q222 q223 q212 q224
theorem gL_reads_16 : GoodIn wsL_law (wsV RL 17 RX6 yX6_append (.code yX6_append cX6_append 2 (some .int) :: wsL_law)) := g_V q139 q140 q141 q2 q142
set_option maxRecDepth 100000 in
set_option maxHeartbeats 4000000 in
theorem K_reads {cA : Nat → ClassId} {ad : tA} {ex : va_W} {M : tM} {F P : tP} {b n : Nat} {c : Nat → Int32} (hL : ∀ M', Cj yJ0_length_8abf5 cJ0_length_8abf5 1 (some .int) (rmd 1) 0 0 cA ad [.ref b] ex M' (Qe (some (.int (nI n))) ex M')) (hC : ∀ M' k, k < n → Cj yJ0_charAt_5068e cJ0_charAt_5068e 2 (some .char) (rmd 3) 0 0 cA ad [.ref b, .int (nI k)] ex M' (Qe (some (.int (c k))) ex M')) (hR : ∀ M', isRc cA ad ex M' b "java/lang/String") (hc : ∀ k, k < n → ∃ q, 32 ≤ q ∧ q ≤ 126 ∧ c k = nI q) (hn : n ≤ 60) (hm : okm F) (o : okP P) (hq : ∀ k, k < 9 → okb (M (4 + k))) (hT : okTx (M 13)) (h0 : tl (M 13) = 0) : Cj yL_reads cL_reads 3 (some .int) (rmd 10) 0 0 cA ad [.ref (ad 0 0), .ref b] ex (mm M F P) (Qe (some (.int (t_run (m_pl M 13 (apT c n 0 (M 13))) F P).1)) ex (mm (t_run (m_pl M 13 (apT c n 0 (M 13))) F P).2.1 (t_run (m_pl M 13 (apT c n 0 (M 13))) F P).2.2.1 (t_run (m_pl M 13 (apT c n 0 (M 13))) F P).2.2.2)) := by
  refine c_of_r (lv0 := [some (.ref (ad 0 0)), some (.ref b), none]) rfl (by decide +kernel) (Nat.le_of_ble_eq_true rfl) rfl ?_
  have L : ∀ (n2 i : Nat) (T : tP), i + n2 = n → okTx T → tl T = i → apT c n2 i T = apT c n 0 (M 13) → Rj cL_reads RL 3 (some .int) (rmd 10) 0 0 cA ad (Qe (some (.int (t_run (m_pl M 13 (apT c n 0 (M 13))) F P).1)) ex (mm (t_run (m_pl M 13 (apT c n 0 (M 13))) F P).2.1 (t_run (m_pl M 13 (apT c n 0 (M 13))) F P).2.2.1 (t_run (m_pl M 13 (apT c n 0 (M 13))) F P).2.2.2)) ex 0 0 2 [some (.ref (ad 0 0)), some (.ref b), some (.int (nI i))] [] (mm (m_pl M 13 T) F P) := by
    intro n2
    induction n2 with
    | zero =>
      intro i T hi oT ht hx
      refine r_iload_n dL_reads_2 rfl ?_
      refine r_aload_n dL_reads_3 rfl ?_
      refine r_cVi dL_reads_4 (hL _) gL_reads_4 dcJ0_length_8abf5 rfl rfl rfl (Nat.le_of_ble_eq_true rfl) (hR _) ?_
      refine r_icmp_ge (tgt := 34) dL_reads_7 (by decide) (fun c7 => ?_) (fun c7 => absurd (lp_z rfl hi) c7)
      refine r_aload_n dL_reads_34 rfl ?_
      refine r_cVi dL_reads_35 (K_run hm o (fun k hk => by rw [m_pl_n (by omega)]; exact hq k hk) (by rw [m_pl_s]; exact oT.1) (by rw [m_pl_s]; exact oT.2.1) (by rw [m_pl_s]; exact oT.2.2.1) (by rw [m_pl_s]; exact oT.2.2.2)) gL_reads_35 dcX6_run rfl rfl rfl (Nat.le_of_ble_eq_true rfl) ob_tf ?_
      exact r_ret rfl rfl dL_reads_38 (by rw [← hx]; rfl) (by rw [← hx]; rfl)
    | succ n2 ih =>
      intro i T hi oT ht hx
      obtain ⟨q, q1, q2, q3⟩ := hc i (by omega)
      obtain ⟨a1, a2, a3⟩ := app_ok oT (by omega) q1 q2
      refine r_iload_n dL_reads_2 rfl ?_
      refine r_aload_n dL_reads_3 rfl ?_
      refine r_cVi dL_reads_4 (hL _) gL_reads_4 dcJ0_length_8abf5 rfl rfl rfl (Nat.le_of_ble_eq_true rfl) (hR _) ?_
      refine r_icmp_ge (tgt := 34) dL_reads_7 (by decide) (fun c7 => absurd c7 (lq_s rfl (by omega) hi)) (fun c7 => ?_)
      refine r_aload_n dL_reads_10 rfl ?_
      refine r_aload_n dL_reads_11 rfl ?_
      refine r_iload_n dL_reads_12 rfl ?_
      refine r_cVi dL_reads_13 (hC _ i (by omega)) gL_reads_13 dcJ0_charAt_5068e rfl rfl rfl (Nat.le_of_ble_eq_true rfl) (hR _) ?_
      refine r_cVi dL_reads_16 (K_app (x := c i) (by rw [m_pl_s]; exact oT.1) (by rw [m_pl_s]; exact oT.2.1)) gL_reads_16 dcX6_append rfl rfl rfl (Nat.le_of_ble_eq_true rfl) ob_tf ?_
      rw [m_pl_s, m_pl_pl, q3, a1]
      refine r_iload_n dL_reads_19 rfl ?_
      refine r_iconst (v := 1) dL_reads_20 (by decide) ?_
      refine r_iadd dL_reads_21 ?_
      refine r_icmp_eq (tgt := 28) dL_reads_22 (by decide) (fun c22 => ?_) (fun c22 => absurd (by rw [ht]; exact (nI_1 i).symm) c22)
      refine r_iinc dL_reads_28 rfl ii_s (by decide) rfl ?_
      refine r_goto (tgt := 2) dL_reads_31 (by decide) ?_
      refine ih (i + 1) (f_as T (nI q)) (by omega) a2 (by omega) ?_
      rw [← hx, apT, q3, a1]
  refine r_iconst (v := 0) dL_reads_0 (by decide) ?_
  refine r_istore_n dL_reads_1 (by decide) rfl ?_
  rw [show mm M F P = mm (m_pl M 13 (M 13)) F P from by rw [m_pl_self]]
  exact L n 0 (M 13) (by omega) hT h0 rfl
/-- the text that was appended is in order -/
theorem apT_ok {c : Nat → Int32} {n : Nat} (hc : ∀ k, k < n → ∃ q, 32 ≤ q ∧ q ≤ 126 ∧ c k = nI q) (hn : n ≤ 60) : ∀ (n2 i : Nat) (T : tP), i + n2 = n → okTx T → tl T = i → okTx (apT c n2 i T) := by
  intro n2
  induction n2 with
  | zero => intro i T _ o _; exact o
  | succ n2 ih =>
    intro i T hi o ht
    obtain ⟨q, q1, q2, q3⟩ := hc i (by omega)
    obtain ⟨a1, a2, a3⟩ := app_ok o (by omega) q1 q2
    rw [apT, q3, a1]
    exact ih (i + 1) (f_as T (nI q)) (by omega) a2 (by omega)
-- from lists of cells to the object's world
theorem wsT_app {cA : Nat → ClassId} {ad : tA} {ex l : va_W} {M : tM} : wsT cA ad ex M ++ l = wsT cA ad (ex ++ l) M := by unfold wsT; rw [List.append_assoc]
theorem wx_at {cA : Nat → ClassId} {ad : tA} {ex : va_W} {M : tM} {i : Nat} {x : Nat × va_E} (h : ex[i]? = some x) : (wsT cA ad ex M)[t_ids.length + i]? = some x := by
  unfold wsT
  rw [List.getElem?_append_right (by rw [List.length_map]; omega), List.length_map, Nat.add_sub_cancel_left]
  exact h
theorem cj_s {y : MethodName} {cc : ByteArray} {nL : Nat} {ret : Option FieldType} {rm : Room} {mc ms : Nat} {cA : Nat → ClassId} {ad : tA} {vs : List Value} {ex : va_W} {M : tM} {r : Option Value} (h : Cg y cc nL ret rm mc ms cA ad vs (wsT cA ad ex M) (Qs r (wsT cA ad ex M))) : Cj y cc nL ret rm mc ms cA ad vs ex M (Qe r ex M) := cj_of_g (cg_end (fun v w hv => by obtain ⟨rfl, rfl⟩ := hv; exact ⟨ex, M, rfl, rfl, rfl, rfl⟩) h)
theorem rc_w {cA : Nat → ClassId} {ad : tA} {ex : va_W} {M : tM} {b : Nat} {C : String} (h : isRw cA ad (wsT cA ad ex M) b C) : isRc cA ad ex M b C := fun s H locs G tx A h1 h2 h3 h4 => h s H locs G tx A h1 h2 h3 h4
theorem chg_w {r : Bool} {M M' : tM} {P F' P' : tP} {k u w w' : Nat} {h : Int32} (hw : w ≤ w') (g : chg r M P k u w h M' F' P') : chg r M P k u w' h M' F' P' := by
  have mono : ∀ {k u}, inv M' F' P' k u w h → inv M' F' P' k u w' h := fun I => by
    obtain ⟨⟨a1, a2⟩, a3, ⟨a4, a5⟩, a6⟩ := I
    exact ⟨⟨a1, okW_mono hw a2⟩, fun j hj => ⟨(a3 j hj).1, okW_mono hw (a3 j hj).2⟩, ⟨a4, okW_mono hw a5⟩, a6⟩
  exact ⟨g.1, g.2.1, fun hr => ⟨mono (g.2.2.1 hr).1, (g.2.2.1 hr).2⟩, fun hr => ⟨mono (g.2.2.2 hr).1, (g.2.2.2 hr).2⟩⟩
set_option maxRecDepth 100000 in
set_option maxHeartbeats 4000000 in
theorem G_some {cA : Nat → ClassId} {ad : tA} {ws : va_W} {v n : Int32} (hn : ¬ n = 0) : Cg yL_some cL_some 3 (some .int) (rmg 0 0 0) 0 0 cA ad [.int v, .int n] ws (Qs (some (.int (f_some v n))) ws) := by
  refine c_of_g (isI := false) (lv0 := [some (.int v), some (.int n), none]) (fun h => by first | rfl | cases h) rfl (by decide +kernel) (Nat.le_of_ble_eq_true rfl) rfl ?_
  by_cases c : 0 ≤ v - v / n * n
  · skip
    refine g_iload_n dL_some_0 rfl ?_
    refine g_iload_n dL_some_1 rfl ?_
    refine g_irem dL_some_2 hn ?_
    refine g_istore_n dL_some_3 (by decide) rfl ?_
    refine g_iload_n dL_some_4 rfl ?_
    refine g_if_ge (tgt := 14) dL_some_5 (by decide) (fun c5 => ?_) (fun c5 => absurd c c5)
    refine g_iload_n dL_some_14 rfl ?_
    exact g_zret rfl rfl dL_some_15 (Nat.le_of_ble_eq_true rfl) (Nat.le_of_ble_eq_true rfl) ⟨by rw [f_some, if_pos c], rfl⟩
  · skip
    refine g_iload_n dL_some_0 rfl ?_
    refine g_iload_n dL_some_1 rfl ?_
    refine g_irem dL_some_2 hn ?_
    refine g_istore_n dL_some_3 (by decide) rfl ?_
    refine g_iload_n dL_some_4 rfl ?_
    refine g_if_ge (tgt := 14) dL_some_5 (by decide) (fun c5 => absurd c5 c) (fun c5 => ?_)
    refine g_iload_n dL_some_8 rfl ?_
    refine g_iload_n dL_some_9 rfl ?_
    refine g_iadd dL_some_10 ?_
    refine g_goto (tgt := 15) dL_some_11 (by decide) ?_
    exact g_zret rfl rfl dL_some_15 (Nat.le_of_ble_eq_true rfl) (Nat.le_of_ble_eq_true rfl) ⟨by rw [f_some, if_neg c], rfl⟩
theorem chg_r {r r' : Bool} {M M' : tM} {P F' P' : tP} {k u w : Nat} {h : Int32} (e : r = r') (g : chg r M P k u w h M' F' P') : chg r' M P k u w h M' F' P' := e ▸ g
theorem dL_changes_0 : decode cL_changes 0 = .ok (.iload_n 1, 1) := by decide +kernel
theorem dL_changes_1 : decode cL_changes 1 = .ok (.iconst 4, 1) := by decide +kernel
theorem dL_changes_2 : decode cL_changes 2 = .ok (.ishr, 1) := by decide +kernel
theorem dL_changes_3 : decode cL_changes 3 = .ok (.aload_n 0, 1) := by decide +kernel
theorem dL_changes_4 : decode cL_changes 4 = .ok (.iconst 1, 1) := by decide +kernel
theorem dL_changes_5 : decode cL_changes 5 = .ok (.invokevirtual 87, 3) := by decide +kernel
theorem dL_changes_8 : decode cL_changes 8 = .ok (.iconst 1, 1) := by decide +kernel
theorem dL_changes_9 : decode cL_changes 9 = .ok (.iadd, 1) := by decide +kernel
theorem dL_changes_10 : decode cL_changes 10 = .ok (.invokestatic 39, 3) := by decide +kernel
theorem dL_changes_13 : decode cL_changes 13 = .ok (.istore_n 2, 1) := by decide +kernel
theorem dL_changes_14 : decode cL_changes 14 = .ok (.iload_n 1, 1) := by decide +kernel
theorem dL_changes_15 : decode cL_changes 15 = .ok (.bipush 7, 2) := by decide +kernel
theorem dL_changes_17 : decode cL_changes 17 = .ok (.ishr, 1) := by decide +kernel
theorem dL_changes_18 : decode cL_changes 18 = .ok (.aload_n 0, 1) := by decide +kernel
theorem dL_changes_19 : decode cL_changes 19 = .ok (.iconst 1, 1) := by decide +kernel
theorem dL_changes_20 : decode cL_changes 20 = .ok (.invokevirtual 87, 3) := by decide +kernel
theorem dL_changes_23 : decode cL_changes 23 = .ok (.iconst 1, 1) := by decide +kernel
theorem dL_changes_24 : decode cL_changes 24 = .ok (.iadd, 1) := by decide +kernel
theorem dL_changes_25 : decode cL_changes 25 = .ok (.invokestatic 39, 3) := by decide +kernel
theorem dL_changes_28 : decode cL_changes 28 = .ok (.istore_n 3, 1) := by decide +kernel
theorem dL_changes_29 : decode cL_changes 29 = .ok (.iload_n 1, 1) := by decide +kernel
theorem dL_changes_30 : decode cL_changes 30 = .ok (.bipush 18, 2) := by decide +kernel
theorem dL_changes_32 : decode cL_changes 32 = .ok (.invokestatic 39, 3) := by decide +kernel
theorem dL_changes_35 : decode cL_changes 35 = .ok (.tableswitch 257 0 13 #[69, 69, 120, 120, 120, 135, 135, 158, 179, 199, 199, 223, 223, 223], 69) := by decide +kernel
theorem dL_changes_104 : decode cL_changes 104 = .ok (.aload_n 0, 1) := by decide +kernel
theorem dL_changes_105 : decode cL_changes 105 = .ok (.iload_n 1, 1) := by decide +kernel
theorem dL_changes_106 : decode cL_changes 106 = .ok (.iconst 4, 1) := by decide +kernel
theorem dL_changes_107 : decode cL_changes 107 = .ok (.ishr, 1) := by decide +kernel
theorem dL_changes_108 : decode cL_changes 108 = .ok (.bipush 11, 2) := by decide +kernel
theorem dL_changes_110 : decode cL_changes 110 = .ok (.invokestatic 39, 3) := by decide +kernel
theorem dL_changes_113 : decode cL_changes 113 = .ok (.iload_n 1, 1) := by decide +kernel
theorem dL_changes_114 : decode cL_changes 114 = .ok (.bipush 6, 2) := by decide +kernel
theorem dL_changes_116 : decode cL_changes 116 = .ok (.ishr, 1) := by decide +kernel
theorem dL_changes_117 : decode cL_changes 117 = .ok (.iconst 5, 1) := by decide +kernel
theorem dL_changes_118 : decode cL_changes 118 = .ok (.invokestatic 39, 3) := by decide +kernel
theorem dL_changes_121 : decode cL_changes 121 = .ok (.iload_n 1, 1) := by decide +kernel
theorem dL_changes_122 : decode cL_changes 122 = .ok (.bipush 8, 2) := by decide +kernel
theorem dL_changes_124 : decode cL_changes 124 = .ok (.ishr, 1) := by decide +kernel
theorem dL_changes_125 : decode cL_changes 125 = .ok (.iconst 5, 1) := by decide +kernel
theorem dL_changes_126 : decode cL_changes 126 = .ok (.invokestatic 39, 3) := by decide +kernel
theorem dL_changes_129 : decode cL_changes 129 = .ok (.iload_n 1, 1) := by decide +kernel
theorem dL_changes_130 : decode cL_changes 130 = .ok (.bipush 10, 2) := by decide +kernel
theorem dL_changes_132 : decode cL_changes 132 = .ok (.ishr, 1) := by decide +kernel
theorem dL_changes_133 : decode cL_changes 133 = .ok (.iconst 1, 1) := by decide +kernel
theorem dL_changes_134 : decode cL_changes 134 = .ok (.iand, 1) := by decide +kernel
theorem dL_changes_135 : decode cL_changes 135 = .ok (.ifCond .ne 7, 3) := by decide +kernel
theorem dL_changes_138 : decode cL_changes 138 = .ok (.iconst 1, 1) := by decide +kernel
theorem dL_changes_139 : decode cL_changes 139 = .ok (.goto 4, 3) := by decide +kernel
theorem dL_changes_142 : decode cL_changes 142 = .ok (.iconst 0, 1) := by decide +kernel
theorem dL_changes_143 : decode cL_changes 143 = .ok (.invokevirtual 43, 3) := by decide +kernel
theorem dL_changes_146 : decode cL_changes 146 = .ok (.ifCond .lt 7, 3) := by decide +kernel
theorem dL_changes_149 : decode cL_changes 149 = .ok (.iconst 1, 1) := by decide +kernel
theorem dL_changes_150 : decode cL_changes 150 = .ok (.goto 4, 3) := by decide +kernel
theorem dL_changes_153 : decode cL_changes 153 = .ok (.iconst 0, 1) := by decide +kernel
theorem dL_changes_154 : decode cL_changes 154 = .ok (.ireturn, 1) := by decide +kernel
theorem dL_changes_155 : decode cL_changes 155 = .ok (.aload_n 0, 1) := by decide +kernel
theorem dL_changes_156 : decode cL_changes 156 = .ok (.iload_n 2, 1) := by decide +kernel
theorem dL_changes_157 : decode cL_changes 157 = .ok (.iload_n 3, 1) := by decide +kernel
theorem dL_changes_158 : decode cL_changes 158 = .ok (.invokevirtual 47, 3) := by decide +kernel
theorem dL_changes_161 : decode cL_changes 161 = .ok (.ifCond .lt 7, 3) := by decide +kernel
theorem dL_changes_164 : decode cL_changes 164 = .ok (.iconst 1, 1) := by decide +kernel
theorem dL_changes_165 : decode cL_changes 165 = .ok (.goto 4, 3) := by decide +kernel
theorem dL_changes_168 : decode cL_changes 168 = .ok (.iconst 0, 1) := by decide +kernel
theorem dL_changes_169 : decode cL_changes 169 = .ok (.ireturn, 1) := by decide +kernel
theorem dL_changes_170 : decode cL_changes 170 = .ok (.aload_n 0, 1) := by decide +kernel
theorem dL_changes_171 : decode cL_changes 171 = .ok (.iload_n 2, 1) := by decide +kernel
theorem dL_changes_172 : decode cL_changes 172 = .ok (.iload_n 1, 1) := by decide +kernel
theorem dL_changes_173 : decode cL_changes 173 = .ok (.bipush 8, 2) := by decide +kernel
theorem dL_changes_175 : decode cL_changes 175 = .ok (.ishr, 1) := by decide +kernel
theorem dL_changes_176 : decode cL_changes 176 = .ok (.bipush 11, 2) := by decide +kernel
theorem dL_changes_178 : decode cL_changes 178 = .ok (.invokestatic 39, 3) := by decide +kernel
theorem dL_changes_181 : decode cL_changes 181 = .ok (.invokevirtual 50, 3) := by decide +kernel
theorem dL_changes_184 : decode cL_changes 184 = .ok (.ifCond .lt 7, 3) := by decide +kernel
theorem dL_changes_187 : decode cL_changes 187 = .ok (.iconst 1, 1) := by decide +kernel
theorem dL_changes_188 : decode cL_changes 188 = .ok (.goto 4, 3) := by decide +kernel
theorem dL_changes_191 : decode cL_changes 191 = .ok (.iconst 0, 1) := by decide +kernel
theorem dL_changes_192 : decode cL_changes 192 = .ok (.ireturn, 1) := by decide +kernel
theorem dL_changes_193 : decode cL_changes 193 = .ok (.aload_n 0, 1) := by decide +kernel
theorem dL_changes_194 : decode cL_changes 194 = .ok (.iload_n 1, 1) := by decide +kernel
theorem dL_changes_195 : decode cL_changes 195 = .ok (.iconst 4, 1) := by decide +kernel
theorem dL_changes_196 : decode cL_changes 196 = .ok (.ishr, 1) := by decide +kernel
theorem dL_changes_197 : decode cL_changes 197 = .ok (.bipush 6, 2) := by decide +kernel
theorem dL_changes_199 : decode cL_changes 199 = .ok (.invokestatic 39, 3) := by decide +kernel
theorem dL_changes_202 : decode cL_changes 202 = .ok (.invokevirtual 56, 3) := by decide +kernel
theorem dL_changes_205 : decode cL_changes 205 = .ok (.ifCond .lt 7, 3) := by decide +kernel
theorem dL_changes_208 : decode cL_changes 208 = .ok (.iconst 1, 1) := by decide +kernel
theorem dL_changes_209 : decode cL_changes 209 = .ok (.goto 4, 3) := by decide +kernel
theorem dL_changes_212 : decode cL_changes 212 = .ok (.iconst 0, 1) := by decide +kernel
theorem dL_changes_213 : decode cL_changes 213 = .ok (.ireturn, 1) := by decide +kernel
theorem dL_changes_214 : decode cL_changes 214 = .ok (.aload_n 0, 1) := by decide +kernel
theorem dL_changes_215 : decode cL_changes 215 = .ok (.iload_n 1, 1) := by decide +kernel
theorem dL_changes_216 : decode cL_changes 216 = .ok (.iconst 4, 1) := by decide +kernel
theorem dL_changes_217 : decode cL_changes 217 = .ok (.ishr, 1) := by decide +kernel
theorem dL_changes_218 : decode cL_changes 218 = .ok (.iconst 5, 1) := by decide +kernel
theorem dL_changes_219 : decode cL_changes 219 = .ok (.invokestatic 39, 3) := by decide +kernel
theorem dL_changes_222 : decode cL_changes 222 = .ok (.invokevirtual 123, 3) := by decide +kernel
theorem dL_changes_225 : decode cL_changes 225 = .ok (.ifCond .lt 7, 3) := by decide +kernel
theorem dL_changes_228 : decode cL_changes 228 = .ok (.iconst 1, 1) := by decide +kernel
theorem dL_changes_229 : decode cL_changes 229 = .ok (.goto 4, 3) := by decide +kernel
theorem dL_changes_232 : decode cL_changes 232 = .ok (.iconst 0, 1) := by decide +kernel
theorem dL_changes_233 : decode cL_changes 233 = .ok (.ireturn, 1) := by decide +kernel
theorem dL_changes_234 : decode cL_changes 234 = .ok (.aload_n 0, 1) := by decide +kernel
theorem dL_changes_235 : decode cL_changes 235 = .ok (.iload_n 2, 1) := by decide +kernel
theorem dL_changes_236 : decode cL_changes 236 = .ok (.iload_n 1, 1) := by decide +kernel
theorem dL_changes_237 : decode cL_changes 237 = .ok (.bipush 6, 2) := by decide +kernel
theorem dL_changes_239 : decode cL_changes 239 = .ok (.ishr, 1) := by decide +kernel
theorem dL_changes_240 : decode cL_changes 240 = .ok (.sipush 1002, 3) := by decide +kernel
theorem dL_changes_243 : decode cL_changes 243 = .ok (.invokestatic 39, 3) := by decide +kernel
theorem dL_changes_246 : decode cL_changes 246 = .ok (.invokevirtual 53, 3) := by decide +kernel
theorem dL_changes_249 : decode cL_changes 249 = .ok (.ifCond .lt 7, 3) := by decide +kernel
theorem dL_changes_252 : decode cL_changes 252 = .ok (.iconst 1, 1) := by decide +kernel
theorem dL_changes_253 : decode cL_changes 253 = .ok (.goto 4, 3) := by decide +kernel
theorem dL_changes_256 : decode cL_changes 256 = .ok (.iconst 0, 1) := by decide +kernel
theorem dL_changes_257 : decode cL_changes 257 = .ok (.ireturn, 1) := by decide +kernel
theorem dL_changes_258 : decode cL_changes 258 = .ok (.aload_n 0, 1) := by decide +kernel
theorem dL_changes_259 : decode cL_changes 259 = .ok (.iload_n 1, 1) := by decide +kernel
theorem dL_changes_260 : decode cL_changes 260 = .ok (.iconst 4, 1) := by decide +kernel
theorem dL_changes_261 : decode cL_changes 261 = .ok (.ishr, 1) := by decide +kernel
theorem dL_changes_262 : decode cL_changes 262 = .ok (.iload_n 1, 1) := by decide +kernel
theorem dL_changes_263 : decode cL_changes 263 = .ok (.bipush 9, 2) := by decide +kernel
theorem dL_changes_265 : decode cL_changes 265 = .ok (.ishr, 1) := by decide +kernel
theorem dL_changes_266 : decode cL_changes 266 = .ok (.iconst 1, 1) := by decide +kernel
theorem dL_changes_267 : decode cL_changes 267 = .ok (.iand, 1) := by decide +kernel
theorem dL_changes_268 : decode cL_changes 268 = .ok (.ifCond .ne 7, 3) := by decide +kernel
theorem dL_changes_271 : decode cL_changes 271 = .ok (.iconst 4, 1) := by decide +kernel
theorem dL_changes_272 : decode cL_changes 272 = .ok (.goto 5, 3) := by decide +kernel
theorem dL_changes_275 : decode cL_changes 275 = .ok (.bipush 32, 2) := by decide +kernel
theorem dL_changes_277 : decode cL_changes 277 = .ok (.invokestatic 39, 3) := by decide +kernel
theorem dL_changes_280 : decode cL_changes 280 = .ok (.invokevirtual 59, 3) := by decide +kernel
theorem dL_changes_283 : decode cL_changes 283 = .ok (.ifCond .lt 7, 3) := by decide +kernel
theorem dL_changes_286 : decode cL_changes 286 = .ok (.iconst 1, 1) := by decide +kernel
theorem dL_changes_287 : decode cL_changes 287 = .ok (.goto 4, 3) := by decide +kernel
theorem dL_changes_290 : decode cL_changes 290 = .ok (.iconst 0, 1) := by decide +kernel
theorem dL_changes_291 : decode cL_changes 291 = .ok (.ireturn, 1) := by decide +kernel
theorem dL_changes_292 : decode cL_changes 292 = .ok (.aload_n 0, 1) := by decide +kernel
theorem dL_changes_293 : decode cL_changes 293 = .ok (.iload_n 1, 1) := by decide +kernel
theorem dL_changes_294 : decode cL_changes 294 = .ok (.bipush 6, 2) := by decide +kernel
theorem dL_changes_296 : decode cL_changes 296 = .ok (.ishr, 1) := by decide +kernel
theorem dL_changes_297 : decode cL_changes 297 = .ok (.iconst 1, 1) := by decide +kernel
theorem dL_changes_298 : decode cL_changes 298 = .ok (.iand, 1) := by decide +kernel
theorem dL_changes_299 : decode cL_changes 299 = .ok (.ifCond .ne 64, 3) := by decide +kernel
theorem dL_changes_302 : decode cL_changes 302 = .ok (.new 126, 3) := by decide +kernel
theorem dL_changes_305 : decode cL_changes 305 = .ok (.dup, 1) := by decide +kernel
theorem dL_changes_306 : decode cL_changes 306 = .ok (.invokespecial 128, 3) := by decide +kernel
theorem dL_changes_309 : decode cL_changes 309 = .ok (.ldc 129, 2) := by decide +kernel
theorem dL_changes_311 : decode cL_changes 311 = .ok (.invokevirtual 131, 3) := by decide +kernel
theorem dL_changes_314 : decode cL_changes 314 = .ok (.iload_n 1, 1) := by decide +kernel
theorem dL_changes_315 : decode cL_changes 315 = .ok (.iconst 4, 1) := by decide +kernel
theorem dL_changes_316 : decode cL_changes 316 = .ok (.ishr, 1) := by decide +kernel
theorem dL_changes_317 : decode cL_changes 317 = .ok (.bipush 10, 2) := by decide +kernel
theorem dL_changes_319 : decode cL_changes 319 = .ok (.invokestatic 39, 3) := by decide +kernel
theorem dL_changes_322 : decode cL_changes 322 = .ok (.invokevirtual 134, 3) := by decide +kernel
theorem dL_changes_325 : decode cL_changes 325 = .ok (.ldc 137, 2) := by decide +kernel
theorem dL_changes_327 : decode cL_changes 327 = .ok (.invokevirtual 131, 3) := by decide +kernel
theorem dL_changes_330 : decode cL_changes 330 = .ok (.iload_n 1, 1) := by decide +kernel
theorem dL_changes_331 : decode cL_changes 331 = .ok (.bipush 7, 2) := by decide +kernel
theorem dL_changes_333 : decode cL_changes 333 = .ok (.ishr, 1) := by decide +kernel
theorem dL_changes_334 : decode cL_changes 334 = .ok (.iconst 4, 1) := by decide +kernel
theorem dL_changes_335 : decode cL_changes 335 = .ok (.invokestatic 39, 3) := by decide +kernel
theorem dL_changes_338 : decode cL_changes 338 = .ok (.invokevirtual 134, 3) := by decide +kernel
theorem dL_changes_341 : decode cL_changes 341 = .ok (.ldc 139, 2) := by decide +kernel
theorem dL_changes_343 : decode cL_changes 343 = .ok (.invokevirtual 131, 3) := by decide +kernel
theorem dL_changes_346 : decode cL_changes 346 = .ok (.iload_n 1, 1) := by decide +kernel
theorem dL_changes_347 : decode cL_changes 347 = .ok (.bipush 9, 2) := by decide +kernel
theorem dL_changes_349 : decode cL_changes 349 = .ok (.ishr, 1) := by decide +kernel
theorem dL_changes_350 : decode cL_changes 350 = .ok (.iconst 4, 1) := by decide +kernel
theorem dL_changes_351 : decode cL_changes 351 = .ok (.invokestatic 39, 3) := by decide +kernel
theorem dL_changes_354 : decode cL_changes 354 = .ok (.invokevirtual 134, 3) := by decide +kernel
theorem dL_changes_357 : decode cL_changes 357 = .ok (.invokevirtual 141, 3) := by decide +kernel
theorem dL_changes_360 : decode cL_changes 360 = .ok (.goto 40, 3) := by decide +kernel
theorem dL_changes_363 : decode cL_changes 363 = .ok (.new 126, 3) := by decide +kernel
theorem dL_changes_366 : decode cL_changes 366 = .ok (.dup, 1) := by decide +kernel
theorem dL_changes_367 : decode cL_changes 367 = .ok (.invokespecial 128, 3) := by decide +kernel
theorem dL_changes_370 : decode cL_changes 370 = .ok (.ldc 145, 2) := by decide +kernel
theorem dL_changes_372 : decode cL_changes 372 = .ok (.invokevirtual 131, 3) := by decide +kernel
theorem dL_changes_375 : decode cL_changes 375 = .ok (.iload_n 2, 1) := by decide +kernel
theorem dL_changes_376 : decode cL_changes 376 = .ok (.invokevirtual 134, 3) := by decide +kernel
theorem dL_changes_379 : decode cL_changes 379 = .ok (.ldc 147, 2) := by decide +kernel
theorem dL_changes_381 : decode cL_changes 381 = .ok (.invokevirtual 131, 3) := by decide +kernel
theorem dL_changes_384 : decode cL_changes 384 = .ok (.iload_n 2, 1) := by decide +kernel
theorem dL_changes_385 : decode cL_changes 385 = .ok (.invokevirtual 134, 3) := by decide +kernel
theorem dL_changes_388 : decode cL_changes 388 = .ok (.ldc 149, 2) := by decide +kernel
theorem dL_changes_390 : decode cL_changes 390 = .ok (.invokevirtual 131, 3) := by decide +kernel
theorem dL_changes_393 : decode cL_changes 393 = .ok (.iload_n 3, 1) := by decide +kernel
theorem dL_changes_394 : decode cL_changes 394 = .ok (.invokevirtual 134, 3) := by decide +kernel
theorem dL_changes_397 : decode cL_changes 397 = .ok (.invokevirtual 141, 3) := by decide +kernel
theorem dL_changes_400 : decode cL_changes 400 = .ok (.invokestatic 151, 3) := by decide +kernel
theorem dL_changes_403 : decode cL_changes 403 = .ok (.ifCond .lt 7, 3) := by decide +kernel
theorem dL_changes_406 : decode cL_changes 406 = .ok (.iconst 1, 1) := by decide +kernel
theorem dL_changes_407 : decode cL_changes 407 = .ok (.goto 4, 3) := by decide +kernel
theorem dL_changes_410 : decode cL_changes 410 = .ok (.iconst 0, 1) := by decide +kernel
theorem dL_changes_411 : decode cL_changes 411 = .ok (.ireturn, 1) := by decide +kernel
set_option maxRecDepth 100000 in
set_option maxHeartbeats 4000000 in
theorem K_changes {cA : Nat → ClassId} {ad : tA} {ex : va_W} {M : tM} {F P : tP} {k u w : Nat} {h x : Int32} (I : inv M F P k u w h) (hw : w < 100000) : Cj yL_changes cL_changes 4 (some .boolean) (rmg 12 20 500) 20 500 cA ad [.ref (ad 0 0), .int x] ex (mm M F P) (fun v x m => ∃ (r : Bool) (M2 : tM) (F2 P2 : tP), v = some (.int (bI r)) ∧ x = ex ∧ m = mm M2 F2 P2 ∧ chg r M P k u (w + 108) h M2 F2 P2) := by
  refine c_of_r (lv0 := [some (.ref (ad 0 0)), some (.int x), none, none]) rfl (by decide +kernel) (Nat.le_of_ble_eq_true rfl) rfl ?_
  obtain ⟨⟨o0, -⟩, -⟩ := id I
  have hc1 : f_acc (M 13) F P 1 = nI (cn P) := o0.1.1
  have hcn := o0.1.2
  obtain ⟨s, hs, es⟩ := some_r (x >>> (4 &&& 31)) (n := cn P + 1) (by omega) (by omega)
  obtain ⟨t, ht, et⟩ := some_r (x >>> (7 &&& 31)) (n := cn P + 1) (by omega) (by omega)
  obtain ⟨j, hj, ej⟩ := some_r x (n := 18) (by omega) (by omega)
  have okI := I
  obtain ⟨⟨o, oW⟩, -⟩ := id I
  have hm := inv_okm I
  obtain ⟨hoc, hob, hoe, hoh, hon, -, -⟩ := id o
  have T104 : Rj cL_changes RL 4 (some .boolean) (rmg 12 20 500) 20 500 cA ad (fun v x m => ∃ (r : Bool) (M2 : tM) (F2 P2 : tP), v = some (.int (bI r)) ∧ x = ex ∧ m = mm M2 F2 P2 ∧ chg r M P k u (w + 108) h M2 F2 P2) ex 0 0 104 [some (.ref (ad 0 0)), some (.int x), some (.int (nI s)), some (.int (nI t))] [] (mm M F P) := by
    refine r_aload_n dL_changes_104 rfl ?_
    refine r_iload_n dL_changes_105 rfl ?_
    refine r_iconst (v := 4) dL_changes_106 (by decide) ?_
    refine r_ishr dL_changes_107 ?_
    refine r_bipush (v := 11) dL_changes_108 (by decide) ?_
    refine r_callS (n := 2) (As := [.int (x >>> (4 &&& 31)), .int 11]) (rest := [.ref (ad 0 0)]) dL_changes_110 (K_some (v := x >>> (4 &&& 31)) (n := 11) (by decide)) ⟨q492, q493, q423, q494⟩ ⟨rfl, by decide, by decide, by decide +kernel⟩ rfl rfl rfl rfl ⟨by decide, by decide⟩ (Nat.le_of_ble_eq_true rfl) ⟨Nat.le_of_ble_eq_true rfl, Nat.le_of_ble_eq_true rfl⟩ (fun v9 x9 m9 hv => ?_)
    obtain ⟨rfl, rfl, rfl⟩ := hv
    refine r_iload_n dL_changes_113 rfl ?_
    refine r_bipush (v := 6) dL_changes_114 (by decide) ?_
    refine r_ishr dL_changes_116 ?_
    refine r_iconst (v := 5) dL_changes_117 (by decide) ?_
    refine r_callS (n := 2) (As := [.int (x >>> (6 &&& 31)), .int 5]) (rest := [.int (f_some (x >>> (4 &&& 31)) 11), .ref (ad 0 0)]) dL_changes_118 (K_some (v := x >>> (6 &&& 31)) (n := 5) (by decide)) ⟨q492, q493, q423, q494⟩ ⟨rfl, by decide, by decide, by decide +kernel⟩ rfl rfl rfl rfl ⟨by decide, by decide⟩ (Nat.le_of_ble_eq_true rfl) ⟨Nat.le_of_ble_eq_true rfl, Nat.le_of_ble_eq_true rfl⟩ (fun v9 x9 m9 hv => ?_)
    obtain ⟨rfl, rfl, rfl⟩ := hv
    refine r_iload_n dL_changes_121 rfl ?_
    refine r_bipush (v := 8) dL_changes_122 (by decide) ?_
    refine r_ishr dL_changes_124 ?_
    refine r_iconst (v := 5) dL_changes_125 (by decide) ?_
    refine r_callS (n := 2) (As := [.int (x >>> (8 &&& 31)), .int 5]) (rest := [.int (f_some (x >>> (6 &&& 31)) 5), .int (f_some (x >>> (4 &&& 31)) 11), .ref (ad 0 0)]) dL_changes_126 (K_some (v := x >>> (8 &&& 31)) (n := 5) (by decide)) ⟨q492, q493, q423, q494⟩ ⟨rfl, by decide, by decide, by decide +kernel⟩ rfl rfl rfl rfl ⟨by decide, by decide⟩ (Nat.le_of_ble_eq_true rfl) ⟨Nat.le_of_ble_eq_true rfl, Nat.le_of_ble_eq_true rfl⟩ (fun v9 x9 m9 hv => ?_)
    obtain ⟨rfl, rfl, rfl⟩ := hv
    refine r_iload_n dL_changes_129 rfl ?_
    refine r_bipush (v := 10) dL_changes_130 (by decide) ?_
    refine r_ishr dL_changes_132 ?_
    refine r_iconst (v := 1) dL_changes_133 (by decide) ?_
    refine r_iand dL_changes_134 ?_
    refine r_if_ne (tgt := 142) dL_changes_135 (by decide) (fun ca => ?_) (fun ca => ?_)
    · refine r_iconst (v := 0) dL_changes_142 (by decide) ?_
      refine r_callV (n := 4) (As := [.int (f_some (x >>> (4 &&& 31)) 11), .int (f_some (x >>> (6 &&& 31)) 5), .int (f_some (x >>> (8 &&& 31)) 5), .int (bI false)]) (rest := []) dL_changes_143 (K_step (a := false) hm hoc hob hoe hoh hon) (g_V q417 q418 q419 q2 q420) ⟨rfl, by decide, by decide, by decide +kernel⟩ rfl rfl rfl rfl ⟨by decide, by decide⟩ (Nat.le_of_ble_eq_true rfl) ⟨Nat.le_of_ble_eq_true rfl, Nat.le_of_ble_eq_true rfl⟩ ob_tf (fun v9 x9 m9 hv => ?_)
      obtain ⟨rfl, rfl, rfl⟩ := hv
      refine r_if_lt (tgt := 153) dL_changes_146 (by decide) (fun cz => ?_) (fun cz => ?_)
      · refine r_iconst (v := 0) dL_changes_153 (by decide) ?_
        exact r_zret rfl rfl dL_changes_154 (Nat.le_of_ble_eq_true rfl) (Nat.le_of_ble_eq_true rfl) ⟨false, _, _, _, rfl, rfl, rfl, chg_w (by omega) (chg_r (nn_n cz) (chg_q okI (g_step o) (n_step o oW)))⟩
      · refine r_iconst (v := 1) dL_changes_149 (by decide) ?_
        refine r_goto (tgt := 154) dL_changes_150 (by decide) ?_
        exact r_zret rfl rfl dL_changes_154 (Nat.le_of_ble_eq_true rfl) (Nat.le_of_ble_eq_true rfl) ⟨true, _, _, _, rfl, rfl, rfl, chg_w (by omega) (chg_r (nn_y cz) (chg_q okI (g_step o) (n_step o oW)))⟩
    · refine r_iconst (v := 1) dL_changes_138 (by decide) ?_
      refine r_goto (tgt := 143) dL_changes_139 (by decide) ?_
      refine r_callV (n := 4) (As := [.int (f_some (x >>> (4 &&& 31)) 11), .int (f_some (x >>> (6 &&& 31)) 5), .int (f_some (x >>> (8 &&& 31)) 5), .int (bI true)]) (rest := []) dL_changes_143 (K_step (a := true) hm hoc hob hoe hoh hon) (g_V q417 q418 q419 q2 q420) ⟨rfl, by decide, by decide, by decide +kernel⟩ rfl rfl rfl rfl ⟨by decide, by decide⟩ (Nat.le_of_ble_eq_true rfl) ⟨Nat.le_of_ble_eq_true rfl, Nat.le_of_ble_eq_true rfl⟩ ob_tf (fun v9 x9 m9 hv => ?_)
      obtain ⟨rfl, rfl, rfl⟩ := hv
      refine r_if_lt (tgt := 153) dL_changes_146 (by decide) (fun cz => ?_) (fun cz => ?_)
      · refine r_iconst (v := 0) dL_changes_153 (by decide) ?_
        exact r_zret rfl rfl dL_changes_154 (Nat.le_of_ble_eq_true rfl) (Nat.le_of_ble_eq_true rfl) ⟨false, _, _, _, rfl, rfl, rfl, chg_w (by omega) (chg_r (nn_n cz) (chg_q okI (g_step o) (n_step o oW)))⟩
      · refine r_iconst (v := 1) dL_changes_149 (by decide) ?_
        refine r_goto (tgt := 154) dL_changes_150 (by decide) ?_
        exact r_zret rfl rfl dL_changes_154 (Nat.le_of_ble_eq_true rfl) (Nat.le_of_ble_eq_true rfl) ⟨true, _, _, _, rfl, rfl, rfl, chg_w (by omega) (chg_r (nn_y cz) (chg_q okI (g_step o) (n_step o oW)))⟩
  have T155 : Rj cL_changes RL 4 (some .boolean) (rmg 12 20 500) 20 500 cA ad (fun v x m => ∃ (r : Bool) (M2 : tM) (F2 P2 : tP), v = some (.int (bI r)) ∧ x = ex ∧ m = mm M2 F2 P2 ∧ chg r M P k u (w + 108) h M2 F2 P2) ex 0 0 155 [some (.ref (ad 0 0)), some (.int x), some (.int (nI s)), some (.int (nI t))] [] (mm M F P) := by
    refine r_aload_n dL_changes_155 rfl ?_
    refine r_iload_n dL_changes_156 rfl ?_
    refine r_iload_n dL_changes_157 rfl ?_
    refine r_callV (n := 2) (As := [.int (nI s), .int (nI t)]) (rest := []) dL_changes_158 (K_need hm hoc hob hoe hoh hon) (g_V q429 q430 q431 q2 q432) ⟨rfl, by decide, by decide, by decide +kernel⟩ rfl rfl rfl rfl ⟨by decide, by decide⟩ (Nat.le_of_ble_eq_true rfl) ⟨Nat.le_of_ble_eq_true rfl, Nat.le_of_ble_eq_true rfl⟩ ob_tf (fun v9 x9 m9 hv => ?_)
    obtain ⟨rfl, rfl, rfl⟩ := hv
    refine r_if_lt (tgt := 168) dL_changes_161 (by decide) (fun cz => ?_) (fun cz => ?_)
    · refine r_iconst (v := 0) dL_changes_168 (by decide) ?_
      exact r_zret rfl rfl dL_changes_169 (Nat.le_of_ble_eq_true rfl) (Nat.le_of_ble_eq_true rfl) ⟨false, _, _, _, rfl, rfl, rfl, chg_w (by omega) (chg_r (nn_n cz) (chg_q okI (g_need o) (n_need oW)))⟩
    · refine r_iconst (v := 1) dL_changes_164 (by decide) ?_
      refine r_goto (tgt := 169) dL_changes_165 (by decide) ?_
      exact r_zret rfl rfl dL_changes_169 (Nat.le_of_ble_eq_true rfl) (Nat.le_of_ble_eq_true rfl) ⟨true, _, _, _, rfl, rfl, rfl, chg_w (by omega) (chg_r (nn_y cz) (chg_q okI (g_need o) (n_need oW)))⟩
  have T170 : Rj cL_changes RL 4 (some .boolean) (rmg 12 20 500) 20 500 cA ad (fun v x m => ∃ (r : Bool) (M2 : tM) (F2 P2 : tP), v = some (.int (bI r)) ∧ x = ex ∧ m = mm M2 F2 P2 ∧ chg r M P k u (w + 108) h M2 F2 P2) ex 0 0 170 [some (.ref (ad 0 0)), some (.int x), some (.int (nI s)), some (.int (nI t))] [] (mm M F P) := by
    refine r_aload_n dL_changes_170 rfl ?_
    refine r_iload_n dL_changes_171 rfl ?_
    refine r_iload_n dL_changes_172 rfl ?_
    refine r_bipush (v := 8) dL_changes_173 (by decide) ?_
    refine r_ishr dL_changes_175 ?_
    refine r_bipush (v := 11) dL_changes_176 (by decide) ?_
    refine r_callS (n := 2) (As := [.int (x >>> (8 &&& 31)), .int 11]) (rest := [.int (nI s), .ref (ad 0 0)]) dL_changes_178 (K_some (v := x >>> (8 &&& 31)) (n := 11) (by decide)) ⟨q492, q493, q423, q494⟩ ⟨rfl, by decide, by decide, by decide +kernel⟩ rfl rfl rfl rfl ⟨by decide, by decide⟩ (Nat.le_of_ble_eq_true rfl) ⟨Nat.le_of_ble_eq_true rfl, Nat.le_of_ble_eq_true rfl⟩ (fun v9 x9 m9 hv => ?_)
    obtain ⟨rfl, rfl, rfl⟩ := hv
    refine r_callV (n := 2) (As := [.int (nI s), .int (f_some (x >>> (8 &&& 31)) 11)]) (rest := []) dL_changes_181 (K_fault hm hoc hob hoe hoh hon) (g_V q495 q496 q497 q2 q498) ⟨rfl, by decide, by decide, by decide +kernel⟩ rfl rfl rfl rfl ⟨by decide, by decide⟩ (Nat.le_of_ble_eq_true rfl) ⟨Nat.le_of_ble_eq_true rfl, Nat.le_of_ble_eq_true rfl⟩ ob_tf (fun v9 x9 m9 hv => ?_)
    obtain ⟨rfl, rfl, rfl⟩ := hv
    refine r_if_lt (tgt := 191) dL_changes_184 (by decide) (fun cz => ?_) (fun cz => ?_)
    · refine r_iconst (v := 0) dL_changes_191 (by decide) ?_
      exact r_zret rfl rfl dL_changes_192 (Nat.le_of_ble_eq_true rfl) (Nat.le_of_ble_eq_true rfl) ⟨false, _, _, _, rfl, rfl, rfl, chg_w (by omega) (chg_r (nn_n cz) (chg_q okI (g_fault o) (n_fault (by omega) o oW)))⟩
    · refine r_iconst (v := 1) dL_changes_187 (by decide) ?_
      refine r_goto (tgt := 192) dL_changes_188 (by decide) ?_
      exact r_zret rfl rfl dL_changes_192 (Nat.le_of_ble_eq_true rfl) (Nat.le_of_ble_eq_true rfl) ⟨true, _, _, _, rfl, rfl, rfl, chg_w (by omega) (chg_r (nn_y cz) (chg_q okI (g_fault o) (n_fault (by omega) o oW)))⟩
  have T193 : Rj cL_changes RL 4 (some .boolean) (rmg 12 20 500) 20 500 cA ad (fun v x m => ∃ (r : Bool) (M2 : tM) (F2 P2 : tP), v = some (.int (bI r)) ∧ x = ex ∧ m = mm M2 F2 P2 ∧ chg r M P k u (w + 108) h M2 F2 P2) ex 0 0 193 [some (.ref (ad 0 0)), some (.int x), some (.int (nI s)), some (.int (nI t))] [] (mm M F P) := by
    refine r_aload_n dL_changes_193 rfl ?_
    refine r_iload_n dL_changes_194 rfl ?_
    refine r_iconst (v := 4) dL_changes_195 (by decide) ?_
    refine r_ishr dL_changes_196 ?_
    refine r_bipush (v := 6) dL_changes_197 (by decide) ?_
    refine r_callS (n := 2) (As := [.int (x >>> (4 &&& 31)), .int 6]) (rest := [.ref (ad 0 0)]) dL_changes_199 (K_some (v := x >>> (4 &&& 31)) (n := 6) (by decide)) ⟨q492, q493, q423, q494⟩ ⟨rfl, by decide, by decide, by decide +kernel⟩ rfl rfl rfl rfl ⟨by decide, by decide⟩ (Nat.le_of_ble_eq_true rfl) ⟨Nat.le_of_ble_eq_true rfl, Nat.le_of_ble_eq_true rfl⟩ (fun v9 x9 m9 hv => ?_)
    obtain ⟨rfl, rfl, rfl⟩ := hv
    refine r_callV (n := 1) (As := [.int (f_some (x >>> (4 &&& 31)) 6)]) (rest := []) dL_changes_202 (K_hands hm hoc hob hoe hoh hon) (g_V q119 q120 q121 q2 q122) ⟨rfl, by decide, by decide, by decide +kernel⟩ rfl rfl rfl rfl ⟨by decide, by decide⟩ (Nat.le_of_ble_eq_true rfl) ⟨Nat.le_of_ble_eq_true rfl, Nat.le_of_ble_eq_true rfl⟩ ob_tf (fun v9 x9 m9 hv => ?_)
    obtain ⟨rfl, rfl, rfl⟩ := hv
    refine r_if_lt (tgt := 212) dL_changes_205 (by decide) (fun cz => ?_) (fun cz => ?_)
    · refine r_iconst (v := 0) dL_changes_212 (by decide) ?_
      exact r_zret rfl rfl dL_changes_213 (Nat.le_of_ble_eq_true rfl) (Nat.le_of_ble_eq_true rfl) ⟨false, _, _, _, rfl, rfl, rfl, chg_w (by omega) (chg_r (nn_n cz) (chg_q okI (g_hands o) (n_hands o oW)))⟩
    · refine r_iconst (v := 1) dL_changes_208 (by decide) ?_
      refine r_goto (tgt := 213) dL_changes_209 (by decide) ?_
      exact r_zret rfl rfl dL_changes_213 (Nat.le_of_ble_eq_true rfl) (Nat.le_of_ble_eq_true rfl) ⟨true, _, _, _, rfl, rfl, rfl, chg_w (by omega) (chg_r (nn_y cz) (chg_q okI (g_hands o) (n_hands o oW)))⟩
  have T214 : Rj cL_changes RL 4 (some .boolean) (rmg 12 20 500) 20 500 cA ad (fun v x m => ∃ (r : Bool) (M2 : tM) (F2 P2 : tP), v = some (.int (bI r)) ∧ x = ex ∧ m = mm M2 F2 P2 ∧ chg r M P k u (w + 108) h M2 F2 P2) ex 0 0 214 [some (.ref (ad 0 0)), some (.int x), some (.int (nI s)), some (.int (nI t))] [] (mm M F P) := by
    refine r_aload_n dL_changes_214 rfl ?_
    refine r_iload_n dL_changes_215 rfl ?_
    refine r_iconst (v := 4) dL_changes_216 (by decide) ?_
    refine r_ishr dL_changes_217 ?_
    refine r_iconst (v := 5) dL_changes_218 (by decide) ?_
    refine r_callS (n := 2) (As := [.int (x >>> (4 &&& 31)), .int 5]) (rest := [.ref (ad 0 0)]) dL_changes_219 (K_some (v := x >>> (4 &&& 31)) (n := 5) (by decide)) ⟨q492, q493, q423, q494⟩ ⟨rfl, by decide, by decide, by decide +kernel⟩ rfl rfl rfl rfl ⟨by decide, by decide⟩ (Nat.le_of_ble_eq_true rfl) ⟨Nat.le_of_ble_eq_true rfl, Nat.le_of_ble_eq_true rfl⟩ (fun v9 x9 m9 hv => ?_)
    obtain ⟨rfl, rfl, rfl⟩ := hv
    refine r_callV (n := 1) (As := [.int (f_some (x >>> (4 &&& 31)) 5)]) (rest := []) dL_changes_222 (K_cancel hm hoc hob hoe hoh hon) (g_V q619 q620 q621 q2 q622) ⟨rfl, by decide, by decide, by decide +kernel⟩ rfl rfl rfl rfl ⟨by decide, by decide⟩ (Nat.le_of_ble_eq_true rfl) ⟨Nat.le_of_ble_eq_true rfl, Nat.le_of_ble_eq_true rfl⟩ ob_tf (fun v9 x9 m9 hv => ?_)
    obtain ⟨rfl, rfl, rfl⟩ := hv
    refine r_if_lt (tgt := 232) dL_changes_225 (by decide) (fun cz => ?_) (fun cz => ?_)
    · refine r_iconst (v := 0) dL_changes_232 (by decide) ?_
      exact r_zret rfl rfl dL_changes_233 (Nat.le_of_ble_eq_true rfl) (Nat.le_of_ble_eq_true rfl) ⟨false, _, _, _, rfl, rfl, rfl, chg_w (by omega) (chg_r (nn_n cz) (chg_q okI (g_cancel o) (n_cancel o oW)))⟩
    · refine r_iconst (v := 1) dL_changes_228 (by decide) ?_
      refine r_goto (tgt := 233) dL_changes_229 (by decide) ?_
      exact r_zret rfl rfl dL_changes_233 (Nat.le_of_ble_eq_true rfl) (Nat.le_of_ble_eq_true rfl) ⟨true, _, _, _, rfl, rfl, rfl, chg_w (by omega) (chg_r (nn_y cz) (chg_q okI (g_cancel o) (n_cancel o oW)))⟩
  have T234 : Rj cL_changes RL 4 (some .boolean) (rmg 12 20 500) 20 500 cA ad (fun v x m => ∃ (r : Bool) (M2 : tM) (F2 P2 : tP), v = some (.int (bI r)) ∧ x = ex ∧ m = mm M2 F2 P2 ∧ chg r M P k u (w + 108) h M2 F2 P2) ex 0 0 234 [some (.ref (ad 0 0)), some (.int x), some (.int (nI s)), some (.int (nI t))] [] (mm M F P) := by
    refine r_aload_n dL_changes_234 rfl ?_
    refine r_iload_n dL_changes_235 rfl ?_
    refine r_iload_n dL_changes_236 rfl ?_
    refine r_bipush (v := 6) dL_changes_237 (by decide) ?_
    refine r_ishr dL_changes_239 ?_
    refine r_sipush (v := 1002) dL_changes_240 (by decide) ?_
    refine r_callS (n := 2) (As := [.int (x >>> (6 &&& 31)), .int 1002]) (rest := [.int (nI s), .ref (ad 0 0)]) dL_changes_243 (K_some (v := x >>> (6 &&& 31)) (n := 1002) (by decide)) ⟨q492, q493, q423, q494⟩ ⟨rfl, by decide, by decide, by decide +kernel⟩ rfl rfl rfl rfl ⟨by decide, by decide⟩ (Nat.le_of_ble_eq_true rfl) ⟨Nat.le_of_ble_eq_true rfl, Nat.le_of_ble_eq_true rfl⟩ (fun v9 x9 m9 hv => ?_)
    obtain ⟨rfl, rfl, rfl⟩ := hv
    refine r_callV (n := 2) (As := [.int (nI s), .int (f_some (x >>> (6 &&& 31)) 1002)]) (rest := []) dL_changes_246 (K_mile hm hoc hob hoe hoh hon) (g_V q433 q434 q435 q2 q436) ⟨rfl, by decide, by decide, by decide +kernel⟩ rfl rfl rfl rfl ⟨by decide, by decide⟩ (Nat.le_of_ble_eq_true rfl) ⟨Nat.le_of_ble_eq_true rfl, Nat.le_of_ble_eq_true rfl⟩ ob_tf (fun v9 x9 m9 hv => ?_)
    obtain ⟨rfl, rfl, rfl⟩ := hv
    refine r_if_lt (tgt := 256) dL_changes_249 (by decide) (fun cz => ?_) (fun cz => ?_)
    · refine r_iconst (v := 0) dL_changes_256 (by decide) ?_
      exact r_zret rfl rfl dL_changes_257 (Nat.le_of_ble_eq_true rfl) (Nat.le_of_ble_eq_true rfl) ⟨false, _, _, _, rfl, rfl, rfl, chg_w (by omega) (chg_r (nn_n cz) (chg_q okI (g_mile o) (n_mile o oW)))⟩
    · refine r_iconst (v := 1) dL_changes_252 (by decide) ?_
      refine r_goto (tgt := 257) dL_changes_253 (by decide) ?_
      exact r_zret rfl rfl dL_changes_257 (Nat.le_of_ble_eq_true rfl) (Nat.le_of_ble_eq_true rfl) ⟨true, _, _, _, rfl, rfl, rfl, chg_w (by omega) (chg_r (nn_y cz) (chg_q okI (g_mile o) (n_mile o oW)))⟩
  have T258 : Rj cL_changes RL 4 (some .boolean) (rmg 12 20 500) 20 500 cA ad (fun v x m => ∃ (r : Bool) (M2 : tM) (F2 P2 : tP), v = some (.int (bI r)) ∧ x = ex ∧ m = mm M2 F2 P2 ∧ chg r M P k u (w + 108) h M2 F2 P2) ex 0 0 258 [some (.ref (ad 0 0)), some (.int x), some (.int (nI s)), some (.int (nI t))] [] (mm M F P) := by
    refine r_aload_n dL_changes_258 rfl ?_
    refine r_iload_n dL_changes_259 rfl ?_
    refine r_iconst (v := 4) dL_changes_260 (by decide) ?_
    refine r_ishr dL_changes_261 ?_
    refine r_iload_n dL_changes_262 rfl ?_
    refine r_bipush (v := 9) dL_changes_263 (by decide) ?_
    refine r_ishr dL_changes_265 ?_
    refine r_iconst (v := 1) dL_changes_266 (by decide) ?_
    refine r_iand dL_changes_267 ?_
    refine r_if_ne (tgt := 275) dL_changes_268 (by decide) (fun ca => ?_) (fun ca => ?_)
    · refine r_bipush (v := 32) dL_changes_275 (by decide) ?_
      refine r_callS (n := 2) (As := [.int (x >>> (4 &&& 31)), .int 32]) (rest := [.ref (ad 0 0)]) dL_changes_277 (K_some (v := x >>> (4 &&& 31)) (n := 32) (by decide)) ⟨q492, q493, q423, q494⟩ ⟨rfl, by decide, by decide, by decide +kernel⟩ rfl rfl rfl rfl ⟨by decide, by decide⟩ (Nat.le_of_ble_eq_true rfl) ⟨Nat.le_of_ble_eq_true rfl, Nat.le_of_ble_eq_true rfl⟩ (fun v9 x9 m9 hv => ?_)
      obtain ⟨rfl, rfl, rfl⟩ := hv
      refine r_callV (n := 1) (As := [.int (f_some (x >>> (4 &&& 31)) 32)]) (rest := []) dL_changes_280 (K_days hm hoc hob hoe hoh hon) (g_V q471 q472 q473 q2 q474) ⟨rfl, by decide, by decide, by decide +kernel⟩ rfl rfl rfl rfl ⟨by decide, by decide⟩ (Nat.le_of_ble_eq_true rfl) ⟨Nat.le_of_ble_eq_true rfl, Nat.le_of_ble_eq_true rfl⟩ ob_tf (fun v9 x9 m9 hv => ?_)
      obtain ⟨rfl, rfl, rfl⟩ := hv
      refine r_if_lt (tgt := 290) dL_changes_283 (by decide) (fun cz => ?_) (fun cz => ?_)
      · refine r_iconst (v := 0) dL_changes_290 (by decide) ?_
        exact r_zret rfl rfl dL_changes_291 (Nat.le_of_ble_eq_true rfl) (Nat.le_of_ble_eq_true rfl) ⟨false, _, _, _, rfl, rfl, rfl, chg_w (by omega) (chg_r (nn_n cz) (chg_q okI (g_days o) (n_days o oW)))⟩
      · refine r_iconst (v := 1) dL_changes_286 (by decide) ?_
        refine r_goto (tgt := 291) dL_changes_287 (by decide) ?_
        exact r_zret rfl rfl dL_changes_291 (Nat.le_of_ble_eq_true rfl) (Nat.le_of_ble_eq_true rfl) ⟨true, _, _, _, rfl, rfl, rfl, chg_w (by omega) (chg_r (nn_y cz) (chg_q okI (g_days o) (n_days o oW)))⟩
    · refine r_iconst (v := 4) dL_changes_271 (by decide) ?_
      refine r_goto (tgt := 277) dL_changes_272 (by decide) ?_
      refine r_callS (n := 2) (As := [.int (x >>> (4 &&& 31)), .int 4]) (rest := [.ref (ad 0 0)]) dL_changes_277 (K_some (v := x >>> (4 &&& 31)) (n := 4) (by decide)) ⟨q492, q493, q423, q494⟩ ⟨rfl, by decide, by decide, by decide +kernel⟩ rfl rfl rfl rfl ⟨by decide, by decide⟩ (Nat.le_of_ble_eq_true rfl) ⟨Nat.le_of_ble_eq_true rfl, Nat.le_of_ble_eq_true rfl⟩ (fun v9 x9 m9 hv => ?_)
      obtain ⟨rfl, rfl, rfl⟩ := hv
      refine r_callV (n := 1) (As := [.int (f_some (x >>> (4 &&& 31)) 4)]) (rest := []) dL_changes_280 (K_days hm hoc hob hoe hoh hon) (g_V q471 q472 q473 q2 q474) ⟨rfl, by decide, by decide, by decide +kernel⟩ rfl rfl rfl rfl ⟨by decide, by decide⟩ (Nat.le_of_ble_eq_true rfl) ⟨Nat.le_of_ble_eq_true rfl, Nat.le_of_ble_eq_true rfl⟩ ob_tf (fun v9 x9 m9 hv => ?_)
      obtain ⟨rfl, rfl, rfl⟩ := hv
      refine r_if_lt (tgt := 290) dL_changes_283 (by decide) (fun cz => ?_) (fun cz => ?_)
      · refine r_iconst (v := 0) dL_changes_290 (by decide) ?_
        exact r_zret rfl rfl dL_changes_291 (Nat.le_of_ble_eq_true rfl) (Nat.le_of_ble_eq_true rfl) ⟨false, _, _, _, rfl, rfl, rfl, chg_w (by omega) (chg_r (nn_n cz) (chg_q okI (g_days o) (n_days o oW)))⟩
      · refine r_iconst (v := 1) dL_changes_286 (by decide) ?_
        refine r_goto (tgt := 291) dL_changes_287 (by decide) ?_
        exact r_zret rfl rfl dL_changes_291 (Nat.le_of_ble_eq_true rfl) (Nat.le_of_ble_eq_true rfl) ⟨true, _, _, _, rfl, rfl, rfl, chg_w (by omega) (chg_r (nn_y cz) (chg_q okI (g_days o) (n_days o oW)))⟩
  have T400 : ∀ (ss rr nn0 : Nat) (aa : Nat → Int32), okby aa nn0 → nn0 ≤ 60 → Rj cL_changes RL 4 (some .boolean) (rmg 12 20 500) 20 500 cA ad (fun v x m => ∃ (r : Bool) (M2 : tM) (F2 P2 : tP), v = some (.int (bI r)) ∧ x = ex ∧ m = mm M2 F2 P2 ∧ chg r M P k u (w + 108) h M2 F2 P2) (ex ++ stc cA ss rr nn0 aa) 20 500 400 [some (.ref (ad 0 0)), some (.int x), some (.int (nI s)), some (.int (nI t))] [.ref ss, .ref (ad 0 0)] (mm M F P) := by
    intro ss rr nn0 aa hb1 hn60
    have hsL : ∀ M', Cj yJ0_length_8abf5 cJ0_length_8abf5 1 (some .int) (rmd 1) 0 0 cA ad [.ref ss] (ex ++ stc cA ss rr nn0 aa) M' (Qe (some (.int (nI nn0))) (ex ++ stc cA ss rr nn0 aa) M') := fun M' => cj_s (G_sLen (wx_at (i := ex.length) at_0) (wx_at (i := ex.length + 1) at_1))
    have hsC : ∀ M' j, j < nn0 → Cj yJ0_charAt_5068e cJ0_charAt_5068e 2 (some .char) (rmd 3) 0 0 cA ad [.ref ss, .int (nI j)] (ex ++ stc cA ss rr nn0 aa) M' (Qe (some (.int (aa j))) (ex ++ stc cA ss rr nn0 aa) M') := fun M' j hj => cj_s (G_sChar (wx_at (i := ex.length) at_0) (wx_at (i := ex.length + 1) at_1) hb1 hj (by omega))
    have hsR : ∀ M', isRc cA ad (ex ++ stc cA ss rr nn0 aa) M' ss "java/lang/String" := fun M' => rc_w (rw_at (wx_at (i := ex.length) at_0) (rfl : vwCl[0]? = some _) rfl)
    have hbc : ∀ j, j < nn0 → ∃ c : Nat, 32 ≤ c ∧ c ≤ 126 ∧ aa j = nI c := hb1
    obtain ⟨-, a3, -, ⟨a6, a7⟩, -⟩ := id I
    have h0 : tl (M 13) = 0 := by rw [tl, a7]; rfl
    refine r_callS (n := 2) (As := [.ref (ad 0 0), .ref ss]) (rest := []) dL_changes_400 (K_reads hsL hsC hsR hbc hn60 hm o (fun j hj => (a3 j hj).1.2.1) a6 h0) ⟨q623, q624, q423, q625⟩ ⟨rfl, by decide, by decide, by decide +kernel⟩ rfl rfl rfl rfl ⟨by decide, by decide⟩ (Nat.le_of_ble_eq_true rfl) ⟨Nat.le_of_ble_eq_true rfl, Nat.le_of_ble_eq_true rfl⟩ (fun v9 x9 m9 hv => ?_)
    obtain ⟨rfl, rfl, rfl⟩ := hv
    refine j_g (g_eq (ws' := wsT cA ad ex (mm (t_run (m_pl M 13 (apT (fun j => aa j) nn0 0 (M 13))) F P).2.1 (t_run (m_pl M 13 (apT (fun j => aa j) nn0 0 (M 13))) F P).2.2.1 (t_run (m_pl M 13 (apT (fun j => aa j) nn0 0 (M 13))) F P).2.2.2) ++ stc cA ss rr nn0 aa ++ []) (by rw [List.append_nil, wsT_app]) (g_drop (g_eq (ws' := wsT cA ad ex (mm (t_run (m_pl M 13 (apT (fun j => aa j) nn0 0 (M 13))) F P).2.1 (t_run (m_pl M 13 (apT (fun j => aa j) nn0 0 (M 13))) F P).2.2.1 (t_run (m_pl M 13 (apT (fun j => aa j) nn0 0 (M 13))) F P).2.2.2)) (List.append_nil _).symm (g_j ?_))))
    refine r_if_lt (tgt := 410) dL_changes_403 (by decide) (fun cz => ?_) (fun cz => ?_)
    · refine r_iconst (v := 0) dL_changes_410 (by decide) ?_
      exact r_zret rfl rfl dL_changes_411 (Nat.le_of_ble_eq_true rfl) (Nat.le_of_ble_eq_true rfl) ⟨false, _, _, _, rfl, rfl, rfl, chg_w (by omega) (chg_r (nn_n cz) (chg_run I hw (apT_ok hbc hn60 _ 0 _ (Nat.zero_add _) a6 h0)))⟩
    · refine r_iconst (v := 1) dL_changes_406 (by decide) ?_
      refine r_goto (tgt := 411) dL_changes_407 (by decide) ?_
      exact r_zret rfl rfl dL_changes_411 (Nat.le_of_ble_eq_true rfl) (Nat.le_of_ble_eq_true rfl) ⟨true, _, _, _, rfl, rfl, rfl, chg_w (by omega) (chg_r (nn_y cz) (chg_run I hw (apT_ok hbc hn60 _ 0 _ (Nat.zero_add _) a6 h0)))⟩
  have T292 : Rj cL_changes RL 4 (some .boolean) (rmg 12 20 500) 20 500 cA ad (fun v x m => ∃ (r : Bool) (M2 : tM) (F2 P2 : tP), v = some (.int (bI r)) ∧ x = ex ∧ m = mm M2 F2 P2 ∧ chg r M P k u (w + 108) h M2 F2 P2) ex 0 0 292 [some (.ref (ad 0 0)), some (.int x), some (.int (nI s)), some (.int (nI t))] [] (mm M F P) := by
    refine r_aload_n dL_changes_292 rfl ?_
    refine r_iload_n dL_changes_293 rfl ?_
    refine r_bipush (v := 6) dL_changes_294 (by decide) ?_
    refine r_ishr dL_changes_296 ?_
    refine r_iconst (v := 1) dL_changes_297 (by decide) ?_
    refine r_iand dL_changes_298 ?_
    refine r_if_ne (tgt := 363) dL_changes_299 (by decide) (fun ca => ?_) (fun ca => ?_)
    · refine j_g ?_
      refine g_new (ci := 1) (C := RJ4) (T := TJ4) (N := 4) (fs := [.null, .int 0, .int 0, .int 0]) rfl inlJ4 tyJ4 tyJ4_ok q634 q635 q636 (by decide) ⟨by decide, by decide⟩ dL_changes_363 (fun b => ?_)
      refine g_dup dL_changes_366 rfl ?_
      refine g_callI (n := 0) (As := []) (rest := [.ref b, .ref (ad 0 0)]) dL_changes_367 G_sb ⟨q637, q638, q636, q639, rfl⟩ ⟨by decide, by decide, by decide +kernel⟩ rfl rfl rfl rfl ⟨by decide, by decide⟩ (Nat.le_of_ble_eq_true rfl) ⟨Nat.le_of_ble_eq_true rfl, Nat.le_of_ble_eq_true rfl⟩ (fun v w hv => ?_)
      obtain ⟨rfl, v0, rfl⟩ := hv
      have h01 : (16 : Nat) = 16 ∨ 16 = 34 := Or.inl rfl
      have h02 : 0 ≤ 16 := Nat.zero_le _
      have h03 : okby (fun _ => 0) 0 := fun j hj => absurd hj (Nat.not_lt_zero j)
      have h04 := fit_0
      refine g_ldcS (List.mem_of_getElem? (i := 11) rfl) dL_changes_370 ?_
      refine g_callV (n := 1) (As := [.ref (ad 16 2)]) (rest := [.ref (ad 0 0)]) dL_changes_372 (G_appS h01 h02 h03 h04 (by decide) (by decide)) (g_V q656 q657 q658 q636 q659) ⟨rfl, by decide, by decide, by decide +kernel⟩ rfl rfl rfl rfl ⟨by decide, by decide⟩ (Nat.le_of_ble_eq_true rfl) ⟨by decide, by decide⟩ (rw_at (i := (wsT cA ad ex (mm M F P)).length) at_0 (rfl : vwCl[1]? = some _) rfl) (fun v w hv => ?_)
      obtain ⟨rfl, v1, m1, a1, h11, h12, h13, h14, rfl⟩ := hv
      refine g_iload_n dL_changes_375 rfl ?_
      refine g_callV (n := 1) (As := [.int (nI s)]) (rest := [.ref (ad 0 0)]) dL_changes_376 (G_appI h11 h12 h13 h14 (by omega) (by have := dg_le (v := s); have : lenS.getD 2 0 = 6 := rfl; omega)) (g_V q755 q756 q757 q636 q758) ⟨rfl, by decide, by decide, by decide +kernel⟩ rfl rfl rfl rfl ⟨by decide, by decide⟩ (Nat.le_of_ble_eq_true rfl) ⟨by decide, by decide⟩ (rw_at (i := (wsT cA ad ex (mm M F P)).length) at_0 (rfl : vwCl[1]? = some _) rfl) (fun v w hv => ?_)
      obtain ⟨rfl, v2, m2, a2, h21, h22, h23, h24, rfl⟩ := hv
      refine g_ldcS (List.mem_of_getElem? (i := 12) rfl) dL_changes_379 ?_
      refine g_callV (n := 1) (As := [.ref (ad 16 10)]) (rest := [.ref (ad 0 0)]) dL_changes_381 (G_appS h21 h22 h23 h24 (by decide) (by have := dg_le (v := s); have : lenS.getD 2 0 = 6 := rfl; have : lenS.getD 10 0 = 8 := rfl; omega)) (g_V q656 q657 q658 q636 q659) ⟨rfl, by decide, by decide, by decide +kernel⟩ rfl rfl rfl rfl ⟨by decide, by decide⟩ (Nat.le_of_ble_eq_true rfl) ⟨by decide, by decide⟩ (rw_at (i := (wsT cA ad ex (mm M F P)).length) at_0 (rfl : vwCl[1]? = some _) rfl) (fun v w hv => ?_)
      obtain ⟨rfl, v3, m3, a3, h31, h32, h33, h34, rfl⟩ := hv
      refine g_iload_n dL_changes_384 rfl ?_
      refine g_callV (n := 1) (As := [.int (nI s)]) (rest := [.ref (ad 0 0)]) dL_changes_385 (G_appI h31 h32 h33 h34 (by omega) (by have := dg_le (v := s); have : lenS.getD 2 0 = 6 := rfl; have : lenS.getD 10 0 = 8 := rfl; omega)) (g_V q755 q756 q757 q636 q758) ⟨rfl, by decide, by decide, by decide +kernel⟩ rfl rfl rfl rfl ⟨by decide, by decide⟩ (Nat.le_of_ble_eq_true rfl) ⟨by decide, by decide⟩ (rw_at (i := (wsT cA ad ex (mm M F P)).length) at_0 (rfl : vwCl[1]? = some _) rfl) (fun v w hv => ?_)
      obtain ⟨rfl, v4, m4, a4, h41, h42, h43, h44, rfl⟩ := hv
      refine g_ldcS (List.mem_of_getElem? (i := 13) rfl) dL_changes_388 ?_
      refine g_callV (n := 1) (As := [.ref (ad 16 11)]) (rest := [.ref (ad 0 0)]) dL_changes_390 (G_appS h41 h42 h43 h44 (by decide) (by have := dg_le (v := s); have : lenS.getD 2 0 = 6 := rfl; have : lenS.getD 10 0 = 8 := rfl; have : lenS.getD 11 0 = 1 := rfl; omega)) (g_V q656 q657 q658 q636 q659) ⟨rfl, by decide, by decide, by decide +kernel⟩ rfl rfl rfl rfl ⟨by decide, by decide⟩ (Nat.le_of_ble_eq_true rfl) ⟨by decide, by decide⟩ (rw_at (i := (wsT cA ad ex (mm M F P)).length) at_0 (rfl : vwCl[1]? = some _) rfl) (fun v w hv => ?_)
      obtain ⟨rfl, v5, m5, a5, h51, h52, h53, h54, rfl⟩ := hv
      refine g_iload_n dL_changes_393 rfl ?_
      refine g_callV (n := 1) (As := [.int (nI t)]) (rest := [.ref (ad 0 0)]) dL_changes_394 (G_appI h51 h52 h53 h54 (by omega) (by have := dg_le (v := s); have := dg_le (v := t); have : lenS.getD 2 0 = 6 := rfl; have : lenS.getD 10 0 = 8 := rfl; have : lenS.getD 11 0 = 1 := rfl; omega)) (g_V q755 q756 q757 q636 q758) ⟨rfl, by decide, by decide, by decide +kernel⟩ rfl rfl rfl rfl ⟨by decide, by decide⟩ (Nat.le_of_ble_eq_true rfl) ⟨by decide, by decide⟩ (rw_at (i := (wsT cA ad ex (mm M F P)).length) at_0 (rfl : vwCl[1]? = some _) rfl) (fun v w hv => ?_)
      obtain ⟨rfl, v6, m6, a6, h61, h62, h63, h64, rfl⟩ := hv
      refine g_callV (n := 0) (As := []) (rest := [.ref (ad 0 0)]) dL_changes_397 (G_toS h61 h62 h63 h64) (g_V q779 q780 q781 q636 q782) ⟨rfl, by decide, by decide, by decide +kernel⟩ rfl rfl rfl rfl ⟨by decide, by decide⟩ (Nat.le_of_ble_eq_true rfl) ⟨by decide, by decide⟩ (rw_at (i := (wsT cA ad ex (mm M F P)).length) at_0 (rfl : vwCl[1]? = some _) rfl) (fun v w hv => ?_)
      obtain ⟨ss, rfl, rr, aa, hb1, rfl⟩ := hv
      refine g_widen (c2 := 20) (s2 := 500) (by decide) (by decide) ?_
      refine g_eq wsT_app.symm ?_
      exact g_j (T400 ss rr _ aa hb1 (by have := dg_le (v := s); have := dg_le (v := t); have : lenS.getD 2 0 = 6 := rfl; have : lenS.getD 10 0 = 8 := rfl; have : lenS.getD 11 0 = 1 := rfl; omega))
    · refine j_g ?_
      refine g_new (ci := 1) (C := RJ4) (T := TJ4) (N := 4) (fs := [.null, .int 0, .int 0, .int 0]) rfl inlJ4 tyJ4 tyJ4_ok q634 q635 q636 (by decide) ⟨by decide, by decide⟩ dL_changes_302 (fun b => ?_)
      refine g_dup dL_changes_305 rfl ?_
      refine g_callI (n := 0) (As := []) (rest := [.ref b, .ref (ad 0 0)]) dL_changes_306 G_sb ⟨q637, q638, q636, q639, rfl⟩ ⟨by decide, by decide, by decide +kernel⟩ rfl rfl rfl rfl ⟨by decide, by decide⟩ (Nat.le_of_ble_eq_true rfl) ⟨Nat.le_of_ble_eq_true rfl, Nat.le_of_ble_eq_true rfl⟩ (fun v w hv => ?_)
      obtain ⟨rfl, v0, rfl⟩ := hv
      have h01 : (16 : Nat) = 16 ∨ 16 = 34 := Or.inl rfl
      have h02 : 0 ≤ 16 := Nat.zero_le _
      have h03 : okby (fun _ => 0) 0 := fun j hj => absurd hj (Nat.not_lt_zero j)
      have h04 := fit_0
      refine g_ldcS (List.mem_of_getElem? (i := 8) rfl) dL_changes_309 ?_
      refine g_callV (n := 1) (As := [.ref (ad 16 0)]) (rest := [.ref (ad 0 0)]) dL_changes_311 (G_appS h01 h02 h03 h04 (by decide) (by decide)) (g_V q656 q657 q658 q636 q659) ⟨rfl, by decide, by decide, by decide +kernel⟩ rfl rfl rfl rfl ⟨by decide, by decide⟩ (Nat.le_of_ble_eq_true rfl) ⟨by decide, by decide⟩ (rw_at (i := (wsT cA ad ex (mm M F P)).length) at_0 (rfl : vwCl[1]? = some _) rfl) (fun v w hv => ?_)
      obtain ⟨rfl, v1, m1, a1, h11, h12, h13, h14, rfl⟩ := hv
      refine g_iload_n dL_changes_314 rfl ?_
      refine g_iconst (v := 4) dL_changes_315 (by decide) ?_
      refine g_ishr dL_changes_316 ?_
      refine g_bipush (v := 10) dL_changes_317 (by decide) ?_
      refine g_callS (n := 2) (As := [.int (x >>> (4 &&& 31)), .int 10]) (rest := [.ref b, .ref (ad 0 0)]) dL_changes_319 (G_some (v := x >>> (4 &&& 31)) (n := 10) (by decide)) ⟨q492, q493, q423, q494⟩ ⟨rfl, by decide, by decide, by decide +kernel⟩ rfl rfl rfl rfl ⟨by decide, by decide⟩ (Nat.le_of_ble_eq_true rfl) ⟨by decide, by decide⟩ (fun v w hv => ?_)
      obtain ⟨rfl, hw0⟩ := hv
      rw [hw0]
      obtain ⟨d1, hd1, ed1⟩ := some_r (x >>> (4 &&& 31)) (n := 10) (by omega) (by omega)
      rw [show f_some (x >>> (4 &&& 31)) 10 = nI d1 from ed1]
      refine g_callV (n := 1) (As := [.int (nI d1)]) (rest := [.ref (ad 0 0)]) dL_changes_322 (G_appI h11 h12 h13 h14 (by omega) (by have := dg_le (v := d1); have : lenS.getD 0 0 = 5 := rfl; omega)) (g_V q755 q756 q757 q636 q758) ⟨rfl, by decide, by decide, by decide +kernel⟩ rfl rfl rfl rfl ⟨by decide, by decide⟩ (Nat.le_of_ble_eq_true rfl) ⟨by decide, by decide⟩ (rw_at (i := (wsT cA ad ex (mm M F P)).length) at_0 (rfl : vwCl[1]? = some _) rfl) (fun v w hv => ?_)
      obtain ⟨rfl, v2, m2, a2, h21, h22, h23, h24, rfl⟩ := hv
      refine g_ldcS (List.mem_of_getElem? (i := 9) rfl) dL_changes_325 ?_
      refine g_callV (n := 1) (As := [.ref (ad 16 8)]) (rest := [.ref (ad 0 0)]) dL_changes_327 (G_appS h21 h22 h23 h24 (by decide) (by have := dg_le (v := d1); have : lenS.getD 0 0 = 5 := rfl; have : lenS.getD 8 0 = 3 := rfl; omega)) (g_V q656 q657 q658 q636 q659) ⟨rfl, by decide, by decide, by decide +kernel⟩ rfl rfl rfl rfl ⟨by decide, by decide⟩ (Nat.le_of_ble_eq_true rfl) ⟨by decide, by decide⟩ (rw_at (i := (wsT cA ad ex (mm M F P)).length) at_0 (rfl : vwCl[1]? = some _) rfl) (fun v w hv => ?_)
      obtain ⟨rfl, v3, m3, a3, h31, h32, h33, h34, rfl⟩ := hv
      refine g_iload_n dL_changes_330 rfl ?_
      refine g_bipush (v := 7) dL_changes_331 (by decide) ?_
      refine g_ishr dL_changes_333 ?_
      refine g_iconst (v := 4) dL_changes_334 (by decide) ?_
      refine g_callS (n := 2) (As := [.int (x >>> (7 &&& 31)), .int 4]) (rest := [.ref b, .ref (ad 0 0)]) dL_changes_335 (G_some (v := x >>> (7 &&& 31)) (n := 4) (by decide)) ⟨q492, q493, q423, q494⟩ ⟨rfl, by decide, by decide, by decide +kernel⟩ rfl rfl rfl rfl ⟨by decide, by decide⟩ (Nat.le_of_ble_eq_true rfl) ⟨by decide, by decide⟩ (fun v w hv => ?_)
      obtain ⟨rfl, hw0⟩ := hv
      rw [hw0]
      obtain ⟨d2, hd2, ed2⟩ := some_r (x >>> (7 &&& 31)) (n := 4) (by omega) (by omega)
      rw [show f_some (x >>> (7 &&& 31)) 4 = nI d2 from ed2]
      refine g_callV (n := 1) (As := [.int (nI d2)]) (rest := [.ref (ad 0 0)]) dL_changes_338 (G_appI h31 h32 h33 h34 (by omega) (by have := dg_le (v := d1); have := dg_le (v := d2); have : lenS.getD 0 0 = 5 := rfl; have : lenS.getD 8 0 = 3 := rfl; omega)) (g_V q755 q756 q757 q636 q758) ⟨rfl, by decide, by decide, by decide +kernel⟩ rfl rfl rfl rfl ⟨by decide, by decide⟩ (Nat.le_of_ble_eq_true rfl) ⟨by decide, by decide⟩ (rw_at (i := (wsT cA ad ex (mm M F P)).length) at_0 (rfl : vwCl[1]? = some _) rfl) (fun v w hv => ?_)
      obtain ⟨rfl, v4, m4, a4, h41, h42, h43, h44, rfl⟩ := hv
      refine g_ldcS (List.mem_of_getElem? (i := 10) rfl) dL_changes_341 ?_
      refine g_callV (n := 1) (As := [.ref (ad 16 9)]) (rest := [.ref (ad 0 0)]) dL_changes_343 (G_appS h41 h42 h43 h44 (by decide) (by have := dg_le (v := d1); have := dg_le (v := d2); have : lenS.getD 0 0 = 5 := rfl; have : lenS.getD 8 0 = 3 := rfl; have : lenS.getD 9 0 = 5 := rfl; omega)) (g_V q656 q657 q658 q636 q659) ⟨rfl, by decide, by decide, by decide +kernel⟩ rfl rfl rfl rfl ⟨by decide, by decide⟩ (Nat.le_of_ble_eq_true rfl) ⟨by decide, by decide⟩ (rw_at (i := (wsT cA ad ex (mm M F P)).length) at_0 (rfl : vwCl[1]? = some _) rfl) (fun v w hv => ?_)
      obtain ⟨rfl, v5, m5, a5, h51, h52, h53, h54, rfl⟩ := hv
      refine g_iload_n dL_changes_346 rfl ?_
      refine g_bipush (v := 9) dL_changes_347 (by decide) ?_
      refine g_ishr dL_changes_349 ?_
      refine g_iconst (v := 4) dL_changes_350 (by decide) ?_
      refine g_callS (n := 2) (As := [.int (x >>> (9 &&& 31)), .int 4]) (rest := [.ref b, .ref (ad 0 0)]) dL_changes_351 (G_some (v := x >>> (9 &&& 31)) (n := 4) (by decide)) ⟨q492, q493, q423, q494⟩ ⟨rfl, by decide, by decide, by decide +kernel⟩ rfl rfl rfl rfl ⟨by decide, by decide⟩ (Nat.le_of_ble_eq_true rfl) ⟨by decide, by decide⟩ (fun v w hv => ?_)
      obtain ⟨rfl, hw0⟩ := hv
      rw [hw0]
      obtain ⟨d3, hd3, ed3⟩ := some_r (x >>> (9 &&& 31)) (n := 4) (by omega) (by omega)
      rw [show f_some (x >>> (9 &&& 31)) 4 = nI d3 from ed3]
      refine g_callV (n := 1) (As := [.int (nI d3)]) (rest := [.ref (ad 0 0)]) dL_changes_354 (G_appI h51 h52 h53 h54 (by omega) (by have := dg_le (v := d1); have := dg_le (v := d2); have := dg_le (v := d3); have : lenS.getD 0 0 = 5 := rfl; have : lenS.getD 8 0 = 3 := rfl; have : lenS.getD 9 0 = 5 := rfl; omega)) (g_V q755 q756 q757 q636 q758) ⟨rfl, by decide, by decide, by decide +kernel⟩ rfl rfl rfl rfl ⟨by decide, by decide⟩ (Nat.le_of_ble_eq_true rfl) ⟨by decide, by decide⟩ (rw_at (i := (wsT cA ad ex (mm M F P)).length) at_0 (rfl : vwCl[1]? = some _) rfl) (fun v w hv => ?_)
      obtain ⟨rfl, v6, m6, a6, h61, h62, h63, h64, rfl⟩ := hv
      refine g_callV (n := 0) (As := []) (rest := [.ref (ad 0 0)]) dL_changes_357 (G_toS h61 h62 h63 h64) (g_V q779 q780 q781 q636 q782) ⟨rfl, by decide, by decide, by decide +kernel⟩ rfl rfl rfl rfl ⟨by decide, by decide⟩ (Nat.le_of_ble_eq_true rfl) ⟨by decide, by decide⟩ (rw_at (i := (wsT cA ad ex (mm M F P)).length) at_0 (rfl : vwCl[1]? = some _) rfl) (fun v w hv => ?_)
      obtain ⟨ss, rfl, rr, aa, hb1, rfl⟩ := hv
      refine g_goto (tgt := 400) dL_changes_360 (by decide) ?_
      refine g_widen (c2 := 20) (s2 := 500) (by decide) (by decide) ?_
      refine g_eq wsT_app.symm ?_
      exact g_j (T400 ss rr _ aa hb1 (by have := dg_le (v := d1); have := dg_le (v := d2); have := dg_le (v := d3); have : lenS.getD 0 0 = 5 := rfl; have : lenS.getD 8 0 = 3 := rfl; have : lenS.getD 9 0 = 5 := rfl; omega))
  have TS : ∀ j, j < 18 → Rj cL_changes RL 4 (some .boolean) (rmg 12 20 500) 20 500 cA ad (fun v x m => ∃ (r : Bool) (M2 : tM) (F2 P2 : tP), v = some (.int (bI r)) ∧ x = ex ∧ m = mm M2 F2 P2 ∧ chg r M P k u (w + 108) h M2 F2 P2) ex 0 0 35 [some (.ref (ad 0 0)), some (.int x), some (.int (nI s)), some (.int (nI t))] [.int (nI j)] (mm M F P) := by
    intro j hj
    rcases (by omega : j = 0 ∨ j = 1 ∨ j = 2 ∨ j = 3 ∨ j = 4 ∨ j = 5 ∨ j = 6 ∨ j = 7 ∨ j = 8 ∨ j = 9 ∨ j = 10 ∨ j = 11 ∨ j = 12 ∨ j = 13 ∨ j = 14 ∨ j = 15 ∨ j = 16 ∨ j = 17) with rfl | rfl | rfl | rfl | rfl | rfl | rfl | rfl | rfl | rfl | rfl | rfl | rfl | rfl | rfl | rfl | rfl | rfl
    · exact r_tableIn (off := 69) (tgt := 104) dL_changes_35 (by decide) (by decide) (by decide) (by decide) T104
    · exact r_tableIn (off := 69) (tgt := 104) dL_changes_35 (by decide) (by decide) (by decide) (by decide) T104
    · exact r_tableIn (off := 120) (tgt := 155) dL_changes_35 (by decide) (by decide) (by decide) (by decide) T155
    · exact r_tableIn (off := 120) (tgt := 155) dL_changes_35 (by decide) (by decide) (by decide) (by decide) T155
    · exact r_tableIn (off := 120) (tgt := 155) dL_changes_35 (by decide) (by decide) (by decide) (by decide) T155
    · exact r_tableIn (off := 135) (tgt := 170) dL_changes_35 (by decide) (by decide) (by decide) (by decide) T170
    · exact r_tableIn (off := 135) (tgt := 170) dL_changes_35 (by decide) (by decide) (by decide) (by decide) T170
    · exact r_tableIn (off := 158) (tgt := 193) dL_changes_35 (by decide) (by decide) (by decide) (by decide) T193
    · exact r_tableIn (off := 179) (tgt := 214) dL_changes_35 (by decide) (by decide) (by decide) (by decide) T214
    · exact r_tableIn (off := 199) (tgt := 234) dL_changes_35 (by decide) (by decide) (by decide) (by decide) T234
    · exact r_tableIn (off := 199) (tgt := 234) dL_changes_35 (by decide) (by decide) (by decide) (by decide) T234
    · exact r_tableIn (off := 223) (tgt := 258) dL_changes_35 (by decide) (by decide) (by decide) (by decide) T258
    · exact r_tableIn (off := 223) (tgt := 258) dL_changes_35 (by decide) (by decide) (by decide) (by decide) T258
    · exact r_tableIn (off := 223) (tgt := 258) dL_changes_35 (by decide) (by decide) (by decide) (by decide) T258
    · exact r_tableOut dL_changes_35 (by decide) (by decide) T292
    · exact r_tableOut dL_changes_35 (by decide) (by decide) T292
    · exact r_tableOut dL_changes_35 (by decide) (by decide) T292
    · exact r_tableOut dL_changes_35 (by decide) (by decide) T292
  refine r_iload_n dL_changes_0 rfl ?_
  refine r_iconst (v := 4) dL_changes_1 (by decide) ?_
  refine r_ishr dL_changes_2 ?_
  refine r_aload_n dL_changes_3 rfl ?_
  refine r_iconst (v := 1) dL_changes_4 (by decide) ?_
  refine r_callV (n := 1) (As := [.int 1]) (rest := [.int (x >>> (4 &&& 31))]) dL_changes_5 (K_acc (x := 1) o0.1) (g_V q149 q150 q151 q2 q152) ⟨rfl, by decide, by decide, by decide +kernel⟩ rfl rfl rfl rfl ⟨by decide, by decide⟩ (Nat.le_of_ble_eq_true rfl) ⟨Nat.le_of_ble_eq_true rfl, Nat.le_of_ble_eq_true rfl⟩ ob_tf (fun v9 x9 m9 hv => ?_)
  obtain ⟨rfl, rfl, rfl⟩ := hv
  rw [hc1]
  refine r_iconst (v := 1) dL_changes_8 (by decide) ?_
  refine r_iadd dL_changes_9 ?_
  rw [nI_1]
  refine r_callS (n := 2) (As := [.int (x >>> (4 &&& 31)), .int (nI (cn P + 1))]) (rest := []) dL_changes_10 (K_some (v := x >>> (4 &&& 31)) (n := nI (cn P + 1)) (nI_ne0 (by omega) (by omega))) ⟨q492, q493, q423, q494⟩ ⟨rfl, by decide, by decide, by decide +kernel⟩ rfl rfl rfl rfl ⟨by decide, by decide⟩ (Nat.le_of_ble_eq_true rfl) ⟨Nat.le_of_ble_eq_true rfl, Nat.le_of_ble_eq_true rfl⟩ (fun v9 x9 m9 hv => ?_)
  obtain ⟨rfl, rfl, rfl⟩ := hv
  rw [es]
  refine r_istore_n dL_changes_13 (by decide) rfl ?_
  refine r_iload_n dL_changes_14 rfl ?_
  refine r_bipush (v := 7) dL_changes_15 (by decide) ?_
  refine r_ishr dL_changes_17 ?_
  refine r_aload_n dL_changes_18 rfl ?_
  refine r_iconst (v := 1) dL_changes_19 (by decide) ?_
  refine r_callV (n := 1) (As := [.int 1]) (rest := [.int (x >>> (7 &&& 31))]) dL_changes_20 (K_acc (x := 1) o0.1) (g_V q149 q150 q151 q2 q152) ⟨rfl, by decide, by decide, by decide +kernel⟩ rfl rfl rfl rfl ⟨by decide, by decide⟩ (Nat.le_of_ble_eq_true rfl) ⟨Nat.le_of_ble_eq_true rfl, Nat.le_of_ble_eq_true rfl⟩ ob_tf (fun v9 x9 m9 hv => ?_)
  obtain ⟨rfl, rfl, rfl⟩ := hv
  rw [hc1]
  refine r_iconst (v := 1) dL_changes_23 (by decide) ?_
  refine r_iadd dL_changes_24 ?_
  rw [nI_1]
  refine r_callS (n := 2) (As := [.int (x >>> (7 &&& 31)), .int (nI (cn P + 1))]) (rest := []) dL_changes_25 (K_some (v := x >>> (7 &&& 31)) (n := nI (cn P + 1)) (nI_ne0 (by omega) (by omega))) ⟨q492, q493, q423, q494⟩ ⟨rfl, by decide, by decide, by decide +kernel⟩ rfl rfl rfl rfl ⟨by decide, by decide⟩ (Nat.le_of_ble_eq_true rfl) ⟨Nat.le_of_ble_eq_true rfl, Nat.le_of_ble_eq_true rfl⟩ (fun v9 x9 m9 hv => ?_)
  obtain ⟨rfl, rfl, rfl⟩ := hv
  rw [et]
  refine r_istore_n dL_changes_28 (by decide) rfl ?_
  refine r_iload_n dL_changes_29 rfl ?_
  refine r_bipush (v := 18) dL_changes_30 (by decide) ?_
  refine r_callS (n := 2) (As := [.int x, .int 18]) (rest := []) dL_changes_32 (K_some (v := x) (n := 18) (by decide)) ⟨q492, q493, q423, q494⟩ ⟨rfl, by decide, by decide, by decide +kernel⟩ rfl rfl rfl rfl ⟨by decide, by decide⟩ (Nat.le_of_ble_eq_true rfl) ⟨Nat.le_of_ble_eq_true rfl, Nat.le_of_ble_eq_true rfl⟩ (fun v9 x9 m9 hv => ?_)
  obtain ⟨rfl, rfl, rfl⟩ := hv
  rw [show f_some x 18 = nI j from ej]
  exact TS j hj

/-! PART 09: rows over the text (region 13), the line (14), the chains (15) taken out of the matrix; the chains -/
section
variable {cc : ByteArray} {own : String} {nL : Nat} {ret : Option FieldType} {rm : Room} {mc ms : Nat} {cA : Nat → ClassId} {ad : tA} {Q : Option Value → va_W → tM → Prop} {ex : va_W} {cells slots pc : Nat} {lv : List (Option Value)} {st : List Value} {M : tM}
theorem r_getp_ot {idx : Nat}  {v : Value} {P : tP} (kf : Nat) (hk : kf < 5) (hw : Cond.fieldLink own idx (TX3 kf).1 (TX3 kf).2.1 (TX3 kf).2.2.1 ∈ wsL_law) (hv : (l_ot ad (P 0))[kf]? = some v) (hd : decode cc pc = .ok (.getfield idx, 3)) (k : Rj cc own nL ret rm mc ms cA ad Q ex cells slots (pc + 3) lv (v :: st) (m_pl M 13 P)) : Rj cc own nL ret rm mc ms cA ad Q ex cells slots pc lv (.ref (ad 13 0) :: st) (m_pl M 13 P) := r_get_ot  kf hk hw (by rw [m_pl_s]; exact hv) hd k
theorem r_putp_ot {idx : Nat}  {x : Int32} {P : tP} {ty : FieldType} (kf : Nat) (hk : kf < 5) (hw : Cond.fieldLink own idx (TX3 kf).1 (TX3 kf).2.1 (TX3 kf).2.2.1 ∈ wsL_law) (hfin : (TX3 kf).2.2.2 = false) (het : tyX3 kf = ty) (hn : narrow ty (.int x) = .int x) (hfit : fits ty (.int x) = true) (hset : l_ot ad (upd (P 0) kf x) = (l_ot ad (P 0)).set kf (.int x)) (hd : decode cc pc = .ok (.putfield idx, 3)) (k : Rj cc own nL ret rm mc ms cA ad Q ex cells slots (pc + 3) lv st (m_pl M 13 (pu P 0 kf x))) : Rj cc own nL ret rm mc ms cA ad Q ex cells slots pc lv (.int x :: .ref (ad 13 0) :: st) (m_pl M 13 P) := r_put_ot  kf hk hw hfin het hn hfit (by rw [m_pl_s]; exact hset) hd (by rw [m_pl_s, m_set_pl]; exact k)
theorem r_getp_or {idx : Nat} {i : Nat} (hi : i < 12) {v : Value} {P : tP} (kf : Nat) (hk : kf < 5) (hw : Cond.fieldLink own idx (TX2 kf).1 (TX2 kf).2.1 (TX2 kf).2.2.1 ∈ wsL_law) (hv : (l_or (P (3 + i)))[kf]? = some v) (hd : decode cc pc = .ok (.getfield idx, 3)) (k : Rj cc own nL ret rm mc ms cA ad Q ex cells slots (pc + 3) lv (v :: st) (m_pl M 13 P)) : Rj cc own nL ret rm mc ms cA ad Q ex cells slots pc lv (.ref (ad 13 (3 + i)) :: st) (m_pl M 13 P) := r_get_or hi kf hk hw (by rw [m_pl_s]; exact hv) hd k
theorem r_putp_or {idx : Nat} {i : Nat} (hi : i < 12) {x : Int32} {P : tP} {ty : FieldType} (kf : Nat) (hk : kf < 5) (hw : Cond.fieldLink own idx (TX2 kf).1 (TX2 kf).2.1 (TX2 kf).2.2.1 ∈ wsL_law) (hfin : (TX2 kf).2.2.2 = false) (het : tyX2 kf = ty) (hn : narrow ty (.int x) = .int x) (hfit : fits ty (.int x) = true) (hset : l_or (upd (P (3 + i)) kf x) = (l_or (P (3 + i))).set kf (.int x)) (hd : decode cc pc = .ok (.putfield idx, 3)) (k : Rj cc own nL ret rm mc ms cA ad Q ex cells slots (pc + 3) lv st (m_pl M 13 (pu P (3 + i) kf x))) : Rj cc own nL ret rm mc ms cA ad Q ex cells slots pc lv (.int x :: .ref (ad 13 (3 + i)) :: st) (m_pl M 13 P) := r_put_or hi kf hk hw hfin het hn hfit (by rw [m_pl_s]; exact hset) hd (by rw [m_pl_s, m_set_pl]; exact k)
theorem r_getp_ln {idx : Nat}  {v : Value} {P : tP} (kf : Nat) (hk : kf < 2) (hw : Cond.fieldLink own idx (TX1 kf).1 (TX1 kf).2.1 (TX1 kf).2.2.1 ∈ wsL_law) (hv : (l_ln ad (P 0))[kf]? = some v) (hd : decode cc pc = .ok (.getfield idx, 3)) (k : Rj cc own nL ret rm mc ms cA ad Q ex cells slots (pc + 3) lv (v :: st) (m_pl M 14 P)) : Rj cc own nL ret rm mc ms cA ad Q ex cells slots pc lv (.ref (ad 14 0) :: st) (m_pl M 14 P) := r_get_ln  kf hk hw (by rw [m_pl_s]; exact hv) hd k
theorem r_putp_ln {idx : Nat}  {x : Int32} {P : tP} {ty : FieldType} (kf : Nat) (hk : kf < 2) (hw : Cond.fieldLink own idx (TX1 kf).1 (TX1 kf).2.1 (TX1 kf).2.2.1 ∈ wsL_law) (hfin : (TX1 kf).2.2.2 = false) (het : tyX1 kf = ty) (hn : narrow ty (.int x) = .int x) (hfit : fits ty (.int x) = true) (hset : l_ln ad (upd (P 0) kf x) = (l_ln ad (P 0)).set kf (.int x)) (hd : decode cc pc = .ok (.putfield idx, 3)) (k : Rj cc own nL ret rm mc ms cA ad Q ex cells slots (pc + 3) lv st (m_pl M 14 (pu P 0 kf x))) : Rj cc own nL ret rm mc ms cA ad Q ex cells slots pc lv (.int x :: .ref (ad 14 0) :: st) (m_pl M 14 P) := r_put_ln  kf hk hw hfin het hn hfit (by rw [m_pl_s]; exact hset) hd (by rw [m_pl_s, m_set_pl]; exact k)
theorem r_ldp_os {i : Nat} {x : Int32} {P : tP} (hx : x = nI i) (hi : i < 60) (hd : decode cc pc = .ok (.caload, 1)) (k : Rj cc own nL ret rm mc ms cA ad Q ex cells slots (pc + 1) lv (.int (P 1 i) :: st) (m_pl M 13 P)) : Rj cc own nL ret rm mc ms cA ad Q ex cells slots pc lv (.int x :: .ref (ad 13 1) :: st) (m_pl M 13 P) := r_ld_os hx hi hd (by rw [m_pl_s]; exact k)
theorem r_strp_os {i : Nat} {x y : Int32} {P : tP} (hx : x = nI i) (hi : i < 60) (hc : vp_nar .char y = y) (hd : decode cc pc = .ok (.castore, 1)) (k : Rj cc own nL ret rm mc ms cA ad Q ex cells slots (pc + 1) lv st (m_pl M 13 (pu P 1 i y))) : Rj cc own nL ret rm mc ms cA ad Q ex cells slots pc lv (.int y :: .int x :: .ref (ad 13 1) :: st) (m_pl M 13 P) := r_str_os hx hi hc hd (by rw [m_pl_s, m_set_pl]; exact k)
theorem r_ldp_ls {i : Nat} {x : Int32} {P : tP} (hx : x = nI i) (hi : i < 64) (hd : decode cc pc = .ok (.caload, 1)) (k : Rj cc own nL ret rm mc ms cA ad Q ex cells slots (pc + 1) lv (.int (P 1 i) :: st) (m_pl M 14 P)) : Rj cc own nL ret rm mc ms cA ad Q ex cells slots pc lv (.int x :: .ref (ad 14 1) :: st) (m_pl M 14 P) := r_ld_ls hx hi hd (by rw [m_pl_s]; exact k)
theorem r_strp_ls {i : Nat} {x y : Int32} {P : tP} (hx : x = nI i) (hi : i < 64) (hc : vp_nar .char y = y) (hd : decode cc pc = .ok (.castore, 1)) (k : Rj cc own nL ret rm mc ms cA ad Q ex cells slots (pc + 1) lv st (m_pl M 14 (pu P 1 i y))) : Rj cc own nL ret rm mc ms cA ad Q ex cells slots pc lv (.int y :: .int x :: .ref (ad 14 1) :: st) (m_pl M 14 P) := r_str_ls hx hi hc hd (by rw [m_pl_s, m_set_pl]; exact k)
theorem r_ldp_cn {i : Nat} {x : Int32} {P : tP} (hx : x = nI i) (hi : i < 12) (hd : decode cc pc = .ok (.iaload, 1)) (k : Rj cc own nL ret rm mc ms cA ad Q ex cells slots (pc + 1) lv (.int (P 1 i) :: st) (m_pl M 15 P)) : Rj cc own nL ret rm mc ms cA ad Q ex cells slots pc lv (.int x :: .ref (ad 15 1) :: st) (m_pl M 15 P) := r_ld_cn hx hi hd (by rw [m_pl_s]; exact k)
theorem r_strp_cn {i : Nat} {x y : Int32} {P : tP} (hx : x = nI i) (hi : i < 12) (hd : decode cc pc = .ok (.iastore, 1)) (k : Rj cc own nL ret rm mc ms cA ad Q ex cells slots (pc + 1) lv st (m_pl M 15 (pu P 1 i y))) : Rj cc own nL ret rm mc ms cA ad Q ex cells slots pc lv (.int y :: .int x :: .ref (ad 15 1) :: st) (m_pl M 15 P) := r_str_cn hx hi hd (by rw [m_pl_s, m_set_pl]; exact k)
theorem r_ldp_cr {i : Nat} {x : Int32} {P : tP} (hx : x = nI i) (hi : i < 12) (hd : decode cc pc = .ok (.iaload, 1)) (k : Rj cc own nL ret rm mc ms cA ad Q ex cells slots (pc + 1) lv (.int (P 2 i) :: st) (m_pl M 15 P)) : Rj cc own nL ret rm mc ms cA ad Q ex cells slots pc lv (.int x :: .ref (ad 15 2) :: st) (m_pl M 15 P) := r_ld_cr hx hi hd (by rw [m_pl_s]; exact k)
theorem r_strp_cr {i : Nat} {x y : Int32} {P : tP} (hx : x = nI i) (hi : i < 12) (hd : decode cc pc = .ok (.iastore, 1)) (k : Rj cc own nL ret rm mc ms cA ad Q ex cells slots (pc + 1) lv st (m_pl M 15 (pu P 2 i y))) : Rj cc own nL ret rm mc ms cA ad Q ex cells slots pc lv (.int y :: .int x :: .ref (ad 15 2) :: st) (m_pl M 15 P) := r_str_cr hx hi hd (by rw [m_pl_s, m_set_pl]; exact k)
end
theorem pl15 {r : Nat} (hr : isPlan r) : r ≠ 15 := by unfold isPlan at hr; omega
theorem pl14 {r : Nat} (hr : isPlan r) : r ≠ 14 := by unfold isPlan at hr; omega
theorem pl13 {r : Nat} (hr : isPlan r) : r ≠ 13 := by unfold isPlan at hr; omega
theorem pl0 {r : Nat} (hr : isPlan r) : r ≠ 0 := by unfold isPlan at hr; omega
def lp_lon (f : Nat → tP → Int32 × tP) (needs : Int32) : Nat → Nat → Int32 → tP → Int32 × tP
  | 0, _, b, C => (b, C)
  | n + 1, j, b, C => if needs &&& sh j = 0 then lp_lon f needs n (j + 1) b C else lp_lon f needs n (j + 1) (if b < (f j C).1 then (f j C).1 else b) (f j C).2
/-- longest: D is what is left to depth 13 -/
def f_lon (P : tP) : Nat → Nat → tP → Int32 × tP
  | 0, i, C => (C 1 i, C)
  | D + 1, i, C => if 0 < C 1 i then (C 1 i, C) else
      let q := lp_lon (f_lon P D) (P (4 + i) 4) (cn P) 0 0 C
      (q.1 + P (4 + i) 0, pu q.2 1 i (q.1 + P (4 + i) 0))
def lp_z0 : Nat → Nat → tP → tP
  | 0, _, C => C
  | n + 1, i, C => lp_z0 n (i + 1) (pu C 1 i 0)
def lp_mn (P : tP) : Nat → Nat → tP → tP
  | 0, _, C => C
  | n + 1, i, C => lp_mn P n (i + 1) (f_lon P 13 i C).2
def f_mn (P C : tP) : tP := lp_mn P (cn P) 0 (lp_z0 (cn P) 0 C)
def lp_len (P : tP) (i : Nat) : Nat → Nat → Bool → tP → Bool × tP
  | 0, _, b, C => (b, C)
  | n + 1, j, b, C => if P (4 + i) 4 &&& sh j = 0 then lp_len P i n (j + 1) b C
      else if C 2 j + P (4 + i) 0 ≤ C 2 i then lp_len P i n (j + 1) b C
      else lp_len P i n (j + 1) true (pu C 2 i (C 2 j + P (4 + i) 0))
def f_len (P C : tP) (i : Nat) : Bool × tP := lp_len P i (cn P) 0 false C
def lp_d0 (P : tP) : Nat → Nat → tP → tP
  | 0, _, C => C
  | n + 1, i, C => lp_d0 P n (i + 1) (pu C 2 i (P (4 + i) 0))
def lp_rnd (P : tP) : Nat → Nat → Bool → tP → Bool × tP
  | 0, _, b, C => (b, C)
  | n + 1, i, b, C => lp_rnd P n (i + 1) ((f_len P C i).1 || b) (f_len P C i).2
def lp_rr (P : tP) : Nat → Bool → tP → tP
  | 0, _, C => C
  | n + 1, b, C => if b then lp_rr P n (lp_rnd P (cn P) 0 false C).1 (lp_rnd P (cn P) 0 false C).2 else C
def f_mr (P C : tP) : tP := lp_rr P 13 true (lp_d0 P (cn P) 0 C)
theorem lon_a {f : Nat → tP → Int32 × tP} {x : Int32} {n j : Nat} {b : Int32} {C : tP} (h : x &&& sh j = 0) : lp_lon f x (n + 1) j b C = lp_lon f x n (j + 1) b C := by rw [lp_lon, if_pos h]
theorem lon_b {f : Nat → tP → Int32 × tP} {x : Int32} {n j : Nat} {b : Int32} {C : tP} (h : ¬ x &&& sh j = 0) : lp_lon f x (n + 1) j b C = lp_lon f x n (j + 1) (if b < (f j C).1 then (f j C).1 else b) (f j C).2 := by rw [lp_lon, if_neg h]
theorem lon_c {P C : tP} {D i : Nat} (h : 0 < C 1 i) : f_lon P D i C = (C 1 i, C) := by
  cases D with
  | zero => rfl
  | succ D => rw [f_lon, if_pos h]
theorem lon_d {P C : tP} {D i : Nat} {q : Int32 × tP} (h : ¬ 0 < C 1 i) (e : lp_lon (f_lon P D) (P (4 + i) 4) (cn P) 0 0 C = q) : f_lon P (D + 1) i C = (q.1 + P (4 + i) 0, pu q.2 1 i (q.1 + P (4 + i) 0)) := by subst e; rw [f_lon, if_neg h]
theorem dp_0 {d : Nat} (h : d = 13) : ¬ nI d ≤ 12 := by subst h; decide
theorem dp_s {d D : Nat} (h : d + (D + 1) = 13) : nI d ≤ 12 := nI_le (b := 12) (by omega) (by omega)
theorem rl_s {D : Nat} : (Nat.ble (D + 1 + 1) (D + 2) && Nat.ble 7 41) = true := by rw [Bool.and_eq_true]; exact ⟨Nat.ble_eq.mpr (Nat.le_refl _), rfl⟩
theorem mmx_l {D : Nat} {k : Nat} (h : k ≤ 60) : k ≤ (rmd (D + 1)).locals := by show k ≤ 60 * (D + 1); omega
theorem mmx_f {D : Nat} : 1 ≤ (rmd (D + 1)).frames := by show 1 ≤ D + 1; omega
theorem dX0_longest_0 : decode cX0_longest 0 = .ok (.aload_n 2, 1) := by decide +kernel
theorem dX0_longest_1 : decode cX0_longest 1 = .ok (.iload_n 1, 1) := by decide +kernel
theorem dX0_longest_2 : decode cX0_longest 2 = .ok (.iaload, 1) := by decide +kernel
theorem dX0_longest_3 : decode cX0_longest 3 = .ok (.ifCond .gt 9, 3) := by decide +kernel
theorem dX0_longest_6 : decode cX0_longest 6 = .ok (.iload_n 3, 1) := by decide +kernel
theorem dX0_longest_7 : decode cX0_longest 7 = .ok (.bipush 12, 2) := by decide +kernel
theorem dX0_longest_9 : decode cX0_longest 9 = .ok (.if_icmp .le 7, 3) := by decide +kernel
theorem dX0_longest_12 : decode cX0_longest 12 = .ok (.aload_n 2, 1) := by decide +kernel
theorem dX0_longest_13 : decode cX0_longest 13 = .ok (.iload_n 1, 1) := by decide +kernel
theorem dX0_longest_14 : decode cX0_longest 14 = .ok (.iaload, 1) := by decide +kernel
theorem dX0_longest_15 : decode cX0_longest 15 = .ok (.ireturn, 1) := by decide +kernel
theorem dX0_longest_16 : decode cX0_longest 16 = .ok (.aload_n 0, 1) := by decide +kernel
theorem dX0_longest_17 : decode cX0_longest 17 = .ok (.getfield 28, 3) := by decide +kernel
theorem dX0_longest_20 : decode cX0_longest 20 = .ok (.iload_n 1, 1) := by decide +kernel
theorem dX0_longest_21 : decode cX0_longest 21 = .ok (.aaload, 1) := by decide +kernel
theorem dX0_longest_22 : decode cX0_longest 22 = .ok (.astore 4, 2) := by decide +kernel
theorem dX0_longest_24 : decode cX0_longest 24 = .ok (.iconst 0, 1) := by decide +kernel
theorem dX0_longest_25 : decode cX0_longest 25 = .ok (.istore 5, 2) := by decide +kernel
theorem dX0_longest_27 : decode cX0_longest 27 = .ok (.iconst 0, 1) := by decide +kernel
theorem dX0_longest_28 : decode cX0_longest 28 = .ok (.istore 6, 2) := by decide +kernel
theorem dX0_longest_30 : decode cX0_longest 30 = .ok (.iload 6, 2) := by decide +kernel
theorem dX0_longest_32 : decode cX0_longest 32 = .ok (.aload_n 0, 1) := by decide +kernel
theorem dX0_longest_33 : decode cX0_longest 33 = .ok (.getfield 18, 3) := by decide +kernel
theorem dX0_longest_36 : decode cX0_longest 36 = .ok (.if_icmp .ge 39, 3) := by decide +kernel
theorem dX0_longest_39 : decode cX0_longest 39 = .ok (.aload 4, 2) := by decide +kernel
theorem dX0_longest_41 : decode cX0_longest 41 = .ok (.getfield 32, 3) := by decide +kernel
theorem dX0_longest_44 : decode cX0_longest 44 = .ok (.iconst 1, 1) := by decide +kernel
theorem dX0_longest_45 : decode cX0_longest 45 = .ok (.iload 6, 2) := by decide +kernel
theorem dX0_longest_47 : decode cX0_longest 47 = .ok (.ishl, 1) := by decide +kernel
theorem dX0_longest_48 : decode cX0_longest 48 = .ok (.iand, 1) := by decide +kernel
theorem dX0_longest_49 : decode cX0_longest 49 = .ok (.ifCond .eq 20, 3) := by decide +kernel
theorem dX0_longest_52 : decode cX0_longest 52 = .ok (.iload 5, 2) := by decide +kernel
theorem dX0_longest_54 : decode cX0_longest 54 = .ok (.aload_n 0, 1) := by decide +kernel
theorem dX0_longest_55 : decode cX0_longest 55 = .ok (.iload 6, 2) := by decide +kernel
theorem dX0_longest_57 : decode cX0_longest 57 = .ok (.aload_n 2, 1) := by decide +kernel
theorem dX0_longest_58 : decode cX0_longest 58 = .ok (.iload_n 3, 1) := by decide +kernel
theorem dX0_longest_59 : decode cX0_longest 59 = .ok (.iconst 1, 1) := by decide +kernel
theorem dX0_longest_60 : decode cX0_longest 60 = .ok (.iadd, 1) := by decide +kernel
theorem dX0_longest_61 : decode cX0_longest 61 = .ok (.invokestatic 24, 3) := by decide +kernel
theorem dX0_longest_64 : decode cX0_longest 64 = .ok (.invokestatic 37, 3) := by decide +kernel
theorem dX0_longest_67 : decode cX0_longest 67 = .ok (.istore 5, 2) := by decide +kernel
theorem dX0_longest_69 : decode cX0_longest 69 = .ok (.iinc 6 1, 3) := by decide +kernel
theorem dX0_longest_72 : decode cX0_longest 72 = .ok (.goto (-42), 3) := by decide +kernel
theorem dX0_longest_75 : decode cX0_longest 75 = .ok (.aload_n 2, 1) := by decide +kernel
theorem dX0_longest_76 : decode cX0_longest 76 = .ok (.iload_n 1, 1) := by decide +kernel
theorem dX0_longest_77 : decode cX0_longest 77 = .ok (.iload 5, 2) := by decide +kernel
theorem dX0_longest_79 : decode cX0_longest 79 = .ok (.aload 4, 2) := by decide +kernel
theorem dX0_longest_81 : decode cX0_longest 81 = .ok (.getfield 43, 3) := by decide +kernel
theorem dX0_longest_84 : decode cX0_longest 84 = .ok (.iadd, 1) := by decide +kernel
theorem dX0_longest_85 : decode cX0_longest 85 = .ok (.iastore, 1) := by decide +kernel
theorem dX0_longest_86 : decode cX0_longest 86 = .ok (.aload_n 2, 1) := by decide +kernel
theorem dX0_longest_87 : decode cX0_longest 87 = .ok (.iload_n 1, 1) := by decide +kernel
theorem dX0_longest_88 : decode cX0_longest 88 = .ok (.iaload, 1) := by decide +kernel
theorem dX0_longest_89 : decode cX0_longest 89 = .ok (.ireturn, 1) := by decide +kernel
theorem dcX0_longest : yX0_longest.cls = RX0 ∧ yX0_longest.cls ≠ "java/lang/invoke/MethodHandle" ∧ yX0_longest.cls ≠ "java/lang/invoke/VarHandle" ∧ (parseMethodDescriptor yX0_longest.desc).map (fun d => d.parameters.length) = some 4 := by decide +kernel
theorem gX0_longest_61 : gS RX0 24 yX0_longest cX0_longest 7 (some .int) := ⟨q447, q448, q31, q449⟩
set_option maxRecDepth 100000 in
set_option maxHeartbeats 4000000 in
theorem K_lon {cA : Nat → ClassId} {ad : tA} {ex : va_W} {M : tM} {r : Nat} (hr : isPlan r) (hne : r ≠ 15) (hoc : okc (M r)) : ∀ D, ∀ (d i : Nat) (C0 : tP), d + D = 13 → i < 12 → Cj yX0_longest cX0_longest 7 (some .int) (rmd (D + 1)) 0 0 cA ad [.ref (ad r 0), .int (nI i), .ref (ad 15 1), .int (nI d)] ex (m_pl M 15 C0) (Qe (some (.int (f_lon (M r) D i C0).1)) ex (m_pl M 15 (f_lon (M r) D i C0).2)) := by
  intro D
  induction D with
  | zero =>
    intro d i C0 hd hi
    refine c_of_r (lv0 := [some (.ref (ad r 0)), some (.int (nI i)), some (.ref (ad 15 1)), some (.int (nI d)), none, none, none]) rfl (by decide +kernel) (Nat.le_of_ble_eq_true rfl) rfl ?_
    refine r_aload_n dX0_longest_0 rfl ?_
    refine r_iload_n dX0_longest_1 rfl ?_
    refine r_ldp_cn rfl (by omega) dX0_longest_2 ?_
    refine r_if_gt (tgt := 12) dX0_longest_3 (by decide) (fun c3 => ?_) (fun c3 => ?_)
    · refine r_aload_n dX0_longest_12 rfl ?_
      refine r_iload_n dX0_longest_13 rfl ?_
      refine r_ldp_cn rfl (by omega) dX0_longest_14 ?_
      exact r_ret rfl rfl dX0_longest_15 rfl rfl
    · refine r_iload_n dX0_longest_6 rfl ?_
      refine r_bipush (v := 12) dX0_longest_7 (by decide) ?_
      refine r_icmp_le (tgt := 16) dX0_longest_9 (by decide) (fun c9 => absurd c9 (dp_0 hd)) (fun c9 => ?_)
      refine r_aload_n dX0_longest_12 rfl ?_
      refine r_iload_n dX0_longest_13 rfl ?_
      refine r_ldp_cn rfl (by omega) dX0_longest_14 ?_
      exact r_ret rfl rfl dX0_longest_15 rfl rfl
  | succ D ihD =>
    intro d i C0 hd hi
    refine c_of_r (lv0 := [some (.ref (ad r 0)), some (.int (nI i)), some (.ref (ad 15 1)), some (.int (nI d)), none, none, none]) rfl (by decide +kernel) (Nat.le_of_ble_eq_true rfl) rfl ?_
    have L : ∀ (n j : Nat) (b : Int32) (C : tP), ¬ 0 < C0 1 i → j + n = cn (M r) → lp_lon (f_lon (M r) D) (M r (4 + i) 4) n j b C = lp_lon (f_lon (M r) D) (M r (4 + i) 4) (cn (M r)) 0 0 C0 → Rj cX0_longest RX0 7 (some .int) (rmd (D + 2)) 0 0 cA ad (Qe (some (.int (f_lon (M r) (D + 1) i C0).1)) ex (m_pl M 15 (f_lon (M r) (D + 1) i C0).2)) ex 0 0 30 [some (.ref (ad r 0)), some (.int (nI i)), some (.ref (ad 15 1)), some (.int (nI d)), some (.ref (ad r (4 + i))), some (.int b), some (.int (nI j))] [] (m_pl M 15 C) := by
      intro n
      induction n with
      | zero =>
        intro j b C hz h hC
        refine r_iload dX0_longest_30 rfl ?_
        refine r_aload_n dX0_longest_32 rfl ?_
        refine r_getq_pl (by assumption) (by assumption) 1 (by decide) q446 rfl dX0_longest_33 ?_
        refine r_icmp_ge (tgt := 75) dX0_longest_36 (by decide) (fun c36 => ?_) (fun c36 => absurd (lp_z hoc.1 h) c36)
        refine r_aload_n dX0_longest_75 rfl ?_
        refine r_iload_n dX0_longest_76 rfl ?_
        refine r_iload dX0_longest_77 rfl ?_
        refine r_aload dX0_longest_79 rfl ?_
        refine r_getq_st (by assumption) (by assumption) (by omega) 0 (by decide) q453 rfl dX0_longest_81 ?_
        refine r_iadd dX0_longest_84 ?_
        refine r_strp_cn rfl (by omega) dX0_longest_85 ?_
        refine r_aload_n dX0_longest_86 rfl ?_
        refine r_iload_n dX0_longest_87 rfl ?_
        refine r_ldp_cn rfl (by omega) dX0_longest_88 ?_
        exact r_ret rfl rfl dX0_longest_89 (by rw [pu_s, lon_d hz hC.symm]; rfl) (by rw [lon_d hz hC.symm]; rfl)
      | succ n ih =>
        intro j b C hz h hC
        have hj : j < 12 := by have := hoc.2; omega
        refine r_iload dX0_longest_30 rfl ?_
        refine r_aload_n dX0_longest_32 rfl ?_
        refine r_getq_pl (by assumption) (by assumption) 1 (by decide) q446 rfl dX0_longest_33 ?_
        refine r_icmp_ge (tgt := 75) dX0_longest_36 (by decide) (fun c36 => absurd c36 (lp_s hoc.1 hoc.2 h)) (fun c36 => ?_)
        refine r_aload dX0_longest_39 rfl ?_
        refine r_getq_st (by assumption) (by assumption) (by omega) 4 (by decide) q451 rfl dX0_longest_41 ?_
        refine r_iconst (v := 1) dX0_longest_44 (by decide) ?_
        refine r_iload dX0_longest_45 rfl ?_
        refine r_ishl dX0_longest_47 ?_
        refine r_iand dX0_longest_48 ?_
        refine r_if_eq (tgt := 69) dX0_longest_49 (by decide) (fun c49 => ?_) (fun c49 => ?_)
        · refine r_iinc dX0_longest_69 rfl ii_s (by decide) rfl ?_
          refine r_goto (tgt := 30) dX0_longest_72 (by decide) ?_
          exact ih (j + 1) _ _ hz (by omega) (by rw [← hC]; first | exact (lon_a c49).symm | exact (lon_b c49).symm)
        · refine r_iload dX0_longest_52 rfl ?_
          refine r_aload_n dX0_longest_54 rfl ?_
          refine r_iload dX0_longest_55 rfl ?_
          refine r_aload_n dX0_longest_57 rfl ?_
          refine r_iload_n dX0_longest_58 rfl ?_
          refine r_iconst (v := 1) dX0_longest_59 (by decide) ?_
          refine r_iadd dX0_longest_60 ?_
          rw [nI_1]
          refine r_cSi dX0_longest_61 (ihD (d + 1) j C (by omega) hj) gX0_longest_61 dcX0_longest rfl rfl rl_s (Nat.le_of_ble_eq_true rfl) ?_
          refine r_mmax q452 q267 q6 q268 mmx_f (mmx_l (by decide)) (Nat.le_refl _) (Nat.le_refl _) dX0_longest_64 ?_
          refine r_istore dX0_longest_67 (by decide) rfl ?_
          refine r_iinc dX0_longest_69 rfl ii_s (by decide) rfl ?_
          refine r_goto (tgt := 30) dX0_longest_72 (by decide) ?_
          exact ih (j + 1) _ _ hz (by omega) (by rw [← hC]; first | exact (lon_a c49).symm | exact (lon_b c49).symm)
    refine r_aload_n dX0_longest_0 rfl ?_
    refine r_iload_n dX0_longest_1 rfl ?_
    refine r_ldp_cn rfl (by omega) dX0_longest_2 ?_
    refine r_if_gt (tgt := 12) dX0_longest_3 (by decide) (fun c3 => ?_) (fun c3 => ?_)
    · refine r_aload_n dX0_longest_12 rfl ?_
      refine r_iload_n dX0_longest_13 rfl ?_
      refine r_ldp_cn rfl (by omega) dX0_longest_14 ?_
      exact r_ret rfl rfl dX0_longest_15 (by rw [lon_c c3]) (by rw [lon_c c3])
    · refine r_iload_n dX0_longest_6 rfl ?_
      refine r_bipush (v := 12) dX0_longest_7 (by decide) ?_
      refine r_icmp_le (tgt := 16) dX0_longest_9 (by decide) (fun c9 => ?_) (fun c9 => absurd (dp_s hd) c9)
      refine r_aload_n dX0_longest_16 rfl ?_
      refine r_getq_pl (by assumption) (by assumption) 0 (by decide) q450 rfl dX0_longest_17 ?_
      refine r_iload_n dX0_longest_20 rfl ?_
      refine r_ald_steps (by assumption) rfl (by omega) dX0_longest_21 ?_
      refine r_astore dX0_longest_22 (by decide) rfl ?_
      refine r_iconst (v := 0) dX0_longest_24 (by decide) ?_
      refine r_istore dX0_longest_25 (by decide) rfl ?_
      refine r_iconst (v := 0) dX0_longest_27 (by decide) ?_
      refine r_istore dX0_longest_28 (by decide) rfl ?_
      exact L (cn (M r)) 0 0 C0 c3 (by omega) rfl
theorem dX0_measureByNeeds_0 : decode cX0_measureByNeeds 0 = .ok (.iconst 0, 1) := by decide +kernel
theorem dX0_measureByNeeds_1 : decode cX0_measureByNeeds 1 = .ok (.istore_n 2, 1) := by decide +kernel
theorem dX0_measureByNeeds_2 : decode cX0_measureByNeeds 2 = .ok (.iload_n 2, 1) := by decide +kernel
theorem dX0_measureByNeeds_3 : decode cX0_measureByNeeds 3 = .ok (.aload_n 1, 1) := by decide +kernel
theorem dX0_measureByNeeds_4 : decode cX0_measureByNeeds 4 = .ok (.getfield 18, 3) := by decide +kernel
theorem dX0_measureByNeeds_7 : decode cX0_measureByNeeds 7 = .ok (.if_icmp .ge 16, 3) := by decide +kernel
theorem dX0_measureByNeeds_10 : decode cX0_measureByNeeds 10 = .ok (.aload_n 0, 1) := by decide +kernel
theorem dX0_measureByNeeds_11 : decode cX0_measureByNeeds 11 = .ok (.getfield 9, 3) := by decide +kernel
theorem dX0_measureByNeeds_14 : decode cX0_measureByNeeds 14 = .ok (.iload_n 2, 1) := by decide +kernel
theorem dX0_measureByNeeds_15 : decode cX0_measureByNeeds 15 = .ok (.iconst 0, 1) := by decide +kernel
theorem dX0_measureByNeeds_16 : decode cX0_measureByNeeds 16 = .ok (.iastore, 1) := by decide +kernel
theorem dX0_measureByNeeds_17 : decode cX0_measureByNeeds 17 = .ok (.iinc 2 1, 3) := by decide +kernel
theorem dX0_measureByNeeds_20 : decode cX0_measureByNeeds 20 = .ok (.goto (-18), 3) := by decide +kernel
theorem dX0_measureByNeeds_23 : decode cX0_measureByNeeds 23 = .ok (.iconst 0, 1) := by decide +kernel
theorem dX0_measureByNeeds_24 : decode cX0_measureByNeeds 24 = .ok (.istore_n 2, 1) := by decide +kernel
theorem dX0_measureByNeeds_25 : decode cX0_measureByNeeds 25 = .ok (.iload_n 2, 1) := by decide +kernel
theorem dX0_measureByNeeds_26 : decode cX0_measureByNeeds 26 = .ok (.aload_n 1, 1) := by decide +kernel
theorem dX0_measureByNeeds_27 : decode cX0_measureByNeeds 27 = .ok (.getfield 18, 3) := by decide +kernel
theorem dX0_measureByNeeds_30 : decode cX0_measureByNeeds 30 = .ok (.if_icmp .ge 20, 3) := by decide +kernel
theorem dX0_measureByNeeds_33 : decode cX0_measureByNeeds 33 = .ok (.aload_n 1, 1) := by decide +kernel
theorem dX0_measureByNeeds_34 : decode cX0_measureByNeeds 34 = .ok (.iload_n 2, 1) := by decide +kernel
theorem dX0_measureByNeeds_35 : decode cX0_measureByNeeds 35 = .ok (.aload_n 0, 1) := by decide +kernel
theorem dX0_measureByNeeds_36 : decode cX0_measureByNeeds 36 = .ok (.getfield 9, 3) := by decide +kernel
theorem dX0_measureByNeeds_39 : decode cX0_measureByNeeds 39 = .ok (.iconst 0, 1) := by decide +kernel
theorem dX0_measureByNeeds_40 : decode cX0_measureByNeeds 40 = .ok (.invokestatic 24, 3) := by decide +kernel
theorem dX0_measureByNeeds_43 : decode cX0_measureByNeeds 43 = .ok (.pop, 1) := by decide +kernel
theorem dX0_measureByNeeds_44 : decode cX0_measureByNeeds 44 = .ok (.iinc 2 1, 3) := by decide +kernel
theorem dX0_measureByNeeds_47 : decode cX0_measureByNeeds 47 = .ok (.goto (-22), 3) := by decide +kernel
theorem dX0_measureByNeeds_50 : decode cX0_measureByNeeds 50 = .ok (.return_, 1) := by decide +kernel
theorem dcX0_measureByNeeds : yX0_measureByNeeds.cls = RX0 ∧ yX0_measureByNeeds.cls ≠ "java/lang/invoke/MethodHandle" ∧ yX0_measureByNeeds.cls ≠ "java/lang/invoke/VarHandle" ∧ (parseMethodDescriptor yX0_measureByNeeds.desc).map (fun d => d.parameters.length) = some 1 := by decide +kernel
theorem gX0_measureByNeeds_40 : gS RX0 24 yX0_longest cX0_longest 7 (some .int) := ⟨q447, q448, q31, q449⟩
set_option maxRecDepth 100000 in
set_option maxHeartbeats 4000000 in
theorem K_mn {cA : Nat → ClassId} {ad : tA} {ex : va_W} {M : tM} {r : Nat} {C0 : tP} (hr : isPlan r) (hne : r ≠ 15) (hoc : okc (M r)) : Cj yX0_measureByNeeds cX0_measureByNeeds 3 none (rmd 15) 0 0 cA ad [.ref (ad 15 0), .ref (ad r 0)] ex (m_pl M 15 C0) (Qe none ex (m_pl M 15 (f_mn (M r) C0))) := by
  refine c_of_r (lv0 := [some (.ref (ad 15 0)), some (.ref (ad r 0)), none]) rfl (by decide +kernel) (Nat.le_of_ble_eq_true rfl) rfl ?_
  have L2 : ∀ (n i : Nat) (C : tP), i + n = cn (M r) → lp_mn (M r) n i C = f_mn (M r) C0 → Rj cX0_measureByNeeds RX0 3 none (rmd 15) 0 0 cA ad (Qe none ex (m_pl M 15 (f_mn (M r) C0))) ex 0 0 25 [some (.ref (ad 15 0)), some (.ref (ad r 0)), some (.int (nI i))] [] (m_pl M 15 C) := by
    intro n
    induction n with
    | zero =>
      intro i C h hC
      refine r_iload_n dX0_measureByNeeds_25 rfl ?_
      refine r_aload_n dX0_measureByNeeds_26 rfl ?_
      refine r_getq_pl (by assumption) (by assumption) 1 (by decide) q446 rfl dX0_measureByNeeds_27 ?_
      refine r_icmp_ge (tgt := 50) dX0_measureByNeeds_30 (by decide) (fun c30 => ?_) (fun c30 => absurd (lp_z hoc.1 h) c30)
      exact r_retv rfl dX0_measureByNeeds_50 (by rw [← hC]; rfl)
    | succ n ih =>
      intro i C h hC
      have hi : i < 12 := by have := hoc.2; omega
      refine r_iload_n dX0_measureByNeeds_25 rfl ?_
      refine r_aload_n dX0_measureByNeeds_26 rfl ?_
      refine r_getq_pl (by assumption) (by assumption) 1 (by decide) q446 rfl dX0_measureByNeeds_27 ?_
      refine r_icmp_ge (tgt := 50) dX0_measureByNeeds_30 (by decide) (fun c30 => absurd c30 (lp_s hoc.1 hoc.2 h)) (fun c30 => ?_)
      refine r_aload_n dX0_measureByNeeds_33 rfl ?_
      refine r_iload_n dX0_measureByNeeds_34 rfl ?_
      refine r_aload_n dX0_measureByNeeds_35 rfl ?_
      refine r_get_ch 0 (by decide) q68 rfl dX0_measureByNeeds_36 ?_
      refine r_iconst (v := 0) dX0_measureByNeeds_39 (by decide) ?_
      refine r_cSi dX0_measureByNeeds_40 (K_lon (by assumption) (by assumption) hoc 13 0 i C rfl hi) gX0_measureByNeeds_40 dcX0_longest rfl rfl rfl (Nat.le_of_ble_eq_true rfl) ?_
      refine r_pop dX0_measureByNeeds_43 rfl ?_
      refine r_iinc dX0_measureByNeeds_44 rfl ii_s (by decide) rfl ?_
      refine r_goto (tgt := 25) dX0_measureByNeeds_47 (by decide) ?_
      exact ih (i + 1) _ (by omega) hC
  have L1 : ∀ (n i : Nat) (C : tP), i + n = cn (M r) → lp_z0 n i C = lp_z0 (cn (M r)) 0 C0 → Rj cX0_measureByNeeds RX0 3 none (rmd 15) 0 0 cA ad (Qe none ex (m_pl M 15 (f_mn (M r) C0))) ex 0 0 2 [some (.ref (ad 15 0)), some (.ref (ad r 0)), some (.int (nI i))] [] (m_pl M 15 C) := by
    intro n
    induction n with
    | zero =>
      intro i C h hC
      refine r_iload_n dX0_measureByNeeds_2 rfl ?_
      refine r_aload_n dX0_measureByNeeds_3 rfl ?_
      refine r_getq_pl (by assumption) (by assumption) 1 (by decide) q446 rfl dX0_measureByNeeds_4 ?_
      refine r_icmp_ge (tgt := 23) dX0_measureByNeeds_7 (by decide) (fun c7 => ?_) (fun c7 => absurd (lp_z hoc.1 h) c7)
      refine r_iconst (v := 0) dX0_measureByNeeds_23 (by decide) ?_
      refine r_istore_n dX0_measureByNeeds_24 (by decide) rfl ?_
      exact L2 (cn (M r)) 0 C (by omega) (by rw [f_mn, ← hC]; rfl)
    | succ n ih =>
      intro i C h hC
      have hi : i < 12 := by have := hoc.2; omega
      refine r_iload_n dX0_measureByNeeds_2 rfl ?_
      refine r_aload_n dX0_measureByNeeds_3 rfl ?_
      refine r_getq_pl (by assumption) (by assumption) 1 (by decide) q446 rfl dX0_measureByNeeds_4 ?_
      refine r_icmp_ge (tgt := 23) dX0_measureByNeeds_7 (by decide) (fun c7 => absurd c7 (lp_s hoc.1 hoc.2 h)) (fun c7 => ?_)
      refine r_aload_n dX0_measureByNeeds_10 rfl ?_
      refine r_get_ch 0 (by decide) q68 rfl dX0_measureByNeeds_11 ?_
      refine r_iload_n dX0_measureByNeeds_14 rfl ?_
      refine r_iconst (v := 0) dX0_measureByNeeds_15 (by decide) ?_
      refine r_strp_cn rfl (by omega) dX0_measureByNeeds_16 ?_
      refine r_iinc dX0_measureByNeeds_17 rfl ii_s (by decide) rfl ?_
      refine r_goto (tgt := 2) dX0_measureByNeeds_20 (by decide) ?_
      exact ih (i + 1) _ (by omega) hC
  refine r_iconst (v := 0) dX0_measureByNeeds_0 (by decide) ?_
  refine r_istore_n dX0_measureByNeeds_1 (by decide) rfl ?_
  exact L1 (cn (M r)) 0 C0 (by omega) rfl
theorem len_a {P C : tP} {i n j : Nat} {b : Bool} (h : P (4 + i) 4 &&& sh j = 0) : lp_len P i (n + 1) j b C = lp_len P i n (j + 1) b C := by rw [lp_len, if_pos h]
theorem len_b {P C : tP} {i n j : Nat} {b : Bool} (h : ¬ P (4 + i) 4 &&& sh j = 0) (h2 : C 2 j + P (4 + i) 0 ≤ C 2 i) : lp_len P i (n + 1) j b C = lp_len P i n (j + 1) b C := by rw [lp_len, if_neg h, if_pos h2]
theorem len_c {P C : tP} {i n j : Nat} {b : Bool} (h : ¬ P (4 + i) 4 &&& sh j = 0) (h2 : ¬ C 2 j + P (4 + i) 0 ≤ C 2 i) : lp_len P i (n + 1) j b C = lp_len P i n (j + 1) true (pu C 2 i (C 2 j + P (4 + i) 0)) := by rw [lp_len, if_neg h, if_neg h2]
theorem dX0_lengthen_0 : decode cX0_lengthen 0 = .ok (.aload_n 1, 1) := by decide +kernel
theorem dX0_lengthen_1 : decode cX0_lengthen 1 = .ok (.getfield 28, 3) := by decide +kernel
theorem dX0_lengthen_4 : decode cX0_lengthen 4 = .ok (.iload_n 2, 1) := by decide +kernel
theorem dX0_lengthen_5 : decode cX0_lengthen 5 = .ok (.aaload, 1) := by decide +kernel
theorem dX0_lengthen_6 : decode cX0_lengthen 6 = .ok (.astore_n 3, 1) := by decide +kernel
theorem dX0_lengthen_7 : decode cX0_lengthen 7 = .ok (.iconst 0, 1) := by decide +kernel
theorem dX0_lengthen_8 : decode cX0_lengthen 8 = .ok (.istore 4, 2) := by decide +kernel
theorem dX0_lengthen_10 : decode cX0_lengthen 10 = .ok (.iconst 0, 1) := by decide +kernel
theorem dX0_lengthen_11 : decode cX0_lengthen 11 = .ok (.istore 5, 2) := by decide +kernel
theorem dX0_lengthen_13 : decode cX0_lengthen 13 = .ok (.iload 5, 2) := by decide +kernel
theorem dX0_lengthen_15 : decode cX0_lengthen 15 = .ok (.aload_n 1, 1) := by decide +kernel
theorem dX0_lengthen_16 : decode cX0_lengthen 16 = .ok (.getfield 18, 3) := by decide +kernel
theorem dX0_lengthen_19 : decode cX0_lengthen 19 = .ok (.if_icmp .ge 63, 3) := by decide +kernel
theorem dX0_lengthen_22 : decode cX0_lengthen 22 = .ok (.aload_n 3, 1) := by decide +kernel
theorem dX0_lengthen_23 : decode cX0_lengthen 23 = .ok (.getfield 32, 3) := by decide +kernel
theorem dX0_lengthen_26 : decode cX0_lengthen 26 = .ok (.iconst 1, 1) := by decide +kernel
theorem dX0_lengthen_27 : decode cX0_lengthen 27 = .ok (.iload 5, 2) := by decide +kernel
theorem dX0_lengthen_29 : decode cX0_lengthen 29 = .ok (.ishl, 1) := by decide +kernel
theorem dX0_lengthen_30 : decode cX0_lengthen 30 = .ok (.iand, 1) := by decide +kernel
theorem dX0_lengthen_31 : decode cX0_lengthen 31 = .ok (.ifCond .eq 45, 3) := by decide +kernel
theorem dX0_lengthen_34 : decode cX0_lengthen 34 = .ok (.aload_n 0, 1) := by decide +kernel
theorem dX0_lengthen_35 : decode cX0_lengthen 35 = .ok (.getfield 15, 3) := by decide +kernel
theorem dX0_lengthen_38 : decode cX0_lengthen 38 = .ok (.iload 5, 2) := by decide +kernel
theorem dX0_lengthen_40 : decode cX0_lengthen 40 = .ok (.iaload, 1) := by decide +kernel
theorem dX0_lengthen_41 : decode cX0_lengthen 41 = .ok (.aload_n 3, 1) := by decide +kernel
theorem dX0_lengthen_42 : decode cX0_lengthen 42 = .ok (.getfield 43, 3) := by decide +kernel
theorem dX0_lengthen_45 : decode cX0_lengthen 45 = .ok (.iadd, 1) := by decide +kernel
theorem dX0_lengthen_46 : decode cX0_lengthen 46 = .ok (.aload_n 0, 1) := by decide +kernel
theorem dX0_lengthen_47 : decode cX0_lengthen 47 = .ok (.getfield 15, 3) := by decide +kernel
theorem dX0_lengthen_50 : decode cX0_lengthen 50 = .ok (.iload_n 2, 1) := by decide +kernel
theorem dX0_lengthen_51 : decode cX0_lengthen 51 = .ok (.iaload, 1) := by decide +kernel
theorem dX0_lengthen_52 : decode cX0_lengthen 52 = .ok (.if_icmp .le 24, 3) := by decide +kernel
theorem dX0_lengthen_55 : decode cX0_lengthen 55 = .ok (.aload_n 0, 1) := by decide +kernel
theorem dX0_lengthen_56 : decode cX0_lengthen 56 = .ok (.getfield 15, 3) := by decide +kernel
theorem dX0_lengthen_59 : decode cX0_lengthen 59 = .ok (.iload_n 2, 1) := by decide +kernel
theorem dX0_lengthen_60 : decode cX0_lengthen 60 = .ok (.aload_n 0, 1) := by decide +kernel
theorem dX0_lengthen_61 : decode cX0_lengthen 61 = .ok (.getfield 15, 3) := by decide +kernel
theorem dX0_lengthen_64 : decode cX0_lengthen 64 = .ok (.iload 5, 2) := by decide +kernel
theorem dX0_lengthen_66 : decode cX0_lengthen 66 = .ok (.iaload, 1) := by decide +kernel
theorem dX0_lengthen_67 : decode cX0_lengthen 67 = .ok (.aload_n 3, 1) := by decide +kernel
theorem dX0_lengthen_68 : decode cX0_lengthen 68 = .ok (.getfield 43, 3) := by decide +kernel
theorem dX0_lengthen_71 : decode cX0_lengthen 71 = .ok (.iadd, 1) := by decide +kernel
theorem dX0_lengthen_72 : decode cX0_lengthen 72 = .ok (.iastore, 1) := by decide +kernel
theorem dX0_lengthen_73 : decode cX0_lengthen 73 = .ok (.iconst 1, 1) := by decide +kernel
theorem dX0_lengthen_74 : decode cX0_lengthen 74 = .ok (.istore 4, 2) := by decide +kernel
theorem dX0_lengthen_76 : decode cX0_lengthen 76 = .ok (.iinc 5 1, 3) := by decide +kernel
theorem dX0_lengthen_79 : decode cX0_lengthen 79 = .ok (.goto (-66), 3) := by decide +kernel
theorem dX0_lengthen_82 : decode cX0_lengthen 82 = .ok (.iload 4, 2) := by decide +kernel
theorem dX0_lengthen_84 : decode cX0_lengthen 84 = .ok (.ireturn, 1) := by decide +kernel
theorem dcX0_lengthen : yX0_lengthen.cls = RX0 ∧ yX0_lengthen.cls ≠ "java/lang/invoke/MethodHandle" ∧ yX0_lengthen.cls ≠ "java/lang/invoke/VarHandle" ∧ (parseMethodDescriptor yX0_lengthen.desc).map (fun d => d.parameters.length) = some 2 := by decide +kernel
set_option maxRecDepth 100000 in
set_option maxHeartbeats 4000000 in
theorem K_len {cA : Nat → ClassId} {ad : tA} {ex : va_W} {M : tM} {r : Nat} {C0 : tP} {i : Nat} (hr : isPlan r) (hne : r ≠ 15) (hi : i < 12) (hoc : okc (M r)) : Cj yX0_lengthen cX0_lengthen 6 (some .boolean) (rmd 0) 0 0 cA ad [.ref (ad 15 0), .ref (ad r 0), .int (nI i)] ex (m_pl M 15 C0) (Qe (some (.int (bI (f_len (M r) C0 i).1))) ex (m_pl M 15 (f_len (M r) C0 i).2)) := by
  refine c_of_r (lv0 := [some (.ref (ad 15 0)), some (.ref (ad r 0)), some (.int (nI i)), none, none, none]) rfl (by decide +kernel) (Nat.le_of_ble_eq_true rfl) rfl ?_
  have L : ∀ (n j : Nat) (b : Bool) (C : tP), j + n = cn (M r) → lp_len (M r) i n j b C = f_len (M r) C0 i → Rj cX0_lengthen RX0 6 (some .boolean) (rmd 0) 0 0 cA ad (Qe (some (.int (bI (f_len (M r) C0 i).1))) ex (m_pl M 15 (f_len (M r) C0 i).2)) ex 0 0 13 [some (.ref (ad 15 0)), some (.ref (ad r 0)), some (.int (nI i)), some (.ref (ad r (4 + i))), some (.int (bI b)), some (.int (nI j))] [] (m_pl M 15 C) := by
    intro n
    induction n with
    | zero =>
      intro j b C h hC
      refine r_iload dX0_lengthen_13 rfl ?_
      refine r_aload_n dX0_lengthen_15 rfl ?_
      refine r_getq_pl (by assumption) (by assumption) 1 (by decide) q446 rfl dX0_lengthen_16 ?_
      refine r_icmp_ge (tgt := 82) dX0_lengthen_19 (by decide) (fun c19 => ?_) (fun c19 => absurd (lp_z hoc.1 h) c19)
      refine r_iload dX0_lengthen_82 rfl ?_
      exact r_ret rfl bI_nar dX0_lengthen_84 (by rw [← hC]; rfl) (by rw [← hC]; rfl)
    | succ n ih =>
      intro j b C h hC
      have hj : j < 12 := by have := hoc.2; omega
      refine r_iload dX0_lengthen_13 rfl ?_
      refine r_aload_n dX0_lengthen_15 rfl ?_
      refine r_getq_pl (by assumption) (by assumption) 1 (by decide) q446 rfl dX0_lengthen_16 ?_
      refine r_icmp_ge (tgt := 82) dX0_lengthen_19 (by decide) (fun c19 => absurd c19 (lp_s hoc.1 hoc.2 h)) (fun c19 => ?_)
      refine r_aload_n dX0_lengthen_22 rfl ?_
      refine r_getq_st (by assumption) (by assumption) (by omega) 4 (by decide) q451 rfl dX0_lengthen_23 ?_
      refine r_iconst (v := 1) dX0_lengthen_26 (by decide) ?_
      refine r_iload dX0_lengthen_27 rfl ?_
      refine r_ishl dX0_lengthen_29 ?_
      refine r_iand dX0_lengthen_30 ?_
      refine r_if_eq (tgt := 76) dX0_lengthen_31 (by decide) (fun c31 => ?_) (fun c31 => ?_)
      · refine r_iinc dX0_lengthen_76 rfl ii_s (by decide) rfl ?_
        refine r_goto (tgt := 13) dX0_lengthen_79 (by decide) ?_
        first | exact ih (j + 1) b _ (by omega) (by rw [← hC]; first | exact (len_a c31).symm | exact (len_b c31 c52).symm) | exact ih (j + 1) true _ (by omega) (by rw [← hC]; exact (len_c c31 c52).symm)
      · refine r_aload_n dX0_lengthen_34 rfl ?_
        refine r_get_ch 1 (by decide) q69 rfl dX0_lengthen_35 ?_
        refine r_iload dX0_lengthen_38 rfl ?_
        refine r_ldp_cr rfl (by omega) dX0_lengthen_40 ?_
        refine r_aload_n dX0_lengthen_41 rfl ?_
        refine r_getq_st (by assumption) (by assumption) (by omega) 0 (by decide) q453 rfl dX0_lengthen_42 ?_
        refine r_iadd dX0_lengthen_45 ?_
        refine r_aload_n dX0_lengthen_46 rfl ?_
        refine r_get_ch 1 (by decide) q69 rfl dX0_lengthen_47 ?_
        refine r_iload_n dX0_lengthen_50 rfl ?_
        refine r_ldp_cr rfl (by omega) dX0_lengthen_51 ?_
        refine r_icmp_le (tgt := 76) dX0_lengthen_52 (by decide) (fun c52 => ?_) (fun c52 => ?_)
        · refine r_iinc dX0_lengthen_76 rfl ii_s (by decide) rfl ?_
          refine r_goto (tgt := 13) dX0_lengthen_79 (by decide) ?_
          first | exact ih (j + 1) b _ (by omega) (by rw [← hC]; first | exact (len_a c31).symm | exact (len_b c31 c52).symm) | exact ih (j + 1) true _ (by omega) (by rw [← hC]; exact (len_c c31 c52).symm)
        · refine r_aload_n dX0_lengthen_55 rfl ?_
          refine r_get_ch 1 (by decide) q69 rfl dX0_lengthen_56 ?_
          refine r_iload_n dX0_lengthen_59 rfl ?_
          refine r_aload_n dX0_lengthen_60 rfl ?_
          refine r_get_ch 1 (by decide) q69 rfl dX0_lengthen_61 ?_
          refine r_iload dX0_lengthen_64 rfl ?_
          refine r_ldp_cr rfl (by omega) dX0_lengthen_66 ?_
          refine r_aload_n dX0_lengthen_67 rfl ?_
          refine r_getq_st (by assumption) (by assumption) (by omega) 0 (by decide) q453 rfl dX0_lengthen_68 ?_
          refine r_iadd dX0_lengthen_71 ?_
          refine r_strp_cr rfl (by omega) dX0_lengthen_72 ?_
          refine r_iconst (v := 1) dX0_lengthen_73 (by decide) ?_
          refine r_istore dX0_lengthen_74 (by decide) rfl ?_
          refine r_iinc dX0_lengthen_76 rfl ii_s (by decide) rfl ?_
          refine r_goto (tgt := 13) dX0_lengthen_79 (by decide) ?_
          first | exact ih (j + 1) b _ (by omega) (by rw [← hC]; first | exact (len_a c31).symm | exact (len_b c31 c52).symm) | exact ih (j + 1) true _ (by omega) (by rw [← hC]; exact (len_c c31 c52).symm)
  refine r_aload_n dX0_lengthen_0 rfl ?_
  refine r_getq_pl (by assumption) (by assumption) 0 (by decide) q450 rfl dX0_lengthen_1 ?_
  refine r_iload_n dX0_lengthen_4 rfl ?_
  refine r_ald_steps (by assumption) rfl (by omega) dX0_lengthen_5 ?_
  refine r_astore_n dX0_lengthen_6 (by decide) rfl ?_
  refine r_iconst (v := 0) dX0_lengthen_7 (by decide) ?_
  refine r_istore dX0_lengthen_8 (by decide) rfl ?_
  refine r_iconst (v := 0) dX0_lengthen_10 (by decide) ?_
  refine r_istore dX0_lengthen_11 (by decide) rfl ?_
  exact L (cn (M r)) 0 false C0 (by omega) rfl
theorem rr_a {P C : tP} {n : Nat} {b : Bool} (h : bI b = 0) : lp_rr P (n + 1) b C = C := by rw [lp_rr, bI_0 h, if_neg (by decide)]
theorem rr_b {P C : tP} {n : Nat} {b : Bool} (h : ¬ bI b = 0) : lp_rr P (n + 1) b C = lp_rr P n (lp_rnd P (cn P) 0 false C).1 (lp_rnd P (cn P) 0 false C).2 := by rw [lp_rr, bI_1 h, if_pos rfl]
theorem rnd_1 {P C : tP} {n i : Nat} {b : Bool} (h : ¬ bI (f_len P C i).1 = 0) : lp_rnd P (n + 1) i b C = lp_rnd P n (i + 1) true (f_len P C i).2 := by rw [lp_rnd, bI_1 h]; rfl
theorem rnd_2 {P C : tP} {n i : Nat} {b : Bool} (h : ¬ bI b = 0) : lp_rnd P (n + 1) i b C = lp_rnd P n (i + 1) true (f_len P C i).2 := by rw [lp_rnd, bI_1 h, Bool.or_true]
theorem rnd_3 {P C : tP} {n i : Nat} {b : Bool} (h : bI (f_len P C i).1 = 0) (h2 : bI b = 0) : lp_rnd P (n + 1) i b C = lp_rnd P n (i + 1) false (f_len P C i).2 := by rw [lp_rnd, bI_0 h, bI_0 h2]; rfl
theorem rr_0 {k : Nat} (h : k + 0 = 13) : (12 : Int32) < nI k := nI_lt (a := 12) (by omega) (by omega)
theorem rr_s {k n : Nat} (h : k + (n + 1) = 13) : ¬ (12 : Int32) < nI k := nI_nlt (a := 12) (by omega) (by omega)
theorem dX0_measureByRounds_0 : decode cX0_measureByRounds 0 = .ok (.iconst 0, 1) := by decide +kernel
theorem dX0_measureByRounds_1 : decode cX0_measureByRounds 1 = .ok (.istore_n 2, 1) := by decide +kernel
theorem dX0_measureByRounds_2 : decode cX0_measureByRounds 2 = .ok (.iload_n 2, 1) := by decide +kernel
theorem dX0_measureByRounds_3 : decode cX0_measureByRounds 3 = .ok (.aload_n 1, 1) := by decide +kernel
theorem dX0_measureByRounds_4 : decode cX0_measureByRounds 4 = .ok (.getfield 18, 3) := by decide +kernel
theorem dX0_measureByRounds_7 : decode cX0_measureByRounds 7 = .ok (.if_icmp .ge 24, 3) := by decide +kernel
theorem dX0_measureByRounds_10 : decode cX0_measureByRounds 10 = .ok (.aload_n 0, 1) := by decide +kernel
theorem dX0_measureByRounds_11 : decode cX0_measureByRounds 11 = .ok (.getfield 15, 3) := by decide +kernel
theorem dX0_measureByRounds_14 : decode cX0_measureByRounds 14 = .ok (.iload_n 2, 1) := by decide +kernel
theorem dX0_measureByRounds_15 : decode cX0_measureByRounds 15 = .ok (.aload_n 1, 1) := by decide +kernel
theorem dX0_measureByRounds_16 : decode cX0_measureByRounds 16 = .ok (.getfield 28, 3) := by decide +kernel
theorem dX0_measureByRounds_19 : decode cX0_measureByRounds 19 = .ok (.iload_n 2, 1) := by decide +kernel
theorem dX0_measureByRounds_20 : decode cX0_measureByRounds 20 = .ok (.aaload, 1) := by decide +kernel
theorem dX0_measureByRounds_21 : decode cX0_measureByRounds 21 = .ok (.getfield 43, 3) := by decide +kernel
theorem dX0_measureByRounds_24 : decode cX0_measureByRounds 24 = .ok (.iastore, 1) := by decide +kernel
theorem dX0_measureByRounds_25 : decode cX0_measureByRounds 25 = .ok (.iinc 2 1, 3) := by decide +kernel
theorem dX0_measureByRounds_28 : decode cX0_measureByRounds 28 = .ok (.goto (-26), 3) := by decide +kernel
theorem dX0_measureByRounds_31 : decode cX0_measureByRounds 31 = .ok (.iconst 1, 1) := by decide +kernel
theorem dX0_measureByRounds_32 : decode cX0_measureByRounds 32 = .ok (.istore_n 2, 1) := by decide +kernel
theorem dX0_measureByRounds_33 : decode cX0_measureByRounds 33 = .ok (.iconst 0, 1) := by decide +kernel
theorem dX0_measureByRounds_34 : decode cX0_measureByRounds 34 = .ok (.istore_n 3, 1) := by decide +kernel
theorem dX0_measureByRounds_35 : decode cX0_measureByRounds 35 = .ok (.iload_n 2, 1) := by decide +kernel
theorem dX0_measureByRounds_36 : decode cX0_measureByRounds 36 = .ok (.ifCond .eq 55, 3) := by decide +kernel
theorem dX0_measureByRounds_39 : decode cX0_measureByRounds 39 = .ok (.iload_n 3, 1) := by decide +kernel
theorem dX0_measureByRounds_40 : decode cX0_measureByRounds 40 = .ok (.bipush 12, 2) := by decide +kernel
theorem dX0_measureByRounds_42 : decode cX0_measureByRounds 42 = .ok (.if_icmp .gt 49, 3) := by decide +kernel
theorem dX0_measureByRounds_45 : decode cX0_measureByRounds 45 = .ok (.iconst 0, 1) := by decide +kernel
theorem dX0_measureByRounds_46 : decode cX0_measureByRounds 46 = .ok (.istore_n 2, 1) := by decide +kernel
theorem dX0_measureByRounds_47 : decode cX0_measureByRounds 47 = .ok (.iconst 0, 1) := by decide +kernel
theorem dX0_measureByRounds_48 : decode cX0_measureByRounds 48 = .ok (.istore 4, 2) := by decide +kernel
theorem dX0_measureByRounds_50 : decode cX0_measureByRounds 50 = .ok (.iload 4, 2) := by decide +kernel
theorem dX0_measureByRounds_52 : decode cX0_measureByRounds 52 = .ok (.aload_n 1, 1) := by decide +kernel
theorem dX0_measureByRounds_53 : decode cX0_measureByRounds 53 = .ok (.getfield 18, 3) := by decide +kernel
theorem dX0_measureByRounds_56 : decode cX0_measureByRounds 56 = .ok (.if_icmp .ge 29, 3) := by decide +kernel
theorem dX0_measureByRounds_59 : decode cX0_measureByRounds 59 = .ok (.aload_n 0, 1) := by decide +kernel
theorem dX0_measureByRounds_60 : decode cX0_measureByRounds 60 = .ok (.aload_n 1, 1) := by decide +kernel
theorem dX0_measureByRounds_61 : decode cX0_measureByRounds 61 = .ok (.iload 4, 2) := by decide +kernel
theorem dX0_measureByRounds_63 : decode cX0_measureByRounds 63 = .ok (.invokevirtual 46, 3) := by decide +kernel
theorem dX0_measureByRounds_66 : decode cX0_measureByRounds 66 = .ok (.ifCond .ne 7, 3) := by decide +kernel
theorem dX0_measureByRounds_69 : decode cX0_measureByRounds 69 = .ok (.iload_n 2, 1) := by decide +kernel
theorem dX0_measureByRounds_70 : decode cX0_measureByRounds 70 = .ok (.ifCond .eq 7, 3) := by decide +kernel
theorem dX0_measureByRounds_73 : decode cX0_measureByRounds 73 = .ok (.iconst 1, 1) := by decide +kernel
theorem dX0_measureByRounds_74 : decode cX0_measureByRounds 74 = .ok (.goto 4, 3) := by decide +kernel
theorem dX0_measureByRounds_77 : decode cX0_measureByRounds 77 = .ok (.iconst 0, 1) := by decide +kernel
theorem dX0_measureByRounds_78 : decode cX0_measureByRounds 78 = .ok (.istore_n 2, 1) := by decide +kernel
theorem dX0_measureByRounds_79 : decode cX0_measureByRounds 79 = .ok (.iinc 4 1, 3) := by decide +kernel
theorem dX0_measureByRounds_82 : decode cX0_measureByRounds 82 = .ok (.goto (-32), 3) := by decide +kernel
theorem dX0_measureByRounds_85 : decode cX0_measureByRounds 85 = .ok (.iinc 3 1, 3) := by decide +kernel
theorem dX0_measureByRounds_88 : decode cX0_measureByRounds 88 = .ok (.goto (-53), 3) := by decide +kernel
theorem dX0_measureByRounds_91 : decode cX0_measureByRounds 91 = .ok (.return_, 1) := by decide +kernel
theorem dcX0_measureByRounds : yX0_measureByRounds.cls = RX0 ∧ yX0_measureByRounds.cls ≠ "java/lang/invoke/MethodHandle" ∧ yX0_measureByRounds.cls ≠ "java/lang/invoke/VarHandle" ∧ (parseMethodDescriptor yX0_measureByRounds.desc).map (fun d => d.parameters.length) = some 1 := by decide +kernel
theorem gX0_measureByRounds_63 : GoodIn wsL_law (wsV RX0 46 RX0 yX0_lengthen (.code yX0_lengthen cX0_lengthen 6 (some .boolean) :: wsL_law)) := g_V q463 q464 q465 q31 q466
set_option maxRecDepth 100000 in
set_option maxHeartbeats 4000000 in
theorem K_mr {cA : Nat → ClassId} {ad : tA} {ex : va_W} {M : tM} {r : Nat} {C0 : tP} (hr : isPlan r) (hne : r ≠ 15) (hoc : okc (M r)) : Cj yX0_measureByRounds cX0_measureByRounds 5 none (rmd 1) 0 0 cA ad [.ref (ad 15 0), .ref (ad r 0)] ex (m_pl M 15 C0) (Qe none ex (m_pl M 15 (f_mr (M r) C0))) := by
  refine c_of_r (lv0 := [some (.ref (ad 15 0)), some (.ref (ad r 0)), none, none, none]) rfl (by decide +kernel) (Nat.le_of_ble_eq_true rfl) rfl ?_
  have Li : ∀ (k n i : Nat) (b : Bool) (C : tP), i + n = cn (M r) → (Rj cX0_measureByRounds RX0 5 none (rmd 1) 0 0 cA ad (Qe none ex (m_pl M 15 (f_mr (M r) C0))) ex 0 0 85 [some (.ref (ad 15 0)), some (.ref (ad r 0)), some (.int (bI (lp_rnd (M r) n i b C).1)), some (.int (nI k)), none] [] (m_pl M 15 (lp_rnd (M r) n i b C).2)) → Rj cX0_measureByRounds RX0 5 none (rmd 1) 0 0 cA ad (Qe none ex (m_pl M 15 (f_mr (M r) C0))) ex 0 0 50 [some (.ref (ad 15 0)), some (.ref (ad r 0)), some (.int (bI b)), some (.int (nI k)), some (.int (nI i))] [] (m_pl M 15 C) := by
    intro k n
    induction n with
    | zero =>
      intro i b C h K
      refine r_iload dX0_measureByRounds_50 rfl ?_
      refine r_aload_n dX0_measureByRounds_52 rfl ?_
      refine r_getq_pl (by assumption) (by assumption) 1 (by decide) q446 rfl dX0_measureByRounds_53 ?_
      refine r_icmp_ge (tgt := 85) dX0_measureByRounds_56 (by decide) (fun c56 => ?_) (fun c56 => absurd (lp_z hoc.1 h) c56)
      refine r_fgt 4 ?_
      exact K
    | succ n ih =>
      intro i b C h K
      have hi : i < 12 := by have := hoc.2; omega
      refine r_iload dX0_measureByRounds_50 rfl ?_
      refine r_aload_n dX0_measureByRounds_52 rfl ?_
      refine r_getq_pl (by assumption) (by assumption) 1 (by decide) q446 rfl dX0_measureByRounds_53 ?_
      refine r_icmp_ge (tgt := 85) dX0_measureByRounds_56 (by decide) (fun c56 => absurd c56 (lp_s hoc.1 hoc.2 h)) (fun c56 => ?_)
      refine r_aload_n dX0_measureByRounds_59 rfl ?_
      refine r_aload_n dX0_measureByRounds_60 rfl ?_
      refine r_iload dX0_measureByRounds_61 rfl ?_
      refine r_cVi dX0_measureByRounds_63 (K_len (i := i) (by assumption) (by assumption) hi hoc) gX0_measureByRounds_63 dcX0_lengthen rfl rfl rfl (Nat.le_of_ble_eq_true rfl) ob_ch ?_
      refine r_if_ne (tgt := 73) dX0_measureByRounds_66 (by decide) (fun c66 => ?_) (fun c66 => ?_)
      · refine r_iconst (v := 1) dX0_measureByRounds_73 (by decide) ?_
        refine r_goto (tgt := 78) dX0_measureByRounds_74 (by decide) ?_
        refine r_istore_n dX0_measureByRounds_78 (by decide) rfl ?_
        refine r_iinc dX0_measureByRounds_79 rfl ii_s (by decide) rfl ?_
        refine r_goto (tgt := 50) dX0_measureByRounds_82 (by decide) ?_
        first | (rw [rnd_1 c66] at K; exact ih (i + 1) true _ (by omega) K) | (rw [rnd_2 c70] at K; exact ih (i + 1) true _ (by omega) K) | (rw [rnd_3 c66 c70] at K; exact ih (i + 1) false _ (by omega) K)
      · refine r_iload_n dX0_measureByRounds_69 rfl ?_
        refine r_if_eq (tgt := 77) dX0_measureByRounds_70 (by decide) (fun c70 => ?_) (fun c70 => ?_)
        · refine r_iconst (v := 0) dX0_measureByRounds_77 (by decide) ?_
          refine r_istore_n dX0_measureByRounds_78 (by decide) rfl ?_
          refine r_iinc dX0_measureByRounds_79 rfl ii_s (by decide) rfl ?_
          refine r_goto (tgt := 50) dX0_measureByRounds_82 (by decide) ?_
          first | (rw [rnd_1 c66] at K; exact ih (i + 1) true _ (by omega) K) | (rw [rnd_2 c70] at K; exact ih (i + 1) true _ (by omega) K) | (rw [rnd_3 c66 c70] at K; exact ih (i + 1) false _ (by omega) K)
        · refine r_iconst (v := 1) dX0_measureByRounds_73 (by decide) ?_
          refine r_goto (tgt := 78) dX0_measureByRounds_74 (by decide) ?_
          refine r_istore_n dX0_measureByRounds_78 (by decide) rfl ?_
          refine r_iinc dX0_measureByRounds_79 rfl ii_s (by decide) rfl ?_
          refine r_goto (tgt := 50) dX0_measureByRounds_82 (by decide) ?_
          first | (rw [rnd_1 c66] at K; exact ih (i + 1) true _ (by omega) K) | (rw [rnd_2 c70] at K; exact ih (i + 1) true _ (by omega) K) | (rw [rnd_3 c66 c70] at K; exact ih (i + 1) false _ (by omega) K)
  have Lo : ∀ (n k : Nat) (b : Bool) (C : tP), k + n = 13 → lp_rr (M r) n b C = f_mr (M r) C0 → Rj cX0_measureByRounds RX0 5 none (rmd 1) 0 0 cA ad (Qe none ex (m_pl M 15 (f_mr (M r) C0))) ex 0 0 35 [some (.ref (ad 15 0)), some (.ref (ad r 0)), some (.int (bI b)), some (.int (nI k)), none] [] (m_pl M 15 C) := by
    intro n
    induction n with
    | zero =>
      intro k b C h hC
      refine r_iload_n dX0_measureByRounds_35 rfl ?_
      refine r_if_eq (tgt := 91) dX0_measureByRounds_36 (by decide) (fun c36 => ?_) (fun c36 => ?_)
      · exact r_retv rfl dX0_measureByRounds_91 (by rw [← hC]; rfl)
      · refine r_iload_n dX0_measureByRounds_39 rfl ?_
        refine r_bipush (v := 12) dX0_measureByRounds_40 (by decide) ?_
        refine r_icmp_gt (tgt := 91) dX0_measureByRounds_42 (by decide) (fun c42 => ?_) (fun c42 => absurd (rr_0 h) c42)
        exact r_retv rfl dX0_measureByRounds_91 (by rw [← hC]; rfl)
    | succ n ih =>
      intro k b C h hC
      refine r_iload_n dX0_measureByRounds_35 rfl ?_
      refine r_if_eq (tgt := 91) dX0_measureByRounds_36 (by decide) (fun c36 => ?_) (fun c36 => ?_)
      · exact r_retv rfl dX0_measureByRounds_91 (by rw [← hC, rr_a c36])
      · refine r_iload_n dX0_measureByRounds_39 rfl ?_
        refine r_bipush (v := 12) dX0_measureByRounds_40 (by decide) ?_
        refine r_icmp_gt (tgt := 91) dX0_measureByRounds_42 (by decide) (fun c42 => absurd c42 (rr_s h)) (fun c42 => ?_)
        refine r_iconst (v := 0) dX0_measureByRounds_45 (by decide) ?_
        refine r_istore_n dX0_measureByRounds_46 (by decide) rfl ?_
        refine r_iconst (v := 0) dX0_measureByRounds_47 (by decide) ?_
        refine r_istore dX0_measureByRounds_48 (by decide) rfl ?_
        refine Li k (cn (M r)) 0 false C (by omega) ?_
        refine r_iinc dX0_measureByRounds_85 rfl ii_s (by decide) rfl ?_
        refine r_goto (tgt := 35) dX0_measureByRounds_88 (by decide) ?_
        exact ih (k + 1) _ _ (by omega) (by rw [← hC]; exact (rr_b c36).symm)
  have L1 : ∀ (n i : Nat) (C : tP), i + n = cn (M r) → lp_d0 (M r) n i C = lp_d0 (M r) (cn (M r)) 0 C0 → Rj cX0_measureByRounds RX0 5 none (rmd 1) 0 0 cA ad (Qe none ex (m_pl M 15 (f_mr (M r) C0))) ex 0 0 2 [some (.ref (ad 15 0)), some (.ref (ad r 0)), some (.int (nI i)), none, none] [] (m_pl M 15 C) := by
    intro n
    induction n with
    | zero =>
      intro i C h hC
      refine r_iload_n dX0_measureByRounds_2 rfl ?_
      refine r_aload_n dX0_measureByRounds_3 rfl ?_
      refine r_getq_pl (by assumption) (by assumption) 1 (by decide) q446 rfl dX0_measureByRounds_4 ?_
      refine r_icmp_ge (tgt := 31) dX0_measureByRounds_7 (by decide) (fun c7 => ?_) (fun c7 => absurd (lp_z hoc.1 h) c7)
      refine r_iconst (v := 1) dX0_measureByRounds_31 (by decide) ?_
      refine r_istore_n dX0_measureByRounds_32 (by decide) rfl ?_
      refine r_iconst (v := 0) dX0_measureByRounds_33 (by decide) ?_
      refine r_istore_n dX0_measureByRounds_34 (by decide) rfl ?_
      exact Lo 13 0 true C (by omega) (by rw [f_mr, ← hC]; rfl)
    | succ n ih =>
      intro i C h hC
      have hi : i < 12 := by have := hoc.2; omega
      refine r_iload_n dX0_measureByRounds_2 rfl ?_
      refine r_aload_n dX0_measureByRounds_3 rfl ?_
      refine r_getq_pl (by assumption) (by assumption) 1 (by decide) q446 rfl dX0_measureByRounds_4 ?_
      refine r_icmp_ge (tgt := 31) dX0_measureByRounds_7 (by decide) (fun c7 => absurd c7 (lp_s hoc.1 hoc.2 h)) (fun c7 => ?_)
      refine r_aload_n dX0_measureByRounds_10 rfl ?_
      refine r_get_ch 1 (by decide) q69 rfl dX0_measureByRounds_11 ?_
      refine r_iload_n dX0_measureByRounds_14 rfl ?_
      refine r_aload_n dX0_measureByRounds_15 rfl ?_
      refine r_getq_pl (by assumption) (by assumption) 0 (by decide) q450 rfl dX0_measureByRounds_16 ?_
      refine r_iload_n dX0_measureByRounds_19 rfl ?_
      refine r_ald_steps (by assumption) rfl (by omega) dX0_measureByRounds_20 ?_
      refine r_getq_st (by assumption) (by assumption) (by omega) 0 (by decide) q453 rfl dX0_measureByRounds_21 ?_
      refine r_strp_cr rfl (by omega) dX0_measureByRounds_24 ?_
      refine r_iinc dX0_measureByRounds_25 rfl ii_s (by decide) rfl ?_
      refine r_goto (tgt := 2) dX0_measureByRounds_28 (by decide) ?_
      exact ih (i + 1) _ (by omega) hC
  refine r_iconst (v := 0) dX0_measureByRounds_0 (by decide) ?_
  refine r_istore_n dX0_measureByRounds_1 (by decide) rfl ?_
  exact L1 (cn (M r)) 0 C0 (by omega) rfl

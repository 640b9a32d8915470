/-! PART 12: the TrousseauFlow object, its fields F and now P taken out of the matrix (mm M F P); its changes -/
theorem is1 : isPlan 1 := ⟨by omega, by omega⟩
theorem is2 : isPlan 2 := ⟨by omega, by omega⟩
theorem is3 : isPlan 3 := ⟨by omega, by omega⟩
theorem isk {k : Nat} (h : k < 9) : isPlan (4 + k) := ⟨by omega, by omega⟩
abbrev mm (M : tM) (F P : tP) : tM := m_pl (m_pl M 0 F) 1 P
section
variable {M : tM} {F P : tP}
theorem mm_0 : mm M F P 0 = F := by rw [mm, m_pl_n (by omega), m_pl_s]
theorem mm_1 : mm M F P 1 = P := m_pl_s
theorem mm_n {r : Nat} (h : 2 ≤ r) : mm M F P r = M r := by rw [mm, m_pl_n (by omega), m_pl_n (by omega)]
theorem mm_F {k : Nat} {x : Int32} : m_set (mm M F P) 0 0 (upd (F 0) k x) = mm M (pu F 0 k x) P := by
  funext r'
  by_cases h1 : r' = 1
  · subst h1
    funext j
    rw [m_set_n (by omega), mm_1, mm_1]
  · by_cases h0 : r' = 0
    · subst h0
      rw [mm_0]
      funext j
      by_cases hj : j = 0
      · subst hj; rw [m_set_s, pu, if_pos rfl]
      · rw [m_set_n (fun e => hj e.2), mm_0, pu_jj hj]
    · funext j
      rw [m_set_n (fun e => h0 e.1), mm_n (by omega), mm_n (by omega)]
theorem mm_pl {r : Nat} {X : tP} (h : 2 ≤ r) : m_pl (mm M F P) r X = mm (m_pl M r X) F P := by
  funext r'
  by_cases h1 : r' = 1
  · subst h1; rw [m_pl_n (by omega), mm_1, mm_1]
  · by_cases h0 : r' = 0
    · subst h0; rw [m_pl_n (by omega), mm_0, mm_0]
    · by_cases hr : r' = r
      · subst hr; rw [m_pl_s, mm_n (by omega), m_pl_s]
      · rw [m_pl_n hr, mm_n (by omega), mm_n (by omega), m_pl_n hr]
theorem mm_self {r : Nat} (h : 2 ≤ r) : m_pl (mm M F P) r (M r) = mm M F P := by rw [← mm_n (M := M) (F := F) (P := P) h]; exact m_pl_self
theorem mm_set {r j k : Nat} {x : Int32} (h : 2 ≤ r) : m_set (mm M F P) r j (upd (M r j) k x) = mm (m_pl M r (pu (M r) j k x)) F P := by
  have : m_set (m_pl (mm M F P) r (M r)) r j (upd (M r j) k x) = m_pl (mm M F P) r (pu (M r) j k x) := m_set_pl
  rw [mm_self h, mm_pl h] at this
  exact this
end
/-- a contract over region r as one over mm -/
theorem cmm {y : MethodName} {cc : ByteArray} {nL : Nat} {ret : Option FieldType} {rm : Room} {cA : Nat → ClassId} {ad : tA} {vs : List Value} {ex : va_W} {M : tM} {F P X X' : tP} {r : Nat} {v : Option Value} (hr : 2 ≤ r) (e : M r = X) (h : Cj y cc nL ret rm 0 0 cA ad vs ex (m_pl (mm M F P) r X) (Qe v ex (m_pl (mm M F P) r X'))) : Cj y cc nL ret rm 0 0 cA ad vs ex (mm M F P) (Qe v ex (mm (m_pl M r X') F P)) := by
  subst e
  rw [mm_self hr, mm_pl hr] at h
  exact h
section
variable {cc : ByteArray} {own : String} {nL : Nat} {ret : Option FieldType} {rm : Room} {mc ms : Nat} {cA : Nat → ClassId} {ad : tA} {Q : Option Value → va_W → tM → Prop} {ex : va_W} {cells slots pc : Nat} {lv : List (Option Value)} {st : List Value} {M : tM} {F P : tP}
theorem r_getF {idx : Nat} {v : Value} (kf : Nat) (hk : kf < 13) (hw : Cond.fieldLink own idx (TX6 kf).1 (TX6 kf).2.1 (TX6 kf).2.2.1 ∈ wsL_law) (hv : (l_tf ad (F 0))[kf]? = some v) (hd : decode cc pc = .ok (.getfield idx, 3)) (k : Rj cc own nL ret rm mc ms cA ad Q ex cells slots (pc + 3) lv (v :: st) (mm M F P)) : Rj cc own nL ret rm mc ms cA ad Q ex cells slots pc lv (.ref (ad 0 0) :: st) (mm M F P) := r_get_tf kf hk hw (by rw [mm_0]; exact hv) hd k
theorem r_putF {idx : Nat} {x : Int32} {ty : FieldType} (kf : Nat) (hk : kf < 13) (hw : Cond.fieldLink own idx (TX6 kf).1 (TX6 kf).2.1 (TX6 kf).2.2.1 ∈ wsL_law) (hfin : (TX6 kf).2.2.2 = false) (het : tyX6 kf = ty) (hn : narrow ty (.int x) = .int x) (hfit : fits ty (.int x) = true) (hset : l_tf ad (upd (F 0) kf x) = (l_tf ad (F 0)).set kf (.int x)) (hd : decode cc pc = .ok (.putfield idx, 3)) (k : Rj cc own nL ret rm mc ms cA ad Q ex cells slots (pc + 3) lv st (mm M (pu F 0 kf x) P)) : Rj cc own nL ret rm mc ms cA ad Q ex cells slots pc lv (.int x :: .ref (ad 0 0) :: st) (mm M F P) := r_put_tf kf hk hw hfin het hn hfit (by rw [mm_0]; exact hset) hd (by rw [mm_0, mm_F]; exact k)
theorem r_getm_ot {idx : Nat}  {v : Value} (kf : Nat) (hk : kf < 5) (hw : Cond.fieldLink own idx (TX3 kf).1 (TX3 kf).2.1 (TX3 kf).2.2.1 ∈ wsL_law) (hv : (l_ot ad (M 13 0))[kf]? = some v) (hd : decode cc pc = .ok (.getfield idx, 3)) (k : Rj cc own nL ret rm mc ms cA ad Q ex cells slots (pc + 3) lv (v :: st) (mm M F P)) : Rj cc own nL ret rm mc ms cA ad Q ex cells slots pc lv (.ref (ad 13 0) :: st) (mm M F P) := r_get_ot  kf hk hw (by rw [mm_n (by omega)]; exact hv) hd k
theorem r_putm_ot {idx : Nat}  {x : Int32} {ty : FieldType} (kf : Nat) (hk : kf < 5) (hw : Cond.fieldLink own idx (TX3 kf).1 (TX3 kf).2.1 (TX3 kf).2.2.1 ∈ wsL_law) (hfin : (TX3 kf).2.2.2 = false) (het : tyX3 kf = ty) (hn : narrow ty (.int x) = .int x) (hfit : fits ty (.int x) = true) (hset : l_ot ad (upd (M 13 0) kf x) = (l_ot ad (M 13 0)).set kf (.int x)) (hd : decode cc pc = .ok (.putfield idx, 3)) (k : Rj cc own nL ret rm mc ms cA ad Q ex cells slots (pc + 3) lv st (mm (m_pl M 13 (pu (M 13) 0 kf x)) F P)) : Rj cc own nL ret rm mc ms cA ad Q ex cells slots pc lv (.int x :: .ref (ad 13 0) :: st) (mm M F P) := r_put_ot  kf hk hw hfin het hn hfit (by rw [mm_n (by omega)]; exact hset) hd (by rw [mm_n (by omega), mm_set (by omega)]; exact k)
theorem r_getm_or {idx : Nat} {i : Nat} (hi : i < 12) {v : Value} (kf : Nat) (hk : kf < 5) (hw : Cond.fieldLink own idx (TX2 kf).1 (TX2 kf).2.1 (TX2 kf).2.2.1 ∈ wsL_law) (hv : (l_or (M 13 (3 + i)))[kf]? = some v) (hd : decode cc pc = .ok (.getfield idx, 3)) (k : Rj cc own nL ret rm mc ms cA ad Q ex cells slots (pc + 3) lv (v :: st) (mm M F P)) : Rj cc own nL ret rm mc ms cA ad Q ex cells slots pc lv (.ref (ad 13 (3 + i)) :: st) (mm M F P) := r_get_or hi kf hk hw (by rw [mm_n (by omega)]; exact hv) hd k
theorem r_getm_ln {idx : Nat}  {v : Value} (kf : Nat) (hk : kf < 2) (hw : Cond.fieldLink own idx (TX1 kf).1 (TX1 kf).2.1 (TX1 kf).2.2.1 ∈ wsL_law) (hv : (l_ln ad (M 14 0))[kf]? = some v) (hd : decode cc pc = .ok (.getfield idx, 3)) (k : Rj cc own nL ret rm mc ms cA ad Q ex cells slots (pc + 3) lv (v :: st) (mm M F P)) : Rj cc own nL ret rm mc ms cA ad Q ex cells slots pc lv (.ref (ad 14 0) :: st) (mm M F P) := r_get_ln  kf hk hw (by rw [mm_n (by omega)]; exact hv) hd k
theorem r_putm_ln {idx : Nat}  {x : Int32} {ty : FieldType} (kf : Nat) (hk : kf < 2) (hw : Cond.fieldLink own idx (TX1 kf).1 (TX1 kf).2.1 (TX1 kf).2.2.1 ∈ wsL_law) (hfin : (TX1 kf).2.2.2 = false) (het : tyX1 kf = ty) (hn : narrow ty (.int x) = .int x) (hfit : fits ty (.int x) = true) (hset : l_ln ad (upd (M 14 0) kf x) = (l_ln ad (M 14 0)).set kf (.int x)) (hd : decode cc pc = .ok (.putfield idx, 3)) (k : Rj cc own nL ret rm mc ms cA ad Q ex cells slots (pc + 3) lv st (mm (m_pl M 14 (pu (M 14) 0 kf x)) F P)) : Rj cc own nL ret rm mc ms cA ad Q ex cells slots pc lv (.int x :: .ref (ad 14 0) :: st) (mm M F P) := r_put_ln  kf hk hw hfin het hn hfit (by rw [mm_n (by omega)]; exact hset) hd (by rw [mm_n (by omega), mm_set (by omega)]; exact k)
theorem r_getm_pl {idx : Nat} {r : Nat} (hr : isPlan r) (h2 : 2 ≤ r) {v : Value} (kf : Nat) (hk : kf < 14) (hw : Cond.fieldLink own idx (TX4 kf).1 (TX4 kf).2.1 (TX4 kf).2.2.1 ∈ wsL_law) (hv : (l_pl ad r (M r 0))[kf]? = some v) (hd : decode cc pc = .ok (.getfield idx, 3)) (k : Rj cc own nL ret rm mc ms cA ad Q ex cells slots (pc + 3) lv (v :: st) (mm M F P)) : Rj cc own nL ret rm mc ms cA ad Q ex cells slots pc lv (.ref (ad r 0) :: st) (mm M F P) := r_get_pl hr kf hk hw (by rw [mm_n h2]; exact hv) hd k
theorem r_getm_st {idx : Nat} {r i : Nat} (hr : isPlan r) (h2 : 2 ≤ r) (hi : i < 12) {v : Value} (kf : Nat) (hk : kf < 11) (hw : Cond.fieldLink own idx (TX5 kf).1 (TX5 kf).2.1 (TX5 kf).2.2.1 ∈ wsL_law) (hv : (l_st (M r (4 + i)))[kf]? = some v) (hd : decode cc pc = .ok (.getfield idx, 3)) (k : Rj cc own nL ret rm mc ms cA ad Q ex cells slots (pc + 3) lv (v :: st) (mm M F P)) : Rj cc own nL ret rm mc ms cA ad Q ex cells slots pc lv (.ref (ad r (4 + i)) :: st) (mm M F P) := r_get_st hr hi kf hk hw (by rw [mm_n h2]; exact hv) hd k
theorem r_ldm_ls {i : Nat} {x v : Int32} (hx : x = nI i) (hi : i < 64) (hv : M 14 1 i = v) (hd : decode cc pc = .ok (.caload, 1)) (k : Rj cc own nL ret rm mc ms cA ad Q ex cells slots (pc + 1) lv (.int v :: st) (mm M F P)) : Rj cc own nL ret rm mc ms cA ad Q ex cells slots pc lv (.int x :: .ref (ad 14 1) :: st) (mm M F P) := r_ld_ls hx hi hd (by rw [mm_n (by omega), hv]; exact k)
theorem r_ldm_cn {i : Nat} {x v : Int32} (hx : x = nI i) (hi : i < 12) (hv : M 15 1 i = v) (hd : decode cc pc = .ok (.iaload, 1)) (k : Rj cc own nL ret rm mc ms cA ad Q ex cells slots (pc + 1) lv (.int v :: st) (mm M F P)) : Rj cc own nL ret rm mc ms cA ad Q ex cells slots pc lv (.int x :: .ref (ad 15 1) :: st) (mm M F P) := r_ld_cn hx hi hd (by rw [mm_n (by omega), hv]; exact k)
theorem r_ldm_cr {i : Nat} {x v : Int32} (hx : x = nI i) (hi : i < 12) (hv : M 15 2 i = v) (hd : decode cc pc = .ok (.iaload, 1)) (k : Rj cc own nL ret rm mc ms cA ad Q ex cells slots (pc + 1) lv (.int v :: st) (mm M F P)) : Rj cc own nL ret rm mc ms cA ad Q ex cells slots pc lv (.int x :: .ref (ad 15 2) :: st) (mm M F P) := r_ld_cr hx hi hd (by rw [mm_n (by omega), hv]; exact k)
end
def f_within (x a b : Int32) : Bool := decide (¬ x < a) && decide (¬ b < x)
def f_ref (F : tP) (a b : Int32) : tP := pu (pu (pu F 0 10 1) 0 11 a) 0 12 b
def f_keep1 (F : tP) : tP := pu F 0 5 ((F 0 5 + 1) - (F 0 5 + 1) / 9 * 9)
def f_keep (F : tP) (x : Int32) : tP := if x < 0 then F else if 8 ≤ f_keep1 F 0 6 then f_keep1 F else pu (f_keep1 F) 0 6 (f_keep1 F 0 6 + 1)
def km (F : tP) : Nat := (F 0 5).toNatClampNeg
def okm (F : tP) : Prop := F 0 5 = nI (km F) ∧ km F < 9
abbrev TX : Type := Int32 × tP × tP
def t_step (F P : tP) (d m b a : Int32) : TX :=
  if f_within d 1 9 = false ∨ f_within m 0 3 = false ∨ f_within b 0 3 = false then (-12, F, P)
  else if P 0 1 < 12 then (P 0 1, F, f_add P d m b a) else (-14, f_ref F 1 (P 0 1), P)
def t_need (F P : tP) (s o : Int32) : TX :=
  if f_hasStep P s = false ∨ f_hasStep P o = false then (-11, F, P)
  else if s = o then (-14, f_ref F 2 s, P)
  else if ¬ P (4 + s.toNatClampNeg) 6 = 0 then (-14, f_ref F 5 (P (4 + s.toNatClampNeg) 6), P)
  else if ¬ P (4 + s.toNatClampNeg) 4 &&& 1 <<< (o &&& 31) = 0 then (-14, f_ref F 3 o, P)
  else if f_noa P o.toNatClampNeg s then (-14, f_ref F 4 o, P)
  else (f_bc (P (4 + s.toNatClampNeg) 4 ||| 1 <<< (o &&& 31)), F, pu P (4 + s.toNatClampNeg) 4 (P (4 + s.toNatClampNeg) 4 ||| 1 <<< (o &&& 31)))
def t_fault (F P : tP) (s m : Int32) : TX :=
  if f_hasStep P s = false then (-11, F, P)
  else if f_within m 1 9 = false then (-12, F, P)
  else if f_isOpen (P (4 + s.toNatClampNeg) 6) = false then (-14, f_ref F 5 (P (4 + s.toNatClampNeg) 6), P)
  else (P (4 + s.toNatClampNeg) 9 + m, F, pu P (4 + s.toNatClampNeg) 9 (P (4 + s.toNatClampNeg) 9 + m))
def t_hands (F P : tP) (m : Int32) : TX := if f_within m 1 4 = false then (-12, F, P) else (P 0 8, F, pu P 0 8 m)
def t_cancel (F P : tP) (b : Int32) : TX :=
  if f_within b 1 3 = false then (-11, F, P) else if f_isCancelled P b then (-14, f_ref F 3 b, P) else ((f_can P b).2, F, (f_can P b).1)
def t_mile (F P : tP) (s d : Int32) : TX :=
  if f_hasStep P s = false then (-11, F, P)
  else if f_within d 1 999 = false then (-12, F, P)
  else if ¬ P (4 + s.toNatClampNeg) 5 = 1000 then (-14, f_ref F 3 (P (4 + s.toNatClampNeg) 5), P)
  else if P 0 3 < 4 then (P 0 3, F, f_addMs P s.toNatClampNeg d) else (-14, f_ref F 1 (P 0 3), P)
def lp_days : Nat → tP → tP
  | 0, P => P
  | n + 1, P => lp_days n (f_pass P)
def t_days (F P : tP) (d : Int32) : TX := if f_within d 1 30 = false then (-12, F, P) else (lp_days d.toNatClampNeg P 0 12 - P 0 12, F, lp_days d.toNatClampNeg P)
theorem hs_of {P : tP} {x : Int32} (o : okc P) (h : f_hasStep P x = true) : ∃ i, i < cn P ∧ i < 12 ∧ x = nI i ∧ x.toNatClampNeg = i := by
  simp only [f_hasStep, Bool.and_eq_true, decide_eq_true_eq] at h
  obtain ⟨i, h1, rfl⟩ := nI_of h.1
  have h2 := h.2
  rw [o.1] at h2
  have h3 : ¬ cn P ≤ i := fun e => h2 (nI_le e h1)
  have := o.2
  exact ⟨i, by omega, by omega, rfl, nI_clamp h1⟩
theorem wi_of {x : Int32} {b : Nat} (hb : b < 2 ^ 31) (h : f_within x 1 (nI b) = true) : ∃ j, 1 ≤ j ∧ j ≤ b ∧ x = nI j ∧ x.toNatClampNeg = j := by
  simp only [f_within, Bool.and_eq_true, decide_eq_true_eq] at h
  have h0 : ¬ x < 0 := fun e => h.1 (Int32.lt_trans e (by decide))
  obtain ⟨j, h1, rfl⟩ := nI_of h0
  have h2 : ¬ j < 1 := fun e => h.1 (nI_lt (b := 1) e (by omega))
  have h3 : ¬ b < j := fun e => h.2 (nI_lt e h1)
  exact ⟨j, by omega, by omega, rfl, nI_clamp h1⟩
theorem dX6_isWithin_0 : decode cX6_isWithin 0 = .ok (.iload_n 0, 1) := by decide +kernel
theorem dX6_isWithin_1 : decode cX6_isWithin 1 = .ok (.iload_n 1, 1) := by decide +kernel
theorem dX6_isWithin_2 : decode cX6_isWithin 2 = .ok (.if_icmp .lt 12, 3) := by decide +kernel
theorem dX6_isWithin_5 : decode cX6_isWithin 5 = .ok (.iload_n 0, 1) := by decide +kernel
theorem dX6_isWithin_6 : decode cX6_isWithin 6 = .ok (.iload_n 2, 1) := by decide +kernel
theorem dX6_isWithin_7 : decode cX6_isWithin 7 = .ok (.if_icmp .gt 7, 3) := by decide +kernel
theorem dX6_isWithin_10 : decode cX6_isWithin 10 = .ok (.iconst 1, 1) := by decide +kernel
theorem dX6_isWithin_11 : decode cX6_isWithin 11 = .ok (.goto 4, 3) := by decide +kernel
theorem dX6_isWithin_14 : decode cX6_isWithin 14 = .ok (.iconst 0, 1) := by decide +kernel
theorem dX6_isWithin_15 : decode cX6_isWithin 15 = .ok (.ireturn, 1) := by decide +kernel
theorem dcX6_isWithin : yX6_isWithin.cls = RX6 ∧ yX6_isWithin.cls ≠ "java/lang/invoke/MethodHandle" ∧ yX6_isWithin.cls ≠ "java/lang/invoke/VarHandle" ∧ (parseMethodDescriptor yX6_isWithin.desc).map (fun d => d.parameters.length) = some 3 := by decide +kernel
set_option maxRecDepth 100000 in
set_option maxHeartbeats 4000000 in
theorem K_wi {cA : Nat → ClassId} {ad : tA} {ex : va_W} {M : tM} {x a b : Int32} : Cj yX6_isWithin cX6_isWithin 3 (some .boolean) (rmd 0) 0 0 cA ad [.int x, .int a, .int b] ex M (Qe (some (.int (bI (f_within x a b)))) ex M) := by
  refine c_of_r (lv0 := [some (.int x), some (.int a), some (.int b)]) rfl (by decide +kernel) (Nat.le_of_ble_eq_true rfl) rfl ?_
  refine r_iload_n dX6_isWithin_0 rfl ?_
  refine r_iload_n dX6_isWithin_1 rfl ?_
  refine r_icmp_lt (tgt := 14) dX6_isWithin_2 (by decide) (fun c2 => ?_) (fun c2 => ?_)
  · refine r_iconst (v := 0) dX6_isWithin_14 (by decide) ?_
    exact r_ret rfl rfl dX6_isWithin_15 (by first | (simp [f_within, bI, *]; done) | simp_all [f_within, bI]) rfl
  · refine r_iload_n dX6_isWithin_5 rfl ?_
    refine r_iload_n dX6_isWithin_6 rfl ?_
    refine r_icmp_gt (tgt := 14) dX6_isWithin_7 (by decide) (fun c7 => ?_) (fun c7 => ?_)
    · refine r_iconst (v := 0) dX6_isWithin_14 (by decide) ?_
      exact r_ret rfl rfl dX6_isWithin_15 (by first | (simp [f_within, bI, *]; done) | simp_all [f_within, bI]) rfl
    · refine r_iconst (v := 1) dX6_isWithin_10 (by decide) ?_
      refine r_goto (tgt := 15) dX6_isWithin_11 (by decide) ?_
      exact r_ret rfl rfl dX6_isWithin_15 (by first | (simp [f_within, bI, *]; done) | simp_all [f_within, bI]) rfl
theorem dX6_refuse_0 : decode cX6_refuse 0 = .ok (.aload_n 0, 1) := by decide +kernel
theorem dX6_refuse_1 : decode cX6_refuse 1 = .ok (.iconst 1, 1) := by decide +kernel
theorem dX6_refuse_2 : decode cX6_refuse 2 = .ok (.putfield 217, 3) := by decide +kernel
theorem dX6_refuse_5 : decode cX6_refuse 5 = .ok (.aload_n 0, 1) := by decide +kernel
theorem dX6_refuse_6 : decode cX6_refuse 6 = .ok (.iload_n 1, 1) := by decide +kernel
theorem dX6_refuse_7 : decode cX6_refuse 7 = .ok (.putfield 223, 3) := by decide +kernel
theorem dX6_refuse_10 : decode cX6_refuse 10 = .ok (.aload_n 0, 1) := by decide +kernel
theorem dX6_refuse_11 : decode cX6_refuse 11 = .ok (.iload_n 2, 1) := by decide +kernel
theorem dX6_refuse_12 : decode cX6_refuse 12 = .ok (.putfield 220, 3) := by decide +kernel
theorem dX6_refuse_15 : decode cX6_refuse 15 = .ok (.bipush (-14), 2) := by decide +kernel
theorem dX6_refuse_17 : decode cX6_refuse 17 = .ok (.ireturn, 1) := by decide +kernel
theorem dcX6_refuse : yX6_refuse.cls = RX6 ∧ yX6_refuse.cls ≠ "java/lang/invoke/MethodHandle" ∧ yX6_refuse.cls ≠ "java/lang/invoke/VarHandle" ∧ (parseMethodDescriptor yX6_refuse.desc).map (fun d => d.parameters.length) = some 2 := by decide +kernel
set_option maxRecDepth 100000 in
set_option maxHeartbeats 4000000 in
theorem K_ref {cA : Nat → ClassId} {ad : tA} {ex : va_W} {M : tM} {F P : tP} {a b : Int32} : Cj yX6_refuse cX6_refuse 3 (some .int) (rmd 0) 0 0 cA ad [.ref (ad 0 0), .int a, .int b] ex (mm M F P) (Qe (some (.int (-14))) ex (mm M (f_ref F a b) P)) := by
  refine c_of_r (lv0 := [some (.ref (ad 0 0)), some (.int a), some (.int b)]) rfl (by decide +kernel) (Nat.le_of_ble_eq_true rfl) rfl ?_
  refine r_aload_n dX6_refuse_0 rfl ?_
  refine r_iconst (v := 1) dX6_refuse_1 (by decide) ?_
  refine r_putF 10 (by decide) q290 rfl rfl (by decide) (by decide) rfl dX6_refuse_2 ?_
  refine r_aload_n dX6_refuse_5 rfl ?_
  refine r_iload_n dX6_refuse_6 rfl ?_
  refine r_putF 11 (by decide) q291 rfl rfl rfl rfl rfl dX6_refuse_7 ?_
  refine r_aload_n dX6_refuse_10 rfl ?_
  refine r_iload_n dX6_refuse_11 rfl ?_
  refine r_putF 12 (by decide) q292 rfl rfl rfl rfl rfl dX6_refuse_12 ?_
  refine r_bipush (v := -14) dX6_refuse_15 (by decide) ?_
  exact r_ret rfl rfl dX6_refuse_17 rfl rfl
theorem dX6_keepChange_0 : decode cX6_keepChange 0 = .ok (.iload_n 1, 1) := by decide +kernel
theorem dX6_keepChange_1 : decode cX6_keepChange 1 = .ok (.ifCond .ge 5, 3) := by decide +kernel
theorem dX6_keepChange_4 : decode cX6_keepChange 4 = .ok (.iload_n 1, 1) := by decide +kernel
theorem dX6_keepChange_5 : decode cX6_keepChange 5 = .ok (.ireturn, 1) := by decide +kernel
theorem dX6_keepChange_6 : decode cX6_keepChange 6 = .ok (.aload_n 0, 1) := by decide +kernel
theorem dX6_keepChange_7 : decode cX6_keepChange 7 = .ok (.aload_n 0, 1) := by decide +kernel
theorem dX6_keepChange_8 : decode cX6_keepChange 8 = .ok (.getfield 198, 3) := by decide +kernel
theorem dX6_keepChange_11 : decode cX6_keepChange 11 = .ok (.iconst 1, 1) := by decide +kernel
theorem dX6_keepChange_12 : decode cX6_keepChange 12 = .ok (.iadd, 1) := by decide +kernel
theorem dX6_keepChange_13 : decode cX6_keepChange 13 = .ok (.bipush 9, 2) := by decide +kernel
theorem dX6_keepChange_15 : decode cX6_keepChange 15 = .ok (.irem, 1) := by decide +kernel
theorem dX6_keepChange_16 : decode cX6_keepChange 16 = .ok (.putfield 198, 3) := by decide +kernel
theorem dX6_keepChange_19 : decode cX6_keepChange 19 = .ok (.aload_n 0, 1) := by decide +kernel
theorem dX6_keepChange_20 : decode cX6_keepChange 20 = .ok (.getfield 247, 3) := by decide +kernel
theorem dX6_keepChange_23 : decode cX6_keepChange 23 = .ok (.bipush 8, 2) := by decide +kernel
theorem dX6_keepChange_25 : decode cX6_keepChange 25 = .ok (.if_icmp .ge 13, 3) := by decide +kernel
theorem dX6_keepChange_28 : decode cX6_keepChange 28 = .ok (.aload_n 0, 1) := by decide +kernel
theorem dX6_keepChange_29 : decode cX6_keepChange 29 = .ok (.dup, 1) := by decide +kernel
theorem dX6_keepChange_30 : decode cX6_keepChange 30 = .ok (.getfield 247, 3) := by decide +kernel
theorem dX6_keepChange_33 : decode cX6_keepChange 33 = .ok (.iconst 1, 1) := by decide +kernel
theorem dX6_keepChange_34 : decode cX6_keepChange 34 = .ok (.iadd, 1) := by decide +kernel
theorem dX6_keepChange_35 : decode cX6_keepChange 35 = .ok (.putfield 247, 3) := by decide +kernel
theorem dX6_keepChange_38 : decode cX6_keepChange 38 = .ok (.iload_n 1, 1) := by decide +kernel
theorem dX6_keepChange_39 : decode cX6_keepChange 39 = .ok (.ireturn, 1) := by decide +kernel
theorem dcX6_keepChange : yX6_keepChange.cls = RX6 ∧ yX6_keepChange.cls ≠ "java/lang/invoke/MethodHandle" ∧ yX6_keepChange.cls ≠ "java/lang/invoke/VarHandle" ∧ (parseMethodDescriptor yX6_keepChange.desc).map (fun d => d.parameters.length) = some 1 := by decide +kernel
set_option maxRecDepth 100000 in
set_option maxHeartbeats 4000000 in
theorem K_keep {cA : Nat → ClassId} {ad : tA} {ex : va_W} {M : tM} {F P : tP} {x : Int32} : Cj yX6_keepChange cX6_keepChange 2 (some .int) (rmd 0) 0 0 cA ad [.ref (ad 0 0), .int x] ex (mm M F P) (Qe (some (.int x)) ex (mm M (f_keep F x) P)) := by
  refine c_of_r (lv0 := [some (.ref (ad 0 0)), some (.int x)]) rfl (by decide +kernel) (Nat.le_of_ble_eq_true rfl) rfl ?_
  refine r_iload_n dX6_keepChange_0 rfl ?_
  refine r_if_ge (tgt := 6) dX6_keepChange_1 (by decide) (fun c1 => ?_) (fun c1 => ?_)
  · refine r_aload_n dX6_keepChange_6 rfl ?_
    refine r_aload_n dX6_keepChange_7 rfl ?_
    refine r_getF 5 (by decide) q75 rfl dX6_keepChange_8 ?_
    refine r_iconst (v := 1) dX6_keepChange_11 (by decide) ?_
    refine r_iadd dX6_keepChange_12 ?_
    refine r_bipush (v := 9) dX6_keepChange_13 (by decide) ?_
    refine r_irem dX6_keepChange_15 (by decide) ?_
    refine r_putF 5 (by decide) q75 rfl rfl rfl rfl rfl dX6_keepChange_16 ?_
    refine r_aload_n dX6_keepChange_19 rfl ?_
    refine r_getF 6 (by decide) q74 rfl dX6_keepChange_20 ?_
    refine r_bipush (v := 8) dX6_keepChange_23 (by decide) ?_
    refine r_icmp_ge (tgt := 38) dX6_keepChange_25 (by decide) (fun c25 => ?_) (fun c25 => ?_)
    · refine r_iload_n dX6_keepChange_38 rfl ?_
      first | exact r_ret rfl rfl dX6_keepChange_39 rfl (by rw [show f_keep F x = f_keep1 F from (if_neg (Int32.not_lt.mpr c1)).trans (if_pos c25)]; rfl) | exact r_ret rfl rfl dX6_keepChange_39 rfl (by rw [show f_keep F x = pu (f_keep1 F) 0 6 (f_keep1 F 0 6 + 1) from (if_neg (Int32.not_lt.mpr c1)).trans (if_neg c25)]; rfl)
    · refine r_aload_n dX6_keepChange_28 rfl ?_
      refine r_dup dX6_keepChange_29 rfl ?_
      refine r_getF 6 (by decide) q74 rfl dX6_keepChange_30 ?_
      refine r_iconst (v := 1) dX6_keepChange_33 (by decide) ?_
      refine r_iadd dX6_keepChange_34 ?_
      refine r_putF 6 (by decide) q74 rfl rfl rfl rfl rfl dX6_keepChange_35 ?_
      refine r_iload_n dX6_keepChange_38 rfl ?_
      first | exact r_ret rfl rfl dX6_keepChange_39 rfl (by rw [show f_keep F x = f_keep1 F from (if_neg (Int32.not_lt.mpr c1)).trans (if_pos c25)]; rfl) | exact r_ret rfl rfl dX6_keepChange_39 rfl (by rw [show f_keep F x = pu (f_keep1 F) 0 6 (f_keep1 F 0 6 + 1) from (if_neg (Int32.not_lt.mpr c1)).trans (if_neg c25)]; rfl)
  · refine r_iload_n dX6_keepChange_4 rfl ?_
    exact r_ret rfl rfl dX6_keepChange_5 rfl (by rw [f_keep, if_pos (Int32.not_le.mp c1)])
/-- copies: of now to region r; of region r to now -/
theorem KC_from {cA : Nat → ClassId} {ad : tA} {ex : va_W} {M : tM} {F P : tP} {r : Nat} (hr : isPlan r) (h2 : 2 ≤ r) (hoc : okc P) (hob : okb P) : Cj yX4_copyFrom cX4_copyFrom 3 none (rmd 1) 0 0 cA ad [.ref (ad r 0), .ref (ad 1 0)] ex (mm M F P) (Qe none ex (mm (m_pl M r (f_copy (M r) P)) F P)) := by
  have h := K_copy (cA := cA) (ad := ad) (ex := ex) (M := mm M F P) (P0 := M r) hr is1 (by omega) (by rw [mm_1]; exact hoc) (by rw [mm_1]; exact hob)
  rw [mm_1] at h
  exact cmm h2 rfl h
theorem KC_to {cA : Nat → ClassId} {ad : tA} {ex : va_W} {M : tM} {F P : tP} {r : Nat} (hr : isPlan r) (h2 : 2 ≤ r) (hoc : okc (M r)) (hob : okb (M r)) : Cj yX4_copyFrom cX4_copyFrom 3 none (rmd 1) 0 0 cA ad [.ref (ad 1 0), .ref (ad r 0)] ex (mm M F P) (Qe none ex (mm M F (f_copy P (M r)))) := by
  have e : m_pl M 0 F r = M r := m_pl_n (by omega)
  have h := K_copy (cA := cA) (ad := ad) (ex := ex) (M := m_pl M 0 F) (P0 := P) (r := 1) is1 hr (by omega) (by rw [e]; exact hoc) (by rw [e]; exact hob)
  rw [e] at h
  exact h
theorem dX6_markBefore_0 : decode cX6_markBefore 0 = .ok (.aload_n 0, 1) := by decide +kernel
theorem dX6_markBefore_1 : decode cX6_markBefore 1 = .ok (.getfield 22, 3) := by decide +kernel
theorem dX6_markBefore_4 : decode cX6_markBefore 4 = .ok (.aload_n 0, 1) := by decide +kernel
theorem dX6_markBefore_5 : decode cX6_markBefore 5 = .ok (.getfield 198, 3) := by decide +kernel
theorem dX6_markBefore_8 : decode cX6_markBefore 8 = .ok (.aaload, 1) := by decide +kernel
theorem dX6_markBefore_9 : decode cX6_markBefore 9 = .ok (.aload_n 0, 1) := by decide +kernel
theorem dX6_markBefore_10 : decode cX6_markBefore 10 = .ok (.getfield 12, 3) := by decide +kernel
theorem dX6_markBefore_13 : decode cX6_markBefore 13 = .ok (.invokevirtual 139, 3) := by decide +kernel
theorem dX6_markBefore_16 : decode cX6_markBefore 16 = .ok (.return_, 1) := by decide +kernel
theorem dcX6_markBefore : yX6_markBefore.cls = RX6 ∧ yX6_markBefore.cls ≠ "java/lang/invoke/MethodHandle" ∧ yX6_markBefore.cls ≠ "java/lang/invoke/VarHandle" ∧ (parseMethodDescriptor yX6_markBefore.desc).map (fun d => d.parameters.length) = some 0 := by decide +kernel
theorem gX6_markBefore_13 : GoodIn wsL_law (wsV RX6 139 RX4 yX4_copyFrom (.code yX4_copyFrom cX4_copyFrom 3 none :: wsL_law)) := g_V q76 q77 q78 q16 q79
set_option maxRecDepth 100000 in
set_option maxHeartbeats 4000000 in
theorem K_mark {cA : Nat → ClassId} {ad : tA} {ex : va_W} {M : tM} {F P : tP} (hm : okm F) (hoc : okc P) (hob : okb P) : Cj yX6_markBefore cX6_markBefore 1 none (rmd 2) 0 0 cA ad [.ref (ad 0 0)] ex (mm M F P) (Qe none ex (mm (m_pl M (4 + km F) (f_copy (M (4 + km F)) P)) F P)) := by
  refine c_of_r (lv0 := [some (.ref (ad 0 0))]) rfl (by decide +kernel) (Nat.le_of_ble_eq_true rfl) rfl ?_
  refine r_aload_n dX6_markBefore_0 rfl ?_
  refine r_getF 4 (by decide) q20 rfl dX6_markBefore_1 ?_
  refine r_aload_n dX6_markBefore_4 rfl ?_
  refine r_getF 5 (by decide) q75 rfl dX6_markBefore_5 ?_
  refine r_ald_marks hm.1 hm.2 dX6_markBefore_8 ?_
  refine r_aload_n dX6_markBefore_9 rfl ?_
  refine r_getF 0 (by decide) q17 rfl dX6_markBefore_10 ?_
  refine r_cVv dX6_markBefore_13 (KC_from (isk hm.2) (by omega) hoc hob) gX6_markBefore_13 dcX4_copyFrom rfl rfl rfl (Nat.le_of_ble_eq_true rfl) (ob_pl (isk hm.2)) ?_
  exact r_retv rfl dX6_markBefore_16 rfl
theorem t_a {q : TX} {x : Int32} {F P : tP} (h : q = (x, F, P)) : x = q.1 := by rw [h]
theorem t_m {M : tM} {q : TX} {x : Int32} {F P : tP} (h : q = (x, F, P)) : mm M F P = mm M q.2.1 q.2.2 := by rw [h]
theorem bF {b : Bool} (h : bI b = 0) : b = false := bI_0 h
theorem ite_1 {α : Type} {c : Prop} {h : Decidable c} {x y : α} (hc : c) : ite c x y = x := if_pos hc
theorem or3a {a b c : Prop} (h : a) : a ∨ b ∨ c := Or.inl h
theorem or3b {a b c : Prop} (h : b) : a ∨ b ∨ c := Or.inr (Or.inl h)
theorem or3c {a b c : Prop} (h : c) : a ∨ b ∨ c := Or.inr (Or.inr h)
theorem nf_of {b : Bool} (h : ¬ bI b = 0) : ¬ b = false := by rw [bI_1 h]; decide
theorem n3 {a b c : Prop} (h1 : ¬ a) (h2 : ¬ b) (h3 : ¬ c) : ¬ (a ∨ b ∨ c) := fun e => e.elim h1 (fun e => e.elim h2 h3)
theorem n2 {a b : Prop} (h1 : ¬ a) (h2 : ¬ b) : ¬ (a ∨ b) := fun e => e.elim h1 h2
theorem bt {b : Bool} (h : ¬ bI b = 0) : b = true := bI_1 h
theorem bnt {b : Bool} (h : bI b = 0) : ¬ b = true := by rw [bI_0 h]; decide
theorem lt12 {P : tP} (h : okc P) (h2 : P 0 1 < 12) : cn P < 12 := by
  rw [h.1] at h2
  exact (nI_ltI (b := 12) (by have := h.2; omega) (by omega)).mp h2
theorem dX6_tellStep_0 : decode cX6_tellStep 0 = .ok (.iload_n 1, 1) := by decide +kernel
theorem dX6_tellStep_1 : decode cX6_tellStep 1 = .ok (.iconst 1, 1) := by decide +kernel
theorem dX6_tellStep_2 : decode cX6_tellStep 2 = .ok (.bipush 9, 2) := by decide +kernel
theorem dX6_tellStep_4 : decode cX6_tellStep 4 = .ok (.invokestatic 253, 3) := by decide +kernel
theorem dX6_tellStep_7 : decode cX6_tellStep 7 = .ok (.ifCond .eq 21, 3) := by decide +kernel
theorem dX6_tellStep_10 : decode cX6_tellStep 10 = .ok (.iload_n 2, 1) := by decide +kernel
theorem dX6_tellStep_11 : decode cX6_tellStep 11 = .ok (.iconst 0, 1) := by decide +kernel
theorem dX6_tellStep_12 : decode cX6_tellStep 12 = .ok (.iconst 3, 1) := by decide +kernel
theorem dX6_tellStep_13 : decode cX6_tellStep 13 = .ok (.invokestatic 253, 3) := by decide +kernel
theorem dX6_tellStep_16 : decode cX6_tellStep 16 = .ok (.ifCond .eq 12, 3) := by decide +kernel
theorem dX6_tellStep_19 : decode cX6_tellStep 19 = .ok (.iload_n 3, 1) := by decide +kernel
theorem dX6_tellStep_20 : decode cX6_tellStep 20 = .ok (.iconst 0, 1) := by decide +kernel
theorem dX6_tellStep_21 : decode cX6_tellStep 21 = .ok (.iconst 3, 1) := by decide +kernel
theorem dX6_tellStep_22 : decode cX6_tellStep 22 = .ok (.invokestatic 253, 3) := by decide +kernel
theorem dX6_tellStep_25 : decode cX6_tellStep 25 = .ok (.ifCond .ne 6, 3) := by decide +kernel
theorem dX6_tellStep_28 : decode cX6_tellStep 28 = .ok (.bipush (-12), 2) := by decide +kernel
theorem dX6_tellStep_30 : decode cX6_tellStep 30 = .ok (.ireturn, 1) := by decide +kernel
theorem dX6_tellStep_31 : decode cX6_tellStep 31 = .ok (.aload_n 0, 1) := by decide +kernel
theorem dX6_tellStep_32 : decode cX6_tellStep 32 = .ok (.getfield 12, 3) := by decide +kernel
theorem dX6_tellStep_35 : decode cX6_tellStep 35 = .ok (.getfield 170, 3) := by decide +kernel
theorem dX6_tellStep_38 : decode cX6_tellStep 38 = .ok (.bipush 12, 2) := by decide +kernel
theorem dX6_tellStep_40 : decode cX6_tellStep 40 = .ok (.if_icmp .lt 16, 3) := by decide +kernel
theorem dX6_tellStep_43 : decode cX6_tellStep 43 = .ok (.aload_n 0, 1) := by decide +kernel
theorem dX6_tellStep_44 : decode cX6_tellStep 44 = .ok (.iconst 1, 1) := by decide +kernel
theorem dX6_tellStep_45 : decode cX6_tellStep 45 = .ok (.aload_n 0, 1) := by decide +kernel
theorem dX6_tellStep_46 : decode cX6_tellStep 46 = .ok (.getfield 12, 3) := by decide +kernel
theorem dX6_tellStep_49 : decode cX6_tellStep 49 = .ok (.getfield 170, 3) := by decide +kernel
theorem dX6_tellStep_52 : decode cX6_tellStep 52 = .ok (.invokevirtual 201, 3) := by decide +kernel
theorem dX6_tellStep_55 : decode cX6_tellStep 55 = .ok (.ireturn, 1) := by decide +kernel
theorem dX6_tellStep_56 : decode cX6_tellStep 56 = .ok (.aload_n 0, 1) := by decide +kernel
theorem dX6_tellStep_57 : decode cX6_tellStep 57 = .ok (.getfield 12, 3) := by decide +kernel
theorem dX6_tellStep_60 : decode cX6_tellStep 60 = .ok (.iload_n 1, 1) := by decide +kernel
theorem dX6_tellStep_61 : decode cX6_tellStep 61 = .ok (.iload_n 2, 1) := by decide +kernel
theorem dX6_tellStep_62 : decode cX6_tellStep 62 = .ok (.iload_n 3, 1) := by decide +kernel
theorem dX6_tellStep_63 : decode cX6_tellStep 63 = .ok (.iload 4, 2) := by decide +kernel
theorem dX6_tellStep_65 : decode cX6_tellStep 65 = .ok (.invokevirtual 257, 3) := by decide +kernel
theorem dX6_tellStep_68 : decode cX6_tellStep 68 = .ok (.ireturn, 1) := by decide +kernel
theorem dcX6_tellStep : yX6_tellStep.cls = RX6 ∧ yX6_tellStep.cls ≠ "java/lang/invoke/MethodHandle" ∧ yX6_tellStep.cls ≠ "java/lang/invoke/VarHandle" ∧ (parseMethodDescriptor yX6_tellStep.desc).map (fun d => d.parameters.length) = some 4 := by decide +kernel
theorem gX6_tellStep_4 : gS RX6 253 yX6_isWithin cX6_isWithin 3 (some .boolean) := ⟨q132, q133, q2, q134⟩
theorem gX6_tellStep_13 : gS RX6 253 yX6_isWithin cX6_isWithin 3 (some .boolean) := ⟨q132, q133, q2, q134⟩
theorem gX6_tellStep_22 : gS RX6 253 yX6_isWithin cX6_isWithin 3 (some .boolean) := ⟨q132, q133, q2, q134⟩
theorem gX6_tellStep_65 : GoodIn wsL_law (wsV RX6 257 RX4 yX4_addStep (.code yX4_addStep cX4_addStep 6 (some .int) :: wsL_law)) := g_V q293 q294 q295 q16 q296
theorem gX6_tellStep_52 : GoodIn wsL_law (wsV RX6 201 RX6 yX6_refuse (.code yX6_refuse cX6_refuse 3 (some .int) :: wsL_law)) := g_V q286 q287 q288 q2 q289
set_option maxRecDepth 100000 in
set_option maxHeartbeats 4000000 in
theorem K_tstep {cA : Nat → ClassId} {ad : tA} {ex : va_W} {M : tM} {F P : tP} {d m b : Int32} {a : Bool} (hoc : okc P) (ho : oke P) : Cj yX6_tellStep cX6_tellStep 5 (some .int) (rmd 5) 0 0 cA ad [.ref (ad 0 0), .int d, .int m, .int b, .int (bI a)] ex (mm M F P) (Qe (some (.int (t_step F P d m b (bI a)).1)) ex (mm M (t_step F P d m b (bI a)).2.1 (t_step F P d m b (bI a)).2.2)) := by
  refine c_of_r (lv0 := [some (.ref (ad 0 0)), some (.int d), some (.int m), some (.int b), some (.int (bI a))]) rfl (by decide +kernel) (Nat.le_of_ble_eq_true rfl) rfl ?_
  refine r_iload_n dX6_tellStep_0 rfl ?_
  refine r_iconst (v := 1) dX6_tellStep_1 (by decide) ?_
  refine r_bipush (v := 9) dX6_tellStep_2 (by decide) ?_
  refine r_cSi dX6_tellStep_4 (K_wi) gX6_tellStep_4 dcX6_isWithin rfl rfl rfl (Nat.le_of_ble_eq_true rfl) ?_
  refine r_if_eq (tgt := 28) dX6_tellStep_7 (by decide) (fun c7 => ?_) (fun c7 => ?_)
  · refine r_bipush (v := -12) dX6_tellStep_28 (by decide) ?_
    first | exact r_ret rfl rfl dX6_tellStep_30 (t_a (show (t_step F P d m b (bI a)) = _ from if_pos (or3a (bF c7)))) (t_m (show (t_step F P d m b (bI a)) = _ from if_pos (or3a (bF c7)))) | exact r_ret rfl rfl dX6_tellStep_30 (t_a (show (t_step F P d m b (bI a)) = _ from if_pos (or3b (bF c16)))) (t_m (show (t_step F P d m b (bI a)) = _ from if_pos (or3b (bF c16)))) | exact r_ret rfl rfl dX6_tellStep_30 (t_a (show (t_step F P d m b (bI a)) = _ from if_pos (or3c (bF c25)))) (t_m (show (t_step F P d m b (bI a)) = _ from if_pos (or3c (bF c25))))
  · refine r_iload_n dX6_tellStep_10 rfl ?_
    refine r_iconst (v := 0) dX6_tellStep_11 (by decide) ?_
    refine r_iconst (v := 3) dX6_tellStep_12 (by decide) ?_
    refine r_cSi dX6_tellStep_13 (K_wi) gX6_tellStep_13 dcX6_isWithin rfl rfl rfl (Nat.le_of_ble_eq_true rfl) ?_
    refine r_if_eq (tgt := 28) dX6_tellStep_16 (by decide) (fun c16 => ?_) (fun c16 => ?_)
    · refine r_bipush (v := -12) dX6_tellStep_28 (by decide) ?_
      first | exact r_ret rfl rfl dX6_tellStep_30 (t_a (show (t_step F P d m b (bI a)) = _ from if_pos (or3a (bF c7)))) (t_m (show (t_step F P d m b (bI a)) = _ from if_pos (or3a (bF c7)))) | exact r_ret rfl rfl dX6_tellStep_30 (t_a (show (t_step F P d m b (bI a)) = _ from if_pos (or3b (bF c16)))) (t_m (show (t_step F P d m b (bI a)) = _ from if_pos (or3b (bF c16)))) | exact r_ret rfl rfl dX6_tellStep_30 (t_a (show (t_step F P d m b (bI a)) = _ from if_pos (or3c (bF c25)))) (t_m (show (t_step F P d m b (bI a)) = _ from if_pos (or3c (bF c25))))
    · refine r_iload_n dX6_tellStep_19 rfl ?_
      refine r_iconst (v := 0) dX6_tellStep_20 (by decide) ?_
      refine r_iconst (v := 3) dX6_tellStep_21 (by decide) ?_
      refine r_cSi dX6_tellStep_22 (K_wi) gX6_tellStep_22 dcX6_isWithin rfl rfl rfl (Nat.le_of_ble_eq_true rfl) ?_
      refine r_if_ne (tgt := 31) dX6_tellStep_25 (by decide) (fun c25 => ?_) (fun c25 => ?_)
      · refine r_aload_n dX6_tellStep_31 rfl ?_
        refine r_getF 0 (by decide) q17 rfl dX6_tellStep_32 ?_
        refine r_getp_pl is1 1 (by decide) q153 rfl dX6_tellStep_35 ?_
        refine r_bipush (v := 12) dX6_tellStep_38 (by decide) ?_
        refine r_icmp_lt (tgt := 56) dX6_tellStep_40 (by decide) (fun c40 => ?_) (fun c40 => ?_)
        · refine r_aload_n dX6_tellStep_56 rfl ?_
          refine r_getF 0 (by decide) q17 rfl dX6_tellStep_57 ?_
          refine r_iload_n dX6_tellStep_60 rfl ?_
          refine r_iload_n dX6_tellStep_61 rfl ?_
          refine r_iload_n dX6_tellStep_62 rfl ?_
          refine r_iload dX6_tellStep_63 rfl ?_
          refine r_cVi dX6_tellStep_65 (K_add is1 hoc (lt12 hoc c40) ho) gX6_tellStep_65 dcX4_addStep rfl rfl rfl (Nat.le_of_ble_eq_true rfl) (ob_pl is1) ?_
          first | exact r_ret rfl rfl dX6_tellStep_68 (t_a (show (t_step F P d m b (bI a)) = _ from (if_neg (n3 (nf_of c7) (nf_of c16) (nf_of c25))).trans (if_pos c40))) (t_m (show (t_step F P d m b (bI a)) = _ from (if_neg (n3 (nf_of c7) (nf_of c16) (nf_of c25))).trans (if_pos c40)))
        · refine r_aload_n dX6_tellStep_43 rfl ?_
          refine r_iconst (v := 1) dX6_tellStep_44 (by decide) ?_
          refine r_aload_n dX6_tellStep_45 rfl ?_
          refine r_getF 0 (by decide) q17 rfl dX6_tellStep_46 ?_
          refine r_getp_pl is1 1 (by decide) q153 rfl dX6_tellStep_49 ?_
          refine r_cVi dX6_tellStep_52 (K_ref) gX6_tellStep_52 dcX6_refuse rfl rfl rfl (Nat.le_of_ble_eq_true rfl) ob_tf ?_
          first | exact r_ret rfl rfl dX6_tellStep_55 (t_a (show (t_step F P d m b (bI a)) = _ from (if_neg (n3 (nf_of c7) (nf_of c16) (nf_of c25))).trans (if_neg (Int32.not_lt.mpr (Int32.not_lt.mp c40))))) (t_m (show (t_step F P d m b (bI a)) = _ from (if_neg (n3 (nf_of c7) (nf_of c16) (nf_of c25))).trans (if_neg (Int32.not_lt.mpr (Int32.not_lt.mp c40)))))
      · refine r_bipush (v := -12) dX6_tellStep_28 (by decide) ?_
        first | exact r_ret rfl rfl dX6_tellStep_30 (t_a (show (t_step F P d m b (bI a)) = _ from if_pos (or3a (bF c7)))) (t_m (show (t_step F P d m b (bI a)) = _ from if_pos (or3a (bF c7)))) | exact r_ret rfl rfl dX6_tellStep_30 (t_a (show (t_step F P d m b (bI a)) = _ from if_pos (or3b (bF c16)))) (t_m (show (t_step F P d m b (bI a)) = _ from if_pos (or3b (bF c16)))) | exact r_ret rfl rfl dX6_tellStep_30 (t_a (show (t_step F P d m b (bI a)) = _ from if_pos (or3c (bF c25)))) (t_m (show (t_step F P d m b (bI a)) = _ from if_pos (or3c (bF c25))))
theorem dX6_tellNeed_0 : decode cX6_tellNeed 0 = .ok (.aload_n 0, 1) := by decide +kernel
theorem dX6_tellNeed_1 : decode cX6_tellNeed 1 = .ok (.getfield 12, 3) := by decide +kernel
theorem dX6_tellNeed_4 : decode cX6_tellNeed 4 = .ok (.iload_n 1, 1) := by decide +kernel
theorem dX6_tellNeed_5 : decode cX6_tellNeed 5 = .ok (.invokevirtual 77, 3) := by decide +kernel
theorem dX6_tellNeed_8 : decode cX6_tellNeed 8 = .ok (.ifCond .eq 14, 3) := by decide +kernel
theorem dX6_tellNeed_11 : decode cX6_tellNeed 11 = .ok (.aload_n 0, 1) := by decide +kernel
theorem dX6_tellNeed_12 : decode cX6_tellNeed 12 = .ok (.getfield 12, 3) := by decide +kernel
theorem dX6_tellNeed_15 : decode cX6_tellNeed 15 = .ok (.iload_n 2, 1) := by decide +kernel
theorem dX6_tellNeed_16 : decode cX6_tellNeed 16 = .ok (.invokevirtual 77, 3) := by decide +kernel
theorem dX6_tellNeed_19 : decode cX6_tellNeed 19 = .ok (.ifCond .ne 6, 3) := by decide +kernel
theorem dX6_tellNeed_22 : decode cX6_tellNeed 22 = .ok (.bipush (-11), 2) := by decide +kernel
theorem dX6_tellNeed_24 : decode cX6_tellNeed 24 = .ok (.ireturn, 1) := by decide +kernel
theorem dX6_tellNeed_25 : decode cX6_tellNeed 25 = .ok (.iload_n 1, 1) := by decide +kernel
theorem dX6_tellNeed_26 : decode cX6_tellNeed 26 = .ok (.iload_n 2, 1) := by decide +kernel
theorem dX6_tellNeed_27 : decode cX6_tellNeed 27 = .ok (.if_icmp .ne 10, 3) := by decide +kernel
theorem dX6_tellNeed_30 : decode cX6_tellNeed 30 = .ok (.aload_n 0, 1) := by decide +kernel
theorem dX6_tellNeed_31 : decode cX6_tellNeed 31 = .ok (.iconst 2, 1) := by decide +kernel
theorem dX6_tellNeed_32 : decode cX6_tellNeed 32 = .ok (.iload_n 1, 1) := by decide +kernel
theorem dX6_tellNeed_33 : decode cX6_tellNeed 33 = .ok (.invokevirtual 201, 3) := by decide +kernel
theorem dX6_tellNeed_36 : decode cX6_tellNeed 36 = .ok (.ireturn, 1) := by decide +kernel
theorem dX6_tellNeed_37 : decode cX6_tellNeed 37 = .ok (.aload_n 0, 1) := by decide +kernel
theorem dX6_tellNeed_38 : decode cX6_tellNeed 38 = .ok (.getfield 12, 3) := by decide +kernel
theorem dX6_tellNeed_41 : decode cX6_tellNeed 41 = .ok (.getfield 81, 3) := by decide +kernel
theorem dX6_tellNeed_44 : decode cX6_tellNeed 44 = .ok (.iload_n 1, 1) := by decide +kernel
theorem dX6_tellNeed_45 : decode cX6_tellNeed 45 = .ok (.aaload, 1) := by decide +kernel
theorem dX6_tellNeed_46 : decode cX6_tellNeed 46 = .ok (.astore_n 3, 1) := by decide +kernel
theorem dX6_tellNeed_47 : decode cX6_tellNeed 47 = .ok (.aload_n 3, 1) := by decide +kernel
theorem dX6_tellNeed_48 : decode cX6_tellNeed 48 = .ok (.getfield 101, 3) := by decide +kernel
theorem dX6_tellNeed_51 : decode cX6_tellNeed 51 = .ok (.ifCond .eq 13, 3) := by decide +kernel
theorem dX6_tellNeed_54 : decode cX6_tellNeed 54 = .ok (.aload_n 0, 1) := by decide +kernel
theorem dX6_tellNeed_55 : decode cX6_tellNeed 55 = .ok (.iconst 5, 1) := by decide +kernel
theorem dX6_tellNeed_56 : decode cX6_tellNeed 56 = .ok (.aload_n 3, 1) := by decide +kernel
theorem dX6_tellNeed_57 : decode cX6_tellNeed 57 = .ok (.getfield 101, 3) := by decide +kernel
theorem dX6_tellNeed_60 : decode cX6_tellNeed 60 = .ok (.invokevirtual 201, 3) := by decide +kernel
theorem dX6_tellNeed_63 : decode cX6_tellNeed 63 = .ok (.ireturn, 1) := by decide +kernel
theorem dX6_tellNeed_64 : decode cX6_tellNeed 64 = .ok (.aload_n 3, 1) := by decide +kernel
theorem dX6_tellNeed_65 : decode cX6_tellNeed 65 = .ok (.getfield 116, 3) := by decide +kernel
theorem dX6_tellNeed_68 : decode cX6_tellNeed 68 = .ok (.iconst 1, 1) := by decide +kernel
theorem dX6_tellNeed_69 : decode cX6_tellNeed 69 = .ok (.iload_n 2, 1) := by decide +kernel
theorem dX6_tellNeed_70 : decode cX6_tellNeed 70 = .ok (.ishl, 1) := by decide +kernel
theorem dX6_tellNeed_71 : decode cX6_tellNeed 71 = .ok (.iand, 1) := by decide +kernel
theorem dX6_tellNeed_72 : decode cX6_tellNeed 72 = .ok (.ifCond .eq 10, 3) := by decide +kernel
theorem dX6_tellNeed_75 : decode cX6_tellNeed 75 = .ok (.aload_n 0, 1) := by decide +kernel
theorem dX6_tellNeed_76 : decode cX6_tellNeed 76 = .ok (.iconst 3, 1) := by decide +kernel
theorem dX6_tellNeed_77 : decode cX6_tellNeed 77 = .ok (.iload_n 2, 1) := by decide +kernel
theorem dX6_tellNeed_78 : decode cX6_tellNeed 78 = .ok (.invokevirtual 201, 3) := by decide +kernel
theorem dX6_tellNeed_81 : decode cX6_tellNeed 81 = .ok (.ireturn, 1) := by decide +kernel
theorem dX6_tellNeed_82 : decode cX6_tellNeed 82 = .ok (.aload_n 0, 1) := by decide +kernel
theorem dX6_tellNeed_83 : decode cX6_tellNeed 83 = .ok (.getfield 12, 3) := by decide +kernel
theorem dX6_tellNeed_86 : decode cX6_tellNeed 86 = .ok (.iload_n 2, 1) := by decide +kernel
theorem dX6_tellNeed_87 : decode cX6_tellNeed 87 = .ok (.iload_n 1, 1) := by decide +kernel
theorem dX6_tellNeed_88 : decode cX6_tellNeed 88 = .ok (.invokevirtual 260, 3) := by decide +kernel
theorem dX6_tellNeed_91 : decode cX6_tellNeed 91 = .ok (.ifCond .eq 10, 3) := by decide +kernel
theorem dX6_tellNeed_94 : decode cX6_tellNeed 94 = .ok (.aload_n 0, 1) := by decide +kernel
theorem dX6_tellNeed_95 : decode cX6_tellNeed 95 = .ok (.iconst 4, 1) := by decide +kernel
theorem dX6_tellNeed_96 : decode cX6_tellNeed 96 = .ok (.iload_n 2, 1) := by decide +kernel
theorem dX6_tellNeed_97 : decode cX6_tellNeed 97 = .ok (.invokevirtual 201, 3) := by decide +kernel
theorem dX6_tellNeed_100 : decode cX6_tellNeed 100 = .ok (.ireturn, 1) := by decide +kernel
theorem dX6_tellNeed_101 : decode cX6_tellNeed 101 = .ok (.aload_n 3, 1) := by decide +kernel
theorem dX6_tellNeed_102 : decode cX6_tellNeed 102 = .ok (.dup, 1) := by decide +kernel
theorem dX6_tellNeed_103 : decode cX6_tellNeed 103 = .ok (.getfield 116, 3) := by decide +kernel
theorem dX6_tellNeed_106 : decode cX6_tellNeed 106 = .ok (.iconst 1, 1) := by decide +kernel
theorem dX6_tellNeed_107 : decode cX6_tellNeed 107 = .ok (.iload_n 2, 1) := by decide +kernel
theorem dX6_tellNeed_108 : decode cX6_tellNeed 108 = .ok (.ishl, 1) := by decide +kernel
theorem dX6_tellNeed_109 : decode cX6_tellNeed 109 = .ok (.ior, 1) := by decide +kernel
theorem dX6_tellNeed_110 : decode cX6_tellNeed 110 = .ok (.putfield 116, 3) := by decide +kernel
theorem dX6_tellNeed_113 : decode cX6_tellNeed 113 = .ok (.aload_n 3, 1) := by decide +kernel
theorem dX6_tellNeed_114 : decode cX6_tellNeed 114 = .ok (.getfield 116, 3) := by decide +kernel
theorem dX6_tellNeed_117 : decode cX6_tellNeed 117 = .ok (.invokestatic 263, 3) := by decide +kernel
theorem dX6_tellNeed_120 : decode cX6_tellNeed 120 = .ok (.ireturn, 1) := by decide +kernel
theorem dcX6_tellNeed : yX6_tellNeed.cls = RX6 ∧ yX6_tellNeed.cls ≠ "java/lang/invoke/MethodHandle" ∧ yX6_tellNeed.cls ≠ "java/lang/invoke/VarHandle" ∧ (parseMethodDescriptor yX6_tellNeed.desc).map (fun d => d.parameters.length) = some 2 := by decide +kernel
theorem gX6_tellNeed_5 : GoodIn wsL_law (wsV RX6 77 RX4 yX4_hasStep (.code yX4_hasStep cX4_hasStep 2 (some .boolean) :: wsL_law)) := g_V q317 q318 q319 q16 q320
theorem gX6_tellNeed_16 : GoodIn wsL_law (wsV RX6 77 RX4 yX4_hasStep (.code yX4_hasStep cX4_hasStep 2 (some .boolean) :: wsL_law)) := g_V q317 q318 q319 q16 q320
theorem gX6_tellNeed_88 : GoodIn wsL_law (wsV RX6 260 RX4 yX4_needsOverAll (.code yX4_needsOverAll cX4_needsOverAll 7 (some .boolean) :: wsL_law)) := g_V q321 q322 q323 q16 q324
theorem gX6_tellNeed_117 : gS RX6 263 yJ6_bitCount_0f7a4 cJ6_bitCount_0f7a4 1 (some .int) := ⟨q326, q170, q171, q172⟩
theorem gX6_tellNeed_97 : GoodIn wsL_law (wsV RX6 201 RX6 yX6_refuse (.code yX6_refuse cX6_refuse 3 (some .int) :: wsL_law)) := g_V q286 q287 q288 q2 q289
theorem gX6_tellNeed_78 : GoodIn wsL_law (wsV RX6 201 RX6 yX6_refuse (.code yX6_refuse cX6_refuse 3 (some .int) :: wsL_law)) := g_V q286 q287 q288 q2 q289
theorem gX6_tellNeed_60 : GoodIn wsL_law (wsV RX6 201 RX6 yX6_refuse (.code yX6_refuse cX6_refuse 3 (some .int) :: wsL_law)) := g_V q286 q287 q288 q2 q289
theorem gX6_tellNeed_33 : GoodIn wsL_law (wsV RX6 201 RX6 yX6_refuse (.code yX6_refuse cX6_refuse 3 (some .int) :: wsL_law)) := g_V q286 q287 q288 q2 q289
set_option maxRecDepth 100000 in
set_option maxHeartbeats 4000000 in
theorem K_tneed {cA : Nat → ClassId} {ad : tA} {ex : va_W} {M : tM} {F P : tP} {s o : Int32} (hoc : okc P) : Cj yX6_tellNeed cX6_tellNeed 4 (some .int) (rmd 5) 0 0 cA ad [.ref (ad 0 0), .int s, .int o] ex (mm M F P) (Qe (some (.int (t_need F P s o).1)) ex (mm M (t_need F P s o).2.1 (t_need F P s o).2.2)) := by
  refine c_of_r (lv0 := [some (.ref (ad 0 0)), some (.int s), some (.int o), none]) rfl (by decide +kernel) (Nat.le_of_ble_eq_true rfl) rfl ?_
  refine r_aload_n dX6_tellNeed_0 rfl ?_
  refine r_getF 0 (by decide) q17 rfl dX6_tellNeed_1 ?_
  refine r_iload_n dX6_tellNeed_4 rfl ?_
  refine r_cVi dX6_tellNeed_5 (K_hasStep is1) gX6_tellNeed_5 dcX4_hasStep rfl rfl rfl (Nat.le_of_ble_eq_true rfl) (ob_pl is1) ?_
  refine r_if_eq (tgt := 22) dX6_tellNeed_8 (by decide) (fun c8 => ?_) (fun c8 => ?_)
  · refine r_bipush (v := -11) dX6_tellNeed_22 (by decide) ?_
    first | exact r_ret rfl rfl dX6_tellNeed_24 (t_a (show (t_need F P s o) = _ from if_pos (Or.inl (bF c8)))) (t_m (show (t_need F P s o) = _ from if_pos (Or.inl (bF c8)))) | exact r_ret rfl rfl dX6_tellNeed_24 (t_a (show (t_need F P s o) = _ from if_pos (Or.inr (bF c19)))) (t_m (show (t_need F P s o) = _ from if_pos (Or.inr (bF c19))))
  · refine r_aload_n dX6_tellNeed_11 rfl ?_
    refine r_getF 0 (by decide) q17 rfl dX6_tellNeed_12 ?_
    refine r_iload_n dX6_tellNeed_15 rfl ?_
    refine r_cVi dX6_tellNeed_16 (K_hasStep is1) gX6_tellNeed_16 dcX4_hasStep rfl rfl rfl (Nat.le_of_ble_eq_true rfl) (ob_pl is1) ?_
    refine r_if_ne (tgt := 25) dX6_tellNeed_19 (by decide) (fun c19 => ?_) (fun c19 => ?_)
    · refine r_iload_n dX6_tellNeed_25 rfl ?_
      refine r_iload_n dX6_tellNeed_26 rfl ?_
      refine r_icmp_ne (tgt := 37) dX6_tellNeed_27 (by decide) (fun c27 => ?_) (fun c27 => ?_)
      · obtain ⟨i, hi1, hi2, hi3, hi4⟩ := hs_of hoc (bt c8)
        obtain ⟨j, hj1, hj2, hj3, hj4⟩ := hs_of hoc (bt c19)
        refine r_aload_n dX6_tellNeed_37 rfl ?_
        refine r_getF 0 (by decide) q17 rfl dX6_tellNeed_38 ?_
        refine r_getp_pl is1 0 (by decide) q314 rfl dX6_tellNeed_41 ?_
        refine r_iload_n dX6_tellNeed_44 rfl ?_
        refine r_aldp_steps is1 hi3 hi2 dX6_tellNeed_45 ?_
        refine r_astore_n dX6_tellNeed_46 (by decide) rfl ?_
        refine r_aload_n dX6_tellNeed_47 rfl ?_
        refine r_getp_st is1 (by omega) 6 (by decide) q315 rfl dX6_tellNeed_48 ?_
        refine r_if_eq (tgt := 64) dX6_tellNeed_51 (by decide) (fun c51 => ?_) (fun c51 => ?_)
        · refine r_aload_n dX6_tellNeed_64 rfl ?_
          refine r_getp_st is1 (by omega) 4 (by decide) q316 rfl dX6_tellNeed_65 ?_
          refine r_iconst (v := 1) dX6_tellNeed_68 (by decide) ?_
          refine r_iload_n dX6_tellNeed_69 rfl ?_
          refine r_ishl dX6_tellNeed_70 ?_
          refine r_iand dX6_tellNeed_71 ?_
          refine r_if_eq (tgt := 82) dX6_tellNeed_72 (by decide) (fun c72 => ?_) (fun c72 => ?_)
          · refine r_aload_n dX6_tellNeed_82 rfl ?_
            refine r_getF 0 (by decide) q17 rfl dX6_tellNeed_83 ?_
            refine r_iload_n dX6_tellNeed_86 rfl ?_
            refine r_iload_n dX6_tellNeed_87 rfl ?_
            refine r_cVi dX6_tellNeed_88 ((hj3 ▸ K_noa is1 hj2 hoc)) gX6_tellNeed_88 dcX4_needsOverAll rfl rfl rfl (Nat.le_of_ble_eq_true rfl) (ob_pl is1) ?_
            refine r_if_eq (tgt := 101) dX6_tellNeed_91 (by decide) (fun c91 => ?_) (fun c91 => ?_)
            · refine r_aload_n dX6_tellNeed_101 rfl ?_
              refine r_dup dX6_tellNeed_102 rfl ?_
              refine r_getp_st is1 (by omega) 4 (by decide) q316 rfl dX6_tellNeed_103 ?_
              refine r_iconst (v := 1) dX6_tellNeed_106 (by decide) ?_
              refine r_iload_n dX6_tellNeed_107 rfl ?_
              refine r_ishl dX6_tellNeed_108 ?_
              refine r_ior dX6_tellNeed_109 ?_
              refine r_putp_st is1 (by omega) 4 (by decide) q316 rfl rfl rfl rfl rfl dX6_tellNeed_110 ?_
              refine r_aload_n dX6_tellNeed_113 rfl ?_
              refine r_getp_st is1 (by omega) 4 (by decide) q316 rfl dX6_tellNeed_114 ?_
              rw [pu_s]
              refine r_cSi dX6_tellNeed_117 (K_bc) gX6_tellNeed_117 dcJ6_bitCount_0f7a4 rfl rfl rfl (Nat.le_of_ble_eq_true rfl) ?_
              first | exact r_ret rfl rfl dX6_tellNeed_120 (t_a (show (t_need F P s o) = _ from (if_neg (n2 (nf_of c8) (nf_of c19))).trans ((if_neg c27).trans (by rw [hi4, hj4]; exact (if_neg (fun e => e c51)).trans ((if_neg (fun e => e c72)).trans (if_neg (bnt c91))))))) (t_m (show (t_need F P s o) = _ from (if_neg (n2 (nf_of c8) (nf_of c19))).trans ((if_neg c27).trans (by rw [hi4, hj4]; exact (if_neg (fun e => e c51)).trans ((if_neg (fun e => e c72)).trans (if_neg (bnt c91)))))))
            · refine r_aload_n dX6_tellNeed_94 rfl ?_
              refine r_iconst (v := 4) dX6_tellNeed_95 (by decide) ?_
              refine r_iload_n dX6_tellNeed_96 rfl ?_
              refine r_cVi dX6_tellNeed_97 (K_ref) gX6_tellNeed_97 dcX6_refuse rfl rfl rfl (Nat.le_of_ble_eq_true rfl) ob_tf ?_
              first | exact r_ret rfl rfl dX6_tellNeed_100 (t_a (show (t_need F P s o) = _ from (if_neg (n2 (nf_of c8) (nf_of c19))).trans ((if_neg c27).trans (by rw [hi4, hj4]; exact (if_neg (fun e => e c51)).trans ((if_neg (fun e => e c72)).trans (if_pos (bt c91))))))) (t_m (show (t_need F P s o) = _ from (if_neg (n2 (nf_of c8) (nf_of c19))).trans ((if_neg c27).trans (by rw [hi4, hj4]; exact (if_neg (fun e => e c51)).trans ((if_neg (fun e => e c72)).trans (if_pos (bt c91)))))))
          · refine r_aload_n dX6_tellNeed_75 rfl ?_
            refine r_iconst (v := 3) dX6_tellNeed_76 (by decide) ?_
            refine r_iload_n dX6_tellNeed_77 rfl ?_
            refine r_cVi dX6_tellNeed_78 (K_ref) gX6_tellNeed_78 dcX6_refuse rfl rfl rfl (Nat.le_of_ble_eq_true rfl) ob_tf ?_
            first | exact r_ret rfl rfl dX6_tellNeed_81 (t_a (show (t_need F P s o) = _ from (if_neg (n2 (nf_of c8) (nf_of c19))).trans ((if_neg c27).trans (by rw [hi4]; exact (if_neg (fun e => e c51)).trans (if_pos c72))))) (t_m (show (t_need F P s o) = _ from (if_neg (n2 (nf_of c8) (nf_of c19))).trans ((if_neg c27).trans (by rw [hi4]; exact (if_neg (fun e => e c51)).trans (if_pos c72)))))
        · refine r_aload_n dX6_tellNeed_54 rfl ?_
          refine r_iconst (v := 5) dX6_tellNeed_55 (by decide) ?_
          refine r_aload_n dX6_tellNeed_56 rfl ?_
          refine r_getp_st is1 (by omega) 6 (by decide) q315 rfl dX6_tellNeed_57 ?_
          refine r_cVi dX6_tellNeed_60 (K_ref) gX6_tellNeed_60 dcX6_refuse rfl rfl rfl (Nat.le_of_ble_eq_true rfl) ob_tf ?_
          first | exact r_ret rfl rfl dX6_tellNeed_63 (t_a (show (t_need F P s o) = _ from (if_neg (n2 (nf_of c8) (nf_of c19))).trans ((if_neg c27).trans (by rw [hi4]; exact if_pos c51)))) (t_m (show (t_need F P s o) = _ from (if_neg (n2 (nf_of c8) (nf_of c19))).trans ((if_neg c27).trans (by rw [hi4]; exact if_pos c51))))
      · refine r_aload_n dX6_tellNeed_30 rfl ?_
        refine r_iconst (v := 2) dX6_tellNeed_31 (by decide) ?_
        refine r_iload_n dX6_tellNeed_32 rfl ?_
        refine r_cVi dX6_tellNeed_33 (K_ref) gX6_tellNeed_33 dcX6_refuse rfl rfl rfl (Nat.le_of_ble_eq_true rfl) ob_tf ?_
        first | exact r_ret rfl rfl dX6_tellNeed_36 (t_a (show (t_need F P s o) = _ from (if_neg (n2 (nf_of c8) (nf_of c19))).trans (if_pos c27))) (t_m (show (t_need F P s o) = _ from (if_neg (n2 (nf_of c8) (nf_of c19))).trans (if_pos c27)))
    · refine r_bipush (v := -11) dX6_tellNeed_22 (by decide) ?_
      first | exact r_ret rfl rfl dX6_tellNeed_24 (t_a (show (t_need F P s o) = _ from if_pos (Or.inl (bF c8)))) (t_m (show (t_need F P s o) = _ from if_pos (Or.inl (bF c8)))) | exact r_ret rfl rfl dX6_tellNeed_24 (t_a (show (t_need F P s o) = _ from if_pos (Or.inr (bF c19)))) (t_m (show (t_need F P s o) = _ from if_pos (Or.inr (bF c19))))
theorem dX6_tellFault_0 : decode cX6_tellFault 0 = .ok (.aload_n 0, 1) := by decide +kernel
theorem dX6_tellFault_1 : decode cX6_tellFault 1 = .ok (.getfield 12, 3) := by decide +kernel
theorem dX6_tellFault_4 : decode cX6_tellFault 4 = .ok (.iload_n 1, 1) := by decide +kernel
theorem dX6_tellFault_5 : decode cX6_tellFault 5 = .ok (.invokevirtual 77, 3) := by decide +kernel
theorem dX6_tellFault_8 : decode cX6_tellFault 8 = .ok (.ifCond .ne 6, 3) := by decide +kernel
theorem dX6_tellFault_11 : decode cX6_tellFault 11 = .ok (.bipush (-11), 2) := by decide +kernel
theorem dX6_tellFault_13 : decode cX6_tellFault 13 = .ok (.ireturn, 1) := by decide +kernel
theorem dX6_tellFault_14 : decode cX6_tellFault 14 = .ok (.iload_n 2, 1) := by decide +kernel
theorem dX6_tellFault_15 : decode cX6_tellFault 15 = .ok (.iconst 1, 1) := by decide +kernel
theorem dX6_tellFault_16 : decode cX6_tellFault 16 = .ok (.bipush 9, 2) := by decide +kernel
theorem dX6_tellFault_18 : decode cX6_tellFault 18 = .ok (.invokestatic 253, 3) := by decide +kernel
theorem dX6_tellFault_21 : decode cX6_tellFault 21 = .ok (.ifCond .ne 6, 3) := by decide +kernel
theorem dX6_tellFault_24 : decode cX6_tellFault 24 = .ok (.bipush (-12), 2) := by decide +kernel
theorem dX6_tellFault_26 : decode cX6_tellFault 26 = .ok (.ireturn, 1) := by decide +kernel
theorem dX6_tellFault_27 : decode cX6_tellFault 27 = .ok (.aload_n 0, 1) := by decide +kernel
theorem dX6_tellFault_28 : decode cX6_tellFault 28 = .ok (.getfield 12, 3) := by decide +kernel
theorem dX6_tellFault_31 : decode cX6_tellFault 31 = .ok (.getfield 81, 3) := by decide +kernel
theorem dX6_tellFault_34 : decode cX6_tellFault 34 = .ok (.iload_n 1, 1) := by decide +kernel
theorem dX6_tellFault_35 : decode cX6_tellFault 35 = .ok (.aaload, 1) := by decide +kernel
theorem dX6_tellFault_36 : decode cX6_tellFault 36 = .ok (.astore_n 3, 1) := by decide +kernel
theorem dX6_tellFault_37 : decode cX6_tellFault 37 = .ok (.aload_n 3, 1) := by decide +kernel
theorem dX6_tellFault_38 : decode cX6_tellFault 38 = .ok (.invokevirtual 268, 3) := by decide +kernel
theorem dX6_tellFault_41 : decode cX6_tellFault 41 = .ok (.ifCond .ne 13, 3) := by decide +kernel
theorem dX6_tellFault_44 : decode cX6_tellFault 44 = .ok (.aload_n 0, 1) := by decide +kernel
theorem dX6_tellFault_45 : decode cX6_tellFault 45 = .ok (.iconst 5, 1) := by decide +kernel
theorem dX6_tellFault_46 : decode cX6_tellFault 46 = .ok (.aload_n 3, 1) := by decide +kernel
theorem dX6_tellFault_47 : decode cX6_tellFault 47 = .ok (.getfield 101, 3) := by decide +kernel
theorem dX6_tellFault_50 : decode cX6_tellFault 50 = .ok (.invokevirtual 201, 3) := by decide +kernel
theorem dX6_tellFault_53 : decode cX6_tellFault 53 = .ok (.ireturn, 1) := by decide +kernel
theorem dX6_tellFault_54 : decode cX6_tellFault 54 = .ok (.aload_n 3, 1) := by decide +kernel
theorem dX6_tellFault_55 : decode cX6_tellFault 55 = .ok (.dup, 1) := by decide +kernel
theorem dX6_tellFault_56 : decode cX6_tellFault 56 = .ok (.getfield 110, 3) := by decide +kernel
theorem dX6_tellFault_59 : decode cX6_tellFault 59 = .ok (.iload_n 2, 1) := by decide +kernel
theorem dX6_tellFault_60 : decode cX6_tellFault 60 = .ok (.iadd, 1) := by decide +kernel
theorem dX6_tellFault_61 : decode cX6_tellFault 61 = .ok (.putfield 110, 3) := by decide +kernel
theorem dX6_tellFault_64 : decode cX6_tellFault 64 = .ok (.aload_n 3, 1) := by decide +kernel
theorem dX6_tellFault_65 : decode cX6_tellFault 65 = .ok (.getfield 110, 3) := by decide +kernel
theorem dX6_tellFault_68 : decode cX6_tellFault 68 = .ok (.ireturn, 1) := by decide +kernel
theorem dcX6_tellFault : yX6_tellFault.cls = RX6 ∧ yX6_tellFault.cls ≠ "java/lang/invoke/MethodHandle" ∧ yX6_tellFault.cls ≠ "java/lang/invoke/VarHandle" ∧ (parseMethodDescriptor yX6_tellFault.desc).map (fun d => d.parameters.length) = some 2 := by decide +kernel
theorem gX6_tellFault_5 : GoodIn wsL_law (wsV RX6 77 RX4 yX4_hasStep (.code yX4_hasStep cX4_hasStep 2 (some .boolean) :: wsL_law)) := g_V q317 q318 q319 q16 q320
theorem gX6_tellFault_18 : gS RX6 253 yX6_isWithin cX6_isWithin 3 (some .boolean) := ⟨q132, q133, q2, q134⟩
theorem gX6_tellFault_38 : GoodIn wsL_law (wsV RX6 268 RX5 yX5_isOpen (.code yX5_isOpen cX5_isOpen 1 (some .boolean) :: wsL_law)) := g_V q332 q333 q334 q44 q335
theorem gX6_tellFault_50 : GoodIn wsL_law (wsV RX6 201 RX6 yX6_refuse (.code yX6_refuse cX6_refuse 3 (some .int) :: wsL_law)) := g_V q286 q287 q288 q2 q289
set_option maxRecDepth 100000 in
set_option maxHeartbeats 4000000 in
theorem K_tfault {cA : Nat → ClassId} {ad : tA} {ex : va_W} {M : tM} {F P : tP} {s m : Int32} (hoc : okc P) : Cj yX6_tellFault cX6_tellFault 4 (some .int) (rmd 5) 0 0 cA ad [.ref (ad 0 0), .int s, .int m] ex (mm M F P) (Qe (some (.int (t_fault F P s m).1)) ex (mm M (t_fault F P s m).2.1 (t_fault F P s m).2.2)) := by
  refine c_of_r (lv0 := [some (.ref (ad 0 0)), some (.int s), some (.int m), none]) rfl (by decide +kernel) (Nat.le_of_ble_eq_true rfl) rfl ?_
  refine r_aload_n dX6_tellFault_0 rfl ?_
  refine r_getF 0 (by decide) q17 rfl dX6_tellFault_1 ?_
  refine r_iload_n dX6_tellFault_4 rfl ?_
  refine r_cVi dX6_tellFault_5 (K_hasStep is1) gX6_tellFault_5 dcX4_hasStep rfl rfl rfl (Nat.le_of_ble_eq_true rfl) (ob_pl is1) ?_
  refine r_if_ne (tgt := 14) dX6_tellFault_8 (by decide) (fun c8 => ?_) (fun c8 => ?_)
  · refine r_iload_n dX6_tellFault_14 rfl ?_
    refine r_iconst (v := 1) dX6_tellFault_15 (by decide) ?_
    refine r_bipush (v := 9) dX6_tellFault_16 (by decide) ?_
    refine r_cSi dX6_tellFault_18 (K_wi) gX6_tellFault_18 dcX6_isWithin rfl rfl rfl (Nat.le_of_ble_eq_true rfl) ?_
    refine r_if_ne (tgt := 27) dX6_tellFault_21 (by decide) (fun c21 => ?_) (fun c21 => ?_)
    · obtain ⟨i, hi1, hi2, hi3, hi4⟩ := hs_of hoc (bt c8)
      refine r_aload_n dX6_tellFault_27 rfl ?_
      refine r_getF 0 (by decide) q17 rfl dX6_tellFault_28 ?_
      refine r_getp_pl is1 0 (by decide) q314 rfl dX6_tellFault_31 ?_
      refine r_iload_n dX6_tellFault_34 rfl ?_
      refine r_aldp_steps is1 hi3 hi2 dX6_tellFault_35 ?_
      refine r_astore_n dX6_tellFault_36 (by decide) rfl ?_
      refine r_aload_n dX6_tellFault_37 rfl ?_
      refine r_cVi dX6_tellFault_38 (K_isOpen (i := i) is1 hi2) gX6_tellFault_38 dcX5_isOpen rfl rfl rfl (Nat.le_of_ble_eq_true rfl) (ob_st is1 (by omega)) ?_
      refine r_if_ne (tgt := 54) dX6_tellFault_41 (by decide) (fun c41 => ?_) (fun c41 => ?_)
      · refine r_aload_n dX6_tellFault_54 rfl ?_
        refine r_dup dX6_tellFault_55 rfl ?_
        refine r_getp_st is1 (by omega) 9 (by decide) q331 rfl dX6_tellFault_56 ?_
        refine r_iload_n dX6_tellFault_59 rfl ?_
        refine r_iadd dX6_tellFault_60 ?_
        refine r_putp_st is1 (by omega) 9 (by decide) q331 rfl rfl rfl rfl rfl dX6_tellFault_61 ?_
        refine r_aload_n dX6_tellFault_64 rfl ?_
        refine r_getp_st is1 (by omega) 9 (by decide) q331 rfl dX6_tellFault_65 ?_
        rw [pu_s]
        first | exact r_ret rfl rfl dX6_tellFault_68 (t_a (show (t_fault F P s m) = _ from (if_neg (nf_of c8)).trans ((if_neg (nf_of c21)).trans (by rw [hi4]; exact if_neg (nf_of c41))))) (t_m (show (t_fault F P s m) = _ from (if_neg (nf_of c8)).trans ((if_neg (nf_of c21)).trans (by rw [hi4]; exact if_neg (nf_of c41)))))
      · refine r_aload_n dX6_tellFault_44 rfl ?_
        refine r_iconst (v := 5) dX6_tellFault_45 (by decide) ?_
        refine r_aload_n dX6_tellFault_46 rfl ?_
        refine r_getp_st is1 (by omega) 6 (by decide) q315 rfl dX6_tellFault_47 ?_
        refine r_cVi dX6_tellFault_50 (K_ref) gX6_tellFault_50 dcX6_refuse rfl rfl rfl (Nat.le_of_ble_eq_true rfl) ob_tf ?_
        first | exact r_ret rfl rfl dX6_tellFault_53 (t_a (show (t_fault F P s m) = _ from (if_neg (nf_of c8)).trans ((if_neg (nf_of c21)).trans (by rw [hi4]; exact if_pos (bF c41))))) (t_m (show (t_fault F P s m) = _ from (if_neg (nf_of c8)).trans ((if_neg (nf_of c21)).trans (by rw [hi4]; exact if_pos (bF c41)))))
    · refine r_bipush (v := -12) dX6_tellFault_24 (by decide) ?_
      first | exact r_ret rfl rfl dX6_tellFault_26 (t_a (show (t_fault F P s m) = _ from (if_neg (nf_of c8)).trans (if_pos (bF c21)))) (t_m (show (t_fault F P s m) = _ from (if_neg (nf_of c8)).trans (if_pos (bF c21))))
  · refine r_bipush (v := -11) dX6_tellFault_11 (by decide) ?_
    first | exact r_ret rfl rfl dX6_tellFault_13 (t_a (show (t_fault F P s m) = _ from if_pos (bF c8))) (t_m (show (t_fault F P s m) = _ from if_pos (bF c8)))
theorem dX6_setHands_0 : decode cX6_setHands 0 = .ok (.iload_n 1, 1) := by decide +kernel
theorem dX6_setHands_1 : decode cX6_setHands 1 = .ok (.iconst 1, 1) := by decide +kernel
theorem dX6_setHands_2 : decode cX6_setHands 2 = .ok (.iconst 4, 1) := by decide +kernel
theorem dX6_setHands_3 : decode cX6_setHands 3 = .ok (.invokestatic 253, 3) := by decide +kernel
theorem dX6_setHands_6 : decode cX6_setHands 6 = .ok (.ifCond .ne 6, 3) := by decide +kernel
theorem dX6_setHands_9 : decode cX6_setHands 9 = .ok (.bipush (-12), 2) := by decide +kernel
theorem dX6_setHands_11 : decode cX6_setHands 11 = .ok (.ireturn, 1) := by decide +kernel
theorem dX6_setHands_12 : decode cX6_setHands 12 = .ok (.aload_n 0, 1) := by decide +kernel
theorem dX6_setHands_13 : decode cX6_setHands 13 = .ok (.getfield 12, 3) := by decide +kernel
theorem dX6_setHands_16 : decode cX6_setHands 16 = .ok (.getfield 229, 3) := by decide +kernel
theorem dX6_setHands_19 : decode cX6_setHands 19 = .ok (.istore_n 2, 1) := by decide +kernel
theorem dX6_setHands_20 : decode cX6_setHands 20 = .ok (.aload_n 0, 1) := by decide +kernel
theorem dX6_setHands_21 : decode cX6_setHands 21 = .ok (.getfield 12, 3) := by decide +kernel
theorem dX6_setHands_24 : decode cX6_setHands 24 = .ok (.iload_n 1, 1) := by decide +kernel
theorem dX6_setHands_25 : decode cX6_setHands 25 = .ok (.putfield 229, 3) := by decide +kernel
theorem dX6_setHands_28 : decode cX6_setHands 28 = .ok (.iload_n 2, 1) := by decide +kernel
theorem dX6_setHands_29 : decode cX6_setHands 29 = .ok (.ireturn, 1) := by decide +kernel
theorem dcX6_setHands : yX6_setHands.cls = RX6 ∧ yX6_setHands.cls ≠ "java/lang/invoke/MethodHandle" ∧ yX6_setHands.cls ≠ "java/lang/invoke/VarHandle" ∧ (parseMethodDescriptor yX6_setHands.desc).map (fun d => d.parameters.length) = some 1 := by decide +kernel
theorem gX6_setHands_3 : gS RX6 253 yX6_isWithin cX6_isWithin 3 (some .boolean) := ⟨q132, q133, q2, q134⟩
set_option maxRecDepth 100000 in
set_option maxHeartbeats 4000000 in
theorem K_thands {cA : Nat → ClassId} {ad : tA} {ex : va_W} {M : tM} {F P : tP} {m : Int32} : Cj yX6_setHands cX6_setHands 3 (some .int) (rmd 5) 0 0 cA ad [.ref (ad 0 0), .int m] ex (mm M F P) (Qe (some (.int (t_hands F P m).1)) ex (mm M (t_hands F P m).2.1 (t_hands F P m).2.2)) := by
  refine c_of_r (lv0 := [some (.ref (ad 0 0)), some (.int m), none]) rfl (by decide +kernel) (Nat.le_of_ble_eq_true rfl) rfl ?_
  refine r_iload_n dX6_setHands_0 rfl ?_
  refine r_iconst (v := 1) dX6_setHands_1 (by decide) ?_
  refine r_iconst (v := 4) dX6_setHands_2 (by decide) ?_
  refine r_cSi dX6_setHands_3 (K_wi) gX6_setHands_3 dcX6_isWithin rfl rfl rfl (Nat.le_of_ble_eq_true rfl) ?_
  refine r_if_ne (tgt := 12) dX6_setHands_6 (by decide) (fun c6 => ?_) (fun c6 => ?_)
  · refine r_aload_n dX6_setHands_12 rfl ?_
    refine r_getF 0 (by decide) q17 rfl dX6_setHands_13 ?_
    refine r_getp_pl is1 8 (by decide) q131 rfl dX6_setHands_16 ?_
    refine r_istore_n dX6_setHands_19 (by decide) rfl ?_
    refine r_aload_n dX6_setHands_20 rfl ?_
    refine r_getF 0 (by decide) q17 rfl dX6_setHands_21 ?_
    refine r_iload_n dX6_setHands_24 rfl ?_
    refine r_putp_pl is1 8 (by decide) q131 rfl rfl rfl rfl rfl dX6_setHands_25 ?_
    refine r_iload_n dX6_setHands_28 rfl ?_
    first | exact r_ret rfl rfl dX6_setHands_29 (t_a (show (t_hands F P m) = _ from if_neg (nf_of c6))) (t_m (show (t_hands F P m) = _ from if_neg (nf_of c6)))
  · refine r_bipush (v := -12) dX6_setHands_9 (by decide) ?_
    first | exact r_ret rfl rfl dX6_setHands_11 (t_a (show (t_hands F P m) = _ from if_pos (bF c6))) (t_m (show (t_hands F P m) = _ from if_pos (bF c6)))
theorem dX6_tellCancel_0 : decode cX6_tellCancel 0 = .ok (.iload_n 1, 1) := by decide +kernel
theorem dX6_tellCancel_1 : decode cX6_tellCancel 1 = .ok (.iconst 1, 1) := by decide +kernel
theorem dX6_tellCancel_2 : decode cX6_tellCancel 2 = .ok (.iconst 3, 1) := by decide +kernel
theorem dX6_tellCancel_3 : decode cX6_tellCancel 3 = .ok (.invokestatic 253, 3) := by decide +kernel
theorem dX6_tellCancel_6 : decode cX6_tellCancel 6 = .ok (.ifCond .ne 6, 3) := by decide +kernel
theorem dX6_tellCancel_9 : decode cX6_tellCancel 9 = .ok (.bipush (-11), 2) := by decide +kernel
theorem dX6_tellCancel_11 : decode cX6_tellCancel 11 = .ok (.ireturn, 1) := by decide +kernel
theorem dX6_tellCancel_12 : decode cX6_tellCancel 12 = .ok (.aload_n 0, 1) := by decide +kernel
theorem dX6_tellCancel_13 : decode cX6_tellCancel 13 = .ok (.getfield 12, 3) := by decide +kernel
theorem dX6_tellCancel_16 : decode cX6_tellCancel 16 = .ok (.iload_n 1, 1) := by decide +kernel
theorem dX6_tellCancel_17 : decode cX6_tellCancel 17 = .ok (.invokevirtual 272, 3) := by decide +kernel
theorem dX6_tellCancel_20 : decode cX6_tellCancel 20 = .ok (.ifCond .eq 10, 3) := by decide +kernel
theorem dX6_tellCancel_23 : decode cX6_tellCancel 23 = .ok (.aload_n 0, 1) := by decide +kernel
theorem dX6_tellCancel_24 : decode cX6_tellCancel 24 = .ok (.iconst 3, 1) := by decide +kernel
theorem dX6_tellCancel_25 : decode cX6_tellCancel 25 = .ok (.iload_n 1, 1) := by decide +kernel
theorem dX6_tellCancel_26 : decode cX6_tellCancel 26 = .ok (.invokevirtual 201, 3) := by decide +kernel
theorem dX6_tellCancel_29 : decode cX6_tellCancel 29 = .ok (.ireturn, 1) := by decide +kernel
theorem dX6_tellCancel_30 : decode cX6_tellCancel 30 = .ok (.aload_n 0, 1) := by decide +kernel
theorem dX6_tellCancel_31 : decode cX6_tellCancel 31 = .ok (.getfield 12, 3) := by decide +kernel
theorem dX6_tellCancel_34 : decode cX6_tellCancel 34 = .ok (.iload_n 1, 1) := by decide +kernel
theorem dX6_tellCancel_35 : decode cX6_tellCancel 35 = .ok (.invokevirtual 275, 3) := by decide +kernel
theorem dX6_tellCancel_38 : decode cX6_tellCancel 38 = .ok (.ireturn, 1) := by decide +kernel
theorem dcX6_tellCancel : yX6_tellCancel.cls = RX6 ∧ yX6_tellCancel.cls ≠ "java/lang/invoke/MethodHandle" ∧ yX6_tellCancel.cls ≠ "java/lang/invoke/VarHandle" ∧ (parseMethodDescriptor yX6_tellCancel.desc).map (fun d => d.parameters.length) = some 1 := by decide +kernel
theorem gX6_tellCancel_3 : gS RX6 253 yX6_isWithin cX6_isWithin 3 (some .boolean) := ⟨q132, q133, q2, q134⟩
theorem gX6_tellCancel_17 : GoodIn wsL_law (wsV RX6 272 RX4 yX4_isCancelled (.code yX4_isCancelled cX4_isCancelled 2 (some .boolean) :: wsL_law)) := g_V q340 q302 q303 q16 q304
theorem gX6_tellCancel_35 : GoodIn wsL_law (wsV RX6 275 RX4 yX4_cancelBranch (.code yX4_cancelBranch cX4_cancelBranch 5 (some .int) :: wsL_law)) := g_V q341 q342 q343 q16 q344
theorem gX6_tellCancel_26 : GoodIn wsL_law (wsV RX6 201 RX6 yX6_refuse (.code yX6_refuse cX6_refuse 3 (some .int) :: wsL_law)) := g_V q286 q287 q288 q2 q289
set_option maxRecDepth 100000 in
set_option maxHeartbeats 4000000 in
theorem K_tcancel {cA : Nat → ClassId} {ad : tA} {ex : va_W} {M : tM} {F P : tP} {b : Int32} (hoc : okc P) (ho : oke P) : Cj yX6_tellCancel cX6_tellCancel 2 (some .int) (rmd 5) 0 0 cA ad [.ref (ad 0 0), .int b] ex (mm M F P) (Qe (some (.int (t_cancel F P b).1)) ex (mm M (t_cancel F P b).2.1 (t_cancel F P b).2.2)) := by
  refine c_of_r (lv0 := [some (.ref (ad 0 0)), some (.int b)]) rfl (by decide +kernel) (Nat.le_of_ble_eq_true rfl) rfl ?_
  refine r_iload_n dX6_tellCancel_0 rfl ?_
  refine r_iconst (v := 1) dX6_tellCancel_1 (by decide) ?_
  refine r_iconst (v := 3) dX6_tellCancel_2 (by decide) ?_
  refine r_cSi dX6_tellCancel_3 (K_wi) gX6_tellCancel_3 dcX6_isWithin rfl rfl rfl (Nat.le_of_ble_eq_true rfl) ?_
  refine r_if_ne (tgt := 12) dX6_tellCancel_6 (by decide) (fun c6 => ?_) (fun c6 => ?_)
  · refine r_aload_n dX6_tellCancel_12 rfl ?_
    refine r_getF 0 (by decide) q17 rfl dX6_tellCancel_13 ?_
    refine r_iload_n dX6_tellCancel_16 rfl ?_
    refine r_cVi dX6_tellCancel_17 (K_isCancelled is1) gX6_tellCancel_17 dcX4_isCancelled rfl rfl rfl (Nat.le_of_ble_eq_true rfl) (ob_pl is1) ?_
    refine r_if_eq (tgt := 30) dX6_tellCancel_20 (by decide) (fun c20 => ?_) (fun c20 => ?_)
    · refine r_aload_n dX6_tellCancel_30 rfl ?_
      refine r_getF 0 (by decide) q17 rfl dX6_tellCancel_31 ?_
      refine r_iload_n dX6_tellCancel_34 rfl ?_
      refine r_cVi dX6_tellCancel_35 (K_can is1 hoc ho) gX6_tellCancel_35 dcX4_cancelBranch rfl rfl rfl (Nat.le_of_ble_eq_true rfl) (ob_pl is1) ?_
      first | exact r_ret rfl rfl dX6_tellCancel_38 (t_a (show (t_cancel F P b) = _ from (if_neg (nf_of c6)).trans (if_neg (bnt c20)))) (t_m (show (t_cancel F P b) = _ from (if_neg (nf_of c6)).trans (if_neg (bnt c20))))
    · refine r_aload_n dX6_tellCancel_23 rfl ?_
      refine r_iconst (v := 3) dX6_tellCancel_24 (by decide) ?_
      refine r_iload_n dX6_tellCancel_25 rfl ?_
      refine r_cVi dX6_tellCancel_26 (K_ref) gX6_tellCancel_26 dcX6_refuse rfl rfl rfl (Nat.le_of_ble_eq_true rfl) ob_tf ?_
      first | exact r_ret rfl rfl dX6_tellCancel_29 (t_a (show (t_cancel F P b) = _ from (if_neg (nf_of c6)).trans (if_pos (bt c20)))) (t_m (show (t_cancel F P b) = _ from (if_neg (nf_of c6)).trans (if_pos (bt c20))))
  · refine r_bipush (v := -11) dX6_tellCancel_9 (by decide) ?_
    first | exact r_ret rfl rfl dX6_tellCancel_11 (t_a (show (t_cancel F P b) = _ from if_pos (bF c6))) (t_m (show (t_cancel F P b) = _ from if_pos (bF c6)))
def okn (P : tP) : Prop := P 0 3 = nI (mn P) ∧ mn P ≤ 4
theorem lt4 {P : tP} (h : okn P) (h2 : P 0 3 < 4) : mn P < 4 := by
  rw [h.1] at h2
  exact (nI_ltI (b := 4) (by have := h.2; omega) (by omega)).mp h2
theorem dX6_tellMilestone_0 : decode cX6_tellMilestone 0 = .ok (.aload_n 0, 1) := by decide +kernel
theorem dX6_tellMilestone_1 : decode cX6_tellMilestone 1 = .ok (.getfield 12, 3) := by decide +kernel
theorem dX6_tellMilestone_4 : decode cX6_tellMilestone 4 = .ok (.iload_n 1, 1) := by decide +kernel
theorem dX6_tellMilestone_5 : decode cX6_tellMilestone 5 = .ok (.invokevirtual 77, 3) := by decide +kernel
theorem dX6_tellMilestone_8 : decode cX6_tellMilestone 8 = .ok (.ifCond .ne 6, 3) := by decide +kernel
theorem dX6_tellMilestone_11 : decode cX6_tellMilestone 11 = .ok (.bipush (-11), 2) := by decide +kernel
theorem dX6_tellMilestone_13 : decode cX6_tellMilestone 13 = .ok (.ireturn, 1) := by decide +kernel
theorem dX6_tellMilestone_14 : decode cX6_tellMilestone 14 = .ok (.iload_n 2, 1) := by decide +kernel
theorem dX6_tellMilestone_15 : decode cX6_tellMilestone 15 = .ok (.iconst 1, 1) := by decide +kernel
theorem dX6_tellMilestone_16 : decode cX6_tellMilestone 16 = .ok (.sipush 999, 3) := by decide +kernel
theorem dX6_tellMilestone_19 : decode cX6_tellMilestone 19 = .ok (.invokestatic 253, 3) := by decide +kernel
theorem dX6_tellMilestone_22 : decode cX6_tellMilestone 22 = .ok (.ifCond .ne 6, 3) := by decide +kernel
theorem dX6_tellMilestone_25 : decode cX6_tellMilestone 25 = .ok (.bipush (-12), 2) := by decide +kernel
theorem dX6_tellMilestone_27 : decode cX6_tellMilestone 27 = .ok (.ireturn, 1) := by decide +kernel
theorem dX6_tellMilestone_28 : decode cX6_tellMilestone 28 = .ok (.aload_n 0, 1) := by decide +kernel
theorem dX6_tellMilestone_29 : decode cX6_tellMilestone 29 = .ok (.getfield 12, 3) := by decide +kernel
theorem dX6_tellMilestone_32 : decode cX6_tellMilestone 32 = .ok (.getfield 81, 3) := by decide +kernel
theorem dX6_tellMilestone_35 : decode cX6_tellMilestone 35 = .ok (.iload_n 1, 1) := by decide +kernel
theorem dX6_tellMilestone_36 : decode cX6_tellMilestone 36 = .ok (.aaload, 1) := by decide +kernel
theorem dX6_tellMilestone_37 : decode cX6_tellMilestone 37 = .ok (.astore_n 3, 1) := by decide +kernel
theorem dX6_tellMilestone_38 : decode cX6_tellMilestone 38 = .ok (.aload_n 3, 1) := by decide +kernel
theorem dX6_tellMilestone_39 : decode cX6_tellMilestone 39 = .ok (.getfield 133, 3) := by decide +kernel
theorem dX6_tellMilestone_42 : decode cX6_tellMilestone 42 = .ok (.sipush 1000, 3) := by decide +kernel
theorem dX6_tellMilestone_45 : decode cX6_tellMilestone 45 = .ok (.if_icmp .eq 13, 3) := by decide +kernel
theorem dX6_tellMilestone_48 : decode cX6_tellMilestone 48 = .ok (.aload_n 0, 1) := by decide +kernel
theorem dX6_tellMilestone_49 : decode cX6_tellMilestone 49 = .ok (.iconst 3, 1) := by decide +kernel
theorem dX6_tellMilestone_50 : decode cX6_tellMilestone 50 = .ok (.aload_n 3, 1) := by decide +kernel
theorem dX6_tellMilestone_51 : decode cX6_tellMilestone 51 = .ok (.getfield 133, 3) := by decide +kernel
theorem dX6_tellMilestone_54 : decode cX6_tellMilestone 54 = .ok (.invokevirtual 201, 3) := by decide +kernel
theorem dX6_tellMilestone_57 : decode cX6_tellMilestone 57 = .ok (.ireturn, 1) := by decide +kernel
theorem dX6_tellMilestone_58 : decode cX6_tellMilestone 58 = .ok (.aload_n 0, 1) := by decide +kernel
theorem dX6_tellMilestone_59 : decode cX6_tellMilestone 59 = .ok (.getfield 12, 3) := by decide +kernel
theorem dX6_tellMilestone_62 : decode cX6_tellMilestone 62 = .ok (.getfield 126, 3) := by decide +kernel
theorem dX6_tellMilestone_65 : decode cX6_tellMilestone 65 = .ok (.iconst 4, 1) := by decide +kernel
theorem dX6_tellMilestone_66 : decode cX6_tellMilestone 66 = .ok (.if_icmp .lt 16, 3) := by decide +kernel
theorem dX6_tellMilestone_69 : decode cX6_tellMilestone 69 = .ok (.aload_n 0, 1) := by decide +kernel
theorem dX6_tellMilestone_70 : decode cX6_tellMilestone 70 = .ok (.iconst 1, 1) := by decide +kernel
theorem dX6_tellMilestone_71 : decode cX6_tellMilestone 71 = .ok (.aload_n 0, 1) := by decide +kernel
theorem dX6_tellMilestone_72 : decode cX6_tellMilestone 72 = .ok (.getfield 12, 3) := by decide +kernel
theorem dX6_tellMilestone_75 : decode cX6_tellMilestone 75 = .ok (.getfield 126, 3) := by decide +kernel
theorem dX6_tellMilestone_78 : decode cX6_tellMilestone 78 = .ok (.invokevirtual 201, 3) := by decide +kernel
theorem dX6_tellMilestone_81 : decode cX6_tellMilestone 81 = .ok (.ireturn, 1) := by decide +kernel
theorem dX6_tellMilestone_82 : decode cX6_tellMilestone 82 = .ok (.aload_n 0, 1) := by decide +kernel
theorem dX6_tellMilestone_83 : decode cX6_tellMilestone 83 = .ok (.getfield 12, 3) := by decide +kernel
theorem dX6_tellMilestone_86 : decode cX6_tellMilestone 86 = .ok (.iload_n 1, 1) := by decide +kernel
theorem dX6_tellMilestone_87 : decode cX6_tellMilestone 87 = .ok (.iload_n 2, 1) := by decide +kernel
theorem dX6_tellMilestone_88 : decode cX6_tellMilestone 88 = .ok (.invokevirtual 278, 3) := by decide +kernel
theorem dX6_tellMilestone_91 : decode cX6_tellMilestone 91 = .ok (.ireturn, 1) := by decide +kernel
theorem dcX6_tellMilestone : yX6_tellMilestone.cls = RX6 ∧ yX6_tellMilestone.cls ≠ "java/lang/invoke/MethodHandle" ∧ yX6_tellMilestone.cls ≠ "java/lang/invoke/VarHandle" ∧ (parseMethodDescriptor yX6_tellMilestone.desc).map (fun d => d.parameters.length) = some 2 := by decide +kernel
theorem gX6_tellMilestone_5 : GoodIn wsL_law (wsV RX6 77 RX4 yX4_hasStep (.code yX4_hasStep cX4_hasStep 2 (some .boolean) :: wsL_law)) := g_V q317 q318 q319 q16 q320
theorem gX6_tellMilestone_19 : gS RX6 253 yX6_isWithin cX6_isWithin 3 (some .boolean) := ⟨q132, q133, q2, q134⟩
theorem gX6_tellMilestone_88 : GoodIn wsL_law (wsV RX6 278 RX4 yX4_addMilestone (.code yX4_addMilestone cX4_addMilestone 4 (some .int) :: wsL_law)) := g_V q353 q354 q355 q16 q356
theorem gX6_tellMilestone_78 : GoodIn wsL_law (wsV RX6 201 RX6 yX6_refuse (.code yX6_refuse cX6_refuse 3 (some .int) :: wsL_law)) := g_V q286 q287 q288 q2 q289
theorem gX6_tellMilestone_54 : GoodIn wsL_law (wsV RX6 201 RX6 yX6_refuse (.code yX6_refuse cX6_refuse 3 (some .int) :: wsL_law)) := g_V q286 q287 q288 q2 q289
set_option maxRecDepth 100000 in
set_option maxHeartbeats 4000000 in
theorem K_tmile {cA : Nat → ClassId} {ad : tA} {ex : va_W} {M : tM} {F P : tP} {s d : Int32} (hoc : okc P) (hon : okn P) : Cj yX6_tellMilestone cX6_tellMilestone 4 (some .int) (rmd 5) 0 0 cA ad [.ref (ad 0 0), .int s, .int d] ex (mm M F P) (Qe (some (.int (t_mile F P s d).1)) ex (mm M (t_mile F P s d).2.1 (t_mile F P s d).2.2)) := by
  refine c_of_r (lv0 := [some (.ref (ad 0 0)), some (.int s), some (.int d), none]) rfl (by decide +kernel) (Nat.le_of_ble_eq_true rfl) rfl ?_
  refine r_aload_n dX6_tellMilestone_0 rfl ?_
  refine r_getF 0 (by decide) q17 rfl dX6_tellMilestone_1 ?_
  refine r_iload_n dX6_tellMilestone_4 rfl ?_
  refine r_cVi dX6_tellMilestone_5 (K_hasStep is1) gX6_tellMilestone_5 dcX4_hasStep rfl rfl rfl (Nat.le_of_ble_eq_true rfl) (ob_pl is1) ?_
  refine r_if_ne (tgt := 14) dX6_tellMilestone_8 (by decide) (fun c8 => ?_) (fun c8 => ?_)
  · refine r_iload_n dX6_tellMilestone_14 rfl ?_
    refine r_iconst (v := 1) dX6_tellMilestone_15 (by decide) ?_
    refine r_sipush (v := 999) dX6_tellMilestone_16 (by decide) ?_
    refine r_cSi dX6_tellMilestone_19 (K_wi) gX6_tellMilestone_19 dcX6_isWithin rfl rfl rfl (Nat.le_of_ble_eq_true rfl) ?_
    refine r_if_ne (tgt := 28) dX6_tellMilestone_22 (by decide) (fun c22 => ?_) (fun c22 => ?_)
    · obtain ⟨i, hi1, hi2, hi3, hi4⟩ := hs_of hoc (bt c8)
      refine r_aload_n dX6_tellMilestone_28 rfl ?_
      refine r_getF 0 (by decide) q17 rfl dX6_tellMilestone_29 ?_
      refine r_getp_pl is1 0 (by decide) q314 rfl dX6_tellMilestone_32 ?_
      refine r_iload_n dX6_tellMilestone_35 rfl ?_
      refine r_aldp_steps is1 hi3 hi2 dX6_tellMilestone_36 ?_
      refine r_astore_n dX6_tellMilestone_37 (by decide) rfl ?_
      refine r_aload_n dX6_tellMilestone_38 rfl ?_
      refine r_getp_st is1 (by omega) 5 (by decide) q352 rfl dX6_tellMilestone_39 ?_
      refine r_sipush (v := 1000) dX6_tellMilestone_42 (by decide) ?_
      refine r_icmp_eq (tgt := 58) dX6_tellMilestone_45 (by decide) (fun c45 => ?_) (fun c45 => ?_)
      · refine r_aload_n dX6_tellMilestone_58 rfl ?_
        refine r_getF 0 (by decide) q17 rfl dX6_tellMilestone_59 ?_
        refine r_getp_pl is1 3 (by decide) q154 rfl dX6_tellMilestone_62 ?_
        refine r_iconst (v := 4) dX6_tellMilestone_65 (by decide) ?_
        refine r_icmp_lt (tgt := 82) dX6_tellMilestone_66 (by decide) (fun c66 => ?_) (fun c66 => ?_)
        · refine r_aload_n dX6_tellMilestone_82 rfl ?_
          refine r_getF 0 (by decide) q17 rfl dX6_tellMilestone_83 ?_
          refine r_iload_n dX6_tellMilestone_86 rfl ?_
          refine r_iload_n dX6_tellMilestone_87 rfl ?_
          refine r_cVi dX6_tellMilestone_88 ((hi3 ▸ K_addMs (s := i) is1 hi2 hon.1 (lt4 hon c66))) gX6_tellMilestone_88 dcX4_addMilestone rfl rfl rfl (Nat.le_of_ble_eq_true rfl) (ob_pl is1) ?_
          first | exact r_ret rfl rfl dX6_tellMilestone_91 (t_a (show (t_mile F P s d) = _ from (if_neg (nf_of c8)).trans ((if_neg (nf_of c22)).trans (by rw [hi4]; exact (if_neg (fun e => e c45)).trans (if_pos c66))))) (t_m (show (t_mile F P s d) = _ from (if_neg (nf_of c8)).trans ((if_neg (nf_of c22)).trans (by rw [hi4]; exact (if_neg (fun e => e c45)).trans (if_pos c66)))))
        · refine r_aload_n dX6_tellMilestone_69 rfl ?_
          refine r_iconst (v := 1) dX6_tellMilestone_70 (by decide) ?_
          refine r_aload_n dX6_tellMilestone_71 rfl ?_
          refine r_getF 0 (by decide) q17 rfl dX6_tellMilestone_72 ?_
          refine r_getp_pl is1 3 (by decide) q154 rfl dX6_tellMilestone_75 ?_
          refine r_cVi dX6_tellMilestone_78 (K_ref) gX6_tellMilestone_78 dcX6_refuse rfl rfl rfl (Nat.le_of_ble_eq_true rfl) ob_tf ?_
          first | exact r_ret rfl rfl dX6_tellMilestone_81 (t_a (show (t_mile F P s d) = _ from (if_neg (nf_of c8)).trans ((if_neg (nf_of c22)).trans (by rw [hi4]; exact (if_neg (fun e => e c45)).trans (if_neg c66))))) (t_m (show (t_mile F P s d) = _ from (if_neg (nf_of c8)).trans ((if_neg (nf_of c22)).trans (by rw [hi4]; exact (if_neg (fun e => e c45)).trans (if_neg c66)))))
      · refine r_aload_n dX6_tellMilestone_48 rfl ?_
        refine r_iconst (v := 3) dX6_tellMilestone_49 (by decide) ?_
        refine r_aload_n dX6_tellMilestone_50 rfl ?_
        refine r_getp_st is1 (by omega) 5 (by decide) q352 rfl dX6_tellMilestone_51 ?_
        refine r_cVi dX6_tellMilestone_54 (K_ref) gX6_tellMilestone_54 dcX6_refuse rfl rfl rfl (Nat.le_of_ble_eq_true rfl) ob_tf ?_
        first | exact r_ret rfl rfl dX6_tellMilestone_57 (t_a (show (t_mile F P s d) = _ from (if_neg (nf_of c8)).trans ((if_neg (nf_of c22)).trans (by rw [hi4]; exact if_pos c45)))) (t_m (show (t_mile F P s d) = _ from (if_neg (nf_of c8)).trans ((if_neg (nf_of c22)).trans (by rw [hi4]; exact if_pos c45))))
    · refine r_bipush (v := -12) dX6_tellMilestone_25 (by decide) ?_
      first | exact r_ret rfl rfl dX6_tellMilestone_27 (t_a (show (t_mile F P s d) = _ from (if_neg (nf_of c8)).trans (if_pos (bF c22)))) (t_m (show (t_mile F P s d) = _ from (if_neg (nf_of c8)).trans (if_pos (bF c22))))
  · refine r_bipush (v := -11) dX6_tellMilestone_11 (by decide) ?_
    first | exact r_ret rfl rfl dX6_tellMilestone_13 (t_a (show (t_mile F P s d) = _ from if_pos (bF c8))) (t_m (show (t_mile F P s d) = _ from if_pos (bF c8)))
theorem dX6_letDaysGo_0 : decode cX6_letDaysGo 0 = .ok (.iload_n 1, 1) := by decide +kernel
theorem dX6_letDaysGo_1 : decode cX6_letDaysGo 1 = .ok (.iconst 1, 1) := by decide +kernel
theorem dX6_letDaysGo_2 : decode cX6_letDaysGo 2 = .ok (.bipush 30, 2) := by decide +kernel
theorem dX6_letDaysGo_4 : decode cX6_letDaysGo 4 = .ok (.invokestatic 253, 3) := by decide +kernel
theorem dX6_letDaysGo_7 : decode cX6_letDaysGo 7 = .ok (.ifCond .ne 6, 3) := by decide +kernel
theorem dX6_letDaysGo_10 : decode cX6_letDaysGo 10 = .ok (.bipush (-12), 2) := by decide +kernel
theorem dX6_letDaysGo_12 : decode cX6_letDaysGo 12 = .ok (.ireturn, 1) := by decide +kernel
theorem dX6_letDaysGo_13 : decode cX6_letDaysGo 13 = .ok (.aload_n 0, 1) := by decide +kernel
theorem dX6_letDaysGo_14 : decode cX6_letDaysGo 14 = .ok (.getfield 12, 3) := by decide +kernel
theorem dX6_letDaysGo_17 : decode cX6_letDaysGo 17 = .ok (.getfield 241, 3) := by decide +kernel
theorem dX6_letDaysGo_20 : decode cX6_letDaysGo 20 = .ok (.istore_n 2, 1) := by decide +kernel
theorem dX6_letDaysGo_21 : decode cX6_letDaysGo 21 = .ok (.iconst 0, 1) := by decide +kernel
theorem dX6_letDaysGo_22 : decode cX6_letDaysGo 22 = .ok (.istore_n 3, 1) := by decide +kernel
theorem dX6_letDaysGo_23 : decode cX6_letDaysGo 23 = .ok (.iload_n 3, 1) := by decide +kernel
theorem dX6_letDaysGo_24 : decode cX6_letDaysGo 24 = .ok (.iload_n 1, 1) := by decide +kernel
theorem dX6_letDaysGo_25 : decode cX6_letDaysGo 25 = .ok (.if_icmp .ge 16, 3) := by decide +kernel
theorem dX6_letDaysGo_28 : decode cX6_letDaysGo 28 = .ok (.aload_n 0, 1) := by decide +kernel
theorem dX6_letDaysGo_29 : decode cX6_letDaysGo 29 = .ok (.getfield 12, 3) := by decide +kernel
theorem dX6_letDaysGo_32 : decode cX6_letDaysGo 32 = .ok (.invokevirtual 143, 3) := by decide +kernel
theorem dX6_letDaysGo_35 : decode cX6_letDaysGo 35 = .ok (.iinc 3 1, 3) := by decide +kernel
theorem dX6_letDaysGo_38 : decode cX6_letDaysGo 38 = .ok (.goto (-15), 3) := by decide +kernel
theorem dX6_letDaysGo_41 : decode cX6_letDaysGo 41 = .ok (.aload_n 0, 1) := by decide +kernel
theorem dX6_letDaysGo_42 : decode cX6_letDaysGo 42 = .ok (.getfield 12, 3) := by decide +kernel
theorem dX6_letDaysGo_45 : decode cX6_letDaysGo 45 = .ok (.getfield 241, 3) := by decide +kernel
theorem dX6_letDaysGo_48 : decode cX6_letDaysGo 48 = .ok (.iload_n 2, 1) := by decide +kernel
theorem dX6_letDaysGo_49 : decode cX6_letDaysGo 49 = .ok (.isub, 1) := by decide +kernel
theorem dX6_letDaysGo_50 : decode cX6_letDaysGo 50 = .ok (.ireturn, 1) := by decide +kernel
theorem dcX6_letDaysGo : yX6_letDaysGo.cls = RX6 ∧ yX6_letDaysGo.cls ≠ "java/lang/invoke/MethodHandle" ∧ yX6_letDaysGo.cls ≠ "java/lang/invoke/VarHandle" ∧ (parseMethodDescriptor yX6_letDaysGo.desc).map (fun d => d.parameters.length) = some 1 := by decide +kernel
theorem gX6_letDaysGo_32 : GoodIn wsL_law (wsV RX6 143 RX4 yX4_passDay (.code yX4_passDay cX4_passDay 2 none :: wsL_law)) := g_V q362 q363 q364 q16 q365
theorem gX6_letDaysGo_4 : gS RX6 253 yX6_isWithin cX6_isWithin 3 (some .boolean) := ⟨q132, q133, q2, q134⟩
set_option maxRecDepth 100000 in
set_option maxHeartbeats 4000000 in
theorem K_tdays {cA : Nat → ClassId} {ad : tA} {ex : va_W} {M : tM} {F P0 : tP} {d : Int32} (hoc : okc P0) (ho : oke P0) (hoh : okh P0) : Cj yX6_letDaysGo cX6_letDaysGo 4 (some .int) (rmd 5) 0 0 cA ad [.ref (ad 0 0), .int d] ex (mm M F P0) (Qe (some (.int (t_days F P0 d).1)) ex (mm M (t_days F P0 d).2.1 (t_days F P0 d).2.2)) := by
  refine c_of_r (lv0 := [some (.ref (ad 0 0)), some (.int d), none, none]) rfl (by decide +kernel) (Nat.le_of_ble_eq_true rfl) rfl ?_
  have L : ∀ (n0 n k : Nat) (P : tP), k + n = n0 → n0 ≤ 30 → inh P0 P → t_days F P0 (nI n0) = (lp_days n P 0 12 - P0 0 12, F, lp_days n P) → Rj cX6_letDaysGo RX6 4 (some .int) (rmd 5) 0 0 cA ad (Qe (some (.int (t_days F P0 (nI n0)).1)) ex (mm M (t_days F P0 (nI n0)).2.1 (t_days F P0 (nI n0)).2.2)) ex 0 0 23 [some (.ref (ad 0 0)), some (.int (nI n0)), some (.int (P0 0 12)), some (.int (nI k))] [] (mm M F P) := by
    intro n0 n
    induction n with
    | zero =>
      intro k P h h30 hk hP
      refine r_iload_n dX6_letDaysGo_23 rfl ?_
      refine r_iload_n dX6_letDaysGo_24 rfl ?_
      refine r_icmp_ge (tgt := 41) dX6_letDaysGo_25 (by decide) (fun c25 => ?_) (fun c25 => absurd (lp_z rfl h) c25)
      refine r_aload_n dX6_letDaysGo_41 rfl ?_
      refine r_getF 0 (by decide) q17 rfl dX6_letDaysGo_42 ?_
      refine r_getp_pl is1 12 (by decide) q158 rfl dX6_letDaysGo_45 ?_
      refine r_iload_n dX6_letDaysGo_48 rfl ?_
      refine r_isub dX6_letDaysGo_49 ?_
      exact r_ret rfl rfl dX6_letDaysGo_50 (t_a hP) (t_m hP)
    | succ n ih =>
      intro k P h h30 hk hP
      refine r_iload_n dX6_letDaysGo_23 rfl ?_
      refine r_iload_n dX6_letDaysGo_24 rfl ?_
      refine r_icmp_ge (tgt := 41) dX6_letDaysGo_25 (by decide) (fun c25 => absurd c25 (lq_s rfl (by omega) h)) (fun c25 => ?_)
      refine r_aload_n dX6_letDaysGo_28 rfl ?_
      refine r_getF 0 (by decide) q17 rfl dX6_letDaysGo_29 ?_
      refine r_cVv dX6_letDaysGo_32 (K_pass is1 hk.1 hk.2.1 hk.2.2.2) gX6_letDaysGo_32 dcX4_passDay rfl rfl rfl (Nat.le_of_ble_eq_true rfl) (ob_pl is1) ?_
      refine r_iinc dX6_letDaysGo_35 rfl ii_s (by decide) rfl ?_
      refine r_goto (tgt := 23) dX6_letDaysGo_38 (by decide) ?_
      exact ih (k + 1) _ (by omega) h30 (inh_kp kp_pass hk) hP
  refine r_iload_n dX6_letDaysGo_0 rfl ?_
  refine r_iconst (v := 1) dX6_letDaysGo_1 (by decide) ?_
  refine r_bipush (v := 30) dX6_letDaysGo_2 (by decide) ?_
  refine r_cSi dX6_letDaysGo_4 (K_wi) gX6_letDaysGo_4 dcX6_isWithin rfl rfl rfl (Nat.le_of_ble_eq_true rfl) ?_
  refine r_if_ne (tgt := 13) dX6_letDaysGo_7 (by decide) (fun c7 => ?_) (fun c7 => ?_)
  · obtain ⟨n0, hn1, hn2, hn3, hn4⟩ := wi_of (b := 30) (by omega) (bt c7)
    subst hn3
    refine r_aload_n dX6_letDaysGo_13 rfl ?_
    refine r_getF 0 (by decide) q17 rfl dX6_letDaysGo_14 ?_
    refine r_getp_pl is1 12 (by decide) q158 rfl dX6_letDaysGo_17 ?_
    refine r_istore_n dX6_letDaysGo_20 (by decide) rfl ?_
    refine r_iconst (v := 0) dX6_letDaysGo_21 (by decide) ?_
    refine r_istore_n dX6_letDaysGo_22 (by decide) rfl ?_
    exact L n0 n0 0 P0 (by omega) hn2 ⟨hoc, ho, rfl, hoh⟩ ((if_neg (nf_of c7)).trans (by rw [hn4]))
  · refine r_bipush (v := -12) dX6_letDaysGo_10 (by decide) ?_
    first | exact r_ret rfl rfl dX6_letDaysGo_12 (t_a (show (t_days F P0 d) = _ from if_pos (bF c7))) (t_m (show (t_days F P0 d) = _ from if_pos (bF c7)))

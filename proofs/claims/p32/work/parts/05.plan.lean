/-! PART 05: a plan taken out of the matrix: m_pl M r P; rows over it; loops' helps -/
abbrev tP : Type := Nat → Nat → Int32
def m_pl (M : tM) (r : Nat) (P : tP) : tM := fun r' => if r' = r then P else M r'
theorem m_pl_s {M : tM} {r : Nat} {P : tP} : m_pl M r P r = P := if_pos rfl
theorem m_pl_n {M : tM} {r r' : Nat} {P : tP} (h : r' ≠ r) : m_pl M r P r' = M r' := if_neg h
theorem m_pl_self {M : tM} {r : Nat} : m_pl M r (M r) = M := by
  funext r'
  by_cases h : r' = r
  · subst h; exact m_pl_s
  · exact m_pl_n h
theorem m_pl_pl {M : tM} {r : Nat} {P P' : tP} : m_pl (m_pl M r P) r P' = m_pl M r P' := by
  funext r'
  by_cases h : r' = r
  · subst h; rw [m_pl_s, m_pl_s]
  · rw [m_pl_n h, m_pl_n h, m_pl_n h]
def pu (P : tP) (j k : Nat) (x : Int32) : tP := fun j' => if j' = j then upd (P j) k x else P j'
theorem pu_s {P : tP} {j k : Nat} {x : Int32} : pu P j k x j k = x := by rw [pu, if_pos rfl]; exact pk_us
theorem pu_j {P : tP} {j k j' k' : Nat} {x : Int32} (h : j' ≠ j) : pu P j k x j' k' = P j' k' := by rw [pu, if_neg h]
theorem pu_jj {P : tP} {j k j' : Nat} {x : Int32} (h : j' ≠ j) : pu P j k x j' = P j' := by rw [pu, if_neg h]
theorem pu_k {P : tP} {j k j' k' : Nat} {x : Int32} (h : k' ≠ k) : pu P j k x j' k' = P j' k' := by
  by_cases hj : j' = j
  · subst hj; rw [pu, if_pos rfl]; exact pk_un h
  · exact pu_j hj
theorem m_set_pl {M : tM} {r j k : Nat} {P : tP} {x : Int32} : m_set (m_pl M r P) r j (upd (P j) k x) = m_pl M r (pu P j k x) := by
  funext r' j'
  by_cases h : r' = r
  · subst h
    by_cases hj : j' = j
    · subst hj; rw [m_set_s, m_pl_s, pu, if_pos rfl]
    · rw [m_set_n (fun e => hj e.2), m_pl_s, m_pl_s, pu, if_neg hj]
  · rw [m_set_n (fun e => h e.1), m_pl_n h, m_pl_n h]
def bI (b : Bool) : Int32 := if b then 1 else 0
theorem bI_0 {b : Bool} (h : bI b = 0) : b = false := by cases b; rfl; exact absurd h (by decide)
theorem bI_1 {b : Bool} (h : ¬ bI b = 0) : b = true := by cases b; exact absurd rfl h; rfl
theorem bI_f {b : Bool} (h : b = false) : bI b = 0 := by rw [h]; rfl
theorem bI_t {b : Bool} (h : b = true) : bI b = 1 := by rw [h]; rfl
theorem bI_nar {b : Bool} : narrow .boolean (.int (bI b)) = .int (bI b) := by cases b <;> rfl
theorem bI_fit {b : Bool} : fits .boolean (.int (bI b)) = true := by cases b <;> rfl
def sh (i : Nat) : Int32 := 1 <<< (nI i &&& 31)
def cn (P : tP) : Nat := (P 0 1).toNatClampNeg
theorem cn_of {P : tP} {c : Nat} (h : P 0 1 = nI c) (h2 : c ≤ 12) : cn P = c := by rw [cn, h]; exact nI_clamp (by omega)
/-- the plan's count is c, its next place for an event e -/
def cP (P : tP) (c e : Nat) : Prop := c ≤ 12 ∧ e < 16 ∧ P 0 1 = nI c ∧ P 0 5 = nI e
section
variable {cc : ByteArray} {own : String} {nL : Nat} {ret : Option FieldType} {rm : Room} {mc ms : Nat} {cA : Nat → ClassId} {ad : tA} {Q : Option Value → va_W → tM → Prop} {ex : va_W} {cells slots pc : Nat} {lv : List (Option Value)} {st : List Value} {M : tM}
theorem r_fgt (i : Nat) (k : Rj cc own nL ret rm mc ms cA ad Q ex cells slots pc (lv.set i none) st M) : Rj cc own nL ret rm mc ms cA ad Q ex cells slots pc lv st M := by
  intro p l e s m args below meth c G tx A Qc free d0 X E hd0 H locs ls hP hD hS hl
  refine k p l e s m args below meth c G tx A Qc free d0 X E hd0 H locs ls hP hD hS ⟨hl.1, hl.2.1, fun q hq => hl.2.2 q ?_⟩
  obtain ⟨j, h1, h2⟩ := enL_mem.mp hq
  refine enL_mem.mpr ⟨j, h1, ?_⟩
  rw [List.getElem?_set] at h2
  by_cases hij : i = j
  · rw [if_pos hij] at h2
    split at h2 <;> cases h2
  · rw [if_neg hij] at h2
    exact h2
theorem r_getp_pl {idx : Nat} {r : Nat} (hr : isPlan r) {v : Value} {P : tP} (kf : Nat) (hk : kf < 14) (hw : Cond.fieldLink own idx (TX4 kf).1 (TX4 kf).2.1 (TX4 kf).2.2.1 ∈ wsL_law) (hv : (l_pl ad r (P 0))[kf]? = some v) (hd : decode cc pc = .ok (.getfield idx, 3)) (k : Rj cc own nL ret rm mc ms cA ad Q ex cells slots (pc + 3) lv (v :: st) (m_pl M r P)) : Rj cc own nL ret rm mc ms cA ad Q ex cells slots pc lv (.ref (ad r 0) :: st) (m_pl M r P) := r_get_pl hr kf hk hw (by rw [m_pl_s]; exact hv) hd k
theorem r_putp_pl {idx : Nat} {r : Nat} (hr : isPlan r) {x : Int32} {P : tP} {ty : FieldType} (kf : Nat) (hk : kf < 14) (hw : Cond.fieldLink own idx (TX4 kf).1 (TX4 kf).2.1 (TX4 kf).2.2.1 ∈ wsL_law) (hfin : (TX4 kf).2.2.2 = false) (het : tyX4 kf = ty) (hn : narrow ty (.int x) = .int x) (hfit : fits ty (.int x) = true) (hset : l_pl ad r (upd (P 0) kf x) = (l_pl ad r (P 0)).set kf (.int x)) (hd : decode cc pc = .ok (.putfield idx, 3)) (k : Rj cc own nL ret rm mc ms cA ad Q ex cells slots (pc + 3) lv st (m_pl M r (pu P 0 kf x))) : Rj cc own nL ret rm mc ms cA ad Q ex cells slots pc lv (.int x :: .ref (ad r 0) :: st) (m_pl M r P) := r_put_pl hr kf hk hw hfin het hn hfit (by rw [m_pl_s]; exact hset) hd (by rw [m_pl_s, m_set_pl]; exact k)
theorem r_getp_st {idx : Nat} {r i : Nat} (hr : isPlan r) (hi : i < 12) {v : Value} {P : tP} (kf : Nat) (hk : kf < 11) (hw : Cond.fieldLink own idx (TX5 kf).1 (TX5 kf).2.1 (TX5 kf).2.2.1 ∈ wsL_law) (hv : (l_st (P (4 + i)))[kf]? = some v) (hd : decode cc pc = .ok (.getfield idx, 3)) (k : Rj cc own nL ret rm mc ms cA ad Q ex cells slots (pc + 3) lv (v :: st) (m_pl M r P)) : Rj cc own nL ret rm mc ms cA ad Q ex cells slots pc lv (.ref (ad r (4 + i)) :: st) (m_pl M r P) := r_get_st hr hi kf hk hw (by rw [m_pl_s]; exact hv) hd k
theorem r_putp_st {idx : Nat} {r i : Nat} (hr : isPlan r) (hi : i < 12) {x : Int32} {P : tP} {ty : FieldType} (kf : Nat) (hk : kf < 11) (hw : Cond.fieldLink own idx (TX5 kf).1 (TX5 kf).2.1 (TX5 kf).2.2.1 ∈ wsL_law) (hfin : (TX5 kf).2.2.2 = false) (het : tyX5 kf = ty) (hn : narrow ty (.int x) = .int x) (hfit : fits ty (.int x) = true) (hset : l_st (upd (P (4 + i)) kf x) = (l_st (P (4 + i))).set kf (.int x)) (hd : decode cc pc = .ok (.putfield idx, 3)) (k : Rj cc own nL ret rm mc ms cA ad Q ex cells slots (pc + 3) lv st (m_pl M r (pu P (4 + i) kf x))) : Rj cc own nL ret rm mc ms cA ad Q ex cells slots pc lv (.int x :: .ref (ad r (4 + i)) :: st) (m_pl M r P) := r_put_st hr hi kf hk hw hfin het hn hfit (by rw [m_pl_s]; exact hset) hd (by rw [m_pl_s, m_set_pl]; exact k)
theorem r_aldp_steps {i : Nat} {x : Int32} {r : Nat} {P : tP} (hr : isPlan r) (hx : x = nI i) (hi : i < 12) (hd : decode cc pc = .ok (.aaload, 1)) (k : Rj cc own nL ret rm mc ms cA ad Q ex cells slots (pc + 1) lv (.ref (ad r (4 + i)) :: st) (m_pl M r P)) : Rj cc own nL ret rm mc ms cA ad Q ex cells slots pc lv (.int x :: .ref (ad r 1) :: st) (m_pl M r P) := r_ald_steps hr hx hi hd k
theorem r_ldp_mi {i : Nat} {x : Int32} {r : Nat} {P : tP} (hr : isPlan r) (hx : x = nI i) (hi : i < 4) (hd : decode cc pc = .ok (.iaload, 1)) (k : Rj cc own nL ret rm mc ms cA ad Q ex cells slots (pc + 1) lv (.int (P 2 i) :: st) (m_pl M r P)) : Rj cc own nL ret rm mc ms cA ad Q ex cells slots pc lv (.int x :: .ref (ad r 2) :: st) (m_pl M r P) := r_ld_mi hr hx hi hd (by rw [m_pl_s]; exact k)
theorem r_strp_mi {i : Nat} {x y : Int32} {r : Nat} {P : tP} (hr : isPlan r) (hx : x = nI i) (hi : i < 4) (hd : decode cc pc = .ok (.iastore, 1)) (k : Rj cc own nL ret rm mc ms cA ad Q ex cells slots (pc + 1) lv st (m_pl M r (pu P 2 i y))) : Rj cc own nL ret rm mc ms cA ad Q ex cells slots pc lv (.int y :: .int x :: .ref (ad r 2) :: st) (m_pl M r P) := r_str_mi hr hx hi hd (by rw [m_pl_s, m_set_pl]; exact k)
theorem r_ldp_ev {i : Nat} {x : Int32} {r : Nat} {P : tP} (hr : isPlan r) (hx : x = nI i) (hi : i < 48) (hd : decode cc pc = .ok (.iaload, 1)) (k : Rj cc own nL ret rm mc ms cA ad Q ex cells slots (pc + 1) lv (.int (P 3 i) :: st) (m_pl M r P)) : Rj cc own nL ret rm mc ms cA ad Q ex cells slots pc lv (.int x :: .ref (ad r 3) :: st) (m_pl M r P) := r_ld_ev hr hx hi hd (by rw [m_pl_s]; exact k)
theorem r_strp_ev {i : Nat} {x y : Int32} {r : Nat} {P : tP} (hr : isPlan r) (hx : x = nI i) (hi : i < 48) (hd : decode cc pc = .ok (.iastore, 1)) (k : Rj cc own nL ret rm mc ms cA ad Q ex cells slots (pc + 1) lv st (m_pl M r (pu P 3 i y))) : Rj cc own nL ret rm mc ms cA ad Q ex cells slots pc lv (.int y :: .int x :: .ref (ad r 3) :: st) (m_pl M r P) := r_str_ev hr hx hi hd (by rw [m_pl_s, m_set_pl]; exact k)
theorem r_ldcw {idx : Nat} {v : Int32} (hd : decode cc pc = .ok (.ldc_w idx, 3)) (hw : Cond.constant own idx v ∈ wsL_law) (k : Rj cc own nL ret rm mc ms cA ad Q ex cells slots (pc + 3) lv (.int v :: st) M) : Rj cc own nL ret rm mc ms cA ad Q ex cells slots pc lv st M := by
  intro p l e s m args below meth c G tx A Qc free d0 X E hd0 H locs ls hP hD hS hl
  exact lv_ldcw X.1 X.2.1 X.2.2.2.1 (dr_words X.2.2.2.2.1 d0 _ hw) hd (k p l e s m args below meth c G tx A Qc free d0 X E hd0 H locs ls hP hD hS hl)
end
def p_row (P : tP) (j : Nat) (w : Nat → Int32) : tP := fun j' => if j' = j then w else P j'
theorem p_row_s {P : tP} {j : Nat} {w : Nat → Int32} : p_row P j w j = w := if_pos rfl
theorem p_row_n {P : tP} {j j' : Nat} {w : Nat → Int32} (h : j' ≠ j) : p_row P j w j' = P j' := if_neg h
theorem m_row_pl {M : tM} {r j : Nat} {P : tP} {w : Nat → Int32} : m_set (m_pl M r P) r j w = m_pl M r (p_row P j w) := by
  funext r' j'
  by_cases h : r' = r
  · subst h
    by_cases hj : j' = j
    · subst hj; rw [m_set_s, m_pl_s, p_row_s]
    · rw [m_set_n (fun e => hj e.2), m_pl_s, m_pl_s, p_row_n hj]
  · rw [m_set_n (fun e => h e.1), m_pl_n h, m_pl_n h]
section
variable {cc : ByteArray} {own : String} {nL : Nat} {ret : Option FieldType} {rm : Room} {mc ms : Nat} {cA : Nat → ClassId} {ad : tA} {Q : Option Value → va_W → tM → Prop} {ex : va_W} {cells slots pc : Nat} {lv : List (Option Value)} {st : List Value} {M : tM}
theorem r_getq_pl {idx : Nat} {r r2 : Nat} (hr : isPlan r2) (hne : r2 ≠ r) {v : Value} {P : tP} (kf : Nat) (hk : kf < 14) (hw : Cond.fieldLink own idx (TX4 kf).1 (TX4 kf).2.1 (TX4 kf).2.2.1 ∈ wsL_law) (hv : (l_pl ad r2 (M r2 0))[kf]? = some v) (hd : decode cc pc = .ok (.getfield idx, 3)) (k : Rj cc own nL ret rm mc ms cA ad Q ex cells slots (pc + 3) lv (v :: st) (m_pl M r P)) : Rj cc own nL ret rm mc ms cA ad Q ex cells slots pc lv (.ref (ad r2 0) :: st) (m_pl M r P) := r_get_pl hr kf hk hw (by rw [m_pl_n hne]; exact hv) hd k
theorem r_getq_st {idx : Nat} {r r2 i : Nat} (hr : isPlan r2) (hne : r2 ≠ r) (hi : i < 12) {v : Value} {P : tP} (kf : Nat) (hk : kf < 11) (hw : Cond.fieldLink own idx (TX5 kf).1 (TX5 kf).2.1 (TX5 kf).2.2.1 ∈ wsL_law) (hv : (l_st (M r2 (4 + i)))[kf]? = some v) (hd : decode cc pc = .ok (.getfield idx, 3)) (k : Rj cc own nL ret rm mc ms cA ad Q ex cells slots (pc + 3) lv (v :: st) (m_pl M r P)) : Rj cc own nL ret rm mc ms cA ad Q ex cells slots pc lv (.ref (ad r2 (4 + i)) :: st) (m_pl M r P) := r_get_st hr hi kf hk hw (by rw [m_pl_n hne]; exact hv) hd k
theorem r_cpyp_mi {idx r r2 : Nat} {P : tP} {a b : Int32} (hr : isPlan r) (hr2 : isPlan r2) (hne : r2 ≠ r) (hw : Cond.methodLink own idx arraycopyName ∈ wsL_law) (hw2 : Cond.native arraycopyName ∈ wsL_law) (hw3 : Cond.static arraycopyName ∈ wsL_law) (hw4 : Cond.initialized "java/lang/System" ∈ wsL_law) (hfr : 1 ≤ rm.frames) (hlo : (st.map fun v => v.category).sum + (nativeFrameWords "java/lang/System" "arraycopy" 5 + 11) ≤ rm.locals) (ha : a = 0) (hb : b = 4) (hd : decode cc pc = .ok (.invokestatic idx, 3)) (k : Rj cc own nL ret rm mc ms cA ad Q ex cells slots (pc + 3) lv st (m_pl M r (p_row P 2 (va_cpy (M r2 2) (P 2) 0 0 4)))) : Rj cc own nL ret rm mc ms cA ad Q ex cells slots pc lv (.int b :: .int a :: .ref (ad r 2) :: .int a :: .ref (ad r2 2) :: st) (m_pl M r P) := by
  subst ha; subst hb
  have e0 : Int32.toNatClampNeg 0 = 0 := by decide
  have eN : Int32.toNatClampNeg 4 = 4 := by decide
  refine r_copyg (n0 := 4) (n1 := 4) (f := M r2 2) (g := P 2) (va_cpy (M r2 2) (P 2) 0 0 4) (pl_ok hr (by omega)) (pl_ok hr2 (by omega)) (by rw [tc_mi hr, m_pl_s]) (by rw [tc_mi hr2, m_pl_n hne]) (by decide) (by decide) (by decide) (by rw [e0, eN]; omega) (by rw [e0, eN]; omega) (by rw [e0, eN]; exact tc_mi hr) hw hw2 hw3 hw4 hfr hlo hd ?_
  rw [m_row_pl]
  exact k
theorem r_cpyp_ev {idx r r2 : Nat} {P : tP} {a b : Int32} (hr : isPlan r) (hr2 : isPlan r2) (hne : r2 ≠ r) (hw : Cond.methodLink own idx arraycopyName ∈ wsL_law) (hw2 : Cond.native arraycopyName ∈ wsL_law) (hw3 : Cond.static arraycopyName ∈ wsL_law) (hw4 : Cond.initialized "java/lang/System" ∈ wsL_law) (hfr : 1 ≤ rm.frames) (hlo : (st.map fun v => v.category).sum + (nativeFrameWords "java/lang/System" "arraycopy" 5 + 11) ≤ rm.locals) (ha : a = 0) (hb : b = 48) (hd : decode cc pc = .ok (.invokestatic idx, 3)) (k : Rj cc own nL ret rm mc ms cA ad Q ex cells slots (pc + 3) lv st (m_pl M r (p_row P 3 (va_cpy (M r2 3) (P 3) 0 0 48)))) : Rj cc own nL ret rm mc ms cA ad Q ex cells slots pc lv (.int b :: .int a :: .ref (ad r 3) :: .int a :: .ref (ad r2 3) :: st) (m_pl M r P) := by
  subst ha; subst hb
  have e0 : Int32.toNatClampNeg 0 = 0 := by decide
  have eN : Int32.toNatClampNeg 48 = 48 := by decide
  refine r_copyg (n0 := 48) (n1 := 48) (f := M r2 3) (g := P 3) (va_cpy (M r2 3) (P 3) 0 0 48) (pl_ok hr (by omega)) (pl_ok hr2 (by omega)) (by rw [tc_ev hr, m_pl_s]) (by rw [tc_ev hr2, m_pl_n hne]) (by decide) (by decide) (by decide) (by rw [e0, eN]; omega) (by rw [e0, eN]; omega) (by rw [e0, eN]; exact tc_ev hr) hw hw2 hw3 hw4 hfr hlo hd ?_
  rw [m_row_pl]
  exact k
end

/-! PART 04: the rows of part 03 at the object's own kinds of cells -/
def isPlan (r : Nat) : Prop := 1 ≤ r ∧ r ≤ 12
def rmd (d : Nat) : Room := { frames := d, cells := 0, slots := 0, locals := 60 * d }
theorem pl_ok {r j : Nat} (hr : isPlan r) (hj : j < 16) : r < 16 ∧ j < t_size r := by
  unfold isPlan at hr
  refine ⟨by omega, ?_⟩
  unfold t_size
  rw [if_neg (by omega), if_neg (by omega), if_neg (by omega), if_neg (by omega)]
  exact hj
section
variable {cA : Nat → ClassId} {ad : tA} {r : Nat} {w : Nat → Int32}
theorem tc_pl (hr : isPlan r) : t_cell cA ad (r, 0) w = .inr (6, l_pl ad r w) := by
  unfold isPlan at hr
  simp only [t_cell]
  rw [if_neg (by omega), if_neg (by omega), if_neg (by omega), if_neg (by omega), if_pos trivial]
theorem tc_steps (hr : isPlan r) : t_cell cA ad (r, 1) w = .inl (cA 2, 12, t_rf (fun i => ad r (4 + i))) := by
  unfold isPlan at hr
  simp only [t_cell]
  rw [if_neg (by omega), if_neg (by omega), if_neg (by omega), if_neg (by omega), if_neg (by omega), if_pos trivial]
theorem tc_mi (hr : isPlan r) : t_cell cA ad (r, 2) w = .inl (cA 0, 4, .inl w) := by
  unfold isPlan at hr
  simp only [t_cell]
  rw [if_neg (by omega), if_neg (by omega), if_neg (by omega), if_neg (by omega), if_neg (by omega), if_neg (by omega), if_pos trivial]
theorem tc_ev (hr : isPlan r) : t_cell cA ad (r, 3) w = .inl (cA 0, 48, .inl w) := by
  unfold isPlan at hr
  simp only [t_cell]
  rw [if_neg (by omega), if_neg (by omega), if_neg (by omega), if_neg (by omega), if_neg (by omega), if_neg (by omega), if_neg (by omega), if_pos trivial]
theorem tc_st (hr : isPlan r) {i : Nat} : t_cell cA ad (r, 4 + i) w = .inr (7, l_st w) := by
  unfold isPlan at hr
  simp only [t_cell]
  rw [if_neg (by omega), if_neg (by omega), if_neg (by omega), if_neg (by omega), if_neg (by omega), if_neg (by omega), if_neg (by omega), if_neg (by omega)]
theorem tc_or {i : Nat} : t_cell cA ad (13, 3 + i) w = .inr (4, l_or w) := by
  simp only [t_cell]
  rw [if_neg (by omega), if_pos trivial, if_neg (by omega), if_neg (by omega), if_neg (by omega)]
theorem tc_tf : t_cell cA ad (0, 0) w = .inr (8, l_tf ad w) := rfl
theorem tc_marks : t_cell cA ad (0, 1) w = .inl (cA 4, 9, t_rf (fun i => ad (4 + i) 0)) := rfl
theorem tc_ot : t_cell cA ad (13, 0) w = .inr (5, l_ot ad w) := rfl
theorem tc_os : t_cell cA ad (13, 1) w = .inl (cA 1, 60, .inl w) := rfl
theorem tc_oo : t_cell cA ad (13, 2) w = .inl (cA 3, 12, t_rf (fun i => ad 13 (3 + i))) := rfl
theorem tc_ln : t_cell cA ad (14, 0) w = .inr (3, l_ln ad w) := rfl
theorem tc_ls : t_cell cA ad (14, 1) w = .inl (cA 1, 64, .inl w) := rfl
theorem tc_ch : t_cell cA ad (15, 0) w = .inr (2, l_ch ad) := rfl
theorem tc_cn : t_cell cA ad (15, 1) w = .inl (cA 0, 12, .inl w) := rfl
theorem tc_cr : t_cell cA ad (15, 2) w = .inl (cA 0, 12, .inl w) := rfl
end
theorem or_ok {i : Nat} (hi : i < 12) : 13 < 16 ∧ 3 + i < t_size 13 := ⟨by omega, by show 3 + i < 15; omega⟩
theorem sm_ok {r j : Nat} (h : (Nat.blt r 16 && Nat.blt j (t_size r)) = true) : r < 16 ∧ j < t_size r := by
  simp only [Bool.and_eq_true, Nat.blt_eq] at h
  exact h
section
variable {cc : ByteArray} {own : String} {nL : Nat} {ret : Option FieldType} {rm : Room} {mc ms : Nat} {cA : Nat → ClassId} {ad : tA} {Q : Option Value → va_W → tM → Prop} {ex : va_W} {cells slots pc : Nat} {lv : List (Option Value)} {st : List Value} {M : tM}
theorem ob_pl {r : Nat} (hr : isPlan r) : isRc cA ad ex M (ad r 0) RX4 := rc_ob ⟨r, 0, 6, _, _, pl_ok hr (by omega), rfl, tc_pl hr, rfl, rfl⟩
theorem ob_st {r i : Nat} (hr : isPlan r) (hi : i < 12) : isRc cA ad ex M (ad r (4 + i)) RX5 := rc_ob ⟨r, 4 + i, 7, _, _, pl_ok hr (by omega), rfl, tc_st hr, rfl, rfl⟩
theorem ob_or {i : Nat} (hi : i < 12) : isRc cA ad ex M (ad 13 (3 + i)) RX2 := rc_ob ⟨13, 3 + i, 4, _, _, or_ok hi, rfl, tc_or, rfl, rfl⟩
theorem ob_tf : isRc cA ad ex M (ad 0 0) RX6 := rc_ob ⟨0, 0, 8, _, _, sm_ok rfl, rfl, tc_tf, rfl, rfl⟩
theorem ob_ot : isRc cA ad ex M (ad 13 0) RX3 := rc_ob ⟨13, 0, 5, _, _, sm_ok rfl, rfl, tc_ot, rfl, rfl⟩
theorem ob_ln : isRc cA ad ex M (ad 14 0) RX1 := rc_ob ⟨14, 0, 3, _, _, sm_ok rfl, rfl, tc_ln, rfl, rfl⟩
theorem ob_ch : isRc cA ad ex M (ad 15 0) RX0 := rc_ob ⟨15, 0, 2, _, _, sm_ok rfl, rfl, tc_ch, rfl, rfl⟩
theorem r_get_pl {idx : Nat} {r : Nat} (hr : isPlan r) {v : Value} (kf : Nat) (hk : kf < 14) (hw : Cond.fieldLink own idx (TX4 kf).1 (TX4 kf).2.1 (TX4 kf).2.2.1 ∈ wsL_law) (hv : (l_pl ad r (M r 0))[kf]? = some v) (hd : decode cc pc = .ok (.getfield idx, 3)) (k : Rj cc own nL ret rm mc ms cA ad Q ex cells slots (pc + 3) lv (v :: st) M) : Rj cc own nL ret rm mc ms cA ad Q ex cells slots pc lv (.ref (ad r 0) :: st) M := r_getg (pl_ok hr (by omega)) (tc_pl hr) rfl inlX4 kf hk hw hv hd k
theorem r_put_pl {idx : Nat} {r : Nat} (hr : isPlan r) {x : Int32} {ty : FieldType} (kf : Nat) (hk : kf < 14) (hw : Cond.fieldLink own idx (TX4 kf).1 (TX4 kf).2.1 (TX4 kf).2.2.1 ∈ wsL_law) (hfin : (TX4 kf).2.2.2 = false) (het : tyX4 kf = ty) (hn : narrow ty (.int x) = .int x) (hfit : fits ty (.int x) = true) (hset : l_pl ad r (upd (M r 0) kf x) = (l_pl ad r (M r 0)).set kf (.int x)) (hd : decode cc pc = .ok (.putfield idx, 3)) (k : Rj cc own nL ret rm mc ms cA ad Q ex cells slots (pc + 3) lv st (m_set M r 0 (upd (M r 0) kf x))) : Rj cc own nL ret rm mc ms cA ad Q ex cells slots pc lv (.int x :: .ref (ad r 0) :: st) M := r_putg (upd (M r 0) kf x) (pl_ok hr (by omega)) (tc_pl hr) rfl inlX4 tyX4 tyX4_ok nmX4 kf hk hk hw hfin het hn hfit (by rw [tc_pl hr, hset]) hd k
theorem r_get_st {idx : Nat} {r i : Nat} (hr : isPlan r) (hi : i < 12) {v : Value} (kf : Nat) (hk : kf < 11) (hw : Cond.fieldLink own idx (TX5 kf).1 (TX5 kf).2.1 (TX5 kf).2.2.1 ∈ wsL_law) (hv : (l_st (M r (4 + i)))[kf]? = some v) (hd : decode cc pc = .ok (.getfield idx, 3)) (k : Rj cc own nL ret rm mc ms cA ad Q ex cells slots (pc + 3) lv (v :: st) M) : Rj cc own nL ret rm mc ms cA ad Q ex cells slots pc lv (.ref (ad r (4 + i)) :: st) M := r_getg (pl_ok hr (by omega)) (tc_st hr) rfl inlX5 kf hk hw hv hd k
theorem r_put_st {idx : Nat} {r i : Nat} (hr : isPlan r) (hi : i < 12) {x : Int32} {ty : FieldType} (kf : Nat) (hk : kf < 11) (hw : Cond.fieldLink own idx (TX5 kf).1 (TX5 kf).2.1 (TX5 kf).2.2.1 ∈ wsL_law) (hfin : (TX5 kf).2.2.2 = false) (het : tyX5 kf = ty) (hn : narrow ty (.int x) = .int x) (hfit : fits ty (.int x) = true) (hset : l_st (upd (M r (4 + i)) kf x) = (l_st (M r (4 + i))).set kf (.int x)) (hd : decode cc pc = .ok (.putfield idx, 3)) (k : Rj cc own nL ret rm mc ms cA ad Q ex cells slots (pc + 3) lv st (m_set M r (4 + i) (upd (M r (4 + i)) kf x))) : Rj cc own nL ret rm mc ms cA ad Q ex cells slots pc lv (.int x :: .ref (ad r (4 + i)) :: st) M := r_putg (upd (M r (4 + i)) kf x) (pl_ok hr (by omega)) (tc_st hr) rfl inlX5 tyX5 tyX5_ok nmX5 kf hk hk hw hfin het hn hfit (by rw [tc_st hr, hset]) hd k
theorem r_get_or {idx : Nat} {i : Nat} (hi : i < 12) {v : Value} (kf : Nat) (hk : kf < 5) (hw : Cond.fieldLink own idx (TX2 kf).1 (TX2 kf).2.1 (TX2 kf).2.2.1 ∈ wsL_law) (hv : (l_or (M 13 (3 + i)))[kf]? = some v) (hd : decode cc pc = .ok (.getfield idx, 3)) (k : Rj cc own nL ret rm mc ms cA ad Q ex cells slots (pc + 3) lv (v :: st) M) : Rj cc own nL ret rm mc ms cA ad Q ex cells slots pc lv (.ref (ad 13 (3 + i)) :: st) M := r_getg (or_ok hi) tc_or rfl inlX2 kf hk hw hv hd k
theorem r_put_or {idx : Nat} {i : Nat} (hi : i < 12) {x : Int32} {ty : FieldType} (kf : Nat) (hk : kf < 5) (hw : Cond.fieldLink own idx (TX2 kf).1 (TX2 kf).2.1 (TX2 kf).2.2.1 ∈ wsL_law) (hfin : (TX2 kf).2.2.2 = false) (het : tyX2 kf = ty) (hn : narrow ty (.int x) = .int x) (hfit : fits ty (.int x) = true) (hset : l_or (upd (M 13 (3 + i)) kf x) = (l_or (M 13 (3 + i))).set kf (.int x)) (hd : decode cc pc = .ok (.putfield idx, 3)) (k : Rj cc own nL ret rm mc ms cA ad Q ex cells slots (pc + 3) lv st (m_set M 13 (3 + i) (upd (M 13 (3 + i)) kf x))) : Rj cc own nL ret rm mc ms cA ad Q ex cells slots pc lv (.int x :: .ref (ad 13 (3 + i)) :: st) M := r_putg (upd (M 13 (3 + i)) kf x) (or_ok hi) tc_or rfl inlX2 tyX2 tyX2_ok nmX2 kf hk hk hw hfin het hn hfit (by rw [tc_or, hset]) hd k
theorem r_get_tf {idx : Nat}  {v : Value} (kf : Nat) (hk : kf < 13) (hw : Cond.fieldLink own idx (TX6 kf).1 (TX6 kf).2.1 (TX6 kf).2.2.1 ∈ wsL_law) (hv : (l_tf ad (M 0 0))[kf]? = some v) (hd : decode cc pc = .ok (.getfield idx, 3)) (k : Rj cc own nL ret rm mc ms cA ad Q ex cells slots (pc + 3) lv (v :: st) M) : Rj cc own nL ret rm mc ms cA ad Q ex cells slots pc lv (.ref (ad 0 0) :: st) M := r_getg (sm_ok rfl) tc_tf rfl inlX6 kf hk hw hv hd k
theorem r_put_tf {idx : Nat}  {x : Int32} {ty : FieldType} (kf : Nat) (hk : kf < 13) (hw : Cond.fieldLink own idx (TX6 kf).1 (TX6 kf).2.1 (TX6 kf).2.2.1 ∈ wsL_law) (hfin : (TX6 kf).2.2.2 = false) (het : tyX6 kf = ty) (hn : narrow ty (.int x) = .int x) (hfit : fits ty (.int x) = true) (hset : l_tf ad (upd (M 0 0) kf x) = (l_tf ad (M 0 0)).set kf (.int x)) (hd : decode cc pc = .ok (.putfield idx, 3)) (k : Rj cc own nL ret rm mc ms cA ad Q ex cells slots (pc + 3) lv st (m_set M 0 0 (upd (M 0 0) kf x))) : Rj cc own nL ret rm mc ms cA ad Q ex cells slots pc lv (.int x :: .ref (ad 0 0) :: st) M := r_putg (upd (M 0 0) kf x) (sm_ok rfl) tc_tf rfl inlX6 tyX6 tyX6_ok nmX6 kf hk hk hw hfin het hn hfit (by rw [tc_tf, hset]) hd k
theorem r_get_ot {idx : Nat}  {v : Value} (kf : Nat) (hk : kf < 5) (hw : Cond.fieldLink own idx (TX3 kf).1 (TX3 kf).2.1 (TX3 kf).2.2.1 ∈ wsL_law) (hv : (l_ot ad (M 13 0))[kf]? = some v) (hd : decode cc pc = .ok (.getfield idx, 3)) (k : Rj cc own nL ret rm mc ms cA ad Q ex cells slots (pc + 3) lv (v :: st) M) : Rj cc own nL ret rm mc ms cA ad Q ex cells slots pc lv (.ref (ad 13 0) :: st) M := r_getg (sm_ok rfl) tc_ot rfl inlX3 kf hk hw hv hd k
theorem r_put_ot {idx : Nat}  {x : Int32} {ty : FieldType} (kf : Nat) (hk : kf < 5) (hw : Cond.fieldLink own idx (TX3 kf).1 (TX3 kf).2.1 (TX3 kf).2.2.1 ∈ wsL_law) (hfin : (TX3 kf).2.2.2 = false) (het : tyX3 kf = ty) (hn : narrow ty (.int x) = .int x) (hfit : fits ty (.int x) = true) (hset : l_ot ad (upd (M 13 0) kf x) = (l_ot ad (M 13 0)).set kf (.int x)) (hd : decode cc pc = .ok (.putfield idx, 3)) (k : Rj cc own nL ret rm mc ms cA ad Q ex cells slots (pc + 3) lv st (m_set M 13 0 (upd (M 13 0) kf x))) : Rj cc own nL ret rm mc ms cA ad Q ex cells slots pc lv (.int x :: .ref (ad 13 0) :: st) M := r_putg (upd (M 13 0) kf x) (sm_ok rfl) tc_ot rfl inlX3 tyX3 tyX3_ok nmX3 kf hk hk hw hfin het hn hfit (by rw [tc_ot, hset]) hd k
theorem r_get_ln {idx : Nat}  {v : Value} (kf : Nat) (hk : kf < 2) (hw : Cond.fieldLink own idx (TX1 kf).1 (TX1 kf).2.1 (TX1 kf).2.2.1 ∈ wsL_law) (hv : (l_ln ad (M 14 0))[kf]? = some v) (hd : decode cc pc = .ok (.getfield idx, 3)) (k : Rj cc own nL ret rm mc ms cA ad Q ex cells slots (pc + 3) lv (v :: st) M) : Rj cc own nL ret rm mc ms cA ad Q ex cells slots pc lv (.ref (ad 14 0) :: st) M := r_getg (sm_ok rfl) tc_ln rfl inlX1 kf hk hw hv hd k
theorem r_put_ln {idx : Nat}  {x : Int32} {ty : FieldType} (kf : Nat) (hk : kf < 2) (hw : Cond.fieldLink own idx (TX1 kf).1 (TX1 kf).2.1 (TX1 kf).2.2.1 ∈ wsL_law) (hfin : (TX1 kf).2.2.2 = false) (het : tyX1 kf = ty) (hn : narrow ty (.int x) = .int x) (hfit : fits ty (.int x) = true) (hset : l_ln ad (upd (M 14 0) kf x) = (l_ln ad (M 14 0)).set kf (.int x)) (hd : decode cc pc = .ok (.putfield idx, 3)) (k : Rj cc own nL ret rm mc ms cA ad Q ex cells slots (pc + 3) lv st (m_set M 14 0 (upd (M 14 0) kf x))) : Rj cc own nL ret rm mc ms cA ad Q ex cells slots pc lv (.int x :: .ref (ad 14 0) :: st) M := r_putg (upd (M 14 0) kf x) (sm_ok rfl) tc_ln rfl inlX1 tyX1 tyX1_ok nmX1 kf hk hk hw hfin het hn hfit (by rw [tc_ln, hset]) hd k
theorem r_get_ch {idx : Nat} {v : Value} (kf : Nat) (hk : kf < 2) (hw : Cond.fieldLink own idx (TX0 kf).1 (TX0 kf).2.1 (TX0 kf).2.2.1 ∈ wsL_law) (hv : (l_ch ad)[kf]? = some v) (hd : decode cc pc = .ok (.getfield idx, 3)) (k : Rj cc own nL ret rm mc ms cA ad Q ex cells slots (pc + 3) lv (v :: st) M) : Rj cc own nL ret rm mc ms cA ad Q ex cells slots pc lv (.ref (ad 15 0) :: st) M := r_getg (sm_ok rfl) tc_ch rfl inlX0 kf hk hw hv hd k
theorem r_ald_steps {i : Nat} {x : Int32} {r : Nat} (hr : isPlan r) (hx : x = nI i) (hi : i < 12) (hd : decode cc pc = .ok (.aaload, 1)) (k : Rj cc own nL ret rm mc ms cA ad Q ex cells slots (pc + 1) lv (.ref (ad r (4 + i)) :: st) M) : Rj cc own nL ret rm mc ms cA ad Q ex cells slots pc lv (.int x :: .ref (ad r 1) :: st) M := by
  subst hx
  refine r_aldg (t0 := 2) (pl_ok hr (by omega)) (tc_steps hr) (fun _ => rfl) (vp_in_nI hi (by omega)) hd ?_
  rw [nI_clamp (by omega)]
  exact k
theorem r_ald_orders {i : Nat} {x : Int32}  (hx : x = nI i) (hi : i < 12) (hd : decode cc pc = .ok (.aaload, 1)) (k : Rj cc own nL ret rm mc ms cA ad Q ex cells slots (pc + 1) lv (.ref (ad 13 (3 + i)) :: st) M) : Rj cc own nL ret rm mc ms cA ad Q ex cells slots pc lv (.int x :: .ref (ad 13 2) :: st) M := by
  subst hx
  refine r_aldg (t0 := 3) (sm_ok rfl) tc_oo (fun _ => rfl) (vp_in_nI hi (by omega)) hd ?_
  rw [nI_clamp (by omega)]
  exact k
theorem r_ald_marks {i : Nat} {x : Int32}  (hx : x = nI i) (hi : i < 9) (hd : decode cc pc = .ok (.aaload, 1)) (k : Rj cc own nL ret rm mc ms cA ad Q ex cells slots (pc + 1) lv (.ref (ad (4 + i) 0) :: st) M) : Rj cc own nL ret rm mc ms cA ad Q ex cells slots pc lv (.int x :: .ref (ad 0 1) :: st) M := by
  subst hx
  refine r_aldg (t0 := 4) (sm_ok rfl) tc_marks (fun _ => rfl) (vp_in_nI hi (by omega)) hd ?_
  rw [nI_clamp (by omega)]
  exact k
theorem r_ld_mi {i : Nat} {x : Int32} {r : Nat} (hr : isPlan r) (hx : x = nI i) (hi : i < 4) (hd : decode cc pc = .ok (.iaload, 1)) (k : Rj cc own nL ret rm mc ms cA ad Q ex cells slots (pc + 1) lv (.int (M r 2 i) :: st) M) : Rj cc own nL ret rm mc ms cA ad Q ex cells slots pc lv (.int x :: .ref (ad r 2) :: st) M := by
  subst hx
  refine r_ialdg (pl_ok hr (by omega)) (tc_mi hr) (vp_in_nI hi (by omega)) hd ?_
  rw [nI_clamp (by omega)]
  exact k
theorem r_str_mi {i : Nat} {x y : Int32} {r : Nat} (hr : isPlan r) (hx : x = nI i) (hi : i < 4) (hd : decode cc pc = .ok (.iastore, 1)) (k : Rj cc own nL ret rm mc ms cA ad Q ex cells slots (pc + 1) lv st (m_set M r 2 (upd (M r 2) i y))) : Rj cc own nL ret rm mc ms cA ad Q ex cells slots pc lv (.int y :: .int x :: .ref (ad r 2) :: st) M := by
  subst hx
  refine r_iastg (upd (M r 2) i y) (pl_ok hr (by omega)) (tc_mi hr) (vp_in_nI hi (by omega)) ?_ hd k
  rw [nI_clamp (by omega)]
  exact (tc_mi hr)
theorem r_ld_ev {i : Nat} {x : Int32} {r : Nat} (hr : isPlan r) (hx : x = nI i) (hi : i < 48) (hd : decode cc pc = .ok (.iaload, 1)) (k : Rj cc own nL ret rm mc ms cA ad Q ex cells slots (pc + 1) lv (.int (M r 3 i) :: st) M) : Rj cc own nL ret rm mc ms cA ad Q ex cells slots pc lv (.int x :: .ref (ad r 3) :: st) M := by
  subst hx
  refine r_ialdg (pl_ok hr (by omega)) (tc_ev hr) (vp_in_nI hi (by omega)) hd ?_
  rw [nI_clamp (by omega)]
  exact k
theorem r_str_ev {i : Nat} {x y : Int32} {r : Nat} (hr : isPlan r) (hx : x = nI i) (hi : i < 48) (hd : decode cc pc = .ok (.iastore, 1)) (k : Rj cc own nL ret rm mc ms cA ad Q ex cells slots (pc + 1) lv st (m_set M r 3 (upd (M r 3) i y))) : Rj cc own nL ret rm mc ms cA ad Q ex cells slots pc lv (.int y :: .int x :: .ref (ad r 3) :: st) M := by
  subst hx
  refine r_iastg (upd (M r 3) i y) (pl_ok hr (by omega)) (tc_ev hr) (vp_in_nI hi (by omega)) ?_ hd k
  rw [nI_clamp (by omega)]
  exact (tc_ev hr)
theorem r_ld_cn {i : Nat} {x : Int32}  (hx : x = nI i) (hi : i < 12) (hd : decode cc pc = .ok (.iaload, 1)) (k : Rj cc own nL ret rm mc ms cA ad Q ex cells slots (pc + 1) lv (.int (M 15 1 i) :: st) M) : Rj cc own nL ret rm mc ms cA ad Q ex cells slots pc lv (.int x :: .ref (ad 15 1) :: st) M := by
  subst hx
  refine r_ialdg (sm_ok rfl) tc_cn (vp_in_nI hi (by omega)) hd ?_
  rw [nI_clamp (by omega)]
  exact k
theorem r_str_cn {i : Nat} {x y : Int32}  (hx : x = nI i) (hi : i < 12) (hd : decode cc pc = .ok (.iastore, 1)) (k : Rj cc own nL ret rm mc ms cA ad Q ex cells slots (pc + 1) lv st (m_set M 15 1 (upd (M 15 1) i y))) : Rj cc own nL ret rm mc ms cA ad Q ex cells slots pc lv (.int y :: .int x :: .ref (ad 15 1) :: st) M := by
  subst hx
  refine r_iastg (upd (M 15 1) i y) (sm_ok rfl) tc_cn (vp_in_nI hi (by omega)) ?_ hd k
  rw [nI_clamp (by omega)]
  exact tc_cn
theorem r_ld_cr {i : Nat} {x : Int32}  (hx : x = nI i) (hi : i < 12) (hd : decode cc pc = .ok (.iaload, 1)) (k : Rj cc own nL ret rm mc ms cA ad Q ex cells slots (pc + 1) lv (.int (M 15 2 i) :: st) M) : Rj cc own nL ret rm mc ms cA ad Q ex cells slots pc lv (.int x :: .ref (ad 15 2) :: st) M := by
  subst hx
  refine r_ialdg (sm_ok rfl) tc_cr (vp_in_nI hi (by omega)) hd ?_
  rw [nI_clamp (by omega)]
  exact k
theorem r_str_cr {i : Nat} {x y : Int32}  (hx : x = nI i) (hi : i < 12) (hd : decode cc pc = .ok (.iastore, 1)) (k : Rj cc own nL ret rm mc ms cA ad Q ex cells slots (pc + 1) lv st (m_set M 15 2 (upd (M 15 2) i y))) : Rj cc own nL ret rm mc ms cA ad Q ex cells slots pc lv (.int y :: .int x :: .ref (ad 15 2) :: st) M := by
  subst hx
  refine r_iastg (upd (M 15 2) i y) (sm_ok rfl) tc_cr (vp_in_nI hi (by omega)) ?_ hd k
  rw [nI_clamp (by omega)]
  exact tc_cr
theorem r_ld_os {i : Nat} {x : Int32}  (hx : x = nI i) (hi : i < 60) (hd : decode cc pc = .ok (.caload, 1)) (k : Rj cc own nL ret rm mc ms cA ad Q ex cells slots (pc + 1) lv (.int (M 13 1 i) :: st) M) : Rj cc own nL ret rm mc ms cA ad Q ex cells slots pc lv (.int x :: .ref (ad 13 1) :: st) M := by
  subst hx
  refine r_caldg (sm_ok rfl) tc_os (vp_in_nI hi (by omega)) hd ?_
  rw [nI_clamp (by omega)]
  exact k
theorem r_str_os {i : Nat} {x y : Int32}  (hx : x = nI i) (hi : i < 60) (hc : vp_nar .char y = y) (hd : decode cc pc = .ok (.castore, 1)) (k : Rj cc own nL ret rm mc ms cA ad Q ex cells slots (pc + 1) lv st (m_set M 13 1 (upd (M 13 1) i y))) : Rj cc own nL ret rm mc ms cA ad Q ex cells slots pc lv (.int y :: .int x :: .ref (ad 13 1) :: st) M := by
  subst hx
  refine r_castg (upd (M 13 1) i y) (sm_ok rfl) tc_os (vp_in_nI hi (by omega)) ?_ hd k
  rw [nI_clamp (by omega), hc]
  exact tc_os
theorem r_ld_ls {i : Nat} {x : Int32}  (hx : x = nI i) (hi : i < 64) (hd : decode cc pc = .ok (.caload, 1)) (k : Rj cc own nL ret rm mc ms cA ad Q ex cells slots (pc + 1) lv (.int (M 14 1 i) :: st) M) : Rj cc own nL ret rm mc ms cA ad Q ex cells slots pc lv (.int x :: .ref (ad 14 1) :: st) M := by
  subst hx
  refine r_caldg (sm_ok rfl) tc_ls (vp_in_nI hi (by omega)) hd ?_
  rw [nI_clamp (by omega)]
  exact k
theorem r_str_ls {i : Nat} {x y : Int32}  (hx : x = nI i) (hi : i < 64) (hc : vp_nar .char y = y) (hd : decode cc pc = .ok (.castore, 1)) (k : Rj cc own nL ret rm mc ms cA ad Q ex cells slots (pc + 1) lv st (m_set M 14 1 (upd (M 14 1) i y))) : Rj cc own nL ret rm mc ms cA ad Q ex cells slots pc lv (.int y :: .int x :: .ref (ad 14 1) :: st) M := by
  subst hx
  refine r_castg (upd (M 14 1) i y) (sm_ok rfl) tc_ls (vp_in_nI hi (by omega)) ?_ hd k
  rw [nI_clamp (by omega), hc]
  exact tc_ls
theorem r_copyg {idx : Nat} {n0 n1 r j r2 j2 : Nat} {f g : Nat → Int32} {sp dp n : Int32} (w : Nat → Int32) (hj : r < 16 ∧ j < t_size r) (hj2 : r2 < 16 ∧ j2 < t_size r2) (hc : t_cell cA ad (r, j) (M r j) = .inl (cA 0, n1, .inl g)) (hc2 : t_cell cA ad (r2, j2) (M r2 j2) = .inl (cA 0, n0, .inl f)) (h1 : ¬ sp < 0) (h2 : ¬ dp < 0) (h3 : ¬ n < 0) (h4 : sp.toNatClampNeg + n.toNatClampNeg ≤ n0) (h5 : dp.toNatClampNeg + n.toNatClampNeg ≤ n1) (hset : t_cell cA ad (r, j) w = .inl (cA 0, n1, .inl (va_cpy f g sp.toNatClampNeg dp.toNatClampNeg n.toNatClampNeg))) (hw : Cond.methodLink own idx arraycopyName ∈ wsL_law) (hw2 : Cond.native arraycopyName ∈ wsL_law) (hw3 : Cond.static arraycopyName ∈ wsL_law) (hw4 : Cond.initialized "java/lang/System" ∈ wsL_law) (hfr : 1 ≤ rm.frames) (hlo : (st.map fun v => v.category).sum + (nativeFrameWords "java/lang/System" "arraycopy" 5 + 11) ≤ rm.locals) (hd : decode cc pc = .ok (.invokestatic idx, 3)) (k : Rj cc own nL ret rm mc ms cA ad Q ex cells slots (pc + 3) lv st (m_set M r j w)) : Rj cc own nL ret rm mc ms cA ad Q ex cells slots pc lv (.int n :: .int dp :: .ref (ad r j) :: .int sp :: .ref (ad r2 j2) :: st) M := by
  intro p l e s m args below meth c G tx A Qc free d0 X E hd0 H locs ls hP hD hS hl
  obtain ⟨q0, hq, -⟩ := wsT_at (cA := cA) (ad := ad) (ex := ex) (M := M) hj2
  obtain ⟨q1, hq1, hs⟩ := wsT_at (cA := cA) (ad := ad) (ex := ex) (M := M) hj
  rw [hc2] at hq
  rw [hc] at hq1
  have hs2 := hs w
  rw [hset] at hs2
  have hts := dr_words X.2.2.2.2.1 d0
  refine va_copyi (s := s.setDrawn d0) X.1 X.2.1 (X.2.2.1.trans hl.1.symm) X.2.2.2.1 (hts _ hw) (hts _ hw2) (hts _ hw3) (hts _ hw4) X.2.2.2.2.2.2.2.1 hP hD hS q0 q1 0 0 hq hq1 rfl rfl rfl h1 h2 h3 h4 h5 (fun i _ => rfl) hfr hlo hd (fun H1 locs1 hP1 hD1 hS1 => ?_)
  rw [hs2] at hP1 hD1
  exact k p l e s m args below meth c G tx A Qc free d0 X E hd0 H1 locs1 ls hP1 hD1 hS1 hl
theorem r_mmax {idx : Nat} {x y : Int32} (hw : Cond.methodLink own idx Lib.Math.max.name ∈ wsL_law) (hw2 : Cond.static Lib.Math.max.name ∈ wsL_law) (hw3 : Cond.initialized "java/lang/Math" ∈ wsL_law) (hw4 : Cond.code Lib.Math.max.name Lib.Math.max.code 2 (some .int) ∈ wsL_law) (hfr : 1 ≤ rm.frames) (hlo : (st.map fun v => v.category).sum + 13 ≤ rm.locals) (hc : cells ≤ rm.cells) (hs : slots ≤ rm.slots) (hd : decode cc pc = .ok (.invokestatic idx, 3)) (k : Rj cc own nL ret rm mc ms cA ad Q ex cells slots (pc + 3) lv (.int (if x < y then y else x) :: st) M) : Rj cc own nL ret rm mc ms cA ad Q ex cells slots pc lv (.int y :: .int x :: st) M := by
  intro p l e s m args below meth c G tx A Qc free d0 X E hd0 H locs ls hP hD hS hl
  have hts := dr_words X.2.2.2.2.1 d0
  exact va_mmax (s := s.setDrawn d0) X.1 X.2.1 (X.2.2.1.trans hl.1.symm) X.2.2.2.1 (hts _ hw) (hts _ hw2) (hts _ hw3) (hts _ hw4) hfr hlo hc hs hd (k p l e s m args below meth c G tx A Qc free d0 X E hd0 H locs ls hP hD hS hl)
/-- the usual post: an answer, the world outside unchanged, a new matrix -/
def Qe (v0 : Option Value) (ex0 : va_W) (M0 : tM) : Option Value → va_W → tM → Prop := fun v x m => v = v0 ∧ x = ex0 ∧ m = M0
theorem rm_le {d d2 nL2 : Nat} (h : (Nat.ble (d2 + 1) d && Nat.ble nL2 41) = true) : (rmd d2).frames + 1 ≤ (rmd d).frames ∧ 8 + (nL2 + 11) + (rmd d2).locals ≤ (rmd d).locals := by
  simp only [Bool.and_eq_true, Nat.ble_eq] at h
  exact ⟨h.1, by show 8 + (nL2 + 11) + 60 * d2 ≤ 60 * d; omega⟩
theorem r_cVi {idx n nL2 d d2 : Nat} {y : MethodName} {cc2 : ByteArray} {ret2 : Option FieldType} {As rest : List Value} {M2 : tM} {va : Value} {C : String} {b : Nat} (hd : decode cc pc = .ok (.invokevirtual idx, 3)) (hC : Cj y cc2 nL2 ret2 (rmd d2) 0 0 cA ad (.ref b :: As) ex M (Qe (some va) ex M2)) (hG : GoodIn wsL_law (wsV own idx C y (.code y cc2 nL2 ret2 :: wsL_law))) (hdc : y.cls = C ∧ y.cls ≠ "java/lang/invoke/MethodHandle" ∧ y.cls ≠ "java/lang/invoke/VarHandle" ∧ (parseMethodDescriptor y.desc).map (fun d => d.parameters.length) = some n) (hst : st = As.reverse ++ .ref b :: rest) (hn : As.length = n) (hR : (Nat.ble (d2 + 1) d && Nat.ble nL2 41) = true) (hcat : (rest.map fun v => v.category).sum ≤ 8) (hob : isRc cA ad ex M b C) (k : Rj cc own nL ret (rmd d) 0 0 cA ad Q ex 0 0 (pc + 3) lv (va :: rest) M2) : Rj cc own nL ret (rmd d) 0 0 cA ad Q ex 0 0 pc lv st M :=
  r_callV hd hC hG hdc hst hn rfl rfl (rm_le hR) hcat ⟨Nat.le_refl _, Nat.le_refl _⟩ hob (fun v x m h => by obtain ⟨rfl, rfl, rfl⟩ := h; exact k)
theorem r_cSi {idx n nL2 d d2 : Nat} {y : MethodName} {cc2 : ByteArray} {ret2 : Option FieldType} {As rest : List Value} {M2 : tM} {va : Value} (hd : decode cc pc = .ok (.invokestatic idx, 3)) (hC : Cj y cc2 nL2 ret2 (rmd d2) 0 0 cA ad As ex M (Qe (some va) ex M2)) {C0 : String} (hG : gS own idx y cc2 nL2 ret2) (hdc : y.cls = C0 ∧ y.cls ≠ "java/lang/invoke/MethodHandle" ∧ y.cls ≠ "java/lang/invoke/VarHandle" ∧ (parseMethodDescriptor y.desc).map (fun d => d.parameters.length) = some n) (hst : st = As.reverse ++ rest) (hn : As.length = n) (hR : (Nat.ble (d2 + 1) d && Nat.ble nL2 41) = true) (hcat : (rest.map fun v => v.category).sum ≤ 8) (k : Rj cc own nL ret (rmd d) 0 0 cA ad Q ex 0 0 (pc + 3) lv (va :: rest) M2) : Rj cc own nL ret (rmd d) 0 0 cA ad Q ex 0 0 pc lv st M :=
  r_callS hd hC hG hdc hst hn rfl rfl (rm_le hR) hcat ⟨Nat.le_refl _, Nat.le_refl _⟩ (fun v x m h => by obtain ⟨rfl, rfl, rfl⟩ := h; exact k)
theorem r_cVv {idx n nL2 d d2 : Nat} {y : MethodName} {cc2 : ByteArray} {ret2 : Option FieldType} {As rest : List Value} {M2 : tM}  {C : String} {b : Nat} (hd : decode cc pc = .ok (.invokevirtual idx, 3)) (hC : Cj y cc2 nL2 ret2 (rmd d2) 0 0 cA ad (.ref b :: As) ex M (Qe none ex M2)) (hG : GoodIn wsL_law (wsV own idx C y (.code y cc2 nL2 ret2 :: wsL_law))) (hdc : y.cls = C ∧ y.cls ≠ "java/lang/invoke/MethodHandle" ∧ y.cls ≠ "java/lang/invoke/VarHandle" ∧ (parseMethodDescriptor y.desc).map (fun d => d.parameters.length) = some n) (hst : st = As.reverse ++ .ref b :: rest) (hn : As.length = n) (hR : (Nat.ble (d2 + 1) d && Nat.ble nL2 41) = true) (hcat : (rest.map fun v => v.category).sum ≤ 8) (hob : isRc cA ad ex M b C) (k : Rj cc own nL ret (rmd d) 0 0 cA ad Q ex 0 0 (pc + 3) lv rest M2) : Rj cc own nL ret (rmd d) 0 0 cA ad Q ex 0 0 pc lv st M :=
  r_callV hd hC hG hdc hst hn rfl rfl (rm_le hR) hcat ⟨Nat.le_refl _, Nat.le_refl _⟩ hob (fun v x m h => by obtain ⟨rfl, rfl, rfl⟩ := h; exact k)
theorem r_cSv {idx n nL2 d d2 : Nat} {y : MethodName} {cc2 : ByteArray} {ret2 : Option FieldType} {As rest : List Value} {M2 : tM}  (hd : decode cc pc = .ok (.invokestatic idx, 3)) (hC : Cj y cc2 nL2 ret2 (rmd d2) 0 0 cA ad As ex M (Qe none ex M2)) {C0 : String} (hG : gS own idx y cc2 nL2 ret2) (hdc : y.cls = C0 ∧ y.cls ≠ "java/lang/invoke/MethodHandle" ∧ y.cls ≠ "java/lang/invoke/VarHandle" ∧ (parseMethodDescriptor y.desc).map (fun d => d.parameters.length) = some n) (hst : st = As.reverse ++ rest) (hn : As.length = n) (hR : (Nat.ble (d2 + 1) d && Nat.ble nL2 41) = true) (hcat : (rest.map fun v => v.category).sum ≤ 8) (k : Rj cc own nL ret (rmd d) 0 0 cA ad Q ex 0 0 (pc + 3) lv rest M2) : Rj cc own nL ret (rmd d) 0 0 cA ad Q ex 0 0 pc lv st M :=
  r_callS hd hC hG hdc hst hn rfl rfl (rm_le hR) hcat ⟨Nat.le_refl _, Nat.le_refl _⟩ (fun v x m h => by obtain ⟨rfl, rfl, rfl⟩ := h; exact k)
theorem r_ret {d : Nat} {ty : FieldType} {v : Int32} {M2 : tM} (hr : ret = some ty) (hn : narrow ty (.int v) = .int v) (hd : decode cc pc = .ok (.ireturn, 1)) {v2 : Int32} (hv : v = v2) (hM : M = M2) : Rj cc own nL ret (rmd d) 0 0 cA ad (Qe (some (.int v2)) ex M2) ex 0 0 pc lv [.int v] M := r_zret hr hn hd (Nat.le_refl _) (Nat.le_refl _) ⟨by rw [hv], rfl, hM⟩
theorem r_retv {d : Nat} {M2 : tM} (hr : ret = none) (hd : decode cc pc = .ok (.return_, 1)) (hM : M = M2) : Rj cc own nL ret (rmd d) 0 0 cA ad (Qe none ex M2) ex 0 0 pc lv [] M := r_vret hr hd (Nat.le_refl _) (Nat.le_refl _) ⟨rfl, rfl, hM⟩
end

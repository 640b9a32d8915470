/-! PART 16: what the changes keep (okP); meanDays, wrongShare, run -/
/-- the milestones' steps are there -/
def okU (P : tP) : Prop := ∀ k, k < mn P → P 2 k = nI (ms P k) ∧ ms P k < cn P
def okP (P : tP) : Prop := okc P ∧ okb P ∧ oke P ∧ okh P ∧ okn P ∧ okU P ∧ okE P
theorem okU_M {P : tP} (h : okU P) (hc : okc P) : okM P := fun k hk => ⟨(h k hk).1, by have := (h k hk).2; have := hc.2; omega⟩
theorem kp_mn {P P' : tP} (h : kp P P') : mn P' = mn P := by rw [mn, mn, h.2.2.2.1]
theorem kp_okP {P P' : tP} (h : kp P P') (o : okP P) : okP P' := by
  obtain ⟨hc, hb, he, hh, hn, hs, hE⟩ := o
  refine ⟨kp_okc h hc, fun i hi => ?_, h.2.2.1 he, kp_okh h hh, ⟨by rw [h.2.2.2.1, kp_mn h]; exact hn.1, by rw [kp_mn h]; exact hn.2⟩, fun k hk => ?_, h.2.2.2.2.2.2 hE⟩
  · rw [h.2.2.2.2.2.1 i 3 (by omega) (by omega) (by omega) (by omega) (by omega)]; exact hb i hi
  · rw [kp_mn h] at hk
    have := hs k hk
    rw [ms, h.2.2.2.2.1, kp_cn h]
    exact this
theorem okP_same {P P' : tP} (h0 : ∀ k, k ≠ 8 → P' 0 k = P 0 k) (hh : okh P') (h2 : P' 2 = P 2) (h3 : ∀ i, P' (4 + i) 3 = P (4 + i) 3) (o : okP P) : okP P' := by
  obtain ⟨hc, hb, he, -, hn, hs, hE⟩ := o
  have ec1 : cn P' = cn P := by rw [cn, cn, h0 1 (by omega)]
  have em : mn P' = mn P := by rw [mn, mn, h0 3 (by omega)]
  refine ⟨okc_of ((h0 1 (by omega)).trans hc.1) hc.2, fun i hi => by rw [h3]; exact hb i hi, oke_eq (h0 5 (by omega)) he, hh, ⟨by rw [h0 3 (by omega), em]; exact hn.1, by rw [em]; exact hn.2⟩, fun k hk => ?_, okE_eq (h0 6 (by omega)) hE⟩
  rw [em] at hk
  rw [ms, h2, ec1]
  exact hs k hk
theorem okP_step4 {P : tP} {i k : Nat} {x : Int32} (hk : k ≠ 3) (o : okP P) : okP (pu P (4 + i) k x) := by
  refine okP_same (fun k _ => pu_j (by omega)) ?_ (pu_jj (by omega)) (fun j => pu_k (by omega)) o
  obtain ⟨a, b, c⟩ := o.2.2.2.1
  exact ⟨a, b, (pu_j (by omega)).trans c⟩
theorem okP_hands {P : tP} {m : Int32} (hm : ∃ h : Nat, h ≤ 4 ∧ m = nI h) (o : okP P) : okP (pu P 0 8 m) := by
  refine okP_same (fun k hk => pu_k (by omega)) ?_ (pu_jj (by omega)) (fun j => pu_j (by omega)) o
  obtain ⟨a, b, c⟩ := hm
  exact ⟨a, b, pu_s.trans c⟩
theorem f_tell_j {P : tP} {i j : Nat} {d m b a : Int32} (h : j ≠ 4 + i) : f_tell P i d m b a j = P j := by
  unfold f_tell
  rw [pu_jj h, pu_jj h, pu_jj h, pu_jj h, pu_jj h, pu_jj h, pu_jj h, pu_jj h, pu_jj h, pu_jj h, pu_jj h]
theorem f_tell_3 {P : tP} {i : Nat} {d m b a : Int32} : f_tell P i d m b a (4 + i) 3 = a := by
  unfold f_tell
  rw [pu_k (by omega), pu_k (by omega), pu_k (by omega), pu_k (by omega), pu_k (by omega), pu_k (by omega), pu_k (by omega), pu_s]
theorem okP_add1 {P : tP} {d m b : Int32} {a : Bool} (hlt : cn P < 12) (o : okP P) : okP (f_add1 P d m b (bI a)) := by
  obtain ⟨hc, hb, he, hh, hn, hs, hE⟩ := o
  have e0 : ∀ k, k ≠ 1 → f_add1 P d m b (bI a) 0 k = P 0 k := fun k hk => by show pu _ 0 1 _ 0 k = _; rw [pu_k hk, f_tell_0]
  have e1 : f_add1 P d m b (bI a) 0 1 = nI (cn P + 1) := by show pu _ 0 1 _ 0 1 = _; rw [pu_s, f_tell_0, hc.1, cn_of hc.1 hc.2]; exact nI_1 _
  have ec1 : cn (f_add1 P d m b (bI a)) = cn P + 1 := by rw [cn, e1]; exact nI_clamp (by omega)
  have em : mn (f_add1 P d m b (bI a)) = mn P := by rw [mn, mn, e0 3 (by omega)]
  refine ⟨okc_of e1 (by omega), fun i hi => ?_, oke_eq (e0 5 (by omega)) he, ?_, ⟨by rw [e0 3 (by omega), em]; exact hn.1, by rw [em]; exact hn.2⟩, fun k hk => ?_, okE_eq (e0 6 (by omega)) hE⟩
  · show pu (f_tell P (cn P) d m b (bI a)) 0 1 _ (4 + i) 3 = 0 ∨ pu (f_tell P (cn P) d m b (bI a)) 0 1 _ (4 + i) 3 = 1
    rw [pu_j (by omega)]
    by_cases hi2 : i = cn P
    · rw [hi2, f_tell_3]; cases a; exact Or.inl rfl; exact Or.inr rfl
    · rw [f_tell_j (by omega)]; exact hb i hi
  · obtain ⟨x, y, z⟩ := hh; exact ⟨x, y, (e0 8 (by omega)).trans z⟩
  · rw [em] at hk
    have e2 : f_add1 P d m b (bI a) 2 = P 2 := by show pu (f_tell P (cn P) d m b (bI a)) 0 1 _ 2 = P 2; rw [pu_jj (by omega), f_tell_j (by omega)]
    rw [ms, e2, ec1]
    have := hs k hk
    rw [ms] at this
    exact ⟨this.1, by omega⟩
theorem okP_add {P : tP} {d m b : Int32} {a : Bool} (hlt : cn P < 12) (o : okP P) : okP (f_add P d m b (bI a)) := by
  unfold f_add
  split
  · exact kp_okP kp_turn (okP_add1 hlt o)
  · exact okP_add1 hlt o
theorem okP_addMs {P : tP} {s : Nat} {d : Int32} (hs : s < cn P) (hlt : mn P < 4) (o : okP P) : okP (f_addMs P s d) := by
  obtain ⟨hc, hb, he, hh, hn, hS, hE⟩ := o
  have e0 : ∀ k, k ≠ 3 → f_addMs P s d 0 k = P 0 k := fun k hk => by show pu _ 0 3 _ 0 k = _; rw [pu_k hk, pu_j (by omega), pu_j (by omega)]
  have e3 : f_addMs P s d 0 3 = nI (mn P + 1) := by show pu _ 0 3 _ 0 3 = _; rw [pu_s, pu_j (by omega), pu_j (by omega), hn.1, show mn P = mn P from rfl]; exact nI_1 _
  have em : mn (f_addMs P s d) = mn P + 1 := by rw [mn, e3]; exact nI_clamp (by omega)
  have ecn : cn (f_addMs P s d) = cn P := by rw [cn, cn, e0 1 (by omega)]
  have e2 : ∀ k, f_addMs P s d 2 k = pu P 2 (mn P) (nI s) 2 k := fun k => by show pu _ 0 3 _ 2 k = _; rw [pu_j (by omega), pu_j (by omega)]
  refine ⟨okc_of ((e0 1 (by omega)).trans hc.1) hc.2, fun i hi => ?_, oke_eq (e0 5 (by omega)) he, ?_, ⟨by rw [em]; exact e3, by rw [em]; omega⟩, fun k hk => ?_, okE_eq (e0 6 (by omega)) hE⟩
  · show pu _ 0 3 _ (4 + i) 3 = 0 ∨ pu _ 0 3 _ (4 + i) 3 = 1
    rw [pu_j (by omega), pu_k (by omega), pu_j (by omega)]
    exact hb i hi
  · obtain ⟨x, y, z⟩ := hh; exact ⟨x, y, (e0 8 (by omega)).trans z⟩
  · rw [em] at hk
    rw [ms, e2, ecn]
    by_cases hkm : k = mn P
    · subst hkm
      have : (nI s).toNatClampNeg = s := nI_clamp (by have := hc.2; omega)
      rw [pu_s, this]
      exact ⟨rfl, hs⟩
    · rw [pu_k hkm]
      exact hS k (by omega)
theorem kp_days : ∀ (n : Nat) (P : tP), kp P (lp_days n P) := by
  intro n
  induction n with
  | zero => intro P; exact kp_rfl
  | succ n ih => intro P; exact kp_tr kp_pass (ih _)
/-- the fields that a change of the plan leaves as they are: all but the last refusal's -/
def kF (F F' : tP) : Prop := F' 0 3 = F 0 3 ∧ F' 0 5 = F 0 5 ∧ F' 0 6 = F 0 6
theorem kF_rfl {F : tP} : kF F F := ⟨rfl, rfl, rfl⟩
theorem kF_tr {F F' F'' : tP} (h : kF F F') (h2 : kF F' F'') : kF F F'' := ⟨h2.1.trans h.1, h2.2.1.trans h.2.1, h2.2.2.trans h.2.2⟩
theorem kF_ref {F : tP} {a b : Int32} : kF F (f_ref F a b) := by
  unfold f_ref
  exact ⟨by rw [pu_k (by omega), pu_k (by omega), pu_k (by omega)], by rw [pu_k (by omega), pu_k (by omega), pu_k (by omega)], by rw [pu_k (by omega), pu_k (by omega), pu_k (by omega)]⟩
/-- what a change does: an answer below 0 and the plan is as it was, or the plan is in order again -/
def goodX (F P : tP) (q : TX) : Prop := kF F q.2.1 ∧ okP q.2.2
theorem gX_no {F P : tP} {x : Int32} (o : okP P) : goodX F P (x, F, P) := ⟨kF_rfl, o⟩
theorem gX_ref {F P : tP} {a b : Int32} (o : okP P) : goodX F P (-14, f_ref F a b, P) := ⟨kF_ref, o⟩
theorem g_step {F P : tP} {d m b : Int32} {a : Bool} (o : okP P) : goodX F P (t_step F P d m b (bI a)) := by
  unfold t_step
  split
  · exact gX_no o
  · split
    · exact ⟨kF_rfl, okP_add (lt12 o.1 (by assumption)) o⟩
    · exact gX_ref o
theorem g_need {F P : tP} {s x : Int32} (o : okP P) : goodX F P (t_need F P s x) := by
  unfold t_need
  split
  · exact gX_no o
  · split
    · exact gX_ref o
    · split
      · exact gX_ref o
      · split
        · exact gX_ref o
        · split
          · exact gX_ref o
          · exact ⟨kF_rfl, okP_step4 (by omega) o⟩
theorem g_fault {F P : tP} {s x : Int32} (o : okP P) : goodX F P (t_fault F P s x) := by
  unfold t_fault
  split
  · exact gX_no o
  · split
    · exact gX_no o
    · split
      · exact gX_ref o
      · exact ⟨kF_rfl, okP_step4 (by omega) o⟩
theorem g_hands {F P : tP} {x : Int32} (o : okP P) : goodX F P (t_hands F P x) := by
  unfold t_hands
  split
  · exact gX_no o
  · rename_i h
    have h' : f_within x 1 4 = true := by simpa using h
    obtain ⟨j, h1, h2, h3, -⟩ := wi_of (b := 4) (by omega) h'
    exact ⟨kF_rfl, okP_hands ⟨j, h2, h3⟩ o⟩
theorem g_cancel {F P : tP} {x : Int32} (o : okP P) : goodX F P (t_cancel F P x) := by
  unfold t_cancel
  split
  · exact gX_no o
  · split
    · exact gX_ref o
    · exact ⟨kF_rfl, kp_okP kp_fcan o⟩
theorem g_mile {F P : tP} {s x : Int32} (o : okP P) : goodX F P (t_mile F P s x) := by
  unfold t_mile
  split
  · exact gX_no o
  · rename_i h
    split
    · exact gX_no o
    · split
      · exact gX_ref o
      · split
        · obtain ⟨i, h1, -, -, h4⟩ := hs_of o.1 (show f_hasStep P s = true from by simpa using h)
          rw [h4]
          exact ⟨kF_rfl, okP_addMs h1 (lt4 o.2.2.2.2.1 (by assumption)) o⟩
        · exact gX_ref o
theorem g_days {F P : tP} {x : Int32} (o : okP P) : goodX F P (t_days F P x) := by
  unfold t_days
  split
  · exact gX_no o
  · exact ⟨kF_rfl, kp_okP (kp_days _ _) o⟩
theorem g_carry {F P : tP} {w : Nat → Int32} (hb : w 4 = 0 ∨ w 4 = 1) (o : okP P) : goodX F P (t_carry F P w) := by
  obtain ⟨a, ha⟩ : ∃ a : Bool, w 4 = bI a := by
    rcases hb with h | h
    · exact ⟨false, h⟩
    · exact ⟨true, h⟩
  unfold t_carry
  split
  · rw [ha]; exact g_step o
  · split
    · exact g_need o
    · split
      · exact g_fault o
      · split
        · exact g_hands o
        · split
          · exact g_cancel o
          · split
            · exact g_mile o
            · split
              · exact g_days o
              · exact gX_no o
theorem fc_st {A P : tP} : ∀ (n i j : Nat), (j < i ∨ i + n ≤ j) → lp_cps P n i A (4 + j) = A (4 + j) := by
  intro n
  induction n generalizing A with
  | zero => intro i j h; rfl
  | succ n ih =>
    intro i j h
    rw [lp_cps, ih (i + 1) j (by omega)]
    unfold f_cps
    rw [pu_jj (by omega), pu_jj (by omega), pu_jj (by omega), pu_jj (by omega), pu_jj (by omega), pu_jj (by omega), pu_jj (by omega), pu_jj (by omega), pu_jj (by omega), pu_jj (by omega), pu_jj (by omega)]
theorem cps_k {A P : tP} {i k : Nat} (hk : k < 11) : f_cps A P i (4 + i) k = P (4 + i) k := by
  unfold f_cps
  rcases (by omega : k = 0 ∨ k = 1 ∨ k = 2 ∨ k = 3 ∨ k = 4 ∨ k = 5 ∨ k = 6 ∨ k = 7 ∨ k = 8 ∨ k = 9 ∨ k = 10) with rfl | rfl | rfl | rfl | rfl | rfl | rfl | rfl | rfl | rfl | rfl <;> simp [pu, upd]
theorem fc_li {A P : tP} : ∀ (n i j k : Nat), i ≤ j → j < i + n → k < 11 → lp_cps P n i A (4 + j) k = P (4 + j) k := by
  intro n
  induction n generalizing A with
  | zero => intro i j k h1 h2; omega
  | succ n ih =>
    intro i j k h1 h2 hk
    rw [lp_cps]
    by_cases hij : j = i
    · subst hij
      rw [fc_st n (j + 1) j (by omega)]
      exact cps_k hk
    · exact ih (i + 1) j k (by omega) (by omega) hk
theorem fc_4 {A P : tP} {j : Nat} : f_copy A P (4 + j) = lp_cps P (cn P) 0 A (4 + j) := by
  unfold f_copy f_cp0
  funext k
  simp [pu, p_row]
  rw [if_neg (by omega), if_neg (by omega)]
/-- a copy's live steps -/
theorem fc_live {A P : tP} {j k : Nat} (hj : j < cn P) (hk : k < 11) : f_copy A P (4 + j) k = P (4 + j) k := by rw [fc_4]; exact fc_li _ _ _ _ (by omega) (by omega) hk
theorem fc_old {A P : tP} {j : Nat} (hj : cn P ≤ j) : f_copy A P (4 + j) = A (4 + j) := by rw [fc_4]; exact fc_st _ _ _ (by omega)
theorem fc_2 {A P : tP} {k : Nat} (hk : k < 4) : f_copy A P 2 k = P 2 k := by
  unfold f_copy f_cp0
  simp only [pu, p_row]
  simp
  rw [pk_cpy_in (by omega) (by omega)]
  congr 1
  omega
theorem fc_3 {A P : tP} {k : Nat} (hk : k < 48) : f_copy A P 3 k = P 3 k := by
  unfold f_copy f_cp0
  simp only [pu, p_row]
  simp
  rw [pk_cpy_in (by omega) (by omega)]
  congr 1
  omega
theorem fc_mn {A P : tP} : mn (f_copy A P) = mn P := by rw [mn, mn, fc_0 (by omega)]
theorem okP_copy {A P : tP} (hA : okb A) (o : okP P) : okP (f_copy A P) := by
  obtain ⟨hc, hb, he, hh, hn, hs, hE⟩ := o
  refine ⟨fc_okc hc, fun i hi => ?_, fc_oke he, fc_okh hh, ⟨by rw [fc_0 (by omega), fc_mn]; exact hn.1, by rw [fc_mn]; exact hn.2⟩, fun k hk => ?_, okE_eq (fc_0 (by omega)) hE⟩
  · by_cases h : i < cn P
    · rw [fc_live h (by omega)]; exact hb i hi
    · rw [fc_old (by omega)]; exact hA i hi
  · rw [fc_mn] at hk
    rw [ms, fc_2 (by have := hn.2; omega), fc_cn]
    exact hs k hk
def lp_md (P : tP) : Nat → Nat → Int32 → Int32
  | 0, _, x => x
  | n + 1, i, x => lp_md P n (i + 1) (x + P (4 + i) 0)
def f_mean (P : tP) : UInt64 := if P 0 1 ≤ 0 then FP.dconst0 else FP.ddiv (FP.i2d (lp_md P (cn P) 0 0)) (FP.i2d (P 0 1))
def f_share (P : tP) : UInt32 := if P 0 10 ≤ 0 then FP.fconst0 else FP.fdiv (FP.i2f (P 0 11)) (FP.i2f (P 0 10))
/-- a double like v (a NaN's bits are any), the world as it was -/
def Qdd (v0 : UInt64) (ex0 : va_W) (M0 : tM) : Option Value → va_W → tM → Prop := fun v x m => (∃ r : UInt64, v = some (.double r) ∧ alike64 r v0 = true) ∧ x = ex0 ∧ m = M0
def Qff (v0 : UInt32) (ex0 : va_W) (M0 : tM) : Option Value → va_W → tM → Prop := fun v x m => (∃ r : UInt32, v = some (.float r) ∧ alike32 r v0 = true) ∧ x = ex0 ∧ m = M0
theorem al64 {v : UInt64} : alike64 v v = true := by simp [alike64]
theorem al32 {v : UInt32} : alike32 v v = true := by simp [alike32]
theorem dX6_meanDays_0 : decode cX6_meanDays 0 = .ok (.aload_n 0, 1) := by decide +kernel
theorem dX6_meanDays_1 : decode cX6_meanDays 1 = .ok (.getfield 12, 3) := by decide +kernel
theorem dX6_meanDays_4 : decode cX6_meanDays 4 = .ok (.getfield 170, 3) := by decide +kernel
theorem dX6_meanDays_7 : decode cX6_meanDays 7 = .ok (.ifCond .gt 5, 3) := by decide +kernel
theorem dX6_meanDays_10 : decode cX6_meanDays 10 = .ok (.dconst 0, 1) := by decide +kernel
theorem dX6_meanDays_11 : decode cX6_meanDays 11 = .ok (.dreturn, 1) := by decide +kernel
theorem dX6_meanDays_12 : decode cX6_meanDays 12 = .ok (.iconst 0, 1) := by decide +kernel
theorem dX6_meanDays_13 : decode cX6_meanDays 13 = .ok (.istore_n 1, 1) := by decide +kernel
theorem dX6_meanDays_14 : decode cX6_meanDays 14 = .ok (.iconst 0, 1) := by decide +kernel
theorem dX6_meanDays_15 : decode cX6_meanDays 15 = .ok (.istore_n 2, 1) := by decide +kernel
theorem dX6_meanDays_16 : decode cX6_meanDays 16 = .ok (.iload_n 2, 1) := by decide +kernel
theorem dX6_meanDays_17 : decode cX6_meanDays 17 = .ok (.aload_n 0, 1) := by decide +kernel
theorem dX6_meanDays_18 : decode cX6_meanDays 18 = .ok (.getfield 12, 3) := by decide +kernel
theorem dX6_meanDays_21 : decode cX6_meanDays 21 = .ok (.getfield 170, 3) := by decide +kernel
theorem dX6_meanDays_24 : decode cX6_meanDays 24 = .ok (.if_icmp .ge 24, 3) := by decide +kernel
theorem dX6_meanDays_27 : decode cX6_meanDays 27 = .ok (.iload_n 1, 1) := by decide +kernel
theorem dX6_meanDays_28 : decode cX6_meanDays 28 = .ok (.aload_n 0, 1) := by decide +kernel
theorem dX6_meanDays_29 : decode cX6_meanDays 29 = .ok (.getfield 12, 3) := by decide +kernel
theorem dX6_meanDays_32 : decode cX6_meanDays 32 = .ok (.getfield 81, 3) := by decide +kernel
theorem dX6_meanDays_35 : decode cX6_meanDays 35 = .ok (.iload_n 2, 1) := by decide +kernel
theorem dX6_meanDays_36 : decode cX6_meanDays 36 = .ok (.aaload, 1) := by decide +kernel
theorem dX6_meanDays_37 : decode cX6_meanDays 37 = .ok (.getfield 85, 3) := by decide +kernel
theorem dX6_meanDays_40 : decode cX6_meanDays 40 = .ok (.iadd, 1) := by decide +kernel
theorem dX6_meanDays_41 : decode cX6_meanDays 41 = .ok (.istore_n 1, 1) := by decide +kernel
theorem dX6_meanDays_42 : decode cX6_meanDays 42 = .ok (.iinc 2 1, 3) := by decide +kernel
theorem dX6_meanDays_45 : decode cX6_meanDays 45 = .ok (.goto (-29), 3) := by decide +kernel
theorem dX6_meanDays_48 : decode cX6_meanDays 48 = .ok (.iload_n 1, 1) := by decide +kernel
theorem dX6_meanDays_49 : decode cX6_meanDays 49 = .ok (.i2d, 1) := by decide +kernel
theorem dX6_meanDays_50 : decode cX6_meanDays 50 = .ok (.aload_n 0, 1) := by decide +kernel
theorem dX6_meanDays_51 : decode cX6_meanDays 51 = .ok (.getfield 12, 3) := by decide +kernel
theorem dX6_meanDays_54 : decode cX6_meanDays 54 = .ok (.getfield 170, 3) := by decide +kernel
theorem dX6_meanDays_57 : decode cX6_meanDays 57 = .ok (.i2d, 1) := by decide +kernel
theorem dX6_meanDays_58 : decode cX6_meanDays 58 = .ok (.ddiv, 1) := by decide +kernel
theorem dX6_meanDays_59 : decode cX6_meanDays 59 = .ok (.dreturn, 1) := by decide +kernel
theorem dcX6_meanDays : yX6_meanDays.cls = RX6 ∧ yX6_meanDays.cls ≠ "java/lang/invoke/MethodHandle" ∧ yX6_meanDays.cls ≠ "java/lang/invoke/VarHandle" ∧ (parseMethodDescriptor yX6_meanDays.desc).map (fun d => d.parameters.length) = some 0 := by decide +kernel
set_option maxRecDepth 100000 in
set_option maxHeartbeats 4000000 in
theorem K_mean {cA : Nat → ClassId} {ad : tA} {ex : va_W} {M : tM} {F P : tP} (hoc : okc P) : Cj yX6_meanDays cX6_meanDays 3 (some .double) (rmd 0) 0 0 cA ad [.ref (ad 0 0)] ex (mm M F P) (Qdd (f_mean P) ex (mm M F P)) := by
  refine c_of_r (lv0 := [some (.ref (ad 0 0)), none, none]) rfl (by decide +kernel) (Nat.le_of_ble_eq_true rfl) rfl ?_
  have L : ¬ P 0 1 ≤ 0 → ∀ (n i : Nat) (x : Int32), i + n = cn P → lp_md P n i x = lp_md P (cn P) 0 0 → Rj cX6_meanDays RX6 3 (some .double) (rmd 0) 0 0 cA ad (Qdd (f_mean P) ex (mm M F P)) ex 0 0 16 [some (.ref (ad 0 0)), some (.int x), some (.int (nI i))] [] (mm M F P) := by
    intro hz n
    induction n with
    | zero =>
      intro i x h hx
      refine r_iload_n dX6_meanDays_16 rfl ?_
      refine r_aload_n dX6_meanDays_17 rfl ?_
      refine r_getF 0 (by decide) q17 rfl dX6_meanDays_18 ?_
      refine r_getp_pl is1 1 (by decide) q153 rfl dX6_meanDays_21 ?_
      refine r_icmp_ge (tgt := 48) dX6_meanDays_24 (by decide) (fun c24 => ?_) (fun c24 => absurd (lp_z hoc.1 h) c24)
      refine r_iload_n dX6_meanDays_48 rfl ?_
      refine r_i2d dX6_meanDays_49 ?_
      refine r_aload_n dX6_meanDays_50 rfl ?_
      refine r_getF 0 (by decide) q17 rfl dX6_meanDays_51 ?_
      refine r_getp_pl is1 1 (by decide) q153 rfl dX6_meanDays_54 ?_
      refine r_i2d dX6_meanDays_57 ?_
      refine r_ddiv dX6_meanDays_58 (fun q hq => ?_)
      exact r_dret rfl dX6_meanDays_59 (Nat.le_refl _) (Nat.le_refl _) ⟨⟨q, rfl, by rw [f_mean, if_neg hz, ← hx]; exact hq⟩, rfl, rfl⟩
    | succ n ih =>
      intro i x h hx
      have hi : i < 12 := by have := hoc.2; omega
      refine r_iload_n dX6_meanDays_16 rfl ?_
      refine r_aload_n dX6_meanDays_17 rfl ?_
      refine r_getF 0 (by decide) q17 rfl dX6_meanDays_18 ?_
      refine r_getp_pl is1 1 (by decide) q153 rfl dX6_meanDays_21 ?_
      refine r_icmp_ge (tgt := 48) dX6_meanDays_24 (by decide) (fun c24 => absurd c24 (lp_s hoc.1 hoc.2 h)) (fun c24 => ?_)
      refine r_iload_n dX6_meanDays_27 rfl ?_
      refine r_aload_n dX6_meanDays_28 rfl ?_
      refine r_getF 0 (by decide) q17 rfl dX6_meanDays_29 ?_
      refine r_getp_pl is1 0 (by decide) q314 rfl dX6_meanDays_32 ?_
      refine r_iload_n dX6_meanDays_35 rfl ?_
      refine r_aldp_steps is1 rfl hi dX6_meanDays_36 ?_
      refine r_getp_st is1 hi 0 (by decide) q479 rfl dX6_meanDays_37 ?_
      refine r_iadd dX6_meanDays_40 ?_
      refine r_istore_n dX6_meanDays_41 (by decide) rfl ?_
      refine r_iinc dX6_meanDays_42 rfl ii_s (by decide) rfl ?_
      refine r_goto (tgt := 16) dX6_meanDays_45 (by decide) ?_
      exact ih (i + 1) _ (by omega) hx
  refine r_aload_n dX6_meanDays_0 rfl ?_
  refine r_getF 0 (by decide) q17 rfl dX6_meanDays_1 ?_
  refine r_getp_pl is1 1 (by decide) q153 rfl dX6_meanDays_4 ?_
  refine r_if_gt (tgt := 12) dX6_meanDays_7 (by decide) (fun c7 => ?_) (fun c7 => ?_)
  · refine r_iconst (v := 0) dX6_meanDays_12 (by decide) ?_
    refine r_istore_n dX6_meanDays_13 (by decide) rfl ?_
    refine r_iconst (v := 0) dX6_meanDays_14 (by decide) ?_
    refine r_istore_n dX6_meanDays_15 (by decide) rfl ?_
    exact L (Int32.not_le.mpr c7) (cn P) 0 0 (by omega) rfl
  · refine r_dconst0 dX6_meanDays_10 ?_
    exact r_dret rfl dX6_meanDays_11 (Nat.le_refl _) (Nat.le_refl _) ⟨⟨_, rfl, by rw [f_mean, if_pos (Int32.not_lt.mp c7)]; exact al64⟩, rfl, rfl⟩
theorem dX6_wrongShare_0 : decode cX6_wrongShare 0 = .ok (.aload_n 0, 1) := by decide +kernel
theorem dX6_wrongShare_1 : decode cX6_wrongShare 1 = .ok (.getfield 12, 3) := by decide +kernel
theorem dX6_wrongShare_4 : decode cX6_wrongShare 4 = .ok (.getfield 235, 3) := by decide +kernel
theorem dX6_wrongShare_7 : decode cX6_wrongShare 7 = .ok (.ifCond .gt 5, 3) := by decide +kernel
theorem dX6_wrongShare_10 : decode cX6_wrongShare 10 = .ok (.fconst 0, 1) := by decide +kernel
theorem dX6_wrongShare_11 : decode cX6_wrongShare 11 = .ok (.freturn, 1) := by decide +kernel
theorem dX6_wrongShare_12 : decode cX6_wrongShare 12 = .ok (.aload_n 0, 1) := by decide +kernel
theorem dX6_wrongShare_13 : decode cX6_wrongShare 13 = .ok (.getfield 12, 3) := by decide +kernel
theorem dX6_wrongShare_16 : decode cX6_wrongShare 16 = .ok (.getfield 238, 3) := by decide +kernel
theorem dX6_wrongShare_19 : decode cX6_wrongShare 19 = .ok (.i2f, 1) := by decide +kernel
theorem dX6_wrongShare_20 : decode cX6_wrongShare 20 = .ok (.aload_n 0, 1) := by decide +kernel
theorem dX6_wrongShare_21 : decode cX6_wrongShare 21 = .ok (.getfield 12, 3) := by decide +kernel
theorem dX6_wrongShare_24 : decode cX6_wrongShare 24 = .ok (.getfield 235, 3) := by decide +kernel
theorem dX6_wrongShare_27 : decode cX6_wrongShare 27 = .ok (.i2f, 1) := by decide +kernel
theorem dX6_wrongShare_28 : decode cX6_wrongShare 28 = .ok (.fdiv, 1) := by decide +kernel
theorem dX6_wrongShare_29 : decode cX6_wrongShare 29 = .ok (.freturn, 1) := by decide +kernel
theorem dcX6_wrongShare : yX6_wrongShare.cls = RX6 ∧ yX6_wrongShare.cls ≠ "java/lang/invoke/MethodHandle" ∧ yX6_wrongShare.cls ≠ "java/lang/invoke/VarHandle" ∧ (parseMethodDescriptor yX6_wrongShare.desc).map (fun d => d.parameters.length) = some 0 := by decide +kernel
set_option maxRecDepth 100000 in
set_option maxHeartbeats 4000000 in
theorem K_share {cA : Nat → ClassId} {ad : tA} {ex : va_W} {M : tM} {F P : tP}  : Cj yX6_wrongShare cX6_wrongShare 1 (some .float) (rmd 0) 0 0 cA ad [.ref (ad 0 0)] ex (mm M F P) (Qff (f_share P) ex (mm M F P)) := by
  refine c_of_r (lv0 := [some (.ref (ad 0 0))]) rfl (by decide +kernel) (Nat.le_of_ble_eq_true rfl) rfl ?_
  refine r_aload_n dX6_wrongShare_0 rfl ?_
  refine r_getF 0 (by decide) q17 rfl dX6_wrongShare_1 ?_
  refine r_getp_pl is1 10 (by decide) q156 rfl dX6_wrongShare_4 ?_
  refine r_if_gt (tgt := 12) dX6_wrongShare_7 (by decide) (fun c7 => ?_) (fun c7 => ?_)
  · refine r_aload_n dX6_wrongShare_12 rfl ?_
    refine r_getF 0 (by decide) q17 rfl dX6_wrongShare_13 ?_
    refine r_getp_pl is1 11 (by decide) q157 rfl dX6_wrongShare_16 ?_
    refine r_i2f dX6_wrongShare_19 ?_
    refine r_aload_n dX6_wrongShare_20 rfl ?_
    refine r_getF 0 (by decide) q17 rfl dX6_wrongShare_21 ?_
    refine r_getp_pl is1 10 (by decide) q156 rfl dX6_wrongShare_24 ?_
    refine r_i2f dX6_wrongShare_27 ?_
    refine r_fdiv dX6_wrongShare_28 (fun q hq => ?_)
    exact r_fret rfl dX6_wrongShare_29 (Nat.le_refl _) (Nat.le_refl _) ⟨⟨q, rfl, by rw [f_share, if_neg (Int32.not_le.mpr c7)]; exact hq⟩, rfl, rfl⟩
  · refine r_fconst0 dX6_wrongShare_10 ?_
    exact r_fret rfl dX6_wrongShare_11 (Nat.le_refl _) (Nat.le_refl _) ⟨⟨_, rfl, by rw [f_share, if_pos (Int32.not_lt.mp c7)]; exact al32⟩, rfl, rfl⟩
theorem ros_oc : ∀ (n k : Nat) (T : tP), T 0 4 = nI k → k + n ≤ 12 → ∃ j, j ≤ k + n ∧ (lp_ros n k T).2 0 4 = nI j := by
  intro n
  induction n with
  | zero => intro k T h h2; exact ⟨k, by omega, h⟩
  | succ n ih =>
    intro k T h h2
    have e1 : (f_rd T k).2 0 4 = nI k := kt_rd.2.2.2.trans h
    have e2 : pu (f_rd T k).2 0 4 ((f_rd T k).2 0 4 + 1) 0 4 = nI (k + 1) := by rw [pu_s, e1]; exact nI_1 _
    have e3 : (f_ts (pu (f_rd T k).2 0 4 ((f_rd T k).2 0 4 + 1)) 59).2 0 4 = nI (k + 1) := kt_ts.2.2.2.trans e2
    rw [lp_ros]
    split
    · exact ⟨k, by omega, e1⟩
    · split
      · exact ⟨k + 1, by omega, e2⟩
      · split
        · exact ⟨k + 1, by omega, e3⟩
        · obtain ⟨j, h3, h4⟩ := ih (k + 1) _ e3 (by omega)
          exact ⟨j, by omega, h4⟩
theorem f_ros_oc {T : tP} : ∃ j, j ≤ 12 ∧ (f_ros T).2 0 4 = nI j := by
  obtain ⟨j, h1, h2⟩ := ros_oc 12 0 (pu (pu T 0 2 0) 0 4 0) pu_s (by omega)
  exact ⟨j, by omega, h2⟩
/-- the orders' last fields are 0 or 1 -/
def okz (T : tP) : Prop := ∀ k, k < 12 → T (3 + k) 4 = 0 ∨ T (3 + k) 4 = 1
theorem kz_ts {T : tP} {c : Int32} (h : okz T) : okz (f_ts T c).2 := by
  unfold f_ts
  split
  · exact h
  · split
    · exact fun k hk => by dsimp only; rw [pu_j (by omega)]; exact h k hk
    · exact h
theorem kz_or {T : tP} {k f : Nat} {x : Int32} (hf : f ≠ 4) (h : okz T) : okz (pu T (3 + k) f x) := fun j hj => by rw [pu_k (by omega)]; exact h j hj
theorem kz_tw {i : Nat} : ∀ (n k : Nat) (T : tP), okz T → okz (lp_tw i n k T).2 := by
  intro n
  induction n with
  | zero => intro k T h; exact h
  | succ n ih =>
    intro k T h
    rw [lp_tw]
    split
    · exact ih _ _ (kz_ts h)
    · exact kz_ts h
theorem kz_tn : ∀ (n : Nat) (x : Int32) (T : tP), okz T → okz (lp_tn n x T).2 := by
  intro n
  induction n with
  | zero => intro x T h; exact h
  | succ n ih =>
    intro x T h
    rw [lp_tn]
    split
    · exact h
    · exact ih _ _ (fun k hk => by rw [pu_j (by omega)]; exact h k hk)
theorem kz_ro {T : tP} {k i n : Nat} (h : okz T) : okz (f_ro T k i n).2 := by
  unfold f_ro
  dsimp only
  split
  · exact kz_or (by omega) (kz_tn _ _ _ (kz_tw _ _ _ h))
  · exact kz_tw _ _ _ h
theorem kz_rp {T : tP} {k i n : Nat} {c : Int32} (h : okz T) : okz (f_rp T k i c n).2 := by
  unfold f_rp
  dsimp only
  split
  · split
    · exact kz_or (by omega) (kz_tn _ _ _ (kz_ts (kz_ro h)))
    · exact kz_ts (kz_ro h)
  · exact kz_ro h
theorem kz_rs {T : tP} {k : Nat} (h : okz T) : okz (f_rs T k).2 := by
  have h1 := kz_ro (k := k) (i := 0) (n := 1) h
  have h2 := kz_ts (c := 32) h1
  have h3 := kz_or (k := k) (f := 2) (x := (f_tn (f_ts (f_ro T k 0 1).2 32).2 1).1) (by omega) (kz_tn 1 (-1) _ h2)
  have h4 := kz_ts (c := 32) h3
  have h5 := kz_or (k := k) (f := 3) (x := (f_tn (f_ts (pu (f_tn (f_ts (f_ro T k 0 1).2 32).2 1).2 (3 + k) 2 (f_tn (f_ts (f_ro T k 0 1).2 32).2 1).1) 32).2 1).1) (by omega) (kz_tn 1 (-1) _ h4)
  have h6 := kz_ts (c := 63) h5
  unfold f_rs
  dsimp only
  split
  · exact h1
  · split
    · exact h2
    · split
      · exact h3
      · split
        · exact h4
        · split
          · exact h5
          · intro j hj
            dsimp only
            by_cases hjk : j = k
            · subst hjk
              rw [pu_s]
              generalize (f_ts _ 63).1 = z
              cases z
              · exact Or.inl rfl
              · exact Or.inr rfl
            · rw [pu_j (by omega)]; exact h6 j hj
theorem kz_rd {T : tP} {k : Nat} (h : okz T) : okz (f_rd T k).2 := by
  unfold f_rd
  split
  · exact h
  · have h1 := kz_or (k := k) (f := 0) (x := T 1 (ta T)) (by omega) h
    unfold f_rd1
    split
    · exact kz_rs h1
    · split
      · exact kz_rp h1
      · split
        · exact kz_rp h1
        · split
          · exact kz_ro h1
          · split
            · exact kz_ro h1
            · split
              · exact kz_rp h1
              · split
                · exact kz_ro h1
                · exact h1
theorem kz_ros : ∀ (n k : Nat) (T : tP), okz T → okz (lp_ros n k T).2 := by
  intro n
  induction n with
  | zero => intro k T h; exact h
  | succ n ih =>
    intro k T h
    have h1 := kz_rd (k := k) h
    have h2 : okz (pu (f_rd T k).2 0 4 ((f_rd T k).2 0 4 + 1)) := fun j hj => by rw [pu_j (by omega)]; exact h1 j hj
    have h3 := kz_ts (c := 59) h2
    rw [lp_ros]
    split
    · exact h1
    · split
      · exact h2
      · split
        · exact h3
        · exact ih _ _ h3
theorem kz_fros {T : tP} (h : okz T) : okz (f_ros T).2 := kz_ros 12 0 _ (fun k hk => by rw [pu_j (by omega), pu_j (by omega)]; exact h k hk)
def lp_run (T X : tP) : Nat → Nat → tP → tP → TX
  | 0, _, F, P => (T 0 4, f_keep F (T 0 4), P)
  | n + 1, k, F, P => if (t_carry F P (T (3 + k))).1 < 0 then (-14, f_ref (t_carry F P (T (3 + k))).2.1 6 (nI k), f_copy (t_carry F P (T (3 + k))).2.2 X) else lp_run T X n (k + 1) (t_carry F P (T (3 + k))).2.1 (t_carry F P (T (3 + k))).2.2
def oc (T : tP) : Nat := (T 0 4).toNatClampNeg
def r_T (M : tM) : tP := pu (f_ros (M 13)).2 0 1 0
/-- run: the answer, the rest, the fields, the plan -/
def t_run (M : tM) (F P : tP) : Int32 × tM × tP × tP :=
  if (f_ros (M 13)).1 = -1 then
    (let M2 := c_mark (m_pl M 13 (r_T M)) F P
     let q := lp_run (r_T M) (M2 (4 + km F)) (oc (r_T M)) 0 F P
     (q.1, M2, q.2.1, q.2.2))
  else (-1000 - (f_ros (M 13)).1, m_pl M 13 (r_T M), F, P)
theorem dX6_run_0 : decode cX6_run 0 = .ok (.aload_n 0, 1) := by decide +kernel
theorem dX6_run_1 : decode cX6_run 1 = .ok (.getfield 29, 3) := by decide +kernel
theorem dX6_run_4 : decode cX6_run 4 = .ok (.invokevirtual 183, 3) := by decide +kernel
theorem dX6_run_7 : decode cX6_run 7 = .ok (.istore_n 1, 1) := by decide +kernel
theorem dX6_run_8 : decode cX6_run 8 = .ok (.aload_n 0, 1) := by decide +kernel
theorem dX6_run_9 : decode cX6_run 9 = .ok (.getfield 29, 3) := by decide +kernel
theorem dX6_run_12 : decode cX6_run 12 = .ok (.iconst 0, 1) := by decide +kernel
theorem dX6_run_13 : decode cX6_run 13 = .ok (.putfield 176, 3) := by decide +kernel
theorem dX6_run_16 : decode cX6_run 16 = .ok (.iload_n 1, 1) := by decide +kernel
theorem dX6_run_17 : decode cX6_run 17 = .ok (.iconst (-1), 1) := by decide +kernel
theorem dX6_run_18 : decode cX6_run 18 = .ok (.if_icmp .eq 9, 3) := by decide +kernel
theorem dX6_run_21 : decode cX6_run 21 = .ok (.sipush (-1000), 3) := by decide +kernel
theorem dX6_run_24 : decode cX6_run 24 = .ok (.iload_n 1, 1) := by decide +kernel
theorem dX6_run_25 : decode cX6_run 25 = .ok (.isub, 1) := by decide +kernel
theorem dX6_run_26 : decode cX6_run 26 = .ok (.ireturn, 1) := by decide +kernel
theorem dX6_run_27 : decode cX6_run 27 = .ok (.aload_n 0, 1) := by decide +kernel
theorem dX6_run_28 : decode cX6_run 28 = .ok (.invokevirtual 47, 3) := by decide +kernel
theorem dX6_run_31 : decode cX6_run 31 = .ok (.iconst 0, 1) := by decide +kernel
theorem dX6_run_32 : decode cX6_run 32 = .ok (.istore_n 2, 1) := by decide +kernel
theorem dX6_run_33 : decode cX6_run 33 = .ok (.iload_n 2, 1) := by decide +kernel
theorem dX6_run_34 : decode cX6_run 34 = .ok (.aload_n 0, 1) := by decide +kernel
theorem dX6_run_35 : decode cX6_run 35 = .ok (.getfield 29, 3) := by decide +kernel
theorem dX6_run_38 : decode cX6_run 38 = .ok (.getfield 187, 3) := by decide +kernel
theorem dX6_run_41 : decode cX6_run 41 = .ok (.if_icmp .ge 49, 3) := by decide +kernel
theorem dX6_run_44 : decode cX6_run 44 = .ok (.aload_n 0, 1) := by decide +kernel
theorem dX6_run_45 : decode cX6_run 45 = .ok (.aload_n 0, 1) := by decide +kernel
theorem dX6_run_46 : decode cX6_run 46 = .ok (.getfield 29, 3) := by decide +kernel
theorem dX6_run_49 : decode cX6_run 49 = .ok (.getfield 190, 3) := by decide +kernel
theorem dX6_run_52 : decode cX6_run 52 = .ok (.iload_n 2, 1) := by decide +kernel
theorem dX6_run_53 : decode cX6_run 53 = .ok (.aaload, 1) := by decide +kernel
theorem dX6_run_54 : decode cX6_run 54 = .ok (.invokevirtual 194, 3) := by decide +kernel
theorem dX6_run_57 : decode cX6_run 57 = .ok (.ifCond .ge 27, 3) := by decide +kernel
theorem dX6_run_60 : decode cX6_run 60 = .ok (.aload_n 0, 1) := by decide +kernel
theorem dX6_run_61 : decode cX6_run 61 = .ok (.getfield 12, 3) := by decide +kernel
theorem dX6_run_64 : decode cX6_run 64 = .ok (.aload_n 0, 1) := by decide +kernel
theorem dX6_run_65 : decode cX6_run 65 = .ok (.getfield 22, 3) := by decide +kernel
theorem dX6_run_68 : decode cX6_run 68 = .ok (.aload_n 0, 1) := by decide +kernel
theorem dX6_run_69 : decode cX6_run 69 = .ok (.getfield 198, 3) := by decide +kernel
theorem dX6_run_72 : decode cX6_run 72 = .ok (.aaload, 1) := by decide +kernel
theorem dX6_run_73 : decode cX6_run 73 = .ok (.invokevirtual 139, 3) := by decide +kernel
theorem dX6_run_76 : decode cX6_run 76 = .ok (.aload_n 0, 1) := by decide +kernel
theorem dX6_run_77 : decode cX6_run 77 = .ok (.bipush 6, 2) := by decide +kernel
theorem dX6_run_79 : decode cX6_run 79 = .ok (.iload_n 2, 1) := by decide +kernel
theorem dX6_run_80 : decode cX6_run 80 = .ok (.invokevirtual 201, 3) := by decide +kernel
theorem dX6_run_83 : decode cX6_run 83 = .ok (.ireturn, 1) := by decide +kernel
theorem dX6_run_84 : decode cX6_run 84 = .ok (.iinc 2 1, 3) := by decide +kernel
theorem dX6_run_87 : decode cX6_run 87 = .ok (.goto (-54), 3) := by decide +kernel
theorem dX6_run_90 : decode cX6_run 90 = .ok (.aload_n 0, 1) := by decide +kernel
theorem dX6_run_91 : decode cX6_run 91 = .ok (.aload_n 0, 1) := by decide +kernel
theorem dX6_run_92 : decode cX6_run 92 = .ok (.getfield 29, 3) := by decide +kernel
theorem dX6_run_95 : decode cX6_run 95 = .ok (.getfield 187, 3) := by decide +kernel
theorem dX6_run_98 : decode cX6_run 98 = .ok (.invokevirtual 54, 3) := by decide +kernel
theorem dX6_run_101 : decode cX6_run 101 = .ok (.ireturn, 1) := by decide +kernel
theorem dcX6_run : yX6_run.cls = RX6 ∧ yX6_run.cls ≠ "java/lang/invoke/MethodHandle" ∧ yX6_run.cls ≠ "java/lang/invoke/VarHandle" ∧ (parseMethodDescriptor yX6_run.desc).map (fun d => d.parameters.length) = some 0 := by decide +kernel
theorem gX6_run_98 : GoodIn wsL_law (wsV RX6 54 RX6 yX6_keepChange (.code yX6_keepChange cX6_keepChange 2 (some .int) :: wsL_law)) := g_V q135 q136 q137 q2 q138
theorem gX6_run_54 : GoodIn wsL_law (wsV RX6 194 RX6 yX6_carryOut (.code yX6_carryOut cX6_carryOut 2 (some .int) :: wsL_law)) := g_V q273 q274 q275 q2 q276
theorem gX6_run_73 : GoodIn wsL_law (wsV RX6 139 RX4 yX4_copyFrom (.code yX4_copyFrom cX4_copyFrom 3 none :: wsL_law)) := g_V q76 q77 q78 q16 q79
theorem gX6_run_80 : GoodIn wsL_law (wsV RX6 201 RX6 yX6_refuse (.code yX6_refuse cX6_refuse 3 (some .int) :: wsL_law)) := g_V q286 q287 q288 q2 q289
theorem gX6_run_4 : GoodIn wsL_law (wsV RX6 183 RX3 yX3_readOrders (.code yX3_readOrders cX3_readOrders 2 (some .int) :: wsL_law)) := g_V q182 q183 q184 q23 q185
theorem gX6_run_28 : GoodIn wsL_law (wsV RX6 47 RX6 yX6_markBefore (.code yX6_markBefore cX6_markBefore 1 none :: wsL_law)) := g_V q123 q124 q125 q2 q126
set_option maxRecDepth 100000 in
set_option maxHeartbeats 4000000 in
theorem K_run {cA : Nat → ClassId} {ad : tA} {ex : va_W} {M : tM} {F0 P0 : tP} (hm : okm F0) (o : okP P0) (hq : ∀ k, k < 9 → okb (M (4 + k))) (hl1 : M 13 0 1 = nI (tl (M 13))) (hl2 : tl (M 13) ≤ 60) (hs : oks (M 13)) (hz0 : okz (M 13)) : Cj yX6_run cX6_run 3 (some .int) (rmd 9) 0 0 cA ad [.ref (ad 0 0)] ex (mm M F0 P0) (Qe (some (.int (t_run M F0 P0).1)) ex (mm (t_run M F0 P0).2.1 (t_run M F0 P0).2.2.1 (t_run M F0 P0).2.2.2)) := by
  refine c_of_r (lv0 := [some (.ref (ad 0 0)), none, none]) rfl (by decide +kernel) (Nat.le_of_ble_eq_true rfl) rfl ?_
  have hz := kz_fros hz0
  obtain ⟨c, hc12, hc⟩ := f_ros_oc (T := M 13)
  have hcr : r_T M 0 4 = nI c := (pu_k (by omega)).trans hc
  have hco : oc (r_T M) = c := by rw [oc, hcr]; exact nI_clamp (by omega)
  have e13 : (c_mark (m_pl M 13 (r_T M)) F0 P0) 13 = r_T M := by have := hm.2; rw [c_mark, m_pl_n (by omega), m_pl_s]
  have eX : ((c_mark (m_pl M 13 (r_T M)) F0 P0) (4 + km F0)) = f_copy ((m_pl M 13 (r_T M)) (4 + km F0)) P0 := m_pl_s
  have eok : okc ((c_mark (m_pl M 13 (r_T M)) F0 P0) (4 + km F0)) ∧ okb ((c_mark (m_pl M 13 (r_T M)) F0 P0) (4 + km F0)) := by
    have hA : okb (M (4 + km F0)) := (hq _ hm.2)
    have e4 : (m_pl M 13 (r_T M)) (4 + km F0) = M (4 + km F0) := m_pl_n (by have := hm.2; omega)
    rw [eX, e4]
    have := okP_copy hA o
    exact ⟨this.1, this.2.1⟩
  have L : (f_ros (M 13)).1 = -1 → ∀ (n k : Nat) (F P : tP) (y : Int32), k + n = c → kF F0 F → okP P → lp_run (r_T M) ((c_mark (m_pl M 13 (r_T M)) F0 P0) (4 + km F0)) n k F P = lp_run (r_T M) ((c_mark (m_pl M 13 (r_T M)) F0 P0) (4 + km F0)) c 0 F0 P0 → Rj cX6_run RX6 3 (some .int) (rmd 9) 0 0 cA ad (Qe (some (.int (t_run M F0 P0).1)) ex (mm (t_run M F0 P0).2.1 (t_run M F0 P0).2.2.1 (t_run M F0 P0).2.2.2)) ex 0 0 33 [some (.ref (ad 0 0)), some (.int y), some (.int (nI k))] [] (mm (c_mark (m_pl M 13 (r_T M)) F0 P0) F P) := by
    intro hy
    have hrun : t_run M F0 P0 = ((lp_run (r_T M) ((c_mark (m_pl M 13 (r_T M)) F0 P0) (4 + km F0)) c 0 F0 P0).1, (c_mark (m_pl M 13 (r_T M)) F0 P0), (lp_run (r_T M) ((c_mark (m_pl M 13 (r_T M)) F0 P0) (4 + km F0)) c 0 F0 P0).2.1, (lp_run (r_T M) ((c_mark (m_pl M 13 (r_T M)) F0 P0) (4 + km F0)) c 0 F0 P0).2.2) := by rw [t_run, if_pos hy, hco]
    rw [hrun]
    intro n
    induction n with
    | zero =>
      intro k F P y h hF o hX
      refine r_iload_n dX6_run_33 rfl ?_
      refine r_aload_n dX6_run_34 rfl ?_
      refine r_getF 7 (by decide) q24 rfl dX6_run_35 ?_
      refine r_getm_ot 4 (by decide) q180 (by rw [e13]; rfl) dX6_run_38 ?_
      refine r_icmp_ge (tgt := 90) dX6_run_41 (by decide) (fun c41 => ?_) (fun c41 => absurd (lp_z hcr h) c41)
      refine r_aload_n dX6_run_90 rfl ?_
      refine r_aload_n dX6_run_91 rfl ?_
      refine r_getF 7 (by decide) q24 rfl dX6_run_92 ?_
      refine r_getm_ot 4 (by decide) q180 (by rw [e13]; rfl) dX6_run_95 ?_
      refine r_cVi dX6_run_98 (K_keep) gX6_run_98 dcX6_keepChange rfl rfl rfl (Nat.le_of_ble_eq_true rfl) ob_tf ?_
      exact r_ret rfl rfl dX6_run_101 (t_a (hX.symm.trans rfl)) (t_m (hX.symm.trans rfl))
    | succ n ih =>
      intro k F P y h hF o hX
      have hk : k < 12 := by omega
      have hb : (c_mark (m_pl M 13 (r_T M)) F0 P0) 13 (3 + k) 4 = 0 ∨ (c_mark (m_pl M 13 (r_T M)) F0 P0) 13 (3 + k) 4 = 1 := by rw [e13]; show pu (f_ros (M 13)).2 0 1 0 (3 + k) 4 = 0 ∨ pu (f_ros (M 13)).2 0 1 0 (3 + k) 4 = 1; rw [pu_j (by omega)]; exact hz k hk
      have hg := g_carry (F := F) (P := P) (w := r_T M (3 + k)) (by rw [← e13]; exact hb) o
      have hkm : ∀ F2 : tP, kF F0 F2 → F2 0 5 = nI (km F0) := fun F2 h2 => h2.2.1.trans hm.1
      refine r_iload_n dX6_run_33 rfl ?_
      refine r_aload_n dX6_run_34 rfl ?_
      refine r_getF 7 (by decide) q24 rfl dX6_run_35 ?_
      refine r_getm_ot 4 (by decide) q180 (by rw [e13]; rfl) dX6_run_38 ?_
      refine r_icmp_ge (tgt := 90) dX6_run_41 (by decide) (fun c41 => absurd c41 (lp_s hcr hc12 h)) (fun c41 => ?_)
      refine r_aload_n dX6_run_44 rfl ?_
      refine r_aload_n dX6_run_45 rfl ?_
      refine r_getF 7 (by decide) q24 rfl dX6_run_46 ?_
      refine r_getm_ot 3 (by decide) q181 rfl dX6_run_49 ?_
      refine r_iload_n dX6_run_52 rfl ?_
      refine r_ald_orders rfl hk dX6_run_53 ?_
      refine r_cVi dX6_run_54 (K_carry hk hb o.1 o.2.2.1 o.2.2.2.1 o.2.2.2.2.1) gX6_run_54 dcX6_carryOut rfl rfl rfl (Nat.le_of_ble_eq_true rfl) ob_tf ?_
      rw [e13]
      refine r_if_ge (tgt := 84) dX6_run_57 (by decide) (fun c57 => ?_) (fun c57 => ?_)
      · refine r_iinc dX6_run_84 rfl ii_s (by decide) rfl ?_
        refine r_goto (tgt := 33) dX6_run_87 (by decide) ?_
        exact ih (k + 1) _ _ _ (by omega) (kF_tr hF hg.1) hg.2 (((if_neg (Int32.not_lt.mpr c57)).symm).trans hX)
      · refine r_aload_n dX6_run_60 rfl ?_
        refine r_getF 0 (by decide) q17 rfl dX6_run_61 ?_
        refine r_aload_n dX6_run_64 rfl ?_
        refine r_getF 4 (by decide) q20 rfl dX6_run_65 ?_
        refine r_aload_n dX6_run_68 rfl ?_
        refine r_getF 5 (by decide) q75 rfl dX6_run_69 ?_
        refine r_ald_marks (hkm _ (kF_tr hF hg.1)) hm.2 dX6_run_72 ?_
        refine r_cVv dX6_run_73 (KC_to (isk hm.2) (by omega) eok.1 eok.2) gX6_run_73 dcX4_copyFrom rfl rfl rfl (Nat.le_of_ble_eq_true rfl) (ob_pl is1) ?_
        refine r_aload_n dX6_run_76 rfl ?_
        refine r_bipush (v := 6) dX6_run_77 (by decide) ?_
        refine r_iload_n dX6_run_79 rfl ?_
        refine r_cVi dX6_run_80 (K_ref) gX6_run_80 dcX6_refuse rfl rfl rfl (Nat.le_of_ble_eq_true rfl) ob_tf ?_
        exact r_ret rfl rfl dX6_run_83 (t_a (hX.symm.trans (if_pos (Int32.not_le.mp c57)))) (t_m (hX.symm.trans (if_pos (Int32.not_le.mp c57))))
  refine r_aload_n dX6_run_0 rfl ?_
  refine r_getF 7 (by decide) q24 rfl dX6_run_1 ?_
  refine r_cVi dX6_run_4 (cmm (by omega) rfl (K_ros hl1 hl2 hs)) gX6_run_4 dcX3_readOrders rfl rfl rfl (Nat.le_of_ble_eq_true rfl) ob_ot ?_
  refine r_istore_n dX6_run_7 (by decide) rfl ?_
  refine r_aload_n dX6_run_8 rfl ?_
  refine r_getF 7 (by decide) q24 rfl dX6_run_9 ?_
  refine r_iconst (v := 0) dX6_run_12 (by decide) ?_
  refine r_putm_ot 1 (by decide) q143 rfl rfl rfl rfl rfl dX6_run_13 ?_
  rw [m_pl_s, m_pl_pl]
  refine r_iload_n dX6_run_16 rfl ?_
  refine r_iconst (v := -1) dX6_run_17 (by decide) ?_
  refine r_icmp_eq (tgt := 27) dX6_run_18 (by decide) (fun c18 => ?_) (fun c18 => ?_)
  · refine r_aload_n dX6_run_27 rfl ?_
    refine r_cVv dX6_run_28 (K_mark hm o.1 o.2.1) gX6_run_28 dcX6_markBefore rfl rfl rfl (Nat.le_of_ble_eq_true rfl) ob_tf ?_
    refine r_iconst (v := 0) dX6_run_31 (by decide) ?_
    refine r_istore_n dX6_run_32 (by decide) rfl ?_
    exact L c18 c 0 F0 P0 _ (by omega) kF_rfl o rfl
  · refine r_sipush (v := -1000) dX6_run_21 (by decide) ?_
    refine r_iload_n dX6_run_24 rfl ?_
    refine r_isub dX6_run_25 ?_
    exact r_ret rfl rfl dX6_run_26 (by rw [t_run, if_neg c18]) (by rw [t_run, if_neg c18]; rfl)

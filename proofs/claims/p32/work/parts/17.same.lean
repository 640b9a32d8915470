/-! PART 17: same P P': the two plans show the same; what is asked and what a day does depends on that alone -/
def same (P P' : tP) : Prop := (∀ k, (k = 1 ∨ k = 3 ∨ (5 ≤ k ∧ k ≤ 13)) → P' 0 k = P 0 k) ∧ (∀ k, k < 4 → P' 2 k = P 2 k) ∧ (∀ k, k < 48 → P' 3 k = P 3 k) ∧ ∀ i k, i < cn P → k < 11 → P' (4 + i) k = P (4 + i) k
section
variable {P P' P'' : tP}
theorem sm_cn (s : same P P') : cn P' = cn P := by rw [cn, cn, s.1 1 (by omega)]
theorem sm_rfl : same P P := ⟨fun _ _ => rfl, fun _ _ => rfl, fun _ _ => rfl, fun _ _ _ _ => rfl⟩
theorem sm_tr (s : same P P') (s2 : same P' P'') : same P P'' := ⟨fun k h => (s2.1 k h).trans (s.1 k h), fun k h => (s2.2.1 k h).trans (s.2.1 k h), fun k h => (s2.2.2.1 k h).trans (s.2.2.1 k h), fun i k h h2 => (s2.2.2.2 i k (by rw [sm_cn s]; exact h) h2).trans (s.2.2.2 i k h h2)⟩
theorem sm_sy (s : same P P') : same P' P := ⟨fun k h => (s.1 k h).symm, fun k h => (s.2.1 k h).symm, fun k h => (s.2.2.1 k h).symm, fun i k h h2 => (s.2.2.2 i k (by rw [← sm_cn s]; exact h) h2).symm⟩
theorem sm_copy {A : tP} : same P (f_copy A P) := ⟨fun k h => fc_0 (by omega), fun k h => fc_2 h, fun k h => fc_3 h, fun i k h h2 => fc_live h h2⟩
theorem sm_0 {k : Nat} {x : Int32} (hk : k ≠ 1) (s : same P P') : same (pu P 0 k x) (pu P' 0 k x) := by
  refine ⟨fun j h => ?_, fun j h => ?_, fun j h => ?_, fun i j h h2 => ?_⟩
  · by_cases e : j = k
    · subst e; rw [pu_s, pu_s]
    · rw [pu_k e, pu_k e]; exact s.1 j h
  · rw [pu_j (by omega), pu_j (by omega)]; exact s.2.1 j h
  · rw [pu_j (by omega), pu_j (by omega)]; exact s.2.2.1 j h
  · have e : cn (pu P 0 k x) = cn P := by rw [cn, cn, pu_k (by omega)]
    rw [e] at h
    rw [pu_j (by omega), pu_j (by omega)]; exact s.2.2.2 i j h h2
theorem sm_3 {k : Nat} {x : Int32} (s : same P P') : same (pu P 3 k x) (pu P' 3 k x) := by
  refine ⟨fun j h => ?_, fun j h => ?_, fun j h => ?_, fun i j h h2 => ?_⟩
  · rw [pu_j (by omega), pu_j (by omega)]; exact s.1 j h
  · rw [pu_j (by omega), pu_j (by omega)]; exact s.2.1 j h
  · by_cases e : j = k
    · subst e; rw [pu_s, pu_s]
    · rw [pu_k e, pu_k e]; exact s.2.2.1 j h
  · have e : cn (pu P 3 k x) = cn P := by rw [cn, cn, pu_j (by omega)]
    rw [e] at h
    rw [pu_j (by omega), pu_j (by omega)]; exact s.2.2.2 i j h h2
theorem sm_st {l k : Nat} {x : Int32} (s : same P P') : same (pu P (4 + l) k x) (pu P' (4 + l) k x) := by
  refine ⟨fun j h => ?_, fun j h => ?_, fun j h => ?_, fun i j h h2 => ?_⟩
  · rw [pu_j (by omega), pu_j (by omega)]; exact s.1 j h
  · rw [pu_j (by omega), pu_j (by omega)]; exact s.2.1 j h
  · rw [pu_j (by omega), pu_j (by omega)]; exact s.2.2.1 j h
  · have e : cn (pu P (4 + l) k x) = cn P := by rw [cn, cn, pu_j (by omega)]
    rw [e] at h
    by_cases e1 : i = l
    · subst e1
      by_cases e2 : j = k
      · subst e2; rw [pu_s, pu_s]
      · rw [pu_k e2, pu_k e2]; exact s.2.2.2 i j h h2
    · rw [pu_j (by omega), pu_j (by omega)]; exact s.2.2.2 i j h h2
theorem sm_en (s : same P P') : en P' = en P := by rw [en, en, s.1 5 (by omega)]
theorem sm_turn {n : Nat} {how ev : Int32} (s : same P P') : same (f_turn P n how ev) (f_turn P' n how ev) := by
  have s2 := sm_st (l := n) (k := 7) (x := 0) (sm_st (l := n) (k := 6) (x := how) s)
  have s3 := sm_3 (k := en P * 3 + 1) (x := nI n) (sm_3 (k := en P * 3) (x := ev) s2)
  have s4 := sm_3 (k := en P * 3 + 2) (x := P 0 7) s3
  have h7 : ∀ Q : tP, pu (pu (pu (pu Q (4 + n) 6 how) (4 + n) 7 0) 3 (en P * 3) ev) 3 (en P * 3 + 1) (nI n) 0 7 = Q 0 7 := fun Q => by rw [pu_j (by omega), pu_j (by omega), pu_j (by omega), pu_j (by omega)]
  have h5 : ∀ Q : tP, pu (pu (pu (pu (pu Q (4 + n) 6 how) (4 + n) 7 0) 3 (en P * 3) ev) 3 (en P * 3 + 1) (nI n)) 3 (en P * 3 + 2) (P 0 7) 0 5 = Q 0 5 := fun Q => by rw [pu_j (by omega), pu_j (by omega), pu_j (by omega), pu_j (by omega), pu_j (by omega)]
  have s5 := sm_0 (k := 5) (x := (P 0 5 + 1) - (P 0 5 + 1) / 16 * 16) (by omega) s4
  have e1 : f_turn1 P n how ev = pu (pu (pu (pu (pu (pu P (4 + n) 6 how) (4 + n) 7 0) 3 (en P * 3) ev) 3 (en P * 3 + 1) (nI n)) 3 (en P * 3 + 2) (P 0 7)) 0 5 ((P 0 5 + 1) - (P 0 5 + 1) / 16 * 16) := by
    unfold f_turn1
    dsimp only
    rw [h7, h5]
  have e2 : f_turn1 P' n how ev = pu (pu (pu (pu (pu (pu P' (4 + n) 6 how) (4 + n) 7 0) 3 (en P * 3) ev) 3 (en P * 3 + 1) (nI n)) 3 (en P * 3 + 2) (P 0 7)) 0 5 ((P 0 5 + 1) - (P 0 5 + 1) / 16 * 16) := by
    unfold f_turn1
    dsimp only
    rw [sm_en s, h7, s.1 7 (by omega), h5, s.1 5 (by omega)]
  rw [← e1, ← e2] at s5
  unfold f_turn
  rw [s5.1 6 (by omega)]
  split
  · exact s5
  · exact sm_0 (by omega) s5
-- searches and sets
theorem sm_lset {h : Int32} (s : same P P') : ∀ (n i : Nat) (x : Int32), i + n ≤ cn P → lp_setOf P' h n i x = lp_setOf P h n i x := by
  intro n
  induction n with
  | zero => intro i x _; rfl
  | succ n ih =>
    intro i x hi
    rw [lp_setOf, lp_setOf, s.2.2.2 i 6 (by omega) (by omega)]
    exact ih _ _ (by omega)
theorem sm_setOf {h : Int32} (s : same P P') : f_setOf P' h = f_setOf P h := by rw [f_setOf, f_setOf, sm_cn s]; exact sm_lset s _ _ _ (by omega)
theorem sm_countOf {h : Int32} (s : same P P') : f_countOf P' h = f_countOf P h := by rw [f_countOf, f_countOf, sm_setOf s]
theorem sm_lsetOff (s : same P P') : ∀ (n i : Nat) (x : Int32), i + n ≤ cn P → lp_setOff P' n i x = lp_setOff P n i x := by
  intro n
  induction n with
  | zero => intro i x _; rfl
  | succ n ih =>
    intro i x hi
    rw [lp_setOff, lp_setOff, s.2.2.2 i 6 (by omega) (by omega)]
    exact ih _ _ (by omega)
theorem sm_setOff (s : same P P') : f_setOff P' = f_setOff P := by rw [f_setOff, f_setOff, sm_cn s]; exact sm_lsetOff s _ _ _ (by omega)
theorem sm_ready {i : Nat} {d : Int32} (s : same P P') (hi : i < cn P) : f_isReady (P' (4 + i)) d = f_isReady (P (4 + i)) d := by
  unfold f_isReady
  rw [s.2.2.2 i 4 hi (by omega), s.2.2.2 i 3 hi (by omega)]
theorem sm_hopeless {i : Nat} {d : Int32} (s : same P P') (hi : i < cn P) : f_isHopeless (P' (4 + i)) d = f_isHopeless (P (4 + i)) d := by
  unfold f_isHopeless
  rw [s.2.2.2 i 4 hi (by omega), s.2.2.2 i 3 hi (by omega), s.2.2.2 i 6 hi (by omega)]
theorem sm_llow {d : Int32} (s : same P P') : ∀ (n i : Nat), i + n ≤ cn P → lp_lowH P' d n i = lp_lowH P d n i := by
  intro n
  induction n with
  | zero => intro i _; rfl
  | succ n ih =>
    intro i hi
    rw [lp_lowH, lp_lowH, sm_hopeless s (by omega), ih _ (by omega)]
theorem sm_lowH {d : Int32} (s : same P P') : f_lowH P' d = f_lowH P d := by rw [f_lowH, f_lowH, sm_cn s]; exact sm_llow s _ _ (by omega)
theorem sm_lftu {b : Int32} (s : same P P') : ∀ (n i : Nat) (x y : Int32), i + n ≤ cn P → lp_ftu P' b n i x y = lp_ftu P b n i x y := by
  intro n
  induction n with
  | zero => intro i x y _; rfl
  | succ n ih =>
    intro i x y hi
    rw [lp_ftu, lp_ftu, s.2.2.2 i 6 (by omega) (by omega), s.2.2.2 i 2 (by omega) (by omega), s.2.2.2 i 10 (by omega) (by omega), ih _ _ _ (by omega), ih _ _ _ (by omega)]
theorem sm_ftu {b : Int32} (s : same P P') : f_ftu P' b = f_ftu P b := by rw [f_ftu, f_ftu, sm_cn s]; exact sm_lftu s _ _ _ _ (by omega)
theorem sm_lftb {d : Int32} (s : same P P') : ∀ (n i : Nat) (x y : Int32), i + n ≤ cn P → lp_ftb P' d n i x y = lp_ftb P d n i x y := by
  intro n
  induction n with
  | zero => intro i x y _; rfl
  | succ n ih =>
    intro i x y hi
    rw [lp_ftb, lp_ftb, s.2.2.2 i 6 (by omega) (by omega), s.2.2.2 i 5 (by omega) (by omega), sm_ready s (by omega), ih _ _ _ (by omega), ih _ _ _ (by omega)]
theorem sm_ftb {d : Int32} (s : same P P') : f_ftb P' d = f_ftb P d := by rw [f_ftb, f_ftb, sm_cn s]; exact sm_lftb s _ _ _ _ (by omega)
theorem sm_isC {b : Int32} (s : same P P') : f_isCancelled P' b = f_isCancelled P b := by rw [f_isCancelled, f_isCancelled, s.1 9 (by omega)]
theorem sm_ahead {i j : Nat} (s : same P P') (hi : i < cn P) (hj : j < cn P) : f_ahead P' i j = f_ahead P i j := by
  unfold f_ahead
  rw [s.2.2.2 i 8 hi (by omega), s.2.2.2 j 8 hj (by omega), s.2.2.2 i 0 hi (by omega), s.2.2.2 j 0 hj (by omega)]
theorem sm_lsao {j : Nat} (s : same P P') (hj : j < cn P) : ∀ (n i : Nat) (x : Int32), i + n ≤ cn P → lp_sao P' j n i x = lp_sao P j n i x := by
  intro n
  induction n with
  | zero => intro i x _; rfl
  | succ n ih =>
    intro i x hi
    rw [lp_sao, lp_sao, sm_ahead s (by omega) hj, ih _ _ (by omega)]
theorem sm_sao {j : Nat} (s : same P P') (hj : j < cn P) : f_sao P' j = f_sao P j := by rw [f_sao, f_sao, sm_cn s]; exact sm_lsao s hj _ _ _ (by omega)
theorem sm_lwid {x : Int32} (s : same P P') : ∀ (n i : Nat) (w : Int32), i + n ≤ cn P → lp_wid P' x n i w = lp_wid P x n i w := by
  intro n
  induction n with
  | zero => intro i w _; rfl
  | succ n ih =>
    intro i w hi
    rw [lp_wid, lp_wid, s.2.2.2 i 4 (by omega) (by omega), ih _ _ (by omega)]
theorem sm_reach (s : same P P') : ∀ (n : Nat) (x : Int32), lp_reach P' n x = lp_reach P n x := by
  intro n
  induction n with
  | zero => intro x; rfl
  | succ n ih =>
    intro x
    rw [lp_reach, lp_reach, sm_cn s, sm_lwid s _ _ _ (by omega), ih]
theorem sm_noa {i : Nat} {j : Int32} (s : same P P') (hi : i < cn P) : f_noa P' i j = f_noa P i j := by
  rw [f_noa, f_noa, s.2.2.2 i 4 hi (by omega), sm_reach s]
theorem sm_mn (s : same P P') : mn P' = mn P := by rw [mn, mn, s.1 3 (by omega)]
theorem sm_ms {k : Nat} (s : same P P') (hk : k < 4) : ms P' k = ms P k := by rw [ms, ms, s.2.1 k hk]
theorem sm_lateBy {k m : Nat} (s : same P P') (hm : m < cn P) : f_lateBy P' k m = f_lateBy P k m := by
  unfold f_lateBy
  rw [s.2.2.2 m 6 hm (by omega), s.2.2.2 m 10 hm (by omega), s.2.2.2 m 5 hm (by omega), s.1 7 (by omega)]
-- changes of a plan
theorem sm_lcan {b : Int32} : ∀ (n i : Nat) (P P' : tP) (u : Int32), same P P' → i + n ≤ cn P → same (lp_can b n i P u).1 (lp_can b n i P' u).1 ∧ (lp_can b n i P' u).2 = (lp_can b n i P u).2 := by
  intro n
  induction n with
  | zero => intro i P P' u s _; exact ⟨s, rfl⟩
  | succ n ih =>
    intro i P P' u s hi
    have e2 := s.2.2.2 i 2 (by omega) (by omega)
    have e6 := s.2.2.2 i 6 (by omega) (by omega)
    have e0 : ∀ x, pu P' (4 + i) 6 x (4 + i) 0 = pu P (4 + i) 6 x (4 + i) 0 := fun x => by rw [pu_k (by omega), pu_k (by omega)]; exact s.2.2.2 i 0 (by omega) (by omega)
    rw [lp_can, lp_can, e2, e6, e0]
    split
    · split
      · exact ih _ _ _ _ (sm_turn s) (by rw [kp_cn kp_turn]; omega)
      · split
        · exact ih _ _ _ _ (sm_st (sm_st s)) (by
            have z := kp_tr (kp_st (P := P) (i := i) (k := 6) (x := 4) (by omega)) (kp_st (i := i) (k := 7) (x := (pu P (4 + i) 6 4 (4 + i) 0 + 1) / 2) (by omega))
            rw [kp_cn z]; omega)
        · exact ih _ _ _ _ s (by omega)
    · exact ih _ _ _ _ s (by omega)
theorem sm_can {b : Int32} (s : same P P') : same (f_can P b).1 (f_can P' b).1 ∧ (f_can P' b).2 = (f_can P b).2 := by
  unfold f_can
  rw [sm_cn s, s.1 9 (by omega)]
  exact sm_lcan _ _ _ _ _ (sm_0 (by omega) s) (by rw [kp_cn (kp_0 (by omega))]; omega)
theorem sm_work2 {i : Nat} (s : same P P') (hi : i < cn P) : same (f_work2 P i) (f_work2 P' i) := by
  have h9 := s.2.2.2 i 9 hi (by omega)
  have s2 := sm_st (l := i) (k := 9) (x := P (4 + i) 9 - 1) s
  have s3 := sm_0 (k := 11) (x := pu P (4 + i) 9 (P (4 + i) 9 - 1) 0 11 + 1) (by omega) s2
  have z := kp_tr (kp_st (P := P) (i := i) (k := 9) (x := P (4 + i) 9 - 1) (by omega)) (kp_0 (k := 11) (x := pu P (4 + i) 9 (P (4 + i) 9 - 1) 0 11 + 1) (by omega))
  have st := sm_turn (n := i) (how := 7) (ev := 3) s3
  have hi3 : i < cn (pu (pu P (4 + i) 9 (P (4 + i) 9 - 1)) 0 11 (pu P (4 + i) 9 (P (4 + i) 9 - 1) 0 11 + 1)) := by rw [kp_cn z]; exact hi
  unfold f_work2
  dsimp only
  rw [h9, s2.1 11 (by omega), s3.2.2.2 i 1 hi3 (by omega), s3.2.2.2 i 8 hi3 (by omega), st.2.2.2 i 2 (by rw [kp_cn kp_turn]; exact hi3) (by omega), sm_isC st]
  split
  · split
    · exact st
    · split
      · exact st
      · exact (sm_can st).1
  · exact sm_turn s3
theorem sm_work {i : Nat} (s : same P P') (hi : i < cn P) : same (f_work P i) (f_work P' i) := by
  unfold f_work
  rw [s.2.2.2 i 6 hi (by omega), s.2.2.2 i 7 hi (by omega)]
  split
  · have s1 := sm_st (l := i) (k := 7) (x := P (4 + i) 7 - 1) s
    have z := kp_st (P := P) (i := i) (k := 7) (x := P (4 + i) 7 - 1) (by omega)
    have hi1 : i < cn (pu P (4 + i) 7 (P (4 + i) 7 - 1)) := by rw [kp_cn z]; exact hi
    unfold f_work1
    rw [s1.2.2.2 i 7 hi1 (by omega), s1.2.2.2 i 9 hi1 (by omega), s1.1 7 (by omega)]
    split
    · split
      · have s2 := sm_st (l := i) (k := 10) (x := pu P (4 + i) 7 (P (4 + i) 7 - 1) 0 7) s1
        dsimp only
        rw [s2.1 12 (by omega)]
        exact sm_turn (sm_0 (by omega) s2)
      · exact sm_work2 s1 hi1
    · exact s1
  · exact s
theorem sm_lwork : ∀ (n i : Nat) (P P' : tP), same P P' → i + n ≤ cn P → same (lp_work n i P) (lp_work n i P') := by
  intro n
  induction n with
  | zero => intro i P P' s _; exact s
  | succ n ih =>
    intro i P P' s hi
    exact ih _ _ _ (sm_work s (by omega)) (by rw [kp_cn kp_work]; omega)
theorem sm_und {b : Int32} (s : same P P') (o : okc P) : same (f_und P b) (f_und P' b) := by
  unfold f_und
  rw [sm_ftu s]
  rcases ftu_c (b := b) o with ⟨h1, h2⟩ | ⟨l, hl, -, -, hl4, hl5⟩
  · rw [if_neg h2, if_neg h2]; exact s
  · rw [if_pos hl5, if_pos hl5, hl4]
    have s1 := sm_st (l := l) (k := 7) (x := P (4 + l) 7 - 1) s
    have z := kp_st (P := P) (i := l) (k := 7) (x := P (4 + l) 7 - 1) (by omega)
    unfold f_und1
    dsimp only
    rw [s.2.2.2 l 7 hl (by omega), s1.2.2.2 l 7 (by rw [kp_cn z]; exact hl) (by omega), s1.1 13 (by omega)]
    split
    · exact s1
    · exact sm_turn (sm_0 (by omega) s1)
theorem sm_lund : ∀ (n b : Nat) (P P' : tP), same P P' → okc P → same (lp_und n b P) (lp_und n b P') := by
  intro n
  induction n with
  | zero => intro b P P' s _; exact s
  | succ n ih =>
    intro b P P' s o
    rw [lp_und, lp_und, sm_isC s]
    split
    · exact ih _ _ _ (sm_und s o) (kp_okc kp_und o)
    · exact ih _ _ _ s o
theorem sm_llo : ∀ (n : Nat) (P P' : tP) (x : Int32), same P P' → same (lp_lo n P x) (lp_lo n P' x) := by
  intro n
  induction n with
  | zero => intro P P' x s; exact s
  | succ n ih =>
    intro P P' x s
    rw [lp_lo, lp_lo, sm_lowH s]
    split
    · exact ih _ _ _ (sm_turn s)
    · exact s
theorem sm_lbeg {d : Int32} : ∀ (n : Nat) (P P' : tP) (x : Int32), same P P' → okc P → same (lp_beg d n P x) (lp_beg d n P' x) := by
  intro n
  induction n with
  | zero => intro P P' x s _; exact s
  | succ n ih =>
    intro P P' x s o
    rw [lp_beg, lp_beg, s.1 8 (by omega), sm_ftb s]
    split
    · exact s
    · rcases ftb_c (d := d) o with ⟨h1, h2⟩ | ⟨l, hl, -, -, hl4, hl5⟩
      · rw [if_neg h2, if_neg h2]; exact s
      · rw [if_pos hl5, if_pos hl5, hl4]
        refine ih _ _ _ ?_ (kp_okc kp_begin1 o)
        have s1 := sm_st (l := l) (k := 8) (x := P (4 + l) 8 + 1) s
        have s2 := sm_0 (k := 10) (x := pu P (4 + l) 8 (P (4 + l) 8 + 1) 0 10 + 1) (by omega) s1
        have s3 := sm_turn (n := l) (how := 1) (ev := 0) s2
        have z := kp_tr (kp_tr (kp_st (P := P) (i := l) (k := 8) (x := P (4 + l) 8 + 1) (by omega)) (kp_0 (k := 10) (x := pu P (4 + l) 8 (P (4 + l) 8 + 1) 0 10 + 1) (by omega))) (kp_turn (n := l) (how := 1) (ev := 0))
        unfold f_begin1
        dsimp only
        rw [s.2.2.2 l 8 hl (by omega), s1.1 10 (by omega), s3.2.2.2 l 0 (by rw [kp_cn z]; exact hl) (by omega)]
        exact sm_st s3
theorem sm_pass (s : same P P') (o : okc P) : same (f_pass P) (f_pass P') := by
  have s1 := sm_lwork (cn P) 0 P P' s (by omega)
  have o1 := kp_okc (kp_lwork (cn P) 0 P) o
  have s2 := sm_lund 3 1 _ _ s1 o1
  have o2 := kp_okc (kp_lund 3 1 _) o1
  have s3 := sm_llo 12 _ _ (f_setOff (lp_und 3 1 (lp_work (cn P) 0 P))) s2
  have o3 := kp_okc (kp_lo 12 _ (f_setOff (lp_und 3 1 (lp_work (cn P) 0 P)))) o2
  have e3 : f_leave (lp_und 3 1 (lp_work (cn P) 0 P')) = lp_lo 12 (lp_und 3 1 (lp_work (cn P) 0 P')) (f_setOff (lp_und 3 1 (lp_work (cn P) 0 P))) := by rw [f_leave, sm_setOff s2]
  have s4 := sm_lbeg (d := f_setOf (f_leave (lp_und 3 1 (lp_work (cn P) 0 P))) 3) 5 _ _ (f_countOf (f_leave (lp_und 3 1 (lp_work (cn P) 0 P))) 1) s3 o3
  unfold f_pass
  rw [sm_cn s, e3]
  dsimp only
  have e4 : f_begin (lp_lo 12 (lp_und 3 1 (lp_work (cn P) 0 P')) (f_setOff (lp_und 3 1 (lp_work (cn P) 0 P)))) = lp_beg (f_setOf (f_leave (lp_und 3 1 (lp_work (cn P) 0 P))) 3) 5 (lp_lo 12 (lp_und 3 1 (lp_work (cn P) 0 P')) (f_setOff (lp_und 3 1 (lp_work (cn P) 0 P)))) (f_countOf (f_leave (lp_und 3 1 (lp_work (cn P) 0 P))) 1) := by
    rw [f_begin, sm_setOf s3, sm_countOf s3]
    rfl
  rw [e4, s4.1 7 (by omega)]
  exact sm_0 (by omega) s4
theorem sm_days : ∀ (n : Nat) (P P' : tP), same P P' → okc P → same (lp_days n P) (lp_days n P') := by
  intro n
  induction n with
  | zero => intro P P' s _; exact s
  | succ n ih => intro P P' s o; exact ih _ _ (sm_pass s o) (kp_okc kp_pass o)
end

/-! PART 23: the next tries that go wrong stay few (okW); a refused change changes nothing; what a change does to an object between two calls (inv, chg) -/
def okW (w : Nat) (P : tP) : Prop := ∀ i, ∃ n, n ≤ w ∧ P (4 + i) 9 = nI n
def kw (P P' : tP) : Prop := ∀ w, okW w P → okW w P'
section
variable {P P' P'' : tP}
theorem kw_rfl : kw P P := fun _ h => h
theorem kw_tr (h : kw P P') (h2 : kw P' P'') : kw P P'' := fun w o => h2 w (h w o)
theorem kw_pu {j k : Nat} {x : Int32} (h : j < 4 ∨ k ≠ 9) : kw P (pu P j k x) := fun w o i => by
  have e : pu P j k x (4 + i) 9 = P (4 + i) 9 := by
    rcases h with h | h
    · exact pu_j (by omega)
    · exact pu_k (Ne.symm h)
  rw [e]; exact o i
theorem okW_mono {w w' : Nat} (h : w ≤ w') (o : okW w P) : okW w' P := fun i => by obtain ⟨n, h1, h2⟩ := o i; exact ⟨n, by omega, h2⟩
theorem kw_turn {n : Nat} {how ev : Int32} : kw P (f_turn P n how ev) := by
  have h1 : kw P (f_turn1 P n how ev) := kw_tr (kw_tr (kw_tr (kw_tr (kw_tr (kw_pu (Or.inr (by omega))) (kw_pu (Or.inr (by omega)))) (kw_pu (Or.inl (by omega)))) (kw_pu (Or.inl (by omega)))) (kw_pu (Or.inl (by omega)))) (kw_pu (Or.inl (by omega)))
  unfold f_turn
  split
  · exact h1
  · exact kw_tr h1 (kw_pu (Or.inl (by omega)))
theorem kw_lcan {b : Int32} : ∀ (n i : Nat) (P : tP) (u : Int32), kw P (lp_can b n i P u).1 := by
  intro n
  induction n with
  | zero => intro i P u; exact kw_rfl
  | succ n ih =>
    intro i P u
    rw [lp_can]
    split
    · split
      · exact kw_tr kw_turn (ih _ _ _)
      · split
        · exact kw_tr (kw_tr (kw_pu (Or.inr (by omega))) (kw_pu (Or.inr (by omega)))) (ih _ _ _)
        · exact ih _ _ _
    · exact ih _ _ _
theorem kw_can {b : Int32} : kw P (f_can P b).1 := kw_tr (kw_pu (Or.inl (by omega))) (kw_lcan _ _ _ _)
theorem kw_work2 {i : Nat} (h9 : ¬ P (4 + i) 9 = 0) : kw P (f_work2 P i) := by
  have h0 : kw P (pu P (4 + i) 9 (P (4 + i) 9 - 1)) := fun w o j => by
    by_cases e : j = i
    · subst e
      obtain ⟨n, h1, h2⟩ := o j
      rw [pu_s, h2]
      cases n with
      | zero => exact absurd h2 h9
      | succ n => exact ⟨n, by omega, nI_pred n⟩
    · rw [pu_j (by omega)]; exact o j
  unfold f_work2
  try dsimp only
  refine kw_tr (kw_tr h0 (kw_pu (j := 0) (k := 11) (x := pu P (4 + i) 9 (P (4 + i) 9 - 1) 0 11 + 1) (Or.inl (by omega)))) ?_
  split
  · split
    · exact kw_turn
    · split
      · exact kw_turn
      · exact kw_tr kw_turn kw_can
  · exact kw_turn
theorem kw_work {i : Nat} : kw P (f_work P i) := by
  unfold f_work
  split
  · refine kw_tr (kw_pu (j := 4 + i) (k := 7) (x := P (4 + i) 7 - 1) (Or.inr (by omega))) ?_
    unfold f_work1
    split
    · split
      · exact kw_tr (kw_tr (kw_pu (Or.inr (by omega))) (kw_pu (Or.inl (by omega)))) kw_turn
      · exact kw_work2 (by assumption)
    · exact kw_rfl
  · exact kw_rfl
theorem kw_und {b : Int32} : kw P (f_und P b) := by
  unfold f_und
  split
  · unfold f_und1
    try dsimp only
    split
    · exact kw_pu (Or.inr (by omega))
    · exact kw_tr (kw_tr (kw_pu (Or.inr (by omega))) (kw_pu (Or.inl (by omega)))) kw_turn
  · exact kw_rfl
theorem kw_lund : ∀ (n b : Nat) (P : tP), kw P (lp_und n b P) := by
  intro n
  induction n with
  | zero => intro b P; exact kw_rfl
  | succ n ih =>
    intro b P
    rw [lp_und]
    refine kw_tr ?_ (ih _ _)
    split
    · exact kw_und
    · exact kw_rfl
theorem kw_lo : ∀ (n : Nat) (P : tP) (x : Int32), kw P (lp_lo n P x) := by
  intro n
  induction n with
  | zero => intro P x; exact kw_rfl
  | succ n ih =>
    intro P x
    rw [lp_lo]
    split
    · exact kw_tr kw_turn (ih _ _)
    · exact kw_rfl
theorem kw_begin1 {l : Nat} : kw P (f_begin1 P l) := kw_tr (kw_tr (kw_tr (kw_pu (Or.inr (by omega))) (kw_pu (Or.inl (by omega)))) kw_turn) (kw_pu (Or.inr (by omega)))
theorem kw_beg {d : Int32} : ∀ (n : Nat) (P : tP) (x : Int32), kw P (lp_beg d n P x) := by
  intro n
  induction n with
  | zero => intro P x; exact kw_rfl
  | succ n ih =>
    intro P x
    rw [lp_beg]
    split
    · exact kw_rfl
    · split
      · exact kw_tr kw_begin1 (ih _ _)
      · exact kw_rfl
theorem kw_lwork : ∀ (n i : Nat) (P : tP), kw P (lp_work n i P) := by
  intro n
  induction n with
  | zero => intro i P; exact kw_rfl
  | succ n ih => intro i P; exact kw_tr kw_work (ih _ _)
theorem kw_pass : kw P (f_pass P) := kw_tr (kw_tr (kw_tr (kw_tr (kw_lwork _ _ _) (kw_lund _ _ _)) (kw_lo _ _ _)) (kw_beg _ _ _)) (kw_pu (Or.inl (by omega)))
theorem kw_days : ∀ (n : Nat) (P : tP), kw P (lp_days n P) := by
  intro n
  induction n with
  | zero => intro P; exact kw_rfl
  | succ n ih => intro P; exact kw_tr kw_pass (ih _)
theorem kw_tell {i : Nat} {d m b a : Int32} : kw P (f_tell P i d m b a) := fun w o j => by
  by_cases e : j = i
  · subst e
    refine ⟨0, Nat.zero_le _, ?_⟩
    unfold f_tell
    rw [pu_k (by omega), pu_s]
    rfl
  · rw [f_tell_j (by omega)]; exact o j
theorem kw_add {d m b a : Int32} : kw P (f_add P d m b a) := by
  have h1 : kw P (f_add1 P d m b a) := kw_tr kw_tell (kw_pu (Or.inl (by omega)))
  unfold f_add
  split
  · exact kw_tr h1 kw_turn
  · exact h1
theorem kw_addMs {s : Nat} {d : Int32} : kw P (f_addMs P s d) := kw_tr (kw_tr (kw_pu (Or.inl (by omega))) (kw_pu (Or.inr (by omega)))) (kw_pu (Or.inl (by omega)))
theorem okW_copy {w : Nat} {A : tP} (hA : okW w A) (hP : okW w P) : okW w (f_copy A P) := fun i => by
  by_cases h : i < cn P
  · rw [fc_live h (by omega)]; exact hP i
  · rw [fc_old (by omega)]; exact hA i
end
-- answers
theorem and_pos {x : Int32} : ¬ x &&& 63 < 0 := by
  intro h
  have h1 : (x &&& 63).toBitVec.toNat ≤ 63 := by
    rw [Int32.toBitVec_and, BitVec.toNat_and]
    exact Nat.and_le_right
  have h2 : (x &&& 63).toInt < 0 := Int32.lt_iff_toInt_lt.mp h
  rw [← Int32.toInt_toBitVec, BitVec.toInt_eq_toNat_of_lt (by omega)] at h2
  omega
theorem bc_pos {x : Int32} : ¬ f_bc x < 0 := by
  unfold f_bc
  exact and_pos
theorem lcan_n {b : Int32} : ∀ (n i j : Nat) (P : tP), ∃ c, c ≤ j + n ∧ (lp_can b n i P (nI j)).2 = nI c := by
  intro n
  induction n with
  | zero => intro i j P; exact ⟨j, by omega, rfl⟩
  | succ n ih =>
    intro i j P
    rw [lp_can]
    split
    · split
      · obtain ⟨c, h1, h2⟩ := ih (i + 1) j (f_turn P i 6 5); exact ⟨c, by omega, h2⟩
      · split
        · rw [ii_s]
          obtain ⟨c, h1, h2⟩ := ih (i + 1) (j + 1) (pu (pu P (4 + i) 6 4) (4 + i) 7 ((pu P (4 + i) 6 4 (4 + i) 0 + 1) / 2)); exact ⟨c, by omega, h2⟩
        · obtain ⟨c, h1, h2⟩ := ih (i + 1) j P; exact ⟨c, by omega, h2⟩
    · obtain ⟨c, h1, h2⟩ := ih (i + 1) j P; exact ⟨c, by omega, h2⟩
theorem can_pos {P : tP} {b : Int32} (o : okc P) : ¬ (f_can P b).2 < 0 := by
  obtain ⟨c, h1, h2⟩ := lcan_n (b := b) (cn P) 0 0 (pu P 0 9 (P 0 9 ||| 1 <<< (b &&& 31)))
  have h3 : (f_can P b).2 = nI c := h2
  rw [h3]
  exact nI_pos (by have := o.2; omega)
/-- how many steps were done -/
def kd (c : Nat) (P P' : tP) : Prop := ∃ n, n ≤ c ∧ P' 0 12 = P 0 12 + nI n
section
variable {P P' P'' : tP}
theorem kd_of (h : P' 0 12 = P 0 12) : kd 0 P P' := ⟨0, Nat.le_refl _, by rw [h, nI_0, Int32.add_zero]⟩
theorem kd_tr {a b : Nat} (h : kd a P P') (h2 : kd b P' P'') : kd (a + b) P P'' := by
  obtain ⟨n, h1, e1⟩ := h
  obtain ⟨k, h3, e2⟩ := h2
  exact ⟨n + k, by omega, by rw [e2, e1, Int32.add_assoc, nI_add]⟩
theorem kd_le {a b : Nat} (h : a ≤ b) (k : kd a P P') : kd b P P' := by obtain ⟨n, h1, e1⟩ := k; exact ⟨n, by omega, e1⟩
theorem t12_turn {n : Nat} {how ev : Int32} : f_turn P n how ev 0 12 = P 0 12 := by
  have h1 : f_turn1 P n how ev 0 12 = P 0 12 := by
    unfold f_turn1
    try dsimp only
    rw [pu_k (by omega), pu_j (by omega), pu_j (by omega), pu_j (by omega), pu_j (by omega), pu_j (by omega)]
  unfold f_turn
  split
  · exact h1
  · rw [pu_k (by omega)]; exact h1
theorem t12_lcan {b : Int32} : ∀ (n i : Nat) (P : tP) (u : Int32), (lp_can b n i P u).1 0 12 = P 0 12 := by
  intro n
  induction n with
  | zero => intro i P u; rfl
  | succ n ih =>
    intro i P u
    rw [lp_can]
    split
    · split
      · rw [ih, t12_turn]
      · split
        · rw [ih, pu_j (by omega), pu_j (by omega)]
        · exact ih _ _ _
    · exact ih _ _ _
theorem t12_can {b : Int32} : (f_can P b).1 0 12 = P 0 12 := by
  unfold f_can
  rw [t12_lcan, pu_k (by omega)]
theorem t12_work2 {i : Nat} : f_work2 P i 0 12 = P 0 12 := by
  have h0 : (pu (pu P (4 + i) 9 (P (4 + i) 9 - 1)) 0 11 (pu P (4 + i) 9 (P (4 + i) 9 - 1) 0 11 + 1)) 0 12 = P 0 12 := by rw [pu_k (by omega), pu_j (by omega)]
  unfold f_work2
  try dsimp only
  split
  · split
    · rw [t12_turn, h0]
    · split
      · rw [t12_turn, h0]
      · rw [t12_can, t12_turn, h0]
  · rw [t12_turn, h0]
theorem kd_work {i : Nat} : kd 1 P (f_work P i) := by
  have h7 : (pu P (4 + i) 7 (P (4 + i) 7 - 1)) 0 12 = P 0 12 := pu_j (by omega)
  unfold f_work
  split
  · unfold f_work1
    split
    · split
      · refine ⟨1, Nat.le_refl _, ?_⟩
        try dsimp only
        rw [t12_turn, pu_s, pu_j (by omega), h7]
        rfl
      · exact kd_le (by omega) (kd_of (t12_work2.trans h7))
    · exact kd_le (by omega) (kd_of h7)
  · exact kd_le (by omega) (kd_of rfl)
theorem kd_lwork : ∀ (n i : Nat) (P : tP), kd n P (lp_work n i P) := by
  intro n
  induction n with
  | zero => intro i P; exact kd_of rfl
  | succ n ih => intro i P; exact kd_le (by omega) (kd_tr kd_work (ih (i + 1) (f_work P i)))
theorem t12_und {b : Int32} : f_und P b 0 12 = P 0 12 := by
  unfold f_und
  split
  · unfold f_und1
    try dsimp only
    split
    · exact pu_j (by omega)
    · rw [t12_turn, pu_k (by omega), pu_j (by omega)]
  · rfl
theorem t12_lund : ∀ (n b : Nat) (P : tP), lp_und n b P 0 12 = P 0 12 := by
  intro n
  induction n with
  | zero => intro b P; rfl
  | succ n ih =>
    intro b P
    rw [lp_und, ih]
    split
    · exact t12_und
    · rfl
theorem t12_lo : ∀ (n : Nat) (P : tP) (x : Int32), lp_lo n P x 0 12 = P 0 12 := by
  intro n
  induction n with
  | zero => intro P x; rfl
  | succ n ih =>
    intro P x
    rw [lp_lo]
    split
    · rw [ih, t12_turn]
    · rfl
theorem t12_begin1 {l : Nat} : f_begin1 P l 0 12 = P 0 12 := by
  unfold f_begin1
  try dsimp only
  rw [pu_j (by omega), t12_turn, pu_k (by omega), pu_j (by omega)]
theorem t12_beg {d : Int32} : ∀ (n : Nat) (P : tP) (x : Int32), lp_beg d n P x 0 12 = P 0 12 := by
  intro n
  induction n with
  | zero => intro P x; rfl
  | succ n ih =>
    intro P x
    rw [lp_beg]
    split
    · rfl
    · split
      · rw [ih, t12_begin1]
      · rfl
theorem kd_pass : kd (cn P) P (f_pass P) := by
  obtain ⟨n, h1, h2⟩ := kd_lwork (cn P) 0 P
  refine ⟨n, h1, ?_⟩
  unfold f_pass
  try dsimp only
  rw [pu_k (by omega)]
  unfold f_begin f_leave
  rw [t12_beg, t12_lo, t12_lund, h2]
theorem kd_days : ∀ (n : Nat) (P : tP), okc P → kd (12 * n) P (lp_days n P) := by
  intro n
  induction n with
  | zero => intro P _; exact kd_of rfl
  | succ n ih => intro P o; exact kd_le (by have := o.2; omega) (kd_tr kd_pass (ih _ (kp_okc kp_pass o)))
theorem days_pos {n : Nat} (o : okc P) (hn : n ≤ 30) : ¬ lp_days n P 0 12 - P 0 12 < 0 := by
  obtain ⟨c, h1, h2⟩ := kd_days n P o
  have e : lp_days n P 0 12 - P 0 12 = nI c := by rw [h2, Int32.add_comm, Int32.add_sub_cancel]
  rw [e]
  exact nI_pos (by omega)
end
def nn (x : Int32) : Bool := decide (¬ x < 0)
theorem nn_t {x : Int32} (h : nn x = true) : ¬ x < 0 := by simpa [nn] using h
theorem nn_f {x : Int32} (h : nn x = false) : x < 0 := by simpa [nn] using h
theorem nn_y {x : Int32} (h : ¬ x < 0) : nn x = true := by simpa [nn] using h
theorem nn_n {x : Int32} (h : x < 0) : nn x = false := by simpa [nn] using h
/-- a change: an answer below 0 leaves the plan; else the plan is in order -/
def goodN (w : Nat) (P : tP) (q : TX) : Prop := (q.1 < 0 → q.2.2 = P) ∧ okW (w + 9) q.2.2
theorem gN_no {w : Nat} {F P : tP} {x : Int32} (o : okW w P) : goodN w P (x, F, P) := ⟨fun _ => rfl, okW_mono (by omega) o⟩
theorem gN_ys {w : Nat} {F P P' : tP} {x : Int32} (hx : ¬ x < 0) (o : okW (w + 9) P') : goodN w P (x, F, P') := ⟨fun h => absurd h hx, o⟩
section
variable {w : Nat} {F P : tP}
theorem n_step {d m b : Int32} {a : Bool} (o : okP P) (oW : okW w P) : goodN w P (t_step F P d m b (bI a)) := by
  unfold t_step
  split
  · exact gN_no oW
  · split
    · exact gN_ys (by rw [o.1.1]; exact nI_pos (by have := o.1.2; omega)) (okW_mono (by omega) (kw_add _ oW))
    · exact gN_no oW
theorem n_need {s x : Int32} (oW : okW w P) : goodN w P (t_need F P s x) := by
  unfold t_need
  split
  · exact gN_no oW
  · split
    · exact gN_no oW
    · split
      · exact gN_no oW
      · split
        · exact gN_no oW
        · split
          · exact gN_no oW
          · exact gN_ys bc_pos (okW_mono (by omega) (kw_pu (Or.inr (by omega)) _ oW))
theorem n_fault {s x : Int32} (hw : w < 1000000) (o : okP P) (oW : okW w P) : goodN w P (t_fault F P s x) := by
  unfold t_fault
  split
  · exact gN_no oW
  · rename_i hs
    split
    · exact gN_no oW
    · rename_i hx
      split
      · exact gN_no oW
      · obtain ⟨i, h1, -, -, h4⟩ := hs_of o.1 (show f_hasStep P s = true from by simpa using hs)
        obtain ⟨j, g1, g2, g3, -⟩ := wi_of (b := 9) (by omega) (show f_within x 1 9 = true from by simpa using hx)
        obtain ⟨n, k1, k2⟩ := oW i
        rw [h4, g3, k2, nI_add]
        refine gN_ys (nI_pos (by omega)) (fun l => ?_)
        by_cases e : l = i
        · subst e; rw [pu_s]; exact ⟨n + j, by omega, rfl⟩
        · rw [pu_j (by omega)]; exact okW_mono (by omega) oW l
theorem n_hands {x : Int32} (o : okP P) (oW : okW w P) : goodN w P (t_hands F P x) := by
  unfold t_hands
  split
  · exact gN_no oW
  · obtain ⟨n, h1, h2⟩ := o.2.2.2.1
    exact gN_ys (by rw [h2]; exact nI_pos (by omega)) (okW_mono (by omega) (kw_pu (Or.inl (by omega)) _ oW))
theorem n_cancel {x : Int32} (o : okP P) (oW : okW w P) : goodN w P (t_cancel F P x) := by
  unfold t_cancel
  split
  · exact gN_no oW
  · split
    · exact gN_no oW
    · exact gN_ys (can_pos o.1) (okW_mono (by omega) (kw_can _ oW))
theorem n_mile {s x : Int32} (o : okP P) (oW : okW w P) : goodN w P (t_mile F P s x) := by
  unfold t_mile
  split
  · exact gN_no oW
  · split
    · exact gN_no oW
    · split
      · exact gN_no oW
      · split
        · exact gN_ys (by rw [o.2.2.2.2.1.1]; exact nI_pos (by have := o.2.2.2.2.1.2; omega)) (okW_mono (by omega) (kw_addMs _ oW))
        · exact gN_no oW
theorem n_days {x : Int32} (o : okP P) (oW : okW w P) : goodN w P (t_days F P x) := by
  unfold t_days
  split
  · exact gN_no oW
  · rename_i hx
    obtain ⟨j, g1, g2, g3, g4⟩ := wi_of (b := 30) (by omega) (show f_within x 1 30 = true from by simpa using hx)
    rw [g4]
    exact gN_ys (days_pos o.1 g2) (okW_mono (by omega) (kw_days _ _ _ oW))
theorem n_carry {v : Nat → Int32} (hw : w < 1000000) (hb : v 4 = 0 ∨ v 4 = 1) (o : okP P) (oW : okW w P) : goodN w P (t_carry F P v) := by
  obtain ⟨a, ha⟩ : ∃ a : Bool, v 4 = bI a := by
    rcases hb with h | h
    · exact ⟨false, h⟩
    · exact ⟨true, h⟩
  unfold t_carry
  split
  · rw [ha]; exact n_step o oW
  · split
    · exact n_need oW
    · split
      · exact n_fault hw o oW
      · split
        · exact n_hands o oW
        · split
          · exact n_cancel o oW
          · split
            · exact n_mile o oW
            · split
              · exact n_days o oW
              · exact gN_no oW
end
-- an object between two calls
def okTx (T : tP) : Prop := T 0 1 = nI (tl T) ∧ tl T ≤ 60 ∧ oks T ∧ okz T
/-- k: the next mark's place; u: how many changes can be undone; h: is there a snapshot; w: a bound of the faults told -/
def inv (M : tM) (F P : tP) (k u w : Nat) (h : Int32) : Prop :=
  (okP P ∧ okW w P) ∧ (∀ j, j < 9 → okP (M (4 + j)) ∧ okW w (M (4 + j))) ∧ (okP (M 3) ∧ okW w (M 3)) ∧ (okTx (M 13) ∧ M 13 0 1 = 0) ∧ okl (M 14) ∧ k < 9 ∧ F 0 5 = nI k ∧ u ≤ 8 ∧ F 0 6 = nI u ∧ F 0 3 = h
def chg (r : Bool) (M : tM) (P : tP) (k u w : Nat) (h : Int32) (M' : tM) (F' P' : tP) : Prop :=
  (∀ j, j < 9 → j ≠ k → M' (4 + j) = M (4 + j)) ∧ M' 3 = M 3 ∧ (r = true → inv M' F' P' ((k + 1) % 9) (min 8 (u + 1)) w h ∧ same P (M' (4 + k))) ∧ (r = false → inv M' F' P' k u w h ∧ same P P')
theorem nextk : ∀ k, k < 9 → (nI k + 1) - (nI k + 1) / 9 * 9 = nI ((k + 1) % 9) := by decide +kernel
theorem prevk : ∀ k, k < 9 → (nI k + 9 - 1) - (nI k + 9 - 1) / 9 * 9 = nI ((k + 8) % 9) := by decide +kernel
section
variable {M : tM} {F P : tP} {k u w : Nat} {h : Int32}
theorem inv_km (I : inv M F P k u w h) : km F = k := by
  obtain ⟨-, -, -, -, -, h1, h2, -⟩ := I
  rw [km, h2]; exact nI_clamp (by omega)
theorem inv_okm (I : inv M F P k u w h) : okm F := by
  have e := inv_km I
  obtain ⟨-, -, -, -, -, h1, h2, -⟩ := I
  exact ⟨by rw [e]; exact h2, by rw [e]; exact h1⟩
theorem keep_no {x : Int32} (hx : x < 0) : f_keep F x = F := if_pos hx
theorem keep_ys {x : Int32} (hx : ¬ x < 0) (hk : k < 9) (h5 : F 0 5 = nI k) (hu : u ≤ 8) (h6 : F 0 6 = nI u) : f_keep F x 0 5 = nI ((k + 1) % 9) ∧ f_keep F x 0 6 = nI (min 8 (u + 1)) ∧ f_keep F x 0 3 = F 0 3 ∧ ∀ j, 10 ≤ j → f_keep F x 0 j = F 0 j := by
  have e6 : f_keep1 F 0 6 = nI u := by unfold f_keep1; rw [pu_k (by omega)]; exact h6
  have e5 : f_keep1 F 0 5 = nI ((k + 1) % 9) := by unfold f_keep1; rw [pu_s, h5]; exact nextk k hk
  have e3 : ∀ j, j ≠ 5 → f_keep1 F 0 j = F 0 j := fun j hj => by unfold f_keep1; rw [pu_k hj]
  unfold f_keep
  rw [if_neg hx]
  split
  · rename_i h8
    rw [e6] at h8
    have : u = 8 := by
      have := (nI_leI (a := 8) (b := u) (by omega) (by omega)).mp h8
      omega
    subst this
    exact ⟨e5, e6, e3 3 (by omega), fun j hj => e3 j (by omega)⟩
  · rename_i h8
    rw [e6] at h8
    have : u < 8 := by
      rcases Nat.lt_or_ge u 8 with z | z
      · exact z
      · exact absurd (nI_le (a := 8) z (by omega)) h8
    refine ⟨by rw [pu_k (by omega)]; exact e5, by rw [pu_s, e6, Nat.min_eq_right (by omega)]; exact nI_1 u, by rw [pu_k (by omega)]; exact e3 3 (by omega), fun j hj => by rw [pu_k (by omega)]; exact e3 j (by omega)⟩
theorem c_mark_n {r : Nat} (hr : r ≠ 4 + km F) : c_mark M F P r = M r := m_pl_n hr
theorem inv_mark (I : inv M F P k u w h) {F' P' : tP} {k' u' w' : Nat} (hw : w ≤ w') (hP : okP P' ∧ okW w' P') (hk : k' < 9) (h5 : F' 0 5 = nI k') (hu : u' ≤ 8) (h6 : F' 0 6 = nI u') (h3 : F' 0 3 = h) : inv (c_mark M F P) F' P' k' u' w' h := by
  have e := inv_km I
  obtain ⟨⟨a1, a2⟩, a3, ⟨a4, a5⟩, a6, a7, a8, -⟩ := I
  refine ⟨hP, fun j hj => ?_, ?_, ?_, ?_, hk, h5, hu, h6, h3⟩
  · by_cases hjk : 4 + j = 4 + km F
    · rw [hjk, c_mark, m_pl_s]
      have := a3 (km F) (by omega)
      exact ⟨okP_copy this.1.2.1 a1, okW_mono hw (okW_copy this.2 a2)⟩
    · rw [c_mark_n hjk]; exact ⟨(a3 j hj).1, okW_mono hw (a3 j hj).2⟩
  · rw [c_mark_n (by omega)]; exact ⟨a4, okW_mono hw a5⟩
  · rw [c_mark_n (by omega)]; exact a6
  · rw [c_mark_n (by omega)]; exact a7
/-- what a call of step, need, fault, hands, cancel, milestone, days does -/
theorem chg_q (I : inv M F P k u w h) {q : TX} (g : goodX F P q) (n : goodN w P q) : chg (nn q.1) M P k u (w + 9) h (c_mark M F P) (f_keep q.2.1 q.1) q.2.2 := by
  have e := inv_km I
  obtain ⟨⟨a1, a2⟩, a3, -, -, -, a8, a9, a10, a11, a12⟩ := id I
  obtain ⟨⟨g3, g5, g6⟩, gP⟩ := g
  refine ⟨fun j hj hjk => c_mark_n (by omega), c_mark_n (by omega), fun hr => ?_, fun hr => ?_⟩
  · have hx : ¬ q.1 < 0 := nn_t hr
    obtain ⟨b5, b6, b3, -⟩ := keep_ys hx a8 (g5.trans a9) a10 (g6.trans a11)
    refine ⟨inv_mark I (by omega) ⟨gP, n.2⟩ (Nat.mod_lt _ (by omega)) b5 (Nat.min_le_left _ _) b6 (b3.trans (g3.trans a12)), ?_⟩
    rw [← e, c_mark, m_pl_s]
    exact sm_copy
  · have hx : q.1 < 0 := nn_f hr
    rw [keep_no hx, n.1 hx]
    exact ⟨inv_mark I (by omega) ⟨a1, okW_mono (by omega) a2⟩ a8 (g5.trans a9) a10 (g6.trans a11) (g3.trans a12), sm_rfl⟩
end
theorem chg_eq {M M' : tM} {P : tP} {k u w : Nat} {h : Int32} {q : TX} {a : Int32} {b c : tP} (e : q = (a, b, c)) (g : chg (nn a) M P k u w h M' b c) : chg (nn q.1) M P k u w h M' q.2.1 q.2.2 := by subst e; exact g
-- run
theorem ros_ans : ∀ (n k : Nat) (T : tP), okt T → (lp_ros n k T).1 = -1 ∨ ∃ a, a ≤ 60 ∧ (lp_ros n k T).1 = nI a := by
  intro n
  induction n with
  | zero => intro k T o; exact Or.inr ⟨ta T, o.2.1, o.1⟩
  | succ n ih =>
    intro k T o
    have o1 := (ktx_kt (kt_rd (T := T) (k := k))).2.2 o
    have o2 := (ktx_4 (T := (f_rd T k).2) (x := (f_rd T k).2 0 4 + 1)).2.2 o1
    have o3 := (ktx_kt (kt_ts (T := pu (f_rd T k).2 0 4 ((f_rd T k).2 0 4 + 1)) (c := 59))).2.2 o2
    rw [lp_ros]
    split
    · exact Or.inr ⟨_, o1.2.1, o1.1⟩
    · split
      · exact Or.inl rfl
      · split
        · exact Or.inr ⟨_, o3.2.1, o3.1⟩
        · exact ih _ _ o3
theorem ok0 {T : tP} (h1 : T 0 1 = nI (tl T)) (h2 : tl T ≤ 60) : okt (pu (pu T 0 2 0) 0 4 0) := okt_of (T := pu (pu T 0 2 0) 0 4 0) (a := 0) (l := tl T) (by rw [pu_k (by omega), pu_s]; rfl) (by omega) (by rw [pu_k (by omega), pu_k (by omega)]; exact h1) h2
theorem ros_neg {T : tP} (h1 : T 0 1 = nI (tl T)) (h2 : tl T ≤ 60) (h : ¬ (f_ros T).1 = -1) : -1000 - (f_ros T).1 < 0 := by
  rcases ros_ans 12 0 _ (ok0 h1 h2) with z | ⟨a, ha, z⟩
  · exact absurd z h
  · rw [show (f_ros T).1 = nI a from z]
    have : ∀ a, a < 61 → -1000 - nI a < 0 := by decide +kernel
    exact this a (by omega)
theorem rT_1 {M : tM} : r_T M 0 1 = 0 := pu_s
theorem rT_ok {M : tM} (o : okTx (M 13)) : okTx (r_T M) ∧ r_T M 0 1 = 0 := by
  have e : tl (r_T M) = 0 := by rw [tl, rT_1]; rfl
  refine ⟨⟨by rw [rT_1, e]; rfl, by omega, ?_, ?_⟩, rT_1⟩
  · intro i hi
    have z : (f_ros (M 13)).2 1 = M 13 1 := by
      have := (ktx_ros 12 0 (pu (pu (M 13) 0 2 0) 0 4 0)).2.1
      rw [show (f_ros (M 13)).2 = (lp_ros 12 0 (pu (pu (M 13) 0 2 0) 0 4 0)).2 from rfl, this, pu_jj (by omega), pu_jj (by omega)]
    rw [r_T, pu_j (by omega), z]
    exact o.2.2.1 i hi
  · intro j hj
    rw [r_T, pu_j (by omega)]
    exact kz_fros o.2.2.2 j hj
/-- a run of orders: refused, with some plan that the mark is copied over; or done -/
theorem run_q {T X F0 : tP} (hz : okz T) : ∀ (n k : Nat) (F P : tP) (w : Nat), w + 9 * n < 1000000 → k + n ≤ 12 → kF F0 F → okP P → okW w P → (∃ F1 A, kF F0 F1 ∧ okP A ∧ okW (w + 9 * n) A ∧ lp_run T X n k F P = (-14, F1, f_copy A X)) ∨ ∃ F1 P1, kF F0 F1 ∧ okP P1 ∧ okW (w + 9 * n) P1 ∧ lp_run T X n k F P = (T 0 4, f_keep F1 (T 0 4), P1) := by
  intro n
  induction n with
  | zero => intro k F P w _ _ hF o oW; exact Or.inr ⟨F, P, hF, o, oW, rfl⟩
  | succ n ih =>
    intro k F P w hw hk hF o oW
    have g := g_carry (F := F) (hz k (by omega)) o
    have m := n_carry (F := F) (by omega) (hz k (by omega)) o oW
    rw [lp_run]
    split
    · exact Or.inl ⟨_, _, kF_tr (kF_tr hF g.1) kF_ref, g.2, okW_mono (by omega) m.2, rfl⟩
    · rcases ih (k + 1) _ _ (w + 9) (by omega) (by omega) (kF_tr hF g.1) g.2 m.2 with ⟨F1, A, h1, h2, h3, h4⟩ | ⟨F1, P1, h1, h2, h3, h4⟩
      · exact Or.inl ⟨F1, A, h1, h2, okW_mono (by omega) h3, h4⟩
      · exact Or.inr ⟨F1, P1, h1, h2, okW_mono (by omega) h3, h4⟩
theorem chg_T {M : tM} {F P : tP} {k u w : Nat} {h : Int32} (I : inv M F P k u w h) {T : tP} (o : okTx T ∧ T 0 1 = 0) {w' : Nat} (hw : w ≤ w') : inv (m_pl M 13 T) F P k u w' h := by
  obtain ⟨⟨a1, a2⟩, a3, ⟨a4, a5⟩, a6, a7, a8⟩ := I
  refine ⟨⟨a1, okW_mono hw a2⟩, fun j hj => by rw [m_pl_n (by omega)]; exact ⟨(a3 j hj).1, okW_mono hw (a3 j hj).2⟩, by rw [m_pl_n (by omega)]; exact ⟨a4, okW_mono hw a5⟩, by rw [m_pl_s]; exact o, by rw [m_pl_n (by omega)]; exact a7, a8⟩
/-- what run does; the text T holds what is run, the rest is M's -/
theorem chg_run {M : tM} {F P : tP} {k u w : Nat} {h : Int32} (I : inv M F P k u w h) (hw : w < 100000) {T : tP} (o : okTx T) : chg (nn (t_run (m_pl M 13 T) F P).1) M P k u (w + 108) h (t_run (m_pl M 13 T) F P).2.1 (t_run (m_pl M 13 T) F P).2.2.1 (t_run (m_pl M 13 T) F P).2.2.2 := by
  have e := inv_km I
  have o2 : okTx (m_pl M 13 T 13) := by rw [m_pl_s]; exact o
  have I2 := chg_T I (rT_ok o2) (Nat.le_refl w)
  have eM : m_pl (m_pl M 13 T) 13 (r_T (m_pl M 13 T)) = m_pl M 13 (r_T (m_pl M 13 T)) := m_pl_pl
  unfold t_run
  split
  · dsimp only
    rw [eM]
    have hz := (rT_ok o2).1.2.2.2
    have hoc : oc (r_T (m_pl M 13 T)) ≤ 12 ∧ r_T (m_pl M 13 T) 0 4 = nI (oc (r_T (m_pl M 13 T))) := by
      obtain ⟨c, hc, hc2⟩ := f_ros_oc (T := m_pl M 13 T 13)
      have e4 : r_T (m_pl M 13 T) 0 4 = nI c := by rw [r_T, pu_k (by omega)]; exact hc2
      have e5 : oc (r_T (m_pl M 13 T)) = c := by rw [oc, e4]; exact nI_clamp (by omega)
      rw [e5]; exact ⟨hc, e4⟩
    have hX : same P (c_mark (m_pl M 13 (r_T (m_pl M 13 T))) F P (4 + km F)) := by rw [c_mark, m_pl_s]; exact sm_copy
    obtain ⟨⟨a1, a2⟩, a3, -, -, -, a8, a9, a10, a11, a12⟩ := id I2
    have hm3 : ∀ r, r ≠ 4 + km F → r ≠ 13 → c_mark (m_pl M 13 (r_T (m_pl M 13 T))) F P r = M r := fun r h1 h2 => by rw [c_mark_n h1, m_pl_n h2]
    have oX : okP (c_mark (m_pl M 13 (r_T (m_pl M 13 T))) F P (4 + km F)) ∧ okW w (c_mark (m_pl M 13 (r_T (m_pl M 13 T))) F P (4 + km F)) := by
      rw [c_mark, m_pl_s]
      have := a3 (km F) (by omega)
      exact ⟨okP_copy this.1.2.1 a1, okW_copy this.2 a2⟩
    rcases run_q (T := r_T (m_pl M 13 T)) (X := c_mark (m_pl M 13 (r_T (m_pl M 13 T))) F P (4 + km F)) (F0 := F) hz (oc (r_T (m_pl M 13 T))) 0 F P w (by omega) (by omega) kF_rfl a1 a2 with ⟨F1, A, ⟨h1, h2, h3⟩, h4, h5, h6⟩ | ⟨F1, P1, ⟨h1, h2, h3⟩, h4, h5, h6⟩
    · refine chg_eq h6 ?_
      refine ⟨fun j hj hjk => hm3 _ (by omega) (by omega), hm3 _ (by omega) (by omega), fun hr => absurd hr (by decide), fun _ => ⟨?_, sm_tr hX sm_copy⟩⟩
      exact inv_mark I2 (by omega) ⟨okP_copy h4.2.1 oX.1, okW_copy (okW_mono (by omega) h5) (okW_mono (by omega) oX.2)⟩ a8 (h2.trans a9) a10 (h3.trans a11) (h1.trans a12)
    · rw [hoc.2] at h6
      refine chg_eq h6 ?_
      have hx : ¬ nI (oc (r_T (m_pl M 13 T))) < 0 := nI_pos (by omega)
      obtain ⟨b5, b6, b3, -⟩ := keep_ys hx a8 (h2.trans a9) a10 (h3.trans a11)
      refine ⟨fun j hj hjk => hm3 _ (by omega) (by omega), hm3 _ (by omega) (by omega), fun _ => ⟨?_, ?_⟩, fun hr => absurd (nn_f hr) hx⟩
      · exact inv_mark I2 (by omega) ⟨h4, okW_mono (by omega) h5⟩ (Nat.mod_lt _ (by omega)) b5 (Nat.min_le_left _ _) b6 (b3.trans (h1.trans a12))
      · rw [← e]; exact hX
  · rename_i hr
    have hx : -1000 - (f_ros (m_pl M 13 T 13)).1 < 0 := ros_neg o2.1 o2.2.1 hr
    try dsimp only
    rw [eM]
    refine ⟨fun j hj hjk => m_pl_n (by omega), m_pl_n (by omega), fun hr2 => absurd hx (nn_t hr2), fun _ => ⟨chg_T I (rT_ok o2) (by omega), sm_rfl⟩⟩

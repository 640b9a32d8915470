/-! PART 18: what a question answers depends on the live plan alone; bits of doubles and floats -/
section
variable {P P' : tP}
theorem sm_has {x : Int32} (s : same P P') : f_hasStep P' x = f_hasStep P x := by rw [f_hasStep, f_hasStep, s.1 1 (by omega)]
theorem q_stepOf {s x : Int32} (h : same P P') (o : okc P) : f_stepOf P' s x = f_stepOf P s x := by
  unfold f_stepOf
  rw [sm_has h]
  split
  · rfl
  · rename_i hh
    obtain ⟨i, h1, -, -, h4⟩ := hs_of o (show f_hasStep P s = true from by simpa using hh)
    rw [h4]
    unfold f_stp
    rw [h.2.2.2 i 0 h1 (by omega), h.2.2.2 i 1 h1 (by omega), h.2.2.2 i 2 h1 (by omega), h.2.2.2 i 3 h1 (by omega), h.2.2.2 i 4 h1 (by omega), h.2.2.2 i 6 h1 (by omega), h.2.2.2 i 7 h1 (by omega), h.2.2.2 i 8 h1 (by omega), h.2.2.2 i 9 h1 (by omega), h.2.2.2 i 10 h1 (by omega)]
theorem q_ready {s : Int32} (h : same P P') (o : okc P) : f_ready P' s = f_ready P s := by
  unfold f_ready
  rw [sm_has h]
  split
  · rfl
  · rename_i hh
    obtain ⟨i, h1, -, -, h4⟩ := hs_of o (show f_hasStep P s = true from by simpa using hh)
    rw [h4, sm_setOf h, sm_ready h h1]
theorem q_mileOf {p x : Int32} (h : same P P') (o : okP P) : f_mileOf P' p x = f_mileOf P p x := by
  unfold f_mileOf
  rw [h.1 3 (by omega)]
  split
  · rfl
  · rename_i hh
    obtain ⟨k, h1, -, h4⟩ := pos_of o.2.2.2.2.1.1 (by have := o.2.2.2.2.1.2; omega) (fun e => hh (Or.inl e)) (Int32.not_le.mp (fun e => hh (Or.inr e)))
    have hk : k < 4 := by have := o.2.2.2.2.1.2; omega
    have hm := (o.2.2.2.2.2.1 k h1).2
    rw [h4]
    unfold f_mof
    rw [h.2.1 k hk, sm_ms h hk, h.2.2.2 _ 5 hm (by omega), h.2.2.2 _ 6 hm (by omega), h.2.2.2 _ 10 hm (by omega), sm_lateBy h hm]
theorem q_llate (h : same P P') (o : okP P) : ∀ (n k : Nat) (x : Int32), k + n ≤ mn P → lp_late P' n k x = lp_late P n k x := by
  intro n
  induction n with
  | zero => intro k x _; rfl
  | succ n ih =>
    intro k x hk
    have hk4 : k < 4 := by have := o.2.2.2.2.1.2; omega
    rw [lp_late, lp_late, sm_ms h hk4, sm_lateBy h (o.2.2.2.2.2.1 k (by omega)).2]
    exact ih _ _ (by omega)
theorem q_late (h : same P P') (o : okP P) : f_late P' = f_late P := by rw [f_late, f_late, sm_mn h]; exact q_llate h o _ _ _ (by omega)
theorem q_logged {p w : Int32} (h : same P P') (o : okP P) : f_log P' p w = f_log P p w := by
  unfold f_log
  rw [h.1 6 (by omega), sm_en h]
  split
  · rfl
  · split
    · rfl
    · rename_i h2
      obtain ⟨j, h1, -, h4⟩ := pos_of (y := 3) (n := 3) rfl (by omega) (fun e => h2 (Or.inl e)) (Int32.not_le.mp (fun e => h2 (Or.inr e)))
      have : (en P + 31 - p.toNatClampNeg) % 16 < 16 := Nat.mod_lt _ (by omega)
      rw [h4]
      exact h.2.2.1 _ (by omega)
theorem q_lrank {p : Int32} (h : same P P') : ∀ (n i : Nat), i + n ≤ cn P → lp_rk P' p n i = lp_rk P p n i := by
  intro n
  induction n with
  | zero => intro i _; rfl
  | succ n ih => intro i hi; rw [lp_rk, lp_rk, sm_sao h (by omega), ih _ (by omega)]
theorem q_ranked {p : Int32} (h : same P P') : f_rank P' p = f_rank P p := by rw [f_rank, f_rank, sm_cn h]; exact q_lrank h _ _ (by omega)
theorem q_acc {T F T' F' : tP} {k : Nat} (hk : k < 17) (h : same P P') : f_acc T' F' P' (nI k) = f_acc T F P (nI k) := by
  unfold f_acc
  rw [sm_countOf h]
  split
  · rename_i hh
    have hk2 : k = 0 ∨ k = 1 ∨ k = 10 ∨ k = 11 ∨ k = 12 ∨ k = 13 ∨ k = 14 ∨ k = 15 ∨ k = 16 := by
      rcases hh with h1 | h1
      · have := (nI_ltI (a := k) (b := 2) (by omega) (by omega)).mp h1; omega
      · have := (nI_ltI (a := 9) (b := k) (by omega) (by omega)).mp h1; omega
    unfold f_ac2
    rw [h.1 7 (by omega), h.1 1 (by omega), h.1 8 (by omega), h.1 3 (by omega), h.1 9 (by omega), h.1 10 (by omega), h.1 11 (by omega), h.1 12 (by omega), h.1 13 (by omega)]
    have e17 : ¬ nI k = 17 := fun e => by have := (nI_eq (a := k) (b := 17) (by omega) (by omega)).mp e; omega
    have e18 : ¬ nI k = 18 := fun e => by have := (nI_eq (a := k) (b := 18) (by omega) (by omega)).mp e; omega
    rw [if_neg e17, if_neg e18, if_neg e17, if_neg e18]
  · rfl
theorem q_lmd (h : same P P') : ∀ (n i : Nat) (x : Int32), i + n ≤ cn P → lp_md P' n i x = lp_md P n i x := by
  intro n
  induction n with
  | zero => intro i x _; rfl
  | succ n ih => intro i x hi; rw [lp_md, lp_md, h.2.2.2 i 0 (by omega) (by omega), ih _ _ (by omega)]
theorem q_mean (h : same P P') : f_mean P' = f_mean P := by rw [f_mean, f_mean, h.1 1 (by omega), sm_cn h, q_lmd h _ _ _ (by omega)]
theorem q_share (h : same P P') : f_share P' = f_share P := by rw [f_share, f_share, h.1 10 (by omega), h.1 11 (by omega)]
theorem q_ldi {i : Nat} : ∀ (n d : Nat) (X X' : tP), same X X' → okc X → i < cn X → (lp_di i n d X').1 = (lp_di i n d X).1 := by
  intro n
  induction n with
  | zero => intro d X X' _ _ _; rfl
  | succ n ih =>
    intro d X X' h o hi
    have h2 := sm_pass h o
    have hi2 : i < cn (f_pass X) := by rw [kp_cn kp_pass]; exact hi
    rw [lp_di, lp_di, h2.2.2.2 i 6 hi2 (by omega), sm_countOf h2]
    split
    · rfl
    · split
      · rfl
      · exact ih _ _ _ h2 (kp_okc kp_pass o) hi2
theorem q_doneIn {X X' : tP} {s : Int32} (h : same P P') (o : okc P) : (t_doneIn P' X' s).1 = (t_doneIn P X s).1 := by
  unfold t_doneIn
  rw [sm_has h]
  split
  · rfl
  · rename_i hh
    obtain ⟨i, h1, -, -, h4⟩ := hs_of o (show f_hasStep P s = true from by simpa using hh)
    rw [h4, h.2.2.2 i 6 h1 (by omega)]
    split
    · rfl
    · exact q_ldi _ _ _ _ (sm_tr (sm_sy sm_copy) (sm_tr h sm_copy)) (fc_okc o) (by rw [fc_cn]; exact h1)
-- chains
/-- two chains agree in row j on the first c -/
def sC (j c : Nat) (C C' : tP) : Prop := ∀ i, i < c → C' j i = C j i
theorem sC_pu {j c k : Nat} {C C' : tP} {x : Int32} (h : sC j c C C') : sC j c (pu C j k x) (pu C' j k x) := fun i hi => by
  by_cases e : i = k
  · subst e; rw [pu_s, pu_s]
  · rw [pu_k e, pu_k e]; exact h i hi
theorem sC_llon {f f' : Nat → tP → Int32 × tP} {c : Nat} {x : Int32} (hf : ∀ j C C', j < c → sC 1 c C C' → (f' j C').1 = (f j C).1 ∧ sC 1 c (f j C).2 (f' j C').2) : ∀ (n j : Nat) (b : Int32) (C C' : tP), j + n ≤ c → sC 1 c C C' → (lp_lon f' x n j b C').1 = (lp_lon f x n j b C).1 ∧ sC 1 c (lp_lon f x n j b C).2 (lp_lon f' x n j b C').2 := by
  intro n
  induction n with
  | zero => intro j b C C' _ h; exact ⟨rfl, h⟩
  | succ n ih =>
    intro j b C C' hj h
    rw [lp_lon, lp_lon]
    split
    · exact ih _ _ _ _ (by omega) h
    · obtain ⟨e1, e2⟩ := hf j C C' (by omega) h
      rw [e1]
      exact ih _ _ _ _ (by omega) e2
theorem sC_lon (h : same P P') : ∀ (D i : Nat) (C C' : tP), i < cn P → sC 1 (cn P) C C' → (f_lon P' D i C').1 = (f_lon P D i C).1 ∧ sC 1 (cn P) (f_lon P D i C).2 (f_lon P' D i C').2 := by
  intro D
  induction D with
  | zero => intro i C C' hi hC; exact ⟨hC i hi, hC⟩
  | succ D ih =>
    intro i C C' hi hC
    rw [f_lon, f_lon, hC i hi]
    split
    · exact ⟨rfl, hC⟩
    · obtain ⟨e1, e2⟩ := sC_llon (f := f_lon P D) (f' := f_lon P' D) (x := P (4 + i) 4) (fun j C C' hj hc => ih j C C' hj hc) (cn P) 0 0 C C' (by omega) hC
      dsimp only
      rw [h.2.2.2 i 4 hi (by omega), h.2.2.2 i 0 hi (by omega), sm_cn h, e1]
      exact ⟨rfl, sC_pu e2⟩
theorem sC_z0 {c : Nat} : ∀ (n i : Nat) (C C' : tP), i + n = c → (∀ k, k < i → C' 1 k = C 1 k) → sC 1 c (lp_z0 n i C) (lp_z0 n i C') := by
  intro n
  induction n with
  | zero => intro i C C' hi h k hk; exact h k (by omega)
  | succ n ih =>
    intro i C C' hi h
    exact ih _ _ _ (by omega) (fun k hk => by
      by_cases e : k = i
      · subst e; rw [pu_s, pu_s]
      · rw [pu_k e, pu_k e]; exact h k (by omega))
theorem sC_lmn (h : same P P') : ∀ (n i : Nat) (C C' : tP), i + n ≤ cn P → sC 1 (cn P) C C' → sC 1 (cn P) (lp_mn P n i C) (lp_mn P' n i C') := by
  intro n
  induction n with
  | zero => intro i C C' _ hC; exact hC
  | succ n ih => intro i C C' hi hC; exact ih _ _ _ (by omega) (sC_lon h 13 i C C' (by omega) hC).2
theorem sC_mn {C C' : tP} (h : same P P') : sC 1 (cn P) (f_mn P C) (f_mn P' C') := by
  rw [f_mn, f_mn, sm_cn h]
  exact sC_lmn h _ _ _ _ (by omega) (sC_z0 _ _ _ _ (by omega) (fun k hk => by omega))
theorem sC_llen {i : Nat} (h : same P P') (hi : i < cn P) : ∀ (n j : Nat) (b : Bool) (C C' : tP), j + n ≤ cn P → sC 2 (cn P) C C' → (lp_len P' i n j b C').1 = (lp_len P i n j b C).1 ∧ sC 2 (cn P) (lp_len P i n j b C).2 (lp_len P' i n j b C').2 := by
  intro n
  induction n with
  | zero => intro j b C C' _ hC; exact ⟨rfl, hC⟩
  | succ n ih =>
    intro j b C C' hj hC
    rw [lp_len, lp_len, h.2.2.2 i 4 hi (by omega), h.2.2.2 i 0 hi (by omega), hC j (by omega), hC i hi]
    split
    · exact ih _ _ _ _ (by omega) hC
    · split
      · exact ih _ _ _ _ (by omega) hC
      · exact ih _ _ _ _ (by omega) (sC_pu hC)
theorem sC_len {i : Nat} {C C' : tP} (h : same P P') (hi : i < cn P) (hC : sC 2 (cn P) C C') : (f_len P' C' i).1 = (f_len P C i).1 ∧ sC 2 (cn P) (f_len P C i).2 (f_len P' C' i).2 := by
  rw [f_len, f_len, sm_cn h]
  exact sC_llen h hi _ _ _ _ _ (by omega) hC
theorem sC_lrnd (h : same P P') : ∀ (n i : Nat) (b : Bool) (C C' : tP), i + n ≤ cn P → sC 2 (cn P) C C' → (lp_rnd P' n i b C').1 = (lp_rnd P n i b C).1 ∧ sC 2 (cn P) (lp_rnd P n i b C).2 (lp_rnd P' n i b C').2 := by
  intro n
  induction n with
  | zero => intro i b C C' _ hC; exact ⟨rfl, hC⟩
  | succ n ih =>
    intro i b C C' hi hC
    obtain ⟨e1, e2⟩ := sC_len (i := i) h (by omega) hC
    rw [lp_rnd, lp_rnd, e1]
    exact ih _ _ _ _ (by omega) e2
theorem sC_lrr (h : same P P') : ∀ (n : Nat) (b : Bool) (C C' : tP), sC 2 (cn P) C C' → sC 2 (cn P) (lp_rr P n b C) (lp_rr P' n b C') := by
  intro n
  induction n with
  | zero => intro b C C' hC; exact hC
  | succ n ih =>
    intro b C C' hC
    obtain ⟨e1, e2⟩ := sC_lrnd h (cn P) 0 false C C' (by omega) hC
    rw [lp_rr, lp_rr, sm_cn h, e1]
    split
    · exact ih _ _ _ e2
    · exact hC
theorem sC_d0 (h : same P P') : ∀ (n i : Nat) (C C' : tP), i + n = cn P → (∀ k, k < i → C' 2 k = C 2 k) → sC 2 (cn P) (lp_d0 P n i C) (lp_d0 P' n i C') := by
  intro n
  induction n with
  | zero => intro i C C' hi hC k hk; exact hC k (by omega)
  | succ n ih =>
    intro i C C' hi hC
    rw [lp_d0, lp_d0, h.2.2.2 i 0 (by omega) (by omega)]
    exact ih _ _ _ (by omega) (fun k hk => by
      by_cases e : k = i
      · subst e; rw [pu_s, pu_s]
      · rw [pu_k e, pu_k e]; exact hC k (by omega))
theorem sC_mr {C C' : tP} (h : same P P') : sC 2 (cn P) (f_mr P C) (f_mr P' C') := by
  rw [f_mr, f_mr, sm_cn h]
  exact sC_lrr h _ _ _ _ (sC_d0 h _ _ _ _ (by omega) (fun k hk => by omega))
theorem q_chain {C C' : tP} {s : Int32} (h : same P P') (o : okc P) : (t_chain P' C' s).1 = (t_chain P C s).1 := by
  unfold t_chain
  rw [sm_has h]
  split
  · rfl
  · rename_i hh
    obtain ⟨i, h1, -, -, h4⟩ := hs_of o (show f_hasStep P s = true from by simpa using hh)
    rw [h4]
    exact sC_mn h i h1
theorem q_chain2 {C C' : tP} {s : Int32} (h : same P P') (o : okc P) : (t_chain2 P' C' s).1 = (t_chain2 P C s).1 := by
  unfold t_chain2
  rw [sm_has h]
  split
  · rfl
  · rename_i hh
    obtain ⟨i, h1, -, -, h4⟩ := hs_of o (show f_hasStep P s = true from by simpa using hh)
    rw [h4]
    exact sC_mr h i h1
theorem lon_2 : ∀ (D i : Nat) (C : tP), (f_lon P D i C).2 2 = C 2 := by
  intro D
  induction D with
  | zero => intro i C; rfl
  | succ D ih =>
    intro i C
    have L : ∀ (x : Int32) (n j : Nat) (b : Int32) (C : tP), (lp_lon (f_lon P D) x n j b C).2 2 = C 2 := by
      intro x n
      induction n with
      | zero => intro j b C; rfl
      | succ n ih2 =>
        intro j b C
        rw [lp_lon]
        split
        · exact ih2 _ _ _
        · exact (ih2 _ _ _).trans (ih _ _)
    rw [f_lon]
    split
    · rfl
    · dsimp only
      rw [pu_jj (by omega)]
      exact L _ _ _ _ _
theorem len_1 {i : Nat} : ∀ (n j : Nat) (b : Bool) (C : tP), (lp_len P i n j b C).2 1 = C 1 := by
  intro n
  induction n with
  | zero => intro j b C; rfl
  | succ n ih =>
    intro j b C
    rw [lp_len]
    split
    · exact ih _ _ _
    · split
      · exact ih _ _ _
      · rw [ih]; exact pu_jj (by omega)
theorem mr_1 {C : tP} : f_mr P C 1 = C 1 := by
  have h1 : ∀ (n i : Nat) (b : Bool) (C : tP), (lp_rnd P n i b C).2 1 = C 1 := by
    intro n
    induction n with
    | zero => intro i b C; rfl
    | succ n ih => intro i b C; rw [lp_rnd, ih]; exact len_1 _ _ _ _
  have h2 : ∀ (n : Nat) (b : Bool) (C : tP), lp_rr P n b C 1 = C 1 := by
    intro n
    induction n with
    | zero => intro b C; rfl
    | succ n ih =>
      intro b C
      rw [lp_rr]
      split
      · rw [ih]; exact h1 _ _ _ _
      · rfl
  have h3 : ∀ (n i : Nat) (C : tP), lp_d0 P n i C 1 = C 1 := by
    intro n
    induction n with
    | zero => intro i C; rfl
    | succ n ih => intro i C; rw [lp_d0, ih]; exact pu_jj (by omega)
  rw [f_mr, h2, h3]
theorem q_lbal {C C' : tP} {c : Nat} (h1 : sC 1 c C C') (h2 : sC 2 c C C') : ∀ (n i : Nat), i + n ≤ c → lp_bal C' n i = lp_bal C n i := by
  intro n
  induction n with
  | zero => intro i _; rfl
  | succ n ih => intro i hi; rw [lp_bal, lp_bal, h1 i (by omega), h2 i (by omega), ih _ (by omega)]
theorem q_bal {C C' : tP} (h : same P P') : (t_bal P' C').1 = (t_bal P C).1 := by
  unfold t_bal f_wd
  rw [h.1 12 (by omega), sm_countOf h, sm_countOf h, sm_countOf h, sm_countOf h, sm_cn h]
  split
  · rfl
  · refine q_lbal (c := cn P) (fun i hi => ?_) (sC_mr h) _ _ (by omega)
    rw [mr_1, mr_1]
    exact sC_mn h i hi
-- lines
def sN (N N' : tP) : Prop := N' 0 1 = N 0 1 ∧ ∀ i, i < ll N → N' 1 i = N 1 i
theorem sN_ll {N N' : tP} (h : sN N N') : ll N' = ll N := by rw [ll, ll, h.1]
theorem sN_ps {N N' : tP} {c : Int32} (o : okl N) (h : sN N N') : sN (f_ps N c) (f_ps N' c) := by
  unfold f_ps
  rw [h.1, sN_ll h]
  split
  · exact h
  · rename_i h64
    have hlt := okl_lt o h64
    have hl64 := o.2
    have e : ∀ Q : tP, Q 0 1 = N 0 1 → ll (pu (pu Q 1 (ll N) c) 0 1 (pu Q 1 (ll N) c 0 1 + 1)) = ll N + 1 := fun Q hQ => by
      rw [ll, pu_s, pu_j (by omega), hQ, o.1]
      rw [show nI (ll N) + 1 = nI (ll N + 1) from nI_1 _]
      exact nI_clamp (by omega)
    refine ⟨by rw [pu_s, pu_s, pu_j (by omega), pu_j (by omega), h.1], fun i hi => ?_⟩
    rw [e N rfl] at hi
    have e3 : ∀ (Q : tP) (x : Int32), pu (pu Q 1 (ll N) c) 0 1 x 1 i = pu Q 1 (ll N) c 1 i := fun Q x => pu_j (by omega)
    rw [e3, e3]
    by_cases e2 : i = ll N
    · rw [e2, pu_s, pu_s]
    · rw [pu_k e2, pu_k e2]; exact h.2 i (by omega)
theorem sN_pn {N N' : tP} {x : Int32} (o : okl N) (h : sN N N') : sN (f_pn N x) (f_pn N' x) := by
  unfold f_pn
  split
  · exact sN_ps o h
  · exact sN_ps (okl_ps o) (sN_ps o h)
theorem sN_5 {w w' : Nat → Int32} (hw : w' 4 = w 4) : ∀ (n i : Nat) (N N' : tP), okl N → sN N N' → sN (lp_ps5 w n i N) (lp_ps5 w' n i N') := by
  intro n
  induction n with
  | zero => intro i N N' _ h; exact h
  | succ n ih =>
    intro i N N' o h
    rw [lp_ps5, lp_ps5, hw]
    split
    · exact ih _ _ _ o h
    · exact ih _ _ _ (okl_pn (okl_ps o)) (sN_pn (okl_ps o) (sN_ps o h))
theorem sN_st {N N' : tP} {s : Nat} {w w' : Nat → Int32} (o : okl N) (h : sN N N') (h0 : w' 0 = w 0) (h1 : w' 1 = w 1) (h2 : w' 2 = w 2) (h3 : w' 3 = w 3) (h4 : w' 4 = w 4) : sN (f_pst N s w) (f_pst N' s w') := by
  have o1 : okl (f_ps1 N s w) := okl_pn (okl_ps (okl_pn o))
  have s1 : sN (f_ps1 N s w) (f_ps1 N' s w') := by unfold f_ps1; rw [h0]; exact sN_pn (okl_ps (okl_pn o)) (sN_ps (okl_pn o) (sN_pn o h))
  have s2 : sN (f_ps2 (f_ps1 N s w) w) (f_ps2 (f_ps1 N' s w') w') := by
    unfold f_ps2; rw [h1]; split
    · exact s1
    · exact sN_pn (okl_ps o1) (sN_ps o1 s1)
  have o2 : okl (f_ps2 (f_ps1 N s w) w) := okl_2 o1
  have s3 : sN (f_ps3 (f_ps2 (f_ps1 N s w) w) w) (f_ps3 (f_ps2 (f_ps1 N' s w') w') w') := by
    unfold f_ps3; rw [h3]; split
    · exact s2
    · exact sN_ps o2 s2
  have o3 : okl (f_ps3 (f_ps2 (f_ps1 N s w) w) w) := okl_3 o2
  have s4 : sN (f_ps4 (f_ps3 (f_ps2 (f_ps1 N s w) w) w) w) (f_ps4 (f_ps3 (f_ps2 (f_ps1 N' s w') w') w') w') := by
    unfold f_ps4; rw [h2]; split
    · exact s3
    · exact sN_pn (okl_ps o3) (sN_ps o3 s3)
  exact sN_5 h4 _ _ _ _ (okl_4 o3) s4
theorem sN_z {N N' : tP} : sN (pu N 0 1 0) (pu N' 0 1 0) := ⟨by rw [pu_s, pu_s], fun i hi => by
  have e : ll (pu N 0 1 0) = 0 := by rw [ll, pu_s]; rfl
  omega⟩
theorem sN_tell {N N' : tP} {i : Nat} (h : same P P') (hi : i < cn P) : sN (f_pst (pu N 0 1 0) i (P (4 + i))) (f_pst (pu N' 0 1 0) i (P' (4 + i))) := sN_st okl_z sN_z (h.2.2.2 i 0 hi (by omega)) (h.2.2.2 i 1 hi (by omega)) (h.2.2.2 i 2 hi (by omega)) (h.2.2.2 i 3 hi (by omega)) (h.2.2.2 i 4 hi (by omega))
theorem sN_pl {N N' : tP} {x : Int32} (o : okl N) (h : sN N N') : sN (f_pl N x) (f_pl N' x) := by
  unfold f_pl
  split
  · exact h
  · exact sN_ps o h
theorem sN_ta (h : same P P') : ∀ (n i : Nat) (N N' : tP), i + n ≤ cn P → okl N → sN N N' → sN (lp_ta P n i N) (lp_ta P' n i N') := by
  intro n
  induction n with
  | zero => intro i N N' _ _ h; exact h
  | succ n ih =>
    intro i N N' hi o hN
    rw [lp_ta, lp_ta, h.2.2.2 i 6 (by omega) (by omega)]
    exact ih _ _ _ (by omega) (okl_pl o) (sN_pl o hN)
theorem sN_tellAll {N N' : tP} (h : same P P') : sN (f_tellAll P N) (f_tellAll P' N') := by
  rw [f_tellAll, f_tellAll, sm_cn h]
  exact sN_ta h _ _ _ _ (by omega) okl_z sN_z
theorem sN_chr {N N' : tP} {i : Nat} (o : okl N) (h : sN N N') (hi : i < ll N) : f_chr N' (nI i) = f_chr N (nI i) := by
  have hl64 := o.2
  have hi64 : i < 64 := by omega
  have e : ∀ Q : tP, Q 0 1 = N 0 1 → f_chr Q (nI i) = Q 1 i := fun Q hQ => by
    unfold f_chr
    rw [hQ, o.1, if_neg (fun z => z.elim (nI_pos (by omega)) (nI_ge hi (by omega))), nI_clamp (by omega)]
  rw [e N rfl, e N' h.1]
  exact h.2 i hi
end
-- bits
theorem nan_d {b : UInt64} (h : isNaN64 b = true) : FP.dcmp b b = none := by
  rw [isNaN64_iff] at h
  have hb : b.toNat < 2 ^ 64 := b.toNat_lt
  rw [show (0x7fffffffffffffff : Nat) = 2 ^ 63 - 1 from rfl, Nat.and_two_pow_sub_one_eq_mod] at h
  have hE : FP.Core.fieldE FP.Core.b64 b.toNat = FP.Core.b64.exps - 1 := by
    show b.toNat / 2 ^ 52 % 2 ^ 11 = 2047
    omega
  have hT : ¬ FP.Core.fieldT FP.Core.b64 b.toNat = 0 := by
    show ¬ b.toNat % 2 ^ 52 = 0
    omega
  have e : FP.Core.decode FP.Core.b64 b.toNat = .nan := by rw [FP.Core.decode, if_pos hE, if_neg hT]
  show FP.Core.cmp FP.Core.b64 b.toNat b.toNat = none
  rw [FP.Core.cmp, e]
  rfl
theorem nan_f {b : UInt32} (h : isNaN32 b = true) : FP.fcmp b b = none := by
  rw [isNaN32_iff] at h
  have hb : b.toNat < 2 ^ 32 := b.toNat_lt
  rw [show (0x7fffffff : Nat) = 2 ^ 31 - 1 from rfl, Nat.and_two_pow_sub_one_eq_mod] at h
  have hE : FP.Core.fieldE FP.Core.b32 b.toNat = FP.Core.b32.exps - 1 := by
    show b.toNat / 2 ^ 23 % 2 ^ 8 = 255
    omega
  have hT : ¬ FP.Core.fieldT FP.Core.b32 b.toNat = 0 := by
    show ¬ b.toNat % 2 ^ 23 = 0
    omega
  have e : FP.Core.decode FP.Core.b32 b.toNat = .nan := by rw [FP.Core.decode, if_pos hE, if_neg hT]
  show FP.Core.cmp FP.Core.b32 b.toNat b.toNat = none
  rw [FP.Core.cmp, e]
  rfl
def f_d2l (v : UInt64) : Int64 := if Op.cmpValue (FP.dcmp v v) .l = 0 then v.toInt64 else 9221120237041090560
def f_f2i (v : UInt32) : Int32 := if Op.cmpValue (FP.fcmp v v) .l = 0 then v.toInt32 else 2143289344
theorem d2l_al {r v : UInt64} (h : alike64 r v = true) : f_d2l r = f_d2l v := by
  simp only [alike64, Bool.or_eq_true, decide_eq_true_eq, Bool.and_eq_true] at h
  rcases h with rfl | ⟨h1, h2⟩
  · rfl
  · rw [f_d2l, f_d2l, nan_d h1, nan_d h2, if_neg (by decide), if_neg (by decide)]
theorem f2i_al {r v : UInt32} (h : alike32 r v = true) : f_f2i r = f_f2i v := by
  simp only [alike32, Bool.or_eq_true, decide_eq_true_eq, Bool.and_eq_true] at h
  rcases h with rfl | ⟨h1, h2⟩
  · rfl
  · rw [f_f2i, f_f2i, nan_f h1, nan_f h2, if_neg (by decide), if_neg (by decide)]
section
variable {cc : ByteArray} {own : String} {nL : Nat} {ret : Option FieldType} {rm : Room} {mc ms : Nat} {cA : Nat → ClassId} {ad : tA} {Q : Option Value → va_W → tM → Prop} {ex : va_W} {cells slots pc : Nat} {lv : List (Option Value)} {st : List Value} {M : tM}
theorem enL_set2 {ls : Array Slot} {nL : Nat} {lv : List (Option Value)} {i : Nat} {v : Value} (ho : okS lv i = true) (h : lv_has ls nL ((i, v) :: (enL 0 lv).filter (fun q => !(q.1 == i) && (!(q.1 == i + 1) && !(q.1 + 1 == i && q.2.category == 2))))) : lv_has ls nL (enL 0 ((lv.set i (some v)).set (i + 1) none)) := by
  refine ⟨h.1, h.2.1, fun q hq => h.2.2 q ?_⟩
  obtain ⟨j, h1, h2⟩ := enL_mem.mp hq
  have h1' : q.1 = j := by rw [h1]; exact Nat.zero_add j
  rw [List.getElem?_set] at h2
  by_cases hij1 : i + 1 = j
  · rw [if_pos hij1] at h2
    split at h2 <;> cases h2
  · rw [if_neg hij1, List.getElem?_set] at h2
    by_cases hij : i = j
    · rw [if_pos hij] at h2
      split at h2
      · have : q = (i, v) := Prod.ext (by rw [h1', hij]) (by simpa using h2.symm)
        rw [this]; exact List.mem_cons_self
      · cases h2
    · rw [if_neg hij] at h2
      refine List.mem_cons_of_mem _ (List.mem_filter.mpr ⟨enL_mem.mpr ⟨j, h1, h2⟩, ?_⟩)
      have e1 : (q.1 == i) = false := by rw [h1']; simpa using fun e => hij e.symm
      have e2 : (q.1 == i + 1) = false := by rw [h1']; simpa using fun e => hij1 e.symm
      rw [e1, e2]
      by_cases hj : j + 1 = i
      · subst hj
        have : (q.2.category != 2) = true := by simpa [okS, h2] using ho
        have h3 : (q.2.category == 2) = false := by simpa using this
        simp [h3]
      · have : (q.1 + 1 == i) = false := by rw [h1']; simpa using hj
        simp [this]
theorem r_lstore_n {k : Fin 4} {x : Int64} (hd : decode cc pc = .ok (.lstore_n k, 1)) (hn : (k : Nat) + 1 < nL) (ho : okS lv (k : Nat) = true) (k9 : Rj cc own nL ret rm mc ms cA ad Q ex cells slots (pc + 1) ((lv.set (k : Nat) (some (.long x))).set ((k : Nat) + 1) none) st M) : Rj cc own nL ret rm mc ms cA ad Q ex cells slots pc lv (.long x :: st) M := by
  intro p l e s m args below meth c G tx A Qc free d0 X E hd0 H locs ls hP hD hS hl
  exact lv_lstore_n X.1 X.2.1 hd rfl hl hn rfl (fun ls2 hl2 => k9 p l e s m args below meth c G tx A Qc free d0 X E hd0 H locs ls2 hP hD hS (enL_set2 ho hl2))
theorem r_lstore {i : Nat} {x : Int64} (hd : decode cc pc = .ok (.lstore i, 2)) (hn : i + 1 < nL) (ho : okS lv i = true) (k9 : Rj cc own nL ret rm mc ms cA ad Q ex cells slots (pc + 2) ((lv.set i (some (.long x))).set (i + 1) none) st M) : Rj cc own nL ret rm mc ms cA ad Q ex cells slots pc lv (.long x :: st) M := by
  intro p l e s m args below meth c G tx A Qc free d0 X E hd0 H locs ls hP hD hS hl
  exact lv_lstore X.1 X.2.1 hd hl hn rfl (fun ls2 hl2 => k9 p l e s m args below meth c G tx A Qc free d0 X E hd0 H locs ls2 hP hD hS (enL_set2 ho hl2))
theorem r_dload_n {k : Fin 4} {x : UInt64} (hd : decode cc pc = .ok (.dload_n k, 1)) (hv : lv[(k : Nat)]? = some (some (.double x))) (k9 : Rj cc own nL ret rm mc ms cA ad Q ex cells slots (pc + 1) lv (.double x :: st) M) : Rj cc own nL ret rm mc ms cA ad Q ex cells slots pc lv st M := by
  intro p l e s m args below meth c G tx A Qc free d0 X E hd0 H locs ls hP hD hS hl
  exact lv_dload_n X.1 X.2.1 hd rfl (enL_at hl hv) (k9 p l e s m args below meth c G tx A Qc free d0 X E hd0 H locs ls hP hD hS hl)
theorem r_dcmp {x y : UInt64} {op : CmpOp} (hd : decode cc pc = .ok (.dcmp op, 1)) (k9 : Rj cc own nL ret rm mc ms cA ad Q ex cells slots (pc + 1) lv (.int (Op.cmpValue (FP.dcmp x y) op) :: st) M) : Rj cc own nL ret rm mc ms cA ad Q ex cells slots pc lv (.double y :: .double x :: st) M := by
  intro p l e s m args below meth c G tx A Qc free d0 X E hd0 H locs ls hP hD hS hl
  exact lv_dcmp X.1 X.2.1 hd (k9 p l e s m args below meth c G tx A Qc free d0 X E hd0 H locs ls hP hD hS hl)
theorem r_fload_n {k : Fin 4} {x : UInt32} (hd : decode cc pc = .ok (.fload_n k, 1)) (hv : lv[(k : Nat)]? = some (some (.float x))) (k9 : Rj cc own nL ret rm mc ms cA ad Q ex cells slots (pc + 1) lv (.float x :: st) M) : Rj cc own nL ret rm mc ms cA ad Q ex cells slots pc lv st M := by
  intro p l e s m args below meth c G tx A Qc free d0 X E hd0 H locs ls hP hD hS hl
  exact lv_fload_n X.1 X.2.1 hd rfl (enL_at hl hv) (k9 p l e s m args below meth c G tx A Qc free d0 X E hd0 H locs ls hP hD hS hl)
theorem r_fcmp {x y : UInt32} {op : CmpOp} (hd : decode cc pc = .ok (.fcmp op, 1)) (k9 : Rj cc own nL ret rm mc ms cA ad Q ex cells slots (pc + 1) lv (.int (Op.cmpValue (FP.fcmp x y) op) :: st) M) : Rj cc own nL ret rm mc ms cA ad Q ex cells slots pc lv (.float y :: .float x :: st) M := by
  intro p l e s m args below meth c G tx A Qc free d0 X E hd0 H locs ls hP hD hS hl
  exact lv_fcmp X.1 X.2.1 hd (k9 p l e s m args below meth c G tx A Qc free d0 X E hd0 H locs ls hP hD hS hl)
theorem r_raw_d2l {idx : Nat} {b : UInt64} (hw : Cond.methodLink own idx ⟨"java/lang/Double", "doubleToRawLongBits", "(D)J"⟩ ∈ wsL_law) (hw2 : Cond.native ⟨"java/lang/Double", "doubleToRawLongBits", "(D)J"⟩ ∈ wsL_law) (hw3 : Cond.static ⟨"java/lang/Double", "doubleToRawLongBits", "(D)J"⟩ ∈ wsL_law) (hw4 : Cond.initialized "java/lang/Double" ∈ wsL_law) (hfr : 1 ≤ rm.frames) (hlo : (st.map fun v => v.category).sum + 15 ≤ rm.locals) (hd : decode cc pc = .ok (.invokestatic idx, 3)) (k9 : Rj cc own nL ret rm mc ms cA ad Q ex cells slots (pc + 3) lv (.long b.toInt64 :: st) M) : Rj cc own nL ret rm mc ms cA ad Q ex cells slots pc lv (.double b :: st) M := by
  intro p l e s m args below meth c G tx A Qc free d0 X E hd0 H locs ls hP hD hS hl
  have hts := dr_words X.2.2.2.2.1 d0
  exact vn_d2l (s := s.setDrawn d0) X.1 X.2.1 (X.2.2.1.trans hl.1.symm) X.2.2.2.1 (hts _ hw) (hts _ hw2) (hts _ hw3) (hts _ hw4) hfr hlo hd (k9 p l e s m args below meth c G tx A Qc free d0 X E hd0 H locs ls hP hD hS hl)
theorem r_raw_f2i {idx : Nat} {b : UInt32} (hw : Cond.methodLink own idx ⟨"java/lang/Float", "floatToRawIntBits", "(F)I"⟩ ∈ wsL_law) (hw2 : Cond.native ⟨"java/lang/Float", "floatToRawIntBits", "(F)I"⟩ ∈ wsL_law) (hw3 : Cond.static ⟨"java/lang/Float", "floatToRawIntBits", "(F)I"⟩ ∈ wsL_law) (hw4 : Cond.initialized "java/lang/Float" ∈ wsL_law) (hfr : 1 ≤ rm.frames) (hlo : (st.map fun v => v.category).sum + 15 ≤ rm.locals) (hd : decode cc pc = .ok (.invokestatic idx, 3)) (k9 : Rj cc own nL ret rm mc ms cA ad Q ex cells slots (pc + 3) lv (.int b.toInt32 :: st) M) : Rj cc own nL ret rm mc ms cA ad Q ex cells slots pc lv (.float b :: st) M := by
  intro p l e s m args below meth c G tx A Qc free d0 X E hd0 H locs ls hP hD hS hl
  have hts := dr_words X.2.2.2.2.1 d0
  exact vn_f2i (s := s.setDrawn d0) X.1 X.2.1 (X.2.2.1.trans hl.1.symm) X.2.2.2.1 (hts _ hw) (hts _ hw2) (hts _ hw3) (hts _ hw4) hfr hlo hd (k9 p l e s m args below meth c G tx A Qc free d0 X E hd0 H locs ls hP hD hS hl)
end

/-! PART 07: the plan's changes: models and contracts -/
def en (P : tP) : Nat := (P 0 5).toNatClampNeg
def oke (P : tP) : Prop := P 0 5 = nI (en P) ∧ en P < 16
def okc (P : tP) : Prop := P 0 1 = nI (cn P) ∧ cn P ≤ 12
def okh (P : tP) : Prop := ∃ h : Nat, h ≤ 4 ∧ P 0 8 = nI h
def okb (P : tP) : Prop := ∀ i, i < 12 → P (4 + i) 3 = 0 ∨ P (4 + i) 3 = 1
theorem oke_of {P : tP} {e : Nat} (h : P 0 5 = nI e) (h2 : e < 16) : oke P := by
  have : en P = e := by rw [en, h]; exact nI_clamp (by omega)
  exact ⟨by rw [this]; exact h, by rw [this]; exact h2⟩
theorem okc_of {P : tP} {c : Nat} (h : P 0 1 = nI c) (h2 : c ≤ 12) : okc P := by
  have := cn_of h h2
  exact ⟨by rw [this]; exact h, by rw [this]; exact h2⟩
def f_turn1 (P : tP) (n : Nat) (how ev : Int32) : tP :=
  let P2 := pu (pu P (4 + n) 6 how) (4 + n) 7 0
  let P3 := pu P2 3 (en P * 3) ev
  let P4 := pu P3 3 (en P * 3 + 1) (nI n)
  let P5 := pu P4 3 (en P * 3 + 2) (P4 0 7)
  pu P5 0 5 ((P5 0 5 + 1) - (P5 0 5 + 1) / 16 * 16)
def f_turn (P : tP) (n : Nat) (how ev : Int32) : tP :=
  if 16 ≤ f_turn1 P n how ev 0 6 then f_turn1 P n how ev else pu (f_turn1 P n how ev) 0 6 (f_turn1 P n how ev 0 6 + 1)
def ec (P : tP) : Nat := (P 0 6).toNatClampNeg
def okE (P : tP) : Prop := P 0 6 = nI (ec P) ∧ ec P ≤ 16
theorem okE_of {P : tP} {e : Nat} (h : P 0 6 = nI e) (h2 : e ≤ 16) : okE P := by
  have : ec P = e := by rw [ec, h]; exact nI_clamp (by omega)
  exact ⟨by rw [this]; exact h, by rw [this]; exact h2⟩
theorem okE_eq {P P' : tP} (h : P' 0 6 = P 0 6) (o : okE P) : okE P' := okE_of (e := ec P) (h.trans o.1) o.2
/-- what the plan's changes keep -/
def kp (P P' : tP) : Prop := P' 0 1 = P 0 1 ∧ P' 0 8 = P 0 8 ∧ (oke P → oke P') ∧ P' 0 3 = P 0 3 ∧ P' 2 = P 2 ∧ (∀ i k, k ≠ 6 → k ≠ 7 → k ≠ 8 → k ≠ 9 → k ≠ 10 → P' (4 + i) k = P (4 + i) k) ∧ (okE P → okE P')
theorem kp_rfl {P : tP} : kp P P := ⟨rfl, rfl, fun h => h, rfl, rfl, fun _ _ _ _ _ _ _ => rfl, fun h => h⟩
theorem kp_tr {P P' P'' : tP} (h : kp P P') (h2 : kp P' P'') : kp P P'' := ⟨h2.1.trans h.1, h2.2.1.trans h.2.1, fun a => h2.2.2.1 (h.2.2.1 a), h2.2.2.2.1.trans h.2.2.2.1, h2.2.2.2.2.1.trans h.2.2.2.2.1, fun i k a b c d e => (h2.2.2.2.2.2.1 i k a b c d e).trans (h.2.2.2.2.2.1 i k a b c d e), fun a => h2.2.2.2.2.2.2 (h.2.2.2.2.2.2 a)⟩
theorem oke_eq {P P' : tP} (h : P' 0 5 = P 0 5) (o : oke P) : oke P' := oke_of (e := en P) (h.trans o.1) o.2
theorem kp_st {P : tP} {i k : Nat} {x : Int32} (hk : 6 ≤ k ∧ k ≤ 10) : kp P (pu P (4 + i) k x) := ⟨pu_j (by omega), pu_j (by omega), fun h => oke_eq (pu_j (by omega)) h, pu_j (by omega), pu_jj (by omega), fun j k' a b c d e => pu_k (by omega), fun h => okE_eq (pu_j (by omega)) h⟩
theorem kp_0 {P : tP} {k : Nat} {x : Int32} (hk : k ≠ 1 ∧ k ≠ 3 ∧ k ≠ 5 ∧ k ≠ 6 ∧ k ≠ 8) : kp P (pu P 0 k x) := ⟨pu_k (by omega), pu_k (by omega), fun h => oke_eq (pu_k (by omega)) h, pu_k (by omega), pu_jj (by omega), fun j k' a b c d e => pu_j (by omega), fun h => okE_eq (pu_k (by omega)) h⟩
theorem kp_6 {P : tP} (h6 : ¬ 16 ≤ P 0 6) : kp P (pu P 0 6 (P 0 6 + 1)) := ⟨pu_k (by omega), pu_k (by omega), fun h => oke_eq (pu_k (by omega)) h, pu_k (by omega), pu_jj (by omega), fun j k' a b c d e => pu_j (by omega), fun h => okE_of (e := ec P + 1) (by rw [pu_s, h.1]; exact nI_1 _) (by
  have h1 := h.1
  rw [h1] at h6
  have : ¬ 16 ≤ ec P := fun e => h6 (nI_le (a := 16) e (by have := h.2; omega))
  omega)⟩
theorem kp_3 {P : tP} {k : Nat} {x : Int32} : kp P (pu P 3 k x) := ⟨pu_j (by omega), pu_j (by omega), fun h => oke_eq (pu_j (by omega)) h, pu_j (by omega), pu_jj (by omega), fun j k' a b c d e => pu_j (by omega), fun h => okE_eq (pu_j (by omega)) h⟩
theorem ev_nx {x : Int32} {e : Nat} (h : x = nI e) (h2 : e < 16) : (x + 1) - (x + 1) / 16 * 16 = nI ((e + 1) % 16) := by
  subst h
  rw [nI_1]
  exact pk_rem (d := 16) (by omega) (by omega) (by omega)
theorem kp_5 {P : tP} : kp P (pu P 0 5 ((P 0 5 + 1) - (P 0 5 + 1) / 16 * 16)) := ⟨pu_k (by omega), pu_k (by omega), fun h => oke_of (e := (en P + 1) % 16) (by rw [pu_s]; exact ev_nx h.1 h.2) (Nat.mod_lt _ (by omega)), pu_k (by omega), pu_jj (by omega), fun j k' a b c d e => pu_j (by omega), fun h => okE_eq (pu_k (by omega)) h⟩
theorem kp_turn1 {P : tP} {n : Nat} {how ev : Int32} : kp P (f_turn1 P n how ev) := kp_tr (kp_tr (kp_tr (kp_tr (kp_tr (kp_st (by omega)) (kp_st (by omega))) kp_3) kp_3) kp_3) kp_5
theorem kp_turn {P : tP} {n : Nat} {how ev : Int32} : kp P (f_turn P n how ev) := by
  unfold f_turn
  split
  · exact kp_turn1
  · exact kp_tr kp_turn1 (kp_6 (by assumption))
theorem ev_i {x : Int32} {e : Nat} (h : x = nI e) : x * 3 = nI (e * 3) := by subst h; exact pk_mul e 3
theorem ev_i1 {x : Int32} {e : Nat} (h : x = nI e) : x * 3 + 1 = nI (e * 3 + 1) := by rw [ev_i h]; exact nI_1 _
theorem ev_i2 {x : Int32} {e : Nat} (h : x = nI e) : x * 3 + 2 = nI (e * 3 + 2) := by rw [ev_i h]; exact nI_add _ 2
def f_tell (P : tP) (i : Nat) (d m b a : Int32) : tP := pu (pu (pu (pu (pu (pu (pu (pu (pu (pu (pu P (4 + i) 0 d) (4 + i) 1 m) (4 + i) 2 b) (4 + i) 3 a) (4 + i) 4 0) (4 + i) 5 1000) (4 + i) 6 0) (4 + i) 7 0) (4 + i) 8 0) (4 + i) 9 0) (4 + i) 10 (-15)
def f_cps (P Q : tP) (i : Nat) : tP := pu (pu (pu (pu (pu (pu (pu (pu (pu (pu (pu P (4 + i) 0 (Q (4 + i) 0)) (4 + i) 1 (Q (4 + i) 1)) (4 + i) 2 (Q (4 + i) 2)) (4 + i) 3 (Q (4 + i) 3)) (4 + i) 4 (Q (4 + i) 4)) (4 + i) 5 (Q (4 + i) 5)) (4 + i) 6 (Q (4 + i) 6)) (4 + i) 7 (Q (4 + i) 7)) (4 + i) 8 (Q (4 + i) 8)) (4 + i) 9 (Q (4 + i) 9)) (4 + i) 10 (Q (4 + i) 10)
def lp_cps (Q : tP) : Nat → Nat → tP → tP
  | 0, _, P => P
  | n + 1, i, P => lp_cps Q n (i + 1) (f_cps P Q i)
def f_cp0 (P Q : tP) : tP :=
  let P2 := pu P 0 1 (Q 0 1)
  let P4 := pu (p_row P2 2 (va_cpy (Q 2) (P2 2) 0 0 4)) 0 3 (Q 0 3)
  let P5 := p_row P4 3 (va_cpy (Q 3) (P4 3) 0 0 48)
  pu (pu (pu (pu (pu (pu (pu (pu (pu P5 0 5 (Q 0 5)) 0 6 (Q 0 6)) 0 7 (Q 0 7)) 0 8 (Q 0 8)) 0 9 (Q 0 9)) 0 10 (Q 0 10)) 0 11 (Q 0 11)) 0 12 (Q 0 12)) 0 13 (Q 0 13)
def f_copy (P Q : tP) : tP := f_cp0 (lp_cps Q (cn Q) 0 P) Q
def f_add1 (P : tP) (d m b a : Int32) : tP := let P1 := f_tell P (cn P) d m b a; pu P1 0 1 (P1 0 1 + 1)
def f_add (P : tP) (d m b a : Int32) : tP := if f_isCancelled (f_add1 P d m b a) b then f_turn (f_add1 P d m b a) (cn P) 6 5 else f_add1 P d m b a
theorem f_tell_0 {P : tP} {i : Nat} {d m b a : Int32} : f_tell P i d m b a 0 = P 0 := by
  unfold f_tell
  rw [pu_jj (by omega), pu_jj (by omega), pu_jj (by omega), pu_jj (by omega), pu_jj (by omega), pu_jj (by omega), pu_jj (by omega), pu_jj (by omega), pu_jj (by omega), pu_jj (by omega), pu_jj (by omega)]
theorem f_add_n {P : tP} {d m b a : Int32} (h : f_isCancelled (f_add1 P d m b a) b = false) : f_add P d m b a = f_add1 P d m b a := by rw [f_add, h]; rfl
theorem f_add_c {P : tP} {d m b a : Int32} (h : f_isCancelled (f_add1 P d m b a) b = true) : f_add P d m b a = f_turn (f_add1 P d m b a) (cn P) 6 5 := by rw [f_add, h]; rfl
def mn (P : tP) : Nat := (P 0 3).toNatClampNeg
def f_addMs (P : tP) (s : Nat) (d : Int32) : tP :=
  let P2 := pu (pu P 2 (mn P) (nI s)) (4 + s) 5 d
  pu P2 0 3 (P2 0 3 + 1)
def lp_can (b : Int32) : Nat → Nat → tP → Int32 → tP × Int32
  | 0, _, P, u => (P, u)
  | n + 1, i, P, u => if P (4 + i) 2 = b then
      (if f_isOpen (P (4 + i) 6) then lp_can b n (i + 1) (f_turn P i 6 5) u
       else if P (4 + i) 6 = 3 then lp_can b n (i + 1) (pu (pu P (4 + i) 6 4) (4 + i) 7 ((pu P (4 + i) 6 4 (4 + i) 0 + 1) / 2)) (u + Int32.ofInt 1)
       else lp_can b n (i + 1) P u)
    else lp_can b n (i + 1) P u
def f_can (P : tP) (b : Int32) : tP × Int32 := lp_can b (cn P) 0 (pu P 0 9 (P 0 9 ||| 1 <<< (b &&& 31))) 0
theorem kp_can {b : Int32} : ∀ (n i : Nat) (P : tP) (u : Int32), kp P (lp_can b n i P u).1 := by
  intro n
  induction n with
  | zero => intro i P u; exact kp_rfl
  | succ n ih =>
    intro i P u
    rw [lp_can]
    split
    · split
      · exact kp_tr kp_turn (ih _ _ _)
      · split
        · exact kp_tr (kp_tr (kp_st (by omega)) (kp_st (by omega))) (ih _ _ _)
        · exact ih _ _ _
    · exact ih _ _ _
theorem kp_fcan {P : tP} {b : Int32} : kp P (f_can P b).1 := kp_tr (kp_0 (by omega)) (kp_can _ _ _ _)
def f_work2 (P : tP) (i : Nat) : tP :=
  let P2 := pu P (4 + i) 9 (P (4 + i) 9 - 1)
  let P3 := pu P2 0 11 (P2 0 11 + 1)
  if P3 (4 + i) 1 < P3 (4 + i) 8 then
    (if f_turn P3 i 7 3 (4 + i) 2 = 0 then f_turn P3 i 7 3
     else if f_isCancelled (f_turn P3 i 7 3) (f_turn P3 i 7 3 (4 + i) 2) then f_turn P3 i 7 3
     else (f_can (f_turn P3 i 7 3) (f_turn P3 i 7 3 (4 + i) 2)).1)
  else f_turn P3 i 2 2
def f_work1 (P : tP) (i : Nat) : tP :=
  if P (4 + i) 7 ≤ 0 then
    (if P (4 + i) 9 = 0 then
      (let P2 := pu P (4 + i) 10 (P 0 7); f_turn (pu P2 0 12 (P2 0 12 + 1)) i 3 1)
     else f_work2 P i)
  else P
def f_work (P : tP) (i : Nat) : tP := if P (4 + i) 6 = 1 then f_work1 (pu P (4 + i) 7 (P (4 + i) 7 - 1)) i else P
theorem kp_work2 {P : tP} {i : Nat} : kp P (f_work2 P i) := by
  unfold f_work2
  dsimp only
  have h0 : kp P (pu (pu P (4 + i) 9 (P (4 + i) 9 - 1)) 0 11 (pu P (4 + i) 9 (P (4 + i) 9 - 1) 0 11 + 1)) := kp_tr (kp_st (by omega)) (kp_0 (by omega))
  refine kp_tr h0 ?_
  split
  · split
    · exact kp_turn
    · split
      · exact kp_turn
      · exact kp_tr kp_turn kp_fcan
  · exact kp_turn
theorem kp_work1 {P : tP} {i : Nat} : kp P (f_work1 P i) := by
  unfold f_work1
  split
  · split
    · exact kp_tr (kp_tr (kp_st (by omega)) (kp_0 (by omega))) kp_turn
    · exact kp_work2
  · exact kp_rfl
theorem kp_work {P : tP} {i : Nat} : kp P (f_work P i) := by
  unfold f_work
  split
  · exact kp_tr (kp_st (by omega)) kp_work1
  · exact kp_rfl
def f_und1 (P : tP) (l : Nat) : tP :=
  let P1 := pu P (4 + l) 7 (P (4 + l) 7 - 1)
  if 0 < P1 (4 + l) 7 then P1 else f_turn (pu P1 0 13 (P1 0 13 + 1)) l 5 4
def f_und (P : tP) (b : Int32) : tP := if 0 ≤ f_ftu P b then f_und1 P (f_ftu P b).toNatClampNeg else P
theorem kp_und {P : tP} {b : Int32} : kp P (f_und P b) := by
  unfold f_und
  split
  · unfold f_und1
    dsimp only
    split
    · exact kp_st (by omega)
    · exact kp_tr (kp_tr (kp_st (by omega)) (kp_0 (by omega))) kp_turn
  · exact kp_rfl
def lp_und : Nat → Nat → tP → tP
  | 0, _, P => P
  | n + 1, b, P => lp_und n (b + 1) (if f_isCancelled P (nI b) then f_und P (nI b) else P)
theorem kp_lund : ∀ (n b : Nat) (P : tP), kp P (lp_und n b P) := by
  intro n
  induction n with
  | zero => intro b P; exact kp_rfl
  | succ n ih =>
    intro b P
    rw [lp_und]
    refine kp_tr ?_ (ih _ _)
    split
    · exact kp_und
    · exact kp_rfl
def lp_lo : Nat → tP → Int32 → tP
  | 0, P, _ => P
  | n + 1, P, x => if 0 ≤ f_lowH P x then lp_lo n (f_turn P (f_lowH P x).toNatClampNeg 6 5) (x ||| sh (f_lowH P x).toNatClampNeg) else P
theorem kp_lo : ∀ (n : Nat) (P : tP) (x : Int32), kp P (lp_lo n P x) := by
  intro n
  induction n with
  | zero => intro P x; exact kp_rfl
  | succ n ih =>
    intro P x
    rw [lp_lo]
    split
    · exact kp_tr kp_turn (ih _ _)
    · exact kp_rfl
def f_leave (P : tP) : tP := lp_lo 12 P (f_setOff P)
def f_begin1 (P : tP) (l : Nat) : tP :=
  let P1 := pu P (4 + l) 8 (P (4 + l) 8 + 1)
  let P2 := f_turn (pu P1 0 10 (P1 0 10 + 1)) l 1 0
  pu P2 (4 + l) 7 (P2 (4 + l) 0)
def lp_beg (d : Int32) : Nat → tP → Int32 → tP
  | 0, P, _ => P
  | n + 1, P, x => if P 0 8 ≤ x then P else if 0 ≤ f_ftb P d then lp_beg d n (f_begin1 P (f_ftb P d).toNatClampNeg) (x + Int32.ofInt 1) else P
def f_begin (P : tP) : tP := lp_beg (f_setOf P 3) 5 P (f_countOf P 1)
theorem kp_begin1 {P : tP} {l : Nat} : kp P (f_begin1 P l) := kp_tr (kp_tr (kp_tr (kp_st (by omega)) (kp_0 (by omega))) kp_turn) (kp_st (by omega))
theorem kp_beg {d : Int32} : ∀ (n : Nat) (P : tP) (x : Int32), kp P (lp_beg d n P x) := by
  intro n
  induction n with
  | zero => intro P x; exact kp_rfl
  | succ n ih =>
    intro P x
    rw [lp_beg]
    split
    · exact kp_rfl
    · split
      · exact kp_tr kp_begin1 (ih _ _)
      · exact kp_rfl
def lp_work : Nat → Nat → tP → tP
  | 0, _, P => P
  | n + 1, i, P => lp_work n (i + 1) (f_work P i)
theorem kp_lwork : ∀ (n i : Nat) (P : tP), kp P (lp_work n i P) := by
  intro n
  induction n with
  | zero => intro i P; exact kp_rfl
  | succ n ih => intro i P; exact kp_tr kp_work (ih _ _)
def f_pass (P : tP) : tP :=
  let P4 := f_begin (f_leave (lp_und 3 1 (lp_work (cn P) 0 P)))
  pu P4 0 7 (P4 0 7 + 1)
theorem kp_pass {P : tP} : kp P (f_pass P) := kp_tr (kp_tr (kp_tr (kp_tr (kp_lwork _ _ _) (kp_lund _ _ _)) (kp_lo _ _ _)) (kp_beg _ _ _)) (kp_0 (by omega))
theorem kp_cn {P P' : tP} (h : kp P P') : cn P' = cn P := by rw [cn, cn, h.1]
theorem kp_okc {P P' : tP} (h : kp P P') (o : okc P) : okc P' := ⟨by rw [h.1, kp_cn h]; exact o.1, by rw [kp_cn h]; exact o.2⟩
theorem kp_okh {P P' : tP} (h : kp P P') (o : okh P) : okh P' := by obtain ⟨a, b, c⟩ := o; exact ⟨a, b, h.2.1.trans c⟩
-- the answers of the three searches
theorem lowH_r {P : tP} {d : Int32} : ∀ (n i : Nat), lp_lowH P d n i = -1 ∨ ∃ l, l < i + n ∧ lp_lowH P d n i = nI l := by
  intro n
  induction n with
  | zero => intro i; exact Or.inl rfl
  | succ n ih =>
    intro i
    rw [lp_lowH]
    split
    · exact Or.inr ⟨i, by omega, rfl⟩
    · rcases ih (i + 1) with h | ⟨l, h, e⟩
      · exact Or.inl h
      · exact Or.inr ⟨l, by omega, e⟩
theorem ftu_r {P : tP} {b : Int32} : ∀ (n i : Nat) (x y : Int32), (x = -1 ∨ ∃ l, l < i + n ∧ x = nI l) → (lp_ftu P b n i x y = -1 ∨ ∃ l, l < i + n ∧ lp_ftu P b n i x y = nI l) := by
  intro n
  induction n with
  | zero => intro i x y h; exact h
  | succ n ih =>
    intro i x y h
    rw [lp_ftu]
    have e : i + (n + 1) = i + 1 + n := by omega
    rw [e] at h ⊢
    split
    · exact ih _ _ _ (Or.inr ⟨i, by omega, rfl⟩)
    · exact ih _ _ _ h
theorem ftb_r {P : tP} {d : Int32} : ∀ (n i : Nat) (x y : Int32), (x = -1 ∨ ∃ l, l < i + n ∧ x = nI l) → (lp_ftb P d n i x y = -1 ∨ ∃ l, l < i + n ∧ lp_ftb P d n i x y = nI l) := by
  intro n
  induction n with
  | zero => intro i x y h; exact h
  | succ n ih =>
    intro i x y h
    rw [lp_ftb]
    have e : i + (n + 1) = i + 1 + n := by omega
    rw [e] at h ⊢
    split
    · exact ih _ _ _ (Or.inr ⟨i, by omega, rfl⟩)
    · exact ih _ _ _ h
theorem se_r {x : Int32} {c : Nat} (hc : c ≤ 12) (h : x = -1 ∨ ∃ l, l < 0 + c ∧ x = nI l) : (x < 0 ∧ ¬ 0 ≤ x) ∨ (∃ l, l < c ∧ l < 12 ∧ x = nI l ∧ x.toNatClampNeg = l ∧ 0 ≤ x) := by
  rcases h with rfl | ⟨l, h1, rfl⟩
  · left; decide
  · right; exact ⟨l, by omega, by omega, rfl, nI_clamp (by omega), nI_pos' (by omega)⟩
theorem lowH_c {P : tP} {d : Int32} (o : okc P) : (f_lowH P d < 0 ∧ ¬ 0 ≤ f_lowH P d) ∨ (∃ l, l < cn P ∧ l < 12 ∧ f_lowH P d = nI l ∧ (f_lowH P d).toNatClampNeg = l ∧ 0 ≤ f_lowH P d) := se_r (x := f_lowH P d) o.2 (by have := lowH_r (P := P) (d := d) (cn P) 0; exact this)
theorem ftu_c {P : tP} {b : Int32} (o : okc P) : (f_ftu P b < 0 ∧ ¬ 0 ≤ f_ftu P b) ∨ (∃ l, l < cn P ∧ l < 12 ∧ f_ftu P b = nI l ∧ (f_ftu P b).toNatClampNeg = l ∧ 0 ≤ f_ftu P b) := se_r (x := f_ftu P b) o.2 (ftu_r (cn P) 0 (-1) (-1) (Or.inl rfl))
theorem ftb_c {P : tP} {d : Int32} (o : okc P) : (f_ftb P d < 0 ∧ ¬ 0 ≤ f_ftb P d) ∨ (∃ l, l < cn P ∧ l < 12 ∧ f_ftb P d = nI l ∧ (f_ftb P d).toNatClampNeg = l ∧ 0 ≤ f_ftb P d) := se_r (x := f_ftb P d) o.2 (ftb_r (cn P) 0 (-1) 1001 (Or.inl rfl))
theorem dX4_turn_0 : decode cX4_turn 0 = .ok (.aload_n 0, 1) := by decide +kernel
theorem dX4_turn_1 : decode cX4_turn 1 = .ok (.getfield 11, 3) := by decide +kernel
theorem dX4_turn_4 : decode cX4_turn 4 = .ok (.iload_n 1, 1) := by decide +kernel
theorem dX4_turn_5 : decode cX4_turn 5 = .ok (.aaload, 1) := by decide +kernel
theorem dX4_turn_6 : decode cX4_turn 6 = .ok (.iload_n 2, 1) := by decide +kernel
theorem dX4_turn_7 : decode cX4_turn 7 = .ok (.putfield 84, 3) := by decide +kernel
theorem dX4_turn_10 : decode cX4_turn 10 = .ok (.aload_n 0, 1) := by decide +kernel
theorem dX4_turn_11 : decode cX4_turn 11 = .ok (.getfield 11, 3) := by decide +kernel
theorem dX4_turn_14 : decode cX4_turn 14 = .ok (.iload_n 1, 1) := by decide +kernel
theorem dX4_turn_15 : decode cX4_turn 15 = .ok (.aaload, 1) := by decide +kernel
theorem dX4_turn_16 : decode cX4_turn 16 = .ok (.iconst 0, 1) := by decide +kernel
theorem dX4_turn_17 : decode cX4_turn 17 = .ok (.putfield 132, 3) := by decide +kernel
theorem dX4_turn_20 : decode cX4_turn 20 = .ok (.aload_n 0, 1) := by decide +kernel
theorem dX4_turn_21 : decode cX4_turn 21 = .ok (.getfield 45, 3) := by decide +kernel
theorem dX4_turn_24 : decode cX4_turn 24 = .ok (.iconst 3, 1) := by decide +kernel
theorem dX4_turn_25 : decode cX4_turn 25 = .ok (.imul, 1) := by decide +kernel
theorem dX4_turn_26 : decode cX4_turn 26 = .ok (.istore 4, 2) := by decide +kernel
theorem dX4_turn_28 : decode cX4_turn 28 = .ok (.aload_n 0, 1) := by decide +kernel
theorem dX4_turn_29 : decode cX4_turn 29 = .ok (.getfield 21, 3) := by decide +kernel
theorem dX4_turn_32 : decode cX4_turn 32 = .ok (.iload 4, 2) := by decide +kernel
theorem dX4_turn_34 : decode cX4_turn 34 = .ok (.iload_n 3, 1) := by decide +kernel
theorem dX4_turn_35 : decode cX4_turn 35 = .ok (.iastore, 1) := by decide +kernel
theorem dX4_turn_36 : decode cX4_turn 36 = .ok (.aload_n 0, 1) := by decide +kernel
theorem dX4_turn_37 : decode cX4_turn 37 = .ok (.getfield 21, 3) := by decide +kernel
theorem dX4_turn_40 : decode cX4_turn 40 = .ok (.iload 4, 2) := by decide +kernel
theorem dX4_turn_42 : decode cX4_turn 42 = .ok (.iconst 1, 1) := by decide +kernel
theorem dX4_turn_43 : decode cX4_turn 43 = .ok (.iadd, 1) := by decide +kernel
theorem dX4_turn_44 : decode cX4_turn 44 = .ok (.iload_n 1, 1) := by decide +kernel
theorem dX4_turn_45 : decode cX4_turn 45 = .ok (.iastore, 1) := by decide +kernel
theorem dX4_turn_46 : decode cX4_turn 46 = .ok (.aload_n 0, 1) := by decide +kernel
theorem dX4_turn_47 : decode cX4_turn 47 = .ok (.getfield 21, 3) := by decide +kernel
theorem dX4_turn_50 : decode cX4_turn 50 = .ok (.iload 4, 2) := by decide +kernel
theorem dX4_turn_52 : decode cX4_turn 52 = .ok (.iconst 2, 1) := by decide +kernel
theorem dX4_turn_53 : decode cX4_turn 53 = .ok (.iadd, 1) := by decide +kernel
theorem dX4_turn_54 : decode cX4_turn 54 = .ok (.aload_n 0, 1) := by decide +kernel
theorem dX4_turn_55 : decode cX4_turn 55 = .ok (.getfield 51, 3) := by decide +kernel
theorem dX4_turn_58 : decode cX4_turn 58 = .ok (.iastore, 1) := by decide +kernel
theorem dX4_turn_59 : decode cX4_turn 59 = .ok (.aload_n 0, 1) := by decide +kernel
theorem dX4_turn_60 : decode cX4_turn 60 = .ok (.aload_n 0, 1) := by decide +kernel
theorem dX4_turn_61 : decode cX4_turn 61 = .ok (.getfield 45, 3) := by decide +kernel
theorem dX4_turn_64 : decode cX4_turn 64 = .ok (.iconst 1, 1) := by decide +kernel
theorem dX4_turn_65 : decode cX4_turn 65 = .ok (.iadd, 1) := by decide +kernel
theorem dX4_turn_66 : decode cX4_turn 66 = .ok (.bipush 16, 2) := by decide +kernel
theorem dX4_turn_68 : decode cX4_turn 68 = .ok (.irem, 1) := by decide +kernel
theorem dX4_turn_69 : decode cX4_turn 69 = .ok (.putfield 45, 3) := by decide +kernel
theorem dX4_turn_72 : decode cX4_turn 72 = .ok (.aload_n 0, 1) := by decide +kernel
theorem dX4_turn_73 : decode cX4_turn 73 = .ok (.getfield 48, 3) := by decide +kernel
theorem dX4_turn_76 : decode cX4_turn 76 = .ok (.bipush 16, 2) := by decide +kernel
theorem dX4_turn_78 : decode cX4_turn 78 = .ok (.if_icmp .ge 13, 3) := by decide +kernel
theorem dX4_turn_81 : decode cX4_turn 81 = .ok (.aload_n 0, 1) := by decide +kernel
theorem dX4_turn_82 : decode cX4_turn 82 = .ok (.dup, 1) := by decide +kernel
theorem dX4_turn_83 : decode cX4_turn 83 = .ok (.getfield 48, 3) := by decide +kernel
theorem dX4_turn_86 : decode cX4_turn 86 = .ok (.iconst 1, 1) := by decide +kernel
theorem dX4_turn_87 : decode cX4_turn 87 = .ok (.iadd, 1) := by decide +kernel
theorem dX4_turn_88 : decode cX4_turn 88 = .ok (.putfield 48, 3) := by decide +kernel
theorem dX4_turn_91 : decode cX4_turn 91 = .ok (.return_, 1) := by decide +kernel
theorem dcX4_turn : yX4_turn.cls = RX4 ∧ yX4_turn.cls ≠ "java/lang/invoke/MethodHandle" ∧ yX4_turn.cls ≠ "java/lang/invoke/VarHandle" ∧ (parseMethodDescriptor yX4_turn.desc).map (fun d => d.parameters.length) = some 3 := by decide +kernel
set_option maxRecDepth 100000 in
set_option maxHeartbeats 4000000 in
theorem K_turn {cA : Nat → ClassId} {ad : tA} {ex : va_W} {M : tM} {r : Nat} {P : tP} {n : Nat} {how ev : Int32} (hr : isPlan r) (hn : n < 12) (ho : oke P) : Cj yX4_turn cX4_turn 5 none (rmd 0) 0 0 cA ad [.ref (ad r 0), .int (nI n), .int how, .int ev] ex (m_pl M r P) (Qe none ex (m_pl M r (f_turn P n how ev))) := by
  refine c_of_r (lv0 := [some (.ref (ad r 0)), some (.int (nI n)), some (.int how), some (.int ev), none]) rfl (by decide +kernel) (Nat.le_of_ble_eq_true rfl) rfl ?_
  obtain ⟨he, he2⟩ := ho
  have he3 : pu (pu P (4 + n) 6 how) (4 + n) 7 0 0 5 = nI (en P) := by rw [pu_j (by omega), pu_j (by omega)]; exact he
  refine r_aload_n dX4_turn_0 rfl ?_
  refine r_getp_pl (by assumption) 0 (by decide) q38 rfl dX4_turn_1 ?_
  refine r_iload_n dX4_turn_4 rfl ?_
  refine r_aldp_steps (by assumption) rfl (by omega) dX4_turn_5 ?_
  refine r_iload_n dX4_turn_6 rfl ?_
  refine r_putp_st (by assumption) (by omega) 6 (by decide) q168 rfl rfl rfl rfl rfl dX4_turn_7 ?_
  refine r_aload_n dX4_turn_10 rfl ?_
  refine r_getp_pl (by assumption) 0 (by decide) q38 rfl dX4_turn_11 ?_
  refine r_iload_n dX4_turn_14 rfl ?_
  refine r_aldp_steps (by assumption) rfl (by omega) dX4_turn_15 ?_
  refine r_iconst (v := 0) dX4_turn_16 (by decide) ?_
  refine r_putp_st (by assumption) (by omega) 7 (by decide) q309 rfl rfl rfl rfl rfl dX4_turn_17 ?_
  refine r_aload_n dX4_turn_20 rfl ?_
  refine r_getp_pl (by assumption) 5 (by decide) q86 rfl dX4_turn_21 ?_
  refine r_iconst (v := 3) dX4_turn_24 (by decide) ?_
  refine r_imul dX4_turn_25 ?_
  refine r_istore dX4_turn_26 (by decide) rfl ?_
  refine r_aload_n dX4_turn_28 rfl ?_
  refine r_getp_pl (by assumption) 4 (by decide) q41 rfl dX4_turn_29 ?_
  refine r_iload dX4_turn_32 rfl ?_
  refine r_iload_n dX4_turn_34 rfl ?_
  refine r_strp_ev (by assumption) (ev_i he3) (by omega) dX4_turn_35 ?_
  refine r_aload_n dX4_turn_36 rfl ?_
  refine r_getp_pl (by assumption) 4 (by decide) q41 rfl dX4_turn_37 ?_
  refine r_iload dX4_turn_40 rfl ?_
  refine r_iconst (v := 1) dX4_turn_42 (by decide) ?_
  refine r_iadd dX4_turn_43 ?_
  refine r_iload_n dX4_turn_44 rfl ?_
  refine r_strp_ev (by assumption) (ev_i1 he3) (by omega) dX4_turn_45 ?_
  refine r_aload_n dX4_turn_46 rfl ?_
  refine r_getp_pl (by assumption) 4 (by decide) q41 rfl dX4_turn_47 ?_
  refine r_iload dX4_turn_50 rfl ?_
  refine r_iconst (v := 2) dX4_turn_52 (by decide) ?_
  refine r_iadd dX4_turn_53 ?_
  refine r_aload_n dX4_turn_54 rfl ?_
  refine r_getp_pl (by assumption) 7 (by decide) q88 rfl dX4_turn_55 ?_
  refine r_strp_ev (by assumption) (ev_i2 he3) (by omega) dX4_turn_58 ?_
  refine r_aload_n dX4_turn_59 rfl ?_
  refine r_aload_n dX4_turn_60 rfl ?_
  refine r_getp_pl (by assumption) 5 (by decide) q86 rfl dX4_turn_61 ?_
  refine r_iconst (v := 1) dX4_turn_64 (by decide) ?_
  refine r_iadd dX4_turn_65 ?_
  refine r_bipush (v := 16) dX4_turn_66 (by decide) ?_
  refine r_irem dX4_turn_68 (by decide) ?_
  refine r_putp_pl (by assumption) 5 (by decide) q86 rfl rfl rfl rfl rfl dX4_turn_69 ?_
  refine r_aload_n dX4_turn_72 rfl ?_
  refine r_getp_pl (by assumption) 6 (by decide) q87 rfl dX4_turn_73 ?_
  refine r_bipush (v := 16) dX4_turn_76 (by decide) ?_
  refine r_icmp_ge (tgt := 91) dX4_turn_78 (by decide) (fun c78 => ?_) (fun c78 => ?_)
  · exact r_retv rfl dX4_turn_91 (by first | (show m_pl M r (f_turn1 P n how ev) = m_pl M r (f_turn P n how ev); rw [f_turn, if_pos (show 16 ≤ f_turn1 P n how ev 0 6 from c78)]) | (show m_pl M r (pu (f_turn1 P n how ev) 0 6 (f_turn1 P n how ev 0 6 + 1)) = m_pl M r (f_turn P n how ev); rw [f_turn, if_neg (show ¬ 16 ≤ f_turn1 P n how ev 0 6 from c78)]))
  · refine r_aload_n dX4_turn_81 rfl ?_
    refine r_dup dX4_turn_82 rfl ?_
    refine r_getp_pl (by assumption) 6 (by decide) q87 rfl dX4_turn_83 ?_
    refine r_iconst (v := 1) dX4_turn_86 (by decide) ?_
    refine r_iadd dX4_turn_87 ?_
    refine r_putp_pl (by assumption) 6 (by decide) q87 rfl rfl rfl rfl rfl dX4_turn_88 ?_
    exact r_retv rfl dX4_turn_91 (by first | (show m_pl M r (f_turn1 P n how ev) = m_pl M r (f_turn P n how ev); rw [f_turn, if_pos (show 16 ≤ f_turn1 P n how ev 0 6 from c78)]) | (show m_pl M r (pu (f_turn1 P n how ev) 0 6 (f_turn1 P n how ev 0 6 + 1)) = m_pl M r (f_turn P n how ev); rw [f_turn, if_neg (show ¬ 16 ≤ f_turn1 P n how ev 0 6 from c78)]))
theorem dX5_tellAnew_0 : decode cX5_tellAnew 0 = .ok (.aload_n 0, 1) := by decide +kernel
theorem dX5_tellAnew_1 : decode cX5_tellAnew 1 = .ok (.iload_n 1, 1) := by decide +kernel
theorem dX5_tellAnew_2 : decode cX5_tellAnew 2 = .ok (.putfield 9, 3) := by decide +kernel
theorem dX5_tellAnew_5 : decode cX5_tellAnew 5 = .ok (.aload_n 0, 1) := by decide +kernel
theorem dX5_tellAnew_6 : decode cX5_tellAnew 6 = .ok (.iload_n 2, 1) := by decide +kernel
theorem dX5_tellAnew_7 : decode cX5_tellAnew 7 = .ok (.putfield 15, 3) := by decide +kernel
theorem dX5_tellAnew_10 : decode cX5_tellAnew 10 = .ok (.aload_n 0, 1) := by decide +kernel
theorem dX5_tellAnew_11 : decode cX5_tellAnew 11 = .ok (.iload_n 3, 1) := by decide +kernel
theorem dX5_tellAnew_12 : decode cX5_tellAnew 12 = .ok (.putfield 18, 3) := by decide +kernel
theorem dX5_tellAnew_15 : decode cX5_tellAnew 15 = .ok (.aload_n 0, 1) := by decide +kernel
theorem dX5_tellAnew_16 : decode cX5_tellAnew 16 = .ok (.iload 4, 2) := by decide +kernel
theorem dX5_tellAnew_18 : decode cX5_tellAnew 18 = .ok (.putfield 21, 3) := by decide +kernel
theorem dX5_tellAnew_21 : decode cX5_tellAnew 21 = .ok (.aload_n 0, 1) := by decide +kernel
theorem dX5_tellAnew_22 : decode cX5_tellAnew 22 = .ok (.iconst 0, 1) := by decide +kernel
theorem dX5_tellAnew_23 : decode cX5_tellAnew 23 = .ok (.putfield 25, 3) := by decide +kernel
theorem dX5_tellAnew_26 : decode cX5_tellAnew 26 = .ok (.aload_n 0, 1) := by decide +kernel
theorem dX5_tellAnew_27 : decode cX5_tellAnew 27 = .ok (.sipush 1000, 3) := by decide +kernel
theorem dX5_tellAnew_30 : decode cX5_tellAnew 30 = .ok (.putfield 28, 3) := by decide +kernel
theorem dX5_tellAnew_33 : decode cX5_tellAnew 33 = .ok (.aload_n 0, 1) := by decide +kernel
theorem dX5_tellAnew_34 : decode cX5_tellAnew 34 = .ok (.iconst 0, 1) := by decide +kernel
theorem dX5_tellAnew_35 : decode cX5_tellAnew 35 = .ok (.putfield 31, 3) := by decide +kernel
theorem dX5_tellAnew_38 : decode cX5_tellAnew 38 = .ok (.aload_n 0, 1) := by decide +kernel
theorem dX5_tellAnew_39 : decode cX5_tellAnew 39 = .ok (.iconst 0, 1) := by decide +kernel
theorem dX5_tellAnew_40 : decode cX5_tellAnew 40 = .ok (.putfield 34, 3) := by decide +kernel
theorem dX5_tellAnew_43 : decode cX5_tellAnew 43 = .ok (.aload_n 0, 1) := by decide +kernel
theorem dX5_tellAnew_44 : decode cX5_tellAnew 44 = .ok (.iconst 0, 1) := by decide +kernel
theorem dX5_tellAnew_45 : decode cX5_tellAnew 45 = .ok (.putfield 37, 3) := by decide +kernel
theorem dX5_tellAnew_48 : decode cX5_tellAnew 48 = .ok (.aload_n 0, 1) := by decide +kernel
theorem dX5_tellAnew_49 : decode cX5_tellAnew 49 = .ok (.iconst 0, 1) := by decide +kernel
theorem dX5_tellAnew_50 : decode cX5_tellAnew 50 = .ok (.putfield 40, 3) := by decide +kernel
theorem dX5_tellAnew_53 : decode cX5_tellAnew 53 = .ok (.aload_n 0, 1) := by decide +kernel
theorem dX5_tellAnew_54 : decode cX5_tellAnew 54 = .ok (.bipush (-15), 2) := by decide +kernel
theorem dX5_tellAnew_56 : decode cX5_tellAnew 56 = .ok (.putfield 43, 3) := by decide +kernel
theorem dX5_tellAnew_59 : decode cX5_tellAnew 59 = .ok (.return_, 1) := by decide +kernel
theorem dcX5_tellAnew : yX5_tellAnew.cls = RX5 ∧ yX5_tellAnew.cls ≠ "java/lang/invoke/MethodHandle" ∧ yX5_tellAnew.cls ≠ "java/lang/invoke/VarHandle" ∧ (parseMethodDescriptor yX5_tellAnew.desc).map (fun d => d.parameters.length) = some 4 := by decide +kernel
set_option maxRecDepth 100000 in
set_option maxHeartbeats 4000000 in
theorem K_tell {cA : Nat → ClassId} {ad : tA} {ex : va_W} {M : tM} {r : Nat} {P : tP} {i : Nat} {d m b : Int32} {a : Bool} (hr : isPlan r) (hi : i < 12) : Cj yX5_tellAnew cX5_tellAnew 5 none (rmd 0) 0 0 cA ad [.ref (ad r (4 + i)), .int d, .int m, .int b, .int (bI a)] ex (m_pl M r P) (Qe none ex (m_pl M r (f_tell P i d m b (bI a)))) := by
  refine c_of_r (lv0 := [some (.ref (ad r (4 + i))), some (.int d), some (.int m), some (.int b), some (.int (bI a))]) rfl (by decide +kernel) (Nat.le_of_ble_eq_true rfl) rfl ?_
  refine r_aload_n dX5_tellAnew_0 rfl ?_
  refine r_iload_n dX5_tellAnew_1 rfl ?_
  refine r_putp_st (by assumption) (by omega) 0 (by decide) q98 rfl rfl rfl rfl rfl dX5_tellAnew_2 ?_
  refine r_aload_n dX5_tellAnew_5 rfl ?_
  refine r_iload_n dX5_tellAnew_6 rfl ?_
  refine r_putp_st (by assumption) (by omega) 1 (by decide) q99 rfl rfl rfl rfl rfl dX5_tellAnew_7 ?_
  refine r_aload_n dX5_tellAnew_10 rfl ?_
  refine r_iload_n dX5_tellAnew_11 rfl ?_
  refine r_putp_st (by assumption) (by omega) 2 (by decide) q100 rfl rfl rfl rfl rfl dX5_tellAnew_12 ?_
  refine r_aload_n dX5_tellAnew_15 rfl ?_
  refine r_iload dX5_tellAnew_16 rfl ?_
  refine r_putp_st (by assumption) (by omega) 3 (by decide) q101 rfl rfl bI_nar bI_fit rfl dX5_tellAnew_18 ?_
  refine r_aload_n dX5_tellAnew_21 rfl ?_
  refine r_iconst (v := 0) dX5_tellAnew_22 (by decide) ?_
  refine r_putp_st (by assumption) (by omega) 4 (by decide) q102 rfl rfl rfl rfl rfl dX5_tellAnew_23 ?_
  refine r_aload_n dX5_tellAnew_26 rfl ?_
  refine r_sipush (v := 1000) dX5_tellAnew_27 (by decide) ?_
  refine r_putp_st (by assumption) (by omega) 5 (by decide) q103 rfl rfl rfl rfl rfl dX5_tellAnew_30 ?_
  refine r_aload_n dX5_tellAnew_33 rfl ?_
  refine r_iconst (v := 0) dX5_tellAnew_34 (by decide) ?_
  refine r_putp_st (by assumption) (by omega) 6 (by decide) q104 rfl rfl rfl rfl rfl dX5_tellAnew_35 ?_
  refine r_aload_n dX5_tellAnew_38 rfl ?_
  refine r_iconst (v := 0) dX5_tellAnew_39 (by decide) ?_
  refine r_putp_st (by assumption) (by omega) 7 (by decide) q105 rfl rfl rfl rfl rfl dX5_tellAnew_40 ?_
  refine r_aload_n dX5_tellAnew_43 rfl ?_
  refine r_iconst (v := 0) dX5_tellAnew_44 (by decide) ?_
  refine r_putp_st (by assumption) (by omega) 8 (by decide) q106 rfl rfl rfl rfl rfl dX5_tellAnew_45 ?_
  refine r_aload_n dX5_tellAnew_48 rfl ?_
  refine r_iconst (v := 0) dX5_tellAnew_49 (by decide) ?_
  refine r_putp_st (by assumption) (by omega) 9 (by decide) q107 rfl rfl rfl rfl rfl dX5_tellAnew_50 ?_
  refine r_aload_n dX5_tellAnew_53 rfl ?_
  refine r_bipush (v := -15) dX5_tellAnew_54 (by decide) ?_
  refine r_putp_st (by assumption) (by omega) 10 (by decide) q108 rfl rfl rfl rfl rfl dX5_tellAnew_56 ?_
  exact r_retv rfl dX5_tellAnew_59 rfl
theorem dX5_copyFrom_0 : decode cX5_copyFrom 0 = .ok (.aload_n 0, 1) := by decide +kernel
theorem dX5_copyFrom_1 : decode cX5_copyFrom 1 = .ok (.aload_n 1, 1) := by decide +kernel
theorem dX5_copyFrom_2 : decode cX5_copyFrom 2 = .ok (.getfield 9, 3) := by decide +kernel
theorem dX5_copyFrom_5 : decode cX5_copyFrom 5 = .ok (.putfield 9, 3) := by decide +kernel
theorem dX5_copyFrom_8 : decode cX5_copyFrom 8 = .ok (.aload_n 0, 1) := by decide +kernel
theorem dX5_copyFrom_9 : decode cX5_copyFrom 9 = .ok (.aload_n 1, 1) := by decide +kernel
theorem dX5_copyFrom_10 : decode cX5_copyFrom 10 = .ok (.getfield 15, 3) := by decide +kernel
theorem dX5_copyFrom_13 : decode cX5_copyFrom 13 = .ok (.putfield 15, 3) := by decide +kernel
theorem dX5_copyFrom_16 : decode cX5_copyFrom 16 = .ok (.aload_n 0, 1) := by decide +kernel
theorem dX5_copyFrom_17 : decode cX5_copyFrom 17 = .ok (.aload_n 1, 1) := by decide +kernel
theorem dX5_copyFrom_18 : decode cX5_copyFrom 18 = .ok (.getfield 18, 3) := by decide +kernel
theorem dX5_copyFrom_21 : decode cX5_copyFrom 21 = .ok (.putfield 18, 3) := by decide +kernel
theorem dX5_copyFrom_24 : decode cX5_copyFrom 24 = .ok (.aload_n 0, 1) := by decide +kernel
theorem dX5_copyFrom_25 : decode cX5_copyFrom 25 = .ok (.aload_n 1, 1) := by decide +kernel
theorem dX5_copyFrom_26 : decode cX5_copyFrom 26 = .ok (.getfield 21, 3) := by decide +kernel
theorem dX5_copyFrom_29 : decode cX5_copyFrom 29 = .ok (.putfield 21, 3) := by decide +kernel
theorem dX5_copyFrom_32 : decode cX5_copyFrom 32 = .ok (.aload_n 0, 1) := by decide +kernel
theorem dX5_copyFrom_33 : decode cX5_copyFrom 33 = .ok (.aload_n 1, 1) := by decide +kernel
theorem dX5_copyFrom_34 : decode cX5_copyFrom 34 = .ok (.getfield 25, 3) := by decide +kernel
theorem dX5_copyFrom_37 : decode cX5_copyFrom 37 = .ok (.putfield 25, 3) := by decide +kernel
theorem dX5_copyFrom_40 : decode cX5_copyFrom 40 = .ok (.aload_n 0, 1) := by decide +kernel
theorem dX5_copyFrom_41 : decode cX5_copyFrom 41 = .ok (.aload_n 1, 1) := by decide +kernel
theorem dX5_copyFrom_42 : decode cX5_copyFrom 42 = .ok (.getfield 28, 3) := by decide +kernel
theorem dX5_copyFrom_45 : decode cX5_copyFrom 45 = .ok (.putfield 28, 3) := by decide +kernel
theorem dX5_copyFrom_48 : decode cX5_copyFrom 48 = .ok (.aload_n 0, 1) := by decide +kernel
theorem dX5_copyFrom_49 : decode cX5_copyFrom 49 = .ok (.aload_n 1, 1) := by decide +kernel
theorem dX5_copyFrom_50 : decode cX5_copyFrom 50 = .ok (.getfield 31, 3) := by decide +kernel
theorem dX5_copyFrom_53 : decode cX5_copyFrom 53 = .ok (.putfield 31, 3) := by decide +kernel
theorem dX5_copyFrom_56 : decode cX5_copyFrom 56 = .ok (.aload_n 0, 1) := by decide +kernel
theorem dX5_copyFrom_57 : decode cX5_copyFrom 57 = .ok (.aload_n 1, 1) := by decide +kernel
theorem dX5_copyFrom_58 : decode cX5_copyFrom 58 = .ok (.getfield 34, 3) := by decide +kernel
theorem dX5_copyFrom_61 : decode cX5_copyFrom 61 = .ok (.putfield 34, 3) := by decide +kernel
theorem dX5_copyFrom_64 : decode cX5_copyFrom 64 = .ok (.aload_n 0, 1) := by decide +kernel
theorem dX5_copyFrom_65 : decode cX5_copyFrom 65 = .ok (.aload_n 1, 1) := by decide +kernel
theorem dX5_copyFrom_66 : decode cX5_copyFrom 66 = .ok (.getfield 37, 3) := by decide +kernel
theorem dX5_copyFrom_69 : decode cX5_copyFrom 69 = .ok (.putfield 37, 3) := by decide +kernel
theorem dX5_copyFrom_72 : decode cX5_copyFrom 72 = .ok (.aload_n 0, 1) := by decide +kernel
theorem dX5_copyFrom_73 : decode cX5_copyFrom 73 = .ok (.aload_n 1, 1) := by decide +kernel
theorem dX5_copyFrom_74 : decode cX5_copyFrom 74 = .ok (.getfield 40, 3) := by decide +kernel
theorem dX5_copyFrom_77 : decode cX5_copyFrom 77 = .ok (.putfield 40, 3) := by decide +kernel
theorem dX5_copyFrom_80 : decode cX5_copyFrom 80 = .ok (.aload_n 0, 1) := by decide +kernel
theorem dX5_copyFrom_81 : decode cX5_copyFrom 81 = .ok (.aload_n 1, 1) := by decide +kernel
theorem dX5_copyFrom_82 : decode cX5_copyFrom 82 = .ok (.getfield 43, 3) := by decide +kernel
theorem dX5_copyFrom_85 : decode cX5_copyFrom 85 = .ok (.putfield 43, 3) := by decide +kernel
theorem dX5_copyFrom_88 : decode cX5_copyFrom 88 = .ok (.return_, 1) := by decide +kernel
theorem dcX5_copyFrom : yX5_copyFrom.cls = RX5 ∧ yX5_copyFrom.cls ≠ "java/lang/invoke/MethodHandle" ∧ yX5_copyFrom.cls ≠ "java/lang/invoke/VarHandle" ∧ (parseMethodDescriptor yX5_copyFrom.desc).map (fun d => d.parameters.length) = some 1 := by decide +kernel
set_option maxRecDepth 100000 in
set_option maxHeartbeats 4000000 in
theorem K_cps {cA : Nat → ClassId} {ad : tA} {ex : va_W} {M : tM} {r : Nat} {P : tP} {r2 i : Nat} (hr : isPlan r) (hr2 : isPlan r2) (hne : r2 ≠ r) (hi : i < 12) (hb : M r2 (4 + i) 3 = 0 ∨ M r2 (4 + i) 3 = 1) : Cj yX5_copyFrom cX5_copyFrom 2 none (rmd 0) 0 0 cA ad [.ref (ad r (4 + i)), .ref (ad r2 (4 + i))] ex (m_pl M r P) (Qe none ex (m_pl M r (f_cps P (M r2) i))) := by
  refine c_of_r (lv0 := [some (.ref (ad r (4 + i))), some (.ref (ad r2 (4 + i)))]) rfl (by decide +kernel) (Nat.le_of_ble_eq_true rfl) rfl ?_
  have hB1 : narrow .boolean (.int (M r2 (4 + i) 3)) = .int (M r2 (4 + i) 3) := by rcases hb with h | h <;> rw [h] <;> rfl
  have hB2 : fits .boolean (.int (M r2 (4 + i) 3)) = true := by rcases hb with h | h <;> rw [h] <;> rfl
  refine r_aload_n dX5_copyFrom_0 rfl ?_
  refine r_aload_n dX5_copyFrom_1 rfl ?_
  refine r_getq_st (by assumption) (by assumption) (by omega) 0 (by decide) q98 rfl dX5_copyFrom_2 ?_
  refine r_putp_st (by assumption) (by omega) 0 (by decide) q98 rfl rfl rfl rfl rfl dX5_copyFrom_5 ?_
  refine r_aload_n dX5_copyFrom_8 rfl ?_
  refine r_aload_n dX5_copyFrom_9 rfl ?_
  refine r_getq_st (by assumption) (by assumption) (by omega) 1 (by decide) q99 rfl dX5_copyFrom_10 ?_
  refine r_putp_st (by assumption) (by omega) 1 (by decide) q99 rfl rfl rfl rfl rfl dX5_copyFrom_13 ?_
  refine r_aload_n dX5_copyFrom_16 rfl ?_
  refine r_aload_n dX5_copyFrom_17 rfl ?_
  refine r_getq_st (by assumption) (by assumption) (by omega) 2 (by decide) q100 rfl dX5_copyFrom_18 ?_
  refine r_putp_st (by assumption) (by omega) 2 (by decide) q100 rfl rfl rfl rfl rfl dX5_copyFrom_21 ?_
  refine r_aload_n dX5_copyFrom_24 rfl ?_
  refine r_aload_n dX5_copyFrom_25 rfl ?_
  refine r_getq_st (by assumption) (by assumption) (by omega) 3 (by decide) q101 rfl dX5_copyFrom_26 ?_
  refine r_putp_st (by assumption) (by omega) 3 (by decide) q101 rfl rfl hB1 hB2 rfl dX5_copyFrom_29 ?_
  refine r_aload_n dX5_copyFrom_32 rfl ?_
  refine r_aload_n dX5_copyFrom_33 rfl ?_
  refine r_getq_st (by assumption) (by assumption) (by omega) 4 (by decide) q102 rfl dX5_copyFrom_34 ?_
  refine r_putp_st (by assumption) (by omega) 4 (by decide) q102 rfl rfl rfl rfl rfl dX5_copyFrom_37 ?_
  refine r_aload_n dX5_copyFrom_40 rfl ?_
  refine r_aload_n dX5_copyFrom_41 rfl ?_
  refine r_getq_st (by assumption) (by assumption) (by omega) 5 (by decide) q103 rfl dX5_copyFrom_42 ?_
  refine r_putp_st (by assumption) (by omega) 5 (by decide) q103 rfl rfl rfl rfl rfl dX5_copyFrom_45 ?_
  refine r_aload_n dX5_copyFrom_48 rfl ?_
  refine r_aload_n dX5_copyFrom_49 rfl ?_
  refine r_getq_st (by assumption) (by assumption) (by omega) 6 (by decide) q104 rfl dX5_copyFrom_50 ?_
  refine r_putp_st (by assumption) (by omega) 6 (by decide) q104 rfl rfl rfl rfl rfl dX5_copyFrom_53 ?_
  refine r_aload_n dX5_copyFrom_56 rfl ?_
  refine r_aload_n dX5_copyFrom_57 rfl ?_
  refine r_getq_st (by assumption) (by assumption) (by omega) 7 (by decide) q105 rfl dX5_copyFrom_58 ?_
  refine r_putp_st (by assumption) (by omega) 7 (by decide) q105 rfl rfl rfl rfl rfl dX5_copyFrom_61 ?_
  refine r_aload_n dX5_copyFrom_64 rfl ?_
  refine r_aload_n dX5_copyFrom_65 rfl ?_
  refine r_getq_st (by assumption) (by assumption) (by omega) 8 (by decide) q106 rfl dX5_copyFrom_66 ?_
  refine r_putp_st (by assumption) (by omega) 8 (by decide) q106 rfl rfl rfl rfl rfl dX5_copyFrom_69 ?_
  refine r_aload_n dX5_copyFrom_72 rfl ?_
  refine r_aload_n dX5_copyFrom_73 rfl ?_
  refine r_getq_st (by assumption) (by assumption) (by omega) 9 (by decide) q107 rfl dX5_copyFrom_74 ?_
  refine r_putp_st (by assumption) (by omega) 9 (by decide) q107 rfl rfl rfl rfl rfl dX5_copyFrom_77 ?_
  refine r_aload_n dX5_copyFrom_80 rfl ?_
  refine r_aload_n dX5_copyFrom_81 rfl ?_
  refine r_getq_st (by assumption) (by assumption) (by omega) 10 (by decide) q108 rfl dX5_copyFrom_82 ?_
  refine r_putp_st (by assumption) (by omega) 10 (by decide) q108 rfl rfl rfl rfl rfl dX5_copyFrom_85 ?_
  exact r_retv rfl dX5_copyFrom_88 rfl
theorem dX4_copyFrom_0 : decode cX4_copyFrom 0 = .ok (.iconst 0, 1) := by decide +kernel
theorem dX4_copyFrom_1 : decode cX4_copyFrom 1 = .ok (.istore_n 2, 1) := by decide +kernel
theorem dX4_copyFrom_2 : decode cX4_copyFrom 2 = .ok (.iload_n 2, 1) := by decide +kernel
theorem dX4_copyFrom_3 : decode cX4_copyFrom 3 = .ok (.aload_n 1, 1) := by decide +kernel
theorem dX4_copyFrom_4 : decode cX4_copyFrom 4 = .ok (.getfield 29, 3) := by decide +kernel
theorem dX4_copyFrom_7 : decode cX4_copyFrom 7 = .ok (.if_icmp .ge 24, 3) := by decide +kernel
theorem dX4_copyFrom_10 : decode cX4_copyFrom 10 = .ok (.aload_n 0, 1) := by decide +kernel
theorem dX4_copyFrom_11 : decode cX4_copyFrom 11 = .ok (.getfield 11, 3) := by decide +kernel
theorem dX4_copyFrom_14 : decode cX4_copyFrom 14 = .ok (.iload_n 2, 1) := by decide +kernel
theorem dX4_copyFrom_15 : decode cX4_copyFrom 15 = .ok (.aaload, 1) := by decide +kernel
theorem dX4_copyFrom_16 : decode cX4_copyFrom 16 = .ok (.aload_n 1, 1) := by decide +kernel
theorem dX4_copyFrom_17 : decode cX4_copyFrom 17 = .ok (.getfield 11, 3) := by decide +kernel
theorem dX4_copyFrom_20 : decode cX4_copyFrom 20 = .ok (.iload_n 2, 1) := by decide +kernel
theorem dX4_copyFrom_21 : decode cX4_copyFrom 21 = .ok (.aaload, 1) := by decide +kernel
theorem dX4_copyFrom_22 : decode cX4_copyFrom 22 = .ok (.invokevirtual 32, 3) := by decide +kernel
theorem dX4_copyFrom_25 : decode cX4_copyFrom 25 = .ok (.iinc 2 1, 3) := by decide +kernel
theorem dX4_copyFrom_28 : decode cX4_copyFrom 28 = .ok (.goto (-26), 3) := by decide +kernel
theorem dX4_copyFrom_31 : decode cX4_copyFrom 31 = .ok (.aload_n 0, 1) := by decide +kernel
theorem dX4_copyFrom_32 : decode cX4_copyFrom 32 = .ok (.aload_n 1, 1) := by decide +kernel
theorem dX4_copyFrom_33 : decode cX4_copyFrom 33 = .ok (.getfield 29, 3) := by decide +kernel
theorem dX4_copyFrom_36 : decode cX4_copyFrom 36 = .ok (.putfield 29, 3) := by decide +kernel
theorem dX4_copyFrom_39 : decode cX4_copyFrom 39 = .ok (.aload_n 1, 1) := by decide +kernel
theorem dX4_copyFrom_40 : decode cX4_copyFrom 40 = .ok (.getfield 17, 3) := by decide +kernel
theorem dX4_copyFrom_43 : decode cX4_copyFrom 43 = .ok (.iconst 0, 1) := by decide +kernel
theorem dX4_copyFrom_44 : decode cX4_copyFrom 44 = .ok (.aload_n 0, 1) := by decide +kernel
theorem dX4_copyFrom_45 : decode cX4_copyFrom 45 = .ok (.getfield 17, 3) := by decide +kernel
theorem dX4_copyFrom_48 : decode cX4_copyFrom 48 = .ok (.iconst 0, 1) := by decide +kernel
theorem dX4_copyFrom_49 : decode cX4_copyFrom 49 = .ok (.iconst 4, 1) := by decide +kernel
theorem dX4_copyFrom_50 : decode cX4_copyFrom 50 = .ok (.invokestatic 36, 3) := by decide +kernel
theorem dX4_copyFrom_53 : decode cX4_copyFrom 53 = .ok (.aload_n 0, 1) := by decide +kernel
theorem dX4_copyFrom_54 : decode cX4_copyFrom 54 = .ok (.aload_n 1, 1) := by decide +kernel
theorem dX4_copyFrom_55 : decode cX4_copyFrom 55 = .ok (.getfield 42, 3) := by decide +kernel
theorem dX4_copyFrom_58 : decode cX4_copyFrom 58 = .ok (.putfield 42, 3) := by decide +kernel
theorem dX4_copyFrom_61 : decode cX4_copyFrom 61 = .ok (.aload_n 1, 1) := by decide +kernel
theorem dX4_copyFrom_62 : decode cX4_copyFrom 62 = .ok (.getfield 21, 3) := by decide +kernel
theorem dX4_copyFrom_65 : decode cX4_copyFrom 65 = .ok (.iconst 0, 1) := by decide +kernel
theorem dX4_copyFrom_66 : decode cX4_copyFrom 66 = .ok (.aload_n 0, 1) := by decide +kernel
theorem dX4_copyFrom_67 : decode cX4_copyFrom 67 = .ok (.getfield 21, 3) := by decide +kernel
theorem dX4_copyFrom_70 : decode cX4_copyFrom 70 = .ok (.iconst 0, 1) := by decide +kernel
theorem dX4_copyFrom_71 : decode cX4_copyFrom 71 = .ok (.bipush 48, 2) := by decide +kernel
theorem dX4_copyFrom_73 : decode cX4_copyFrom 73 = .ok (.invokestatic 36, 3) := by decide +kernel
theorem dX4_copyFrom_76 : decode cX4_copyFrom 76 = .ok (.aload_n 0, 1) := by decide +kernel
theorem dX4_copyFrom_77 : decode cX4_copyFrom 77 = .ok (.aload_n 1, 1) := by decide +kernel
theorem dX4_copyFrom_78 : decode cX4_copyFrom 78 = .ok (.getfield 45, 3) := by decide +kernel
theorem dX4_copyFrom_81 : decode cX4_copyFrom 81 = .ok (.putfield 45, 3) := by decide +kernel
theorem dX4_copyFrom_84 : decode cX4_copyFrom 84 = .ok (.aload_n 0, 1) := by decide +kernel
theorem dX4_copyFrom_85 : decode cX4_copyFrom 85 = .ok (.aload_n 1, 1) := by decide +kernel
theorem dX4_copyFrom_86 : decode cX4_copyFrom 86 = .ok (.getfield 48, 3) := by decide +kernel
theorem dX4_copyFrom_89 : decode cX4_copyFrom 89 = .ok (.putfield 48, 3) := by decide +kernel
theorem dX4_copyFrom_92 : decode cX4_copyFrom 92 = .ok (.aload_n 0, 1) := by decide +kernel
theorem dX4_copyFrom_93 : decode cX4_copyFrom 93 = .ok (.aload_n 1, 1) := by decide +kernel
theorem dX4_copyFrom_94 : decode cX4_copyFrom 94 = .ok (.getfield 51, 3) := by decide +kernel
theorem dX4_copyFrom_97 : decode cX4_copyFrom 97 = .ok (.putfield 51, 3) := by decide +kernel
theorem dX4_copyFrom_100 : decode cX4_copyFrom 100 = .ok (.aload_n 0, 1) := by decide +kernel
theorem dX4_copyFrom_101 : decode cX4_copyFrom 101 = .ok (.aload_n 1, 1) := by decide +kernel
theorem dX4_copyFrom_102 : decode cX4_copyFrom 102 = .ok (.getfield 24, 3) := by decide +kernel
theorem dX4_copyFrom_105 : decode cX4_copyFrom 105 = .ok (.putfield 24, 3) := by decide +kernel
theorem dX4_copyFrom_108 : decode cX4_copyFrom 108 = .ok (.aload_n 0, 1) := by decide +kernel
theorem dX4_copyFrom_109 : decode cX4_copyFrom 109 = .ok (.aload_n 1, 1) := by decide +kernel
theorem dX4_copyFrom_110 : decode cX4_copyFrom 110 = .ok (.getfield 54, 3) := by decide +kernel
theorem dX4_copyFrom_113 : decode cX4_copyFrom 113 = .ok (.putfield 54, 3) := by decide +kernel
theorem dX4_copyFrom_116 : decode cX4_copyFrom 116 = .ok (.aload_n 0, 1) := by decide +kernel
theorem dX4_copyFrom_117 : decode cX4_copyFrom 117 = .ok (.aload_n 1, 1) := by decide +kernel
theorem dX4_copyFrom_118 : decode cX4_copyFrom 118 = .ok (.getfield 57, 3) := by decide +kernel
theorem dX4_copyFrom_121 : decode cX4_copyFrom 121 = .ok (.putfield 57, 3) := by decide +kernel
theorem dX4_copyFrom_124 : decode cX4_copyFrom 124 = .ok (.aload_n 0, 1) := by decide +kernel
theorem dX4_copyFrom_125 : decode cX4_copyFrom 125 = .ok (.aload_n 1, 1) := by decide +kernel
theorem dX4_copyFrom_126 : decode cX4_copyFrom 126 = .ok (.getfield 60, 3) := by decide +kernel
theorem dX4_copyFrom_129 : decode cX4_copyFrom 129 = .ok (.putfield 60, 3) := by decide +kernel
theorem dX4_copyFrom_132 : decode cX4_copyFrom 132 = .ok (.aload_n 0, 1) := by decide +kernel
theorem dX4_copyFrom_133 : decode cX4_copyFrom 133 = .ok (.aload_n 1, 1) := by decide +kernel
theorem dX4_copyFrom_134 : decode cX4_copyFrom 134 = .ok (.getfield 63, 3) := by decide +kernel
theorem dX4_copyFrom_137 : decode cX4_copyFrom 137 = .ok (.putfield 63, 3) := by decide +kernel
theorem dX4_copyFrom_140 : decode cX4_copyFrom 140 = .ok (.aload_n 0, 1) := by decide +kernel
theorem dX4_copyFrom_141 : decode cX4_copyFrom 141 = .ok (.aload_n 1, 1) := by decide +kernel
theorem dX4_copyFrom_142 : decode cX4_copyFrom 142 = .ok (.getfield 66, 3) := by decide +kernel
theorem dX4_copyFrom_145 : decode cX4_copyFrom 145 = .ok (.putfield 66, 3) := by decide +kernel
theorem dX4_copyFrom_148 : decode cX4_copyFrom 148 = .ok (.return_, 1) := by decide +kernel
theorem dcX4_copyFrom : yX4_copyFrom.cls = RX4 ∧ yX4_copyFrom.cls ≠ "java/lang/invoke/MethodHandle" ∧ yX4_copyFrom.cls ≠ "java/lang/invoke/VarHandle" ∧ (parseMethodDescriptor yX4_copyFrom.desc).map (fun d => d.parameters.length) = some 1 := by decide +kernel
theorem gX4_copyFrom_22 : GoodIn wsL_law (wsV RX4 32 RX5 yX5_copyFrom (.code yX5_copyFrom cX5_copyFrom 2 none :: wsL_law)) := g_V q94 q95 q96 q44 q97
set_option maxRecDepth 100000 in
set_option maxHeartbeats 4000000 in
theorem K_copy {cA : Nat → ClassId} {ad : tA} {ex : va_W} {M : tM} {r : Nat} {P0 : tP} {r2 : Nat} (hr : isPlan r) (hr2 : isPlan r2) (hne : r2 ≠ r) (hoc : okc (M r2)) (hob : okb (M r2)) : Cj yX4_copyFrom cX4_copyFrom 3 none (rmd 1) 0 0 cA ad [.ref (ad r 0), .ref (ad r2 0)] ex (m_pl M r P0) (Qe none ex (m_pl M r (f_copy P0 (M r2)))) := by
  refine c_of_r (lv0 := [some (.ref (ad r 0)), some (.ref (ad r2 0)), none]) rfl (by decide +kernel) (Nat.le_of_ble_eq_true rfl) rfl ?_
  have L : ∀ (n i : Nat) (P : tP), i + n = cn (M r2) → lp_cps (M r2) n i P = lp_cps (M r2) (cn (M r2)) 0 P0 → Rj cX4_copyFrom RX4 3 none (rmd 1) 0 0 cA ad (Qe none ex (m_pl M r (f_copy P0 (M r2)))) ex 0 0 2 [some (.ref (ad r 0)), some (.ref (ad r2 0)), some (.int (nI i))] [] (m_pl M r P) := by
    intro n
    induction n with
    | zero =>
      intro i P h hP
      refine r_iload_n dX4_copyFrom_2 rfl ?_
      refine r_aload_n dX4_copyFrom_3 rfl ?_
      refine r_getq_pl (by assumption) (by assumption) 1 (by decide) q80 rfl dX4_copyFrom_4 ?_
      refine r_icmp_ge (tgt := 31) dX4_copyFrom_7 (by decide) (fun c7 => ?_) (fun c7 => absurd (lp_z hoc.1 h) c7)
      refine r_aload_n dX4_copyFrom_31 rfl ?_
      refine r_aload_n dX4_copyFrom_32 rfl ?_
      refine r_getq_pl (by assumption) (by assumption) 1 (by decide) q80 rfl dX4_copyFrom_33 ?_
      refine r_putp_pl (by assumption) 1 (by decide) q80 rfl rfl rfl rfl rfl dX4_copyFrom_36 ?_
      refine r_aload_n dX4_copyFrom_39 rfl ?_
      refine r_getq_pl (by assumption) (by assumption) 2 (by decide) q40 rfl dX4_copyFrom_40 ?_
      refine r_iconst (v := 0) dX4_copyFrom_43 (by decide) ?_
      refine r_aload_n dX4_copyFrom_44 rfl ?_
      refine r_getp_pl (by assumption) 2 (by decide) q40 rfl dX4_copyFrom_45 ?_
      refine r_iconst (v := 0) dX4_copyFrom_48 (by decide) ?_
      refine r_iconst (v := 4) dX4_copyFrom_49 (by decide) ?_
      refine r_cpyp_mi (by assumption) (by assumption) (by assumption) q81 q82 q83 q84 (by decide) (by decide) rfl rfl dX4_copyFrom_50 ?_
      refine r_aload_n dX4_copyFrom_53 rfl ?_
      refine r_aload_n dX4_copyFrom_54 rfl ?_
      refine r_getq_pl (by assumption) (by assumption) 3 (by decide) q85 rfl dX4_copyFrom_55 ?_
      refine r_putp_pl (by assumption) 3 (by decide) q85 rfl rfl rfl rfl rfl dX4_copyFrom_58 ?_
      refine r_aload_n dX4_copyFrom_61 rfl ?_
      refine r_getq_pl (by assumption) (by assumption) 4 (by decide) q41 rfl dX4_copyFrom_62 ?_
      refine r_iconst (v := 0) dX4_copyFrom_65 (by decide) ?_
      refine r_aload_n dX4_copyFrom_66 rfl ?_
      refine r_getp_pl (by assumption) 4 (by decide) q41 rfl dX4_copyFrom_67 ?_
      refine r_iconst (v := 0) dX4_copyFrom_70 (by decide) ?_
      refine r_bipush (v := 48) dX4_copyFrom_71 (by decide) ?_
      refine r_cpyp_ev (by assumption) (by assumption) (by assumption) q81 q82 q83 q84 (by decide) (by decide) rfl rfl dX4_copyFrom_73 ?_
      refine r_aload_n dX4_copyFrom_76 rfl ?_
      refine r_aload_n dX4_copyFrom_77 rfl ?_
      refine r_getq_pl (by assumption) (by assumption) 5 (by decide) q86 rfl dX4_copyFrom_78 ?_
      refine r_putp_pl (by assumption) 5 (by decide) q86 rfl rfl rfl rfl rfl dX4_copyFrom_81 ?_
      refine r_aload_n dX4_copyFrom_84 rfl ?_
      refine r_aload_n dX4_copyFrom_85 rfl ?_
      refine r_getq_pl (by assumption) (by assumption) 6 (by decide) q87 rfl dX4_copyFrom_86 ?_
      refine r_putp_pl (by assumption) 6 (by decide) q87 rfl rfl rfl rfl rfl dX4_copyFrom_89 ?_
      refine r_aload_n dX4_copyFrom_92 rfl ?_
      refine r_aload_n dX4_copyFrom_93 rfl ?_
      refine r_getq_pl (by assumption) (by assumption) 7 (by decide) q88 rfl dX4_copyFrom_94 ?_
      refine r_putp_pl (by assumption) 7 (by decide) q88 rfl rfl rfl rfl rfl dX4_copyFrom_97 ?_
      refine r_aload_n dX4_copyFrom_100 rfl ?_
      refine r_aload_n dX4_copyFrom_101 rfl ?_
      refine r_getq_pl (by assumption) (by assumption) 8 (by decide) q42 rfl dX4_copyFrom_102 ?_
      refine r_putp_pl (by assumption) 8 (by decide) q42 rfl rfl rfl rfl rfl dX4_copyFrom_105 ?_
      refine r_aload_n dX4_copyFrom_108 rfl ?_
      refine r_aload_n dX4_copyFrom_109 rfl ?_
      refine r_getq_pl (by assumption) (by assumption) 9 (by decide) q89 rfl dX4_copyFrom_110 ?_
      refine r_putp_pl (by assumption) 9 (by decide) q89 rfl rfl rfl rfl rfl dX4_copyFrom_113 ?_
      refine r_aload_n dX4_copyFrom_116 rfl ?_
      refine r_aload_n dX4_copyFrom_117 rfl ?_
      refine r_getq_pl (by assumption) (by assumption) 10 (by decide) q90 rfl dX4_copyFrom_118 ?_
      refine r_putp_pl (by assumption) 10 (by decide) q90 rfl rfl rfl rfl rfl dX4_copyFrom_121 ?_
      refine r_aload_n dX4_copyFrom_124 rfl ?_
      refine r_aload_n dX4_copyFrom_125 rfl ?_
      refine r_getq_pl (by assumption) (by assumption) 11 (by decide) q91 rfl dX4_copyFrom_126 ?_
      refine r_putp_pl (by assumption) 11 (by decide) q91 rfl rfl rfl rfl rfl dX4_copyFrom_129 ?_
      refine r_aload_n dX4_copyFrom_132 rfl ?_
      refine r_aload_n dX4_copyFrom_133 rfl ?_
      refine r_getq_pl (by assumption) (by assumption) 12 (by decide) q92 rfl dX4_copyFrom_134 ?_
      refine r_putp_pl (by assumption) 12 (by decide) q92 rfl rfl rfl rfl rfl dX4_copyFrom_137 ?_
      refine r_aload_n dX4_copyFrom_140 rfl ?_
      refine r_aload_n dX4_copyFrom_141 rfl ?_
      refine r_getq_pl (by assumption) (by assumption) 13 (by decide) q93 rfl dX4_copyFrom_142 ?_
      refine r_putp_pl (by assumption) 13 (by decide) q93 rfl rfl rfl rfl rfl dX4_copyFrom_145 ?_
      exact r_retv rfl dX4_copyFrom_148 (by rw [f_copy, ← hP]; rfl)
    | succ n ih =>
      intro i P h hP
      have hi : i < 12 := by have := hoc.2; omega
      refine r_iload_n dX4_copyFrom_2 rfl ?_
      refine r_aload_n dX4_copyFrom_3 rfl ?_
      refine r_getq_pl (by assumption) (by assumption) 1 (by decide) q80 rfl dX4_copyFrom_4 ?_
      refine r_icmp_ge (tgt := 31) dX4_copyFrom_7 (by decide) (fun c7 => absurd c7 (lp_s hoc.1 hoc.2 h)) (fun c7 => ?_)
      refine r_aload_n dX4_copyFrom_10 rfl ?_
      refine r_getp_pl (by assumption) 0 (by decide) q38 rfl dX4_copyFrom_11 ?_
      refine r_iload_n dX4_copyFrom_14 rfl ?_
      refine r_aldp_steps (by assumption) rfl (by omega) dX4_copyFrom_15 ?_
      refine r_aload_n dX4_copyFrom_16 rfl ?_
      refine r_getq_pl (by assumption) (by assumption) 0 (by decide) q38 rfl dX4_copyFrom_17 ?_
      refine r_iload_n dX4_copyFrom_20 rfl ?_
      refine r_ald_steps (by assumption) rfl (by omega) dX4_copyFrom_21 ?_
      refine r_cVv dX4_copyFrom_22 (K_cps (r2 := r2) (i := i) (by assumption) (by assumption) (by assumption) hi (hob i hi)) gX4_copyFrom_22 dcX5_copyFrom rfl rfl rfl (Nat.le_of_ble_eq_true rfl) (ob_st (by assumption) (by omega)) ?_
      refine r_iinc dX4_copyFrom_25 rfl ii_s (by decide) rfl ?_
      refine r_goto (tgt := 2) dX4_copyFrom_28 (by decide) ?_
      exact ih (i + 1) _ (by omega) hP
  refine r_iconst (v := 0) dX4_copyFrom_0 (by decide) ?_
  refine r_istore_n dX4_copyFrom_1 (by decide) rfl ?_
  exact L (cn (M r2)) 0 P0 (by omega) rfl
theorem dX4_addStep_0 : decode cX4_addStep 0 = .ok (.aload_n 0, 1) := by decide +kernel
theorem dX4_addStep_1 : decode cX4_addStep 1 = .ok (.getfield 29, 3) := by decide +kernel
theorem dX4_addStep_4 : decode cX4_addStep 4 = .ok (.istore 5, 2) := by decide +kernel
theorem dX4_addStep_6 : decode cX4_addStep 6 = .ok (.aload_n 0, 1) := by decide +kernel
theorem dX4_addStep_7 : decode cX4_addStep 7 = .ok (.getfield 11, 3) := by decide +kernel
theorem dX4_addStep_10 : decode cX4_addStep 10 = .ok (.iload 5, 2) := by decide +kernel
theorem dX4_addStep_12 : decode cX4_addStep 12 = .ok (.aaload, 1) := by decide +kernel
theorem dX4_addStep_13 : decode cX4_addStep 13 = .ok (.iload_n 1, 1) := by decide +kernel
theorem dX4_addStep_14 : decode cX4_addStep 14 = .ok (.iload_n 2, 1) := by decide +kernel
theorem dX4_addStep_15 : decode cX4_addStep 15 = .ok (.iload_n 3, 1) := by decide +kernel
theorem dX4_addStep_16 : decode cX4_addStep 16 = .ok (.iload 4, 2) := by decide +kernel
theorem dX4_addStep_18 : decode cX4_addStep 18 = .ok (.invokevirtual 69, 3) := by decide +kernel
theorem dX4_addStep_21 : decode cX4_addStep 21 = .ok (.aload_n 0, 1) := by decide +kernel
theorem dX4_addStep_22 : decode cX4_addStep 22 = .ok (.dup, 1) := by decide +kernel
theorem dX4_addStep_23 : decode cX4_addStep 23 = .ok (.getfield 29, 3) := by decide +kernel
theorem dX4_addStep_26 : decode cX4_addStep 26 = .ok (.iconst 1, 1) := by decide +kernel
theorem dX4_addStep_27 : decode cX4_addStep 27 = .ok (.iadd, 1) := by decide +kernel
theorem dX4_addStep_28 : decode cX4_addStep 28 = .ok (.putfield 29, 3) := by decide +kernel
theorem dX4_addStep_31 : decode cX4_addStep 31 = .ok (.aload_n 0, 1) := by decide +kernel
theorem dX4_addStep_32 : decode cX4_addStep 32 = .ok (.iload_n 3, 1) := by decide +kernel
theorem dX4_addStep_33 : decode cX4_addStep 33 = .ok (.invokevirtual 73, 3) := by decide +kernel
theorem dX4_addStep_36 : decode cX4_addStep 36 = .ok (.ifCond .eq 12, 3) := by decide +kernel
theorem dX4_addStep_39 : decode cX4_addStep 39 = .ok (.aload_n 0, 1) := by decide +kernel
theorem dX4_addStep_40 : decode cX4_addStep 40 = .ok (.iload 5, 2) := by decide +kernel
theorem dX4_addStep_42 : decode cX4_addStep 42 = .ok (.bipush 6, 2) := by decide +kernel
theorem dX4_addStep_44 : decode cX4_addStep 44 = .ok (.iconst 5, 1) := by decide +kernel
theorem dX4_addStep_45 : decode cX4_addStep 45 = .ok (.invokevirtual 77, 3) := by decide +kernel
theorem dX4_addStep_48 : decode cX4_addStep 48 = .ok (.iload 5, 2) := by decide +kernel
theorem dX4_addStep_50 : decode cX4_addStep 50 = .ok (.ireturn, 1) := by decide +kernel
theorem dcX4_addStep : yX4_addStep.cls = RX4 ∧ yX4_addStep.cls ≠ "java/lang/invoke/MethodHandle" ∧ yX4_addStep.cls ≠ "java/lang/invoke/VarHandle" ∧ (parseMethodDescriptor yX4_addStep.desc).map (fun d => d.parameters.length) = some 4 := by decide +kernel
theorem gX4_addStep_18 : GoodIn wsL_law (wsV RX4 69 RX5 yX5_tellAnew (.code yX5_tellAnew cX5_tellAnew 5 none :: wsL_law)) := g_V q297 q298 q299 q44 q300
theorem gX4_addStep_33 : GoodIn wsL_law (wsV RX4 73 RX4 yX4_isCancelled (.code yX4_isCancelled cX4_isCancelled 2 (some .boolean) :: wsL_law)) := g_V q301 q302 q303 q16 q304
theorem gX4_addStep_45 : GoodIn wsL_law (wsV RX4 77 RX4 yX4_turn (.code yX4_turn cX4_turn 5 none :: wsL_law)) := g_V q305 q306 q307 q16 q308
set_option maxRecDepth 100000 in
set_option maxHeartbeats 4000000 in
theorem K_add {cA : Nat → ClassId} {ad : tA} {ex : va_W} {M : tM} {r : Nat} {P : tP} {d m b : Int32} {a : Bool} (hr : isPlan r) (hoc : okc P) (hlt : cn P < 12) (ho : oke P) : Cj yX4_addStep cX4_addStep 6 (some .int) (rmd 1) 0 0 cA ad [.ref (ad r 0), .int d, .int m, .int b, .int (bI a)] ex (m_pl M r P) (Qe (some (.int (P 0 1))) ex (m_pl M r (f_add P d m b (bI a)))) := by
  refine c_of_r (lv0 := [some (.ref (ad r 0)), some (.int d), some (.int m), some (.int b), some (.int (bI a)), none]) rfl (by decide +kernel) (Nat.le_of_ble_eq_true rfl) rfl ?_
  obtain ⟨hc, hc2⟩ := hoc
  have ho1 : oke (f_add1 P d m b (bI a)) := oke_eq (by show pu (f_tell P (cn P) d m b (bI a)) 0 1 (f_tell P (cn P) d m b (bI a) 0 1 + 1) 0 5 = P 0 5; rw [pu_k (by omega), f_tell_0]) ho
  refine r_aload_n dX4_addStep_0 rfl ?_
  refine r_getp_pl (by assumption) 1 (by decide) q80 rfl dX4_addStep_1 ?_
  refine r_istore dX4_addStep_4 (by decide) rfl ?_
  refine r_aload_n dX4_addStep_6 rfl ?_
  refine r_getp_pl (by assumption) 0 (by decide) q38 rfl dX4_addStep_7 ?_
  refine r_iload dX4_addStep_10 rfl ?_
  refine r_aldp_steps (by assumption) hc hlt dX4_addStep_12 ?_
  refine r_iload_n dX4_addStep_13 rfl ?_
  refine r_iload_n dX4_addStep_14 rfl ?_
  refine r_iload_n dX4_addStep_15 rfl ?_
  refine r_iload dX4_addStep_16 rfl ?_
  refine r_cVv dX4_addStep_18 (K_tell (i := cn P) (by assumption) hlt) gX4_addStep_18 dcX5_tellAnew rfl rfl rfl (Nat.le_of_ble_eq_true rfl) (ob_st (by assumption) (by omega)) ?_
  refine r_aload_n dX4_addStep_21 rfl ?_
  refine r_dup dX4_addStep_22 rfl ?_
  refine r_getp_pl (by assumption) 1 (by decide) q80 rfl dX4_addStep_23 ?_
  refine r_iconst (v := 1) dX4_addStep_26 (by decide) ?_
  refine r_iadd dX4_addStep_27 ?_
  refine r_putp_pl (by assumption) 1 (by decide) q80 rfl rfl rfl rfl rfl dX4_addStep_28 ?_
  refine r_aload_n dX4_addStep_31 rfl ?_
  refine r_iload_n dX4_addStep_32 rfl ?_
  refine r_cVi dX4_addStep_33 (K_isCancelled (by assumption)) gX4_addStep_33 dcX4_isCancelled rfl rfl rfl (Nat.le_of_ble_eq_true rfl) (ob_pl (by assumption)) ?_
  refine r_if_eq (tgt := 48) dX4_addStep_36 (by decide) (fun c36 => ?_) (fun c36 => ?_)
  · refine r_iload dX4_addStep_48 rfl ?_
    exact r_ret rfl rfl dX4_addStep_50 rfl (by first | exact congrArg (m_pl M r) (f_add_n (bI_0 c36)).symm | exact congrArg (m_pl M r) (f_add_c (bI_1 c36)).symm)
  · refine r_aload_n dX4_addStep_39 rfl ?_
    refine r_iload dX4_addStep_40 rfl ?_
    refine r_bipush (v := 6) dX4_addStep_42 (by decide) ?_
    refine r_iconst (v := 5) dX4_addStep_44 (by decide) ?_
    refine r_cVv dX4_addStep_45 ((hc ▸ K_turn (n := cn P) (by assumption) hlt ho1)) gX4_addStep_45 dcX4_turn rfl rfl rfl (Nat.le_of_ble_eq_true rfl) (ob_pl (by assumption)) ?_
    refine r_iload dX4_addStep_48 rfl ?_
    exact r_ret rfl rfl dX4_addStep_50 rfl (by first | exact congrArg (m_pl M r) (f_add_n (bI_0 c36)).symm | exact congrArg (m_pl M r) (f_add_c (bI_1 c36)).symm)
theorem dX4_addMilestone_0 : decode cX4_addMilestone 0 = .ok (.aload_n 0, 1) := by decide +kernel
theorem dX4_addMilestone_1 : decode cX4_addMilestone 1 = .ok (.getfield 42, 3) := by decide +kernel
theorem dX4_addMilestone_4 : decode cX4_addMilestone 4 = .ok (.istore_n 3, 1) := by decide +kernel
theorem dX4_addMilestone_5 : decode cX4_addMilestone 5 = .ok (.aload_n 0, 1) := by decide +kernel
theorem dX4_addMilestone_6 : decode cX4_addMilestone 6 = .ok (.getfield 17, 3) := by decide +kernel
theorem dX4_addMilestone_9 : decode cX4_addMilestone 9 = .ok (.iload_n 3, 1) := by decide +kernel
theorem dX4_addMilestone_10 : decode cX4_addMilestone 10 = .ok (.iload_n 1, 1) := by decide +kernel
theorem dX4_addMilestone_11 : decode cX4_addMilestone 11 = .ok (.iastore, 1) := by decide +kernel
theorem dX4_addMilestone_12 : decode cX4_addMilestone 12 = .ok (.aload_n 0, 1) := by decide +kernel
theorem dX4_addMilestone_13 : decode cX4_addMilestone 13 = .ok (.getfield 11, 3) := by decide +kernel
theorem dX4_addMilestone_16 : decode cX4_addMilestone 16 = .ok (.iload_n 1, 1) := by decide +kernel
theorem dX4_addMilestone_17 : decode cX4_addMilestone 17 = .ok (.aaload, 1) := by decide +kernel
theorem dX4_addMilestone_18 : decode cX4_addMilestone 18 = .ok (.iload_n 2, 1) := by decide +kernel
theorem dX4_addMilestone_19 : decode cX4_addMilestone 19 = .ok (.putfield 81, 3) := by decide +kernel
theorem dX4_addMilestone_22 : decode cX4_addMilestone 22 = .ok (.aload_n 0, 1) := by decide +kernel
theorem dX4_addMilestone_23 : decode cX4_addMilestone 23 = .ok (.dup, 1) := by decide +kernel
theorem dX4_addMilestone_24 : decode cX4_addMilestone 24 = .ok (.getfield 42, 3) := by decide +kernel
theorem dX4_addMilestone_27 : decode cX4_addMilestone 27 = .ok (.iconst 1, 1) := by decide +kernel
theorem dX4_addMilestone_28 : decode cX4_addMilestone 28 = .ok (.iadd, 1) := by decide +kernel
theorem dX4_addMilestone_29 : decode cX4_addMilestone 29 = .ok (.putfield 42, 3) := by decide +kernel
theorem dX4_addMilestone_32 : decode cX4_addMilestone 32 = .ok (.iload_n 3, 1) := by decide +kernel
theorem dX4_addMilestone_33 : decode cX4_addMilestone 33 = .ok (.ireturn, 1) := by decide +kernel
theorem dcX4_addMilestone : yX4_addMilestone.cls = RX4 ∧ yX4_addMilestone.cls ≠ "java/lang/invoke/MethodHandle" ∧ yX4_addMilestone.cls ≠ "java/lang/invoke/VarHandle" ∧ (parseMethodDescriptor yX4_addMilestone.desc).map (fun d => d.parameters.length) = some 2 := by decide +kernel
set_option maxRecDepth 100000 in
set_option maxHeartbeats 4000000 in
theorem K_addMs {cA : Nat → ClassId} {ad : tA} {ex : va_W} {M : tM} {r : Nat} {P : tP} {s : Nat} {d : Int32} (hr : isPlan r) (hs : s < 12) (hm : P 0 3 = nI (mn P)) (hm2 : mn P < 4) : Cj yX4_addMilestone cX4_addMilestone 4 (some .int) (rmd 0) 0 0 cA ad [.ref (ad r 0), .int (nI s), .int d] ex (m_pl M r P) (Qe (some (.int (P 0 3))) ex (m_pl M r (f_addMs P s d))) := by
  refine c_of_r (lv0 := [some (.ref (ad r 0)), some (.int (nI s)), some (.int d), none]) rfl (by decide +kernel) (Nat.le_of_ble_eq_true rfl) rfl ?_
  refine r_aload_n dX4_addMilestone_0 rfl ?_
  refine r_getp_pl (by assumption) 3 (by decide) q85 rfl dX4_addMilestone_1 ?_
  refine r_istore_n dX4_addMilestone_4 (by decide) rfl ?_
  refine r_aload_n dX4_addMilestone_5 rfl ?_
  refine r_getp_pl (by assumption) 2 (by decide) q40 rfl dX4_addMilestone_6 ?_
  refine r_iload_n dX4_addMilestone_9 rfl ?_
  refine r_iload_n dX4_addMilestone_10 rfl ?_
  refine r_strp_mi (by assumption) hm hm2 dX4_addMilestone_11 ?_
  refine r_aload_n dX4_addMilestone_12 rfl ?_
  refine r_getp_pl (by assumption) 0 (by decide) q38 rfl dX4_addMilestone_13 ?_
  refine r_iload_n dX4_addMilestone_16 rfl ?_
  refine r_aldp_steps (by assumption) rfl hs dX4_addMilestone_17 ?_
  refine r_iload_n dX4_addMilestone_18 rfl ?_
  refine r_putp_st (by assumption) (by omega) 5 (by decide) q357 rfl rfl rfl rfl rfl dX4_addMilestone_19 ?_
  refine r_aload_n dX4_addMilestone_22 rfl ?_
  refine r_dup dX4_addMilestone_23 rfl ?_
  refine r_getp_pl (by assumption) 3 (by decide) q85 rfl dX4_addMilestone_24 ?_
  refine r_iconst (v := 1) dX4_addMilestone_27 (by decide) ?_
  refine r_iadd dX4_addMilestone_28 ?_
  refine r_putp_pl (by assumption) 3 (by decide) q85 rfl rfl rfl rfl rfl dX4_addMilestone_29 ?_
  refine r_iload_n dX4_addMilestone_32 rfl ?_
  exact r_ret rfl rfl dX4_addMilestone_33 rfl rfl

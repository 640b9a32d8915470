/-! PART 26: what is read in two texts that begin alike; three texts of the law -/
def sT (n : Nat) (E : Nat → Nat → Prop) (T T' : tP) : Prop := (T 0 1 = nI n ∧ T' 0 1 = nI n ∧ T' 0 2 = T 0 2 ∧ T' 0 4 = T 0 4 ∧ ∀ i, i < n → T' 1 i = T 1 i) ∧ ∀ j k, E j k → T' (3 + j) k = T (3 + j) k
def sR (n : Nat) (E : Nat → Nat → Prop) (q q' : Bool × tP) : Prop := q'.1 = q.1 ∧ sT n E q.2 q'.2
theorem cl_lt {x : Int32} {n : Nat} (h0 : 0 < n) (hn : n < 2 ^ 31) (h : ¬ nI n ≤ x) : x.toNatClampNeg < n := by
  have h1 : x < nI n := Int32.not_le.mp h
  have h2 := Int32.lt_iff_toInt_lt.mp h1
  rw [nI_toInt hn] at h2
  have : x.toNatClampNeg = x.toInt.toNat := rfl
  omega
section
variable {n : Nat} {E : Nat → Nat → Prop} {T T' : tP}
theorem sT_2 {x : Int32} (h : sT n E T T') : sT n E (pu T 0 2 x) (pu T' 0 2 x) := ⟨⟨(pu_k (by omega)).trans h.1.1, (pu_k (by omega)).trans h.1.2.1, by rw [pu_s, pu_s], by rw [pu_k (by omega), pu_k (by omega)]; exact h.1.2.2.2.1, fun i hi => by rw [pu_j (by omega), pu_j (by omega)]; exact h.1.2.2.2.2 i hi⟩, fun j k e => by rw [pu_j (by omega), pu_j (by omega)]; exact h.2 j k e⟩
theorem sT_4 {x : Int32} (h : sT n E T T') : sT n E (pu T 0 4 x) (pu T' 0 4 x) := ⟨⟨(pu_k (by omega)).trans h.1.1, (pu_k (by omega)).trans h.1.2.1, by rw [pu_k (by omega), pu_k (by omega)]; exact h.1.2.2.1, by rw [pu_s, pu_s], fun i hi => by rw [pu_j (by omega), pu_j (by omega)]; exact h.1.2.2.2.2 i hi⟩, fun j k e => by rw [pu_j (by omega), pu_j (by omega)]; exact h.2 j k e⟩
theorem sT_or {k f : Nat} {x : Int32} (h : sT n E T T') : sT n (fun a b => E a b ∨ (a = k ∧ b = f)) (pu T (3 + k) f x) (pu T' (3 + k) f x) := ⟨⟨(pu_j (by omega)).trans h.1.1, (pu_j (by omega)).trans h.1.2.1, by rw [pu_j (by omega), pu_j (by omega)]; exact h.1.2.2.1, by rw [pu_j (by omega), pu_j (by omega)]; exact h.1.2.2.2.1, fun i hi => by rw [pu_j (by omega), pu_j (by omega)]; exact h.1.2.2.2.2 i hi⟩, fun a b e => by
  by_cases c : a = k
  · subst c
    by_cases d : b = f
    · subst d; rw [pu_s, pu_s]
    · rw [pu_k d, pu_k d]; exact h.2 _ _ (e.resolve_right (fun z => d z.2))
  · rw [pu_j (by omega), pu_j (by omega)]; exact h.2 _ _ (e.resolve_right (fun z => c z.1))⟩
theorem sT_w {E' : Nat → Nat → Prop} (hE : ∀ a b, E' a b → E a b) (h : sT n E T T') : sT n E' T T' := ⟨h.1, fun j k e => h.2 j k (hE j k e)⟩
theorem sT_le (h : sT n E T T') : (T' 0 1 ≤ T' 0 2) = (T 0 1 ≤ T 0 2) := by rw [h.1.2.1, h.1.2.2.1, h.1.1]
theorem sT_c (h0 : 0 < n) (hn : n < 2 ^ 31) (h : sT n E T T') (hl : ¬ T 0 1 ≤ T 0 2) : T' 1 (ta T') = T 1 (ta T) := by
  rw [ta, ta, h.1.2.2.1]
  rw [h.1.1] at hl
  exact h.1.2.2.2.2 _ (cl_lt h0 hn hl)
theorem sT_ts (h0 : 0 < n) (hn : n < 2 ^ 31) {c : Int32} (h : sT n E T T') : sR n E (f_ts T c) (f_ts T' c) := by
  have e := sT_le h
  unfold f_ts
  by_cases a : T 0 1 ≤ T 0 2
  · rw [if_pos a, if_pos (e.mpr a)]
    exact ⟨rfl, h⟩
  · rw [if_neg a, if_neg (fun z => a (e.mp z)), sT_c h0 hn h a]
    split
    · refine ⟨rfl, ?_⟩
      dsimp only
      rw [h.1.2.2.1]
      exact sT_2 h
    · exact ⟨rfl, h⟩
theorem sT_ltw (h0 : 0 < n) (hn : n < 2 ^ 31) {i : Nat} : ∀ (m k : Nat) (T T' : tP), sT n E T T' → sR n E (lp_tw i m k T) (lp_tw i m k T') := by
  intro m
  induction m with
  | zero => intro k T T' h; exact ⟨rfl, h⟩
  | succ m ih =>
    intro k T T' h
    have g := sT_ts h0 hn (c := litc i k) h
    rw [lp_tw, lp_tw, g.1]
    split
    · exact ih _ _ _ g.2
    · exact ⟨rfl, g.2⟩
theorem sT_tw (h0 : 0 < n) (hn : n < 2 ^ 31) {i : Nat} (h : sT n E T T') : sR n E (f_tw T i) (f_tw T' i) := sT_ltw h0 hn _ _ _ _ h
theorem sT_ltn (h0 : 0 < n) (hn : n < 2 ^ 31) : ∀ (m : Nat) (x : Int32) (T T' : tP), sT n E T T' → (lp_tn m x T').1 = (lp_tn m x T).1 ∧ sT n E (lp_tn m x T).2 (lp_tn m x T').2 := by
  intro m
  induction m with
  | zero => intro x T T' h; exact ⟨rfl, h⟩
  | succ m ih =>
    intro x T T' h
    have e := sT_le h
    rw [lp_tn, lp_tn]
    by_cases a : T 0 1 ≤ T 0 2
    · rw [if_pos (Or.inl a), if_pos (Or.inl (e.mpr a))]
      exact ⟨rfl, h⟩
    · rw [sT_c h0 hn h a]
      by_cases b : T 1 (ta T) < 48 ∨ 57 < T 1 (ta T)
      · rw [if_pos (Or.inr b), if_pos (Or.inr b)]
        exact ⟨rfl, h⟩
      · rw [if_neg (fun z => z.elim (fun y => a (e.mp y)) b), if_neg (fun z => z.elim a b), h.1.2.2.1]
        exact ih _ _ _ (sT_2 h)
theorem sT_tn (h0 : 0 < n) (hn : n < 2 ^ 31) {m : Nat} (h : sT n E T T') : (f_tn T' m).1 = (f_tn T m).1 ∧ sT n E (f_tn T m).2 (f_tn T' m).2 := sT_ltn h0 hn _ _ _ _ h
theorem sT_ro (h0 : 0 < n) (hn : n < 2 ^ 31) {k i m : Nat} (h : sT n E T T') : sR n E (f_ro T k i m) (f_ro T' k i m) ∧ ((f_ro T k i m).1 = true → sT n (fun a b => E a b ∨ (a = k ∧ b = 1)) (f_ro T k i m).2 (f_ro T' k i m).2) := by
  have g := sT_tw h0 hn (i := i) h
  have t := sT_tn h0 hn (m := m) g.2
  unfold f_ro
  dsimp only
  rw [g.1, t.1]
  by_cases a : (f_tw T i).1 = true
  · rw [if_pos a, if_pos a]
    exact ⟨⟨rfl, sT_w (fun _ _ z => Or.inl z) (sT_or t.2)⟩, fun _ => sT_or t.2⟩
  · rw [if_neg a, if_neg a]
    exact ⟨⟨rfl, g.2⟩, fun z => by cases z⟩
theorem sT_rp (h0 : 0 < n) (hn : n < 2 ^ 31) {k i m : Nat} {c : Int32} (h : sT n E T T') : sR n E (f_rp T k i c m) (f_rp T' k i c m) ∧ ((f_rp T k i c m).1 = true → sT n (fun a b => E a b ∨ (a = k ∧ (b = 1 ∨ b = 2))) (f_rp T k i c m).2 (f_rp T' k i c m).2) := by
  obtain ⟨g, g1⟩ := sT_ro h0 hn (k := k) (i := i) (m := 2) h
  unfold f_rp
  dsimp only
  rw [g.1]
  by_cases a : (f_ro T k i 2).1 = true
  · rw [if_pos a, if_pos a]
    have s := sT_ts h0 hn (c := c) (g1 a)
    rw [s.1]
    by_cases b : (f_ts (f_ro T k i 2).2 c).1 = true
    · rw [if_pos b, if_pos b]
      have t := sT_tn h0 hn (m := m) s.2
      rw [t.1]
      have z := sT_or (k := k) (f := 2) (x := (f_tn (f_ts (f_ro T k i 2).2 c).2 m).1) t.2
      exact ⟨⟨rfl, sT_w (fun _ _ z => Or.inl (Or.inl z)) z⟩, fun _ => sT_w (fun a b y => y.elim (fun y => Or.inl (Or.inl y)) (fun y => y.2.elim (fun x => Or.inl (Or.inr ⟨y.1, x⟩)) (fun x => Or.inr ⟨y.1, x⟩))) z⟩
    · rw [if_neg b, if_neg b]
      exact ⟨⟨rfl, sT_w (fun _ _ z => Or.inl z) s.2⟩, fun z => by cases z⟩
  · rw [if_neg a, if_neg a]
    exact ⟨⟨rfl, g.2⟩, fun z => by cases z⟩
theorem sT_rs (h0 : 0 < n) (hn : n < 2 ^ 31) {k : Nat} (h : sT n E T T') : sR n E (f_rs T k) (f_rs T' k) ∧ ((f_rs T k).1 = true → sT n (fun a b => E a b ∨ (a = k ∧ 1 ≤ b ∧ b ≤ 4)) (f_rs T k).2 (f_rs T' k).2) := by
  obtain ⟨g, g1⟩ := sT_ro h0 hn (k := k) (i := 0) (m := 1) h
  unfold f_rs
  dsimp only
  rw [g.1]
  by_cases a : (f_ro T k 0 1).1 = false
  · rw [if_pos a, if_pos a]
    exact ⟨⟨rfl, g.2⟩, fun z => by cases z⟩
  · rw [if_neg a, if_neg a]
    have g2 := g1 (by simpa using a)
    have s := sT_ts h0 hn (c := 32) g2
    rw [s.1]
    by_cases b : (f_ts (f_ro T k 0 1).2 32).1 = false
    · rw [if_pos b, if_pos b]
      exact ⟨⟨rfl, sT_w (fun _ _ z => Or.inl z) s.2⟩, fun z => by cases z⟩
    · rw [if_neg b, if_neg b]
      have t := sT_tn h0 hn (m := 1) s.2
      rw [t.1]
      have p3 := sT_or (k := k) (f := 2) (x := (f_tn (f_ts (f_ro T k 0 1).2 32).2 1).1) t.2
      by_cases c : (f_tn (f_ts (f_ro T k 0 1).2 32).2 1).1 < 0
      · rw [if_pos c, if_pos c]
        exact ⟨⟨rfl, sT_w (fun _ _ z => Or.inl (Or.inl z)) p3⟩, fun z => by cases z⟩
      · rw [if_neg c, if_neg c]
        have s4 := sT_ts h0 hn (c := 32) p3
        generalize (pu (f_tn (f_ts (f_ro T k 0 1).2 32).2 1).2 (3 + k) 2 (f_tn (f_ts (f_ro T k 0 1).2 32).2 1).1) = T3 at s4 ⊢
        generalize (pu (f_tn (f_ts (f_ro T' k 0 1).2 32).2 1).2 (3 + k) 2 (f_tn (f_ts (f_ro T k 0 1).2 32).2 1).1) = T3' at s4 ⊢
        rw [s4.1]
        by_cases d : (f_ts T3 32).1 = false
        · rw [if_pos d, if_pos d]
          exact ⟨⟨rfl, sT_w (fun _ _ z => Or.inl (Or.inl z)) s4.2⟩, fun z => by cases z⟩
        · rw [if_neg d, if_neg d]
          have t5 := sT_tn h0 hn (m := 1) s4.2
          rw [t5.1]
          have p5 := sT_or (k := k) (f := 3) (x := (f_tn (f_ts T3 32).2 1).1) t5.2
          by_cases c2 : (f_tn (f_ts T3 32).2 1).1 < 0
          · rw [if_pos c2, if_pos c2]
            exact ⟨⟨rfl, sT_w (fun _ _ z => Or.inl (Or.inl (Or.inl z))) p5⟩, fun z => by cases z⟩
          · rw [if_neg c2, if_neg c2]
            have s6 := sT_ts h0 hn (c := 63) p5
            rw [s6.1]
            have p6 := sT_or (k := k) (f := 4) (x := bI (f_ts (pu (f_tn (f_ts T3 32).2 1).2 (3 + k) 3 (f_tn (f_ts T3 32).2 1).1) 63).1) s6.2
            refine ⟨⟨rfl, sT_w (fun _ _ z => Or.inl (Or.inl (Or.inl (Or.inl z)))) p6⟩, fun _ => sT_w (fun a b y => ?_) p6⟩
            rcases y with y | ⟨y, y1, y2⟩
            · exact Or.inl (Or.inl (Or.inl (Or.inl y)))
            · rcases (by omega : b = 1 ∨ b = 2 ∨ b = 3 ∨ b = 4) with z | z | z | z
              · exact Or.inl (Or.inl (Or.inl (Or.inr ⟨y, z⟩)))
              · exact Or.inl (Or.inl (Or.inr ⟨y, z⟩))
              · exact Or.inl (Or.inr ⟨y, z⟩)
              · exact Or.inr ⟨y, z⟩
def fsz (x : Int32) : Nat := if x = 115 then 4 else if x = 110 then 2 else if x = 104 ∨ x = 100 then 1 else 0
theorem sT_rd1 (h0 : 0 < n) (hn : n < 2 ^ 31) {k : Nat} {x : Int32} (h : sT n E T T') : sR n E (f_rd1 T k x) (f_rd1 T' k x) ∧ ((f_rd1 T k x).1 = true → sT n (fun a b => E a b ∨ (a = k ∧ 1 ≤ b ∧ b ≤ fsz x)) (f_rd1 T k x).2 (f_rd1 T' k x).2) := by
  unfold f_rd1 fsz
  have RO : ∀ {i m f : Nat}, f ≤ 1 → sR n E (f_ro T k i m) (f_ro T' k i m) ∧ ((f_ro T k i m).1 = true → sT n (fun a b => E a b ∨ (a = k ∧ 1 ≤ b ∧ b ≤ f)) (f_ro T k i m).2 (f_ro T' k i m).2) := fun {i m f} hf => by
    obtain ⟨g, g1⟩ := sT_ro h0 hn (k := k) (i := i) (m := m) h
    exact ⟨g, fun z => sT_w (fun a b y => y.imp id (fun y => ⟨y.1, by omega⟩)) (g1 z)⟩
  have RP : ∀ {i m f : Nat} {c : Int32}, f ≤ 2 → sR n E (f_rp T k i c m) (f_rp T' k i c m) ∧ ((f_rp T k i c m).1 = true → sT n (fun a b => E a b ∨ (a = k ∧ 1 ≤ b ∧ b ≤ f)) (f_rp T k i c m).2 (f_rp T' k i c m).2) := fun {i m f c} hf => by
    obtain ⟨g, g1⟩ := sT_rp h0 hn (k := k) (i := i) (m := m) (c := c) h
    exact ⟨g, fun z => sT_w (fun a b y => y.imp id (fun y => ⟨y.1, by omega⟩)) (g1 z)⟩
  have l1 : (if x = 104 ∨ x = 100 then 1 else 0) ≤ 1 := by split <;> omega
  by_cases c1 : x = 115
  · simp only [if_pos c1]; exact sT_rs h0 hn h
  · simp only [if_neg c1]
    by_cases c2 : x = 110
    · simp only [if_pos c2]; exact RP (by omega)
    · simp only [if_neg c2]
      by_cases c3 : x = 102
      · simp only [if_pos c3]; exact RP (by omega)
      · simp only [if_neg c3]
        by_cases c4 : x = 104
        · rw [if_pos c4, if_pos c4]; exact RO l1
        · rw [if_neg c4, if_neg c4]
          by_cases c5 : x = 99
          · simp only [if_pos c5]; exact RO l1
          · simp only [if_neg c5]
            by_cases c6 : x = 109
            · simp only [if_pos c6]; exact RP (by omega)
            · simp only [if_neg c6]
              by_cases c7 : x = 100
              · rw [if_pos c7, if_pos c7]; exact RO l1
              · rw [if_neg c7, if_neg c7]; exact ⟨⟨rfl, h⟩, fun z => by cases z⟩
theorem sT_rd (h0 : 0 < n) (hn : n < 2 ^ 31) {k : Nat} (h : sT n E T T') : sR n E (f_rd T k) (f_rd T' k) ∧ ((f_rd T k).1 = true → sT n (fun a b => E a b ∨ (a = k ∧ b ≤ fsz (T 1 (ta T)))) (f_rd T k).2 (f_rd T' k).2) := by
  have e := sT_le h
  unfold f_rd
  by_cases a : T 0 1 ≤ T 0 2
  · rw [if_pos a, if_pos (e.mpr a)]
    exact ⟨⟨rfl, h⟩, fun z => by cases z⟩
  · rw [if_neg a, if_neg (fun z => a (e.mp z)), sT_c h0 hn h a]
    obtain ⟨g, g1⟩ := sT_rd1 h0 hn (k := k) (x := T 1 (ta T)) (sT_or (k := k) (f := 0) (x := T 1 (ta T)) h)
    refine ⟨⟨g.1, sT_w (fun _ _ z => Or.inl z) g.2⟩, fun z => sT_w (fun a b y => ?_) (g1 z)⟩
    rcases y with y | ⟨y, y2⟩
    · exact Or.inl (Or.inl y)
    · by_cases b0 : b = 0
      · exact Or.inl (Or.inr ⟨y, b0⟩)
      · exact Or.inr ⟨y, by omega, y2⟩
def nx4 (T : tP) (k : Nat) : tP := pu (f_rd T k).2 0 4 ((f_rd T k).2 0 4 + 1)
def nxt (T : tP) (k : Nat) : tP := (f_ts (nx4 T k) 59).2
theorem sT_nx (h0 : 0 < n) (hn : n < 2 ^ 31) {k : Nat} (h : sT n E T T') (a : (f_rd T k).1 = true) : sT n (fun a b => E a b ∨ (a = k ∧ b ≤ fsz (T 1 (ta T)))) (nx4 T k) (nx4 T' k) := by
  have g := (sT_rd h0 hn (k := k) h).2 a
  unfold nx4
  rw [g.1.2.2.2.1]
  exact sT_4 g
theorem sT_no (h0 : 0 < n) (hn : n < 2 ^ 31) {k m : Nat} (h : sT n E T T') (a : (f_rd T k).1 = false) : (lp_ros (m + 1) k T').1 = (f_rd T k).2 0 2 := by
  have g := (sT_rd h0 hn (k := k) h).1
  rw [lp_ros]
  try dsimp only
  rw [if_pos (g.1.trans a)]
  exact g.2.1.2.2.1
theorem sT_on (h0 : 0 < n) (hn : n < 2 ^ 31) {k m : Nat} (h : sT n E T T') (a : (f_rd T k).1 = true) (b : ¬ nx4 T k 0 1 ≤ nx4 T k 0 2) (c : (f_ts (nx4 T k) 59).1 = true) : lp_ros (m + 1) k T' = lp_ros m (k + 1) (nxt T' k) ∧ sT n (fun a b => E a b ∨ (a = k ∧ b ≤ fsz (T 1 (ta T)))) (nxt T k) (nxt T' k) := by
  have g := (sT_rd h0 hn (k := k) h).1
  have g2 := sT_nx h0 hn h a
  have g3 := sT_ts h0 hn (c := 59) g2
  refine ⟨?_, g3.2⟩
  have a' := g.1.trans a
  have b' : ¬ nx4 T' k 0 1 ≤ nx4 T' k 0 2 := fun z => b ((sT_le g2).mp z)
  have c' := g3.1.trans c
  unfold nx4 at b' c'
  rw [lp_ros]
  try dsimp only
  rw [if_neg (by rw [a']; decide), if_neg b', if_neg (by rw [c']; decide)]
  rfl
theorem sT_end (h0 : 0 < n) (hn : n < 2 ^ 31) {k m : Nat} (h : sT n E T T') (a : (f_rd T k).1 = true) (b : nx4 T k 0 1 ≤ nx4 T k 0 2) : lp_ros (m + 1) k T' = (-1, nx4 T' k) ∧ sT n (fun a b => E a b ∨ (a = k ∧ b ≤ fsz (T 1 (ta T)))) (nx4 T k) (nx4 T' k) := by
  have g := (sT_rd h0 hn (k := k) h).1
  have g2 := sT_nx h0 hn h a
  refine ⟨?_, g2⟩
  have a' := g.1.trans a
  have b' : nx4 T' k 0 1 ≤ nx4 T' k 0 2 := (sT_le g2).mpr b
  unfold nx4 at b'
  rw [lp_ros]
  try dsimp only
  rw [if_neg (by rw [a']; decide), if_pos b']
  rfl
end
/-- the literal i as a text, nothing read -/
def xT (i : Nat) : tP := fun j k => if j = 0 then (if k = 1 then nI (lenS.getD i 0) else 0) else if j = 1 then litc i k else 0
theorem xT_s {i : Nat} {T : tP} (h1 : T 0 1 = nI (lenS.getD i 0)) (hc : ∀ k, k < lenS.getD i 0 → T 1 k = litc i k) : sT (lenS.getD i 0) (fun _ _ => False) (xT i) (pu (pu T 0 2 0) 0 4 0) := ⟨⟨rfl, by rw [pu_k (by omega), pu_k (by omega)]; exact h1, by rw [pu_k (by omega), pu_s]; rfl, by rw [pu_s]; rfl, fun k hk => by rw [pu_j (by omega), pu_j (by omega)]; exact hc k hk⟩, fun _ _ e => e.elim⟩
theorem tx12 {T : tP} (h1 : T 0 1 = nI (lenS.getD 12 0)) (hc : ∀ k, k < lenS.getD 12 0 → T 1 k = litc 12 k) : (f_ros T).1 = 0 := by
  rw [show (f_ros T).1 = (f_rd (xT 12) 0).2 0 2 from sT_no (m := 11) (by decide) (by decide) (xT_s h1 hc) (by decide +kernel)]
  decide +kernel
theorem tx13 {T : tP} (h1 : T 0 1 = nI (lenS.getD 13 0)) (hc : ∀ k, k < lenS.getD 13 0 → T 1 k = litc 13 k) : (f_ros T).1 = -1 ∧ (f_ros T).2 0 4 = 3 ∧ (f_ros T).2 3 0 = 100 ∧ (f_ros T).2 3 1 = 3 ∧ (f_ros T).2 4 0 = 104 ∧ (f_ros T).2 4 1 = 1 ∧ (f_ros T).2 5 0 = 100 ∧ (f_ros T).2 5 1 = 0 := by
  obtain ⟨e0, s0⟩ := sT_on (m := 11) (by decide) (by decide) (xT_s h1 hc) (by decide +kernel : (f_rd (xT 13) 0).1 = true) (by decide +kernel) (by decide +kernel)
  obtain ⟨e1, s1⟩ := sT_on (m := 10) (by decide) (by decide) s0 (by decide +kernel : (f_rd (nxt (xT 13) 0) 1).1 = true) (by decide +kernel) (by decide +kernel)
  obtain ⟨e2, s2⟩ := sT_end (m := 9) (by decide) (by decide) s1 (by decide +kernel : (f_rd (nxt (nxt (xT 13) 0) 1) 2).1 = true) (by decide +kernel)
  have e : f_ros T = (-1, nx4 (nxt (nxt (pu (pu T 0 2 0) 0 4 0) 0) 1) 2) := (e0.trans e1).trans e2
  rw [show xT 13 1 (ta (xT 13)) = 100 from by decide +kernel, show nxt (xT 13) 0 1 (ta (nxt (xT 13) 0)) = 104 from by decide +kernel, show nxt (nxt (xT 13) 0) 1 1 (ta (nxt (nxt (xT 13) 0) 1)) = 100 from by decide +kernel] at s2
  have f : nx4 (nxt (nxt (xT 13) 0) 1) 2 0 4 = 3 ∧ nx4 (nxt (nxt (xT 13) 0) 1) 2 3 0 = 100 ∧ nx4 (nxt (nxt (xT 13) 0) 1) 2 3 1 = 3 ∧ nx4 (nxt (nxt (xT 13) 0) 1) 2 4 0 = 104 ∧ nx4 (nxt (nxt (xT 13) 0) 1) 2 4 1 = 1 ∧ nx4 (nxt (nxt (xT 13) 0) 1) 2 5 0 = 100 ∧ nx4 (nxt (nxt (xT 13) 0) 1) 2 5 1 = 0 := by decide +kernel
  generalize nx4 (nxt (nxt (xT 13) 0) 1) 2 = Z at f s2
  generalize nx4 (nxt (nxt (pu (pu T 0 2 0) 0 4 0) 0) 1) 2 = B at e s2
  obtain ⟨f0, f1, f2, f3, f4, f5, f6⟩ := f
  have h100 : fsz 100 = 1 := by decide
  have h104 : fsz 104 = 1 := by decide
  rw [e]
  exact ⟨rfl, s2.1.2.2.2.1.trans f0, (s2.2 0 0 (Or.inl (Or.inl (Or.inr ⟨rfl, by omega⟩)))).trans f1, (s2.2 0 1 (Or.inl (Or.inl (Or.inr ⟨rfl, by omega⟩)))).trans f2, (s2.2 1 0 (Or.inl (Or.inr ⟨rfl, by omega⟩))).trans f3, (s2.2 1 1 (Or.inl (Or.inr ⟨rfl, by omega⟩))).trans f4, (s2.2 2 0 (Or.inr ⟨rfl, by omega⟩)).trans f5, (s2.2 2 1 (Or.inr ⟨rfl, by omega⟩)).trans f6⟩
theorem tx14 {T : tP} (h1 : T 0 1 = nI (lenS.getD 14 0)) (hc : ∀ k, k < lenS.getD 14 0 → T 1 k = litc 14 k) : (f_ros T).1 = -1 ∧ (f_ros T).2 0 4 = 2 ∧ ((f_ros T).2 3 0 = 115 ∧ (f_ros T).2 3 1 = 1 ∧ (f_ros T).2 3 2 = 0 ∧ (f_ros T).2 3 3 = 0 ∧ (f_ros T).2 3 4 = 0) ∧ (f_ros T).2 4 0 = 110 ∧ (f_ros T).2 4 1 = 0 ∧ (f_ros T).2 4 2 = 0 := by
  obtain ⟨e0, s0⟩ := sT_on (m := 11) (by decide) (by decide) (xT_s h1 hc) (by decide +kernel : (f_rd (xT 14) 0).1 = true) (by decide +kernel) (by decide +kernel)
  obtain ⟨e2, s2⟩ := sT_end (m := 10) (by decide) (by decide) s0 (by decide +kernel : (f_rd (nxt (xT 14) 0) 1).1 = true) (by decide +kernel)
  have e : f_ros T = (-1, nx4 (nxt (pu (pu T 0 2 0) 0 4 0) 0) 1) := e0.trans e2
  rw [show xT 14 1 (ta (xT 14)) = 115 from by decide +kernel, show nxt (xT 14) 0 1 (ta (nxt (xT 14) 0)) = 110 from by decide +kernel] at s2
  have f : nx4 (nxt (xT 14) 0) 1 0 4 = 2 ∧ nx4 (nxt (xT 14) 0) 1 3 0 = 115 ∧ nx4 (nxt (xT 14) 0) 1 3 1 = 1 ∧ nx4 (nxt (xT 14) 0) 1 3 2 = 0 ∧ nx4 (nxt (xT 14) 0) 1 3 3 = 0 ∧ nx4 (nxt (xT 14) 0) 1 3 4 = 0 ∧ nx4 (nxt (xT 14) 0) 1 4 0 = 110 ∧ nx4 (nxt (xT 14) 0) 1 4 1 = 0 ∧ nx4 (nxt (xT 14) 0) 1 4 2 = 0 := by decide +kernel
  generalize nx4 (nxt (xT 14) 0) 1 = Z at f s2
  generalize nx4 (nxt (pu (pu T 0 2 0) 0 4 0) 0) 1 = B at e s2
  obtain ⟨f0, f1, f2, f3, f4, f5, f6, f7, f8⟩ := f
  have h115 : fsz 115 = 4 := by decide
  have h110 : fsz 110 = 2 := by decide
  rw [e]
  exact ⟨rfl, s2.1.2.2.2.1.trans f0, ⟨(s2.2 0 0 (Or.inl (Or.inr ⟨rfl, by omega⟩))).trans f1, (s2.2 0 1 (Or.inl (Or.inr ⟨rfl, by omega⟩))).trans f2, (s2.2 0 2 (Or.inl (Or.inr ⟨rfl, by omega⟩))).trans f3, (s2.2 0 3 (Or.inl (Or.inr ⟨rfl, by omega⟩))).trans f4, (s2.2 0 4 (Or.inl (Or.inr ⟨rfl, by omega⟩))).trans f5⟩, (s2.2 1 0 (Or.inr ⟨rfl, by omega⟩)).trans f6, (s2.2 1 1 (Or.inr ⟨rfl, by omega⟩)).trans f7, (s2.2 1 2 (Or.inr ⟨rfl, by omega⟩)).trans f8⟩
-- what run makes of them
theorem f_is_ref {F : tP} {a b : Int32} : f_is (f_ref F a b) a b = true := by
  have h10 : f_ref F a b 0 10 = 1 := by unfold f_ref; rw [pu_k (by omega), pu_k (by omega), pu_s]
  have h11 : f_ref F a b 0 11 = a := by unfold f_ref; rw [pu_k (by omega), pu_s]
  have h12 : f_ref F a b 0 12 = b := by unfold f_ref; rw [pu_s]
  have e0 : f_reason (f_ref F a b) 0 = a := by unfold f_reason; rw [h10, if_neg (by decide), if_pos rfl, h11]
  have e1 : f_reason (f_ref F a b) 1 = b := by unfold f_reason; rw [h10, if_neg (by decide), if_neg (by decide), h12]
  unfold f_is
  rw [e0, e1]
  simp
theorem run_no {T X : tP} {n k : Nat} {F P : tP} {y : Int32} {F' P' : tP} (e : t_carry F P (T (3 + k)) = (y, F', P')) (hy : y < 0) : lp_run T X (n + 1) k F P = (-14, f_ref F' 6 (nI k), f_copy P' X) := by
  rw [lp_run, e, if_pos hy]
theorem run_on {T X : tP} {n k : Nat} {F P : tP} {y : Int32} {F' P' : tP} (e : t_carry F P (T (3 + k)) = (y, F', P')) (hy : ¬ y < 0) : lp_run T X (n + 1) k F P = lp_run T X n (k + 1) F' P' := by
  rw [lp_run, e, if_neg hy]
theorem ca_d {F P : tP} {w : Nat → Int32} (h : w 0 = 100) : t_carry F P w = t_days F P (w 1) := by
  unfold t_carry
  rw [h, if_neg (by decide), if_neg (by decide), if_neg (by decide), if_neg (by decide), if_neg (by decide), if_neg (by decide), if_pos rfl]
theorem ca_h {F P : tP} {w : Nat → Int32} (h : w 0 = 104) : t_carry F P w = t_hands F P (w 1) := by
  unfold t_carry
  rw [h, if_neg (by decide), if_neg (by decide), if_neg (by decide), if_pos rfl]
theorem ca_s {F P : tP} {w : Nat → Int32} (h : w 0 = 115) : t_carry F P w = t_step F P (w 1) (w 2) (w 3) (w 4) := by
  unfold t_carry
  rw [h, if_pos rfl]
theorem ca_n {F P : tP} {w : Nat → Int32} (h : w 0 = 110) : t_carry F P w = t_need F P (w 1) (w 2) := by
  unfold t_carry
  rw [h, if_neg (by decide), if_pos rfl]
theorem tr_no {M : tM} {F P : tP} {T : tP} (h : (f_ros T).1 = 0) : t_run (m_pl M 13 T) F P = (-1000, m_pl (m_pl M 13 T) 13 (r_T (m_pl M 13 T)), F, P) := by
  unfold t_run
  rw [m_pl_s, if_neg (by rw [h]; decide), h]
  rfl
theorem rT_k {M : tM} {T : tP} {j k : Nat} (h : j ≠ 0 ∨ k ≠ 1) : r_T (m_pl M 13 T) j k = (f_ros T).2 j k := by
  rw [r_T, m_pl_s]
  rcases h with h | h
  · exact pu_j h
  · by_cases e : j = 0
    · subst e; exact pu_k h
    · exact pu_j e
theorem tr_ys {M : tM} {F P : tP} {T : tP} {c : Nat} (h : (f_ros T).1 = -1) (h4 : (f_ros T).2 0 4 = nI c) (hc : c ≤ 12) : t_run (m_pl M 13 T) F P = ((lp_run (r_T (m_pl M 13 T)) (c_mark (m_pl (m_pl M 13 T) 13 (r_T (m_pl M 13 T))) F P (4 + km F)) c 0 F P).1, c_mark (m_pl (m_pl M 13 T) 13 (r_T (m_pl M 13 T))) F P, (lp_run (r_T (m_pl M 13 T)) (c_mark (m_pl (m_pl M 13 T) 13 (r_T (m_pl M 13 T))) F P (4 + km F)) c 0 F P).2.1, (lp_run (r_T (m_pl M 13 T)) (c_mark (m_pl (m_pl M 13 T) 13 (r_T (m_pl M 13 T))) F P (4 + km F)) c 0 F P).2.2) := by
  have e : oc (r_T (m_pl M 13 T)) = c := by rw [oc, rT_k (Or.inr (by omega)), h4]; exact nI_clamp (by omega)
  unfold t_run
  rw [show m_pl M 13 T 13 = T from m_pl_s, if_pos h, e]
theorem run13 {M : tM} {F P T : tP} (o : okP P) (h1 : T 0 1 = nI (lenS.getD 13 0)) (hc : ∀ k, k < lenS.getD 13 0 → T 1 k = litc 13 k) : (t_run (m_pl M 13 T) F P).1 = -14 ∧ f_is (t_run (m_pl M 13 T) F P).2.2.1 6 2 = true := by
  obtain ⟨a, b, c0, c1, d0, d1, e0, e1⟩ := tx13 h1 hc
  rw [tr_ys (c := 3) a b (by omega)]
  generalize c_mark (m_pl (m_pl M 13 T) 13 (r_T (m_pl M 13 T))) F P (4 + km F) = X
  have g0 : t_carry F P (r_T (m_pl M 13 T) (3 + 0)) = (lp_days 3 P 0 12 - P 0 12, F, lp_days 3 P) := by
    rw [ca_d (by rw [rT_k (Or.inl (by omega))]; exact c0), rT_k (Or.inl (by omega)), show (f_ros T).2 (3 + 0) 1 = 3 from c1]
    rfl
  have o1 : okP (lp_days 3 P) := kp_okP (kp_days 3 P) o
  have g1 : t_carry F (lp_days 3 P) (r_T (m_pl M 13 T) (3 + 1)) = (lp_days 3 P 0 8, F, pu (lp_days 3 P) 0 8 1) := by
    rw [ca_h (by rw [rT_k (Or.inl (by omega))]; exact d0), rT_k (Or.inl (by omega)), show (f_ros T).2 (3 + 1) 1 = 1 from d1]
    rfl
  have p1 : ¬ lp_days 3 P 0 8 < 0 := by
    obtain ⟨x, hx, ex⟩ := o1.2.2.2.1
    rw [ex]; exact nI_pos (by omega)
  have g2 : t_carry F (pu (lp_days 3 P) 0 8 1) (r_T (m_pl M 13 T) (3 + 2)) = (-12, F, pu (lp_days 3 P) 0 8 1) := by
    rw [ca_d (by rw [rT_k (Or.inl (by omega))]; exact e0), rT_k (Or.inl (by omega)), show (f_ros T).2 (3 + 2) 1 = 0 from e1]
    rfl
  rw [run_on g0 (days_pos o.1 (by omega)), run_on g1 p1, run_no g2 (by decide)]
  exact ⟨rfl, f_is_ref⟩
theorem run14 {M : tM} {F P T : tP} (o : okP P) (h1 : T 0 1 = nI (lenS.getD 14 0)) (hc : ∀ k, k < lenS.getD 14 0 → T 1 k = litc 14 k) : (t_run (m_pl M 13 T) F P).1 = -14 ∧ f_is (t_run (m_pl M 13 T) F P).2.2.1 6 (if nI (cn P) = 12 then 0 else 1) = true := by
  obtain ⟨a, b, ⟨c0, c1, c2, c3, c4⟩, d0, d1, d2⟩ := tx14 h1 hc
  rw [tr_ys (c := 2) a b (by omega)]
  generalize c_mark (m_pl (m_pl M 13 T) 13 (r_T (m_pl M 13 T))) F P (4 + km F) = X
  have g0 : t_carry F P (r_T (m_pl M 13 T) (3 + 0)) = t_step F P 1 0 0 0 := by
    rw [ca_s (by rw [rT_k (Or.inl (by omega))]; exact c0), rT_k (Or.inl (by omega)), rT_k (Or.inl (by omega)), rT_k (Or.inl (by omega)), rT_k (Or.inl (by omega)), show (f_ros T).2 (3 + 0) 1 = 1 from c1, show (f_ros T).2 (3 + 0) 2 = 0 from c2, show (f_ros T).2 (3 + 0) 3 = 0 from c3, show (f_ros T).2 (3 + 0) 4 = 0 from c4]
  have hcn := o.1.2
  rcases (by omega : cn P = 12 ∨ cn P < 12) with h | h
  · have g1 : t_step F P 1 0 0 0 = (-14, f_ref F 1 (P 0 1), P) := by
      unfold t_step
      rw [if_neg (by decide), if_neg (by rw [o.1.1, h]; decide)]
    rw [run_no (g0.trans g1) (by decide), if_pos (by rw [h]; rfl)]
    exact ⟨rfl, f_is_ref⟩
  · have g1 := t_step_y (F := F) (P := P) (d := 1) (m := 0) (b := 0) (a := 0) o.1.1 h (by decide) (by decide) (by decide)
    have e1 : f_add P 1 0 0 0 0 1 = nI (cn P + 1) := by rw [add_0.1, o.1.1]; exact nI_1 _
    have g2 : t_carry F (f_add P 1 0 0 0) (r_T (m_pl M 13 T) (3 + 1)) = (-14, f_ref F 2 0, f_add P 1 0 0 0) := by
      rw [ca_n (by rw [rT_k (Or.inl (by omega))]; exact d0), rT_k (Or.inl (by omega)), rT_k (Or.inl (by omega)), show (f_ros T).2 (3 + 1) 1 = 0 from d1, show (f_ros T).2 (3 + 1) 2 = 0 from d2]
      unfold t_need
      have hs : f_hasStep (f_add P 1 0 0 0) 0 = true := hs_t (a := 0) e1 (by omega) (by omega)
      rw [if_neg (by rw [hs]; decide), if_pos rfl]
    rw [run_on (g0.trans g1) (nI_pos (by omega)), run_no g2 (by decide), if_neg (by
      intro z
      have := congrArg Int32.toInt z
      rw [nI_toInt (by omega), show (12 : Int32).toInt = 12 from by decide] at this
      omega)]
    exact ⟨rfl, f_is_ref⟩
/-- the text that was appended to an empty one -/
theorem apT_v {c : Nat → Int32} {n : Nat} (hc : ∀ k, k < n → ∃ q, 32 ≤ q ∧ q ≤ 126 ∧ c k = nI q) (hn : n ≤ 60) : ∀ (n2 i : Nat) (T : tP), i + n2 = n → okTx T → tl T = i → apT c n2 i T 0 1 = nI n ∧ ∀ k, k < n → apT c n2 i T 1 k = (if k < i then T 1 k else c k) := by
  intro n2
  induction n2 with
  | zero => intro i T hi o ht; exact ⟨by rw [apT, o.1, ht]; congr 1, fun k hk => by rw [if_pos (by omega)]; rfl⟩
  | succ n2 ih =>
    intro i T hi o ht
    obtain ⟨q, q1, q2, q3⟩ := hc i (by omega)
    obtain ⟨a1, a2, a3⟩ := app_ok o (by omega) q1 q2
    rw [apT, q3, a1]
    obtain ⟨b1, b2⟩ := ih (i + 1) (f_as T (nI q)) (by omega) a2 (by omega)
    refine ⟨b1, fun k hk => ?_⟩
    have e1 : f_as T (nI q) 1 k = if k = i then nI q else T 1 k := by
      unfold f_as
      try dsimp only
      rw [pu_j (by omega), ht]
      by_cases e : k = i
      · rw [if_pos e, e]; exact pu_s
      · rw [if_neg e]; exact pu_k e
    rw [b2 k hk, e1]
    by_cases e : k = i
    · subst e; rw [if_pos (by omega), if_pos rfl, if_neg (by omega), q3]
    · by_cases e2 : k < i
      · rw [if_pos (by omega), if_neg e, if_pos e2]
      · rw [if_neg (by omega), if_neg e2]

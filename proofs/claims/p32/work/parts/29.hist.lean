/-! PART 29: the history of an object's plan in its marks; the law's first object -/
def hist (M : tM) (F P : tP) (k u w : Nat) (h : Int32) (c : Nat) (H : Nat → tP) : Prop := inv M F P k u w h ∧ c ≤ 8 ∧ ∀ j, j < c → same (H j) (M (4 + (k + 8 - j) % 9))
section
variable {M M' : tM} {F P F' P' : tP} {k u w w' c : Nat} {h : Int32} {H : Nat → tP}
theorem hist_t (I : hist M F P k u w h c H) (g : chg true M P k u w' h M' F' P') : hist M' F' P' ((k + 1) % 9) (min 8 (u + 1)) w' h (min 8 (c + 1)) (fun j => if j = 0 then P else H (j - 1)) := by
  obtain ⟨i, hc, hh⟩ := I
  have hk : k < 9 := i.2.2.2.2.2.1
  obtain ⟨g1, g2, g3, -⟩ := g
  obtain ⟨i2, s⟩ := g3 rfl
  refine ⟨i2, Nat.min_le_left _ _, fun j hj => ?_⟩
  dsimp only
  by_cases j0 : j = 0
  · subst j0
    rw [if_pos rfl, show ((k + 1) % 9 + 8 - 0) % 9 = k from by omega]
    exact s
  · rw [if_neg j0, g1 _ (Nat.mod_lt _ (by omega)) (by omega), show ((k + 1) % 9 + 8 - j) % 9 = (k + 8 - (j - 1)) % 9 from by omega]
    exact hh _ (by omega)
theorem hist_f (I : hist M F P k u w h c H) (g : chg false M P k u w' h M' F' P') : hist M' F' P' k u w' h c H ∧ same P P' := by
  obtain ⟨i, hc, hh⟩ := I
  have hk : k < 9 := i.2.2.2.2.2.1
  obtain ⟨g1, g2, -, g4⟩ := g
  obtain ⟨i2, s⟩ := g4 rfl
  refine ⟨⟨i2, hc, fun j hj => ?_⟩, s⟩
  rw [g1 _ (Nat.mod_lt _ (by omega)) (by omega)]
  exact hh _ hj
theorem hist_undo (I : hist M F P k u w h c H) (hu : 0 < u) : (t_undo M F P).1 = nI (u - 1) ∧ hist M (t_undo M F P).2.1 (t_undo M F P).2.2 ((k + 8) % 9) (u - 1) w h (c - 1) (fun j => H (j + 1)) ∧ (0 < c → same (H 0) (t_undo M F P).2.2) := by
  obtain ⟨i, hc, hh⟩ := I
  obtain ⟨⟨a1, a2⟩, a3, a4, a6, a7, a8, a9, a10, a11, a12⟩ := id i
  have ekm := inv_km i
  obtain ⟨⟨e1, e2⟩, e3⟩ := un_km (inv_okm i)
  rw [ekm] at e3
  have f6 : f_un1 F 0 6 = nI u := by rw [f_un1, pu_k (by omega)]; exact a11
  have hne : ¬ F 0 6 = 0 := by rw [a11]; exact nI_ne0 hu (by omega)
  have hm : f_un1 F 0 6 - 1 = nI (u - 1) := by
    rw [f6]
    obtain ⟨v, rfl⟩ : ∃ v, u = v + 1 := ⟨u - 1, by omega⟩
    exact nI_pred v
  have hM := a3 ((k + 8) % 9) (Nat.mod_lt _ (by omega))
  have e : t_undo M F P = (nI (u - 1), pu (f_un1 F) 0 6 (nI (u - 1)), f_copy P (M (4 + (k + 8) % 9))) := by
    unfold t_undo
    rw [if_neg hne, hm, e3]
  rw [e]
  refine ⟨rfl, ⟨⟨⟨okP_copy a1.2.1 hM.1, okW_copy a2 hM.2⟩, a3, a4, a6, a7, Nat.mod_lt _ (by omega), ?_, by omega, by dsimp only; exact pu_s, ?_⟩, by omega, fun j hj => ?_⟩, fun h0 => ?_⟩
  · dsimp only
    rw [pu_k (by omega), e1, e3]
  · dsimp only
    rw [pu_k (by omega), f_un1, pu_k (by omega)]
    exact a12
  · have := hh (j + 1) (by omega)
    rw [show ((k + 8) % 9 + 8 - j) % 9 = (k + 8 - (j + 1)) % 9 from by omega]
    exact this
  · exact sm_tr (hh 0 h0) sm_copy
theorem un_0 (h : F 0 6 = 0) : t_undo M F P = (-15, F, P) := if_pos h
theorem rst_0 (h : F 0 3 = 0) : t_restore M F P = (-15, F, P) := if_pos h
theorem rst_1 {S : tP} (I : inv M F P k u w 1) (sm : same S (M 3)) : (t_restore M F P).1 = S 0 7 ∧ inv M (t_restore M F P).2.1 (t_restore M F P).2.2 k 0 w 1 ∧ same S (t_restore M F P).2.2 := by
  obtain ⟨⟨a1, a2⟩, a3, a4, a6, a7, a8, a9, a10, a11, a12⟩ := I
  have e : t_restore M F P = (f_copy P (M 3) 0 7, pu F 0 6 0, f_copy P (M 3)) := by
    unfold t_restore
    rw [if_neg (by rw [a12]; decide)]
  rw [e]
  have s : same S (f_copy P (M 3)) := sm_tr sm sm_copy
  refine ⟨s.1 7 (by omega), ⟨⟨okP_copy a1.2.1 a4.1, okW_copy a2 a4.2⟩, a3, a4, a6, a7, a8, ?_, by omega, by dsimp only; exact pu_s, ?_⟩, s⟩
  · dsimp only
    rw [pu_k (by omega)]
    exact a9
  · dsimp only
    rw [pu_k (by omega)]
    exact a12
theorem save_i (I : inv M F P k u w h) : inv (m_pl M 3 (f_copy (M 3) P)) (pu F 0 3 1) P k u w 1 := by
  obtain ⟨⟨a1, a2⟩, a3, a4, a6, a7, a8, a9, a10, a11, a12⟩ := I
  exact ⟨⟨a1, a2⟩, fun j hj => by rw [m_pl_n (by omega)]; exact a3 j hj, by rw [m_pl_s]; exact ⟨okP_copy a4.1.2.1 a1, okW_copy a4.2 a2⟩, by rw [m_pl_n (by omega)]; exact a6, by rw [m_pl_n (by omega)]; exact a7, a8, by rw [pu_k (by omega)]; exact a9, a10, by rw [pu_k (by omega)]; exact a11, pu_s⟩
theorem inv_pl {r : Nat} {X : tP} (hr : r = 2 ∨ r = 15) (I : inv M F P k u w h) : inv (m_pl M r X) F P k u w h := by
  obtain ⟨a1, a3, a4, a6, a7, a8⟩ := I
  exact ⟨a1, fun j hj => by rw [m_pl_n (by omega)]; exact a3 j hj, by rw [m_pl_n (by omega)]; exact a4, by rw [m_pl_n (by omega)]; exact a6, by rw [m_pl_n (by omega)]; exact a7, a8⟩
end
theorem okP_0 : okP P_0 := ⟨⟨rfl, by decide⟩, fun _ _ => Or.inl (by unfold P_0; rw [if_neg (by omega)]), ⟨rfl, by decide⟩, ⟨2, by omega, rfl⟩, ⟨rfl, by decide⟩, fun k hk => absurd hk (by rw [show mn P_0 = 0 from rfl]; omega), ⟨rfl, by decide⟩⟩
theorem inv_0 : inv M_0 (M_0 0) P_0 0 0 0 0 := by
  have w0 : okW 0 P_0 := fun i => ⟨0, Nat.le_refl _, by
    unfold P_0
    rw [if_neg (by omega)]; rfl⟩
  have hp : ∀ r, 1 ≤ r ∧ r ≤ 12 → M_0 r = P_0 := fun r hr => if_pos hr
  exact ⟨⟨okP_0, w0⟩, fun j hj => by rw [hp _ (by omega)]; exact ⟨okP_0, w0⟩, by rw [hp _ (by omega)]; exact ⟨okP_0, w0⟩, ⟨⟨rfl, by decide, fun i _ => ⟨0, by omega, rfl⟩, fun k _ => Or.inl rfl⟩, rfl⟩, ⟨rfl, by decide⟩, by omega, rfl, by omega, rfl, rfl⟩
theorem mm_00 : M_0 = mm M_0 (M_0 0) P_0 := by
  unfold mm
  rw [m_pl_self]
  exact (m_pl_self (M := M_0) (r := 1)).symm
/-- after t changes -/
def eS (t : Nat) (M : tM) (F : tP) : Prop := hist M F (eP t) (t % 9) (min 8 t) (9 * t) 1 (min 8 t) (fun j => eP (t - 1 - j)) ∧ same P_0 (M 3)
/-- after t changes, some undone -/
def eU (t : Nat) (M : tM) (F P : tP) : Prop := hist M F P (t % 9) (t - 21) 300 1 (t - 21) (fun j => eP (t - 1 - j)) ∧ same (eP t) P ∧ same P_0 (M 3)
section
variable {y : MethodName} {cc : ByteArray} {nL : Nat} {ret : Option FieldType} {rm : Room} {cA : Nat → ClassId} {ad : tA} {vs : List Value} {ex : va_W} {M : tM} {F P : tP} {t : Nat}
theorem e_ok (E : eS t M F) {q : TX} {a : Int32} (g : goodX F (eP t) q) (n : goodN (9 * t) (eP t) q) (ea : q.1 = a) (ha : ¬ a < 0) (e2 : q.2.2 = eP (t + 1)) (C : Cj y cc nL ret rm 0 0 cA ad vs ex (mm M F (eP t)) (Qe (some (.int q.1)) ex (mm (c_mark M F (eP t)) (f_keep q.2.1 q.1) q.2.2))) : Cj y cc nL ret rm 0 0 cA ad vs ex (mm M F (eP t)) (fun v x m => v = some (.int a) ∧ x = ex ∧ ∃ (M' : tM) (F' : tP), m = mm M' F' (eP (t + 1)) ∧ eS (t + 1) M' F') := by
  refine cj_end (fun v x m hv => ?_) C
  obtain ⟨rfl, rfl, rfl⟩ := hv
  have G := chg_q E.1.1 g n
  rw [nn_y (by rw [ea]; exact ha)] at G
  have T := hist_t E.1 G
  rw [e2] at T ⊢
  refine ⟨by rw [ea], rfl, _, _, rfl, ?_, ?_⟩
  · rw [show (t % 9 + 1) % 9 = (t + 1) % 9 from by omega, show min 8 (min 8 t + 1) = min 8 (t + 1) from by omega] at T
    refine ⟨T.1, T.2.1, fun j hj => ?_⟩
    have z := T.2.2 j hj
    dsimp only at z ⊢
    by_cases j0 : j = 0
    · subst j0
      rw [if_pos rfl] at z
      exact z
    · rw [if_neg j0, show t - 1 - (j - 1) = t + 1 - 1 - j from by omega] at z
      exact z
  · rw [G.2.1]; exact E.2
theorem e_no (E : eS t M F) {q : TX} {a : Int32} {F2 : tP} (e : q = (a, F2, eP t)) (ha : a < 0) (hF : kF F F2) (C : Cj y cc nL ret rm 0 0 cA ad vs ex (mm M F (eP t)) (Qe (some (.int q.1)) ex (mm (c_mark M F (eP t)) (f_keep q.2.1 q.1) q.2.2))) : Cj y cc nL ret rm 0 0 cA ad vs ex (mm M F (eP t)) (fun v x m => v = some (.int a) ∧ x = ex ∧ ∃ M' : tM, m = mm M' F2 (eP t) ∧ eS t M' F2) := by
  subst e
  refine cj_end (fun v x m hv => ?_) C
  obtain ⟨rfl, rfl, rfl⟩ := hv
  obtain ⟨⟨I, hc, hh⟩, h3⟩ := E
  have e := inv_km I
  obtain ⟨oP, -, -, -, -, a8, a9, a10, a11, a12⟩ := id I
  refine ⟨rfl, rfl, c_mark M F (eP t), ?_, ⟨inv_mark I (Nat.le_refl _) oP a8 (hF.2.1.trans a9) a10 (hF.2.2.trans a11) (hF.1.trans a12), hc, fun j hj => ?_⟩, ?_⟩
  · dsimp only
    rw [keep_no ha]
  · rw [c_mark_n (by omega)]; exact hh j hj
  · rw [c_mark_n (by omega)]; exact h3
theorem eS_pl {r : Nat} {X : tP} (hr : r = 2 ∨ r = 15) (E : eS t M F) : eS t (m_pl M r X) F := by
  obtain ⟨⟨I, hc, hh⟩, h3⟩ := E
  exact ⟨⟨inv_pl hr I, hc, fun j hj => by rw [m_pl_n (by omega)]; exact hh j hj⟩, by rw [m_pl_n (by omega)]; exact h3⟩
theorem eS_T {T : tP} (o : okTx T ∧ T 0 1 = 0) (E : eS t M F) : eS t (m_pl M 13 T) F := by
  obtain ⟨⟨I, hc, hh⟩, h3⟩ := E
  exact ⟨⟨chg_T I o (Nat.le_refl _), hc, fun j hj => by rw [m_pl_n (by omega)]; exact hh j hj⟩, by rw [m_pl_n (by omega)]; exact h3⟩
theorem eS_o (E : eS t M F) : okm F ∧ okP (eP t) ∧ okW (9 * t) (eP t) := ⟨inv_okm E.1.1, E.1.1.1.1, E.1.1.1.2⟩
theorem eU_of (E : eS 29 M F) : eU 29 M F (eP 29) := ⟨⟨inv_w (by omega) E.1.1, by omega, fun j hj => E.1.2.2 j hj⟩, sm_rfl, E.2⟩
theorem eU_un (E : eU (t + 1) M F P) (ht : 21 ≤ t) : (t_undo M F P).1 = nI (t - 21) ∧ eU t M (t_undo M F P).2.1 (t_undo M F P).2.2 := by
  obtain ⟨h1, h2, h3⟩ := hist_undo E.1 (by omega)
  rw [show ((t + 1) % 9 + 8) % 9 = t % 9 from by omega, show t + 1 - 21 - 1 = t - 21 from by omega] at h2
  rw [show t + 1 - 21 - 1 = t - 21 from by omega] at h1
  refine ⟨h1, ⟨h2.1, h2.2.1, fun j hj => ?_⟩, h3 (by omega), E.2.2⟩
  have z := h2.2.2 j hj
  dsimp only at z ⊢
  rw [show t + 1 - 1 - (j + 1) = t - 1 - j from by omega] at z
  exact z
theorem u_ok (ht : 21 ≤ t) (E : eU (t + 1) M F P) : Cj yX6_undo cX6_undo 1 (some .int) (rmd 2) 0 0 cA ad [.ref (ad 0 0)] ex (mm M F P) (fun v x m => v = some (.int (nI (t - 21))) ∧ x = ex ∧ ∃ (F' P' : tP), m = mm M F' P' ∧ eU t M F' P') := by
  obtain ⟨h1, h2⟩ := eU_un E ht
  refine cj_end (fun v x m hv => ?_) (K_undo (inv_okm E.1.1) (fun k hk => ⟨(E.1.1.2.1 k hk).1.1, (E.1.1.2.1 k hk).1.2.1⟩))
  obtain ⟨rfl, rfl, rfl⟩ := hv
  exact ⟨by rw [h1], rfl, _, _, rfl, h2⟩
theorem no_undo {k u w : Nat} {h : Int32} (I : inv M F P k u w h) (h6 : F 0 6 = 0) : Cj yX6_undo cX6_undo 1 (some .int) (rmd 2) 0 0 cA ad [.ref (ad 0 0)] ex (mm M F P) (Qe (some (.int (-15))) ex (mm M F P)) := by
  have z := K_undo (cA := cA) (ad := ad) (ex := ex) (M := M) (F := F) (P := P) (inv_okm I) (fun k hk => ⟨(I.2.1 k hk).1.1, (I.2.1 k hk).1.2.1⟩)
  rw [un_0 h6] at z
  exact z
theorem no_restore {k u w : Nat} {h : Int32} (I : inv M F P k u w h) (h3 : F 0 3 = 0) : Cj yX6_restore cX6_restore 1 (some .int) (rmd 2) 0 0 cA ad [.ref (ad 0 0)] ex (mm M F P) (Qe (some (.int (-15))) ex (mm M F P)) := by
  have z := K_restore (cA := cA) (ad := ad) (ex := ex) (M := M) (F := F) (P := P) I.2.2.1.1.1 I.2.2.1.1.2.1
  rw [rst_0 h3] at z
  exact z
theorem r_ok {S : tP} {k u w : Nat} (I : inv M F P k u w 1) (sm : same S (M 3)) : Cj yX6_restore cX6_restore 1 (some .int) (rmd 2) 0 0 cA ad [.ref (ad 0 0)] ex (mm M F P) (fun v x m => v = some (.int (S 0 7)) ∧ x = ex ∧ ∃ (F' P' : tP), m = mm M F' P' ∧ inv M F' P' k 0 w 1 ∧ same S P') := by
  obtain ⟨h1, h2, h3⟩ := rst_1 I sm
  refine cj_end (fun v x m hv => ?_) (K_restore I.2.2.1.1.1 I.2.2.1.1.2.1)
  obtain ⟨rfl, rfl, rfl⟩ := hv
  exact ⟨by rw [h1], rfl, _, _, rfl, h2, h3⟩
end
theorem wi_9 : ∀ k, k < 12 → f_within (nI (k % 9 + 1)) 1 9 = true := by decide +kernel
theorem wi_10 : ∀ k, k < 4 → f_within (nI (10 * k + 1)) 1 999 = true := by decide +kernel
theorem eP_s (t : Nat) : eP (t + 1) = if t = 0 then pu (eP t) 0 8 3 else if t < 13 then f_add (eP t) (nI ((t - 1) % 9 + 1)) 0 0 0 else if t < 24 then pu (eP t) (4 + (t - 12)) 4 (eP t (4 + (t - 12)) 4 ||| 1 <<< (nI (t - 13) &&& 31)) else if t < 28 then f_addMs (eP t) (t - 24) (nI (10 * (t - 24) + 1)) else lp_days 30 (eP t) := by rw [eP]
theorem q_hands {F : tP} : t_hands F P_0 3 = (2, F, eP 1) := by
  unfold t_hands
  rw [if_neg (by decide)]
  rfl
theorem q_step {F : tP} {k : Nat} (hk : k < 12) : t_step F (eP (k + 1)) (nI (k % 9 + 1)) 0 0 (bI false) = (nI k, F, eP (k + 1 + 1)) := by
  rw [t_step_y (e_step k hk) hk (wi_9 k hk) (by decide) (by decide), eP_s (k + 1), if_neg (by omega), if_pos (by omega), show k + 1 - 1 = k from by omega]
  rfl
theorem q_need {F : tP} {j : Nat} (hj : j < 11) : t_need F (eP (13 + j)) (nI (j + 1)) (nI j) = (1, F, eP (13 + j + 1)) := by
  obtain ⟨h1, h2, h3, h4, h5, h6⟩ := e_need j hj
  unfold t_need
  rw [if_neg (by rw [h1, h2]; decide), if_neg (fun z => absurd (nI_inj (by omega) (by omega) z) (by omega)), nI_clamp (by omega), nI_clamp (by omega), if_neg (fun z => z h3), if_neg (fun z => z h4), if_neg (by rw [h5]; decide), h6, eP_s (13 + j), if_neg (by omega), if_neg (by omega), if_pos (by omega), show 13 + j - 12 = j + 1 from by omega, show 13 + j - 13 = j from by omega]
theorem q_mile {F : tP} {k : Nat} (hk : k < 4) : t_mile F (eP (24 + k)) (nI k) (nI (10 * k + 1)) = (nI k, F, eP (24 + k + 1)) := by
  obtain ⟨h1, h2, h3⟩ := e_mile k hk
  unfold t_mile
  rw [if_neg (by rw [h1]; decide), if_neg (by rw [wi_10 k hk]; decide), nI_clamp (by omega), if_neg (fun z => z h2), h3, if_pos (show nI k < 4 from nI_lt (a := k) (b := 4) hk (by omega)), eP_s (24 + k), if_neg (by omega), if_neg (by omega), if_neg (by omega), if_pos (by omega), show 24 + k - 24 = k from by omega]
theorem q_days30 {F : tP} : t_days F (eP 28) 30 = (7, F, eP 29) := by
  have h := e_days.1
  unfold t_days at h ⊢
  rw [if_neg (by decide)] at h ⊢
  rw [eP_s 28, if_neg (by omega), if_neg (by omega), if_neg (by omega), if_neg (by omega)]
  dsimp only at h
  rw [show Int32.toNatClampNeg 30 = 30 from by decide] at h ⊢
  rw [h]
theorem q_stepR {F : tP} : t_step F (eP 13) 1 0 0 (bI false) = (-14, f_ref F 1 12, eP 13) := by
  unfold t_step
  rw [if_neg (by decide), e_13, if_neg (by decide)]
theorem q_stepB {F : tP} : t_step F (eP 13) 0 0 0 (bI false) = (-12, F, eP 13) := by
  unfold t_step
  rw [if_pos (by decide)]
theorem q_mileR {F : tP} : t_mile F (eP 28) 5 5 = (-14, f_ref F 1 4, eP 28) := by
  obtain ⟨h1, h2, h3, -⟩ := e_28
  unfold t_mile
  rw [if_neg (by rw [h1]; decide), if_neg (by decide), show Int32.toNatClampNeg 5 = 5 from by decide, if_neg (fun z => z h2), h3, if_neg (by decide)]
theorem q_needR {F : tP} : t_need F (eP 28) 0 11 = (-14, f_ref F 4 11, eP 28) := by
  obtain ⟨-, -, -, h4, h5, h6, h7, h8⟩ := e_28
  unfold t_need
  rw [if_neg (by rw [h4, h5]; decide), if_neg (by decide), show Int32.toNatClampNeg 0 = 0 from by decide, show Int32.toNatClampNeg 11 = 11 from by decide, if_neg (fun z => z h6), if_neg (fun z => z h7), if_pos h8]
/-- a text that begins with what is no order -/
theorem ros_A {T : tP} {n : Nat} (h1 : T 0 1 = nI n) (h0 : 0 < n) (hn : n < 2 ^ 31) (hc : T 1 0 = 65) : (f_ros T).1 = 0 := by
  have e1 : pu (pu T 0 2 0) 0 4 0 0 1 = nI n := by rw [pu_k (by omega), pu_k (by omega)]; exact h1
  have e2 : pu (pu T 0 2 0) 0 4 0 0 2 = 0 := by rw [pu_k (by omega), pu_s]
  have e3 : pu (pu T 0 2 0) 0 4 0 1 0 = 65 := by rw [pu_j (by omega), pu_j (by omega)]; exact hc
  have e4 : ta (pu (pu T 0 2 0) 0 4 0) = 0 := by rw [ta, e2]; rfl
  unfold f_ros
  generalize pu (pu T 0 2 0) 0 4 0 = U at e1 e2 e3 e4 ⊢
  have er : f_rd U 0 = (false, pu U (3 + 0) 0 (U 1 (ta U))) := by
    unfold f_rd
    rw [if_neg (by rw [e1, e2]; exact nI_ge (a := 0) (b := n) h0 hn), e4, e3]
    unfold f_rd1
    rw [if_neg (by decide), if_neg (by decide), if_neg (by decide), if_neg (by decide), if_neg (by decide), if_neg (by decide), if_neg (by decide)]
  rw [lp_ros]
  try dsimp only
  rw [er, if_pos rfl]
  show pu U (3 + 0) 0 (U 1 (ta U)) 0 2 = 0
  rw [pu_j (by omega)]
  exact e2

/-! THE CLAIM OUT OF ONE WALK OF THE LAW'S BODY. Your part is whole_start (and what it stands on); all else here is the same for every law, but numbers. -/
def R_law : String := "TrousseauFlowLaw"
def lw_P (b : Addr) (xs : List Int32) (args : Array Value) (s : State) : Prop := args = #[.ref b] ∧ s.IntsAt b xs ∧ xs.length ≤ 260 ∧ (Jvm.Cond.and given_1 narrow_1).before args s = true
/-- what a walk over the start with the record d0 says of its end, said of the start itself -/
theorem lw_closed {s t : State} {o : Outcome} {d0 : Drawn} {L : List Loc} {k n : Nat} (hd0 : s.drawn.sameBut d0 lw_cs) (hv : ∃ v, o = .returned v) (hW : (s.setDrawn d0).WarmedH t.vm) (hs : (s.setDrawn d0).sameButNew ({ t with vm := s.vm } : State) L k n) : State.butDraws s t lw_cs (fun t1 => Framed s o t1 L k n) := by
  have h2 : t.drawn = d0 := congrArg State.drawn hs.1
  refine ⟨⟨hv, hW, State.sameButNew.setDrawn hs s.drawn⟩, ?_, by decide⟩
  rw [h2]
  exact hd0
def lw_Q (_ : Array Value) (s : State) (o : Outcome) (t : State) : Prop := o = .returned (some (.int 1)) ∧ State.butDraws s t lw_cs (fun t1 => Framed s o t1 [] 600000 7302250)
def lw_Z (below : List Frame) (a : Array Value) (s : State) : State → Prop := fun t => ∃ o, t.status = .running ∧ Ended t below o ∧ lw_Q a s o t
/-- the law's own end, with 1 on the stack, nothing written that was there before, its room as the claim has it; d0: the record of draws at this point (at the entry s.drawn: begin with 'refine W.base ?_' and 'have hd0 := Drawn.sameBut.refl s.drawn lw_cs') -/
theorem lw_ret {p : Program} {l : Launch} {e : Env} {s : State} {m : MethodId} {below : List Frame} {meth : Method} {c : Code} {b : Nat} {d0 : Drawn} (hd0 : s.drawn.sameBut d0 lw_cs) (hx : p.tables.exec = Jvm.exec) (hb : c.code = code) (hr : meth.sig.returnType = ret) (hlocks : meth.locks = false) {pc : Nat} {H : Heap} {ls : Array Slot} (hdg : decode code pc = .ok (.ireturn, 1)) : W p l e room_1 (s.setDrawn d0) m #[Value.ref b] below meth c H [] 600000 7302250 (lw_Z below #[Value.ref b] s) (F0 m pc ls [.int 1]) := by
  intro T hT X
  obtain ⟨fs, hret, hrun, hended, hW, hframe⟩ := X.leave (v := some (.int 1)) (hlocks := hlocks) (fun h => by rw [hr] at h; cases h)
  have hmeth' : T.vm.method? m = some meth := X.method'
  refine ⟨T.setFrames fs, ?_, .returned (some (.int 1)), hrun, hended, rfl, lw_closed hd0 ⟨_, rfl⟩ hW hframe⟩
  jvm_step X.here [X.here.top, hx, hb, hdg, hmeth', hr, ret, narrow_b1]
  (try refine ⟨rfl, ?_⟩); (try refine ⟨rfl, ?_⟩)
  first | (intro acts; rw [hret _ acts rfl rfl rfl]) | rw [hret _ _ rfl rfl rfl]
  exact Steps.refl _
/-- what holds at the law's entry: the machine, the code, the tables' words (any of lw_tbl by 'hts w (by decide +kernel)'), the script of L ints xs at the cell b, what the Statement gives of the start (any of its parts by flat_of_before) -/
def lw_At (p : Program) (s : State) (m : MethodId) (meth : Method) (c : Code) (b L : Nat) (xs : Nat → Int32) : Prop :=
  p.tables.exec = Jvm.exec ∧ c.code = code ∧ meth.sig.returnType = ret ∧ c.maxLocals = 11 ∧ s.vm.findClass R_law = some m.cls ∧ (∀ w ∈ lw_tbl, w.before #[Value.ref b] s = true) ∧ va_X b L xs s s.heap ∧ b < s.heap.size ∧ meth.locks = false ∧ (Jvm.Cond.and given_1 narrow_1).before #[Value.ref b] s = true
-- ===== YOUR PART BEGINS =====
set_option maxHeartbeats 4000000 in
theorem whole_start {p : Program} {e : Env} {s : State} {m : MethodId} {below : List Frame} {meth : Method} {c : Code} (l : Launch) (hflags : l.flags = flags0) {b L : Nat} {xs : Nat → Int32} (hL : L ≤ 260) (C0 : lw_At p s m meth c b L xs) : W p l e room_1 s m #[Value.ref b] below meth c s.heap [] 0 0 (lw_Z below #[Value.ref b] s) (entryFrame m ([Value.ref b] : List Value).toArray 11) := by
  obtain ⟨hx, hb, hr, hml, hown, hts, hX, hbl, hlocks, hgv⟩ := id C0
  have hA : ∀ a : Nat, a < s.heap.size → ¬ (fun q : Nat => s.heap.size ≤ q) a := fun a h => Nat.not_le.mpr h
  have hs := flat_of_before _ hgv
  have hts2 : ∀ w ∈ wsL_law, w.before #[Value.ref b] s = true := fun w hw => hts w (wsL_law_in w hw)
  obtain ⟨f1, f2, f3, f4, f5, f6, f7, f8⟩ := st_few
  obtain ⟨t1, t2, t3, t4, t5, t6, t7⟩ := st_T
  obtain ⟨a1, a2, a3, a4, a5, a6, a7, a8⟩ := st_A
  obtain ⟨adK, adV, hVS, hev⟩ := vk_Sof (args := #[Value.ref b]) (s := s) (N := 15) (tm := st_t) (len := lenS) (byt := bytS) (A := fun q : Nat => s.heap.size ≤ q) (fun i _ => by have := lenS_le i; omega) (fun i hi => hs _ (st_ex i hi)) (fun i hi => hs _ (st_co i hi)) (fun i hi => hs _ (st_ar i hi)) (fun i hi => hs _ (st_le i hi)) (fun i hi j hj => hs _ (st_el i hi j hj)) (fun i j hi hj h => (st_ne i j hi hj h).imp (hs _) (hs _)) hA
  obtain ⟨d1, he1, hT1⟩ := va_Tof (args := #[Value.ref b]) (s := s) (tm := .static "java/lang/Integer" "DigitOnes" "[B") (ty := .byte) (N := 100) (f := fun j => .int (nI (48 + j % 10))) (A := fun q : Nat => s.heap.size ≤ q) (by decide) (hs _ f3) (va_eqt (hs _ f4)) (fun j hj => va_eqt (hs _ (List.mem_of_getElem? (st_ones j hj)))) hA
  obtain ⟨d2, he2, hT2⟩ := va_Tof (args := #[Value.ref b]) (s := s) (tm := .static "java/lang/Integer" "DigitTens" "[B") (ty := .byte) (N := 100) (f := fun j => .int (nI (48 + j / 10))) (A := fun q : Nat => s.heap.size ≤ q) (by decide) (hs _ f5) (va_eqt (hs _ f6)) (fun j hj => va_eqt (hs _ (List.mem_of_getElem? (st_tens j hj)))) hA
  obtain ⟨ad, e16, e17, e180, e181, e182, e183, e19⟩ : ∃ ad : tA, ad 16 = adK ∧ ad 17 = adV ∧ ad 18 0 = d1 ∧ ad 18 1 = d2 ∧ ad 18 2 = L ∧ ad 18 3 = b ∧ ∀ j, Int32.ofNat (ad 19 j) = xs j := ⟨fun r => if r = 16 then adK else if r = 17 then adV else if r = 18 then (fun j => if j = 0 then d1 else if j = 1 then d2 else if j = 2 then L else b) else (fun j => (xs j).toBitVec.toNat), rfl, rfl, rfl, rfl, rfl, rfl, fun j => i32_n _⟩
  have hR : ∀ q ∈ jsR, (Term.string q.1 q.2.1).eval #[Value.ref b] s none [] s = some (.ref (adK q.2.2.2)) := by
    intro q hq
    simp only [jsR, List.mem_cons, List.not_mem_nil, or_false] at hq
    rcases hq with rfl | rfl | rfl | rfl | rfl | rfl | rfl | rfl | rfl | rfl | rfl | rfl | rfl | rfl | rfl | rfl | rfl
    · exact hev 0 (by omega)
    · exact hev 1 (by omega)
    · exact hev 2 (by omega)
    · exact hev 3 (by omega)
    · exact hev 4 (by omega)
    · exact hev 5 (by omega)
    · exact hev 6 (by omega)
    · exact hev 7 (by omega)
    · exact va_eqR (hs _ f7) (hev 0 (by omega))
    · exact hev 8 (by omega)
    · exact hev 9 (by omega)
    · exact va_eqR (hs _ f8) (hev 2 (by omega))
    · exact hev 10 (by omega)
    · exact hev 11 (by omega)
    · exact hev 12 (by omega)
    · exact hev 13 (by omega)
    · exact hev 14 (by omega)
  have hJ : JZ ad (fun q : Nat => s.heap.size ≤ q) s s.heap := by
    unfold JZ
    rw [e16, e17, e180, e181, e182, e183]
    refine ⟨hVS, fun q hq => vk_R.of (hts _ (st_R q hq)) (hR q hq), va_Zof (hts _ t1) (hts _ t5) (va_eqi (hs _ f1)) hA, ?_, va_Zref (hts _ t3) (hts _ t7) he1 hA, va_Zref (hts _ t4) (hts _ t7) he2 hA, hT1, hT2, ?_, hL, va_AO.of (hts _ a1), va_AO.of (hts _ a2), va_AO.of (hts _ a3), va_Nw.of rfl (hts _ a8), fun x hx => ?_, fun q hq => va_Nw.of rfl (hts _ (st_N q hq))⟩
    · rcases va_Zqof (hts _ t2) (hts _ t6) (hs _ f2) hA with z | ⟨t, z⟩
      · exact ⟨.null, rfl, z⟩
      · exact ⟨.ref t, rfl, z⟩
    · obtain ⟨scr, x1, x2, x3, x4, x5⟩ := hX
      refine ⟨scr, x1, x2, x3, Nat.le_of_eq x4.symm, by rw [x4], fun j hj => ?_, hA b hbl⟩
      show scr.slots[j]? = some (.int (Int32.ofNat (ad 19 j)))
      rw [e19 j]
      exact x5 j hj
    · obtain ⟨p1, p2, p3⟩ := st_P x hx
      exact va_Nw.of rfl (sel_priv (z := ⟨"java/lang/AbstractStringBuilder", "isLatin1", "()Z"⟩) p3 (by rw [p3]; decide) (hts _ st_S) (hts _ p1) (hts _ p2))
  obtain ⟨k0, i0, hk0⟩ := u_known (C := RJ0) (T := TJ0) (N := 4) (n := 4) hts2 inlJ0 (hts _ (st_I _ (List.mem_of_getElem? (i := 0) rfl)))
  obtain ⟨k1, i1, hk1⟩ := u_known (C := RJ4) (T := TJ4) (N := 4) (n := 4) hts2 inlJ4 (hts _ (st_I _ (List.mem_of_getElem? (i := 1) rfl)))
  obtain ⟨k2, i2, hk2⟩ := u_known (C := RX0) (T := TX0) (N := 2) (n := 2) hts2 inlX0 (hts _ (st_I _ (List.mem_of_getElem? (i := 2) rfl)))
  obtain ⟨k3, i3, hk3⟩ := u_known (C := RX1) (T := TX1) (N := 2) (n := 2) hts2 inlX1 (hts _ (st_I _ (List.mem_of_getElem? (i := 3) rfl)))
  obtain ⟨k4, i4, hk4⟩ := u_known (C := RX2) (T := TX2) (N := 5) (n := 5) hts2 inlX2 (hts _ (st_I _ (List.mem_of_getElem? (i := 4) rfl)))
  obtain ⟨k5, i5, hk5⟩ := u_known (C := RX3) (T := TX3) (N := 5) (n := 5) hts2 inlX3 (hts _ (st_I _ (List.mem_of_getElem? (i := 5) rfl)))
  obtain ⟨k6, i6, hk6⟩ := u_known (C := RX4) (T := TX4) (N := 14) (n := 14) hts2 inlX4 (hts _ (st_I _ (List.mem_of_getElem? (i := 6) rfl)))
  obtain ⟨k7, i7, hk7⟩ := u_known (C := RX5) (T := TX5) (N := 11) (n := 11) hts2 inlX5 (hts _ (st_I _ (List.mem_of_getElem? (i := 7) rfl)))
  obtain ⟨k8, i8, hk8⟩ := u_known (C := RX6) (T := TX6) (N := 13) (n := 13) hts2 inlX6 (hts _ (st_I _ (List.mem_of_getElem? (i := 8) rfl)))
  obtain ⟨dC, dI, hKc⟩ : ∃ (dC : Nat → ClassId) (dI : Nat → Nat → Nat), ∀ (k : Nat) (q : vw_C), vwCl[k]? = some q → u_Kn s q.1 q.2.1 q.2.2 (dC k) (dI k) := by
    refine ⟨fun k => if k = 0 then k0 else if k = 1 then k1 else if k = 2 then k2 else if k = 3 then k3 else if k = 4 then k4 else if k = 5 then k5 else if k = 6 then k6 else if k = 7 then k7 else k8, fun k => if k = 0 then i0 else if k = 1 then i1 else if k = 2 then i2 else if k = 3 then i3 else if k = 4 then i4 else if k = 5 then i5 else if k = 6 then i6 else if k = 7 then i7 else i8, ?_⟩
    intro k q hq
    rcases (by omega : k = 0 ∨ k = 1 ∨ k = 2 ∨ k = 3 ∨ k = 4 ∨ k = 5 ∨ k = 6 ∨ k = 7 ∨ k = 8 ∨ 9 ≤ k) with rfl | rfl | rfl | rfl | rfl | rfl | rfl | rfl | rfl | z
    · cases hq; exact hk0
    · cases hq; exact hk1
    · cases hq; exact hk2
    · cases hq; exact hk3
    · cases hq; exact hk4
    · cases hq; exact hk5
    · cases hq; exact hk6
    · cases hq; exact hk7
    · cases hq; exact hk8
    · rw [List.getElem?_eq_none (show vwCl.length ≤ k from z)] at hq
      cases hq
  obtain ⟨c0, u0, v0⟩ := arr_p (ty := .int) (hts _ a4)
  obtain ⟨c1, u1, v1⟩ := arr_p (ty := .char) (hts _ a5)
  obtain ⟨c2, u2, v2⟩ := arr_o (C := RX5) (hts _ a3)
  obtain ⟨c3, u3, v3⟩ := arr_o (C := RX2) (hts _ a1)
  obtain ⟨c4, u4, v4⟩ := arr_o (C := RX4) (hts _ a2)
  obtain ⟨c5, u5, v5⟩ := arr_p (ty := .byte) (hts _ a6)
  obtain ⟨c6, u6, v6⟩ := arr_p (ty := .long) (hts _ a7)
  obtain ⟨cA, hK⟩ : ∃ cA : Nat → ClassId, va_K (dC, dI) vwCl (tysT cA ++ []) s := by
    refine ⟨fun k => if k = 0 then c0 else if k = 1 then c1 else if k = 2 then c2 else if k = 3 then c3 else if k = 4 then c4 else if k = 5 then c5 else c6, hKc, fun k q hk => ?_⟩
    rw [List.append_nil] at hk
    rcases (by omega : k = 0 ∨ k = 1 ∨ k = 2 ∨ k = 3 ∨ k = 4 ∨ k = 5 ∨ k = 6 ∨ 7 ≤ k) with rfl | rfl | rfl | rfl | rfl | rfl | rfl | z
    · cases hk; exact ⟨u0, v0⟩
    · cases hk; exact ⟨u1, v1⟩
    · cases hk; exact ⟨u2, v2⟩
    · cases hk; exact ⟨u3, v3⟩
    · cases hk; exact ⟨u4, v4⟩
    · cases hk; exact ⟨u5, v5⟩
    · cases hk; exact ⟨u6, v6⟩
    · rw [List.getElem?_eq_none (by exact z)] at hk
      cases hk
  have hP : va_P (dC, dI) vwCl [] s.heap := fun k q h => by simp at h
  have hD : va_D (fun q : Nat => s.heap.size ≤ q) [] := ⟨fun i j p q h => by simp at h, fun k q h => by simp at h⟩
  have hl := lv_entry ([.ref b]) (n := 11) (Nat.le_of_ble_eq_true rfl)
  rw [lg_entry_eq]
  generalize (lg_sl ([.ref b]) ++ List.replicate (11 - (lg_sl ([.ref b])).length) Slot.unset).toArray = ls at hl ⊢
  have hl2 : lv_has ls 11 (enL 0 [some (.ref (ad 18 3)), none, none, none, none, none, none, none, none, none, none]) := by rw [e183]; exact hl
  refine W.base ?_
  intro T hT X
  have k := L_all (cA := cA) (ad := ad) (by rw [e182]; exact hL) p l e s m #[Value.ref b] below meth c (dC, dI) [] (fun q : Nat => s.heap.size ≤ q) (fun _ _ o _ => o = .returned (some (.int 1))) (fun q : Nat => s.heap.size ≤ q) s.drawn ⟨hx, hb, hml, hown, hts2, hr, hlocks, hK, fun _ h => h, fun _ h => h, hJ⟩ (fun h => by cases h) (fun v w' t d1 hQ _ _ _ _ _ => by rw [hQ]) (Drawn.sameBut.refl _ _) s.heap [] ls hP hD va_S.rf hl2 T hT X
  obtain ⟨t, st, d, hd, o, h1, h2, h3, Lo, ⟨h4, h5, h6⟩, h7⟩ := k
  exact ⟨t, st, o, h1, h2, h3, lw_closed hd h4 h5 (sbn_forget h6 h7)⟩
-- ===== YOUR PART ENDS =====
set_option maxHeartbeats 4000000 in
theorem lw_walk (l : Launch) (hflags : l.flags = flags0) (b : Addr) (xs : List Int32) : MetFree l x (headSpec (Jvm.Cond.code x code maxLocals ret :: tables_1) room_1) (lw_P b xs) (fun _ _ _ _ _ => True) lw_Q := by
  refine MetFree.of_bodyS (code := code) (maxLocals := maxLocals) (ret := ret) (by decide) ?_ ?_
  · intro args s m h hn
    obtain ⟨meth, c, h1, h2, h3, h4, h5, h6, -, -⟩ := Cond.code_spec hn (atoms_spec (ws := Jvm.Cond.code x code maxLocals ret :: tables_1) h _ List.mem_cons_self)
    exact ⟨meth, c, h1, h2, h3, h4, h5, h6⟩
  · intro p e s m args below meth c s₁ B hml0 hP _
    obtain ⟨rfl, hx, hbd, hgv⟩ := hP
    obtain ⟨scr, harrAt, hlist, hof, hsmall⟩ := hx
    obtain ⟨hcb, hkn, -, -⟩ := State.arrayAt?_spec harrAt
    have hown : s.vm.findClass R_law = some m.cls := findClass_of_methodNamed B.named
    have hts0 : ∀ c ∈ (Jvm.Cond.code x code maxLocals ret :: tables_1), c.before #[Value.ref b] s = true := atoms_spec (ws := Jvm.Cond.code x code maxLocals ret :: tables_1) B.pre
    have hts : ∀ w ∈ lw_tbl, w.before #[Value.ref b] s = true := k2_hts_sels lw_privs (fun w hw => hts0 w (List.mem_cons_of_mem _ hw)) lw_privs_ok
    have hml : c.maxLocals = 11 := B.maxLocals_eq (hts0 _ List.mem_cons_self)
    have X₀ : Stand p l e room_1 s m #[Value.ref b] below meth c s₁ [] 0 0 := Stand.of_body B
    have hh0 : s₁.heap = s.heap := by rw [B.state]; rfl
    have hsz : scr.slots.size = xs.length := by rw [← Array.length_toList, hlist, List.length_map]
    have hval : ∀ j : Nat, j < xs.length → scr.slots[j]? = some (.int (xs.getD j 0)) := fun j hj => by
      rw [← Array.getElem?_toList, hlist]
      simp [hj]
    have hbl : b < s.heap.size := (Array.getElem?_eq_some_iff.mp hcb).1
    have hX : va_X b xs.length (fun j => xs.getD j 0) s s.heap := ⟨scr, hcb, hof, hkn, hsz, hval⟩
    have K : W p l e room_1 s m #[Value.ref b] below meth c s₁.heap [] 0 0 (lw_Z below #[Value.ref b] s) (entryFrame m ([Value.ref b] : List Value).toArray 11) := by
      rw [hh0]
      exact whole_start l hflags hbd ⟨B.exec, B.bytes, B.returns, hml, hown, hts, hX, hbl, B.notSynchronized, hgv⟩
    obtain ⟨t, a1, o, b1, b2, b3⟩ := K s₁ rfl X₀
    exact ⟨t, o, a1, b1, b2, b3⟩
theorem lw_pre_spec {args : Array Value} {s : State} (h : (Jvm.Cond.and given_1 narrow_1).before args s = true) (hr : rest_1_c.before args s = true) : ∃ (b : Addr) (xs : List Int32), lw_P b xs args s := by
  have hs := flat_of_before _ h
  have hq := flat_of_before _ hr
  have hc : (Cond.count 1).before args s = true := hs _ (by decide +kernel)
  have harr : (Cond.arrayOf (.arg 0) .int).before args s = true := hs _ (by decide +kernel)
  have hle : (Cond.le (.length (.arg 0)) (.int 260)).before args s = true := hs _ (by decide +kernel)
  have hlen : (Cond.isInt (.length (.arg 0))).before args s = true := hq _ (by decide +kernel)
  have hall : (Cond.all (.arg 0) (.isInt (.elem (.arg 0) (.index 0)))).before args s = true := hq _ (by decide +kernel)
  obtain ⟨b, xs, hb, hx⟩ := State.ints_of_pre rfl harr hlen hall
  have hsm : xs.length < 2 ^ 31 := hx.choose_spec.2.2.2
  have hev : (Term.length (.arg 0)).eval args s none [] s = some (.int xs.length.toInt32) := hx.length_eval hb
  have hv := Cond.le_ints hev (show (Term.int 260).eval args s none [] s = some (.int 260) from rfl)
  have hd : xs.length.toInt32 ≤ 260 := by
    simpa [Cond.before, Cond.holds, hv] using hle
  have hN : xs.length ≤ 260 := (Int32.ofNat_le_ofNat hsm (by decide)).mp (show Int32.ofNat xs.length ≤ Int32.ofNat 260 from hd)
  exact ⟨b, xs, Cond.one_arg hc (show args[0]? = some (.ref b) from hb), hx, hN, h⟩
theorem lw_comes (l : Launch) (hflags : l.flags = flags0) : Comes l x (Jvm.Cond.code x code maxLocals ret :: tables_1) room_1 (fun tb e args s => Calls_1 tb e args s ∧ rest_1 tb e args s ∧ Pre_1 tb e args s)
    (fun _ _ args s o t => lw_Q args s o t) := by
  intro p e ha hc hk s m args below hf hfit hheap happ hpre
  obtain ⟨b, xs, hP⟩ := lw_pre_spec hpre.2.2 hpre.2.1
  obtain ⟨k, o, h1, h2, h3, hQ⟩ := lw_walk l hflags b xs p e ha hc hk s m args below hf ((Spec.applies_iff_loose hf).mp happ).1 hP trivial
  exact ⟨k, o, h1, h2, h3, hQ⟩
theorem lw_frame {s t : State} {o : Outcome} {args : Array Value} (h : State.butDraws s t lw_cs (fun t1 => Framed s o t1 [] 600000 7302250)) :
    State.butDraws s t [Jvm.Choice.named "NaN.bits"] (fun t1 => Framed s o t1 (fieldLocs frame_1_writes args s ++ arrayLocs frame_1_arrays args s ++ staticLocs frame_1_statics s) 600000 7302250) := h
theorem lw_limb (L : Cond) (hL : ∀ (args : Array Value) (s t : State), L.after args s (.returned (some (.int 1))) t = true) :
    ArmFor flags0 classFile x code maxLocals ret World_1 tables_1 room_1 Calls_1 rest_1 Pre_1
      (fun tb e a s o t => postC L tb e a s o t ∧ State.butDraws s t [Jvm.Choice.named "NaN.bits"] (fun t1 => Framed s o t1 (fieldLocs frame_1_writes a s ++ arrayLocs frame_1_arrays a s ++ staticLocs frame_1_statics s) 600000 7302250)) := by
  intro l hflags _ _ p e ha hc hk s m args below hf hfit hheap happ hpre
  obtain ⟨k, o, h1, h2, h3, rfl, hF⟩ := lw_comes l hflags p e ha hc hk s m args below hf hfit hheap happ hpre
  exact ⟨k, _, h1, h2, h3, hL args s _, lw_frame hF⟩
theorem i_vc : Claimed_1_1 ∧ Claimed_1_2 := ⟨lw_limb limb_1_1 (fun args s t => by simp [limb_1_1, Cond.after, Cond.holds, Cond.value]), lw_limb limb_1_2 (fun args s t => Cond.after_iff.mpr (by
  first | (rw [show limb_1_2 = Cond.eq .result (.int 1) from rfl, Cond.eq_ints (x := 1) (y := 1) rfl rfl]; simp; done) | (simp [limb_1_2, Cond.value, Term.eval]; done)))⟩

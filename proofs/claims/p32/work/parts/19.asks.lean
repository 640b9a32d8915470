/-! PART 19: the law's at, some, is, refusedAt; asks -/
section
variable {cc : ByteArray} {own : String} {nL : Nat} {ret : Option FieldType} {rm : Room} {mc ms : Nat} {cA : Nat → ClassId} {ad : tA} {Q : Option Value → va_W → tM → Prop} {ex : va_W} {cells slots pc : Nat} {lv : List (Option Value)} {st : List Value} {M : tM}
/-- a call with up to 16 words left on the stack -/
theorem r_callV16 {idx n nL2 mc2 ms2 : Nat} {y : MethodName} {cc2 : ByteArray} {ret2 : Option FieldType} {rm2 : Room} {Q2 : Option Value → va_W → tM → Prop} {C : String} {b : Nat} {As rest : List Value} (hd : decode cc pc = .ok (.invokevirtual idx, 3)) (hC : Cj y cc2 nL2 ret2 rm2 mc2 ms2 cA ad (.ref b :: As) ex M Q2) (hG : GoodIn wsL_law (wsV own idx C y (.code y cc2 nL2 ret2 :: wsL_law))) (hdc : y.cls = C ∧ y.cls ≠ "java/lang/invoke/MethodHandle" ∧ y.cls ≠ "java/lang/invoke/VarHandle" ∧ (parseMethodDescriptor y.desc).map (fun d => d.parameters.length) = some n) (hst : st = As.reverse ++ .ref b :: rest) (hn : As.length = n) (hrc : rm2.cells = mc2) (hrs : rm2.slots = ms2) (hR : rm2.frames + 1 ≤ rm.frames ∧ 16 + (nL2 + 11) + rm2.locals ≤ rm.locals) (hcat : (rest.map fun v => v.category).sum ≤ 16) (hf : cells + mc2 ≤ rm.cells ∧ slots + ms2 ≤ rm.slots) (hob : isRc cA ad ex M b C) (k : ∀ v ex' M', Q2 v ex' M' → Rj cc own nL ret rm mc ms cA ad Q ex' (cells + mc2) (slots + ms2) (pc + 3) lv (v.toList ++ rest) M') : Rj cc own nL ret rm mc ms cA ad Q ex cells slots pc lv st M := by
  intro p l e s m args below meth c G tx A Qc free d0 X E hd0 H locs ls hP hD hS hl
  obtain ⟨hx, hb, hml, hown, hts, hret, hlk, hK, hA, hfree, hJ⟩ := id X
  have hJ0 : JZ ad A (s.setDrawn d0) (s.setDrawn d0).heap := JZ.vm (u := s) rfl hJ
  have hts1 := dr_words hts d0
  have hM := hC l G tx A
  have hsz : s.heap.size ≤ H.size := hS.1
  obtain ⟨cell, hc1, hc2, hc3⟩ := hob (s.setDrawn d0) H locs G tx A hK hP hS hJ0
  have ok : ∀ w ∈ wsV own idx C y (.code y cc2 nL2 ret2 :: wsL_law), w.before args (s.setDrawn d0) = true := fun w h => hts1 w (hG w h).1
  have hGc : GoodIn wsL_law (.code y cc2 nL2 ret2 :: wsL_law) := fun w h => hG w (by unfold wsV; exact List.mem_append_right _ h)
  have FB : FrameBlind (va_Pc (.ref b :: As) (fun U => va_P G vwCl (wsT cA ad ex M) U.heap ∧ va_K G vwCl (tysT cA ++ tx) U ∧ va_D A (wsT cA ad ex M) ∧ (∀ q, U.heap.size ≤ q → A q) ∧ JZ ad A U U.heap)) := fun a U g mk q => ⟨q.1, q.2.1, va_K.moved (u := U) (U := U.calling g mk a) (Vm.Alike.refl U.vm) q.2.2.1, q.2.2.2.1, q.2.2.2.2.1, JZ.vm (u := U) rfl q.2.2.2.2.2⟩
  obtain ⟨hyC, hy1, hy2, hy3⟩ := hdc
  have hBk : BackD lw_cs l rm p e below (s.setDrawn d0) args y 3 16 _ _ := back_of_D (W := 16) (len := 3) hM FB hrc hrs hR.1 hR.2 (pay_in hts1 hGc) List.mem_cons_self (fun a' U hW => word_at hW (Or.inl (by first | rfl | simp [Cond.onTables, Cond.keeps, Cond.steady])) (by rw [hyC]; exact ok _ (by simp [wsV])))
  have k1 : (Cond.methodLink own idx y).before args (s.setDrawn d0) = true := ok _ (by simp [wsV])
  have k2 : (Cond.instanceMethod y).before args (s.setDrawn d0) = true := ok _ (by simp [wsV])
  have k3 : (Cond.selects C y y).before args (s.setDrawn d0) = true := ok _ (by simp [wsV])
  have k4 : (Cond.code y cc2 nL2 ret2).before args (s.setDrawn d0) = true := ok _ (by simp [wsV])
  intro T hT XX
  obtain ⟨v, vm₁, ⟨U', l2, c2, s2⟩, d', hd', hW₁, X', ⟨g', mk, t, L, e1, e2, hq, h1, hL, h2, h3⟩, stp⟩ := callV_D XX hx (C := C) (bytes := cc2) (maxL := nL2) (ret := ret2) hown k1 k2 k3 k4 ⟨hy1, hy2⟩ hBk (by rw [hT]; exact hc1) hc2 hc3 (g := F0 m pc ls st) rfl (hl.1.trans hml.symm) (argsL := As) (rest := rest) (fun sig h => by rw [h] at hy3; exact hn.trans (Option.some.inj hy3).symm) hst (by show 2 * 0 + _ ≤ 16; omega) (by rw [hb]; exact hd)
    (fun vm₁ hW₁ => ⟨hf.1, hf.2, rfl, by rw [show (T.setVm vm₁).heap = H from hT]; exact hP, va_K.moved hW₁.alike hK, hD, by rw [show (T.setVm vm₁).heap = H from hT]; exact fun q hq => hA q (Nat.le_trans hsz hq), by rw [show (T.setVm vm₁).heap = H from hT]; exact JZ.go (s := s.setDrawn d0) hS hW₁ hJ0⟩)
  dsimp only [Pt.U, Pt.locs, Pt.cells, Pt.slots] at X' e1 e2 h1 h2 h3 stp
  subst h1; subst h2; subst h3
  obtain ⟨⟨v', ex', M', hv, hQ, hP1, hD1⟩, hz, hk⟩ := hq
  cases hv
  have hz' : H.size ≤ t.heap.size := by rw [← hT]; exact hz
  have hk' : ∀ q, q < H.size → ¬ A q → t.heap[q]? = H[q]? := by rw [← hT]; exact hk
  have hS2 : va_S A s.heap U'.heap (locs ++ L) := ⟨Nat.le_trans hS.1 (by rw [e1]; exact hz'), fun q h1 h2 => by rw [e1, hk' q (Nat.lt_of_lt_of_le h1 hS.1) h2]; exact hS.2.1 q h1 h2, fun q hq => by
    rcases List.mem_append.mp hq with h | h
    · exact hS.2.2 q h
    · exact hL q h⟩
  obtain ⟨t2, a1, b1⟩ := k v ex' M' hQ p l e s m args below meth c G tx A Qc free d' X E (hd0.trans hd') U'.heap (locs ++ L) ls (by rw [e1]; exact hP1) hD1 hS2 hl U' rfl X'
  exact ⟨t2, stp t2 a1, b1⟩
theorem rm_le16 {d d2 nL2 : Nat} (h : (Nat.ble (d2 + 1) d && Nat.ble nL2 33) = true) : (rmd d2).frames + 1 ≤ (rmd d).frames ∧ 16 + (nL2 + 11) + (rmd d2).locals ≤ (rmd d).locals := by
  simp only [Bool.and_eq_true, Nat.ble_eq] at h
  exact ⟨h.1, by show 16 + (nL2 + 11) + 60 * d2 ≤ 60 * d; omega⟩
theorem r_cV16i {idx n nL2 d d2 : Nat} {y : MethodName} {cc2 : ByteArray} {ret2 : Option FieldType} {As rest : List Value} {M2 : tM} {va : Value} {C : String} {b : Nat} (hd : decode cc pc = .ok (.invokevirtual idx, 3)) (hC : Cj y cc2 nL2 ret2 (rmd d2) 0 0 cA ad (.ref b :: As) ex M (Qe (some va) ex M2)) (hG : GoodIn wsL_law (wsV own idx C y (.code y cc2 nL2 ret2 :: wsL_law))) (hdc : y.cls = C ∧ y.cls ≠ "java/lang/invoke/MethodHandle" ∧ y.cls ≠ "java/lang/invoke/VarHandle" ∧ (parseMethodDescriptor y.desc).map (fun d => d.parameters.length) = some n) (hst : st = As.reverse ++ .ref b :: rest) (hn : As.length = n) (hR : (Nat.ble (d2 + 1) d && Nat.ble nL2 33) = true) (hcat : (rest.map fun v => v.category).sum ≤ 16) (hob : isRc cA ad ex M b C) (k : Rj cc own nL ret (rmd d) 0 0 cA ad Q ex 0 0 (pc + 3) lv (va :: rest) M2) : Rj cc own nL ret (rmd d) 0 0 cA ad Q ex 0 0 pc lv st M :=
  r_callV16 hd hC hG hdc hst hn rfl rfl (rm_le16 hR) hcat ⟨Nat.le_refl _, Nat.le_refl _⟩ hob (fun v x m h => by obtain ⟨rfl, rfl, rfl⟩ := h; exact k)
end
theorem ofWF {cs : List Choice} {l : Launch} {y : MethodName} {ws ws' : List Cond} {rm : Room} {Pc : Array Value → State → Prop} {Qc : Array Value → State → Outcome → State → Prop} {mc ms : Nat} {free : Addr → Prop} {cc : ByteArray} {maxL : Nat} {ret : Option FieldType}
    (hy : plainFor y = true) (hw : ws = Cond.code y cc maxL ret :: ws')
    (body : ∀ p e s m args below meth c s₁, BodyLoose p l y (headSpec ws rm) cc maxL ret e s m args below meth c s₁ → c.maxLocals = maxL → Pc args s → s.drawn.sameBut s.drawn cs →
      W p l e (headSpec ws rm).room (s.setDrawn s.drawn) m args below meth c s.heap [] 0 0 (MQD cs below Qc args s mc ms free) (entryFrame m args maxL)) : MetD cs l y ws rm Pc Qc mc ms free := by
  refine MetFree.of_bodySF (code := cc) (maxLocals := maxL) (ret := ret) hy ?_ ?_
  · intro args s m h hn
    obtain ⟨meth, c, h1, h2, h3, h4, h5, h6, -, -⟩ := Cond.code_spec hn (atoms_spec (ws := ws) h _ (by rw [hw]; exact List.mem_cons_self))
    exact ⟨meth, c, h1, h2, h3, h4, h5, h6⟩
  · intro p e s m args below meth c s₁ B hml hP _
    have hh0 : s₁.heap = s.heap := by rw [B.state]; rfl
    obtain ⟨t, a1, d, hd, x, b1, b2, b3, b4⟩ := body p e s m args below meth c s₁ B hml hP (Drawn.sameBut.refl _ _) s₁ hh0 (Stand.of_body B)
    exact ⟨t, x, a1, b1, b2, d, hd, b3, b4⟩
theorem c_of_rF {y : MethodName} {cc : ByteArray} {nL : Nat} {ret : Option FieldType} {rm : Room} {mc ms : Nat} {cA : Nat → ClassId} {ad : tA} {vs : List Value} {ex : va_W} {M : tM} {Q : Option Value → va_W → tM → Prop} {lv0 : List (Option Value)} {own : String} (ho : y.cls = own) (hy : plainFor y = true) (hlen : (lg_sl vs).length ≤ nL) (hlv : lv_args 0 vs = enL 0 lv0) (h : Rj cc own nL ret rm mc ms cA ad Q ex 0 0 0 lv0 [] M) : Cj y cc nL ret rm mc ms cA ad vs ex M Q := by
  subst ho
  intro l G tx A
  refine ofWF (cc := cc) (maxL := nL) (ret := ret) hy rfl ?_
  intro p e s m args below meth c s₁ B hml hv hd0
  obtain ⟨rfl, hP, hK, hD, hA, hJ⟩ := hv
  have hts := atoms_spec (ws := .code y cc nL ret :: wsL_law) B.pre
  have hown : s.vm.findClass y.cls = some m.cls := findClass_of_methodNamed B.named
  have hl := lv_entry vs (n := nL) hlen
  rw [hlv] at hl
  rw [lg_entry_eq]
  exact h p l e s m _ below meth c G tx A _ A s.drawn ⟨B.exec, B.bytes, hml, hown, fun w hw => hts w (List.mem_cons_of_mem _ hw), B.returns, B.notSynchronized, hK, hA, fun _ h => h, hJ⟩ (fun v ex' M' t d1 hQ _ _ hP' hD' hF => ⟨⟨v, ex', M', rfl, hQ, hP', hD'⟩, hF⟩) hd0 s.heap [] _ hP hD va_S.rf hl
/-- the script's int at k, 0 behind its end -/
def sAt (ad : tA) (k : Nat) : Int32 := if k < ad 18 2 then Int32.ofNat (ad 19 k) else 0
def f_some (v n : Int32) : Int32 := if 0 ≤ v - v / n * n then v - v / n * n else v - v / n * n + n
theorem dL_at_0 : decode cL_at 0 = .ok (.iload_n 1, 1) := by decide +kernel
theorem dL_at_1 : decode cL_at 1 = .ok (.aload_n 0, 1) := by decide +kernel
theorem dL_at_2 : decode cL_at 2 = .ok (.arraylength, 1) := by decide +kernel
theorem dL_at_3 : decode cL_at 3 = .ok (.if_icmp .ge 9, 3) := by decide +kernel
theorem dL_at_6 : decode cL_at 6 = .ok (.aload_n 0, 1) := by decide +kernel
theorem dL_at_7 : decode cL_at 7 = .ok (.iload_n 1, 1) := by decide +kernel
theorem dL_at_8 : decode cL_at 8 = .ok (.iaload, 1) := by decide +kernel
theorem dL_at_9 : decode cL_at 9 = .ok (.goto 4, 3) := by decide +kernel
theorem dL_at_12 : decode cL_at 12 = .ok (.iconst 0, 1) := by decide +kernel
theorem dL_at_13 : decode cL_at 13 = .ok (.ireturn, 1) := by decide +kernel
theorem dcL_at : yL_at.cls = RL ∧ yL_at.cls ≠ "java/lang/invoke/MethodHandle" ∧ yL_at.cls ≠ "java/lang/invoke/VarHandle" ∧ (parseMethodDescriptor yL_at.desc).map (fun d => d.parameters.length) = some 2 := by decide +kernel
set_option maxRecDepth 100000 in
set_option maxHeartbeats 4000000 in
theorem K_at {cA : Nat → ClassId} {ad : tA} {ex : va_W} {M : tM} {k : Nat} (hk : k < 300) (hL : ad 18 2 ≤ 260) : Cj yL_at cL_at 2 (some .int) (rmd 0) 0 0 cA ad [.ref (ad 18 3), .int (nI k)] ex M (Qe (some (.int (sAt ad k))) ex M) := by
  refine c_of_r (lv0 := [some (.ref (ad 18 3)), some (.int (nI k))]) rfl (by decide +kernel) (Nat.le_of_ble_eq_true rfl) rfl ?_
  refine r_iload_n dL_at_0 rfl ?_
  refine r_aload_n dL_at_1 rfl ?_
  refine r_scr_len dL_at_2 ?_
  refine r_icmp_ge (tgt := 12) dL_at_3 (by decide) (fun c3 => ?_) (fun c3 => ?_)
  · refine r_iconst (v := 0) dL_at_12 (by decide) ?_
    exact r_ret rfl rfl dL_at_13 (by have : ¬ k < ad 18 2 := fun e => absurd c3 (nI_ge e (by omega)); rw [sAt, if_neg this]) rfl
  · refine r_aload_n dL_at_6 rfl ?_
    refine r_iload_n dL_at_7 rfl ?_
    have hlt : k < ad 18 2 := (nI_ltI (by omega) (by omega)).mp (Int32.not_le.mp c3)
    refine r_scr_ld rfl hlt hL dL_at_8 ?_
    refine r_goto (tgt := 13) dL_at_9 (by decide) ?_
    exact r_ret rfl rfl dL_at_13 (by rw [sAt, if_pos hlt]) rfl
theorem dL_some_0 : decode cL_some 0 = .ok (.iload_n 0, 1) := by decide +kernel
theorem dL_some_1 : decode cL_some 1 = .ok (.iload_n 1, 1) := by decide +kernel
theorem dL_some_2 : decode cL_some 2 = .ok (.irem, 1) := by decide +kernel
theorem dL_some_3 : decode cL_some 3 = .ok (.istore_n 2, 1) := by decide +kernel
theorem dL_some_4 : decode cL_some 4 = .ok (.iload_n 2, 1) := by decide +kernel
theorem dL_some_5 : decode cL_some 5 = .ok (.ifCond .ge 9, 3) := by decide +kernel
theorem dL_some_8 : decode cL_some 8 = .ok (.iload_n 2, 1) := by decide +kernel
theorem dL_some_9 : decode cL_some 9 = .ok (.iload_n 1, 1) := by decide +kernel
theorem dL_some_10 : decode cL_some 10 = .ok (.iadd, 1) := by decide +kernel
theorem dL_some_11 : decode cL_some 11 = .ok (.goto 4, 3) := by decide +kernel
theorem dL_some_14 : decode cL_some 14 = .ok (.iload_n 2, 1) := by decide +kernel
theorem dL_some_15 : decode cL_some 15 = .ok (.ireturn, 1) := by decide +kernel
theorem dcL_some : yL_some.cls = RL ∧ yL_some.cls ≠ "java/lang/invoke/MethodHandle" ∧ yL_some.cls ≠ "java/lang/invoke/VarHandle" ∧ (parseMethodDescriptor yL_some.desc).map (fun d => d.parameters.length) = some 2 := by decide +kernel
set_option maxRecDepth 100000 in
set_option maxHeartbeats 4000000 in
theorem K_some {cA : Nat → ClassId} {ad : tA} {ex : va_W} {M : tM} {v n : Int32} (hn : ¬ n = 0) : Cj yL_some cL_some 3 (some .int) (rmd 0) 0 0 cA ad [.int v, .int n] ex M (Qe (some (.int (f_some v n))) ex M) := by
  refine c_of_r (lv0 := [some (.int v), some (.int n), none]) rfl (by decide +kernel) (Nat.le_of_ble_eq_true rfl) rfl ?_
  refine r_iload_n dL_some_0 rfl ?_
  refine r_iload_n dL_some_1 rfl ?_
  refine r_irem dL_some_2 hn ?_
  refine r_istore_n dL_some_3 (by decide) rfl ?_
  refine r_iload_n dL_some_4 rfl ?_
  refine r_if_ge (tgt := 14) dL_some_5 (by decide) (fun c5 => ?_) (fun c5 => ?_)
  · refine r_iload_n dL_some_14 rfl ?_
    first | exact r_ret rfl rfl dL_some_15 (by rw [f_some, if_pos c5]) rfl | exact r_ret rfl rfl dL_some_15 (by rw [f_some, if_neg c5]) rfl
  · refine r_iload_n dL_some_8 rfl ?_
    refine r_iload_n dL_some_9 rfl ?_
    refine r_iadd dL_some_10 ?_
    refine r_goto (tgt := 15) dL_some_11 (by decide) ?_
    first | exact r_ret rfl rfl dL_some_15 (by rw [f_some, if_pos c5]) rfl | exact r_ret rfl rfl dL_some_15 (by rw [f_some, if_neg c5]) rfl
def f_is (F : tP) (a b : Int32) : Bool := decide (f_reason F 0 = a) && decide (f_reason F 1 = b)
theorem dL_is_0 : decode cL_is 0 = .ok (.aload_n 0, 1) := by decide +kernel
theorem dL_is_1 : decode cL_is 1 = .ok (.iconst 0, 1) := by decide +kernel
theorem dL_is_2 : decode cL_is 2 = .ok (.invokevirtual 26, 3) := by decide +kernel
theorem dL_is_5 : decode cL_is 5 = .ok (.iload_n 1, 1) := by decide +kernel
theorem dL_is_6 : decode cL_is 6 = .ok (.if_icmp .ne 16, 3) := by decide +kernel
theorem dL_is_9 : decode cL_is 9 = .ok (.aload_n 0, 1) := by decide +kernel
theorem dL_is_10 : decode cL_is 10 = .ok (.iconst 1, 1) := by decide +kernel
theorem dL_is_11 : decode cL_is 11 = .ok (.invokevirtual 26, 3) := by decide +kernel
theorem dL_is_14 : decode cL_is 14 = .ok (.iload_n 2, 1) := by decide +kernel
theorem dL_is_15 : decode cL_is 15 = .ok (.if_icmp .ne 7, 3) := by decide +kernel
theorem dL_is_18 : decode cL_is 18 = .ok (.iconst 1, 1) := by decide +kernel
theorem dL_is_19 : decode cL_is 19 = .ok (.goto 4, 3) := by decide +kernel
theorem dL_is_22 : decode cL_is 22 = .ok (.iconst 0, 1) := by decide +kernel
theorem dL_is_23 : decode cL_is 23 = .ok (.ireturn, 1) := by decide +kernel
theorem dcL_is : yL_is.cls = RL ∧ yL_is.cls ≠ "java/lang/invoke/MethodHandle" ∧ yL_is.cls ≠ "java/lang/invoke/VarHandle" ∧ (parseMethodDescriptor yL_is.desc).map (fun d => d.parameters.length) = some 3 := by decide +kernel
theorem gL_is_2 : GoodIn wsL_law (wsV RL 26 RX6 yX6_reason (.code yX6_reason cX6_reason 2 (some .int) :: wsL_law)) := g_V q425 q426 q427 q2 q428
theorem gL_is_11 : GoodIn wsL_law (wsV RL 26 RX6 yX6_reason (.code yX6_reason cX6_reason 2 (some .int) :: wsL_law)) := g_V q425 q426 q427 q2 q428
set_option maxRecDepth 100000 in
set_option maxHeartbeats 4000000 in
theorem K_is {cA : Nat → ClassId} {ad : tA} {ex : va_W} {M : tM} {F P : tP} {a b : Int32} : Cj yL_is cL_is 3 (some .boolean) (rmd 1) 0 0 cA ad [.ref (ad 0 0), .int a, .int b] ex (mm M F P) (Qe (some (.int (bI (f_is F a b)))) ex (mm M F P)) := by
  refine c_of_r (lv0 := [some (.ref (ad 0 0)), some (.int a), some (.int b)]) rfl (by decide +kernel) (Nat.le_of_ble_eq_true rfl) rfl ?_
  refine r_aload_n dL_is_0 rfl ?_
  refine r_iconst (v := 0) dL_is_1 (by decide) ?_
  refine r_cVi dL_is_2 (K_reason) gL_is_2 dcX6_reason rfl rfl rfl (Nat.le_of_ble_eq_true rfl) ob_tf ?_
  refine r_iload_n dL_is_5 rfl ?_
  refine r_icmp_ne (tgt := 22) dL_is_6 (by decide) (fun c6 => ?_) (fun c6 => ?_)
  · refine r_iconst (v := 0) dL_is_22 (by decide) ?_
    exact r_ret rfl rfl dL_is_23 (by first | (simp [f_is, bI, *]; done) | simp_all [f_is, bI]) rfl
  · refine r_aload_n dL_is_9 rfl ?_
    refine r_iconst (v := 1) dL_is_10 (by decide) ?_
    refine r_cVi dL_is_11 (K_reason) gL_is_11 dcX6_reason rfl rfl rfl (Nat.le_of_ble_eq_true rfl) ob_tf ?_
    refine r_iload_n dL_is_14 rfl ?_
    refine r_icmp_ne (tgt := 22) dL_is_15 (by decide) (fun c15 => ?_) (fun c15 => ?_)
    · refine r_iconst (v := 0) dL_is_22 (by decide) ?_
      exact r_ret rfl rfl dL_is_23 (by first | (simp [f_is, bI, *]; done) | simp_all [f_is, bI]) rfl
    · refine r_iconst (v := 1) dL_is_18 (by decide) ?_
      refine r_goto (tgt := 23) dL_is_19 (by decide) ?_
      exact r_ret rfl rfl dL_is_23 (by first | (simp [f_is, bI, *]; done) | simp_all [f_is, bI]) rfl
theorem dL_refusedAt_0 : decode cL_refusedAt 0 = .ok (.aload_n 0, 1) := by decide +kernel
theorem dL_refusedAt_1 : decode cL_refusedAt 1 = .ok (.bipush 6, 2) := by decide +kernel
theorem dL_refusedAt_3 : decode cL_refusedAt 3 = .ok (.iload_n 1, 1) := by decide +kernel
theorem dL_refusedAt_4 : decode cL_refusedAt 4 = .ok (.bipush 12, 2) := by decide +kernel
theorem dL_refusedAt_6 : decode cL_refusedAt 6 = .ok (.if_icmp .ne 7, 3) := by decide +kernel
theorem dL_refusedAt_9 : decode cL_refusedAt 9 = .ok (.iconst 0, 1) := by decide +kernel
theorem dL_refusedAt_10 : decode cL_refusedAt 10 = .ok (.goto 4, 3) := by decide +kernel
theorem dL_refusedAt_13 : decode cL_refusedAt 13 = .ok (.iconst 1, 1) := by decide +kernel
theorem dL_refusedAt_14 : decode cL_refusedAt 14 = .ok (.invokestatic 159, 3) := by decide +kernel
theorem dL_refusedAt_17 : decode cL_refusedAt 17 = .ok (.ireturn, 1) := by decide +kernel
theorem dcL_refusedAt : yL_refusedAt.cls = RL ∧ yL_refusedAt.cls ≠ "java/lang/invoke/MethodHandle" ∧ yL_refusedAt.cls ≠ "java/lang/invoke/VarHandle" ∧ (parseMethodDescriptor yL_refusedAt.desc).map (fun d => d.parameters.length) = some 2 := by decide +kernel
theorem gL_refusedAt_14 : gS RL 159 yL_is cL_is 3 (some .boolean) := ⟨q421, q422, q423, q424⟩
set_option maxRecDepth 100000 in
set_option maxHeartbeats 4000000 in
theorem K_refAt {cA : Nat → ClassId} {ad : tA} {ex : va_W} {M : tM} {F P : tP} {x : Int32} : Cj yL_refusedAt cL_refusedAt 2 (some .boolean) (rmd 2) 0 0 cA ad [.ref (ad 0 0), .int x] ex (mm M F P) (Qe (some (.int (bI (f_is F 6 (if x = 12 then 0 else 1))))) ex (mm M F P)) := by
  refine c_of_r (lv0 := [some (.ref (ad 0 0)), some (.int x)]) rfl (by decide +kernel) (Nat.le_of_ble_eq_true rfl) rfl ?_
  refine r_aload_n dL_refusedAt_0 rfl ?_
  refine r_bipush (v := 6) dL_refusedAt_1 (by decide) ?_
  refine r_iload_n dL_refusedAt_3 rfl ?_
  refine r_bipush (v := 12) dL_refusedAt_4 (by decide) ?_
  refine r_icmp_ne (tgt := 13) dL_refusedAt_6 (by decide) (fun c6 => ?_) (fun c6 => ?_)
  · refine r_iconst (v := 1) dL_refusedAt_13 (by decide) ?_
    refine r_cSi dL_refusedAt_14 (K_is) gL_refusedAt_14 dcL_is rfl rfl rfl (Nat.le_of_ble_eq_true rfl) ?_
    first | exact r_ret rfl bI_nar dL_refusedAt_17 (by rw [if_pos c6]) rfl | exact r_ret rfl bI_nar dL_refusedAt_17 (by rw [if_neg c6]) rfl
  · refine r_iconst (v := 0) dL_refusedAt_9 (by decide) ?_
    refine r_goto (tgt := 14) dL_refusedAt_10 (by decide) ?_
    refine r_cSi dL_refusedAt_14 (K_is) gL_refusedAt_14 dcL_is rfl rfl rfl (Nat.le_of_ble_eq_true rfl) ?_
    first | exact r_ret rfl bI_nar dL_refusedAt_17 (by rw [if_pos c6]) rfl | exact r_ret rfl bI_nar dL_refusedAt_17 (by rw [if_neg c6]) rfl
theorem dJxe99ae_isNaN_b9ae7_0 : decode cJxe99ae_isNaN_b9ae7 0 = .ok (.dload_n 0, 1) := by decide +kernel
theorem dJxe99ae_isNaN_b9ae7_1 : decode cJxe99ae_isNaN_b9ae7 1 = .ok (.dload_n 0, 1) := by decide +kernel
theorem dJxe99ae_isNaN_b9ae7_2 : decode cJxe99ae_isNaN_b9ae7 2 = .ok (.dcmp .l, 1) := by decide +kernel
theorem dJxe99ae_isNaN_b9ae7_3 : decode cJxe99ae_isNaN_b9ae7 3 = .ok (.ifCond .eq 7, 3) := by decide +kernel
theorem dJxe99ae_isNaN_b9ae7_6 : decode cJxe99ae_isNaN_b9ae7 6 = .ok (.iconst 1, 1) := by decide +kernel
theorem dJxe99ae_isNaN_b9ae7_7 : decode cJxe99ae_isNaN_b9ae7 7 = .ok (.goto 4, 3) := by decide +kernel
theorem dJxe99ae_isNaN_b9ae7_10 : decode cJxe99ae_isNaN_b9ae7 10 = .ok (.iconst 0, 1) := by decide +kernel
theorem dJxe99ae_isNaN_b9ae7_11 : decode cJxe99ae_isNaN_b9ae7 11 = .ok (.ireturn, 1) := by decide +kernel
theorem dcJxe99ae_isNaN_b9ae7 : yJxe99ae_isNaN_b9ae7.cls = RJxe99ae ∧ yJxe99ae_isNaN_b9ae7.cls ≠ "java/lang/invoke/MethodHandle" ∧ yJxe99ae_isNaN_b9ae7.cls ≠ "java/lang/invoke/VarHandle" ∧ (parseMethodDescriptor yJxe99ae_isNaN_b9ae7.desc).map (fun d => d.parameters.length) = some 1 := by decide +kernel
set_option maxRecDepth 100000 in
set_option maxHeartbeats 4000000 in
theorem K_nan64 {cA : Nat → ClassId} {ad : tA} {ex : va_W} {M : tM} {v : UInt64} : Cj yJxe99ae_isNaN_b9ae7 cJxe99ae_isNaN_b9ae7 2 (some .boolean) (rmd 0) 0 0 cA ad [.double v] ex M (Qe (some (.int (bI (decide (¬ Op.cmpValue (FP.dcmp v v) .l = 0))))) ex M) := by
  refine c_of_r (lv0 := [some (.double v), none]) rfl (by decide +kernel) (Nat.le_of_ble_eq_true rfl) rfl ?_
  refine r_dload_n dJxe99ae_isNaN_b9ae7_0 rfl ?_
  refine r_dload_n dJxe99ae_isNaN_b9ae7_1 rfl ?_
  refine r_dcmp dJxe99ae_isNaN_b9ae7_2 ?_
  refine r_if_eq (tgt := 10) dJxe99ae_isNaN_b9ae7_3 (by decide) (fun c3 => ?_) (fun c3 => ?_)
  · refine r_iconst (v := 0) dJxe99ae_isNaN_b9ae7_10 (by decide) ?_
    exact r_ret rfl rfl dJxe99ae_isNaN_b9ae7_11 (by simp [bI, c3]) rfl
  · refine r_iconst (v := 1) dJxe99ae_isNaN_b9ae7_6 (by decide) ?_
    refine r_goto (tgt := 11) dJxe99ae_isNaN_b9ae7_7 (by decide) ?_
    exact r_ret rfl rfl dJxe99ae_isNaN_b9ae7_11 (by simp [bI, c3]) rfl
theorem dJxf58ca_isNaN_12338_0 : decode cJxf58ca_isNaN_12338 0 = .ok (.fload_n 0, 1) := by decide +kernel
theorem dJxf58ca_isNaN_12338_1 : decode cJxf58ca_isNaN_12338 1 = .ok (.fload_n 0, 1) := by decide +kernel
theorem dJxf58ca_isNaN_12338_2 : decode cJxf58ca_isNaN_12338 2 = .ok (.fcmp .l, 1) := by decide +kernel
theorem dJxf58ca_isNaN_12338_3 : decode cJxf58ca_isNaN_12338 3 = .ok (.ifCond .eq 7, 3) := by decide +kernel
theorem dJxf58ca_isNaN_12338_6 : decode cJxf58ca_isNaN_12338 6 = .ok (.iconst 1, 1) := by decide +kernel
theorem dJxf58ca_isNaN_12338_7 : decode cJxf58ca_isNaN_12338 7 = .ok (.goto 4, 3) := by decide +kernel
theorem dJxf58ca_isNaN_12338_10 : decode cJxf58ca_isNaN_12338 10 = .ok (.iconst 0, 1) := by decide +kernel
theorem dJxf58ca_isNaN_12338_11 : decode cJxf58ca_isNaN_12338 11 = .ok (.ireturn, 1) := by decide +kernel
theorem dcJxf58ca_isNaN_12338 : yJxf58ca_isNaN_12338.cls = RJxf58ca ∧ yJxf58ca_isNaN_12338.cls ≠ "java/lang/invoke/MethodHandle" ∧ yJxf58ca_isNaN_12338.cls ≠ "java/lang/invoke/VarHandle" ∧ (parseMethodDescriptor yJxf58ca_isNaN_12338.desc).map (fun d => d.parameters.length) = some 1 := by decide +kernel
set_option maxRecDepth 100000 in
set_option maxHeartbeats 4000000 in
theorem K_nan32 {cA : Nat → ClassId} {ad : tA} {ex : va_W} {M : tM} {v : UInt32} : Cj yJxf58ca_isNaN_12338 cJxf58ca_isNaN_12338 1 (some .boolean) (rmd 0) 0 0 cA ad [.float v] ex M (Qe (some (.int (bI (decide (¬ Op.cmpValue (FP.fcmp v v) .l = 0))))) ex M) := by
  refine c_of_rF (lv0 := [some (.float v)]) rfl (by decide +kernel) (Nat.le_of_ble_eq_true rfl) rfl ?_
  refine r_fload_n dJxf58ca_isNaN_12338_0 rfl ?_
  refine r_fload_n dJxf58ca_isNaN_12338_1 rfl ?_
  refine r_fcmp dJxf58ca_isNaN_12338_2 ?_
  refine r_if_eq (tgt := 10) dJxf58ca_isNaN_12338_3 (by decide) (fun c3 => ?_) (fun c3 => ?_)
  · refine r_iconst (v := 0) dJxf58ca_isNaN_12338_10 (by decide) ?_
    exact r_ret rfl rfl dJxf58ca_isNaN_12338_11 (by simp [bI, c3]) rfl
  · refine r_iconst (v := 1) dJxf58ca_isNaN_12338_6 (by decide) ?_
    refine r_goto (tgt := 11) dJxf58ca_isNaN_12338_7 (by decide) ?_
    exact r_ret rfl rfl dJxf58ca_isNaN_12338_11 (by simp [bI, c3]) rfl
theorem dJxe99ae_doubleToLongBits_ccdee_0 : decode cJxe99ae_doubleToLongBits_ccdee 0 = .ok (.dload_n 0, 1) := by decide +kernel
theorem dJxe99ae_doubleToLongBits_ccdee_1 : decode cJxe99ae_doubleToLongBits_ccdee 1 = .ok (.invokestatic 122, 3) := by decide +kernel
theorem dJxe99ae_doubleToLongBits_ccdee_4 : decode cJxe99ae_doubleToLongBits_ccdee 4 = .ok (.ifCond .ne 8, 3) := by decide +kernel
theorem dJxe99ae_doubleToLongBits_ccdee_7 : decode cJxe99ae_doubleToLongBits_ccdee 7 = .ok (.dload_n 0, 1) := by decide +kernel
theorem dJxe99ae_doubleToLongBits_ccdee_8 : decode cJxe99ae_doubleToLongBits_ccdee 8 = .ok (.invokestatic 134, 3) := by decide +kernel
theorem dJxe99ae_doubleToLongBits_ccdee_11 : decode cJxe99ae_doubleToLongBits_ccdee 11 = .ok (.lreturn, 1) := by decide +kernel
theorem dJxe99ae_doubleToLongBits_ccdee_12 : decode cJxe99ae_doubleToLongBits_ccdee 12 = .ok (.ldc2_w 137, 3) := by decide +kernel
theorem dJxe99ae_doubleToLongBits_ccdee_15 : decode cJxe99ae_doubleToLongBits_ccdee 15 = .ok (.lreturn, 1) := by decide +kernel
theorem dcJxe99ae_doubleToLongBits_ccdee : yJxe99ae_doubleToLongBits_ccdee.cls = RJxe99ae ∧ yJxe99ae_doubleToLongBits_ccdee.cls ≠ "java/lang/invoke/MethodHandle" ∧ yJxe99ae_doubleToLongBits_ccdee.cls ≠ "java/lang/invoke/VarHandle" ∧ (parseMethodDescriptor yJxe99ae_doubleToLongBits_ccdee.desc).map (fun d => d.parameters.length) = some 1 := by decide +kernel
theorem gJxe99ae_doubleToLongBits_ccdee_1 : gS RJxe99ae 122 yJxe99ae_isNaN_b9ae7 cJxe99ae_isNaN_b9ae7 2 (some .boolean) := ⟨q516, q517, q509, q518⟩
set_option maxRecDepth 100000 in
set_option maxHeartbeats 4000000 in
theorem K_d2l {cA : Nat → ClassId} {ad : tA} {ex : va_W} {M : tM} {v : UInt64} : Cj yJxe99ae_doubleToLongBits_ccdee cJxe99ae_doubleToLongBits_ccdee 2 (some .long) (rmd 1) 0 0 cA ad [.double v] ex M (Qe (some (.long (f_d2l v))) ex M) := by
  refine c_of_r (lv0 := [some (.double v), none]) rfl (by decide +kernel) (Nat.le_of_ble_eq_true rfl) rfl ?_
  refine r_dload_n dJxe99ae_doubleToLongBits_ccdee_0 rfl ?_
  refine r_cSi dJxe99ae_doubleToLongBits_ccdee_1 (K_nan64) gJxe99ae_doubleToLongBits_ccdee_1 dcJxe99ae_isNaN_b9ae7 rfl rfl rfl (Nat.le_of_ble_eq_true rfl) ?_
  refine r_if_ne (tgt := 12) dJxe99ae_doubleToLongBits_ccdee_4 (by decide) (fun c4 => ?_) (fun c4 => ?_)
  · refine r_ldc2 dJxe99ae_doubleToLongBits_ccdee_12 q515 ?_
    exact r_lret rfl dJxe99ae_doubleToLongBits_ccdee_15 (Nat.le_refl _) (Nat.le_refl _) ⟨by rw [f_d2l, if_neg (by simpa [bI] using c4)], rfl, rfl⟩
  · refine r_dload_n dJxe99ae_doubleToLongBits_ccdee_7 rfl ?_
    refine r_raw_d2l q511 q512 q513 q514 (Nat.le_of_ble_eq_true rfl) (Nat.le_of_ble_eq_true rfl) dJxe99ae_doubleToLongBits_ccdee_8 ?_
    exact r_lret rfl dJxe99ae_doubleToLongBits_ccdee_11 (Nat.le_refl _) (Nat.le_refl _) ⟨by rw [f_d2l, if_pos (by simpa [bI] using c4)], rfl, rfl⟩
theorem dJxf58ca_floatToIntBits_5c35a_0 : decode cJxf58ca_floatToIntBits_5c35a 0 = .ok (.fload_n 0, 1) := by decide +kernel
theorem dJxf58ca_floatToIntBits_5c35a_1 : decode cJxf58ca_floatToIntBits_5c35a 1 = .ok (.invokestatic 59, 3) := by decide +kernel
theorem dJxf58ca_floatToIntBits_5c35a_4 : decode cJxf58ca_floatToIntBits_5c35a 4 = .ok (.ifCond .ne 8, 3) := by decide +kernel
theorem dJxf58ca_floatToIntBits_5c35a_7 : decode cJxf58ca_floatToIntBits_5c35a 7 = .ok (.fload_n 0, 1) := by decide +kernel
theorem dJxf58ca_floatToIntBits_5c35a_8 : decode cJxf58ca_floatToIntBits_5c35a 8 = .ok (.invokestatic 74, 3) := by decide +kernel
theorem dJxf58ca_floatToIntBits_5c35a_11 : decode cJxf58ca_floatToIntBits_5c35a 11 = .ok (.ireturn, 1) := by decide +kernel
theorem dJxf58ca_floatToIntBits_5c35a_12 : decode cJxf58ca_floatToIntBits_5c35a 12 = .ok (.ldc 77, 2) := by decide +kernel
theorem dJxf58ca_floatToIntBits_5c35a_14 : decode cJxf58ca_floatToIntBits_5c35a 14 = .ok (.ireturn, 1) := by decide +kernel
theorem dcJxf58ca_floatToIntBits_5c35a : yJxf58ca_floatToIntBits_5c35a.cls = RJxf58ca ∧ yJxf58ca_floatToIntBits_5c35a.cls ≠ "java/lang/invoke/MethodHandle" ∧ yJxf58ca_floatToIntBits_5c35a.cls ≠ "java/lang/invoke/VarHandle" ∧ (parseMethodDescriptor yJxf58ca_floatToIntBits_5c35a.desc).map (fun d => d.parameters.length) = some 1 := by decide +kernel
theorem gJxf58ca_floatToIntBits_5c35a_1 : gS RJxf58ca 59 yJxf58ca_isNaN_12338 cJxf58ca_isNaN_12338 1 (some .boolean) := ⟨q532, q533, q525, q534⟩
set_option maxRecDepth 100000 in
set_option maxHeartbeats 4000000 in
theorem K_f2i {cA : Nat → ClassId} {ad : tA} {ex : va_W} {M : tM} {v : UInt32} : Cj yJxf58ca_floatToIntBits_5c35a cJxf58ca_floatToIntBits_5c35a 1 (some .int) (rmd 1) 0 0 cA ad [.float v] ex M (Qe (some (.int (f_f2i v))) ex M) := by
  refine c_of_rF (lv0 := [some (.float v)]) rfl (by decide +kernel) (Nat.le_of_ble_eq_true rfl) rfl ?_
  refine r_fload_n dJxf58ca_floatToIntBits_5c35a_0 rfl ?_
  refine r_cSi dJxf58ca_floatToIntBits_5c35a_1 (K_nan32) gJxf58ca_floatToIntBits_5c35a_1 dcJxf58ca_isNaN_12338 rfl rfl rfl (Nat.le_of_ble_eq_true rfl) ?_
  refine r_if_ne (tgt := 12) dJxf58ca_floatToIntBits_5c35a_4 (by decide) (fun c4 => ?_) (fun c4 => ?_)
  · refine r_ldc dJxf58ca_floatToIntBits_5c35a_12 q531 ?_
    exact r_ret rfl rfl dJxf58ca_floatToIntBits_5c35a_14 (by rw [f_f2i, if_neg (by simpa [bI] using c4)]) rfl
  · refine r_fload_n dJxf58ca_floatToIntBits_5c35a_7 rfl ?_
    refine r_raw_f2i q527 q528 q529 q530 (Nat.le_of_ble_eq_true rfl) (Nat.le_of_ble_eq_true rfl) dJxf58ca_floatToIntBits_5c35a_8 ?_
    exact r_ret rfl rfl dJxf58ca_floatToIntBits_5c35a_11 (by rw [f_f2i, if_pos (by simpa [bI] using c4)]) rfl
def ak (s : Int64) (x : Int32) : Int64 := 31 * s + x.toInt64
def lpK (f : Nat → Int32) : Nat → Nat → Int64 → Int64
  | 0, _, s => s
  | n + 1, i, s => lpK f n (i + 1) (ak s (f i))
def zP : tP := fun _ _ => 0
def k_st1 (P : tP) (i : Nat) (s : Int64) : Int64 := ak (ak (ak (ak (ak s (f_ready P (nI i))) (t_doneIn P zP (nI i)).1) (t_chain P zP (nI i)).1) (t_chain2 P zP (nI i)).1) (f_rank P (nI i))
def k_N (P : tP) (i : Nat) : tP := f_pst (pu zP 0 1 0) i (P (4 + i))
def k_chr (N : tP) (s : Int64) : Int64 := lpK (fun j => f_chr N (nI j)) (ll N) 0 s
def k_step (P : tP) (i : Nat) (s : Int64) : Int64 := k_chr (k_N P i) (k_st1 P i (lpK (fun w => f_stepOf P (nI i) (nI w)) 10 0 s))
def lp_k (f : Nat → Int64 → Int64) : Nat → Nat → Int64 → Int64
  | 0, _, s => s
  | n + 1, i, s => lp_k f n (i + 1) (f i s)
def k_mile (P : tP) (m : Nat) (s : Int64) : Int64 := lpK (fun w => f_mileOf P (nI m) (nI w)) 4 0 s
def k_log (P : tP) (k : Nat) (s : Int64) : Int64 := lpK (fun w => f_log P (nI k) (nI w)) 3 0 s
def k_0 (P : tP) : Int64 := 31 * f_d2l (f_mean P) + (f_f2i (f_share P)).toInt64 + ((t_bal P zP).1).toInt64
def k_a (P : tP) : Int64 := lpK (fun w => f_acc zP zP P (nI w)) 17 0 (k_0 P)
def k_b (P : tP) : Int64 := lp_k (k_step P) (cn P) 0 (k_a P)
def k_c (P : tP) : Int64 := lp_k (k_mile P) 4 0 (k_b P)
def k_d (P : tP) : Int64 := lp_k (k_log P) 16 0 (k_c P)
def k_e (P : tP) : Int64 := k_chr (f_tellAll P zP) (k_d P)
def f_asks (P : tP) : Int64 := ak (k_e P) (f_late P)
theorem lpK_eq {f g : Nat → Int32} : ∀ (n i : Nat) (s : Int64), (∀ j, j < i + n → f j = g j) → lpK f n i s = lpK g n i s := by
  intro n
  induction n with
  | zero => intro i s _; rfl
  | succ n ih => intro i s h; rw [lpK, lpK, h i (by omega)]; exact ih _ _ (fun j hj => h j (by omega))
theorem lp_k_eq {f g : Nat → Int64 → Int64} {c : Nat} (h : ∀ j s, j < c → f j s = g j s) : ∀ (n i : Nat) (s : Int64), i + n ≤ c → lp_k f n i s = lp_k g n i s := by
  intro n
  induction n with
  | zero => intro i s _; rfl
  | succ n ih => intro i s hi; rw [lp_k, lp_k, h i s (by omega)]; exact ih _ _ (by omega)
theorem k_chr_eq {N N' : tP} {s : Int64} (o : okl N) (h : sN N N') : k_chr N' s = k_chr N s := by
  rw [k_chr, k_chr, sN_ll h]
  exact lpK_eq _ _ _ (fun j hj => sN_chr o h (by omega))
/-- what is asked depends on the live plan alone -/
theorem asks_same {P P' : tP} (h : same P P') (o : okP P) : f_asks P' = f_asks P := by
  have e0 : k_0 P' = k_0 P := by rw [k_0, k_0, q_mean h, q_share h, q_bal (C := zP) (C' := zP) h]
  have ea : k_a P' = k_a P := by rw [k_a, k_a, e0]; exact lpK_eq _ _ _ (fun j hj => q_acc (by omega) h)
  have eb : k_b P' = k_b P := by
    rw [k_b, k_b, ea, sm_cn h]
    refine lp_k_eq (c := cn P) (fun i s hi => ?_) _ _ _ (by omega)
    have e1 : ∀ t, k_st1 P' i t = k_st1 P i t := fun t => by rw [k_st1, k_st1, q_ready h o.1, q_doneIn (X := zP) (X' := zP) h o.1, q_chain (C := zP) (C' := zP) h o.1, q_chain2 (C := zP) (C' := zP) h o.1, q_ranked h]
    rw [k_step, k_step, e1, lpK_eq 10 0 s (g := fun w => f_stepOf P (nI i) (nI w)) (fun j hj => q_stepOf h o.1)]
    exact k_chr_eq (okl_st okl_z) (sN_tell h hi)
  have ec' : k_c P' = k_c P := by rw [k_c, k_c, eb]; exact lp_k_eq (c := 4) (fun i s hi => lpK_eq _ _ _ (fun j hj => q_mileOf h o)) _ _ _ (by omega)
  have ed : k_d P' = k_d P := by rw [k_d, k_d, ec']; exact lp_k_eq (c := 16) (fun i s hi => lpK_eq _ _ _ (fun j hj => q_logged h o)) _ _ _ (by omega)
  have ee : k_e P' = k_e P := by rw [k_e, k_e, ed]; exact k_chr_eq (okl_ta _ _ _ okl_z) (sN_tellAll h)
  rw [f_asks, f_asks, ee, q_late h o]
-- the rest's regions that asking writes
def aM (M : tM) (X N C : tP) : tM := m_pl (m_pl (m_pl M 2 X) 14 N) 15 C
section
variable {M : tM} {X N C X' N' C' F P : tP}
theorem m_comm {r r' : Nat} (h : r ≠ r') : m_pl (m_pl M r X) r' X' = m_pl (m_pl M r' X') r X := by
  funext j
  by_cases h1 : j = r'
  · subst h1; rw [m_pl_s, m_pl_n (by omega), m_pl_s]
  · by_cases h2 : j = r
    · subst h2; rw [m_pl_n h1, m_pl_s, m_pl_s]
    · rw [m_pl_n h1, m_pl_n h2, m_pl_n h2, m_pl_n h1]
theorem aM_2 : aM M X N C 2 = X := by rw [aM, m_pl_n (by omega), m_pl_n (by omega), m_pl_s]
theorem aM_14 : aM M X N C 14 = N := by rw [aM, m_pl_n (by omega), m_pl_s]
theorem aM_15 : aM M X N C 15 = C := m_pl_s
theorem aM_n {r : Nat} (h : r ≠ 2 ∧ r ≠ 14 ∧ r ≠ 15) : aM M X N C r = M r := by rw [aM, m_pl_n (by omega), m_pl_n (by omega), m_pl_n (by omega)]
theorem aM_p2 : m_pl (aM M X N C) 2 X' = aM M X' N C := by rw [aM, m_comm (by omega), m_comm (r := 14) (by omega), m_pl_pl]; rfl
theorem aM_p14 : m_pl (aM M X N C) 14 N' = aM M X N' C := by rw [aM, m_comm (by omega), m_pl_pl]; rfl
theorem aM_p15 : m_pl (aM M X N C) 15 C' = aM M X N C' := by rw [aM, m_pl_pl]; rfl
theorem aM_self : aM M (M 2) (M 14) (M 15) = M := by
  funext r
  by_cases h1 : r = 15
  · subst h1; exact aM_15
  · by_cases h2 : r = 14
    · subst h2; exact aM_14
    · by_cases h3 : r = 2
      · subst h3; exact aM_2
      · exact aM_n ⟨h3, h2, h1⟩
end
/-- asking's end: the sum, the plan as it was -/
def Qk (v0 : Int64) (ex0 : va_W) (M : tM) (F P : tP) : Option Value → va_W → tM → Prop := fun v x m => v = some (.long v0) ∧ x = ex0 ∧ ∃ X N C, (okl N ∧ ll N ≤ 12) ∧ m = mm (aM M X N C) F P
section
variable {cA : Nat → ClassId} {ad : tA} {ex : va_W} {M : tM} {F P X N C : tP}
theorem KA_bal (o : okc P) : Cj yX6_isBalanced cX6_isBalanced 3 (some .int) (rmd 16) 0 0 cA ad [.ref (ad 0 0)] ex (mm (aM M X N C) F P) (Qe (some (.int (t_bal P zP).1)) ex (mm (aM M X N (t_bal P C).2) F P)) := by
  have h := K_bal (cA := cA) (ad := ad) (ex := ex) (M := aM M X N C) (F := F) (P := P) o
  rw [aM_15, aM_p15, q_bal (C := zP) (C' := C) sm_rfl] at h
  exact h
theorem KA_acc {k : Nat} (hk : k < 17) (o : okc P) : Cj yX6_account cX6_account 2 (some .int) (rmd 2) 0 0 cA ad [.ref (ad 0 0), .int (nI k)] ex (mm (aM M X N C) F P) (Qe (some (.int (f_acc zP zP P (nI k)))) ex (mm (aM M X N C) F P)) := by
  have h := K_acc (cA := cA) (ad := ad) (ex := ex) (M := aM M X N C) (F := F) (P := P) (x := nI k) o
  rw [q_acc (T := zP) (F := zP) hk sm_rfl] at h
  exact h
theorem KA_doneIn {s : Int32} (o : okP P) : Cj yX6_doneIn cX6_doneIn 3 (some .int) (rmd 5) 0 0 cA ad [.ref (ad 0 0), .int s] ex (mm (aM M X N C) F P) (Qe (some (.int (t_doneIn P zP s).1)) ex (mm (aM M (t_doneIn P X s).2 N C) F P)) := by
  have h := K_doneIn (cA := cA) (ad := ad) (ex := ex) (M := aM M X N C) (F := F) (P := P) (s := s) o.1 o.2.1 o.2.2.1 o.2.2.2.1
  rw [aM_2, aM_p2, q_doneIn (X := zP) (X' := X) sm_rfl o.1] at h
  exact h
theorem KA_chain {s : Int32} (o : okc P) : Cj yX6_chain cX6_chain 2 (some .int) (rmd 16) 0 0 cA ad [.ref (ad 0 0), .int s] ex (mm (aM M X N C) F P) (Qe (some (.int (t_chain P zP s).1)) ex (mm (aM M X N (t_chain P C s).2) F P)) := by
  have h := K_chain (cA := cA) (ad := ad) (ex := ex) (M := aM M X N C) (F := F) (P := P) (s := s) o
  rw [aM_15, aM_p15, q_chain (C := zP) (C' := C) sm_rfl o] at h
  exact h
theorem KA_chain2 {s : Int32} (o : okc P) : Cj yX6_chainAgain cX6_chainAgain 2 (some .int) (rmd 16) 0 0 cA ad [.ref (ad 0 0), .int s] ex (mm (aM M X N C) F P) (Qe (some (.int (t_chain2 P zP s).1)) ex (mm (aM M X N (t_chain2 P C s).2) F P)) := by
  have h := K_chain2 (cA := cA) (ad := ad) (ex := ex) (M := aM M X N C) (F := F) (P := P) (s := s) o
  rw [aM_15, aM_p15, q_chain2 (C := zP) (C' := C) sm_rfl o] at h
  exact h
theorem KA_tell {i : Nat} (hi : i < cn P) (o : okc P) : Cj yX6_tell cX6_tell 2 (some .int) (rmd 3) 0 0 cA ad [.ref (ad 0 0), .int (nI i)] ex (mm (aM M X N C) F P) (Qe (some (.int (nI (ll (k_N P i))))) ex (mm (aM M X (f_pst (pu N 0 1 0) i (P (4 + i))) C) F P)) := by
  have hh : f_hasStep P (nI i) = true := by
    simp only [f_hasStep, Bool.and_eq_true, decide_eq_true_eq]
    exact ⟨nI_pos (by have := o.2; omega), by rw [o.1]; exact nI_ge hi (by have := o.2; omega)⟩
  have e : t_tell P N (nI i) = (f_pst (pu N 0 1 0) i (P (4 + i)) 0 1, f_pst (pu N 0 1 0) i (P (4 + i))) := by
    rw [t_tell, hh, if_neg (by decide), nI_clamp (by have := o.2; omega)]
  have h := K_tell6 (cA := cA) (ad := ad) (ex := ex) (M := aM M X N C) (F := F) (P := P) (s := nI i) o
  rw [aM_14, aM_p14, e] at h
  have s := sN_tell (N := zP) (N' := N) (P := P) sm_rfl hi
  have e2 : f_pst (pu N 0 1 0) i (P (4 + i)) 0 1 = nI (ll (k_N P i)) := s.1.trans (okl_st okl_z).1
  rw [show (f_pst (pu N 0 1 0) i (P (4 + i)) 0 1, f_pst (pu N 0 1 0) i (P (4 + i))).1 = nI (ll (k_N P i)) from e2] at h
  exact h
theorem KA_tellAll (o : okc P) : Cj yX6_tellAll cX6_tellAll 2 (some .int) (rmd 5) 0 0 cA ad [.ref (ad 0 0)] ex (mm (aM M X N C) F P) (Qe (some (.int (nI (ll (f_tellAll P zP))))) ex (mm (aM M X (f_tellAll P N) C) F P)) := by
  have h := K_tellAll (cA := cA) (ad := ad) (ex := ex) (M := aM M X N C) (F := F) (P := P) o
  rw [aM_14, aM_p14] at h
  have s := sN_tellAll (N := zP) (N' := N) (P := P) sm_rfl
  rw [show f_tellAll P N 0 1 = nI (ll (f_tellAll P zP)) from s.1.trans (okl_ta _ _ _ okl_z).1] at h
  exact h
theorem KA_char {N0 : tP} {i : Nat} (o0 : okl N0) (s : sN N0 N) (hi : i < ll N0) (o : okl N) : Cj yX6_character cX6_character 2 (some .int) (rmd 0) 0 0 cA ad [.ref (ad 0 0), .int (nI i)] ex (mm (aM M X N C) F P) (Qe (some (.int (f_chr N0 (nI i)))) ex (mm (aM M X N C) F P)) := by
  have h := K_char (cA := cA) (ad := ad) (ex := ex) (M := aM M X N C) (F := F) (P := P) (x := nI i) (by rw [aM_14]; exact o)
  rw [aM_14, sN_chr o0 s hi] at h
  exact h
theorem ll_ps {c : Int32} {Q : tP} (o : okl Q) : ll (f_ps Q c) ≤ ll Q + 1 := by
  unfold f_ps
  split
  · omega
  · have hl := okl_lt o (by assumption)
    rw [ll, pu_s, pu_j (by omega), o.1, show nI (ll Q) + 1 = nI (ll Q + 1) from nI_1 _, nI_clamp (by omega)]
    omega
theorem ll_ta : ∀ (n i : Nat) (Q : tP), okl Q → ll (lp_ta P n i Q) ≤ ll Q + n := by
  intro n
  induction n with
  | zero => intro i Q _; exact Nat.le_refl _
  | succ n ih =>
    intro i Q o
    have h := ih (i + 1) _ (okl_pl (x := P (4 + i) 6) o)
    have h2 : ll (f_pl Q (P (4 + i) 6)) ≤ ll Q + 1 := by
      unfold f_pl
      split
      · omega
      · exact ll_ps o
    rw [lp_ta]
    omega
theorem ll_all {Q : tP} (o : okc P) : ll (f_tellAll P Q) ≤ 12 := by
  have h := ll_ta (P := P) (cn P) 0 (pu Q 0 1 0) okl_z
  have e : ll (pu Q 0 1 0) = 0 := by rw [ll, pu_s]; rfl
  rw [f_tellAll]
  have := o.2
  omega
end
theorem dL_asks_0 : decode cL_asks 0 = .ok (.ldc2_w 62, 3) := by decide +kernel
theorem dL_asks_3 : decode cL_asks 3 = .ok (.aload_n 0, 1) := by decide +kernel
theorem dL_asks_4 : decode cL_asks 4 = .ok (.invokevirtual 64, 3) := by decide +kernel
theorem dL_asks_7 : decode cL_asks 7 = .ok (.invokestatic 68, 3) := by decide +kernel
theorem dL_asks_10 : decode cL_asks 10 = .ok (.lmul, 1) := by decide +kernel
theorem dL_asks_11 : decode cL_asks 11 = .ok (.aload_n 0, 1) := by decide +kernel
theorem dL_asks_12 : decode cL_asks 12 = .ok (.invokevirtual 74, 3) := by decide +kernel
theorem dL_asks_15 : decode cL_asks 15 = .ok (.invokestatic 78, 3) := by decide +kernel
theorem dL_asks_18 : decode cL_asks 18 = .ok (.i2l, 1) := by decide +kernel
theorem dL_asks_19 : decode cL_asks 19 = .ok (.ladd, 1) := by decide +kernel
theorem dL_asks_20 : decode cL_asks 20 = .ok (.aload_n 0, 1) := by decide +kernel
theorem dL_asks_21 : decode cL_asks 21 = .ok (.invokevirtual 84, 3) := by decide +kernel
theorem dL_asks_24 : decode cL_asks 24 = .ok (.i2l, 1) := by decide +kernel
theorem dL_asks_25 : decode cL_asks 25 = .ok (.ladd, 1) := by decide +kernel
theorem dL_asks_26 : decode cL_asks 26 = .ok (.lstore_n 1, 1) := by decide +kernel
theorem dL_asks_27 : decode cL_asks 27 = .ok (.iconst 0, 1) := by decide +kernel
theorem dL_asks_28 : decode cL_asks 28 = .ok (.istore_n 3, 1) := by decide +kernel
theorem dL_asks_29 : decode cL_asks 29 = .ok (.iload_n 3, 1) := by decide +kernel
theorem dL_asks_30 : decode cL_asks 30 = .ok (.bipush 17, 2) := by decide +kernel
theorem dL_asks_32 : decode cL_asks 32 = .ok (.if_icmp .ge 22, 3) := by decide +kernel
theorem dL_asks_35 : decode cL_asks 35 = .ok (.ldc2_w 62, 3) := by decide +kernel
theorem dL_asks_38 : decode cL_asks 38 = .ok (.lload_n 1, 1) := by decide +kernel
theorem dL_asks_39 : decode cL_asks 39 = .ok (.lmul, 1) := by decide +kernel
theorem dL_asks_40 : decode cL_asks 40 = .ok (.aload_n 0, 1) := by decide +kernel
theorem dL_asks_41 : decode cL_asks 41 = .ok (.iload_n 3, 1) := by decide +kernel
theorem dL_asks_42 : decode cL_asks 42 = .ok (.invokevirtual 87, 3) := by decide +kernel
theorem dL_asks_45 : decode cL_asks 45 = .ok (.i2l, 1) := by decide +kernel
theorem dL_asks_46 : decode cL_asks 46 = .ok (.ladd, 1) := by decide +kernel
theorem dL_asks_47 : decode cL_asks 47 = .ok (.lstore_n 1, 1) := by decide +kernel
theorem dL_asks_48 : decode cL_asks 48 = .ok (.iinc 3 1, 3) := by decide +kernel
theorem dL_asks_51 : decode cL_asks 51 = .ok (.goto (-22), 3) := by decide +kernel
theorem dL_asks_54 : decode cL_asks 54 = .ok (.iconst 0, 1) := by decide +kernel
theorem dL_asks_55 : decode cL_asks 55 = .ok (.istore_n 3, 1) := by decide +kernel
theorem dL_asks_56 : decode cL_asks 56 = .ok (.iload_n 3, 1) := by decide +kernel
theorem dL_asks_57 : decode cL_asks 57 = .ok (.aload_n 0, 1) := by decide +kernel
theorem dL_asks_58 : decode cL_asks 58 = .ok (.iconst 1, 1) := by decide +kernel
theorem dL_asks_59 : decode cL_asks 59 = .ok (.invokevirtual 87, 3) := by decide +kernel
theorem dL_asks_62 : decode cL_asks 62 = .ok (.if_icmp .ge 134, 3) := by decide +kernel
theorem dL_asks_65 : decode cL_asks 65 = .ok (.iconst 0, 1) := by decide +kernel
theorem dL_asks_66 : decode cL_asks 66 = .ok (.istore 4, 2) := by decide +kernel
theorem dL_asks_68 : decode cL_asks 68 = .ok (.iload 4, 2) := by decide +kernel
theorem dL_asks_70 : decode cL_asks 70 = .ok (.bipush 10, 2) := by decide +kernel
theorem dL_asks_72 : decode cL_asks 72 = .ok (.if_icmp .ge 24, 3) := by decide +kernel
theorem dL_asks_75 : decode cL_asks 75 = .ok (.ldc2_w 62, 3) := by decide +kernel
theorem dL_asks_78 : decode cL_asks 78 = .ok (.lload_n 1, 1) := by decide +kernel
theorem dL_asks_79 : decode cL_asks 79 = .ok (.lmul, 1) := by decide +kernel
theorem dL_asks_80 : decode cL_asks 80 = .ok (.aload_n 0, 1) := by decide +kernel
theorem dL_asks_81 : decode cL_asks 81 = .ok (.iload_n 3, 1) := by decide +kernel
theorem dL_asks_82 : decode cL_asks 82 = .ok (.iload 4, 2) := by decide +kernel
theorem dL_asks_84 : decode cL_asks 84 = .ok (.invokevirtual 90, 3) := by decide +kernel
theorem dL_asks_87 : decode cL_asks 87 = .ok (.i2l, 1) := by decide +kernel
theorem dL_asks_88 : decode cL_asks 88 = .ok (.ladd, 1) := by decide +kernel
theorem dL_asks_89 : decode cL_asks 89 = .ok (.lstore_n 1, 1) := by decide +kernel
theorem dL_asks_90 : decode cL_asks 90 = .ok (.iinc 4 1, 3) := by decide +kernel
theorem dL_asks_93 : decode cL_asks 93 = .ok (.goto (-25), 3) := by decide +kernel
theorem dL_asks_96 : decode cL_asks 96 = .ok (.ldc2_w 62, 3) := by decide +kernel
theorem dL_asks_99 : decode cL_asks 99 = .ok (.ldc2_w 62, 3) := by decide +kernel
theorem dL_asks_102 : decode cL_asks 102 = .ok (.ldc2_w 62, 3) := by decide +kernel
theorem dL_asks_105 : decode cL_asks 105 = .ok (.ldc2_w 62, 3) := by decide +kernel
theorem dL_asks_108 : decode cL_asks 108 = .ok (.ldc2_w 62, 3) := by decide +kernel
theorem dL_asks_111 : decode cL_asks 111 = .ok (.lload_n 1, 1) := by decide +kernel
theorem dL_asks_112 : decode cL_asks 112 = .ok (.lmul, 1) := by decide +kernel
theorem dL_asks_113 : decode cL_asks 113 = .ok (.aload_n 0, 1) := by decide +kernel
theorem dL_asks_114 : decode cL_asks 114 = .ok (.iload_n 3, 1) := by decide +kernel
theorem dL_asks_115 : decode cL_asks 115 = .ok (.invokevirtual 93, 3) := by decide +kernel
theorem dL_asks_118 : decode cL_asks 118 = .ok (.i2l, 1) := by decide +kernel
theorem dL_asks_119 : decode cL_asks 119 = .ok (.ladd, 1) := by decide +kernel
theorem dL_asks_120 : decode cL_asks 120 = .ok (.lmul, 1) := by decide +kernel
theorem dL_asks_121 : decode cL_asks 121 = .ok (.aload_n 0, 1) := by decide +kernel
theorem dL_asks_122 : decode cL_asks 122 = .ok (.iload_n 3, 1) := by decide +kernel
theorem dL_asks_123 : decode cL_asks 123 = .ok (.invokevirtual 96, 3) := by decide +kernel
theorem dL_asks_126 : decode cL_asks 126 = .ok (.i2l, 1) := by decide +kernel
theorem dL_asks_127 : decode cL_asks 127 = .ok (.ladd, 1) := by decide +kernel
theorem dL_asks_128 : decode cL_asks 128 = .ok (.lmul, 1) := by decide +kernel
theorem dL_asks_129 : decode cL_asks 129 = .ok (.aload_n 0, 1) := by decide +kernel
theorem dL_asks_130 : decode cL_asks 130 = .ok (.iload_n 3, 1) := by decide +kernel
theorem dL_asks_131 : decode cL_asks 131 = .ok (.invokevirtual 99, 3) := by decide +kernel
theorem dL_asks_134 : decode cL_asks 134 = .ok (.i2l, 1) := by decide +kernel
theorem dL_asks_135 : decode cL_asks 135 = .ok (.ladd, 1) := by decide +kernel
theorem dL_asks_136 : decode cL_asks 136 = .ok (.lmul, 1) := by decide +kernel
theorem dL_asks_137 : decode cL_asks 137 = .ok (.aload_n 0, 1) := by decide +kernel
theorem dL_asks_138 : decode cL_asks 138 = .ok (.iload_n 3, 1) := by decide +kernel
theorem dL_asks_139 : decode cL_asks 139 = .ok (.invokevirtual 102, 3) := by decide +kernel
theorem dL_asks_142 : decode cL_asks 142 = .ok (.i2l, 1) := by decide +kernel
theorem dL_asks_143 : decode cL_asks 143 = .ok (.ladd, 1) := by decide +kernel
theorem dL_asks_144 : decode cL_asks 144 = .ok (.lmul, 1) := by decide +kernel
theorem dL_asks_145 : decode cL_asks 145 = .ok (.aload_n 0, 1) := by decide +kernel
theorem dL_asks_146 : decode cL_asks 146 = .ok (.iload_n 3, 1) := by decide +kernel
theorem dL_asks_147 : decode cL_asks 147 = .ok (.invokevirtual 105, 3) := by decide +kernel
theorem dL_asks_150 : decode cL_asks 150 = .ok (.i2l, 1) := by decide +kernel
theorem dL_asks_151 : decode cL_asks 151 = .ok (.ladd, 1) := by decide +kernel
theorem dL_asks_152 : decode cL_asks 152 = .ok (.lstore_n 1, 1) := by decide +kernel
theorem dL_asks_153 : decode cL_asks 153 = .ok (.aload_n 0, 1) := by decide +kernel
theorem dL_asks_154 : decode cL_asks 154 = .ok (.iload_n 3, 1) := by decide +kernel
theorem dL_asks_155 : decode cL_asks 155 = .ok (.invokevirtual 108, 3) := by decide +kernel
theorem dL_asks_158 : decode cL_asks 158 = .ok (.istore 4, 2) := by decide +kernel
theorem dL_asks_160 : decode cL_asks 160 = .ok (.iconst 0, 1) := by decide +kernel
theorem dL_asks_161 : decode cL_asks 161 = .ok (.istore 5, 2) := by decide +kernel
theorem dL_asks_163 : decode cL_asks 163 = .ok (.iload 5, 2) := by decide +kernel
theorem dL_asks_165 : decode cL_asks 165 = .ok (.iload 4, 2) := by decide +kernel
theorem dL_asks_167 : decode cL_asks 167 = .ok (.if_icmp .ge 23, 3) := by decide +kernel
theorem dL_asks_170 : decode cL_asks 170 = .ok (.ldc2_w 62, 3) := by decide +kernel
theorem dL_asks_173 : decode cL_asks 173 = .ok (.lload_n 1, 1) := by decide +kernel
theorem dL_asks_174 : decode cL_asks 174 = .ok (.lmul, 1) := by decide +kernel
theorem dL_asks_175 : decode cL_asks 175 = .ok (.aload_n 0, 1) := by decide +kernel
theorem dL_asks_176 : decode cL_asks 176 = .ok (.iload 5, 2) := by decide +kernel
theorem dL_asks_178 : decode cL_asks 178 = .ok (.invokevirtual 30, 3) := by decide +kernel
theorem dL_asks_181 : decode cL_asks 181 = .ok (.i2l, 1) := by decide +kernel
theorem dL_asks_182 : decode cL_asks 182 = .ok (.ladd, 1) := by decide +kernel
theorem dL_asks_183 : decode cL_asks 183 = .ok (.lstore_n 1, 1) := by decide +kernel
theorem dL_asks_184 : decode cL_asks 184 = .ok (.iinc 5 1, 3) := by decide +kernel
theorem dL_asks_187 : decode cL_asks 187 = .ok (.goto (-24), 3) := by decide +kernel
theorem dL_asks_190 : decode cL_asks 190 = .ok (.iinc 3 1, 3) := by decide +kernel
theorem dL_asks_193 : decode cL_asks 193 = .ok (.goto (-137), 3) := by decide +kernel
theorem dL_asks_196 : decode cL_asks 196 = .ok (.iconst 0, 1) := by decide +kernel
theorem dL_asks_197 : decode cL_asks 197 = .ok (.istore_n 3, 1) := by decide +kernel
theorem dL_asks_198 : decode cL_asks 198 = .ok (.iload_n 3, 1) := by decide +kernel
theorem dL_asks_199 : decode cL_asks 199 = .ok (.iconst 4, 1) := by decide +kernel
theorem dL_asks_200 : decode cL_asks 200 = .ok (.if_icmp .ge 39, 3) := by decide +kernel
theorem dL_asks_203 : decode cL_asks 203 = .ok (.iconst 0, 1) := by decide +kernel
theorem dL_asks_204 : decode cL_asks 204 = .ok (.istore 4, 2) := by decide +kernel
theorem dL_asks_206 : decode cL_asks 206 = .ok (.iload 4, 2) := by decide +kernel
theorem dL_asks_208 : decode cL_asks 208 = .ok (.iconst 4, 1) := by decide +kernel
theorem dL_asks_209 : decode cL_asks 209 = .ok (.if_icmp .ge 24, 3) := by decide +kernel
theorem dL_asks_212 : decode cL_asks 212 = .ok (.ldc2_w 62, 3) := by decide +kernel
theorem dL_asks_215 : decode cL_asks 215 = .ok (.lload_n 1, 1) := by decide +kernel
theorem dL_asks_216 : decode cL_asks 216 = .ok (.lmul, 1) := by decide +kernel
theorem dL_asks_217 : decode cL_asks 217 = .ok (.aload_n 0, 1) := by decide +kernel
theorem dL_asks_218 : decode cL_asks 218 = .ok (.iload_n 3, 1) := by decide +kernel
theorem dL_asks_219 : decode cL_asks 219 = .ok (.iload 4, 2) := by decide +kernel
theorem dL_asks_221 : decode cL_asks 221 = .ok (.invokevirtual 111, 3) := by decide +kernel
theorem dL_asks_224 : decode cL_asks 224 = .ok (.i2l, 1) := by decide +kernel
theorem dL_asks_225 : decode cL_asks 225 = .ok (.ladd, 1) := by decide +kernel
theorem dL_asks_226 : decode cL_asks 226 = .ok (.lstore_n 1, 1) := by decide +kernel
theorem dL_asks_227 : decode cL_asks 227 = .ok (.iinc 4 1, 3) := by decide +kernel
theorem dL_asks_230 : decode cL_asks 230 = .ok (.goto (-24), 3) := by decide +kernel
theorem dL_asks_233 : decode cL_asks 233 = .ok (.iinc 3 1, 3) := by decide +kernel
theorem dL_asks_236 : decode cL_asks 236 = .ok (.goto (-38), 3) := by decide +kernel
theorem dL_asks_239 : decode cL_asks 239 = .ok (.iconst 0, 1) := by decide +kernel
theorem dL_asks_240 : decode cL_asks 240 = .ok (.istore_n 3, 1) := by decide +kernel
theorem dL_asks_241 : decode cL_asks 241 = .ok (.iload_n 3, 1) := by decide +kernel
theorem dL_asks_242 : decode cL_asks 242 = .ok (.bipush 16, 2) := by decide +kernel
theorem dL_asks_244 : decode cL_asks 244 = .ok (.if_icmp .ge 39, 3) := by decide +kernel
theorem dL_asks_247 : decode cL_asks 247 = .ok (.iconst 0, 1) := by decide +kernel
theorem dL_asks_248 : decode cL_asks 248 = .ok (.istore 4, 2) := by decide +kernel
theorem dL_asks_250 : decode cL_asks 250 = .ok (.iload 4, 2) := by decide +kernel
theorem dL_asks_252 : decode cL_asks 252 = .ok (.iconst 3, 1) := by decide +kernel
theorem dL_asks_253 : decode cL_asks 253 = .ok (.if_icmp .ge 24, 3) := by decide +kernel
theorem dL_asks_256 : decode cL_asks 256 = .ok (.ldc2_w 62, 3) := by decide +kernel
theorem dL_asks_259 : decode cL_asks 259 = .ok (.lload_n 1, 1) := by decide +kernel
theorem dL_asks_260 : decode cL_asks 260 = .ok (.lmul, 1) := by decide +kernel
theorem dL_asks_261 : decode cL_asks 261 = .ok (.aload_n 0, 1) := by decide +kernel
theorem dL_asks_262 : decode cL_asks 262 = .ok (.iload_n 3, 1) := by decide +kernel
theorem dL_asks_263 : decode cL_asks 263 = .ok (.iload 4, 2) := by decide +kernel
theorem dL_asks_265 : decode cL_asks 265 = .ok (.invokevirtual 114, 3) := by decide +kernel
theorem dL_asks_268 : decode cL_asks 268 = .ok (.i2l, 1) := by decide +kernel
theorem dL_asks_269 : decode cL_asks 269 = .ok (.ladd, 1) := by decide +kernel
theorem dL_asks_270 : decode cL_asks 270 = .ok (.lstore_n 1, 1) := by decide +kernel
theorem dL_asks_271 : decode cL_asks 271 = .ok (.iinc 4 1, 3) := by decide +kernel
theorem dL_asks_274 : decode cL_asks 274 = .ok (.goto (-24), 3) := by decide +kernel
theorem dL_asks_277 : decode cL_asks 277 = .ok (.iinc 3 1, 3) := by decide +kernel
theorem dL_asks_280 : decode cL_asks 280 = .ok (.goto (-39), 3) := by decide +kernel
theorem dL_asks_283 : decode cL_asks 283 = .ok (.aload_n 0, 1) := by decide +kernel
theorem dL_asks_284 : decode cL_asks 284 = .ok (.invokevirtual 117, 3) := by decide +kernel
theorem dL_asks_287 : decode cL_asks 287 = .ok (.istore_n 3, 1) := by decide +kernel
theorem dL_asks_288 : decode cL_asks 288 = .ok (.iconst 0, 1) := by decide +kernel
theorem dL_asks_289 : decode cL_asks 289 = .ok (.istore 4, 2) := by decide +kernel
theorem dL_asks_291 : decode cL_asks 291 = .ok (.iload 4, 2) := by decide +kernel
theorem dL_asks_293 : decode cL_asks 293 = .ok (.iload_n 3, 1) := by decide +kernel
theorem dL_asks_294 : decode cL_asks 294 = .ok (.if_icmp .ge 23, 3) := by decide +kernel
theorem dL_asks_297 : decode cL_asks 297 = .ok (.ldc2_w 62, 3) := by decide +kernel
theorem dL_asks_300 : decode cL_asks 300 = .ok (.lload_n 1, 1) := by decide +kernel
theorem dL_asks_301 : decode cL_asks 301 = .ok (.lmul, 1) := by decide +kernel
theorem dL_asks_302 : decode cL_asks 302 = .ok (.aload_n 0, 1) := by decide +kernel
theorem dL_asks_303 : decode cL_asks 303 = .ok (.iload 4, 2) := by decide +kernel
theorem dL_asks_305 : decode cL_asks 305 = .ok (.invokevirtual 30, 3) := by decide +kernel
theorem dL_asks_308 : decode cL_asks 308 = .ok (.i2l, 1) := by decide +kernel
theorem dL_asks_309 : decode cL_asks 309 = .ok (.ladd, 1) := by decide +kernel
theorem dL_asks_310 : decode cL_asks 310 = .ok (.lstore_n 1, 1) := by decide +kernel
theorem dL_asks_311 : decode cL_asks 311 = .ok (.iinc 4 1, 3) := by decide +kernel
theorem dL_asks_314 : decode cL_asks 314 = .ok (.goto (-23), 3) := by decide +kernel
theorem dL_asks_317 : decode cL_asks 317 = .ok (.ldc2_w 62, 3) := by decide +kernel
theorem dL_asks_320 : decode cL_asks 320 = .ok (.lload_n 1, 1) := by decide +kernel
theorem dL_asks_321 : decode cL_asks 321 = .ok (.lmul, 1) := by decide +kernel
theorem dL_asks_322 : decode cL_asks 322 = .ok (.aload_n 0, 1) := by decide +kernel
theorem dL_asks_323 : decode cL_asks 323 = .ok (.invokevirtual 120, 3) := by decide +kernel
theorem dL_asks_326 : decode cL_asks 326 = .ok (.i2l, 1) := by decide +kernel
theorem dL_asks_327 : decode cL_asks 327 = .ok (.ladd, 1) := by decide +kernel
theorem dL_asks_328 : decode cL_asks 328 = .ok (.lreturn, 1) := by decide +kernel
theorem dcL_asks : yL_asks.cls = RL ∧ yL_asks.cls ≠ "java/lang/invoke/MethodHandle" ∧ yL_asks.cls ≠ "java/lang/invoke/VarHandle" ∧ (parseMethodDescriptor yL_asks.desc).map (fun d => d.parameters.length) = some 1 := by decide +kernel
theorem gL_asks_323 : GoodIn wsL_law (wsV RL 120 RX6 yX6_late (.code yX6_late cX6_late 3 (some .int) :: wsL_law)) := g_V q612 q613 q614 q2 q615
theorem gL_asks_305 : GoodIn wsL_law (wsV RL 30 RX6 yX6_character (.code yX6_character cX6_character 2 (some .int) :: wsL_law)) := g_V q580 q581 q582 q2 q583
theorem gL_asks_284 : GoodIn wsL_law (wsV RL 117 RX6 yX6_tellAll (.code yX6_tellAll cX6_tellAll 2 (some .int) :: wsL_law)) := g_V q602 q603 q604 q2 q605
theorem gL_asks_265 : GoodIn wsL_law (wsV RL 114 RX6 yX6_logged (.code yX6_logged cX6_logged 4 (some .int) :: wsL_law)) := g_V q595 q596 q597 q2 q598
theorem gL_asks_221 : GoodIn wsL_law (wsV RL 111 RX6 yX6_milestoneOf (.code yX6_milestoneOf cX6_milestoneOf 4 (some .int) :: wsL_law)) := g_V q585 q586 q587 q2 q588
theorem gL_asks_59 : GoodIn wsL_law (wsV RL 87 RX6 yX6_account (.code yX6_account cX6_account 2 (some .int) :: wsL_law)) := g_V q149 q150 q151 q2 q152
theorem gL_asks_178 : GoodIn wsL_law (wsV RL 30 RX6 yX6_character (.code yX6_character cX6_character 2 (some .int) :: wsL_law)) := g_V q580 q581 q582 q2 q583
theorem gL_asks_115 : GoodIn wsL_law (wsV RL 93 RX6 yX6_ready (.code yX6_ready cX6_ready 2 (some .int) :: wsL_law)) := g_V q539 q540 q541 q2 q542
theorem gL_asks_123 : GoodIn wsL_law (wsV RL 96 RX6 yX6_doneIn (.code yX6_doneIn cX6_doneIn 3 (some .int) :: wsL_law)) := g_V q467 q468 q469 q2 q470
theorem gL_asks_131 : GoodIn wsL_law (wsV RL 99 RX6 yX6_chain (.code yX6_chain cX6_chain 2 (some .int) :: wsL_law)) := g_V q437 q438 q439 q2 q440
theorem gL_asks_139 : GoodIn wsL_law (wsV RL 102 RX6 yX6_chainAgain (.code yX6_chainAgain cX6_chainAgain 2 (some .int) :: wsL_law)) := g_V q454 q455 q456 q2 q457
theorem gL_asks_147 : GoodIn wsL_law (wsV RL 105 RX6 yX6_ranked (.code yX6_ranked cX6_ranked 3 (some .int) :: wsL_law)) := g_V q545 q546 q547 q2 q548
theorem gL_asks_155 : GoodIn wsL_law (wsV RL 108 RX6 yX6_tell (.code yX6_tell cX6_tell 2 (some .int) :: wsL_law)) := g_V q557 q558 q559 q2 q560
theorem gL_asks_84 : GoodIn wsL_law (wsV RL 90 RX6 yX6_stepOf (.code yX6_stepOf cX6_stepOf 4 (some .int) :: wsL_law)) := g_V q475 q476 q477 q2 q478
theorem gL_asks_42 : GoodIn wsL_law (wsV RL 87 RX6 yX6_account (.code yX6_account cX6_account 2 (some .int) :: wsL_law)) := g_V q149 q150 q151 q2 q152
theorem gL_asks_4 : GoodIn wsL_law (wsV RL 64 RX6 yX6_meanDays (.code yX6_meanDays cX6_meanDays 3 (some .double) :: wsL_law)) := g_V q503 q504 q505 q2 q506
theorem gL_asks_12 : GoodIn wsL_law (wsV RL 74 RX6 yX6_wrongShare (.code yX6_wrongShare cX6_wrongShare 1 (some .float) :: wsL_law)) := g_V q519 q520 q521 q2 q522
theorem gL_asks_7 : gS RL 68 yJxe99ae_doubleToLongBits_ccdee cJxe99ae_doubleToLongBits_ccdee 2 (some .long) := ⟨q507, q508, q509, q510⟩
theorem gL_asks_15 : gS RL 78 yJxf58ca_floatToIntBits_5c35a cJxf58ca_floatToIntBits_5c35a 1 (some .int) := ⟨q523, q524, q525, q526⟩
theorem gL_asks_21 : GoodIn wsL_law (wsV RL 84 RX6 yX6_isBalanced (.code yX6_isBalanced cX6_isBalanced 3 (some .int) :: wsL_law)) := g_V q535 q536 q537 q2 q538
set_option maxRecDepth 100000 in
set_option maxHeartbeats 4000000 in
theorem K_asks {cA : Nat → ClassId} {ad : tA} {ex : va_W} {M : tM} {F P : tP} (o : okP P) (hl : okl (M 14)) : Cj yL_asks cL_asks 6 (some .long) (rmd 18) 0 0 cA ad [.ref (ad 0 0)] ex (mm M F P) (Qk (f_asks P) ex M F P) := by
  refine c_of_r (lv0 := [some (.ref (ad 0 0)), none, none, none, none, none]) rfl (by decide +kernel) (Nat.le_of_ble_eq_true rfl) rfl ?_
  obtain ⟨hoc, hob, hoe, hoh, hon, hoU, hoE⟩ := id o
  have hoM := okU_M hoU hoc
  have L8 : ∀ (X N C : tP), okl N → sN (f_tellAll P zP) N → ∀ (n i : Nat) (s : Int64), i + n = ll (f_tellAll P zP) → lpK (fun j => f_chr (f_tellAll P zP) (nI j)) n i s = k_e P → Rj cL_asks RL 6 (some .long) (rmd 18) 0 0 cA ad (Qk (f_asks P) ex M F P) ex 0 0 291 [some (.ref (ad 0 0)), some (.long s), none, some (.int (nI (ll (f_tellAll P zP)))), some (.int (nI i)), none] [] (mm (aM M X N C) F P) := by
    intro X N C hl hs n
    have h12 := ll_all (P := P) (Q := zP) hoc
    induction n with
    | zero =>
      intro i s h hx
      refine r_iload dL_asks_291 rfl ?_
      refine r_iload_n dL_asks_293 rfl ?_
      refine r_icmp_ge (tgt := 317) dL_asks_294 (by decide) (fun c294 => ?_) (fun c294 => absurd (lp_z rfl h) c294)
      refine r_ldc2 dL_asks_317 q502 ?_
      refine r_lload_n dL_asks_320 rfl ?_
      refine r_lmul dL_asks_321 ?_
      refine r_aload_n dL_asks_322 rfl ?_
      refine r_cVi dL_asks_323 (K_late hon hoM) gL_asks_323 dcX6_late rfl rfl rfl (Nat.le_of_ble_eq_true rfl) ob_tf ?_
      refine r_i2l dL_asks_326 rfl ?_
      refine r_ladd dL_asks_327 ?_
      exact r_lret rfl dL_asks_328 (Nat.le_refl _) (Nat.le_refl _) ⟨by rw [f_asks, ← hx]; rfl, rfl, X, N, C, ⟨hl, by rw [sN_ll hs]; exact h12⟩, rfl⟩
    | succ n ih =>
      intro i s h hx
      refine r_iload dL_asks_291 rfl ?_
      refine r_iload_n dL_asks_293 rfl ?_
      refine r_icmp_ge (tgt := 317) dL_asks_294 (by decide) (fun c294 => absurd c294 (lq_s rfl (by omega) h)) (fun c294 => ?_)
      refine r_ldc2 dL_asks_297 q502 ?_
      refine r_lload_n dL_asks_300 rfl ?_
      refine r_lmul dL_asks_301 ?_
      refine r_aload_n dL_asks_302 rfl ?_
      refine r_iload dL_asks_303 rfl ?_
      refine r_cVi dL_asks_305 (KA_char (N0 := f_tellAll P zP) (okl_ta _ _ _ okl_z) hs (by omega) hl) gL_asks_305 dcX6_character rfl rfl rfl (Nat.le_of_ble_eq_true rfl) ob_tf ?_
      refine r_i2l dL_asks_308 rfl ?_
      refine r_ladd dL_asks_309 ?_
      refine r_lstore_n dL_asks_310 (by decide) rfl ?_
      refine r_iinc dL_asks_311 rfl ii_s (by decide) rfl ?_
      refine r_goto (tgt := 291) dL_asks_314 (by decide) ?_
      exact ih (i + 1) _ (by omega) hx
  have L7 : ∀ (X N C : tP), okl N → ∀ (n k : Nat) (s : Int64), k + n = 16 → lp_k (k_log P) n k s = k_d P → Rj cL_asks RL 6 (some .long) (rmd 18) 0 0 cA ad (Qk (f_asks P) ex M F P) ex 0 0 241 [some (.ref (ad 0 0)), some (.long s), none, some (.int (nI k)), none, none] [] (mm (aM M X N C) F P) := by
    intro X N C hl n
    induction n with
    | zero =>
      intro k s h hx
      refine r_iload_n dL_asks_241 rfl ?_
      refine r_bipush (v := 16) dL_asks_242 (by decide) ?_
      refine r_icmp_ge (tgt := 283) dL_asks_244 (by decide) (fun c244 => ?_) (fun c244 => absurd (lp_z (c := 16) rfl h) c244)
      refine r_aload_n dL_asks_283 rfl ?_
      refine r_cVi dL_asks_284 (KA_tellAll hoc) gL_asks_284 dcX6_tellAll rfl rfl rfl (Nat.le_of_ble_eq_true rfl) ob_tf ?_
      refine r_istore_n dL_asks_287 (by decide) rfl ?_
      refine r_iconst (v := 0) dL_asks_288 (by decide) ?_
      refine r_istore dL_asks_289 (by decide) rfl ?_
      exact L8 X (f_tellAll P N) C (okl_ta _ _ _ okl_z) (sN_tellAll sm_rfl) (ll (f_tellAll P zP)) 0 s (by omega) (by rw [k_e, ← hx]; rfl)
    | succ n ih =>
      intro k s h hx
      have Li : ∀ (n2 i : Nat) (s2 : Int64), i + n2 = 3 → lpK (fun w => f_log P (nI k) (nI w)) n2 i s2 = k_log P k s → Rj cL_asks RL 6 (some .long) (rmd 18) 0 0 cA ad (Qk (f_asks P) ex M F P) ex 0 0 250 [some (.ref (ad 0 0)), some (.long s2), none, some (.int (nI k)), some (.int (nI i)), none] [] (mm (aM M X N C) F P) := by
        intro n2
        induction n2 with
        | zero =>
          intro i s2 h2 hx2
          refine r_iload dL_asks_250 rfl ?_
          refine r_iconst (v := 3) dL_asks_252 (by decide) ?_
          refine r_icmp_ge (tgt := 277) dL_asks_253 (by decide) (fun c253 => ?_) (fun c253 => absurd (lp_z (c := 3) rfl h2) c253)
          refine r_iinc dL_asks_277 rfl ii_s (by decide) rfl ?_
          refine r_goto (tgt := 241) dL_asks_280 (by decide) ?_
          refine r_fgt 4 ?_
          exact ih (k + 1) _ (by omega) (by rw [show s2 = k_log P k s from hx2]; exact hx)
        | succ n2 ih2 =>
          intro i s2 h2 hx2
          refine r_iload dL_asks_250 rfl ?_
          refine r_iconst (v := 3) dL_asks_252 (by decide) ?_
          refine r_icmp_ge (tgt := 277) dL_asks_253 (by decide) (fun c253 => absurd c253 (lp_s (c := 3) rfl (by omega) h2)) (fun c253 => ?_)
          refine r_ldc2 dL_asks_256 q502 ?_
          refine r_lload_n dL_asks_259 rfl ?_
          refine r_lmul dL_asks_260 ?_
          refine r_aload_n dL_asks_261 rfl ?_
          refine r_iload_n dL_asks_262 rfl ?_
          refine r_iload dL_asks_263 rfl ?_
          refine r_cVi dL_asks_265 (K_logged hoe hoE) gL_asks_265 dcX6_logged rfl rfl rfl (Nat.le_of_ble_eq_true rfl) ob_tf ?_
          refine r_i2l dL_asks_268 rfl ?_
          refine r_ladd dL_asks_269 ?_
          refine r_lstore_n dL_asks_270 (by decide) rfl ?_
          refine r_iinc dL_asks_271 rfl ii_s (by decide) rfl ?_
          refine r_goto (tgt := 250) dL_asks_274 (by decide) ?_
          exact ih2 (i + 1) _ (by omega) hx2
      refine r_iload_n dL_asks_241 rfl ?_
      refine r_bipush (v := 16) dL_asks_242 (by decide) ?_
      refine r_icmp_ge (tgt := 283) dL_asks_244 (by decide) (fun c244 => absurd c244 (lq_s (c := 16) rfl (by omega) h)) (fun c244 => ?_)
      refine r_iconst (v := 0) dL_asks_247 (by decide) ?_
      refine r_istore dL_asks_248 (by decide) rfl ?_
      exact Li 3 0 s (by omega) rfl
  have L6 : ∀ (X N C : tP), okl N → ∀ (n k : Nat) (s : Int64), k + n = 4 → lp_k (k_mile P) n k s = k_c P → Rj cL_asks RL 6 (some .long) (rmd 18) 0 0 cA ad (Qk (f_asks P) ex M F P) ex 0 0 198 [some (.ref (ad 0 0)), some (.long s), none, some (.int (nI k)), none, none] [] (mm (aM M X N C) F P) := by
    intro X N C hl n
    induction n with
    | zero =>
      intro k s h hx
      refine r_iload_n dL_asks_198 rfl ?_
      refine r_iconst (v := 4) dL_asks_199 (by decide) ?_
      refine r_icmp_ge (tgt := 239) dL_asks_200 (by decide) (fun c200 => ?_) (fun c200 => absurd (lp_z (c := 4) rfl h) c200)
      refine r_iconst (v := 0) dL_asks_239 (by decide) ?_
      refine r_istore_n dL_asks_240 (by decide) rfl ?_
      exact L7 X N C hl 16 0 s (by omega) (by rw [k_d, ← hx]; rfl)
    | succ n ih =>
      intro k s h hx
      have Li : ∀ (n2 i : Nat) (s2 : Int64), i + n2 = 4 → lpK (fun w => f_mileOf P (nI k) (nI w)) n2 i s2 = k_mile P k s → Rj cL_asks RL 6 (some .long) (rmd 18) 0 0 cA ad (Qk (f_asks P) ex M F P) ex 0 0 206 [some (.ref (ad 0 0)), some (.long s2), none, some (.int (nI k)), some (.int (nI i)), none] [] (mm (aM M X N C) F P) := by
        intro n2
        induction n2 with
        | zero =>
          intro i s2 h2 hx2
          refine r_iload dL_asks_206 rfl ?_
          refine r_iconst (v := 4) dL_asks_208 (by decide) ?_
          refine r_icmp_ge (tgt := 233) dL_asks_209 (by decide) (fun c209 => ?_) (fun c209 => absurd (lp_z (c := 4) rfl h2) c209)
          refine r_iinc dL_asks_233 rfl ii_s (by decide) rfl ?_
          refine r_goto (tgt := 198) dL_asks_236 (by decide) ?_
          refine r_fgt 4 ?_
          exact ih (k + 1) _ (by omega) (by rw [show s2 = k_mile P k s from hx2]; exact hx)
        | succ n2 ih2 =>
          intro i s2 h2 hx2
          refine r_iload dL_asks_206 rfl ?_
          refine r_iconst (v := 4) dL_asks_208 (by decide) ?_
          refine r_icmp_ge (tgt := 233) dL_asks_209 (by decide) (fun c209 => absurd c209 (lp_s (c := 4) rfl (by omega) h2)) (fun c209 => ?_)
          refine r_ldc2 dL_asks_212 q502 ?_
          refine r_lload_n dL_asks_215 rfl ?_
          refine r_lmul dL_asks_216 ?_
          refine r_aload_n dL_asks_217 rfl ?_
          refine r_iload_n dL_asks_218 rfl ?_
          refine r_iload dL_asks_219 rfl ?_
          refine r_cVi dL_asks_221 (K_mileOf hoc hon hoM) gL_asks_221 dcX6_milestoneOf rfl rfl rfl (Nat.le_of_ble_eq_true rfl) ob_tf ?_
          refine r_i2l dL_asks_224 rfl ?_
          refine r_ladd dL_asks_225 ?_
          refine r_lstore_n dL_asks_226 (by decide) rfl ?_
          refine r_iinc dL_asks_227 rfl ii_s (by decide) rfl ?_
          refine r_goto (tgt := 206) dL_asks_230 (by decide) ?_
          exact ih2 (i + 1) _ (by omega) hx2
      refine r_iload_n dL_asks_198 rfl ?_
      refine r_iconst (v := 4) dL_asks_199 (by decide) ?_
      refine r_icmp_ge (tgt := 239) dL_asks_200 (by decide) (fun c200 => absurd c200 (lq_s (c := 4) rfl (by omega) h)) (fun c200 => ?_)
      refine r_iconst (v := 0) dL_asks_203 (by decide) ?_
      refine r_istore dL_asks_204 (by decide) rfl ?_
      exact Li 4 0 s (by omega) rfl
  have L5 : ∀ (n k : Nat) (s : Int64) (X N C : tP), okl N → k + n = cn P → lp_k (k_step P) n k s = k_b P → Rj cL_asks RL 6 (some .long) (rmd 18) 0 0 cA ad (Qk (f_asks P) ex M F P) ex 0 0 56 [some (.ref (ad 0 0)), some (.long s), none, some (.int (nI k)), none, none] [] (mm (aM M X N C) F P) := by
    intro n
    induction n with
    | zero =>
      intro k s X N C hl h hx
      have hacc : f_acc zP zP P (nI 1) = P 0 1 := rfl
      refine r_iload_n dL_asks_56 rfl ?_
      refine r_aload_n dL_asks_57 rfl ?_
      refine r_iconst (v := 1) dL_asks_58 (by decide) ?_
      refine r_cVi dL_asks_59 (KA_acc (k := 1) (by omega) hoc) gL_asks_59 dcX6_account rfl rfl rfl (Nat.le_of_ble_eq_true rfl) ob_tf ?_
      rw [hacc]
      refine r_icmp_ge (tgt := 196) dL_asks_62 (by decide) (fun c62 => ?_) (fun c62 => absurd (lp_z hoc.1 h) c62)
      refine r_iconst (v := 0) dL_asks_196 (by decide) ?_
      refine r_istore_n dL_asks_197 (by decide) rfl ?_
      exact L6 X N C hl 4 0 s (by omega) (by rw [k_c, ← hx]; rfl)
    | succ n ih =>
      intro k s X N C hl h hx
      have hacc : f_acc zP zP P (nI 1) = P 0 1 := rfl
      have hk : k < cn P := by omega
      have Lc : ∀ (X N C : tP), okl N → sN (k_N P k) N → ∀ (n2 i : Nat) (s2 : Int64), i + n2 = ll (k_N P k) → lpK (fun j => f_chr (k_N P k) (nI j)) n2 i s2 = k_step P k s → Rj cL_asks RL 6 (some .long) (rmd 18) 0 0 cA ad (Qk (f_asks P) ex M F P) ex 0 0 163 [some (.ref (ad 0 0)), some (.long s2), none, some (.int (nI k)), some (.int (nI (ll (k_N P k)))), some (.int (nI i))] [] (mm (aM M X N C) F P) := by
        intro X N C hl hs n2
        have h64 := (okl_st (N := pu zP 0 1 0) (s := k) (w := P (4 + k)) okl_z).2
        have h64 : ll (k_N P k) ≤ 64 := h64
        induction n2 with
        | zero =>
          intro i s2 h2 hx2
          refine r_iload dL_asks_163 rfl ?_
          refine r_iload dL_asks_165 rfl ?_
          refine r_icmp_ge (tgt := 190) dL_asks_167 (by decide) (fun c167 => ?_) (fun c167 => absurd (lp_z rfl h2) c167)
          refine r_iinc dL_asks_190 rfl ii_s (by decide) rfl ?_
          refine r_goto (tgt := 56) dL_asks_193 (by decide) ?_
          refine r_fgt 4 ?_
          refine r_fgt 5 ?_
          exact ih (k + 1) _ X N C hl (by omega) (by rw [show s2 = k_step P k s from hx2]; exact hx)
        | succ n2 ih2 =>
          intro i s2 h2 hx2
          refine r_iload dL_asks_163 rfl ?_
          refine r_iload dL_asks_165 rfl ?_
          refine r_icmp_ge (tgt := 190) dL_asks_167 (by decide) (fun c167 => absurd c167 (lq_s rfl (by omega) h2)) (fun c167 => ?_)
          refine r_ldc2 dL_asks_170 q502 ?_
          refine r_lload_n dL_asks_173 rfl ?_
          refine r_lmul dL_asks_174 ?_
          refine r_aload_n dL_asks_175 rfl ?_
          refine r_iload dL_asks_176 rfl ?_
          refine r_cVi dL_asks_178 (KA_char (N0 := k_N P k) (okl_st okl_z) hs (by omega) hl) gL_asks_178 dcX6_character rfl rfl rfl (Nat.le_of_ble_eq_true rfl) ob_tf ?_
          refine r_i2l dL_asks_181 rfl ?_
          refine r_ladd dL_asks_182 ?_
          refine r_lstore_n dL_asks_183 (by decide) rfl ?_
          refine r_iinc dL_asks_184 rfl ii_s (by decide) rfl ?_
          refine r_goto (tgt := 163) dL_asks_187 (by decide) ?_
          exact ih2 (i + 1) _ (by omega) hx2
      have Li : ∀ (n2 i : Nat) (s2 : Int64), i + n2 = 10 → lpK (fun w => f_stepOf P (nI k) (nI w)) n2 i s2 = lpK (fun w => f_stepOf P (nI k) (nI w)) 10 0 s → Rj cL_asks RL 6 (some .long) (rmd 18) 0 0 cA ad (Qk (f_asks P) ex M F P) ex 0 0 68 [some (.ref (ad 0 0)), some (.long s2), none, some (.int (nI k)), some (.int (nI i)), none] [] (mm (aM M X N C) F P) := by
        intro n2
        induction n2 with
        | zero =>
          intro i s2 h2 hx2
          refine r_iload dL_asks_68 rfl ?_
          refine r_bipush (v := 10) dL_asks_70 (by decide) ?_
          refine r_icmp_ge (tgt := 96) dL_asks_72 (by decide) (fun c72 => ?_) (fun c72 => absurd (lp_z (c := 10) rfl h2) c72)
          refine r_ldc2 dL_asks_96 q502 ?_
          refine r_ldc2 dL_asks_99 q502 ?_
          refine r_ldc2 dL_asks_102 q502 ?_
          refine r_ldc2 dL_asks_105 q502 ?_
          refine r_ldc2 dL_asks_108 q502 ?_
          refine r_lload_n dL_asks_111 rfl ?_
          refine r_lmul dL_asks_112 ?_
          refine r_aload_n dL_asks_113 rfl ?_
          refine r_iload_n dL_asks_114 rfl ?_
          refine r_cV16i dL_asks_115 (K_ready hoc) gL_asks_115 dcX6_ready rfl rfl rfl (Nat.le_of_ble_eq_true rfl) ob_tf ?_
          refine r_i2l dL_asks_118 rfl ?_
          refine r_ladd dL_asks_119 ?_
          refine r_lmul dL_asks_120 ?_
          refine r_aload_n dL_asks_121 rfl ?_
          refine r_iload_n dL_asks_122 rfl ?_
          refine r_cVi dL_asks_123 (KA_doneIn o) gL_asks_123 dcX6_doneIn rfl rfl rfl (Nat.le_of_ble_eq_true rfl) ob_tf ?_
          refine r_i2l dL_asks_126 rfl ?_
          refine r_ladd dL_asks_127 ?_
          refine r_lmul dL_asks_128 ?_
          refine r_aload_n dL_asks_129 rfl ?_
          refine r_iload_n dL_asks_130 rfl ?_
          refine r_cVi dL_asks_131 (KA_chain hoc) gL_asks_131 dcX6_chain rfl rfl rfl (Nat.le_of_ble_eq_true rfl) ob_tf ?_
          refine r_i2l dL_asks_134 rfl ?_
          refine r_ladd dL_asks_135 ?_
          refine r_lmul dL_asks_136 ?_
          refine r_aload_n dL_asks_137 rfl ?_
          refine r_iload_n dL_asks_138 rfl ?_
          refine r_cVi dL_asks_139 (KA_chain2 hoc) gL_asks_139 dcX6_chainAgain rfl rfl rfl (Nat.le_of_ble_eq_true rfl) ob_tf ?_
          refine r_i2l dL_asks_142 rfl ?_
          refine r_ladd dL_asks_143 ?_
          refine r_lmul dL_asks_144 ?_
          refine r_aload_n dL_asks_145 rfl ?_
          refine r_iload_n dL_asks_146 rfl ?_
          refine r_cVi dL_asks_147 (K_ranked hoc) gL_asks_147 dcX6_ranked rfl rfl rfl (Nat.le_of_ble_eq_true rfl) ob_tf ?_
          refine r_i2l dL_asks_150 rfl ?_
          refine r_ladd dL_asks_151 ?_
          refine r_lstore_n dL_asks_152 (by decide) rfl ?_
          refine r_aload_n dL_asks_153 rfl ?_
          refine r_iload_n dL_asks_154 rfl ?_
          refine r_cVi dL_asks_155 (KA_tell hk hoc) gL_asks_155 dcX6_tell rfl rfl rfl (Nat.le_of_ble_eq_true rfl) ob_tf ?_
          refine r_istore dL_asks_158 (by decide) rfl ?_
          refine r_iconst (v := 0) dL_asks_160 (by decide) ?_
          refine r_istore dL_asks_161 (by decide) rfl ?_
          exact Lc _ (f_pst (pu N 0 1 0) k (P (4 + k))) _ (okl_st okl_z) (sN_tell sm_rfl hk) (ll (k_N P k)) 0 _ (by omega) (by rw [k_step, k_chr, ← hx2]; rfl)
        | succ n2 ih2 =>
          intro i s2 h2 hx2
          refine r_iload dL_asks_68 rfl ?_
          refine r_bipush (v := 10) dL_asks_70 (by decide) ?_
          refine r_icmp_ge (tgt := 96) dL_asks_72 (by decide) (fun c72 => absurd c72 (lp_s (c := 10) rfl (by omega) h2)) (fun c72 => ?_)
          refine r_ldc2 dL_asks_75 q502 ?_
          refine r_lload_n dL_asks_78 rfl ?_
          refine r_lmul dL_asks_79 ?_
          refine r_aload_n dL_asks_80 rfl ?_
          refine r_iload_n dL_asks_81 rfl ?_
          refine r_iload dL_asks_82 rfl ?_
          refine r_cVi dL_asks_84 (K_stepOf hoc) gL_asks_84 dcX6_stepOf rfl rfl rfl (Nat.le_of_ble_eq_true rfl) ob_tf ?_
          refine r_i2l dL_asks_87 rfl ?_
          refine r_ladd dL_asks_88 ?_
          refine r_lstore_n dL_asks_89 (by decide) rfl ?_
          refine r_iinc dL_asks_90 rfl ii_s (by decide) rfl ?_
          refine r_goto (tgt := 68) dL_asks_93 (by decide) ?_
          exact ih2 (i + 1) _ (by omega) hx2
      refine r_iload_n dL_asks_56 rfl ?_
      refine r_aload_n dL_asks_57 rfl ?_
      refine r_iconst (v := 1) dL_asks_58 (by decide) ?_
      refine r_cVi dL_asks_59 (KA_acc (k := 1) (by omega) hoc) gL_asks_59 dcX6_account rfl rfl rfl (Nat.le_of_ble_eq_true rfl) ob_tf ?_
      rw [hacc]
      refine r_icmp_ge (tgt := 196) dL_asks_62 (by decide) (fun c62 => absurd c62 (lp_s hoc.1 hoc.2 h)) (fun c62 => ?_)
      refine r_iconst (v := 0) dL_asks_65 (by decide) ?_
      refine r_istore dL_asks_66 (by decide) rfl ?_
      exact Li 10 0 s (by omega) rfl
  have L4 : ∀ (X N C : tP), okl N → ∀ (n i : Nat) (s : Int64), i + n = 17 → lpK (fun w => f_acc zP zP P (nI w)) n i s = k_a P → Rj cL_asks RL 6 (some .long) (rmd 18) 0 0 cA ad (Qk (f_asks P) ex M F P) ex 0 0 29 [some (.ref (ad 0 0)), some (.long s), none, some (.int (nI i)), none, none] [] (mm (aM M X N C) F P) := by
    intro X N C hl n
    induction n with
    | zero =>
      intro i s h hx
      refine r_iload_n dL_asks_29 rfl ?_
      refine r_bipush (v := 17) dL_asks_30 (by decide) ?_
      refine r_icmp_ge (tgt := 54) dL_asks_32 (by decide) (fun c32 => ?_) (fun c32 => absurd (lp_z (c := 17) rfl h) c32)
      refine r_iconst (v := 0) dL_asks_54 (by decide) ?_
      refine r_istore_n dL_asks_55 (by decide) rfl ?_
      exact L5 (cn P) 0 s X N C hl (by omega) (by rw [k_b, ← hx]; rfl)
    | succ n ih =>
      intro i s h hx
      refine r_iload_n dL_asks_29 rfl ?_
      refine r_bipush (v := 17) dL_asks_30 (by decide) ?_
      refine r_icmp_ge (tgt := 54) dL_asks_32 (by decide) (fun c32 => absurd c32 (lq_s (c := 17) rfl (by omega) h)) (fun c32 => ?_)
      refine r_ldc2 dL_asks_35 q502 ?_
      refine r_lload_n dL_asks_38 rfl ?_
      refine r_lmul dL_asks_39 ?_
      refine r_aload_n dL_asks_40 rfl ?_
      refine r_iload_n dL_asks_41 rfl ?_
      refine r_cVi dL_asks_42 (KA_acc (by omega) hoc) gL_asks_42 dcX6_account rfl rfl rfl (Nat.le_of_ble_eq_true rfl) ob_tf ?_
      refine r_i2l dL_asks_45 rfl ?_
      refine r_ladd dL_asks_46 ?_
      refine r_lstore_n dL_asks_47 (by decide) rfl ?_
      refine r_iinc dL_asks_48 rfl ii_s (by decide) rfl ?_
      refine r_goto (tgt := 29) dL_asks_51 (by decide) ?_
      exact ih (i + 1) _ (by omega) hx
  rw [show mm M F P = mm (aM M (M 2) (M 14) (M 15)) F P from by rw [aM_self]]
  refine r_ldc2 dL_asks_0 q502 ?_
  refine r_aload_n dL_asks_3 rfl ?_
  refine r_callV dL_asks_4 (K_mean hoc) gL_asks_4 dcX6_meanDays rfl rfl rfl rfl (rm_le rfl) (Nat.le_of_ble_eq_true rfl) ⟨Nat.le_refl _, Nat.le_refl _⟩ ob_tf (fun v x m h => ?_)
  obtain ⟨⟨r1, rfl, hr1⟩, rfl, rfl⟩ := h
  refine r_cSi dL_asks_7 (K_d2l) gL_asks_7 dcJxe99ae_doubleToLongBits_ccdee rfl rfl rfl (Nat.le_of_ble_eq_true rfl) ?_
  refine r_lmul dL_asks_10 ?_
  refine r_aload_n dL_asks_11 rfl ?_
  refine r_callV dL_asks_12 K_share gL_asks_12 dcX6_wrongShare rfl rfl rfl rfl (rm_le rfl) (Nat.le_of_ble_eq_true rfl) ⟨Nat.le_refl _, Nat.le_refl _⟩ ob_tf (fun v x m h => ?_)
  obtain ⟨⟨r2, rfl, hr2⟩, rfl, rfl⟩ := h
  refine r_cSi dL_asks_15 (K_f2i) gL_asks_15 dcJxf58ca_floatToIntBits_5c35a rfl rfl rfl (Nat.le_of_ble_eq_true rfl) ?_
  rw [d2l_al hr1, f2i_al hr2]
  refine r_i2l dL_asks_18 rfl ?_
  refine r_ladd dL_asks_19 ?_
  refine r_aload_n dL_asks_20 rfl ?_
  refine r_cVi dL_asks_21 (KA_bal hoc) gL_asks_21 dcX6_isBalanced rfl rfl rfl (Nat.le_of_ble_eq_true rfl) ob_tf ?_
  refine r_i2l dL_asks_24 rfl ?_
  refine r_ladd dL_asks_25 ?_
  refine r_lstore_n dL_asks_26 (by decide) rfl ?_
  refine r_iconst (v := 0) dL_asks_27 (by decide) ?_
  refine r_istore_n dL_asks_28 (by decide) rfl ?_
  exact L4 _ _ _ hl 17 0 _ (by omega) rfl

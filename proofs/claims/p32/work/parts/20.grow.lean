/-! PART 20: Rg: as Rj, but over any list of cells; methods that make cells; the rows of the cells that lie behind the object's own (ex) -/
def Rg (isI : Bool) (cc : ByteArray) (own : String) (nL : Nat) (ret : Option FieldType) (rm : Room) (mc ms : Nat) (cA : Nat → ClassId) (ad : tA) (Q : Option Value → va_W → Prop) (cells slots pc : Nat) (lv : List (Option Value)) (st : List Value) (ws : va_W) : Prop :=
  ∀ (p : Program) (l : Launch) (e : Env) (s : State) (m : MethodId) (args : Array Value) (below : List Frame) (meth : Method) (c : Code) (G : va_G) (tx : List (ClassId × FieldType)) (A : Nat → Prop) (Qc : Array Value → State → Outcome → State → Prop) (free : Nat → Prop) (d0 : Drawn),
    CX cc own nL ret cA ad p s m args meth c G tx A free → (isI = true → meth.name = "<init>") →
    (∀ (v : Option Value) (w' : va_W) (t : State) (d1 : Drawn), Q v w' → s.drawn.sameBut d1 lw_cs → (s.setDrawn d1).WarmedH t.vm → va_P G vwCl w' t.heap → va_D A w' → va_F A s t → Qc args (s.setDrawn d1) (.returned v) t) →
    s.drawn.sameBut d0 lw_cs → ∀ (H : Heap) (locs : List Loc) (ls : Array Slot), va_P G vwCl ws H → va_D A ws → va_S A s.heap H locs → lv_has ls nL (enL 0 lv) →
    W p l e rm (s.setDrawn d0) m args below meth c H locs cells slots (MQD lw_cs below Qc args s mc ms free) (F0 m pc ls st)
/-- the contract of a method over a list of cells -/
def Cg (y : MethodName) (cc : ByteArray) (nL : Nat) (ret : Option FieldType) (rm : Room) (mc ms : Nat) (cA : Nat → ClassId) (ad : tA) (vs : List Value) (ws : va_W) (Q : Option Value → va_W → Prop) : Prop :=
  ∀ (l : Launch) (G : va_G) (tx : List (ClassId × FieldType)) (A : Nat → Prop), MetD lw_cs l y (.code y cc nL ret :: wsL_law) rm (va_Pc vs (fun U => va_P G vwCl ws U.heap ∧ va_K G vwCl (tysT cA ++ tx) U ∧ va_D A ws ∧ (∀ q, U.heap.size ≤ q → A q) ∧ JZ ad A U U.heap)) (fun _ st o t => (∃ v w', o = .returned v ∧ Q v w' ∧ va_P G vwCl w' t.heap ∧ va_D A w') ∧ va_F A st t) mc ms A
theorem c_of_g {y : MethodName} {cc : ByteArray} {nL : Nat} {ret : Option FieldType} {rm : Room} {mc ms : Nat} {cA : Nat → ClassId} {ad : tA} {vs : List Value} {ws : va_W} {Q : Option Value → va_W → Prop} {lv0 : List (Option Value)} {own : String} {isI : Bool} (hI : isI = true → y.name = "<init>") (ho : y.cls = own) (hy : plainName y.cls = true) (hlen : (lg_sl vs).length ≤ nL) (hlv : lv_args 0 vs = enL 0 lv0) (h : Rg isI cc own nL ret rm mc ms cA ad Q 0 0 0 lv0 [] ws) : Cg y cc nL ret rm mc ms cA ad vs ws Q := by
  subst ho
  intro l G tx A
  refine MetD.ofW (cc := cc) (maxL := nL) (ret := ret) hy rfl ?_
  intro p e s m args below meth c s₁ B hml hv hd0
  obtain ⟨rfl, hP, hK, hD, hA, hJ⟩ := hv
  have hts := atoms_spec (ws := .code y cc nL ret :: wsL_law) B.pre
  have hown : s.vm.findClass y.cls = some m.cls := findClass_of_methodNamed B.named
  have hnm : meth.name = y.name := (name_of_methodNamed B.named B.method).1
  have hl := lv_entry vs (n := nL) hlen
  rw [hlv] at hl
  rw [lg_entry_eq]
  exact h p l e s m _ below meth c G tx A _ A s.drawn ⟨B.exec, B.bytes, hml, hown, fun w hw => hts w (List.mem_cons_of_mem _ hw), B.returns, B.notSynchronized, hK, hA, fun _ h => h, hJ⟩ (fun hi => hnm.trans (hI hi)) (fun v w' t d1 hQ _ _ hP' hD' hF => ⟨⟨v, w', rfl, hQ, hP', hD'⟩, hF⟩) hd0 s.heap [] _ hP hD va_S.rf hl
theorem cg_end {y : MethodName} {cc : ByteArray} {nL : Nat} {ret : Option FieldType} {rm : Room} {mc ms : Nat} {cA : Nat → ClassId} {ad : tA} {vs : List Value} {ws : va_W} {Q Q' : Option Value → va_W → Prop} (hQ : ∀ v w, Q v w → Q' v w) (h : Cg y cc nL ret rm mc ms cA ad vs ws Q) : Cg y cc nL ret rm mc ms cA ad vs ws Q' := by
  intro l G tx A p e ha hc hk s m args below hf happ hP hK
  obtain ⟨n, oc, h1, h2, h3, d, hd, ⟨⟨v, w, e1, e2, e3, e4⟩, e5⟩, e6⟩ := h l G tx A p e ha hc hk s m args below hf happ hP hK
  exact ⟨n, oc, h1, h2, h3, d, hd, ⟨⟨v, w, e1, hQ v w e2, e3, e4⟩, e5⟩, e6⟩
theorem cj_end {y : MethodName} {cc : ByteArray} {nL : Nat} {ret : Option FieldType} {rm : Room} {mc ms : Nat} {cA : Nat → ClassId} {ad : tA} {vs : List Value} {ex : va_W} {M : tM} {Q Q' : Option Value → va_W → tM → Prop} (hQ : ∀ v x m, Q v x m → Q' v x m) (h : Cj y cc nL ret rm mc ms cA ad vs ex M Q) : Cj y cc nL ret rm mc ms cA ad vs ex M Q' := by
  intro l G tx A p e ha hc hk s m args below hf happ hP hK
  obtain ⟨n, oc, h1, h2, h3, d, hd, ⟨⟨v, x, m1, e1, e2, e3, e4⟩, e5⟩, e6⟩ := h l G tx A p e ha hc hk s m args below hf happ hP hK
  exact ⟨n, oc, h1, h2, h3, d, hd, ⟨⟨v, x, m1, e1, hQ v x m1 e2, e3, e4⟩, e5⟩, e6⟩
/-- what a world of the object's kind says of a list of cells -/
def Qw (cA : Nat → ClassId) (ad : tA) (Q : Option Value → va_W → tM → Prop) : Option Value → va_W → Prop := fun v w => ∃ x m, w = wsT cA ad x m ∧ Q v x m
theorem cg_of_j {y : MethodName} {cc : ByteArray} {nL : Nat} {ret : Option FieldType} {rm : Room} {mc ms : Nat} {cA : Nat → ClassId} {ad : tA} {vs : List Value} {ex : va_W} {M : tM} {Q : Option Value → va_W → tM → Prop} (h : Cj y cc nL ret rm mc ms cA ad vs ex M Q) : Cg y cc nL ret rm mc ms cA ad vs (wsT cA ad ex M) (Qw cA ad Q) := by
  intro l G tx A p e ha hc hk s m args below hf happ hP hK
  obtain ⟨n, oc, h1, h2, h3, d, hd, ⟨⟨v, x, m1, e1, e2, e3, e4⟩, e5⟩, e6⟩ := h l G tx A p e ha hc hk s m args below hf happ hP hK
  exact ⟨n, oc, h1, h2, h3, d, hd, ⟨⟨v, _, e1, ⟨x, m1, rfl, e2⟩, e3, e4⟩, e5⟩, e6⟩
theorem cj_of_g {y : MethodName} {cc : ByteArray} {nL : Nat} {ret : Option FieldType} {rm : Room} {mc ms : Nat} {cA : Nat → ClassId} {ad : tA} {vs : List Value} {ex : va_W} {M : tM} {Q : Option Value → va_W → tM → Prop} (h : Cg y cc nL ret rm mc ms cA ad vs (wsT cA ad ex M) (Qw cA ad Q)) : Cj y cc nL ret rm mc ms cA ad vs ex M Q := by
  intro l G tx A p e ha hc hk s m args below hf happ hP hK
  obtain ⟨n, oc, h1, h2, h3, d, hd, ⟨⟨v, w, e1, ⟨x, m1, rfl, e2⟩, e3, e4⟩, e5⟩, e6⟩ := h l G tx A p e ha hc hk s m args below hf happ hP hK
  exact ⟨n, oc, h1, h2, h3, d, hd, ⟨⟨v, x, m1, e1, e2, e3, e4⟩, e5⟩, e6⟩
/-- only the regions from 16 on are said of the state -/
theorem JZ.ad {ad ad' : tA} {A : Nat → Prop} {U : State} {H : Heap} (h16 : ∀ r, 16 ≤ r → ad' r = ad r) (h : JZ ad A U H) : JZ ad' A U H := by
  unfold JZ at h ⊢
  rw [h16 16 (by omega), h16 17 (by omega), h16 18 (by omega), h16 19 (by omega)]
  exact h
theorem cg_ad {y : MethodName} {cc : ByteArray} {nL : Nat} {ret : Option FieldType} {rm : Room} {mc ms : Nat} {cA : Nat → ClassId} {ad ad' : tA} {vs : List Value} {ws : va_W} {Q : Option Value → va_W → Prop} (h16 : ∀ r, 16 ≤ r → ad' r = ad r) (h : Cg y cc nL ret rm mc ms cA ad' vs ws Q) : Cg y cc nL ret rm mc ms cA ad vs ws Q := by
  intro l G tx A p e ha hc hk s m args below hf happ hP hK
  obtain ⟨q1, q2, q3, q4, q5, q6⟩ := hP
  exact h l G tx A p e ha hc hk s m args below hf happ ⟨q1, q2, q3, q4, q5, q6.ad h16⟩ hK
section
variable {isI : Bool} {cc : ByteArray} {own : String} {nL : Nat} {ret : Option FieldType} {rm : Room} {mc ms : Nat} {cA : Nat → ClassId} {ad : tA} {Q : Option Value → va_W → Prop} {Qj : Option Value → va_W → tM → Prop} {cells slots pc : Nat} {lv : List (Option Value)} {st : List Value} {ws ws' ex : va_W} {M : tM}
theorem j_g (k : Rg false cc own nL ret rm mc ms cA ad (Qw cA ad Qj) cells slots pc lv st (wsT cA ad ex M)) : Rj cc own nL ret rm mc ms cA ad Qj ex cells slots pc lv st M :=
  fun p l e s m args below meth c G tx A Qc free d0 X E => k p l e s m args below meth c G tx A Qc free d0 X (fun h => by cases h) (fun v w t d1 hq => by obtain ⟨x, m1, rfl, hq2⟩ := hq; exact E v x m1 t d1 hq2)
theorem g_j (k : Rj cc own nL ret rm mc ms cA ad Qj ex cells slots pc lv st M) : Rg isI cc own nL ret rm mc ms cA ad (Qw cA ad Qj) cells slots pc lv st (wsT cA ad ex M) :=
  fun p l e s m args below meth c G tx A Qc free d0 X _ E => k p l e s m args below meth c G tx A Qc free d0 X (fun v x m1 t d1 hq => E v _ t d1 ⟨x, m1, rfl, hq⟩)
theorem g_end {Q' : Option Value → va_W → Prop} (h : ∀ v w, Q' v w → Q v w) (k : Rg isI cc own nL ret rm mc ms cA ad Q' cells slots pc lv st ws) : Rg isI cc own nL ret rm mc ms cA ad Q cells slots pc lv st ws :=
  fun p l e s m args below meth c G tx A Qc free d0 X I E => k p l e s m args below meth c G tx A Qc free d0 X I (fun v w t d1 hq => E v w t d1 (h v w hq))
theorem g_ad {ad' : tA} (h16 : ∀ r, 16 ≤ r → ad' r = ad r) (k : Rg isI cc own nL ret rm mc ms cA ad' Q cells slots pc lv st ws) : Rg isI cc own nL ret rm mc ms cA ad Q cells slots pc lv st ws :=
  fun p l e s m args below meth c G tx A Qc free d0 X => k p l e s m args below meth c G tx A Qc free d0 ⟨X.1, X.2.1, X.2.2.1, X.2.2.2.1, X.2.2.2.2.1, X.2.2.2.2.2.1, X.2.2.2.2.2.2.1, X.2.2.2.2.2.2.2.1, X.2.2.2.2.2.2.2.2.1, X.2.2.2.2.2.2.2.2.2.1, X.2.2.2.2.2.2.2.2.2.2.ad h16⟩
/-- another list with the same cells, or fewer -/
theorem g_sub (h : ∀ q ∈ ws', q ∈ ws) (hn : (ws'.map Prod.fst).Nodup) (k : Rg isI cc own nL ret rm mc ms cA ad Q cells slots pc lv st ws') : Rg isI cc own nL ret rm mc ms cA ad Q cells slots pc lv st ws := by
  intro p l e s m args below meth c G tx A Qc free d0 X I E hd0 H locs ls hP hD hS hl
  refine k p l e s m args below meth c G tx A Qc free d0 X I E hd0 H locs ls (fun i q hq => ?_) ⟨fun i j a b ha hb hab => ?_, fun i q hq => ?_⟩ hS hl
  · obtain ⟨j, hj⟩ := List.getElem?_of_mem (h q (List.mem_of_getElem? hq))
    exact hP j q hj
  · have ha' : (ws'.map Prod.fst)[i]? = some a.1 := by rw [List.getElem?_map, ha]; rfl
    have hb' : (ws'.map Prod.fst)[j]? = some b.1 := by rw [List.getElem?_map, hb]; rfl
    have hlt : i < (ws'.map Prod.fst).length := (List.getElem?_eq_some_iff.mp ha').1
    exact (List.getElem?_inj hlt hn).mp (by rw [ha', hb', hab])
  · obtain ⟨j, hj⟩ := List.getElem?_of_mem (h q (List.mem_of_getElem? hq))
    exact hD.2 j q hj
/-- the addresses of a world's cells are apart -/
theorem g_nd (k : (ws.map Prod.fst).Nodup → Rg isI cc own nL ret rm mc ms cA ad Q cells slots pc lv st ws) : Rg isI cc own nL ret rm mc ms cA ad Q cells slots pc lv st ws := by
  intro p l e s m args below meth c G tx A Qc free d0 X I E hd0 H locs ls hP hD hS hl
  refine k ?_ p l e s m args below meth c G tx A Qc free d0 X I E hd0 H locs ls hP hD hS hl
  refine List.pairwise_iff_getElem.mpr (fun i j hi hj hij e => ?_)
  rw [List.length_map] at hi hj
  rw [List.getElem_map, List.getElem_map] at e
  have := hD.1 i j _ _ (List.getElem?_eq_getElem hi) (List.getElem?_eq_getElem hj) e
  omega
/-- cells that are no longer wanted -/
theorem g_drop {wb : va_W} (k : Rg isI cc own nL ret rm mc ms cA ad Q cells slots pc lv st (ws ++ ws')) : Rg isI cc own nL ret rm mc ms cA ad Q cells slots pc lv st (ws ++ wb ++ ws') := by
  refine g_nd (fun hn => g_sub (ws' := ws ++ ws') (fun q hq => ?_) ?_ k)
  · rcases List.mem_append.mp hq with h | h
    · exact List.mem_append_left _ (List.mem_append_left _ h)
    · exact List.mem_append_right _ h
  · refine hn.sublist ?_
    exact List.Sublist.map _ (List.Sublist.append (List.sublist_append_left _ _) (List.Sublist.refl _))
theorem g_perm (h : ws'.Perm ws) (k : Rg isI cc own nL ret rm mc ms cA ad Q cells slots pc lv st ws') : Rg isI cc own nL ret rm mc ms cA ad Q cells slots pc lv st ws :=
  g_nd (fun hn => g_sub (fun q hq => h.mem_iff.mp hq) ((h.map Prod.fst).nodup_iff.mpr hn) k)
theorem g_iadd {x y : Int32} (hd : decode cc pc = .ok (.iadd, 1)) (k : Rg isI cc own nL ret rm mc ms cA ad Q cells slots (pc + 1) lv (.int (x + y) :: st) ws) : Rg isI cc own nL ret rm mc ms cA ad Q cells slots pc lv (.int y :: .int x :: st) ws := by
  intro p l e s m args below meth c G tx A Qc free d0 X I E hd0 H locs ls hP hD hS hl
  exact lv_iadd X.1 X.2.1 hd (k p l e s m args below meth c G tx A Qc free d0 X I E hd0 H locs ls hP hD hS hl)
theorem g_isub {x y : Int32} (hd : decode cc pc = .ok (.isub, 1)) (k : Rg isI cc own nL ret rm mc ms cA ad Q cells slots (pc + 1) lv (.int (x - y) :: st) ws) : Rg isI cc own nL ret rm mc ms cA ad Q cells slots pc lv (.int y :: .int x :: st) ws := by
  intro p l e s m args below meth c G tx A Qc free d0 X I E hd0 H locs ls hP hD hS hl
  exact lv_isub X.1 X.2.1 hd (k p l e s m args below meth c G tx A Qc free d0 X I E hd0 H locs ls hP hD hS hl)
theorem g_imul {x y : Int32} (hd : decode cc pc = .ok (.imul, 1)) (k : Rg isI cc own nL ret rm mc ms cA ad Q cells slots (pc + 1) lv (.int (x * y) :: st) ws) : Rg isI cc own nL ret rm mc ms cA ad Q cells slots pc lv (.int y :: .int x :: st) ws := by
  intro p l e s m args below meth c G tx A Qc free d0 X I E hd0 H locs ls hP hD hS hl
  exact lv_imul X.1 X.2.1 hd (k p l e s m args below meth c G tx A Qc free d0 X I E hd0 H locs ls hP hD hS hl)
theorem g_iand {x y : Int32} (hd : decode cc pc = .ok (.iand, 1)) (k : Rg isI cc own nL ret rm mc ms cA ad Q cells slots (pc + 1) lv (.int (x &&& y) :: st) ws) : Rg isI cc own nL ret rm mc ms cA ad Q cells slots pc lv (.int y :: .int x :: st) ws := by
  intro p l e s m args below meth c G tx A Qc free d0 X I E hd0 H locs ls hP hD hS hl
  exact lv_iand X.1 X.2.1 hd (k p l e s m args below meth c G tx A Qc free d0 X I E hd0 H locs ls hP hD hS hl)
theorem g_ior {x y : Int32} (hd : decode cc pc = .ok (.ior, 1)) (k : Rg isI cc own nL ret rm mc ms cA ad Q cells slots (pc + 1) lv (.int (x ||| y) :: st) ws) : Rg isI cc own nL ret rm mc ms cA ad Q cells slots pc lv (.int y :: .int x :: st) ws := by
  intro p l e s m args below meth c G tx A Qc free d0 X I E hd0 H locs ls hP hD hS hl
  exact lv_ior X.1 X.2.1 hd (k p l e s m args below meth c G tx A Qc free d0 X I E hd0 H locs ls hP hD hS hl)
theorem g_ixor {x y : Int32} (hd : decode cc pc = .ok (.ixor, 1)) (k : Rg isI cc own nL ret rm mc ms cA ad Q cells slots (pc + 1) lv (.int (x ^^^ y) :: st) ws) : Rg isI cc own nL ret rm mc ms cA ad Q cells slots pc lv (.int y :: .int x :: st) ws := by
  intro p l e s m args below meth c G tx A Qc free d0 X I E hd0 H locs ls hP hD hS hl
  exact lv_ixor X.1 X.2.1 hd (k p l e s m args below meth c G tx A Qc free d0 X I E hd0 H locs ls hP hD hS hl)
theorem g_ishl {x y : Int32} (hd : decode cc pc = .ok (.ishl, 1)) (k : Rg isI cc own nL ret rm mc ms cA ad Q cells slots (pc + 1) lv (.int (x <<< (y &&& 31)) :: st) ws) : Rg isI cc own nL ret rm mc ms cA ad Q cells slots pc lv (.int y :: .int x :: st) ws := by
  intro p l e s m args below meth c G tx A Qc free d0 X I E hd0 H locs ls hP hD hS hl
  exact lv_ishl X.1 X.2.1 hd (k p l e s m args below meth c G tx A Qc free d0 X I E hd0 H locs ls hP hD hS hl)
theorem g_ishr {x y : Int32} (hd : decode cc pc = .ok (.ishr, 1)) (k : Rg isI cc own nL ret rm mc ms cA ad Q cells slots (pc + 1) lv (.int (x >>> (y &&& 31)) :: st) ws) : Rg isI cc own nL ret rm mc ms cA ad Q cells slots pc lv (.int y :: .int x :: st) ws := by
  intro p l e s m args below meth c G tx A Qc free d0 X I E hd0 H locs ls hP hD hS hl
  exact lv_ishr X.1 X.2.1 hd (k p l e s m args below meth c G tx A Qc free d0 X I E hd0 H locs ls hP hD hS hl)
theorem g_idiv {x y : Int32} (hd : decode cc pc = .ok (.idiv, 1)) (hne : ¬ y = 0) (k : Rg isI cc own nL ret rm mc ms cA ad Q cells slots (pc + 1) lv (.int (x / y) :: st) ws) : Rg isI cc own nL ret rm mc ms cA ad Q cells slots pc lv (.int y :: .int x :: st) ws := by
  intro p l e s m args below meth c G tx A Qc free d0 X I E hd0 H locs ls hP hD hS hl
  exact lv_idiv X.1 X.2.1 hd hne (k p l e s m args below meth c G tx A Qc free d0 X I E hd0 H locs ls hP hD hS hl)
theorem g_irem {x y : Int32} (hd : decode cc pc = .ok (.irem, 1)) (hne : ¬ y = 0) (k : Rg isI cc own nL ret rm mc ms cA ad Q cells slots (pc + 1) lv (.int (x - x / y * y) :: st) ws) : Rg isI cc own nL ret rm mc ms cA ad Q cells slots pc lv (.int y :: .int x :: st) ws := by
  intro p l e s m args below meth c G tx A Qc free d0 X I E hd0 H locs ls hP hD hS hl
  exact lv_irem X.1 X.2.1 hd hne (k p l e s m args below meth c G tx A Qc free d0 X I E hd0 H locs ls hP hD hS hl)
theorem g_ladd {x y : Int64} (hd : decode cc pc = .ok (.ladd, 1)) (k : Rg isI cc own nL ret rm mc ms cA ad Q cells slots (pc + 1) lv (.long (x + y) :: st) ws) : Rg isI cc own nL ret rm mc ms cA ad Q cells slots pc lv (.long y :: .long x :: st) ws := by
  intro p l e s m args below meth c G tx A Qc free d0 X I E hd0 H locs ls hP hD hS hl
  exact lv_ladd X.1 X.2.1 hd (k p l e s m args below meth c G tx A Qc free d0 X I E hd0 H locs ls hP hD hS hl)
theorem g_lmul {x y : Int64} (hd : decode cc pc = .ok (.lmul, 1)) (k : Rg isI cc own nL ret rm mc ms cA ad Q cells slots (pc + 1) lv (.long (x * y) :: st) ws) : Rg isI cc own nL ret rm mc ms cA ad Q cells slots pc lv (.long y :: .long x :: st) ws := by
  intro p l e s m args below meth c G tx A Qc free d0 X I E hd0 H locs ls hP hD hS hl
  exact lv_lmul X.1 X.2.1 hd (k p l e s m args below meth c G tx A Qc free d0 X I E hd0 H locs ls hP hD hS hl)
theorem g_lcmp {x y : Int64} (hd : decode cc pc = .ok (.lcmp, 1)) (k : Rg isI cc own nL ret rm mc ms cA ad Q cells slots (pc + 1) lv (.int (lg_cmp x y) :: st) ws) : Rg isI cc own nL ret rm mc ms cA ad Q cells slots pc lv (.long y :: .long x :: st) ws := by
  intro p l e s m args below meth c G tx A Qc free d0 X I E hd0 H locs ls hP hD hS hl
  exact W.lcmp X.1 X.2.1 hd (k p l e s m args below meth c G tx A Qc free d0 X I E hd0 H locs ls hP hD hS hl)
theorem g_i2l {x : Int32} {v : Int64} (hd : decode cc pc = .ok (.i2l, 1)) (hv : x.toInt64 = v) (k : Rg isI cc own nL ret rm mc ms cA ad Q cells slots (pc + 1) lv (.long v :: st) ws) : Rg isI cc own nL ret rm mc ms cA ad Q cells slots pc lv (.int x :: st) ws := by
  intro p l e s m args below meth c G tx A Qc free d0 X I E hd0 H locs ls hP hD hS hl
  exact lv_i2l X.1 X.2.1 hd hv (k p l e s m args below meth c G tx A Qc free d0 X I E hd0 H locs ls hP hD hS hl)
theorem g_i2c {x v : Int32} (hd : decode cc pc = .ok (.i2c, 1)) (hv : (x.toUInt32 % 65536).toInt32 = v) (k : Rg isI cc own nL ret rm mc ms cA ad Q cells slots (pc + 1) lv (.int v :: st) ws) : Rg isI cc own nL ret rm mc ms cA ad Q cells slots pc lv (.int x :: st) ws := by
  intro p l e s m args below meth c G tx A Qc free d0 X I E hd0 H locs ls hP hD hS hl
  exact lv_i2c X.1 X.2.1 hd hv (k p l e s m args below meth c G tx A Qc free d0 X I E hd0 H locs ls hP hD hS hl)
theorem g_iushr {x y v : Int32} (hd : decode cc pc = .ok (.iushr, 1)) (hv : (x.toUInt32 >>> (y.toUInt32 &&& Int32.toUInt32 31)).toInt32 = v) (k : Rg isI cc own nL ret rm mc ms cA ad Q cells slots (pc + 1) lv (.int v :: st) ws) : Rg isI cc own nL ret rm mc ms cA ad Q cells slots pc lv (.int y :: .int x :: st) ws := by
  intro p l e s m args below meth c G tx A Qc free d0 X I E hd0 H locs ls hP hD hS hl
  exact lv_iushr X.1 X.2.1 hd hv (k p l e s m args below meth c G tx A Qc free d0 X I E hd0 H locs ls hP hD hS hl)
theorem g_ldc {idx : Nat} {v : Int32} (hd : decode cc pc = .ok (.ldc idx, 2)) (hw : Cond.constant own idx v ∈ wsL_law) (k : Rg isI cc own nL ret rm mc ms cA ad Q cells slots (pc + 2) lv (.int v :: st) ws) : Rg isI cc own nL ret rm mc ms cA ad Q cells slots pc lv (st) ws := by
  intro p l e s m args below meth c G tx A Qc free d0 X I E hd0 H locs ls hP hD hS hl
  exact lv_ldc X.1 X.2.1 X.2.2.2.1 (dr_words X.2.2.2.2.1 d0 _ hw) hd (k p l e s m args below meth c G tx A Qc free d0 X I E hd0 H locs ls hP hD hS hl)
theorem g_ldc2 {idx : Nat} {v : Int64} (hd : decode cc pc = .ok (.ldc2_w idx, 3)) (hw : Cond.constantLong own idx v ∈ wsL_law) (k : Rg isI cc own nL ret rm mc ms cA ad Q cells slots (pc + 3) lv (.long v :: st) ws) : Rg isI cc own nL ret rm mc ms cA ad Q cells slots pc lv (st) ws := by
  intro p l e s m args below meth c G tx A Qc free d0 X I E hd0 H locs ls hP hD hS hl
  exact lv_ldc2 X.1 X.2.1 X.2.2.2.1 (dr_words X.2.2.2.2.1 d0 _ hw) hd (k p l e s m args below meth c G tx A Qc free d0 X I E hd0 H locs ls hP hD hS hl)
theorem g_i2d {x : Int32} (hd : decode cc pc = .ok (.i2d, 1)) (k : Rg isI cc own nL ret rm mc ms cA ad Q cells slots (pc + 1) lv (.double (FP.i2d x) :: st) ws) : Rg isI cc own nL ret rm mc ms cA ad Q cells slots pc lv (.int x :: st) ws := by
  intro p l e s m args below meth c G tx A Qc free d0 X I E hd0 H locs ls hP hD hS hl
  exact lv_i2d X.1 X.2.1 hd (k p l e s m args below meth c G tx A Qc free d0 X I E hd0 H locs ls hP hD hS hl)
theorem g_i2f {x : Int32} (hd : decode cc pc = .ok (.i2f, 1)) (k : Rg isI cc own nL ret rm mc ms cA ad Q cells slots (pc + 1) lv (.float (FP.i2f x) :: st) ws) : Rg isI cc own nL ret rm mc ms cA ad Q cells slots pc lv (.int x :: st) ws := by
  intro p l e s m args below meth c G tx A Qc free d0 X I E hd0 H locs ls hP hD hS hl
  exact lv_i2f X.1 X.2.1 hd (k p l e s m args below meth c G tx A Qc free d0 X I E hd0 H locs ls hP hD hS hl)
theorem g_iconst {n : Int} {v : Int32} (hd : decode cc pc = .ok (.iconst n, 1)) (hv : Int32.ofInt n = v) (k : Rg isI cc own nL ret rm mc ms cA ad Q cells slots (pc + 1) lv (.int v :: st) ws) : Rg isI cc own nL ret rm mc ms cA ad Q cells slots pc lv (st) ws := by
  intro p l e s m args below meth c G tx A Qc free d0 X I E hd0 H locs ls hP hD hS hl
  exact lv_iconst X.1 X.2.1 hd hv (k p l e s m args below meth c G tx A Qc free d0 X I E hd0 H locs ls hP hD hS hl)
theorem g_bipush {n : Int} {v : Int32} (hd : decode cc pc = .ok (.bipush n, 2)) (hv : (Int8.ofInt n).toInt32 = v) (k : Rg isI cc own nL ret rm mc ms cA ad Q cells slots (pc + 2) lv (.int v :: st) ws) : Rg isI cc own nL ret rm mc ms cA ad Q cells slots pc lv (st) ws := by
  intro p l e s m args below meth c G tx A Qc free d0 X I E hd0 H locs ls hP hD hS hl
  exact lv_bipush X.1 X.2.1 hd hv (k p l e s m args below meth c G tx A Qc free d0 X I E hd0 H locs ls hP hD hS hl)
theorem g_sipush {n : Int} {v : Int32} (hd : decode cc pc = .ok (.sipush n, 3)) (hv : (Int16.ofInt n).toInt32 = v) (k : Rg isI cc own nL ret rm mc ms cA ad Q cells slots (pc + 3) lv (.int v :: st) ws) : Rg isI cc own nL ret rm mc ms cA ad Q cells slots pc lv (st) ws := by
  intro p l e s m args below meth c G tx A Qc free d0 X I E hd0 H locs ls hP hD hS hl
  exact lv_sipush X.1 X.2.1 hd hv (k p l e s m args below meth c G tx A Qc free d0 X I E hd0 H locs ls hP hD hS hl)
theorem g_dup {va : Value} (hd : decode cc pc = .ok (.dup, 1)) (hva : va.category = 1) (k : Rg isI cc own nL ret rm mc ms cA ad Q cells slots (pc + 1) lv (va :: va :: st) ws) : Rg isI cc own nL ret rm mc ms cA ad Q cells slots pc lv (va :: st) ws := by
  intro p l e s m args below meth c G tx A Qc free d0 X I E hd0 H locs ls hP hD hS hl
  exact lv_dup X.1 X.2.1 hd hva (k p l e s m args below meth c G tx A Qc free d0 X I E hd0 H locs ls hP hD hS hl)
theorem g_pop {va : Value} (hd : decode cc pc = .ok (.pop, 1)) (hva : va.category = 1) (k : Rg isI cc own nL ret rm mc ms cA ad Q cells slots (pc + 1) lv (st) ws) : Rg isI cc own nL ret rm mc ms cA ad Q cells slots pc lv (va :: st) ws := by
  intro p l e s m args below meth c G tx A Qc free d0 X I E hd0 H locs ls hP hD hS hl
  exact lv_pop X.1 X.2.1 hd hva (k p l e s m args below meth c G tx A Qc free d0 X I E hd0 H locs ls hP hD hS hl)
theorem g_dconst0  (hd : decode cc pc = .ok (.dconst 0, 1)) (k : Rg isI cc own nL ret rm mc ms cA ad Q cells slots (pc + 1) lv (.double FP.dconst0 :: st) ws) : Rg isI cc own nL ret rm mc ms cA ad Q cells slots pc lv (st) ws := by
  intro p l e s m args below meth c G tx A Qc free d0 X I E hd0 H locs ls hP hD hS hl
  exact lv_dconst0 X.1 X.2.1 hd (k p l e s m args below meth c G tx A Qc free d0 X I E hd0 H locs ls hP hD hS hl)
theorem g_fconst0  (hd : decode cc pc = .ok (.fconst 0, 1)) (k : Rg isI cc own nL ret rm mc ms cA ad Q cells slots (pc + 1) lv (.float FP.fconst0 :: st) ws) : Rg isI cc own nL ret rm mc ms cA ad Q cells slots pc lv (st) ws := by
  intro p l e s m args below meth c G tx A Qc free d0 X I E hd0 H locs ls hP hD hS hl
  exact lv_fconst0 X.1 X.2.1 hd (k p l e s m args below meth c G tx A Qc free d0 X I E hd0 H locs ls hP hD hS hl)
theorem g_iload_n {k : Fin 4} {x : Int32} (hd : decode cc pc = .ok (.iload_n k, 1)) (hv : lv[(k : Nat)]? = some (some (.int x))) (k9 : Rg isI cc own nL ret rm mc ms cA ad Q cells slots (pc + 1) lv (.int x :: st) ws) : Rg isI cc own nL ret rm mc ms cA ad Q cells slots pc lv (st) ws := by
  intro p l e s m args below meth c G tx A Qc free d0 X I E hd0 H locs ls hP hD hS hl
  exact lv_iload_n X.1 X.2.1 hd rfl (enL_at hl hv) (k9 p l e s m args below meth c G tx A Qc free d0 X I E hd0 H locs ls hP hD hS hl)
theorem g_iload {i : Nat} {x : Int32} (hd : decode cc pc = .ok (.iload i, 2)) (hv : lv[i]? = some (some (.int x))) (k : Rg isI cc own nL ret rm mc ms cA ad Q cells slots (pc + 2) lv (.int x :: st) ws) : Rg isI cc own nL ret rm mc ms cA ad Q cells slots pc lv (st) ws := by
  intro p l e s m args below meth c G tx A Qc free d0 X I E hd0 H locs ls hP hD hS hl
  exact lv_iload X.1 X.2.1 hd (enL_at hl hv) (k p l e s m args below meth c G tx A Qc free d0 X I E hd0 H locs ls hP hD hS hl)
theorem g_aload_n {k : Fin 4} {x : Nat} (hd : decode cc pc = .ok (.aload_n k, 1)) (hv : lv[(k : Nat)]? = some (some (.ref x))) (k9 : Rg isI cc own nL ret rm mc ms cA ad Q cells slots (pc + 1) lv (.ref x :: st) ws) : Rg isI cc own nL ret rm mc ms cA ad Q cells slots pc lv (st) ws := by
  intro p l e s m args below meth c G tx A Qc free d0 X I E hd0 H locs ls hP hD hS hl
  exact lv_aload_n X.1 X.2.1 hd rfl (enL_at hl hv) (k9 p l e s m args below meth c G tx A Qc free d0 X I E hd0 H locs ls hP hD hS hl)
theorem g_aload {i : Nat} {x : Nat} (hd : decode cc pc = .ok (.aload i, 2)) (hv : lv[i]? = some (some (.ref x))) (k : Rg isI cc own nL ret rm mc ms cA ad Q cells slots (pc + 2) lv (.ref x :: st) ws) : Rg isI cc own nL ret rm mc ms cA ad Q cells slots pc lv (st) ws := by
  intro p l e s m args below meth c G tx A Qc free d0 X I E hd0 H locs ls hP hD hS hl
  exact lv_aload X.1 X.2.1 hd (enL_at hl hv) (k p l e s m args below meth c G tx A Qc free d0 X I E hd0 H locs ls hP hD hS hl)
theorem g_lload_n {k : Fin 4} {x : Int64} (hd : decode cc pc = .ok (.lload_n k, 1)) (hv : lv[(k : Nat)]? = some (some (.long x))) (k9 : Rg isI cc own nL ret rm mc ms cA ad Q cells slots (pc + 1) lv (.long x :: st) ws) : Rg isI cc own nL ret rm mc ms cA ad Q cells slots pc lv (st) ws := by
  intro p l e s m args below meth c G tx A Qc free d0 X I E hd0 H locs ls hP hD hS hl
  exact lv_lload_n X.1 X.2.1 hd rfl (enL_at hl hv) (k9 p l e s m args below meth c G tx A Qc free d0 X I E hd0 H locs ls hP hD hS hl)
theorem g_lload {i : Nat} {x : Int64} (hd : decode cc pc = .ok (.lload i, 2)) (hv : lv[i]? = some (some (.long x))) (k : Rg isI cc own nL ret rm mc ms cA ad Q cells slots (pc + 2) lv (.long x :: st) ws) : Rg isI cc own nL ret rm mc ms cA ad Q cells slots pc lv (st) ws := by
  intro p l e s m args below meth c G tx A Qc free d0 X I E hd0 H locs ls hP hD hS hl
  exact lv_lload X.1 X.2.1 hd (enL_at hl hv) (k p l e s m args below meth c G tx A Qc free d0 X I E hd0 H locs ls hP hD hS hl)
theorem g_istore_n {k : Fin 4} {x : Int32} (hd : decode cc pc = .ok (.istore_n k, 1)) (hn : (k : Nat) < nL) (ho : okS lv (k : Nat) = true) (k9 : Rg isI cc own nL ret rm mc ms cA ad Q cells slots (pc + 1) (lv.set (k : Nat) (some (.int x))) st ws) : Rg isI cc own nL ret rm mc ms cA ad Q cells slots pc lv (.int x :: st) ws := by
  intro p l e s m args below meth c G tx A Qc free d0 X I E hd0 H locs ls hP hD hS hl
  exact lv_istore_n X.1 X.2.1 hd rfl hl hn rfl (fun ls2 hl2 => k9 p l e s m args below meth c G tx A Qc free d0 X I E hd0 H locs ls2 hP hD hS (enL_set ho hl2))
theorem g_istore {i : Nat} {x : Int32} (hd : decode cc pc = .ok (.istore i, 2)) (hn : i < nL) (ho : okS lv i = true) (k9 : Rg isI cc own nL ret rm mc ms cA ad Q cells slots (pc + 2) (lv.set i (some (.int x))) st ws) : Rg isI cc own nL ret rm mc ms cA ad Q cells slots pc lv (.int x :: st) ws := by
  intro p l e s m args below meth c G tx A Qc free d0 X I E hd0 H locs ls hP hD hS hl
  exact lv_istore X.1 X.2.1 hd hl hn rfl (fun ls2 hl2 => k9 p l e s m args below meth c G tx A Qc free d0 X I E hd0 H locs ls2 hP hD hS (enL_set ho hl2))
theorem g_astore_n {k : Fin 4} {x : Nat} (hd : decode cc pc = .ok (.astore_n k, 1)) (hn : (k : Nat) < nL) (ho : okS lv (k : Nat) = true) (k9 : Rg isI cc own nL ret rm mc ms cA ad Q cells slots (pc + 1) (lv.set (k : Nat) (some (.ref x))) st ws) : Rg isI cc own nL ret rm mc ms cA ad Q cells slots pc lv (.ref x :: st) ws := by
  intro p l e s m args below meth c G tx A Qc free d0 X I E hd0 H locs ls hP hD hS hl
  exact lv_astore_n X.1 X.2.1 hd rfl hl hn rfl (fun ls2 hl2 => k9 p l e s m args below meth c G tx A Qc free d0 X I E hd0 H locs ls2 hP hD hS (enL_set ho hl2))
theorem g_astore {i : Nat} {x : Nat} (hd : decode cc pc = .ok (.astore i, 2)) (hn : i < nL) (ho : okS lv i = true) (k9 : Rg isI cc own nL ret rm mc ms cA ad Q cells slots (pc + 2) (lv.set i (some (.ref x))) st ws) : Rg isI cc own nL ret rm mc ms cA ad Q cells slots pc lv (.ref x :: st) ws := by
  intro p l e s m args below meth c G tx A Qc free d0 X I E hd0 H locs ls hP hD hS hl
  exact lv_astore X.1 X.2.1 hd hl hn rfl (fun ls2 hl2 => k9 p l e s m args below meth c G tx A Qc free d0 X I E hd0 H locs ls2 hP hD hS (enL_set ho hl2))
theorem g_iinc {i : Nat} {n : Int} {x v : Int32} (hd : decode cc pc = .ok (.iinc i n, 3)) (hi : lv[i]? = some (some (.int x))) (hv : x + Int32.ofInt n = v) (hn : i < nL) (ho : okS lv i = true) (k9 : Rg isI cc own nL ret rm mc ms cA ad Q cells slots (pc + 3) (lv.set i (some (.int v))) st ws) : Rg isI cc own nL ret rm mc ms cA ad Q cells slots pc lv st ws := by
  intro p l e s m args below meth c G tx A Qc free d0 X I E hd0 H locs ls hP hD hS hl
  obtain ⟨k, hk⟩ := enL_ix hi
  exact lv_iinc X.1 X.2.1 hd hl hk hv hn rfl (fun ls2 hl2 => k9 p l e s m args below meth c G tx A Qc free d0 X I E hd0 H locs ls2 hP hD hS (enL_set ho hl2))
theorem g_icmp_eq {x y : Int32} {off : Int} {tgt : Nat} (hd : decode cc pc = .ok (.if_icmp .eq off, 3)) (ht : (pc : Int) + off = (tgt : Int)) (kt : x = y → Rg isI cc own nL ret rm mc ms cA ad Q cells slots tgt lv st ws) (kf : ¬ x = y → Rg isI cc own nL ret rm mc ms cA ad Q cells slots (pc + 3) lv st ws) : Rg isI cc own nL ret rm mc ms cA ad Q cells slots pc lv (.int y :: .int x :: st) ws := by
  intro p l e s m args below meth c G tx A Qc free d0 X I E hd0 H locs ls hP hD hS hl
  exact lv_icmp_eq X.1 X.2.1 hd ht (fun h => kt h p l e s m args below meth c G tx A Qc free d0 X I E hd0 H locs ls hP hD hS hl) (fun h => kf h p l e s m args below meth c G tx A Qc free d0 X I E hd0 H locs ls hP hD hS hl)
theorem g_if_eq {x : Int32} {off : Int} {tgt : Nat} (hd : decode cc pc = .ok (.ifCond .eq off, 3)) (ht : (pc : Int) + off = (tgt : Int)) (kt : x = 0 → Rg isI cc own nL ret rm mc ms cA ad Q cells slots tgt lv st ws) (kf : ¬ x = 0 → Rg isI cc own nL ret rm mc ms cA ad Q cells slots (pc + 3) lv st ws) : Rg isI cc own nL ret rm mc ms cA ad Q cells slots pc lv (.int x :: st) ws := by
  intro p l e s m args below meth c G tx A Qc free d0 X I E hd0 H locs ls hP hD hS hl
  exact lv_if_eq X.1 X.2.1 hd ht (fun h => kt h p l e s m args below meth c G tx A Qc free d0 X I E hd0 H locs ls hP hD hS hl) (fun h => kf h p l e s m args below meth c G tx A Qc free d0 X I E hd0 H locs ls hP hD hS hl)
theorem g_icmp_ne {x y : Int32} {off : Int} {tgt : Nat} (hd : decode cc pc = .ok (.if_icmp .ne off, 3)) (ht : (pc : Int) + off = (tgt : Int)) (kt : ¬ x = y → Rg isI cc own nL ret rm mc ms cA ad Q cells slots tgt lv st ws) (kf : x = y → Rg isI cc own nL ret rm mc ms cA ad Q cells slots (pc + 3) lv st ws) : Rg isI cc own nL ret rm mc ms cA ad Q cells slots pc lv (.int y :: .int x :: st) ws := by
  intro p l e s m args below meth c G tx A Qc free d0 X I E hd0 H locs ls hP hD hS hl
  exact lv_icmp_ne X.1 X.2.1 hd ht (fun h => kt h p l e s m args below meth c G tx A Qc free d0 X I E hd0 H locs ls hP hD hS hl) (fun h => kf h p l e s m args below meth c G tx A Qc free d0 X I E hd0 H locs ls hP hD hS hl)
theorem g_if_ne {x : Int32} {off : Int} {tgt : Nat} (hd : decode cc pc = .ok (.ifCond .ne off, 3)) (ht : (pc : Int) + off = (tgt : Int)) (kt : ¬ x = 0 → Rg isI cc own nL ret rm mc ms cA ad Q cells slots tgt lv st ws) (kf : x = 0 → Rg isI cc own nL ret rm mc ms cA ad Q cells slots (pc + 3) lv st ws) : Rg isI cc own nL ret rm mc ms cA ad Q cells slots pc lv (.int x :: st) ws := by
  intro p l e s m args below meth c G tx A Qc free d0 X I E hd0 H locs ls hP hD hS hl
  exact lv_if_ne X.1 X.2.1 hd ht (fun h => kt h p l e s m args below meth c G tx A Qc free d0 X I E hd0 H locs ls hP hD hS hl) (fun h => kf h p l e s m args below meth c G tx A Qc free d0 X I E hd0 H locs ls hP hD hS hl)
theorem g_icmp_lt {x y : Int32} {off : Int} {tgt : Nat} (hd : decode cc pc = .ok (.if_icmp .lt off, 3)) (ht : (pc : Int) + off = (tgt : Int)) (kt : x < y → Rg isI cc own nL ret rm mc ms cA ad Q cells slots tgt lv st ws) (kf : ¬ x < y → Rg isI cc own nL ret rm mc ms cA ad Q cells slots (pc + 3) lv st ws) : Rg isI cc own nL ret rm mc ms cA ad Q cells slots pc lv (.int y :: .int x :: st) ws := by
  intro p l e s m args below meth c G tx A Qc free d0 X I E hd0 H locs ls hP hD hS hl
  exact lv_icmp_lt X.1 X.2.1 hd ht (fun h => kt h p l e s m args below meth c G tx A Qc free d0 X I E hd0 H locs ls hP hD hS hl) (fun h => kf h p l e s m args below meth c G tx A Qc free d0 X I E hd0 H locs ls hP hD hS hl)
theorem g_if_lt {x : Int32} {off : Int} {tgt : Nat} (hd : decode cc pc = .ok (.ifCond .lt off, 3)) (ht : (pc : Int) + off = (tgt : Int)) (kt : x < 0 → Rg isI cc own nL ret rm mc ms cA ad Q cells slots tgt lv st ws) (kf : ¬ x < 0 → Rg isI cc own nL ret rm mc ms cA ad Q cells slots (pc + 3) lv st ws) : Rg isI cc own nL ret rm mc ms cA ad Q cells slots pc lv (.int x :: st) ws := by
  intro p l e s m args below meth c G tx A Qc free d0 X I E hd0 H locs ls hP hD hS hl
  exact lv_if_lt X.1 X.2.1 hd ht (fun h => kt h p l e s m args below meth c G tx A Qc free d0 X I E hd0 H locs ls hP hD hS hl) (fun h => kf h p l e s m args below meth c G tx A Qc free d0 X I E hd0 H locs ls hP hD hS hl)
theorem g_icmp_ge {x y : Int32} {off : Int} {tgt : Nat} (hd : decode cc pc = .ok (.if_icmp .ge off, 3)) (ht : (pc : Int) + off = (tgt : Int)) (kt : y ≤ x → Rg isI cc own nL ret rm mc ms cA ad Q cells slots tgt lv st ws) (kf : ¬ y ≤ x → Rg isI cc own nL ret rm mc ms cA ad Q cells slots (pc + 3) lv st ws) : Rg isI cc own nL ret rm mc ms cA ad Q cells slots pc lv (.int y :: .int x :: st) ws := by
  intro p l e s m args below meth c G tx A Qc free d0 X I E hd0 H locs ls hP hD hS hl
  exact lv_icmp_ge X.1 X.2.1 hd ht (fun h => kt h p l e s m args below meth c G tx A Qc free d0 X I E hd0 H locs ls hP hD hS hl) (fun h => kf h p l e s m args below meth c G tx A Qc free d0 X I E hd0 H locs ls hP hD hS hl)
theorem g_if_ge {x : Int32} {off : Int} {tgt : Nat} (hd : decode cc pc = .ok (.ifCond .ge off, 3)) (ht : (pc : Int) + off = (tgt : Int)) (kt : 0 ≤ x → Rg isI cc own nL ret rm mc ms cA ad Q cells slots tgt lv st ws) (kf : ¬ 0 ≤ x → Rg isI cc own nL ret rm mc ms cA ad Q cells slots (pc + 3) lv st ws) : Rg isI cc own nL ret rm mc ms cA ad Q cells slots pc lv (.int x :: st) ws := by
  intro p l e s m args below meth c G tx A Qc free d0 X I E hd0 H locs ls hP hD hS hl
  exact lv_if_ge X.1 X.2.1 hd ht (fun h => kt h p l e s m args below meth c G tx A Qc free d0 X I E hd0 H locs ls hP hD hS hl) (fun h => kf h p l e s m args below meth c G tx A Qc free d0 X I E hd0 H locs ls hP hD hS hl)
theorem g_icmp_gt {x y : Int32} {off : Int} {tgt : Nat} (hd : decode cc pc = .ok (.if_icmp .gt off, 3)) (ht : (pc : Int) + off = (tgt : Int)) (kt : y < x → Rg isI cc own nL ret rm mc ms cA ad Q cells slots tgt lv st ws) (kf : ¬ y < x → Rg isI cc own nL ret rm mc ms cA ad Q cells slots (pc + 3) lv st ws) : Rg isI cc own nL ret rm mc ms cA ad Q cells slots pc lv (.int y :: .int x :: st) ws := by
  intro p l e s m args below meth c G tx A Qc free d0 X I E hd0 H locs ls hP hD hS hl
  exact lv_icmp_gt X.1 X.2.1 hd ht (fun h => kt h p l e s m args below meth c G tx A Qc free d0 X I E hd0 H locs ls hP hD hS hl) (fun h => kf h p l e s m args below meth c G tx A Qc free d0 X I E hd0 H locs ls hP hD hS hl)
theorem g_if_gt {x : Int32} {off : Int} {tgt : Nat} (hd : decode cc pc = .ok (.ifCond .gt off, 3)) (ht : (pc : Int) + off = (tgt : Int)) (kt : 0 < x → Rg isI cc own nL ret rm mc ms cA ad Q cells slots tgt lv st ws) (kf : ¬ 0 < x → Rg isI cc own nL ret rm mc ms cA ad Q cells slots (pc + 3) lv st ws) : Rg isI cc own nL ret rm mc ms cA ad Q cells slots pc lv (.int x :: st) ws := by
  intro p l e s m args below meth c G tx A Qc free d0 X I E hd0 H locs ls hP hD hS hl
  exact lv_if_gt X.1 X.2.1 hd ht (fun h => kt h p l e s m args below meth c G tx A Qc free d0 X I E hd0 H locs ls hP hD hS hl) (fun h => kf h p l e s m args below meth c G tx A Qc free d0 X I E hd0 H locs ls hP hD hS hl)
theorem g_icmp_le {x y : Int32} {off : Int} {tgt : Nat} (hd : decode cc pc = .ok (.if_icmp .le off, 3)) (ht : (pc : Int) + off = (tgt : Int)) (kt : x ≤ y → Rg isI cc own nL ret rm mc ms cA ad Q cells slots tgt lv st ws) (kf : ¬ x ≤ y → Rg isI cc own nL ret rm mc ms cA ad Q cells slots (pc + 3) lv st ws) : Rg isI cc own nL ret rm mc ms cA ad Q cells slots pc lv (.int y :: .int x :: st) ws := by
  intro p l e s m args below meth c G tx A Qc free d0 X I E hd0 H locs ls hP hD hS hl
  exact lv_icmp_le X.1 X.2.1 hd ht (fun h => kt h p l e s m args below meth c G tx A Qc free d0 X I E hd0 H locs ls hP hD hS hl) (fun h => kf h p l e s m args below meth c G tx A Qc free d0 X I E hd0 H locs ls hP hD hS hl)
theorem g_if_le {x : Int32} {off : Int} {tgt : Nat} (hd : decode cc pc = .ok (.ifCond .le off, 3)) (ht : (pc : Int) + off = (tgt : Int)) (kt : x ≤ 0 → Rg isI cc own nL ret rm mc ms cA ad Q cells slots tgt lv st ws) (kf : ¬ x ≤ 0 → Rg isI cc own nL ret rm mc ms cA ad Q cells slots (pc + 3) lv st ws) : Rg isI cc own nL ret rm mc ms cA ad Q cells slots pc lv (.int x :: st) ws := by
  intro p l e s m args below meth c G tx A Qc free d0 X I E hd0 H locs ls hP hD hS hl
  exact lv_if_le X.1 X.2.1 hd ht (fun h => kt h p l e s m args below meth c G tx A Qc free d0 X I E hd0 H locs ls hP hD hS hl) (fun h => kf h p l e s m args below meth c G tx A Qc free d0 X I E hd0 H locs ls hP hD hS hl)
theorem g_goto {off : Int} {tgt : Nat} (hd : decode cc pc = .ok (.goto off, 3)) (ht : (pc : Int) + off = (tgt : Int)) (k : Rg isI cc own nL ret rm mc ms cA ad Q cells slots tgt lv st ws) : Rg isI cc own nL ret rm mc ms cA ad Q cells slots pc lv st ws := by
  intro p l e s m args below meth c G tx A Qc free d0 X I E hd0 H locs ls hP hD hS hl
  exact lv_goto X.1 X.2.1 hd ht (k p l e s m args below meth c G tx A Qc free d0 X I E hd0 H locs ls hP hD hS hl)
theorem g_lookup {dflt : Int} {ps : Array (Int × Int)} {len : Nat} {x : Int32} {off : Int} {tgt : Nat} (hd : decode cc pc = .ok (.lookupswitch dflt ps, len)) (hp : (ps.toList.zip (ps.toList.drop 1)).all (fun (a, next) => a.1 < next.1) = true) (ho : Op.lookupswitch.offset ps.toList dflt x.toInt = off) (ht : (pc : Int) + off = (tgt : Int)) (k : Rg isI cc own nL ret rm mc ms cA ad Q cells slots tgt lv st ws) : Rg isI cc own nL ret rm mc ms cA ad Q cells slots pc lv (.int x :: st) ws := by
  intro p l e s m args below meth c G tx A Qc free d0 X I E hd0 H locs ls hP hD hS hl
  exact lv_lookup X.1 X.2.1 hd hp ho ht (k p l e s m args below meth c G tx A Qc free d0 X I E hd0 H locs ls hP hD hS hl)
theorem g_tableIn {dflt lo hi : Int} {offs : Array Int} {len : Nat} {x : Int32} {off : Int} {tgt : Nat} (hd : decode cc pc = .ok (.tableswitch dflt lo hi offs, len)) (h1 : ¬ x.toInt < lo) (h2 : ¬ hi < x.toInt) (ho : offs[(x.toInt - lo).toNat]? = some off) (ht : (pc : Int) + off = (tgt : Int)) (k : Rg isI cc own nL ret rm mc ms cA ad Q cells slots tgt lv st ws) : Rg isI cc own nL ret rm mc ms cA ad Q cells slots pc lv (.int x :: st) ws := by
  intro p l e s m args below meth c G tx A Qc free d0 X I E hd0 H locs ls hP hD hS hl
  exact lv_tableIn X.1 X.2.1 hd h1 h2 ho ht (k p l e s m args below meth c G tx A Qc free d0 X I E hd0 H locs ls hP hD hS hl)
theorem g_tableOut {dflt lo hi : Int} {offs : Array Int} {len : Nat} {x : Int32} {tgt : Nat} (hd : decode cc pc = .ok (.tableswitch dflt lo hi offs, len)) (h : x.toInt < lo ∨ hi < x.toInt) (ht : (pc : Int) + dflt = (tgt : Int)) (k : Rg isI cc own nL ret rm mc ms cA ad Q cells slots tgt lv st ws) : Rg isI cc own nL ret rm mc ms cA ad Q cells slots pc lv (.int x :: st) ws := by
  intro p l e s m args below meth c G tx A Qc free d0 X I E hd0 H locs ls hP hD hS hl
  exact lv_tableOut X.1 X.2.1 hd h ht (k p l e s m args below meth c G tx A Qc free d0 X I E hd0 H locs ls hP hD hS hl)
theorem g_ldcS {idx : Nat} {tx0 : String} {i : Nat} (hin : (own, idx, tx0, i) ∈ jsR) (hd : decode cc pc = .ok (.ldc idx, 2)) (k : Rg isI cc own nL ret rm mc ms cA ad Q cells slots (pc + 2) lv (.ref (ad 16 i) :: st) ws) : Rg isI cc own nL ret rm mc ms cA ad Q cells slots pc lv st ws := by
  intro p l e s m args below meth c G tx A Qc free d0 X I E hd0 H locs ls hP hD hS hl
  have hJ0 : JZ ad A (s.setDrawn d0) (s.setDrawn d0).heap := JZ.vm (u := s) rfl X.2.2.2.2.2.2.2.2.2.2
  exact va_ldcS (s := s.setDrawn d0) X.1 X.2.1 X.2.2.2.1 (hJ0.2.1 _ hin) hd (k p l e s m args below meth c G tx A Qc free d0 X I E hd0 H locs ls hP hD hS hl)
theorem g_getsC {idx : Nat} (hw : Cond.fieldLink own idx "java/lang/String" "COMPACT_STRINGS" "Z" ∈ wsL_law) (hd : decode cc pc = .ok (.getstatic idx, 3)) (k : Rg isI cc own nL ret rm mc ms cA ad Q cells slots (pc + 3) lv (.int 1 :: st) ws) : Rg isI cc own nL ret rm mc ms cA ad Q cells slots pc lv st ws := by
  intro p l e s m args below meth c G tx A Qc free d0 X I E hd0 H locs ls hP hD hS hl
  have hJ0 : JZ ad A (s.setDrawn d0) (s.setDrawn d0).heap := JZ.vm (u := s) rfl X.2.2.2.2.2.2.2.2.2.2
  exact va_gets (s := s.setDrawn d0) X.1 X.2.1 hJ0.2.2.1 hS X.2.2.2.1 (dr_words X.2.2.2.2.1 d0 _ hw) (fun _ h => h) hd (k p l e s m args below meth c G tx A Qc free d0 X I E hd0 H locs ls hP hD hS hl)
theorem g_getsD {idx : Nat} {i : Nat} {nm : String} (hi : (i = 0 ∧ nm = "DigitOnes") ∨ (i = 1 ∧ nm = "DigitTens")) (hw : Cond.fieldLink own idx "java/lang/Integer" nm "[B" ∈ wsL_law) (hd : decode cc pc = .ok (.getstatic idx, 3)) (k : Rg isI cc own nL ret rm mc ms cA ad Q cells slots (pc + 3) lv (.ref (ad 18 i) :: st) ws) : Rg isI cc own nL ret rm mc ms cA ad Q cells slots pc lv st ws := by
  intro p l e s m args below meth c G tx A Qc free d0 X I E hd0 H locs ls hP hD hS hl
  have hJ0 : JZ ad A (s.setDrawn d0) (s.setDrawn d0).heap := JZ.vm (u := s) rfl X.2.2.2.2.2.2.2.2.2.2
  rcases hi with ⟨rfl, rfl⟩ | ⟨rfl, rfl⟩
  · exact va_gets (s := s.setDrawn d0) X.1 X.2.1 hJ0.2.2.2.2.1 hS X.2.2.2.1 (dr_words X.2.2.2.2.1 d0 _ hw) (fun _ h => h) hd (k p l e s m args below meth c G tx A Qc free d0 X I E hd0 H locs ls hP hD hS hl)
  · exact va_gets (s := s.setDrawn d0) X.1 X.2.1 hJ0.2.2.2.2.2.1 hS X.2.2.2.1 (dr_words X.2.2.2.2.1 d0 _ hw) (fun _ h => h) hd (k p l e s m args below meth c G tx A Qc free d0 X I E hd0 H locs ls hP hD hS hl)
theorem g_getsP {idx : Nat} (hw : Cond.fieldLink own idx "jdk/internal/util/Preconditions" "SIOOBE_FORMATTER" "Ljava/util/function/BiFunction;" ∈ wsL_law) (hd : decode cc pc = .ok (.getstatic idx, 3)) (k : ∀ v : Value, v.category = 1 → Rg isI cc own nL ret rm mc ms cA ad Q cells slots (pc + 3) lv (v :: st) ws) : Rg isI cc own nL ret rm mc ms cA ad Q cells slots pc lv st ws := by
  intro p l e s m args below meth c G tx A Qc free d0 X I E hd0 H locs ls hP hD hS hl
  have hJ0 : JZ ad A (s.setDrawn d0) (s.setDrawn d0).heap := JZ.vm (u := s) rfl X.2.2.2.2.2.2.2.2.2.2
  obtain ⟨v, hvc, hZ⟩ := hJ0.2.2.2.1
  exact va_gets (s := s.setDrawn d0) X.1 X.2.1 hZ hS X.2.2.2.1 (dr_words X.2.2.2.2.1 d0 _ hw) (fun _ h => h) hd (k v hvc p l e s m args below meth c G tx A Qc free d0 X I E hd0 H locs ls hP hD hS hl)
theorem g_lit_coder {idx i : Nat} (hi : i < 15) (hw : Cond.fieldLink own idx "java/lang/String" "coder" "B" ∈ wsL_law) (hd : decode cc pc = .ok (.getfield idx, 3)) (k : Rg isI cc own nL ret rm mc ms cA ad Q cells slots (pc + 3) lv (.int 0 :: st) ws) : Rg isI cc own nL ret rm mc ms cA ad Q cells slots pc lv (.ref (ad 16 i) :: st) ws := by
  intro p l e s m args below meth c G tx A Qc free d0 X I E hd0 H locs ls hP hD hS hl
  have hJ0 : JZ ad A (s.setDrawn d0) (s.setDrawn d0).heap := JZ.vm (u := s) rfl X.2.2.2.2.2.2.2.2.2.2
  exact vk_getf (s := s.setDrawn d0) X.1 X.2.1 (hJ0.1.1 i hi).2.1 hS X.2.2.2.1 (dr_words X.2.2.2.2.1 d0 _ hw) (fun _ h => h) hd (k p l e s m args below meth c G tx A Qc free d0 X I E hd0 H locs ls hP hD hS hl)
theorem g_lit_value {idx i : Nat} (hi : i < 15) (hw : Cond.fieldLink own idx "java/lang/String" "value" "[B" ∈ wsL_law) (hd : decode cc pc = .ok (.getfield idx, 3)) (k : Rg isI cc own nL ret rm mc ms cA ad Q cells slots (pc + 3) lv (.ref (ad 17 i) :: st) ws) : Rg isI cc own nL ret rm mc ms cA ad Q cells slots pc lv (.ref (ad 16 i) :: st) ws := by
  intro p l e s m args below meth c G tx A Qc free d0 X I E hd0 H locs ls hP hD hS hl
  have hJ0 : JZ ad A (s.setDrawn d0) (s.setDrawn d0).heap := JZ.vm (u := s) rfl X.2.2.2.2.2.2.2.2.2.2
  exact vk_getf (s := s.setDrawn d0) X.1 X.2.1 (hJ0.1.1 i hi).2.2.1 hS X.2.2.2.1 (dr_words X.2.2.2.2.1 d0 _ hw) (fun _ h => h) hd (k p l e s m args below meth c G tx A Qc free d0 X I E hd0 H locs ls hP hD hS hl)
theorem g_lit_len {i : Nat} (hi : i < 15) (hd : decode cc pc = .ok (.arraylength, 1)) (k : Rg isI cc own nL ret rm mc ms cA ad Q cells slots (pc + 1) lv (.int (nI (lenS.getD i 0)) :: st) ws) : Rg isI cc own nL ret rm mc ms cA ad Q cells slots pc lv (.ref (ad 17 i) :: st) ws := by
  intro p l e s m args below meth c G tx A Qc free d0 X I E hd0 H locs ls hP hD hS hl
  have hJ0 : JZ ad A (s.setDrawn d0) (s.setDrawn d0).heap := JZ.vm (u := s) rfl X.2.2.2.2.2.2.2.2.2.2
  exact va_tlen (s := s.setDrawn d0) X.1 X.2.1 (hJ0.1.1 i hi).2.2.2 hS rfl hd (k p l e s m args below meth c G tx A Qc free d0 X I E hd0 H locs ls hP hD hS hl)
theorem g_lit_ld {i j : Nat} {x : Int32} (hi : i < 15) (hx : x = nI j) (hj : j < lenS.getD i 0) (hd : decode cc pc = .ok (.baload, 1)) (k : Rg isI cc own nL ret rm mc ms cA ad Q cells slots (pc + 1) lv (.int ((bytS.getD i []).getD j 0) :: st) ws) : Rg isI cc own nL ret rm mc ms cA ad Q cells slots pc lv (.int x :: .ref (ad 17 i) :: st) ws := by
  intro p l e s m args below meth c G tx A Qc free d0 X I E hd0 H locs ls hP hD hS hl
  have hJ0 : JZ ad A (s.setDrawn d0) (s.setDrawn d0).heap := JZ.vm (u := s) rfl X.2.2.2.2.2.2.2.2.2.2
  subst hx
  have h20 : lenS.getD i 0 ≤ 20 := lenS_le i
  exact va_tb (s := s.setDrawn d0) X.1 X.2.1 (hJ0.1.1 i hi).2.2.2 hS (vp_in_nI hj (by omega)) (by rw [nI_clamp (by omega)]) hd (k p l e s m args below meth c G tx A Qc free d0 X I E hd0 H locs ls hP hD hS hl)
theorem g_dig_ld {i j : Nat} {x : Int32} (hi : i = 0 ∨ i = 1) (hx : x = nI j) (hj : j < 100) (hd : decode cc pc = .ok (.baload, 1)) (k : Rg isI cc own nL ret rm mc ms cA ad Q cells slots (pc + 1) lv (.int (nI (48 + (if i = 0 then j % 10 else j / 10))) :: st) ws) : Rg isI cc own nL ret rm mc ms cA ad Q cells slots pc lv (.int x :: .ref (ad 18 i) :: st) ws := by
  intro p l e s m args below meth c G tx A Qc free d0 X I E hd0 H locs ls hP hD hS hl
  have hJ0 : JZ ad A (s.setDrawn d0) (s.setDrawn d0).heap := JZ.vm (u := s) rfl X.2.2.2.2.2.2.2.2.2.2
  subst hx
  rcases hi with rfl | rfl
  · exact va_tb (s := s.setDrawn d0) X.1 X.2.1 hJ0.2.2.2.2.2.2.1 hS (vp_in_nI hj (by omega)) (by rw [nI_clamp (by omega)]; rfl) hd (k p l e s m args below meth c G tx A Qc free d0 X I E hd0 H locs ls hP hD hS hl)
  · exact va_tb (s := s.setDrawn d0) X.1 X.2.1 hJ0.2.2.2.2.2.2.2.1 hS (vp_in_nI hj (by omega)) (by rw [nI_clamp (by omega)]; rfl) hd (k p l e s m args below meth c G tx A Qc free d0 X I E hd0 H locs ls hP hD hS hl)
theorem g_scr_len (hd : decode cc pc = .ok (.arraylength, 1)) (k : Rg isI cc own nL ret rm mc ms cA ad Q cells slots (pc + 1) lv (.int (nI (ad 18 2)) :: st) ws) : Rg isI cc own nL ret rm mc ms cA ad Q cells slots pc lv (.ref (ad 18 3) :: st) ws := by
  intro p l e s m args below meth c G tx A Qc free d0 X I E hd0 H locs ls hP hD hS hl
  have hJ0 : JZ ad A (s.setDrawn d0) (s.setDrawn d0).heap := JZ.vm (u := s) rfl X.2.2.2.2.2.2.2.2.2.2
  exact va_tlen (s := s.setDrawn d0) X.1 X.2.1 hJ0.2.2.2.2.2.2.2.2.1 hS rfl hd (k p l e s m args below meth c G tx A Qc free d0 X I E hd0 H locs ls hP hD hS hl)
theorem g_scr_ld {j : Nat} {x : Int32} (hx : x = nI j) (hj : j < ad 18 2) (hL : ad 18 2 ≤ 260) (hd : decode cc pc = .ok (.iaload, 1)) (k : Rg isI cc own nL ret rm mc ms cA ad Q cells slots (pc + 1) lv (.int (Int32.ofNat (ad 19 j)) :: st) ws) : Rg isI cc own nL ret rm mc ms cA ad Q cells slots pc lv (.int x :: .ref (ad 18 3) :: st) ws := by
  intro p l e s m args below meth c G tx A Qc free d0 X I E hd0 H locs ls hP hD hS hl
  have hJ0 : JZ ad A (s.setDrawn d0) (s.setDrawn d0).heap := JZ.vm (u := s) rfl X.2.2.2.2.2.2.2.2.2.2
  subst hx
  exact va_ti (s := s.setDrawn d0) X.1 X.2.1 hJ0.2.2.2.2.2.2.2.2.1 hS (vp_in_nI hj (by omega)) (by rw [nI_clamp (by omega)]) hd (k p l e s m args below meth c G tx A Qc free d0 X I E hd0 H locs ls hP hD hS hl)
theorem g_ineg {x : Int32} (hd : decode cc pc = .ok (.ineg, 1)) (k : Rg isI cc own nL ret rm mc ms cA ad Q cells slots (pc + 1) lv (.int (-x) :: st) ws) : Rg isI cc own nL ret rm mc ms cA ad Q cells slots pc lv (.int x :: st) ws := by
  intro p l e s m args below meth c G tx A Qc free d0 X I E hd0 H locs ls hP hD hS hl
  exact lv_ineg X.1 X.2.1 hd (k p l e s m args below meth c G tx A Qc free d0 X I E hd0 H locs ls hP hD hS hl)
theorem g_null  (hd : decode cc pc = .ok (.aconst_null, 1)) (k : Rg isI cc own nL ret rm mc ms cA ad Q cells slots (pc + 1) lv (.null :: st) ws) : Rg isI cc own nL ret rm mc ms cA ad Q cells slots pc lv (st) ws := by
  intro p l e s m args below meth c G tx A Qc free d0 X I E hd0 H locs ls hP hD hS hl
  exact lv_null X.1 X.2.1 hd (k p l e s m args below meth c G tx A Qc free d0 X I E hd0 H locs ls hP hD hS hl)
theorem g_ifnonnull {x : Nat} {off : Int} {tgt : Nat} (hd : decode cc pc = .ok (.ifnonnull off, 3)) (ht : (pc : Int) + off = (tgt : Int)) (k : Rg isI cc own nL ret rm mc ms cA ad Q cells slots tgt lv st ws) : Rg isI cc own nL ret rm mc ms cA ad Q cells slots pc lv (.ref x :: st) ws := by
  intro p l e s m args below meth c G tx A Qc free d0 X I E hd0 H locs ls hP hD hS hl
  exact lv_ifnonnull X.1 X.2.1 hd ht (k p l e s m args below meth c G tx A Qc free d0 X I E hd0 H locs ls hP hD hS hl)
theorem g_get {i idx ci N b : Nat} {C : String} {T : u_T} {fs : List Value} {v : Value} (he : ws[i]? = some (b, .inr (ci, fs))) (hc : vwCl[ci]? = some (C, T, N)) (hin : ∀ w ∈ u_ws C T N, w ∈ wsL_law) (kf : Nat) (hk : kf < N) (hw : Cond.fieldLink own idx (T kf).1 (T kf).2.1 (T kf).2.2.1 ∈ wsL_law) (hv : fs[kf]? = some v) (hd : decode cc pc = .ok (.getfield idx, 3)) (k : Rg isI cc own nL ret rm mc ms cA ad Q cells slots (pc + 3) lv (v :: st) ws) : Rg isI cc own nL ret rm mc ms cA ad Q cells slots pc lv (.ref b :: st) ws := by
  intro p l e s m args below meth c G tx A Qc free d0 X I E hd0 H locs ls hP hD hS hl
  exact va_get X.1 X.2.1 (dr_words X.2.2.2.2.1 d0) hin X.2.2.2.1 X.2.2.2.2.2.2.2.1 hP i he hc kf hk (dr_words X.2.2.2.2.1 d0 _ hw) (fun _ h => h) hv hd (k p l e s m args below meth c G tx A Qc free d0 X I E hd0 H locs ls hP hD hS hl)
theorem g_put {i idx ci N b : Nat} {C : String} {T : u_T} {fs : List Value} {v : Value} {ty : FieldType} (he : ws[i]? = some (b, .inr (ci, fs))) (hc : vwCl[ci]? = some (C, T, N)) (hin : ∀ w ∈ u_ws C T N, w ∈ wsL_law) (ty0 : Nat → FieldType) (hty : ∀ k, k < N → parseFieldDescriptor (T k).2.2.1 = some (ty0 k)) (hnm : ∀ a, a < N → ∀ b, b < N → a ≠ b → (T a).2.1 ≠ (T b).2.1) (kf : Nat) (hk : kf < N) (hfl : kf < fs.length) (hw : Cond.fieldLink own idx (T kf).1 (T kf).2.1 (T kf).2.2.1 ∈ wsL_law) (hfin : (T kf).2.2.2 = false) (het : ty0 kf = ty) (hn : narrow ty v = v) (hfit : fits ty v = true) (hws : ws.set i (b, .inr (ci, fs.set kf v)) = ws') (hd : decode cc pc = .ok (.putfield idx, 3)) (k : Rg isI cc own nL ret rm mc ms cA ad Q cells slots (pc + 3) lv st ws') : Rg isI cc own nL ret rm mc ms cA ad Q cells slots pc lv (v :: .ref b :: st) ws := by
  intro p l e s m args below meth c G tx A Qc free d0 X I E hd0 H locs ls hP hD hS hl
  refine va_put X.1 X.2.1 (dr_words X.2.2.2.2.1 d0) hin ty0 hty hnm X.2.2.2.1 X.2.2.2.2.2.2.2.1 hP hD hS i he hc kf hk (dr_words X.2.2.2.2.1 d0 _ hw) (fun _ h => h) hfin (by rw [hty kf hk, het]) hn hfit hfl hd (fun H1 locs1 hP1 hD1 hS1 => ?_)
  rw [hws] at hP1 hD1
  exact k p l e s m args below meth c G tx A Qc free d0 X I E hd0 H1 locs1 ls hP1 hD1 hS1 hl
theorem g_putF {i idx ci N b : Nat} {C : String} {T : u_T} {fs : List Value} {v : Value} {ty : FieldType} (he : ws[i]? = some (b, .inr (ci, fs))) (hc : vwCl[ci]? = some (C, T, N)) (hin : ∀ w ∈ u_ws C T N, w ∈ wsL_law) (ty0 : Nat → FieldType) (hty : ∀ k, k < N → parseFieldDescriptor (T k).2.2.1 = some (ty0 k)) (hnm : ∀ a, a < N → ∀ b, b < N → a ≠ b → (T a).2.1 ≠ (T b).2.1) (kf : Nat) (hk : kf < N) (hfl : kf < fs.length) (hw : Cond.fieldLink own idx (T kf).1 (T kf).2.1 (T kf).2.2.1 ∈ wsL_law) (hI : isI = true) (hfin : (T kf).2.2.2 = true) (hdecl : (T kf).1 = own) (het : ty0 kf = ty) (hn : narrow ty v = v) (hfit : fits ty v = true) (hws : ws.set i (b, .inr (ci, fs.set kf v)) = ws') (hd : decode cc pc = .ok (.putfield idx, 3)) (k : Rg isI cc own nL ret rm mc ms cA ad Q cells slots (pc + 3) lv st ws') : Rg isI cc own nL ret rm mc ms cA ad Q cells slots pc lv (v :: .ref b :: st) ws := by
  intro p l e s m args below meth c G tx A Qc free d0 X I E hd0 H locs ls hP hD hS hl
  refine va_putF (own := own) X.1 X.2.1 (dr_words X.2.2.2.2.1 d0) hin ty0 hty hnm X.2.2.2.1 X.2.2.2.2.2.2.2.1 hP hD hS i he hc kf hk (dr_words X.2.2.2.2.1 d0 _ hw) (fun _ h => h) hfin (I hI) hdecl (by rw [hty kf hk, het]) hn hfit hfl hd (fun H1 locs1 hP1 hD1 hS1 => ?_)
  rw [hws] at hP1 hD1
  exact k p l e s m args below meth c G tx A Qc free d0 X I E hd0 H1 locs1 ls hP1 hD1 hS1 hl
theorem g_new {idx ci N : Nat} {C : String} {T : u_T} {fs : List Value} (hc : vwCl[ci]? = some (C, T, N)) (hin : ∀ w ∈ u_ws C T N, w ∈ wsL_law) (ty0 : Nat → FieldType) (hty : ∀ k, k < N → parseFieldDescriptor (T k).2.2.1 = some (ty0 k)) (hcl : Cond.classLink own idx C ∈ wsL_law) (hinst : Cond.instantiable C N ∈ wsL_law) (hini : Cond.initialized C ∈ wsL_law) (hfs : ∀ j, j < N → defaultValue (ty0 j) = vp_V fs j) (hcs : cells + 1 ≤ rm.cells ∧ slots + N ≤ rm.slots) (hd : decode cc pc = .ok (.new idx, 3)) (k : ∀ q : Nat, Rg isI cc own nL ret rm mc ms cA ad Q (cells + 1) (slots + N) (pc + 3) lv (.ref q :: st) (ws ++ [(q, .inr (ci, fs))])) : Rg isI cc own nL ret rm mc ms cA ad Q cells slots pc lv st ws := by
  intro p l e s m args below meth c G tx A Qc free d0 X I E hd0 H locs ls hP hD hS hl
  exact va_new X.1 X.2.1 (dr_words X.2.2.2.2.1 d0) hin ty0 hty X.2.2.2.1 (dr_words X.2.2.2.2.1 d0 _ hcl) (dr_words X.2.2.2.2.1 d0 _ hinst) (dr_words X.2.2.2.2.1 d0 _ hini) X.2.2.2.2.2.2.2.1 hP hD hS X.2.2.2.2.2.2.2.2.1 hc hfs hcs.1 hcs.2 hd (fun q H1 hP1 hD1 hS1 => k q p l e s m args below meth c G tx A Qc free d0 X I E hd0 H1 locs ls hP1 hD1 hS1 hl)
theorem va_one {G : va_G} {tys : List (ClassId × FieldType)} {s : State} {t0 : Nat} {c0 c1 : ClassId} {ty : FieldType} (h : va_K G vwCl (tys ++ [(c1, ty)]) s) (h0 : tys[t0]? = some (c0, ty)) : c1 = c0 := by
  have h1 := (h.2 tys.length (c1, ty) (by rw [List.getElem?_append_right (Nat.le_refl _), Nat.sub_self]; rfl)).2
  have h2 := (h.2 t0 (c0, ty) (by rw [List.getElem?_append_left (List.getElem?_eq_some_iff.mp h0).1]; exact h0)).2
  cases ty with
  | object C =>
    obtain ⟨-, -, -, -, -, e1⟩ := h1
    obtain ⟨-, -, -, -, -, e2⟩ := h2
    exact Option.some.inj (e1.symm.trans e2)
  | _ => exact Option.some.inj ((show _ = some c1 from h1).symm.trans h2)
theorem g_newa {at0 : ArrayType} {ty : FieldType} {n : Int32} {N : Nat} {a0 : vp_A} (t0 : Nat) {c0 : ClassId} (ht0 : ∀ tx, (tysT cA ++ tx)[t0]? = some (c0, ty)) (harr : Cond.arrayClass ty ∈ wsL_law) (hty : newarray.typeOf at0 = ty) (ha : ∀ cB : ClassId, vp_cell cB a0 = arrV cB N (fun _ => defaultValue ty)) (hn : ¬ n < 0) (hN : n.toNatClampNeg = N) (hbytes : N * componentBytes ty ≤ 536870912) (hcs : cells + 1 ≤ rm.cells ∧ slots + N ≤ rm.slots) (hd : decode cc pc = .ok (.newarray at0, 2)) (k : ∀ q : Nat, Rg isI cc own nL ret rm mc ms cA ad Q (cells + 1) (slots + N) (pc + 2) lv (.ref q :: st) (ws ++ [(q, .inl (c0, a0))])) : Rg isI cc own nL ret rm mc ms cA ad Q cells slots pc lv (.int n :: st) ws := by
  intro p l e s m args below meth c G tx A Qc free d0 X I E hd0 H locs ls hP hD hS hl
  subst hty
  refine va_newa X.1 X.2.1 (dr_words X.2.2.2.2.1 d0 _ harr) rfl X.2.2.2.2.2.2.2.1 hP hD hS X.2.2.2.2.2.2.2.2.1 ha hn hN hbytes hcs.1 hcs.2 hd (fun q cB H1 hK1 hP1 hD1 hS1 => ?_)
  rw [va_one hK1 (ht0 tx)] at hP1 hD1
  exact k q p l e s m args below meth c G tx A Qc free d0 X I E hd0 H1 locs ls hP1 hD1 hS1 hl
theorem g_newq {idx : Nat} {C : String} {n : Int32} {N : Nat} (t0 : Nat) {c0 : ClassId} (ht0 : ∀ tx, (tysT cA ++ tx)[t0]? = some (c0, .object C)) (hcl : Cond.classLink own idx C ∈ wsL_law) (hov : ∀ U, JY U → va_AO C U) (hn : ¬ n < 0) (hN : n.toNatClampNeg = N) (hbytes : N * 4 ≤ 536870912) (hcs : cells + 1 ≤ rm.cells ∧ slots + N ≤ rm.slots) (hd : decode cc pc = .ok (.anewarray idx, 3)) (k : ∀ q : Nat, Rg isI cc own nL ret rm mc ms cA ad Q (cells + 1) (slots + N) (pc + 3) lv (.ref q :: st) (ws ++ [(q, .inl (c0, N, .inr (.inr (.inr (.inr (fun _ => none))))))])) : Rg isI cc own nL ret rm mc ms cA ad Q cells slots pc lv (.int n :: st) ws := by
  intro p l e s m args below meth c G tx A Qc free d0 X I E hd0 H locs ls hP hD hS hl
  have hJ0 : JZ ad A (s.setDrawn d0) (s.setDrawn d0).heap := JZ.vm (u := s) rfl X.2.2.2.2.2.2.2.2.2.2
  refine va_newq (s := s.setDrawn d0) X.1 X.2.1 X.2.2.2.1 (dr_words X.2.2.2.2.1 d0 _ hcl) (hov _ hJ0.2.2.2.2.2.2.2.2.2.2) X.2.2.2.2.2.2.2.1 hP hD hS X.2.2.2.2.2.2.2.2.1 hn hN hbytes hcs.1 hcs.2 hd (fun q cB H1 hK1 hP1 hD1 hS1 => ?_)
  rw [va_one (s := s.setDrawn d0) hK1 (ht0 tx)] at hP1 hD1
  exact k q p l e s m args below meth c G tx A Qc free d0 X I E hd0 H1 locs ls hP1 hD1 hS1 hl
theorem g_astq {i j ci a v n : Nat} {x : Int32} {r : vw_C} {vs : List Value} {f : Nat → Option Nat} (t0 : Nat) {c0 : ClassId} (ht0 : ∀ tx, (tysT cA ++ tx)[t0]? = some (c0, .object r.1)) (ha : ws[i]? = some (a, .inl (c0, n, .inr (.inr (.inr (.inr f)))))) (hv : ws[j]? = some (v, .inr (ci, vs))) (hc : vwCl[ci]? = some r) (hin : vp_in x n) (hws : ws.set i (a, .inl (c0, n, .inr (.inr (.inr (.inr (va_up f x.toNatClampNeg (some v))))))) = ws') (hd : decode cc pc = .ok (.aastore, 1)) (k : Rg isI cc own nL ret rm mc ms cA ad Q cells slots (pc + 1) lv st ws') : Rg isI cc own nL ret rm mc ms cA ad Q cells slots pc lv (.ref v :: .int x :: .ref a :: st) ws := by
  intro p l e s m args below meth c G tx A Qc free d0 X I E hd0 H locs ls hP hD hS hl
  refine va_astq (s := s.setDrawn d0) X.1 X.2.1 X.2.2.2.2.2.2.2.1 hP hD hS i t0 j ci ha (ht0 tx) hv hc hin hd (fun H1 locs1 hP1 hD1 hS1 => ?_)
  rw [hws] at hP1 hD1
  exact k p l e s m args below meth c G tx A Qc free d0 X I E hd0 H1 locs1 ls hP1 hD1 hS1 hl
theorem g_bald {i a n : Nat} {x : Int32} {f : Nat → Int32} (t0 : Nat) {c0 : ClassId} (ht0 : ∀ tx, (tysT cA ++ tx)[t0]? = some (c0, .byte)) (ha : ws[i]? = some (a, .inl (c0, n, .inl f))) (hin : vp_in x n) (hd : decode cc pc = .ok (.baload, 1)) (k : Rg isI cc own nL ret rm mc ms cA ad Q cells slots (pc + 1) lv (.int (f x.toNatClampNeg) :: st) ws) : Rg isI cc own nL ret rm mc ms cA ad Q cells slots pc lv (.int x :: .ref a :: st) ws := by
  intro p l e s m args below meth c G tx A Qc free d0 X I E hd0 H locs ls hP hD hS hl
  exact va_bald (s := s.setDrawn d0) X.1 X.2.1 X.2.2.2.2.2.2.2.1 hP i t0 ha (ht0 tx) hin hd (k p l e s m args below meth c G tx A Qc free d0 X I E hd0 H locs ls hP hD hS hl)
theorem g_bast {i a n : Nat} {x : Int32} {y : Int32} {f : Nat → Int32} (t0 : Nat) {c0 : ClassId} (ht0 : ∀ tx, (tysT cA ++ tx)[t0]? = some (c0, .byte)) (ha : ws[i]? = some (a, .inl (c0, n, .inl f))) (hin : vp_in x n) (hws : ws.set i (a, .inl (c0, n, .inl (upd f x.toNatClampNeg (vp_nar .byte y)))) = ws') (hd : decode cc pc = .ok (.bastore, 1)) (k : Rg isI cc own nL ret rm mc ms cA ad Q cells slots (pc + 1) lv st ws') : Rg isI cc own nL ret rm mc ms cA ad Q cells slots pc lv (.int y :: .int x :: .ref a :: st) ws := by
  intro p l e s m args below meth c G tx A Qc free d0 X I E hd0 H locs ls hP hD hS hl
  refine va_bast (s := s.setDrawn d0) X.1 X.2.1 X.2.2.2.2.2.2.2.1 hP hD hS i t0 ha (ht0 tx) hin hd (fun H1 locs1 hP1 hD1 hS1 => ?_)
  rw [hws] at hP1 hD1
  exact k p l e s m args below meth c G tx A Qc free d0 X I E hd0 H1 locs1 ls hP1 hD1 hS1 hl
theorem g_lald {i a n : Nat} {x : Int32} {f : Nat → Int64} (t0 : Nat) {c0 : ClassId} (ht0 : ∀ tx, (tysT cA ++ tx)[t0]? = some (c0, .long)) (ha : ws[i]? = some (a, .inl (c0, n, .inr (.inl f)))) (hin : vp_in x n) (hd : decode cc pc = .ok (.laload, 1)) (k : Rg isI cc own nL ret rm mc ms cA ad Q cells slots (pc + 1) lv (.long (f x.toNatClampNeg) :: st) ws) : Rg isI cc own nL ret rm mc ms cA ad Q cells slots pc lv (.int x :: .ref a :: st) ws := by
  intro p l e s m args below meth c G tx A Qc free d0 X I E hd0 H locs ls hP hD hS hl
  exact va_lald (s := s.setDrawn d0) X.1 X.2.1 X.2.2.2.2.2.2.2.1 hP i t0 ha (ht0 tx) hin hd (k p l e s m args below meth c G tx A Qc free d0 X I E hd0 H locs ls hP hD hS hl)
theorem g_last {i a n : Nat} {x : Int32} {y : Int64} {f : Nat → Int64} (t0 : Nat) {c0 : ClassId} (ht0 : ∀ tx, (tysT cA ++ tx)[t0]? = some (c0, .long)) (ha : ws[i]? = some (a, .inl (c0, n, .inr (.inl f)))) (hin : vp_in x n) (hws : ws.set i (a, .inl (c0, n, .inr (.inl (vp_updL f x.toNatClampNeg y)))) = ws') (hd : decode cc pc = .ok (.lastore, 1)) (k : Rg isI cc own nL ret rm mc ms cA ad Q cells slots (pc + 1) lv st ws') : Rg isI cc own nL ret rm mc ms cA ad Q cells slots pc lv (.long y :: .int x :: .ref a :: st) ws := by
  intro p l e s m args below meth c G tx A Qc free d0 X I E hd0 H locs ls hP hD hS hl
  refine va_last (s := s.setDrawn d0) X.1 X.2.1 X.2.2.2.2.2.2.2.1 hP hD hS i t0 ha (ht0 tx) hin hd (fun H1 locs1 hP1 hD1 hS1 => ?_)
  rw [hws] at hP1 hD1
  exact k p l e s m args below meth c G tx A Qc free d0 X I E hd0 H1 locs1 ls hP1 hD1 hS1 hl
theorem g_alen {i a : Nat} {x : vp_A} {ty : FieldType} {v : Int32} (t0 : Nat) {c0 : ClassId} (ht0 : ∀ tx, (tysT cA ++ tx)[t0]? = some (c0, ty)) (ha : ws[i]? = some (a, .inl (c0, x))) (hv : Int32.ofNat x.1 = v) (hd : decode cc pc = .ok (.arraylength, 1)) (k : Rg isI cc own nL ret rm mc ms cA ad Q cells slots (pc + 1) lv (.int v :: st) ws) : Rg isI cc own nL ret rm mc ms cA ad Q cells slots pc lv (.ref a :: st) ws := by
  intro p l e s m args below meth c G tx A Qc free d0 X I E hd0 H locs ls hP hD hS hl
  exact va_alen (s := s.setDrawn d0) X.1 X.2.1 X.2.2.2.2.2.2.2.1 hP i t0 ha (ht0 tx) hv hd (k p l e s m args below meth c G tx A Qc free d0 X I E hd0 H locs ls hP hD hS hl)
theorem g_copyB {idx i j a0 a n0 n1 : Nat} {f g : Nat → Int32} {sp dp n : Int32} (ha0 : ws[i]? = some (a0, .inl (cA 5, n0, .inl f))) (ha : ws[j]? = some (a, .inl (cA 5, n1, .inl g))) (h1 : ¬ sp < 0) (h2 : ¬ dp < 0) (h3 : ¬ n < 0) (h4 : sp.toNatClampNeg + n.toNatClampNeg ≤ n0) (h5 : dp.toNatClampNeg + n.toNatClampNeg ≤ n1) (hfit : ∀ i, fits .byte (.int (f i)) = true) (hws : ws.set j (a, .inl (cA 5, n1, .inl (va_cpy f g sp.toNatClampNeg dp.toNatClampNeg n.toNatClampNeg))) = ws') (hw : Cond.methodLink own idx arraycopyName ∈ wsL_law) (hw2 : Cond.native arraycopyName ∈ wsL_law) (hw3 : Cond.static arraycopyName ∈ wsL_law) (hw4 : Cond.initialized "java/lang/System" ∈ wsL_law) (hfr : 1 ≤ rm.frames) (hlo : (st.map fun v => v.category).sum + (nativeFrameWords "java/lang/System" "arraycopy" 5 + 11) ≤ rm.locals) (hd : decode cc pc = .ok (.invokestatic idx, 3)) (k : Rg isI cc own nL ret rm mc ms cA ad Q cells slots (pc + 3) lv st ws') : Rg isI cc own nL ret rm mc ms cA ad Q cells slots pc lv (.int n :: .int dp :: .ref a :: .int sp :: .ref a0 :: st) ws := by
  intro p l e s m args below meth c G tx A Qc free d0 X I E hd0 H locs ls hP hD hS hl
  have hts := (dr_words X.2.2.2.2.1 d0)
  refine va_copyi (s := s.setDrawn d0) X.1 X.2.1 (X.2.2.1.trans hl.1.symm) X.2.2.2.1 (hts _ hw) (hts _ hw2) (hts _ hw3) (hts _ hw4) X.2.2.2.2.2.2.2.1 hP hD hS i j 5 5 ha0 ha rfl rfl rfl h1 h2 h3 h4 h5 (fun i _ => hfit _) hfr hlo hd (fun H1 locs1 hP1 hD1 hS1 => ?_)
  rw [hws] at hP1 hD1
  exact k p l e s m args below meth c G tx A Qc free d0 X I E hd0 H1 locs1 ls hP1 hD1 hS1 hl
theorem g_copyT {idx i j a n1 : Nat} {g : Nat → Int32} {dp n : Int32} (hi : i < 15) (ha : ws[j]? = some (a, .inl (cA 5, n1, .inl g))) (h2 : ¬ dp < 0) (h3 : n = nI (lenS.getD i 0)) (h5 : dp.toNatClampNeg + lenS.getD i 0 ≤ n1) (hfit : ∀ i j, fits .byte (.int ((bytS.getD i []).getD j 0)) = true) (hws : ws.set j (a, .inl (cA 5, n1, .inl (va_cpy (fun q => (bytS.getD i []).getD q 0) g 0 dp.toNatClampNeg (lenS.getD i 0)))) = ws') (hw : Cond.methodLink own idx arraycopyName ∈ wsL_law) (hw2 : Cond.native arraycopyName ∈ wsL_law) (hw3 : Cond.static arraycopyName ∈ wsL_law) (hw4 : Cond.initialized "java/lang/System" ∈ wsL_law) (hfr : 1 ≤ rm.frames) (hlo : (st.map fun v => v.category).sum + (nativeFrameWords "java/lang/System" "arraycopy" 5 + 11) ≤ rm.locals) (hd : decode cc pc = .ok (.invokestatic idx, 3)) (k : Rg isI cc own nL ret rm mc ms cA ad Q cells slots (pc + 3) lv st ws') : Rg isI cc own nL ret rm mc ms cA ad Q cells slots pc lv (.int n :: .int dp :: .ref a :: .int 0 :: .ref (ad 17 i) :: st) ws := by
  intro p l e s m args below meth c G tx A Qc free d0 X I E hd0 H locs ls hP hD hS hl
  have hts := (dr_words X.2.2.2.2.1 d0)
  have hJ0 : JZ ad A (s.setDrawn d0) (s.setDrawn d0).heap := JZ.vm (u := s) rfl X.2.2.2.2.2.2.2.2.2.2
  have h20 : lenS.getD i 0 ≤ 20 := lenS_le i
  have en : n.toNatClampNeg = lenS.getD i 0 := by rw [h3]; exact nI_clamp (by omega)
  have hn0 : ¬ n < 0 := by rw [h3]; exact nI_pos (by omega)
  have nn : ∀ z : Int32, ¬ z < 0 → z.toInt = (z.toNatClampNeg : Int) := fun z hz => by
    have hz0 : (0 : Int) ≤ z.toInt := by have := Int32.not_lt.mp hz; simpa using Int32.le_iff_toInt_le.mp this
    show z.toInt = ((z.toInt.toNat : Nat) : Int)
    omega
  obtain ⟨cell, q1, q2, q3, q4, q5, q6, q7⟩ := (hJ0.1.1 i hi).2.2.2
  have hK : va_K G vwCl (tysT cA ++ tx) (s.setDrawn d0) := X.2.2.2.2.2.2.2.1
  have hc0 : H[ad 17 i]? = some cell := by rw [hS.2.1 _ (Array.getElem?_eq_some_iff.mp q1).1 q7]; exact q1
  have hc1 : H[a]? = some (vp_cell (cA 5) (n1, .inl g)) := hP j _ ha
  obtain ⟨r1, k0, r2, cm0, r3⟩ := q2
  obtain ⟨-, k1, r4, cm1, r5⟩ := (hK.2 5 _ rfl).1 n1 (fun z => .int (g z))
  intro T hT XX
  obtain ⟨vm', X', step⟩ := XX.arraycopy X.1 X.2.2.2.1 (hts _ hw) (hts _ hw2) (hts _ hw3) (hts _ hw4) (src := ad 17 i) (dst := a) (cs := cell) (cd := vp_cell (cA 5) (n1, .inl g)) (srcPos := 0) (destPos := dp) (n := n) (by rw [hT]; exact hc0) (by rw [hT]; exact hc1) r1 (fun _ h => by cases h) q3 (fun h => by cases h) r2 r4 r3 r5 (by simp [refKind]) (by decide) h2 hn0
    (by rw [nn 0 (by decide), nn n hn0, en, show Int32.toNatClampNeg 0 = 0 from by decide]; omega)
    (by rw [nn dp h2, nn n hn0, en]; show ¬ _ > ((arrV (cA 5) n1 (fun z => .int (g z))).slots.size : Int); rw [arrV_size]; omega)
    (fun vm₁ _ z hz => by
      have e9 : cell.slots.getD (Int32.toNatClampNeg 0 + z) .null = .int ((bytS.getD i []).getD (Int32.toNatClampNeg 0 + z) 0) := by
        rw [Array.getD_eq_getD_getElem?, q6 _ (by rw [en] at hz; rw [show Int32.toNatClampNeg 0 = 0 from by decide]; omega)]
        rfl
      exact ⟨by rw [e9]; exact hfit _ _, by rw [e9]; exact trivial⟩)
    (g := F0 m pc ls (.int n :: .int dp :: .ref a :: .int 0 :: .ref (ad 17 i) :: st)) rfl (by rw [X.2.2.1]; exact hl.1) (rest := st) rfl (by rw [X.2.1]; exact hd) hfr (by show 2 * 0 + _ + _ ≤ _; omega)
  have e1 : copied cell (vp_cell (cA 5) (n1, .inl g)) 0 dp n = vp_cell (cA 5) (n1, .inl (va_cpy (fun q => (bytS.getD i []).getD q 0) g 0 dp.toNatClampNeg (lenS.getD i 0))) := by
    rw [← en]
    exact va_copiedX (fun z => .int z) cell (cA 5) (fun q => (bytS.getD i []).getD q 0) g (sp := 0) q6 (by omega)
  rw [e1] at X' step
  have hlt : a < H.size := (Array.getElem?_eq_some_iff.mp hc1).1
  have oq : ∀ q : Nat, q ≠ a → (H.setIfInBounds a (vp_cell (cA 5) (n1, .inl (va_cpy (fun q => (bytS.getD i []).getD q 0) g 0 dp.toNatClampNeg (lenS.getD i 0)))))[q]? = H[q]? := fun q hq => by simp [Array.getElem?_setIfInBounds, Ne.symm hq]
  have hP1 : va_P G vwCl (ws.set j (a, .inl (cA 5, n1, .inl (va_cpy (fun q => (bytS.getD i []).getD q 0) g 0 dp.toNatClampNeg (lenS.getD i 0))))) (H.setIfInBounds a (vp_cell (cA 5) (n1, .inl (va_cpy (fun q => (bytS.getD i []).getD q 0) g 0 dp.toNatClampNeg (lenS.getD i 0))))) := hP.set hD ha (show (H.setIfInBounds a (vp_cell (cA 5) (n1, .inl (va_cpy (fun q => (bytS.getD i []).getD q 0) g 0 dp.toNatClampNeg (lenS.getD i 0)))))[a]? = some (vp_cell (cA 5) (n1, .inl (va_cpy (fun q => (bytS.getD i []).getD q 0) g 0 dp.toNatClampNeg (lenS.getD i 0)))) from by simp [Array.getElem?_setIfInBounds, hlt]) oq
  have hD1 := hD.set (e := .inl (cA 5, n1, .inl (va_cpy (fun q => (bytS.getD i []).getD q 0) g 0 dp.toNatClampNeg (lenS.getD i 0)))) ha
  rw [hws] at hP1 hD1
  obtain ⟨t, a1, b1⟩ := k p l e s m args below meth c G tx A Qc free d0 X I E hd0 _ _ ls hP1 hD1 ⟨by simp; exact hS.1, fun q g1 g2 => by
      rw [oq q (fun e => g2 (by rw [e]; exact hD.2 j _ ha))]
      exact hS.2.1 q g1 g2, fun q hq => by
      rcases List.mem_append.mp hq with h | h
      · exact hS.2.2 q h
      · obtain ⟨z, -, hz⟩ := List.mem_map.mp h
        rw [← hz]
        exact hD.2 j _ ha⟩ hl _ (by rw [← hT]; rfl) X'
  exact ⟨t, step t a1, b1⟩
theorem g_mmin {idx : Nat} {x y : Int32} (hw : Cond.methodLink own idx Lib.Math.min.name ∈ wsL_law) (hfr : 1 ≤ rm.frames) (hlo : (st.map fun v => v.category).sum + 13 ≤ rm.locals) (hcs : cells ≤ rm.cells ∧ slots ≤ rm.slots) (hd : decode cc pc = .ok (.invokestatic idx, 3)) (k : Rg isI cc own nL ret rm mc ms cA ad Q cells slots (pc + 3) lv (.int (if y < x then y else x) :: st) ws) : Rg isI cc own nL ret rm mc ms cA ad Q cells slots pc lv (.int y :: .int x :: st) ws := by
  intro p l e s m args below meth c G tx A Qc free d0 X I E hd0 H locs ls hP hD hS hl
  have hts := (dr_words X.2.2.2.2.1 d0)
  exact va_mmin (s := s.setDrawn d0) X.1 X.2.1 (X.2.2.1.trans hl.1.symm) X.2.2.2.1 (hts _ hw) (hts _ q5) (hts _ q6) (hts _ q7) hfr hlo hcs.1 hcs.2 hd (k p l e s m args below meth c G tx A Qc free d0 X I E hd0 H locs ls hP hD hS hl)
theorem g_clone {idx i a n : Nat} {f : Nat → Int32} (hw : Cond.methodLink own idx ⟨"[B", "clone", "()Ljava/lang/Object;"⟩ ∈ wsL_law) (ha : ws[i]? = some (a, .inl (cA 5, n, .inl f))) (hfit : ∀ i, fits .byte (.int (f i)) = true) (hfr : 1 ≤ rm.frames) (hlo : (st.map fun v => v.category).sum + 14 ≤ rm.locals) (hcs : cells + 1 ≤ rm.cells ∧ slots + n ≤ rm.slots) (hd : decode cc pc = .ok (.invokevirtual idx, 3)) (k : ∀ q : Nat, Rg isI cc own nL ret rm mc ms cA ad Q (cells + 1) (slots + n) (pc + 3) lv (.ref q :: st) (ws ++ [(q, .inl (cA 5, n, .inl f))])) : Rg isI cc own nL ret rm mc ms cA ad Q cells slots pc lv (.ref a :: st) ws := by
  intro p l e s m args below meth c G tx A Qc free d0 X I E hd0 H locs ls hP hD hS hl
  have hts := (dr_words X.2.2.2.2.1 d0)
  have hJ0 : JZ ad A (s.setDrawn d0) (s.setDrawn d0).heap := JZ.vm (u := s) rfl X.2.2.2.2.2.2.2.2.2.2
  have hK : va_K G vwCl (tysT cA ++ tx) (s.setDrawn d0) := X.2.2.2.2.2.2.2.1
  exact va_clone (s := s.setDrawn d0) X.1 X.2.1 (X.2.2.1.trans hl.1.symm) X.2.2.2.1 (hts _ hw) (hts _ q693) (hts _ q694) (hts _ q695) (hts _ q696) hJ0.2.2.2.2.2.2.2.2.2.2.2.2.2.1 hK hP hD hS X.2.2.2.2.2.2.2.2.1 i 5 ha rfl (hK.2 5 _ rfl).2 (fun j v hv => by
      obtain ⟨h1, h2⟩ := Array.getElem?_eq_some_iff.mp hv
      have h3 : j < n := by rw [← arrV_size (cA 5) n (fun z => .int (f z))]; exact h1
      have h4 := arrV_read (cA 5) (fun z => Value.int (f z)) h3
      have h5 : (vp_cell (cA 5) (n, .inl f)).slots[j]? = some (Value.int (f j)) := h4
      rw [hv] at h5
      rw [Option.some.inj h5]
      exact hfit j) hfr hlo hcs.1 hcs.2 hd (fun q H1 _ hP1 hD1 hS1 => k q p l e s m args below meth c G tx A Qc free d0 X I E hd0 H1 locs ls hP1 hD1 hS1 hl)
theorem g_castB {idx i a : Nat} {x : vp_A} (hw : Cond.classLink own idx "[B" ∈ wsL_law) (ha : ws[i]? = some (a, .inl (cA 5, x))) (hd : decode cc pc = .ok (.checkcast idx, 3)) (k : Rg isI cc own nL ret rm mc ms cA ad Q cells slots (pc + 3) lv (.ref a :: st) ws) : Rg isI cc own nL ret rm mc ms cA ad Q cells slots pc lv (.ref a :: st) ws := by
  intro p l e s m args below meth c G tx A Qc free d0 X I E hd0 H locs ls hP hD hS hl
  have hK : va_K G vwCl (tysT cA ++ tx) (s.setDrawn d0) := X.2.2.2.2.2.2.2.1
  exact va_castA (s := s.setDrawn d0) X.1 X.2.1 X.2.2.2.1 (dr_words X.2.2.2.2.1 d0 _ hw) hP i ha (hK.2 5 _ rfl).2 hd (k p l e s m args below meth c G tx A Qc free d0 X I E hd0 H locs ls hP hD hS hl)
theorem g_objInit {idx a : Nat} (hw : Cond.methodLink own idx Lib.objectInit ∈ wsL_law) (hfr : 1 ≤ rm.frames) (hlo : 2 * 0 + (st.map fun v => v.category).sum + 12 ≤ rm.locals) (hd : decode cc pc = .ok (.invokespecial idx, 3)) (k : Rg isI cc own nL ret rm mc ms cA ad Q cells slots (pc + 3) lv st ws) : Rg isI cc own nL ret rm mc ms cA ad Q cells slots pc lv (.ref a :: st) ws := by
  intro p l e s m args below meth c G tx A Qc free d0 X I E hd0 H locs ls hP hD hS hl
  have hts := (dr_words X.2.2.2.2.1 d0)
  refine W.objInit (s := s.setDrawn d0) X.1 X.2.1 X.2.2.2.1 (hts _ hw) (hts _ q12) (hts _ q13) rfl (by rw [X.2.2.1]; exact hl.1) rfl hd hfr hlo ?_
  exact W.eq (g2 := F0 m (pc + 3) ls st) rfl (k p l e s m args below meth c G tx A Qc free d0 X I E hd0 H locs ls hP hD hS hl)
theorem g_zret  {ty : FieldType} {v : Int32} (hr : ret = some ty) (hn : narrow ty (.int v) = .int v) (hd : decode cc pc = .ok (.ireturn, 1)) (hc : cells ≤ mc) (hs : slots ≤ ms) (hQ : Q (some (.int v)) ws)  : Rg isI cc own nL ret rm mc ms cA ad Q cells slots pc lv [.int v] ws := by
  intro p l e s m args below meth c G tx A Qc free d0 X I E hd0 H locs ls hP hD hS hl
  refine W.endD hd0 (W.widen hc hs ?_)
  exact W.zret X.1 X.2.1 (X.2.2.2.2.2.1.trans hr) hn (fun t ht hW => E _ _ t d0 hQ hd0 hW (by rw [ht]; exact hP) hD ⟨by rw [ht]; exact hS.1, by rw [ht]; exact hS.2.1⟩) (fun q hq => X.2.2.2.2.2.2.2.2.2.1 _ (hS.2.2 q hq)) hd X.2.2.2.2.2.2.1
theorem g_lret  {v : Int64} (hr : ret = some .long) (hd : decode cc pc = .ok (.lreturn, 1)) (hc : cells ≤ mc) (hs : slots ≤ ms) (hQ : Q (some (.long v)) ws)  : Rg isI cc own nL ret rm mc ms cA ad Q cells slots pc lv [.long v] ws := by
  intro p l e s m args below meth c G tx A Qc free d0 X I E hd0 H locs ls hP hD hS hl
  refine W.endD hd0 (W.widen hc hs ?_)
  exact W.lret X.1 X.2.1 (X.2.2.2.2.2.1.trans hr) (fun t ht hW => E _ _ t d0 hQ hd0 hW (by rw [ht]; exact hP) hD ⟨by rw [ht]; exact hS.1, by rw [ht]; exact hS.2.1⟩) (fun q hq => X.2.2.2.2.2.2.2.2.2.1 _ (hS.2.2 q hq)) hd X.2.2.2.2.2.2.1
theorem g_aret  {ty : FieldType} {v : Nat} (hr : ret = some ty) (hrt : (∃ n, ty = .object n) ∨ ∃ t, ty = .array t) (hd : decode cc pc = .ok (.areturn, 1)) (hc : cells ≤ mc) (hs : slots ≤ ms) (hQ : Q (some (.ref v)) ws)  : Rg isI cc own nL ret rm mc ms cA ad Q cells slots pc lv [.ref v] ws := by
  intro p l e s m args below meth c G tx A Qc free d0 X I E hd0 H locs ls hP hD hS hl
  refine W.endD hd0 (W.widen hc hs ?_)
  exact W.aret X.1 X.2.1 (X.2.2.2.2.2.1.trans hr) hrt (Or.inr ⟨v, rfl⟩) (fun t ht hW => E _ _ t d0 hQ hd0 hW (by rw [ht]; exact hP) hD ⟨by rw [ht]; exact hS.1, by rw [ht]; exact hS.2.1⟩) (fun q hq => X.2.2.2.2.2.2.2.2.2.1 _ (hS.2.2 q hq)) hd X.2.2.2.2.2.2.1
theorem g_vret  (hr : ret = none) (hd : decode cc pc = .ok (.return_, 1)) (hc : cells ≤ mc) (hs : slots ≤ ms) (hQ : Q none ws)  : Rg isI cc own nL ret rm mc ms cA ad Q cells slots pc lv [] ws := by
  intro p l e s m args below meth c G tx A Qc free d0 X I E hd0 H locs ls hP hD hS hl
  refine W.endD hd0 (W.widen hc hs ?_)
  exact W.vret X.1 X.2.1 (X.2.2.2.2.2.1.trans hr) (fun t ht hW => E _ _ t d0 hQ hd0 hW (by rw [ht]; exact hP) hD ⟨by rw [ht]; exact hS.1, by rw [ht]; exact hS.2.1⟩) (fun q hq => X.2.2.2.2.2.2.2.2.2.1 _ (hS.2.2 q hq)) hd X.2.2.2.2.2.2.1
theorem g_widen {c2 s2 : Nat} (h1 : cells ≤ c2) (h2 : slots ≤ s2) (k : Rg isI cc own nL ret rm mc ms cA ad Q c2 s2 pc lv st ws) : Rg isI cc own nL ret rm mc ms cA ad Q cells slots pc lv st ws := by
  intro p l e s m args below meth c G tx A Qc free d0 X I E hd0 H locs ls hP hD hS hl
  exact W.widen h1 h2 (k p l e s m args below meth c G tx A Qc free d0 X I E hd0 H locs ls hP hD hS hl)
/-- b may receive a call of class C's -/
def isRw (cA : Nat → ClassId) (ad : tA) (ws : va_W) (b : Nat) (C : String) : Prop := ∀ (s : State) (H : Heap) (locs : List Loc) (G : va_G) (tx : List (ClassId × FieldType)) (A : Nat → Prop), va_K G vwCl (tysT cA ++ tx) s → va_P G vwCl ws H → va_S A s.heap H locs → JZ ad A s s.heap → ∃ cell : Cell, H[b]? = some cell ∧ cell.vm.isStatics = false ∧ s.vm.findClass C = some cell.cls
theorem rw_at {i b ci : Nat} {C : String} {fs : List Value} {q : vw_C} (he : ws[i]? = some (b, .inr (ci, fs))) (hc : vwCl[ci]? = some q) (hC : q.1 = C) : isRw cA ad ws b C := by
  intro s H locs G tx A hK hP hS hJ
  subst hC
  exact va_recv hK hP hc he
theorem rw_lit {i : Nat} (h : i < 15) : isRw cA ad ws (ad 16 i) "java/lang/String" := by
  intro s H locs G tx A hK hP hS hJ
  exact vk_recv hJ.1 h hS
theorem g_callV {idx n nL2 mc2 ms2 : Nat} {y : MethodName} {cc2 : ByteArray} {ret2 : Option FieldType} {rm2 : Room} {Q2 : Option Value → va_W → Prop} {As rest : List Value} {C : String} {b : Nat} (hd : decode cc pc = .ok (.invokevirtual idx, 3)) (hC : Cg y cc2 nL2 ret2 rm2 mc2 ms2 cA ad (.ref b :: As) ws Q2) (hG : GoodIn wsL_law (wsV own idx C y (.code y cc2 nL2 ret2 :: wsL_law))) (hdc : y.cls = C ∧ y.cls ≠ "java/lang/invoke/MethodHandle" ∧ y.cls ≠ "java/lang/invoke/VarHandle" ∧ (parseMethodDescriptor y.desc).map (fun d => d.parameters.length) = some n) (hst : st = As.reverse ++ .ref b :: rest) (hn : As.length = n) (hrc : rm2.cells = mc2) (hrs : rm2.slots = ms2) (hR : rm2.frames + 1 ≤ rm.frames ∧ 8 + (nL2 + 11) + rm2.locals ≤ rm.locals) (hcat : (rest.map fun v => v.category).sum ≤ 8) (hf : cells + mc2 ≤ rm.cells ∧ slots + ms2 ≤ rm.slots) (hob : isRw cA ad ws b C) (k : ∀ v w', Q2 v w' → Rg isI cc own nL ret rm mc ms cA ad Q (cells + mc2) (slots + ms2) (pc + 3) lv (v.toList ++ rest) w') : Rg isI cc own nL ret rm mc ms cA ad Q cells slots pc lv st ws := by
  intro p l e s m args below meth c G tx A Qc free d0 X I E hd0 H locs ls hP hD hS hl
  obtain ⟨hx, hb, hml, hown, hts, hret, hlk, hK, hA, hfree, hJ⟩ := id X
  have hJ0 : JZ ad A (s.setDrawn d0) (s.setDrawn d0).heap := JZ.vm (u := s) rfl hJ
  have hts1 := dr_words hts d0
  have hM := hC l G tx A
  have hsz : s.heap.size ≤ H.size := hS.1
  have hrun := va_runV_D (e := e) (below := below) (meth := meth) (locs := locs) (s := s.setDrawn d0) (As := As) (rest := rest) ⟨hx, hb, hml, hown, hts1⟩ hM (cwV n hts1 hG rfl hrc hrs hdc hR) ⟨fun a U g mk q => ⟨q.1, q.2.1, va_K.moved (u := U) (U := U.calling g mk a) (Vm.Alike.refl U.vm) q.2.2.1, q.2.2.2.1, q.2.2.2.2.1, JZ.vm (u := U) rfl q.2.2.2.2.2⟩, hob (s.setDrawn d0) H locs G tx A hK hP hS hJ0, fun U hU hW => ⟨rfl, by rw [hU]; exact hP, va_K.moved hW.alike hK, hD, by rw [hU]; exact fun q hq => hA q (Nat.le_trans hsz hq), by rw [hU]; exact JZ.go (s := s.setDrawn d0) hS hW hJ0⟩⟩ rfl hn hl.1 hst (lv_room hcat) hd hf
  intro T hT XX
  obtain ⟨v, st₀, t, T', L, d', hd', h0, X', hL, e1, e2, ⟨⟨v', w', hv, hQ, hP1, hD1⟩, hz, hk⟩, stp⟩ := hrun T hT XX
  cases hv
  rw [h0] at hz hk
  have hS2 : va_S A s.heap T'.heap (locs ++ L) := ⟨Nat.le_trans hS.1 (by rw [e1]; exact hz), fun q h1 h2 => by rw [e1, hk q (Nat.lt_of_lt_of_le h1 hS.1) h2]; exact hS.2.1 q h1 h2, fun q hq => by
    rcases List.mem_append.mp hq with h | h
    · exact hS.2.2 q h
    · exact hL q h⟩
  obtain ⟨t2, a1, b1⟩ := k v w' hQ p l e s m args below meth c G tx A Qc free d' X I E (hd0.trans hd') T'.heap (locs ++ L) ls (by rw [e1]; exact hP1) hD1 hS2 hl T' rfl X'
  exact ⟨t2, stp t2 a1, b1⟩
theorem g_callS {idx n nL2 mc2 ms2 : Nat} {y : MethodName} {cc2 : ByteArray} {ret2 : Option FieldType} {rm2 : Room} {Q2 : Option Value → va_W → Prop} {As rest : List Value} (hd : decode cc pc = .ok (.invokestatic idx, 3)) (hC : Cg y cc2 nL2 ret2 rm2 mc2 ms2 cA ad As ws Q2) {C0 : String} (hG : gS own idx y cc2 nL2 ret2) (hdc : y.cls = C0 ∧ y.cls ≠ "java/lang/invoke/MethodHandle" ∧ y.cls ≠ "java/lang/invoke/VarHandle" ∧ (parseMethodDescriptor y.desc).map (fun d => d.parameters.length) = some n) (hst : st = As.reverse ++ rest) (hn : As.length = n) (hrc : rm2.cells = mc2) (hrs : rm2.slots = ms2) (hR : rm2.frames + 1 ≤ rm.frames ∧ 8 + (nL2 + 11) + rm2.locals ≤ rm.locals) (hcat : (rest.map fun v => v.category).sum ≤ 8) (hf : cells + mc2 ≤ rm.cells ∧ slots + ms2 ≤ rm.slots) (k : ∀ v w', Q2 v w' → Rg isI cc own nL ret rm mc ms cA ad Q (cells + mc2) (slots + ms2) (pc + 3) lv (v.toList ++ rest) w') : Rg isI cc own nL ret rm mc ms cA ad Q cells slots pc lv st ws := by
  intro p l e s m args below meth c G tx A Qc free d0 X I E hd0 H locs ls hP hD hS hl
  obtain ⟨hx, hb, hml, hown, hts, hret, hlk, hK, hA, hfree, hJ⟩ := id X
  have hJ0 : JZ ad A (s.setDrawn d0) (s.setDrawn d0).heap := JZ.vm (u := s) rfl hJ
  have hts1 := dr_words hts d0
  have hM := hC l G tx A
  have hsz : s.heap.size ≤ H.size := hS.1
  have hrun := va_runS_D (e := e) (below := below) (meth := meth) (locs := locs) (s := s.setDrawn d0) (As := As) (rest := rest) ⟨hx, hb, hml, hown, hts1⟩ hM ⟨callB_of (ws' := wsL_law) n hts1 (gS_good hG) rfl hrc hrs (hts1 _ hG.2.2.1) (hts1 _ hG.1) hdc.2 hR, hts1 _ hG.2.1⟩ ⟨fun a U g mk q => ⟨q.1, q.2.1, va_K.moved (u := U) (U := U.calling g mk a) (Vm.Alike.refl U.vm) q.2.2.1, q.2.2.2.1, q.2.2.2.2.1, JZ.vm (u := U) rfl q.2.2.2.2.2⟩, fun U hU hW => ⟨rfl, by rw [hU]; exact hP, va_K.moved hW.alike hK, hD, by rw [hU]; exact fun q hq => hA q (Nat.le_trans hsz hq), by rw [hU]; exact JZ.go (s := s.setDrawn d0) hS hW hJ0⟩⟩ rfl hn hl.1 hst (lv_room hcat) hd hf
  intro T hT XX
  obtain ⟨v, st₀, t, T', L, d', hd', h0, X', hL, e1, e2, ⟨⟨v', w', hv, hQ, hP1, hD1⟩, hz, hk⟩, stp⟩ := hrun T hT XX
  cases hv
  rw [h0] at hz hk
  have hS2 : va_S A s.heap T'.heap (locs ++ L) := ⟨Nat.le_trans hS.1 (by rw [e1]; exact hz), fun q h1 h2 => by rw [e1, hk q (Nat.lt_of_lt_of_le h1 hS.1) h2]; exact hS.2.1 q h1 h2, fun q hq => by
    rcases List.mem_append.mp hq with h | h
    · exact hS.2.2 q h
    · exact hL q h⟩
  obtain ⟨t2, a1, b1⟩ := k v w' hQ p l e s m args below meth c G tx A Qc free d' X I E (hd0.trans hd') T'.heap (locs ++ L) ls (by rw [e1]; exact hP1) hD1 hS2 hl T' rfl X'
  exact ⟨t2, stp t2 a1, b1⟩
/-- the words of a constructor's call -/
def gI (own : String) (idx : Nat) (y : MethodName) (cc : ByteArray) (nL : Nat) : Prop := Cond.methodLink own idx y ∈ wsL_law ∧ Cond.instanceMethod y ∈ wsL_law ∧ Cond.initialized y.cls ∈ wsL_law ∧ Cond.code y cc nL none ∈ wsL_law ∧ y.name = "<init>"
theorem g_words {y : MethodName} {cc : ByteArray} {nL : Nat} {ret : Option FieldType} (h : Cond.code y cc nL ret ∈ wsL_law) : GoodIn wsL_law (.code y cc nL ret :: wsL_law) := by
  intro w hw
  rcases List.mem_cons.mp hw with rfl | h2
  · exact lw_good _ h
  · exact lw_good _ h2
theorem g_callI {idx n nL2 mc2 ms2 : Nat} {y : MethodName} {cc2 : ByteArray} {rm2 : Room} {Q2 : Option Value → va_W → Prop} {As rest : List Value} {b : Nat} (hd : decode cc pc = .ok (.invokespecial idx, 3)) (hC : Cg y cc2 nL2 none rm2 mc2 ms2 cA ad (.ref b :: As) ws Q2) (hG : gI own idx y cc2 nL2) (hdc : y.cls ≠ "java/lang/invoke/MethodHandle" ∧ y.cls ≠ "java/lang/invoke/VarHandle" ∧ (parseMethodDescriptor y.desc).map (fun d => d.parameters.length) = some n) (hst : st = As.reverse ++ .ref b :: rest) (hn : As.length = n) (hrc : rm2.cells = mc2) (hrs : rm2.slots = ms2) (hR : rm2.frames + 1 ≤ rm.frames ∧ 8 + (nL2 + 11) + rm2.locals ≤ rm.locals) (hcat : (rest.map fun v => v.category).sum ≤ 8) (hf : cells + mc2 ≤ rm.cells ∧ slots + ms2 ≤ rm.slots) (k : ∀ v w', Q2 v w' → Rg isI cc own nL ret rm mc ms cA ad Q (cells + mc2) (slots + ms2) (pc + 3) lv (v.toList ++ rest) w') : Rg isI cc own nL ret rm mc ms cA ad Q cells slots pc lv st ws := by
  intro p l e s m args below meth c G tx A Qc free d0 X I E hd0 H locs ls hP hD hS hl
  obtain ⟨hx, hb, hml, hown, hts, hret, hlk, hK, hA, hfree, hJ⟩ := id X
  have hJ0 : JZ ad A (s.setDrawn d0) (s.setDrawn d0).heap := JZ.vm (u := s) rfl hJ
  have hts1 := dr_words hts d0
  have hM := hC l G tx A
  have hsz : s.heap.size ≤ H.size := hS.1
  have hrun := va_runI_D (e := e) (below := below) (meth := meth) (locs := locs) (s := s.setDrawn d0) (As := As) (rest := rest) ⟨hx, hb, hml, hown, hts1⟩ hM ⟨callB_of (ws' := wsL_law) n hts1 (g_words hG.2.2.2.1) rfl hrc hrs (hts1 _ hG.2.2.1) (hts1 _ hG.1) hdc hR, hG.2.2.2.2, hts1 _ hG.2.1⟩ ⟨fun a U g mk q => ⟨q.1, q.2.1, va_K.moved (u := U) (U := U.calling g mk a) (Vm.Alike.refl U.vm) q.2.2.1, q.2.2.2.1, q.2.2.2.2.1, JZ.vm (u := U) rfl q.2.2.2.2.2⟩, fun U hU hW => ⟨rfl, by rw [hU]; exact hP, va_K.moved hW.alike hK, hD, by rw [hU]; exact fun q hq => hA q (Nat.le_trans hsz hq), by rw [hU]; exact JZ.go (s := s.setDrawn d0) hS hW hJ0⟩⟩ rfl hn hl.1 hst (lv_room hcat) hd hf
  intro T hT XX
  obtain ⟨v, st₀, t, T', L, d', hd', h0, X', hL, e1, e2, ⟨⟨v', w', hv, hQ, hP1, hD1⟩, hz, hk⟩, stp⟩ := hrun T hT XX
  cases hv
  rw [h0] at hz hk
  have hS2 : va_S A s.heap T'.heap (locs ++ L) := ⟨Nat.le_trans hS.1 (by rw [e1]; exact hz), fun q h1 h2 => by rw [e1, hk q (Nat.lt_of_lt_of_le h1 hS.1) h2]; exact hS.2.1 q h1 h2, fun q hq => by
    rcases List.mem_append.mp hq with h | h
    · exact hS.2.2 q h
    · exact hL q h⟩
  obtain ⟨t2, a1, b1⟩ := k v w' hQ p l e s m args below meth c G tx A Qc free d' X I E (hd0.trans hd') T'.heap (locs ++ L) ls (by rw [e1]; exact hP1) hD1 hS2 hl T' rfl X'
  exact ⟨t2, stp t2 a1, b1⟩
theorem g_callU {idx n nL2 mc2 ms2 : Nat} {y : MethodName} {cc2 : ByteArray} {ret2 : Option FieldType} {rm2 : Room} {Q2 : Option Value → va_W → Prop} {As rest : List Value} {x : MethodName} {b : Nat} (hd : decode cc pc = .ok (.invokevirtual idx, 3)) (hC : Cg y cc2 nL2 ret2 rm2 mc2 ms2 cA ad (.ref b :: As) ws Q2) (h1 : Cond.methodLink own idx x ∈ wsL_law) (h2 : Cond.sameMethod x.cls RJ5 x.name x.desc ∈ wsL_law) (h3 : Cond.selects RJ4 x y ∈ wsL_law ∨ x = y ∧ y ∈ sel4) (h4 : Cond.instanceMethod ⟨RJ5, x.name, x.desc⟩ ∈ wsL_law) {b0 : ByteArray} {m0 : Nat} {r0 : Option FieldType} (h5 : Cond.code ⟨RJ5, x.name, x.desc⟩ b0 m0 r0 ∈ wsL_law) (h6 : Cond.instanceMethod y ∈ wsL_law) (h7 : Cond.code y cc2 nL2 ret2 ∈ wsL_law) (h8 : Cond.initialized y.cls ∈ wsL_law) (hdc : (parseMethodDescriptor x.desc).map (fun d => d.parameters.length) = some n) (hst : st = As.reverse ++ .ref b :: rest) (hn : As.length = n) (hrc : rm2.cells = mc2) (hrs : rm2.slots = ms2) (hR : rm2.frames + 1 ≤ rm.frames ∧ 8 + (nL2 + 11) + rm2.locals ≤ rm.locals) (hcat : (rest.map fun v => v.category).sum ≤ 8) (hf : cells + mc2 ≤ rm.cells ∧ slots + ms2 ≤ rm.slots) (hob : isRw cA ad ws b RJ4) (k : ∀ v w', Q2 v w' → Rg isI cc own nL ret rm mc ms cA ad Q (cells + mc2) (slots + ms2) (pc + 3) lv (v.toList ++ rest) w') : Rg isI cc own nL ret rm mc ms cA ad Q cells slots pc lv st ws := by
  intro p l e s m args below meth c G tx A Qc free d0 X I E hd0 H locs ls hP hD hS hl
  obtain ⟨hx, hb, hml, hown, hts, hret, hlk, hK, hA, hfree, hJ⟩ := id X
  have hJ0 : JZ ad A (s.setDrawn d0) (s.setDrawn d0).heap := JZ.vm (u := s) rfl hJ
  have hts1 := dr_words hts d0
  have hM := hC l G tx A
  have hsz : s.heap.size ≤ H.size := hS.1
  have h3' : (Cond.selects RJ4 x y).before args (s.setDrawn d0) = true := by
    rcases h3 with h | ⟨rfl, h⟩
    · exact hts1 _ h
    · exact va_Nw.use rfl (hJ0.2.2.2.2.2.2.2.2.2.2.2.2.2.2.1 _ h)
  have cw : va_CU rm (s.setDrawn d0) args own RJ4 RJ5 idx x y cc2 nL2 ret2 (.code y cc2 nL2 ret2 :: wsL_law) rm2 mc2 ms2 n := ⟨⟨hrc, hrs, hR.1, hR.2, pay_in hts1 (g_words h7), List.mem_cons_self⟩, hts1 _ h7, hts1 _ h8, ⟨by decide, by decide⟩, fun sig h => by rw [h] at hdc; exact (Option.some.inj hdc).symm, hts1 _ h1, hts1 _ h2, va_Decl.of (hts1 _ h4) (hts1 _ h5), h3', hts1 _ h6⟩
  have hrun := va_runU_D (e := e) (below := below) (meth := meth) (locs := locs) (s := s.setDrawn d0) (As := As) (rest := rest) ⟨hx, hb, hml, hown, hts1⟩ hM cw ⟨fun a U g mk q => ⟨q.1, q.2.1, va_K.moved (u := U) (U := U.calling g mk a) (Vm.Alike.refl U.vm) q.2.2.1, q.2.2.2.1, q.2.2.2.2.1, JZ.vm (u := U) rfl q.2.2.2.2.2⟩, hob (s.setDrawn d0) H locs G tx A hK hP hS hJ0, fun U hU hW => ⟨rfl, by rw [hU]; exact hP, va_K.moved hW.alike hK, hD, by rw [hU]; exact fun q hq => hA q (Nat.le_trans hsz hq), by rw [hU]; exact JZ.go (s := s.setDrawn d0) hS hW hJ0⟩⟩ rfl hn hl.1 hst (lv_room hcat) hd hf
  intro T hT XX
  obtain ⟨v, st₀, t, T', L, d', hd', h0, X', hL, e1, e2, ⟨⟨v', w', hv, hQ, hP1, hD1⟩, hz, hk⟩, stp⟩ := hrun T hT XX
  cases hv
  rw [h0] at hz hk
  have hS2 : va_S A s.heap T'.heap (locs ++ L) := ⟨Nat.le_trans hS.1 (by rw [e1]; exact hz), fun q h1 h2 => by rw [e1, hk q (Nat.lt_of_lt_of_le h1 hS.1) h2]; exact hS.2.1 q h1 h2, fun q hq => by
    rcases List.mem_append.mp hq with h | h
    · exact hS.2.2 q h
    · exact hL q h⟩
  obtain ⟨t2, a1, b1⟩ := k v w' hQ p l e s m args below meth c G tx A Qc free d' X I E (hd0.trans hd') T'.heap (locs ++ L) ls (by rw [e1]; exact hP1) hD1 hS2 hl T' rfl X'
  exact ⟨t2, stp t2 a1, b1⟩
theorem g_callSU {idx n nL2 mc2 ms2 : Nat} {y : MethodName} {cc2 : ByteArray} {ret2 : Option FieldType} {rm2 : Room} {Q2 : Option Value → va_W → Prop} {As rest : List Value} {b : Nat} {i : Nat} {fs : List Value} (hd : decode cc pc = .ok (.invokespecial idx, 3)) (hC : Cg y cc2 nL2 ret2 rm2 mc2 ms2 cA ad (.ref b :: As) ws Q2) (h1 : Cond.methodLink own idx y ∈ wsL_law) (h2 : Cond.sameMethod y.cls y.cls y.name y.desc ∈ wsL_law) (h3 : Cond.superclass own y.cls ∈ wsL_law) (h6 : Cond.instanceMethod y ∈ wsL_law) (h7 : Cond.code y cc2 nL2 ret2 ∈ wsL_law) (h8 : Cond.initialized y.cls ∈ wsL_law) (hdc : y.name ≠ "<init>" ∧ (parseMethodDescriptor y.desc).map (fun d => d.parameters.length) = some n) (hst : st = As.reverse ++ .ref b :: rest) (hn : As.length = n) (hrc : rm2.cells = mc2) (hrs : rm2.slots = ms2) (hR : rm2.frames + 1 ≤ rm.frames ∧ 8 + (nL2 + 11) + rm2.locals ≤ rm.locals) (hcat : (rest.map fun v => v.category).sum ≤ 8) (hf : cells + mc2 ≤ rm.cells ∧ slots + ms2 ≤ rm.slots) (he : ws[i]? = some (b, .inr (1, fs))) (k : ∀ v w', Q2 v w' → Rg isI cc own nL ret rm mc ms cA ad Q (cells + mc2) (slots + ms2) (pc + 3) lv (v.toList ++ rest) w') : Rg isI cc own nL ret rm mc ms cA ad Q cells slots pc lv st ws := by
  intro p l e s m args below meth c G tx A Qc free d0 X I E hd0 H locs ls hP hD hS hl
  obtain ⟨hx, hb, hml, hown, hts, hret, hlk, hK, hA, hfree, hJ⟩ := id X
  have hJ0 : JZ ad A (s.setDrawn d0) (s.setDrawn d0).heap := JZ.vm (u := s) rfl hJ
  have hts1 := dr_words hts d0
  have hM := hC l G tx A
  have hsz : s.heap.size ≤ H.size := hS.1
  have hob := rw_at (cA := cA) (ad := ad) he (rfl : vwCl[1]? = some _) rfl (s.setDrawn d0) H locs G tx A hK hP hS hJ0
  have hat : ClassAt (s.setDrawn d0) RJ4 (G.1 1) := (hK.1 1 _ rfl).2
  have cw : va_CS rm (s.setDrawn d0) args own idx y cc2 nL2 ret2 (.code y cc2 nL2 ret2 :: wsL_law) rm2 mc2 ms2 n := ⟨⟨hrc, hrs, hR.1, hR.2, pay_in hts1 (g_words h7), List.mem_cons_self⟩, hts1 _ h1, hts1 _ h2, hts1 _ h3, hts1 _ h6, hts1 _ h8, hts1 _ h7, hdc.1, fun sig h => by have h9 := hdc.2; rw [h] at h9; exact (Option.some.inj h9).symm⟩
  have hrun := va_runSU_D (e := e) (below := below) (meth := meth) (locs := locs) (s := s.setDrawn d0) (As := As) (rest := rest) hat ⟨hx, hb, hml, hown, hts1⟩ hM cw ⟨fun a U g mk q => ⟨q.1, q.2.1, va_K.moved (u := U) (U := U.calling g mk a) (Vm.Alike.refl U.vm) q.2.2.1, q.2.2.2.1, q.2.2.2.2.1, JZ.vm (u := U) rfl q.2.2.2.2.2⟩, hob, fun U hU hW => ⟨rfl, by rw [hU]; exact hP, va_K.moved hW.alike hK, hD, by rw [hU]; exact fun q hq => hA q (Nat.le_trans hsz hq), by rw [hU]; exact JZ.go (s := s.setDrawn d0) hS hW hJ0⟩⟩ rfl hn hl.1 hst (lv_room hcat) hd hf
  intro T hT XX
  obtain ⟨v, st₀, t, T', L, d', hd', h0, X', hL, e1, e2, ⟨⟨v', w', hv, hQ, hP1, hD1⟩, hz, hk⟩, stp⟩ := hrun T hT XX
  cases hv
  rw [h0] at hz hk
  have hS2 : va_S A s.heap T'.heap (locs ++ L) := ⟨Nat.le_trans hS.1 (by rw [e1]; exact hz), fun q h1 h2 => by rw [e1, hk q (Nat.lt_of_lt_of_le h1 hS.1) h2]; exact hS.2.1 q h1 h2, fun q hq => by
    rcases List.mem_append.mp hq with h | h
    · exact hS.2.2 q h
    · exact hL q h⟩
  obtain ⟨t2, a1, b1⟩ := k v w' hQ p l e s m args below meth c G tx A Qc free d' X I E (hd0.trans hd') T'.heap (locs ++ L) ls (by rw [e1]; exact hP1) hD1 hS2 hl T' rfl X'
  exact ⟨t2, stp t2 a1, b1⟩
theorem g_callIN {idx n nL2 mc2 ms2 : Nat} {y : MethodName} {cc2 : ByteArray} {rm2 : Room} {Q2 : Option Value → va_W → Prop} {As rest : List Value} {b : Nat} (hd : decode cc pc = .ok (.invokespecial idx, 3)) (hC : Cg y cc2 nL2 none rm2 mc2 ms2 cA ad (.ref b :: As) ws Q2) (h1 : (own, idx, y) ∈ nst4) (h6 : Cond.instanceMethod y ∈ wsL_law) (h7 : Cond.code y cc2 nL2 none ∈ wsL_law) (h8 : Cond.initialized y.cls ∈ wsL_law) (h9 : y.name = "<init>") (hdc : y.cls ≠ "java/lang/invoke/MethodHandle" ∧ y.cls ≠ "java/lang/invoke/VarHandle" ∧ (parseMethodDescriptor y.desc).map (fun d => d.parameters.length) = some n) (hst : st = As.reverse ++ .ref b :: rest) (hn : As.length = n) (hrc : rm2.cells = mc2) (hrs : rm2.slots = ms2) (hR : rm2.frames + 1 ≤ rm.frames ∧ 8 + (nL2 + 11) + rm2.locals ≤ rm.locals) (hcat : (rest.map fun v => v.category).sum ≤ 8) (hf : cells + mc2 ≤ rm.cells ∧ slots + ms2 ≤ rm.slots) (k : ∀ v w', Q2 v w' → Rg isI cc own nL ret rm mc ms cA ad Q (cells + mc2) (slots + ms2) (pc + 3) lv (v.toList ++ rest) w') : Rg isI cc own nL ret rm mc ms cA ad Q cells slots pc lv st ws := by
  intro p l e s m args below meth c G tx A Qc free d0 X I E hd0 H locs ls hP hD hS hl
  obtain ⟨hx, hb, hml, hown, hts, hret, hlk, hK, hA, hfree, hJ⟩ := id X
  have hJ0 : JZ ad A (s.setDrawn d0) (s.setDrawn d0).heap := JZ.vm (u := s) rfl hJ
  have hts1 := dr_words hts d0
  have hM := hC l G tx A
  have hsz : s.heap.size ≤ H.size := hS.1
  have hrun := va_runIN_D (e := e) (below := below) (meth := meth) (locs := locs) (s := s.setDrawn d0) (As := As) (rest := rest) (host := "TrousseauFlow") ⟨hx, hb, hml, hown, hts1⟩ hM ⟨va_cnB (ws' := wsL_law) n hts1 (g_words h7) rfl hrc hrs (hJ0.2.2.2.2.2.2.2.2.2.2.2.2.2.2.2 _ h1) (hts1 _ h8) hdc hR, h9, hts1 _ h6⟩ ⟨fun a U g mk q => ⟨q.1, q.2.1, va_K.moved (u := U) (U := U.calling g mk a) (Vm.Alike.refl U.vm) q.2.2.1, q.2.2.2.1, q.2.2.2.2.1, JZ.vm (u := U) rfl q.2.2.2.2.2⟩, fun U hU hW => ⟨rfl, by rw [hU]; exact hP, va_K.moved hW.alike hK, hD, by rw [hU]; exact fun q hq => hA q (Nat.le_trans hsz hq), by rw [hU]; exact JZ.go (s := s.setDrawn d0) hS hW hJ0⟩⟩ rfl hn hl.1 hst (lv_room hcat) hd hf
  intro T hT XX
  obtain ⟨v, st₀, t, T', L, d', hd', h0, X', hL, e1, e2, ⟨⟨v', w', hv, hQ, hP1, hD1⟩, hz, hk⟩, stp⟩ := hrun T hT XX
  cases hv
  rw [h0] at hz hk
  have hS2 : va_S A s.heap T'.heap (locs ++ L) := ⟨Nat.le_trans hS.1 (by rw [e1]; exact hz), fun q h1 h2 => by rw [e1, hk q (Nat.lt_of_lt_of_le h1 hS.1) h2]; exact hS.2.1 q h1 h2, fun q hq => by
    rcases List.mem_append.mp hq with h | h
    · exact hS.2.2 q h
    · exact hL q h⟩
  obtain ⟨t2, a1, b1⟩ := k v w' hQ p l e s m args below meth c G tx A Qc free d' X I E (hd0.trans hd') T'.heap (locs ++ L) ls (by rw [e1]; exact hP1) hD1 hS2 hl T' rfl X'
  exact ⟨t2, stp t2 a1, b1⟩
end

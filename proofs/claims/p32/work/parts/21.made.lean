/-! PART 21: the constructors: what they make is the world of one object -/
def rmg (d mc ms : Nat) : Room := { frames := d, cells := mc, slots := ms, locals := 60 * d }
theorem at_0 {α : Type} {W T : List α} {x : α} : (W ++ x :: T)[W.length]? = some x := by rw [List.getElem?_append_right (Nat.le_refl _), Nat.sub_self]; rfl
theorem at_1 {α : Type} {W T : List α} {x y : α} : (W ++ x :: y :: T)[W.length + 1]? = some y := by rw [List.getElem?_append_right (by omega), Nat.add_sub_cancel_left]; rfl
theorem at_2 {α : Type} {W T : List α} {x y z : α} : (W ++ x :: y :: z :: T)[W.length + 2]? = some z := by rw [List.getElem?_append_right (by omega), Nat.add_sub_cancel_left]; rfl
theorem set_0 {α : Type} {W T : List α} {x x' : α} : (W ++ x :: T).set W.length x' = W ++ x' :: T := by rw [List.set_append_right _ _ (Nat.le_refl _), Nat.sub_self]; rfl
theorem set_1 {α : Type} {W T : List α} {x y y' : α} : (W ++ x :: y :: T).set (W.length + 1) y' = W ++ x :: y' :: T := by rw [List.set_append_right _ _ (by omega), Nat.add_sub_cancel_left]; rfl
theorem set_2 {α : Type} {W T : List α} {x y z z' : α} : (W ++ x :: y :: z :: T).set (W.length + 2) z' = W ++ x :: y :: z' :: T := by rw [List.set_append_right _ _ (by omega), Nat.add_sub_cancel_left]; rfl
abbrev a_q (n : Nat) (f : Nat → Option Nat) : vp_A := (n, .inr (.inr (.inr (.inr f))))
def F_k (q : Nat → Nat) (k : Nat) : Nat → Option Nat := fun j => if j < k then some (q j) else none
theorem F_0 {q : Nat → Nat} : F_k q 0 = fun _ => none := rfl
theorem F_s {q : Nat → Nat} {k x : Nat} : va_up (F_k q k) k (some x) = F_k (va_up q k x) (k + 1) := by
  funext j
  unfold F_k
  by_cases h : j = k
  · subst h; rw [va_up_self, if_pos (by omega), va_up_self]
  · rw [va_up_ne _ _ h, va_up_ne _ _ h]
    by_cases h2 : j < k
    · rw [if_pos h2, if_pos (by omega)]
    · rw [if_neg h2, if_neg (by omega)]
theorem map_up {α : Type} {q : Nat → Nat} {k x : Nat} {g : Nat → α} : (List.range (k + 1)).map (fun i => (va_up q k x i, g i)) = (List.range k).map (fun i => (q i, g i)) ++ [(x, g k)] := by
  rw [List.range_succ, List.map_append, List.map_cons, List.map_nil, va_up_self]
  congr 1
  apply List.map_congr_left
  intro i hi
  have := List.mem_range.mp hi
  rw [va_up_ne _ _ (by omega)]
section
variable {isI : Bool} {cc : ByteArray} {own : String} {nL : Nat} {ret : Option FieldType} {rm : Room} {mc ms : Nat} {cA : Nat → ClassId} {ad : tA} {Q : Option Value → va_W → Prop} {cells slots pc : Nat} {lv : List (Option Value)} {st : List Value} {ws ws' : va_W}
theorem g_eq (h : ws' = ws) (k : Rg isI cc own nL ret rm mc ms cA ad Q cells slots pc lv st ws') : Rg isI cc own nL ret rm mc ms cA ad Q cells slots pc lv st ws := by subst h; exact k
/-- an array of references, said otherwise -/
theorem g_arr {i a n : Nat} {c0 : ClassId} {f f' : Nat → Option Nat} (he : ws[i]? = some (a, .inl (c0, a_q n f))) (hf : ∀ j, j < n → f j = f' j) (hws : ws.set i (a, .inl (c0, a_q n f')) = ws') (k : Rg isI cc own nL ret rm mc ms cA ad Q cells slots pc lv st ws') : Rg isI cc own nL ret rm mc ms cA ad Q cells slots pc lv st ws := by
  intro p l e s m args below meth c G tx A Qc free d0 X I E hd0 H locs ls hP hD hS hl
  have e1 : vp_cell c0 (a_q n f') = vp_cell c0 (a_q n f) := by
    show arrV c0 n (fun j => va_rf (f' j)) = arrV c0 n (fun j => va_rf (f j))
    unfold arrV
    congr 1
    congr 1
    funext j
    show va_rf (f' j.val) = va_rf (f j.val)
    rw [hf j.val j.isLt]
  have hP1 := hP.set (H1 := H) (e := .inl (c0, a_q n f')) hD he (by show H[a]? = some (vp_cell c0 (a_q n f')); rw [e1]; exact hP i _ he) (fun _ _ => rfl)
  have hD1 := hD.set (e := .inl (c0, a_q n f')) he
  rw [hws] at hP1 hD1
  exact k p l e s m args below meth c G tx A Qc free d0 X I E hd0 H locs ls hP1 hD1 hS hl
end
/-- a region's cells -/
def blk (cA : Nat → ClassId) (r : Nat) (a : Nat → Nat) (P : tP) : va_W := (List.range (t_size r)).map (fun j => (a j, t_cell cA (fun _ => a) (r, j) (P j)))
theorem t_cell_loc {cA : Nat → ClassId} {ad : tA} {r j : Nat} {w : Nat → Int32} (hr : r ≠ 0) : t_cell cA ad (r, j) w = t_cell cA (fun _ => ad r) (r, j) w := by
  unfold t_cell
  dsimp only
  rw [if_neg hr, if_neg hr]
  by_cases h1 : r = 13
  · subst h1; rfl
  · rw [if_neg h1, if_neg h1]
    by_cases h2 : r = 14
    · subst h2; rfl
    · rw [if_neg h2, if_neg h2]
      by_cases h3 : r = 15
      · subst h3; rfl
      · rw [if_neg h3, if_neg h3]; rfl
theorem blk_pl {cA : Nat → ClassId} {r : Nat} {a : Nat → Nat} {P : tP} (hr : isPlan r) : blk cA r a P = blk cA 1 a P := by
  unfold isPlan at hr
  have e1 : t_size r = 16 := by unfold t_size; rw [if_neg (by omega), if_neg (by omega), if_neg (by omega), if_neg (by omega)]
  unfold blk
  rw [e1, show t_size 1 = 16 from rfl]
  apply List.map_congr_left
  intro j _
  have e2 : t_cell cA (fun _ => a) (r, j) (P j) = t_cell cA (fun _ => a) (1, j) (P j) := by
    unfold t_cell
    dsimp only
    rw [if_neg (by omega), if_neg (by omega), if_neg (by omega), if_neg (by omega), if_neg (by omega : ¬ 1 = 0), if_neg (by omega : ¬ 1 = 13), if_neg (by omega : ¬ 1 = 14), if_neg (by omega : ¬ 1 = 15)]
    rfl
  rw [e2]
/-- a new plan: two hands -/
def P_0 : tP := fun j k => if j = 0 ∧ k = 8 then 2 else 0
/-- a new object -/
def M_0 : tM := fun r => if 1 ≤ r ∧ r ≤ 12 then P_0 else fun _ _ => 0
def z_11 : List Value := l_st (fun _ => 0)
theorem blk1 {cA : Nat → ClassId} {a : Nat → Nat} : blk cA 1 a P_0 = (a 0, .inr (6, l_pl (fun _ => a) 1 (P_0 0))) :: (a 1, .inl (cA 2, a_q 12 (fun i => some (a (4 + i))))) :: (a 2, .inl (cA 0, 4, .inl (fun _ => 0))) :: (a 3, .inl (cA 0, 48, .inl (fun _ => 0))) :: (List.range 12).map (fun i => (a (4 + i), .inr (7, z_11))) := rfl
theorem blk13 {cA : Nat → ClassId} {a : Nat → Nat} : blk cA 13 a (fun _ _ => 0) = (a 0, .inr (5, l_ot (fun _ => a) (fun _ => 0))) :: (a 1, .inl (cA 1, 60, .inl (fun _ => 0))) :: (a 2, .inl (cA 3, a_q 12 (fun i => some (a (3 + i))))) :: (List.range 12).map (fun i => (a (3 + i), .inr (4, l_or (fun _ => 0)))) := rfl
theorem blk14 {cA : Nat → ClassId} {a : Nat → Nat} : blk cA 14 a (fun _ _ => 0) = [(a 0, .inr (3, l_ln (fun _ => a) (fun _ => 0))), (a 1, .inl (cA 1, 64, .inl (fun _ => 0)))] := rfl
theorem blk15 {cA : Nat → ClassId} {a : Nat → Nat} : blk cA 15 a (fun _ _ => 0) = [(a 0, .inr (2, l_ch (fun _ => a))), (a 1, .inl (cA 0, 12, .inl (fun _ => 0))), (a 2, .inl (cA 0, 12, .inl (fun _ => 0)))] := rfl
theorem dX5_init_0 : decode cX5_init 0 = .ok (.aload_n 0, 1) := by decide +kernel
theorem dX5_init_1 : decode cX5_init 1 = .ok (.invokespecial 3, 3) := by decide +kernel
theorem dX5_init_4 : decode cX5_init 4 = .ok (.return_, 1) := by decide +kernel
theorem diX5_init : yX5_init.cls ≠ "java/lang/invoke/MethodHandle" ∧ yX5_init.cls ≠ "java/lang/invoke/VarHandle" ∧ (parseMethodDescriptor yX5_init.desc).map (fun d => d.parameters.length) = some 0 := by decide +kernel
set_option maxRecDepth 100000 in
set_option maxHeartbeats 4000000 in
theorem G_step {cA : Nat → ClassId} {ad : tA} {h : Nat} {ws : va_W} : Cg yX5_init cX5_init 1 none (rmg 1 0 0) 0 0 cA ad [.ref h] ws (fun v w => v = none ∧ w = ws) := by
  refine c_of_g (isI := true) (lv0 := [some (.ref h)]) (fun _ => rfl) rfl (by decide +kernel) (Nat.le_of_ble_eq_true rfl) rfl ?_
  refine g_aload_n dX5_init_0 rfl ?_
  refine g_objInit q47 (Nat.le_of_ble_eq_true rfl) (Nat.le_of_ble_eq_true rfl) dX5_init_1 ?_
  exact g_vret rfl dX5_init_4 (Nat.le_of_ble_eq_true rfl) (Nat.le_of_ble_eq_true rfl) ⟨rfl, rfl⟩
theorem dX2_init_0 : decode cX2_init 0 = .ok (.aload_n 0, 1) := by decide +kernel
theorem dX2_init_1 : decode cX2_init 1 = .ok (.invokespecial 1, 3) := by decide +kernel
theorem dX2_init_4 : decode cX2_init 4 = .ok (.return_, 1) := by decide +kernel
theorem diX2_init : yX2_init.cls ≠ "java/lang/invoke/MethodHandle" ∧ yX2_init.cls ≠ "java/lang/invoke/VarHandle" ∧ (parseMethodDescriptor yX2_init.desc).map (fun d => d.parameters.length) = some 0 := by decide +kernel
set_option maxRecDepth 100000 in
set_option maxHeartbeats 4000000 in
theorem G_order {cA : Nat → ClassId} {ad : tA} {h : Nat} {ws : va_W} : Cg yX2_init cX2_init 1 none (rmg 1 0 0) 0 0 cA ad [.ref h] ws (fun v w => v = none ∧ w = ws) := by
  refine c_of_g (isI := true) (lv0 := [some (.ref h)]) (fun _ => rfl) rfl (by decide +kernel) (Nat.le_of_ble_eq_true rfl) rfl ?_
  refine g_aload_n dX2_init_0 rfl ?_
  refine g_objInit q60 (Nat.le_of_ble_eq_true rfl) (Nat.le_of_ble_eq_true rfl) dX2_init_1 ?_
  exact g_vret rfl dX2_init_4 (Nat.le_of_ble_eq_true rfl) (Nat.le_of_ble_eq_true rfl) ⟨rfl, rfl⟩
theorem dX0_init_0 : decode cX0_init 0 = .ok (.aload_n 0, 1) := by decide +kernel
theorem dX0_init_1 : decode cX0_init 1 = .ok (.invokespecial 3, 3) := by decide +kernel
theorem dX0_init_4 : decode cX0_init 4 = .ok (.aload_n 0, 1) := by decide +kernel
theorem dX0_init_5 : decode cX0_init 5 = .ok (.bipush 12, 2) := by decide +kernel
theorem dX0_init_7 : decode cX0_init 7 = .ok (.newarray .int, 2) := by decide +kernel
theorem dX0_init_9 : decode cX0_init 9 = .ok (.putfield 9, 3) := by decide +kernel
theorem dX0_init_12 : decode cX0_init 12 = .ok (.aload_n 0, 1) := by decide +kernel
theorem dX0_init_13 : decode cX0_init 13 = .ok (.bipush 12, 2) := by decide +kernel
theorem dX0_init_15 : decode cX0_init 15 = .ok (.newarray .int, 2) := by decide +kernel
theorem dX0_init_17 : decode cX0_init 17 = .ok (.putfield 15, 3) := by decide +kernel
theorem dX0_init_20 : decode cX0_init 20 = .ok (.return_, 1) := by decide +kernel
theorem diX0_init : yX0_init.cls ≠ "java/lang/invoke/MethodHandle" ∧ yX0_init.cls ≠ "java/lang/invoke/VarHandle" ∧ (parseMethodDescriptor yX0_init.desc).map (fun d => d.parameters.length) = some 0 := by decide +kernel
set_option maxRecDepth 100000 in
set_option maxHeartbeats 4000000 in
theorem G_chains {cA : Nat → ClassId} {ad : tA} {h : Nat} {W : va_W} : Cg yX0_init cX0_init 1 none (rmg 1 2 24) 2 24 cA ad [.ref h] (W ++ [(h, .inr (2, [.null, .null]))]) (fun v w => v = none ∧ ∃ a : Nat → Nat, a 0 = h ∧ w = W ++ blk cA 15 a (fun _ _ => 0)) := by
  refine c_of_g (isI := true) (lv0 := [some (.ref h)]) (fun _ => rfl) rfl (by decide +kernel) (Nat.le_of_ble_eq_true rfl) rfl ?_
  refine g_aload_n dX0_init_0 rfl ?_
  refine g_objInit q67 (Nat.le_of_ble_eq_true rfl) (Nat.le_of_ble_eq_true rfl) dX0_init_1 ?_
  refine g_aload_n dX0_init_4 rfl ?_
  refine g_bipush (v := 12) dX0_init_5 (by decide) ?_
  refine g_newa (N := 12) (a0 := (12, .inl (fun _ => 0))) 0 (fun _ => rfl) q39 rfl (fun _ => rfl) (by decide) (by decide) (by decide) ⟨Nat.le_of_ble_eq_true rfl, Nat.le_of_ble_eq_true rfl⟩ dX0_init_7 (fun a7 => ?_)
  simp only [List.append_assoc, List.cons_append, List.nil_append, List.append_nil]
  refine g_putF (i := W.length) at_0 (rfl : vwCl[2]? = some (RX0, TX0, 2)) inlX0 tyX0 tyX0_ok nmX0 0 (by decide) (Nat.le_of_ble_eq_true rfl) q68 rfl rfl rfl rfl rfl rfl set_0 dX0_init_9 ?_
  refine g_aload_n dX0_init_12 rfl ?_
  refine g_bipush (v := 12) dX0_init_13 (by decide) ?_
  refine g_newa (N := 12) (a0 := (12, .inl (fun _ => 0))) 0 (fun _ => rfl) q39 rfl (fun _ => rfl) (by decide) (by decide) (by decide) ⟨Nat.le_of_ble_eq_true rfl, Nat.le_of_ble_eq_true rfl⟩ dX0_init_15 (fun a15 => ?_)
  simp only [List.append_assoc, List.cons_append, List.nil_append, List.append_nil]
  refine g_putF (i := W.length) at_0 (rfl : vwCl[2]? = some (RX0, TX0, 2)) inlX0 tyX0 tyX0_ok nmX0 1 (by decide) (Nat.le_of_ble_eq_true rfl) q69 rfl rfl rfl rfl rfl rfl set_0 dX0_init_17 ?_
  exact g_vret rfl dX0_init_20 (Nat.le_of_ble_eq_true rfl) (Nat.le_of_ble_eq_true rfl) ⟨rfl, fun j => if j = 0 then h else if j = 1 then a7 else a15, rfl, rfl⟩
theorem dX1_init_0 : decode cX1_init 0 = .ok (.aload_n 0, 1) := by decide +kernel
theorem dX1_init_1 : decode cX1_init 1 = .ok (.invokespecial 3, 3) := by decide +kernel
theorem dX1_init_4 : decode cX1_init 4 = .ok (.aload_n 0, 1) := by decide +kernel
theorem dX1_init_5 : decode cX1_init 5 = .ok (.bipush 64, 2) := by decide +kernel
theorem dX1_init_7 : decode cX1_init 7 = .ok (.newarray .char, 2) := by decide +kernel
theorem dX1_init_9 : decode cX1_init 9 = .ok (.putfield 9, 3) := by decide +kernel
theorem dX1_init_12 : decode cX1_init 12 = .ok (.return_, 1) := by decide +kernel
theorem diX1_init : yX1_init.cls ≠ "java/lang/invoke/MethodHandle" ∧ yX1_init.cls ≠ "java/lang/invoke/VarHandle" ∧ (parseMethodDescriptor yX1_init.desc).map (fun d => d.parameters.length) = some 0 := by decide +kernel
set_option maxRecDepth 100000 in
set_option maxHeartbeats 4000000 in
theorem G_line {cA : Nat → ClassId} {ad : tA} {h : Nat} {W : va_W} : Cg yX1_init cX1_init 1 none (rmg 1 1 64) 1 64 cA ad [.ref h] (W ++ [(h, .inr (3, [.null, .int 0]))]) (fun v w => v = none ∧ ∃ a : Nat → Nat, a 0 = h ∧ w = W ++ blk cA 14 a (fun _ _ => 0)) := by
  refine c_of_g (isI := true) (lv0 := [some (.ref h)]) (fun _ => rfl) rfl (by decide +kernel) (Nat.le_of_ble_eq_true rfl) rfl ?_
  refine g_aload_n dX1_init_0 rfl ?_
  refine g_objInit q63 (Nat.le_of_ble_eq_true rfl) (Nat.le_of_ble_eq_true rfl) dX1_init_1 ?_
  refine g_aload_n dX1_init_4 rfl ?_
  refine g_bipush (v := 64) dX1_init_5 (by decide) ?_
  refine g_newa (N := 64) (a0 := (64, .inl (fun _ => 0))) 1 (fun _ => rfl) q52 rfl (fun _ => rfl) (by decide) (by decide) (by decide) ⟨Nat.le_of_ble_eq_true rfl, Nat.le_of_ble_eq_true rfl⟩ dX1_init_7 (fun a7 => ?_)
  simp only [List.append_assoc, List.cons_append, List.nil_append, List.append_nil]
  refine g_putF (i := W.length) at_0 (rfl : vwCl[3]? = some (RX1, TX1, 2)) inlX1 tyX1 tyX1_ok nmX1 0 (by decide) (Nat.le_of_ble_eq_true rfl) q64 rfl rfl rfl rfl rfl rfl set_0 dX1_init_9 ?_
  exact g_vret rfl dX1_init_12 (Nat.le_of_ble_eq_true rfl) (Nat.le_of_ble_eq_true rfl) ⟨rfl, fun j => if j = 0 then h else a7, rfl, rfl⟩
theorem dX4_init_0 : decode cX4_init 0 = .ok (.aload_n 0, 1) := by decide +kernel
theorem dX4_init_1 : decode cX4_init 1 = .ok (.invokespecial 3, 3) := by decide +kernel
theorem dX4_init_4 : decode cX4_init 4 = .ok (.aload_n 0, 1) := by decide +kernel
theorem dX4_init_5 : decode cX4_init 5 = .ok (.bipush 12, 2) := by decide +kernel
theorem dX4_init_7 : decode cX4_init 7 = .ok (.anewarray 9, 3) := by decide +kernel
theorem dX4_init_10 : decode cX4_init 10 = .ok (.putfield 11, 3) := by decide +kernel
theorem dX4_init_13 : decode cX4_init 13 = .ok (.aload_n 0, 1) := by decide +kernel
theorem dX4_init_14 : decode cX4_init 14 = .ok (.iconst 4, 1) := by decide +kernel
theorem dX4_init_15 : decode cX4_init 15 = .ok (.newarray .int, 2) := by decide +kernel
theorem dX4_init_17 : decode cX4_init 17 = .ok (.putfield 17, 3) := by decide +kernel
theorem dX4_init_20 : decode cX4_init 20 = .ok (.aload_n 0, 1) := by decide +kernel
theorem dX4_init_21 : decode cX4_init 21 = .ok (.bipush 48, 2) := by decide +kernel
theorem dX4_init_23 : decode cX4_init 23 = .ok (.newarray .int, 2) := by decide +kernel
theorem dX4_init_25 : decode cX4_init 25 = .ok (.putfield 21, 3) := by decide +kernel
theorem dX4_init_28 : decode cX4_init 28 = .ok (.aload_n 0, 1) := by decide +kernel
theorem dX4_init_29 : decode cX4_init 29 = .ok (.iconst 2, 1) := by decide +kernel
theorem dX4_init_30 : decode cX4_init 30 = .ok (.putfield 24, 3) := by decide +kernel
theorem dX4_init_33 : decode cX4_init 33 = .ok (.iconst 0, 1) := by decide +kernel
theorem dX4_init_34 : decode cX4_init 34 = .ok (.istore_n 1, 1) := by decide +kernel
theorem dX4_init_35 : decode cX4_init 35 = .ok (.iload_n 1, 1) := by decide +kernel
theorem dX4_init_36 : decode cX4_init 36 = .ok (.bipush 12, 2) := by decide +kernel
theorem dX4_init_38 : decode cX4_init 38 = .ok (.if_icmp .ge 22, 3) := by decide +kernel
theorem dX4_init_41 : decode cX4_init 41 = .ok (.aload_n 0, 1) := by decide +kernel
theorem dX4_init_42 : decode cX4_init 42 = .ok (.getfield 11, 3) := by decide +kernel
theorem dX4_init_45 : decode cX4_init 45 = .ok (.iload_n 1, 1) := by decide +kernel
theorem dX4_init_46 : decode cX4_init 46 = .ok (.new 9, 3) := by decide +kernel
theorem dX4_init_49 : decode cX4_init 49 = .ok (.dup, 1) := by decide +kernel
theorem dX4_init_50 : decode cX4_init 50 = .ok (.invokespecial 28, 3) := by decide +kernel
theorem dX4_init_53 : decode cX4_init 53 = .ok (.aastore, 1) := by decide +kernel
theorem dX4_init_54 : decode cX4_init 54 = .ok (.iinc 1 1, 3) := by decide +kernel
theorem dX4_init_57 : decode cX4_init 57 = .ok (.goto (-22), 3) := by decide +kernel
theorem dX4_init_60 : decode cX4_init 60 = .ok (.return_, 1) := by decide +kernel
theorem diX4_init : yX4_init.cls ≠ "java/lang/invoke/MethodHandle" ∧ yX4_init.cls ≠ "java/lang/invoke/VarHandle" ∧ (parseMethodDescriptor yX4_init.desc).map (fun d => d.parameters.length) = some 0 := by decide +kernel
set_option maxRecDepth 100000 in
set_option maxHeartbeats 4000000 in
theorem G_plan {cA : Nat → ClassId} {ad : tA} {h : Nat} {W : va_W} : Cg yX4_init cX4_init 2 none (rmg 2 15 196) 15 196 cA ad [.ref h] (W ++ [(h, .inr (6, [.null, .int 0, .null, .int 0, .null, .int 0, .int 0, .int 0, .int 0, .int 0, .int 0, .int 0, .int 0, .int 0]))]) (fun v w => v = none ∧ ∃ a : Nat → Nat, a 0 = h ∧ w = W ++ blk cA 1 a P_0) := by
  refine c_of_g (isI := true) (lv0 := [some (.ref h), none]) (fun _ => rfl) rfl (by decide +kernel) (Nat.le_of_ble_eq_true rfl) rfl ?_
  refine g_aload_n dX4_init_0 rfl ?_
  refine g_objInit q36 (Nat.le_of_ble_eq_true rfl) (Nat.le_of_ble_eq_true rfl) dX4_init_1 ?_
  refine g_aload_n dX4_init_4 rfl ?_
  refine g_bipush (v := 12) dX4_init_5 (by decide) ?_
  refine g_newq (C := RX5) (N := 12) 2 (fun _ => rfl) q37 (fun U h => h.2.2.1) (by decide) (by decide) (by decide) ⟨Nat.le_of_ble_eq_true rfl, Nat.le_of_ble_eq_true rfl⟩ dX4_init_7 (fun a7 => ?_)
  simp only [List.append_assoc, List.cons_append, List.nil_append, List.append_nil]
  refine g_putF (i := W.length) at_0 (rfl : vwCl[6]? = some (RX4, TX4, 14)) inlX4 tyX4 tyX4_ok nmX4 0 (by decide) (Nat.le_of_ble_eq_true rfl) q38 rfl rfl rfl rfl rfl rfl set_0 dX4_init_10 ?_
  refine g_aload_n dX4_init_13 rfl ?_
  refine g_iconst (v := 4) dX4_init_14 (by decide) ?_
  refine g_newa (N := 4) (a0 := (4, .inl (fun _ => 0))) 0 (fun _ => rfl) q39 rfl (fun _ => rfl) (by decide) (by decide) (by decide) ⟨Nat.le_of_ble_eq_true rfl, Nat.le_of_ble_eq_true rfl⟩ dX4_init_15 (fun a15 => ?_)
  simp only [List.append_assoc, List.cons_append, List.nil_append, List.append_nil]
  refine g_putF (i := W.length) at_0 (rfl : vwCl[6]? = some (RX4, TX4, 14)) inlX4 tyX4 tyX4_ok nmX4 2 (by decide) (Nat.le_of_ble_eq_true rfl) q40 rfl rfl rfl rfl rfl rfl set_0 dX4_init_17 ?_
  refine g_aload_n dX4_init_20 rfl ?_
  refine g_bipush (v := 48) dX4_init_21 (by decide) ?_
  refine g_newa (N := 48) (a0 := (48, .inl (fun _ => 0))) 0 (fun _ => rfl) q39 rfl (fun _ => rfl) (by decide) (by decide) (by decide) ⟨Nat.le_of_ble_eq_true rfl, Nat.le_of_ble_eq_true rfl⟩ dX4_init_23 (fun a23 => ?_)
  simp only [List.append_assoc, List.cons_append, List.nil_append, List.append_nil]
  refine g_putF (i := W.length) at_0 (rfl : vwCl[6]? = some (RX4, TX4, 14)) inlX4 tyX4 tyX4_ok nmX4 4 (by decide) (Nat.le_of_ble_eq_true rfl) q41 rfl rfl rfl rfl rfl rfl set_0 dX4_init_25 ?_
  refine g_aload_n dX4_init_28 rfl ?_
  refine g_iconst (v := 2) dX4_init_29 (by decide) ?_
  refine g_put (i := W.length) at_0 (rfl : vwCl[6]? = some (RX4, TX4, 14)) inlX4 tyX4 tyX4_ok nmX4 8 (by decide) (Nat.le_of_ble_eq_true rfl) q42 rfl rfl rfl rfl set_0 dX4_init_30 ?_
  have L : ∀ (n k : Nat) (q : Nat → Nat), k + n = 12 → Rg true cX4_init RX4 2 none (rmg 2 15 196) 15 196 cA ad (fun v w => v = none ∧ ∃ a : Nat → Nat, a 0 = h ∧ w = W ++ blk cA 1 a P_0) (3 + k) (64 + 11 * k) 35 [some (.ref h), some (.int (nI k))] [] (W ++ (h, .inr (6, [.ref a7, .int 0, .ref a15, .int 0, .ref a23, .int 0, .int 0, .int 0, .int 2, .int 0, .int 0, .int 0, .int 0, .int 0])) :: (a7, .inl (cA 2, a_q 12 (F_k q k))) :: (a15, .inl (cA 0, 4, .inl (fun _ => 0))) :: (a23, .inl (cA 0, 48, .inl (fun _ => 0))) :: (List.range k).map (fun i => (q i, .inr (7, z_11)))) := by
    intro n
    induction n with
    | zero =>
      intro k q hk
      obtain rfl : k = 12 := by omega
      refine g_iload_n dX4_init_35 rfl ?_
      refine g_bipush (v := 12) dX4_init_36 (by decide) ?_
      refine g_icmp_ge (tgt := 60) dX4_init_38 (by decide) (fun c38 => ?_) (fun c38 => absurd (by decide) c38)
      refine g_arr (f' := fun i => some (q i)) at_1 (fun j hj => if_pos hj) set_1 ?_
      exact g_vret rfl dX4_init_60 (Nat.le_of_ble_eq_true rfl) (Nat.le_of_ble_eq_true rfl) ⟨rfl, fun j => if j = 0 then h else if j = 1 then a7 else if j = 2 then a15 else if j = 3 then a23 else q (j - 4), rfl, by
        rw [blk1]
        have e4 : ∀ i, (fun j => if j = 0 then h else if j = 1 then a7 else if j = 2 then a15 else if j = 3 then a23 else q (j - 4)) (4 + i) = q i := fun i => by dsimp only; rw [if_neg (by omega), if_neg (by omega), if_neg (by omega), if_neg (by omega), Nat.add_sub_cancel_left]
        simp only [e4]
        rfl⟩
    | succ n ih =>
      intro k q hk
      refine g_iload_n dX4_init_35 rfl ?_
      refine g_bipush (v := 12) dX4_init_36 (by decide) ?_
      refine g_icmp_ge (tgt := 60) dX4_init_38 (by decide) (fun c38 => absurd c38 (lp_s (c := 12) rfl (by omega) hk)) (fun c38 => ?_)
      refine g_aload_n dX4_init_41 rfl ?_
      refine g_get (i := W.length) at_0 (rfl : vwCl[6]? = some (RX4, TX4, 14)) inlX4 0 (by decide) q38 rfl dX4_init_42 ?_
      refine g_iload_n dX4_init_45 rfl ?_
      refine g_new (ci := 7) (C := RX5) (T := TX5) (N := 11) (fs := z_11) rfl inlX5 tyX5 tyX5_ok q37 q43 q44 (by decide) ⟨by show 3 + k + 1 ≤ 15; omega, by show 64 + 11 * k + 11 ≤ 196; omega⟩ dX4_init_46 (fun x => ?_)
      refine g_dup dX4_init_49 rfl ?_
      refine g_callIN (As := []) (rest := [.ref x, .int (nI k), .ref a7]) dX4_init_50 G_step (by decide) q45 q46 q44 rfl diX5_init rfl rfl rfl rfl ⟨by decide, by decide⟩ (Nat.le_of_ble_eq_true rfl) ⟨by show 3 + k + 1 + 0 ≤ 15; omega, by show 64 + 11 * k + 11 + 0 ≤ 196; omega⟩ (fun v w hv => ?_)
      obtain ⟨rfl, rfl⟩ := hv
      simp only [List.append_assoc, List.cons_append, List.nil_append, List.append_nil]
      obtain ⟨j, hj⟩ := List.getElem?_of_mem (show (x, .inr (7, z_11)) ∈ W ++ (h, .inr (6, [.ref a7, .int 0, .ref a15, .int 0, .ref a23, .int 0, .int 0, .int 0, .int 2, .int 0, .int 0, .int 0, .int 0, .int 0])) :: (a7, .inl (cA 2, a_q 12 (F_k q k))) :: (a15, .inl (cA 0, 4, .inl (fun _ => 0))) :: (a23, .inl (cA 0, 48, .inl (fun _ => 0))) :: ((List.range k).map (fun i => (q i, .inr (7, z_11))) ++ [(x, .inr (7, z_11))]) from List.mem_append_right _ (List.mem_cons_of_mem _ (List.mem_cons_of_mem _ (List.mem_cons_of_mem _ (List.mem_cons_of_mem _ (List.mem_append_right _ List.mem_cons_self))))))
      refine g_astq (r := (RX5, TX5, 11)) (i := W.length + 1) 2 (fun _ => rfl) at_1 hj rfl (vp_in_nI (by omega) (by omega)) set_1 dX4_init_53 ?_
      refine g_iinc dX4_init_54 rfl ii_s (by decide) rfl ?_
      refine g_goto (tgt := 35) dX4_init_57 (by decide) ?_
      rw [nI_clamp (n := k) (by omega), F_s]
      have z := ih (k + 1) (va_up q k x) (by omega)
      rw [map_up, show 3 + (k + 1) = 3 + k + 1 + 0 from by omega, show 64 + 11 * (k + 1) = 64 + 11 * k + 11 + 0 from by omega] at z
      exact z
  refine g_iconst (v := 0) dX4_init_33 (by decide) ?_
  refine g_istore_n dX4_init_34 (by decide) rfl ?_
  refine g_eq (ws' := (W ++ (h, .inr (6, [.ref a7, .int 0, .ref a15, .int 0, .ref a23, .int 0, .int 0, .int 0, .int 2, .int 0, .int 0, .int 0, .int 0, .int 0])) :: (a7, .inl (cA 2, a_q 12 (F_k (fun _ => 0) 0))) :: (a15, .inl (cA 0, 4, .inl (fun _ => 0))) :: (a23, .inl (cA 0, 48, .inl (fun _ => 0))) :: (List.range 0).map (fun i => ((fun _ => 0) i, .inr (7, z_11))))) rfl ?_
  exact L 12 0 (fun _ => 0) (by omega)
theorem dX3_init_0 : decode cX3_init 0 = .ok (.aload_n 0, 1) := by decide +kernel
theorem dX3_init_1 : decode cX3_init 1 = .ok (.invokespecial 3, 3) := by decide +kernel
theorem dX3_init_4 : decode cX3_init 4 = .ok (.aload_n 0, 1) := by decide +kernel
theorem dX3_init_5 : decode cX3_init 5 = .ok (.bipush 60, 2) := by decide +kernel
theorem dX3_init_7 : decode cX3_init 7 = .ok (.newarray .char, 2) := by decide +kernel
theorem dX3_init_9 : decode cX3_init 9 = .ok (.putfield 9, 3) := by decide +kernel
theorem dX3_init_12 : decode cX3_init 12 = .ok (.aload_n 0, 1) := by decide +kernel
theorem dX3_init_13 : decode cX3_init 13 = .ok (.bipush 12, 2) := by decide +kernel
theorem dX3_init_15 : decode cX3_init 15 = .ok (.anewarray 15, 3) := by decide +kernel
theorem dX3_init_18 : decode cX3_init 18 = .ok (.putfield 17, 3) := by decide +kernel
theorem dX3_init_21 : decode cX3_init 21 = .ok (.iconst 0, 1) := by decide +kernel
theorem dX3_init_22 : decode cX3_init 22 = .ok (.istore_n 1, 1) := by decide +kernel
theorem dX3_init_23 : decode cX3_init 23 = .ok (.iload_n 1, 1) := by decide +kernel
theorem dX3_init_24 : decode cX3_init 24 = .ok (.bipush 12, 2) := by decide +kernel
theorem dX3_init_26 : decode cX3_init 26 = .ok (.if_icmp .ge 22, 3) := by decide +kernel
theorem dX3_init_29 : decode cX3_init 29 = .ok (.aload_n 0, 1) := by decide +kernel
theorem dX3_init_30 : decode cX3_init 30 = .ok (.getfield 17, 3) := by decide +kernel
theorem dX3_init_33 : decode cX3_init 33 = .ok (.iload_n 1, 1) := by decide +kernel
theorem dX3_init_34 : decode cX3_init 34 = .ok (.new 15, 3) := by decide +kernel
theorem dX3_init_37 : decode cX3_init 37 = .ok (.dup, 1) := by decide +kernel
theorem dX3_init_38 : decode cX3_init 38 = .ok (.invokespecial 21, 3) := by decide +kernel
theorem dX3_init_41 : decode cX3_init 41 = .ok (.aastore, 1) := by decide +kernel
theorem dX3_init_42 : decode cX3_init 42 = .ok (.iinc 1 1, 3) := by decide +kernel
theorem dX3_init_45 : decode cX3_init 45 = .ok (.goto (-22), 3) := by decide +kernel
theorem dX3_init_48 : decode cX3_init 48 = .ok (.return_, 1) := by decide +kernel
theorem diX3_init : yX3_init.cls ≠ "java/lang/invoke/MethodHandle" ∧ yX3_init.cls ≠ "java/lang/invoke/VarHandle" ∧ (parseMethodDescriptor yX3_init.desc).map (fun d => d.parameters.length) = some 0 := by decide +kernel
set_option maxRecDepth 100000 in
set_option maxHeartbeats 4000000 in
theorem G_text {cA : Nat → ClassId} {ad : tA} {h : Nat} {W : va_W} : Cg yX3_init cX3_init 2 none (rmg 2 14 132) 14 132 cA ad [.ref h] (W ++ [(h, .inr (5, [.null, .int 0, .int 0, .null, .int 0]))]) (fun v w => v = none ∧ ∃ a : Nat → Nat, a 0 = h ∧ w = W ++ blk cA 13 a (fun _ _ => 0)) := by
  refine c_of_g (isI := true) (lv0 := [some (.ref h), none]) (fun _ => rfl) rfl (by decide +kernel) (Nat.le_of_ble_eq_true rfl) rfl ?_
  refine g_aload_n dX3_init_0 rfl ?_
  refine g_objInit q51 (Nat.le_of_ble_eq_true rfl) (Nat.le_of_ble_eq_true rfl) dX3_init_1 ?_
  refine g_aload_n dX3_init_4 rfl ?_
  refine g_bipush (v := 60) dX3_init_5 (by decide) ?_
  refine g_newa (N := 60) (a0 := (60, .inl (fun _ => 0))) 1 (fun _ => rfl) q52 rfl (fun _ => rfl) (by decide) (by decide) (by decide) ⟨Nat.le_of_ble_eq_true rfl, Nat.le_of_ble_eq_true rfl⟩ dX3_init_7 (fun a7 => ?_)
  simp only [List.append_assoc, List.cons_append, List.nil_append, List.append_nil]
  refine g_putF (i := W.length) at_0 (rfl : vwCl[5]? = some (RX3, TX3, 5)) inlX3 tyX3 tyX3_ok nmX3 0 (by decide) (Nat.le_of_ble_eq_true rfl) q53 rfl rfl rfl rfl rfl rfl set_0 dX3_init_9 ?_
  refine g_aload_n dX3_init_12 rfl ?_
  refine g_bipush (v := 12) dX3_init_13 (by decide) ?_
  refine g_newq (C := RX2) (N := 12) 3 (fun _ => rfl) q54 (fun U h => h.1) (by decide) (by decide) (by decide) ⟨Nat.le_of_ble_eq_true rfl, Nat.le_of_ble_eq_true rfl⟩ dX3_init_15 (fun a15 => ?_)
  simp only [List.append_assoc, List.cons_append, List.nil_append, List.append_nil]
  refine g_putF (i := W.length) at_0 (rfl : vwCl[5]? = some (RX3, TX3, 5)) inlX3 tyX3 tyX3_ok nmX3 3 (by decide) (Nat.le_of_ble_eq_true rfl) q55 rfl rfl rfl rfl rfl rfl set_0 dX3_init_18 ?_
  have L : ∀ (n k : Nat) (q : Nat → Nat), k + n = 12 → Rg true cX3_init RX3 2 none (rmg 2 14 132) 14 132 cA ad (fun v w => v = none ∧ ∃ a : Nat → Nat, a 0 = h ∧ w = W ++ blk cA 13 a (fun _ _ => 0)) (2 + k) (72 + 5 * k) 23 [some (.ref h), some (.int (nI k))] [] (W ++ (h, .inr (5, [.ref a7, .int 0, .int 0, .ref a15, .int 0])) :: (a7, .inl (cA 1, 60, .inl (fun _ => 0))) :: (a15, .inl (cA 3, a_q 12 (F_k q k))) :: (List.range k).map (fun i => (q i, .inr (4, (l_or (fun _ => 0)))))) := by
    intro n
    induction n with
    | zero =>
      intro k q hk
      obtain rfl : k = 12 := by omega
      refine g_iload_n dX3_init_23 rfl ?_
      refine g_bipush (v := 12) dX3_init_24 (by decide) ?_
      refine g_icmp_ge (tgt := 48) dX3_init_26 (by decide) (fun c26 => ?_) (fun c26 => absurd (by decide) c26)
      refine g_arr (f' := fun i => some (q i)) at_2 (fun j hj => if_pos hj) set_2 ?_
      exact g_vret rfl dX3_init_48 (Nat.le_of_ble_eq_true rfl) (Nat.le_of_ble_eq_true rfl) ⟨rfl, fun j => if j = 0 then h else if j = 1 then a7 else if j = 2 then a15 else q (j - 3), rfl, by
        rw [blk13]
        have e4 : ∀ i, (fun j => if j = 0 then h else if j = 1 then a7 else if j = 2 then a15 else q (j - 3)) (3 + i) = q i := fun i => by dsimp only; rw [if_neg (by omega), if_neg (by omega), if_neg (by omega), Nat.add_sub_cancel_left]
        simp only [e4]
        rfl⟩
    | succ n ih =>
      intro k q hk
      refine g_iload_n dX3_init_23 rfl ?_
      refine g_bipush (v := 12) dX3_init_24 (by decide) ?_
      refine g_icmp_ge (tgt := 48) dX3_init_26 (by decide) (fun c26 => absurd c26 (lp_s (c := 12) rfl (by omega) hk)) (fun c26 => ?_)
      refine g_aload_n dX3_init_29 rfl ?_
      refine g_get (i := W.length) at_0 (rfl : vwCl[5]? = some (RX3, TX3, 5)) inlX3 3 (by decide) q55 rfl dX3_init_30 ?_
      refine g_iload_n dX3_init_33 rfl ?_
      refine g_new (ci := 4) (C := RX2) (T := TX2) (N := 5) (fs := (l_or (fun _ => 0))) rfl inlX2 tyX2 tyX2_ok q54 q56 q57 (by decide) ⟨by show 2 + k + 1 ≤ 14; omega, by show 72 + 5 * k + 5 ≤ 132; omega⟩ dX3_init_34 (fun x => ?_)
      refine g_dup dX3_init_37 rfl ?_
      refine g_callIN (As := []) (rest := [.ref x, .int (nI k), .ref a15]) dX3_init_38 G_order (by decide) q58 q59 q57 rfl diX2_init rfl rfl rfl rfl ⟨by decide, by decide⟩ (Nat.le_of_ble_eq_true rfl) ⟨by show 2 + k + 1 + 0 ≤ 14; omega, by show 72 + 5 * k + 5 + 0 ≤ 132; omega⟩ (fun v w hv => ?_)
      obtain ⟨rfl, rfl⟩ := hv
      simp only [List.append_assoc, List.cons_append, List.nil_append, List.append_nil]
      obtain ⟨j, hj⟩ := List.getElem?_of_mem (show (x, .inr (4, (l_or (fun _ => 0)))) ∈ W ++ (h, .inr (5, [.ref a7, .int 0, .int 0, .ref a15, .int 0])) :: (a7, .inl (cA 1, 60, .inl (fun _ => 0))) :: (a15, .inl (cA 3, a_q 12 (F_k q k))) :: ((List.range k).map (fun i => (q i, .inr (4, (l_or (fun _ => 0))))) ++ [(x, .inr (4, (l_or (fun _ => 0))))]) from List.mem_append_right _ (List.mem_cons_of_mem _ (List.mem_cons_of_mem _ (List.mem_cons_of_mem _ (List.mem_append_right _ List.mem_cons_self)))))
      refine g_astq (r := (RX2, TX2, 5)) (i := W.length + 2) 3 (fun _ => rfl) at_2 hj rfl (vp_in_nI (by omega) (by omega)) set_2 dX3_init_41 ?_
      refine g_iinc dX3_init_42 rfl ii_s (by decide) rfl ?_
      refine g_goto (tgt := 23) dX3_init_45 (by decide) ?_
      rw [nI_clamp (n := k) (by omega), F_s]
      have z := ih (k + 1) (va_up q k x) (by omega)
      rw [map_up, show 2 + (k + 1) = 2 + k + 1 + 0 from by omega, show 72 + 5 * (k + 1) = 72 + 5 * k + 5 + 0 from by omega] at z
      exact z
  refine g_iconst (v := 0) dX3_init_21 (by decide) ?_
  refine g_istore_n dX3_init_22 (by decide) rfl ?_
  refine g_eq (ws' := (W ++ (h, .inr (5, [.ref a7, .int 0, .int 0, .ref a15, .int 0])) :: (a7, .inl (cA 1, 60, .inl (fun _ => 0))) :: (a15, .inl (cA 3, a_q 12 (F_k (fun _ => 0) 0))) :: (List.range 0).map (fun i => ((fun _ => 0) i, .inr (4, (l_or (fun _ => 0))))))) rfl ?_
  exact L 12 0 (fun _ => 0) (by omega)
theorem flat_up {α : Type} {b : Nat → Nat → Nat} {k : Nat} {x : Nat → Nat} {g : (Nat → Nat) → List α} : (List.range (k + 1)).flatMap (fun i => g (va_up b k x i)) = (List.range k).flatMap (fun i => g (b i)) ++ g x := by
  rw [List.range_succ, List.flatMap_append, List.flatMap_cons, List.flatMap_nil, List.append_nil, va_up_self]
  congr 1
  rw [List.flatMap_def, List.flatMap_def]
  congr 1
  apply List.map_congr_left
  intro i hi
  have := List.mem_range.mp hi
  rw [va_up_ne _ _ (by omega)]
/-- the addresses of what was made -/
def made_ad (ad : tA) (h am : Nat) (p1 p2 p3 c13 c14 c15 : Nat → Nat) (b : Nat → Nat → Nat) : tA := fun r => if r = 0 then (fun j => if j = 0 then h else am) else if r = 1 then p1 else if r = 2 then p2 else if r = 3 then p3 else if r < 13 then b (r - 4) else if r = 13 then c13 else if r = 14 then c14 else if r = 15 then c15 else ad r
section
variable {cA : Nat → ClassId} {ad : tA} {h am : Nat} {p1 p2 p3 c13 c14 c15 : Nat → Nat} {b : Nat → Nat → Nat} {W : va_W}
theorem made_16 : ∀ r, 16 ≤ r → made_ad ad h am p1 p2 p3 c13 c14 c15 b r = ad r := fun r hr => by
  unfold made_ad
  rw [if_neg (by omega), if_neg (by omega), if_neg (by omega), if_neg (by omega), if_neg (by omega), if_neg (by omega), if_neg (by omega), if_neg (by omega)]
theorem made_b {i : Nat} (hi : i < 9) : made_ad ad h am p1 p2 p3 c13 c14 c15 b (4 + i) = b i := by
  unfold made_ad
  rw [if_neg (by omega), if_neg (by omega), if_neg (by omega), if_neg (by omega), if_pos (by omega), Nat.add_sub_cancel_left]
def mreg (cA : Nat → ClassId) (ad2 : tA) (M : tM) (r : Nat) : va_W := (List.range (t_size r)).map (fun j => (ad2 r j, t_cell cA ad2 (r, j) (M r j)))
theorem wsT_reg {ad2 : tA} {M : tM} : wsT cA ad2 W M = (List.range 16).flatMap (mreg cA ad2 M) ++ W := by
  unfold wsT t_ids mreg
  rw [List.map_flatMap]
  simp only [List.map_map]
  rfl
theorem made_reg {ad2 : tA} {M : tM} {r : Nat} (hr : r ≠ 0) : mreg cA ad2 M r = blk cA r (ad2 r) (M r) := by
  unfold blk mreg
  apply List.map_congr_left
  intro j _
  rw [t_cell_loc hr]
theorem made_pl {ad2 : tA} {r : Nat} (hr : isPlan r) : mreg cA ad2 M_0 r = blk cA 1 (ad2 r) P_0 := by
  rw [made_reg (by unfold isPlan at hr; omega), blk_pl hr]
  unfold isPlan at hr
  rw [M_0, if_pos hr]
theorem made_perm : (wsT cA (made_ad ad h am p1 p2 p3 c13 c14 c15 b) W M_0).Perm (W ++ (h, .inr (8, [.ref (p1 0), .ref (p2 0), .ref (p3 0), .int 0, .ref am, .int 0, .int 0, .ref (c13 0), .ref (c14 0), .ref (c15 0), .int 0, .int 0, .int 0])) :: (am, .inl (cA 4, a_q 9 (fun i => some (made_ad ad h am p1 p2 p3 c13 c14 c15 b (4 + i) 0)))) :: (blk cA 1 p1 P_0 ++ (blk cA 1 p2 P_0 ++ (blk cA 1 p3 P_0 ++ (blk cA 13 c13 (fun _ _ => 0) ++ (blk cA 14 c14 (fun _ _ => 0) ++ (blk cA 15 c15 (fun _ _ => 0) ++ (List.range 9).flatMap (fun i => blk cA 1 (b i) P_0)))))))) := by
  have e : ∀ g : Nat → va_W, (List.range 16).flatMap g = g 0 ++ (g 1 ++ (g 2 ++ (g 3 ++ (g 4 ++ (g 5 ++ (g 6 ++ (g 7 ++ (g 8 ++ (g 9 ++ (g 10 ++ (g 11 ++ (g 12 ++ (g 13 ++ (g 14 ++ (g 15 ++ []))))))))))))))) := fun _ => rfl
  have e9 : ∀ g : Nat → va_W, (List.range 9).flatMap g = g 0 ++ (g 1 ++ (g 2 ++ (g 3 ++ (g 4 ++ (g 5 ++ (g 6 ++ (g 7 ++ (g 8 ++ [])))))))) := fun _ => rfl
  have e0 : mreg cA (made_ad ad h am p1 p2 p3 c13 c14 c15 b) M_0 0 = [(h, .inr (8, [.ref (p1 0), .ref (p2 0), .ref (p3 0), .int 0, .ref am, .int 0, .int 0, .ref (c13 0), .ref (c14 0), .ref (c15 0), .int 0, .int 0, .int 0])), (am, .inl (cA 4, a_q 9 (fun i => some (made_ad ad h am p1 p2 p3 c13 c14 c15 b (4 + i) 0))))] := rfl
  rw [wsT_reg, e, e9, e0, made_pl is1, made_pl is2, made_pl is3, made_pl (isk (k := 0) (by omega)), made_pl (isk (k := 1) (by omega)), made_pl (isk (k := 2) (by omega)), made_pl (isk (k := 3) (by omega)), made_pl (isk (k := 4) (by omega)), made_pl (isk (k := 5) (by omega)), made_pl (isk (k := 6) (by omega)), made_pl (isk (k := 7) (by omega)), made_pl (isk (k := 8) (by omega)), made_reg (r := 13) (by omega), made_reg (r := 14) (by omega), made_reg (r := 15) (by omega)]
  rw [show made_ad ad h am p1 p2 p3 c13 c14 c15 b 1 = p1 from rfl, show made_ad ad h am p1 p2 p3 c13 c14 c15 b 2 = p2 from rfl, show made_ad ad h am p1 p2 p3 c13 c14 c15 b 3 = p3 from rfl, made_b (i := 0) (by omega), made_b (i := 1) (by omega), made_b (i := 2) (by omega), made_b (i := 3) (by omega), made_b (i := 4) (by omega), made_b (i := 5) (by omega), made_b (i := 6) (by omega), made_b (i := 7) (by omega), made_b (i := 8) (by omega), show made_ad ad h am p1 p2 p3 c13 c14 c15 b 13 = c13 from rfl, show made_ad ad h am p1 p2 p3 c13 c14 c15 b 14 = c14 from rfl, show made_ad ad h am p1 p2 p3 c13 c14 c15 b 15 = c15 from rfl, show M_0 13 = fun _ _ => 0 from rfl, show M_0 14 = fun _ _ => 0 from rfl, show M_0 15 = fun _ _ => 0 from rfl]
  generalize blk cA 1 p1 P_0 = B1
  generalize blk cA 1 p2 P_0 = B2
  generalize blk cA 1 p3 P_0 = B3
  generalize blk cA 1 (b 0) P_0 = K0
  generalize blk cA 1 (b 1) P_0 = K1
  generalize blk cA 1 (b 2) P_0 = K2
  generalize blk cA 1 (b 3) P_0 = K3
  generalize blk cA 1 (b 4) P_0 = K4
  generalize blk cA 1 (b 5) P_0 = K5
  generalize blk cA 1 (b 6) P_0 = K6
  generalize blk cA 1 (b 7) P_0 = K7
  generalize blk cA 1 (b 8) P_0 = K8
  generalize blk cA 13 c13 (fun _ _ => 0) = C13
  generalize blk cA 14 c14 (fun _ _ => 0) = C14
  generalize blk cA 15 c15 (fun _ _ => 0) = C15
  refine List.perm_append_comm.trans (List.Perm.append_left W ?_)
  simp only [List.cons_append, List.nil_append]
  refine List.Perm.cons _ (List.Perm.cons _ (List.Perm.append_left _ (List.Perm.append_left _ (List.Perm.append_left _ ?_))))
  have e1 : K0 ++ (K1 ++ (K2 ++ (K3 ++ (K4 ++ (K5 ++ (K6 ++ (K7 ++ (K8 ++ (C13 ++ (C14 ++ (C15 ++ []))))))))))) = (K0 ++ (K1 ++ (K2 ++ (K3 ++ (K4 ++ (K5 ++ (K6 ++ (K7 ++ K8)))))))) ++ (C13 ++ (C14 ++ C15)) := by simp only [List.append_assoc, List.append_nil]
  have e2 : C13 ++ (C14 ++ (C15 ++ (K0 ++ (K1 ++ (K2 ++ (K3 ++ (K4 ++ (K5 ++ (K6 ++ (K7 ++ (K8 ++ []))))))))))) = (C13 ++ (C14 ++ C15)) ++ (K0 ++ (K1 ++ (K2 ++ (K3 ++ (K4 ++ (K5 ++ (K6 ++ (K7 ++ K8)))))))) := by simp only [List.append_assoc, List.append_nil]
  rw [e1, e2]
  exact List.perm_append_comm
end
theorem dX6_init_0 : decode cX6_init 0 = .ok (.aload_n 0, 1) := by decide +kernel
theorem dX6_init_1 : decode cX6_init 1 = .ok (.invokespecial 3, 3) := by decide +kernel
theorem dX6_init_4 : decode cX6_init 4 = .ok (.aload_n 0, 1) := by decide +kernel
theorem dX6_init_5 : decode cX6_init 5 = .ok (.new 9, 3) := by decide +kernel
theorem dX6_init_8 : decode cX6_init 8 = .ok (.dup, 1) := by decide +kernel
theorem dX6_init_9 : decode cX6_init 9 = .ok (.invokespecial 11, 3) := by decide +kernel
theorem dX6_init_12 : decode cX6_init 12 = .ok (.putfield 12, 3) := by decide +kernel
theorem dX6_init_15 : decode cX6_init 15 = .ok (.aload_n 0, 1) := by decide +kernel
theorem dX6_init_16 : decode cX6_init 16 = .ok (.new 9, 3) := by decide +kernel
theorem dX6_init_19 : decode cX6_init 19 = .ok (.dup, 1) := by decide +kernel
theorem dX6_init_20 : decode cX6_init 20 = .ok (.invokespecial 11, 3) := by decide +kernel
theorem dX6_init_23 : decode cX6_init 23 = .ok (.putfield 16, 3) := by decide +kernel
theorem dX6_init_26 : decode cX6_init 26 = .ok (.aload_n 0, 1) := by decide +kernel
theorem dX6_init_27 : decode cX6_init 27 = .ok (.new 9, 3) := by decide +kernel
theorem dX6_init_30 : decode cX6_init 30 = .ok (.dup, 1) := by decide +kernel
theorem dX6_init_31 : decode cX6_init 31 = .ok (.invokespecial 11, 3) := by decide +kernel
theorem dX6_init_34 : decode cX6_init 34 = .ok (.putfield 19, 3) := by decide +kernel
theorem dX6_init_37 : decode cX6_init 37 = .ok (.aload_n 0, 1) := by decide +kernel
theorem dX6_init_38 : decode cX6_init 38 = .ok (.bipush 9, 2) := by decide +kernel
theorem dX6_init_40 : decode cX6_init 40 = .ok (.anewarray 9, 3) := by decide +kernel
theorem dX6_init_43 : decode cX6_init 43 = .ok (.putfield 22, 3) := by decide +kernel
theorem dX6_init_46 : decode cX6_init 46 = .ok (.aload_n 0, 1) := by decide +kernel
theorem dX6_init_47 : decode cX6_init 47 = .ok (.new 26, 3) := by decide +kernel
theorem dX6_init_50 : decode cX6_init 50 = .ok (.dup, 1) := by decide +kernel
theorem dX6_init_51 : decode cX6_init 51 = .ok (.invokespecial 28, 3) := by decide +kernel
theorem dX6_init_54 : decode cX6_init 54 = .ok (.putfield 29, 3) := by decide +kernel
theorem dX6_init_57 : decode cX6_init 57 = .ok (.aload_n 0, 1) := by decide +kernel
theorem dX6_init_58 : decode cX6_init 58 = .ok (.new 33, 3) := by decide +kernel
theorem dX6_init_61 : decode cX6_init 61 = .ok (.dup, 1) := by decide +kernel
theorem dX6_init_62 : decode cX6_init 62 = .ok (.invokespecial 35, 3) := by decide +kernel
theorem dX6_init_65 : decode cX6_init 65 = .ok (.putfield 36, 3) := by decide +kernel
theorem dX6_init_68 : decode cX6_init 68 = .ok (.aload_n 0, 1) := by decide +kernel
theorem dX6_init_69 : decode cX6_init 69 = .ok (.new 40, 3) := by decide +kernel
theorem dX6_init_72 : decode cX6_init 72 = .ok (.dup, 1) := by decide +kernel
theorem dX6_init_73 : decode cX6_init 73 = .ok (.invokespecial 42, 3) := by decide +kernel
theorem dX6_init_76 : decode cX6_init 76 = .ok (.putfield 43, 3) := by decide +kernel
theorem dX6_init_79 : decode cX6_init 79 = .ok (.iconst 0, 1) := by decide +kernel
theorem dX6_init_80 : decode cX6_init 80 = .ok (.istore_n 1, 1) := by decide +kernel
theorem dX6_init_81 : decode cX6_init 81 = .ok (.iload_n 1, 1) := by decide +kernel
theorem dX6_init_82 : decode cX6_init 82 = .ok (.bipush 9, 2) := by decide +kernel
theorem dX6_init_84 : decode cX6_init 84 = .ok (.if_icmp .ge 22, 3) := by decide +kernel
theorem dX6_init_87 : decode cX6_init 87 = .ok (.aload_n 0, 1) := by decide +kernel
theorem dX6_init_88 : decode cX6_init 88 = .ok (.getfield 22, 3) := by decide +kernel
theorem dX6_init_91 : decode cX6_init 91 = .ok (.iload_n 1, 1) := by decide +kernel
theorem dX6_init_92 : decode cX6_init 92 = .ok (.new 9, 3) := by decide +kernel
theorem dX6_init_95 : decode cX6_init 95 = .ok (.dup, 1) := by decide +kernel
theorem dX6_init_96 : decode cX6_init 96 = .ok (.invokespecial 11, 3) := by decide +kernel
theorem dX6_init_99 : decode cX6_init 99 = .ok (.aastore, 1) := by decide +kernel
theorem dX6_init_100 : decode cX6_init 100 = .ok (.iinc 1 1, 3) := by decide +kernel
theorem dX6_init_103 : decode cX6_init 103 = .ok (.goto (-22), 3) := by decide +kernel
theorem dX6_init_106 : decode cX6_init 106 = .ok (.return_, 1) := by decide +kernel
theorem diX6_init : yX6_init.cls ≠ "java/lang/invoke/MethodHandle" ∧ yX6_init.cls ≠ "java/lang/invoke/VarHandle" ∧ (parseMethodDescriptor yX6_init.desc).map (fun d => d.parameters.length) = some 0 := by decide +kernel
set_option maxRecDepth 100000 in
set_option maxHeartbeats 4000000 in
theorem G_flow {cA : Nat → ClassId} {ad : tA} {h : Nat} {W : va_W} : Cg yX6_init cX6_init 2 none (rmg 4 213 2896) 213 2896 cA ad [.ref h] (W ++ [(h, .inr (8, [.null, .null, .null, .int 0, .null, .int 0, .int 0, .null, .null, .null, .int 0, .int 0, .int 0]))]) (fun v w => v = none ∧ ∃ ad2 : tA, (∀ r, 16 ≤ r → ad2 r = ad r) ∧ ad2 0 0 = h ∧ w = wsT cA ad2 W M_0) := by
  refine c_of_g (isI := true) (lv0 := [some (.ref h), none]) (fun _ => rfl) rfl (by decide +kernel) (Nat.le_of_ble_eq_true rfl) rfl ?_
  refine g_aload_n dX6_init_0 rfl ?_
  refine g_objInit q11 (Nat.le_of_ble_eq_true rfl) (Nat.le_of_ble_eq_true rfl) dX6_init_1 ?_
  refine g_aload_n dX6_init_4 rfl ?_
  refine g_new (ci := 6) (C := RX4) (T := TX4) (N := 14) (fs := [.null, .int 0, .null, .int 0, .null, .int 0, .int 0, .int 0, .int 0, .int 0, .int 0, .int 0, .int 0, .int 0]) rfl inlX4 tyX4 tyX4_ok q14 q15 q16 (by decide) ⟨Nat.le_of_ble_eq_true rfl, Nat.le_of_ble_eq_true rfl⟩ dX6_init_5 (fun x5 => ?_)
  refine g_dup dX6_init_8 rfl ?_
  refine g_callI (As := []) (rest := [.ref x5, .ref h]) dX6_init_9 G_plan ⟨q33, q34, q16, q35, rfl⟩ diX4_init rfl rfl rfl rfl ⟨by decide, by decide⟩ (Nat.le_of_ble_eq_true rfl) ⟨Nat.le_of_ble_eq_true rfl, Nat.le_of_ble_eq_true rfl⟩ (fun v w hv => ?_)
  obtain ⟨rfl, p1, rfl, rfl⟩ := hv
  simp only [List.append_assoc, List.cons_append, List.nil_append, List.append_nil]
  refine g_putF (i := W.length) at_0 (rfl : vwCl[8]? = some (RX6, TX6, 13)) inlX6 tyX6 tyX6_ok nmX6 0 (by decide) (Nat.le_of_ble_eq_true rfl) q17 rfl rfl rfl rfl rfl rfl set_0 dX6_init_12 ?_
  refine g_aload_n dX6_init_15 rfl ?_
  refine g_new (ci := 6) (C := RX4) (T := TX4) (N := 14) (fs := [.null, .int 0, .null, .int 0, .null, .int 0, .int 0, .int 0, .int 0, .int 0, .int 0, .int 0, .int 0, .int 0]) rfl inlX4 tyX4 tyX4_ok q14 q15 q16 (by decide) ⟨Nat.le_of_ble_eq_true rfl, Nat.le_of_ble_eq_true rfl⟩ dX6_init_16 (fun x16 => ?_)
  refine g_dup dX6_init_19 rfl ?_
  refine g_callI (As := []) (rest := [.ref x16, .ref h]) dX6_init_20 G_plan ⟨q33, q34, q16, q35, rfl⟩ diX4_init rfl rfl rfl rfl ⟨by decide, by decide⟩ (Nat.le_of_ble_eq_true rfl) ⟨Nat.le_of_ble_eq_true rfl, Nat.le_of_ble_eq_true rfl⟩ (fun v w hv => ?_)
  obtain ⟨rfl, p2, rfl, rfl⟩ := hv
  simp only [List.append_assoc, List.cons_append, List.nil_append, List.append_nil]
  refine g_putF (i := W.length) at_0 (rfl : vwCl[8]? = some (RX6, TX6, 13)) inlX6 tyX6 tyX6_ok nmX6 1 (by decide) (Nat.le_of_ble_eq_true rfl) q18 rfl rfl rfl rfl rfl rfl set_0 dX6_init_23 ?_
  refine g_aload_n dX6_init_26 rfl ?_
  refine g_new (ci := 6) (C := RX4) (T := TX4) (N := 14) (fs := [.null, .int 0, .null, .int 0, .null, .int 0, .int 0, .int 0, .int 0, .int 0, .int 0, .int 0, .int 0, .int 0]) rfl inlX4 tyX4 tyX4_ok q14 q15 q16 (by decide) ⟨Nat.le_of_ble_eq_true rfl, Nat.le_of_ble_eq_true rfl⟩ dX6_init_27 (fun x27 => ?_)
  refine g_dup dX6_init_30 rfl ?_
  refine g_callI (As := []) (rest := [.ref x27, .ref h]) dX6_init_31 G_plan ⟨q33, q34, q16, q35, rfl⟩ diX4_init rfl rfl rfl rfl ⟨by decide, by decide⟩ (Nat.le_of_ble_eq_true rfl) ⟨Nat.le_of_ble_eq_true rfl, Nat.le_of_ble_eq_true rfl⟩ (fun v w hv => ?_)
  obtain ⟨rfl, p3, rfl, rfl⟩ := hv
  simp only [List.append_assoc, List.cons_append, List.nil_append, List.append_nil]
  refine g_putF (i := W.length) at_0 (rfl : vwCl[8]? = some (RX6, TX6, 13)) inlX6 tyX6 tyX6_ok nmX6 2 (by decide) (Nat.le_of_ble_eq_true rfl) q19 rfl rfl rfl rfl rfl rfl set_0 dX6_init_34 ?_
  refine g_aload_n dX6_init_37 rfl ?_
  refine g_bipush (v := 9) dX6_init_38 (by decide) ?_
  refine g_newq (C := RX4) (N := 9) 4 (fun _ => rfl) q14 (fun U h => h.2.1) (by decide) (by decide) (by decide) ⟨Nat.le_of_ble_eq_true rfl, Nat.le_of_ble_eq_true rfl⟩ dX6_init_40 (fun a40 => ?_)
  simp only [List.append_assoc, List.cons_append, List.nil_append, List.append_nil]
  refine g_putF (i := W.length) at_0 (rfl : vwCl[8]? = some (RX6, TX6, 13)) inlX6 tyX6 tyX6_ok nmX6 4 (by decide) (Nat.le_of_ble_eq_true rfl) q20 rfl rfl rfl rfl rfl rfl set_0 dX6_init_43 ?_
  refine g_perm (ws' := W ++ (h, .inr (8, [.ref (p1 0), .ref (p2 0), .ref (p3 0), .int 0, .ref a40, .int 0, .int 0, .null, .null, .null, .int 0, .int 0, .int 0])) :: (a40, .inl (cA 4, a_q 9 (F_k (fun _ => 0) 0))) :: (blk cA 1 p1 P_0 ++ (blk cA 1 p2 P_0 ++ blk cA 1 p3 P_0))) ?_ ?_
  · refine List.Perm.append_left _ (List.Perm.cons _ ?_)
    refine (List.perm_append_singleton _ _).symm.trans ?_
    simp only [List.append_assoc]; exact List.Perm.refl _
  refine g_aload_n dX6_init_46 rfl ?_
  refine g_new (ci := 5) (C := RX3) (T := TX3) (N := 5) (fs := [.null, .int 0, .int 0, .null, .int 0]) rfl inlX3 tyX3 tyX3_ok q21 q22 q23 (by decide) ⟨Nat.le_of_ble_eq_true rfl, Nat.le_of_ble_eq_true rfl⟩ dX6_init_47 (fun x47 => ?_)
  refine g_dup dX6_init_50 rfl ?_
  refine g_callI (As := []) (rest := [.ref x47, .ref h]) dX6_init_51 G_text ⟨q48, q49, q23, q50, rfl⟩ diX3_init rfl rfl rfl rfl ⟨by decide, by decide⟩ (Nat.le_of_ble_eq_true rfl) ⟨Nat.le_of_ble_eq_true rfl, Nat.le_of_ble_eq_true rfl⟩ (fun v w hv => ?_)
  obtain ⟨rfl, c13, rfl, rfl⟩ := hv
  simp only [List.append_assoc, List.cons_append, List.nil_append, List.append_nil]
  refine g_putF (i := W.length) at_0 (rfl : vwCl[8]? = some (RX6, TX6, 13)) inlX6 tyX6 tyX6_ok nmX6 7 (by decide) (Nat.le_of_ble_eq_true rfl) q24 rfl rfl rfl rfl rfl rfl set_0 dX6_init_54 ?_
  refine g_aload_n dX6_init_57 rfl ?_
  refine g_new (ci := 3) (C := RX1) (T := TX1) (N := 2) (fs := [.null, .int 0]) rfl inlX1 tyX1 tyX1_ok q25 q26 q27 (by decide) ⟨Nat.le_of_ble_eq_true rfl, Nat.le_of_ble_eq_true rfl⟩ dX6_init_58 (fun x58 => ?_)
  refine g_dup dX6_init_61 rfl ?_
  refine g_callIN (As := []) (rest := [.ref x58, .ref h]) dX6_init_62 G_line (by decide) q61 q62 q27 rfl diX1_init rfl rfl rfl rfl ⟨by decide, by decide⟩ (Nat.le_of_ble_eq_true rfl) ⟨Nat.le_of_ble_eq_true rfl, Nat.le_of_ble_eq_true rfl⟩ (fun v w hv => ?_)
  obtain ⟨rfl, c14, rfl, rfl⟩ := hv
  simp only [List.append_assoc, List.cons_append, List.nil_append, List.append_nil]
  refine g_putF (i := W.length) at_0 (rfl : vwCl[8]? = some (RX6, TX6, 13)) inlX6 tyX6 tyX6_ok nmX6 8 (by decide) (Nat.le_of_ble_eq_true rfl) q28 rfl rfl rfl rfl rfl rfl set_0 dX6_init_65 ?_
  refine g_aload_n dX6_init_68 rfl ?_
  refine g_new (ci := 2) (C := RX0) (T := TX0) (N := 2) (fs := [.null, .null]) rfl inlX0 tyX0 tyX0_ok q29 q30 q31 (by decide) ⟨Nat.le_of_ble_eq_true rfl, Nat.le_of_ble_eq_true rfl⟩ dX6_init_69 (fun x69 => ?_)
  refine g_dup dX6_init_72 rfl ?_
  refine g_callIN (As := []) (rest := [.ref x69, .ref h]) dX6_init_73 G_chains (by decide) q65 q66 q31 rfl diX0_init rfl rfl rfl rfl ⟨by decide, by decide⟩ (Nat.le_of_ble_eq_true rfl) ⟨Nat.le_of_ble_eq_true rfl, Nat.le_of_ble_eq_true rfl⟩ (fun v w hv => ?_)
  obtain ⟨rfl, c15, rfl, rfl⟩ := hv
  simp only [List.append_assoc, List.cons_append, List.nil_append, List.append_nil]
  refine g_putF (i := W.length) at_0 (rfl : vwCl[8]? = some (RX6, TX6, 13)) inlX6 tyX6 tyX6_ok nmX6 9 (by decide) (Nat.le_of_ble_eq_true rfl) q32 rfl rfl rfl rfl rfl rfl set_0 dX6_init_76 ?_
  have L : ∀ (n k : Nat) (b : Nat → Nat → Nat), k + n = 9 → Rg true cX6_init RX6 2 none (rmg 4 213 2896) 213 2896 cA ad (fun v w => v = none ∧ ∃ ad2 : tA, (∀ r, 16 ≤ r → ad2 r = ad r) ∧ ad2 0 0 = h ∧ w = wsT cA ad2 W M_0) (69 + 16 * k) (900 + 210 * k) 81 [some (.ref h), some (.int (nI k))] [] (W ++ (h, .inr (8, [.ref (p1 0), .ref (p2 0), .ref (p3 0), .int 0, .ref a40, .int 0, .int 0, .ref (c13 0), .ref (c14 0), .ref (c15 0), .int 0, .int 0, .int 0])) :: (a40, .inl (cA 4, a_q 9 (F_k (fun i => b i 0) k))) :: (blk cA 1 p1 P_0 ++ (blk cA 1 p2 P_0 ++ (blk cA 1 p3 P_0 ++ (blk cA 13 c13 (fun _ _ => 0) ++ (blk cA 14 c14 (fun _ _ => 0) ++ (blk cA 15 c15 (fun _ _ => 0) ++ (List.range k).flatMap (fun i => blk cA 1 (b i) P_0)))))))) := by
    intro n
    induction n with
    | zero =>
      intro k b hk
      obtain rfl : k = 9 := by omega
      refine g_iload_n dX6_init_81 rfl ?_
      refine g_bipush (v := 9) dX6_init_82 (by decide) ?_
      refine g_icmp_ge (tgt := 106) dX6_init_84 (by decide) (fun c84 => ?_) (fun c84 => absurd (by decide) c84)
      refine g_arr (f' := fun i => some (made_ad ad h a40 p1 p2 p3 c13 c14 c15 b (4 + i) 0)) at_1 (fun j hj => (if_pos hj).trans (congrArg some (congrFun (made_b hj) 0).symm)) set_1 ?_
      refine g_perm (made_perm (ad := ad) (h := h) (am := a40) (p1 := p1) (p2 := p2) (p3 := p3) (c13 := c13) (c14 := c14) (c15 := c15) (b := b)) ?_
      exact g_vret rfl dX6_init_106 (Nat.le_of_ble_eq_true rfl) (Nat.le_of_ble_eq_true rfl) ⟨rfl, made_ad ad h a40 p1 p2 p3 c13 c14 c15 b, made_16, rfl, rfl⟩
    | succ n ih =>
      intro k b hk
      refine g_iload_n dX6_init_81 rfl ?_
      refine g_bipush (v := 9) dX6_init_82 (by decide) ?_
      refine g_icmp_ge (tgt := 106) dX6_init_84 (by decide) (fun c84 => absurd c84 (lp_s (c := 9) rfl (by omega) hk)) (fun c84 => ?_)
      refine g_aload_n dX6_init_87 rfl ?_
      refine g_get (i := W.length) at_0 (rfl : vwCl[8]? = some (RX6, TX6, 13)) inlX6 4 (by decide) q20 rfl dX6_init_88 ?_
      refine g_iload_n dX6_init_91 rfl ?_
      refine g_new (ci := 6) (C := RX4) (T := TX4) (N := 14) (fs := [.null, .int 0, .null, .int 0, .null, .int 0, .int 0, .int 0, .int 0, .int 0, .int 0, .int 0, .int 0, .int 0]) rfl inlX4 tyX4 tyX4_ok q14 q15 q16 (by decide) ⟨by show 69 + 16 * k + 1 ≤ 213; omega, by show 900 + 210 * k + 14 ≤ 2896; omega⟩ dX6_init_92 (fun x => ?_)
      refine g_dup dX6_init_95 rfl ?_
      refine g_callI (As := []) (rest := [.ref x, .int (nI k), .ref a40]) dX6_init_96 G_plan ⟨q33, q34, q16, q35, rfl⟩ diX4_init rfl rfl rfl rfl ⟨by decide, by decide⟩ (Nat.le_of_ble_eq_true rfl) ⟨by show 69 + 16 * k + 1 + 15 ≤ 213; omega, by show 900 + 210 * k + 14 + 196 ≤ 2896; omega⟩ (fun v w hv => ?_)
      obtain ⟨rfl, pk, rfl, rfl⟩ := hv
      simp only [List.append_assoc, List.cons_append, List.nil_append, List.append_nil]
      obtain ⟨j, hj⟩ := List.getElem?_of_mem (show (pk 0, .inr (6, l_pl (fun _ => pk) 1 (P_0 0))) ∈ W ++ (h, .inr (8, [.ref (p1 0), .ref (p2 0), .ref (p3 0), .int 0, .ref a40, .int 0, .int 0, .ref (c13 0), .ref (c14 0), .ref (c15 0), .int 0, .int 0, .int 0])) :: (a40, .inl (cA 4, a_q 9 (F_k (fun i => b i 0) k))) :: (blk cA 1 p1 P_0 ++ (blk cA 1 p2 P_0 ++ (blk cA 1 p3 P_0 ++ (blk cA 13 c13 (fun _ _ => 0) ++ (blk cA 14 c14 (fun _ _ => 0) ++ (blk cA 15 c15 (fun _ _ => 0) ++ ((List.range k).flatMap (fun i => blk cA 1 (b i) P_0) ++ blk cA 1 pk P_0))))))) from List.mem_append_right _ (List.mem_cons_of_mem _ (List.mem_cons_of_mem _ (List.mem_append_right _ (List.mem_append_right _ (List.mem_append_right _ (List.mem_append_right _ (List.mem_append_right _ (List.mem_append_right _ (List.mem_append_right _ (by rw [blk1]; exact List.mem_cons_self)))))))))))
      refine g_astq (r := (RX4, TX4, 14)) (i := W.length + 1) 4 (fun _ => rfl) at_1 hj rfl (vp_in_nI (by omega) (by omega)) set_1 dX6_init_99 ?_
      refine g_iinc dX6_init_100 rfl ii_s (by decide) rfl ?_
      refine g_goto (tgt := 81) dX6_init_103 (by decide) ?_
      rw [nI_clamp (n := k) (by omega), F_s]
      have z := ih (k + 1) (va_up b k pk) (by omega)
      rw [flat_up (g := fun a => blk cA 1 a P_0), show (fun i => va_up b k pk i 0) = va_up (fun i => b i 0) k (pk 0) from by funext i; unfold va_up; split <;> rfl, show 69 + 16 * (k + 1) = 69 + 16 * k + 1 + 15 from by omega, show 900 + 210 * (k + 1) = 900 + 210 * k + 14 + 196 from by omega] at z
      exact z
  refine g_iconst (v := 0) dX6_init_79 (by decide) ?_
  refine g_istore_n dX6_init_80 (by decide) rfl ?_
  refine g_widen (c2 := 69 + 16 * 0) (s2 := 900 + 210 * 0) (Nat.le_of_ble_eq_true rfl) (Nat.le_of_ble_eq_true rfl) ?_
  refine g_eq (ws' := (W ++ (h, .inr (8, [.ref (p1 0), .ref (p2 0), .ref (p3 0), .int 0, .ref a40, .int 0, .int 0, .ref (c13 0), .ref (c14 0), .ref (c15 0), .int 0, .int 0, .int 0])) :: (a40, .inl (cA 4, a_q 9 (F_k (fun i => (fun _ _ => 0) i 0) 0))) :: (blk cA 1 p1 P_0 ++ (blk cA 1 p2 P_0 ++ (blk cA 1 p3 P_0 ++ (blk cA 13 c13 (fun _ _ => 0) ++ (blk cA 14 c14 (fun _ _ => 0) ++ (blk cA 15 c15 (fun _ _ => 0) ++ (List.range 0).flatMap (fun i => blk cA 1 ((fun _ _ => 0) i) P_0))))))))) ?_ ?_
  · show _ = _
    rw [show (List.range 0).flatMap (fun i => blk cA 1 ((fun _ _ => 0) i) P_0) = [] from rfl, List.append_nil]
    rfl
  exact L 9 0 (fun _ _ => 0) (by omega)

/-! PART 32: the law, whole -/
set_option maxRecDepth 100000 in
set_option maxHeartbeats 4000000 in
theorem L_all {cA : Nat → ClassId} {ad : tA} (hL : ad 18 2 ≤ 260) : Rg false cL_law RL 11 (some .boolean) room_1 600000 7302250 cA ad (fun v _ => v = some (.int 1)) 0 0 0 [some (.ref (ad 18 3)), none, none, none, none, none, none, none, none, none, none] [] [] := by
  refine g_new (ci := 8) (C := RX6) (T := TX6) (N := 13) (fs := [.null, .null, .null, .int 0, .null, .int 0, .int 0, .null, .null, .null, .int 0, .int 0, .int 0]) rfl inlX6 tyX6 tyX6_ok q0 q1 q2 (by decide) ⟨by decide, by decide⟩ dL_law_0 (fun x0 => ?_)
  refine g_dup dL_law_3 rfl ?_
  refine g_callI (n := 0) (As := []) (rest := [.ref x0]) dL_law_4 (G_flow (W := [])) ⟨q8, q9, q2, q10, rfl⟩ ⟨by decide, by decide, by decide +kernel⟩ rfl rfl rfl rfl ⟨by decide, by decide⟩ (Nat.le_of_ble_eq_true rfl) ⟨by decide, by decide⟩ (fun v w hv => ?_)
  obtain ⟨rfl, a1, ha1, rfl, rfl⟩ := hv
  refine g_astore_n dL_law_7 (by decide) rfl ?_
  have e1 : ad 18 3 = a1 18 3 := by rw [ha1 18 (by omega)]
  rw [e1]
  refine g_ad ha1 ?_
  refine g_widen (c2 := 300) (s2 := 4000) (by decide) (by decide) ?_
  refine L_early (fun l2 M F P => ?_)
  refine g_sub (ws' := []) (fun q h => by cases h) List.nodup_nil ?_
  refine g_new (ci := 8) (C := RX6) (T := TX6) (N := 13) (fs := [.null, .null, .null, .int 0, .null, .int 0, .int 0, .null, .null, .null, .int 0, .int 0, .int 0]) rfl inlX6 tyX6 tyX6_ok q0 q1 q2 (by decide) ⟨by decide, by decide⟩ dL_law_548 (fun x1 => ?_)
  refine g_dup dL_law_551 rfl ?_
  refine g_callI (n := 0) (As := []) (rest := [.ref x1]) dL_law_552 (G_flow (W := [])) ⟨q8, q9, q2, q10, rfl⟩ ⟨by decide, by decide, by decide +kernel⟩ rfl rfl rfl rfl ⟨by decide, by decide⟩ (Nat.le_of_ble_eq_true rfl) ⟨by decide, by decide⟩ (fun v w hv => ?_)
  obtain ⟨rfl, a2, ha2, rfl, rfl⟩ := hv
  refine g_astore_n dL_law_555 (by decide) rfl ?_
  have e2 : a1 18 3 = a2 18 3 := by rw [ha2 18 (by omega)]
  rw [e2]
  refine g_ad ha2 ?_
  refine g_widen (c2 := 600) (s2 := 8000) (by decide) (by decide) ?_
  refine g_end (Q' := Qw cA a2 (fun v _ _ => v = some (.int 1))) (fun v w h => by obtain ⟨_, _, _, h⟩ := h; exact h) ?_
  refine g_j ?_
  exact L_later (e := a1 0 0) (by rw [ha2 18 (by omega), ha1 18 (by omega)]; exact hL)

/-! PART 31: the law's second object; the law -/
theorem wx_set {cA : Nat → ClassId} {ad : tA} {ex : va_W} {M : tM} {i : Nat} {x : Nat × va_E} : (wsT cA ad ex M).set (t_ids.length + i) x = wsT cA ad (ex.set i x) M := by
  unfold wsT
  rw [List.set_append, if_neg (by rw [List.length_map]; omega), List.length_map, Nat.add_sub_cancel_left]
theorem hist_aM {M : tM} {F P X N C : tP} {k u w c : Nat} {h : Int32} {H : Nat → tP} (I : hist M F P k u w h c H) (o : okl N) : hist (aM M X N C) F P k u w h c H := ⟨inv_aM I.1 o, I.2.1, fun j hj => by rw [aM_n (by omega)]; exact I.2.2 j hj⟩
theorem min_v (d : Nat) (hd : d < 100) : (if nI d < 8 then nI d else 8) = nI (min 8 d) := by
  have h : ∀ d, d < 100 → (if nI d < 8 then nI d else 8) = nI (min 8 d) := by decide +kernel
  exact h d hd
theorem nI_subl {a b : Nat} (h : b ≤ a) : nI a - nI b = nI (a - b) := by
  obtain ⟨c, rfl⟩ : ∃ c, a = b + c := ⟨a - b, by omega⟩
  rw [← nI_add, Int32.add_comm, Int32.add_sub_cancel, show b + c - b = c from by omega]
theorem asks_same2 {P P' : tP} (h : same P P') (o : okP P') : f_asks P' = f_asks P := (asks_same (sm_sy h) o).symm
theorem vin {d n : Nat} (h : d < n) (h2 : d < 1000) : vp_in (nI d) n := by
  rintro (z | z)
  · exact nI_pos (by omega) z
  · rw [nI_clamp (by omega)] at z
    omega
set_option maxRecDepth 100000 in
set_option maxHeartbeats 4000000 in
theorem L_tail {cA : Nat → ClassId} {ad : tA} {e : Nat} (hL : ad 18 2 ≤ 260) {S : tP} (oS : okP S) : ∀ (qa n2 i d : Nat) (f : Nat → Int64) (M : tM) (F P : tP) (k u w : Nat) (H : Nat → tP), i + n2 = 10 → d ≤ i → hist M F P k u w 1 (min 8 d) H → w ≤ 1000 + 108 * i → (∀ j, j < min 8 d → f_asks (H j) = f (d - 1 - j)) → min 8 d ≤ u → same S (M 3) → Rj cL_law RL 11 (some .boolean) room_1 600000 7302250 cA ad (fun v _ _ => v = some (.int 1)) [(qa, .inl (cA 6, 11, .inr (.inl f)))] (700 + 20 * i) (8100 + 500 * i) 628 [some (.ref (ad 18 3)), some (.ref e), some (.ref (ad 0 0)), some (.long (f_asks S)), none, some (.int (S 0 7)), some (.ref qa), some (.int (nI d)), some (.int (nI i)), none, none] [] (mm M F P) := by
  have hr1 : room_1.cells = 600000 := rfl
  have hr2 : room_1.slots = 7302250 := rfl
  have T764 : ∀ (qa : Nat) (f : Nat → Int64) (d c kk : Nat) (M : tM) (F P : tP) (k u w : Nat), inv M F P k u w 1 → same S (M 3) → Rj cL_law RL 11 (some .boolean) room_1 600000 7302250 cA ad (fun v _ _ => v = some (.int 1)) [(qa, .inl (cA 6, 11, .inr (.inl f)))] 1000 15000 764 [some (.ref (ad 18 3)), some (.ref e), some (.ref (ad 0 0)), some (.long (f_asks S)), none, some (.int (S 0 7)), some (.ref qa), some (.int (nI d)), some (.int (nI c)), some (.int (nI kk)), none] [] (mm M F P) := by
    intro qa f d c kk M F P k u w I sm
    refine r_aload_n dL_law_764 rfl ?_
    refine r_callV (n := 0) (As := []) (rest := []) dL_law_765 (r_ok I sm) (g_V q109 q110 q111 q2 q112) ⟨rfl, by decide, by decide, by decide +kernel⟩ rfl rfl rfl rfl ⟨by decide, by decide⟩ (Nat.le_of_ble_eq_true rfl) ⟨Nat.le_of_ble_eq_true rfl, Nat.le_of_ble_eq_true rfl⟩ ob_tf (fun v9 x9 m9 hv => ?_)
    obtain ⟨rfl, rfl, F9, P9, rfl, I9, sm9⟩ := hv
    refine r_iload dL_law_768 rfl ?_
    refine r_icmp_ne (tgt := 813) dL_law_770 (by decide) (fun c770 => absurd rfl c770) (fun c770 => ?_)
    refine r_aload_n dL_law_773 rfl ?_
    refine r_callV (n := 0) (As := []) (rest := []) dL_law_774 (no_undo I9 (inv_6 I9)) (g_V q70 q71 q72 q2 q73) ⟨rfl, by decide, by decide, by decide +kernel⟩ rfl rfl rfl rfl ⟨by decide, by decide⟩ (Nat.le_of_ble_eq_true rfl) ⟨Nat.le_of_ble_eq_true rfl, Nat.le_of_ble_eq_true rfl⟩ ob_tf (fun v9 x9 m9 hv => ?_)
    obtain ⟨rfl, rfl, rfl⟩ := hv
    refine r_bipush (v := -15) dL_law_777 (by decide) ?_
    refine r_icmp_ne (tgt := 813) dL_law_779 (by decide) (fun c779 => absurd rfl c779) (fun c779 => ?_)
    refine r_aload_n dL_law_782 rfl ?_
    refine r_callS (n := 1) (As := [.ref (ad 0 0)]) (rest := []) dL_law_783 (K_asks I9.1.1 I9.2.2.2.2.1) ⟨q499, q500, q423, q501⟩ ⟨rfl, by decide, by decide, by decide +kernel⟩ rfl rfl rfl rfl ⟨by decide, by decide⟩ (Nat.le_of_ble_eq_true rfl) ⟨Nat.le_of_ble_eq_true rfl, Nat.le_of_ble_eq_true rfl⟩ (fun v9 x9 m9 hv => ?_)
    obtain ⟨rfl, rfl, X, N, C9, ⟨oN, hN⟩, rfl⟩ := hv
    rw [asks_same sm9 oS]
    have I7 := inv_aM (X := X) (N := N) (C := C9) I9 oN
    have s7 : same S (aM M X N C9 3) := by rw [aM_n (by omega)]; exact sm
    generalize aM M X N C9 = M7 at I7 s7 ⊢
    refine r_lload_n dL_law_786 rfl ?_
    refine r_lcmp dL_law_787 ?_
    refine r_if_ne (tgt := 813) dL_law_788 (by decide) (fun c788 => absurd lg_eq c788) (fun c788 => ?_)
    refine r_aload_n dL_law_791 rfl ?_
    refine r_callV (n := 0) (As := []) (rest := []) dL_law_792 (r_ok I7 s7) (g_V q109 q110 q111 q2 q112) ⟨rfl, by decide, by decide, by decide +kernel⟩ rfl rfl rfl rfl ⟨by decide, by decide⟩ (Nat.le_of_ble_eq_true rfl) ⟨Nat.le_of_ble_eq_true rfl, Nat.le_of_ble_eq_true rfl⟩ ob_tf (fun v9 x9 m9 hv => ?_)
    obtain ⟨rfl, rfl, F8, P8, rfl, I8, sm8⟩ := hv
    refine r_iload dL_law_795 rfl ?_
    refine r_icmp_ne (tgt := 813) dL_law_797 (by decide) (fun c797 => absurd rfl c797) (fun c797 => ?_)
    refine r_aload_n dL_law_800 rfl ?_
    refine r_callS (n := 1) (As := [.ref (ad 0 0)]) (rest := []) dL_law_801 (K_asks I8.1.1 I8.2.2.2.2.1) ⟨q499, q500, q423, q501⟩ ⟨rfl, by decide, by decide, by decide +kernel⟩ rfl rfl rfl rfl ⟨by decide, by decide⟩ (Nat.le_of_ble_eq_true rfl) ⟨Nat.le_of_ble_eq_true rfl, Nat.le_of_ble_eq_true rfl⟩ (fun v9 x9 m9 hv => ?_)
    obtain ⟨rfl, rfl, X, N, C9, ⟨oN, hN⟩, rfl⟩ := hv
    rw [asks_same sm8 oS]
    refine r_lload_n dL_law_804 rfl ?_
    refine r_lcmp dL_law_805 ?_
    refine r_if_ne (tgt := 813) dL_law_806 (by decide) (fun c806 => absurd lg_eq c806) (fun c806 => ?_)
    refine r_iconst (v := 1) dL_law_809 (by decide) ?_
    refine r_goto (tgt := 814) dL_law_810 (by decide) ?_
    exact r_zret rfl rfl dL_law_814 (Nat.le_of_ble_eq_true rfl) (Nat.le_of_ble_eq_true rfl) rfl
  have T707 : ∀ (qa : Nat) (f : Nat → Int64) (d c : Nat), d ≤ 10 → c = min 8 d → ∀ (n2 kk : Nat) (M : tM) (F P : tP) (k u w : Nat) (H : Nat → tP), kk + n2 = c + 1 → 1 ≤ kk → hist M F P k u w 1 (c + 1 - kk) H → c + 1 - kk ≤ u → u + kk ≤ 9 → (∀ j, j < c + 1 - kk → f_asks (H j) = f (d - kk - j)) → same S (M 3) → Rj cL_law RL 11 (some .boolean) room_1 600000 7302250 cA ad (fun v _ _ => v = some (.int 1)) [(qa, .inl (cA 6, 11, .inr (.inl f)))] 1000 15000 707 [some (.ref (ad 18 3)), some (.ref e), some (.ref (ad 0 0)), some (.long (f_asks S)), none, some (.int (S 0 7)), some (.ref qa), some (.int (nI d)), some (.int (nI c)), some (.int (nI kk)), none] [] (mm M F P) := by
    intro qa f d c hd hc n2
    induction n2 with
    | zero =>
      intro kk M F P k u w H hk h1 hh hu hu2 hf sm
      obtain rfl : kk = c + 1 := by omega
      refine r_iload dL_law_707 rfl ?_
      refine r_iload dL_law_709 rfl ?_
      refine r_icmp_gt (tgt := 764) dL_law_711 (by decide) (fun c711 => ?_) (fun c711 => absurd (nI_lt (a := c) (b := c + 1) (by omega) (by omega)) c711)
      exact T764 qa f d c _ M F P k u w hh.1 sm
    | succ n2 ih =>
      intro kk M F P k u w H hk h1 hh hu hu2 hf sm
      refine r_iload dL_law_707 rfl ?_
      refine r_iload dL_law_709 rfl ?_
      refine r_icmp_gt (tgt := 764) dL_law_711 (by decide) (fun c711 => absurd c711 (nI_nlt (by omega) (by omega))) (fun c711 => ?_)
      refine r_aload_n dL_law_714 rfl ?_
      refine r_callV (n := 0) (As := []) (rest := []) dL_law_715 (K_undo (inv_okm hh.1) (fun k hk => ⟨(hh.1.2.1 k hk).1.1, (hh.1.2.1 k hk).1.2.1⟩)) (g_V q70 q71 q72 q2 q73) ⟨rfl, by decide, by decide, by decide +kernel⟩ rfl rfl rfl rfl ⟨by decide, by decide⟩ (Nat.le_of_ble_eq_true rfl) ⟨Nat.le_of_ble_eq_true rfl, Nat.le_of_ble_eq_true rfl⟩ ob_tf (fun v9 x9 m9 hv => ?_)
      obtain ⟨rfl, rfl, rfl⟩ := hv
      obtain ⟨e1, hh9, s9⟩ := hist_undo hh (by omega)
      rw [e1]
      generalize t_undo M F P = t9 at hh9 s9 ⊢
      obtain ⟨t1, F9, P9⟩ := t9
      dsimp only at hh9 s9 ⊢
      have sm9 := s9 (by omega)
      refine r_istore dL_law_718 (by decide) rfl ?_
      refine r_iload dL_law_720 rfl ?_
      refine r_iload dL_law_722 rfl ?_
      refine r_iload dL_law_724 rfl ?_
      refine r_isub dL_law_726 ?_
      rw [nI_subl (a := c) (b := kk) (by omega)]
      refine r_icmp_lt (tgt := 756) dL_law_727 (by decide) (fun c727 => absurd c727 (nI_nlt (by omega) (by omega))) (fun c727 => ?_)
      refine r_iload dL_law_730 rfl ?_
      refine r_bipush (v := 8) dL_law_732 (by decide) ?_
      refine r_iload dL_law_734 rfl ?_
      refine r_isub dL_law_736 ?_
      rw [show (8 : Int32) - nI kk = nI (8 - kk) from nI_subl (a := 8) (by omega)]
      refine r_icmp_gt (tgt := 756) dL_law_737 (by decide) (fun c737 => absurd c737 (nI_nlt (by omega) (by omega))) (fun c737 => ?_)
      refine r_aload_n dL_law_740 rfl ?_
      refine r_callS (n := 1) (As := [.ref (ad 0 0)]) (rest := []) dL_law_741 (K_asks hh9.1.1.1 hh9.1.2.2.2.2.1) ⟨q499, q500, q423, q501⟩ ⟨rfl, by decide, by decide, by decide +kernel⟩ rfl rfl rfl rfl ⟨by decide, by decide⟩ (Nat.le_of_ble_eq_true rfl) ⟨Nat.le_of_ble_eq_true rfl, Nat.le_of_ble_eq_true rfl⟩ (fun v9 x9 m9 hv => ?_)
      obtain ⟨rfl, rfl, X, N, C9, ⟨oN, hN⟩, rfl⟩ := hv
      rw [show f_asks P9 = f (d - kk) from (asks_same2 sm9 hh9.1.1.1).trans ((hf 0 (by omega)).trans (by rw [Nat.sub_zero]))]
      have h7 := hist_aM (X := X) (N := N) (C := C9) hh9 oN
      have s7 : same S (aM M X N C9 3) := by rw [aM_n (by omega)]; exact sm
      generalize aM M X N C9 = M7 at h7 s7 ⊢
      refine r_aload dL_law_744 rfl ?_
      refine r_iload dL_law_746 rfl ?_
      refine r_iload dL_law_748 rfl ?_
      refine r_isub dL_law_750 ?_
      rw [nI_subl (a := d) (b := kk) (by omega)]
      refine j_g ?_
      refine g_lald (i := t_ids.length + 0) 6 (fun _ => rfl) (wx_at rfl) (vin (n := 11) (by omega) (by omega)) dL_law_751 ?_
      refine g_j ?_
      rw [nI_clamp (by omega)]
      refine r_lcmp dL_law_752 ?_
      refine r_if_eq (tgt := 758) dL_law_753 (by decide) (fun c753 => ?_) (fun c753 => absurd lg_eq c753)
      refine r_iinc dL_law_758 rfl ii_s (by decide) rfl ?_
      refine r_goto (tgt := 707) dL_law_761 (by decide) ?_
      refine r_fgt 10 ?_
      exact ih (kk + 1) M7 F9 P9 _ _ _ _ (by omega) (by omega) (by rw [show c + 1 - (kk + 1) = c + 1 - kk - 1 from by omega]; exact h7) (by omega) (by omega) (fun j hj => by rw [show d - (kk + 1) - j = d - kk - (j + 1) from by omega]; exact hf (j + 1) (by omega)) s7
  have T628 : ∀ (qa n2 i d : Nat) (f : Nat → Int64) (M : tM) (F P : tP) (k u w : Nat) (H : Nat → tP), i + n2 = 10 → d ≤ i → hist M F P k u w 1 (min 8 d) H → w ≤ 1000 + 108 * i → (∀ j, j < min 8 d → f_asks (H j) = f (d - 1 - j)) → min 8 d ≤ u → same S (M 3) → Rj cL_law RL 11 (some .boolean) room_1 600000 7302250 cA ad (fun v _ _ => v = some (.int 1)) [(qa, .inl (cA 6, 11, .inr (.inl f)))] (700 + 20 * i) (8100 + 500 * i) 628 [some (.ref (ad 18 3)), some (.ref e), some (.ref (ad 0 0)), some (.long (f_asks S)), none, some (.int (S 0 7)), some (.ref qa), some (.int (nI d)), some (.int (nI i)), none, none] [] (mm M F P) := by
    intro qa n2
    induction n2 with
    | zero =>
      intro i d f M F P k u w H hi hdi hh hw hf hu sm
      obtain rfl : i = 10 := by omega
      refine r_iload dL_law_628 rfl ?_
      refine r_bipush (v := 10) dL_law_630 (by decide) ?_
      refine r_icmp_ge (tgt := 695) dL_law_632 (by decide) (fun c632 => ?_) (fun c632 => absurd (Int32.le_refl _) c632)
      refine r_bipush (v := 8) dL_law_695 (by decide) ?_
      refine r_iload dL_law_697 rfl ?_
      refine j_g ?_
      refine g_mmin q4 (by decide) (by decide) ⟨Nat.le_of_ble_eq_true rfl, Nat.le_of_ble_eq_true rfl⟩ dL_law_699 ?_
      refine g_j ?_
      rw [min_v d (by omega)]
      refine r_istore dL_law_702 (by decide) rfl ?_
      refine r_iconst (v := 1) dL_law_704 (by decide) ?_
      refine r_istore dL_law_705 (by decide) rfl ?_
      refine j_g (g_widen (c2 := 1000) (s2 := 15000) (by decide) (by decide) (g_j ?_))
      exact T707 qa f d _ hdi rfl (min 8 d) 1 M F P k u w H (by omega) (by omega) (by rw [show min 8 d + 1 - 1 = min 8 d from by omega]; exact hh) (by omega) (by have := hh.1.2.2.2.2.2.2.2.1; omega) (fun j hj => hf j (by omega)) sm
    | succ n2 ih =>
      intro i d f M F P k u w H hi hdi hh hw hf hu sm
      refine r_iload dL_law_628 rfl ?_
      refine r_bipush (v := 10) dL_law_630 (by decide) ?_
      refine r_icmp_ge (tgt := 695) dL_law_632 (by decide) (fun c632 => absurd c632 (nI_ge (a := i) (b := 10) (by omega) (by omega))) (fun c632 => ?_)
      refine r_aload_n dL_law_635 rfl ?_
      refine r_callS (n := 1) (As := [.ref (ad 0 0)]) (rest := []) dL_law_636 (K_asks hh.1.1.1 hh.1.2.2.2.2.1) ⟨q499, q500, q423, q501⟩ ⟨rfl, by decide, by decide, by decide +kernel⟩ rfl rfl rfl rfl ⟨by decide, by decide⟩ (Nat.le_of_ble_eq_true rfl) (by rw [hr1, hr2]; constructor <;> omega) (fun v9 x9 m9 hv => ?_)
      obtain ⟨rfl, rfl, X, N, C9, ⟨oN, hN⟩, rfl⟩ := hv
      have h7 := hist_aM (X := X) (N := N) (C := C9) hh oN
      have s7 : same S (aM M X N C9 3) := by rw [aM_n (by omega)]; exact sm
      generalize aM M X N C9 = M7 at h7 s7 ⊢
      refine r_lstore dL_law_639 (by decide) rfl ?_
      refine r_aload_n dL_law_641 rfl ?_
      refine r_aload_n dL_law_642 rfl ?_
      refine r_bipush (v := 20) dL_law_643 (by decide) ?_
      refine r_iload dL_law_645 rfl ?_
      refine r_iadd dL_law_647 ?_
      rw [show (20 : Int32) + nI i = nI (20 + i) from nI_add_l 20 i]
      refine r_callS (n := 2) (As := [.ref (ad 18 3), .int (nI (20 + i))]) (rest := [.ref (ad 0 0)]) dL_law_648 (K_at (k := 20 + i) (by omega) hL) ⟨q489, q490, q423, q491⟩ ⟨rfl, by decide, by decide, by decide +kernel⟩ rfl rfl rfl rfl ⟨by decide, by decide⟩ (Nat.le_of_ble_eq_true rfl) (by rw [hr1, hr2]; constructor <;> omega) (fun v9 x9 m9 hv => ?_)
      obtain ⟨rfl, rfl, rfl⟩ := hv
      refine r_iload dL_law_651 rfl ?_
      refine r_sipush (v := 977) dL_law_653 (by decide) ?_
      refine r_imul dL_law_656 ?_
      refine r_ixor dL_law_657 ?_
      generalize sAt ad (20 + i) ^^^ nI i * 977 = x
      refine r_callS (n := 2) (As := [.ref (ad 0 0), .int x]) (rest := []) dL_law_658 (K_changes h7.1 (by omega)) ⟨q631, q632, q423, q633⟩ ⟨rfl, by decide, by decide, by decide +kernel⟩ rfl rfl rfl rfl ⟨by decide, by decide⟩ (Nat.le_of_ble_eq_true rfl) (by rw [hr1, hr2]; constructor <;> omega) (fun v9 x9 m9 hv => ?_)
      obtain ⟨r, M2, F2, P2, rfl, rfl, rfl, G⟩ := hv
      have s8 : same S (M2 3) := by rw [G.2.1]; exact s7
      refine r_if_eq (tgt := 677) dL_law_661 (by decide) (fun c661 => ?_) (fun c661 => ?_)
      · have r0 : r = false := bI_0 c661
        subst r0
        obtain ⟨h9, sm9⟩ := hist_f h7 G
        refine r_aload_n dL_law_677 rfl ?_
        refine r_callS (n := 1) (As := [.ref (ad 0 0)]) (rest := []) dL_law_678 (K_asks h9.1.1.1 h9.1.2.2.2.2.1) ⟨q499, q500, q423, q501⟩ ⟨rfl, by decide, by decide, by decide +kernel⟩ rfl rfl rfl rfl ⟨by decide, by decide⟩ (Nat.le_of_ble_eq_true rfl) (by rw [hr1, hr2]; constructor <;> omega) (fun v9 x9 m9 hv => ?_)
        obtain ⟨rfl, rfl, X, N, C9, ⟨oN, hN⟩, rfl⟩ := hv
        rw [show f_asks P2 = f_asks P from asks_same sm9 h7.1.1.1]
        have h6 := hist_aM (X := X) (N := N) (C := C9) h9 oN
        have s6 : same S (aM M2 X N C9 3) := by rw [aM_n (by omega)]; exact s8
        generalize aM M2 X N C9 = M6 at h6 s6 ⊢
        refine r_lload dL_law_681 rfl ?_
        refine r_lcmp dL_law_683 ?_
        refine r_if_eq (tgt := 689) dL_law_684 (by decide) (fun c684 => ?_) (fun c684 => absurd lg_eq c684)
        refine r_iinc dL_law_689 rfl ii_s (by decide) rfl ?_
        refine r_goto (tgt := 628) dL_law_692 (by decide) ?_
        refine r_fgt 9 ?_
        refine j_g (g_widen (c2 := 700 + 20 * (i + 1)) (s2 := 8100 + 500 * (i + 1)) (by omega) (by omega) (g_j ?_))
        exact ih (i + 1) d f M6 F2 P2 _ _ _ H (by omega) (by omega) h6 (by omega) hf hu s6
      · have r0 : r = true := bI_1 c661
        subst r0
        have h9 := hist_t h7 G
        refine r_aload dL_law_664 rfl ?_
        refine r_iload dL_law_666 rfl ?_
        refine r_iinc dL_law_668 rfl ii_s (by decide) rfl ?_
        refine r_lload dL_law_671 rfl ?_
        refine j_g ?_
        refine g_last (i := t_ids.length + 0) 6 (fun _ => rfl) (wx_at rfl) (vin (n := 11) (by omega) (by omega)) wx_set dL_law_673 ?_
        refine g_j ?_
        refine r_goto (tgt := 689) dL_law_674 (by decide) ?_
        refine r_iinc dL_law_689 rfl ii_s (by decide) rfl ?_
        refine r_goto (tgt := 628) dL_law_692 (by decide) ?_
        refine r_fgt 9 ?_
        refine j_g (g_widen (c2 := 700 + 20 * (i + 1)) (s2 := 8100 + 500 * (i + 1)) (by omega) (by omega) (g_j ?_))
        rw [nI_clamp (by omega)]
        refine ih (i + 1) (d + 1) (vp_updL f d (f_asks P)) M2 F2 P2 _ _ _ _ (by omega) (by omega) (by rw [show min 8 (d + 1) = min 8 (min 8 d + 1) from by omega]; exact h9) (by omega) (fun j hj => ?_) (by omega) s8
        by_cases j0 : j = 0
        · subst j0
          try dsimp only
          rw [if_pos rfl, show d + 1 - 1 - 0 = d from by omega]
          exact pk_uLs.symm
        · try dsimp only
          rw [if_neg j0, show d + 1 - 1 - j = d - 1 - (j - 1) from by omega, pk_uLn (by omega)]
          exact hf _ (by omega)
  exact T628
set_option maxRecDepth 100000 in
set_option maxHeartbeats 4000000 in
theorem L_later {cA : Nat → ClassId} {ad : tA} {e : Nat} (hL : ad 18 2 ≤ 260) : Rj cL_law RL 11 (some .boolean) room_1 600000 7302250 cA ad (fun v _ _ => v = some (.int 1)) [] 600 8000 556 [some (.ref (ad 18 3)), some (.ref e), some (.ref (ad 0 0)), none, none, none, none, none, none, none, none] [] M_0 := by
  rw [mm_00]
  refine r_aload_n dL_law_556 rfl ?_
  refine r_aload_n dL_law_557 rfl ?_
  refine r_callS (n := 2) (As := [.ref (ad 0 0), .ref (ad 18 3)]) (rest := []) dL_law_558 (K_makes inv_0 rfl rfl hL) ⟨q486, q487, q423, q488⟩ ⟨rfl, by decide, by decide, by decide +kernel⟩ rfl rfl rfl rfl ⟨by decide, by decide⟩ (Nat.le_of_ble_eq_true rfl) ⟨Nat.le_of_ble_eq_true rfl, Nat.le_of_ble_eq_true rfl⟩ (fun v9 x9 m9 hv => ?_)
  obtain ⟨M2, F2, P2, rfl, rfl, rfl, c, k2, u2, hc4, hc12, hP1, I2⟩ := hv
  have hcn : cn P2 = c := cn_of hP1 hc12
  refine r_if_ne (tgt := 566) dL_law_561 (by decide) (fun c561 => ?_) (fun c561 => absurd c561 (by decide))
  refine r_aload_n dL_law_566 rfl ?_
  refine r_callS (n := 1) (As := [.ref (ad 0 0)]) (rest := []) dL_law_567 (K_asks I2.1.1 I2.2.2.2.2.1) ⟨q499, q500, q423, q501⟩ ⟨rfl, by decide, by decide, by decide +kernel⟩ rfl rfl rfl rfl ⟨by decide, by decide⟩ (Nat.le_of_ble_eq_true rfl) ⟨Nat.le_of_ble_eq_true rfl, Nat.le_of_ble_eq_true rfl⟩ (fun v9 x9 m9 hv => ?_)
  obtain ⟨rfl, rfl, X, N, C9, ⟨oN, hN⟩, rfl⟩ := hv
  have I3 := inv_aM (X := X) (N := N) (C := C9) I2 oN
  generalize aM M2 X N C9 = MI3 at I3 ⊢
  refine r_lstore_n dL_law_570 (by decide) rfl ?_
  refine r_aload_n dL_law_571 rfl ?_
  refine r_callS (n := 1) (As := [.ref (ad 0 0)]) (rest := []) dL_law_572 (K_asks I3.1.1 I3.2.2.2.2.1) ⟨q499, q500, q423, q501⟩ ⟨rfl, by decide, by decide, by decide +kernel⟩ rfl rfl rfl rfl ⟨by decide, by decide⟩ (Nat.le_of_ble_eq_true rfl) ⟨Nat.le_of_ble_eq_true rfl, Nat.le_of_ble_eq_true rfl⟩ (fun v9 x9 m9 hv => ?_)
  obtain ⟨rfl, rfl, X, N, C9, ⟨oN, hN⟩, rfl⟩ := hv
  have I4 := inv_aM (X := X) (N := N) (C := C9) I3 oN
  generalize aM MI3 X N C9 = MI4 at I4 ⊢
  refine r_lload_n dL_law_575 rfl ?_
  refine r_lcmp dL_law_576 ?_
  refine r_if_ne (tgt := 587) dL_law_577 (by decide) (fun c577 => absurd lg_eq c577) (fun c577 => ?_)
  refine r_aload_n dL_law_580 rfl ?_
  refine r_callS (n := 1) (As := [.ref (ad 0 0)]) (rest := []) dL_law_581 (K_refused I4 (by omega) (by omega)) ⟨q616, q617, q423, q618⟩ ⟨rfl, by decide, by decide, by decide +kernel⟩ rfl rfl rfl rfl ⟨by decide, by decide⟩ (Nat.le_of_ble_eq_true rfl) ⟨Nat.le_of_ble_eq_true rfl, Nat.le_of_ble_eq_true rfl⟩ (fun v9 x9 m9 hv => ?_)
  obtain ⟨M5, F5, S, rfl, rfl, rfl, I5, sm5⟩ := hv
  have oS : okP S := I5.1.1
  rw [← show f_asks S = f_asks P2 from asks_same sm5 I2.1.1]
  refine r_if_ne (tgt := 589) dL_law_584 (by decide) (fun c584 => ?_) (fun c584 => absurd c584 (by decide))
  refine r_aload_n dL_law_589 rfl ?_
  refine r_callV (n := 0) (As := []) (rest := []) dL_law_590 (K_save I5.1.1.1 I5.1.1.2.1) (g_V q115 q116 q117 q2 q118) ⟨rfl, by decide, by decide, by decide +kernel⟩ rfl rfl rfl rfl ⟨by decide, by decide⟩ (Nat.le_of_ble_eq_true rfl) ⟨Nat.le_of_ble_eq_true rfl, Nat.le_of_ble_eq_true rfl⟩ ob_tf (fun v9 x9 m9 hv => ?_)
  obtain ⟨rfl, rfl, rfl⟩ := hv
  have I6 := save_i I5
  have s6 : same S (m_pl M5 3 (f_copy (M5 3) S) 3) := by rw [m_pl_s]; exact sm_copy
  generalize m_pl M5 3 (f_copy (M5 3) S) = M6 at I6 s6 ⊢
  generalize pu F5 0 3 1 = F6 at I6 ⊢
  refine r_istore dL_law_593 (by decide) rfl ?_
  refine r_iload dL_law_595 rfl ?_
  refine r_aload_n dL_law_597 rfl ?_
  refine r_iconst (v := 0) dL_law_598 (by decide) ?_
  refine r_callV (n := 1) (As := [.int 0]) (rest := [.int (S 0 7)]) dL_law_599 (K_acc (x := 0) I6.1.1.1) (g_V q149 q150 q151 q2 q152) ⟨rfl, by decide, by decide, by decide +kernel⟩ rfl rfl rfl rfl ⟨by decide, by decide⟩ (Nat.le_of_ble_eq_true rfl) ⟨Nat.le_of_ble_eq_true rfl, Nat.le_of_ble_eq_true rfl⟩ ob_tf (fun v9 x9 m9 hv => ?_)
  obtain ⟨rfl, rfl, rfl⟩ := hv
  rw [show f_acc (M6 13) F6 S 0 = S 0 7 from rfl]
  refine r_icmp_ne (tgt := 614) dL_law_602 (by decide) (fun c602 => absurd rfl c602) (fun c602 => ?_)
  refine r_aload_n dL_law_605 rfl ?_
  refine r_callS (n := 1) (As := [.ref (ad 0 0)]) (rest := []) dL_law_606 (K_asks I6.1.1 I6.2.2.2.2.1) ⟨q499, q500, q423, q501⟩ ⟨rfl, by decide, by decide, by decide +kernel⟩ rfl rfl rfl rfl ⟨by decide, by decide⟩ (Nat.le_of_ble_eq_true rfl) ⟨Nat.le_of_ble_eq_true rfl, Nat.le_of_ble_eq_true rfl⟩ (fun v9 x9 m9 hv => ?_)
  obtain ⟨rfl, rfl, X, N, C9, ⟨oN, hN⟩, rfl⟩ := hv
  have I7 := inv_aM (X := X) (N := N) (C := C9) I6 oN
  have s7 : same S (aM M6 X N C9 3) := by rw [aM_n (by omega)]; exact s6
  generalize aM M6 X N C9 = M7 at I7 s7 ⊢
  refine r_lload_n dL_law_609 rfl ?_
  refine r_lcmp dL_law_610 ?_
  refine r_if_eq (tgt := 616) dL_law_611 (by decide) (fun c611 => ?_) (fun c611 => absurd lg_eq c611)
  refine r_bipush (v := 11) dL_law_616 (by decide) ?_
  refine j_g ?_
  refine g_newa (N := 11) (a0 := (11, .inr (.inl (fun _ => 0)))) 6 (fun _ => rfl) q3 rfl (fun _ => rfl) (by decide) (by decide) (by decide) ⟨Nat.le_of_ble_eq_true rfl, Nat.le_of_ble_eq_true rfl⟩ dL_law_618 (fun qa => ?_)
  refine g_eq wsT_app.symm ?_
  refine g_j ?_
  refine r_astore dL_law_620 (by decide) rfl ?_
  refine r_iconst (v := 0) dL_law_622 (by decide) ?_
  refine r_istore dL_law_623 (by decide) rfl ?_
  refine r_iconst (v := 0) dL_law_625 (by decide) ?_
  refine r_istore dL_law_626 (by decide) rfl ?_
  refine j_g (g_widen (c2 := 700 + 20 * 0) (s2 := 8100 + 500 * 0) (by decide) (by decide) (g_j ?_))
  exact L_tail hL oS qa 10 0 0 (fun _ => 0) M7 F6 S _ _ _ (fun _ => S) rfl (by omega) ⟨I7, by omega, fun j hj => absurd hj (by omega)⟩ (by omega) (fun j hj => absurd hj (by omega)) (by omega) s7

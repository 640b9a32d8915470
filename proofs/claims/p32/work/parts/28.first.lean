/-! PART 28: the plan of the law's first object -/
def eP : Nat → tP
  | 0 => P_0
  | t + 1 => if t = 0 then pu (eP t) 0 8 3 else if t < 13 then f_add (eP t) (nI ((t - 1) % 9 + 1)) 0 0 0 else if t < 24 then pu (eP t) (4 + (t - 12)) 4 (eP t (4 + (t - 12)) 4 ||| 1 <<< (nI (t - 13) &&& 31)) else if t < 28 then f_addMs (eP t) (t - 24) (nI (10 * (t - 24) + 1)) else lp_days 30 (eP t)
theorem e_step : ∀ t, t < 12 → eP (t + 1) 0 1 = nI t := by decide +kernel
theorem e_need : ∀ k, k < 11 → f_hasStep (eP (13 + k)) (nI (k + 1)) = true ∧ f_hasStep (eP (13 + k)) (nI k) = true ∧ eP (13 + k) (4 + (k + 1)) 6 = 0 ∧ eP (13 + k) (4 + (k + 1)) 4 &&& 1 <<< (nI k &&& 31) = 0 ∧ f_noa (eP (13 + k)) k (nI (k + 1)) = false ∧ f_bc (eP (13 + k) (4 + (k + 1)) 4 ||| 1 <<< (nI k &&& 31)) = 1 := by decide +kernel
theorem e_mile : ∀ k, k < 4 → f_hasStep (eP (24 + k)) (nI k) = true ∧ eP (24 + k) (4 + k) 5 = 1000 ∧ eP (24 + k) 0 3 = nI k := by decide +kernel
theorem e_13 : eP 13 0 1 = 12 := by decide +kernel
theorem e_28 : f_hasStep (eP 28) 5 = true ∧ eP 28 (4 + 5) 5 = 1000 ∧ eP 28 0 3 = 4 ∧ f_hasStep (eP 28) 0 = true ∧ f_hasStep (eP 28) 11 = true ∧ eP 28 (4 + 0) 6 = 0 ∧ eP 28 (4 + 0) 4 &&& 1 <<< ((11 : Int32) &&& 31) = 0 ∧ f_noa (eP 28) 11 0 = true := by decide +kernel
theorem e_u : eP 28 0 7 = 0 ∧ eP 27 0 3 = 3 ∧ eP 24 0 3 = 0 ∧ f_stepOf (eP 23) 11 9 = 0 ∧ f_stepOf (eP 21) 9 9 = 0 ∧ f_stepOf (eP 21) 8 9 = 128 := by decide +kernel
theorem e_chain : (t_chain (eP 28) zP 11).1 = 51 := by decide +kernel
theorem e_chain2 : (t_chain2 (eP 28) zP 11).1 = 51 := by decide +kernel
theorem e_days : (t_days zP (eP 28) 30).1 = 7 ∧ f_countOf (eP 29) 3 = 7 := by decide +kernel
theorem e_done0 : (t_doneIn (eP 28) zP 0).1 = 2 := by decide +kernel
theorem e_done : (t_doneIn (eP 28) zP 11).1 = 52 := by decide +kernel

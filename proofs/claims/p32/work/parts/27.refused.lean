/-! PART 27: the law's refused -/
def refd (k u w : Nat) (h : Int32) (M : tM) (F P : tP) : Prop := inv M F P k u w h ∧ ll (M 14) ≤ 12
theorem ref_q {y : MethodName} {cc : ByteArray} {nL : Nat} {ret : Option FieldType} {rm : Room} {cA : Nat → ClassId} {ad : tA} {vs : List Value} {ex : va_W} {M : tM} {F P : tP} {k u w : Nat} {h : Int32} (J : refd k u w h M F P) {q : TX} {F' : tP} {a : Int32} (e : q = (a, F', P)) (hy : a < 0) (hF : kF F F') (C : Cj y cc nL ret rm 0 0 cA ad vs ex (mm M F P) (Qe (some (.int q.1)) ex (mm (c_mark M F P) (f_keep q.2.1 q.1) q.2.2))) : Cj y cc nL ret rm 0 0 cA ad vs ex (mm M F P) (fun v x m => ∃ M' : tM, v = some (.int a) ∧ x = ex ∧ m = mm M' F' P ∧ refd k u w h M' F' P) := by
  subst e
  refine cj_end (fun v x m hv => ?_) C
  obtain ⟨rfl, rfl, rfl⟩ := hv
  obtain ⟨I, hl⟩ := J
  have e := inv_km I
  obtain ⟨oP, -, -, -, -, a8, a9, a10, a11, a12⟩ := id I
  refine ⟨c_mark M F P, rfl, rfl, ?_, inv_mark I (Nat.le_refl _) oP a8 (hF.2.1.trans a9) a10 (hF.2.2.trans a11) (hF.1.trans a12), ?_⟩
  · dsimp only
    rw [keep_no hy]
  · rw [c_mark_n (by omega)]; exact hl
theorem refd_r {k u w : Nat} {h : Int32} {M : tM} {F P F' : tP} (J : refd k u w h M F P) (hF : kF F F') : refd k u w h M F' P := by
  obtain ⟨⟨a1, a3, a4, a6, a7, a8, a9, a10, a11, a12⟩, hl⟩ := J
  exact ⟨⟨a1, a3, a4, a6, a7, a8, hF.2.1.trans a9, a10, hF.2.2.trans a11, hF.1.trans a12⟩, hl⟩
theorem inv_aM {k u w : Nat} {h : Int32} {M : tM} {F P X N C : tP} (I : inv M F P k u w h) (o : okl N) : inv (aM M X N C) F P k u w h := by
  obtain ⟨a1, a3, a4, a6, a7, a8⟩ := I
  exact ⟨a1, fun j hj => by rw [aM_n (by omega)]; exact a3 j hj, by rw [aM_n (by omega)]; exact a4, by rw [aM_n (by omega)]; exact a6, by rw [aM_14]; exact o, a8⟩
theorem hs_f {P : tP} {c : Nat} (h : P 0 1 = nI c) : f_hasStep P (nI c) = false := by
  simp [f_hasStep, h]
theorem hs_m {P : tP} : f_hasStep P (-1) = false := by
  unfold f_hasStep
  rw [show decide (¬ (-1 : Int32) < 0) = false from by decide]
  rfl
section
variable {cA : Nat → ClassId} {ad : tA} {ex : va_W} {M : tM} {F P : tP} {s : Int32}
theorem no_doneIn (hs : f_hasStep P s = false) (o : okP P) : Cj yX6_doneIn cX6_doneIn 3 (some .int) (rmd 5) 0 0 cA ad [.ref (ad 0 0), .int s] ex (mm M F P) (Qe (some (.int (-11))) ex (mm M F P)) := by
  have h := K_doneIn (cA := cA) (ad := ad) (ex := ex) (M := M) (F := F) (P := P) (s := s) o.1 o.2.1 o.2.2.1 o.2.2.2.1
  rw [show t_doneIn P (M 2) s = (-11, M 2) from by rw [t_doneIn, if_pos hs]] at h
  dsimp only at h
  rw [m_pl_self] at h
  exact h
theorem no_chain (hs : f_hasStep P s = false) (o : okP P) : Cj yX6_chain cX6_chain 2 (some .int) (rmd 16) 0 0 cA ad [.ref (ad 0 0), .int s] ex (mm M F P) (Qe (some (.int (-11))) ex (mm M F P)) := by
  have h := K_chain (cA := cA) (ad := ad) (ex := ex) (M := M) (F := F) (P := P) (s := s) o.1
  rw [show t_chain P (M 15) s = (-11, M 15) from by rw [t_chain, if_pos hs]] at h
  dsimp only at h
  rw [m_pl_self] at h
  exact h
theorem no_chain2 (hs : f_hasStep P s = false) (o : okP P) : Cj yX6_chainAgain cX6_chainAgain 2 (some .int) (rmd 16) 0 0 cA ad [.ref (ad 0 0), .int s] ex (mm M F P) (Qe (some (.int (-11))) ex (mm M F P)) := by
  have h := K_chain2 (cA := cA) (ad := ad) (ex := ex) (M := M) (F := F) (P := P) (s := s) o.1
  rw [show t_chain2 P (M 15) s = (-11, M 15) from by rw [t_chain2, if_pos hs]] at h
  dsimp only at h
  rw [m_pl_self] at h
  exact h
theorem no_tell (hs : f_hasStep P s = false) (o : okP P) : Cj yX6_tell cX6_tell 2 (some .int) (rmd 3) 0 0 cA ad [.ref (ad 0 0), .int s] ex (mm M F P) (Qe (some (.int (-11))) ex (mm M F P)) := by
  have h := K_tell6 (cA := cA) (ad := ad) (ex := ex) (M := M) (F := F) (P := P) (s := s) o.1
  rw [show t_tell P (M 14) s = (-11, M 14) from by rw [t_tell, if_pos hs]] at h
  dsimp only at h
  rw [m_pl_self] at h
  exact h
theorem no_app (hs : s < 32 ∨ 126 < s) (o : okTx (M 13)) : Cj yX6_append cX6_append 2 (some .int) (rmd 1) 0 0 cA ad [.ref (ad 0 0), .int s] ex (mm M F P) (Qe (some (.int (-12))) ex (mm M F P)) := by
  have h := K_app (cA := cA) (ad := ad) (ex := ex) (M := M) (F := F) (P := P) (x := s) o.1 o.2.1
  rw [show f_app (M 13) s = (-12, M 13) from by rw [f_app, if_pos hs]] at h
  dsimp only at h
  rw [m_pl_self] at h
  exact h
theorem lsao_c {j : Nat} : ∀ (n i q : Nat), ∃ r, r + (if i ≤ j ∧ j < i + n then 1 else 0) ≤ q + n ∧ lp_sao P j n i (nI q) = nI r := by
  intro n
  induction n with
  | zero => intro i q; exact ⟨q, by rw [if_neg (by omega)]; omega, rfl⟩
  | succ n ih =>
    intro i q
    rw [lp_sao]
    by_cases e : nI i = nI j
    · rw [if_pos e]
      obtain ⟨r, h1, h2⟩ := ih (i + 1) q
      refine ⟨r, ?_, h2⟩
      have h3 : (if i ≤ j ∧ j < i + (n + 1) then 1 else 0) ≤ 1 := by split <;> omega
      omega
    · rw [if_neg e]
      have ne : i ≠ j := fun z => e (by rw [z])
      have h3 : (if i ≤ j ∧ j < i + (n + 1) then 1 else 0) = (if i + 1 ≤ j ∧ j < i + 1 + n then 1 else 0) := by
        by_cases z : i ≤ j ∧ j < i + (n + 1)
        · rw [if_pos z, if_pos (by omega)]
        · rw [if_neg z, if_neg (by omega)]
      rw [h3]
      by_cases a : f_ahead P i j = true
      · rw [if_pos a, ii_s]
        obtain ⟨r, h1, h2⟩ := ih (i + 1) (q + 1)
        exact ⟨r, by omega, h2⟩
      · rw [if_neg a]
        obtain ⟨r, h1, h2⟩ := ih (i + 1) q
        exact ⟨r, by omega, h2⟩
theorem sao_lt {j : Nat} (hj : j < cn P) : ∃ r, r < cn P ∧ f_sao P j = nI r := by
  obtain ⟨r, h1, h2⟩ := lsao_c (P := P) (j := j) (cn P) 0 0
  rw [if_pos (by omega)] at h1
  exact ⟨r, by omega, h2⟩
theorem lrk_no {p : Int32} (hp : ∀ r, r < cn P → ¬ nI r = p) : ∀ (n i : Nat), i + n ≤ cn P → lp_rk P p n i = -11 := by
  intro n
  induction n with
  | zero => intro i _; rfl
  | succ n ih =>
    intro i hi
    obtain ⟨r, h1, h2⟩ := sao_lt (P := P) (j := i) (by omega)
    rw [lp_rk, h2, if_neg (hp r h1)]
    exact ih _ (by omega)
theorem rank_c (o : okc P) : f_rank P (nI (cn P)) = -11 := lrk_no (fun r hr z => by
  have := congrArg Int32.toInt z
  have := o.2
  rw [nI_toInt (by omega), nI_toInt (by omega)] at *
  omega) _ _ (by omega)
theorem rank_m (o : okc P) : f_rank P (-1) = -11 := lrk_no (fun r hr z => by
  have := congrArg Int32.toInt z
  have := o.2
  rw [nI_toInt (by omega), show (-1 : Int32).toInt = -1 from by decide] at *
  omega) _ _ (by omega)
end
theorem nI_inj {a b : Nat} (ha : a < 2 ^ 31) (hb : b < 2 ^ 31) (h : nI a = nI b) : a = b := by
  have := congrArg Int32.toInt h
  rw [nI_toInt ha, nI_toInt hb] at this
  omega
theorem litc_ok : ∀ i, i < 15 → ∀ k, k < lenS.getD i 0 → ∃ q, 32 ≤ q ∧ q ≤ 126 ∧ litc i k = nI q := by
  have h : ∀ i, i < 15 → ∀ k, k < lenS.getD i 0 → 32 ≤ (litc i k).toNatClampNeg ∧ (litc i k).toNatClampNeg ≤ 126 ∧ litc i k = nI (litc i k).toNatClampNeg := by decide +kernel
  exact fun i hi k hk => ⟨_, h i hi k hk⟩
theorem lg_eq {x : Int64} : lg_cmp x x = 0 := by simp [lg_cmp]
theorem nI_le2 {a : Nat} (h : a ≤ 16) : nI a ≤ 16 := by
  rcases (by omega : a = 16 ∨ a < 16) with e | e
  · rw [e]; decide
  · exact Int32.le_of_lt (nI_lt (a := a) (b := 16) e (by omega))
theorem nI_le0 {x : Int32} {a : Nat} (e : x = nI a) (ha : a < 2 ^ 31) (h : x ≤ 0) : x = 0 := by
  subst e
  have := (nI_leI (a := a) (b := 0) ha (by omega)).mp h
  rw [show a = 0 from by omega]; rfl
theorem dL_refused_0 : decode cL_refused 0 = .ok (.aload_n 0, 1) := by decide +kernel
theorem dL_refused_1 : decode cL_refused 1 = .ok (.invokestatic 155, 3) := by decide +kernel
theorem dL_refused_4 : decode cL_refused 4 = .ok (.lstore_n 1, 1) := by decide +kernel
theorem dL_refused_5 : decode cL_refused 5 = .ok (.aload_n 0, 1) := by decide +kernel
theorem dL_refused_6 : decode cL_refused 6 = .ok (.iconst 1, 1) := by decide +kernel
theorem dL_refused_7 : decode cL_refused 7 = .ok (.invokevirtual 87, 3) := by decide +kernel
theorem dL_refused_10 : decode cL_refused 10 = .ok (.istore_n 3, 1) := by decide +kernel
theorem dL_refused_11 : decode cL_refused 11 = .ok (.aload_n 0, 1) := by decide +kernel
theorem dL_refused_12 : decode cL_refused 12 = .ok (.bipush 11, 2) := by decide +kernel
theorem dL_refused_14 : decode cL_refused 14 = .ok (.invokevirtual 87, 3) := by decide +kernel
theorem dL_refused_17 : decode cL_refused 17 = .ok (.istore 4, 2) := by decide +kernel
theorem dL_refused_19 : decode cL_refused 19 = .ok (.aload_n 0, 1) := by decide +kernel
theorem dL_refused_20 : decode cL_refused 20 = .ok (.iconst 0, 1) := by decide +kernel
theorem dL_refused_21 : decode cL_refused 21 = .ok (.iconst 0, 1) := by decide +kernel
theorem dL_refused_22 : decode cL_refused 22 = .ok (.iconst 0, 1) := by decide +kernel
theorem dL_refused_23 : decode cL_refused 23 = .ok (.iconst 1, 1) := by decide +kernel
theorem dL_refused_24 : decode cL_refused 24 = .ok (.invokevirtual 43, 3) := by decide +kernel
theorem dL_refused_27 : decode cL_refused 27 = .ok (.bipush (-12), 2) := by decide +kernel
theorem dL_refused_29 : decode cL_refused 29 = .ok (.if_icmp .ne 266, 3) := by decide +kernel
theorem dL_refused_32 : decode cL_refused 32 = .ok (.aload_n 0, 1) := by decide +kernel
theorem dL_refused_33 : decode cL_refused 33 = .ok (.bipush 10, 2) := by decide +kernel
theorem dL_refused_35 : decode cL_refused 35 = .ok (.iconst 0, 1) := by decide +kernel
theorem dL_refused_36 : decode cL_refused 36 = .ok (.iconst 0, 1) := by decide +kernel
theorem dL_refused_37 : decode cL_refused 37 = .ok (.iconst 1, 1) := by decide +kernel
theorem dL_refused_38 : decode cL_refused 38 = .ok (.invokevirtual 43, 3) := by decide +kernel
theorem dL_refused_41 : decode cL_refused 41 = .ok (.bipush (-12), 2) := by decide +kernel
theorem dL_refused_43 : decode cL_refused 43 = .ok (.if_icmp .ne 252, 3) := by decide +kernel
theorem dL_refused_46 : decode cL_refused 46 = .ok (.aload_n 0, 1) := by decide +kernel
theorem dL_refused_47 : decode cL_refused 47 = .ok (.iconst 1, 1) := by decide +kernel
theorem dL_refused_48 : decode cL_refused 48 = .ok (.iconst (-1), 1) := by decide +kernel
theorem dL_refused_49 : decode cL_refused 49 = .ok (.iconst 0, 1) := by decide +kernel
theorem dL_refused_50 : decode cL_refused 50 = .ok (.iconst 1, 1) := by decide +kernel
theorem dL_refused_51 : decode cL_refused 51 = .ok (.invokevirtual 43, 3) := by decide +kernel
theorem dL_refused_54 : decode cL_refused 54 = .ok (.bipush (-12), 2) := by decide +kernel
theorem dL_refused_56 : decode cL_refused 56 = .ok (.if_icmp .ne 239, 3) := by decide +kernel
theorem dL_refused_59 : decode cL_refused 59 = .ok (.aload_n 0, 1) := by decide +kernel
theorem dL_refused_60 : decode cL_refused 60 = .ok (.iconst 1, 1) := by decide +kernel
theorem dL_refused_61 : decode cL_refused 61 = .ok (.iconst 4, 1) := by decide +kernel
theorem dL_refused_62 : decode cL_refused 62 = .ok (.iconst 0, 1) := by decide +kernel
theorem dL_refused_63 : decode cL_refused 63 = .ok (.iconst 1, 1) := by decide +kernel
theorem dL_refused_64 : decode cL_refused 64 = .ok (.invokevirtual 43, 3) := by decide +kernel
theorem dL_refused_67 : decode cL_refused 67 = .ok (.bipush (-12), 2) := by decide +kernel
theorem dL_refused_69 : decode cL_refused 69 = .ok (.if_icmp .ne 226, 3) := by decide +kernel
theorem dL_refused_72 : decode cL_refused 72 = .ok (.aload_n 0, 1) := by decide +kernel
theorem dL_refused_73 : decode cL_refused 73 = .ok (.iconst 1, 1) := by decide +kernel
theorem dL_refused_74 : decode cL_refused 74 = .ok (.iconst 0, 1) := by decide +kernel
theorem dL_refused_75 : decode cL_refused 75 = .ok (.iconst (-1), 1) := by decide +kernel
theorem dL_refused_76 : decode cL_refused 76 = .ok (.iconst 1, 1) := by decide +kernel
theorem dL_refused_77 : decode cL_refused 77 = .ok (.invokevirtual 43, 3) := by decide +kernel
theorem dL_refused_80 : decode cL_refused 80 = .ok (.bipush (-12), 2) := by decide +kernel
theorem dL_refused_82 : decode cL_refused 82 = .ok (.if_icmp .ne 213, 3) := by decide +kernel
theorem dL_refused_85 : decode cL_refused 85 = .ok (.aload_n 0, 1) := by decide +kernel
theorem dL_refused_86 : decode cL_refused 86 = .ok (.iconst 1, 1) := by decide +kernel
theorem dL_refused_87 : decode cL_refused 87 = .ok (.iconst 0, 1) := by decide +kernel
theorem dL_refused_88 : decode cL_refused 88 = .ok (.iconst 4, 1) := by decide +kernel
theorem dL_refused_89 : decode cL_refused 89 = .ok (.iconst 1, 1) := by decide +kernel
theorem dL_refused_90 : decode cL_refused 90 = .ok (.invokevirtual 43, 3) := by decide +kernel
theorem dL_refused_93 : decode cL_refused 93 = .ok (.bipush (-12), 2) := by decide +kernel
theorem dL_refused_95 : decode cL_refused 95 = .ok (.if_icmp .ne 200, 3) := by decide +kernel
theorem dL_refused_98 : decode cL_refused 98 = .ok (.aload_n 0, 1) := by decide +kernel
theorem dL_refused_99 : decode cL_refused 99 = .ok (.iload_n 3, 1) := by decide +kernel
theorem dL_refused_100 : decode cL_refused 100 = .ok (.iconst 0, 1) := by decide +kernel
theorem dL_refused_101 : decode cL_refused 101 = .ok (.invokevirtual 47, 3) := by decide +kernel
theorem dL_refused_104 : decode cL_refused 104 = .ok (.bipush (-11), 2) := by decide +kernel
theorem dL_refused_106 : decode cL_refused 106 = .ok (.if_icmp .ne 189, 3) := by decide +kernel
theorem dL_refused_109 : decode cL_refused 109 = .ok (.aload_n 0, 1) := by decide +kernel
theorem dL_refused_110 : decode cL_refused 110 = .ok (.iconst 0, 1) := by decide +kernel
theorem dL_refused_111 : decode cL_refused 111 = .ok (.iload_n 3, 1) := by decide +kernel
theorem dL_refused_112 : decode cL_refused 112 = .ok (.invokevirtual 47, 3) := by decide +kernel
theorem dL_refused_115 : decode cL_refused 115 = .ok (.bipush (-11), 2) := by decide +kernel
theorem dL_refused_117 : decode cL_refused 117 = .ok (.if_icmp .ne 178, 3) := by decide +kernel
theorem dL_refused_120 : decode cL_refused 120 = .ok (.aload_n 0, 1) := by decide +kernel
theorem dL_refused_121 : decode cL_refused 121 = .ok (.iconst (-1), 1) := by decide +kernel
theorem dL_refused_122 : decode cL_refused 122 = .ok (.iconst (-1), 1) := by decide +kernel
theorem dL_refused_123 : decode cL_refused 123 = .ok (.invokevirtual 47, 3) := by decide +kernel
theorem dL_refused_126 : decode cL_refused 126 = .ok (.bipush (-11), 2) := by decide +kernel
theorem dL_refused_128 : decode cL_refused 128 = .ok (.if_icmp .ne 167, 3) := by decide +kernel
theorem dL_refused_131 : decode cL_refused 131 = .ok (.aload_n 0, 1) := by decide +kernel
theorem dL_refused_132 : decode cL_refused 132 = .ok (.iconst 0, 1) := by decide +kernel
theorem dL_refused_133 : decode cL_refused 133 = .ok (.iconst 0, 1) := by decide +kernel
theorem dL_refused_134 : decode cL_refused 134 = .ok (.invokevirtual 47, 3) := by decide +kernel
theorem dL_refused_137 : decode cL_refused 137 = .ok (.bipush (-14), 2) := by decide +kernel
theorem dL_refused_139 : decode cL_refused 139 = .ok (.if_icmp .ne 156, 3) := by decide +kernel
theorem dL_refused_142 : decode cL_refused 142 = .ok (.aload_n 0, 1) := by decide +kernel
theorem dL_refused_143 : decode cL_refused 143 = .ok (.iconst 2, 1) := by decide +kernel
theorem dL_refused_144 : decode cL_refused 144 = .ok (.iconst 0, 1) := by decide +kernel
theorem dL_refused_145 : decode cL_refused 145 = .ok (.invokestatic 159, 3) := by decide +kernel
theorem dL_refused_148 : decode cL_refused 148 = .ok (.ifCond .eq 147, 3) := by decide +kernel
theorem dL_refused_151 : decode cL_refused 151 = .ok (.aload_n 0, 1) := by decide +kernel
theorem dL_refused_152 : decode cL_refused 152 = .ok (.iload_n 3, 1) := by decide +kernel
theorem dL_refused_153 : decode cL_refused 153 = .ok (.bipush 99, 2) := by decide +kernel
theorem dL_refused_155 : decode cL_refused 155 = .ok (.invokevirtual 50, 3) := by decide +kernel
theorem dL_refused_158 : decode cL_refused 158 = .ok (.bipush (-11), 2) := by decide +kernel
theorem dL_refused_160 : decode cL_refused 160 = .ok (.if_icmp .ne 135, 3) := by decide +kernel
theorem dL_refused_163 : decode cL_refused 163 = .ok (.aload_n 0, 1) := by decide +kernel
theorem dL_refused_164 : decode cL_refused 164 = .ok (.iconst 0, 1) := by decide +kernel
theorem dL_refused_165 : decode cL_refused 165 = .ok (.iconst 0, 1) := by decide +kernel
theorem dL_refused_166 : decode cL_refused 166 = .ok (.invokevirtual 50, 3) := by decide +kernel
theorem dL_refused_169 : decode cL_refused 169 = .ok (.bipush (-12), 2) := by decide +kernel
theorem dL_refused_171 : decode cL_refused 171 = .ok (.if_icmp .ne 124, 3) := by decide +kernel
theorem dL_refused_174 : decode cL_refused 174 = .ok (.aload_n 0, 1) := by decide +kernel
theorem dL_refused_175 : decode cL_refused 175 = .ok (.iconst 0, 1) := by decide +kernel
theorem dL_refused_176 : decode cL_refused 176 = .ok (.bipush 10, 2) := by decide +kernel
theorem dL_refused_178 : decode cL_refused 178 = .ok (.invokevirtual 50, 3) := by decide +kernel
theorem dL_refused_181 : decode cL_refused 181 = .ok (.bipush (-12), 2) := by decide +kernel
theorem dL_refused_183 : decode cL_refused 183 = .ok (.if_icmp .ne 112, 3) := by decide +kernel
theorem dL_refused_186 : decode cL_refused 186 = .ok (.aload_n 0, 1) := by decide +kernel
theorem dL_refused_187 : decode cL_refused 187 = .ok (.iconst 0, 1) := by decide +kernel
theorem dL_refused_188 : decode cL_refused 188 = .ok (.invokevirtual 56, 3) := by decide +kernel
theorem dL_refused_191 : decode cL_refused 191 = .ok (.bipush (-12), 2) := by decide +kernel
theorem dL_refused_193 : decode cL_refused 193 = .ok (.if_icmp .ne 102, 3) := by decide +kernel
theorem dL_refused_196 : decode cL_refused 196 = .ok (.aload_n 0, 1) := by decide +kernel
theorem dL_refused_197 : decode cL_refused 197 = .ok (.iconst 5, 1) := by decide +kernel
theorem dL_refused_198 : decode cL_refused 198 = .ok (.invokevirtual 56, 3) := by decide +kernel
theorem dL_refused_201 : decode cL_refused 201 = .ok (.bipush (-12), 2) := by decide +kernel
theorem dL_refused_203 : decode cL_refused 203 = .ok (.if_icmp .ne 92, 3) := by decide +kernel
theorem dL_refused_206 : decode cL_refused 206 = .ok (.aload_n 0, 1) := by decide +kernel
theorem dL_refused_207 : decode cL_refused 207 = .ok (.iconst 0, 1) := by decide +kernel
theorem dL_refused_208 : decode cL_refused 208 = .ok (.invokevirtual 123, 3) := by decide +kernel
theorem dL_refused_211 : decode cL_refused 211 = .ok (.bipush (-11), 2) := by decide +kernel
theorem dL_refused_213 : decode cL_refused 213 = .ok (.if_icmp .ne 82, 3) := by decide +kernel
theorem dL_refused_216 : decode cL_refused 216 = .ok (.aload_n 0, 1) := by decide +kernel
theorem dL_refused_217 : decode cL_refused 217 = .ok (.iconst 4, 1) := by decide +kernel
theorem dL_refused_218 : decode cL_refused 218 = .ok (.invokevirtual 123, 3) := by decide +kernel
theorem dL_refused_221 : decode cL_refused 221 = .ok (.bipush (-11), 2) := by decide +kernel
theorem dL_refused_223 : decode cL_refused 223 = .ok (.if_icmp .ne 72, 3) := by decide +kernel
theorem dL_refused_226 : decode cL_refused 226 = .ok (.aload_n 0, 1) := by decide +kernel
theorem dL_refused_227 : decode cL_refused 227 = .ok (.iload_n 3, 1) := by decide +kernel
theorem dL_refused_228 : decode cL_refused 228 = .ok (.iconst 0, 1) := by decide +kernel
theorem dL_refused_229 : decode cL_refused 229 = .ok (.invokevirtual 53, 3) := by decide +kernel
theorem dL_refused_232 : decode cL_refused 232 = .ok (.bipush (-11), 2) := by decide +kernel
theorem dL_refused_234 : decode cL_refused 234 = .ok (.if_icmp .ne 61, 3) := by decide +kernel
theorem dL_refused_237 : decode cL_refused 237 = .ok (.aload_n 0, 1) := by decide +kernel
theorem dL_refused_238 : decode cL_refused 238 = .ok (.iconst 0, 1) := by decide +kernel
theorem dL_refused_239 : decode cL_refused 239 = .ok (.iconst 0, 1) := by decide +kernel
theorem dL_refused_240 : decode cL_refused 240 = .ok (.invokevirtual 53, 3) := by decide +kernel
theorem dL_refused_243 : decode cL_refused 243 = .ok (.bipush (-12), 2) := by decide +kernel
theorem dL_refused_245 : decode cL_refused 245 = .ok (.if_icmp .ne 50, 3) := by decide +kernel
theorem dL_refused_248 : decode cL_refused 248 = .ok (.aload_n 0, 1) := by decide +kernel
theorem dL_refused_249 : decode cL_refused 249 = .ok (.iconst 0, 1) := by decide +kernel
theorem dL_refused_250 : decode cL_refused 250 = .ok (.sipush 1000, 3) := by decide +kernel
theorem dL_refused_253 : decode cL_refused 253 = .ok (.invokevirtual 53, 3) := by decide +kernel
theorem dL_refused_256 : decode cL_refused 256 = .ok (.bipush (-12), 2) := by decide +kernel
theorem dL_refused_258 : decode cL_refused 258 = .ok (.if_icmp .ne 37, 3) := by decide +kernel
theorem dL_refused_261 : decode cL_refused 261 = .ok (.aload_n 0, 1) := by decide +kernel
theorem dL_refused_262 : decode cL_refused 262 = .ok (.iconst 0, 1) := by decide +kernel
theorem dL_refused_263 : decode cL_refused 263 = .ok (.invokevirtual 59, 3) := by decide +kernel
theorem dL_refused_266 : decode cL_refused 266 = .ok (.bipush (-12), 2) := by decide +kernel
theorem dL_refused_268 : decode cL_refused 268 = .ok (.if_icmp .ne 27, 3) := by decide +kernel
theorem dL_refused_271 : decode cL_refused 271 = .ok (.aload_n 0, 1) := by decide +kernel
theorem dL_refused_272 : decode cL_refused 272 = .ok (.bipush 31, 2) := by decide +kernel
theorem dL_refused_274 : decode cL_refused 274 = .ok (.invokevirtual 59, 3) := by decide +kernel
theorem dL_refused_277 : decode cL_refused 277 = .ok (.bipush (-12), 2) := by decide +kernel
theorem dL_refused_279 : decode cL_refused 279 = .ok (.if_icmp .ne 16, 3) := by decide +kernel
theorem dL_refused_282 : decode cL_refused 282 = .ok (.aload_n 0, 1) := by decide +kernel
theorem dL_refused_283 : decode cL_refused 283 = .ok (.iconst 2, 1) := by decide +kernel
theorem dL_refused_284 : decode cL_refused 284 = .ok (.iconst 0, 1) := by decide +kernel
theorem dL_refused_285 : decode cL_refused 285 = .ok (.invokestatic 159, 3) := by decide +kernel
theorem dL_refused_288 : decode cL_refused 288 = .ok (.ifCond .eq 7, 3) := by decide +kernel
theorem dL_refused_291 : decode cL_refused 291 = .ok (.iconst 1, 1) := by decide +kernel
theorem dL_refused_292 : decode cL_refused 292 = .ok (.goto 4, 3) := by decide +kernel
theorem dL_refused_295 : decode cL_refused 295 = .ok (.iconst 0, 1) := by decide +kernel
theorem dL_refused_296 : decode cL_refused 296 = .ok (.istore 5, 2) := by decide +kernel
theorem dL_refused_298 : decode cL_refused 298 = .ok (.iload 5, 2) := by decide +kernel
theorem dL_refused_300 : decode cL_refused 300 = .ok (.ifCond .eq 311, 3) := by decide +kernel
theorem dL_refused_303 : decode cL_refused 303 = .ok (.aload_n 0, 1) := by decide +kernel
theorem dL_refused_304 : decode cL_refused 304 = .ok (.iload_n 3, 1) := by decide +kernel
theorem dL_refused_305 : decode cL_refused 305 = .ok (.bipush 99, 2) := by decide +kernel
theorem dL_refused_307 : decode cL_refused 307 = .ok (.invokevirtual 90, 3) := by decide +kernel
theorem dL_refused_310 : decode cL_refused 310 = .ok (.bipush (-11), 2) := by decide +kernel
theorem dL_refused_312 : decode cL_refused 312 = .ok (.if_icmp .ne 299, 3) := by decide +kernel
theorem dL_refused_315 : decode cL_refused 315 = .ok (.aload_n 0, 1) := by decide +kernel
theorem dL_refused_316 : decode cL_refused 316 = .ok (.iconst 0, 1) := by decide +kernel
theorem dL_refused_317 : decode cL_refused 317 = .ok (.bipush 10, 2) := by decide +kernel
theorem dL_refused_319 : decode cL_refused 319 = .ok (.invokevirtual 90, 3) := by decide +kernel
theorem dL_refused_322 : decode cL_refused 322 = .ok (.bipush (-12), 2) := by decide +kernel
theorem dL_refused_324 : decode cL_refused 324 = .ok (.if_icmp .ne 287, 3) := by decide +kernel
theorem dL_refused_327 : decode cL_refused 327 = .ok (.aload_n 0, 1) := by decide +kernel
theorem dL_refused_328 : decode cL_refused 328 = .ok (.iconst 0, 1) := by decide +kernel
theorem dL_refused_329 : decode cL_refused 329 = .ok (.iconst (-1), 1) := by decide +kernel
theorem dL_refused_330 : decode cL_refused 330 = .ok (.invokevirtual 90, 3) := by decide +kernel
theorem dL_refused_333 : decode cL_refused 333 = .ok (.bipush (-12), 2) := by decide +kernel
theorem dL_refused_335 : decode cL_refused 335 = .ok (.if_icmp .ne 276, 3) := by decide +kernel
theorem dL_refused_338 : decode cL_refused 338 = .ok (.aload_n 0, 1) := by decide +kernel
theorem dL_refused_339 : decode cL_refused 339 = .ok (.iload_n 3, 1) := by decide +kernel
theorem dL_refused_340 : decode cL_refused 340 = .ok (.invokevirtual 93, 3) := by decide +kernel
theorem dL_refused_343 : decode cL_refused 343 = .ok (.bipush (-11), 2) := by decide +kernel
theorem dL_refused_345 : decode cL_refused 345 = .ok (.if_icmp .ne 266, 3) := by decide +kernel
theorem dL_refused_348 : decode cL_refused 348 = .ok (.aload_n 0, 1) := by decide +kernel
theorem dL_refused_349 : decode cL_refused 349 = .ok (.iconst (-1), 1) := by decide +kernel
theorem dL_refused_350 : decode cL_refused 350 = .ok (.invokevirtual 93, 3) := by decide +kernel
theorem dL_refused_353 : decode cL_refused 353 = .ok (.bipush (-11), 2) := by decide +kernel
theorem dL_refused_355 : decode cL_refused 355 = .ok (.if_icmp .ne 256, 3) := by decide +kernel
theorem dL_refused_358 : decode cL_refused 358 = .ok (.aload_n 0, 1) := by decide +kernel
theorem dL_refused_359 : decode cL_refused 359 = .ok (.iload 4, 2) := by decide +kernel
theorem dL_refused_361 : decode cL_refused 361 = .ok (.bipush 9, 2) := by decide +kernel
theorem dL_refused_363 : decode cL_refused 363 = .ok (.invokevirtual 111, 3) := by decide +kernel
theorem dL_refused_366 : decode cL_refused 366 = .ok (.bipush (-11), 2) := by decide +kernel
theorem dL_refused_368 : decode cL_refused 368 = .ok (.if_icmp .ne 243, 3) := by decide +kernel
theorem dL_refused_371 : decode cL_refused 371 = .ok (.aload_n 0, 1) := by decide +kernel
theorem dL_refused_372 : decode cL_refused 372 = .ok (.iconst (-1), 1) := by decide +kernel
theorem dL_refused_373 : decode cL_refused 373 = .ok (.iconst 0, 1) := by decide +kernel
theorem dL_refused_374 : decode cL_refused 374 = .ok (.invokevirtual 111, 3) := by decide +kernel
theorem dL_refused_377 : decode cL_refused 377 = .ok (.bipush (-11), 2) := by decide +kernel
theorem dL_refused_379 : decode cL_refused 379 = .ok (.if_icmp .ne 232, 3) := by decide +kernel
theorem dL_refused_382 : decode cL_refused 382 = .ok (.iload 4, 2) := by decide +kernel
theorem dL_refused_384 : decode cL_refused 384 = .ok (.ifCond .eq 25, 3) := by decide +kernel
theorem dL_refused_387 : decode cL_refused 387 = .ok (.aload_n 0, 1) := by decide +kernel
theorem dL_refused_388 : decode cL_refused 388 = .ok (.iconst 0, 1) := by decide +kernel
theorem dL_refused_389 : decode cL_refused 389 = .ok (.iconst 4, 1) := by decide +kernel
theorem dL_refused_390 : decode cL_refused 390 = .ok (.invokevirtual 111, 3) := by decide +kernel
theorem dL_refused_393 : decode cL_refused 393 = .ok (.bipush (-12), 2) := by decide +kernel
theorem dL_refused_395 : decode cL_refused 395 = .ok (.if_icmp .ne 216, 3) := by decide +kernel
theorem dL_refused_398 : decode cL_refused 398 = .ok (.aload_n 0, 1) := by decide +kernel
theorem dL_refused_399 : decode cL_refused 399 = .ok (.iconst 0, 1) := by decide +kernel
theorem dL_refused_400 : decode cL_refused 400 = .ok (.iconst (-1), 1) := by decide +kernel
theorem dL_refused_401 : decode cL_refused 401 = .ok (.invokevirtual 111, 3) := by decide +kernel
theorem dL_refused_404 : decode cL_refused 404 = .ok (.bipush (-12), 2) := by decide +kernel
theorem dL_refused_406 : decode cL_refused 406 = .ok (.if_icmp .ne 205, 3) := by decide +kernel
theorem dL_refused_409 : decode cL_refused 409 = .ok (.aload_n 0, 1) := by decide +kernel
theorem dL_refused_410 : decode cL_refused 410 = .ok (.iload_n 3, 1) := by decide +kernel
theorem dL_refused_411 : decode cL_refused 411 = .ok (.invokevirtual 96, 3) := by decide +kernel
theorem dL_refused_414 : decode cL_refused 414 = .ok (.bipush (-11), 2) := by decide +kernel
theorem dL_refused_416 : decode cL_refused 416 = .ok (.if_icmp .ne 195, 3) := by decide +kernel
theorem dL_refused_419 : decode cL_refused 419 = .ok (.aload_n 0, 1) := by decide +kernel
theorem dL_refused_420 : decode cL_refused 420 = .ok (.iload_n 3, 1) := by decide +kernel
theorem dL_refused_421 : decode cL_refused 421 = .ok (.invokevirtual 99, 3) := by decide +kernel
theorem dL_refused_424 : decode cL_refused 424 = .ok (.bipush (-11), 2) := by decide +kernel
theorem dL_refused_426 : decode cL_refused 426 = .ok (.if_icmp .ne 185, 3) := by decide +kernel
theorem dL_refused_429 : decode cL_refused 429 = .ok (.aload_n 0, 1) := by decide +kernel
theorem dL_refused_430 : decode cL_refused 430 = .ok (.iconst (-1), 1) := by decide +kernel
theorem dL_refused_431 : decode cL_refused 431 = .ok (.invokevirtual 102, 3) := by decide +kernel
theorem dL_refused_434 : decode cL_refused 434 = .ok (.bipush (-11), 2) := by decide +kernel
theorem dL_refused_436 : decode cL_refused 436 = .ok (.if_icmp .ne 175, 3) := by decide +kernel
theorem dL_refused_439 : decode cL_refused 439 = .ok (.aload_n 0, 1) := by decide +kernel
theorem dL_refused_440 : decode cL_refused 440 = .ok (.bipush 16, 2) := by decide +kernel
theorem dL_refused_442 : decode cL_refused 442 = .ok (.bipush 9, 2) := by decide +kernel
theorem dL_refused_444 : decode cL_refused 444 = .ok (.invokevirtual 114, 3) := by decide +kernel
theorem dL_refused_447 : decode cL_refused 447 = .ok (.bipush (-11), 2) := by decide +kernel
theorem dL_refused_449 : decode cL_refused 449 = .ok (.if_icmp .ne 162, 3) := by decide +kernel
theorem dL_refused_452 : decode cL_refused 452 = .ok (.aload_n 0, 1) := by decide +kernel
theorem dL_refused_453 : decode cL_refused 453 = .ok (.iconst (-1), 1) := by decide +kernel
theorem dL_refused_454 : decode cL_refused 454 = .ok (.iconst 0, 1) := by decide +kernel
theorem dL_refused_455 : decode cL_refused 455 = .ok (.invokevirtual 114, 3) := by decide +kernel
theorem dL_refused_458 : decode cL_refused 458 = .ok (.bipush (-11), 2) := by decide +kernel
theorem dL_refused_460 : decode cL_refused 460 = .ok (.if_icmp .ne 151, 3) := by decide +kernel
theorem dL_refused_463 : decode cL_refused 463 = .ok (.aload_n 0, 1) := by decide +kernel
theorem dL_refused_464 : decode cL_refused 464 = .ok (.iconst 0, 1) := by decide +kernel
theorem dL_refused_465 : decode cL_refused 465 = .ok (.iconst 0, 1) := by decide +kernel
theorem dL_refused_466 : decode cL_refused 466 = .ok (.invokevirtual 114, 3) := by decide +kernel
theorem dL_refused_469 : decode cL_refused 469 = .ok (.ifCond .lt 25, 3) := by decide +kernel
theorem dL_refused_472 : decode cL_refused 472 = .ok (.aload_n 0, 1) := by decide +kernel
theorem dL_refused_473 : decode cL_refused 473 = .ok (.iconst 0, 1) := by decide +kernel
theorem dL_refused_474 : decode cL_refused 474 = .ok (.iconst 3, 1) := by decide +kernel
theorem dL_refused_475 : decode cL_refused 475 = .ok (.invokevirtual 114, 3) := by decide +kernel
theorem dL_refused_478 : decode cL_refused 478 = .ok (.bipush (-12), 2) := by decide +kernel
theorem dL_refused_480 : decode cL_refused 480 = .ok (.if_icmp .ne 131, 3) := by decide +kernel
theorem dL_refused_483 : decode cL_refused 483 = .ok (.aload_n 0, 1) := by decide +kernel
theorem dL_refused_484 : decode cL_refused 484 = .ok (.iconst 0, 1) := by decide +kernel
theorem dL_refused_485 : decode cL_refused 485 = .ok (.iconst (-1), 1) := by decide +kernel
theorem dL_refused_486 : decode cL_refused 486 = .ok (.invokevirtual 114, 3) := by decide +kernel
theorem dL_refused_489 : decode cL_refused 489 = .ok (.bipush (-12), 2) := by decide +kernel
theorem dL_refused_491 : decode cL_refused 491 = .ok (.if_icmp .ne 120, 3) := by decide +kernel
theorem dL_refused_494 : decode cL_refused 494 = .ok (.aload_n 0, 1) := by decide +kernel
theorem dL_refused_495 : decode cL_refused 495 = .ok (.iload_n 3, 1) := by decide +kernel
theorem dL_refused_496 : decode cL_refused 496 = .ok (.invokevirtual 105, 3) := by decide +kernel
theorem dL_refused_499 : decode cL_refused 499 = .ok (.bipush (-11), 2) := by decide +kernel
theorem dL_refused_501 : decode cL_refused 501 = .ok (.if_icmp .ne 110, 3) := by decide +kernel
theorem dL_refused_504 : decode cL_refused 504 = .ok (.aload_n 0, 1) := by decide +kernel
theorem dL_refused_505 : decode cL_refused 505 = .ok (.iconst (-1), 1) := by decide +kernel
theorem dL_refused_506 : decode cL_refused 506 = .ok (.invokevirtual 105, 3) := by decide +kernel
theorem dL_refused_509 : decode cL_refused 509 = .ok (.bipush (-11), 2) := by decide +kernel
theorem dL_refused_511 : decode cL_refused 511 = .ok (.if_icmp .ne 100, 3) := by decide +kernel
theorem dL_refused_514 : decode cL_refused 514 = .ok (.aload_n 0, 1) := by decide +kernel
theorem dL_refused_515 : decode cL_refused 515 = .ok (.bipush 31, 2) := by decide +kernel
theorem dL_refused_517 : decode cL_refused 517 = .ok (.invokevirtual 17, 3) := by decide +kernel
theorem dL_refused_520 : decode cL_refused 520 = .ok (.bipush (-12), 2) := by decide +kernel
theorem dL_refused_522 : decode cL_refused 522 = .ok (.if_icmp .ne 89, 3) := by decide +kernel
theorem dL_refused_525 : decode cL_refused 525 = .ok (.aload_n 0, 1) := by decide +kernel
theorem dL_refused_526 : decode cL_refused 526 = .ok (.bipush 127, 2) := by decide +kernel
theorem dL_refused_528 : decode cL_refused 528 = .ok (.invokevirtual 17, 3) := by decide +kernel
theorem dL_refused_531 : decode cL_refused 531 = .ok (.bipush (-12), 2) := by decide +kernel
theorem dL_refused_533 : decode cL_refused 533 = .ok (.if_icmp .ne 78, 3) := by decide +kernel
theorem dL_refused_536 : decode cL_refused 536 = .ok (.aload_n 0, 1) := by decide +kernel
theorem dL_refused_537 : decode cL_refused 537 = .ok (.iload_n 3, 1) := by decide +kernel
theorem dL_refused_538 : decode cL_refused 538 = .ok (.invokevirtual 108, 3) := by decide +kernel
theorem dL_refused_541 : decode cL_refused 541 = .ok (.bipush (-11), 2) := by decide +kernel
theorem dL_refused_543 : decode cL_refused 543 = .ok (.if_icmp .ne 68, 3) := by decide +kernel
theorem dL_refused_546 : decode cL_refused 546 = .ok (.aload_n 0, 1) := by decide +kernel
theorem dL_refused_547 : decode cL_refused 547 = .ok (.iconst (-1), 1) := by decide +kernel
theorem dL_refused_548 : decode cL_refused 548 = .ok (.invokevirtual 108, 3) := by decide +kernel
theorem dL_refused_551 : decode cL_refused 551 = .ok (.bipush (-11), 2) := by decide +kernel
theorem dL_refused_553 : decode cL_refused 553 = .ok (.if_icmp .ne 58, 3) := by decide +kernel
theorem dL_refused_556 : decode cL_refused 556 = .ok (.aload_n 0, 1) := by decide +kernel
theorem dL_refused_557 : decode cL_refused 557 = .ok (.iconst (-1), 1) := by decide +kernel
theorem dL_refused_558 : decode cL_refused 558 = .ok (.invokevirtual 30, 3) := by decide +kernel
theorem dL_refused_561 : decode cL_refused 561 = .ok (.bipush (-11), 2) := by decide +kernel
theorem dL_refused_563 : decode cL_refused 563 = .ok (.if_icmp .ne 48, 3) := by decide +kernel
theorem dL_refused_566 : decode cL_refused 566 = .ok (.aload_n 0, 1) := by decide +kernel
theorem dL_refused_567 : decode cL_refused 567 = .ok (.bipush 60, 2) := by decide +kernel
theorem dL_refused_569 : decode cL_refused 569 = .ok (.invokevirtual 30, 3) := by decide +kernel
theorem dL_refused_572 : decode cL_refused 572 = .ok (.bipush (-11), 2) := by decide +kernel
theorem dL_refused_574 : decode cL_refused 574 = .ok (.if_icmp .ne 37, 3) := by decide +kernel
theorem dL_refused_577 : decode cL_refused 577 = .ok (.aload_n 0, 1) := by decide +kernel
theorem dL_refused_578 : decode cL_refused 578 = .ok (.bipush 19, 2) := by decide +kernel
theorem dL_refused_580 : decode cL_refused 580 = .ok (.invokevirtual 87, 3) := by decide +kernel
theorem dL_refused_583 : decode cL_refused 583 = .ok (.bipush (-12), 2) := by decide +kernel
theorem dL_refused_585 : decode cL_refused 585 = .ok (.if_icmp .ne 26, 3) := by decide +kernel
theorem dL_refused_588 : decode cL_refused 588 = .ok (.aload_n 0, 1) := by decide +kernel
theorem dL_refused_589 : decode cL_refused 589 = .ok (.iconst (-1), 1) := by decide +kernel
theorem dL_refused_590 : decode cL_refused 590 = .ok (.invokevirtual 87, 3) := by decide +kernel
theorem dL_refused_593 : decode cL_refused 593 = .ok (.bipush (-12), 2) := by decide +kernel
theorem dL_refused_595 : decode cL_refused 595 = .ok (.if_icmp .ne 16, 3) := by decide +kernel
theorem dL_refused_598 : decode cL_refused 598 = .ok (.aload_n 0, 1) := by decide +kernel
theorem dL_refused_599 : decode cL_refused 599 = .ok (.iconst 2, 1) := by decide +kernel
theorem dL_refused_600 : decode cL_refused 600 = .ok (.iconst 0, 1) := by decide +kernel
theorem dL_refused_601 : decode cL_refused 601 = .ok (.invokestatic 159, 3) := by decide +kernel
theorem dL_refused_604 : decode cL_refused 604 = .ok (.ifCond .eq 7, 3) := by decide +kernel
theorem dL_refused_607 : decode cL_refused 607 = .ok (.iconst 1, 1) := by decide +kernel
theorem dL_refused_608 : decode cL_refused 608 = .ok (.goto 4, 3) := by decide +kernel
theorem dL_refused_611 : decode cL_refused 611 = .ok (.iconst 0, 1) := by decide +kernel
theorem dL_refused_612 : decode cL_refused 612 = .ok (.istore 5, 2) := by decide +kernel
theorem dL_refused_614 : decode cL_refused 614 = .ok (.aload_n 0, 1) := by decide +kernel
theorem dL_refused_615 : decode cL_refused 615 = .ok (.iconst 1, 1) := by decide +kernel
theorem dL_refused_616 : decode cL_refused 616 = .ok (.iconst 4, 1) := by decide +kernel
theorem dL_refused_617 : decode cL_refused 617 = .ok (.invokevirtual 90, 3) := by decide +kernel
theorem dL_refused_620 : decode cL_refused 620 = .ok (.istore 6, 2) := by decide +kernel
theorem dL_refused_622 : decode cL_refused 622 = .ok (.iload 5, 2) := by decide +kernel
theorem dL_refused_624 : decode cL_refused 624 = .ok (.ifCond .eq 60, 3) := by decide +kernel
theorem dL_refused_627 : decode cL_refused 627 = .ok (.iload 6, 2) := by decide +kernel
theorem dL_refused_629 : decode cL_refused 629 = .ok (.ifCond .eq 24, 3) := by decide +kernel
theorem dL_refused_632 : decode cL_refused 632 = .ok (.aload_n 0, 1) := by decide +kernel
theorem dL_refused_633 : decode cL_refused 633 = .ok (.iconst 1, 1) := by decide +kernel
theorem dL_refused_634 : decode cL_refused 634 = .ok (.iconst 0, 1) := by decide +kernel
theorem dL_refused_635 : decode cL_refused 635 = .ok (.invokevirtual 47, 3) := by decide +kernel
theorem dL_refused_638 : decode cL_refused 638 = .ok (.bipush (-14), 2) := by decide +kernel
theorem dL_refused_640 : decode cL_refused 640 = .ok (.if_icmp .ne 44, 3) := by decide +kernel
theorem dL_refused_643 : decode cL_refused 643 = .ok (.aload_n 0, 1) := by decide +kernel
theorem dL_refused_644 : decode cL_refused 644 = .ok (.iconst 5, 1) := by decide +kernel
theorem dL_refused_645 : decode cL_refused 645 = .ok (.iload 6, 2) := by decide +kernel
theorem dL_refused_647 : decode cL_refused 647 = .ok (.invokestatic 159, 3) := by decide +kernel
theorem dL_refused_650 : decode cL_refused 650 = .ok (.ifCond .eq 34, 3) := by decide +kernel
theorem dL_refused_653 : decode cL_refused 653 = .ok (.iload 6, 2) := by decide +kernel
theorem dL_refused_655 : decode cL_refused 655 = .ok (.iconst 3, 1) := by decide +kernel
theorem dL_refused_656 : decode cL_refused 656 = .ok (.if_icmp .lt 24, 3) := by decide +kernel
theorem dL_refused_659 : decode cL_refused 659 = .ok (.aload_n 0, 1) := by decide +kernel
theorem dL_refused_660 : decode cL_refused 660 = .ok (.iconst 1, 1) := by decide +kernel
theorem dL_refused_661 : decode cL_refused 661 = .ok (.iconst 1, 1) := by decide +kernel
theorem dL_refused_662 : decode cL_refused 662 = .ok (.invokevirtual 50, 3) := by decide +kernel
theorem dL_refused_665 : decode cL_refused 665 = .ok (.bipush (-14), 2) := by decide +kernel
theorem dL_refused_667 : decode cL_refused 667 = .ok (.if_icmp .ne 17, 3) := by decide +kernel
theorem dL_refused_670 : decode cL_refused 670 = .ok (.aload_n 0, 1) := by decide +kernel
theorem dL_refused_671 : decode cL_refused 671 = .ok (.iconst 5, 1) := by decide +kernel
theorem dL_refused_672 : decode cL_refused 672 = .ok (.iload 6, 2) := by decide +kernel
theorem dL_refused_674 : decode cL_refused 674 = .ok (.invokestatic 159, 3) := by decide +kernel
theorem dL_refused_677 : decode cL_refused 677 = .ok (.ifCond .eq 7, 3) := by decide +kernel
theorem dL_refused_680 : decode cL_refused 680 = .ok (.iconst 1, 1) := by decide +kernel
theorem dL_refused_681 : decode cL_refused 681 = .ok (.goto 4, 3) := by decide +kernel
theorem dL_refused_684 : decode cL_refused 684 = .ok (.iconst 0, 1) := by decide +kernel
theorem dL_refused_685 : decode cL_refused 685 = .ok (.istore 5, 2) := by decide +kernel
theorem dL_refused_687 : decode cL_refused 687 = .ok (.iload 5, 2) := by decide +kernel
theorem dL_refused_689 : decode cL_refused 689 = .ok (.ifCond .eq 68, 3) := by decide +kernel
theorem dL_refused_692 : decode cL_refused 692 = .ok (.aload_n 0, 1) := by decide +kernel
theorem dL_refused_693 : decode cL_refused 693 = .ok (.ldc 163, 2) := by decide +kernel
theorem dL_refused_695 : decode cL_refused 695 = .ok (.invokestatic 151, 3) := by decide +kernel
theorem dL_refused_698 : decode cL_refused 698 = .ok (.sipush (-1000), 3) := by decide +kernel
theorem dL_refused_701 : decode cL_refused 701 = .ok (.if_icmp .ne 56, 3) := by decide +kernel
theorem dL_refused_704 : decode cL_refused 704 = .ok (.aload_n 0, 1) := by decide +kernel
theorem dL_refused_705 : decode cL_refused 705 = .ok (.ldc 165, 2) := by decide +kernel
theorem dL_refused_707 : decode cL_refused 707 = .ok (.invokestatic 151, 3) := by decide +kernel
theorem dL_refused_710 : decode cL_refused 710 = .ok (.bipush (-14), 2) := by decide +kernel
theorem dL_refused_712 : decode cL_refused 712 = .ok (.if_icmp .ne 45, 3) := by decide +kernel
theorem dL_refused_715 : decode cL_refused 715 = .ok (.aload_n 0, 1) := by decide +kernel
theorem dL_refused_716 : decode cL_refused 716 = .ok (.bipush 6, 2) := by decide +kernel
theorem dL_refused_718 : decode cL_refused 718 = .ok (.iconst 2, 1) := by decide +kernel
theorem dL_refused_719 : decode cL_refused 719 = .ok (.invokestatic 159, 3) := by decide +kernel
theorem dL_refused_722 : decode cL_refused 722 = .ok (.ifCond .eq 35, 3) := by decide +kernel
theorem dL_refused_725 : decode cL_refused 725 = .ok (.aload_n 0, 1) := by decide +kernel
theorem dL_refused_726 : decode cL_refused 726 = .ok (.ldc 167, 2) := by decide +kernel
theorem dL_refused_728 : decode cL_refused 728 = .ok (.invokestatic 151, 3) := by decide +kernel
theorem dL_refused_731 : decode cL_refused 731 = .ok (.bipush (-14), 2) := by decide +kernel
theorem dL_refused_733 : decode cL_refused 733 = .ok (.if_icmp .ne 24, 3) := by decide +kernel
theorem dL_refused_736 : decode cL_refused 736 = .ok (.aload_n 0, 1) := by decide +kernel
theorem dL_refused_737 : decode cL_refused 737 = .ok (.iload_n 3, 1) := by decide +kernel
theorem dL_refused_738 : decode cL_refused 738 = .ok (.invokestatic 169, 3) := by decide +kernel
theorem dL_refused_741 : decode cL_refused 741 = .ok (.ifCond .eq 16, 3) := by decide +kernel
theorem dL_refused_744 : decode cL_refused 744 = .ok (.aload_n 0, 1) := by decide +kernel
theorem dL_refused_745 : decode cL_refused 745 = .ok (.invokestatic 155, 3) := by decide +kernel
theorem dL_refused_748 : decode cL_refused 748 = .ok (.lload_n 1, 1) := by decide +kernel
theorem dL_refused_749 : decode cL_refused 749 = .ok (.lcmp, 1) := by decide +kernel
theorem dL_refused_750 : decode cL_refused 750 = .ok (.ifCond .ne 7, 3) := by decide +kernel
theorem dL_refused_753 : decode cL_refused 753 = .ok (.iconst 1, 1) := by decide +kernel
theorem dL_refused_754 : decode cL_refused 754 = .ok (.goto 4, 3) := by decide +kernel
theorem dL_refused_757 : decode cL_refused 757 = .ok (.iconst 0, 1) := by decide +kernel
theorem dL_refused_758 : decode cL_refused 758 = .ok (.ireturn, 1) := by decide +kernel
set_option maxRecDepth 100000 in
set_option maxHeartbeats 4000000 in
theorem K_refused {cA : Nat → ClassId} {ad : tA} {ex : va_W} {M : tM} {F P : tP} {k u w : Nat} {h : Int32} (I : inv M F P k u w h) (hw : w < 10000) (h2 : 2 ≤ cn P) : Cj yL_refused cL_refused 7 (some .boolean) (rmd 20) 0 0 cA ad [.ref (ad 0 0)] ex (mm M F P) (fun v x m => ∃ (M2 : tM) (F2 P2 : tP), v = some (.int 1) ∧ x = ex ∧ m = mm M2 F2 P2 ∧ inv M2 F2 P2 k u (w + 324) h ∧ same P P2) := by
  refine c_of_r (lv0 := [some (.ref (ad 0 0)), none, none, none, none, none, none]) rfl (by decide +kernel) (Nat.le_of_ble_eq_true rfl) rfl ?_
  have okI := I
  obtain ⟨⟨o, oW⟩, -⟩ := id I
  have hc12 := o.1.2
  have T725 : ∀ (M : tM) (F P1 : tP) (w1 : Nat) (l6 : Int32), inv M F P1 k u w1 h → same P P1 → w1 ≤ w + 216 → Rj cL_refused RL 7 (some .boolean) (rmd 20) 0 0 cA ad (fun v x m => ∃ (M2 : tM) (F2 P2 : tP), v = some (.int 1) ∧ x = ex ∧ m = mm M2 F2 P2 ∧ inv M2 F2 P2 k u (w + 324) h ∧ same P P2) ex 0 0 725 [some (.ref (ad 0 0)), some (.long (f_asks P)), none, some (.int (nI (cn P))), some (.int (P 0 3)), some (.int 1), some (.int l6)] [] (mm M F P1) := by
    intro M F P1 w1 l6 I sm1 hw1
    have ec : cn P1 = cn P := sm_cn sm1
    refine r_aload_n dL_refused_725 rfl ?_
    refine r_ldcS (List.mem_of_getElem? (i := 16) rfl) dL_refused_726 ?_
    refine r_callS (n := 2) (As := [.ref (ad 0 0), .ref (ad 16 14)]) (rest := []) dL_refused_728 ((K_reads (n := lenS.getD 14 0) (c := litc 14) (fun _ => K_litLen (by omega)) (fun _ k hk => K_litChar (by omega) hk) (fun _ => rc_lit (by omega)) (litc_ok 14 (by omega)) (by decide) (inv_okm I) I.1.1 (fun j hj => (I.2.1 j hj).1.2.1) I.2.2.2.1.1 (by rw [tl, I.2.2.2.1.2]; rfl))) ⟨q623, q624, q423, q625⟩ ⟨rfl, by decide, by decide, by decide +kernel⟩ rfl rfl rfl rfl ⟨by decide, by decide⟩ (Nat.le_of_ble_eq_true rfl) ⟨Nat.le_of_ble_eq_true rfl, Nat.le_of_ble_eq_true rfl⟩ (fun v9 x9 m9 hv => ?_)
    obtain ⟨rfl, rfl, rfl⟩ := hv
    have h0 : tl (M 13) = 0 := by rw [tl, I.2.2.2.1.2]; rfl
    have v := apT_v (litc_ok 14 (by omega)) (by decide) (lenS.getD 14 0) 0 (M 13) (Nat.zero_add _) I.2.2.2.1.1 h0
    have C := chg_run I (by omega) (apT_ok (litc_ok 14 (by omega)) (by decide) (lenS.getD 14 0) 0 (M 13) (Nat.zero_add _) I.2.2.2.1.1 h0)
    generalize apT (litc 14) (lenS.getD 14 0) 0 (M 13) = T at v C ⊢
    have r := run14 (M := M) (F := F) (P := P1) I.1.1 v.1 (fun k hk => by rw [v.2 k hk, if_neg (by omega)])
    have C2 := C.2.2.2 (by rw [r.1]; rfl)
    clear C
    generalize t_run (m_pl M 13 T) F P1 = q at r C2 ⊢
    obtain ⟨q1, q2, q3, q4⟩ := q
    dsimp only at r C2 ⊢
    obtain ⟨rfl, r2⟩ := r
    obtain ⟨I2, sm2⟩ := C2
    refine r_bipush (v := -14) dL_refused_731 (by decide) ?_
    refine r_icmp_ne (tgt := 757) dL_refused_733 (by decide) (fun c733 => absurd rfl c733) (fun c733 => ?_)
    refine r_aload_n dL_refused_736 rfl ?_
    refine r_iload_n dL_refused_737 rfl ?_
    refine r_callS (n := 2) (As := [.ref (ad 0 0), .int (nI (cn P))]) (rest := []) dL_refused_738 (K_refAt) ⟨q628, q629, q423, q630⟩ ⟨rfl, by decide, by decide, by decide +kernel⟩ rfl rfl rfl rfl ⟨by decide, by decide⟩ (Nat.le_of_ble_eq_true rfl) ⟨Nat.le_of_ble_eq_true rfl, Nat.le_of_ble_eq_true rfl⟩ (fun v9 x9 m9 hv => ?_)
    obtain ⟨rfl, rfl, rfl⟩ := hv
    refine r_if_eq (tgt := 757) dL_refused_741 (by decide) (fun c741 => absurd (bI_0 c741) (by rw [← ec, r2]; decide)) (fun c741 => ?_)
    refine r_aload_n dL_refused_744 rfl ?_
    refine r_callS (n := 1) (As := [.ref (ad 0 0)]) (rest := []) dL_refused_745 (K_asks I2.1.1 I2.2.2.2.2.1) ⟨q499, q500, q423, q501⟩ ⟨rfl, by decide, by decide, by decide +kernel⟩ rfl rfl rfl rfl ⟨by decide, by decide⟩ (Nat.le_of_ble_eq_true rfl) ⟨Nat.le_of_ble_eq_true rfl, Nat.le_of_ble_eq_true rfl⟩ (fun v9 x9 m9 hv => ?_)
    obtain ⟨rfl, rfl, X, N, C9, ⟨oN, -⟩, rfl⟩ := hv
    rw [show f_asks q4 = f_asks P from asks_same (sm_tr sm1 sm2) o]
    refine r_lload_n dL_refused_748 rfl ?_
    refine r_lcmp dL_refused_749 ?_
    refine r_if_ne (tgt := 757) dL_refused_750 (by decide) (fun c750 => absurd lg_eq c750) (fun c750 => ?_)
    refine r_iconst (v := 1) dL_refused_753 (by decide) ?_
    refine r_goto (tgt := 758) dL_refused_754 (by decide) ?_
    exact r_zret rfl rfl dL_refused_758 (Nat.le_of_ble_eq_true rfl) (Nat.le_of_ble_eq_true rfl) ⟨_, _, _, rfl, rfl, rfl, inv_w (by omega) (inv_aM I2 oN), sm_tr sm1 sm2⟩
  have T704 : ∀ (M : tM) (F : tP) (w1 : Nat) (l6 : Int32), inv M F P k u w1 h → w1 ≤ w + 108 → Rj cL_refused RL 7 (some .boolean) (rmd 20) 0 0 cA ad (fun v x m => ∃ (M2 : tM) (F2 P2 : tP), v = some (.int 1) ∧ x = ex ∧ m = mm M2 F2 P2 ∧ inv M2 F2 P2 k u (w + 324) h ∧ same P P2) ex 0 0 704 [some (.ref (ad 0 0)), some (.long (f_asks P)), none, some (.int (nI (cn P))), some (.int (P 0 3)), some (.int 1), some (.int l6)] [] (mm M F P) := by
    intro M F w1 l6 I hw1
    refine r_aload_n dL_refused_704 rfl ?_
    refine r_ldcS (List.mem_of_getElem? (i := 15) rfl) dL_refused_705 ?_
    refine r_callS (n := 2) (As := [.ref (ad 0 0), .ref (ad 16 13)]) (rest := []) dL_refused_707 ((K_reads (n := lenS.getD 13 0) (c := litc 13) (fun _ => K_litLen (by omega)) (fun _ k hk => K_litChar (by omega) hk) (fun _ => rc_lit (by omega)) (litc_ok 13 (by omega)) (by decide) (inv_okm I) I.1.1 (fun j hj => (I.2.1 j hj).1.2.1) I.2.2.2.1.1 (by rw [tl, I.2.2.2.1.2]; rfl))) ⟨q623, q624, q423, q625⟩ ⟨rfl, by decide, by decide, by decide +kernel⟩ rfl rfl rfl rfl ⟨by decide, by decide⟩ (Nat.le_of_ble_eq_true rfl) ⟨Nat.le_of_ble_eq_true rfl, Nat.le_of_ble_eq_true rfl⟩ (fun v9 x9 m9 hv => ?_)
    obtain ⟨rfl, rfl, rfl⟩ := hv
    have h0 : tl (M 13) = 0 := by rw [tl, I.2.2.2.1.2]; rfl
    have v := apT_v (litc_ok 13 (by omega)) (by decide) (lenS.getD 13 0) 0 (M 13) (Nat.zero_add _) I.2.2.2.1.1 h0
    have C := chg_run I (by omega) (apT_ok (litc_ok 13 (by omega)) (by decide) (lenS.getD 13 0) 0 (M 13) (Nat.zero_add _) I.2.2.2.1.1 h0)
    generalize apT (litc 13) (lenS.getD 13 0) 0 (M 13) = T at v C ⊢
    have r := run13 (M := M) (F := F) (P := P) I.1.1 v.1 (fun k hk => by rw [v.2 k hk, if_neg (by omega)])
    have C2 := C.2.2.2 (by rw [r.1]; rfl)
    clear C
    generalize t_run (m_pl M 13 T) F P = q at r C2 ⊢
    obtain ⟨q1, q2, q3, q4⟩ := q
    dsimp only at r C2 ⊢
    obtain ⟨rfl, r2⟩ := r
    obtain ⟨I2, sm2⟩ := C2
    refine r_bipush (v := -14) dL_refused_710 (by decide) ?_
    refine r_icmp_ne (tgt := 757) dL_refused_712 (by decide) (fun c712 => absurd rfl c712) (fun c712 => ?_)
    refine r_aload_n dL_refused_715 rfl ?_
    refine r_bipush (v := 6) dL_refused_716 (by decide) ?_
    refine r_iconst (v := 2) dL_refused_718 (by decide) ?_
    refine r_callS (n := 3) (As := [.ref (ad 0 0), .int 6, .int 2]) (rest := []) dL_refused_719 (K_is (a := 6) (b := 2)) ⟨q421, q422, q423, q424⟩ ⟨rfl, by decide, by decide, by decide +kernel⟩ rfl rfl rfl rfl ⟨by decide, by decide⟩ (Nat.le_of_ble_eq_true rfl) ⟨Nat.le_of_ble_eq_true rfl, Nat.le_of_ble_eq_true rfl⟩ (fun v9 x9 m9 hv => ?_)
    obtain ⟨rfl, rfl, rfl⟩ := hv
    refine r_if_eq (tgt := 757) dL_refused_722 (by decide) (fun c722 => absurd (bI_0 c722) (by rw [r2]; decide)) (fun c722 => ?_)
    exact T725 _ _ _ _ l6 I2 sm2 (by omega)
  have T687 : ∀ (M : tM) (F : tP) (w1 : Nat) (l6 : Int32), inv M F P k u w1 h → w1 ≤ w → Rj cL_refused RL 7 (some .boolean) (rmd 20) 0 0 cA ad (fun v x m => ∃ (M2 : tM) (F2 P2 : tP), v = some (.int 1) ∧ x = ex ∧ m = mm M2 F2 P2 ∧ inv M2 F2 P2 k u (w + 324) h ∧ same P P2) ex 0 0 687 [some (.ref (ad 0 0)), some (.long (f_asks P)), none, some (.int (nI (cn P))), some (.int (P 0 3)), some (.int 1), some (.int l6)] [] (mm M F P) := by
    intro M F w1 l6 I hw1
    refine r_iload dL_refused_687 rfl ?_
    refine r_if_eq (tgt := 757) dL_refused_689 (by decide) (fun c689 => absurd c689 (by decide)) (fun c689 => ?_)
    refine r_aload_n dL_refused_692 rfl ?_
    refine r_ldcS (List.mem_of_getElem? (i := 14) rfl) dL_refused_693 ?_
    refine r_callS (n := 2) (As := [.ref (ad 0 0), .ref (ad 16 12)]) (rest := []) dL_refused_695 ((K_reads (n := lenS.getD 12 0) (c := litc 12) (fun _ => K_litLen (by omega)) (fun _ k hk => K_litChar (by omega) hk) (fun _ => rc_lit (by omega)) (litc_ok 12 (by omega)) (by decide) (inv_okm I) I.1.1 (fun j hj => (I.2.1 j hj).1.2.1) I.2.2.2.1.1 (by rw [tl, I.2.2.2.1.2]; rfl))) ⟨q623, q624, q423, q625⟩ ⟨rfl, by decide, by decide, by decide +kernel⟩ rfl rfl rfl rfl ⟨by decide, by decide⟩ (Nat.le_of_ble_eq_true rfl) ⟨Nat.le_of_ble_eq_true rfl, Nat.le_of_ble_eq_true rfl⟩ (fun v9 x9 m9 hv => ?_)
    obtain ⟨rfl, rfl, rfl⟩ := hv
    have h0 : tl (M 13) = 0 := by rw [tl, I.2.2.2.1.2]; rfl
    have v := apT_v (litc_ok 12 (by omega)) (by decide) (lenS.getD 12 0) 0 (M 13) (Nat.zero_add _) I.2.2.2.1.1 h0
    have C := chg_run I (by omega) (apT_ok (litc_ok 12 (by omega)) (by decide) (lenS.getD 12 0) 0 (M 13) (Nat.zero_add _) I.2.2.2.1.1 h0)
    generalize apT (litc 12) (lenS.getD 12 0) 0 (M 13) = T at v C ⊢
    rw [tr_no (M := M) (F := F) (P := P) (tx12 v.1 (fun k hk => by rw [v.2 k hk, if_neg (by omega)]))] at C ⊢
    have I2 := (C.2.2.2 rfl).1
    clear C I v
    dsimp only at I2 ⊢
    generalize m_pl (m_pl M 13 T) 13 (r_T (m_pl M 13 T)) = M3 at I2 ⊢
    refine r_sipush (v := -1000) dL_refused_698 (by decide) ?_
    refine r_icmp_ne (tgt := 757) dL_refused_701 (by decide) (fun c701 => absurd rfl c701) (fun c701 => ?_)
    exact T704 M3 F _ l6 I2 (by omega)
  have T653 : ∀ (M : tM) (F : tP), refd k u w h M F P → Rj cL_refused RL 7 (some .boolean) (rmd 20) 0 0 cA ad (fun v x m => ∃ (M2 : tM) (F2 P2 : tP), v = some (.int 1) ∧ x = ex ∧ m = mm M2 F2 P2 ∧ inv M2 F2 P2 k u (w + 324) h ∧ same P P2) ex 0 0 653 [some (.ref (ad 0 0)), some (.long (f_asks P)), none, some (.int (nI (cn P))), some (.int (P 0 3)), some (.int 1), some (.int (P 5 6))] [] (mm M F P) := by
    intro M F J
    refine r_iload dL_refused_653 rfl ?_
    refine r_iconst (v := 3) dL_refused_655 (by decide) ?_
    refine r_icmp_lt (tgt := 680) dL_refused_656 (by decide) (fun c656 => ?_) (fun c656 => ?_)
    · refine r_iconst (v := 1) dL_refused_680 (by decide) ?_
      refine r_goto (tgt := 685) dL_refused_681 (by decide) ?_
      refine r_istore dL_refused_685 (by decide) rfl ?_
      exact T687 _ _ w _ J.1 (Nat.le_refl _)
    · refine r_aload_n dL_refused_659 rfl ?_
      refine r_iconst (v := 1) dL_refused_660 (by decide) ?_
      refine r_iconst (v := 1) dL_refused_661 (by decide) ?_
      refine r_callV (n := 2) (As := [.int (1), .int (1)]) (rest := []) dL_refused_662 (ref_q J (show t_fault F P (1) (1) = (-14, (f_ref F (5) ((P 5 6))), P) from by unfold t_fault; rw [if_neg (by rw [show f_hasStep P 1 = true from hs_t (a := 1) o.1.1 o.1.2 (by omega)]; decide), if_neg (by decide), if_pos (by simp only [f_isOpen, decide_eq_false_iff_not, Decidable.not_not]; exact Int32.not_le.mp (fun z => c656 (Int32.not_le.mp (fun y => absurd (Int32.le_trans y z) (by decide)))))]; rfl) (by decide) kF_ref (K_fault (inv_okm J.1) o.1 o.2.1 o.2.2.1 o.2.2.2.1 o.2.2.2.2.1)) (g_V q495 q496 q497 q2 q498) ⟨rfl, by decide, by decide, by decide +kernel⟩ rfl rfl rfl rfl ⟨by decide, by decide⟩ (Nat.le_of_ble_eq_true rfl) ⟨Nat.le_of_ble_eq_true rfl, Nat.le_of_ble_eq_true rfl⟩ ob_tf (fun v9 x9 m9 hv => ?_)
      obtain ⟨M9, rfl, rfl, rfl, J9⟩ := hv
      clear J
      have J := J9
      clear J9
      have hF2 : f_is (f_ref F (5) ((P 5 6))) (5) ((P 5 6)) = true := f_is_ref
      generalize (f_ref F (5) ((P 5 6))) = F9 at J hF2 ⊢
      refine r_bipush (v := -14) dL_refused_665 (by decide) ?_
      refine r_icmp_ne (tgt := 684) dL_refused_667 (by decide) (fun c667 => absurd rfl c667) (fun c667 => ?_)
      refine r_aload_n dL_refused_670 rfl ?_
      refine r_iconst (v := 5) dL_refused_671 (by decide) ?_
      refine r_iload dL_refused_672 rfl ?_
      refine r_callS (n := 3) (As := [.ref (ad 0 0), .int 5, .int (P 5 6)]) (rest := []) dL_refused_674 (K_is (a := 5) (b := P 5 6)) ⟨q421, q422, q423, q424⟩ ⟨rfl, by decide, by decide, by decide +kernel⟩ rfl rfl rfl rfl ⟨by decide, by decide⟩ (Nat.le_of_ble_eq_true rfl) ⟨Nat.le_of_ble_eq_true rfl, Nat.le_of_ble_eq_true rfl⟩ (fun v9 x9 m9 hv => ?_)
      obtain ⟨rfl, rfl, rfl⟩ := hv
      refine r_if_eq (tgt := 684) dL_refused_677 (by decide) (fun c677 => absurd (bI_0 c677) (by rw [hF2]; decide)) (fun c677 => ?_)
      refine r_iconst (v := 1) dL_refused_680 (by decide) ?_
      refine r_goto (tgt := 685) dL_refused_681 (by decide) ?_
      refine r_istore dL_refused_685 (by decide) rfl ?_
      exact T687 _ _ w _ J.1 (Nat.le_refl _)
  have T614 : ∀ (M : tM) (F : tP), refd k u w h M F P → Rj cL_refused RL 7 (some .boolean) (rmd 20) 0 0 cA ad (fun v x m => ∃ (M2 : tM) (F2 P2 : tP), v = some (.int 1) ∧ x = ex ∧ m = mm M2 F2 P2 ∧ inv M2 F2 P2 k u (w + 324) h ∧ same P P2) ex 0 0 614 [some (.ref (ad 0 0)), some (.long (f_asks P)), none, some (.int (nI (cn P))), some (.int (P 0 3)), some (.int 1), none] [] (mm M F P) := by
    intro M F J
    refine r_aload_n dL_refused_614 rfl ?_
    refine r_iconst (v := 1) dL_refused_615 (by decide) ?_
    refine r_iconst (v := 4) dL_refused_616 (by decide) ?_
    refine r_callV (n := 2) (As := [.int 1, .int 4]) (rest := []) dL_refused_617 (K_stepOf (s := 1) (x := 4) o.1) (g_V q475 q476 q477 q2 q478) ⟨rfl, by decide, by decide, by decide +kernel⟩ rfl rfl rfl rfl ⟨by decide, by decide⟩ (Nat.le_of_ble_eq_true rfl) ⟨Nat.le_of_ble_eq_true rfl, Nat.le_of_ble_eq_true rfl⟩ ob_tf (fun v9 x9 m9 hv => ?_)
    obtain ⟨rfl, rfl, rfl⟩ := hv
    rw [show f_stepOf P 1 4 = P 5 6 from by rw [f_stepOf, if_neg (by rw [show f_hasStep P 1 = true from hs_t (a := 1) o.1.1 o.1.2 (by omega)]; decide)]; rfl]
    refine r_istore dL_refused_620 (by decide) rfl ?_
    refine r_iload dL_refused_622 rfl ?_
    refine r_if_eq (tgt := 684) dL_refused_624 (by decide) (fun c624 => absurd c624 (by decide)) (fun c624 => ?_)
    refine r_iload dL_refused_627 rfl ?_
    refine r_if_eq (tgt := 653) dL_refused_629 (by decide) (fun c629 => ?_) (fun c629 => ?_)
    · exact T653 _ _ J
    · refine r_aload_n dL_refused_632 rfl ?_
      refine r_iconst (v := 1) dL_refused_633 (by decide) ?_
      refine r_iconst (v := 0) dL_refused_634 (by decide) ?_
      refine r_callV (n := 2) (As := [.int (1), .int (0)]) (rest := []) dL_refused_635 (ref_q J (show t_need F P (1) (0) = (-14, (f_ref F (5) ((P 5 6))), P) from by unfold t_need; rw [if_neg (by rw [show f_hasStep P 1 = true from hs_t (a := 1) o.1.1 o.1.2 (by omega), show f_hasStep P 0 = true from hs_t (a := 0) o.1.1 o.1.2 (by omega)]; decide), if_neg (by decide), if_pos (show ¬ P (4 + Int32.toNatClampNeg 1) 6 = 0 from c629)]; rfl) (by decide) kF_ref (K_need (inv_okm J.1) o.1 o.2.1 o.2.2.1 o.2.2.2.1 o.2.2.2.2.1)) (g_V q429 q430 q431 q2 q432) ⟨rfl, by decide, by decide, by decide +kernel⟩ rfl rfl rfl rfl ⟨by decide, by decide⟩ (Nat.le_of_ble_eq_true rfl) ⟨Nat.le_of_ble_eq_true rfl, Nat.le_of_ble_eq_true rfl⟩ ob_tf (fun v9 x9 m9 hv => ?_)
      obtain ⟨M9, rfl, rfl, rfl, J9⟩ := hv
      clear J
      have J := J9
      clear J9
      have hF2 : f_is (f_ref F (5) ((P 5 6))) (5) ((P 5 6)) = true := f_is_ref
      generalize (f_ref F (5) ((P 5 6))) = F9 at J hF2 ⊢
      refine r_bipush (v := -14) dL_refused_638 (by decide) ?_
      refine r_icmp_ne (tgt := 684) dL_refused_640 (by decide) (fun c640 => absurd rfl c640) (fun c640 => ?_)
      refine r_aload_n dL_refused_643 rfl ?_
      refine r_iconst (v := 5) dL_refused_644 (by decide) ?_
      refine r_iload dL_refused_645 rfl ?_
      refine r_callS (n := 3) (As := [.ref (ad 0 0), .int 5, .int (P 5 6)]) (rest := []) dL_refused_647 (K_is (a := 5) (b := P 5 6)) ⟨q421, q422, q423, q424⟩ ⟨rfl, by decide, by decide, by decide +kernel⟩ rfl rfl rfl rfl ⟨by decide, by decide⟩ (Nat.le_of_ble_eq_true rfl) ⟨Nat.le_of_ble_eq_true rfl, Nat.le_of_ble_eq_true rfl⟩ (fun v9 x9 m9 hv => ?_)
      obtain ⟨rfl, rfl, rfl⟩ := hv
      refine r_if_eq (tgt := 684) dL_refused_650 (by decide) (fun c650 => absurd (bI_0 c650) (by rw [hF2]; decide)) (fun c650 => ?_)
      exact T653 _ _ J
  have T494 : ∀ (M : tM) (F : tP), refd k u w h M F P → f_is F 2 0 = true → Rj cL_refused RL 7 (some .boolean) (rmd 20) 0 0 cA ad (fun v x m => ∃ (M2 : tM) (F2 P2 : tP), v = some (.int 1) ∧ x = ex ∧ m = mm M2 F2 P2 ∧ inv M2 F2 P2 k u (w + 324) h ∧ same P P2) ex 0 0 494 [some (.ref (ad 0 0)), some (.long (f_asks P)), none, some (.int (nI (cn P))), some (.int (P 0 3)), some (.int 1), none] [] (mm M F P) := by
    intro M F J hF2
    refine r_aload_n dL_refused_494 rfl ?_
    refine r_iload_n dL_refused_495 rfl ?_
    refine r_callV (n := 1) (As := [.int (nI (cn P))]) (rest := []) dL_refused_496 (K_ranked o.1) (g_V q545 q546 q547 q2 q548) ⟨rfl, by decide, by decide, by decide +kernel⟩ rfl rfl rfl rfl ⟨by decide, by decide⟩ (Nat.le_of_ble_eq_true rfl) ⟨Nat.le_of_ble_eq_true rfl, Nat.le_of_ble_eq_true rfl⟩ ob_tf (fun v9 x9 m9 hv => ?_)
    obtain ⟨rfl, rfl, rfl⟩ := hv
    rw [show f_rank P (nI (cn P)) = -11 from by exact rank_c o.1]
    refine r_bipush (v := -11) dL_refused_499 (by decide) ?_
    refine r_icmp_ne (tgt := 611) dL_refused_501 (by decide) (fun c501 => absurd rfl c501) (fun c501 => ?_)
    refine r_aload_n dL_refused_504 rfl ?_
    refine r_iconst (v := -1) dL_refused_505 (by decide) ?_
    refine r_callV (n := 1) (As := [.int (-1)]) (rest := []) dL_refused_506 (K_ranked o.1) (g_V q545 q546 q547 q2 q548) ⟨rfl, by decide, by decide, by decide +kernel⟩ rfl rfl rfl rfl ⟨by decide, by decide⟩ (Nat.le_of_ble_eq_true rfl) ⟨Nat.le_of_ble_eq_true rfl, Nat.le_of_ble_eq_true rfl⟩ ob_tf (fun v9 x9 m9 hv => ?_)
    obtain ⟨rfl, rfl, rfl⟩ := hv
    rw [show f_rank P (-1) = -11 from by exact rank_m o.1]
    refine r_bipush (v := -11) dL_refused_509 (by decide) ?_
    refine r_icmp_ne (tgt := 611) dL_refused_511 (by decide) (fun c511 => absurd rfl c511) (fun c511 => ?_)
    refine r_aload_n dL_refused_514 rfl ?_
    refine r_bipush (v := 31) dL_refused_515 (by decide) ?_
    refine r_callV (n := 1) (As := [.int (31)]) (rest := []) dL_refused_517 (no_app (Or.inl (by decide)) J.1.2.2.2.1.1) (g_V q139 q140 q141 q2 q142) ⟨rfl, by decide, by decide, by decide +kernel⟩ rfl rfl rfl rfl ⟨by decide, by decide⟩ (Nat.le_of_ble_eq_true rfl) ⟨Nat.le_of_ble_eq_true rfl, Nat.le_of_ble_eq_true rfl⟩ ob_tf (fun v9 x9 m9 hv => ?_)
    obtain ⟨rfl, rfl, rfl⟩ := hv
    refine r_bipush (v := -12) dL_refused_520 (by decide) ?_
    refine r_icmp_ne (tgt := 611) dL_refused_522 (by decide) (fun c522 => absurd rfl c522) (fun c522 => ?_)
    refine r_aload_n dL_refused_525 rfl ?_
    refine r_bipush (v := 127) dL_refused_526 (by decide) ?_
    refine r_callV (n := 1) (As := [.int (127)]) (rest := []) dL_refused_528 (no_app (Or.inr (by decide)) J.1.2.2.2.1.1) (g_V q139 q140 q141 q2 q142) ⟨rfl, by decide, by decide, by decide +kernel⟩ rfl rfl rfl rfl ⟨by decide, by decide⟩ (Nat.le_of_ble_eq_true rfl) ⟨Nat.le_of_ble_eq_true rfl, Nat.le_of_ble_eq_true rfl⟩ ob_tf (fun v9 x9 m9 hv => ?_)
    obtain ⟨rfl, rfl, rfl⟩ := hv
    refine r_bipush (v := -12) dL_refused_531 (by decide) ?_
    refine r_icmp_ne (tgt := 611) dL_refused_533 (by decide) (fun c533 => absurd rfl c533) (fun c533 => ?_)
    refine r_aload_n dL_refused_536 rfl ?_
    refine r_iload_n dL_refused_537 rfl ?_
    refine r_callV (n := 1) (As := [.int (nI (cn P))]) (rest := []) dL_refused_538 (no_tell (hs_f o.1.1) o) (g_V q557 q558 q559 q2 q560) ⟨rfl, by decide, by decide, by decide +kernel⟩ rfl rfl rfl rfl ⟨by decide, by decide⟩ (Nat.le_of_ble_eq_true rfl) ⟨Nat.le_of_ble_eq_true rfl, Nat.le_of_ble_eq_true rfl⟩ ob_tf (fun v9 x9 m9 hv => ?_)
    obtain ⟨rfl, rfl, rfl⟩ := hv
    refine r_bipush (v := -11) dL_refused_541 (by decide) ?_
    refine r_icmp_ne (tgt := 611) dL_refused_543 (by decide) (fun c543 => absurd rfl c543) (fun c543 => ?_)
    refine r_aload_n dL_refused_546 rfl ?_
    refine r_iconst (v := -1) dL_refused_547 (by decide) ?_
    refine r_callV (n := 1) (As := [.int (-1)]) (rest := []) dL_refused_548 (no_tell hs_m o) (g_V q557 q558 q559 q2 q560) ⟨rfl, by decide, by decide, by decide +kernel⟩ rfl rfl rfl rfl ⟨by decide, by decide⟩ (Nat.le_of_ble_eq_true rfl) ⟨Nat.le_of_ble_eq_true rfl, Nat.le_of_ble_eq_true rfl⟩ ob_tf (fun v9 x9 m9 hv => ?_)
    obtain ⟨rfl, rfl, rfl⟩ := hv
    refine r_bipush (v := -11) dL_refused_551 (by decide) ?_
    refine r_icmp_ne (tgt := 611) dL_refused_553 (by decide) (fun c553 => absurd rfl c553) (fun c553 => ?_)
    refine r_aload_n dL_refused_556 rfl ?_
    refine r_iconst (v := -1) dL_refused_557 (by decide) ?_
    refine r_callV (n := 1) (As := [.int (-1)]) (rest := []) dL_refused_558 (K_char J.1.2.2.2.2.1) (g_V q580 q581 q582 q2 q583) ⟨rfl, by decide, by decide, by decide +kernel⟩ rfl rfl rfl rfl ⟨by decide, by decide⟩ (Nat.le_of_ble_eq_true rfl) ⟨Nat.le_of_ble_eq_true rfl, Nat.le_of_ble_eq_true rfl⟩ ob_tf (fun v9 x9 m9 hv => ?_)
    obtain ⟨rfl, rfl, rfl⟩ := hv
    rw [show f_chr (M 14) (-1) = -11 from by rw [f_chr, if_pos (Or.inl (by decide))]]
    refine r_bipush (v := -11) dL_refused_561 (by decide) ?_
    refine r_icmp_ne (tgt := 611) dL_refused_563 (by decide) (fun c563 => absurd rfl c563) (fun c563 => ?_)
    refine r_aload_n dL_refused_566 rfl ?_
    refine r_bipush (v := 60) dL_refused_567 (by decide) ?_
    refine r_callV (n := 1) (As := [.int (60)]) (rest := []) dL_refused_569 (K_char J.1.2.2.2.2.1) (g_V q580 q581 q582 q2 q583) ⟨rfl, by decide, by decide, by decide +kernel⟩ rfl rfl rfl rfl ⟨by decide, by decide⟩ (Nat.le_of_ble_eq_true rfl) ⟨Nat.le_of_ble_eq_true rfl, Nat.le_of_ble_eq_true rfl⟩ ob_tf (fun v9 x9 m9 hv => ?_)
    obtain ⟨rfl, rfl, rfl⟩ := hv
    rw [show f_chr (M 14) 60 = -11 from by rw [f_chr, if_pos (Or.inr (by rw [J.1.2.2.2.2.1.1]; exact Int32.le_of_lt (nI_lt (a := ll (M 14)) (b := 60) (by have := J.2; omega) (by omega))))]]
    refine r_bipush (v := -11) dL_refused_572 (by decide) ?_
    refine r_icmp_ne (tgt := 611) dL_refused_574 (by decide) (fun c574 => absurd rfl c574) (fun c574 => ?_)
    refine r_aload_n dL_refused_577 rfl ?_
    refine r_bipush (v := 19) dL_refused_578 (by decide) ?_
    refine r_callV (n := 1) (As := [.int (19)]) (rest := []) dL_refused_580 (K_acc (x := 19) o.1) (g_V q149 q150 q151 q2 q152) ⟨rfl, by decide, by decide, by decide +kernel⟩ rfl rfl rfl rfl ⟨by decide, by decide⟩ (Nat.le_of_ble_eq_true rfl) ⟨Nat.le_of_ble_eq_true rfl, Nat.le_of_ble_eq_true rfl⟩ ob_tf (fun v9 x9 m9 hv => ?_)
    obtain ⟨rfl, rfl, rfl⟩ := hv
    rw [show f_acc (M 13) F P 19 = -12 from by rfl]
    refine r_bipush (v := -12) dL_refused_583 (by decide) ?_
    refine r_icmp_ne (tgt := 611) dL_refused_585 (by decide) (fun c585 => absurd rfl c585) (fun c585 => ?_)
    refine r_aload_n dL_refused_588 rfl ?_
    refine r_iconst (v := -1) dL_refused_589 (by decide) ?_
    refine r_callV (n := 1) (As := [.int (-1)]) (rest := []) dL_refused_590 (K_acc (x := -1) o.1) (g_V q149 q150 q151 q2 q152) ⟨rfl, by decide, by decide, by decide +kernel⟩ rfl rfl rfl rfl ⟨by decide, by decide⟩ (Nat.le_of_ble_eq_true rfl) ⟨Nat.le_of_ble_eq_true rfl, Nat.le_of_ble_eq_true rfl⟩ ob_tf (fun v9 x9 m9 hv => ?_)
    obtain ⟨rfl, rfl, rfl⟩ := hv
    rw [show f_acc (M 13) F P (-1) = -12 from by rfl]
    refine r_bipush (v := -12) dL_refused_593 (by decide) ?_
    refine r_icmp_ne (tgt := 611) dL_refused_595 (by decide) (fun c595 => absurd rfl c595) (fun c595 => ?_)
    refine r_aload_n dL_refused_598 rfl ?_
    refine r_iconst (v := 2) dL_refused_599 (by decide) ?_
    refine r_iconst (v := 0) dL_refused_600 (by decide) ?_
    refine r_callS (n := 3) (As := [.ref (ad 0 0), .int 2, .int 0]) (rest := []) dL_refused_601 (K_is (a := 2) (b := 0)) ⟨q421, q422, q423, q424⟩ ⟨rfl, by decide, by decide, by decide +kernel⟩ rfl rfl rfl rfl ⟨by decide, by decide⟩ (Nat.le_of_ble_eq_true rfl) ⟨Nat.le_of_ble_eq_true rfl, Nat.le_of_ble_eq_true rfl⟩ (fun v9 x9 m9 hv => ?_)
    obtain ⟨rfl, rfl, rfl⟩ := hv
    refine r_if_eq (tgt := 611) dL_refused_604 (by decide) (fun c604 => absurd (bI_0 c604) (by rw [hF2]; decide)) (fun c604 => ?_)
    refine r_iconst (v := 1) dL_refused_607 (by decide) ?_
    refine r_goto (tgt := 612) dL_refused_608 (by decide) ?_
    refine r_istore dL_refused_612 (by decide) rfl ?_
    exact T614 _ _ J
  have T409 : ∀ (M : tM) (F : tP), refd k u w h M F P → f_is F 2 0 = true → Rj cL_refused RL 7 (some .boolean) (rmd 20) 0 0 cA ad (fun v x m => ∃ (M2 : tM) (F2 P2 : tP), v = some (.int 1) ∧ x = ex ∧ m = mm M2 F2 P2 ∧ inv M2 F2 P2 k u (w + 324) h ∧ same P P2) ex 0 0 409 [some (.ref (ad 0 0)), some (.long (f_asks P)), none, some (.int (nI (cn P))), some (.int (P 0 3)), some (.int 1), none] [] (mm M F P) := by
    intro M F J hF2
    refine r_aload_n dL_refused_409 rfl ?_
    refine r_iload_n dL_refused_410 rfl ?_
    refine r_callV (n := 1) (As := [.int (nI (cn P))]) (rest := []) dL_refused_411 (no_doneIn (hs_f o.1.1) o) (g_V q467 q468 q469 q2 q470) ⟨rfl, by decide, by decide, by decide +kernel⟩ rfl rfl rfl rfl ⟨by decide, by decide⟩ (Nat.le_of_ble_eq_true rfl) ⟨Nat.le_of_ble_eq_true rfl, Nat.le_of_ble_eq_true rfl⟩ ob_tf (fun v9 x9 m9 hv => ?_)
    obtain ⟨rfl, rfl, rfl⟩ := hv
    refine r_bipush (v := -11) dL_refused_414 (by decide) ?_
    refine r_icmp_ne (tgt := 611) dL_refused_416 (by decide) (fun c416 => absurd rfl c416) (fun c416 => ?_)
    refine r_aload_n dL_refused_419 rfl ?_
    refine r_iload_n dL_refused_420 rfl ?_
    refine r_callV (n := 1) (As := [.int (nI (cn P))]) (rest := []) dL_refused_421 (no_chain (hs_f o.1.1) o) (g_V q437 q438 q439 q2 q440) ⟨rfl, by decide, by decide, by decide +kernel⟩ rfl rfl rfl rfl ⟨by decide, by decide⟩ (Nat.le_of_ble_eq_true rfl) ⟨Nat.le_of_ble_eq_true rfl, Nat.le_of_ble_eq_true rfl⟩ ob_tf (fun v9 x9 m9 hv => ?_)
    obtain ⟨rfl, rfl, rfl⟩ := hv
    refine r_bipush (v := -11) dL_refused_424 (by decide) ?_
    refine r_icmp_ne (tgt := 611) dL_refused_426 (by decide) (fun c426 => absurd rfl c426) (fun c426 => ?_)
    refine r_aload_n dL_refused_429 rfl ?_
    refine r_iconst (v := -1) dL_refused_430 (by decide) ?_
    refine r_callV (n := 1) (As := [.int (-1)]) (rest := []) dL_refused_431 (no_chain2 hs_m o) (g_V q454 q455 q456 q2 q457) ⟨rfl, by decide, by decide, by decide +kernel⟩ rfl rfl rfl rfl ⟨by decide, by decide⟩ (Nat.le_of_ble_eq_true rfl) ⟨Nat.le_of_ble_eq_true rfl, Nat.le_of_ble_eq_true rfl⟩ ob_tf (fun v9 x9 m9 hv => ?_)
    obtain ⟨rfl, rfl, rfl⟩ := hv
    refine r_bipush (v := -11) dL_refused_434 (by decide) ?_
    refine r_icmp_ne (tgt := 611) dL_refused_436 (by decide) (fun c436 => absurd rfl c436) (fun c436 => ?_)
    refine r_aload_n dL_refused_439 rfl ?_
    refine r_bipush (v := 16) dL_refused_440 (by decide) ?_
    refine r_bipush (v := 9) dL_refused_442 (by decide) ?_
    refine r_callV (n := 2) (As := [.int (16), .int (9)]) (rest := []) dL_refused_444 (K_logged o.2.2.1 o.2.2.2.2.2.2) (g_V q595 q596 q597 q2 q598) ⟨rfl, by decide, by decide, by decide +kernel⟩ rfl rfl rfl rfl ⟨by decide, by decide⟩ (Nat.le_of_ble_eq_true rfl) ⟨Nat.le_of_ble_eq_true rfl, Nat.le_of_ble_eq_true rfl⟩ ob_tf (fun v9 x9 m9 hv => ?_)
    obtain ⟨rfl, rfl, rfl⟩ := hv
    rw [show f_log P 16 9 = -11 from by rw [f_log, if_pos (Or.inr (by rw [o.2.2.2.2.2.2.1]; exact nI_le2 o.2.2.2.2.2.2.2))]]
    refine r_bipush (v := -11) dL_refused_447 (by decide) ?_
    refine r_icmp_ne (tgt := 611) dL_refused_449 (by decide) (fun c449 => absurd rfl c449) (fun c449 => ?_)
    refine r_aload_n dL_refused_452 rfl ?_
    refine r_iconst (v := -1) dL_refused_453 (by decide) ?_
    refine r_iconst (v := 0) dL_refused_454 (by decide) ?_
    refine r_callV (n := 2) (As := [.int (-1), .int (0)]) (rest := []) dL_refused_455 (K_logged o.2.2.1 o.2.2.2.2.2.2) (g_V q595 q596 q597 q2 q598) ⟨rfl, by decide, by decide, by decide +kernel⟩ rfl rfl rfl rfl ⟨by decide, by decide⟩ (Nat.le_of_ble_eq_true rfl) ⟨Nat.le_of_ble_eq_true rfl, Nat.le_of_ble_eq_true rfl⟩ ob_tf (fun v9 x9 m9 hv => ?_)
    obtain ⟨rfl, rfl, rfl⟩ := hv
    rw [show f_log P (-1) 0 = -11 from by rw [f_log, if_pos (Or.inl (by decide))]]
    refine r_bipush (v := -11) dL_refused_458 (by decide) ?_
    refine r_icmp_ne (tgt := 611) dL_refused_460 (by decide) (fun c460 => absurd rfl c460) (fun c460 => ?_)
    refine r_aload_n dL_refused_463 rfl ?_
    refine r_iconst (v := 0) dL_refused_464 (by decide) ?_
    refine r_iconst (v := 0) dL_refused_465 (by decide) ?_
    refine r_callV (n := 2) (As := [.int (0), .int (0)]) (rest := []) dL_refused_466 (K_logged o.2.2.1 o.2.2.2.2.2.2) (g_V q595 q596 q597 q2 q598) ⟨rfl, by decide, by decide, by decide +kernel⟩ rfl rfl rfl rfl ⟨by decide, by decide⟩ (Nat.le_of_ble_eq_true rfl) ⟨Nat.le_of_ble_eq_true rfl, Nat.le_of_ble_eq_true rfl⟩ ob_tf (fun v9 x9 m9 hv => ?_)
    obtain ⟨rfl, rfl, rfl⟩ := hv
    refine r_if_lt (tgt := 494) dL_refused_469 (by decide) (fun c469 => ?_) (fun c469 => ?_)
    · exact T494 _ _ J hF2
    · refine r_aload_n dL_refused_472 rfl ?_
      refine r_iconst (v := 0) dL_refused_473 (by decide) ?_
      refine r_iconst (v := 3) dL_refused_474 (by decide) ?_
      refine r_callV (n := 2) (As := [.int (0), .int (3)]) (rest := []) dL_refused_475 (K_logged o.2.2.1 o.2.2.2.2.2.2) (g_V q595 q596 q597 q2 q598) ⟨rfl, by decide, by decide, by decide +kernel⟩ rfl rfl rfl rfl ⟨by decide, by decide⟩ (Nat.le_of_ble_eq_true rfl) ⟨Nat.le_of_ble_eq_true rfl, Nat.le_of_ble_eq_true rfl⟩ ob_tf (fun v9 x9 m9 hv => ?_)
      obtain ⟨rfl, rfl, rfl⟩ := hv
      rw [show f_log P 0 3 = -12 from by rw [f_log, if_neg (fun z => z.elim (by decide) (fun y => c469 (by rw [f_log, if_pos (Or.inr y)]; decide))), if_pos (Or.inr (by decide))]]
      refine r_bipush (v := -12) dL_refused_478 (by decide) ?_
      refine r_icmp_ne (tgt := 611) dL_refused_480 (by decide) (fun c480 => absurd rfl c480) (fun c480 => ?_)
      refine r_aload_n dL_refused_483 rfl ?_
      refine r_iconst (v := 0) dL_refused_484 (by decide) ?_
      refine r_iconst (v := -1) dL_refused_485 (by decide) ?_
      refine r_callV (n := 2) (As := [.int (0), .int (-1)]) (rest := []) dL_refused_486 (K_logged o.2.2.1 o.2.2.2.2.2.2) (g_V q595 q596 q597 q2 q598) ⟨rfl, by decide, by decide, by decide +kernel⟩ rfl rfl rfl rfl ⟨by decide, by decide⟩ (Nat.le_of_ble_eq_true rfl) ⟨Nat.le_of_ble_eq_true rfl, Nat.le_of_ble_eq_true rfl⟩ ob_tf (fun v9 x9 m9 hv => ?_)
      obtain ⟨rfl, rfl, rfl⟩ := hv
      rw [show f_log P 0 (-1) = -12 from by rw [f_log, if_neg (fun z => z.elim (by decide) (fun y => c469 (by rw [f_log, if_pos (Or.inr y)]; decide))), if_pos (Or.inl (by decide))]]
      refine r_bipush (v := -12) dL_refused_489 (by decide) ?_
      refine r_icmp_ne (tgt := 611) dL_refused_491 (by decide) (fun c491 => absurd rfl c491) (fun c491 => ?_)
      exact T494 _ _ J hF2
  have T298 : ∀ (M : tM) (F : tP), refd k u w h M F P → f_is F 2 0 = true → Rj cL_refused RL 7 (some .boolean) (rmd 20) 0 0 cA ad (fun v x m => ∃ (M2 : tM) (F2 P2 : tP), v = some (.int 1) ∧ x = ex ∧ m = mm M2 F2 P2 ∧ inv M2 F2 P2 k u (w + 324) h ∧ same P P2) ex 0 0 298 [some (.ref (ad 0 0)), some (.long (f_asks P)), none, some (.int (nI (cn P))), some (.int (P 0 3)), some (.int 1), none] [] (mm M F P) := by
    intro M F J hF2
    refine r_iload dL_refused_298 rfl ?_
    refine r_if_eq (tgt := 611) dL_refused_300 (by decide) (fun c300 => absurd c300 (by decide)) (fun c300 => ?_)
    refine r_aload_n dL_refused_303 rfl ?_
    refine r_iload_n dL_refused_304 rfl ?_
    refine r_bipush (v := 99) dL_refused_305 (by decide) ?_
    refine r_callV (n := 2) (As := [.int (nI (cn P)), .int (99)]) (rest := []) dL_refused_307 (K_stepOf o.1) (g_V q475 q476 q477 q2 q478) ⟨rfl, by decide, by decide, by decide +kernel⟩ rfl rfl rfl rfl ⟨by decide, by decide⟩ (Nat.le_of_ble_eq_true rfl) ⟨Nat.le_of_ble_eq_true rfl, Nat.le_of_ble_eq_true rfl⟩ ob_tf (fun v9 x9 m9 hv => ?_)
    obtain ⟨rfl, rfl, rfl⟩ := hv
    rw [show f_stepOf P (nI (cn P)) 99 = -11 from by rw [f_stepOf, if_pos (hs_f o.1.1)]]
    refine r_bipush (v := -11) dL_refused_310 (by decide) ?_
    refine r_icmp_ne (tgt := 611) dL_refused_312 (by decide) (fun c312 => absurd rfl c312) (fun c312 => ?_)
    refine r_aload_n dL_refused_315 rfl ?_
    refine r_iconst (v := 0) dL_refused_316 (by decide) ?_
    refine r_bipush (v := 10) dL_refused_317 (by decide) ?_
    refine r_callV (n := 2) (As := [.int (0), .int (10)]) (rest := []) dL_refused_319 (K_stepOf o.1) (g_V q475 q476 q477 q2 q478) ⟨rfl, by decide, by decide, by decide +kernel⟩ rfl rfl rfl rfl ⟨by decide, by decide⟩ (Nat.le_of_ble_eq_true rfl) ⟨Nat.le_of_ble_eq_true rfl, Nat.le_of_ble_eq_true rfl⟩ ob_tf (fun v9 x9 m9 hv => ?_)
    obtain ⟨rfl, rfl, rfl⟩ := hv
    rw [show f_stepOf P 0 10 = -12 from by rw [f_stepOf, if_neg (by rw [show f_hasStep P 0 = true from hs_t (a := 0) o.1.1 o.1.2 (by omega)]; decide)]; rfl]
    refine r_bipush (v := -12) dL_refused_322 (by decide) ?_
    refine r_icmp_ne (tgt := 611) dL_refused_324 (by decide) (fun c324 => absurd rfl c324) (fun c324 => ?_)
    refine r_aload_n dL_refused_327 rfl ?_
    refine r_iconst (v := 0) dL_refused_328 (by decide) ?_
    refine r_iconst (v := -1) dL_refused_329 (by decide) ?_
    refine r_callV (n := 2) (As := [.int (0), .int (-1)]) (rest := []) dL_refused_330 (K_stepOf o.1) (g_V q475 q476 q477 q2 q478) ⟨rfl, by decide, by decide, by decide +kernel⟩ rfl rfl rfl rfl ⟨by decide, by decide⟩ (Nat.le_of_ble_eq_true rfl) ⟨Nat.le_of_ble_eq_true rfl, Nat.le_of_ble_eq_true rfl⟩ ob_tf (fun v9 x9 m9 hv => ?_)
    obtain ⟨rfl, rfl, rfl⟩ := hv
    rw [show f_stepOf P 0 (-1) = -12 from by rw [f_stepOf, if_neg (by rw [show f_hasStep P 0 = true from hs_t (a := 0) o.1.1 o.1.2 (by omega)]; decide)]; rfl]
    refine r_bipush (v := -12) dL_refused_333 (by decide) ?_
    refine r_icmp_ne (tgt := 611) dL_refused_335 (by decide) (fun c335 => absurd rfl c335) (fun c335 => ?_)
    refine r_aload_n dL_refused_338 rfl ?_
    refine r_iload_n dL_refused_339 rfl ?_
    refine r_callV (n := 1) (As := [.int (nI (cn P))]) (rest := []) dL_refused_340 (K_ready o.1) (g_V q539 q540 q541 q2 q542) ⟨rfl, by decide, by decide, by decide +kernel⟩ rfl rfl rfl rfl ⟨by decide, by decide⟩ (Nat.le_of_ble_eq_true rfl) ⟨Nat.le_of_ble_eq_true rfl, Nat.le_of_ble_eq_true rfl⟩ ob_tf (fun v9 x9 m9 hv => ?_)
    obtain ⟨rfl, rfl, rfl⟩ := hv
    rw [show f_ready P (nI (cn P)) = -11 from by rw [f_ready, if_pos (hs_f o.1.1)]]
    refine r_bipush (v := -11) dL_refused_343 (by decide) ?_
    refine r_icmp_ne (tgt := 611) dL_refused_345 (by decide) (fun c345 => absurd rfl c345) (fun c345 => ?_)
    refine r_aload_n dL_refused_348 rfl ?_
    refine r_iconst (v := -1) dL_refused_349 (by decide) ?_
    refine r_callV (n := 1) (As := [.int (-1)]) (rest := []) dL_refused_350 (K_ready o.1) (g_V q539 q540 q541 q2 q542) ⟨rfl, by decide, by decide, by decide +kernel⟩ rfl rfl rfl rfl ⟨by decide, by decide⟩ (Nat.le_of_ble_eq_true rfl) ⟨Nat.le_of_ble_eq_true rfl, Nat.le_of_ble_eq_true rfl⟩ ob_tf (fun v9 x9 m9 hv => ?_)
    obtain ⟨rfl, rfl, rfl⟩ := hv
    rw [show f_ready P (-1) = -11 from by rw [f_ready, if_pos hs_m]]
    refine r_bipush (v := -11) dL_refused_353 (by decide) ?_
    refine r_icmp_ne (tgt := 611) dL_refused_355 (by decide) (fun c355 => absurd rfl c355) (fun c355 => ?_)
    refine r_aload_n dL_refused_358 rfl ?_
    refine r_iload dL_refused_359 rfl ?_
    refine r_bipush (v := 9) dL_refused_361 (by decide) ?_
    refine r_callV (n := 2) (As := [.int (P 0 3), .int (9)]) (rest := []) dL_refused_363 (K_mileOf o.1 o.2.2.2.2.1 (okU_M o.2.2.2.2.2.1 o.1)) (g_V q585 q586 q587 q2 q588) ⟨rfl, by decide, by decide, by decide +kernel⟩ rfl rfl rfl rfl ⟨by decide, by decide⟩ (Nat.le_of_ble_eq_true rfl) ⟨Nat.le_of_ble_eq_true rfl, Nat.le_of_ble_eq_true rfl⟩ ob_tf (fun v9 x9 m9 hv => ?_)
    obtain ⟨rfl, rfl, rfl⟩ := hv
    rw [show f_mileOf P (P 0 3) 9 = -11 from by rw [f_mileOf, if_pos (Or.inr (Int32.le_refl _))]]
    refine r_bipush (v := -11) dL_refused_366 (by decide) ?_
    refine r_icmp_ne (tgt := 611) dL_refused_368 (by decide) (fun c368 => absurd rfl c368) (fun c368 => ?_)
    refine r_aload_n dL_refused_371 rfl ?_
    refine r_iconst (v := -1) dL_refused_372 (by decide) ?_
    refine r_iconst (v := 0) dL_refused_373 (by decide) ?_
    refine r_callV (n := 2) (As := [.int (-1), .int (0)]) (rest := []) dL_refused_374 (K_mileOf o.1 o.2.2.2.2.1 (okU_M o.2.2.2.2.2.1 o.1)) (g_V q585 q586 q587 q2 q588) ⟨rfl, by decide, by decide, by decide +kernel⟩ rfl rfl rfl rfl ⟨by decide, by decide⟩ (Nat.le_of_ble_eq_true rfl) ⟨Nat.le_of_ble_eq_true rfl, Nat.le_of_ble_eq_true rfl⟩ ob_tf (fun v9 x9 m9 hv => ?_)
    obtain ⟨rfl, rfl, rfl⟩ := hv
    rw [show f_mileOf P (-1) 0 = -11 from by rw [f_mileOf, if_pos (Or.inl (by decide))]]
    refine r_bipush (v := -11) dL_refused_377 (by decide) ?_
    refine r_icmp_ne (tgt := 611) dL_refused_379 (by decide) (fun c379 => absurd rfl c379) (fun c379 => ?_)
    refine r_iload dL_refused_382 rfl ?_
    refine r_if_eq (tgt := 409) dL_refused_384 (by decide) (fun c384 => ?_) (fun c384 => ?_)
    · exact T409 _ _ J hF2
    · refine r_aload_n dL_refused_387 rfl ?_
      refine r_iconst (v := 0) dL_refused_388 (by decide) ?_
      refine r_iconst (v := 4) dL_refused_389 (by decide) ?_
      refine r_callV (n := 2) (As := [.int (0), .int (4)]) (rest := []) dL_refused_390 (K_mileOf o.1 o.2.2.2.2.1 (okU_M o.2.2.2.2.2.1 o.1)) (g_V q585 q586 q587 q2 q588) ⟨rfl, by decide, by decide, by decide +kernel⟩ rfl rfl rfl rfl ⟨by decide, by decide⟩ (Nat.le_of_ble_eq_true rfl) ⟨Nat.le_of_ble_eq_true rfl, Nat.le_of_ble_eq_true rfl⟩ ob_tf (fun v9 x9 m9 hv => ?_)
      obtain ⟨rfl, rfl, rfl⟩ := hv
      rw [show f_mileOf P 0 4 = -12 from by rw [f_mileOf, if_neg (fun z => z.elim (by decide) (fun y => c384 (nI_le0 o.2.2.2.2.1.1 (by have := o.2.2.2.2.1.2; omega) y)))]; rfl]
      refine r_bipush (v := -12) dL_refused_393 (by decide) ?_
      refine r_icmp_ne (tgt := 611) dL_refused_395 (by decide) (fun c395 => absurd rfl c395) (fun c395 => ?_)
      refine r_aload_n dL_refused_398 rfl ?_
      refine r_iconst (v := 0) dL_refused_399 (by decide) ?_
      refine r_iconst (v := -1) dL_refused_400 (by decide) ?_
      refine r_callV (n := 2) (As := [.int (0), .int (-1)]) (rest := []) dL_refused_401 (K_mileOf o.1 o.2.2.2.2.1 (okU_M o.2.2.2.2.2.1 o.1)) (g_V q585 q586 q587 q2 q588) ⟨rfl, by decide, by decide, by decide +kernel⟩ rfl rfl rfl rfl ⟨by decide, by decide⟩ (Nat.le_of_ble_eq_true rfl) ⟨Nat.le_of_ble_eq_true rfl, Nat.le_of_ble_eq_true rfl⟩ ob_tf (fun v9 x9 m9 hv => ?_)
      obtain ⟨rfl, rfl, rfl⟩ := hv
      rw [show f_mileOf P 0 (-1) = -12 from by rw [f_mileOf, if_neg (fun z => z.elim (by decide) (fun y => c384 (nI_le0 o.2.2.2.2.1.1 (by have := o.2.2.2.2.1.2; omega) y)))]; rfl]
      refine r_bipush (v := -12) dL_refused_404 (by decide) ?_
      refine r_icmp_ne (tgt := 611) dL_refused_406 (by decide) (fun c406 => absurd rfl c406) (fun c406 => ?_)
      exact T409 _ _ J hF2
  refine r_aload_n dL_refused_0 rfl ?_
  refine r_callS (n := 1) (As := [.ref (ad 0 0)]) (rest := []) dL_refused_1 (K_asks o I.2.2.2.2.1) ⟨q499, q500, q423, q501⟩ ⟨rfl, by decide, by decide, by decide +kernel⟩ rfl rfl rfl rfl ⟨by decide, by decide⟩ (Nat.le_of_ble_eq_true rfl) ⟨Nat.le_of_ble_eq_true rfl, Nat.le_of_ble_eq_true rfl⟩ (fun v9 x9 m9 hv => ?_)
  obtain ⟨rfl, rfl, X, N, C9, ⟨oN, hN⟩, rfl⟩ := hv
  have J : refd k u w h (aM M X N C9) F P := ⟨inv_aM I oN, by rw [aM_14]; exact hN⟩
  generalize aM M X N C9 = M1 at J ⊢
  refine r_lstore_n dL_refused_4 (by decide) rfl ?_
  refine r_aload_n dL_refused_5 rfl ?_
  refine r_iconst (v := 1) dL_refused_6 (by decide) ?_
  refine r_callV (n := 1) (As := [.int 1]) (rest := []) dL_refused_7 (K_acc (x := 1) o.1) (g_V q149 q150 q151 q2 q152) ⟨rfl, by decide, by decide, by decide +kernel⟩ rfl rfl rfl rfl ⟨by decide, by decide⟩ (Nat.le_of_ble_eq_true rfl) ⟨Nat.le_of_ble_eq_true rfl, Nat.le_of_ble_eq_true rfl⟩ ob_tf (fun v9 x9 m9 hv => ?_)
  obtain ⟨rfl, rfl, rfl⟩ := hv
  rw [show f_acc (M1 13) F P 1 = nI (cn P) from o.1.1]
  refine r_istore_n dL_refused_10 (by decide) rfl ?_
  refine r_aload_n dL_refused_11 rfl ?_
  refine r_bipush (v := 11) dL_refused_12 (by decide) ?_
  refine r_callV (n := 1) (As := [.int 11]) (rest := []) dL_refused_14 (K_acc (x := 11) o.1) (g_V q149 q150 q151 q2 q152) ⟨rfl, by decide, by decide, by decide +kernel⟩ rfl rfl rfl rfl ⟨by decide, by decide⟩ (Nat.le_of_ble_eq_true rfl) ⟨Nat.le_of_ble_eq_true rfl, Nat.le_of_ble_eq_true rfl⟩ ob_tf (fun v9 x9 m9 hv => ?_)
  obtain ⟨rfl, rfl, rfl⟩ := hv
  rw [show f_acc (M1 13) F P 11 = P 0 3 from rfl]
  refine r_istore dL_refused_17 (by decide) rfl ?_
  refine r_aload_n dL_refused_19 rfl ?_
  refine r_iconst (v := 0) dL_refused_20 (by decide) ?_
  refine r_iconst (v := 0) dL_refused_21 (by decide) ?_
  refine r_iconst (v := 0) dL_refused_22 (by decide) ?_
  refine r_iconst (v := 1) dL_refused_23 (by decide) ?_
  refine r_callV (n := 4) (As := [.int (0), .int (0), .int (0), .int ((bI true))]) (rest := []) dL_refused_24 (ref_q J (show t_step F P (0) (0) (0) ((bI true)) = (-12, F, P) from by unfold t_step; rw [if_pos (Or.inl (by decide))]) (by decide) kF_rfl (K_step (a := true) (inv_okm J.1) o.1 o.2.1 o.2.2.1 o.2.2.2.1 o.2.2.2.2.1)) (g_V q417 q418 q419 q2 q420) ⟨rfl, by decide, by decide, by decide +kernel⟩ rfl rfl rfl rfl ⟨by decide, by decide⟩ (Nat.le_of_ble_eq_true rfl) ⟨Nat.le_of_ble_eq_true rfl, Nat.le_of_ble_eq_true rfl⟩ ob_tf (fun v9 x9 m9 hv => ?_)
  obtain ⟨M9, rfl, rfl, rfl, J9⟩ := hv
  clear J
  have J := J9
  clear J9
  refine r_bipush (v := -12) dL_refused_27 (by decide) ?_
  refine r_icmp_ne (tgt := 295) dL_refused_29 (by decide) (fun c29 => absurd rfl c29) (fun c29 => ?_)
  refine r_aload_n dL_refused_32 rfl ?_
  refine r_bipush (v := 10) dL_refused_33 (by decide) ?_
  refine r_iconst (v := 0) dL_refused_35 (by decide) ?_
  refine r_iconst (v := 0) dL_refused_36 (by decide) ?_
  refine r_iconst (v := 1) dL_refused_37 (by decide) ?_
  refine r_callV (n := 4) (As := [.int (10), .int (0), .int (0), .int ((bI true))]) (rest := []) dL_refused_38 (ref_q J (show t_step F P (10) (0) (0) ((bI true)) = (-12, F, P) from by unfold t_step; rw [if_pos (Or.inl (by decide))]) (by decide) kF_rfl (K_step (a := true) (inv_okm J.1) o.1 o.2.1 o.2.2.1 o.2.2.2.1 o.2.2.2.2.1)) (g_V q417 q418 q419 q2 q420) ⟨rfl, by decide, by decide, by decide +kernel⟩ rfl rfl rfl rfl ⟨by decide, by decide⟩ (Nat.le_of_ble_eq_true rfl) ⟨Nat.le_of_ble_eq_true rfl, Nat.le_of_ble_eq_true rfl⟩ ob_tf (fun v9 x9 m9 hv => ?_)
  obtain ⟨M9, rfl, rfl, rfl, J9⟩ := hv
  clear J
  have J := J9
  clear J9
  refine r_bipush (v := -12) dL_refused_41 (by decide) ?_
  refine r_icmp_ne (tgt := 295) dL_refused_43 (by decide) (fun c43 => absurd rfl c43) (fun c43 => ?_)
  refine r_aload_n dL_refused_46 rfl ?_
  refine r_iconst (v := 1) dL_refused_47 (by decide) ?_
  refine r_iconst (v := -1) dL_refused_48 (by decide) ?_
  refine r_iconst (v := 0) dL_refused_49 (by decide) ?_
  refine r_iconst (v := 1) dL_refused_50 (by decide) ?_
  refine r_callV (n := 4) (As := [.int (1), .int (-1), .int (0), .int ((bI true))]) (rest := []) dL_refused_51 (ref_q J (show t_step F P (1) (-1) (0) ((bI true)) = (-12, F, P) from by unfold t_step; rw [if_pos (Or.inr (Or.inl (by decide)))]) (by decide) kF_rfl (K_step (a := true) (inv_okm J.1) o.1 o.2.1 o.2.2.1 o.2.2.2.1 o.2.2.2.2.1)) (g_V q417 q418 q419 q2 q420) ⟨rfl, by decide, by decide, by decide +kernel⟩ rfl rfl rfl rfl ⟨by decide, by decide⟩ (Nat.le_of_ble_eq_true rfl) ⟨Nat.le_of_ble_eq_true rfl, Nat.le_of_ble_eq_true rfl⟩ ob_tf (fun v9 x9 m9 hv => ?_)
  obtain ⟨M9, rfl, rfl, rfl, J9⟩ := hv
  clear J
  have J := J9
  clear J9
  refine r_bipush (v := -12) dL_refused_54 (by decide) ?_
  refine r_icmp_ne (tgt := 295) dL_refused_56 (by decide) (fun c56 => absurd rfl c56) (fun c56 => ?_)
  refine r_aload_n dL_refused_59 rfl ?_
  refine r_iconst (v := 1) dL_refused_60 (by decide) ?_
  refine r_iconst (v := 4) dL_refused_61 (by decide) ?_
  refine r_iconst (v := 0) dL_refused_62 (by decide) ?_
  refine r_iconst (v := 1) dL_refused_63 (by decide) ?_
  refine r_callV (n := 4) (As := [.int (1), .int (4), .int (0), .int ((bI true))]) (rest := []) dL_refused_64 (ref_q J (show t_step F P (1) (4) (0) ((bI true)) = (-12, F, P) from by unfold t_step; rw [if_pos (Or.inr (Or.inl (by decide)))]) (by decide) kF_rfl (K_step (a := true) (inv_okm J.1) o.1 o.2.1 o.2.2.1 o.2.2.2.1 o.2.2.2.2.1)) (g_V q417 q418 q419 q2 q420) ⟨rfl, by decide, by decide, by decide +kernel⟩ rfl rfl rfl rfl ⟨by decide, by decide⟩ (Nat.le_of_ble_eq_true rfl) ⟨Nat.le_of_ble_eq_true rfl, Nat.le_of_ble_eq_true rfl⟩ ob_tf (fun v9 x9 m9 hv => ?_)
  obtain ⟨M9, rfl, rfl, rfl, J9⟩ := hv
  clear J
  have J := J9
  clear J9
  refine r_bipush (v := -12) dL_refused_67 (by decide) ?_
  refine r_icmp_ne (tgt := 295) dL_refused_69 (by decide) (fun c69 => absurd rfl c69) (fun c69 => ?_)
  refine r_aload_n dL_refused_72 rfl ?_
  refine r_iconst (v := 1) dL_refused_73 (by decide) ?_
  refine r_iconst (v := 0) dL_refused_74 (by decide) ?_
  refine r_iconst (v := -1) dL_refused_75 (by decide) ?_
  refine r_iconst (v := 1) dL_refused_76 (by decide) ?_
  refine r_callV (n := 4) (As := [.int (1), .int (0), .int (-1), .int ((bI true))]) (rest := []) dL_refused_77 (ref_q J (show t_step F P (1) (0) (-1) ((bI true)) = (-12, F, P) from by unfold t_step; rw [if_pos (Or.inr (Or.inr (by decide)))]) (by decide) kF_rfl (K_step (a := true) (inv_okm J.1) o.1 o.2.1 o.2.2.1 o.2.2.2.1 o.2.2.2.2.1)) (g_V q417 q418 q419 q2 q420) ⟨rfl, by decide, by decide, by decide +kernel⟩ rfl rfl rfl rfl ⟨by decide, by decide⟩ (Nat.le_of_ble_eq_true rfl) ⟨Nat.le_of_ble_eq_true rfl, Nat.le_of_ble_eq_true rfl⟩ ob_tf (fun v9 x9 m9 hv => ?_)
  obtain ⟨M9, rfl, rfl, rfl, J9⟩ := hv
  clear J
  have J := J9
  clear J9
  refine r_bipush (v := -12) dL_refused_80 (by decide) ?_
  refine r_icmp_ne (tgt := 295) dL_refused_82 (by decide) (fun c82 => absurd rfl c82) (fun c82 => ?_)
  refine r_aload_n dL_refused_85 rfl ?_
  refine r_iconst (v := 1) dL_refused_86 (by decide) ?_
  refine r_iconst (v := 0) dL_refused_87 (by decide) ?_
  refine r_iconst (v := 4) dL_refused_88 (by decide) ?_
  refine r_iconst (v := 1) dL_refused_89 (by decide) ?_
  refine r_callV (n := 4) (As := [.int (1), .int (0), .int (4), .int ((bI true))]) (rest := []) dL_refused_90 (ref_q J (show t_step F P (1) (0) (4) ((bI true)) = (-12, F, P) from by unfold t_step; rw [if_pos (Or.inr (Or.inr (by decide)))]) (by decide) kF_rfl (K_step (a := true) (inv_okm J.1) o.1 o.2.1 o.2.2.1 o.2.2.2.1 o.2.2.2.2.1)) (g_V q417 q418 q419 q2 q420) ⟨rfl, by decide, by decide, by decide +kernel⟩ rfl rfl rfl rfl ⟨by decide, by decide⟩ (Nat.le_of_ble_eq_true rfl) ⟨Nat.le_of_ble_eq_true rfl, Nat.le_of_ble_eq_true rfl⟩ ob_tf (fun v9 x9 m9 hv => ?_)
  obtain ⟨M9, rfl, rfl, rfl, J9⟩ := hv
  clear J
  have J := J9
  clear J9
  refine r_bipush (v := -12) dL_refused_93 (by decide) ?_
  refine r_icmp_ne (tgt := 295) dL_refused_95 (by decide) (fun c95 => absurd rfl c95) (fun c95 => ?_)
  refine r_aload_n dL_refused_98 rfl ?_
  refine r_iload_n dL_refused_99 rfl ?_
  refine r_iconst (v := 0) dL_refused_100 (by decide) ?_
  refine r_callV (n := 2) (As := [.int (nI (cn P)), .int (0)]) (rest := []) dL_refused_101 (ref_q J (show t_need F P (nI (cn P)) (0) = (-11, F, P) from by unfold t_need; rw [if_pos (Or.inl (hs_f o.1.1))]) (by decide) kF_rfl (K_need (inv_okm J.1) o.1 o.2.1 o.2.2.1 o.2.2.2.1 o.2.2.2.2.1)) (g_V q429 q430 q431 q2 q432) ⟨rfl, by decide, by decide, by decide +kernel⟩ rfl rfl rfl rfl ⟨by decide, by decide⟩ (Nat.le_of_ble_eq_true rfl) ⟨Nat.le_of_ble_eq_true rfl, Nat.le_of_ble_eq_true rfl⟩ ob_tf (fun v9 x9 m9 hv => ?_)
  obtain ⟨M9, rfl, rfl, rfl, J9⟩ := hv
  clear J
  have J := J9
  clear J9
  refine r_bipush (v := -11) dL_refused_104 (by decide) ?_
  refine r_icmp_ne (tgt := 295) dL_refused_106 (by decide) (fun c106 => absurd rfl c106) (fun c106 => ?_)
  refine r_aload_n dL_refused_109 rfl ?_
  refine r_iconst (v := 0) dL_refused_110 (by decide) ?_
  refine r_iload_n dL_refused_111 rfl ?_
  refine r_callV (n := 2) (As := [.int (0), .int (nI (cn P))]) (rest := []) dL_refused_112 (ref_q J (show t_need F P (0) (nI (cn P)) = (-11, F, P) from by unfold t_need; rw [if_pos (Or.inr (hs_f o.1.1))]) (by decide) kF_rfl (K_need (inv_okm J.1) o.1 o.2.1 o.2.2.1 o.2.2.2.1 o.2.2.2.2.1)) (g_V q429 q430 q431 q2 q432) ⟨rfl, by decide, by decide, by decide +kernel⟩ rfl rfl rfl rfl ⟨by decide, by decide⟩ (Nat.le_of_ble_eq_true rfl) ⟨Nat.le_of_ble_eq_true rfl, Nat.le_of_ble_eq_true rfl⟩ ob_tf (fun v9 x9 m9 hv => ?_)
  obtain ⟨M9, rfl, rfl, rfl, J9⟩ := hv
  clear J
  have J := J9
  clear J9
  refine r_bipush (v := -11) dL_refused_115 (by decide) ?_
  refine r_icmp_ne (tgt := 295) dL_refused_117 (by decide) (fun c117 => absurd rfl c117) (fun c117 => ?_)
  refine r_aload_n dL_refused_120 rfl ?_
  refine r_iconst (v := -1) dL_refused_121 (by decide) ?_
  refine r_iconst (v := -1) dL_refused_122 (by decide) ?_
  refine r_callV (n := 2) (As := [.int ((-1)), .int ((-1))]) (rest := []) dL_refused_123 (ref_q J (show t_need F P ((-1)) ((-1)) = (-11, F, P) from by unfold t_need; rw [if_pos (Or.inl hs_m)]) (by decide) kF_rfl (K_need (inv_okm J.1) o.1 o.2.1 o.2.2.1 o.2.2.2.1 o.2.2.2.2.1)) (g_V q429 q430 q431 q2 q432) ⟨rfl, by decide, by decide, by decide +kernel⟩ rfl rfl rfl rfl ⟨by decide, by decide⟩ (Nat.le_of_ble_eq_true rfl) ⟨Nat.le_of_ble_eq_true rfl, Nat.le_of_ble_eq_true rfl⟩ ob_tf (fun v9 x9 m9 hv => ?_)
  obtain ⟨M9, rfl, rfl, rfl, J9⟩ := hv
  clear J
  have J := J9
  clear J9
  refine r_bipush (v := -11) dL_refused_126 (by decide) ?_
  refine r_icmp_ne (tgt := 295) dL_refused_128 (by decide) (fun c128 => absurd rfl c128) (fun c128 => ?_)
  refine r_aload_n dL_refused_131 rfl ?_
  refine r_iconst (v := 0) dL_refused_132 (by decide) ?_
  refine r_iconst (v := 0) dL_refused_133 (by decide) ?_
  refine r_callV (n := 2) (As := [.int (0), .int (0)]) (rest := []) dL_refused_134 (ref_q J (show t_need F P (0) (0) = (-14, (f_ref F (2) (0)), P) from by unfold t_need; rw [if_neg (by rw [show f_hasStep P 0 = true from (hs_t (a := 0) o.1.1 o.1.2 (by omega))]; decide), if_pos rfl]) (by decide) kF_ref (K_need (inv_okm J.1) o.1 o.2.1 o.2.2.1 o.2.2.2.1 o.2.2.2.2.1)) (g_V q429 q430 q431 q2 q432) ⟨rfl, by decide, by decide, by decide +kernel⟩ rfl rfl rfl rfl ⟨by decide, by decide⟩ (Nat.le_of_ble_eq_true rfl) ⟨Nat.le_of_ble_eq_true rfl, Nat.le_of_ble_eq_true rfl⟩ ob_tf (fun v9 x9 m9 hv => ?_)
  obtain ⟨M9, rfl, rfl, rfl, J9⟩ := hv
  clear J
  have J := J9
  clear J9
  have hF2 : f_is (f_ref F (2) (0)) (2) (0) = true := f_is_ref
  generalize (f_ref F (2) (0)) = F9 at J hF2 ⊢
  refine r_bipush (v := -14) dL_refused_137 (by decide) ?_
  refine r_icmp_ne (tgt := 295) dL_refused_139 (by decide) (fun c139 => absurd rfl c139) (fun c139 => ?_)
  refine r_aload_n dL_refused_142 rfl ?_
  refine r_iconst (v := 2) dL_refused_143 (by decide) ?_
  refine r_iconst (v := 0) dL_refused_144 (by decide) ?_
  refine r_callS (n := 3) (As := [.ref (ad 0 0), .int 2, .int 0]) (rest := []) dL_refused_145 (K_is (a := 2) (b := 0)) ⟨q421, q422, q423, q424⟩ ⟨rfl, by decide, by decide, by decide +kernel⟩ rfl rfl rfl rfl ⟨by decide, by decide⟩ (Nat.le_of_ble_eq_true rfl) ⟨Nat.le_of_ble_eq_true rfl, Nat.le_of_ble_eq_true rfl⟩ (fun v9 x9 m9 hv => ?_)
  obtain ⟨rfl, rfl, rfl⟩ := hv
  refine r_if_eq (tgt := 295) dL_refused_148 (by decide) (fun c148 => absurd (bI_0 c148) (by rw [hF2]; decide)) (fun c148 => ?_)
  refine r_aload_n dL_refused_151 rfl ?_
  refine r_iload_n dL_refused_152 rfl ?_
  refine r_bipush (v := 99) dL_refused_153 (by decide) ?_
  refine r_callV (n := 2) (As := [.int (nI (cn P)), .int (99)]) (rest := []) dL_refused_155 (ref_q J (show t_fault F9 P (nI (cn P)) (99) = (-11, F9, P) from by unfold t_fault; rw [if_pos (hs_f o.1.1)]) (by decide) kF_rfl (K_fault (inv_okm J.1) o.1 o.2.1 o.2.2.1 o.2.2.2.1 o.2.2.2.2.1)) (g_V q495 q496 q497 q2 q498) ⟨rfl, by decide, by decide, by decide +kernel⟩ rfl rfl rfl rfl ⟨by decide, by decide⟩ (Nat.le_of_ble_eq_true rfl) ⟨Nat.le_of_ble_eq_true rfl, Nat.le_of_ble_eq_true rfl⟩ ob_tf (fun v9 x9 m9 hv => ?_)
  obtain ⟨M9, rfl, rfl, rfl, J9⟩ := hv
  clear J
  have J := J9
  clear J9
  refine r_bipush (v := -11) dL_refused_158 (by decide) ?_
  refine r_icmp_ne (tgt := 295) dL_refused_160 (by decide) (fun c160 => absurd rfl c160) (fun c160 => ?_)
  refine r_aload_n dL_refused_163 rfl ?_
  refine r_iconst (v := 0) dL_refused_164 (by decide) ?_
  refine r_iconst (v := 0) dL_refused_165 (by decide) ?_
  refine r_callV (n := 2) (As := [.int (0), .int (0)]) (rest := []) dL_refused_166 (ref_q J (show t_fault F9 P (0) (0) = (-12, F9, P) from by unfold t_fault; rw [if_neg (by rw [show f_hasStep P 0 = true from (hs_t (a := 0) o.1.1 o.1.2 (by omega))]; decide), if_pos (by decide)]) (by decide) kF_rfl (K_fault (inv_okm J.1) o.1 o.2.1 o.2.2.1 o.2.2.2.1 o.2.2.2.2.1)) (g_V q495 q496 q497 q2 q498) ⟨rfl, by decide, by decide, by decide +kernel⟩ rfl rfl rfl rfl ⟨by decide, by decide⟩ (Nat.le_of_ble_eq_true rfl) ⟨Nat.le_of_ble_eq_true rfl, Nat.le_of_ble_eq_true rfl⟩ ob_tf (fun v9 x9 m9 hv => ?_)
  obtain ⟨M9, rfl, rfl, rfl, J9⟩ := hv
  clear J
  have J := J9
  clear J9
  refine r_bipush (v := -12) dL_refused_169 (by decide) ?_
  refine r_icmp_ne (tgt := 295) dL_refused_171 (by decide) (fun c171 => absurd rfl c171) (fun c171 => ?_)
  refine r_aload_n dL_refused_174 rfl ?_
  refine r_iconst (v := 0) dL_refused_175 (by decide) ?_
  refine r_bipush (v := 10) dL_refused_176 (by decide) ?_
  refine r_callV (n := 2) (As := [.int (0), .int (10)]) (rest := []) dL_refused_178 (ref_q J (show t_fault F9 P (0) (10) = (-12, F9, P) from by unfold t_fault; rw [if_neg (by rw [show f_hasStep P 0 = true from (hs_t (a := 0) o.1.1 o.1.2 (by omega))]; decide), if_pos (by decide)]) (by decide) kF_rfl (K_fault (inv_okm J.1) o.1 o.2.1 o.2.2.1 o.2.2.2.1 o.2.2.2.2.1)) (g_V q495 q496 q497 q2 q498) ⟨rfl, by decide, by decide, by decide +kernel⟩ rfl rfl rfl rfl ⟨by decide, by decide⟩ (Nat.le_of_ble_eq_true rfl) ⟨Nat.le_of_ble_eq_true rfl, Nat.le_of_ble_eq_true rfl⟩ ob_tf (fun v9 x9 m9 hv => ?_)
  obtain ⟨M9, rfl, rfl, rfl, J9⟩ := hv
  clear J
  have J := J9
  clear J9
  refine r_bipush (v := -12) dL_refused_181 (by decide) ?_
  refine r_icmp_ne (tgt := 295) dL_refused_183 (by decide) (fun c183 => absurd rfl c183) (fun c183 => ?_)
  refine r_aload_n dL_refused_186 rfl ?_
  refine r_iconst (v := 0) dL_refused_187 (by decide) ?_
  refine r_callV (n := 1) (As := [.int (0)]) (rest := []) dL_refused_188 (ref_q J (show t_hands F9 P (0) = (-12, F9, P) from by unfold t_hands; rw [if_pos (by decide)]) (by decide) kF_rfl (K_hands (inv_okm J.1) o.1 o.2.1 o.2.2.1 o.2.2.2.1 o.2.2.2.2.1)) (g_V q119 q120 q121 q2 q122) ⟨rfl, by decide, by decide, by decide +kernel⟩ rfl rfl rfl rfl ⟨by decide, by decide⟩ (Nat.le_of_ble_eq_true rfl) ⟨Nat.le_of_ble_eq_true rfl, Nat.le_of_ble_eq_true rfl⟩ ob_tf (fun v9 x9 m9 hv => ?_)
  obtain ⟨M9, rfl, rfl, rfl, J9⟩ := hv
  clear J
  have J := J9
  clear J9
  refine r_bipush (v := -12) dL_refused_191 (by decide) ?_
  refine r_icmp_ne (tgt := 295) dL_refused_193 (by decide) (fun c193 => absurd rfl c193) (fun c193 => ?_)
  refine r_aload_n dL_refused_196 rfl ?_
  refine r_iconst (v := 5) dL_refused_197 (by decide) ?_
  refine r_callV (n := 1) (As := [.int (5)]) (rest := []) dL_refused_198 (ref_q J (show t_hands F9 P (5) = (-12, F9, P) from by unfold t_hands; rw [if_pos (by decide)]) (by decide) kF_rfl (K_hands (inv_okm J.1) o.1 o.2.1 o.2.2.1 o.2.2.2.1 o.2.2.2.2.1)) (g_V q119 q120 q121 q2 q122) ⟨rfl, by decide, by decide, by decide +kernel⟩ rfl rfl rfl rfl ⟨by decide, by decide⟩ (Nat.le_of_ble_eq_true rfl) ⟨Nat.le_of_ble_eq_true rfl, Nat.le_of_ble_eq_true rfl⟩ ob_tf (fun v9 x9 m9 hv => ?_)
  obtain ⟨M9, rfl, rfl, rfl, J9⟩ := hv
  clear J
  have J := J9
  clear J9
  refine r_bipush (v := -12) dL_refused_201 (by decide) ?_
  refine r_icmp_ne (tgt := 295) dL_refused_203 (by decide) (fun c203 => absurd rfl c203) (fun c203 => ?_)
  refine r_aload_n dL_refused_206 rfl ?_
  refine r_iconst (v := 0) dL_refused_207 (by decide) ?_
  refine r_callV (n := 1) (As := [.int (0)]) (rest := []) dL_refused_208 (ref_q J (show t_cancel F9 P (0) = (-11, F9, P) from by unfold t_cancel; rw [if_pos (by decide)]) (by decide) kF_rfl (K_cancel (inv_okm J.1) o.1 o.2.1 o.2.2.1 o.2.2.2.1 o.2.2.2.2.1)) (g_V q619 q620 q621 q2 q622) ⟨rfl, by decide, by decide, by decide +kernel⟩ rfl rfl rfl rfl ⟨by decide, by decide⟩ (Nat.le_of_ble_eq_true rfl) ⟨Nat.le_of_ble_eq_true rfl, Nat.le_of_ble_eq_true rfl⟩ ob_tf (fun v9 x9 m9 hv => ?_)
  obtain ⟨M9, rfl, rfl, rfl, J9⟩ := hv
  clear J
  have J := J9
  clear J9
  refine r_bipush (v := -11) dL_refused_211 (by decide) ?_
  refine r_icmp_ne (tgt := 295) dL_refused_213 (by decide) (fun c213 => absurd rfl c213) (fun c213 => ?_)
  refine r_aload_n dL_refused_216 rfl ?_
  refine r_iconst (v := 4) dL_refused_217 (by decide) ?_
  refine r_callV (n := 1) (As := [.int (4)]) (rest := []) dL_refused_218 (ref_q J (show t_cancel F9 P (4) = (-11, F9, P) from by unfold t_cancel; rw [if_pos (by decide)]) (by decide) kF_rfl (K_cancel (inv_okm J.1) o.1 o.2.1 o.2.2.1 o.2.2.2.1 o.2.2.2.2.1)) (g_V q619 q620 q621 q2 q622) ⟨rfl, by decide, by decide, by decide +kernel⟩ rfl rfl rfl rfl ⟨by decide, by decide⟩ (Nat.le_of_ble_eq_true rfl) ⟨Nat.le_of_ble_eq_true rfl, Nat.le_of_ble_eq_true rfl⟩ ob_tf (fun v9 x9 m9 hv => ?_)
  obtain ⟨M9, rfl, rfl, rfl, J9⟩ := hv
  clear J
  have J := J9
  clear J9
  refine r_bipush (v := -11) dL_refused_221 (by decide) ?_
  refine r_icmp_ne (tgt := 295) dL_refused_223 (by decide) (fun c223 => absurd rfl c223) (fun c223 => ?_)
  refine r_aload_n dL_refused_226 rfl ?_
  refine r_iload_n dL_refused_227 rfl ?_
  refine r_iconst (v := 0) dL_refused_228 (by decide) ?_
  refine r_callV (n := 2) (As := [.int (nI (cn P)), .int (0)]) (rest := []) dL_refused_229 (ref_q J (show t_mile F9 P (nI (cn P)) (0) = (-11, F9, P) from by unfold t_mile; rw [if_pos (hs_f o.1.1)]) (by decide) kF_rfl (K_mile (inv_okm J.1) o.1 o.2.1 o.2.2.1 o.2.2.2.1 o.2.2.2.2.1)) (g_V q433 q434 q435 q2 q436) ⟨rfl, by decide, by decide, by decide +kernel⟩ rfl rfl rfl rfl ⟨by decide, by decide⟩ (Nat.le_of_ble_eq_true rfl) ⟨Nat.le_of_ble_eq_true rfl, Nat.le_of_ble_eq_true rfl⟩ ob_tf (fun v9 x9 m9 hv => ?_)
  obtain ⟨M9, rfl, rfl, rfl, J9⟩ := hv
  clear J
  have J := J9
  clear J9
  refine r_bipush (v := -11) dL_refused_232 (by decide) ?_
  refine r_icmp_ne (tgt := 295) dL_refused_234 (by decide) (fun c234 => absurd rfl c234) (fun c234 => ?_)
  refine r_aload_n dL_refused_237 rfl ?_
  refine r_iconst (v := 0) dL_refused_238 (by decide) ?_
  refine r_iconst (v := 0) dL_refused_239 (by decide) ?_
  refine r_callV (n := 2) (As := [.int (0), .int (0)]) (rest := []) dL_refused_240 (ref_q J (show t_mile F9 P (0) (0) = (-12, F9, P) from by unfold t_mile; rw [if_neg (by rw [show f_hasStep P 0 = true from (hs_t (a := 0) o.1.1 o.1.2 (by omega))]; decide), if_pos (by decide)]) (by decide) kF_rfl (K_mile (inv_okm J.1) o.1 o.2.1 o.2.2.1 o.2.2.2.1 o.2.2.2.2.1)) (g_V q433 q434 q435 q2 q436) ⟨rfl, by decide, by decide, by decide +kernel⟩ rfl rfl rfl rfl ⟨by decide, by decide⟩ (Nat.le_of_ble_eq_true rfl) ⟨Nat.le_of_ble_eq_true rfl, Nat.le_of_ble_eq_true rfl⟩ ob_tf (fun v9 x9 m9 hv => ?_)
  obtain ⟨M9, rfl, rfl, rfl, J9⟩ := hv
  clear J
  have J := J9
  clear J9
  refine r_bipush (v := -12) dL_refused_243 (by decide) ?_
  refine r_icmp_ne (tgt := 295) dL_refused_245 (by decide) (fun c245 => absurd rfl c245) (fun c245 => ?_)
  refine r_aload_n dL_refused_248 rfl ?_
  refine r_iconst (v := 0) dL_refused_249 (by decide) ?_
  refine r_sipush (v := 1000) dL_refused_250 (by decide) ?_
  refine r_callV (n := 2) (As := [.int (0), .int (1000)]) (rest := []) dL_refused_253 (ref_q J (show t_mile F9 P (0) (1000) = (-12, F9, P) from by unfold t_mile; rw [if_neg (by rw [show f_hasStep P 0 = true from (hs_t (a := 0) o.1.1 o.1.2 (by omega))]; decide), if_pos (by decide)]) (by decide) kF_rfl (K_mile (inv_okm J.1) o.1 o.2.1 o.2.2.1 o.2.2.2.1 o.2.2.2.2.1)) (g_V q433 q434 q435 q2 q436) ⟨rfl, by decide, by decide, by decide +kernel⟩ rfl rfl rfl rfl ⟨by decide, by decide⟩ (Nat.le_of_ble_eq_true rfl) ⟨Nat.le_of_ble_eq_true rfl, Nat.le_of_ble_eq_true rfl⟩ ob_tf (fun v9 x9 m9 hv => ?_)
  obtain ⟨M9, rfl, rfl, rfl, J9⟩ := hv
  clear J
  have J := J9
  clear J9
  refine r_bipush (v := -12) dL_refused_256 (by decide) ?_
  refine r_icmp_ne (tgt := 295) dL_refused_258 (by decide) (fun c258 => absurd rfl c258) (fun c258 => ?_)
  refine r_aload_n dL_refused_261 rfl ?_
  refine r_iconst (v := 0) dL_refused_262 (by decide) ?_
  refine r_callV (n := 1) (As := [.int (0)]) (rest := []) dL_refused_263 (ref_q J (show t_days F9 P (0) = (-12, F9, P) from by unfold t_days; rw [if_pos (by decide)]) (by decide) kF_rfl (K_days (inv_okm J.1) o.1 o.2.1 o.2.2.1 o.2.2.2.1 o.2.2.2.2.1)) (g_V q471 q472 q473 q2 q474) ⟨rfl, by decide, by decide, by decide +kernel⟩ rfl rfl rfl rfl ⟨by decide, by decide⟩ (Nat.le_of_ble_eq_true rfl) ⟨Nat.le_of_ble_eq_true rfl, Nat.le_of_ble_eq_true rfl⟩ ob_tf (fun v9 x9 m9 hv => ?_)
  obtain ⟨M9, rfl, rfl, rfl, J9⟩ := hv
  clear J
  have J := J9
  clear J9
  refine r_bipush (v := -12) dL_refused_266 (by decide) ?_
  refine r_icmp_ne (tgt := 295) dL_refused_268 (by decide) (fun c268 => absurd rfl c268) (fun c268 => ?_)
  refine r_aload_n dL_refused_271 rfl ?_
  refine r_bipush (v := 31) dL_refused_272 (by decide) ?_
  refine r_callV (n := 1) (As := [.int (31)]) (rest := []) dL_refused_274 (ref_q J (show t_days F9 P (31) = (-12, F9, P) from by unfold t_days; rw [if_pos (by decide)]) (by decide) kF_rfl (K_days (inv_okm J.1) o.1 o.2.1 o.2.2.1 o.2.2.2.1 o.2.2.2.2.1)) (g_V q471 q472 q473 q2 q474) ⟨rfl, by decide, by decide, by decide +kernel⟩ rfl rfl rfl rfl ⟨by decide, by decide⟩ (Nat.le_of_ble_eq_true rfl) ⟨Nat.le_of_ble_eq_true rfl, Nat.le_of_ble_eq_true rfl⟩ ob_tf (fun v9 x9 m9 hv => ?_)
  obtain ⟨M9, rfl, rfl, rfl, J9⟩ := hv
  clear J
  have J := J9
  clear J9
  refine r_bipush (v := -12) dL_refused_277 (by decide) ?_
  refine r_icmp_ne (tgt := 295) dL_refused_279 (by decide) (fun c279 => absurd rfl c279) (fun c279 => ?_)
  refine r_aload_n dL_refused_282 rfl ?_
  refine r_iconst (v := 2) dL_refused_283 (by decide) ?_
  refine r_iconst (v := 0) dL_refused_284 (by decide) ?_
  refine r_callS (n := 3) (As := [.ref (ad 0 0), .int 2, .int 0]) (rest := []) dL_refused_285 (K_is (a := 2) (b := 0)) ⟨q421, q422, q423, q424⟩ ⟨rfl, by decide, by decide, by decide +kernel⟩ rfl rfl rfl rfl ⟨by decide, by decide⟩ (Nat.le_of_ble_eq_true rfl) ⟨Nat.le_of_ble_eq_true rfl, Nat.le_of_ble_eq_true rfl⟩ (fun v9 x9 m9 hv => ?_)
  obtain ⟨rfl, rfl, rfl⟩ := hv
  refine r_if_eq (tgt := 295) dL_refused_288 (by decide) (fun c288 => absurd (bI_0 c288) (by rw [hF2]; decide)) (fun c288 => ?_)
  refine r_iconst (v := 1) dL_refused_291 (by decide) ?_
  refine r_goto (tgt := 296) dL_refused_292 (by decide) ?_
  refine r_istore dL_refused_296 (by decide) rfl ?_
  exact T298 _ _ J hF2

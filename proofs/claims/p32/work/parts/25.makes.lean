/-! PART 25: the law's makes -/
theorem nI_1l (a : Nat) : 1 + nI a = nI (a + 1) := by rw [Int32.add_comm]; exact nI_1 a
theorem hs_t {P : tP} {n a : Nat} (h : P 0 1 = nI n) (hn : n ≤ 12) (ha : a < n) : f_hasStep P (nI a) = true := by
  simp only [f_hasStep, Bool.and_eq_true, decide_eq_true_eq]
  exact ⟨nI_pos (by omega), by rw [h]; exact nI_ge ha (by omega)⟩
def okN (P : tP) (q : TX) : Prop := (q.1 = -14 ∨ ¬ q.1 < 0) ∧ ∀ k, k ≠ 3 → q.2.2 0 k = P 0 k
theorem okN_m {F F' P : tP} : okN P (-14, F', P) := ⟨Or.inl rfl, fun _ _ => rfl⟩
theorem o_need {F P : tP} {s x : Int32} (h1 : f_hasStep P s = true) (h2 : f_hasStep P x = true) : okN P (t_need F P s x) := by
  unfold t_need
  rw [if_neg (by rw [h1, h2]; decide)]
  split
  · exact okN_m (F := F)
  · split
    · exact okN_m (F := F)
    · split
      · exact okN_m (F := F)
      · split
        · exact okN_m (F := F)
        · exact ⟨Or.inr bc_pos, fun k _ => pu_j (by omega)⟩
theorem o_fault {F P : tP} {s m w : Nat} (h1 : f_hasStep P (nI s) = true) (h2 : f_within (nI m) 1 9 = true) (hs : s ≤ 12) (hm : m ≤ 9) (oW : okW w P) (hw : w < 1000000) : okN P (t_fault F P (nI s) (nI m)) := by
  unfold t_fault
  rw [if_neg (by rw [h1]; decide), if_neg (by rw [h2]; decide), nI_clamp (by omega)]
  split
  · exact okN_m (F := F)
  · obtain ⟨c, hc, ec⟩ := oW s
    refine ⟨Or.inr ?_, fun k _ => pu_j (by omega)⟩
    rw [show (P (4 + s) 9 + nI m, F, pu P (4 + s) 9 (P (4 + s) 9 + nI m)).1 = nI (c + m) from by rw [ec, nI_add]]
    exact nI_pos (by omega)
theorem o_mile {F P : tP} {s x : Int32} (h1 : f_hasStep P s = true) (h2 : f_within x 1 999 = true) (o : okn P) : okN P (t_mile F P s x) := by
  unfold t_mile
  rw [if_neg (by rw [h1]; decide), if_neg (by rw [h2]; decide)]
  split
  · exact okN_m (F := F)
  · split
    · refine ⟨Or.inr ?_, fun k hk => ?_⟩
      · dsimp only
        rw [o.1]
        exact nI_pos (by have := o.2; omega)
      · unfold f_addMs
        dsimp only
        rw [pu_k hk, pu_j (by omega), pu_j (by omega)]
    · exact okN_m (F := F)
theorem add_0 {P : tP} {d m b a : Int32} : f_add P d m b a 0 1 = P 0 1 + 1 ∧ f_add P d m b a 0 8 = P 0 8 := by
  have h1 : f_add1 P d m b a 0 1 = P 0 1 + 1 ∧ f_add1 P d m b a 0 8 = P 0 8 := by
    unfold f_add1
    try dsimp only
    rw [pu_s, pu_k (by omega), f_tell_j (by omega)]
    exact ⟨rfl, rfl⟩
  unfold f_add
  split
  · exact ⟨kp_turn.1.trans h1.1, kp_turn.2.1.trans h1.2⟩
  · exact h1
theorem t_step_y {F P : tP} {d m b a : Int32} {i : Nat} (h : P 0 1 = nI i) (hi : i < 12) (h1 : f_within d 1 9 = true) (h2 : f_within m 0 3 = true) (h3 : f_within b 0 3 = true) : t_step F P d m b a = (nI i, F, f_add P d m b a) := by
  unfold t_step
  rw [if_neg (by rw [h1, h2, h3]; decide), h, if_pos (show nI i < 12 from nI_lt (b := 12) hi (by omega))]
/-- while makes goes on: c steps, two hands, nothing saved -/
def mk (c w : Nat) (M : tM) (F P : tP) : Prop := P 0 1 = nI c ∧ P 0 8 = 2 ∧ ∃ k u, inv M F P k u w 0
section
variable {M : tM} {F P : tP} {c c' w w' : Nat}
theorem mk_h (J : mk c w M F P) : okm F ∧ okP P ∧ okW w P := by
  obtain ⟨-, -, k, u, I⟩ := J
  exact ⟨inv_okm I, I.1.1, I.1.2⟩
theorem inv_w {k u : Nat} {h : Int32} (hw : w ≤ w') (I : inv M F P k u w h) : inv M F P k u w' h := by
  obtain ⟨⟨a1, a2⟩, a3, ⟨a4, a5⟩, a6⟩ := I
  exact ⟨⟨a1, okW_mono hw a2⟩, fun j hj => ⟨(a3 j hj).1, okW_mono hw (a3 j hj).2⟩, ⟨a4, okW_mono hw a5⟩, a6⟩
theorem mk_w (hw : w ≤ w') (J : mk c w M F P) : mk c w' M F P := by
  obtain ⟨h1, h2, k, u, I⟩ := J
  exact ⟨h1, h2, k, u, inv_w hw I⟩
theorem mk_i {q : TX} (J : mk c w M F P) (g : goodX F P q) (n : goodN w P q) : ∃ k u, inv (c_mark M F P) (f_keep q.2.1 q.1) q.2.2 k u (w + 9) 0 := by
  obtain ⟨-, -, k, u, I⟩ := J
  have C := chg_q I g n
  cases e : nn q.1
  · exact ⟨_, _, (C.2.2.2 e).1⟩
  · exact ⟨_, _, (C.2.2.1 e).1⟩
theorem mk_q {q : TX} (J : mk c w M F P) (g : goodX F P q) (n : goodN w P q) (e1 : q.2.2 0 1 = nI c') (e8 : q.2.2 0 8 = 2) : mk c' (w + 9) (c_mark M F P) (f_keep q.2.1 q.1) q.2.2 := ⟨e1, e8, mk_i J g n⟩
theorem mk_n {q : TX} (J : mk c w M F P) (g : goodX F P q) (n : goodN w P q) (e : okN P q) : mk c (w + 9) (c_mark M F P) (f_keep q.2.1 q.1) q.2.2 := mk_q J g n ((e.2 1 (by omega)).trans J.1) ((e.2 8 (by omega)).trans J.2.1)
end
theorem wi_1 : ∀ a, a < 5 → f_within (nI (a + 1)) 1 9 = true := by decide +kernel
theorem wi_2 : ∀ a, a < 4 → f_within (nI a) 0 3 = true := by decide +kernel
theorem wi_3 : ∀ a, a < 20 → f_within (nI (a + 1)) 1 999 = true := by decide +kernel
theorem at_12 : ∀ i, i < 9 → 12 + (nI i - nI i / 8 * 8) = nI (12 + i % 8) := by decide +kernel

theorem wi_4 : ∀ a, a < 4 → f_within (nI (a + 1)) 1 4 = true := by decide +kernel
theorem wi_5 : ∀ a, a < 12 → f_within (nI (a + 1)) 1 30 = true := by decide +kernel
theorem wi_6 : ∀ a, a < 2 → f_within (nI (a + 1)) 1 9 = true := by decide +kernel
theorem nI_add_l (a b : Nat) : nI a + nI b = nI (a + b) := nI_add a b
theorem dL_makes_0 : decode cL_makes 0 = .ok (.iconst 4, 1) := by decide +kernel
theorem dL_makes_1 : decode cL_makes 1 = .ok (.aload_n 1, 1) := by decide +kernel
theorem dL_makes_2 : decode cL_makes 2 = .ok (.iconst 0, 1) := by decide +kernel
theorem dL_makes_3 : decode cL_makes 3 = .ok (.invokestatic 33, 3) := by decide +kernel
theorem dL_makes_6 : decode cL_makes 6 = .ok (.bipush 7, 2) := by decide +kernel
theorem dL_makes_8 : decode cL_makes 8 = .ok (.invokestatic 39, 3) := by decide +kernel
theorem dL_makes_11 : decode cL_makes 11 = .ok (.iadd, 1) := by decide +kernel
theorem dL_makes_12 : decode cL_makes 12 = .ok (.istore_n 2, 1) := by decide +kernel
theorem dL_makes_13 : decode cL_makes 13 = .ok (.iconst 0, 1) := by decide +kernel
theorem dL_makes_14 : decode cL_makes 14 = .ok (.istore_n 3, 1) := by decide +kernel
theorem dL_makes_15 : decode cL_makes 15 = .ok (.iload_n 3, 1) := by decide +kernel
theorem dL_makes_16 : decode cL_makes 16 = .ok (.iload_n 2, 1) := by decide +kernel
theorem dL_makes_17 : decode cL_makes 17 = .ok (.if_icmp .ge 67, 3) := by decide +kernel
theorem dL_makes_20 : decode cL_makes 20 = .ok (.aload_n 1, 1) := by decide +kernel
theorem dL_makes_21 : decode cL_makes 21 = .ok (.iconst 1, 1) := by decide +kernel
theorem dL_makes_22 : decode cL_makes 22 = .ok (.iload_n 3, 1) := by decide +kernel
theorem dL_makes_23 : decode cL_makes 23 = .ok (.iadd, 1) := by decide +kernel
theorem dL_makes_24 : decode cL_makes 24 = .ok (.invokestatic 33, 3) := by decide +kernel
theorem dL_makes_27 : decode cL_makes 27 = .ok (.istore 4, 2) := by decide +kernel
theorem dL_makes_29 : decode cL_makes 29 = .ok (.aload_n 0, 1) := by decide +kernel
theorem dL_makes_30 : decode cL_makes 30 = .ok (.iconst 1, 1) := by decide +kernel
theorem dL_makes_31 : decode cL_makes 31 = .ok (.iload 4, 2) := by decide +kernel
theorem dL_makes_33 : decode cL_makes 33 = .ok (.iconst 5, 1) := by decide +kernel
theorem dL_makes_34 : decode cL_makes 34 = .ok (.invokestatic 39, 3) := by decide +kernel
theorem dL_makes_37 : decode cL_makes 37 = .ok (.iadd, 1) := by decide +kernel
theorem dL_makes_38 : decode cL_makes 38 = .ok (.iload 4, 2) := by decide +kernel
theorem dL_makes_40 : decode cL_makes 40 = .ok (.iconst 3, 1) := by decide +kernel
theorem dL_makes_41 : decode cL_makes 41 = .ok (.ishr, 1) := by decide +kernel
theorem dL_makes_42 : decode cL_makes 42 = .ok (.iconst 4, 1) := by decide +kernel
theorem dL_makes_43 : decode cL_makes 43 = .ok (.invokestatic 39, 3) := by decide +kernel
theorem dL_makes_46 : decode cL_makes 46 = .ok (.iload 4, 2) := by decide +kernel
theorem dL_makes_48 : decode cL_makes 48 = .ok (.iconst 5, 1) := by decide +kernel
theorem dL_makes_49 : decode cL_makes 49 = .ok (.ishr, 1) := by decide +kernel
theorem dL_makes_50 : decode cL_makes 50 = .ok (.iconst 4, 1) := by decide +kernel
theorem dL_makes_51 : decode cL_makes 51 = .ok (.invokestatic 39, 3) := by decide +kernel
theorem dL_makes_54 : decode cL_makes 54 = .ok (.iload 4, 2) := by decide +kernel
theorem dL_makes_56 : decode cL_makes 56 = .ok (.bipush 7, 2) := by decide +kernel
theorem dL_makes_58 : decode cL_makes 58 = .ok (.ishr, 1) := by decide +kernel
theorem dL_makes_59 : decode cL_makes 59 = .ok (.iconst 3, 1) := by decide +kernel
theorem dL_makes_60 : decode cL_makes 60 = .ok (.iand, 1) := by decide +kernel
theorem dL_makes_61 : decode cL_makes 61 = .ok (.ifCond .ne 7, 3) := by decide +kernel
theorem dL_makes_64 : decode cL_makes 64 = .ok (.iconst 1, 1) := by decide +kernel
theorem dL_makes_65 : decode cL_makes 65 = .ok (.goto 4, 3) := by decide +kernel
theorem dL_makes_68 : decode cL_makes 68 = .ok (.iconst 0, 1) := by decide +kernel
theorem dL_makes_69 : decode cL_makes 69 = .ok (.invokevirtual 43, 3) := by decide +kernel
theorem dL_makes_72 : decode cL_makes 72 = .ok (.iload_n 3, 1) := by decide +kernel
theorem dL_makes_73 : decode cL_makes 73 = .ok (.if_icmp .eq 5, 3) := by decide +kernel
theorem dL_makes_76 : decode cL_makes 76 = .ok (.iconst 0, 1) := by decide +kernel
theorem dL_makes_77 : decode cL_makes 77 = .ok (.ireturn, 1) := by decide +kernel
theorem dL_makes_78 : decode cL_makes 78 = .ok (.iinc 3 1, 3) := by decide +kernel
theorem dL_makes_81 : decode cL_makes 81 = .ok (.goto (-66), 3) := by decide +kernel
theorem dL_makes_84 : decode cL_makes 84 = .ok (.iconst 0, 1) := by decide +kernel
theorem dL_makes_85 : decode cL_makes 85 = .ok (.istore_n 3, 1) := by decide +kernel
theorem dL_makes_86 : decode cL_makes 86 = .ok (.iload_n 3, 1) := by decide +kernel
theorem dL_makes_87 : decode cL_makes 87 = .ok (.bipush 9, 2) := by decide +kernel
theorem dL_makes_89 : decode cL_makes 89 = .ok (.if_icmp .ge 62, 3) := by decide +kernel
theorem dL_makes_92 : decode cL_makes 92 = .ok (.aload_n 1, 1) := by decide +kernel
theorem dL_makes_93 : decode cL_makes 93 = .ok (.bipush 12, 2) := by decide +kernel
theorem dL_makes_95 : decode cL_makes 95 = .ok (.iload_n 3, 1) := by decide +kernel
theorem dL_makes_96 : decode cL_makes 96 = .ok (.bipush 8, 2) := by decide +kernel
theorem dL_makes_98 : decode cL_makes 98 = .ok (.irem, 1) := by decide +kernel
theorem dL_makes_99 : decode cL_makes 99 = .ok (.iadd, 1) := by decide +kernel
theorem dL_makes_100 : decode cL_makes 100 = .ok (.invokestatic 33, 3) := by decide +kernel
theorem dL_makes_103 : decode cL_makes 103 = .ok (.iload_n 3, 1) := by decide +kernel
theorem dL_makes_104 : decode cL_makes 104 = .ok (.sipush 7919, 3) := by decide +kernel
theorem dL_makes_107 : decode cL_makes 107 = .ok (.imul, 1) := by decide +kernel
theorem dL_makes_108 : decode cL_makes 108 = .ok (.ixor, 1) := by decide +kernel
theorem dL_makes_109 : decode cL_makes 109 = .ok (.istore 4, 2) := by decide +kernel
theorem dL_makes_111 : decode cL_makes 111 = .ok (.aload_n 0, 1) := by decide +kernel
theorem dL_makes_112 : decode cL_makes 112 = .ok (.iload 4, 2) := by decide +kernel
theorem dL_makes_114 : decode cL_makes 114 = .ok (.iload_n 2, 1) := by decide +kernel
theorem dL_makes_115 : decode cL_makes 115 = .ok (.invokestatic 39, 3) := by decide +kernel
theorem dL_makes_118 : decode cL_makes 118 = .ok (.iload 4, 2) := by decide +kernel
theorem dL_makes_120 : decode cL_makes 120 = .ok (.iconst 3, 1) := by decide +kernel
theorem dL_makes_121 : decode cL_makes 121 = .ok (.ishr, 1) := by decide +kernel
theorem dL_makes_122 : decode cL_makes 122 = .ok (.iload_n 2, 1) := by decide +kernel
theorem dL_makes_123 : decode cL_makes 123 = .ok (.invokestatic 39, 3) := by decide +kernel
theorem dL_makes_126 : decode cL_makes 126 = .ok (.invokevirtual 47, 3) := by decide +kernel
theorem dL_makes_129 : decode cL_makes 129 = .ok (.istore 5, 2) := by decide +kernel
theorem dL_makes_131 : decode cL_makes 131 = .ok (.iload 5, 2) := by decide +kernel
theorem dL_makes_133 : decode cL_makes 133 = .ok (.ifCond .ge 12, 3) := by decide +kernel
theorem dL_makes_136 : decode cL_makes 136 = .ok (.iload 5, 2) := by decide +kernel
theorem dL_makes_138 : decode cL_makes 138 = .ok (.bipush (-14), 2) := by decide +kernel
theorem dL_makes_140 : decode cL_makes 140 = .ok (.if_icmp .eq 5, 3) := by decide +kernel
theorem dL_makes_143 : decode cL_makes 143 = .ok (.iconst 0, 1) := by decide +kernel
theorem dL_makes_144 : decode cL_makes 144 = .ok (.ireturn, 1) := by decide +kernel
theorem dL_makes_145 : decode cL_makes 145 = .ok (.iinc 3 1, 3) := by decide +kernel
theorem dL_makes_148 : decode cL_makes 148 = .ok (.goto (-62), 3) := by decide +kernel
theorem dL_makes_151 : decode cL_makes 151 = .ok (.iconst 0, 1) := by decide +kernel
theorem dL_makes_152 : decode cL_makes 152 = .ok (.istore_n 3, 1) := by decide +kernel
theorem dL_makes_153 : decode cL_makes 153 = .ok (.iload_n 3, 1) := by decide +kernel
theorem dL_makes_154 : decode cL_makes 154 = .ok (.iconst 4, 1) := by decide +kernel
theorem dL_makes_155 : decode cL_makes 155 = .ok (.if_icmp .ge 90, 3) := by decide +kernel
theorem dL_makes_158 : decode cL_makes 158 = .ok (.aload_n 1, 1) := by decide +kernel
theorem dL_makes_159 : decode cL_makes 159 = .ok (.bipush 20, 2) := by decide +kernel
theorem dL_makes_161 : decode cL_makes 161 = .ok (.iload_n 3, 1) := by decide +kernel
theorem dL_makes_162 : decode cL_makes 162 = .ok (.iadd, 1) := by decide +kernel
theorem dL_makes_163 : decode cL_makes 163 = .ok (.invokestatic 33, 3) := by decide +kernel
theorem dL_makes_166 : decode cL_makes 166 = .ok (.istore 4, 2) := by decide +kernel
theorem dL_makes_168 : decode cL_makes 168 = .ok (.iload 4, 2) := by decide +kernel
theorem dL_makes_170 : decode cL_makes 170 = .ok (.iconst 1, 1) := by decide +kernel
theorem dL_makes_171 : decode cL_makes 171 = .ok (.iand, 1) := by decide +kernel
theorem dL_makes_172 : decode cL_makes 172 = .ok (.ifCond .ne 28, 3) := by decide +kernel
theorem dL_makes_175 : decode cL_makes 175 = .ok (.aload_n 0, 1) := by decide +kernel
theorem dL_makes_176 : decode cL_makes 176 = .ok (.iload 4, 2) := by decide +kernel
theorem dL_makes_178 : decode cL_makes 178 = .ok (.iconst 1, 1) := by decide +kernel
theorem dL_makes_179 : decode cL_makes 179 = .ok (.ishr, 1) := by decide +kernel
theorem dL_makes_180 : decode cL_makes 180 = .ok (.iload_n 2, 1) := by decide +kernel
theorem dL_makes_181 : decode cL_makes 181 = .ok (.invokestatic 39, 3) := by decide +kernel
theorem dL_makes_184 : decode cL_makes 184 = .ok (.iconst 1, 1) := by decide +kernel
theorem dL_makes_185 : decode cL_makes 185 = .ok (.iload 4, 2) := by decide +kernel
theorem dL_makes_187 : decode cL_makes 187 = .ok (.iconst 4, 1) := by decide +kernel
theorem dL_makes_188 : decode cL_makes 188 = .ok (.ishr, 1) := by decide +kernel
theorem dL_makes_189 : decode cL_makes 189 = .ok (.iconst 2, 1) := by decide +kernel
theorem dL_makes_190 : decode cL_makes 190 = .ok (.invokestatic 39, 3) := by decide +kernel
theorem dL_makes_193 : decode cL_makes 193 = .ok (.iadd, 1) := by decide +kernel
theorem dL_makes_194 : decode cL_makes 194 = .ok (.invokevirtual 50, 3) := by decide +kernel
theorem dL_makes_197 : decode cL_makes 197 = .ok (.goto 26, 3) := by decide +kernel
theorem dL_makes_200 : decode cL_makes 200 = .ok (.aload_n 0, 1) := by decide +kernel
theorem dL_makes_201 : decode cL_makes 201 = .ok (.iload 4, 2) := by decide +kernel
theorem dL_makes_203 : decode cL_makes 203 = .ok (.iconst 1, 1) := by decide +kernel
theorem dL_makes_204 : decode cL_makes 204 = .ok (.ishr, 1) := by decide +kernel
theorem dL_makes_205 : decode cL_makes 205 = .ok (.iload_n 2, 1) := by decide +kernel
theorem dL_makes_206 : decode cL_makes 206 = .ok (.invokestatic 39, 3) := by decide +kernel
theorem dL_makes_209 : decode cL_makes 209 = .ok (.iconst 1, 1) := by decide +kernel
theorem dL_makes_210 : decode cL_makes 210 = .ok (.iload 4, 2) := by decide +kernel
theorem dL_makes_212 : decode cL_makes 212 = .ok (.iconst 4, 1) := by decide +kernel
theorem dL_makes_213 : decode cL_makes 213 = .ok (.ishr, 1) := by decide +kernel
theorem dL_makes_214 : decode cL_makes 214 = .ok (.bipush 20, 2) := by decide +kernel
theorem dL_makes_216 : decode cL_makes 216 = .ok (.invokestatic 39, 3) := by decide +kernel
theorem dL_makes_219 : decode cL_makes 219 = .ok (.iadd, 1) := by decide +kernel
theorem dL_makes_220 : decode cL_makes 220 = .ok (.invokevirtual 53, 3) := by decide +kernel
theorem dL_makes_223 : decode cL_makes 223 = .ok (.istore 5, 2) := by decide +kernel
theorem dL_makes_225 : decode cL_makes 225 = .ok (.iload 5, 2) := by decide +kernel
theorem dL_makes_227 : decode cL_makes 227 = .ok (.ifCond .ge 12, 3) := by decide +kernel
theorem dL_makes_230 : decode cL_makes 230 = .ok (.iload 5, 2) := by decide +kernel
theorem dL_makes_232 : decode cL_makes 232 = .ok (.bipush (-14), 2) := by decide +kernel
theorem dL_makes_234 : decode cL_makes 234 = .ok (.if_icmp .eq 5, 3) := by decide +kernel
theorem dL_makes_237 : decode cL_makes 237 = .ok (.iconst 0, 1) := by decide +kernel
theorem dL_makes_238 : decode cL_makes 238 = .ok (.ireturn, 1) := by decide +kernel
theorem dL_makes_239 : decode cL_makes 239 = .ok (.iinc 3 1, 3) := by decide +kernel
theorem dL_makes_242 : decode cL_makes 242 = .ok (.goto (-89), 3) := by decide +kernel
theorem dL_makes_245 : decode cL_makes 245 = .ok (.aload_n 0, 1) := by decide +kernel
theorem dL_makes_246 : decode cL_makes 246 = .ok (.iconst 1, 1) := by decide +kernel
theorem dL_makes_247 : decode cL_makes 247 = .ok (.aload_n 1, 1) := by decide +kernel
theorem dL_makes_248 : decode cL_makes 248 = .ok (.bipush 24, 2) := by decide +kernel
theorem dL_makes_250 : decode cL_makes 250 = .ok (.invokestatic 33, 3) := by decide +kernel
theorem dL_makes_253 : decode cL_makes 253 = .ok (.iconst 4, 1) := by decide +kernel
theorem dL_makes_254 : decode cL_makes 254 = .ok (.invokestatic 39, 3) := by decide +kernel
theorem dL_makes_257 : decode cL_makes 257 = .ok (.iadd, 1) := by decide +kernel
theorem dL_makes_258 : decode cL_makes 258 = .ok (.invokevirtual 56, 3) := by decide +kernel
theorem dL_makes_261 : decode cL_makes 261 = .ok (.iconst 2, 1) := by decide +kernel
theorem dL_makes_262 : decode cL_makes 262 = .ok (.if_icmp .ne 27, 3) := by decide +kernel
theorem dL_makes_265 : decode cL_makes 265 = .ok (.aload_n 0, 1) := by decide +kernel
theorem dL_makes_266 : decode cL_makes 266 = .ok (.iconst 1, 1) := by decide +kernel
theorem dL_makes_267 : decode cL_makes 267 = .ok (.aload_n 1, 1) := by decide +kernel
theorem dL_makes_268 : decode cL_makes 268 = .ok (.bipush 25, 2) := by decide +kernel
theorem dL_makes_270 : decode cL_makes 270 = .ok (.invokestatic 33, 3) := by decide +kernel
theorem dL_makes_273 : decode cL_makes 273 = .ok (.bipush 12, 2) := by decide +kernel
theorem dL_makes_275 : decode cL_makes 275 = .ok (.invokestatic 39, 3) := by decide +kernel
theorem dL_makes_278 : decode cL_makes 278 = .ok (.iadd, 1) := by decide +kernel
theorem dL_makes_279 : decode cL_makes 279 = .ok (.invokevirtual 59, 3) := by decide +kernel
theorem dL_makes_282 : decode cL_makes 282 = .ok (.ifCond .lt 7, 3) := by decide +kernel
theorem dL_makes_285 : decode cL_makes 285 = .ok (.iconst 1, 1) := by decide +kernel
theorem dL_makes_286 : decode cL_makes 286 = .ok (.goto 4, 3) := by decide +kernel
theorem dL_makes_289 : decode cL_makes 289 = .ok (.iconst 0, 1) := by decide +kernel
theorem dL_makes_290 : decode cL_makes 290 = .ok (.ireturn, 1) := by decide +kernel
set_option maxRecDepth 100000 in
set_option maxHeartbeats 4000000 in
theorem K_makes {cA : Nat → ClassId} {ad : tA} {ex : va_W} {M : tM} {F P : tP} {k u : Nat} (I : inv M F P k u 0 0) (h1 : P 0 1 = 0) (h8 : P 0 8 = 2) (hL : ad 18 2 ≤ 260) : Cj yL_makes cL_makes 6 (some .boolean) (rmd 12) 0 0 cA ad [.ref (ad 0 0), .ref (ad 18 3)] ex (mm M F P) (fun v x m => ∃ (M2 : tM) (F2 P2 : tP), v = some (.int 1) ∧ x = ex ∧ m = mm M2 F2 P2 ∧ ∃ c k u, 4 ≤ c ∧ c ≤ 12 ∧ P2 0 1 = nI c ∧ inv M2 F2 P2 k u 300 0) := by
  refine c_of_r (lv0 := [some (.ref (ad 0 0)), some (.ref (ad 18 3)), none, none, none, none]) rfl (by decide +kernel) (Nat.le_of_ble_eq_true rfl) rfl ?_
  have T245 : ∀ (n w : Nat) (M : tM) (F P : tP) (l3 : Int32), mk n w M F P → 4 ≤ n → n ≤ 12 → w ≤ 280 → Rj cL_makes RL 6 (some .boolean) (rmd 12) 0 0 cA ad (fun v x m => ∃ (M2 : tM) (F2 P2 : tP), v = some (.int 1) ∧ x = ex ∧ m = mm M2 F2 P2 ∧ ∃ c k u, 4 ≤ c ∧ c ≤ 12 ∧ P2 0 1 = nI c ∧ inv M2 F2 P2 k u 300 0) ex 0 0 245 [some (.ref (ad 0 0)), some (.ref (ad 18 3)), some (.int (nI n)), some (.int l3), none, none] [] (mm M F P) := by
    intro n w M F P l3 J h4 h12 hw
    obtain ⟨hm, o, oW⟩ := mk_h J
    refine r_aload_n dL_makes_245 rfl ?_
    refine r_iconst (v := 1) dL_makes_246 (by decide) ?_
    refine r_aload_n dL_makes_247 rfl ?_
    refine r_bipush (v := 24) dL_makes_248 (by decide) ?_
    refine r_callS (n := 2) (As := [.ref (ad 18 3), .int (nI (24))]) (rest := [.int 1, .ref (ad 0 0)]) dL_makes_250 (K_at (k := 24) (by omega) hL) ⟨q489, q490, q423, q491⟩ ⟨rfl, by decide, by decide, by decide +kernel⟩ rfl rfl rfl rfl ⟨by decide, by decide⟩ (Nat.le_of_ble_eq_true rfl) ⟨Nat.le_of_ble_eq_true rfl, Nat.le_of_ble_eq_true rfl⟩ (fun v9 x9 m9 hv => ?_)
    obtain ⟨rfl, rfl, rfl⟩ := hv
    refine r_iconst (v := 4) dL_makes_253 (by decide) ?_
    refine r_callS (n := 2) (As := [.int (sAt ad 24), .int (4)]) (rest := [.int 1, .ref (ad 0 0)]) dL_makes_254 (K_some (v := sAt ad 24) (n := 4) (by decide)) ⟨q492, q493, q423, q494⟩ ⟨rfl, by decide, by decide, by decide +kernel⟩ rfl rfl rfl rfl ⟨by decide, by decide⟩ (Nat.le_of_ble_eq_true rfl) ⟨Nat.le_of_ble_eq_true rfl, Nat.le_of_ble_eq_true rfl⟩ (fun v9 x9 m9 hv => ?_)
    obtain ⟨rfl, rfl, rfl⟩ := hv
    obtain ⟨d, hd, ed⟩ := some_r (sAt ad 24) (n := 4) (by omega) (by omega)
    rw [show f_some (sAt ad 24) (4) = nI d from ed]
    refine r_iadd dL_makes_257 ?_
    rw [nI_1l]
    refine r_callV (n := 1) (As := [.int (nI (d + 1))]) (rest := []) dL_makes_258 (K_hands hm o.1 o.2.1 o.2.2.1 o.2.2.2.1 o.2.2.2.2.1) (g_V q119 q120 q121 q2 q122) ⟨rfl, by decide, by decide, by decide +kernel⟩ rfl rfl rfl rfl ⟨by decide, by decide⟩ (Nat.le_of_ble_eq_true rfl) ⟨Nat.le_of_ble_eq_true rfl, Nat.le_of_ble_eq_true rfl⟩ ob_tf (fun v9 x9 m9 hv => ?_)
    obtain ⟨rfl, rfl, rfl⟩ := hv
    have e1 : (t_hands F P (nI (d + 1))).1 = 2 ∧ (t_hands F P (nI (d + 1))).2.2 0 1 = nI n := by
      unfold t_hands
      rw [if_neg (by rw [wi_4 d hd]; decide)]
      refine ⟨J.2.1, ?_⟩
      dsimp only
      rw [pu_k (by omega)]
      exact J.1
    obtain ⟨k9, u9, I9⟩ := mk_i J (g_hands o) (n_hands o oW)
    generalize t_hands F P (nI (d + 1)) = q at e1 I9 ⊢
    rw [e1.1] at I9 ⊢
    have hm9 := inv_okm I9
    obtain ⟨⟨o9, oW9⟩, -⟩ := id I9
    refine r_iconst (v := 2) dL_makes_261 (by decide) ?_
    refine r_icmp_ne (tgt := 289) dL_makes_262 (by decide) (fun c262 => absurd rfl c262) (fun c262 => ?_)
    refine r_aload_n dL_makes_265 rfl ?_
    refine r_iconst (v := 1) dL_makes_266 (by decide) ?_
    refine r_aload_n dL_makes_267 rfl ?_
    refine r_bipush (v := 25) dL_makes_268 (by decide) ?_
    refine r_callS (n := 2) (As := [.ref (ad 18 3), .int (nI (25))]) (rest := [.int 1, .ref (ad 0 0)]) dL_makes_270 (K_at (k := 25) (by omega) hL) ⟨q489, q490, q423, q491⟩ ⟨rfl, by decide, by decide, by decide +kernel⟩ rfl rfl rfl rfl ⟨by decide, by decide⟩ (Nat.le_of_ble_eq_true rfl) ⟨Nat.le_of_ble_eq_true rfl, Nat.le_of_ble_eq_true rfl⟩ (fun v9 x9 m9 hv => ?_)
    obtain ⟨rfl, rfl, rfl⟩ := hv
    refine r_bipush (v := 12) dL_makes_273 (by decide) ?_
    refine r_callS (n := 2) (As := [.int (sAt ad 25), .int (12)]) (rest := [.int 1, .ref (ad 0 0)]) dL_makes_275 (K_some (v := sAt ad 25) (n := 12) (by decide)) ⟨q492, q493, q423, q494⟩ ⟨rfl, by decide, by decide, by decide +kernel⟩ rfl rfl rfl rfl ⟨by decide, by decide⟩ (Nat.le_of_ble_eq_true rfl) ⟨Nat.le_of_ble_eq_true rfl, Nat.le_of_ble_eq_true rfl⟩ (fun v9 x9 m9 hv => ?_)
    obtain ⟨rfl, rfl, rfl⟩ := hv
    obtain ⟨e, he, ee⟩ := some_r (sAt ad 25) (n := 12) (by omega) (by omega)
    rw [show f_some (sAt ad 25) (12) = nI e from ee]
    refine r_iadd dL_makes_278 ?_
    rw [nI_1l]
    refine r_callV (n := 1) (As := [.int (nI (e + 1))]) (rest := []) dL_makes_279 (K_days hm9 o9.1 o9.2.1 o9.2.2.1 o9.2.2.2.1 o9.2.2.2.2.1) (g_V q471 q472 q473 q2 q474) ⟨rfl, by decide, by decide, by decide +kernel⟩ rfl rfl rfl rfl ⟨by decide, by decide⟩ (Nat.le_of_ble_eq_true rfl) ⟨Nat.le_of_ble_eq_true rfl, Nat.le_of_ble_eq_true rfl⟩ ob_tf (fun v9 x9 m9 hv => ?_)
    obtain ⟨rfl, rfl, rfl⟩ := hv
    have e2 : ¬ (t_days (f_keep q.2.1 2) q.2.2 (nI (e + 1))).1 < 0 ∧ (t_days (f_keep q.2.1 2) q.2.2 (nI (e + 1))).2.2 0 1 = nI n := by
      unfold t_days
      rw [if_neg (by rw [wi_5 e he]; decide), nI_clamp (by omega)]
      exact ⟨days_pos o9.1 (by omega), ((kp_days _ _).1).trans e1.2⟩
    have C := chg_q I9 (g_days (F := f_keep q.2.1 2) (x := nI (e + 1)) o9) (n_days o9 oW9)
    have C2 := (C.2.2.1 (nn_y e2.1)).1
    refine r_if_lt (tgt := 289) dL_makes_282 (by decide) (fun c282 => absurd c282 e2.1) (fun c282 => ?_)
    refine r_iconst (v := 1) dL_makes_285 (by decide) ?_
    refine r_goto (tgt := 290) dL_makes_286 (by decide) ?_
    exact r_zret rfl rfl dL_makes_290 (Nat.le_of_ble_eq_true rfl) (Nat.le_of_ble_eq_true rfl) ⟨_, _, _, rfl, rfl, rfl, n, _, _, h4, h12, e2.2, inv_w (by omega) C2⟩
  have T153 : ∀ (n : Nat), 4 ≤ n → n ≤ 12 → ∀ (c i : Nat) (M : tM) (F P : tP), i + c = 4 → mk n (220 + 9 * i) M F P → Rj cL_makes RL 6 (some .boolean) (rmd 12) 0 0 cA ad (fun v x m => ∃ (M2 : tM) (F2 P2 : tP), v = some (.int 1) ∧ x = ex ∧ m = mm M2 F2 P2 ∧ ∃ c k u, 4 ≤ c ∧ c ≤ 12 ∧ P2 0 1 = nI c ∧ inv M2 F2 P2 k u 300 0) ex 0 0 153 [some (.ref (ad 0 0)), some (.ref (ad 18 3)), some (.int (nI n)), some (.int (nI i)), none, none] [] (mm M F P) := by
    intro n h4 h12
    intro c
    induction c with
    | zero =>
      intro i M F P hi J
      obtain rfl : i = 4 := by omega
      refine r_iload_n dL_makes_153 rfl ?_
      refine r_iconst (v := 4) dL_makes_154 (by decide) ?_
      refine r_icmp_ge (tgt := 245) dL_makes_155 (by decide) (fun c155 => ?_) (fun c155 => absurd (Int32.le_refl _) c155)
      exact T245 n _ M F P _ J h4 h12 (by omega)
    | succ c ih =>
      intro i M F P hi J
      obtain ⟨hm, o, oW⟩ := mk_h J
      have J1 := J.1
      refine r_iload_n dL_makes_153 rfl ?_
      refine r_iconst (v := 4) dL_makes_154 (by decide) ?_
      refine r_icmp_ge (tgt := 245) dL_makes_155 (by decide) (fun c155 => absurd c155 (nI_ge (a := i) (b := 4) (by omega) (by omega))) (fun c155 => ?_)
      refine r_aload_n dL_makes_158 rfl ?_
      refine r_bipush (v := 20) dL_makes_159 (by decide) ?_
      refine r_iload_n dL_makes_161 rfl ?_
      refine r_iadd dL_makes_162 ?_
      rw [show (20 : Int32) + nI i = nI (20 + i) from nI_add_l 20 i]
      refine r_callS (n := 2) (As := [.ref (ad 18 3), .int (nI (20 + i))]) (rest := []) dL_makes_163 (K_at (k := 20 + i) (by omega) hL) ⟨q489, q490, q423, q491⟩ ⟨rfl, by decide, by decide, by decide +kernel⟩ rfl rfl rfl rfl ⟨by decide, by decide⟩ (Nat.le_of_ble_eq_true rfl) ⟨Nat.le_of_ble_eq_true rfl, Nat.le_of_ble_eq_true rfl⟩ (fun v9 x9 m9 hv => ?_)
      obtain ⟨rfl, rfl, rfl⟩ := hv
      generalize sAt ad (20 + i) = x
      refine r_istore dL_makes_166 (by decide) rfl ?_
      refine r_iload dL_makes_168 rfl ?_
      refine r_iconst (v := 1) dL_makes_170 (by decide) ?_
      refine r_iand dL_makes_171 ?_
      refine r_if_ne (tgt := 200) dL_makes_172 (by decide) (fun c172 => ?_) (fun c172 => ?_)
      · refine r_aload_n dL_makes_200 rfl ?_
        refine r_iload dL_makes_201 rfl ?_
        refine r_iconst (v := 1) dL_makes_203 (by decide) ?_
        refine r_ishr dL_makes_204 ?_
        refine r_iload_n dL_makes_205 rfl ?_
        refine r_callS (n := 2) (As := [.int (x >>> (1 &&& 31)), .int (nI n)]) (rest := [.ref (ad 0 0)]) dL_makes_206 (K_some (v := x >>> (1 &&& 31)) (n := nI n) (nI_ne0 (by omega) (by omega))) ⟨q492, q493, q423, q494⟩ ⟨rfl, by decide, by decide, by decide +kernel⟩ rfl rfl rfl rfl ⟨by decide, by decide⟩ (Nat.le_of_ble_eq_true rfl) ⟨Nat.le_of_ble_eq_true rfl, Nat.le_of_ble_eq_true rfl⟩ (fun v9 x9 m9 hv => ?_)
        obtain ⟨rfl, rfl, rfl⟩ := hv
        obtain ⟨d, hd, ed⟩ := some_r (x >>> (1 &&& 31)) (n := n) (by omega) (by omega)
        rw [show f_some (x >>> (1 &&& 31)) (nI n) = nI d from ed]
        refine r_iconst (v := 1) dL_makes_209 (by decide) ?_
        refine r_iload dL_makes_210 rfl ?_
        refine r_iconst (v := 4) dL_makes_212 (by decide) ?_
        refine r_ishr dL_makes_213 ?_
        refine r_bipush (v := 20) dL_makes_214 (by decide) ?_
        refine r_callS (n := 2) (As := [.int (x >>> (4 &&& 31)), .int (20)]) (rest := [.int 1, .int (nI d), .ref (ad 0 0)]) dL_makes_216 (K_some (v := x >>> (4 &&& 31)) (n := 20) (by decide)) ⟨q492, q493, q423, q494⟩ ⟨rfl, by decide, by decide, by decide +kernel⟩ rfl rfl rfl rfl ⟨by decide, by decide⟩ (Nat.le_of_ble_eq_true rfl) ⟨Nat.le_of_ble_eq_true rfl, Nat.le_of_ble_eq_true rfl⟩ (fun v9 x9 m9 hv => ?_)
        obtain ⟨rfl, rfl, rfl⟩ := hv
        obtain ⟨e, he, ee⟩ := some_r (x >>> (4 &&& 31)) (n := 20) (by omega) (by omega)
        rw [show f_some (x >>> (4 &&& 31)) (20) = nI e from ee]
        refine r_iadd dL_makes_219 ?_
        rw [nI_1l]
        refine r_callV (n := 2) (As := [.int (nI d), .int (nI (e + 1))]) (rest := []) dL_makes_220 (K_mile hm o.1 o.2.1 o.2.2.1 o.2.2.2.1 o.2.2.2.2.1) (g_V q433 q434 q435 q2 q436) ⟨rfl, by decide, by decide, by decide +kernel⟩ rfl rfl rfl rfl ⟨by decide, by decide⟩ (Nat.le_of_ble_eq_true rfl) ⟨Nat.le_of_ble_eq_true rfl, Nat.le_of_ble_eq_true rfl⟩ ob_tf (fun v9 x9 m9 hv => ?_)
        obtain ⟨rfl, rfl, rfl⟩ := hv
        have e9 := o_mile (F := F) (hs_t J1 h12 hd) (wi_3 e he) o.2.2.2.2.1
        have J9 := mk_n J (g_mile o) (n_mile o oW) e9
        generalize t_mile F P (nI d) (nI (e + 1)) = q at e9 J9 ⊢
        refine r_istore dL_makes_223 (by decide) rfl ?_
        refine r_iload dL_makes_225 rfl ?_
        refine r_if_ge (tgt := 239) dL_makes_227 (by decide) (fun c227 => ?_) (fun c227 => ?_)
        · refine r_iinc dL_makes_239 rfl ii_s (by decide) rfl ?_
          refine r_goto (tgt := 153) dL_makes_242 (by decide) ?_
          refine r_fgt 4 ?_
          refine r_fgt 5 ?_
          exact ih (i + 1) _ _ _ (by omega) J9
        · refine r_iload dL_makes_230 rfl ?_
          refine r_bipush (v := -14) dL_makes_232 (by decide) ?_
          refine r_icmp_eq (tgt := 239) dL_makes_234 (by decide) (fun c234 => ?_) (fun c234 => absurd (e9.1.resolve_right (fun z => z (Int32.not_le.mp c227))) c234)
          refine r_iinc dL_makes_239 rfl ii_s (by decide) rfl ?_
          refine r_goto (tgt := 153) dL_makes_242 (by decide) ?_
          refine r_fgt 4 ?_
          refine r_fgt 5 ?_
          exact ih (i + 1) _ _ _ (by omega) J9
      · refine r_aload_n dL_makes_175 rfl ?_
        refine r_iload dL_makes_176 rfl ?_
        refine r_iconst (v := 1) dL_makes_178 (by decide) ?_
        refine r_ishr dL_makes_179 ?_
        refine r_iload_n dL_makes_180 rfl ?_
        refine r_callS (n := 2) (As := [.int (x >>> (1 &&& 31)), .int (nI n)]) (rest := [.ref (ad 0 0)]) dL_makes_181 (K_some (v := x >>> (1 &&& 31)) (n := nI n) (nI_ne0 (by omega) (by omega))) ⟨q492, q493, q423, q494⟩ ⟨rfl, by decide, by decide, by decide +kernel⟩ rfl rfl rfl rfl ⟨by decide, by decide⟩ (Nat.le_of_ble_eq_true rfl) ⟨Nat.le_of_ble_eq_true rfl, Nat.le_of_ble_eq_true rfl⟩ (fun v9 x9 m9 hv => ?_)
        obtain ⟨rfl, rfl, rfl⟩ := hv
        obtain ⟨d, hd, ed⟩ := some_r (x >>> (1 &&& 31)) (n := n) (by omega) (by omega)
        rw [show f_some (x >>> (1 &&& 31)) (nI n) = nI d from ed]
        refine r_iconst (v := 1) dL_makes_184 (by decide) ?_
        refine r_iload dL_makes_185 rfl ?_
        refine r_iconst (v := 4) dL_makes_187 (by decide) ?_
        refine r_ishr dL_makes_188 ?_
        refine r_iconst (v := 2) dL_makes_189 (by decide) ?_
        refine r_callS (n := 2) (As := [.int (x >>> (4 &&& 31)), .int (2)]) (rest := [.int 1, .int (nI d), .ref (ad 0 0)]) dL_makes_190 (K_some (v := x >>> (4 &&& 31)) (n := 2) (by decide)) ⟨q492, q493, q423, q494⟩ ⟨rfl, by decide, by decide, by decide +kernel⟩ rfl rfl rfl rfl ⟨by decide, by decide⟩ (Nat.le_of_ble_eq_true rfl) ⟨Nat.le_of_ble_eq_true rfl, Nat.le_of_ble_eq_true rfl⟩ (fun v9 x9 m9 hv => ?_)
        obtain ⟨rfl, rfl, rfl⟩ := hv
        obtain ⟨e, he, ee⟩ := some_r (x >>> (4 &&& 31)) (n := 2) (by omega) (by omega)
        rw [show f_some (x >>> (4 &&& 31)) (2) = nI e from ee]
        refine r_iadd dL_makes_193 ?_
        rw [nI_1l]
        refine r_callV (n := 2) (As := [.int (nI d), .int (nI (e + 1))]) (rest := []) dL_makes_194 (K_fault hm o.1 o.2.1 o.2.2.1 o.2.2.2.1 o.2.2.2.2.1) (g_V q495 q496 q497 q2 q498) ⟨rfl, by decide, by decide, by decide +kernel⟩ rfl rfl rfl rfl ⟨by decide, by decide⟩ (Nat.le_of_ble_eq_true rfl) ⟨Nat.le_of_ble_eq_true rfl, Nat.le_of_ble_eq_true rfl⟩ ob_tf (fun v9 x9 m9 hv => ?_)
        obtain ⟨rfl, rfl, rfl⟩ := hv
        have e9 := o_fault (F := F) (m := e + 1) (hs_t J1 h12 hd) (wi_6 e he) (by omega) (by omega) oW (by omega)
        have J9 := mk_n J (g_fault o) (n_fault (by omega) o oW) e9
        generalize t_fault F P (nI d) (nI (e + 1)) = q at e9 J9 ⊢
        refine r_goto (tgt := 223) dL_makes_197 (by decide) ?_
        refine r_istore dL_makes_223 (by decide) rfl ?_
        refine r_iload dL_makes_225 rfl ?_
        refine r_if_ge (tgt := 239) dL_makes_227 (by decide) (fun c227 => ?_) (fun c227 => ?_)
        · refine r_iinc dL_makes_239 rfl ii_s (by decide) rfl ?_
          refine r_goto (tgt := 153) dL_makes_242 (by decide) ?_
          refine r_fgt 4 ?_
          refine r_fgt 5 ?_
          exact ih (i + 1) _ _ _ (by omega) J9
        · refine r_iload dL_makes_230 rfl ?_
          refine r_bipush (v := -14) dL_makes_232 (by decide) ?_
          refine r_icmp_eq (tgt := 239) dL_makes_234 (by decide) (fun c234 => ?_) (fun c234 => absurd (e9.1.resolve_right (fun z => z (Int32.not_le.mp c227))) c234)
          refine r_iinc dL_makes_239 rfl ii_s (by decide) rfl ?_
          refine r_goto (tgt := 153) dL_makes_242 (by decide) ?_
          refine r_fgt 4 ?_
          refine r_fgt 5 ?_
          exact ih (i + 1) _ _ _ (by omega) J9
  have T86 : ∀ (n : Nat), 4 ≤ n → n ≤ 12 → ∀ (c i : Nat) (M : tM) (F P : tP), i + c = 9 → mk n (110 + 9 * i) M F P → Rj cL_makes RL 6 (some .boolean) (rmd 12) 0 0 cA ad (fun v x m => ∃ (M2 : tM) (F2 P2 : tP), v = some (.int 1) ∧ x = ex ∧ m = mm M2 F2 P2 ∧ ∃ c k u, 4 ≤ c ∧ c ≤ 12 ∧ P2 0 1 = nI c ∧ inv M2 F2 P2 k u 300 0) ex 0 0 86 [some (.ref (ad 0 0)), some (.ref (ad 18 3)), some (.int (nI n)), some (.int (nI i)), none, none] [] (mm M F P) := by
    intro n h4 h12
    intro c
    induction c with
    | zero =>
      intro i M F P hi J
      obtain rfl : i = 9 := by omega
      refine r_iload_n dL_makes_86 rfl ?_
      refine r_bipush (v := 9) dL_makes_87 (by decide) ?_
      refine r_icmp_ge (tgt := 151) dL_makes_89 (by decide) (fun c89 => ?_) (fun c89 => absurd (Int32.le_refl _) c89)
      refine r_iconst (v := 0) dL_makes_151 (by decide) ?_
      refine r_istore_n dL_makes_152 (by decide) rfl ?_
      exact T153 n h4 h12 4 0 M F P rfl (mk_w (by omega) J)
    | succ c ih =>
      intro i M F P hi J
      obtain ⟨hm, o, oW⟩ := mk_h J
      have J1 := J.1
      refine r_iload_n dL_makes_86 rfl ?_
      refine r_bipush (v := 9) dL_makes_87 (by decide) ?_
      refine r_icmp_ge (tgt := 151) dL_makes_89 (by decide) (fun c89 => absurd c89 (nI_ge (a := i) (b := 9) (by omega) (by omega))) (fun c89 => ?_)
      refine r_aload_n dL_makes_92 rfl ?_
      refine r_bipush (v := 12) dL_makes_93 (by decide) ?_
      refine r_iload_n dL_makes_95 rfl ?_
      refine r_bipush (v := 8) dL_makes_96 (by decide) ?_
      refine r_irem dL_makes_98 (by decide) ?_
      refine r_iadd dL_makes_99 ?_
      rw [at_12 i (by omega)]
      refine r_callS (n := 2) (As := [.ref (ad 18 3), .int (nI (12 + i % 8))]) (rest := []) dL_makes_100 (K_at (k := 12 + i % 8) (by omega) hL) ⟨q489, q490, q423, q491⟩ ⟨rfl, by decide, by decide, by decide +kernel⟩ rfl rfl rfl rfl ⟨by decide, by decide⟩ (Nat.le_of_ble_eq_true rfl) ⟨Nat.le_of_ble_eq_true rfl, Nat.le_of_ble_eq_true rfl⟩ (fun v9 x9 m9 hv => ?_)
      obtain ⟨rfl, rfl, rfl⟩ := hv
      refine r_iload_n dL_makes_103 rfl ?_
      refine r_sipush (v := 7919) dL_makes_104 (by decide) ?_
      refine r_imul dL_makes_107 ?_
      refine r_ixor dL_makes_108 ?_
      refine r_istore dL_makes_109 (by decide) rfl ?_
      refine r_aload_n dL_makes_111 rfl ?_
      refine r_iload dL_makes_112 rfl ?_
      refine r_iload_n dL_makes_114 rfl ?_
      generalize sAt ad (12 + i % 8) ^^^ nI i * 7919 = x
      refine r_callS (n := 2) (As := [.int (x), .int (nI n)]) (rest := [.ref (ad 0 0)]) dL_makes_115 (K_some (v := x) (n := nI n) (nI_ne0 (by omega) (by omega))) ⟨q492, q493, q423, q494⟩ ⟨rfl, by decide, by decide, by decide +kernel⟩ rfl rfl rfl rfl ⟨by decide, by decide⟩ (Nat.le_of_ble_eq_true rfl) ⟨Nat.le_of_ble_eq_true rfl, Nat.le_of_ble_eq_true rfl⟩ (fun v9 x9 m9 hv => ?_)
      obtain ⟨rfl, rfl, rfl⟩ := hv
      obtain ⟨d, hd, ed⟩ := some_r (x) (n := n) (by omega) (by omega)
      rw [show f_some (x) (nI n) = nI d from ed]
      refine r_iload dL_makes_118 rfl ?_
      refine r_iconst (v := 3) dL_makes_120 (by decide) ?_
      refine r_ishr dL_makes_121 ?_
      refine r_iload_n dL_makes_122 rfl ?_
      refine r_callS (n := 2) (As := [.int (x >>> (3 &&& 31)), .int (nI n)]) (rest := [.int (nI d), .ref (ad 0 0)]) dL_makes_123 (K_some (v := x >>> (3 &&& 31)) (n := nI n) (nI_ne0 (by omega) (by omega))) ⟨q492, q493, q423, q494⟩ ⟨rfl, by decide, by decide, by decide +kernel⟩ rfl rfl rfl rfl ⟨by decide, by decide⟩ (Nat.le_of_ble_eq_true rfl) ⟨Nat.le_of_ble_eq_true rfl, Nat.le_of_ble_eq_true rfl⟩ (fun v9 x9 m9 hv => ?_)
      obtain ⟨rfl, rfl, rfl⟩ := hv
      obtain ⟨e, he, ee⟩ := some_r (x >>> (3 &&& 31)) (n := n) (by omega) (by omega)
      rw [show f_some (x >>> (3 &&& 31)) (nI n) = nI e from ee]
      refine r_callV (n := 2) (As := [.int (nI d), .int (nI e)]) (rest := []) dL_makes_126 (K_need hm o.1 o.2.1 o.2.2.1 o.2.2.2.1 o.2.2.2.2.1) (g_V q429 q430 q431 q2 q432) ⟨rfl, by decide, by decide, by decide +kernel⟩ rfl rfl rfl rfl ⟨by decide, by decide⟩ (Nat.le_of_ble_eq_true rfl) ⟨Nat.le_of_ble_eq_true rfl, Nat.le_of_ble_eq_true rfl⟩ ob_tf (fun v9 x9 m9 hv => ?_)
      obtain ⟨rfl, rfl, rfl⟩ := hv
      have e9 := o_need (F := F) (hs_t J1 h12 hd) (hs_t J1 h12 he)
      have J9 := mk_n J (g_need o) (n_need oW) e9
      generalize t_need F P (nI d) (nI e) = q at e9 J9 ⊢
      refine r_istore dL_makes_129 (by decide) rfl ?_
      refine r_iload dL_makes_131 rfl ?_
      refine r_if_ge (tgt := 145) dL_makes_133 (by decide) (fun c133 => ?_) (fun c133 => ?_)
      · refine r_iinc dL_makes_145 rfl ii_s (by decide) rfl ?_
        refine r_goto (tgt := 86) dL_makes_148 (by decide) ?_
        refine r_fgt 4 ?_
        refine r_fgt 5 ?_
        exact ih (i + 1) _ _ _ (by omega) J9
      · refine r_iload dL_makes_136 rfl ?_
        refine r_bipush (v := -14) dL_makes_138 (by decide) ?_
        refine r_icmp_eq (tgt := 145) dL_makes_140 (by decide) (fun c140 => ?_) (fun c140 => absurd (e9.1.resolve_right (fun z => z (Int32.not_le.mp c133))) c140)
        refine r_iinc dL_makes_145 rfl ii_s (by decide) rfl ?_
        refine r_goto (tgt := 86) dL_makes_148 (by decide) ?_
        refine r_fgt 4 ?_
        refine r_fgt 5 ?_
        exact ih (i + 1) _ _ _ (by omega) J9
  have T15 : ∀ (n : Nat), 4 ≤ n → n ≤ 12 → ∀ (c i : Nat) (M : tM) (F P : tP), i + c = n → mk i (9 * i) M F P → Rj cL_makes RL 6 (some .boolean) (rmd 12) 0 0 cA ad (fun v x m => ∃ (M2 : tM) (F2 P2 : tP), v = some (.int 1) ∧ x = ex ∧ m = mm M2 F2 P2 ∧ ∃ c k u, 4 ≤ c ∧ c ≤ 12 ∧ P2 0 1 = nI c ∧ inv M2 F2 P2 k u 300 0) ex 0 0 15 [some (.ref (ad 0 0)), some (.ref (ad 18 3)), some (.int (nI n)), some (.int (nI i)), none, none] [] (mm M F P) := by
    intro n h4 h12
    intro c
    induction c with
    | zero =>
      intro i M F P hi J
      obtain rfl : i = n := by omega
      refine r_iload_n dL_makes_15 rfl ?_
      refine r_iload_n dL_makes_16 rfl ?_
      refine r_icmp_ge (tgt := 84) dL_makes_17 (by decide) (fun c17 => ?_) (fun c17 => absurd (Int32.le_refl _) c17)
      refine r_iconst (v := 0) dL_makes_84 (by decide) ?_
      refine r_istore_n dL_makes_85 (by decide) rfl ?_
      exact T86 i h4 h12 9 0 M F P rfl (mk_w (by omega) J)
    | succ c ih =>
      intro i M F P hi J
      obtain ⟨hm, o, oW⟩ := mk_h J
      have J1 := J.1
      refine r_iload_n dL_makes_15 rfl ?_
      refine r_iload_n dL_makes_16 rfl ?_
      refine r_icmp_ge (tgt := 84) dL_makes_17 (by decide) (fun c17 => absurd c17 (nI_ge (by omega) (by omega))) (fun c17 => ?_)
      refine r_aload_n dL_makes_20 rfl ?_
      refine r_iconst (v := 1) dL_makes_21 (by decide) ?_
      refine r_iload_n dL_makes_22 rfl ?_
      refine r_iadd dL_makes_23 ?_
      rw [nI_1l]
      refine r_callS (n := 2) (As := [.ref (ad 18 3), .int (nI (i + 1))]) (rest := []) dL_makes_24 (K_at (k := i + 1) (by omega) hL) ⟨q489, q490, q423, q491⟩ ⟨rfl, by decide, by decide, by decide +kernel⟩ rfl rfl rfl rfl ⟨by decide, by decide⟩ (Nat.le_of_ble_eq_true rfl) ⟨Nat.le_of_ble_eq_true rfl, Nat.le_of_ble_eq_true rfl⟩ (fun v9 x9 m9 hv => ?_)
      obtain ⟨rfl, rfl, rfl⟩ := hv
      refine r_istore dL_makes_27 (by decide) rfl ?_
      refine r_aload_n dL_makes_29 rfl ?_
      refine r_iconst (v := 1) dL_makes_30 (by decide) ?_
      refine r_iload dL_makes_31 rfl ?_
      refine r_iconst (v := 5) dL_makes_33 (by decide) ?_
      generalize sAt ad (i + 1) = x
      refine r_callS (n := 2) (As := [.int (x), .int (5)]) (rest := [.int 1, .ref (ad 0 0)]) dL_makes_34 (K_some (v := x) (n := 5) (by decide)) ⟨q492, q493, q423, q494⟩ ⟨rfl, by decide, by decide, by decide +kernel⟩ rfl rfl rfl rfl ⟨by decide, by decide⟩ (Nat.le_of_ble_eq_true rfl) ⟨Nat.le_of_ble_eq_true rfl, Nat.le_of_ble_eq_true rfl⟩ (fun v9 x9 m9 hv => ?_)
      obtain ⟨rfl, rfl, rfl⟩ := hv
      obtain ⟨d, hd, ed⟩ := some_r (x) (n := 5) (by omega) (by omega)
      rw [show f_some (x) (5) = nI d from ed]
      refine r_iadd dL_makes_37 ?_
      refine r_iload dL_makes_38 rfl ?_
      refine r_iconst (v := 3) dL_makes_40 (by decide) ?_
      refine r_ishr dL_makes_41 ?_
      refine r_iconst (v := 4) dL_makes_42 (by decide) ?_
      rw [nI_1l]
      refine r_callS (n := 2) (As := [.int (x >>> (3 &&& 31)), .int (4)]) (rest := [.int (nI (d + 1)), .ref (ad 0 0)]) dL_makes_43 (K_some (v := x >>> (3 &&& 31)) (n := 4) (by decide)) ⟨q492, q493, q423, q494⟩ ⟨rfl, by decide, by decide, by decide +kernel⟩ rfl rfl rfl rfl ⟨by decide, by decide⟩ (Nat.le_of_ble_eq_true rfl) ⟨Nat.le_of_ble_eq_true rfl, Nat.le_of_ble_eq_true rfl⟩ (fun v9 x9 m9 hv => ?_)
      obtain ⟨rfl, rfl, rfl⟩ := hv
      obtain ⟨e, he, ee⟩ := some_r (x >>> (3 &&& 31)) (n := 4) (by omega) (by omega)
      rw [show f_some (x >>> (3 &&& 31)) (4) = nI e from ee]
      refine r_iload dL_makes_46 rfl ?_
      refine r_iconst (v := 5) dL_makes_48 (by decide) ?_
      refine r_ishr dL_makes_49 ?_
      refine r_iconst (v := 4) dL_makes_50 (by decide) ?_
      refine r_callS (n := 2) (As := [.int (x >>> (5 &&& 31)), .int (4)]) (rest := [.int (nI e), .int (nI (d + 1)), .ref (ad 0 0)]) dL_makes_51 (K_some (v := x >>> (5 &&& 31)) (n := 4) (by decide)) ⟨q492, q493, q423, q494⟩ ⟨rfl, by decide, by decide, by decide +kernel⟩ rfl rfl rfl rfl ⟨by decide, by decide⟩ (Nat.le_of_ble_eq_true rfl) ⟨Nat.le_of_ble_eq_true rfl, Nat.le_of_ble_eq_true rfl⟩ (fun v9 x9 m9 hv => ?_)
      obtain ⟨rfl, rfl, rfl⟩ := hv
      obtain ⟨f, hf, ef⟩ := some_r (x >>> (5 &&& 31)) (n := 4) (by omega) (by omega)
      rw [show f_some (x >>> (5 &&& 31)) (4) = nI f from ef]
      refine r_iload dL_makes_54 rfl ?_
      refine r_bipush (v := 7) dL_makes_56 (by decide) ?_
      refine r_ishr dL_makes_58 ?_
      refine r_iconst (v := 3) dL_makes_59 (by decide) ?_
      refine r_iand dL_makes_60 ?_
      refine r_if_ne (tgt := 68) dL_makes_61 (by decide) (fun c61 => ?_) (fun c61 => ?_)
      · refine r_iconst (v := 0) dL_makes_68 (by decide) ?_
        refine r_callV (n := 4) (As := [.int (nI (d + 1)), .int (nI e), .int (nI f), .int (bI false)]) (rest := []) dL_makes_69 (K_step (a := false) hm o.1 o.2.1 o.2.2.1 o.2.2.2.1 o.2.2.2.2.1) (g_V q417 q418 q419 q2 q420) ⟨rfl, by decide, by decide, by decide +kernel⟩ rfl rfl rfl rfl ⟨by decide, by decide⟩ (Nat.le_of_ble_eq_true rfl) ⟨Nat.le_of_ble_eq_true rfl, Nat.le_of_ble_eq_true rfl⟩ ob_tf (fun v9 x9 m9 hv => ?_)
        obtain ⟨rfl, rfl, rfl⟩ := hv
        have e9 := t_step_y (F := F) (a := bI false) J1 (by omega) (wi_1 d hd) (wi_2 e he) (wi_2 f hf)
        have J9 := mk_q (c' := i + 1) J (g_step (d := nI (d + 1)) (m := nI e) (b := nI f) (a := false) o) (n_step o oW) (by rw [e9]; dsimp only; rw [add_0.1, J1]; exact nI_1 i) (by rw [e9]; dsimp only; rw [add_0.2]; exact J.2.1)
        rw [show (t_step F P (nI (d + 1)) (nI e) (nI f) (bI false)).1 = nI i from by rw [e9]] at J9 ⊢
        refine r_iload_n dL_makes_72 rfl ?_
        refine r_icmp_eq (tgt := 78) dL_makes_73 (by decide) (fun c73 => ?_) (fun c73 => absurd rfl c73)
        refine r_iinc dL_makes_78 rfl ii_s (by decide) rfl ?_
        refine r_goto (tgt := 15) dL_makes_81 (by decide) ?_
        refine r_fgt 4 ?_
        exact ih (i + 1) _ _ _ (by omega) (mk_w (by omega) J9)
      · refine r_iconst (v := 1) dL_makes_64 (by decide) ?_
        refine r_goto (tgt := 69) dL_makes_65 (by decide) ?_
        refine r_callV (n := 4) (As := [.int (nI (d + 1)), .int (nI e), .int (nI f), .int (bI true)]) (rest := []) dL_makes_69 (K_step (a := true) hm o.1 o.2.1 o.2.2.1 o.2.2.2.1 o.2.2.2.2.1) (g_V q417 q418 q419 q2 q420) ⟨rfl, by decide, by decide, by decide +kernel⟩ rfl rfl rfl rfl ⟨by decide, by decide⟩ (Nat.le_of_ble_eq_true rfl) ⟨Nat.le_of_ble_eq_true rfl, Nat.le_of_ble_eq_true rfl⟩ ob_tf (fun v9 x9 m9 hv => ?_)
        obtain ⟨rfl, rfl, rfl⟩ := hv
        have e9 := t_step_y (F := F) (a := bI true) J1 (by omega) (wi_1 d hd) (wi_2 e he) (wi_2 f hf)
        have J9 := mk_q (c' := i + 1) J (g_step (d := nI (d + 1)) (m := nI e) (b := nI f) (a := true) o) (n_step o oW) (by rw [e9]; dsimp only; rw [add_0.1, J1]; exact nI_1 i) (by rw [e9]; dsimp only; rw [add_0.2]; exact J.2.1)
        rw [show (t_step F P (nI (d + 1)) (nI e) (nI f) (bI true)).1 = nI i from by rw [e9]] at J9 ⊢
        refine r_iload_n dL_makes_72 rfl ?_
        refine r_icmp_eq (tgt := 78) dL_makes_73 (by decide) (fun c73 => ?_) (fun c73 => absurd rfl c73)
        refine r_iinc dL_makes_78 rfl ii_s (by decide) rfl ?_
        refine r_goto (tgt := 15) dL_makes_81 (by decide) ?_
        refine r_fgt 4 ?_
        exact ih (i + 1) _ _ _ (by omega) (mk_w (by omega) J9)
  have J0 : mk 0 0 M F P := ⟨h1, h8, k, u, I⟩
  refine r_iconst (v := 4) dL_makes_0 (by decide) ?_
  refine r_aload_n dL_makes_1 rfl ?_
  refine r_iconst (v := 0) dL_makes_2 (by decide) ?_
  refine r_callS (n := 2) (As := [.ref (ad 18 3), .int (nI (0))]) (rest := [.int 4]) dL_makes_3 (K_at (k := 0) (by omega) hL) ⟨q489, q490, q423, q491⟩ ⟨rfl, by decide, by decide, by decide +kernel⟩ rfl rfl rfl rfl ⟨by decide, by decide⟩ (Nat.le_of_ble_eq_true rfl) ⟨Nat.le_of_ble_eq_true rfl, Nat.le_of_ble_eq_true rfl⟩ (fun v9 x9 m9 hv => ?_)
  obtain ⟨rfl, rfl, rfl⟩ := hv
  refine r_bipush (v := 7) dL_makes_6 (by decide) ?_
  refine r_callS (n := 2) (As := [.int (sAt ad 0), .int (7)]) (rest := [.int 4]) dL_makes_8 (K_some (v := sAt ad 0) (n := 7) (by decide)) ⟨q492, q493, q423, q494⟩ ⟨rfl, by decide, by decide, by decide +kernel⟩ rfl rfl rfl rfl ⟨by decide, by decide⟩ (Nat.le_of_ble_eq_true rfl) ⟨Nat.le_of_ble_eq_true rfl, Nat.le_of_ble_eq_true rfl⟩ (fun v9 x9 m9 hv => ?_)
  obtain ⟨rfl, rfl, rfl⟩ := hv
  obtain ⟨d, hd, ed⟩ := some_r (sAt ad 0) (n := 7) (by omega) (by omega)
  rw [show f_some (sAt ad 0) (7) = nI d from ed]
  refine r_iadd dL_makes_11 ?_
  rw [show (4 : Int32) + nI d = nI (4 + d) from nI_add_l 4 d]
  refine r_istore_n dL_makes_12 (by decide) rfl ?_
  refine r_iconst (v := 0) dL_makes_13 (by decide) ?_
  refine r_istore_n dL_makes_14 (by decide) rfl ?_
  exact T15 (4 + d) (by omega) (by omega) (4 + d) 0 M F P (by omega) J0

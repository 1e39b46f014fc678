theorem dX12_makes_0 : decode cX12_makes 0 = .ok (.aload_n 0, 1) := by decide +kernel
theorem dX12_makes_1 : decode cX12_makes 1 = .ok (.getfield 33, 3) := by decide +kernel
theorem dX12_makes_4 : decode cX12_makes 4 = .ok (.bipush 60, 2) := by decide +kernel
theorem dX12_makes_6 : decode cX12_makes 6 = .ok (.iconst 3, 1) := by decide +kernel
theorem dX12_makes_7 : decode cX12_makes 7 = .ok (.iload_n 1, 1) := by decide +kernel
theorem dX12_makes_8 : decode cX12_makes 8 = .ok (.imul, 1) := by decide +kernel
theorem dX12_makes_9 : decode cX12_makes 9 = .ok (.iadd, 1) := by decide +kernel
theorem dX12_makes_10 : decode cX12_makes 10 = .ok (.iconst 1, 1) := by decide +kernel
theorem dX12_makes_11 : decode cX12_makes 11 = .ok (.iadd, 1) := by decide +kernel
theorem dX12_makes_12 : decode cX12_makes 12 = .ok (.iaload, 1) := by decide +kernel
theorem dX12_makes_13 : decode cX12_makes 13 = .ok (.istore_n 3, 1) := by decide +kernel
theorem dX12_makes_14 : decode cX12_makes 14 = .ok (.aload_n 0, 1) := by decide +kernel
theorem dX12_makes_15 : decode cX12_makes 15 = .ok (.getfield 33, 3) := by decide +kernel
theorem dX12_makes_18 : decode cX12_makes 18 = .ok (.bipush 60, 2) := by decide +kernel
theorem dX12_makes_20 : decode cX12_makes 20 = .ok (.iconst 3, 1) := by decide +kernel
theorem dX12_makes_21 : decode cX12_makes 21 = .ok (.iload_n 1, 1) := by decide +kernel
theorem dX12_makes_22 : decode cX12_makes 22 = .ok (.imul, 1) := by decide +kernel
theorem dX12_makes_23 : decode cX12_makes 23 = .ok (.iadd, 1) := by decide +kernel
theorem dX12_makes_24 : decode cX12_makes 24 = .ok (.iconst 2, 1) := by decide +kernel
theorem dX12_makes_25 : decode cX12_makes 25 = .ok (.iadd, 1) := by decide +kernel
theorem dX12_makes_26 : decode cX12_makes 26 = .ok (.iaload, 1) := by decide +kernel
theorem dX12_makes_27 : decode cX12_makes 27 = .ok (.istore 4, 2) := by decide +kernel
theorem dX12_makes_29 : decode cX12_makes 29 = .ok (.iload_n 2, 1) := by decide +kernel
theorem dX12_makes_30 : decode cX12_makes 30 = .ok (.aload_n 0, 1) := by decide +kernel
theorem dX12_makes_31 : decode cX12_makes 31 = .ok (.getfield 30, 3) := by decide +kernel
theorem dX12_makes_34 : decode cX12_makes 34 = .ok (.bipush 6, 2) := by decide +kernel
theorem dX12_makes_36 : decode cX12_makes 36 = .ok (.iaload, 1) := by decide +kernel
theorem dX12_makes_37 : decode cX12_makes 37 = .ok (.if_icmp .ne 5, 3) := by decide +kernel
theorem dX12_makes_40 : decode cX12_makes 40 = .ok (.iconst 1, 1) := by decide +kernel
theorem dX12_makes_41 : decode cX12_makes 41 = .ok (.ireturn, 1) := by decide +kernel
theorem dX12_makes_42 : decode cX12_makes 42 = .ok (.iload 4, 2) := by decide +kernel
theorem dX12_makes_44 : decode cX12_makes 44 = .ok (.ifCond .ge 9, 3) := by decide +kernel
theorem dX12_makes_47 : decode cX12_makes 47 = .ok (.iload 4, 2) := by decide +kernel
theorem dX12_makes_49 : decode cX12_makes 49 = .ok (.ineg, 1) := by decide +kernel
theorem dX12_makes_50 : decode cX12_makes 50 = .ok (.goto 5, 3) := by decide +kernel
theorem dX12_makes_53 : decode cX12_makes 53 = .ok (.iload 4, 2) := by decide +kernel
theorem dX12_makes_55 : decode cX12_makes 55 = .ok (.aload_n 0, 1) := by decide +kernel
theorem dX12_makes_56 : decode cX12_makes 56 = .ok (.getfield 30, 3) := by decide +kernel
theorem dX12_makes_59 : decode cX12_makes 59 = .ok (.bipush 7, 2) := by decide +kernel
theorem dX12_makes_61 : decode cX12_makes 61 = .ok (.iaload, 1) := by decide +kernel
theorem dX12_makes_62 : decode cX12_makes 62 = .ok (.if_icmp .le 5, 3) := by decide +kernel
theorem dX12_makes_65 : decode cX12_makes 65 = .ok (.iconst 2, 1) := by decide +kernel
theorem dX12_makes_66 : decode cX12_makes 66 = .ok (.ireturn, 1) := by decide +kernel
theorem dX12_makes_67 : decode cX12_makes 67 = .ok (.aload_n 0, 1) := by decide +kernel
theorem dX12_makes_68 : decode cX12_makes 68 = .ok (.iload_n 3, 1) := by decide +kernel
theorem dX12_makes_69 : decode cX12_makes 69 = .ok (.invokevirtual 380, 3) := by decide +kernel
theorem dX12_makes_72 : decode cX12_makes 72 = .ok (.iload 4, 2) := by decide +kernel
theorem dX12_makes_74 : decode cX12_makes 74 = .ok (.iadd, 1) := by decide +kernel
theorem dX12_makes_75 : decode cX12_makes 75 = .ok (.iconst 0, 1) := by decide +kernel
theorem dX12_makes_76 : decode cX12_makes 76 = .ok (.bipush 99, 2) := by decide +kernel
theorem dX12_makes_78 : decode cX12_makes 78 = .ok (.invokestatic 392, 3) := by decide +kernel
theorem dX12_makes_81 : decode cX12_makes 81 = .ok (.ifCond .ne 5, 3) := by decide +kernel
theorem dX12_makes_84 : decode cX12_makes 84 = .ok (.iconst 3, 1) := by decide +kernel
theorem dX12_makes_85 : decode cX12_makes 85 = .ok (.ireturn, 1) := by decide +kernel
theorem dX12_makes_86 : decode cX12_makes 86 = .ok (.iload 4, 2) := by decide +kernel
theorem dX12_makes_88 : decode cX12_makes 88 = .ok (.ifCond .le 71, 3) := by decide +kernel
theorem dX12_makes_91 : decode cX12_makes 91 = .ok (.aload_n 0, 1) := by decide +kernel
theorem dX12_makes_92 : decode cX12_makes 92 = .ok (.iload 4, 2) := by decide +kernel
theorem dX12_makes_94 : decode cX12_makes 94 = .ok (.invokevirtual 445, 3) := by decide +kernel
theorem dX12_makes_97 : decode cX12_makes 97 = .ok (.istore 5, 2) := by decide +kernel
theorem dX12_makes_99 : decode cX12_makes 99 = .ok (.iload 5, 2) := by decide +kernel
theorem dX12_makes_101 : decode cX12_makes 101 = .ok (.ldc_w 441, 3) := by decide +kernel
theorem dX12_makes_104 : decode cX12_makes 104 = .ok (.if_icmp .lt 5, 3) := by decide +kernel
theorem dX12_makes_107 : decode cX12_makes 107 = .ok (.iconst 4, 1) := by decide +kernel
theorem dX12_makes_108 : decode cX12_makes 108 = .ok (.ireturn, 1) := by decide +kernel
theorem dX12_makes_109 : decode cX12_makes 109 = .ok (.aload_n 0, 1) := by decide +kernel
theorem dX12_makes_110 : decode cX12_makes 110 = .ok (.dup, 1) := by decide +kernel
theorem dX12_makes_111 : decode cX12_makes 111 = .ok (.getfield 448, 3) := by decide +kernel
theorem dX12_makes_114 : decode cX12_makes 114 = .ok (.iload 5, 2) := by decide +kernel
theorem dX12_makes_116 : decode cX12_makes 116 = .ok (.iadd, 1) := by decide +kernel
theorem dX12_makes_117 : decode cX12_makes 117 = .ok (.putfield 448, 3) := by decide +kernel
theorem dX12_makes_120 : decode cX12_makes 120 = .ok (.iconst 0, 1) := by decide +kernel
theorem dX12_makes_121 : decode cX12_makes 121 = .ok (.istore 6, 2) := by decide +kernel
theorem dX12_makes_123 : decode cX12_makes 123 = .ok (.iload 6, 2) := by decide +kernel
theorem dX12_makes_125 : decode cX12_makes 125 = .ok (.bipush 8, 2) := by decide +kernel
theorem dX12_makes_127 : decode cX12_makes 127 = .ok (.if_icmp .ge 29, 3) := by decide +kernel
theorem dX12_makes_130 : decode cX12_makes 130 = .ok (.aload_n 0, 1) := by decide +kernel
theorem dX12_makes_131 : decode cX12_makes 131 = .ok (.getfield 33, 3) := by decide +kernel
theorem dX12_makes_134 : decode cX12_makes 134 = .ok (.bipush 50, 2) := by decide +kernel
theorem dX12_makes_136 : decode cX12_makes 136 = .ok (.iload 6, 2) := by decide +kernel
theorem dX12_makes_138 : decode cX12_makes 138 = .ok (.iadd, 1) := by decide +kernel
theorem dX12_makes_139 : decode cX12_makes 139 = .ok (.dup2, 1) := by decide +kernel
theorem dX12_makes_140 : decode cX12_makes 140 = .ok (.iaload, 1) := by decide +kernel
theorem dX12_makes_141 : decode cX12_makes 141 = .ok (.aload_n 0, 1) := by decide +kernel
theorem dX12_makes_142 : decode cX12_makes 142 = .ok (.getfield 91, 3) := by decide +kernel
theorem dX12_makes_145 : decode cX12_makes 145 = .ok (.iload 6, 2) := by decide +kernel
theorem dX12_makes_147 : decode cX12_makes 147 = .ok (.iaload, 1) := by decide +kernel
theorem dX12_makes_148 : decode cX12_makes 148 = .ok (.isub, 1) := by decide +kernel
theorem dX12_makes_149 : decode cX12_makes 149 = .ok (.iastore, 1) := by decide +kernel
theorem dX12_makes_150 : decode cX12_makes 150 = .ok (.iinc 6 1, 3) := by decide +kernel
theorem dX12_makes_153 : decode cX12_makes 153 = .ok (.goto (-30), 3) := by decide +kernel
theorem dX12_makes_156 : decode cX12_makes 156 = .ok (.goto 77, 3) := by decide +kernel
theorem dX12_makes_159 : decode cX12_makes 159 = .ok (.iconst 0, 1) := by decide +kernel
theorem dX12_makes_160 : decode cX12_makes 160 = .ok (.istore 5, 2) := by decide +kernel
theorem dX12_makes_162 : decode cX12_makes 162 = .ok (.iload 5, 2) := by decide +kernel
theorem dX12_makes_164 : decode cX12_makes 164 = .ok (.aload_n 0, 1) := by decide +kernel
theorem dX12_makes_165 : decode cX12_makes 165 = .ok (.getfield 30, 3) := by decide +kernel
theorem dX12_makes_168 : decode cX12_makes 168 = .ok (.iconst 5, 1) := by decide +kernel
theorem dX12_makes_169 : decode cX12_makes 169 = .ok (.iaload, 1) := by decide +kernel
theorem dX12_makes_170 : decode cX12_makes 170 = .ok (.if_icmp .ge 63, 3) := by decide +kernel
theorem dX12_makes_173 : decode cX12_makes 173 = .ok (.aload_n 0, 1) := by decide +kernel
theorem dX12_makes_174 : decode cX12_makes 174 = .ok (.getfield 30, 3) := by decide +kernel
theorem dX12_makes_177 : decode cX12_makes 177 = .ok (.sipush 170, 3) := by decide +kernel
theorem dX12_makes_180 : decode cX12_makes 180 = .ok (.iconst 2, 1) := by decide +kernel
theorem dX12_makes_181 : decode cX12_makes 181 = .ok (.iload 5, 2) := by decide +kernel
theorem dX12_makes_183 : decode cX12_makes 183 = .ok (.imul, 1) := by decide +kernel
theorem dX12_makes_184 : decode cX12_makes 184 = .ok (.iadd, 1) := by decide +kernel
theorem dX12_makes_185 : decode cX12_makes 185 = .ok (.iaload, 1) := by decide +kernel
theorem dX12_makes_186 : decode cX12_makes 186 = .ok (.iload 4, 2) := by decide +kernel
theorem dX12_makes_188 : decode cX12_makes 188 = .ok (.ineg, 1) := by decide +kernel
theorem dX12_makes_189 : decode cX12_makes 189 = .ok (.if_icmp .eq 6, 3) := by decide +kernel
theorem dX12_makes_192 : decode cX12_makes 192 = .ok (.goto 35, 3) := by decide +kernel
theorem dX12_makes_195 : decode cX12_makes 195 = .ok (.aload_n 0, 1) := by decide +kernel
theorem dX12_makes_196 : decode cX12_makes 196 = .ok (.getfield 33, 3) := by decide +kernel
theorem dX12_makes_199 : decode cX12_makes 199 = .ok (.bipush 50, 2) := by decide +kernel
theorem dX12_makes_201 : decode cX12_makes 201 = .ok (.iload 5, 2) := by decide +kernel
theorem dX12_makes_203 : decode cX12_makes 203 = .ok (.iadd, 1) := by decide +kernel
theorem dX12_makes_204 : decode cX12_makes 204 = .ok (.iaload, 1) := by decide +kernel
theorem dX12_makes_205 : decode cX12_makes 205 = .ok (.bipush 99, 2) := by decide +kernel
theorem dX12_makes_207 : decode cX12_makes 207 = .ok (.if_icmp .ge 26, 3) := by decide +kernel
theorem dX12_makes_210 : decode cX12_makes 210 = .ok (.aload_n 0, 1) := by decide +kernel
theorem dX12_makes_211 : decode cX12_makes 211 = .ok (.getfield 33, 3) := by decide +kernel
theorem dX12_makes_214 : decode cX12_makes 214 = .ok (.bipush 50, 2) := by decide +kernel
theorem dX12_makes_216 : decode cX12_makes 216 = .ok (.iload 5, 2) := by decide +kernel
theorem dX12_makes_218 : decode cX12_makes 218 = .ok (.iadd, 1) := by decide +kernel
theorem dX12_makes_219 : decode cX12_makes 219 = .ok (.dup2, 1) := by decide +kernel
theorem dX12_makes_220 : decode cX12_makes 220 = .ok (.iaload, 1) := by decide +kernel
theorem dX12_makes_221 : decode cX12_makes 221 = .ok (.iconst 1, 1) := by decide +kernel
theorem dX12_makes_222 : decode cX12_makes 222 = .ok (.iadd, 1) := by decide +kernel
theorem dX12_makes_223 : decode cX12_makes 223 = .ok (.iastore, 1) := by decide +kernel
theorem dX12_makes_224 : decode cX12_makes 224 = .ok (.goto 9, 3) := by decide +kernel
theorem dX12_makes_227 : decode cX12_makes 227 = .ok (.iinc 5 1, 3) := by decide +kernel
theorem dX12_makes_230 : decode cX12_makes 230 = .ok (.goto (-68), 3) := by decide +kernel
theorem dX12_makes_233 : decode cX12_makes 233 = .ok (.aload_n 0, 1) := by decide +kernel
theorem dX12_makes_234 : decode cX12_makes 234 = .ok (.getfield 33, 3) := by decide +kernel
theorem dX12_makes_237 : decode cX12_makes 237 = .ok (.bipush 10, 2) := by decide +kernel
theorem dX12_makes_239 : decode cX12_makes 239 = .ok (.iload_n 3, 1) := by decide +kernel
theorem dX12_makes_240 : decode cX12_makes 240 = .ok (.iadd, 1) := by decide +kernel
theorem dX12_makes_241 : decode cX12_makes 241 = .ok (.dup2, 1) := by decide +kernel
theorem dX12_makes_242 : decode cX12_makes 242 = .ok (.iaload, 1) := by decide +kernel
theorem dX12_makes_243 : decode cX12_makes 243 = .ok (.iload 4, 2) := by decide +kernel
theorem dX12_makes_245 : decode cX12_makes 245 = .ok (.iadd, 1) := by decide +kernel
theorem dX12_makes_246 : decode cX12_makes 246 = .ok (.iastore, 1) := by decide +kernel
theorem dX12_makes_247 : decode cX12_makes 247 = .ok (.iconst 0, 1) := by decide +kernel
theorem dX12_makes_248 : decode cX12_makes 248 = .ok (.ireturn, 1) := by decide +kernel
theorem b_X12_makes (mm : MM) (Q : Value → MM → Prop) (a1 : Int32) (a2 : Int32) (h : vp_in (((60 : Int32) + ((3 : Int32) * a1)) + (1 : Int32)) 1260 ∧ (vp_in (((60 : Int32) + ((3 : Int32) * a1)) + (2 : Int32)) 1260 ∧ ((¬ a2 = (mm.1 162 6) → ((0 ≤ (mm.1 163 (((60 : Int32) + ((3 : Int32) * a1)) + (2 : Int32)).toNatClampNeg) → (((mm.1 163 (((60 : Int32) + ((3 : Int32) * a1)) + (2 : Int32)).toNatClampNeg) ≤ (mm.1 162 7) → (o_X12_heightOf mm (mm.1 163 (((60 : Int32) + ((3 : Int32) * a1)) + (1 : Int32)).toNatClampNeg) ∧ ((p_X12_isIn mm ((v_X12_heightOf mm (mm.1 163 (((60 : Int32) + ((3 : Int32) * a1)) + (1 : Int32)).toNatClampNeg)) + (mm.1 163 (((60 : Int32) + ((3 : Int32) * a1)) + (2 : Int32)).toNatClampNeg)) (0 : Int32) (99 : Int32) → (((mm.1 163 (((60 : Int32) + ((3 : Int32) * a1)) + (2 : Int32)).toNatClampNeg) ≤ 0 → (G e_X12_makes 162 [(0, .ref 156), (3, .int (mm.1 163 (((60 : Int32) + ((3 : Int32) * a1)) + (1 : Int32)).toNatClampNeg)), (4, .int (mm.1 163 (((60 : Int32) + ((3 : Int32) * a1)) + (2 : Int32)).toNatClampNeg)), (5, .int (0 : Int32))] [] mm Q)) ∧ (¬ (mm.1 163 (((60 : Int32) + ((3 : Int32) * a1)) + (2 : Int32)).toNatClampNeg) ≤ 0 → (∃ Pm1 : Value → MM → Prop, Runs e_X12_jacks [.ref 156, .int (mm.1 163 (((60 : Int32) + ((3 : Int32) * a1)) + (2 : Int32)).toNatClampNeg)] mm Pm1 ∧ ∀ (r1 : Int32) (m1 : MM), Pm1 (.int r1) m1 → ((r1 < (1000000 : Int32) → (G e_X12_makes 123 [(0, .ref 156), (3, .int (mm.1 163 (((60 : Int32) + ((3 : Int32) * a1)) + (1 : Int32)).toNatClampNeg)), (4, .int (mm.1 163 (((60 : Int32) + ((3 : Int32) * a1)) + (2 : Int32)).toNatClampNeg)), (6, .int (0 : Int32))] [] (wI m1 156 41 ((m1.1 156 41) + r1)) Q)) ∧ (¬ r1 < (1000000 : Int32) → (Q (.int (4 : Int32)) m1))))))) ∧ (¬ p_X12_isIn mm ((v_X12_heightOf mm (mm.1 163 (((60 : Int32) + ((3 : Int32) * a1)) + (1 : Int32)).toNatClampNeg)) + (mm.1 163 (((60 : Int32) + ((3 : Int32) * a1)) + (2 : Int32)).toNatClampNeg)) (0 : Int32) (99 : Int32) → (Q (.int (3 : Int32)) mm))))) ∧ (¬ (mm.1 163 (((60 : Int32) + ((3 : Int32) * a1)) + (2 : Int32)).toNatClampNeg) ≤ (mm.1 162 7) → (Q (.int (2 : Int32)) mm)))) ∧ (¬ 0 ≤ (mm.1 163 (((60 : Int32) + ((3 : Int32) * a1)) + (2 : Int32)).toNatClampNeg) → (((-(mm.1 163 (((60 : Int32) + ((3 : Int32) * a1)) + (2 : Int32)).toNatClampNeg)) ≤ (mm.1 162 7) → (o_X12_heightOf mm (mm.1 163 (((60 : Int32) + ((3 : Int32) * a1)) + (1 : Int32)).toNatClampNeg) ∧ ((p_X12_isIn mm ((v_X12_heightOf mm (mm.1 163 (((60 : Int32) + ((3 : Int32) * a1)) + (1 : Int32)).toNatClampNeg)) + (mm.1 163 (((60 : Int32) + ((3 : Int32) * a1)) + (2 : Int32)).toNatClampNeg)) (0 : Int32) (99 : Int32) → (((mm.1 163 (((60 : Int32) + ((3 : Int32) * a1)) + (2 : Int32)).toNatClampNeg) ≤ 0 → (G e_X12_makes 162 [(0, .ref 156), (3, .int (mm.1 163 (((60 : Int32) + ((3 : Int32) * a1)) + (1 : Int32)).toNatClampNeg)), (4, .int (mm.1 163 (((60 : Int32) + ((3 : Int32) * a1)) + (2 : Int32)).toNatClampNeg)), (5, .int (0 : Int32))] [] mm Q)) ∧ (¬ (mm.1 163 (((60 : Int32) + ((3 : Int32) * a1)) + (2 : Int32)).toNatClampNeg) ≤ 0 → (∃ Pm1 : Value → MM → Prop, Runs e_X12_jacks [.ref 156, .int (mm.1 163 (((60 : Int32) + ((3 : Int32) * a1)) + (2 : Int32)).toNatClampNeg)] mm Pm1 ∧ ∀ (r1 : Int32) (m1 : MM), Pm1 (.int r1) m1 → ((r1 < (1000000 : Int32) → (G e_X12_makes 123 [(0, .ref 156), (3, .int (mm.1 163 (((60 : Int32) + ((3 : Int32) * a1)) + (1 : Int32)).toNatClampNeg)), (4, .int (mm.1 163 (((60 : Int32) + ((3 : Int32) * a1)) + (2 : Int32)).toNatClampNeg)), (6, .int (0 : Int32))] [] (wI m1 156 41 ((m1.1 156 41) + r1)) Q)) ∧ (¬ r1 < (1000000 : Int32) → (Q (.int (4 : Int32)) m1))))))) ∧ (¬ p_X12_isIn mm ((v_X12_heightOf mm (mm.1 163 (((60 : Int32) + ((3 : Int32) * a1)) + (1 : Int32)).toNatClampNeg)) + (mm.1 163 (((60 : Int32) + ((3 : Int32) * a1)) + (2 : Int32)).toNatClampNeg)) (0 : Int32) (99 : Int32) → (Q (.int (3 : Int32)) mm))))) ∧ (¬ (-(mm.1 163 (((60 : Int32) + ((3 : Int32) * a1)) + (2 : Int32)).toNatClampNeg)) ≤ (mm.1 162 7) → (Q (.int (2 : Int32)) mm)))))) ∧ (a2 = (mm.1 162 6) → (Q (.int (1 : Int32)) mm))))) : Runs e_X12_makes [.ref 156, .int a1, .int a2] mm Q := by
  refine runs_of_G (L := [(0, .ref 156), (1, .int a1), (2, .int a2)]) pl_X12 (Nat.le_of_ble_eq_true rfl) rfl ?_
  refine g_aload_n (pc := 0) (x := 156) dX12_makes_0 rfl ?_
  refine g_getR (pc := 1) (dd := 7) dX12_makes_1 fo_X12_33 sh_156 rfl ?_
  refine g_bipush (pc := 4) (v := (60 : Int32)) dX12_makes_4 (by decide) ?_
  refine g_iconst (pc := 6) (v := (3 : Int32)) dX12_makes_6 (by decide) ?_
  refine g_iload_n (pc := 7) (x := a1) dX12_makes_7 rfl ?_
  refine g_imul (pc := 8) dX12_makes_8 ?_
  refine g_iadd (pc := 9) dX12_makes_9 ?_
  refine g_iconst (pc := 10) (v := (1 : Int32)) dX12_makes_10 (by decide) ?_
  refine g_iadd (pc := 11) dX12_makes_11 ?_
  refine g_iaload (pc := 12) dX12_makes_12 sh_163 h.1 ?_
  have h := h.2
  refine g_istore_n (pc := 13) (L' := [(0, .ref 156), (1, .int a1), (2, .int a2), (3, .int (mm.1 163 (((60 : Int32) + ((3 : Int32) * a1)) + (1 : Int32)).toNatClampNeg))]) dX12_makes_13 (Nat.le_of_ble_eq_true rfl) rfl ?_
  refine g_aload_n (pc := 14) (x := 156) dX12_makes_14 rfl ?_
  refine g_getR (pc := 15) (dd := 7) dX12_makes_15 fo_X12_33 sh_156 rfl ?_
  refine g_bipush (pc := 18) (v := (60 : Int32)) dX12_makes_18 (by decide) ?_
  refine g_iconst (pc := 20) (v := (3 : Int32)) dX12_makes_20 (by decide) ?_
  refine g_iload_n (pc := 21) (x := a1) dX12_makes_21 rfl ?_
  refine g_imul (pc := 22) dX12_makes_22 ?_
  refine g_iadd (pc := 23) dX12_makes_23 ?_
  refine g_iconst (pc := 24) (v := (2 : Int32)) dX12_makes_24 (by decide) ?_
  refine g_iadd (pc := 25) dX12_makes_25 ?_
  refine g_iaload (pc := 26) dX12_makes_26 sh_163 h.1 ?_
  have h := h.2
  refine g_istore (pc := 27) (L' := [(0, .ref 156), (1, .int a1), (2, .int a2), (3, .int (mm.1 163 (((60 : Int32) + ((3 : Int32) * a1)) + (1 : Int32)).toNatClampNeg)), (4, .int (mm.1 163 (((60 : Int32) + ((3 : Int32) * a1)) + (2 : Int32)).toNatClampNeg))]) dX12_makes_27 (Nat.le_of_ble_eq_true rfl) rfl ?_
  refine g_iload_n (pc := 29) (x := a2) dX12_makes_29 rfl ?_
  refine g_aload_n (pc := 30) (x := 156) dX12_makes_30 rfl ?_
  refine g_getR (pc := 31) (dd := 6) dX12_makes_31 fo_X12_30 sh_156 rfl ?_
  refine g_bipush (pc := 34) (v := (6 : Int32)) dX12_makes_34 (by decide) ?_
  refine g_iaload (pc := 36) dX12_makes_36 sh_162 (vp_in_nI (n := 6) (N := 420) (by decide) (by decide)) ?_
  refine g_icmp_ne (pc := 37) (tgt := 42) dX12_makes_37 (by decide) (fun c37 => ?_) (fun c37 => ?_)
  · have h := h.1 c37
    refine g_iload (pc := 42) (x := (mm.1 163 (((60 : Int32) + ((3 : Int32) * a1)) + (2 : Int32)).toNatClampNeg)) dX12_makes_42 rfl ?_
    refine g_if_ge (pc := 44) (tgt := 53) dX12_makes_44 (by decide) (fun c44 => ?_) (fun c44 => ?_)
    · have h := h.1 c44
      refine g_iload (pc := 53) (x := (mm.1 163 (((60 : Int32) + ((3 : Int32) * a1)) + (2 : Int32)).toNatClampNeg)) dX12_makes_53 rfl ?_
      refine g_aload_n (pc := 55) (x := 156) dX12_makes_55 rfl ?_
      refine g_getR (pc := 56) (dd := 6) dX12_makes_56 fo_X12_30 sh_156 rfl ?_
      refine g_bipush (pc := 59) (v := (7 : Int32)) dX12_makes_59 (by decide) ?_
      refine g_iaload (pc := 61) dX12_makes_61 sh_162 (vp_in_nI (n := 7) (N := 420) (by decide) (by decide)) ?_
      refine g_icmp_le (pc := 62) (tgt := 67) dX12_makes_62 (by decide) (fun c62 => ?_) (fun c62 => ?_)
      · have h := h.1 c62
        refine g_aload_n (pc := 67) (x := 156) dX12_makes_67 rfl ?_
        refine g_iload_n (pc := 68) (x := (mm.1 163 (((60 : Int32) + ((3 : Int32) * a1)) + (1 : Int32)).toNatClampNeg)) dX12_makes_68 rfl ?_
        refine g_callV (pc := 69) (as := [.int (mm.1 163 (((60 : Int32) + ((3 : Int32) * a1)) + (1 : Int32)).toNatClampNeg)]) dX12_makes_69 cw_X12_380 (by decide) rfl rfl sh_156 (Nat.le_of_ble_eq_true rfl) (rv_X12_heightOf mm (mm.1 163 (((60 : Int32) + ((3 : Int32) * a1)) + (1 : Int32)).toNatClampNeg) h.1) ?_
        have h := h.2
        rintro r_ m_ hz_ ⟨rfl, rfl⟩
        refine g_iload (pc := 72) (x := (mm.1 163 (((60 : Int32) + ((3 : Int32) * a1)) + (2 : Int32)).toNatClampNeg)) dX12_makes_72 rfl ?_
        refine g_iadd (pc := 74) dX12_makes_74 ?_
        refine g_iconst (pc := 75) (v := (0 : Int32)) dX12_makes_75 (by decide) ?_
        refine g_bipush (pc := 76) (v := (99 : Int32)) dX12_makes_76 (by decide) ?_
        refine g_callS (pc := 78) (as := [.int ((v_X12_heightOf mm (mm.1 163 (((60 : Int32) + ((3 : Int32) * a1)) + (1 : Int32)).toNatClampNeg)) + (mm.1 163 (((60 : Int32) + ((3 : Int32) * a1)) + (2 : Int32)).toNatClampNeg)), .int (0 : Int32), .int (99 : Int32)]) dX12_makes_78 cw_X12_392 (by decide) rfl rfl (Nat.le_of_ble_eq_true rfl) (rv_X12_isIn mm ((v_X12_heightOf mm (mm.1 163 (((60 : Int32) + ((3 : Int32) * a1)) + (1 : Int32)).toNatClampNeg)) + (mm.1 163 (((60 : Int32) + ((3 : Int32) * a1)) + (2 : Int32)).toNatClampNeg)) (0 : Int32) (99 : Int32)) ?_
        rintro r_ m_ hz_ ⟨⟨p_, rfl⟩ | ⟨p_, rfl⟩, rfl⟩
        · have h := h.1 p_
          refine g_if_ne (pc := 81) (tgt := 86) dX12_makes_81 (by decide) (fun _ => ?_) (fun c81 => absurd c81 (by decide))
          refine g_iload (pc := 86) (x := (mm.1 163 (((60 : Int32) + ((3 : Int32) * a1)) + (2 : Int32)).toNatClampNeg)) dX12_makes_86 rfl ?_
          refine g_if_le (pc := 88) (tgt := 159) dX12_makes_88 (by decide) (fun c88 => ?_) (fun c88 => ?_)
          · have h := h.1 c88
            refine g_iconst (pc := 159) (v := (0 : Int32)) dX12_makes_159 (by decide) ?_
            refine g_istore (pc := 160) (L' := [(0, .ref 156), (1, .int a1), (2, .int a2), (3, .int (mm.1 163 (((60 : Int32) + ((3 : Int32) * a1)) + (1 : Int32)).toNatClampNeg)), (4, .int (mm.1 163 (((60 : Int32) + ((3 : Int32) * a1)) + (2 : Int32)).toNatClampNeg)), (5, .int (0 : Int32))]) dX12_makes_160 (Nat.le_of_ble_eq_true rfl) rfl ?_
            refine g_sub (L' := [(0, .ref 156), (3, .int (mm.1 163 (((60 : Int32) + ((3 : Int32) * a1)) + (1 : Int32)).toNatClampNeg)), (4, .int (mm.1 163 (((60 : Int32) + ((3 : Int32) * a1)) + (2 : Int32)).toNatClampNeg)), (5, .int (0 : Int32))]) [0, 3, 4, 5] rfl ?_
            exact h
          · have h := h.2 c88
            refine g_aload_n (pc := 91) (x := 156) dX12_makes_91 rfl ?_
            refine g_iload (pc := 92) (x := (mm.1 163 (((60 : Int32) + ((3 : Int32) * a1)) + (2 : Int32)).toNatClampNeg)) dX12_makes_92 rfl ?_
            obtain ⟨Pm1, hRm1, h⟩ := h
            refine g_callV (pc := 94) (as := [.int (mm.1 163 (((60 : Int32) + ((3 : Int32) * a1)) + (2 : Int32)).toNatClampNeg)]) dX12_makes_94 cw_X12_445 (by decide) rfl rfl sh_156 (Nat.le_of_ble_eq_true rfl) hRm1 ?_
            intro r_ m1 hz_ hp_
            obtain ⟨r1, rfl⟩ := hz_
            have h := h r1 m1 hp_
            refine g_istore (pc := 97) (L' := [(0, .ref 156), (1, .int a1), (2, .int a2), (3, .int (mm.1 163 (((60 : Int32) + ((3 : Int32) * a1)) + (1 : Int32)).toNatClampNeg)), (4, .int (mm.1 163 (((60 : Int32) + ((3 : Int32) * a1)) + (2 : Int32)).toNatClampNeg)), (5, .int r1)]) dX12_makes_97 (Nat.le_of_ble_eq_true rfl) rfl ?_
            refine g_iload (pc := 99) (x := r1) dX12_makes_99 rfl ?_
            refine g_ldcw (pc := 101) (v := (1000000 : Int32)) dX12_makes_101 ct_X12_441 ?_
            refine g_icmp_lt (pc := 104) (tgt := 109) dX12_makes_104 (by decide) (fun c104 => ?_) (fun c104 => ?_)
            · have h := h.1 c104
              refine g_aload_n (pc := 109) (x := 156) dX12_makes_109 rfl ?_
              refine g_dup (pc := 110) dX12_makes_110 rfl ?_
              refine g_getI (pc := 111) dX12_makes_111 fo_X12_448 sh_156 rfl ?_
              refine g_iload (pc := 114) (x := r1) dX12_makes_114 rfl ?_
              refine g_iadd (pc := 116) dX12_makes_116 ?_
              refine g_putI (pc := 117) dX12_makes_117 fo_X12_448 sh_156 rfl rfl rfl ?_
              refine g_iconst (pc := 120) (v := (0 : Int32)) dX12_makes_120 (by decide) ?_
              refine g_istore (pc := 121) (L' := [(0, .ref 156), (1, .int a1), (2, .int a2), (3, .int (mm.1 163 (((60 : Int32) + ((3 : Int32) * a1)) + (1 : Int32)).toNatClampNeg)), (4, .int (mm.1 163 (((60 : Int32) + ((3 : Int32) * a1)) + (2 : Int32)).toNatClampNeg)), (5, .int r1), (6, .int (0 : Int32))]) dX12_makes_121 (Nat.le_of_ble_eq_true rfl) rfl ?_
              refine g_sub (L' := [(0, .ref 156), (3, .int (mm.1 163 (((60 : Int32) + ((3 : Int32) * a1)) + (1 : Int32)).toNatClampNeg)), (4, .int (mm.1 163 (((60 : Int32) + ((3 : Int32) * a1)) + (2 : Int32)).toNatClampNeg)), (6, .int (0 : Int32))]) [0, 3, 4, 6] rfl ?_
              exact h
            · have h := h.2 c104
              refine g_iconst (pc := 107) (v := (4 : Int32)) dX12_makes_107 (by decide) ?_
              exact g_iret (pc := 108) dX12_makes_108 rfl rfl rfl h
        · have h := h.2 p_
          refine g_if_ne (pc := 81) (tgt := 86) dX12_makes_81 (by decide) (fun c81 => absurd c81 (by decide)) (fun _ => ?_)
          refine g_iconst (pc := 84) (v := (3 : Int32)) dX12_makes_84 (by decide) ?_
          exact g_iret (pc := 85) dX12_makes_85 rfl rfl rfl h
      · have h := h.2 c62
        refine g_iconst (pc := 65) (v := (2 : Int32)) dX12_makes_65 (by decide) ?_
        exact g_iret (pc := 66) dX12_makes_66 rfl rfl rfl h
    · have h := h.2 c44
      refine g_iload (pc := 47) (x := (mm.1 163 (((60 : Int32) + ((3 : Int32) * a1)) + (2 : Int32)).toNatClampNeg)) dX12_makes_47 rfl ?_
      refine g_ineg (pc := 49) dX12_makes_49 ?_
      refine g_goto (pc := 50) (tgt := 55) dX12_makes_50 (by decide) ?_
      refine g_aload_n (pc := 55) (x := 156) dX12_makes_55 rfl ?_
      refine g_getR (pc := 56) (dd := 6) dX12_makes_56 fo_X12_30 sh_156 rfl ?_
      refine g_bipush (pc := 59) (v := (7 : Int32)) dX12_makes_59 (by decide) ?_
      refine g_iaload (pc := 61) dX12_makes_61 sh_162 (vp_in_nI (n := 7) (N := 420) (by decide) (by decide)) ?_
      refine g_icmp_le (pc := 62) (tgt := 67) dX12_makes_62 (by decide) (fun c62 => ?_) (fun c62 => ?_)
      · have h := h.1 c62
        refine g_aload_n (pc := 67) (x := 156) dX12_makes_67 rfl ?_
        refine g_iload_n (pc := 68) (x := (mm.1 163 (((60 : Int32) + ((3 : Int32) * a1)) + (1 : Int32)).toNatClampNeg)) dX12_makes_68 rfl ?_
        refine g_callV (pc := 69) (as := [.int (mm.1 163 (((60 : Int32) + ((3 : Int32) * a1)) + (1 : Int32)).toNatClampNeg)]) dX12_makes_69 cw_X12_380 (by decide) rfl rfl sh_156 (Nat.le_of_ble_eq_true rfl) (rv_X12_heightOf mm (mm.1 163 (((60 : Int32) + ((3 : Int32) * a1)) + (1 : Int32)).toNatClampNeg) h.1) ?_
        have h := h.2
        rintro r_ m_ hz_ ⟨rfl, rfl⟩
        refine g_iload (pc := 72) (x := (mm.1 163 (((60 : Int32) + ((3 : Int32) * a1)) + (2 : Int32)).toNatClampNeg)) dX12_makes_72 rfl ?_
        refine g_iadd (pc := 74) dX12_makes_74 ?_
        refine g_iconst (pc := 75) (v := (0 : Int32)) dX12_makes_75 (by decide) ?_
        refine g_bipush (pc := 76) (v := (99 : Int32)) dX12_makes_76 (by decide) ?_
        refine g_callS (pc := 78) (as := [.int ((v_X12_heightOf mm (mm.1 163 (((60 : Int32) + ((3 : Int32) * a1)) + (1 : Int32)).toNatClampNeg)) + (mm.1 163 (((60 : Int32) + ((3 : Int32) * a1)) + (2 : Int32)).toNatClampNeg)), .int (0 : Int32), .int (99 : Int32)]) dX12_makes_78 cw_X12_392 (by decide) rfl rfl (Nat.le_of_ble_eq_true rfl) (rv_X12_isIn mm ((v_X12_heightOf mm (mm.1 163 (((60 : Int32) + ((3 : Int32) * a1)) + (1 : Int32)).toNatClampNeg)) + (mm.1 163 (((60 : Int32) + ((3 : Int32) * a1)) + (2 : Int32)).toNatClampNeg)) (0 : Int32) (99 : Int32)) ?_
        rintro r_ m_ hz_ ⟨⟨p_, rfl⟩ | ⟨p_, rfl⟩, rfl⟩
        · have h := h.1 p_
          refine g_if_ne (pc := 81) (tgt := 86) dX12_makes_81 (by decide) (fun _ => ?_) (fun c81 => absurd c81 (by decide))
          refine g_iload (pc := 86) (x := (mm.1 163 (((60 : Int32) + ((3 : Int32) * a1)) + (2 : Int32)).toNatClampNeg)) dX12_makes_86 rfl ?_
          refine g_if_le (pc := 88) (tgt := 159) dX12_makes_88 (by decide) (fun c88 => ?_) (fun c88 => ?_)
          · have h := h.1 c88
            refine g_iconst (pc := 159) (v := (0 : Int32)) dX12_makes_159 (by decide) ?_
            refine g_istore (pc := 160) (L' := [(0, .ref 156), (1, .int a1), (2, .int a2), (3, .int (mm.1 163 (((60 : Int32) + ((3 : Int32) * a1)) + (1 : Int32)).toNatClampNeg)), (4, .int (mm.1 163 (((60 : Int32) + ((3 : Int32) * a1)) + (2 : Int32)).toNatClampNeg)), (5, .int (0 : Int32))]) dX12_makes_160 (Nat.le_of_ble_eq_true rfl) rfl ?_
            refine g_sub (L' := [(0, .ref 156), (3, .int (mm.1 163 (((60 : Int32) + ((3 : Int32) * a1)) + (1 : Int32)).toNatClampNeg)), (4, .int (mm.1 163 (((60 : Int32) + ((3 : Int32) * a1)) + (2 : Int32)).toNatClampNeg)), (5, .int (0 : Int32))]) [0, 3, 4, 5] rfl ?_
            exact h
          · have h := h.2 c88
            refine g_aload_n (pc := 91) (x := 156) dX12_makes_91 rfl ?_
            refine g_iload (pc := 92) (x := (mm.1 163 (((60 : Int32) + ((3 : Int32) * a1)) + (2 : Int32)).toNatClampNeg)) dX12_makes_92 rfl ?_
            obtain ⟨Pm1, hRm1, h⟩ := h
            refine g_callV (pc := 94) (as := [.int (mm.1 163 (((60 : Int32) + ((3 : Int32) * a1)) + (2 : Int32)).toNatClampNeg)]) dX12_makes_94 cw_X12_445 (by decide) rfl rfl sh_156 (Nat.le_of_ble_eq_true rfl) hRm1 ?_
            intro r_ m1 hz_ hp_
            obtain ⟨r1, rfl⟩ := hz_
            have h := h r1 m1 hp_
            refine g_istore (pc := 97) (L' := [(0, .ref 156), (1, .int a1), (2, .int a2), (3, .int (mm.1 163 (((60 : Int32) + ((3 : Int32) * a1)) + (1 : Int32)).toNatClampNeg)), (4, .int (mm.1 163 (((60 : Int32) + ((3 : Int32) * a1)) + (2 : Int32)).toNatClampNeg)), (5, .int r1)]) dX12_makes_97 (Nat.le_of_ble_eq_true rfl) rfl ?_
            refine g_iload (pc := 99) (x := r1) dX12_makes_99 rfl ?_
            refine g_ldcw (pc := 101) (v := (1000000 : Int32)) dX12_makes_101 ct_X12_441 ?_
            refine g_icmp_lt (pc := 104) (tgt := 109) dX12_makes_104 (by decide) (fun c104 => ?_) (fun c104 => ?_)
            · have h := h.1 c104
              refine g_aload_n (pc := 109) (x := 156) dX12_makes_109 rfl ?_
              refine g_dup (pc := 110) dX12_makes_110 rfl ?_
              refine g_getI (pc := 111) dX12_makes_111 fo_X12_448 sh_156 rfl ?_
              refine g_iload (pc := 114) (x := r1) dX12_makes_114 rfl ?_
              refine g_iadd (pc := 116) dX12_makes_116 ?_
              refine g_putI (pc := 117) dX12_makes_117 fo_X12_448 sh_156 rfl rfl rfl ?_
              refine g_iconst (pc := 120) (v := (0 : Int32)) dX12_makes_120 (by decide) ?_
              refine g_istore (pc := 121) (L' := [(0, .ref 156), (1, .int a1), (2, .int a2), (3, .int (mm.1 163 (((60 : Int32) + ((3 : Int32) * a1)) + (1 : Int32)).toNatClampNeg)), (4, .int (mm.1 163 (((60 : Int32) + ((3 : Int32) * a1)) + (2 : Int32)).toNatClampNeg)), (5, .int r1), (6, .int (0 : Int32))]) dX12_makes_121 (Nat.le_of_ble_eq_true rfl) rfl ?_
              refine g_sub (L' := [(0, .ref 156), (3, .int (mm.1 163 (((60 : Int32) + ((3 : Int32) * a1)) + (1 : Int32)).toNatClampNeg)), (4, .int (mm.1 163 (((60 : Int32) + ((3 : Int32) * a1)) + (2 : Int32)).toNatClampNeg)), (6, .int (0 : Int32))]) [0, 3, 4, 6] rfl ?_
              exact h
            · have h := h.2 c104
              refine g_iconst (pc := 107) (v := (4 : Int32)) dX12_makes_107 (by decide) ?_
              exact g_iret (pc := 108) dX12_makes_108 rfl rfl rfl h
        · have h := h.2 p_
          refine g_if_ne (pc := 81) (tgt := 86) dX12_makes_81 (by decide) (fun c81 => absurd c81 (by decide)) (fun _ => ?_)
          refine g_iconst (pc := 84) (v := (3 : Int32)) dX12_makes_84 (by decide) ?_
          exact g_iret (pc := 85) dX12_makes_85 rfl rfl rfl h
      · have h := h.2 c62
        refine g_iconst (pc := 65) (v := (2 : Int32)) dX12_makes_65 (by decide) ?_
        exact g_iret (pc := 66) dX12_makes_66 rfl rfl rfl h
  · have h := h.2 c37
    refine g_iconst (pc := 40) (v := (1 : Int32)) dX12_makes_40 (by decide) ?_
    exact g_iret (pc := 41) dX12_makes_41 rfl rfl rfl h
theorem b_X12_makes_162 (mm : MM) (Q : Value → MM → Prop) (l3 : Int32) (l4 : Int32) (l5 : Int32) (h : ((mm.1 162 5) ≤ l5 → (vp_in ((10 : Int32) + l3) 1260 ∧ (vp_in ((10 : Int32) + l3) 1260 ∧ (Q (.int (0 : Int32)) (wI mm 163 (((10 : Int32) + l3).toNatClampNeg) ((mm.1 163 ((10 : Int32) + l3).toNatClampNeg) + l4)))))) ∧ (¬ (mm.1 162 5) ≤ l5 → (vp_in ((170 : Int32) + ((2 : Int32) * l5)) 420 ∧ (((mm.1 162 ((170 : Int32) + ((2 : Int32) * l5)).toNatClampNeg) = (-l4) → (vp_in ((50 : Int32) + l5) 1260 ∧ (((99 : Int32) ≤ (mm.1 163 ((50 : Int32) + l5).toNatClampNeg) → (vp_in ((10 : Int32) + l3) 1260 ∧ (vp_in ((10 : Int32) + l3) 1260 ∧ (Q (.int (0 : Int32)) (wI mm 163 (((10 : Int32) + l3).toNatClampNeg) ((mm.1 163 ((10 : Int32) + l3).toNatClampNeg) + l4)))))) ∧ (¬ (99 : Int32) ≤ (mm.1 163 ((50 : Int32) + l5).toNatClampNeg) → (vp_in ((50 : Int32) + l5) 1260 ∧ (vp_in ((50 : Int32) + l5) 1260 ∧ (vp_in ((10 : Int32) + l3) 1260 ∧ (vp_in ((10 : Int32) + l3) 1260 ∧ (Q (.int (0 : Int32)) (wI (wI mm 163 (((50 : Int32) + l5).toNatClampNeg) ((mm.1 163 ((50 : Int32) + l5).toNatClampNeg) + (1 : Int32))) 163 (((10 : Int32) + l3).toNatClampNeg) (((wI mm 163 (((50 : Int32) + l5).toNatClampNeg) ((mm.1 163 ((50 : Int32) + l5).toNatClampNeg) + (1 : Int32))).1 163 ((10 : Int32) + l3).toNatClampNeg) + l4))))))))))) ∧ (¬ (mm.1 162 ((170 : Int32) + ((2 : Int32) * l5)).toNatClampNeg) = (-l4) → (G e_X12_makes 162 [(0, .ref 156), (3, .int l3), (4, .int l4), (5, .int (l5 + (1 : Int32)))] [] mm Q)))))) : G e_X12_makes 162 [(0, .ref 156), (3, .int l3), (4, .int l4), (5, .int l5)] [] mm Q := by
  refine g_iload (pc := 162) (x := l5) dX12_makes_162 rfl ?_
  refine g_aload_n (pc := 164) (x := 156) dX12_makes_164 rfl ?_
  refine g_getR (pc := 165) (dd := 6) dX12_makes_165 fo_X12_30 sh_156 rfl ?_
  refine g_iconst (pc := 168) (v := (5 : Int32)) dX12_makes_168 (by decide) ?_
  refine g_iaload (pc := 169) dX12_makes_169 sh_162 (vp_in_nI (n := 5) (N := 420) (by decide) (by decide)) ?_
  refine g_icmp_ge (pc := 170) (tgt := 233) dX12_makes_170 (by decide) (fun c170 => ?_) (fun c170 => ?_)
  · have h := h.1 c170
    refine g_aload_n (pc := 233) (x := 156) dX12_makes_233 rfl ?_
    refine g_getR (pc := 234) (dd := 7) dX12_makes_234 fo_X12_33 sh_156 rfl ?_
    refine g_bipush (pc := 237) (v := (10 : Int32)) dX12_makes_237 (by decide) ?_
    refine g_iload_n (pc := 239) (x := l3) dX12_makes_239 rfl ?_
    refine g_iadd (pc := 240) dX12_makes_240 ?_
    refine g_dup2 (pc := 241) dX12_makes_241 rfl rfl ?_
    refine g_iaload (pc := 242) dX12_makes_242 sh_163 h.1 ?_
    have h := h.2
    refine g_iload (pc := 243) (x := l4) dX12_makes_243 rfl ?_
    refine g_iadd (pc := 245) dX12_makes_245 ?_
    refine g_iastore (pc := 246) dX12_makes_246 sh_163 h.1 ?_
    have h := h.2
    refine g_iconst (pc := 247) (v := (0 : Int32)) dX12_makes_247 (by decide) ?_
    exact g_iret (pc := 248) dX12_makes_248 rfl rfl rfl h
  · have h := h.2 c170
    refine g_aload_n (pc := 173) (x := 156) dX12_makes_173 rfl ?_
    refine g_getR (pc := 174) (dd := 6) dX12_makes_174 fo_X12_30 sh_156 rfl ?_
    refine g_sipush (pc := 177) (v := (170 : Int32)) dX12_makes_177 (by decide) ?_
    refine g_iconst (pc := 180) (v := (2 : Int32)) dX12_makes_180 (by decide) ?_
    refine g_iload (pc := 181) (x := l5) dX12_makes_181 rfl ?_
    refine g_imul (pc := 183) dX12_makes_183 ?_
    refine g_iadd (pc := 184) dX12_makes_184 ?_
    refine g_iaload (pc := 185) dX12_makes_185 sh_162 h.1 ?_
    have h := h.2
    refine g_iload (pc := 186) (x := l4) dX12_makes_186 rfl ?_
    refine g_ineg (pc := 188) dX12_makes_188 ?_
    refine g_icmp_eq (pc := 189) (tgt := 195) dX12_makes_189 (by decide) (fun c189 => ?_) (fun c189 => ?_)
    · have h := h.1 c189
      refine g_aload_n (pc := 195) (x := 156) dX12_makes_195 rfl ?_
      refine g_getR (pc := 196) (dd := 7) dX12_makes_196 fo_X12_33 sh_156 rfl ?_
      refine g_bipush (pc := 199) (v := (50 : Int32)) dX12_makes_199 (by decide) ?_
      refine g_iload (pc := 201) (x := l5) dX12_makes_201 rfl ?_
      refine g_iadd (pc := 203) dX12_makes_203 ?_
      refine g_iaload (pc := 204) dX12_makes_204 sh_163 h.1 ?_
      have h := h.2
      refine g_bipush (pc := 205) (v := (99 : Int32)) dX12_makes_205 (by decide) ?_
      refine g_icmp_ge (pc := 207) (tgt := 233) dX12_makes_207 (by decide) (fun c207 => ?_) (fun c207 => ?_)
      · have h := h.1 c207
        refine g_aload_n (pc := 233) (x := 156) dX12_makes_233 rfl ?_
        refine g_getR (pc := 234) (dd := 7) dX12_makes_234 fo_X12_33 sh_156 rfl ?_
        refine g_bipush (pc := 237) (v := (10 : Int32)) dX12_makes_237 (by decide) ?_
        refine g_iload_n (pc := 239) (x := l3) dX12_makes_239 rfl ?_
        refine g_iadd (pc := 240) dX12_makes_240 ?_
        refine g_dup2 (pc := 241) dX12_makes_241 rfl rfl ?_
        refine g_iaload (pc := 242) dX12_makes_242 sh_163 h.1 ?_
        have h := h.2
        refine g_iload (pc := 243) (x := l4) dX12_makes_243 rfl ?_
        refine g_iadd (pc := 245) dX12_makes_245 ?_
        refine g_iastore (pc := 246) dX12_makes_246 sh_163 h.1 ?_
        have h := h.2
        refine g_iconst (pc := 247) (v := (0 : Int32)) dX12_makes_247 (by decide) ?_
        exact g_iret (pc := 248) dX12_makes_248 rfl rfl rfl h
      · have h := h.2 c207
        refine g_aload_n (pc := 210) (x := 156) dX12_makes_210 rfl ?_
        refine g_getR (pc := 211) (dd := 7) dX12_makes_211 fo_X12_33 sh_156 rfl ?_
        refine g_bipush (pc := 214) (v := (50 : Int32)) dX12_makes_214 (by decide) ?_
        refine g_iload (pc := 216) (x := l5) dX12_makes_216 rfl ?_
        refine g_iadd (pc := 218) dX12_makes_218 ?_
        refine g_dup2 (pc := 219) dX12_makes_219 rfl rfl ?_
        refine g_iaload (pc := 220) dX12_makes_220 sh_163 h.1 ?_
        have h := h.2
        refine g_iconst (pc := 221) (v := (1 : Int32)) dX12_makes_221 (by decide) ?_
        refine g_iadd (pc := 222) dX12_makes_222 ?_
        refine g_iastore (pc := 223) dX12_makes_223 sh_163 h.1 ?_
        have h := h.2
        refine g_goto (pc := 224) (tgt := 233) dX12_makes_224 (by decide) ?_
        refine g_aload_n (pc := 233) (x := 156) dX12_makes_233 rfl ?_
        refine g_getR (pc := 234) (dd := 7) dX12_makes_234 fo_X12_33 sh_156 rfl ?_
        refine g_bipush (pc := 237) (v := (10 : Int32)) dX12_makes_237 (by decide) ?_
        refine g_iload_n (pc := 239) (x := l3) dX12_makes_239 rfl ?_
        refine g_iadd (pc := 240) dX12_makes_240 ?_
        refine g_dup2 (pc := 241) dX12_makes_241 rfl rfl ?_
        refine g_iaload (pc := 242) dX12_makes_242 sh_163 h.1 ?_
        have h := h.2
        refine g_iload (pc := 243) (x := l4) dX12_makes_243 rfl ?_
        refine g_iadd (pc := 245) dX12_makes_245 ?_
        refine g_iastore (pc := 246) dX12_makes_246 sh_163 h.1 ?_
        have h := h.2
        refine g_iconst (pc := 247) (v := (0 : Int32)) dX12_makes_247 (by decide) ?_
        exact g_iret (pc := 248) dX12_makes_248 rfl rfl rfl h
    · have h := h.2 c189
      refine g_goto (pc := 192) (tgt := 227) dX12_makes_192 (by decide) ?_
      refine g_iinc (pc := 227) (x := l5) (v := (l5 + (1 : Int32))) (L' := [(0, .ref 156), (3, .int l3), (4, .int l4), (5, .int (l5 + (1 : Int32)))]) dX12_makes_227 rfl rfl (Nat.le_of_ble_eq_true rfl) rfl ?_
      refine g_goto (pc := 230) (tgt := 162) dX12_makes_230 (by decide) ?_
      exact h
theorem b_X12_makes_123 (mm : MM) (Q : Value → MM → Prop) (l3 : Int32) (l4 : Int32) (l6 : Int32) (h : ((8 : Int32) ≤ l6 → (vp_in ((10 : Int32) + l3) 1260 ∧ (vp_in ((10 : Int32) + l3) 1260 ∧ (Q (.int (0 : Int32)) (wI mm 163 (((10 : Int32) + l3).toNatClampNeg) ((mm.1 163 ((10 : Int32) + l3).toNatClampNeg) + l4)))))) ∧ (¬ (8 : Int32) ≤ l6 → (vp_in ((50 : Int32) + l6) 1260 ∧ (vp_in l6 8 ∧ (vp_in ((50 : Int32) + l6) 1260 ∧ (G e_X12_makes 123 [(0, .ref 156), (3, .int l3), (4, .int l4), (6, .int (l6 + (1 : Int32)))] [] (wI mm 163 (((50 : Int32) + l6).toNatClampNeg) ((mm.1 163 ((50 : Int32) + l6).toNatClampNeg) - (mm.1 182 l6.toNatClampNeg))) Q)))))) : G e_X12_makes 123 [(0, .ref 156), (3, .int l3), (4, .int l4), (6, .int l6)] [] mm Q := by
  refine g_iload (pc := 123) (x := l6) dX12_makes_123 rfl ?_
  refine g_bipush (pc := 125) (v := (8 : Int32)) dX12_makes_125 (by decide) ?_
  refine g_icmp_ge (pc := 127) (tgt := 156) dX12_makes_127 (by decide) (fun c127 => ?_) (fun c127 => ?_)
  · have h := h.1 c127
    refine g_goto (pc := 156) (tgt := 233) dX12_makes_156 (by decide) ?_
    refine g_aload_n (pc := 233) (x := 156) dX12_makes_233 rfl ?_
    refine g_getR (pc := 234) (dd := 7) dX12_makes_234 fo_X12_33 sh_156 rfl ?_
    refine g_bipush (pc := 237) (v := (10 : Int32)) dX12_makes_237 (by decide) ?_
    refine g_iload_n (pc := 239) (x := l3) dX12_makes_239 rfl ?_
    refine g_iadd (pc := 240) dX12_makes_240 ?_
    refine g_dup2 (pc := 241) dX12_makes_241 rfl rfl ?_
    refine g_iaload (pc := 242) dX12_makes_242 sh_163 h.1 ?_
    have h := h.2
    refine g_iload (pc := 243) (x := l4) dX12_makes_243 rfl ?_
    refine g_iadd (pc := 245) dX12_makes_245 ?_
    refine g_iastore (pc := 246) dX12_makes_246 sh_163 h.1 ?_
    have h := h.2
    refine g_iconst (pc := 247) (v := (0 : Int32)) dX12_makes_247 (by decide) ?_
    exact g_iret (pc := 248) dX12_makes_248 rfl rfl rfl h
  · have h := h.2 c127
    refine g_aload_n (pc := 130) (x := 156) dX12_makes_130 rfl ?_
    refine g_getR (pc := 131) (dd := 7) dX12_makes_131 fo_X12_33 sh_156 rfl ?_
    refine g_bipush (pc := 134) (v := (50 : Int32)) dX12_makes_134 (by decide) ?_
    refine g_iload (pc := 136) (x := l6) dX12_makes_136 rfl ?_
    refine g_iadd (pc := 138) dX12_makes_138 ?_
    refine g_dup2 (pc := 139) dX12_makes_139 rfl rfl ?_
    refine g_iaload (pc := 140) dX12_makes_140 sh_163 h.1 ?_
    have h := h.2
    refine g_aload_n (pc := 141) (x := 156) dX12_makes_141 rfl ?_
    refine g_getR (pc := 142) (dd := 26) dX12_makes_142 fo_X12_91 sh_156 rfl ?_
    refine g_iload (pc := 145) (x := l6) dX12_makes_145 rfl ?_
    refine g_iaload (pc := 147) dX12_makes_147 sh_182 h.1 ?_
    have h := h.2
    refine g_isub (pc := 148) dX12_makes_148 ?_
    refine g_iastore (pc := 149) dX12_makes_149 sh_163 h.1 ?_
    have h := h.2
    refine g_iinc (pc := 150) (x := l6) (v := (l6 + (1 : Int32))) (L' := [(0, .ref 156), (3, .int l3), (4, .int l4), (6, .int (l6 + (1 : Int32)))]) dX12_makes_150 rfl rfl (Nat.le_of_ble_eq_true rfl) rfl ?_
    refine g_goto (pc := 153) (tgt := 123) dX12_makes_153 (by decide) ?_
    exact h
theorem dX12_makesAll_0 : decode cX12_makesAll 0 = .ok (.aload_n 0, 1) := by decide +kernel
theorem dX12_makesAll_1 : decode cX12_makesAll 1 = .ok (.iconst 0, 1) := by decide +kernel
theorem dX12_makesAll_2 : decode cX12_makesAll 2 = .ok (.putfield 448, 3) := by decide +kernel
theorem dX12_makesAll_5 : decode cX12_makesAll 5 = .ok (.iconst 0, 1) := by decide +kernel
theorem dX12_makesAll_6 : decode cX12_makesAll 6 = .ok (.istore_n 1, 1) := by decide +kernel
theorem dX12_makesAll_7 : decode cX12_makesAll 7 = .ok (.iload_n 1, 1) := by decide +kernel
theorem dX12_makesAll_8 : decode cX12_makesAll 8 = .ok (.bipush 100, 2) := by decide +kernel
theorem dX12_makesAll_10 : decode cX12_makesAll 10 = .ok (.if_icmp .ge 125, 3) := by decide +kernel
theorem dX12_makesAll_13 : decode cX12_makesAll 13 = .ok (.iconst 0, 1) := by decide +kernel
theorem dX12_makesAll_14 : decode cX12_makesAll 14 = .ok (.istore_n 2, 1) := by decide +kernel
theorem dX12_makesAll_15 : decode cX12_makesAll 15 = .ok (.iconst (-1), 1) := by decide +kernel
theorem dX12_makesAll_16 : decode cX12_makesAll 16 = .ok (.istore_n 3, 1) := by decide +kernel
theorem dX12_makesAll_17 : decode cX12_makesAll 17 = .ok (.iconst 0, 1) := by decide +kernel
theorem dX12_makesAll_18 : decode cX12_makesAll 18 = .ok (.istore 4, 2) := by decide +kernel
theorem dX12_makesAll_20 : decode cX12_makesAll 20 = .ok (.iconst 0, 1) := by decide +kernel
theorem dX12_makesAll_21 : decode cX12_makesAll 21 = .ok (.istore 5, 2) := by decide +kernel
theorem dX12_makesAll_23 : decode cX12_makesAll 23 = .ok (.iload 5, 2) := by decide +kernel
theorem dX12_makesAll_25 : decode cX12_makesAll 25 = .ok (.aload_n 0, 1) := by decide +kernel
theorem dX12_makesAll_26 : decode cX12_makesAll 26 = .ok (.getfield 33, 3) := by decide +kernel
theorem dX12_makesAll_29 : decode cX12_makesAll 29 = .ok (.iconst 1, 1) := by decide +kernel
theorem dX12_makesAll_30 : decode cX12_makesAll 30 = .ok (.iaload, 1) := by decide +kernel
theorem dX12_makesAll_31 : decode cX12_makesAll 31 = .ok (.if_icmp .ge 71, 3) := by decide +kernel
theorem dX12_makesAll_34 : decode cX12_makesAll 34 = .ok (.aload_n 0, 1) := by decide +kernel
theorem dX12_makesAll_35 : decode cX12_makesAll 35 = .ok (.getfield 33, 3) := by decide +kernel
theorem dX12_makesAll_38 : decode cX12_makesAll 38 = .ok (.bipush 60, 2) := by decide +kernel
theorem dX12_makesAll_40 : decode cX12_makesAll 40 = .ok (.iconst 3, 1) := by decide +kernel
theorem dX12_makesAll_41 : decode cX12_makesAll 41 = .ok (.iload 5, 2) := by decide +kernel
theorem dX12_makesAll_43 : decode cX12_makesAll 43 = .ok (.imul, 1) := by decide +kernel
theorem dX12_makesAll_44 : decode cX12_makesAll 44 = .ok (.iadd, 1) := by decide +kernel
theorem dX12_makesAll_45 : decode cX12_makesAll 45 = .ok (.iaload, 1) := by decide +kernel
theorem dX12_makesAll_46 : decode cX12_makesAll 46 = .ok (.iload_n 1, 1) := by decide +kernel
theorem dX12_makesAll_47 : decode cX12_makesAll 47 = .ok (.if_icmp .eq 6, 3) := by decide +kernel
theorem dX12_makesAll_50 : decode cX12_makesAll 50 = .ok (.goto 46, 3) := by decide +kernel
theorem dX12_makesAll_53 : decode cX12_makesAll 53 = .ok (.iload_n 2, 1) := by decide +kernel
theorem dX12_makesAll_54 : decode cX12_makesAll 54 = .ok (.ifCond .ne 13, 3) := by decide +kernel
theorem dX12_makesAll_57 : decode cX12_makesAll 57 = .ok (.aload_n 0, 1) := by decide +kernel
theorem dX12_makesAll_58 : decode cX12_makesAll 58 = .ok (.bipush 12, 2) := by decide +kernel
theorem dX12_makesAll_60 : decode cX12_makesAll 60 = .ok (.iconst (-1), 1) := by decide +kernel
theorem dX12_makesAll_61 : decode cX12_makesAll 61 = .ok (.iconst (-1), 1) := by decide +kernel
theorem dX12_makesAll_62 : decode cX12_makesAll 62 = .ok (.invokevirtual 405, 3) := by decide +kernel
theorem dX12_makesAll_65 : decode cX12_makesAll 65 = .ok (.istore 4, 2) := by decide +kernel
theorem dX12_makesAll_67 : decode cX12_makesAll 67 = .ok (.aload_n 0, 1) := by decide +kernel
theorem dX12_makesAll_68 : decode cX12_makesAll 68 = .ok (.iload 5, 2) := by decide +kernel
theorem dX12_makesAll_70 : decode cX12_makesAll 70 = .ok (.iload_n 2, 1) := by decide +kernel
theorem dX12_makesAll_71 : decode cX12_makesAll 71 = .ok (.invokevirtual 451, 3) := by decide +kernel
theorem dX12_makesAll_74 : decode cX12_makesAll 74 = .ok (.istore 6, 2) := by decide +kernel
theorem dX12_makesAll_76 : decode cX12_makesAll 76 = .ok (.iload 6, 2) := by decide +kernel
theorem dX12_makesAll_78 : decode cX12_makesAll 78 = .ok (.ifCond .le 12, 3) := by decide +kernel
theorem dX12_makesAll_81 : decode cX12_makesAll 81 = .ok (.bipush 10, 2) := by decide +kernel
theorem dX12_makesAll_83 : decode cX12_makesAll 83 = .ok (.iload 5, 2) := by decide +kernel
theorem dX12_makesAll_85 : decode cX12_makesAll 85 = .ok (.imul, 1) := by decide +kernel
theorem dX12_makesAll_86 : decode cX12_makesAll 86 = .ok (.iload 6, 2) := by decide +kernel
theorem dX12_makesAll_88 : decode cX12_makesAll 88 = .ok (.iadd, 1) := by decide +kernel
theorem dX12_makesAll_89 : decode cX12_makesAll 89 = .ok (.ireturn, 1) := by decide +kernel
theorem dX12_makesAll_90 : decode cX12_makesAll 90 = .ok (.iinc 2 1, 3) := by decide +kernel
theorem dX12_makesAll_93 : decode cX12_makesAll 93 = .ok (.iload 5, 2) := by decide +kernel
theorem dX12_makesAll_95 : decode cX12_makesAll 95 = .ok (.istore_n 3, 1) := by decide +kernel
theorem dX12_makesAll_96 : decode cX12_makesAll 96 = .ok (.iinc 5 1, 3) := by decide +kernel
theorem dX12_makesAll_99 : decode cX12_makesAll 99 = .ok (.goto (-76), 3) := by decide +kernel
theorem dX12_makesAll_102 : decode cX12_makesAll 102 = .ok (.iload_n 2, 1) := by decide +kernel
theorem dX12_makesAll_103 : decode cX12_makesAll 103 = .ok (.ifCond .le 26, 3) := by decide +kernel
theorem dX12_makesAll_106 : decode cX12_makesAll 106 = .ok (.iload 4, 2) := by decide +kernel
theorem dX12_makesAll_108 : decode cX12_makesAll 108 = .ok (.aload_n 0, 1) := by decide +kernel
theorem dX12_makesAll_109 : decode cX12_makesAll 109 = .ok (.bipush 12, 2) := by decide +kernel
theorem dX12_makesAll_111 : decode cX12_makesAll 111 = .ok (.iconst (-1), 1) := by decide +kernel
theorem dX12_makesAll_112 : decode cX12_makesAll 112 = .ok (.iconst (-1), 1) := by decide +kernel
theorem dX12_makesAll_113 : decode cX12_makesAll 113 = .ok (.invokevirtual 405, 3) := by decide +kernel
theorem dX12_makesAll_116 : decode cX12_makesAll 116 = .ok (.iconst (-1), 1) := by decide +kernel
theorem dX12_makesAll_117 : decode cX12_makesAll 117 = .ok (.ixor, 1) := by decide +kernel
theorem dX12_makesAll_118 : decode cX12_makesAll 118 = .ok (.iand, 1) := by decide +kernel
theorem dX12_makesAll_119 : decode cX12_makesAll 119 = .ok (.ifCond .eq 10, 3) := by decide +kernel
theorem dX12_makesAll_122 : decode cX12_makesAll 122 = .ok (.bipush 10, 2) := by decide +kernel
theorem dX12_makesAll_124 : decode cX12_makesAll 124 = .ok (.iload_n 3, 1) := by decide +kernel
theorem dX12_makesAll_125 : decode cX12_makesAll 125 = .ok (.imul, 1) := by decide +kernel
theorem dX12_makesAll_126 : decode cX12_makesAll 126 = .ok (.iconst 5, 1) := by decide +kernel
theorem dX12_makesAll_127 : decode cX12_makesAll 127 = .ok (.iadd, 1) := by decide +kernel
theorem dX12_makesAll_128 : decode cX12_makesAll 128 = .ok (.ireturn, 1) := by decide +kernel
theorem dX12_makesAll_129 : decode cX12_makesAll 129 = .ok (.iinc 1 1, 3) := by decide +kernel
theorem dX12_makesAll_132 : decode cX12_makesAll 132 = .ok (.goto (-125), 3) := by decide +kernel
theorem dX12_makesAll_135 : decode cX12_makesAll 135 = .ok (.iconst 0, 1) := by decide +kernel
theorem dX12_makesAll_136 : decode cX12_makesAll 136 = .ok (.ireturn, 1) := by decide +kernel
theorem b_X12_makesAll (mm : MM) (Q : Value → MM → Prop) (h : G e_X12_makesAll 7 [(0, .ref 156), (1, .int (0 : Int32))] [] (wI mm 156 41 (0 : Int32)) Q) : Runs e_X12_makesAll [.ref 156] mm Q := by
  refine runs_of_G (L := [(0, .ref 156)]) pl_X12 (Nat.le_of_ble_eq_true rfl) rfl ?_
  refine g_aload_n (pc := 0) (x := 156) dX12_makesAll_0 rfl ?_
  refine g_iconst (pc := 1) (v := (0 : Int32)) dX12_makesAll_1 (by decide) ?_
  refine g_putI (pc := 2) dX12_makesAll_2 fo_X12_448 sh_156 rfl rfl rfl ?_
  refine g_iconst (pc := 5) (v := (0 : Int32)) dX12_makesAll_5 (by decide) ?_
  refine g_istore_n (pc := 6) (L' := [(0, .ref 156), (1, .int (0 : Int32))]) dX12_makesAll_6 (Nat.le_of_ble_eq_true rfl) rfl ?_
  exact h
theorem b_X12_makesAll_7 (mm : MM) (Q : Value → MM → Prop) (l1 : Int32) (h : ((100 : Int32) ≤ l1 → (Q (.int (0 : Int32)) mm)) ∧ (¬ (100 : Int32) ≤ l1 → (G e_X12_makesAll 23 [(0, .ref 156), (1, .int l1), (2, .int (0 : Int32)), (3, .int (-1 : Int32)), (4, .int (0 : Int32)), (5, .int (0 : Int32))] [] mm Q))) : G e_X12_makesAll 7 [(0, .ref 156), (1, .int l1)] [] mm Q := by
  refine g_iload_n (pc := 7) (x := l1) dX12_makesAll_7 rfl ?_
  refine g_bipush (pc := 8) (v := (100 : Int32)) dX12_makesAll_8 (by decide) ?_
  refine g_icmp_ge (pc := 10) (tgt := 135) dX12_makesAll_10 (by decide) (fun c10 => ?_) (fun c10 => ?_)
  · have h := h.1 c10
    refine g_iconst (pc := 135) (v := (0 : Int32)) dX12_makesAll_135 (by decide) ?_
    exact g_iret (pc := 136) dX12_makesAll_136 rfl rfl rfl h
  · have h := h.2 c10
    refine g_iconst (pc := 13) (v := (0 : Int32)) dX12_makesAll_13 (by decide) ?_
    refine g_istore_n (pc := 14) (L' := [(0, .ref 156), (1, .int l1), (2, .int (0 : Int32))]) dX12_makesAll_14 (Nat.le_of_ble_eq_true rfl) rfl ?_
    refine g_iconst (pc := 15) (v := (-1 : Int32)) dX12_makesAll_15 (by decide) ?_
    refine g_istore_n (pc := 16) (L' := [(0, .ref 156), (1, .int l1), (2, .int (0 : Int32)), (3, .int (-1 : Int32))]) dX12_makesAll_16 (Nat.le_of_ble_eq_true rfl) rfl ?_
    refine g_iconst (pc := 17) (v := (0 : Int32)) dX12_makesAll_17 (by decide) ?_
    refine g_istore (pc := 18) (L' := [(0, .ref 156), (1, .int l1), (2, .int (0 : Int32)), (3, .int (-1 : Int32)), (4, .int (0 : Int32))]) dX12_makesAll_18 (Nat.le_of_ble_eq_true rfl) rfl ?_
    refine g_iconst (pc := 20) (v := (0 : Int32)) dX12_makesAll_20 (by decide) ?_
    refine g_istore (pc := 21) (L' := [(0, .ref 156), (1, .int l1), (2, .int (0 : Int32)), (3, .int (-1 : Int32)), (4, .int (0 : Int32)), (5, .int (0 : Int32))]) dX12_makesAll_21 (Nat.le_of_ble_eq_true rfl) rfl ?_
    exact h
theorem b_X12_makesAll_23 (mm : MM) (Q : Value → MM → Prop) (l1 : Int32) (l2 : Int32) (l3 : Int32) (l4 : Int32) (l5 : Int32) (h : ((mm.1 163 1) ≤ l5 → ((l2 ≤ 0 → (G e_X12_makesAll 7 [(0, .ref 156), (1, .int (l1 + (1 : Int32)))] [] mm Q)) ∧ (¬ l2 ≤ 0 → (∃ Pm1 : Value → MM → Prop, Runs e_X12_reachedAt [.ref 156, .int (12 : Int32), .int (-1 : Int32), .int (-1 : Int32)] mm Pm1 ∧ ∀ (r1 : Int32) (m1 : MM), Pm1 (.int r1) m1 → (((l4 &&& (r1 ^^^ (-1 : Int32))) = 0 → (G e_X12_makesAll 7 [(0, .ref 156), (1, .int (l1 + (1 : Int32)))] [] m1 Q)) ∧ (¬ (l4 &&& (r1 ^^^ (-1 : Int32))) = 0 → (Q (.int (((10 : Int32) * l3) + (5 : Int32))) m1))))))) ∧ (¬ (mm.1 163 1) ≤ l5 → (vp_in ((60 : Int32) + ((3 : Int32) * l5)) 1260 ∧ (((mm.1 163 ((60 : Int32) + ((3 : Int32) * l5)).toNatClampNeg) = l1 → ((¬ l2 = 0 → (∃ Pm1 : Value → MM → Prop, Runs e_X12_makes [.ref 156, .int l5, .int l2] mm Pm1 ∧ ∀ (r1 : Int32) (m1 : MM), Pm1 (.int r1) m1 → ((r1 ≤ 0 → (G e_X12_makesAll 23 [(0, .ref 156), (1, .int l1), (2, .int (l2 + (1 : Int32))), (3, .int l5), (4, .int l4), (5, .int (l5 + (1 : Int32)))] [] m1 Q)) ∧ (¬ r1 ≤ 0 → (Q (.int (((10 : Int32) * l5) + r1)) m1))))) ∧ (l2 = 0 → (∃ Pm1 : Value → MM → Prop, Runs e_X12_reachedAt [.ref 156, .int (12 : Int32), .int (-1 : Int32), .int (-1 : Int32)] mm Pm1 ∧ ∀ (r1 : Int32) (m1 : MM), Pm1 (.int r1) m1 → (∃ Pm2 : Value → MM → Prop, Runs e_X12_makes [.ref 156, .int l5, .int l2] m1 Pm2 ∧ ∀ (r2 : Int32) (m2 : MM), Pm2 (.int r2) m2 → ((r2 ≤ 0 → (G e_X12_makesAll 23 [(0, .ref 156), (1, .int l1), (2, .int (l2 + (1 : Int32))), (3, .int l5), (4, .int r1), (5, .int (l5 + (1 : Int32)))] [] m2 Q)) ∧ (¬ r2 ≤ 0 → (Q (.int (((10 : Int32) * l5) + r2)) m2)))))))) ∧ (¬ (mm.1 163 ((60 : Int32) + ((3 : Int32) * l5)).toNatClampNeg) = l1 → (G e_X12_makesAll 23 [(0, .ref 156), (1, .int l1), (2, .int l2), (3, .int l3), (4, .int l4), (5, .int (l5 + (1 : Int32)))] [] mm Q)))))) : G e_X12_makesAll 23 [(0, .ref 156), (1, .int l1), (2, .int l2), (3, .int l3), (4, .int l4), (5, .int l5)] [] mm Q := by
  refine g_iload (pc := 23) (x := l5) dX12_makesAll_23 rfl ?_
  refine g_aload_n (pc := 25) (x := 156) dX12_makesAll_25 rfl ?_
  refine g_getR (pc := 26) (dd := 7) dX12_makesAll_26 fo_X12_33 sh_156 rfl ?_
  refine g_iconst (pc := 29) (v := (1 : Int32)) dX12_makesAll_29 (by decide) ?_
  refine g_iaload (pc := 30) dX12_makesAll_30 sh_163 (vp_in_nI (n := 1) (N := 1260) (by decide) (by decide)) ?_
  refine g_icmp_ge (pc := 31) (tgt := 102) dX12_makesAll_31 (by decide) (fun c31 => ?_) (fun c31 => ?_)
  · have h := h.1 c31
    refine g_iload_n (pc := 102) (x := l2) dX12_makesAll_102 rfl ?_
    refine g_if_le (pc := 103) (tgt := 129) dX12_makesAll_103 (by decide) (fun c103 => ?_) (fun c103 => ?_)
    · have h := h.1 c103
      refine g_iinc (pc := 129) (x := l1) (v := (l1 + (1 : Int32))) (L' := [(0, .ref 156), (1, .int (l1 + (1 : Int32))), (2, .int l2), (3, .int l3), (4, .int l4), (5, .int l5)]) dX12_makesAll_129 rfl rfl (Nat.le_of_ble_eq_true rfl) rfl ?_
      refine g_goto (pc := 132) (tgt := 7) dX12_makesAll_132 (by decide) ?_
      refine g_sub (L' := [(0, .ref 156), (1, .int (l1 + (1 : Int32)))]) [0, 1] rfl ?_
      exact h
    · have h := h.2 c103
      refine g_iload (pc := 106) (x := l4) dX12_makesAll_106 rfl ?_
      refine g_aload_n (pc := 108) (x := 156) dX12_makesAll_108 rfl ?_
      refine g_bipush (pc := 109) (v := (12 : Int32)) dX12_makesAll_109 (by decide) ?_
      refine g_iconst (pc := 111) (v := (-1 : Int32)) dX12_makesAll_111 (by decide) ?_
      refine g_iconst (pc := 112) (v := (-1 : Int32)) dX12_makesAll_112 (by decide) ?_
      obtain ⟨Pm1, hRm1, h⟩ := h
      refine g_callV (pc := 113) (as := [.int (12 : Int32), .int (-1 : Int32), .int (-1 : Int32)]) dX12_makesAll_113 cw_X12_405 (by decide) rfl rfl sh_156 (Nat.le_of_ble_eq_true rfl) hRm1 ?_
      intro r_ m1 hz_ hp_
      obtain ⟨r1, rfl⟩ := hz_
      have h := h r1 m1 hp_
      refine g_iconst (pc := 116) (v := (-1 : Int32)) dX12_makesAll_116 (by decide) ?_
      refine g_ixor (pc := 117) dX12_makesAll_117 ?_
      refine g_iand (pc := 118) dX12_makesAll_118 ?_
      refine g_if_eq (pc := 119) (tgt := 129) dX12_makesAll_119 (by decide) (fun c119 => ?_) (fun c119 => ?_)
      · have h := h.1 c119
        refine g_iinc (pc := 129) (x := l1) (v := (l1 + (1 : Int32))) (L' := [(0, .ref 156), (1, .int (l1 + (1 : Int32))), (2, .int l2), (3, .int l3), (4, .int l4), (5, .int l5)]) dX12_makesAll_129 rfl rfl (Nat.le_of_ble_eq_true rfl) rfl ?_
        refine g_goto (pc := 132) (tgt := 7) dX12_makesAll_132 (by decide) ?_
        refine g_sub (L' := [(0, .ref 156), (1, .int (l1 + (1 : Int32)))]) [0, 1] rfl ?_
        exact h
      · have h := h.2 c119
        refine g_bipush (pc := 122) (v := (10 : Int32)) dX12_makesAll_122 (by decide) ?_
        refine g_iload_n (pc := 124) (x := l3) dX12_makesAll_124 rfl ?_
        refine g_imul (pc := 125) dX12_makesAll_125 ?_
        refine g_iconst (pc := 126) (v := (5 : Int32)) dX12_makesAll_126 (by decide) ?_
        refine g_iadd (pc := 127) dX12_makesAll_127 ?_
        exact g_iret (pc := 128) dX12_makesAll_128 rfl rfl rfl h
  · have h := h.2 c31
    refine g_aload_n (pc := 34) (x := 156) dX12_makesAll_34 rfl ?_
    refine g_getR (pc := 35) (dd := 7) dX12_makesAll_35 fo_X12_33 sh_156 rfl ?_
    refine g_bipush (pc := 38) (v := (60 : Int32)) dX12_makesAll_38 (by decide) ?_
    refine g_iconst (pc := 40) (v := (3 : Int32)) dX12_makesAll_40 (by decide) ?_
    refine g_iload (pc := 41) (x := l5) dX12_makesAll_41 rfl ?_
    refine g_imul (pc := 43) dX12_makesAll_43 ?_
    refine g_iadd (pc := 44) dX12_makesAll_44 ?_
    refine g_iaload (pc := 45) dX12_makesAll_45 sh_163 h.1 ?_
    have h := h.2
    refine g_iload_n (pc := 46) (x := l1) dX12_makesAll_46 rfl ?_
    refine g_icmp_eq (pc := 47) (tgt := 53) dX12_makesAll_47 (by decide) (fun c47 => ?_) (fun c47 => ?_)
    · have h := h.1 c47
      refine g_iload_n (pc := 53) (x := l2) dX12_makesAll_53 rfl ?_
      refine g_if_ne (pc := 54) (tgt := 67) dX12_makesAll_54 (by decide) (fun c54 => ?_) (fun c54 => ?_)
      · have h := h.1 c54
        refine g_aload_n (pc := 67) (x := 156) dX12_makesAll_67 rfl ?_
        refine g_iload (pc := 68) (x := l5) dX12_makesAll_68 rfl ?_
        refine g_iload_n (pc := 70) (x := l2) dX12_makesAll_70 rfl ?_
        obtain ⟨Pm1, hRm1, h⟩ := h
        refine g_callV (pc := 71) (as := [.int l5, .int l2]) dX12_makesAll_71 cw_X12_451 (by decide) rfl rfl sh_156 (Nat.le_of_ble_eq_true rfl) hRm1 ?_
        intro r_ m1 hz_ hp_
        obtain ⟨r1, rfl⟩ := hz_
        have h := h r1 m1 hp_
        refine g_istore (pc := 74) (L' := [(0, .ref 156), (1, .int l1), (2, .int l2), (3, .int l3), (4, .int l4), (5, .int l5), (6, .int r1)]) dX12_makesAll_74 (Nat.le_of_ble_eq_true rfl) rfl ?_
        refine g_iload (pc := 76) (x := r1) dX12_makesAll_76 rfl ?_
        refine g_if_le (pc := 78) (tgt := 90) dX12_makesAll_78 (by decide) (fun c78 => ?_) (fun c78 => ?_)
        · have h := h.1 c78
          refine g_iinc (pc := 90) (x := l2) (v := (l2 + (1 : Int32))) (L' := [(0, .ref 156), (1, .int l1), (2, .int (l2 + (1 : Int32))), (3, .int l3), (4, .int l4), (5, .int l5), (6, .int r1)]) dX12_makesAll_90 rfl rfl (Nat.le_of_ble_eq_true rfl) rfl ?_
          refine g_iload (pc := 93) (x := l5) dX12_makesAll_93 rfl ?_
          refine g_istore_n (pc := 95) (L' := [(0, .ref 156), (1, .int l1), (2, .int (l2 + (1 : Int32))), (3, .int l5), (4, .int l4), (5, .int l5), (6, .int r1)]) dX12_makesAll_95 (Nat.le_of_ble_eq_true rfl) rfl ?_
          refine g_iinc (pc := 96) (x := l5) (v := (l5 + (1 : Int32))) (L' := [(0, .ref 156), (1, .int l1), (2, .int (l2 + (1 : Int32))), (3, .int l5), (4, .int l4), (5, .int (l5 + (1 : Int32))), (6, .int r1)]) dX12_makesAll_96 rfl rfl (Nat.le_of_ble_eq_true rfl) rfl ?_
          refine g_goto (pc := 99) (tgt := 23) dX12_makesAll_99 (by decide) ?_
          refine g_sub (L' := [(0, .ref 156), (1, .int l1), (2, .int (l2 + (1 : Int32))), (3, .int l5), (4, .int l4), (5, .int (l5 + (1 : Int32)))]) [0, 1, 2, 3, 4, 5] rfl ?_
          exact h
        · have h := h.2 c78
          refine g_bipush (pc := 81) (v := (10 : Int32)) dX12_makesAll_81 (by decide) ?_
          refine g_iload (pc := 83) (x := l5) dX12_makesAll_83 rfl ?_
          refine g_imul (pc := 85) dX12_makesAll_85 ?_
          refine g_iload (pc := 86) (x := r1) dX12_makesAll_86 rfl ?_
          refine g_iadd (pc := 88) dX12_makesAll_88 ?_
          exact g_iret (pc := 89) dX12_makesAll_89 rfl rfl rfl h
      · have h := h.2 c54
        refine g_aload_n (pc := 57) (x := 156) dX12_makesAll_57 rfl ?_
        refine g_bipush (pc := 58) (v := (12 : Int32)) dX12_makesAll_58 (by decide) ?_
        refine g_iconst (pc := 60) (v := (-1 : Int32)) dX12_makesAll_60 (by decide) ?_
        refine g_iconst (pc := 61) (v := (-1 : Int32)) dX12_makesAll_61 (by decide) ?_
        obtain ⟨Pm1, hRm1, h⟩ := h
        refine g_callV (pc := 62) (as := [.int (12 : Int32), .int (-1 : Int32), .int (-1 : Int32)]) dX12_makesAll_62 cw_X12_405 (by decide) rfl rfl sh_156 (Nat.le_of_ble_eq_true rfl) hRm1 ?_
        intro r_ m1 hz_ hp_
        obtain ⟨r1, rfl⟩ := hz_
        have h := h r1 m1 hp_
        refine g_istore (pc := 65) (L' := [(0, .ref 156), (1, .int l1), (2, .int l2), (3, .int l3), (4, .int r1), (5, .int l5)]) dX12_makesAll_65 (Nat.le_of_ble_eq_true rfl) rfl ?_
        refine g_aload_n (pc := 67) (x := 156) dX12_makesAll_67 rfl ?_
        refine g_iload (pc := 68) (x := l5) dX12_makesAll_68 rfl ?_
        refine g_iload_n (pc := 70) (x := l2) dX12_makesAll_70 rfl ?_
        obtain ⟨Pm2, hRm2, h⟩ := h
        refine g_callV (pc := 71) (as := [.int l5, .int l2]) dX12_makesAll_71 cw_X12_451 (by decide) rfl rfl sh_156 (Nat.le_of_ble_eq_true rfl) hRm2 ?_
        intro r_ m2 hz_ hp_
        obtain ⟨r2, rfl⟩ := hz_
        have h := h r2 m2 hp_
        refine g_istore (pc := 74) (L' := [(0, .ref 156), (1, .int l1), (2, .int l2), (3, .int l3), (4, .int r1), (5, .int l5), (6, .int r2)]) dX12_makesAll_74 (Nat.le_of_ble_eq_true rfl) rfl ?_
        refine g_iload (pc := 76) (x := r2) dX12_makesAll_76 rfl ?_
        refine g_if_le (pc := 78) (tgt := 90) dX12_makesAll_78 (by decide) (fun c78 => ?_) (fun c78 => ?_)
        · have h := h.1 c78
          refine g_iinc (pc := 90) (x := l2) (v := (l2 + (1 : Int32))) (L' := [(0, .ref 156), (1, .int l1), (2, .int (l2 + (1 : Int32))), (3, .int l3), (4, .int r1), (5, .int l5), (6, .int r2)]) dX12_makesAll_90 rfl rfl (Nat.le_of_ble_eq_true rfl) rfl ?_
          refine g_iload (pc := 93) (x := l5) dX12_makesAll_93 rfl ?_
          refine g_istore_n (pc := 95) (L' := [(0, .ref 156), (1, .int l1), (2, .int (l2 + (1 : Int32))), (3, .int l5), (4, .int r1), (5, .int l5), (6, .int r2)]) dX12_makesAll_95 (Nat.le_of_ble_eq_true rfl) rfl ?_
          refine g_iinc (pc := 96) (x := l5) (v := (l5 + (1 : Int32))) (L' := [(0, .ref 156), (1, .int l1), (2, .int (l2 + (1 : Int32))), (3, .int l5), (4, .int r1), (5, .int (l5 + (1 : Int32))), (6, .int r2)]) dX12_makesAll_96 rfl rfl (Nat.le_of_ble_eq_true rfl) rfl ?_
          refine g_goto (pc := 99) (tgt := 23) dX12_makesAll_99 (by decide) ?_
          refine g_sub (L' := [(0, .ref 156), (1, .int l1), (2, .int (l2 + (1 : Int32))), (3, .int l5), (4, .int r1), (5, .int (l5 + (1 : Int32)))]) [0, 1, 2, 3, 4, 5] rfl ?_
          exact h
        · have h := h.2 c78
          refine g_bipush (pc := 81) (v := (10 : Int32)) dX12_makesAll_81 (by decide) ?_
          refine g_iload (pc := 83) (x := l5) dX12_makesAll_83 rfl ?_
          refine g_imul (pc := 85) dX12_makesAll_85 ?_
          refine g_iload (pc := 86) (x := r2) dX12_makesAll_86 rfl ?_
          refine g_iadd (pc := 88) dX12_makesAll_88 ?_
          exact g_iret (pc := 89) dX12_makesAll_89 rfl rfl rfl h
    · have h := h.2 c47
      refine g_goto (pc := 50) (tgt := 96) dX12_makesAll_50 (by decide) ?_
      refine g_iinc (pc := 96) (x := l5) (v := (l5 + (1 : Int32))) (L' := [(0, .ref 156), (1, .int l1), (2, .int l2), (3, .int l3), (4, .int l4), (5, .int (l5 + (1 : Int32)))]) dX12_makesAll_96 rfl rfl (Nat.le_of_ble_eq_true rfl) rfl ?_
      refine g_goto (pc := 99) (tgt := 23) dX12_makesAll_99 (by decide) ?_
      exact h
theorem dX12_judge_0 : decode cX12_judge 0 = .ok (.aload_n 0, 1) := by decide +kernel
theorem dX12_judge_1 : decode cX12_judge 1 = .ok (.bipush 20, 2) := by decide +kernel
theorem dX12_judge_3 : decode cX12_judge 3 = .ok (.invokevirtual 454, 3) := by decide +kernel
theorem dX12_judge_6 : decode cX12_judge 6 = .ok (.aload_n 0, 1) := by decide +kernel
theorem dX12_judge_7 : decode cX12_judge 7 = .ok (.invokevirtual 457, 3) := by decide +kernel
theorem dX12_judge_10 : decode cX12_judge 10 = .ok (.istore_n 1, 1) := by decide +kernel
theorem dX12_judge_11 : decode cX12_judge 11 = .ok (.aload_n 0, 1) := by decide +kernel
theorem dX12_judge_12 : decode cX12_judge 12 = .ok (.bipush 20, 2) := by decide +kernel
theorem dX12_judge_14 : decode cX12_judge 14 = .ok (.invokevirtual 460, 3) := by decide +kernel
theorem dX12_judge_17 : decode cX12_judge 17 = .ok (.iload_n 1, 1) := by decide +kernel
theorem dX12_judge_18 : decode cX12_judge 18 = .ok (.ireturn, 1) := by decide +kernel
theorem b_X12_judge (mm : MM) (Q : Value → MM → Prop) (h : ∃ Pm1 : Value → MM → Prop, Runs e_X12_keep [.ref 156, .int (20 : Int32)] mm Pm1 ∧ ∀ m1, Pm1 .null m1 → (∃ Pm2 : Value → MM → Prop, Runs e_X12_makesAll [.ref 156] m1 Pm2 ∧ ∀ (r2 : Int32) (m2 : MM), Pm2 (.int r2) m2 → (∃ Pm3 : Value → MM → Prop, Runs e_X12_putBack [.ref 156, .int (20 : Int32)] m2 Pm3 ∧ ∀ m3, Pm3 .null m3 → (Q (.int r2) m3)))) : Runs e_X12_judge [.ref 156] mm Q := by
  refine runs_of_G (L := [(0, .ref 156)]) pl_X12 (Nat.le_of_ble_eq_true rfl) rfl ?_
  refine g_aload_n (pc := 0) (x := 156) dX12_judge_0 rfl ?_
  refine g_bipush (pc := 1) (v := (20 : Int32)) dX12_judge_1 (by decide) ?_
  obtain ⟨Pm1, hRm1, h⟩ := h
  refine g_callV (pc := 3) (as := [.int (20 : Int32)]) dX12_judge_3 cw_X12_454 (by decide) rfl rfl sh_156 (Nat.le_of_ble_eq_true rfl) hRm1 ?_
  intro r_ m1 hz_ hp_
  obtain rfl := hz_
  have h := h m1 hp_
  refine g_aload_n (pc := 6) (x := 156) dX12_judge_6 rfl ?_
  obtain ⟨Pm2, hRm2, h⟩ := h
  refine g_callV (pc := 7) (as := []) dX12_judge_7 cw_X12_457 (by decide) rfl rfl sh_156 (Nat.le_of_ble_eq_true rfl) hRm2 ?_
  intro r_ m2 hz_ hp_
  obtain ⟨r2, rfl⟩ := hz_
  have h := h r2 m2 hp_
  refine g_istore_n (pc := 10) (L' := [(0, .ref 156), (1, .int r2)]) dX12_judge_10 (Nat.le_of_ble_eq_true rfl) rfl ?_
  refine g_aload_n (pc := 11) (x := 156) dX12_judge_11 rfl ?_
  refine g_bipush (pc := 12) (v := (20 : Int32)) dX12_judge_12 (by decide) ?_
  obtain ⟨Pm3, hRm3, h⟩ := h
  refine g_callV (pc := 14) (as := [.int (20 : Int32)]) dX12_judge_14 cw_X12_460 (by decide) rfl rfl sh_156 (Nat.le_of_ble_eq_true rfl) hRm3 ?_
  intro r_ m3 hz_ hp_
  obtain rfl := hz_
  have h := h m3 hp_
  refine g_iload_n (pc := 17) (x := r2) dX12_judge_17 rfl ?_
  exact g_iret (pc := 18) dX12_judge_18 rfl rfl rfl h
theorem dX12_done_0 : decode cX12_done 0 = .ok (.aload_n 0, 1) := by decide +kernel
theorem dX12_done_1 : decode cX12_done 1 = .ok (.getfield 33, 3) := by decide +kernel
theorem dX12_done_4 : decode cX12_done 4 = .ok (.iconst 1, 1) := by decide +kernel
theorem dX12_done_5 : decode cX12_done 5 = .ok (.iaload, 1) := by decide +kernel
theorem dX12_done_6 : decode cX12_done 6 = .ok (.ifCond .ne 5, 3) := by decide +kernel
theorem dX12_done_9 : decode cX12_done 9 = .ok (.iconst 0, 1) := by decide +kernel
theorem dX12_done_10 : decode cX12_done 10 = .ok (.ireturn, 1) := by decide +kernel
theorem dX12_done_11 : decode cX12_done 11 = .ok (.aload_n 0, 1) := by decide +kernel
theorem dX12_done_12 : decode cX12_done 12 = .ok (.bipush 20, 2) := by decide +kernel
theorem dX12_done_14 : decode cX12_done 14 = .ok (.invokevirtual 454, 3) := by decide +kernel
theorem dX12_done_17 : decode cX12_done 17 = .ok (.aload_n 0, 1) := by decide +kernel
theorem dX12_done_18 : decode cX12_done 18 = .ok (.invokevirtual 457, 3) := by decide +kernel
theorem dX12_done_21 : decode cX12_done 21 = .ok (.ifCond .eq 12, 3) := by decide +kernel
theorem dX12_done_24 : decode cX12_done 24 = .ok (.aload_n 0, 1) := by decide +kernel
theorem dX12_done_25 : decode cX12_done 25 = .ok (.bipush 20, 2) := by decide +kernel
theorem dX12_done_27 : decode cX12_done 27 = .ok (.invokevirtual 460, 3) := by decide +kernel
theorem dX12_done_30 : decode cX12_done 30 = .ok (.bipush (-2), 2) := by decide +kernel
theorem dX12_done_32 : decode cX12_done 32 = .ok (.ireturn, 1) := by decide +kernel
theorem dX12_done_33 : decode cX12_done 33 = .ok (.aload_n 0, 1) := by decide +kernel
theorem dX12_done_34 : decode cX12_done 34 = .ok (.getfield 283, 3) := by decide +kernel
theorem dX12_done_37 : decode cX12_done 37 = .ok (.bipush 20, 2) := by decide +kernel
theorem dX12_done_39 : decode cX12_done 39 = .ok (.if_icmp .ne 39, 3) := by decide +kernel
theorem dX12_done_42 : decode cX12_done 42 = .ok (.iconst 0, 1) := by decide +kernel
theorem dX12_done_43 : decode cX12_done 43 = .ok (.istore_n 1, 1) := by decide +kernel
theorem dX12_done_44 : decode cX12_done 44 = .ok (.iload_n 1, 1) := by decide +kernel
theorem dX12_done_45 : decode cX12_done 45 = .ok (.sipush 456, 3) := by decide +kernel
theorem dX12_done_48 : decode cX12_done 48 = .ok (.if_icmp .ge 24, 3) := by decide +kernel
theorem dX12_done_51 : decode cX12_done 51 = .ok (.aload_n 0, 1) := by decide +kernel
theorem dX12_done_52 : decode cX12_done 52 = .ok (.getfield 94, 3) := by decide +kernel
theorem dX12_done_55 : decode cX12_done 55 = .ok (.iload_n 1, 1) := by decide +kernel
theorem dX12_done_56 : decode cX12_done 56 = .ok (.aload_n 0, 1) := by decide +kernel
theorem dX12_done_57 : decode cX12_done 57 = .ok (.getfield 94, 3) := by decide +kernel
theorem dX12_done_60 : decode cX12_done 60 = .ok (.iload_n 1, 1) := by decide +kernel
theorem dX12_done_61 : decode cX12_done 61 = .ok (.bipush 24, 2) := by decide +kernel
theorem dX12_done_63 : decode cX12_done 63 = .ok (.iadd, 1) := by decide +kernel
theorem dX12_done_64 : decode cX12_done 64 = .ok (.iaload, 1) := by decide +kernel
theorem dX12_done_65 : decode cX12_done 65 = .ok (.iastore, 1) := by decide +kernel
theorem dX12_done_66 : decode cX12_done 66 = .ok (.iinc 1 1, 3) := by decide +kernel
theorem dX12_done_69 : decode cX12_done 69 = .ok (.goto (-25), 3) := by decide +kernel
theorem dX12_done_72 : decode cX12_done 72 = .ok (.aload_n 0, 1) := by decide +kernel
theorem dX12_done_73 : decode cX12_done 73 = .ok (.bipush 19, 2) := by decide +kernel
theorem dX12_done_75 : decode cX12_done 75 = .ok (.putfield 283, 3) := by decide +kernel
theorem dX12_done_78 : decode cX12_done 78 = .ok (.iconst 0, 1) := by decide +kernel
theorem dX12_done_79 : decode cX12_done 79 = .ok (.istore_n 1, 1) := by decide +kernel
theorem dX12_done_80 : decode cX12_done 80 = .ok (.iload_n 1, 1) := by decide +kernel
theorem dX12_done_81 : decode cX12_done 81 = .ok (.bipush 24, 2) := by decide +kernel
theorem dX12_done_83 : decode cX12_done 83 = .ok (.if_icmp .ge 33, 3) := by decide +kernel
theorem dX12_done_86 : decode cX12_done 86 = .ok (.aload_n 0, 1) := by decide +kernel
theorem dX12_done_87 : decode cX12_done 87 = .ok (.getfield 94, 3) := by decide +kernel
theorem dX12_done_90 : decode cX12_done 90 = .ok (.bipush 24, 2) := by decide +kernel
theorem dX12_done_92 : decode cX12_done 92 = .ok (.aload_n 0, 1) := by decide +kernel
theorem dX12_done_93 : decode cX12_done 93 = .ok (.getfield 283, 3) := by decide +kernel
theorem dX12_done_96 : decode cX12_done 96 = .ok (.imul, 1) := by decide +kernel
theorem dX12_done_97 : decode cX12_done 97 = .ok (.iload_n 1, 1) := by decide +kernel
theorem dX12_done_98 : decode cX12_done 98 = .ok (.iadd, 1) := by decide +kernel
theorem dX12_done_99 : decode cX12_done 99 = .ok (.aload_n 0, 1) := by decide +kernel
theorem dX12_done_100 : decode cX12_done 100 = .ok (.getfield 94, 3) := by decide +kernel
theorem dX12_done_103 : decode cX12_done 103 = .ok (.sipush 480, 3) := by decide +kernel
theorem dX12_done_106 : decode cX12_done 106 = .ok (.iload_n 1, 1) := by decide +kernel
theorem dX12_done_107 : decode cX12_done 107 = .ok (.iadd, 1) := by decide +kernel
theorem dX12_done_108 : decode cX12_done 108 = .ok (.iaload, 1) := by decide +kernel
theorem dX12_done_109 : decode cX12_done 109 = .ok (.iastore, 1) := by decide +kernel
theorem dX12_done_110 : decode cX12_done 110 = .ok (.iinc 1 1, 3) := by decide +kernel
theorem dX12_done_113 : decode cX12_done 113 = .ok (.goto (-33), 3) := by decide +kernel
theorem dX12_done_116 : decode cX12_done 116 = .ok (.aload_n 0, 1) := by decide +kernel
theorem dX12_done_117 : decode cX12_done 117 = .ok (.dup, 1) := by decide +kernel
theorem dX12_done_118 : decode cX12_done 118 = .ok (.getfield 283, 3) := by decide +kernel
theorem dX12_done_121 : decode cX12_done 121 = .ok (.iconst 1, 1) := by decide +kernel
theorem dX12_done_122 : decode cX12_done 122 = .ok (.iadd, 1) := by decide +kernel
theorem dX12_done_123 : decode cX12_done 123 = .ok (.putfield 283, 3) := by decide +kernel
theorem dX12_done_126 : decode cX12_done 126 = .ok (.aload_n 0, 1) := by decide +kernel
theorem dX12_done_127 : decode cX12_done 127 = .ok (.getfield 33, 3) := by decide +kernel
theorem dX12_done_130 : decode cX12_done 130 = .ok (.iconst 1, 1) := by decide +kernel
theorem dX12_done_131 : decode cX12_done 131 = .ok (.iconst 0, 1) := by decide +kernel
theorem dX12_done_132 : decode cX12_done 132 = .ok (.iastore, 1) := by decide +kernel
theorem dX12_done_133 : decode cX12_done 133 = .ok (.aload_n 0, 1) := by decide +kernel
theorem dX12_done_134 : decode cX12_done 134 = .ok (.getfield 448, 3) := by decide +kernel
theorem dX12_done_137 : decode cX12_done 137 = .ok (.ireturn, 1) := by decide +kernel
theorem b_X12_done (mm : MM) (Q : Value → MM → Prop) (h : (¬ (mm.1 163 1) = 0 → (∃ Pm1 : Value → MM → Prop, Runs e_X12_keep [.ref 156, .int (20 : Int32)] mm Pm1 ∧ ∀ m1, Pm1 .null m1 → (∃ Pm2 : Value → MM → Prop, Runs e_X12_makesAll [.ref 156] m1 Pm2 ∧ ∀ (r2 : Int32) (m2 : MM), Pm2 (.int r2) m2 → ((r2 = 0 → ((¬ (m2.1 156 40) = (20 : Int32) → (G e_X12_done 80 [(0, .ref 156), (1, .int (0 : Int32))] [] m2 Q)) ∧ ((m2.1 156 40) = (20 : Int32) → (G e_X12_done 44 [(0, .ref 156), (1, .int (0 : Int32))] [] m2 Q)))) ∧ (¬ r2 = 0 → (∃ Pm3 : Value → MM → Prop, Runs e_X12_putBack [.ref 156, .int (20 : Int32)] m2 Pm3 ∧ ∀ m3, Pm3 .null m3 → (Q (.int (-2 : Int32)) m3))))))) ∧ ((mm.1 163 1) = 0 → (Q (.int (0 : Int32)) mm))) : Runs e_X12_done [.ref 156] mm Q := by
  refine runs_of_G (L := [(0, .ref 156)]) pl_X12 (Nat.le_of_ble_eq_true rfl) rfl ?_
  refine g_aload_n (pc := 0) (x := 156) dX12_done_0 rfl ?_
  refine g_getR (pc := 1) (dd := 7) dX12_done_1 fo_X12_33 sh_156 rfl ?_
  refine g_iconst (pc := 4) (v := (1 : Int32)) dX12_done_4 (by decide) ?_
  refine g_iaload (pc := 5) dX12_done_5 sh_163 (vp_in_nI (n := 1) (N := 1260) (by decide) (by decide)) ?_
  refine g_if_ne (pc := 6) (tgt := 11) dX12_done_6 (by decide) (fun c6 => ?_) (fun c6 => ?_)
  · have h := h.1 c6
    refine g_aload_n (pc := 11) (x := 156) dX12_done_11 rfl ?_
    refine g_bipush (pc := 12) (v := (20 : Int32)) dX12_done_12 (by decide) ?_
    obtain ⟨Pm1, hRm1, h⟩ := h
    refine g_callV (pc := 14) (as := [.int (20 : Int32)]) dX12_done_14 cw_X12_454 (by decide) rfl rfl sh_156 (Nat.le_of_ble_eq_true rfl) hRm1 ?_
    intro r_ m1 hz_ hp_
    obtain rfl := hz_
    have h := h m1 hp_
    refine g_aload_n (pc := 17) (x := 156) dX12_done_17 rfl ?_
    obtain ⟨Pm2, hRm2, h⟩ := h
    refine g_callV (pc := 18) (as := []) dX12_done_18 cw_X12_457 (by decide) rfl rfl sh_156 (Nat.le_of_ble_eq_true rfl) hRm2 ?_
    intro r_ m2 hz_ hp_
    obtain ⟨r2, rfl⟩ := hz_
    have h := h r2 m2 hp_
    refine g_if_eq (pc := 21) (tgt := 33) dX12_done_21 (by decide) (fun c21 => ?_) (fun c21 => ?_)
    · have h := h.1 c21
      refine g_aload_n (pc := 33) (x := 156) dX12_done_33 rfl ?_
      refine g_getI (pc := 34) dX12_done_34 fo_X12_283 sh_156 rfl ?_
      refine g_bipush (pc := 37) (v := (20 : Int32)) dX12_done_37 (by decide) ?_
      refine g_icmp_ne (pc := 39) (tgt := 78) dX12_done_39 (by decide) (fun c39 => ?_) (fun c39 => ?_)
      · have h := h.1 c39
        refine g_iconst (pc := 78) (v := (0 : Int32)) dX12_done_78 (by decide) ?_
        refine g_istore_n (pc := 79) (L' := [(0, .ref 156), (1, .int (0 : Int32))]) dX12_done_79 (Nat.le_of_ble_eq_true rfl) rfl ?_
        exact h
      · have h := h.2 c39
        refine g_iconst (pc := 42) (v := (0 : Int32)) dX12_done_42 (by decide) ?_
        refine g_istore_n (pc := 43) (L' := [(0, .ref 156), (1, .int (0 : Int32))]) dX12_done_43 (Nat.le_of_ble_eq_true rfl) rfl ?_
        exact h
    · have h := h.2 c21
      refine g_aload_n (pc := 24) (x := 156) dX12_done_24 rfl ?_
      refine g_bipush (pc := 25) (v := (20 : Int32)) dX12_done_25 (by decide) ?_
      obtain ⟨Pm3, hRm3, h⟩ := h
      refine g_callV (pc := 27) (as := [.int (20 : Int32)]) dX12_done_27 cw_X12_460 (by decide) rfl rfl sh_156 (Nat.le_of_ble_eq_true rfl) hRm3 ?_
      intro r_ m3 hz_ hp_
      obtain rfl := hz_
      have h := h m3 hp_
      refine g_bipush (pc := 30) (v := (-2 : Int32)) dX12_done_30 (by decide) ?_
      exact g_iret (pc := 32) dX12_done_32 rfl rfl rfl h
  · have h := h.2 c6
    refine g_iconst (pc := 9) (v := (0 : Int32)) dX12_done_9 (by decide) ?_
    exact g_iret (pc := 10) dX12_done_10 rfl rfl rfl h
theorem b_X12_done_80 (mm : MM) (Q : Value → MM → Prop) (l1 : Int32) (h : ((24 : Int32) ≤ l1 → (Q (.int ((wI (wI mm 156 40 ((mm.1 156 40) + (1 : Int32))) 163 1 (0 : Int32)).1 156 41)) (wI (wI mm 156 40 ((mm.1 156 40) + (1 : Int32))) 163 1 (0 : Int32)))) ∧ (¬ (24 : Int32) ≤ l1 → (vp_in ((480 : Int32) + l1) 504 ∧ (vp_in (((24 : Int32) * (mm.1 156 40)) + l1) 504 ∧ (G e_X12_done 80 [(0, .ref 156), (1, .int (l1 + (1 : Int32)))] [] (wI mm 183 ((((24 : Int32) * (mm.1 156 40)) + l1).toNatClampNeg) (mm.1 183 ((480 : Int32) + l1).toNatClampNeg)) Q))))) : G e_X12_done 80 [(0, .ref 156), (1, .int l1)] [] mm Q := by
  refine g_iload_n (pc := 80) (x := l1) dX12_done_80 rfl ?_
  refine g_bipush (pc := 81) (v := (24 : Int32)) dX12_done_81 (by decide) ?_
  refine g_icmp_ge (pc := 83) (tgt := 116) dX12_done_83 (by decide) (fun c83 => ?_) (fun c83 => ?_)
  · have h := h.1 c83
    refine g_aload_n (pc := 116) (x := 156) dX12_done_116 rfl ?_
    refine g_dup (pc := 117) dX12_done_117 rfl ?_
    refine g_getI (pc := 118) dX12_done_118 fo_X12_283 sh_156 rfl ?_
    refine g_iconst (pc := 121) (v := (1 : Int32)) dX12_done_121 (by decide) ?_
    refine g_iadd (pc := 122) dX12_done_122 ?_
    refine g_putI (pc := 123) dX12_done_123 fo_X12_283 sh_156 rfl rfl rfl ?_
    refine g_aload_n (pc := 126) (x := 156) dX12_done_126 rfl ?_
    refine g_getR (pc := 127) (dd := 7) dX12_done_127 fo_X12_33 sh_156 rfl ?_
    refine g_iconst (pc := 130) (v := (1 : Int32)) dX12_done_130 (by decide) ?_
    refine g_iconst (pc := 131) (v := (0 : Int32)) dX12_done_131 (by decide) ?_
    refine g_iastore (pc := 132) dX12_done_132 sh_163 (vp_in_nI (n := 1) (N := 1260) (by decide) (by decide)) ?_
    refine g_aload_n (pc := 133) (x := 156) dX12_done_133 rfl ?_
    refine g_getI (pc := 134) dX12_done_134 fo_X12_448 sh_156 rfl ?_
    exact g_iret (pc := 137) dX12_done_137 rfl rfl rfl h
  · have h := h.2 c83
    refine g_aload_n (pc := 86) (x := 156) dX12_done_86 rfl ?_
    refine g_getR (pc := 87) (dd := 27) dX12_done_87 fo_X12_94 sh_156 rfl ?_
    refine g_bipush (pc := 90) (v := (24 : Int32)) dX12_done_90 (by decide) ?_
    refine g_aload_n (pc := 92) (x := 156) dX12_done_92 rfl ?_
    refine g_getI (pc := 93) dX12_done_93 fo_X12_283 sh_156 rfl ?_
    refine g_imul (pc := 96) dX12_done_96 ?_
    refine g_iload_n (pc := 97) (x := l1) dX12_done_97 rfl ?_
    refine g_iadd (pc := 98) dX12_done_98 ?_
    refine g_aload_n (pc := 99) (x := 156) dX12_done_99 rfl ?_
    refine g_getR (pc := 100) (dd := 27) dX12_done_100 fo_X12_94 sh_156 rfl ?_
    refine g_sipush (pc := 103) (v := (480 : Int32)) dX12_done_103 (by decide) ?_
    refine g_iload_n (pc := 106) (x := l1) dX12_done_106 rfl ?_
    refine g_iadd (pc := 107) dX12_done_107 ?_
    refine g_iaload (pc := 108) dX12_done_108 sh_183 h.1 ?_
    have h := h.2
    refine g_iastore (pc := 109) dX12_done_109 sh_183 h.1 ?_
    have h := h.2
    refine g_iinc (pc := 110) (x := l1) (v := (l1 + (1 : Int32))) (L' := [(0, .ref 156), (1, .int (l1 + (1 : Int32)))]) dX12_done_110 rfl rfl (Nat.le_of_ble_eq_true rfl) rfl ?_
    refine g_goto (pc := 113) (tgt := 80) dX12_done_113 (by decide) ?_
    exact h
theorem b_X12_done_44 (mm : MM) (Q : Value → MM → Prop) (l1 : Int32) (h : ((456 : Int32) ≤ l1 → (G e_X12_done 80 [(0, .ref 156), (1, .int (0 : Int32))] [] (wI mm 156 40 (19 : Int32)) Q)) ∧ (¬ (456 : Int32) ≤ l1 → (vp_in (l1 + (24 : Int32)) 504 ∧ (vp_in l1 504 ∧ (G e_X12_done 44 [(0, .ref 156), (1, .int (l1 + (1 : Int32)))] [] (wI mm 183 (l1.toNatClampNeg) (mm.1 183 (l1 + (24 : Int32)).toNatClampNeg)) Q))))) : G e_X12_done 44 [(0, .ref 156), (1, .int l1)] [] mm Q := by
  refine g_iload_n (pc := 44) (x := l1) dX12_done_44 rfl ?_
  refine g_sipush (pc := 45) (v := (456 : Int32)) dX12_done_45 (by decide) ?_
  refine g_icmp_ge (pc := 48) (tgt := 72) dX12_done_48 (by decide) (fun c48 => ?_) (fun c48 => ?_)
  · have h := h.1 c48
    refine g_aload_n (pc := 72) (x := 156) dX12_done_72 rfl ?_
    refine g_bipush (pc := 73) (v := (19 : Int32)) dX12_done_73 (by decide) ?_
    refine g_putI (pc := 75) dX12_done_75 fo_X12_283 sh_156 rfl rfl rfl ?_
    refine g_iconst (pc := 78) (v := (0 : Int32)) dX12_done_78 (by decide) ?_
    refine g_istore_n (pc := 79) (L' := [(0, .ref 156), (1, .int (0 : Int32))]) dX12_done_79 (Nat.le_of_ble_eq_true rfl) rfl ?_
    exact h
  · have h := h.2 c48
    refine g_aload_n (pc := 51) (x := 156) dX12_done_51 rfl ?_
    refine g_getR (pc := 52) (dd := 27) dX12_done_52 fo_X12_94 sh_156 rfl ?_
    refine g_iload_n (pc := 55) (x := l1) dX12_done_55 rfl ?_
    refine g_aload_n (pc := 56) (x := 156) dX12_done_56 rfl ?_
    refine g_getR (pc := 57) (dd := 27) dX12_done_57 fo_X12_94 sh_156 rfl ?_
    refine g_iload_n (pc := 60) (x := l1) dX12_done_60 rfl ?_
    refine g_bipush (pc := 61) (v := (24 : Int32)) dX12_done_61 (by decide) ?_
    refine g_iadd (pc := 63) dX12_done_63 ?_
    refine g_iaload (pc := 64) dX12_done_64 sh_183 h.1 ?_
    have h := h.2
    refine g_iastore (pc := 65) dX12_done_65 sh_183 h.1 ?_
    have h := h.2
    refine g_iinc (pc := 66) (x := l1) (v := (l1 + (1 : Int32))) (L' := [(0, .ref 156), (1, .int (l1 + (1 : Int32)))]) dX12_done_66 rfl rfl (Nat.le_of_ble_eq_true rfl) rfl ?_
    refine g_goto (pc := 69) (tgt := 44) dX12_done_69 (by decide) ?_
    exact h
theorem dX12_undo_0 : decode cX12_undo 0 = .ok (.aload_n 0, 1) := by decide +kernel
theorem dX12_undo_1 : decode cX12_undo 1 = .ok (.getfield 283, 3) := by decide +kernel
theorem dX12_undo_4 : decode cX12_undo 4 = .ok (.ifCond .ne 5, 3) := by decide +kernel
theorem dX12_undo_7 : decode cX12_undo 7 = .ok (.iconst 0, 1) := by decide +kernel
theorem dX12_undo_8 : decode cX12_undo 8 = .ok (.ireturn, 1) := by decide +kernel
theorem dX12_undo_9 : decode cX12_undo 9 = .ok (.aload_n 0, 1) := by decide +kernel
theorem dX12_undo_10 : decode cX12_undo 10 = .ok (.dup, 1) := by decide +kernel
theorem dX12_undo_11 : decode cX12_undo 11 = .ok (.getfield 283, 3) := by decide +kernel
theorem dX12_undo_14 : decode cX12_undo 14 = .ok (.iconst 1, 1) := by decide +kernel
theorem dX12_undo_15 : decode cX12_undo 15 = .ok (.isub, 1) := by decide +kernel
theorem dX12_undo_16 : decode cX12_undo 16 = .ok (.putfield 283, 3) := by decide +kernel
theorem dX12_undo_19 : decode cX12_undo 19 = .ok (.aload_n 0, 1) := by decide +kernel
theorem dX12_undo_20 : decode cX12_undo 20 = .ok (.aload_n 0, 1) := by decide +kernel
theorem dX12_undo_21 : decode cX12_undo 21 = .ok (.getfield 283, 3) := by decide +kernel
theorem dX12_undo_24 : decode cX12_undo 24 = .ok (.invokevirtual 460, 3) := by decide +kernel
theorem dX12_undo_27 : decode cX12_undo 27 = .ok (.iconst 1, 1) := by decide +kernel
theorem dX12_undo_28 : decode cX12_undo 28 = .ok (.ireturn, 1) := by decide +kernel
theorem b_X12_undo (mm : MM) (Q : Value → MM → Prop) (h : (¬ (mm.1 156 40) = 0 → (∃ Pm1 : Value → MM → Prop, Runs e_X12_putBack [.ref 156, .int ((wI mm 156 40 ((mm.1 156 40) - (1 : Int32))).1 156 40)] (wI mm 156 40 ((mm.1 156 40) - (1 : Int32))) Pm1 ∧ ∀ m1, Pm1 .null m1 → (Q (.int (1 : Int32)) m1))) ∧ ((mm.1 156 40) = 0 → (Q (.int (0 : Int32)) mm))) : Runs e_X12_undo [.ref 156] mm Q := by
  refine runs_of_G (L := [(0, .ref 156)]) pl_X12 (Nat.le_of_ble_eq_true rfl) rfl ?_
  refine g_aload_n (pc := 0) (x := 156) dX12_undo_0 rfl ?_
  refine g_getI (pc := 1) dX12_undo_1 fo_X12_283 sh_156 rfl ?_
  refine g_if_ne (pc := 4) (tgt := 9) dX12_undo_4 (by decide) (fun c4 => ?_) (fun c4 => ?_)
  · have h := h.1 c4
    refine g_aload_n (pc := 9) (x := 156) dX12_undo_9 rfl ?_
    refine g_dup (pc := 10) dX12_undo_10 rfl ?_
    refine g_getI (pc := 11) dX12_undo_11 fo_X12_283 sh_156 rfl ?_
    refine g_iconst (pc := 14) (v := (1 : Int32)) dX12_undo_14 (by decide) ?_
    refine g_isub (pc := 15) dX12_undo_15 ?_
    refine g_putI (pc := 16) dX12_undo_16 fo_X12_283 sh_156 rfl rfl rfl ?_
    refine g_aload_n (pc := 19) (x := 156) dX12_undo_19 rfl ?_
    refine g_aload_n (pc := 20) (x := 156) dX12_undo_20 rfl ?_
    refine g_getI (pc := 21) dX12_undo_21 fo_X12_283 sh_156 rfl ?_
    obtain ⟨Pm1, hRm1, h⟩ := h
    refine g_callV (pc := 24) (as := [.int ((wI mm 156 40 ((mm.1 156 40) - (1 : Int32))).1 156 40)]) dX12_undo_24 cw_X12_460 (by decide) rfl rfl sh_156 (Nat.le_of_ble_eq_true rfl) hRm1 ?_
    intro r_ m1 hz_ hp_
    obtain rfl := hz_
    have h := h m1 hp_
    refine g_iconst (pc := 27) (v := (1 : Int32)) dX12_undo_27 (by decide) ?_
    exact g_iret (pc := 28) dX12_undo_28 rfl rfl (nar_B isB1) h
  · have h := h.2 c4
    refine g_iconst (pc := 7) (v := (0 : Int32)) dX12_undo_7 (by decide) ?_
    exact g_iret (pc := 8) dX12_undo_8 rfl rfl (nar_B isB0) h
theorem dX12_brings_0 : decode cX12_brings 0 = .ok (.aload_n 0, 1) := by decide +kernel
theorem dX12_brings_1 : decode cX12_brings 1 = .ok (.bipush 20, 2) := by decide +kernel
theorem dX12_brings_3 : decode cX12_brings 3 = .ok (.invokevirtual 460, 3) := by decide +kernel
theorem dX12_brings_6 : decode cX12_brings 6 = .ok (.iconst 0, 1) := by decide +kernel
theorem dX12_brings_7 : decode cX12_brings 7 = .ok (.istore_n 2, 1) := by decide +kernel
theorem dX12_brings_8 : decode cX12_brings 8 = .ok (.iload_n 2, 1) := by decide +kernel
theorem dX12_brings_9 : decode cX12_brings 9 = .ok (.aload_n 0, 1) := by decide +kernel
theorem dX12_brings_10 : decode cX12_brings 10 = .ok (.getfield 463, 3) := by decide +kernel
theorem dX12_brings_13 : decode cX12_brings 13 = .ok (.if_icmp .ge 38, 3) := by decide +kernel
theorem dX12_brings_16 : decode cX12_brings 16 = .ok (.iload_n 1, 1) := by decide +kernel
theorem dX12_brings_17 : decode cX12_brings 17 = .ok (.iload_n 2, 1) := by decide +kernel
theorem dX12_brings_18 : decode cX12_brings 18 = .ok (.ishr, 1) := by decide +kernel
theorem dX12_brings_19 : decode cX12_brings 19 = .ok (.iconst 1, 1) := by decide +kernel
theorem dX12_brings_20 : decode cX12_brings 20 = .ok (.iand, 1) := by decide +kernel
theorem dX12_brings_21 : decode cX12_brings 21 = .ok (.iconst 1, 1) := by decide +kernel
theorem dX12_brings_22 : decode cX12_brings 22 = .ok (.if_icmp .ne 23, 3) := by decide +kernel
theorem dX12_brings_25 : decode cX12_brings 25 = .ok (.aload_n 0, 1) := by decide +kernel
theorem dX12_brings_26 : decode cX12_brings 26 = .ok (.getfield 33, 3) := by decide +kernel
theorem dX12_brings_29 : decode cX12_brings 29 = .ok (.bipush 10, 2) := by decide +kernel
theorem dX12_brings_31 : decode cX12_brings 31 = .ok (.aload_n 0, 1) := by decide +kernel
theorem dX12_brings_32 : decode cX12_brings 32 = .ok (.getfield 97, 3) := by decide +kernel
theorem dX12_brings_35 : decode cX12_brings 35 = .ok (.iload_n 2, 1) := by decide +kernel
theorem dX12_brings_36 : decode cX12_brings 36 = .ok (.iaload, 1) := by decide +kernel
theorem dX12_brings_37 : decode cX12_brings 37 = .ok (.iadd, 1) := by decide +kernel
theorem dX12_brings_38 : decode cX12_brings 38 = .ok (.aload_n 0, 1) := by decide +kernel
theorem dX12_brings_39 : decode cX12_brings 39 = .ok (.getfield 100, 3) := by decide +kernel
theorem dX12_brings_42 : decode cX12_brings 42 = .ok (.iload_n 2, 1) := by decide +kernel
theorem dX12_brings_43 : decode cX12_brings 43 = .ok (.iaload, 1) := by decide +kernel
theorem dX12_brings_44 : decode cX12_brings 44 = .ok (.iastore, 1) := by decide +kernel
theorem dX12_brings_45 : decode cX12_brings 45 = .ok (.iinc 2 1, 3) := by decide +kernel
theorem dX12_brings_48 : decode cX12_brings 48 = .ok (.goto (-40), 3) := by decide +kernel
theorem dX12_brings_51 : decode cX12_brings 51 = .ok (.return_, 1) := by decide +kernel
theorem b_X12_brings (mm : MM) (Q : Value → MM → Prop) (a1 : Int32) (h : ∃ Pm1 : Value → MM → Prop, Runs e_X12_putBack [.ref 156, .int (20 : Int32)] mm Pm1 ∧ ∀ m1, Pm1 .null m1 → (G e_X12_brings 8 [(0, .ref 156), (1, .int a1), (2, .int (0 : Int32))] [] m1 Q)) : Runs e_X12_brings [.ref 156, .int a1] mm Q := by
  refine runs_of_G (L := [(0, .ref 156), (1, .int a1)]) pl_X12 (Nat.le_of_ble_eq_true rfl) rfl ?_
  refine g_aload_n (pc := 0) (x := 156) dX12_brings_0 rfl ?_
  refine g_bipush (pc := 1) (v := (20 : Int32)) dX12_brings_1 (by decide) ?_
  obtain ⟨Pm1, hRm1, h⟩ := h
  refine g_callV (pc := 3) (as := [.int (20 : Int32)]) dX12_brings_3 cw_X12_460 (by decide) rfl rfl sh_156 (Nat.le_of_ble_eq_true rfl) hRm1 ?_
  intro r_ m1 hz_ hp_
  obtain rfl := hz_
  have h := h m1 hp_
  refine g_iconst (pc := 6) (v := (0 : Int32)) dX12_brings_6 (by decide) ?_
  refine g_istore_n (pc := 7) (L' := [(0, .ref 156), (1, .int a1), (2, .int (0 : Int32))]) dX12_brings_7 (Nat.le_of_ble_eq_true rfl) rfl ?_
  exact h
theorem b_X12_brings_8 (mm : MM) (Q : Value → MM → Prop) (l1 : Int32) (l2 : Int32) (h : ((mm.1 156 42) ≤ l2 → (Q .null mm)) ∧ (¬ (mm.1 156 42) ≤ l2 → ((¬ ((l1 >>> (l2 &&& 31)) &&& (1 : Int32)) = (1 : Int32) → (G e_X12_brings 8 [(0, .ref 156), (1, .int l1), (2, .int (l2 + (1 : Int32)))] [] mm Q)) ∧ (((l1 >>> (l2 &&& 31)) &&& (1 : Int32)) = (1 : Int32) → (vp_in l2 16 ∧ (vp_in l2 16 ∧ (vp_in ((10 : Int32) + (mm.1 184 l2.toNatClampNeg)) 1260 ∧ (G e_X12_brings 8 [(0, .ref 156), (1, .int l1), (2, .int (l2 + (1 : Int32)))] [] (wI mm 163 (((10 : Int32) + (mm.1 184 l2.toNatClampNeg)).toNatClampNeg) (mm.1 185 l2.toNatClampNeg)) Q)))))))) : G e_X12_brings 8 [(0, .ref 156), (1, .int l1), (2, .int l2)] [] mm Q := by
  refine g_iload_n (pc := 8) (x := l2) dX12_brings_8 rfl ?_
  refine g_aload_n (pc := 9) (x := 156) dX12_brings_9 rfl ?_
  refine g_getI (pc := 10) dX12_brings_10 fo_X12_463 sh_156 rfl ?_
  refine g_icmp_ge (pc := 13) (tgt := 51) dX12_brings_13 (by decide) (fun c13 => ?_) (fun c13 => ?_)
  · have h := h.1 c13
    exact g_vret (pc := 51) dX12_brings_51 rfl rfl h
  · have h := h.2 c13
    refine g_iload_n (pc := 16) (x := l1) dX12_brings_16 rfl ?_
    refine g_iload_n (pc := 17) (x := l2) dX12_brings_17 rfl ?_
    refine g_ishr (pc := 18) dX12_brings_18 ?_
    refine g_iconst (pc := 19) (v := (1 : Int32)) dX12_brings_19 (by decide) ?_
    refine g_iand (pc := 20) dX12_brings_20 ?_
    refine g_iconst (pc := 21) (v := (1 : Int32)) dX12_brings_21 (by decide) ?_
    refine g_icmp_ne (pc := 22) (tgt := 45) dX12_brings_22 (by decide) (fun c22 => ?_) (fun c22 => ?_)
    · have h := h.1 c22
      refine g_iinc (pc := 45) (x := l2) (v := (l2 + (1 : Int32))) (L' := [(0, .ref 156), (1, .int l1), (2, .int (l2 + (1 : Int32)))]) dX12_brings_45 rfl rfl (Nat.le_of_ble_eq_true rfl) rfl ?_
      refine g_goto (pc := 48) (tgt := 8) dX12_brings_48 (by decide) ?_
      exact h
    · have h := h.2 c22
      refine g_aload_n (pc := 25) (x := 156) dX12_brings_25 rfl ?_
      refine g_getR (pc := 26) (dd := 7) dX12_brings_26 fo_X12_33 sh_156 rfl ?_
      refine g_bipush (pc := 29) (v := (10 : Int32)) dX12_brings_29 (by decide) ?_
      refine g_aload_n (pc := 31) (x := 156) dX12_brings_31 rfl ?_
      refine g_getR (pc := 32) (dd := 28) dX12_brings_32 fo_X12_97 sh_156 rfl ?_
      refine g_iload_n (pc := 35) (x := l2) dX12_brings_35 rfl ?_
      refine g_iaload (pc := 36) dX12_brings_36 sh_184 h.1 ?_
      have h := h.2
      refine g_iadd (pc := 37) dX12_brings_37 ?_
      refine g_aload_n (pc := 38) (x := 156) dX12_brings_38 rfl ?_
      refine g_getR (pc := 39) (dd := 29) dX12_brings_39 fo_X12_100 sh_156 rfl ?_
      refine g_iload_n (pc := 42) (x := l2) dX12_brings_42 rfl ?_
      refine g_iaload (pc := 43) dX12_brings_43 sh_185 h.1 ?_
      have h := h.2
      refine g_iastore (pc := 44) dX12_brings_44 sh_163 h.1 ?_
      have h := h.2
      refine g_iinc (pc := 45) (x := l2) (v := (l2 + (1 : Int32))) (L' := [(0, .ref 156), (1, .int l1), (2, .int (l2 + (1 : Int32)))]) dX12_brings_45 rfl rfl (Nat.le_of_ble_eq_true rfl) rfl ?_
      refine g_goto (pc := 48) (tgt := 8) dX12_brings_48 (by decide) ?_
      exact h
theorem dX12_layNights_0 : decode cX12_layNights 0 = .ok (.aload_n 0, 1) := by decide +kernel
theorem dX12_layNights_1 : decode cX12_layNights 1 = .ok (.bipush 12, 2) := by decide +kernel
theorem dX12_layNights_3 : decode cX12_layNights 3 = .ok (.iconst (-1), 1) := by decide +kernel
theorem dX12_layNights_4 : decode cX12_layNights 4 = .ok (.iconst (-1), 1) := by decide +kernel
theorem dX12_layNights_5 : decode cX12_layNights 5 = .ok (.invokevirtual 405, 3) := by decide +kernel
theorem dX12_layNights_8 : decode cX12_layNights 8 = .ok (.istore_n 1, 1) := by decide +kernel
theorem dX12_layNights_9 : decode cX12_layNights 9 = .ok (.iconst 1, 1) := by decide +kernel
theorem dX12_layNights_10 : decode cX12_layNights 10 = .ok (.aload_n 0, 1) := by decide +kernel
theorem dX12_layNights_11 : decode cX12_layNights 11 = .ok (.getfield 463, 3) := by decide +kernel
theorem dX12_layNights_14 : decode cX12_layNights 14 = .ok (.ishl, 1) := by decide +kernel
theorem dX12_layNights_15 : decode cX12_layNights 15 = .ok (.istore_n 2, 1) := by decide +kernel
theorem dX12_layNights_16 : decode cX12_layNights 16 = .ok (.aload_n 0, 1) := by decide +kernel
theorem dX12_layNights_17 : decode cX12_layNights 17 = .ok (.bipush 20, 2) := by decide +kernel
theorem dX12_layNights_19 : decode cX12_layNights 19 = .ok (.invokevirtual 454, 3) := by decide +kernel
theorem dX12_layNights_22 : decode cX12_layNights 22 = .ok (.iconst 0, 1) := by decide +kernel
theorem dX12_layNights_23 : decode cX12_layNights 23 = .ok (.istore_n 3, 1) := by decide +kernel
theorem dX12_layNights_24 : decode cX12_layNights 24 = .ok (.iload_n 3, 1) := by decide +kernel
theorem dX12_layNights_25 : decode cX12_layNights 25 = .ok (.iload_n 2, 1) := by decide +kernel
theorem dX12_layNights_26 : decode cX12_layNights 26 = .ok (.if_icmp .ge 40, 3) := by decide +kernel
theorem dX12_layNights_29 : decode cX12_layNights 29 = .ok (.aload_n 0, 1) := by decide +kernel
theorem dX12_layNights_30 : decode cX12_layNights 30 = .ok (.iload_n 3, 1) := by decide +kernel
theorem dX12_layNights_31 : decode cX12_layNights 31 = .ok (.invokevirtual 466, 3) := by decide +kernel
theorem dX12_layNights_34 : decode cX12_layNights 34 = .ok (.aload_n 0, 1) := by decide +kernel
theorem dX12_layNights_35 : decode cX12_layNights 35 = .ok (.getfield 103, 3) := by decide +kernel
theorem dX12_layNights_38 : decode cX12_layNights 38 = .ok (.iload_n 3, 1) := by decide +kernel
theorem dX12_layNights_39 : decode cX12_layNights 39 = .ok (.iload_n 1, 1) := by decide +kernel
theorem dX12_layNights_40 : decode cX12_layNights 40 = .ok (.aload_n 0, 1) := by decide +kernel
theorem dX12_layNights_41 : decode cX12_layNights 41 = .ok (.bipush 12, 2) := by decide +kernel
theorem dX12_layNights_43 : decode cX12_layNights 43 = .ok (.iconst (-1), 1) := by decide +kernel
theorem dX12_layNights_44 : decode cX12_layNights 44 = .ok (.iconst (-1), 1) := by decide +kernel
theorem dX12_layNights_45 : decode cX12_layNights 45 = .ok (.invokevirtual 405, 3) := by decide +kernel
theorem dX12_layNights_48 : decode cX12_layNights 48 = .ok (.iconst (-1), 1) := by decide +kernel
theorem dX12_layNights_49 : decode cX12_layNights 49 = .ok (.ixor, 1) := by decide +kernel
theorem dX12_layNights_50 : decode cX12_layNights 50 = .ok (.iand, 1) := by decide +kernel
theorem dX12_layNights_51 : decode cX12_layNights 51 = .ok (.ifCond .ne 7, 3) := by decide +kernel
theorem dX12_layNights_54 : decode cX12_layNights 54 = .ok (.iconst 1, 1) := by decide +kernel
theorem dX12_layNights_55 : decode cX12_layNights 55 = .ok (.goto 4, 3) := by decide +kernel
theorem dX12_layNights_58 : decode cX12_layNights 58 = .ok (.iconst 0, 1) := by decide +kernel
theorem dX12_layNights_59 : decode cX12_layNights 59 = .ok (.bastore, 1) := by decide +kernel
theorem dX12_layNights_60 : decode cX12_layNights 60 = .ok (.iinc 3 1, 3) := by decide +kernel
theorem dX12_layNights_63 : decode cX12_layNights 63 = .ok (.goto (-39), 3) := by decide +kernel
theorem dX12_layNights_66 : decode cX12_layNights 66 = .ok (.aload_n 0, 1) := by decide +kernel
theorem dX12_layNights_67 : decode cX12_layNights 67 = .ok (.bipush 20, 2) := by decide +kernel
theorem dX12_layNights_69 : decode cX12_layNights 69 = .ok (.invokevirtual 460, 3) := by decide +kernel
theorem dX12_layNights_72 : decode cX12_layNights 72 = .ok (.iload_n 2, 1) := by decide +kernel
theorem dX12_layNights_73 : decode cX12_layNights 73 = .ok (.iconst 1, 1) := by decide +kernel
theorem dX12_layNights_74 : decode cX12_layNights 74 = .ok (.isub, 1) := by decide +kernel
theorem dX12_layNights_75 : decode cX12_layNights 75 = .ok (.istore_n 3, 1) := by decide +kernel
theorem dX12_layNights_76 : decode cX12_layNights 76 = .ok (.iload_n 3, 1) := by decide +kernel
theorem dX12_layNights_77 : decode cX12_layNights 77 = .ok (.ifCond .lt 107, 3) := by decide +kernel
theorem dX12_layNights_80 : decode cX12_layNights 80 = .ok (.aload_n 0, 1) := by decide +kernel
theorem dX12_layNights_81 : decode cX12_layNights 81 = .ok (.getfield 106, 3) := by decide +kernel
theorem dX12_layNights_84 : decode cX12_layNights 84 = .ok (.iload_n 3, 1) := by decide +kernel
theorem dX12_layNights_85 : decode cX12_layNights 85 = .ok (.iload_n 3, 1) := by decide +kernel
theorem dX12_layNights_86 : decode cX12_layNights 86 = .ok (.iload_n 2, 1) := by decide +kernel
theorem dX12_layNights_87 : decode cX12_layNights 87 = .ok (.iconst 1, 1) := by decide +kernel
theorem dX12_layNights_88 : decode cX12_layNights 88 = .ok (.isub, 1) := by decide +kernel
theorem dX12_layNights_89 : decode cX12_layNights 89 = .ok (.if_icmp .ne 7, 3) := by decide +kernel
theorem dX12_layNights_92 : decode cX12_layNights 92 = .ok (.iconst 0, 1) := by decide +kernel
theorem dX12_layNights_93 : decode cX12_layNights 93 = .ok (.goto 6, 3) := by decide +kernel
theorem dX12_layNights_96 : decode cX12_layNights 96 = .ok (.ldc_w 441, 3) := by decide +kernel
theorem dX12_layNights_99 : decode cX12_layNights 99 = .ok (.iastore, 1) := by decide +kernel
theorem dX12_layNights_100 : decode cX12_layNights 100 = .ok (.iconst 1, 1) := by decide +kernel
theorem dX12_layNights_101 : decode cX12_layNights 101 = .ok (.istore 4, 2) := by decide +kernel
theorem dX12_layNights_103 : decode cX12_layNights 103 = .ok (.iload 4, 2) := by decide +kernel
theorem dX12_layNights_105 : decode cX12_layNights 105 = .ok (.iload_n 2, 1) := by decide +kernel
theorem dX12_layNights_106 : decode cX12_layNights 106 = .ok (.if_icmp .ge 72, 3) := by decide +kernel
theorem dX12_layNights_109 : decode cX12_layNights 109 = .ok (.iload 4, 2) := by decide +kernel
theorem dX12_layNights_111 : decode cX12_layNights 111 = .ok (.iload_n 3, 1) := by decide +kernel
theorem dX12_layNights_112 : decode cX12_layNights 112 = .ok (.iand, 1) := by decide +kernel
theorem dX12_layNights_113 : decode cX12_layNights 113 = .ok (.ifCond .ne 59, 3) := by decide +kernel
theorem dX12_layNights_116 : decode cX12_layNights 116 = .ok (.iload 4, 2) := by decide +kernel
theorem dX12_layNights_118 : decode cX12_layNights 118 = .ok (.invokestatic 408, 3) := by decide +kernel
theorem dX12_layNights_121 : decode cX12_layNights 121 = .ok (.aload_n 0, 1) := by decide +kernel
theorem dX12_layNights_122 : decode cX12_layNights 122 = .ok (.getfield 30, 3) := by decide +kernel
theorem dX12_layNights_125 : decode cX12_layNights 125 = .ok (.bipush 6, 2) := by decide +kernel
theorem dX12_layNights_127 : decode cX12_layNights 127 = .ok (.iaload, 1) := by decide +kernel
theorem dX12_layNights_128 : decode cX12_layNights 128 = .ok (.if_icmp .gt 44, 3) := by decide +kernel
theorem dX12_layNights_131 : decode cX12_layNights 131 = .ok (.aload_n 0, 1) := by decide +kernel
theorem dX12_layNights_132 : decode cX12_layNights 132 = .ok (.getfield 103, 3) := by decide +kernel
theorem dX12_layNights_135 : decode cX12_layNights 135 = .ok (.iload_n 3, 1) := by decide +kernel
theorem dX12_layNights_136 : decode cX12_layNights 136 = .ok (.iload 4, 2) := by decide +kernel
theorem dX12_layNights_138 : decode cX12_layNights 138 = .ok (.ior, 1) := by decide +kernel
theorem dX12_layNights_139 : decode cX12_layNights 139 = .ok (.baload, 1) := by decide +kernel
theorem dX12_layNights_140 : decode cX12_layNights 140 = .ok (.ifCond .ne 6, 3) := by decide +kernel
theorem dX12_layNights_143 : decode cX12_layNights 143 = .ok (.goto 29, 3) := by decide +kernel
theorem dX12_layNights_146 : decode cX12_layNights 146 = .ok (.aload_n 0, 1) := by decide +kernel
theorem dX12_layNights_147 : decode cX12_layNights 147 = .ok (.getfield 106, 3) := by decide +kernel
theorem dX12_layNights_150 : decode cX12_layNights 150 = .ok (.iload_n 3, 1) := by decide +kernel
theorem dX12_layNights_151 : decode cX12_layNights 151 = .ok (.aload_n 0, 1) := by decide +kernel
theorem dX12_layNights_152 : decode cX12_layNights 152 = .ok (.getfield 106, 3) := by decide +kernel
theorem dX12_layNights_155 : decode cX12_layNights 155 = .ok (.iload_n 3, 1) := by decide +kernel
theorem dX12_layNights_156 : decode cX12_layNights 156 = .ok (.iaload, 1) := by decide +kernel
theorem dX12_layNights_157 : decode cX12_layNights 157 = .ok (.aload_n 0, 1) := by decide +kernel
theorem dX12_layNights_158 : decode cX12_layNights 158 = .ok (.getfield 106, 3) := by decide +kernel
theorem dX12_layNights_161 : decode cX12_layNights 161 = .ok (.iload_n 3, 1) := by decide +kernel
theorem dX12_layNights_162 : decode cX12_layNights 162 = .ok (.iload 4, 2) := by decide +kernel
theorem dX12_layNights_164 : decode cX12_layNights 164 = .ok (.ior, 1) := by decide +kernel
theorem dX12_layNights_165 : decode cX12_layNights 165 = .ok (.iaload, 1) := by decide +kernel
theorem dX12_layNights_166 : decode cX12_layNights 166 = .ok (.iconst 1, 1) := by decide +kernel
theorem dX12_layNights_167 : decode cX12_layNights 167 = .ok (.iadd, 1) := by decide +kernel
theorem dX12_layNights_168 : decode cX12_layNights 168 = .ok (.invokestatic 442, 3) := by decide +kernel
theorem dX12_layNights_171 : decode cX12_layNights 171 = .ok (.iastore, 1) := by decide +kernel
theorem dX12_layNights_172 : decode cX12_layNights 172 = .ok (.iinc 4 1, 3) := by decide +kernel
theorem dX12_layNights_175 : decode cX12_layNights 175 = .ok (.goto (-72), 3) := by decide +kernel
theorem dX12_layNights_178 : decode cX12_layNights 178 = .ok (.iinc 3 (-1), 3) := by decide +kernel
theorem dX12_layNights_181 : decode cX12_layNights 181 = .ok (.goto (-105), 3) := by decide +kernel
theorem dX12_layNights_184 : decode cX12_layNights 184 = .ok (.return_, 1) := by decide +kernel
theorem b_X12_layNights (mm : MM) (Q : Value → MM → Prop) (h : ∃ Pm1 : Value → MM → Prop, Runs e_X12_reachedAt [.ref 156, .int (12 : Int32), .int (-1 : Int32), .int (-1 : Int32)] mm Pm1 ∧ ∀ (r1 : Int32) (m1 : MM), Pm1 (.int r1) m1 → (∃ Pm2 : Value → MM → Prop, Runs e_X12_keep [.ref 156, .int (20 : Int32)] m1 Pm2 ∧ ∀ m2, Pm2 .null m2 → (G e_X12_layNights 24 [(0, .ref 156), (1, .int r1), (2, .int ((1 : Int32) <<< ((m1.1 156 42) &&& 31))), (3, .int (0 : Int32))] [] m2 Q))) : Runs e_X12_layNights [.ref 156] mm Q := by
  refine runs_of_G (L := [(0, .ref 156)]) pl_X12 (Nat.le_of_ble_eq_true rfl) rfl ?_
  refine g_aload_n (pc := 0) (x := 156) dX12_layNights_0 rfl ?_
  refine g_bipush (pc := 1) (v := (12 : Int32)) dX12_layNights_1 (by decide) ?_
  refine g_iconst (pc := 3) (v := (-1 : Int32)) dX12_layNights_3 (by decide) ?_
  refine g_iconst (pc := 4) (v := (-1 : Int32)) dX12_layNights_4 (by decide) ?_
  obtain ⟨Pm1, hRm1, h⟩ := h
  refine g_callV (pc := 5) (as := [.int (12 : Int32), .int (-1 : Int32), .int (-1 : Int32)]) dX12_layNights_5 cw_X12_405 (by decide) rfl rfl sh_156 (Nat.le_of_ble_eq_true rfl) hRm1 ?_
  intro r_ m1 hz_ hp_
  obtain ⟨r1, rfl⟩ := hz_
  have h := h r1 m1 hp_
  refine g_istore_n (pc := 8) (L' := [(0, .ref 156), (1, .int r1)]) dX12_layNights_8 (Nat.le_of_ble_eq_true rfl) rfl ?_
  refine g_iconst (pc := 9) (v := (1 : Int32)) dX12_layNights_9 (by decide) ?_
  refine g_aload_n (pc := 10) (x := 156) dX12_layNights_10 rfl ?_
  refine g_getI (pc := 11) dX12_layNights_11 fo_X12_463 sh_156 rfl ?_
  refine g_ishl (pc := 14) dX12_layNights_14 ?_
  refine g_istore_n (pc := 15) (L' := [(0, .ref 156), (1, .int r1), (2, .int ((1 : Int32) <<< ((m1.1 156 42) &&& 31)))]) dX12_layNights_15 (Nat.le_of_ble_eq_true rfl) rfl ?_
  refine g_aload_n (pc := 16) (x := 156) dX12_layNights_16 rfl ?_
  refine g_bipush (pc := 17) (v := (20 : Int32)) dX12_layNights_17 (by decide) ?_
  obtain ⟨Pm2, hRm2, h⟩ := h
  refine g_callV (pc := 19) (as := [.int (20 : Int32)]) dX12_layNights_19 cw_X12_454 (by decide) rfl rfl sh_156 (Nat.le_of_ble_eq_true rfl) hRm2 ?_
  intro r_ m2 hz_ hp_
  obtain rfl := hz_
  have h := h m2 hp_
  refine g_iconst (pc := 22) (v := (0 : Int32)) dX12_layNights_22 (by decide) ?_
  refine g_istore_n (pc := 23) (L' := [(0, .ref 156), (1, .int r1), (2, .int ((1 : Int32) <<< ((m1.1 156 42) &&& 31))), (3, .int (0 : Int32))]) dX12_layNights_23 (Nat.le_of_ble_eq_true rfl) rfl ?_
  exact h
theorem b_X12_layNights_24 (mm : MM) (Q : Value → MM → Prop) (l1 : Int32) (l2 : Int32) (l3 : Int32) (h : (l2 ≤ l3 → (∃ Pm1 : Value → MM → Prop, Runs e_X12_putBack [.ref 156, .int (20 : Int32)] mm Pm1 ∧ ∀ m1, Pm1 .null m1 → (G e_X12_layNights 76 [(0, .ref 156), (2, .int l2), (3, .int (l2 - (1 : Int32)))] [] m1 Q))) ∧ (¬ l2 ≤ l3 → (∃ Pm1 : Value → MM → Prop, Runs e_X12_brings [.ref 156, .int l3] mm Pm1 ∧ ∀ m1, Pm1 .null m1 → (∃ Pm2 : Value → MM → Prop, Runs e_X12_reachedAt [.ref 156, .int (12 : Int32), .int (-1 : Int32), .int (-1 : Int32)] m1 Pm2 ∧ ∀ (r2 : Int32) (m2 : MM), Pm2 (.int r2) m2 → ((¬ (l1 &&& (r2 ^^^ (-1 : Int32))) = 0 → (vp_in l3 256 ∧ (G e_X12_layNights 24 [(0, .ref 156), (1, .int l1), (2, .int l2), (3, .int (l3 + (1 : Int32)))] [] (wI m2 186 (l3.toNatClampNeg) (vp_nar .boolean (0 : Int32))) Q))) ∧ ((l1 &&& (r2 ^^^ (-1 : Int32))) = 0 → (vp_in l3 256 ∧ (G e_X12_layNights 24 [(0, .ref 156), (1, .int l1), (2, .int l2), (3, .int (l3 + (1 : Int32)))] [] (wI m2 186 (l3.toNatClampNeg) (vp_nar .boolean (1 : Int32))) Q)))))))) : G e_X12_layNights 24 [(0, .ref 156), (1, .int l1), (2, .int l2), (3, .int l3)] [] mm Q := by
  refine g_iload_n (pc := 24) (x := l3) dX12_layNights_24 rfl ?_
  refine g_iload_n (pc := 25) (x := l2) dX12_layNights_25 rfl ?_
  refine g_icmp_ge (pc := 26) (tgt := 66) dX12_layNights_26 (by decide) (fun c26 => ?_) (fun c26 => ?_)
  · have h := h.1 c26
    refine g_aload_n (pc := 66) (x := 156) dX12_layNights_66 rfl ?_
    refine g_bipush (pc := 67) (v := (20 : Int32)) dX12_layNights_67 (by decide) ?_
    obtain ⟨Pm1, hRm1, h⟩ := h
    refine g_callV (pc := 69) (as := [.int (20 : Int32)]) dX12_layNights_69 cw_X12_460 (by decide) rfl rfl sh_156 (Nat.le_of_ble_eq_true rfl) hRm1 ?_
    intro r_ m1 hz_ hp_
    obtain rfl := hz_
    have h := h m1 hp_
    refine g_iload_n (pc := 72) (x := l2) dX12_layNights_72 rfl ?_
    refine g_iconst (pc := 73) (v := (1 : Int32)) dX12_layNights_73 (by decide) ?_
    refine g_isub (pc := 74) dX12_layNights_74 ?_
    refine g_istore_n (pc := 75) (L' := [(0, .ref 156), (1, .int l1), (2, .int l2), (3, .int (l2 - (1 : Int32)))]) dX12_layNights_75 (Nat.le_of_ble_eq_true rfl) rfl ?_
    refine g_sub (L' := [(0, .ref 156), (2, .int l2), (3, .int (l2 - (1 : Int32)))]) [0, 2, 3] rfl ?_
    exact h
  · have h := h.2 c26
    refine g_aload_n (pc := 29) (x := 156) dX12_layNights_29 rfl ?_
    refine g_iload_n (pc := 30) (x := l3) dX12_layNights_30 rfl ?_
    obtain ⟨Pm1, hRm1, h⟩ := h
    refine g_callV (pc := 31) (as := [.int l3]) dX12_layNights_31 cw_X12_466 (by decide) rfl rfl sh_156 (Nat.le_of_ble_eq_true rfl) hRm1 ?_
    intro r_ m1 hz_ hp_
    obtain rfl := hz_
    have h := h m1 hp_
    refine g_aload_n (pc := 34) (x := 156) dX12_layNights_34 rfl ?_
    refine g_getR (pc := 35) (dd := 30) dX12_layNights_35 fo_X12_103 sh_156 rfl ?_
    refine g_iload_n (pc := 38) (x := l3) dX12_layNights_38 rfl ?_
    refine g_iload_n (pc := 39) (x := l1) dX12_layNights_39 rfl ?_
    refine g_aload_n (pc := 40) (x := 156) dX12_layNights_40 rfl ?_
    refine g_bipush (pc := 41) (v := (12 : Int32)) dX12_layNights_41 (by decide) ?_
    refine g_iconst (pc := 43) (v := (-1 : Int32)) dX12_layNights_43 (by decide) ?_
    refine g_iconst (pc := 44) (v := (-1 : Int32)) dX12_layNights_44 (by decide) ?_
    obtain ⟨Pm2, hRm2, h⟩ := h
    refine g_callV (pc := 45) (as := [.int (12 : Int32), .int (-1 : Int32), .int (-1 : Int32)]) dX12_layNights_45 cw_X12_405 (by decide) rfl rfl sh_156 (Nat.le_of_ble_eq_true rfl) hRm2 ?_
    intro r_ m2 hz_ hp_
    obtain ⟨r2, rfl⟩ := hz_
    have h := h r2 m2 hp_
    refine g_iconst (pc := 48) (v := (-1 : Int32)) dX12_layNights_48 (by decide) ?_
    refine g_ixor (pc := 49) dX12_layNights_49 ?_
    refine g_iand (pc := 50) dX12_layNights_50 ?_
    refine g_if_ne (pc := 51) (tgt := 58) dX12_layNights_51 (by decide) (fun c51 => ?_) (fun c51 => ?_)
    · have h := h.1 c51
      refine g_iconst (pc := 58) (v := (0 : Int32)) dX12_layNights_58 (by decide) ?_
      refine g_zastore (pc := 59) dX12_layNights_59 sh_186 h.1 ?_
      have h := h.2
      refine g_iinc (pc := 60) (x := l3) (v := (l3 + (1 : Int32))) (L' := [(0, .ref 156), (1, .int l1), (2, .int l2), (3, .int (l3 + (1 : Int32)))]) dX12_layNights_60 rfl rfl (Nat.le_of_ble_eq_true rfl) rfl ?_
      refine g_goto (pc := 63) (tgt := 24) dX12_layNights_63 (by decide) ?_
      exact h
    · have h := h.2 c51
      refine g_iconst (pc := 54) (v := (1 : Int32)) dX12_layNights_54 (by decide) ?_
      refine g_goto (pc := 55) (tgt := 59) dX12_layNights_55 (by decide) ?_
      refine g_zastore (pc := 59) dX12_layNights_59 sh_186 h.1 ?_
      have h := h.2
      refine g_iinc (pc := 60) (x := l3) (v := (l3 + (1 : Int32))) (L' := [(0, .ref 156), (1, .int l1), (2, .int l2), (3, .int (l3 + (1 : Int32)))]) dX12_layNights_60 rfl rfl (Nat.le_of_ble_eq_true rfl) rfl ?_
      refine g_goto (pc := 63) (tgt := 24) dX12_layNights_63 (by decide) ?_
      exact h
theorem b_X12_layNights_76 (mm : MM) (Q : Value → MM → Prop) (l2 : Int32) (l3 : Int32) (h : (l3 < 0 → (Q .null mm)) ∧ (¬ l3 < 0 → ((¬ l3 = (l2 - (1 : Int32)) → (vp_in l3 256 ∧ (G e_X12_layNights 103 [(0, .ref 156), (2, .int l2), (3, .int l3), (4, .int (1 : Int32))] [] (wI mm 187 (l3.toNatClampNeg) (1000000 : Int32)) Q))) ∧ (l3 = (l2 - (1 : Int32)) → (vp_in l3 256 ∧ (G e_X12_layNights 103 [(0, .ref 156), (2, .int l2), (3, .int l3), (4, .int (1 : Int32))] [] (wI mm 187 (l3.toNatClampNeg) (0 : Int32)) Q)))))) : G e_X12_layNights 76 [(0, .ref 156), (2, .int l2), (3, .int l3)] [] mm Q := by
  refine g_iload_n (pc := 76) (x := l3) dX12_layNights_76 rfl ?_
  refine g_if_lt (pc := 77) (tgt := 184) dX12_layNights_77 (by decide) (fun c77 => ?_) (fun c77 => ?_)
  · have h := h.1 c77
    exact g_vret (pc := 184) dX12_layNights_184 rfl rfl h
  · have h := h.2 c77
    refine g_aload_n (pc := 80) (x := 156) dX12_layNights_80 rfl ?_
    refine g_getR (pc := 81) (dd := 31) dX12_layNights_81 fo_X12_106 sh_156 rfl ?_
    refine g_iload_n (pc := 84) (x := l3) dX12_layNights_84 rfl ?_
    refine g_iload_n (pc := 85) (x := l3) dX12_layNights_85 rfl ?_
    refine g_iload_n (pc := 86) (x := l2) dX12_layNights_86 rfl ?_
    refine g_iconst (pc := 87) (v := (1 : Int32)) dX12_layNights_87 (by decide) ?_
    refine g_isub (pc := 88) dX12_layNights_88 ?_
    refine g_icmp_ne (pc := 89) (tgt := 96) dX12_layNights_89 (by decide) (fun c89 => ?_) (fun c89 => ?_)
    · have h := h.1 c89
      refine g_ldcw (pc := 96) (v := (1000000 : Int32)) dX12_layNights_96 ct_X12_441 ?_
      refine g_iastore (pc := 99) dX12_layNights_99 sh_187 h.1 ?_
      have h := h.2
      refine g_iconst (pc := 100) (v := (1 : Int32)) dX12_layNights_100 (by decide) ?_
      refine g_istore (pc := 101) (L' := [(0, .ref 156), (2, .int l2), (3, .int l3), (4, .int (1 : Int32))]) dX12_layNights_101 (Nat.le_of_ble_eq_true rfl) rfl ?_
      exact h
    · have h := h.2 c89
      refine g_iconst (pc := 92) (v := (0 : Int32)) dX12_layNights_92 (by decide) ?_
      refine g_goto (pc := 93) (tgt := 99) dX12_layNights_93 (by decide) ?_
      refine g_iastore (pc := 99) dX12_layNights_99 sh_187 h.1 ?_
      have h := h.2
      refine g_iconst (pc := 100) (v := (1 : Int32)) dX12_layNights_100 (by decide) ?_
      refine g_istore (pc := 101) (L' := [(0, .ref 156), (2, .int l2), (3, .int l3), (4, .int (1 : Int32))]) dX12_layNights_101 (Nat.le_of_ble_eq_true rfl) rfl ?_
      exact h
theorem b_X12_layNights_103 (mm : MM) (Q : Value → MM → Prop) (l2 : Int32) (l3 : Int32) (l4 : Int32) (h : (l2 ≤ l4 → (G e_X12_layNights 76 [(0, .ref 156), (2, .int l2), (3, .int (l3 + (-1 : Int32)))] [] mm Q)) ∧ (¬ l2 ≤ l4 → ((¬ (l4 &&& l3) = 0 → (G e_X12_layNights 103 [(0, .ref 156), (2, .int l2), (3, .int l3), (4, .int (l4 + (1 : Int32)))] [] mm Q)) ∧ ((l4 &&& l3) = 0 → (∃ Pm1 : Value → MM → Prop, Runs e_X12_bitsOf [.int l4] mm Pm1 ∧ ∀ (r1 : Int32) (m1 : MM), Pm1 (.int r1) m1 → (((m1.1 162 6) < r1 → (G e_X12_layNights 103 [(0, .ref 156), (2, .int l2), (3, .int l3), (4, .int (l4 + (1 : Int32)))] [] m1 Q)) ∧ (¬ (m1.1 162 6) < r1 → (vp_in (l3 ||| l4) 256 ∧ ((¬ (m1.1 186 (l3 ||| l4).toNatClampNeg) = 0 → (vp_in l3 256 ∧ (vp_in (l3 ||| l4) 256 ∧ (vp_in l3 256 ∧ (G e_X12_layNights 103 [(0, .ref 156), (2, .int l2), (3, .int l3), (4, .int (l4 + (1 : Int32)))] [] (wI m1 187 (l3.toNatClampNeg) (v_X12_least m1 (m1.1 187 l3.toNatClampNeg) ((m1.1 187 (l3 ||| l4).toNatClampNeg) + (1 : Int32)))) Q))))) ∧ ((m1.1 186 (l3 ||| l4).toNatClampNeg) = 0 → (G e_X12_layNights 103 [(0, .ref 156), (2, .int l2), (3, .int l3), (4, .int (l4 + (1 : Int32)))] [] m1 Q))))))))))) : G e_X12_layNights 103 [(0, .ref 156), (2, .int l2), (3, .int l3), (4, .int l4)] [] mm Q := by
  refine g_iload (pc := 103) (x := l4) dX12_layNights_103 rfl ?_
  refine g_iload_n (pc := 105) (x := l2) dX12_layNights_105 rfl ?_
  refine g_icmp_ge (pc := 106) (tgt := 178) dX12_layNights_106 (by decide) (fun c106 => ?_) (fun c106 => ?_)
  · have h := h.1 c106
    refine g_iinc (pc := 178) (x := l3) (v := (l3 + (-1 : Int32))) (L' := [(0, .ref 156), (2, .int l2), (3, .int (l3 + (-1 : Int32))), (4, .int l4)]) dX12_layNights_178 rfl rfl (Nat.le_of_ble_eq_true rfl) rfl ?_
    refine g_goto (pc := 181) (tgt := 76) dX12_layNights_181 (by decide) ?_
    refine g_sub (L' := [(0, .ref 156), (2, .int l2), (3, .int (l3 + (-1 : Int32)))]) [0, 1, 2] rfl ?_
    exact h
  · have h := h.2 c106
    refine g_iload (pc := 109) (x := l4) dX12_layNights_109 rfl ?_
    refine g_iload_n (pc := 111) (x := l3) dX12_layNights_111 rfl ?_
    refine g_iand (pc := 112) dX12_layNights_112 ?_
    refine g_if_ne (pc := 113) (tgt := 172) dX12_layNights_113 (by decide) (fun c113 => ?_) (fun c113 => ?_)
    · have h := h.1 c113
      refine g_iinc (pc := 172) (x := l4) (v := (l4 + (1 : Int32))) (L' := [(0, .ref 156), (2, .int l2), (3, .int l3), (4, .int (l4 + (1 : Int32)))]) dX12_layNights_172 rfl rfl (Nat.le_of_ble_eq_true rfl) rfl ?_
      refine g_goto (pc := 175) (tgt := 103) dX12_layNights_175 (by decide) ?_
      exact h
    · have h := h.2 c113
      refine g_iload (pc := 116) (x := l4) dX12_layNights_116 rfl ?_
      obtain ⟨Pm1, hRm1, h⟩ := h
      refine g_callS (pc := 118) (as := [.int l4]) dX12_layNights_118 cw_X12_408 (by decide) rfl rfl (Nat.le_of_ble_eq_true rfl) hRm1 ?_
      intro r_ m1 hz_ hp_
      obtain ⟨r1, rfl⟩ := hz_
      have h := h r1 m1 hp_
      refine g_aload_n (pc := 121) (x := 156) dX12_layNights_121 rfl ?_
      refine g_getR (pc := 122) (dd := 6) dX12_layNights_122 fo_X12_30 sh_156 rfl ?_
      refine g_bipush (pc := 125) (v := (6 : Int32)) dX12_layNights_125 (by decide) ?_
      refine g_iaload (pc := 127) dX12_layNights_127 sh_162 (vp_in_nI (n := 6) (N := 420) (by decide) (by decide)) ?_
      refine g_icmp_gt (pc := 128) (tgt := 172) dX12_layNights_128 (by decide) (fun c128 => ?_) (fun c128 => ?_)
      · have h := h.1 c128
        refine g_iinc (pc := 172) (x := l4) (v := (l4 + (1 : Int32))) (L' := [(0, .ref 156), (2, .int l2), (3, .int l3), (4, .int (l4 + (1 : Int32)))]) dX12_layNights_172 rfl rfl (Nat.le_of_ble_eq_true rfl) rfl ?_
        refine g_goto (pc := 175) (tgt := 103) dX12_layNights_175 (by decide) ?_
        exact h
      · have h := h.2 c128
        refine g_aload_n (pc := 131) (x := 156) dX12_layNights_131 rfl ?_
        refine g_getR (pc := 132) (dd := 30) dX12_layNights_132 fo_X12_103 sh_156 rfl ?_
        refine g_iload_n (pc := 135) (x := l3) dX12_layNights_135 rfl ?_
        refine g_iload (pc := 136) (x := l4) dX12_layNights_136 rfl ?_
        refine g_ior (pc := 138) dX12_layNights_138 ?_
        refine g_zaload (pc := 139) dX12_layNights_139 sh_186 h.1 ?_
        have h := h.2
        refine g_if_ne (pc := 140) (tgt := 146) dX12_layNights_140 (by decide) (fun c140 => ?_) (fun c140 => ?_)
        · have h := h.1 c140
          refine g_aload_n (pc := 146) (x := 156) dX12_layNights_146 rfl ?_
          refine g_getR (pc := 147) (dd := 31) dX12_layNights_147 fo_X12_106 sh_156 rfl ?_
          refine g_iload_n (pc := 150) (x := l3) dX12_layNights_150 rfl ?_
          refine g_aload_n (pc := 151) (x := 156) dX12_layNights_151 rfl ?_
          refine g_getR (pc := 152) (dd := 31) dX12_layNights_152 fo_X12_106 sh_156 rfl ?_
          refine g_iload_n (pc := 155) (x := l3) dX12_layNights_155 rfl ?_
          refine g_iaload (pc := 156) dX12_layNights_156 sh_187 h.1 ?_
          have h := h.2
          refine g_aload_n (pc := 157) (x := 156) dX12_layNights_157 rfl ?_
          refine g_getR (pc := 158) (dd := 31) dX12_layNights_158 fo_X12_106 sh_156 rfl ?_
          refine g_iload_n (pc := 161) (x := l3) dX12_layNights_161 rfl ?_
          refine g_iload (pc := 162) (x := l4) dX12_layNights_162 rfl ?_
          refine g_ior (pc := 164) dX12_layNights_164 ?_
          refine g_iaload (pc := 165) dX12_layNights_165 sh_187 h.1 ?_
          have h := h.2
          refine g_iconst (pc := 166) (v := (1 : Int32)) dX12_layNights_166 (by decide) ?_
          refine g_iadd (pc := 167) dX12_layNights_167 ?_
          refine g_callS (pc := 168) (as := [.int (m1.1 187 l3.toNatClampNeg), .int ((m1.1 187 (l3 ||| l4).toNatClampNeg) + (1 : Int32))]) dX12_layNights_168 cw_X12_442 (by decide) rfl rfl (Nat.le_of_ble_eq_true rfl) (rv_X12_least m1 (m1.1 187 l3.toNatClampNeg) ((m1.1 187 (l3 ||| l4).toNatClampNeg) + (1 : Int32))) ?_
          rintro r_ m_ hz_ ⟨rfl, rfl⟩
          refine g_iastore (pc := 171) dX12_layNights_171 sh_187 h.1 ?_
          have h := h.2
          refine g_iinc (pc := 172) (x := l4) (v := (l4 + (1 : Int32))) (L' := [(0, .ref 156), (2, .int l2), (3, .int l3), (4, .int (l4 + (1 : Int32)))]) dX12_layNights_172 rfl rfl (Nat.le_of_ble_eq_true rfl) rfl ?_
          refine g_goto (pc := 175) (tgt := 103) dX12_layNights_175 (by decide) ?_
          exact h
        · have h := h.2 c140
          refine g_goto (pc := 143) (tgt := 172) dX12_layNights_143 (by decide) ?_
          refine g_iinc (pc := 172) (x := l4) (v := (l4 + (1 : Int32))) (L' := [(0, .ref 156), (2, .int l2), (3, .int l3), (4, .int (l4 + (1 : Int32)))]) dX12_layNights_172 rfl rfl (Nat.le_of_ble_eq_true rfl) rfl ?_
          refine g_goto (pc := 175) (tgt := 103) dX12_layNights_175 (by decide) ?_
          exact h
theorem dX12_firstNight_0 : decode cX12_firstNight 0 = .ok (.iconst 0, 1) := by decide +kernel
theorem dX12_firstNight_1 : decode cX12_firstNight 1 = .ok (.istore_n 1, 1) := by decide +kernel
theorem dX12_firstNight_2 : decode cX12_firstNight 2 = .ok (.iconst 1, 1) := by decide +kernel
theorem dX12_firstNight_3 : decode cX12_firstNight 3 = .ok (.istore_n 2, 1) := by decide +kernel
theorem dX12_firstNight_4 : decode cX12_firstNight 4 = .ok (.iload_n 2, 1) := by decide +kernel
theorem dX12_firstNight_5 : decode cX12_firstNight 5 = .ok (.iconst 1, 1) := by decide +kernel
theorem dX12_firstNight_6 : decode cX12_firstNight 6 = .ok (.aload_n 0, 1) := by decide +kernel
theorem dX12_firstNight_7 : decode cX12_firstNight 7 = .ok (.getfield 463, 3) := by decide +kernel
theorem dX12_firstNight_10 : decode cX12_firstNight 10 = .ok (.ishl, 1) := by decide +kernel
theorem dX12_firstNight_11 : decode cX12_firstNight 11 = .ok (.if_icmp .ge 69, 3) := by decide +kernel
theorem dX12_firstNight_14 : decode cX12_firstNight 14 = .ok (.iload_n 2, 1) := by decide +kernel
theorem dX12_firstNight_15 : decode cX12_firstNight 15 = .ok (.invokestatic 408, 3) := by decide +kernel
theorem dX12_firstNight_18 : decode cX12_firstNight 18 = .ok (.aload_n 0, 1) := by decide +kernel
theorem dX12_firstNight_19 : decode cX12_firstNight 19 = .ok (.getfield 30, 3) := by decide +kernel
theorem dX12_firstNight_22 : decode cX12_firstNight 22 = .ok (.bipush 6, 2) := by decide +kernel
theorem dX12_firstNight_24 : decode cX12_firstNight 24 = .ok (.iaload, 1) := by decide +kernel
theorem dX12_firstNight_25 : decode cX12_firstNight 25 = .ok (.if_icmp .gt 49, 3) := by decide +kernel
theorem dX12_firstNight_28 : decode cX12_firstNight 28 = .ok (.aload_n 0, 1) := by decide +kernel
theorem dX12_firstNight_29 : decode cX12_firstNight 29 = .ok (.getfield 103, 3) := by decide +kernel
theorem dX12_firstNight_32 : decode cX12_firstNight 32 = .ok (.iload_n 2, 1) := by decide +kernel
theorem dX12_firstNight_33 : decode cX12_firstNight 33 = .ok (.baload, 1) := by decide +kernel
theorem dX12_firstNight_34 : decode cX12_firstNight 34 = .ok (.ifCond .eq 40, 3) := by decide +kernel
theorem dX12_firstNight_37 : decode cX12_firstNight 37 = .ok (.aload_n 0, 1) := by decide +kernel
theorem dX12_firstNight_38 : decode cX12_firstNight 38 = .ok (.getfield 106, 3) := by decide +kernel
theorem dX12_firstNight_41 : decode cX12_firstNight 41 = .ok (.iload_n 2, 1) := by decide +kernel
theorem dX12_firstNight_42 : decode cX12_firstNight 42 = .ok (.iaload, 1) := by decide +kernel
theorem dX12_firstNight_43 : decode cX12_firstNight 43 = .ok (.iconst 1, 1) := by decide +kernel
theorem dX12_firstNight_44 : decode cX12_firstNight 44 = .ok (.iadd, 1) := by decide +kernel
theorem dX12_firstNight_45 : decode cX12_firstNight 45 = .ok (.aload_n 0, 1) := by decide +kernel
theorem dX12_firstNight_46 : decode cX12_firstNight 46 = .ok (.getfield 106, 3) := by decide +kernel
theorem dX12_firstNight_49 : decode cX12_firstNight 49 = .ok (.iconst 0, 1) := by decide +kernel
theorem dX12_firstNight_50 : decode cX12_firstNight 50 = .ok (.iaload, 1) := by decide +kernel
theorem dX12_firstNight_51 : decode cX12_firstNight 51 = .ok (.if_icmp .eq 6, 3) := by decide +kernel
theorem dX12_firstNight_54 : decode cX12_firstNight 54 = .ok (.goto 20, 3) := by decide +kernel
theorem dX12_firstNight_57 : decode cX12_firstNight 57 = .ok (.iload_n 1, 1) := by decide +kernel
theorem dX12_firstNight_58 : decode cX12_firstNight 58 = .ok (.ifCond .eq 14, 3) := by decide +kernel
theorem dX12_firstNight_61 : decode cX12_firstNight 61 = .ok (.iload_n 2, 1) := by decide +kernel
theorem dX12_firstNight_62 : decode cX12_firstNight 62 = .ok (.invokestatic 408, 3) := by decide +kernel
theorem dX12_firstNight_65 : decode cX12_firstNight 65 = .ok (.iload_n 1, 1) := by decide +kernel
theorem dX12_firstNight_66 : decode cX12_firstNight 66 = .ok (.invokestatic 408, 3) := by decide +kernel
theorem dX12_firstNight_69 : decode cX12_firstNight 69 = .ok (.if_icmp .ge 5, 3) := by decide +kernel
theorem dX12_firstNight_72 : decode cX12_firstNight 72 = .ok (.iload_n 2, 1) := by decide +kernel
theorem dX12_firstNight_73 : decode cX12_firstNight 73 = .ok (.istore_n 1, 1) := by decide +kernel
theorem dX12_firstNight_74 : decode cX12_firstNight 74 = .ok (.iinc 2 1, 3) := by decide +kernel
theorem dX12_firstNight_77 : decode cX12_firstNight 77 = .ok (.goto (-73), 3) := by decide +kernel
theorem dX12_firstNight_80 : decode cX12_firstNight 80 = .ok (.iconst 0, 1) := by decide +kernel
theorem dX12_firstNight_81 : decode cX12_firstNight 81 = .ok (.istore_n 2, 1) := by decide +kernel
theorem dX12_firstNight_82 : decode cX12_firstNight 82 = .ok (.iconst 0, 1) := by decide +kernel
theorem dX12_firstNight_83 : decode cX12_firstNight 83 = .ok (.istore_n 3, 1) := by decide +kernel
theorem dX12_firstNight_84 : decode cX12_firstNight 84 = .ok (.iload_n 3, 1) := by decide +kernel
theorem dX12_firstNight_85 : decode cX12_firstNight 85 = .ok (.aload_n 0, 1) := by decide +kernel
theorem dX12_firstNight_86 : decode cX12_firstNight 86 = .ok (.getfield 463, 3) := by decide +kernel
theorem dX12_firstNight_89 : decode cX12_firstNight 89 = .ok (.if_icmp .ge 29, 3) := by decide +kernel
theorem dX12_firstNight_92 : decode cX12_firstNight 92 = .ok (.iload_n 1, 1) := by decide +kernel
theorem dX12_firstNight_93 : decode cX12_firstNight 93 = .ok (.iload_n 3, 1) := by decide +kernel
theorem dX12_firstNight_94 : decode cX12_firstNight 94 = .ok (.ishr, 1) := by decide +kernel
theorem dX12_firstNight_95 : decode cX12_firstNight 95 = .ok (.iconst 1, 1) := by decide +kernel
theorem dX12_firstNight_96 : decode cX12_firstNight 96 = .ok (.iand, 1) := by decide +kernel
theorem dX12_firstNight_97 : decode cX12_firstNight 97 = .ok (.iconst 1, 1) := by decide +kernel
theorem dX12_firstNight_98 : decode cX12_firstNight 98 = .ok (.if_icmp .ne 14, 3) := by decide +kernel
theorem dX12_firstNight_101 : decode cX12_firstNight 101 = .ok (.iload_n 2, 1) := by decide +kernel
theorem dX12_firstNight_102 : decode cX12_firstNight 102 = .ok (.iconst 1, 1) := by decide +kernel
theorem dX12_firstNight_103 : decode cX12_firstNight 103 = .ok (.aload_n 0, 1) := by decide +kernel
theorem dX12_firstNight_104 : decode cX12_firstNight 104 = .ok (.getfield 97, 3) := by decide +kernel
theorem dX12_firstNight_107 : decode cX12_firstNight 107 = .ok (.iload_n 3, 1) := by decide +kernel
theorem dX12_firstNight_108 : decode cX12_firstNight 108 = .ok (.iaload, 1) := by decide +kernel
theorem dX12_firstNight_109 : decode cX12_firstNight 109 = .ok (.ishl, 1) := by decide +kernel
theorem dX12_firstNight_110 : decode cX12_firstNight 110 = .ok (.ior, 1) := by decide +kernel
theorem dX12_firstNight_111 : decode cX12_firstNight 111 = .ok (.istore_n 2, 1) := by decide +kernel
theorem dX12_firstNight_112 : decode cX12_firstNight 112 = .ok (.iinc 3 1, 3) := by decide +kernel
theorem dX12_firstNight_115 : decode cX12_firstNight 115 = .ok (.goto (-31), 3) := by decide +kernel
theorem dX12_firstNight_118 : decode cX12_firstNight 118 = .ok (.iload_n 2, 1) := by decide +kernel
theorem dX12_firstNight_119 : decode cX12_firstNight 119 = .ok (.ireturn, 1) := by decide +kernel
theorem b_X12_firstNight (mm : MM) (Q : Value → MM → Prop) (h : G e_X12_firstNight 4 [(0, .ref 156), (1, .int (0 : Int32)), (2, .int (1 : Int32))] [] mm Q) : Runs e_X12_firstNight [.ref 156] mm Q := by
  refine runs_of_G (L := [(0, .ref 156)]) pl_X12 (Nat.le_of_ble_eq_true rfl) rfl ?_
  refine g_iconst (pc := 0) (v := (0 : Int32)) dX12_firstNight_0 (by decide) ?_
  refine g_istore_n (pc := 1) (L' := [(0, .ref 156), (1, .int (0 : Int32))]) dX12_firstNight_1 (Nat.le_of_ble_eq_true rfl) rfl ?_
  refine g_iconst (pc := 2) (v := (1 : Int32)) dX12_firstNight_2 (by decide) ?_
  refine g_istore_n (pc := 3) (L' := [(0, .ref 156), (1, .int (0 : Int32)), (2, .int (1 : Int32))]) dX12_firstNight_3 (Nat.le_of_ble_eq_true rfl) rfl ?_
  exact h
theorem b_X12_firstNight_4 (mm : MM) (Q : Value → MM → Prop) (l1 : Int32) (l2 : Int32) (h : (((1 : Int32) <<< ((mm.1 156 42) &&& 31)) ≤ l2 → (G e_X12_firstNight 84 [(0, .ref 156), (1, .int l1), (2, .int (0 : Int32)), (3, .int (0 : Int32))] [] mm Q)) ∧ (¬ ((1 : Int32) <<< ((mm.1 156 42) &&& 31)) ≤ l2 → (∃ Pm1 : Value → MM → Prop, Runs e_X12_bitsOf [.int l2] mm Pm1 ∧ ∀ (r1 : Int32) (m1 : MM), Pm1 (.int r1) m1 → (((m1.1 162 6) < r1 → (G e_X12_firstNight 4 [(0, .ref 156), (1, .int l1), (2, .int (l2 + (1 : Int32)))] [] m1 Q)) ∧ (¬ (m1.1 162 6) < r1 → (vp_in l2 256 ∧ (((m1.1 186 l2.toNatClampNeg) = 0 → (G e_X12_firstNight 4 [(0, .ref 156), (1, .int l1), (2, .int (l2 + (1 : Int32)))] [] m1 Q)) ∧ (¬ (m1.1 186 l2.toNatClampNeg) = 0 → (vp_in l2 256 ∧ ((((m1.1 187 l2.toNatClampNeg) + (1 : Int32)) = (m1.1 187 0) → ((l1 = 0 → (G e_X12_firstNight 4 [(0, .ref 156), (1, .int l2), (2, .int (l2 + (1 : Int32)))] [] m1 Q)) ∧ (¬ l1 = 0 → (∃ Pm2 : Value → MM → Prop, Runs e_X12_bitsOf [.int l2] m1 Pm2 ∧ ∀ (r2 : Int32) (m2 : MM), Pm2 (.int r2) m2 → (∃ Pm3 : Value → MM → Prop, Runs e_X12_bitsOf [.int l1] m2 Pm3 ∧ ∀ (r3 : Int32) (m3 : MM), Pm3 (.int r3) m3 → ((r3 ≤ r2 → (G e_X12_firstNight 4 [(0, .ref 156), (1, .int l1), (2, .int (l2 + (1 : Int32)))] [] m3 Q)) ∧ (¬ r3 ≤ r2 → (G e_X12_firstNight 4 [(0, .ref 156), (1, .int l2), (2, .int (l2 + (1 : Int32)))] [] m3 Q)))))))) ∧ (¬ ((m1.1 187 l2.toNatClampNeg) + (1 : Int32)) = (m1.1 187 0) → (G e_X12_firstNight 4 [(0, .ref 156), (1, .int l1), (2, .int (l2 + (1 : Int32)))] [] m1 Q)))))))))))) : G e_X12_firstNight 4 [(0, .ref 156), (1, .int l1), (2, .int l2)] [] mm Q := by
  refine g_iload_n (pc := 4) (x := l2) dX12_firstNight_4 rfl ?_
  refine g_iconst (pc := 5) (v := (1 : Int32)) dX12_firstNight_5 (by decide) ?_
  refine g_aload_n (pc := 6) (x := 156) dX12_firstNight_6 rfl ?_
  refine g_getI (pc := 7) dX12_firstNight_7 fo_X12_463 sh_156 rfl ?_
  refine g_ishl (pc := 10) dX12_firstNight_10 ?_
  refine g_icmp_ge (pc := 11) (tgt := 80) dX12_firstNight_11 (by decide) (fun c11 => ?_) (fun c11 => ?_)
  · have h := h.1 c11
    refine g_iconst (pc := 80) (v := (0 : Int32)) dX12_firstNight_80 (by decide) ?_
    refine g_istore_n (pc := 81) (L' := [(0, .ref 156), (1, .int l1), (2, .int (0 : Int32))]) dX12_firstNight_81 (Nat.le_of_ble_eq_true rfl) rfl ?_
    refine g_iconst (pc := 82) (v := (0 : Int32)) dX12_firstNight_82 (by decide) ?_
    refine g_istore_n (pc := 83) (L' := [(0, .ref 156), (1, .int l1), (2, .int (0 : Int32)), (3, .int (0 : Int32))]) dX12_firstNight_83 (Nat.le_of_ble_eq_true rfl) rfl ?_
    exact h
  · have h := h.2 c11
    refine g_iload_n (pc := 14) (x := l2) dX12_firstNight_14 rfl ?_
    obtain ⟨Pm1, hRm1, h⟩ := h
    refine g_callS (pc := 15) (as := [.int l2]) dX12_firstNight_15 cw_X12_408 (by decide) rfl rfl (Nat.le_of_ble_eq_true rfl) hRm1 ?_
    intro r_ m1 hz_ hp_
    obtain ⟨r1, rfl⟩ := hz_
    have h := h r1 m1 hp_
    refine g_aload_n (pc := 18) (x := 156) dX12_firstNight_18 rfl ?_
    refine g_getR (pc := 19) (dd := 6) dX12_firstNight_19 fo_X12_30 sh_156 rfl ?_
    refine g_bipush (pc := 22) (v := (6 : Int32)) dX12_firstNight_22 (by decide) ?_
    refine g_iaload (pc := 24) dX12_firstNight_24 sh_162 (vp_in_nI (n := 6) (N := 420) (by decide) (by decide)) ?_
    refine g_icmp_gt (pc := 25) (tgt := 74) dX12_firstNight_25 (by decide) (fun c25 => ?_) (fun c25 => ?_)
    · have h := h.1 c25
      refine g_iinc (pc := 74) (x := l2) (v := (l2 + (1 : Int32))) (L' := [(0, .ref 156), (1, .int l1), (2, .int (l2 + (1 : Int32)))]) dX12_firstNight_74 rfl rfl (Nat.le_of_ble_eq_true rfl) rfl ?_
      refine g_goto (pc := 77) (tgt := 4) dX12_firstNight_77 (by decide) ?_
      exact h
    · have h := h.2 c25
      refine g_aload_n (pc := 28) (x := 156) dX12_firstNight_28 rfl ?_
      refine g_getR (pc := 29) (dd := 30) dX12_firstNight_29 fo_X12_103 sh_156 rfl ?_
      refine g_iload_n (pc := 32) (x := l2) dX12_firstNight_32 rfl ?_
      refine g_zaload (pc := 33) dX12_firstNight_33 sh_186 h.1 ?_
      have h := h.2
      refine g_if_eq (pc := 34) (tgt := 74) dX12_firstNight_34 (by decide) (fun c34 => ?_) (fun c34 => ?_)
      · have h := h.1 c34
        refine g_iinc (pc := 74) (x := l2) (v := (l2 + (1 : Int32))) (L' := [(0, .ref 156), (1, .int l1), (2, .int (l2 + (1 : Int32)))]) dX12_firstNight_74 rfl rfl (Nat.le_of_ble_eq_true rfl) rfl ?_
        refine g_goto (pc := 77) (tgt := 4) dX12_firstNight_77 (by decide) ?_
        exact h
      · have h := h.2 c34
        refine g_aload_n (pc := 37) (x := 156) dX12_firstNight_37 rfl ?_
        refine g_getR (pc := 38) (dd := 31) dX12_firstNight_38 fo_X12_106 sh_156 rfl ?_
        refine g_iload_n (pc := 41) (x := l2) dX12_firstNight_41 rfl ?_
        refine g_iaload (pc := 42) dX12_firstNight_42 sh_187 h.1 ?_
        have h := h.2
        refine g_iconst (pc := 43) (v := (1 : Int32)) dX12_firstNight_43 (by decide) ?_
        refine g_iadd (pc := 44) dX12_firstNight_44 ?_
        refine g_aload_n (pc := 45) (x := 156) dX12_firstNight_45 rfl ?_
        refine g_getR (pc := 46) (dd := 31) dX12_firstNight_46 fo_X12_106 sh_156 rfl ?_
        refine g_iconst (pc := 49) (v := (0 : Int32)) dX12_firstNight_49 (by decide) ?_
        refine g_iaload (pc := 50) dX12_firstNight_50 sh_187 (vp_in_nI (n := 0) (N := 256) (by decide) (by decide)) ?_
        refine g_icmp_eq (pc := 51) (tgt := 57) dX12_firstNight_51 (by decide) (fun c51 => ?_) (fun c51 => ?_)
        · have h := h.1 c51
          refine g_iload_n (pc := 57) (x := l1) dX12_firstNight_57 rfl ?_
          refine g_if_eq (pc := 58) (tgt := 72) dX12_firstNight_58 (by decide) (fun c58 => ?_) (fun c58 => ?_)
          · have h := h.1 c58
            refine g_iload_n (pc := 72) (x := l2) dX12_firstNight_72 rfl ?_
            refine g_istore_n (pc := 73) (L' := [(0, .ref 156), (1, .int l2), (2, .int l2)]) dX12_firstNight_73 (Nat.le_of_ble_eq_true rfl) rfl ?_
            refine g_iinc (pc := 74) (x := l2) (v := (l2 + (1 : Int32))) (L' := [(0, .ref 156), (1, .int l2), (2, .int (l2 + (1 : Int32)))]) dX12_firstNight_74 rfl rfl (Nat.le_of_ble_eq_true rfl) rfl ?_
            refine g_goto (pc := 77) (tgt := 4) dX12_firstNight_77 (by decide) ?_
            exact h
          · have h := h.2 c58
            refine g_iload_n (pc := 61) (x := l2) dX12_firstNight_61 rfl ?_
            obtain ⟨Pm2, hRm2, h⟩ := h
            refine g_callS (pc := 62) (as := [.int l2]) dX12_firstNight_62 cw_X12_408 (by decide) rfl rfl (Nat.le_of_ble_eq_true rfl) hRm2 ?_
            intro r_ m2 hz_ hp_
            obtain ⟨r2, rfl⟩ := hz_
            have h := h r2 m2 hp_
            refine g_iload_n (pc := 65) (x := l1) dX12_firstNight_65 rfl ?_
            obtain ⟨Pm3, hRm3, h⟩ := h
            refine g_callS (pc := 66) (as := [.int l1]) dX12_firstNight_66 cw_X12_408 (by decide) rfl rfl (Nat.le_of_ble_eq_true rfl) hRm3 ?_
            intro r_ m3 hz_ hp_
            obtain ⟨r3, rfl⟩ := hz_
            have h := h r3 m3 hp_
            refine g_icmp_ge (pc := 69) (tgt := 74) dX12_firstNight_69 (by decide) (fun c69 => ?_) (fun c69 => ?_)
            · have h := h.1 c69
              refine g_iinc (pc := 74) (x := l2) (v := (l2 + (1 : Int32))) (L' := [(0, .ref 156), (1, .int l1), (2, .int (l2 + (1 : Int32)))]) dX12_firstNight_74 rfl rfl (Nat.le_of_ble_eq_true rfl) rfl ?_
              refine g_goto (pc := 77) (tgt := 4) dX12_firstNight_77 (by decide) ?_
              exact h
            · have h := h.2 c69
              refine g_iload_n (pc := 72) (x := l2) dX12_firstNight_72 rfl ?_
              refine g_istore_n (pc := 73) (L' := [(0, .ref 156), (1, .int l2), (2, .int l2)]) dX12_firstNight_73 (Nat.le_of_ble_eq_true rfl) rfl ?_
              refine g_iinc (pc := 74) (x := l2) (v := (l2 + (1 : Int32))) (L' := [(0, .ref 156), (1, .int l2), (2, .int (l2 + (1 : Int32)))]) dX12_firstNight_74 rfl rfl (Nat.le_of_ble_eq_true rfl) rfl ?_
              refine g_goto (pc := 77) (tgt := 4) dX12_firstNight_77 (by decide) ?_
              exact h
        · have h := h.2 c51
          refine g_goto (pc := 54) (tgt := 74) dX12_firstNight_54 (by decide) ?_
          refine g_iinc (pc := 74) (x := l2) (v := (l2 + (1 : Int32))) (L' := [(0, .ref 156), (1, .int l1), (2, .int (l2 + (1 : Int32)))]) dX12_firstNight_74 rfl rfl (Nat.le_of_ble_eq_true rfl) rfl ?_
          refine g_goto (pc := 77) (tgt := 4) dX12_firstNight_77 (by decide) ?_
          exact h
theorem b_X12_firstNight_84 (mm : MM) (Q : Value → MM → Prop) (l1 : Int32) (l2 : Int32) (l3 : Int32) (h : ((mm.1 156 42) ≤ l3 → (Q (.int l2) mm)) ∧ (¬ (mm.1 156 42) ≤ l3 → ((¬ ((l1 >>> (l3 &&& 31)) &&& (1 : Int32)) = (1 : Int32) → (G e_X12_firstNight 84 [(0, .ref 156), (1, .int l1), (2, .int l2), (3, .int (l3 + (1 : Int32)))] [] mm Q)) ∧ (((l1 >>> (l3 &&& 31)) &&& (1 : Int32)) = (1 : Int32) → (vp_in l3 16 ∧ (G e_X12_firstNight 84 [(0, .ref 156), (1, .int l1), (2, .int (l2 ||| ((1 : Int32) <<< ((mm.1 184 l3.toNatClampNeg) &&& 31)))), (3, .int (l3 + (1 : Int32)))] [] mm Q)))))) : G e_X12_firstNight 84 [(0, .ref 156), (1, .int l1), (2, .int l2), (3, .int l3)] [] mm Q := by
  refine g_iload_n (pc := 84) (x := l3) dX12_firstNight_84 rfl ?_
  refine g_aload_n (pc := 85) (x := 156) dX12_firstNight_85 rfl ?_
  refine g_getI (pc := 86) dX12_firstNight_86 fo_X12_463 sh_156 rfl ?_
  refine g_icmp_ge (pc := 89) (tgt := 118) dX12_firstNight_89 (by decide) (fun c89 => ?_) (fun c89 => ?_)
  · have h := h.1 c89
    refine g_iload_n (pc := 118) (x := l2) dX12_firstNight_118 rfl ?_
    exact g_iret (pc := 119) dX12_firstNight_119 rfl rfl rfl h
  · have h := h.2 c89
    refine g_iload_n (pc := 92) (x := l1) dX12_firstNight_92 rfl ?_
    refine g_iload_n (pc := 93) (x := l3) dX12_firstNight_93 rfl ?_
    refine g_ishr (pc := 94) dX12_firstNight_94 ?_
    refine g_iconst (pc := 95) (v := (1 : Int32)) dX12_firstNight_95 (by decide) ?_
    refine g_iand (pc := 96) dX12_firstNight_96 ?_
    refine g_iconst (pc := 97) (v := (1 : Int32)) dX12_firstNight_97 (by decide) ?_
    refine g_icmp_ne (pc := 98) (tgt := 112) dX12_firstNight_98 (by decide) (fun c98 => ?_) (fun c98 => ?_)
    · have h := h.1 c98
      refine g_iinc (pc := 112) (x := l3) (v := (l3 + (1 : Int32))) (L' := [(0, .ref 156), (1, .int l1), (2, .int l2), (3, .int (l3 + (1 : Int32)))]) dX12_firstNight_112 rfl rfl (Nat.le_of_ble_eq_true rfl) rfl ?_
      refine g_goto (pc := 115) (tgt := 84) dX12_firstNight_115 (by decide) ?_
      exact h
    · have h := h.2 c98
      refine g_iload_n (pc := 101) (x := l2) dX12_firstNight_101 rfl ?_
      refine g_iconst (pc := 102) (v := (1 : Int32)) dX12_firstNight_102 (by decide) ?_
      refine g_aload_n (pc := 103) (x := 156) dX12_firstNight_103 rfl ?_
      refine g_getR (pc := 104) (dd := 28) dX12_firstNight_104 fo_X12_97 sh_156 rfl ?_
      refine g_iload_n (pc := 107) (x := l3) dX12_firstNight_107 rfl ?_
      refine g_iaload (pc := 108) dX12_firstNight_108 sh_184 h.1 ?_
      have h := h.2
      refine g_ishl (pc := 109) dX12_firstNight_109 ?_
      refine g_ior (pc := 110) dX12_firstNight_110 ?_
      refine g_istore_n (pc := 111) (L' := [(0, .ref 156), (1, .int l1), (2, .int (l2 ||| ((1 : Int32) <<< ((mm.1 184 l3.toNatClampNeg) &&& 31)))), (3, .int l3)]) dX12_firstNight_111 (Nat.le_of_ble_eq_true rfl) rfl ?_
      refine g_iinc (pc := 112) (x := l3) (v := (l3 + (1 : Int32))) (L' := [(0, .ref 156), (1, .int l1), (2, .int (l2 ||| ((1 : Int32) <<< ((mm.1 184 l3.toNatClampNeg) &&& 31)))), (3, .int (l3 + (1 : Int32)))]) dX12_firstNight_112 rfl rfl (Nat.le_of_ble_eq_true rfl) rfl ?_
      refine g_goto (pc := 115) (tgt := 84) dX12_firstNight_115 (by decide) ?_
      exact h
theorem dX12_nights_0 : decode cX12_nights 0 = .ok (.iload_n 1, 1) := by decide +kernel
theorem dX12_nights_1 : decode cX12_nights 1 = .ok (.iconst 0, 1) := by decide +kernel
theorem dX12_nights_2 : decode cX12_nights 2 = .ok (.iconst 2, 1) := by decide +kernel
theorem dX12_nights_3 : decode cX12_nights 3 = .ok (.invokestatic 392, 3) := by decide +kernel
theorem dX12_nights_6 : decode cX12_nights 6 = .ok (.ifCond .ne 5, 3) := by decide +kernel
theorem dX12_nights_9 : decode cX12_nights 9 = .ok (.iconst (-1), 1) := by decide +kernel
theorem dX12_nights_10 : decode cX12_nights 10 = .ok (.ireturn, 1) := by decide +kernel
theorem dX12_nights_11 : decode cX12_nights 11 = .ok (.aload_n 0, 1) := by decide +kernel
theorem dX12_nights_12 : decode cX12_nights 12 = .ok (.invokevirtual 435, 3) := by decide +kernel
theorem dX12_nights_15 : decode cX12_nights 15 = .ok (.istore_n 2, 1) := by decide +kernel
theorem dX12_nights_16 : decode cX12_nights 16 = .ok (.aload_n 0, 1) := by decide +kernel
theorem dX12_nights_17 : decode cX12_nights 17 = .ok (.iconst 0, 1) := by decide +kernel
theorem dX12_nights_18 : decode cX12_nights 18 = .ok (.putfield 463, 3) := by decide +kernel
theorem dX12_nights_21 : decode cX12_nights 21 = .ok (.iconst 0, 1) := by decide +kernel
theorem dX12_nights_22 : decode cX12_nights 22 = .ok (.istore_n 3, 1) := by decide +kernel
theorem dX12_nights_23 : decode cX12_nights 23 = .ok (.iload_n 3, 1) := by decide +kernel
theorem dX12_nights_24 : decode cX12_nights 24 = .ok (.aload_n 0, 1) := by decide +kernel
theorem dX12_nights_25 : decode cX12_nights 25 = .ok (.getfield 30, 3) := by decide +kernel
theorem dX12_nights_28 : decode cX12_nights 28 = .ok (.iconst 0, 1) := by decide +kernel
theorem dX12_nights_29 : decode cX12_nights 29 = .ok (.iaload, 1) := by decide +kernel
theorem dX12_nights_30 : decode cX12_nights 30 = .ok (.if_icmp .ge 54, 3) := by decide +kernel
theorem dX12_nights_33 : decode cX12_nights 33 = .ok (.iload_n 2, 1) := by decide +kernel
theorem dX12_nights_34 : decode cX12_nights 34 = .ok (.iload_n 3, 1) := by decide +kernel
theorem dX12_nights_35 : decode cX12_nights 35 = .ok (.ishr, 1) := by decide +kernel
theorem dX12_nights_36 : decode cX12_nights 36 = .ok (.iconst 1, 1) := by decide +kernel
theorem dX12_nights_37 : decode cX12_nights 37 = .ok (.iand, 1) := by decide +kernel
theorem dX12_nights_38 : decode cX12_nights 38 = .ok (.ifCond .ne 6, 3) := by decide +kernel
theorem dX12_nights_41 : decode cX12_nights 41 = .ok (.goto 37, 3) := by decide +kernel
theorem dX12_nights_44 : decode cX12_nights 44 = .ok (.aload_n 0, 1) := by decide +kernel
theorem dX12_nights_45 : decode cX12_nights 45 = .ok (.getfield 97, 3) := by decide +kernel
theorem dX12_nights_48 : decode cX12_nights 48 = .ok (.aload_n 0, 1) := by decide +kernel
theorem dX12_nights_49 : decode cX12_nights 49 = .ok (.getfield 463, 3) := by decide +kernel
theorem dX12_nights_52 : decode cX12_nights 52 = .ok (.iload_n 3, 1) := by decide +kernel
theorem dX12_nights_53 : decode cX12_nights 53 = .ok (.iastore, 1) := by decide +kernel
theorem dX12_nights_54 : decode cX12_nights 54 = .ok (.aload_n 0, 1) := by decide +kernel
theorem dX12_nights_55 : decode cX12_nights 55 = .ok (.getfield 100, 3) := by decide +kernel
theorem dX12_nights_58 : decode cX12_nights 58 = .ok (.aload_n 0, 1) := by decide +kernel
theorem dX12_nights_59 : decode cX12_nights 59 = .ok (.getfield 463, 3) := by decide +kernel
theorem dX12_nights_62 : decode cX12_nights 62 = .ok (.aload_n 0, 1) := by decide +kernel
theorem dX12_nights_63 : decode cX12_nights 63 = .ok (.iload_n 3, 1) := by decide +kernel
theorem dX12_nights_64 : decode cX12_nights 64 = .ok (.invokevirtual 383, 3) := by decide +kernel
theorem dX12_nights_67 : decode cX12_nights 67 = .ok (.iastore, 1) := by decide +kernel
theorem dX12_nights_68 : decode cX12_nights 68 = .ok (.aload_n 0, 1) := by decide +kernel
theorem dX12_nights_69 : decode cX12_nights 69 = .ok (.dup, 1) := by decide +kernel
theorem dX12_nights_70 : decode cX12_nights 70 = .ok (.getfield 463, 3) := by decide +kernel
theorem dX12_nights_73 : decode cX12_nights 73 = .ok (.iconst 1, 1) := by decide +kernel
theorem dX12_nights_74 : decode cX12_nights 74 = .ok (.iadd, 1) := by decide +kernel
theorem dX12_nights_75 : decode cX12_nights 75 = .ok (.putfield 463, 3) := by decide +kernel
theorem dX12_nights_78 : decode cX12_nights 78 = .ok (.iinc 3 1, 3) := by decide +kernel
theorem dX12_nights_81 : decode cX12_nights 81 = .ok (.goto (-58), 3) := by decide +kernel
theorem dX12_nights_84 : decode cX12_nights 84 = .ok (.iload_n 1, 1) := by decide +kernel
theorem dX12_nights_85 : decode cX12_nights 85 = .ok (.iconst 2, 1) := by decide +kernel
theorem dX12_nights_86 : decode cX12_nights 86 = .ok (.if_icmp .ne 26, 3) := by decide +kernel
theorem dX12_nights_89 : decode cX12_nights 89 = .ok (.aload_n 0, 1) := by decide +kernel
theorem dX12_nights_90 : decode cX12_nights 90 = .ok (.getfield 463, 3) := by decide +kernel
theorem dX12_nights_93 : decode cX12_nights 93 = .ok (.aload_n 0, 1) := by decide +kernel
theorem dX12_nights_94 : decode cX12_nights 94 = .ok (.getfield 30, 3) := by decide +kernel
theorem dX12_nights_97 : decode cX12_nights 97 = .ok (.bipush 6, 2) := by decide +kernel
theorem dX12_nights_99 : decode cX12_nights 99 = .ok (.iaload, 1) := by decide +kernel
theorem dX12_nights_100 : decode cX12_nights 100 = .ok (.iadd, 1) := by decide +kernel
theorem dX12_nights_101 : decode cX12_nights 101 = .ok (.iconst 1, 1) := by decide +kernel
theorem dX12_nights_102 : decode cX12_nights 102 = .ok (.isub, 1) := by decide +kernel
theorem dX12_nights_103 : decode cX12_nights 103 = .ok (.aload_n 0, 1) := by decide +kernel
theorem dX12_nights_104 : decode cX12_nights 104 = .ok (.getfield 30, 3) := by decide +kernel
theorem dX12_nights_107 : decode cX12_nights 107 = .ok (.bipush 6, 2) := by decide +kernel
theorem dX12_nights_109 : decode cX12_nights 109 = .ok (.iaload, 1) := by decide +kernel
theorem dX12_nights_110 : decode cX12_nights 110 = .ok (.idiv, 1) := by decide +kernel
theorem dX12_nights_111 : decode cX12_nights 111 = .ok (.ireturn, 1) := by decide +kernel
theorem dX12_nights_112 : decode cX12_nights 112 = .ok (.aload_n 0, 1) := by decide +kernel
theorem dX12_nights_113 : decode cX12_nights 113 = .ok (.getfield 463, 3) := by decide +kernel
theorem dX12_nights_116 : decode cX12_nights 116 = .ok (.bipush 8, 2) := by decide +kernel
theorem dX12_nights_118 : decode cX12_nights 118 = .ok (.if_icmp .le 6, 3) := by decide +kernel
theorem dX12_nights_121 : decode cX12_nights 121 = .ok (.bipush (-2), 2) := by decide +kernel
theorem dX12_nights_123 : decode cX12_nights 123 = .ok (.ireturn, 1) := by decide +kernel
theorem dX12_nights_124 : decode cX12_nights 124 = .ok (.aload_n 0, 1) := by decide +kernel
theorem dX12_nights_125 : decode cX12_nights 125 = .ok (.getfield 463, 3) := by decide +kernel
theorem dX12_nights_128 : decode cX12_nights 128 = .ok (.ifCond .ne 5, 3) := by decide +kernel
theorem dX12_nights_131 : decode cX12_nights 131 = .ok (.iconst 0, 1) := by decide +kernel
theorem dX12_nights_132 : decode cX12_nights 132 = .ok (.ireturn, 1) := by decide +kernel
theorem dX12_nights_133 : decode cX12_nights 133 = .ok (.aload_n 0, 1) := by decide +kernel
theorem dX12_nights_134 : decode cX12_nights 134 = .ok (.invokevirtual 469, 3) := by decide +kernel
theorem dX12_nights_137 : decode cX12_nights 137 = .ok (.aload_n 0, 1) := by decide +kernel
theorem dX12_nights_138 : decode cX12_nights 138 = .ok (.getfield 106, 3) := by decide +kernel
theorem dX12_nights_141 : decode cX12_nights 141 = .ok (.iconst 0, 1) := by decide +kernel
theorem dX12_nights_142 : decode cX12_nights 142 = .ok (.iaload, 1) := by decide +kernel
theorem dX12_nights_143 : decode cX12_nights 143 = .ok (.ldc_w 441, 3) := by decide +kernel
theorem dX12_nights_146 : decode cX12_nights 146 = .ok (.if_icmp .lt 8, 3) := by decide +kernel
theorem dX12_nights_149 : decode cX12_nights 149 = .ok (.bipush (-2), 2) := by decide +kernel
theorem dX12_nights_151 : decode cX12_nights 151 = .ok (.goto 20, 3) := by decide +kernel
theorem dX12_nights_154 : decode cX12_nights 154 = .ok (.iload_n 1, 1) := by decide +kernel
theorem dX12_nights_155 : decode cX12_nights 155 = .ok (.ifCond .ne 12, 3) := by decide +kernel
theorem dX12_nights_158 : decode cX12_nights 158 = .ok (.aload_n 0, 1) := by decide +kernel
theorem dX12_nights_159 : decode cX12_nights 159 = .ok (.getfield 106, 3) := by decide +kernel
theorem dX12_nights_162 : decode cX12_nights 162 = .ok (.iconst 0, 1) := by decide +kernel
theorem dX12_nights_163 : decode cX12_nights 163 = .ok (.iaload, 1) := by decide +kernel
theorem dX12_nights_164 : decode cX12_nights 164 = .ok (.goto 7, 3) := by decide +kernel
theorem dX12_nights_167 : decode cX12_nights 167 = .ok (.aload_n 0, 1) := by decide +kernel
theorem dX12_nights_168 : decode cX12_nights 168 = .ok (.invokevirtual 472, 3) := by decide +kernel
theorem dX12_nights_171 : decode cX12_nights 171 = .ok (.ireturn, 1) := by decide +kernel
theorem b_X12_nights (mm : MM) (Q : Value → MM → Prop) (a1 : Int32) (h : (p_X12_isIn mm a1 (0 : Int32) (2 : Int32) → (∃ Pm1 : Value → MM → Prop, Runs e_X12_untrue [.ref 156] mm Pm1 ∧ ∀ (r1 : Int32) (m1 : MM), Pm1 (.int r1) m1 → (G e_X12_nights 23 [(0, .ref 156), (1, .int a1), (2, .int r1), (3, .int (0 : Int32))] [] (wI m1 156 42 (0 : Int32)) Q))) ∧ (¬ p_X12_isIn mm a1 (0 : Int32) (2 : Int32) → (Q (.int (-1 : Int32)) mm))) : Runs e_X12_nights [.ref 156, .int a1] mm Q := by
  refine runs_of_G (L := [(0, .ref 156), (1, .int a1)]) pl_X12 (Nat.le_of_ble_eq_true rfl) rfl ?_
  refine g_iload_n (pc := 0) (x := a1) dX12_nights_0 rfl ?_
  refine g_iconst (pc := 1) (v := (0 : Int32)) dX12_nights_1 (by decide) ?_
  refine g_iconst (pc := 2) (v := (2 : Int32)) dX12_nights_2 (by decide) ?_
  refine g_callS (pc := 3) (as := [.int a1, .int (0 : Int32), .int (2 : Int32)]) dX12_nights_3 cw_X12_392 (by decide) rfl rfl (Nat.le_of_ble_eq_true rfl) (rv_X12_isIn mm a1 (0 : Int32) (2 : Int32)) ?_
  rintro r_ m_ hz_ ⟨⟨p_, rfl⟩ | ⟨p_, rfl⟩, rfl⟩
  · have h := h.1 p_
    refine g_if_ne (pc := 6) (tgt := 11) dX12_nights_6 (by decide) (fun _ => ?_) (fun c6 => absurd c6 (by decide))
    refine g_aload_n (pc := 11) (x := 156) dX12_nights_11 rfl ?_
    obtain ⟨Pm1, hRm1, h⟩ := h
    refine g_callV (pc := 12) (as := []) dX12_nights_12 cw_X12_435 (by decide) rfl rfl sh_156 (Nat.le_of_ble_eq_true rfl) hRm1 ?_
    intro r_ m1 hz_ hp_
    obtain ⟨r1, rfl⟩ := hz_
    have h := h r1 m1 hp_
    refine g_istore_n (pc := 15) (L' := [(0, .ref 156), (1, .int a1), (2, .int r1)]) dX12_nights_15 (Nat.le_of_ble_eq_true rfl) rfl ?_
    refine g_aload_n (pc := 16) (x := 156) dX12_nights_16 rfl ?_
    refine g_iconst (pc := 17) (v := (0 : Int32)) dX12_nights_17 (by decide) ?_
    refine g_putI (pc := 18) dX12_nights_18 fo_X12_463 sh_156 rfl rfl rfl ?_
    refine g_iconst (pc := 21) (v := (0 : Int32)) dX12_nights_21 (by decide) ?_
    refine g_istore_n (pc := 22) (L' := [(0, .ref 156), (1, .int a1), (2, .int r1), (3, .int (0 : Int32))]) dX12_nights_22 (Nat.le_of_ble_eq_true rfl) rfl ?_
    exact h
  · have h := h.2 p_
    refine g_if_ne (pc := 6) (tgt := 11) dX12_nights_6 (by decide) (fun c6 => absurd c6 (by decide)) (fun _ => ?_)
    refine g_iconst (pc := 9) (v := (-1 : Int32)) dX12_nights_9 (by decide) ?_
    exact g_iret (pc := 10) dX12_nights_10 rfl rfl rfl h
theorem b_X12_nights_23 (mm : MM) (Q : Value → MM → Prop) (l1 : Int32) (l2 : Int32) (l3 : Int32) (h : ((mm.1 162 0) ≤ l3 → ((¬ l1 = (2 : Int32) → (((mm.1 156 42) ≤ (8 : Int32) → ((¬ (mm.1 156 42) = 0 → (∃ Pm1 : Value → MM → Prop, Runs e_X12_layNights [.ref 156] mm Pm1 ∧ ∀ m1, Pm1 .null m1 → (((m1.1 187 0) < (1000000 : Int32) → ((¬ l1 = 0 → (∃ Pm2 : Value → MM → Prop, Runs e_X12_firstNight [.ref 156] m1 Pm2 ∧ ∀ (r2 : Int32) (m2 : MM), Pm2 (.int r2) m2 → (Q (.int r2) m2))) ∧ (l1 = 0 → (Q (.int (m1.1 187 0)) m1)))) ∧ (¬ (m1.1 187 0) < (1000000 : Int32) → (Q (.int (-2 : Int32)) m1))))) ∧ ((mm.1 156 42) = 0 → (Q (.int (0 : Int32)) mm)))) ∧ (¬ (mm.1 156 42) ≤ (8 : Int32) → (Q (.int (-2 : Int32)) mm)))) ∧ (l1 = (2 : Int32) → (¬ (mm.1 162 6) = 0 ∧ (Q (.int ((((mm.1 156 42) + (mm.1 162 6)) - (1 : Int32)) / (mm.1 162 6))) mm))))) ∧ (¬ (mm.1 162 0) ≤ l3 → ((¬ ((l2 >>> (l3 &&& 31)) &&& (1 : Int32)) = 0 → (vp_in (mm.1 156 42) 16 ∧ (∃ Pm1 : Value → MM → Prop, Runs e_X12_dueOf [.ref 156, .int l3] (wI mm 184 ((mm.1 156 42).toNatClampNeg) l3) Pm1 ∧ ∀ (r1 : Int32) (m1 : MM), Pm1 (.int r1) m1 → (vp_in ((wI mm 184 ((mm.1 156 42).toNatClampNeg) l3).1 156 42) 16 ∧ (G e_X12_nights 23 [(0, .ref 156), (1, .int l1), (2, .int l2), (3, .int (l3 + (1 : Int32)))] [] (wI (wI m1 185 (((wI mm 184 ((mm.1 156 42).toNatClampNeg) l3).1 156 42).toNatClampNeg) r1) 156 42 (((wI m1 185 (((wI mm 184 ((mm.1 156 42).toNatClampNeg) l3).1 156 42).toNatClampNeg) r1).1 156 42) + (1 : Int32))) Q))))) ∧ (((l2 >>> (l3 &&& 31)) &&& (1 : Int32)) = 0 → (G e_X12_nights 23 [(0, .ref 156), (1, .int l1), (2, .int l2), (3, .int (l3 + (1 : Int32)))] [] mm Q))))) : G e_X12_nights 23 [(0, .ref 156), (1, .int l1), (2, .int l2), (3, .int l3)] [] mm Q := by
  refine g_iload_n (pc := 23) (x := l3) dX12_nights_23 rfl ?_
  refine g_aload_n (pc := 24) (x := 156) dX12_nights_24 rfl ?_
  refine g_getR (pc := 25) (dd := 6) dX12_nights_25 fo_X12_30 sh_156 rfl ?_
  refine g_iconst (pc := 28) (v := (0 : Int32)) dX12_nights_28 (by decide) ?_
  refine g_iaload (pc := 29) dX12_nights_29 sh_162 (vp_in_nI (n := 0) (N := 420) (by decide) (by decide)) ?_
  refine g_icmp_ge (pc := 30) (tgt := 84) dX12_nights_30 (by decide) (fun c30 => ?_) (fun c30 => ?_)
  · have h := h.1 c30
    refine g_iload_n (pc := 84) (x := l1) dX12_nights_84 rfl ?_
    refine g_iconst (pc := 85) (v := (2 : Int32)) dX12_nights_85 (by decide) ?_
    refine g_icmp_ne (pc := 86) (tgt := 112) dX12_nights_86 (by decide) (fun c86 => ?_) (fun c86 => ?_)
    · have h := h.1 c86
      refine g_aload_n (pc := 112) (x := 156) dX12_nights_112 rfl ?_
      refine g_getI (pc := 113) dX12_nights_113 fo_X12_463 sh_156 rfl ?_
      refine g_bipush (pc := 116) (v := (8 : Int32)) dX12_nights_116 (by decide) ?_
      refine g_icmp_le (pc := 118) (tgt := 124) dX12_nights_118 (by decide) (fun c118 => ?_) (fun c118 => ?_)
      · have h := h.1 c118
        refine g_aload_n (pc := 124) (x := 156) dX12_nights_124 rfl ?_
        refine g_getI (pc := 125) dX12_nights_125 fo_X12_463 sh_156 rfl ?_
        refine g_if_ne (pc := 128) (tgt := 133) dX12_nights_128 (by decide) (fun c128 => ?_) (fun c128 => ?_)
        · have h := h.1 c128
          refine g_aload_n (pc := 133) (x := 156) dX12_nights_133 rfl ?_
          obtain ⟨Pm1, hRm1, h⟩ := h
          refine g_callV (pc := 134) (as := []) dX12_nights_134 cw_X12_469 (by decide) rfl rfl sh_156 (Nat.le_of_ble_eq_true rfl) hRm1 ?_
          intro r_ m1 hz_ hp_
          obtain rfl := hz_
          have h := h m1 hp_
          refine g_aload_n (pc := 137) (x := 156) dX12_nights_137 rfl ?_
          refine g_getR (pc := 138) (dd := 31) dX12_nights_138 fo_X12_106 sh_156 rfl ?_
          refine g_iconst (pc := 141) (v := (0 : Int32)) dX12_nights_141 (by decide) ?_
          refine g_iaload (pc := 142) dX12_nights_142 sh_187 (vp_in_nI (n := 0) (N := 256) (by decide) (by decide)) ?_
          refine g_ldcw (pc := 143) (v := (1000000 : Int32)) dX12_nights_143 ct_X12_441 ?_
          refine g_icmp_lt (pc := 146) (tgt := 154) dX12_nights_146 (by decide) (fun c146 => ?_) (fun c146 => ?_)
          · have h := h.1 c146
            refine g_iload_n (pc := 154) (x := l1) dX12_nights_154 rfl ?_
            refine g_if_ne (pc := 155) (tgt := 167) dX12_nights_155 (by decide) (fun c155 => ?_) (fun c155 => ?_)
            · have h := h.1 c155
              refine g_aload_n (pc := 167) (x := 156) dX12_nights_167 rfl ?_
              obtain ⟨Pm2, hRm2, h⟩ := h
              refine g_callV (pc := 168) (as := []) dX12_nights_168 cw_X12_472 (by decide) rfl rfl sh_156 (Nat.le_of_ble_eq_true rfl) hRm2 ?_
              intro r_ m2 hz_ hp_
              obtain ⟨r2, rfl⟩ := hz_
              have h := h r2 m2 hp_
              exact g_iret (pc := 171) dX12_nights_171 rfl rfl rfl h
            · have h := h.2 c155
              refine g_aload_n (pc := 158) (x := 156) dX12_nights_158 rfl ?_
              refine g_getR (pc := 159) (dd := 31) dX12_nights_159 fo_X12_106 sh_156 rfl ?_
              refine g_iconst (pc := 162) (v := (0 : Int32)) dX12_nights_162 (by decide) ?_
              refine g_iaload (pc := 163) dX12_nights_163 sh_187 (vp_in_nI (n := 0) (N := 256) (by decide) (by decide)) ?_
              refine g_goto (pc := 164) (tgt := 171) dX12_nights_164 (by decide) ?_
              exact g_iret (pc := 171) dX12_nights_171 rfl rfl rfl h
          · have h := h.2 c146
            refine g_bipush (pc := 149) (v := (-2 : Int32)) dX12_nights_149 (by decide) ?_
            refine g_goto (pc := 151) (tgt := 171) dX12_nights_151 (by decide) ?_
            exact g_iret (pc := 171) dX12_nights_171 rfl rfl rfl h
        · have h := h.2 c128
          refine g_iconst (pc := 131) (v := (0 : Int32)) dX12_nights_131 (by decide) ?_
          exact g_iret (pc := 132) dX12_nights_132 rfl rfl rfl h
      · have h := h.2 c118
        refine g_bipush (pc := 121) (v := (-2 : Int32)) dX12_nights_121 (by decide) ?_
        exact g_iret (pc := 123) dX12_nights_123 rfl rfl rfl h
    · have h := h.2 c86
      refine g_aload_n (pc := 89) (x := 156) dX12_nights_89 rfl ?_
      refine g_getI (pc := 90) dX12_nights_90 fo_X12_463 sh_156 rfl ?_
      refine g_aload_n (pc := 93) (x := 156) dX12_nights_93 rfl ?_
      refine g_getR (pc := 94) (dd := 6) dX12_nights_94 fo_X12_30 sh_156 rfl ?_
      refine g_bipush (pc := 97) (v := (6 : Int32)) dX12_nights_97 (by decide) ?_
      refine g_iaload (pc := 99) dX12_nights_99 sh_162 (vp_in_nI (n := 6) (N := 420) (by decide) (by decide)) ?_
      refine g_iadd (pc := 100) dX12_nights_100 ?_
      refine g_iconst (pc := 101) (v := (1 : Int32)) dX12_nights_101 (by decide) ?_
      refine g_isub (pc := 102) dX12_nights_102 ?_
      refine g_aload_n (pc := 103) (x := 156) dX12_nights_103 rfl ?_
      refine g_getR (pc := 104) (dd := 6) dX12_nights_104 fo_X12_30 sh_156 rfl ?_
      refine g_bipush (pc := 107) (v := (6 : Int32)) dX12_nights_107 (by decide) ?_
      refine g_iaload (pc := 109) dX12_nights_109 sh_162 (vp_in_nI (n := 6) (N := 420) (by decide) (by decide)) ?_
      refine g_idiv (pc := 110) dX12_nights_110 h.1 ?_
      have h := h.2
      exact g_iret (pc := 111) dX12_nights_111 rfl rfl rfl h
  · have h := h.2 c30
    refine g_iload_n (pc := 33) (x := l2) dX12_nights_33 rfl ?_
    refine g_iload_n (pc := 34) (x := l3) dX12_nights_34 rfl ?_
    refine g_ishr (pc := 35) dX12_nights_35 ?_
    refine g_iconst (pc := 36) (v := (1 : Int32)) dX12_nights_36 (by decide) ?_
    refine g_iand (pc := 37) dX12_nights_37 ?_
    refine g_if_ne (pc := 38) (tgt := 44) dX12_nights_38 (by decide) (fun c38 => ?_) (fun c38 => ?_)
    · have h := h.1 c38
      refine g_aload_n (pc := 44) (x := 156) dX12_nights_44 rfl ?_
      refine g_getR (pc := 45) (dd := 28) dX12_nights_45 fo_X12_97 sh_156 rfl ?_
      refine g_aload_n (pc := 48) (x := 156) dX12_nights_48 rfl ?_
      refine g_getI (pc := 49) dX12_nights_49 fo_X12_463 sh_156 rfl ?_
      refine g_iload_n (pc := 52) (x := l3) dX12_nights_52 rfl ?_
      refine g_iastore (pc := 53) dX12_nights_53 sh_184 h.1 ?_
      have h := h.2
      refine g_aload_n (pc := 54) (x := 156) dX12_nights_54 rfl ?_
      refine g_getR (pc := 55) (dd := 29) dX12_nights_55 fo_X12_100 sh_156 rfl ?_
      refine g_aload_n (pc := 58) (x := 156) dX12_nights_58 rfl ?_
      refine g_getI (pc := 59) dX12_nights_59 fo_X12_463 sh_156 rfl ?_
      refine g_aload_n (pc := 62) (x := 156) dX12_nights_62 rfl ?_
      refine g_iload_n (pc := 63) (x := l3) dX12_nights_63 rfl ?_
      obtain ⟨Pm1, hRm1, h⟩ := h
      refine g_callV (pc := 64) (as := [.int l3]) dX12_nights_64 cw_X12_383 (by decide) rfl rfl sh_156 (Nat.le_of_ble_eq_true rfl) hRm1 ?_
      intro r_ m1 hz_ hp_
      obtain ⟨r1, rfl⟩ := hz_
      have h := h r1 m1 hp_
      refine g_iastore (pc := 67) dX12_nights_67 sh_185 h.1 ?_
      have h := h.2
      refine g_aload_n (pc := 68) (x := 156) dX12_nights_68 rfl ?_
      refine g_dup (pc := 69) dX12_nights_69 rfl ?_
      refine g_getI (pc := 70) dX12_nights_70 fo_X12_463 sh_156 rfl ?_
      refine g_iconst (pc := 73) (v := (1 : Int32)) dX12_nights_73 (by decide) ?_
      refine g_iadd (pc := 74) dX12_nights_74 ?_
      refine g_putI (pc := 75) dX12_nights_75 fo_X12_463 sh_156 rfl rfl rfl ?_
      refine g_iinc (pc := 78) (x := l3) (v := (l3 + (1 : Int32))) (L' := [(0, .ref 156), (1, .int l1), (2, .int l2), (3, .int (l3 + (1 : Int32)))]) dX12_nights_78 rfl rfl (Nat.le_of_ble_eq_true rfl) rfl ?_
      refine g_goto (pc := 81) (tgt := 23) dX12_nights_81 (by decide) ?_
      exact h
    · have h := h.2 c38
      refine g_goto (pc := 41) (tgt := 78) dX12_nights_41 (by decide) ?_
      refine g_iinc (pc := 78) (x := l3) (v := (l3 + (1 : Int32))) (L' := [(0, .ref 156), (1, .int l1), (2, .int l2), (3, .int (l3 + (1 : Int32)))]) dX12_nights_78 rfl rfl (Nat.le_of_ble_eq_true rfl) rfl ?_
      refine g_goto (pc := 81) (tgt := 23) dX12_nights_81 (by decide) ?_
      exact h

theorem dX12_cond_0 : decode cX12_cond 0 = .ok (.aload_n 0, 1) := by decide +kernel
theorem dX12_cond_1 : decode cX12_cond 1 = .ok (.aload_n 0, 1) := by decide +kernel
theorem dX12_cond_2 : decode cX12_cond 2 = .ok (.getfield 45, 3) := by decide +kernel
theorem dX12_cond_5 : decode cX12_cond 5 = .ok (.iconst 1, 1) := by decide +kernel
theorem dX12_cond_6 : decode cX12_cond 6 = .ok (.iaload, 1) := by decide +kernel
theorem dX12_cond_7 : decode cX12_cond 7 = .ok (.putfield 268, 3) := by decide +kernel
theorem dX12_cond_10 : decode cX12_cond 10 = .ok (.iconst 0, 1) := by decide +kernel
theorem dX12_cond_11 : decode cX12_cond 11 = .ok (.istore_n 1, 1) := by decide +kernel
theorem dX12_cond_12 : decode cX12_cond 12 = .ok (.iconst 1, 1) := by decide +kernel
theorem dX12_cond_13 : decode cX12_cond 13 = .ok (.istore_n 2, 1) := by decide +kernel
theorem dX12_cond_14 : decode cX12_cond 14 = .ok (.iload_n 2, 1) := by decide +kernel
theorem dX12_cond_15 : decode cX12_cond 15 = .ok (.ifCond .eq 258, 3) := by decide +kernel
theorem dX12_cond_18 : decode cX12_cond 18 = .ok (.sipush 200, 3) := by decide +kernel
theorem dX12_cond_21 : decode cX12_cond 21 = .ok (.aload_n 0, 1) := by decide +kernel
theorem dX12_cond_22 : decode cX12_cond 22 = .ok (.getfield 45, 3) := by decide +kernel
theorem dX12_cond_25 : decode cX12_cond 25 = .ok (.iconst 1, 1) := by decide +kernel
theorem dX12_cond_26 : decode cX12_cond 26 = .ok (.iaload, 1) := by decide +kernel
theorem dX12_cond_27 : decode cX12_cond 27 = .ok (.iadd, 1) := by decide +kernel
theorem dX12_cond_28 : decode cX12_cond 28 = .ok (.istore_n 3, 1) := by decide +kernel
theorem dX12_cond_29 : decode cX12_cond 29 = .ok (.iconst 0, 1) := by decide +kernel
theorem dX12_cond_30 : decode cX12_cond 30 = .ok (.istore 4, 2) := by decide +kernel
theorem dX12_cond_32 : decode cX12_cond 32 = .ok (.aload_n 0, 1) := by decide +kernel
theorem dX12_cond_33 : decode cX12_cond 33 = .ok (.bipush 10, 2) := by decide +kernel
theorem dX12_cond_35 : decode cX12_cond 35 = .ok (.invokevirtual 271, 3) := by decide +kernel
theorem dX12_cond_38 : decode cX12_cond 38 = .ok (.ifCond .eq 27, 3) := by decide +kernel
theorem dX12_cond_41 : decode cX12_cond 41 = .ok (.aload_n 0, 1) := by decide +kernel
theorem dX12_cond_42 : decode cX12_cond 42 = .ok (.invokevirtual 230, 3) := by decide +kernel
theorem dX12_cond_45 : decode cX12_cond 45 = .ok (.ifCond .ne 5, 3) := by decide +kernel
theorem dX12_cond_48 : decode cX12_cond 48 = .ok (.iconst 0, 1) := by decide +kernel
theorem dX12_cond_49 : decode cX12_cond 49 = .ok (.ireturn, 1) := by decide +kernel
theorem dX12_cond_50 : decode cX12_cond 50 = .ok (.iload 4, 2) := by decide +kernel
theorem dX12_cond_52 : decode cX12_cond 52 = .ok (.ifCond .ne 7, 3) := by decide +kernel
theorem dX12_cond_55 : decode cX12_cond 55 = .ok (.iconst 1, 1) := by decide +kernel
theorem dX12_cond_56 : decode cX12_cond 56 = .ok (.goto 4, 3) := by decide +kernel
theorem dX12_cond_59 : decode cX12_cond 59 = .ok (.iconst 0, 1) := by decide +kernel
theorem dX12_cond_60 : decode cX12_cond 60 = .ok (.istore 4, 2) := by decide +kernel
theorem dX12_cond_62 : decode cX12_cond 62 = .ok (.goto (-30), 3) := by decide +kernel
theorem dX12_cond_65 : decode cX12_cond 65 = .ok (.aload_n 0, 1) := by decide +kernel
theorem dX12_cond_66 : decode cX12_cond 66 = .ok (.invokevirtual 274, 3) := by decide +kernel
theorem dX12_cond_69 : decode cX12_cond 69 = .ok (.ifCond .ne 5, 3) := by decide +kernel
theorem dX12_cond_72 : decode cX12_cond 72 = .ok (.iconst 0, 1) := by decide +kernel
theorem dX12_cond_73 : decode cX12_cond 73 = .ok (.ireturn, 1) := by decide +kernel
theorem dX12_cond_74 : decode cX12_cond 74 = .ok (.aload_n 0, 1) := by decide +kernel
theorem dX12_cond_75 : decode cX12_cond 75 = .ok (.getfield 55, 3) := by decide +kernel
theorem dX12_cond_78 : decode cX12_cond 78 = .ok (.iload_n 3, 1) := by decide +kernel
theorem dX12_cond_79 : decode cX12_cond 79 = .ok (.aload_n 0, 1) := by decide +kernel
theorem dX12_cond_80 : decode cX12_cond 80 = .ok (.getfield 253, 3) := by decide +kernel
theorem dX12_cond_83 : decode cX12_cond 83 = .ok (.iastore, 1) := by decide +kernel
theorem dX12_cond_84 : decode cX12_cond 84 = .ok (.aload_n 0, 1) := by decide +kernel
theorem dX12_cond_85 : decode cX12_cond 85 = .ok (.getfield 58, 3) := by decide +kernel
theorem dX12_cond_88 : decode cX12_cond 88 = .ok (.iload_n 3, 1) := by decide +kernel
theorem dX12_cond_89 : decode cX12_cond 89 = .ok (.aload_n 0, 1) := by decide +kernel
theorem dX12_cond_90 : decode cX12_cond 90 = .ok (.getfield 36, 3) := by decide +kernel
theorem dX12_cond_93 : decode cX12_cond 93 = .ok (.iconst 1, 1) := by decide +kernel
theorem dX12_cond_94 : decode cX12_cond 94 = .ok (.iaload, 1) := by decide +kernel
theorem dX12_cond_95 : decode cX12_cond 95 = .ok (.iastore, 1) := by decide +kernel
theorem dX12_cond_96 : decode cX12_cond 96 = .ok (.aload_n 0, 1) := by decide +kernel
theorem dX12_cond_97 : decode cX12_cond 97 = .ok (.sipush 300, 3) := by decide +kernel
theorem dX12_cond_100 : decode cX12_cond 100 = .ok (.invokevirtual 256, 3) := by decide +kernel
theorem dX12_cond_103 : decode cX12_cond 103 = .ok (.ifCond .ne 32, 3) := by decide +kernel
theorem dX12_cond_106 : decode cX12_cond 106 = .ok (.aload_n 0, 1) := by decide +kernel
theorem dX12_cond_107 : decode cX12_cond 107 = .ok (.sipush 301, 3) := by decide +kernel
theorem dX12_cond_110 : decode cX12_cond 110 = .ok (.invokevirtual 256, 3) := by decide +kernel
theorem dX12_cond_113 : decode cX12_cond 113 = .ok (.ifCond .ne 22, 3) := by decide +kernel
theorem dX12_cond_116 : decode cX12_cond 116 = .ok (.aload_n 0, 1) := by decide +kernel
theorem dX12_cond_117 : decode cX12_cond 117 = .ok (.sipush 302, 3) := by decide +kernel
theorem dX12_cond_120 : decode cX12_cond 120 = .ok (.invokevirtual 256, 3) := by decide +kernel
theorem dX12_cond_123 : decode cX12_cond 123 = .ok (.ifCond .ne 12, 3) := by decide +kernel
theorem dX12_cond_126 : decode cX12_cond 126 = .ok (.aload_n 0, 1) := by decide +kernel
theorem dX12_cond_127 : decode cX12_cond 127 = .ok (.bipush 60, 2) := by decide +kernel
theorem dX12_cond_129 : decode cX12_cond 129 = .ok (.invokevirtual 256, 3) := by decide +kernel
theorem dX12_cond_132 : decode cX12_cond 132 = .ok (.ifCond .eq 7, 3) := by decide +kernel
theorem dX12_cond_135 : decode cX12_cond 135 = .ok (.iconst 1, 1) := by decide +kernel
theorem dX12_cond_136 : decode cX12_cond 136 = .ok (.goto 4, 3) := by decide +kernel
theorem dX12_cond_139 : decode cX12_cond 139 = .ok (.iconst 0, 1) := by decide +kernel
theorem dX12_cond_140 : decode cX12_cond 140 = .ok (.istore 5, 2) := by decide +kernel
theorem dX12_cond_142 : decode cX12_cond 142 = .ok (.iload 5, 2) := by decide +kernel
theorem dX12_cond_144 : decode cX12_cond 144 = .ok (.ifCond .ne 9, 3) := by decide +kernel
theorem dX12_cond_147 : decode cX12_cond 147 = .ok (.aload_n 0, 1) := by decide +kernel
theorem dX12_cond_148 : decode cX12_cond 148 = .ok (.iconst 1, 1) := by decide +kernel
theorem dX12_cond_149 : decode cX12_cond 149 = .ok (.invokevirtual 227, 3) := by decide +kernel
theorem dX12_cond_152 : decode cX12_cond 152 = .ok (.ireturn, 1) := by decide +kernel
theorem dX12_cond_153 : decode cX12_cond 153 = .ok (.aload_n 0, 1) := by decide +kernel
theorem dX12_cond_154 : decode cX12_cond 154 = .ok (.getfield 52, 3) := by decide +kernel
theorem dX12_cond_157 : decode cX12_cond 157 = .ok (.iload_n 3, 1) := by decide +kernel
theorem dX12_cond_158 : decode cX12_cond 158 = .ok (.aload_n 0, 1) := by decide +kernel
theorem dX12_cond_159 : decode cX12_cond 159 = .ok (.getfield 19, 3) := by decide +kernel
theorem dX12_cond_162 : decode cX12_cond 162 = .ok (.aload_n 0, 1) := by decide +kernel
theorem dX12_cond_163 : decode cX12_cond 163 = .ok (.getfield 218, 3) := by decide +kernel
theorem dX12_cond_166 : decode cX12_cond 166 = .ok (.iaload, 1) := by decide +kernel
theorem dX12_cond_167 : decode cX12_cond 167 = .ok (.iastore, 1) := by decide +kernel
theorem dX12_cond_168 : decode cX12_cond 168 = .ok (.aload_n 0, 1) := by decide +kernel
theorem dX12_cond_169 : decode cX12_cond 169 = .ok (.invokevirtual 230, 3) := by decide +kernel
theorem dX12_cond_172 : decode cX12_cond 172 = .ok (.ifCond .eq 10, 3) := by decide +kernel
theorem dX12_cond_175 : decode cX12_cond 175 = .ok (.aload_n 0, 1) := by decide +kernel
theorem dX12_cond_176 : decode cX12_cond 176 = .ok (.invokevirtual 274, 3) := by decide +kernel
theorem dX12_cond_179 : decode cX12_cond 179 = .ok (.ifCond .ne 5, 3) := by decide +kernel
theorem dX12_cond_182 : decode cX12_cond 182 = .ok (.iconst 0, 1) := by decide +kernel
theorem dX12_cond_183 : decode cX12_cond 183 = .ok (.ireturn, 1) := by decide +kernel
theorem dX12_cond_184 : decode cX12_cond 184 = .ok (.aload_n 0, 1) := by decide +kernel
theorem dX12_cond_185 : decode cX12_cond 185 = .ok (.getfield 61, 3) := by decide +kernel
theorem dX12_cond_188 : decode cX12_cond 188 = .ok (.iload_n 3, 1) := by decide +kernel
theorem dX12_cond_189 : decode cX12_cond 189 = .ok (.aload_n 0, 1) := by decide +kernel
theorem dX12_cond_190 : decode cX12_cond 190 = .ok (.getfield 36, 3) := by decide +kernel
theorem dX12_cond_193 : decode cX12_cond 193 = .ok (.iconst 1, 1) := by decide +kernel
theorem dX12_cond_194 : decode cX12_cond 194 = .ok (.iaload, 1) := by decide +kernel
theorem dX12_cond_195 : decode cX12_cond 195 = .ok (.iastore, 1) := by decide +kernel
theorem dX12_cond_196 : decode cX12_cond 196 = .ok (.aload_n 0, 1) := by decide +kernel
theorem dX12_cond_197 : decode cX12_cond 197 = .ok (.getfield 48, 3) := by decide +kernel
theorem dX12_cond_200 : decode cX12_cond 200 = .ok (.iload_n 3, 1) := by decide +kernel
theorem dX12_cond_201 : decode cX12_cond 201 = .ok (.iload 4, 2) := by decide +kernel
theorem dX12_cond_203 : decode cX12_cond 203 = .ok (.bastore, 1) := by decide +kernel
theorem dX12_cond_204 : decode cX12_cond 204 = .ok (.aload_n 0, 1) := by decide +kernel
theorem dX12_cond_205 : decode cX12_cond 205 = .ok (.getfield 64, 3) := by decide +kernel
theorem dX12_cond_208 : decode cX12_cond 208 = .ok (.iload_n 3, 1) := by decide +kernel
theorem dX12_cond_209 : decode cX12_cond 209 = .ok (.iload_n 1, 1) := by decide +kernel
theorem dX12_cond_210 : decode cX12_cond 210 = .ok (.iastore, 1) := by decide +kernel
theorem dX12_cond_211 : decode cX12_cond 211 = .ok (.aload_n 0, 1) := by decide +kernel
theorem dX12_cond_212 : decode cX12_cond 212 = .ok (.getfield 45, 3) := by decide +kernel
theorem dX12_cond_215 : decode cX12_cond 215 = .ok (.iconst 1, 1) := by decide +kernel
theorem dX12_cond_216 : decode cX12_cond 216 = .ok (.dup2, 1) := by decide +kernel
theorem dX12_cond_217 : decode cX12_cond 217 = .ok (.iaload, 1) := by decide +kernel
theorem dX12_cond_218 : decode cX12_cond 218 = .ok (.iconst 1, 1) := by decide +kernel
theorem dX12_cond_219 : decode cX12_cond 219 = .ok (.iadd, 1) := by decide +kernel
theorem dX12_cond_220 : decode cX12_cond 220 = .ok (.iastore, 1) := by decide +kernel
theorem dX12_cond_221 : decode cX12_cond 221 = .ok (.aload_n 0, 1) := by decide +kernel
theorem dX12_cond_222 : decode cX12_cond 222 = .ok (.bipush 11, 2) := by decide +kernel
theorem dX12_cond_224 : decode cX12_cond 224 = .ok (.invokevirtual 271, 3) := by decide +kernel
theorem dX12_cond_227 : decode cX12_cond 227 = .ok (.ifCond .ne 12, 3) := by decide +kernel
theorem dX12_cond_230 : decode cX12_cond 230 = .ok (.aload_n 0, 1) := by decide +kernel
theorem dX12_cond_231 : decode cX12_cond 231 = .ok (.bipush 12, 2) := by decide +kernel
theorem dX12_cond_233 : decode cX12_cond 233 = .ok (.invokevirtual 271, 3) := by decide +kernel
theorem dX12_cond_236 : decode cX12_cond 236 = .ok (.ifCond .eq 7, 3) := by decide +kernel
theorem dX12_cond_239 : decode cX12_cond 239 = .ok (.iconst 1, 1) := by decide +kernel
theorem dX12_cond_240 : decode cX12_cond 240 = .ok (.goto 4, 3) := by decide +kernel
theorem dX12_cond_243 : decode cX12_cond 243 = .ok (.iconst 0, 1) := by decide +kernel
theorem dX12_cond_244 : decode cX12_cond 244 = .ok (.istore_n 2, 1) := by decide +kernel
theorem dX12_cond_245 : decode cX12_cond 245 = .ok (.aload_n 0, 1) := by decide +kernel
theorem dX12_cond_246 : decode cX12_cond 246 = .ok (.bipush 12, 2) := by decide +kernel
theorem dX12_cond_248 : decode cX12_cond 248 = .ok (.invokevirtual 271, 3) := by decide +kernel
theorem dX12_cond_251 : decode cX12_cond 251 = .ok (.ifCond .eq 6, 3) := by decide +kernel
theorem dX12_cond_254 : decode cX12_cond 254 = .ok (.iinc 1 1, 3) := by decide +kernel
theorem dX12_cond_257 : decode cX12_cond 257 = .ok (.iload_n 2, 1) := by decide +kernel
theorem dX12_cond_258 : decode cX12_cond 258 = .ok (.ifCond .eq 12, 3) := by decide +kernel
theorem dX12_cond_261 : decode cX12_cond 261 = .ok (.aload_n 0, 1) := by decide +kernel
theorem dX12_cond_262 : decode cX12_cond 262 = .ok (.invokevirtual 230, 3) := by decide +kernel
theorem dX12_cond_265 : decode cX12_cond 265 = .ok (.ifCond .ne 5, 3) := by decide +kernel
theorem dX12_cond_268 : decode cX12_cond 268 = .ok (.iconst 0, 1) := by decide +kernel
theorem dX12_cond_269 : decode cX12_cond 269 = .ok (.ireturn, 1) := by decide +kernel
theorem dX12_cond_270 : decode cX12_cond 270 = .ok (.goto (-256), 3) := by decide +kernel
theorem dX12_cond_273 : decode cX12_cond 273 = .ok (.iconst 1, 1) := by decide +kernel
theorem dX12_cond_274 : decode cX12_cond 274 = .ok (.ireturn, 1) := by decide +kernel
theorem b_X12_cond (mm : MM) (Q : Value → MM → Prop) (h : G e_X12_cond 14 [(0, .ref 156), (1, .int (0 : Int32)), (2, .int (1 : Int32))] [] (wI mm 156 33 (mm.1 167 1)) Q) : Runs e_X12_cond [.ref 156] mm Q := by
  refine runs_of_G (L := [(0, .ref 156)]) pl_X12 (Nat.le_of_ble_eq_true rfl) rfl ?_
  refine g_aload_n (pc := 0) (x := 156) dX12_cond_0 rfl ?_
  refine g_aload_n (pc := 1) (x := 156) dX12_cond_1 rfl ?_
  refine g_getR (pc := 2) (dd := 11) dX12_cond_2 fo_X12_45 sh_156 rfl ?_
  refine g_iconst (pc := 5) (v := (1 : Int32)) dX12_cond_5 (by decide) ?_
  refine g_iaload (pc := 6) dX12_cond_6 sh_167 (vp_in_nI (n := 1) (N := 2) (by decide) (by decide)) ?_
  refine g_putI (pc := 7) dX12_cond_7 fo_X12_268 sh_156 rfl rfl rfl ?_
  refine g_iconst (pc := 10) (v := (0 : Int32)) dX12_cond_10 (by decide) ?_
  refine g_istore_n (pc := 11) (L' := [(0, .ref 156), (1, .int (0 : Int32))]) dX12_cond_11 (Nat.le_of_ble_eq_true rfl) rfl ?_
  refine g_iconst (pc := 12) (v := (1 : Int32)) dX12_cond_12 (by decide) ?_
  refine g_istore_n (pc := 13) (L' := [(0, .ref 156), (1, .int (0 : Int32)), (2, .int (1 : Int32))]) dX12_cond_13 (Nat.le_of_ble_eq_true rfl) rfl ?_
  exact h
theorem b_X12_cond_14 (mm : MM) (Q : Value → MM → Prop) (l1 : Int32) (l2 : Int32) (h : (l2 = 0 → (Q (.int (1 : Int32)) mm)) ∧ (¬ l2 = 0 → (G e_X12_cond 32 [(0, .ref 156), (1, .int l1), (3, .int ((200 : Int32) + (mm.1 167 1))), (4, .int (0 : Int32))] [] mm Q))) : G e_X12_cond 14 [(0, .ref 156), (1, .int l1), (2, .int l2)] [] mm Q := by
  refine g_iload_n (pc := 14) (x := l2) dX12_cond_14 rfl ?_
  refine g_if_eq (pc := 15) (tgt := 273) dX12_cond_15 (by decide) (fun c15 => ?_) (fun c15 => ?_)
  · have h := h.1 c15
    refine g_iconst (pc := 273) (v := (1 : Int32)) dX12_cond_273 (by decide) ?_
    exact g_iret (pc := 274) dX12_cond_274 rfl rfl (nar_B isB1) h
  · have h := h.2 c15
    refine g_sipush (pc := 18) (v := (200 : Int32)) dX12_cond_18 (by decide) ?_
    refine g_aload_n (pc := 21) (x := 156) dX12_cond_21 rfl ?_
    refine g_getR (pc := 22) (dd := 11) dX12_cond_22 fo_X12_45 sh_156 rfl ?_
    refine g_iconst (pc := 25) (v := (1 : Int32)) dX12_cond_25 (by decide) ?_
    refine g_iaload (pc := 26) dX12_cond_26 sh_167 (vp_in_nI (n := 1) (N := 2) (by decide) (by decide)) ?_
    refine g_iadd (pc := 27) dX12_cond_27 ?_
    refine g_istore_n (pc := 28) (L' := [(0, .ref 156), (1, .int l1), (2, .int l2), (3, .int ((200 : Int32) + (mm.1 167 1)))]) dX12_cond_28 (Nat.le_of_ble_eq_true rfl) rfl ?_
    refine g_iconst (pc := 29) (v := (0 : Int32)) dX12_cond_29 (by decide) ?_
    refine g_istore (pc := 30) (L' := [(0, .ref 156), (1, .int l1), (2, .int l2), (3, .int ((200 : Int32) + (mm.1 167 1))), (4, .int (0 : Int32))]) dX12_cond_30 (Nat.le_of_ble_eq_true rfl) rfl ?_
    refine g_sub (L' := [(0, .ref 156), (1, .int l1), (3, .int ((200 : Int32) + (mm.1 167 1))), (4, .int (0 : Int32))]) [0, 1, 3, 4] rfl ?_
    exact h
theorem b_X12_cond_32 (mm : MM) (Q : Value → MM → Prop) (l1 : Int32) (l3 : Int32) (l4 : Int32) (h : o_X12_isWord mm (10 : Int32) ∧ ((p_X12_isWord mm (10 : Int32) → (∃ Pm1 : Value → MM → Prop, Runs e_X12_pass [.ref 156] mm Pm1 ∧ (∀ r m1, Pm1 r m1 → r = .int 1 ∨ r = .int 0) ∧ (∀ m1, Pm1 (.int 1) m1 → ((¬ l4 = 0 → (G e_X12_cond 32 [(0, .ref 156), (1, .int l1), (3, .int l3), (4, .int (0 : Int32))] [] m1 Q)) ∧ (l4 = 0 → (G e_X12_cond 32 [(0, .ref 156), (1, .int l1), (3, .int l3), (4, .int (1 : Int32))] [] m1 Q)))) ∧ (∀ m1, Pm1 (.int 0) m1 → (Q (.int (0 : Int32)) m1)))) ∧ (¬ p_X12_isWord mm (10 : Int32) → (∃ Pm1 : Value → MM → Prop, Runs e_X12_expr [.ref 156] mm Pm1 ∧ (∀ r m1, Pm1 r m1 → r = .int 1 ∨ r = .int 0) ∧ (∀ m1, Pm1 (.int 1) m1 → (vp_in l3 400 ∧ (vp_in l3 400 ∧ (o_X12_isSign (wI (wI m1 170 (l3.toNatClampNeg) (m1.1 156 32)) 171 (l3.toNatClampNeg) ((wI m1 170 (l3.toNatClampNeg) (m1.1 156 32)).1 164 1)) (300 : Int32) ∧ ((p_X12_isSign (wI (wI m1 170 (l3.toNatClampNeg) (m1.1 156 32)) 171 (l3.toNatClampNeg) ((wI m1 170 (l3.toNatClampNeg) (m1.1 156 32)).1 164 1)) (300 : Int32) → (vp_in ((wI (wI m1 170 (l3.toNatClampNeg) (m1.1 156 32)) 171 (l3.toNatClampNeg) ((wI m1 170 (l3.toNatClampNeg) (m1.1 156 32)).1 164 1)).1 156 7) 2001 ∧ (vp_in l3 400 ∧ (∃ Pm2 : Value → MM → Prop, Runs e_X12_pass [.ref 156] (wI (wI (wI m1 170 (l3.toNatClampNeg) (m1.1 156 32)) 171 (l3.toNatClampNeg) ((wI m1 170 (l3.toNatClampNeg) (m1.1 156 32)).1 164 1)) 169 (l3.toNatClampNeg) ((wI (wI m1 170 (l3.toNatClampNeg) (m1.1 156 32)) 171 (l3.toNatClampNeg) ((wI m1 170 (l3.toNatClampNeg) (m1.1 156 32)).1 164 1)).1 160 ((wI (wI m1 170 (l3.toNatClampNeg) (m1.1 156 32)) 171 (l3.toNatClampNeg) ((wI m1 170 (l3.toNatClampNeg) (m1.1 156 32)).1 164 1)).1 156 7).toNatClampNeg)) Pm2 ∧ (∀ r m2, Pm2 r m2 → r = .int 1 ∨ r = .int 0) ∧ (∀ m2, Pm2 (.int 1) m2 → (∃ Pm3 : Value → MM → Prop, Runs e_X12_expr [.ref 156] m2 Pm3 ∧ (∀ r m3, Pm3 r m3 → r = .int 1 ∨ r = .int 0) ∧ (∀ m3, Pm3 (.int 1) m3 → (vp_in l3 400 ∧ (vp_in l3 400 ∧ (vp_in l3 400 ∧ (o_X12_isWord (wI (wI (wI (wI m3 172 (l3.toNatClampNeg) (m3.1 164 1)) 168 (l3.toNatClampNeg) (vp_nar .boolean l4)) 173 (l3.toNatClampNeg) l1) 167 1 (((wI (wI (wI m3 172 (l3.toNatClampNeg) (m3.1 164 1)) 168 (l3.toNatClampNeg) (vp_nar .boolean l4)) 173 (l3.toNatClampNeg) l1).1 167 1) + (1 : Int32))) (11 : Int32) ∧ ((p_X12_isWord (wI (wI (wI (wI m3 172 (l3.toNatClampNeg) (m3.1 164 1)) 168 (l3.toNatClampNeg) (vp_nar .boolean l4)) 173 (l3.toNatClampNeg) l1) 167 1 (((wI (wI (wI m3 172 (l3.toNatClampNeg) (m3.1 164 1)) 168 (l3.toNatClampNeg) (vp_nar .boolean l4)) 173 (l3.toNatClampNeg) l1).1 167 1) + (1 : Int32))) (11 : Int32) → (o_X12_isWord (wI (wI (wI (wI m3 172 (l3.toNatClampNeg) (m3.1 164 1)) 168 (l3.toNatClampNeg) (vp_nar .boolean l4)) 173 (l3.toNatClampNeg) l1) 167 1 (((wI (wI (wI m3 172 (l3.toNatClampNeg) (m3.1 164 1)) 168 (l3.toNatClampNeg) (vp_nar .boolean l4)) 173 (l3.toNatClampNeg) l1).1 167 1) + (1 : Int32))) (12 : Int32) ∧ ((p_X12_isWord (wI (wI (wI (wI m3 172 (l3.toNatClampNeg) (m3.1 164 1)) 168 (l3.toNatClampNeg) (vp_nar .boolean l4)) 173 (l3.toNatClampNeg) l1) 167 1 (((wI (wI (wI m3 172 (l3.toNatClampNeg) (m3.1 164 1)) 168 (l3.toNatClampNeg) (vp_nar .boolean l4)) 173 (l3.toNatClampNeg) l1).1 167 1) + (1 : Int32))) (12 : Int32) → (∃ Pm4 : Value → MM → Prop, Runs e_X12_pass [.ref 156] (wI (wI (wI (wI m3 172 (l3.toNatClampNeg) (m3.1 164 1)) 168 (l3.toNatClampNeg) (vp_nar .boolean l4)) 173 (l3.toNatClampNeg) l1) 167 1 (((wI (wI (wI m3 172 (l3.toNatClampNeg) (m3.1 164 1)) 168 (l3.toNatClampNeg) (vp_nar .boolean l4)) 173 (l3.toNatClampNeg) l1).1 167 1) + (1 : Int32))) Pm4 ∧ (∀ r m4, Pm4 r m4 → r = .int 1 ∨ r = .int 0) ∧ (∀ m4, Pm4 (.int 1) m4 → (G e_X12_cond 14 [(0, .ref 156), (1, .int (l1 + (1 : Int32))), (2, .int (1 : Int32))] [] m4 Q)) ∧ (∀ m4, Pm4 (.int 0) m4 → (Q (.int (0 : Int32)) m4)))) ∧ (¬ p_X12_isWord (wI (wI (wI (wI m3 172 (l3.toNatClampNeg) (m3.1 164 1)) 168 (l3.toNatClampNeg) (vp_nar .boolean l4)) 173 (l3.toNatClampNeg) l1) 167 1 (((wI (wI (wI m3 172 (l3.toNatClampNeg) (m3.1 164 1)) 168 (l3.toNatClampNeg) (vp_nar .boolean l4)) 173 (l3.toNatClampNeg) l1).1 167 1) + (1 : Int32))) (12 : Int32) → (∃ Pm4 : Value → MM → Prop, Runs e_X12_pass [.ref 156] (wI (wI (wI (wI m3 172 (l3.toNatClampNeg) (m3.1 164 1)) 168 (l3.toNatClampNeg) (vp_nar .boolean l4)) 173 (l3.toNatClampNeg) l1) 167 1 (((wI (wI (wI m3 172 (l3.toNatClampNeg) (m3.1 164 1)) 168 (l3.toNatClampNeg) (vp_nar .boolean l4)) 173 (l3.toNatClampNeg) l1).1 167 1) + (1 : Int32))) Pm4 ∧ (∀ r m4, Pm4 r m4 → r = .int 1 ∨ r = .int 0) ∧ (∀ m4, Pm4 (.int 1) m4 → (G e_X12_cond 14 [(0, .ref 156), (1, .int l1), (2, .int (1 : Int32))] [] m4 Q)) ∧ (∀ m4, Pm4 (.int 0) m4 → (Q (.int (0 : Int32)) m4))))))) ∧ (¬ p_X12_isWord (wI (wI (wI (wI m3 172 (l3.toNatClampNeg) (m3.1 164 1)) 168 (l3.toNatClampNeg) (vp_nar .boolean l4)) 173 (l3.toNatClampNeg) l1) 167 1 (((wI (wI (wI m3 172 (l3.toNatClampNeg) (m3.1 164 1)) 168 (l3.toNatClampNeg) (vp_nar .boolean l4)) 173 (l3.toNatClampNeg) l1).1 167 1) + (1 : Int32))) (11 : Int32) → (o_X12_isWord (wI (wI (wI (wI m3 172 (l3.toNatClampNeg) (m3.1 164 1)) 168 (l3.toNatClampNeg) (vp_nar .boolean l4)) 173 (l3.toNatClampNeg) l1) 167 1 (((wI (wI (wI m3 172 (l3.toNatClampNeg) (m3.1 164 1)) 168 (l3.toNatClampNeg) (vp_nar .boolean l4)) 173 (l3.toNatClampNeg) l1).1 167 1) + (1 : Int32))) (12 : Int32) ∧ ((p_X12_isWord (wI (wI (wI (wI m3 172 (l3.toNatClampNeg) (m3.1 164 1)) 168 (l3.toNatClampNeg) (vp_nar .boolean l4)) 173 (l3.toNatClampNeg) l1) 167 1 (((wI (wI (wI m3 172 (l3.toNatClampNeg) (m3.1 164 1)) 168 (l3.toNatClampNeg) (vp_nar .boolean l4)) 173 (l3.toNatClampNeg) l1).1 167 1) + (1 : Int32))) (12 : Int32) → (o_X12_isWord (wI (wI (wI (wI m3 172 (l3.toNatClampNeg) (m3.1 164 1)) 168 (l3.toNatClampNeg) (vp_nar .boolean l4)) 173 (l3.toNatClampNeg) l1) 167 1 (((wI (wI (wI m3 172 (l3.toNatClampNeg) (m3.1 164 1)) 168 (l3.toNatClampNeg) (vp_nar .boolean l4)) 173 (l3.toNatClampNeg) l1).1 167 1) + (1 : Int32))) (12 : Int32) ∧ ((p_X12_isWord (wI (wI (wI (wI m3 172 (l3.toNatClampNeg) (m3.1 164 1)) 168 (l3.toNatClampNeg) (vp_nar .boolean l4)) 173 (l3.toNatClampNeg) l1) 167 1 (((wI (wI (wI m3 172 (l3.toNatClampNeg) (m3.1 164 1)) 168 (l3.toNatClampNeg) (vp_nar .boolean l4)) 173 (l3.toNatClampNeg) l1).1 167 1) + (1 : Int32))) (12 : Int32) → (∃ Pm4 : Value → MM → Prop, Runs e_X12_pass [.ref 156] (wI (wI (wI (wI m3 172 (l3.toNatClampNeg) (m3.1 164 1)) 168 (l3.toNatClampNeg) (vp_nar .boolean l4)) 173 (l3.toNatClampNeg) l1) 167 1 (((wI (wI (wI m3 172 (l3.toNatClampNeg) (m3.1 164 1)) 168 (l3.toNatClampNeg) (vp_nar .boolean l4)) 173 (l3.toNatClampNeg) l1).1 167 1) + (1 : Int32))) Pm4 ∧ (∀ r m4, Pm4 r m4 → r = .int 1 ∨ r = .int 0) ∧ (∀ m4, Pm4 (.int 1) m4 → (G e_X12_cond 14 [(0, .ref 156), (1, .int (l1 + (1 : Int32))), (2, .int (1 : Int32))] [] m4 Q)) ∧ (∀ m4, Pm4 (.int 0) m4 → (Q (.int (0 : Int32)) m4)))) ∧ (¬ p_X12_isWord (wI (wI (wI (wI m3 172 (l3.toNatClampNeg) (m3.1 164 1)) 168 (l3.toNatClampNeg) (vp_nar .boolean l4)) 173 (l3.toNatClampNeg) l1) 167 1 (((wI (wI (wI m3 172 (l3.toNatClampNeg) (m3.1 164 1)) 168 (l3.toNatClampNeg) (vp_nar .boolean l4)) 173 (l3.toNatClampNeg) l1).1 167 1) + (1 : Int32))) (12 : Int32) → (∃ Pm4 : Value → MM → Prop, Runs e_X12_pass [.ref 156] (wI (wI (wI (wI m3 172 (l3.toNatClampNeg) (m3.1 164 1)) 168 (l3.toNatClampNeg) (vp_nar .boolean l4)) 173 (l3.toNatClampNeg) l1) 167 1 (((wI (wI (wI m3 172 (l3.toNatClampNeg) (m3.1 164 1)) 168 (l3.toNatClampNeg) (vp_nar .boolean l4)) 173 (l3.toNatClampNeg) l1).1 167 1) + (1 : Int32))) Pm4 ∧ (∀ r m4, Pm4 r m4 → r = .int 1 ∨ r = .int 0) ∧ (∀ m4, Pm4 (.int 1) m4 → (G e_X12_cond 14 [(0, .ref 156), (1, .int l1), (2, .int (1 : Int32))] [] m4 Q)) ∧ (∀ m4, Pm4 (.int 0) m4 → (Q (.int (0 : Int32)) m4))))))) ∧ (¬ p_X12_isWord (wI (wI (wI (wI m3 172 (l3.toNatClampNeg) (m3.1 164 1)) 168 (l3.toNatClampNeg) (vp_nar .boolean l4)) 173 (l3.toNatClampNeg) l1) 167 1 (((wI (wI (wI m3 172 (l3.toNatClampNeg) (m3.1 164 1)) 168 (l3.toNatClampNeg) (vp_nar .boolean l4)) 173 (l3.toNatClampNeg) l1).1 167 1) + (1 : Int32))) (12 : Int32) → (o_X12_isWord (wI (wI (wI (wI m3 172 (l3.toNatClampNeg) (m3.1 164 1)) 168 (l3.toNatClampNeg) (vp_nar .boolean l4)) 173 (l3.toNatClampNeg) l1) 167 1 (((wI (wI (wI m3 172 (l3.toNatClampNeg) (m3.1 164 1)) 168 (l3.toNatClampNeg) (vp_nar .boolean l4)) 173 (l3.toNatClampNeg) l1).1 167 1) + (1 : Int32))) (12 : Int32) ∧ ((p_X12_isWord (wI (wI (wI (wI m3 172 (l3.toNatClampNeg) (m3.1 164 1)) 168 (l3.toNatClampNeg) (vp_nar .boolean l4)) 173 (l3.toNatClampNeg) l1) 167 1 (((wI (wI (wI m3 172 (l3.toNatClampNeg) (m3.1 164 1)) 168 (l3.toNatClampNeg) (vp_nar .boolean l4)) 173 (l3.toNatClampNeg) l1).1 167 1) + (1 : Int32))) (12 : Int32) → (G e_X12_cond 14 [(0, .ref 156), (1, .int (l1 + (1 : Int32))), (2, .int (0 : Int32))] [] (wI (wI (wI (wI m3 172 (l3.toNatClampNeg) (m3.1 164 1)) 168 (l3.toNatClampNeg) (vp_nar .boolean l4)) 173 (l3.toNatClampNeg) l1) 167 1 (((wI (wI (wI m3 172 (l3.toNatClampNeg) (m3.1 164 1)) 168 (l3.toNatClampNeg) (vp_nar .boolean l4)) 173 (l3.toNatClampNeg) l1).1 167 1) + (1 : Int32))) Q)) ∧ (¬ p_X12_isWord (wI (wI (wI (wI m3 172 (l3.toNatClampNeg) (m3.1 164 1)) 168 (l3.toNatClampNeg) (vp_nar .boolean l4)) 173 (l3.toNatClampNeg) l1) 167 1 (((wI (wI (wI m3 172 (l3.toNatClampNeg) (m3.1 164 1)) 168 (l3.toNatClampNeg) (vp_nar .boolean l4)) 173 (l3.toNatClampNeg) l1).1 167 1) + (1 : Int32))) (12 : Int32) → (G e_X12_cond 14 [(0, .ref 156), (1, .int l1), (2, .int (0 : Int32))] [] (wI (wI (wI (wI m3 172 (l3.toNatClampNeg) (m3.1 164 1)) 168 (l3.toNatClampNeg) (vp_nar .boolean l4)) 173 (l3.toNatClampNeg) l1) 167 1 (((wI (wI (wI m3 172 (l3.toNatClampNeg) (m3.1 164 1)) 168 (l3.toNatClampNeg) (vp_nar .boolean l4)) 173 (l3.toNatClampNeg) l1).1 167 1) + (1 : Int32))) Q)))))))))))))) ∧ (∀ m3, Pm3 (.int 0) m3 → (Q (.int (0 : Int32)) m3)))) ∧ (∀ m2, Pm2 (.int 0) m2 → (Q (.int (0 : Int32)) m2)))))) ∧ (¬ p_X12_isSign (wI (wI m1 170 (l3.toNatClampNeg) (m1.1 156 32)) 171 (l3.toNatClampNeg) ((wI m1 170 (l3.toNatClampNeg) (m1.1 156 32)).1 164 1)) (300 : Int32) → (o_X12_isSign (wI (wI m1 170 (l3.toNatClampNeg) (m1.1 156 32)) 171 (l3.toNatClampNeg) ((wI m1 170 (l3.toNatClampNeg) (m1.1 156 32)).1 164 1)) (301 : Int32) ∧ ((p_X12_isSign (wI (wI m1 170 (l3.toNatClampNeg) (m1.1 156 32)) 171 (l3.toNatClampNeg) ((wI m1 170 (l3.toNatClampNeg) (m1.1 156 32)).1 164 1)) (301 : Int32) → (vp_in ((wI (wI m1 170 (l3.toNatClampNeg) (m1.1 156 32)) 171 (l3.toNatClampNeg) ((wI m1 170 (l3.toNatClampNeg) (m1.1 156 32)).1 164 1)).1 156 7) 2001 ∧ (vp_in l3 400 ∧ (∃ Pm2 : Value → MM → Prop, Runs e_X12_pass [.ref 156] (wI (wI (wI m1 170 (l3.toNatClampNeg) (m1.1 156 32)) 171 (l3.toNatClampNeg) ((wI m1 170 (l3.toNatClampNeg) (m1.1 156 32)).1 164 1)) 169 (l3.toNatClampNeg) ((wI (wI m1 170 (l3.toNatClampNeg) (m1.1 156 32)) 171 (l3.toNatClampNeg) ((wI m1 170 (l3.toNatClampNeg) (m1.1 156 32)).1 164 1)).1 160 ((wI (wI m1 170 (l3.toNatClampNeg) (m1.1 156 32)) 171 (l3.toNatClampNeg) ((wI m1 170 (l3.toNatClampNeg) (m1.1 156 32)).1 164 1)).1 156 7).toNatClampNeg)) Pm2 ∧ (∀ r m2, Pm2 r m2 → r = .int 1 ∨ r = .int 0) ∧ (∀ m2, Pm2 (.int 1) m2 → (∃ Pm3 : Value → MM → Prop, Runs e_X12_expr [.ref 156] m2 Pm3 ∧ (∀ r m3, Pm3 r m3 → r = .int 1 ∨ r = .int 0) ∧ (∀ m3, Pm3 (.int 1) m3 → (vp_in l3 400 ∧ (vp_in l3 400 ∧ (vp_in l3 400 ∧ (o_X12_isWord (wI (wI (wI (wI m3 172 (l3.toNatClampNeg) (m3.1 164 1)) 168 (l3.toNatClampNeg) (vp_nar .boolean l4)) 173 (l3.toNatClampNeg) l1) 167 1 (((wI (wI (wI m3 172 (l3.toNatClampNeg) (m3.1 164 1)) 168 (l3.toNatClampNeg) (vp_nar .boolean l4)) 173 (l3.toNatClampNeg) l1).1 167 1) + (1 : Int32))) (11 : Int32) ∧ ((p_X12_isWord (wI (wI (wI (wI m3 172 (l3.toNatClampNeg) (m3.1 164 1)) 168 (l3.toNatClampNeg) (vp_nar .boolean l4)) 173 (l3.toNatClampNeg) l1) 167 1 (((wI (wI (wI m3 172 (l3.toNatClampNeg) (m3.1 164 1)) 168 (l3.toNatClampNeg) (vp_nar .boolean l4)) 173 (l3.toNatClampNeg) l1).1 167 1) + (1 : Int32))) (11 : Int32) → (o_X12_isWord (wI (wI (wI (wI m3 172 (l3.toNatClampNeg) (m3.1 164 1)) 168 (l3.toNatClampNeg) (vp_nar .boolean l4)) 173 (l3.toNatClampNeg) l1) 167 1 (((wI (wI (wI m3 172 (l3.toNatClampNeg) (m3.1 164 1)) 168 (l3.toNatClampNeg) (vp_nar .boolean l4)) 173 (l3.toNatClampNeg) l1).1 167 1) + (1 : Int32))) (12 : Int32) ∧ ((p_X12_isWord (wI (wI (wI (wI m3 172 (l3.toNatClampNeg) (m3.1 164 1)) 168 (l3.toNatClampNeg) (vp_nar .boolean l4)) 173 (l3.toNatClampNeg) l1) 167 1 (((wI (wI (wI m3 172 (l3.toNatClampNeg) (m3.1 164 1)) 168 (l3.toNatClampNeg) (vp_nar .boolean l4)) 173 (l3.toNatClampNeg) l1).1 167 1) + (1 : Int32))) (12 : Int32) → (∃ Pm4 : Value → MM → Prop, Runs e_X12_pass [.ref 156] (wI (wI (wI (wI m3 172 (l3.toNatClampNeg) (m3.1 164 1)) 168 (l3.toNatClampNeg) (vp_nar .boolean l4)) 173 (l3.toNatClampNeg) l1) 167 1 (((wI (wI (wI m3 172 (l3.toNatClampNeg) (m3.1 164 1)) 168 (l3.toNatClampNeg) (vp_nar .boolean l4)) 173 (l3.toNatClampNeg) l1).1 167 1) + (1 : Int32))) Pm4 ∧ (∀ r m4, Pm4 r m4 → r = .int 1 ∨ r = .int 0) ∧ (∀ m4, Pm4 (.int 1) m4 → (G e_X12_cond 14 [(0, .ref 156), (1, .int (l1 + (1 : Int32))), (2, .int (1 : Int32))] [] m4 Q)) ∧ (∀ m4, Pm4 (.int 0) m4 → (Q (.int (0 : Int32)) m4)))) ∧ (¬ p_X12_isWord (wI (wI (wI (wI m3 172 (l3.toNatClampNeg) (m3.1 164 1)) 168 (l3.toNatClampNeg) (vp_nar .boolean l4)) 173 (l3.toNatClampNeg) l1) 167 1 (((wI (wI (wI m3 172 (l3.toNatClampNeg) (m3.1 164 1)) 168 (l3.toNatClampNeg) (vp_nar .boolean l4)) 173 (l3.toNatClampNeg) l1).1 167 1) + (1 : Int32))) (12 : Int32) → (∃ Pm4 : Value → MM → Prop, Runs e_X12_pass [.ref 156] (wI (wI (wI (wI m3 172 (l3.toNatClampNeg) (m3.1 164 1)) 168 (l3.toNatClampNeg) (vp_nar .boolean l4)) 173 (l3.toNatClampNeg) l1) 167 1 (((wI (wI (wI m3 172 (l3.toNatClampNeg) (m3.1 164 1)) 168 (l3.toNatClampNeg) (vp_nar .boolean l4)) 173 (l3.toNatClampNeg) l1).1 167 1) + (1 : Int32))) Pm4 ∧ (∀ r m4, Pm4 r m4 → r = .int 1 ∨ r = .int 0) ∧ (∀ m4, Pm4 (.int 1) m4 → (G e_X12_cond 14 [(0, .ref 156), (1, .int l1), (2, .int (1 : Int32))] [] m4 Q)) ∧ (∀ m4, Pm4 (.int 0) m4 → (Q (.int (0 : Int32)) m4))))))) ∧ (¬ p_X12_isWord (wI (wI (wI (wI m3 172 (l3.toNatClampNeg) (m3.1 164 1)) 168 (l3.toNatClampNeg) (vp_nar .boolean l4)) 173 (l3.toNatClampNeg) l1) 167 1 (((wI (wI (wI m3 172 (l3.toNatClampNeg) (m3.1 164 1)) 168 (l3.toNatClampNeg) (vp_nar .boolean l4)) 173 (l3.toNatClampNeg) l1).1 167 1) + (1 : Int32))) (11 : Int32) → (o_X12_isWord (wI (wI (wI (wI m3 172 (l3.toNatClampNeg) (m3.1 164 1)) 168 (l3.toNatClampNeg) (vp_nar .boolean l4)) 173 (l3.toNatClampNeg) l1) 167 1 (((wI (wI (wI m3 172 (l3.toNatClampNeg) (m3.1 164 1)) 168 (l3.toNatClampNeg) (vp_nar .boolean l4)) 173 (l3.toNatClampNeg) l1).1 167 1) + (1 : Int32))) (12 : Int32) ∧ ((p_X12_isWord (wI (wI (wI (wI m3 172 (l3.toNatClampNeg) (m3.1 164 1)) 168 (l3.toNatClampNeg) (vp_nar .boolean l4)) 173 (l3.toNatClampNeg) l1) 167 1 (((wI (wI (wI m3 172 (l3.toNatClampNeg) (m3.1 164 1)) 168 (l3.toNatClampNeg) (vp_nar .boolean l4)) 173 (l3.toNatClampNeg) l1).1 167 1) + (1 : Int32))) (12 : Int32) → (o_X12_isWord (wI (wI (wI (wI m3 172 (l3.toNatClampNeg) (m3.1 164 1)) 168 (l3.toNatClampNeg) (vp_nar .boolean l4)) 173 (l3.toNatClampNeg) l1) 167 1 (((wI (wI (wI m3 172 (l3.toNatClampNeg) (m3.1 164 1)) 168 (l3.toNatClampNeg) (vp_nar .boolean l4)) 173 (l3.toNatClampNeg) l1).1 167 1) + (1 : Int32))) (12 : Int32) ∧ ((p_X12_isWord (wI (wI (wI (wI m3 172 (l3.toNatClampNeg) (m3.1 164 1)) 168 (l3.toNatClampNeg) (vp_nar .boolean l4)) 173 (l3.toNatClampNeg) l1) 167 1 (((wI (wI (wI m3 172 (l3.toNatClampNeg) (m3.1 164 1)) 168 (l3.toNatClampNeg) (vp_nar .boolean l4)) 173 (l3.toNatClampNeg) l1).1 167 1) + (1 : Int32))) (12 : Int32) → (∃ Pm4 : Value → MM → Prop, Runs e_X12_pass [.ref 156] (wI (wI (wI (wI m3 172 (l3.toNatClampNeg) (m3.1 164 1)) 168 (l3.toNatClampNeg) (vp_nar .boolean l4)) 173 (l3.toNatClampNeg) l1) 167 1 (((wI (wI (wI m3 172 (l3.toNatClampNeg) (m3.1 164 1)) 168 (l3.toNatClampNeg) (vp_nar .boolean l4)) 173 (l3.toNatClampNeg) l1).1 167 1) + (1 : Int32))) Pm4 ∧ (∀ r m4, Pm4 r m4 → r = .int 1 ∨ r = .int 0) ∧ (∀ m4, Pm4 (.int 1) m4 → (G e_X12_cond 14 [(0, .ref 156), (1, .int (l1 + (1 : Int32))), (2, .int (1 : Int32))] [] m4 Q)) ∧ (∀ m4, Pm4 (.int 0) m4 → (Q (.int (0 : Int32)) m4)))) ∧ (¬ p_X12_isWord (wI (wI (wI (wI m3 172 (l3.toNatClampNeg) (m3.1 164 1)) 168 (l3.toNatClampNeg) (vp_nar .boolean l4)) 173 (l3.toNatClampNeg) l1) 167 1 (((wI (wI (wI m3 172 (l3.toNatClampNeg) (m3.1 164 1)) 168 (l3.toNatClampNeg) (vp_nar .boolean l4)) 173 (l3.toNatClampNeg) l1).1 167 1) + (1 : Int32))) (12 : Int32) → (∃ Pm4 : Value → MM → Prop, Runs e_X12_pass [.ref 156] (wI (wI (wI (wI m3 172 (l3.toNatClampNeg) (m3.1 164 1)) 168 (l3.toNatClampNeg) (vp_nar .boolean l4)) 173 (l3.toNatClampNeg) l1) 167 1 (((wI (wI (wI m3 172 (l3.toNatClampNeg) (m3.1 164 1)) 168 (l3.toNatClampNeg) (vp_nar .boolean l4)) 173 (l3.toNatClampNeg) l1).1 167 1) + (1 : Int32))) Pm4 ∧ (∀ r m4, Pm4 r m4 → r = .int 1 ∨ r = .int 0) ∧ (∀ m4, Pm4 (.int 1) m4 → (G e_X12_cond 14 [(0, .ref 156), (1, .int l1), (2, .int (1 : Int32))] [] m4 Q)) ∧ (∀ m4, Pm4 (.int 0) m4 → (Q (.int (0 : Int32)) m4))))))) ∧ (¬ p_X12_isWord (wI (wI (wI (wI m3 172 (l3.toNatClampNeg) (m3.1 164 1)) 168 (l3.toNatClampNeg) (vp_nar .boolean l4)) 173 (l3.toNatClampNeg) l1) 167 1 (((wI (wI (wI m3 172 (l3.toNatClampNeg) (m3.1 164 1)) 168 (l3.toNatClampNeg) (vp_nar .boolean l4)) 173 (l3.toNatClampNeg) l1).1 167 1) + (1 : Int32))) (12 : Int32) → (o_X12_isWord (wI (wI (wI (wI m3 172 (l3.toNatClampNeg) (m3.1 164 1)) 168 (l3.toNatClampNeg) (vp_nar .boolean l4)) 173 (l3.toNatClampNeg) l1) 167 1 (((wI (wI (wI m3 172 (l3.toNatClampNeg) (m3.1 164 1)) 168 (l3.toNatClampNeg) (vp_nar .boolean l4)) 173 (l3.toNatClampNeg) l1).1 167 1) + (1 : Int32))) (12 : Int32) ∧ ((p_X12_isWord (wI (wI (wI (wI m3 172 (l3.toNatClampNeg) (m3.1 164 1)) 168 (l3.toNatClampNeg) (vp_nar .boolean l4)) 173 (l3.toNatClampNeg) l1) 167 1 (((wI (wI (wI m3 172 (l3.toNatClampNeg) (m3.1 164 1)) 168 (l3.toNatClampNeg) (vp_nar .boolean l4)) 173 (l3.toNatClampNeg) l1).1 167 1) + (1 : Int32))) (12 : Int32) → (G e_X12_cond 14 [(0, .ref 156), (1, .int (l1 + (1 : Int32))), (2, .int (0 : Int32))] [] (wI (wI (wI (wI m3 172 (l3.toNatClampNeg) (m3.1 164 1)) 168 (l3.toNatClampNeg) (vp_nar .boolean l4)) 173 (l3.toNatClampNeg) l1) 167 1 (((wI (wI (wI m3 172 (l3.toNatClampNeg) (m3.1 164 1)) 168 (l3.toNatClampNeg) (vp_nar .boolean l4)) 173 (l3.toNatClampNeg) l1).1 167 1) + (1 : Int32))) Q)) ∧ (¬ p_X12_isWord (wI (wI (wI (wI m3 172 (l3.toNatClampNeg) (m3.1 164 1)) 168 (l3.toNatClampNeg) (vp_nar .boolean l4)) 173 (l3.toNatClampNeg) l1) 167 1 (((wI (wI (wI m3 172 (l3.toNatClampNeg) (m3.1 164 1)) 168 (l3.toNatClampNeg) (vp_nar .boolean l4)) 173 (l3.toNatClampNeg) l1).1 167 1) + (1 : Int32))) (12 : Int32) → (G e_X12_cond 14 [(0, .ref 156), (1, .int l1), (2, .int (0 : Int32))] [] (wI (wI (wI (wI m3 172 (l3.toNatClampNeg) (m3.1 164 1)) 168 (l3.toNatClampNeg) (vp_nar .boolean l4)) 173 (l3.toNatClampNeg) l1) 167 1 (((wI (wI (wI m3 172 (l3.toNatClampNeg) (m3.1 164 1)) 168 (l3.toNatClampNeg) (vp_nar .boolean l4)) 173 (l3.toNatClampNeg) l1).1 167 1) + (1 : Int32))) Q)))))))))))))) ∧ (∀ m3, Pm3 (.int 0) m3 → (Q (.int (0 : Int32)) m3)))) ∧ (∀ m2, Pm2 (.int 0) m2 → (Q (.int (0 : Int32)) m2)))))) ∧ (¬ p_X12_isSign (wI (wI m1 170 (l3.toNatClampNeg) (m1.1 156 32)) 171 (l3.toNatClampNeg) ((wI m1 170 (l3.toNatClampNeg) (m1.1 156 32)).1 164 1)) (301 : Int32) → (o_X12_isSign (wI (wI m1 170 (l3.toNatClampNeg) (m1.1 156 32)) 171 (l3.toNatClampNeg) ((wI m1 170 (l3.toNatClampNeg) (m1.1 156 32)).1 164 1)) (302 : Int32) ∧ ((p_X12_isSign (wI (wI m1 170 (l3.toNatClampNeg) (m1.1 156 32)) 171 (l3.toNatClampNeg) ((wI m1 170 (l3.toNatClampNeg) (m1.1 156 32)).1 164 1)) (302 : Int32) → (vp_in ((wI (wI m1 170 (l3.toNatClampNeg) (m1.1 156 32)) 171 (l3.toNatClampNeg) ((wI m1 170 (l3.toNatClampNeg) (m1.1 156 32)).1 164 1)).1 156 7) 2001 ∧ (vp_in l3 400 ∧ (∃ Pm2 : Value → MM → Prop, Runs e_X12_pass [.ref 156] (wI (wI (wI m1 170 (l3.toNatClampNeg) (m1.1 156 32)) 171 (l3.toNatClampNeg) ((wI m1 170 (l3.toNatClampNeg) (m1.1 156 32)).1 164 1)) 169 (l3.toNatClampNeg) ((wI (wI m1 170 (l3.toNatClampNeg) (m1.1 156 32)) 171 (l3.toNatClampNeg) ((wI m1 170 (l3.toNatClampNeg) (m1.1 156 32)).1 164 1)).1 160 ((wI (wI m1 170 (l3.toNatClampNeg) (m1.1 156 32)) 171 (l3.toNatClampNeg) ((wI m1 170 (l3.toNatClampNeg) (m1.1 156 32)).1 164 1)).1 156 7).toNatClampNeg)) Pm2 ∧ (∀ r m2, Pm2 r m2 → r = .int 1 ∨ r = .int 0) ∧ (∀ m2, Pm2 (.int 1) m2 → (∃ Pm3 : Value → MM → Prop, Runs e_X12_expr [.ref 156] m2 Pm3 ∧ (∀ r m3, Pm3 r m3 → r = .int 1 ∨ r = .int 0) ∧ (∀ m3, Pm3 (.int 1) m3 → (vp_in l3 400 ∧ (vp_in l3 400 ∧ (vp_in l3 400 ∧ (o_X12_isWord (wI (wI (wI (wI m3 172 (l3.toNatClampNeg) (m3.1 164 1)) 168 (l3.toNatClampNeg) (vp_nar .boolean l4)) 173 (l3.toNatClampNeg) l1) 167 1 (((wI (wI (wI m3 172 (l3.toNatClampNeg) (m3.1 164 1)) 168 (l3.toNatClampNeg) (vp_nar .boolean l4)) 173 (l3.toNatClampNeg) l1).1 167 1) + (1 : Int32))) (11 : Int32) ∧ ((p_X12_isWord (wI (wI (wI (wI m3 172 (l3.toNatClampNeg) (m3.1 164 1)) 168 (l3.toNatClampNeg) (vp_nar .boolean l4)) 173 (l3.toNatClampNeg) l1) 167 1 (((wI (wI (wI m3 172 (l3.toNatClampNeg) (m3.1 164 1)) 168 (l3.toNatClampNeg) (vp_nar .boolean l4)) 173 (l3.toNatClampNeg) l1).1 167 1) + (1 : Int32))) (11 : Int32) → (o_X12_isWord (wI (wI (wI (wI m3 172 (l3.toNatClampNeg) (m3.1 164 1)) 168 (l3.toNatClampNeg) (vp_nar .boolean l4)) 173 (l3.toNatClampNeg) l1) 167 1 (((wI (wI (wI m3 172 (l3.toNatClampNeg) (m3.1 164 1)) 168 (l3.toNatClampNeg) (vp_nar .boolean l4)) 173 (l3.toNatClampNeg) l1).1 167 1) + (1 : Int32))) (12 : Int32) ∧ ((p_X12_isWord (wI (wI (wI (wI m3 172 (l3.toNatClampNeg) (m3.1 164 1)) 168 (l3.toNatClampNeg) (vp_nar .boolean l4)) 173 (l3.toNatClampNeg) l1) 167 1 (((wI (wI (wI m3 172 (l3.toNatClampNeg) (m3.1 164 1)) 168 (l3.toNatClampNeg) (vp_nar .boolean l4)) 173 (l3.toNatClampNeg) l1).1 167 1) + (1 : Int32))) (12 : Int32) → (∃ Pm4 : Value → MM → Prop, Runs e_X12_pass [.ref 156] (wI (wI (wI (wI m3 172 (l3.toNatClampNeg) (m3.1 164 1)) 168 (l3.toNatClampNeg) (vp_nar .boolean l4)) 173 (l3.toNatClampNeg) l1) 167 1 (((wI (wI (wI m3 172 (l3.toNatClampNeg) (m3.1 164 1)) 168 (l3.toNatClampNeg) (vp_nar .boolean l4)) 173 (l3.toNatClampNeg) l1).1 167 1) + (1 : Int32))) Pm4 ∧ (∀ r m4, Pm4 r m4 → r = .int 1 ∨ r = .int 0) ∧ (∀ m4, Pm4 (.int 1) m4 → (G e_X12_cond 14 [(0, .ref 156), (1, .int (l1 + (1 : Int32))), (2, .int (1 : Int32))] [] m4 Q)) ∧ (∀ m4, Pm4 (.int 0) m4 → (Q (.int (0 : Int32)) m4)))) ∧ (¬ p_X12_isWord (wI (wI (wI (wI m3 172 (l3.toNatClampNeg) (m3.1 164 1)) 168 (l3.toNatClampNeg) (vp_nar .boolean l4)) 173 (l3.toNatClampNeg) l1) 167 1 (((wI (wI (wI m3 172 (l3.toNatClampNeg) (m3.1 164 1)) 168 (l3.toNatClampNeg) (vp_nar .boolean l4)) 173 (l3.toNatClampNeg) l1).1 167 1) + (1 : Int32))) (12 : Int32) → (∃ Pm4 : Value → MM → Prop, Runs e_X12_pass [.ref 156] (wI (wI (wI (wI m3 172 (l3.toNatClampNeg) (m3.1 164 1)) 168 (l3.toNatClampNeg) (vp_nar .boolean l4)) 173 (l3.toNatClampNeg) l1) 167 1 (((wI (wI (wI m3 172 (l3.toNatClampNeg) (m3.1 164 1)) 168 (l3.toNatClampNeg) (vp_nar .boolean l4)) 173 (l3.toNatClampNeg) l1).1 167 1) + (1 : Int32))) Pm4 ∧ (∀ r m4, Pm4 r m4 → r = .int 1 ∨ r = .int 0) ∧ (∀ m4, Pm4 (.int 1) m4 → (G e_X12_cond 14 [(0, .ref 156), (1, .int l1), (2, .int (1 : Int32))] [] m4 Q)) ∧ (∀ m4, Pm4 (.int 0) m4 → (Q (.int (0 : Int32)) m4))))))) ∧ (¬ p_X12_isWord (wI (wI (wI (wI m3 172 (l3.toNatClampNeg) (m3.1 164 1)) 168 (l3.toNatClampNeg) (vp_nar .boolean l4)) 173 (l3.toNatClampNeg) l1) 167 1 (((wI (wI (wI m3 172 (l3.toNatClampNeg) (m3.1 164 1)) 168 (l3.toNatClampNeg) (vp_nar .boolean l4)) 173 (l3.toNatClampNeg) l1).1 167 1) + (1 : Int32))) (11 : Int32) → (o_X12_isWord (wI (wI (wI (wI m3 172 (l3.toNatClampNeg) (m3.1 164 1)) 168 (l3.toNatClampNeg) (vp_nar .boolean l4)) 173 (l3.toNatClampNeg) l1) 167 1 (((wI (wI (wI m3 172 (l3.toNatClampNeg) (m3.1 164 1)) 168 (l3.toNatClampNeg) (vp_nar .boolean l4)) 173 (l3.toNatClampNeg) l1).1 167 1) + (1 : Int32))) (12 : Int32) ∧ ((p_X12_isWord (wI (wI (wI (wI m3 172 (l3.toNatClampNeg) (m3.1 164 1)) 168 (l3.toNatClampNeg) (vp_nar .boolean l4)) 173 (l3.toNatClampNeg) l1) 167 1 (((wI (wI (wI m3 172 (l3.toNatClampNeg) (m3.1 164 1)) 168 (l3.toNatClampNeg) (vp_nar .boolean l4)) 173 (l3.toNatClampNeg) l1).1 167 1) + (1 : Int32))) (12 : Int32) → (o_X12_isWord (wI (wI (wI (wI m3 172 (l3.toNatClampNeg) (m3.1 164 1)) 168 (l3.toNatClampNeg) (vp_nar .boolean l4)) 173 (l3.toNatClampNeg) l1) 167 1 (((wI (wI (wI m3 172 (l3.toNatClampNeg) (m3.1 164 1)) 168 (l3.toNatClampNeg) (vp_nar .boolean l4)) 173 (l3.toNatClampNeg) l1).1 167 1) + (1 : Int32))) (12 : Int32) ∧ ((p_X12_isWord (wI (wI (wI (wI m3 172 (l3.toNatClampNeg) (m3.1 164 1)) 168 (l3.toNatClampNeg) (vp_nar .boolean l4)) 173 (l3.toNatClampNeg) l1) 167 1 (((wI (wI (wI m3 172 (l3.toNatClampNeg) (m3.1 164 1)) 168 (l3.toNatClampNeg) (vp_nar .boolean l4)) 173 (l3.toNatClampNeg) l1).1 167 1) + (1 : Int32))) (12 : Int32) → (∃ Pm4 : Value → MM → Prop, Runs e_X12_pass [.ref 156] (wI (wI (wI (wI m3 172 (l3.toNatClampNeg) (m3.1 164 1)) 168 (l3.toNatClampNeg) (vp_nar .boolean l4)) 173 (l3.toNatClampNeg) l1) 167 1 (((wI (wI (wI m3 172 (l3.toNatClampNeg) (m3.1 164 1)) 168 (l3.toNatClampNeg) (vp_nar .boolean l4)) 173 (l3.toNatClampNeg) l1).1 167 1) + (1 : Int32))) Pm4 ∧ (∀ r m4, Pm4 r m4 → r = .int 1 ∨ r = .int 0) ∧ (∀ m4, Pm4 (.int 1) m4 → (G e_X12_cond 14 [(0, .ref 156), (1, .int (l1 + (1 : Int32))), (2, .int (1 : Int32))] [] m4 Q)) ∧ (∀ m4, Pm4 (.int 0) m4 → (Q (.int (0 : Int32)) m4)))) ∧ (¬ p_X12_isWord (wI (wI (wI (wI m3 172 (l3.toNatClampNeg) (m3.1 164 1)) 168 (l3.toNatClampNeg) (vp_nar .boolean l4)) 173 (l3.toNatClampNeg) l1) 167 1 (((wI (wI (wI m3 172 (l3.toNatClampNeg) (m3.1 164 1)) 168 (l3.toNatClampNeg) (vp_nar .boolean l4)) 173 (l3.toNatClampNeg) l1).1 167 1) + (1 : Int32))) (12 : Int32) → (∃ Pm4 : Value → MM → Prop, Runs e_X12_pass [.ref 156] (wI (wI (wI (wI m3 172 (l3.toNatClampNeg) (m3.1 164 1)) 168 (l3.toNatClampNeg) (vp_nar .boolean l4)) 173 (l3.toNatClampNeg) l1) 167 1 (((wI (wI (wI m3 172 (l3.toNatClampNeg) (m3.1 164 1)) 168 (l3.toNatClampNeg) (vp_nar .boolean l4)) 173 (l3.toNatClampNeg) l1).1 167 1) + (1 : Int32))) Pm4 ∧ (∀ r m4, Pm4 r m4 → r = .int 1 ∨ r = .int 0) ∧ (∀ m4, Pm4 (.int 1) m4 → (G e_X12_cond 14 [(0, .ref 156), (1, .int l1), (2, .int (1 : Int32))] [] m4 Q)) ∧ (∀ m4, Pm4 (.int 0) m4 → (Q (.int (0 : Int32)) m4))))))) ∧ (¬ p_X12_isWord (wI (wI (wI (wI m3 172 (l3.toNatClampNeg) (m3.1 164 1)) 168 (l3.toNatClampNeg) (vp_nar .boolean l4)) 173 (l3.toNatClampNeg) l1) 167 1 (((wI (wI (wI m3 172 (l3.toNatClampNeg) (m3.1 164 1)) 168 (l3.toNatClampNeg) (vp_nar .boolean l4)) 173 (l3.toNatClampNeg) l1).1 167 1) + (1 : Int32))) (12 : Int32) → (o_X12_isWord (wI (wI (wI (wI m3 172 (l3.toNatClampNeg) (m3.1 164 1)) 168 (l3.toNatClampNeg) (vp_nar .boolean l4)) 173 (l3.toNatClampNeg) l1) 167 1 (((wI (wI (wI m3 172 (l3.toNatClampNeg) (m3.1 164 1)) 168 (l3.toNatClampNeg) (vp_nar .boolean l4)) 173 (l3.toNatClampNeg) l1).1 167 1) + (1 : Int32))) (12 : Int32) ∧ ((p_X12_isWord (wI (wI (wI (wI m3 172 (l3.toNatClampNeg) (m3.1 164 1)) 168 (l3.toNatClampNeg) (vp_nar .boolean l4)) 173 (l3.toNatClampNeg) l1) 167 1 (((wI (wI (wI m3 172 (l3.toNatClampNeg) (m3.1 164 1)) 168 (l3.toNatClampNeg) (vp_nar .boolean l4)) 173 (l3.toNatClampNeg) l1).1 167 1) + (1 : Int32))) (12 : Int32) → (G e_X12_cond 14 [(0, .ref 156), (1, .int (l1 + (1 : Int32))), (2, .int (0 : Int32))] [] (wI (wI (wI (wI m3 172 (l3.toNatClampNeg) (m3.1 164 1)) 168 (l3.toNatClampNeg) (vp_nar .boolean l4)) 173 (l3.toNatClampNeg) l1) 167 1 (((wI (wI (wI m3 172 (l3.toNatClampNeg) (m3.1 164 1)) 168 (l3.toNatClampNeg) (vp_nar .boolean l4)) 173 (l3.toNatClampNeg) l1).1 167 1) + (1 : Int32))) Q)) ∧ (¬ p_X12_isWord (wI (wI (wI (wI m3 172 (l3.toNatClampNeg) (m3.1 164 1)) 168 (l3.toNatClampNeg) (vp_nar .boolean l4)) 173 (l3.toNatClampNeg) l1) 167 1 (((wI (wI (wI m3 172 (l3.toNatClampNeg) (m3.1 164 1)) 168 (l3.toNatClampNeg) (vp_nar .boolean l4)) 173 (l3.toNatClampNeg) l1).1 167 1) + (1 : Int32))) (12 : Int32) → (G e_X12_cond 14 [(0, .ref 156), (1, .int l1), (2, .int (0 : Int32))] [] (wI (wI (wI (wI m3 172 (l3.toNatClampNeg) (m3.1 164 1)) 168 (l3.toNatClampNeg) (vp_nar .boolean l4)) 173 (l3.toNatClampNeg) l1) 167 1 (((wI (wI (wI m3 172 (l3.toNatClampNeg) (m3.1 164 1)) 168 (l3.toNatClampNeg) (vp_nar .boolean l4)) 173 (l3.toNatClampNeg) l1).1 167 1) + (1 : Int32))) Q)))))))))))))) ∧ (∀ m3, Pm3 (.int 0) m3 → (Q (.int (0 : Int32)) m3)))) ∧ (∀ m2, Pm2 (.int 0) m2 → (Q (.int (0 : Int32)) m2)))))) ∧ (¬ p_X12_isSign (wI (wI m1 170 (l3.toNatClampNeg) (m1.1 156 32)) 171 (l3.toNatClampNeg) ((wI m1 170 (l3.toNatClampNeg) (m1.1 156 32)).1 164 1)) (302 : Int32) → (o_X12_isSign (wI (wI m1 170 (l3.toNatClampNeg) (m1.1 156 32)) 171 (l3.toNatClampNeg) ((wI m1 170 (l3.toNatClampNeg) (m1.1 156 32)).1 164 1)) (60 : Int32) ∧ ((p_X12_isSign (wI (wI m1 170 (l3.toNatClampNeg) (m1.1 156 32)) 171 (l3.toNatClampNeg) ((wI m1 170 (l3.toNatClampNeg) (m1.1 156 32)).1 164 1)) (60 : Int32) → (vp_in ((wI (wI m1 170 (l3.toNatClampNeg) (m1.1 156 32)) 171 (l3.toNatClampNeg) ((wI m1 170 (l3.toNatClampNeg) (m1.1 156 32)).1 164 1)).1 156 7) 2001 ∧ (vp_in l3 400 ∧ (∃ Pm2 : Value → MM → Prop, Runs e_X12_pass [.ref 156] (wI (wI (wI m1 170 (l3.toNatClampNeg) (m1.1 156 32)) 171 (l3.toNatClampNeg) ((wI m1 170 (l3.toNatClampNeg) (m1.1 156 32)).1 164 1)) 169 (l3.toNatClampNeg) ((wI (wI m1 170 (l3.toNatClampNeg) (m1.1 156 32)) 171 (l3.toNatClampNeg) ((wI m1 170 (l3.toNatClampNeg) (m1.1 156 32)).1 164 1)).1 160 ((wI (wI m1 170 (l3.toNatClampNeg) (m1.1 156 32)) 171 (l3.toNatClampNeg) ((wI m1 170 (l3.toNatClampNeg) (m1.1 156 32)).1 164 1)).1 156 7).toNatClampNeg)) Pm2 ∧ (∀ r m2, Pm2 r m2 → r = .int 1 ∨ r = .int 0) ∧ (∀ m2, Pm2 (.int 1) m2 → (∃ Pm3 : Value → MM → Prop, Runs e_X12_expr [.ref 156] m2 Pm3 ∧ (∀ r m3, Pm3 r m3 → r = .int 1 ∨ r = .int 0) ∧ (∀ m3, Pm3 (.int 1) m3 → (vp_in l3 400 ∧ (vp_in l3 400 ∧ (vp_in l3 400 ∧ (o_X12_isWord (wI (wI (wI (wI m3 172 (l3.toNatClampNeg) (m3.1 164 1)) 168 (l3.toNatClampNeg) (vp_nar .boolean l4)) 173 (l3.toNatClampNeg) l1) 167 1 (((wI (wI (wI m3 172 (l3.toNatClampNeg) (m3.1 164 1)) 168 (l3.toNatClampNeg) (vp_nar .boolean l4)) 173 (l3.toNatClampNeg) l1).1 167 1) + (1 : Int32))) (11 : Int32) ∧ ((p_X12_isWord (wI (wI (wI (wI m3 172 (l3.toNatClampNeg) (m3.1 164 1)) 168 (l3.toNatClampNeg) (vp_nar .boolean l4)) 173 (l3.toNatClampNeg) l1) 167 1 (((wI (wI (wI m3 172 (l3.toNatClampNeg) (m3.1 164 1)) 168 (l3.toNatClampNeg) (vp_nar .boolean l4)) 173 (l3.toNatClampNeg) l1).1 167 1) + (1 : Int32))) (11 : Int32) → (o_X12_isWord (wI (wI (wI (wI m3 172 (l3.toNatClampNeg) (m3.1 164 1)) 168 (l3.toNatClampNeg) (vp_nar .boolean l4)) 173 (l3.toNatClampNeg) l1) 167 1 (((wI (wI (wI m3 172 (l3.toNatClampNeg) (m3.1 164 1)) 168 (l3.toNatClampNeg) (vp_nar .boolean l4)) 173 (l3.toNatClampNeg) l1).1 167 1) + (1 : Int32))) (12 : Int32) ∧ ((p_X12_isWord (wI (wI (wI (wI m3 172 (l3.toNatClampNeg) (m3.1 164 1)) 168 (l3.toNatClampNeg) (vp_nar .boolean l4)) 173 (l3.toNatClampNeg) l1) 167 1 (((wI (wI (wI m3 172 (l3.toNatClampNeg) (m3.1 164 1)) 168 (l3.toNatClampNeg) (vp_nar .boolean l4)) 173 (l3.toNatClampNeg) l1).1 167 1) + (1 : Int32))) (12 : Int32) → (∃ Pm4 : Value → MM → Prop, Runs e_X12_pass [.ref 156] (wI (wI (wI (wI m3 172 (l3.toNatClampNeg) (m3.1 164 1)) 168 (l3.toNatClampNeg) (vp_nar .boolean l4)) 173 (l3.toNatClampNeg) l1) 167 1 (((wI (wI (wI m3 172 (l3.toNatClampNeg) (m3.1 164 1)) 168 (l3.toNatClampNeg) (vp_nar .boolean l4)) 173 (l3.toNatClampNeg) l1).1 167 1) + (1 : Int32))) Pm4 ∧ (∀ r m4, Pm4 r m4 → r = .int 1 ∨ r = .int 0) ∧ (∀ m4, Pm4 (.int 1) m4 → (G e_X12_cond 14 [(0, .ref 156), (1, .int (l1 + (1 : Int32))), (2, .int (1 : Int32))] [] m4 Q)) ∧ (∀ m4, Pm4 (.int 0) m4 → (Q (.int (0 : Int32)) m4)))) ∧ (¬ p_X12_isWord (wI (wI (wI (wI m3 172 (l3.toNatClampNeg) (m3.1 164 1)) 168 (l3.toNatClampNeg) (vp_nar .boolean l4)) 173 (l3.toNatClampNeg) l1) 167 1 (((wI (wI (wI m3 172 (l3.toNatClampNeg) (m3.1 164 1)) 168 (l3.toNatClampNeg) (vp_nar .boolean l4)) 173 (l3.toNatClampNeg) l1).1 167 1) + (1 : Int32))) (12 : Int32) → (∃ Pm4 : Value → MM → Prop, Runs e_X12_pass [.ref 156] (wI (wI (wI (wI m3 172 (l3.toNatClampNeg) (m3.1 164 1)) 168 (l3.toNatClampNeg) (vp_nar .boolean l4)) 173 (l3.toNatClampNeg) l1) 167 1 (((wI (wI (wI m3 172 (l3.toNatClampNeg) (m3.1 164 1)) 168 (l3.toNatClampNeg) (vp_nar .boolean l4)) 173 (l3.toNatClampNeg) l1).1 167 1) + (1 : Int32))) Pm4 ∧ (∀ r m4, Pm4 r m4 → r = .int 1 ∨ r = .int 0) ∧ (∀ m4, Pm4 (.int 1) m4 → (G e_X12_cond 14 [(0, .ref 156), (1, .int l1), (2, .int (1 : Int32))] [] m4 Q)) ∧ (∀ m4, Pm4 (.int 0) m4 → (Q (.int (0 : Int32)) m4))))))) ∧ (¬ p_X12_isWord (wI (wI (wI (wI m3 172 (l3.toNatClampNeg) (m3.1 164 1)) 168 (l3.toNatClampNeg) (vp_nar .boolean l4)) 173 (l3.toNatClampNeg) l1) 167 1 (((wI (wI (wI m3 172 (l3.toNatClampNeg) (m3.1 164 1)) 168 (l3.toNatClampNeg) (vp_nar .boolean l4)) 173 (l3.toNatClampNeg) l1).1 167 1) + (1 : Int32))) (11 : Int32) → (o_X12_isWord (wI (wI (wI (wI m3 172 (l3.toNatClampNeg) (m3.1 164 1)) 168 (l3.toNatClampNeg) (vp_nar .boolean l4)) 173 (l3.toNatClampNeg) l1) 167 1 (((wI (wI (wI m3 172 (l3.toNatClampNeg) (m3.1 164 1)) 168 (l3.toNatClampNeg) (vp_nar .boolean l4)) 173 (l3.toNatClampNeg) l1).1 167 1) + (1 : Int32))) (12 : Int32) ∧ ((p_X12_isWord (wI (wI (wI (wI m3 172 (l3.toNatClampNeg) (m3.1 164 1)) 168 (l3.toNatClampNeg) (vp_nar .boolean l4)) 173 (l3.toNatClampNeg) l1) 167 1 (((wI (wI (wI m3 172 (l3.toNatClampNeg) (m3.1 164 1)) 168 (l3.toNatClampNeg) (vp_nar .boolean l4)) 173 (l3.toNatClampNeg) l1).1 167 1) + (1 : Int32))) (12 : Int32) → (o_X12_isWord (wI (wI (wI (wI m3 172 (l3.toNatClampNeg) (m3.1 164 1)) 168 (l3.toNatClampNeg) (vp_nar .boolean l4)) 173 (l3.toNatClampNeg) l1) 167 1 (((wI (wI (wI m3 172 (l3.toNatClampNeg) (m3.1 164 1)) 168 (l3.toNatClampNeg) (vp_nar .boolean l4)) 173 (l3.toNatClampNeg) l1).1 167 1) + (1 : Int32))) (12 : Int32) ∧ ((p_X12_isWord (wI (wI (wI (wI m3 172 (l3.toNatClampNeg) (m3.1 164 1)) 168 (l3.toNatClampNeg) (vp_nar .boolean l4)) 173 (l3.toNatClampNeg) l1) 167 1 (((wI (wI (wI m3 172 (l3.toNatClampNeg) (m3.1 164 1)) 168 (l3.toNatClampNeg) (vp_nar .boolean l4)) 173 (l3.toNatClampNeg) l1).1 167 1) + (1 : Int32))) (12 : Int32) → (∃ Pm4 : Value → MM → Prop, Runs e_X12_pass [.ref 156] (wI (wI (wI (wI m3 172 (l3.toNatClampNeg) (m3.1 164 1)) 168 (l3.toNatClampNeg) (vp_nar .boolean l4)) 173 (l3.toNatClampNeg) l1) 167 1 (((wI (wI (wI m3 172 (l3.toNatClampNeg) (m3.1 164 1)) 168 (l3.toNatClampNeg) (vp_nar .boolean l4)) 173 (l3.toNatClampNeg) l1).1 167 1) + (1 : Int32))) Pm4 ∧ (∀ r m4, Pm4 r m4 → r = .int 1 ∨ r = .int 0) ∧ (∀ m4, Pm4 (.int 1) m4 → (G e_X12_cond 14 [(0, .ref 156), (1, .int (l1 + (1 : Int32))), (2, .int (1 : Int32))] [] m4 Q)) ∧ (∀ m4, Pm4 (.int 0) m4 → (Q (.int (0 : Int32)) m4)))) ∧ (¬ p_X12_isWord (wI (wI (wI (wI m3 172 (l3.toNatClampNeg) (m3.1 164 1)) 168 (l3.toNatClampNeg) (vp_nar .boolean l4)) 173 (l3.toNatClampNeg) l1) 167 1 (((wI (wI (wI m3 172 (l3.toNatClampNeg) (m3.1 164 1)) 168 (l3.toNatClampNeg) (vp_nar .boolean l4)) 173 (l3.toNatClampNeg) l1).1 167 1) + (1 : Int32))) (12 : Int32) → (∃ Pm4 : Value → MM → Prop, Runs e_X12_pass [.ref 156] (wI (wI (wI (wI m3 172 (l3.toNatClampNeg) (m3.1 164 1)) 168 (l3.toNatClampNeg) (vp_nar .boolean l4)) 173 (l3.toNatClampNeg) l1) 167 1 (((wI (wI (wI m3 172 (l3.toNatClampNeg) (m3.1 164 1)) 168 (l3.toNatClampNeg) (vp_nar .boolean l4)) 173 (l3.toNatClampNeg) l1).1 167 1) + (1 : Int32))) Pm4 ∧ (∀ r m4, Pm4 r m4 → r = .int 1 ∨ r = .int 0) ∧ (∀ m4, Pm4 (.int 1) m4 → (G e_X12_cond 14 [(0, .ref 156), (1, .int l1), (2, .int (1 : Int32))] [] m4 Q)) ∧ (∀ m4, Pm4 (.int 0) m4 → (Q (.int (0 : Int32)) m4))))))) ∧ (¬ p_X12_isWord (wI (wI (wI (wI m3 172 (l3.toNatClampNeg) (m3.1 164 1)) 168 (l3.toNatClampNeg) (vp_nar .boolean l4)) 173 (l3.toNatClampNeg) l1) 167 1 (((wI (wI (wI m3 172 (l3.toNatClampNeg) (m3.1 164 1)) 168 (l3.toNatClampNeg) (vp_nar .boolean l4)) 173 (l3.toNatClampNeg) l1).1 167 1) + (1 : Int32))) (12 : Int32) → (o_X12_isWord (wI (wI (wI (wI m3 172 (l3.toNatClampNeg) (m3.1 164 1)) 168 (l3.toNatClampNeg) (vp_nar .boolean l4)) 173 (l3.toNatClampNeg) l1) 167 1 (((wI (wI (wI m3 172 (l3.toNatClampNeg) (m3.1 164 1)) 168 (l3.toNatClampNeg) (vp_nar .boolean l4)) 173 (l3.toNatClampNeg) l1).1 167 1) + (1 : Int32))) (12 : Int32) ∧ ((p_X12_isWord (wI (wI (wI (wI m3 172 (l3.toNatClampNeg) (m3.1 164 1)) 168 (l3.toNatClampNeg) (vp_nar .boolean l4)) 173 (l3.toNatClampNeg) l1) 167 1 (((wI (wI (wI m3 172 (l3.toNatClampNeg) (m3.1 164 1)) 168 (l3.toNatClampNeg) (vp_nar .boolean l4)) 173 (l3.toNatClampNeg) l1).1 167 1) + (1 : Int32))) (12 : Int32) → (G e_X12_cond 14 [(0, .ref 156), (1, .int (l1 + (1 : Int32))), (2, .int (0 : Int32))] [] (wI (wI (wI (wI m3 172 (l3.toNatClampNeg) (m3.1 164 1)) 168 (l3.toNatClampNeg) (vp_nar .boolean l4)) 173 (l3.toNatClampNeg) l1) 167 1 (((wI (wI (wI m3 172 (l3.toNatClampNeg) (m3.1 164 1)) 168 (l3.toNatClampNeg) (vp_nar .boolean l4)) 173 (l3.toNatClampNeg) l1).1 167 1) + (1 : Int32))) Q)) ∧ (¬ p_X12_isWord (wI (wI (wI (wI m3 172 (l3.toNatClampNeg) (m3.1 164 1)) 168 (l3.toNatClampNeg) (vp_nar .boolean l4)) 173 (l3.toNatClampNeg) l1) 167 1 (((wI (wI (wI m3 172 (l3.toNatClampNeg) (m3.1 164 1)) 168 (l3.toNatClampNeg) (vp_nar .boolean l4)) 173 (l3.toNatClampNeg) l1).1 167 1) + (1 : Int32))) (12 : Int32) → (G e_X12_cond 14 [(0, .ref 156), (1, .int l1), (2, .int (0 : Int32))] [] (wI (wI (wI (wI m3 172 (l3.toNatClampNeg) (m3.1 164 1)) 168 (l3.toNatClampNeg) (vp_nar .boolean l4)) 173 (l3.toNatClampNeg) l1) 167 1 (((wI (wI (wI m3 172 (l3.toNatClampNeg) (m3.1 164 1)) 168 (l3.toNatClampNeg) (vp_nar .boolean l4)) 173 (l3.toNatClampNeg) l1).1 167 1) + (1 : Int32))) Q)))))))))))))) ∧ (∀ m3, Pm3 (.int 0) m3 → (Q (.int (0 : Int32)) m3)))) ∧ (∀ m2, Pm2 (.int 0) m2 → (Q (.int (0 : Int32)) m2)))))) ∧ (¬ p_X12_isSign (wI (wI m1 170 (l3.toNatClampNeg) (m1.1 156 32)) 171 (l3.toNatClampNeg) ((wI m1 170 (l3.toNatClampNeg) (m1.1 156 32)).1 164 1)) (60 : Int32) → (∃ Pm2 : Value → MM → Prop, Runs e_X12_wrong [.ref 156, .int (1 : Int32)] (wI (wI m1 170 (l3.toNatClampNeg) (m1.1 156 32)) 171 (l3.toNatClampNeg) ((wI m1 170 (l3.toNatClampNeg) (m1.1 156 32)).1 164 1)) Pm2 ∧ (∀ r m2, Pm2 r m2 → r = .int 1 ∨ r = .int 0) ∧ (∀ m2, Pm2 (.int 1) m2 → (Q (.int (1 : Int32)) m2)) ∧ (∀ m2, Pm2 (.int 0) m2 → (Q (.int (0 : Int32)) m2)))))))))))))))))) ∧ (∀ m1, Pm1 (.int 0) m1 → (Q (.int (0 : Int32)) m1)))))) : G e_X12_cond 32 [(0, .ref 156), (1, .int l1), (3, .int l3), (4, .int l4)] [] mm Q := by
  refine g_aload_n (pc := 32) (x := 156) dX12_cond_32 rfl ?_
  refine g_bipush (pc := 33) (v := (10 : Int32)) dX12_cond_33 (by decide) ?_
  refine g_callV (pc := 35) (as := [.int (10 : Int32)]) dX12_cond_35 cw_X12_271 (by decide) rfl rfl sh_156 (Nat.le_of_ble_eq_true rfl) (rv_X12_isWord mm (10 : Int32) h.1) ?_
  have h := h.2
  rintro r_ m_ hz_ ⟨⟨p_, rfl⟩ | ⟨p_, rfl⟩, rfl⟩
  · have h := h.1 p_
    refine g_if_eq (pc := 38) (tgt := 65) dX12_cond_38 (by decide) (fun c38 => absurd c38 (by decide)) (fun _ => ?_)
    refine g_aload_n (pc := 41) (x := 156) dX12_cond_41 rfl ?_
    obtain ⟨Pm1, hRm1, h⟩ := h
    refine g_callV (pc := 42) (as := []) dX12_cond_42 cw_X12_230 (by decide) rfl rfl sh_156 (Nat.le_of_ble_eq_true rfl) hRm1 ?_
    intro r_ m1 hz_ hp_
    rcases h.1 r_ m1 hp_ with rfl | rfl
    · have h := h.2.1 m1 hp_
      refine g_if_ne (pc := 45) (tgt := 50) dX12_cond_45 (by decide) (fun _ => ?_) (fun c45 => absurd c45 (by decide))
      refine g_iload (pc := 50) (x := l4) dX12_cond_50 rfl ?_
      refine g_if_ne (pc := 52) (tgt := 59) dX12_cond_52 (by decide) (fun c52 => ?_) (fun c52 => ?_)
      · have h := h.1 c52
        refine g_iconst (pc := 59) (v := (0 : Int32)) dX12_cond_59 (by decide) ?_
        refine g_istore (pc := 60) (L' := [(0, .ref 156), (1, .int l1), (3, .int l3), (4, .int (0 : Int32))]) dX12_cond_60 (Nat.le_of_ble_eq_true rfl) rfl ?_
        refine g_goto (pc := 62) (tgt := 32) dX12_cond_62 (by decide) ?_
        exact h
      · have h := h.2 c52
        refine g_iconst (pc := 55) (v := (1 : Int32)) dX12_cond_55 (by decide) ?_
        refine g_goto (pc := 56) (tgt := 60) dX12_cond_56 (by decide) ?_
        refine g_istore (pc := 60) (L' := [(0, .ref 156), (1, .int l1), (3, .int l3), (4, .int (1 : Int32))]) dX12_cond_60 (Nat.le_of_ble_eq_true rfl) rfl ?_
        refine g_goto (pc := 62) (tgt := 32) dX12_cond_62 (by decide) ?_
        exact h
    · have h := h.2.2 m1 hp_
      refine g_if_ne (pc := 45) (tgt := 50) dX12_cond_45 (by decide) (fun c45 => absurd c45 (by decide)) (fun _ => ?_)
      refine g_iconst (pc := 48) (v := (0 : Int32)) dX12_cond_48 (by decide) ?_
      exact g_iret (pc := 49) dX12_cond_49 rfl rfl (nar_B isB0) h
  · have h := h.2 p_
    refine g_if_eq (pc := 38) (tgt := 65) dX12_cond_38 (by decide) (fun _ => ?_) (fun c38 => absurd c38 (by decide))
    refine g_aload_n (pc := 65) (x := 156) dX12_cond_65 rfl ?_
    obtain ⟨Pm1, hRm1, h⟩ := h
    refine g_callV (pc := 66) (as := []) dX12_cond_66 cw_X12_274 (by decide) rfl rfl sh_156 (Nat.le_of_ble_eq_true rfl) hRm1 ?_
    intro r_ m1 hz_ hp_
    rcases h.1 r_ m1 hp_ with rfl | rfl
    · have h := h.2.1 m1 hp_
      refine g_if_ne (pc := 69) (tgt := 74) dX12_cond_69 (by decide) (fun _ => ?_) (fun c69 => absurd c69 (by decide))
      refine g_aload_n (pc := 74) (x := 156) dX12_cond_74 rfl ?_
      refine g_getR (pc := 75) (dd := 14) dX12_cond_75 fo_X12_55 sh_156 rfl ?_
      refine g_iload_n (pc := 78) (x := l3) dX12_cond_78 rfl ?_
      refine g_aload_n (pc := 79) (x := 156) dX12_cond_79 rfl ?_
      refine g_getI (pc := 80) dX12_cond_80 fo_X12_253 sh_156 rfl ?_
      refine g_iastore (pc := 83) dX12_cond_83 sh_170 h.1 ?_
      have h := h.2
      refine g_aload_n (pc := 84) (x := 156) dX12_cond_84 rfl ?_
      refine g_getR (pc := 85) (dd := 15) dX12_cond_85 fo_X12_58 sh_156 rfl ?_
      refine g_iload_n (pc := 88) (x := l3) dX12_cond_88 rfl ?_
      refine g_aload_n (pc := 89) (x := 156) dX12_cond_89 rfl ?_
      refine g_getR (pc := 90) (dd := 8) dX12_cond_90 fo_X12_36 sh_156 rfl ?_
      refine g_iconst (pc := 93) (v := (1 : Int32)) dX12_cond_93 (by decide) ?_
      refine g_iaload (pc := 94) dX12_cond_94 sh_164 (vp_in_nI (n := 1) (N := 2) (by decide) (by decide)) ?_
      refine g_iastore (pc := 95) dX12_cond_95 sh_171 h.1 ?_
      have h := h.2
      refine g_aload_n (pc := 96) (x := 156) dX12_cond_96 rfl ?_
      refine g_sipush (pc := 97) (v := (300 : Int32)) dX12_cond_97 (by decide) ?_
      refine g_callV (pc := 100) (as := [.int (300 : Int32)]) dX12_cond_100 cw_X12_256 (by decide) rfl rfl sh_156 (Nat.le_of_ble_eq_true rfl) (rv_X12_isSign (wI (wI m1 170 (l3.toNatClampNeg) (m1.1 156 32)) 171 (l3.toNatClampNeg) ((wI m1 170 (l3.toNatClampNeg) (m1.1 156 32)).1 164 1)) (300 : Int32) h.1) ?_
      have h := h.2
      rintro r_ m_ hz_ ⟨⟨p_, rfl⟩ | ⟨p_, rfl⟩, rfl⟩
      · have h := h.1 p_
        refine g_if_ne (pc := 103) (tgt := 135) dX12_cond_103 (by decide) (fun _ => ?_) (fun c103 => absurd c103 (by decide))
        refine g_iconst (pc := 135) (v := (1 : Int32)) dX12_cond_135 (by decide) ?_
        refine g_goto (pc := 136) (tgt := 140) dX12_cond_136 (by decide) ?_
        refine g_istore (pc := 140) (L' := [(0, .ref 156), (1, .int l1), (3, .int l3), (4, .int l4), (5, .int (1 : Int32))]) dX12_cond_140 (Nat.le_of_ble_eq_true rfl) rfl ?_
        refine g_iload (pc := 142) (x := (1 : Int32)) dX12_cond_142 rfl ?_
        refine g_if_ne (pc := 144) (tgt := 153) dX12_cond_144 (by decide) (fun _ => ?_) (fun c144 => absurd c144 (by decide))
        refine g_aload_n (pc := 153) (x := 156) dX12_cond_153 rfl ?_
        refine g_getR (pc := 154) (dd := 13) dX12_cond_154 fo_X12_52 sh_156 rfl ?_
        refine g_iload_n (pc := 157) (x := l3) dX12_cond_157 rfl ?_
        refine g_aload_n (pc := 158) (x := 156) dX12_cond_158 rfl ?_
        refine g_getR (pc := 159) (dd := 4) dX12_cond_159 fo_X12_19 sh_156 rfl ?_
        refine g_aload_n (pc := 162) (x := 156) dX12_cond_162 rfl ?_
        refine g_getI (pc := 163) dX12_cond_163 fo_X12_218 sh_156 rfl ?_
        refine g_iaload (pc := 166) dX12_cond_166 sh_160 h.1 ?_
        have h := h.2
        refine g_iastore (pc := 167) dX12_cond_167 sh_169 h.1 ?_
        have h := h.2
        refine g_aload_n (pc := 168) (x := 156) dX12_cond_168 rfl ?_
        obtain ⟨Pm2, hRm2, h⟩ := h
        refine g_callV (pc := 169) (as := []) dX12_cond_169 cw_X12_230 (by decide) rfl rfl sh_156 (Nat.le_of_ble_eq_true rfl) hRm2 ?_
        intro r_ m2 hz_ hp_
        rcases h.1 r_ m2 hp_ with rfl | rfl
        · have h := h.2.1 m2 hp_
          refine g_if_eq (pc := 172) (tgt := 182) dX12_cond_172 (by decide) (fun c172 => absurd c172 (by decide)) (fun _ => ?_)
          refine g_aload_n (pc := 175) (x := 156) dX12_cond_175 rfl ?_
          obtain ⟨Pm3, hRm3, h⟩ := h
          refine g_callV (pc := 176) (as := []) dX12_cond_176 cw_X12_274 (by decide) rfl rfl sh_156 (Nat.le_of_ble_eq_true rfl) hRm3 ?_
          intro r_ m3 hz_ hp_
          rcases h.1 r_ m3 hp_ with rfl | rfl
          · have h := h.2.1 m3 hp_
            refine g_if_ne (pc := 179) (tgt := 184) dX12_cond_179 (by decide) (fun _ => ?_) (fun c179 => absurd c179 (by decide))
            refine g_aload_n (pc := 184) (x := 156) dX12_cond_184 rfl ?_
            refine g_getR (pc := 185) (dd := 16) dX12_cond_185 fo_X12_61 sh_156 rfl ?_
            refine g_iload_n (pc := 188) (x := l3) dX12_cond_188 rfl ?_
            refine g_aload_n (pc := 189) (x := 156) dX12_cond_189 rfl ?_
            refine g_getR (pc := 190) (dd := 8) dX12_cond_190 fo_X12_36 sh_156 rfl ?_
            refine g_iconst (pc := 193) (v := (1 : Int32)) dX12_cond_193 (by decide) ?_
            refine g_iaload (pc := 194) dX12_cond_194 sh_164 (vp_in_nI (n := 1) (N := 2) (by decide) (by decide)) ?_
            refine g_iastore (pc := 195) dX12_cond_195 sh_172 h.1 ?_
            have h := h.2
            refine g_aload_n (pc := 196) (x := 156) dX12_cond_196 rfl ?_
            refine g_getR (pc := 197) (dd := 12) dX12_cond_197 fo_X12_48 sh_156 rfl ?_
            refine g_iload_n (pc := 200) (x := l3) dX12_cond_200 rfl ?_
            refine g_iload (pc := 201) (x := l4) dX12_cond_201 rfl ?_
            refine g_zastore (pc := 203) dX12_cond_203 sh_168 h.1 ?_
            have h := h.2
            refine g_aload_n (pc := 204) (x := 156) dX12_cond_204 rfl ?_
            refine g_getR (pc := 205) (dd := 17) dX12_cond_205 fo_X12_64 sh_156 rfl ?_
            refine g_iload_n (pc := 208) (x := l3) dX12_cond_208 rfl ?_
            refine g_iload_n (pc := 209) (x := l1) dX12_cond_209 rfl ?_
            refine g_iastore (pc := 210) dX12_cond_210 sh_173 h.1 ?_
            have h := h.2
            refine g_aload_n (pc := 211) (x := 156) dX12_cond_211 rfl ?_
            refine g_getR (pc := 212) (dd := 11) dX12_cond_212 fo_X12_45 sh_156 rfl ?_
            refine g_iconst (pc := 215) (v := (1 : Int32)) dX12_cond_215 (by decide) ?_
            refine g_dup2 (pc := 216) dX12_cond_216 rfl rfl ?_
            refine g_iaload (pc := 217) dX12_cond_217 sh_167 (vp_in_nI (n := 1) (N := 2) (by decide) (by decide)) ?_
            refine g_iconst (pc := 218) (v := (1 : Int32)) dX12_cond_218 (by decide) ?_
            refine g_iadd (pc := 219) dX12_cond_219 ?_
            refine g_iastore (pc := 220) dX12_cond_220 sh_167 (vp_in_nI (n := 1) (N := 2) (by decide) (by decide)) ?_
            refine g_aload_n (pc := 221) (x := 156) dX12_cond_221 rfl ?_
            refine g_bipush (pc := 222) (v := (11 : Int32)) dX12_cond_222 (by decide) ?_
            refine g_callV (pc := 224) (as := [.int (11 : Int32)]) dX12_cond_224 cw_X12_271 (by decide) rfl rfl sh_156 (Nat.le_of_ble_eq_true rfl) (rv_X12_isWord (wI (wI (wI (wI m3 172 (l3.toNatClampNeg) (m3.1 164 1)) 168 (l3.toNatClampNeg) (vp_nar .boolean l4)) 173 (l3.toNatClampNeg) l1) 167 1 (((wI (wI (wI m3 172 (l3.toNatClampNeg) (m3.1 164 1)) 168 (l3.toNatClampNeg) (vp_nar .boolean l4)) 173 (l3.toNatClampNeg) l1).1 167 1) + (1 : Int32))) (11 : Int32) h.1) ?_
            have h := h.2
            rintro r_ m_ hz_ ⟨⟨p_, rfl⟩ | ⟨p_, rfl⟩, rfl⟩
            · have h := h.1 p_
              refine g_if_ne (pc := 227) (tgt := 239) dX12_cond_227 (by decide) (fun _ => ?_) (fun c227 => absurd c227 (by decide))
              refine g_iconst (pc := 239) (v := (1 : Int32)) dX12_cond_239 (by decide) ?_
              refine g_goto (pc := 240) (tgt := 244) dX12_cond_240 (by decide) ?_
              refine g_istore_n (pc := 244) (L' := [(0, .ref 156), (1, .int l1), (3, .int l3), (4, .int l4), (5, .int (1 : Int32)), (2, .int (1 : Int32))]) dX12_cond_244 (Nat.le_of_ble_eq_true rfl) rfl ?_
              refine g_aload_n (pc := 245) (x := 156) dX12_cond_245 rfl ?_
              refine g_bipush (pc := 246) (v := (12 : Int32)) dX12_cond_246 (by decide) ?_
              refine g_callV (pc := 248) (as := [.int (12 : Int32)]) dX12_cond_248 cw_X12_271 (by decide) rfl rfl sh_156 (Nat.le_of_ble_eq_true rfl) (rv_X12_isWord (wI (wI (wI (wI m3 172 (l3.toNatClampNeg) (m3.1 164 1)) 168 (l3.toNatClampNeg) (vp_nar .boolean l4)) 173 (l3.toNatClampNeg) l1) 167 1 (((wI (wI (wI m3 172 (l3.toNatClampNeg) (m3.1 164 1)) 168 (l3.toNatClampNeg) (vp_nar .boolean l4)) 173 (l3.toNatClampNeg) l1).1 167 1) + (1 : Int32))) (12 : Int32) h.1) ?_
              have h := h.2
              rintro r_ m_ hz_ ⟨⟨p_, rfl⟩ | ⟨p_, rfl⟩, rfl⟩
              · have h := h.1 p_
                refine g_if_eq (pc := 251) (tgt := 257) dX12_cond_251 (by decide) (fun c251 => absurd c251 (by decide)) (fun _ => ?_)
                refine g_iinc (pc := 254) (x := l1) (v := (l1 + (1 : Int32))) (L' := [(0, .ref 156), (1, .int (l1 + (1 : Int32))), (3, .int l3), (4, .int l4), (5, .int (1 : Int32)), (2, .int (1 : Int32))]) dX12_cond_254 rfl rfl (Nat.le_of_ble_eq_true rfl) rfl ?_
                refine g_iload_n (pc := 257) (x := (1 : Int32)) dX12_cond_257 rfl ?_
                refine g_if_eq (pc := 258) (tgt := 270) dX12_cond_258 (by decide) (fun c258 => absurd c258 (by decide)) (fun _ => ?_)
                refine g_aload_n (pc := 261) (x := 156) dX12_cond_261 rfl ?_
                obtain ⟨Pm4, hRm4, h⟩ := h
                refine g_callV (pc := 262) (as := []) dX12_cond_262 cw_X12_230 (by decide) rfl rfl sh_156 (Nat.le_of_ble_eq_true rfl) hRm4 ?_
                intro r_ m4 hz_ hp_
                rcases h.1 r_ m4 hp_ with rfl | rfl
                · have h := h.2.1 m4 hp_
                  refine g_if_ne (pc := 265) (tgt := 270) dX12_cond_265 (by decide) (fun _ => ?_) (fun c265 => absurd c265 (by decide))
                  refine g_goto (pc := 270) (tgt := 14) dX12_cond_270 (by decide) ?_
                  refine g_sub (L' := [(0, .ref 156), (1, .int (l1 + (1 : Int32))), (2, .int (1 : Int32))]) [0, 1, 5] rfl ?_
                  exact h
                · have h := h.2.2 m4 hp_
                  refine g_if_ne (pc := 265) (tgt := 270) dX12_cond_265 (by decide) (fun c265 => absurd c265 (by decide)) (fun _ => ?_)
                  refine g_iconst (pc := 268) (v := (0 : Int32)) dX12_cond_268 (by decide) ?_
                  exact g_iret (pc := 269) dX12_cond_269 rfl rfl (nar_B isB0) h
              · have h := h.2 p_
                refine g_if_eq (pc := 251) (tgt := 257) dX12_cond_251 (by decide) (fun _ => ?_) (fun c251 => absurd c251 (by decide))
                refine g_iload_n (pc := 257) (x := (1 : Int32)) dX12_cond_257 rfl ?_
                refine g_if_eq (pc := 258) (tgt := 270) dX12_cond_258 (by decide) (fun c258 => absurd c258 (by decide)) (fun _ => ?_)
                refine g_aload_n (pc := 261) (x := 156) dX12_cond_261 rfl ?_
                obtain ⟨Pm4, hRm4, h⟩ := h
                refine g_callV (pc := 262) (as := []) dX12_cond_262 cw_X12_230 (by decide) rfl rfl sh_156 (Nat.le_of_ble_eq_true rfl) hRm4 ?_
                intro r_ m4 hz_ hp_
                rcases h.1 r_ m4 hp_ with rfl | rfl
                · have h := h.2.1 m4 hp_
                  refine g_if_ne (pc := 265) (tgt := 270) dX12_cond_265 (by decide) (fun _ => ?_) (fun c265 => absurd c265 (by decide))
                  refine g_goto (pc := 270) (tgt := 14) dX12_cond_270 (by decide) ?_
                  refine g_sub (L' := [(0, .ref 156), (1, .int l1), (2, .int (1 : Int32))]) [0, 1, 5] rfl ?_
                  exact h
                · have h := h.2.2 m4 hp_
                  refine g_if_ne (pc := 265) (tgt := 270) dX12_cond_265 (by decide) (fun c265 => absurd c265 (by decide)) (fun _ => ?_)
                  refine g_iconst (pc := 268) (v := (0 : Int32)) dX12_cond_268 (by decide) ?_
                  exact g_iret (pc := 269) dX12_cond_269 rfl rfl (nar_B isB0) h
            · have h := h.2 p_
              refine g_if_ne (pc := 227) (tgt := 239) dX12_cond_227 (by decide) (fun c227 => absurd c227 (by decide)) (fun _ => ?_)
              refine g_aload_n (pc := 230) (x := 156) dX12_cond_230 rfl ?_
              refine g_bipush (pc := 231) (v := (12 : Int32)) dX12_cond_231 (by decide) ?_
              refine g_callV (pc := 233) (as := [.int (12 : Int32)]) dX12_cond_233 cw_X12_271 (by decide) rfl rfl sh_156 (Nat.le_of_ble_eq_true rfl) (rv_X12_isWord (wI (wI (wI (wI m3 172 (l3.toNatClampNeg) (m3.1 164 1)) 168 (l3.toNatClampNeg) (vp_nar .boolean l4)) 173 (l3.toNatClampNeg) l1) 167 1 (((wI (wI (wI m3 172 (l3.toNatClampNeg) (m3.1 164 1)) 168 (l3.toNatClampNeg) (vp_nar .boolean l4)) 173 (l3.toNatClampNeg) l1).1 167 1) + (1 : Int32))) (12 : Int32) h.1) ?_
              have h := h.2
              rintro r_ m_ hz_ ⟨⟨p_, rfl⟩ | ⟨p_, rfl⟩, rfl⟩
              · have h := h.1 p_
                refine g_if_eq (pc := 236) (tgt := 243) dX12_cond_236 (by decide) (fun c236 => absurd c236 (by decide)) (fun _ => ?_)
                refine g_iconst (pc := 239) (v := (1 : Int32)) dX12_cond_239 (by decide) ?_
                refine g_goto (pc := 240) (tgt := 244) dX12_cond_240 (by decide) ?_
                refine g_istore_n (pc := 244) (L' := [(0, .ref 156), (1, .int l1), (3, .int l3), (4, .int l4), (5, .int (1 : Int32)), (2, .int (1 : Int32))]) dX12_cond_244 (Nat.le_of_ble_eq_true rfl) rfl ?_
                refine g_aload_n (pc := 245) (x := 156) dX12_cond_245 rfl ?_
                refine g_bipush (pc := 246) (v := (12 : Int32)) dX12_cond_246 (by decide) ?_
                refine g_callV (pc := 248) (as := [.int (12 : Int32)]) dX12_cond_248 cw_X12_271 (by decide) rfl rfl sh_156 (Nat.le_of_ble_eq_true rfl) (rv_X12_isWord (wI (wI (wI (wI m3 172 (l3.toNatClampNeg) (m3.1 164 1)) 168 (l3.toNatClampNeg) (vp_nar .boolean l4)) 173 (l3.toNatClampNeg) l1) 167 1 (((wI (wI (wI m3 172 (l3.toNatClampNeg) (m3.1 164 1)) 168 (l3.toNatClampNeg) (vp_nar .boolean l4)) 173 (l3.toNatClampNeg) l1).1 167 1) + (1 : Int32))) (12 : Int32) h.1) ?_
                have h := h.2
                rintro r_ m_ hz_ ⟨⟨p_, rfl⟩ | ⟨p_, rfl⟩, rfl⟩
                · have h := h.1 p_
                  refine g_if_eq (pc := 251) (tgt := 257) dX12_cond_251 (by decide) (fun c251 => absurd c251 (by decide)) (fun _ => ?_)
                  refine g_iinc (pc := 254) (x := l1) (v := (l1 + (1 : Int32))) (L' := [(0, .ref 156), (1, .int (l1 + (1 : Int32))), (3, .int l3), (4, .int l4), (5, .int (1 : Int32)), (2, .int (1 : Int32))]) dX12_cond_254 rfl rfl (Nat.le_of_ble_eq_true rfl) rfl ?_
                  refine g_iload_n (pc := 257) (x := (1 : Int32)) dX12_cond_257 rfl ?_
                  refine g_if_eq (pc := 258) (tgt := 270) dX12_cond_258 (by decide) (fun c258 => absurd c258 (by decide)) (fun _ => ?_)
                  refine g_aload_n (pc := 261) (x := 156) dX12_cond_261 rfl ?_
                  obtain ⟨Pm4, hRm4, h⟩ := h
                  refine g_callV (pc := 262) (as := []) dX12_cond_262 cw_X12_230 (by decide) rfl rfl sh_156 (Nat.le_of_ble_eq_true rfl) hRm4 ?_
                  intro r_ m4 hz_ hp_
                  rcases h.1 r_ m4 hp_ with rfl | rfl
                  · have h := h.2.1 m4 hp_
                    refine g_if_ne (pc := 265) (tgt := 270) dX12_cond_265 (by decide) (fun _ => ?_) (fun c265 => absurd c265 (by decide))
                    refine g_goto (pc := 270) (tgt := 14) dX12_cond_270 (by decide) ?_
                    refine g_sub (L' := [(0, .ref 156), (1, .int (l1 + (1 : Int32))), (2, .int (1 : Int32))]) [0, 1, 5] rfl ?_
                    exact h
                  · have h := h.2.2 m4 hp_
                    refine g_if_ne (pc := 265) (tgt := 270) dX12_cond_265 (by decide) (fun c265 => absurd c265 (by decide)) (fun _ => ?_)
                    refine g_iconst (pc := 268) (v := (0 : Int32)) dX12_cond_268 (by decide) ?_
                    exact g_iret (pc := 269) dX12_cond_269 rfl rfl (nar_B isB0) h
                · have h := h.2 p_
                  refine g_if_eq (pc := 251) (tgt := 257) dX12_cond_251 (by decide) (fun _ => ?_) (fun c251 => absurd c251 (by decide))
                  refine g_iload_n (pc := 257) (x := (1 : Int32)) dX12_cond_257 rfl ?_
                  refine g_if_eq (pc := 258) (tgt := 270) dX12_cond_258 (by decide) (fun c258 => absurd c258 (by decide)) (fun _ => ?_)
                  refine g_aload_n (pc := 261) (x := 156) dX12_cond_261 rfl ?_
                  obtain ⟨Pm4, hRm4, h⟩ := h
                  refine g_callV (pc := 262) (as := []) dX12_cond_262 cw_X12_230 (by decide) rfl rfl sh_156 (Nat.le_of_ble_eq_true rfl) hRm4 ?_
                  intro r_ m4 hz_ hp_
                  rcases h.1 r_ m4 hp_ with rfl | rfl
                  · have h := h.2.1 m4 hp_
                    refine g_if_ne (pc := 265) (tgt := 270) dX12_cond_265 (by decide) (fun _ => ?_) (fun c265 => absurd c265 (by decide))
                    refine g_goto (pc := 270) (tgt := 14) dX12_cond_270 (by decide) ?_
                    refine g_sub (L' := [(0, .ref 156), (1, .int l1), (2, .int (1 : Int32))]) [0, 1, 5] rfl ?_
                    exact h
                  · have h := h.2.2 m4 hp_
                    refine g_if_ne (pc := 265) (tgt := 270) dX12_cond_265 (by decide) (fun c265 => absurd c265 (by decide)) (fun _ => ?_)
                    refine g_iconst (pc := 268) (v := (0 : Int32)) dX12_cond_268 (by decide) ?_
                    exact g_iret (pc := 269) dX12_cond_269 rfl rfl (nar_B isB0) h
              · have h := h.2 p_
                refine g_if_eq (pc := 236) (tgt := 243) dX12_cond_236 (by decide) (fun _ => ?_) (fun c236 => absurd c236 (by decide))
                refine g_iconst (pc := 243) (v := (0 : Int32)) dX12_cond_243 (by decide) ?_
                refine g_istore_n (pc := 244) (L' := [(0, .ref 156), (1, .int l1), (3, .int l3), (4, .int l4), (5, .int (1 : Int32)), (2, .int (0 : Int32))]) dX12_cond_244 (Nat.le_of_ble_eq_true rfl) rfl ?_
                refine g_aload_n (pc := 245) (x := 156) dX12_cond_245 rfl ?_
                refine g_bipush (pc := 246) (v := (12 : Int32)) dX12_cond_246 (by decide) ?_
                refine g_callV (pc := 248) (as := [.int (12 : Int32)]) dX12_cond_248 cw_X12_271 (by decide) rfl rfl sh_156 (Nat.le_of_ble_eq_true rfl) (rv_X12_isWord (wI (wI (wI (wI m3 172 (l3.toNatClampNeg) (m3.1 164 1)) 168 (l3.toNatClampNeg) (vp_nar .boolean l4)) 173 (l3.toNatClampNeg) l1) 167 1 (((wI (wI (wI m3 172 (l3.toNatClampNeg) (m3.1 164 1)) 168 (l3.toNatClampNeg) (vp_nar .boolean l4)) 173 (l3.toNatClampNeg) l1).1 167 1) + (1 : Int32))) (12 : Int32) h.1) ?_
                have h := h.2
                rintro r_ m_ hz_ ⟨⟨p_, rfl⟩ | ⟨p_, rfl⟩, rfl⟩
                · have h := h.1 p_
                  refine g_if_eq (pc := 251) (tgt := 257) dX12_cond_251 (by decide) (fun c251 => absurd c251 (by decide)) (fun _ => ?_)
                  refine g_iinc (pc := 254) (x := l1) (v := (l1 + (1 : Int32))) (L' := [(0, .ref 156), (1, .int (l1 + (1 : Int32))), (3, .int l3), (4, .int l4), (5, .int (1 : Int32)), (2, .int (0 : Int32))]) dX12_cond_254 rfl rfl (Nat.le_of_ble_eq_true rfl) rfl ?_
                  refine g_iload_n (pc := 257) (x := (0 : Int32)) dX12_cond_257 rfl ?_
                  refine g_if_eq (pc := 258) (tgt := 270) dX12_cond_258 (by decide) (fun _ => ?_) (fun c258 => absurd c258 (by decide))
                  refine g_goto (pc := 270) (tgt := 14) dX12_cond_270 (by decide) ?_
                  refine g_sub (L' := [(0, .ref 156), (1, .int (l1 + (1 : Int32))), (2, .int (0 : Int32))]) [0, 1, 5] rfl ?_
                  exact h
                · have h := h.2 p_
                  refine g_if_eq (pc := 251) (tgt := 257) dX12_cond_251 (by decide) (fun _ => ?_) (fun c251 => absurd c251 (by decide))
                  refine g_iload_n (pc := 257) (x := (0 : Int32)) dX12_cond_257 rfl ?_
                  refine g_if_eq (pc := 258) (tgt := 270) dX12_cond_258 (by decide) (fun _ => ?_) (fun c258 => absurd c258 (by decide))
                  refine g_goto (pc := 270) (tgt := 14) dX12_cond_270 (by decide) ?_
                  refine g_sub (L' := [(0, .ref 156), (1, .int l1), (2, .int (0 : Int32))]) [0, 1, 5] rfl ?_
                  exact h
          · have h := h.2.2 m3 hp_
            refine g_if_ne (pc := 179) (tgt := 184) dX12_cond_179 (by decide) (fun c179 => absurd c179 (by decide)) (fun _ => ?_)
            refine g_iconst (pc := 182) (v := (0 : Int32)) dX12_cond_182 (by decide) ?_
            exact g_iret (pc := 183) dX12_cond_183 rfl rfl (nar_B isB0) h
        · have h := h.2.2 m2 hp_
          refine g_if_eq (pc := 172) (tgt := 182) dX12_cond_172 (by decide) (fun _ => ?_) (fun c172 => absurd c172 (by decide))
          refine g_iconst (pc := 182) (v := (0 : Int32)) dX12_cond_182 (by decide) ?_
          exact g_iret (pc := 183) dX12_cond_183 rfl rfl (nar_B isB0) h
      · have h := h.2 p_
        refine g_if_ne (pc := 103) (tgt := 135) dX12_cond_103 (by decide) (fun c103 => absurd c103 (by decide)) (fun _ => ?_)
        refine g_aload_n (pc := 106) (x := 156) dX12_cond_106 rfl ?_
        refine g_sipush (pc := 107) (v := (301 : Int32)) dX12_cond_107 (by decide) ?_
        refine g_callV (pc := 110) (as := [.int (301 : Int32)]) dX12_cond_110 cw_X12_256 (by decide) rfl rfl sh_156 (Nat.le_of_ble_eq_true rfl) (rv_X12_isSign (wI (wI m1 170 (l3.toNatClampNeg) (m1.1 156 32)) 171 (l3.toNatClampNeg) ((wI m1 170 (l3.toNatClampNeg) (m1.1 156 32)).1 164 1)) (301 : Int32) h.1) ?_
        have h := h.2
        rintro r_ m_ hz_ ⟨⟨p_, rfl⟩ | ⟨p_, rfl⟩, rfl⟩
        · have h := h.1 p_
          refine g_if_ne (pc := 113) (tgt := 135) dX12_cond_113 (by decide) (fun _ => ?_) (fun c113 => absurd c113 (by decide))
          refine g_iconst (pc := 135) (v := (1 : Int32)) dX12_cond_135 (by decide) ?_
          refine g_goto (pc := 136) (tgt := 140) dX12_cond_136 (by decide) ?_
          refine g_istore (pc := 140) (L' := [(0, .ref 156), (1, .int l1), (3, .int l3), (4, .int l4), (5, .int (1 : Int32))]) dX12_cond_140 (Nat.le_of_ble_eq_true rfl) rfl ?_
          refine g_iload (pc := 142) (x := (1 : Int32)) dX12_cond_142 rfl ?_
          refine g_if_ne (pc := 144) (tgt := 153) dX12_cond_144 (by decide) (fun _ => ?_) (fun c144 => absurd c144 (by decide))
          refine g_aload_n (pc := 153) (x := 156) dX12_cond_153 rfl ?_
          refine g_getR (pc := 154) (dd := 13) dX12_cond_154 fo_X12_52 sh_156 rfl ?_
          refine g_iload_n (pc := 157) (x := l3) dX12_cond_157 rfl ?_
          refine g_aload_n (pc := 158) (x := 156) dX12_cond_158 rfl ?_
          refine g_getR (pc := 159) (dd := 4) dX12_cond_159 fo_X12_19 sh_156 rfl ?_
          refine g_aload_n (pc := 162) (x := 156) dX12_cond_162 rfl ?_
          refine g_getI (pc := 163) dX12_cond_163 fo_X12_218 sh_156 rfl ?_
          refine g_iaload (pc := 166) dX12_cond_166 sh_160 h.1 ?_
          have h := h.2
          refine g_iastore (pc := 167) dX12_cond_167 sh_169 h.1 ?_
          have h := h.2
          refine g_aload_n (pc := 168) (x := 156) dX12_cond_168 rfl ?_
          obtain ⟨Pm2, hRm2, h⟩ := h
          refine g_callV (pc := 169) (as := []) dX12_cond_169 cw_X12_230 (by decide) rfl rfl sh_156 (Nat.le_of_ble_eq_true rfl) hRm2 ?_
          intro r_ m2 hz_ hp_
          rcases h.1 r_ m2 hp_ with rfl | rfl
          · have h := h.2.1 m2 hp_
            refine g_if_eq (pc := 172) (tgt := 182) dX12_cond_172 (by decide) (fun c172 => absurd c172 (by decide)) (fun _ => ?_)
            refine g_aload_n (pc := 175) (x := 156) dX12_cond_175 rfl ?_
            obtain ⟨Pm3, hRm3, h⟩ := h
            refine g_callV (pc := 176) (as := []) dX12_cond_176 cw_X12_274 (by decide) rfl rfl sh_156 (Nat.le_of_ble_eq_true rfl) hRm3 ?_
            intro r_ m3 hz_ hp_
            rcases h.1 r_ m3 hp_ with rfl | rfl
            · have h := h.2.1 m3 hp_
              refine g_if_ne (pc := 179) (tgt := 184) dX12_cond_179 (by decide) (fun _ => ?_) (fun c179 => absurd c179 (by decide))
              refine g_aload_n (pc := 184) (x := 156) dX12_cond_184 rfl ?_
              refine g_getR (pc := 185) (dd := 16) dX12_cond_185 fo_X12_61 sh_156 rfl ?_
              refine g_iload_n (pc := 188) (x := l3) dX12_cond_188 rfl ?_
              refine g_aload_n (pc := 189) (x := 156) dX12_cond_189 rfl ?_
              refine g_getR (pc := 190) (dd := 8) dX12_cond_190 fo_X12_36 sh_156 rfl ?_
              refine g_iconst (pc := 193) (v := (1 : Int32)) dX12_cond_193 (by decide) ?_
              refine g_iaload (pc := 194) dX12_cond_194 sh_164 (vp_in_nI (n := 1) (N := 2) (by decide) (by decide)) ?_
              refine g_iastore (pc := 195) dX12_cond_195 sh_172 h.1 ?_
              have h := h.2
              refine g_aload_n (pc := 196) (x := 156) dX12_cond_196 rfl ?_
              refine g_getR (pc := 197) (dd := 12) dX12_cond_197 fo_X12_48 sh_156 rfl ?_
              refine g_iload_n (pc := 200) (x := l3) dX12_cond_200 rfl ?_
              refine g_iload (pc := 201) (x := l4) dX12_cond_201 rfl ?_
              refine g_zastore (pc := 203) dX12_cond_203 sh_168 h.1 ?_
              have h := h.2
              refine g_aload_n (pc := 204) (x := 156) dX12_cond_204 rfl ?_
              refine g_getR (pc := 205) (dd := 17) dX12_cond_205 fo_X12_64 sh_156 rfl ?_
              refine g_iload_n (pc := 208) (x := l3) dX12_cond_208 rfl ?_
              refine g_iload_n (pc := 209) (x := l1) dX12_cond_209 rfl ?_
              refine g_iastore (pc := 210) dX12_cond_210 sh_173 h.1 ?_
              have h := h.2
              refine g_aload_n (pc := 211) (x := 156) dX12_cond_211 rfl ?_
              refine g_getR (pc := 212) (dd := 11) dX12_cond_212 fo_X12_45 sh_156 rfl ?_
              refine g_iconst (pc := 215) (v := (1 : Int32)) dX12_cond_215 (by decide) ?_
              refine g_dup2 (pc := 216) dX12_cond_216 rfl rfl ?_
              refine g_iaload (pc := 217) dX12_cond_217 sh_167 (vp_in_nI (n := 1) (N := 2) (by decide) (by decide)) ?_
              refine g_iconst (pc := 218) (v := (1 : Int32)) dX12_cond_218 (by decide) ?_
              refine g_iadd (pc := 219) dX12_cond_219 ?_
              refine g_iastore (pc := 220) dX12_cond_220 sh_167 (vp_in_nI (n := 1) (N := 2) (by decide) (by decide)) ?_
              refine g_aload_n (pc := 221) (x := 156) dX12_cond_221 rfl ?_
              refine g_bipush (pc := 222) (v := (11 : Int32)) dX12_cond_222 (by decide) ?_
              refine g_callV (pc := 224) (as := [.int (11 : Int32)]) dX12_cond_224 cw_X12_271 (by decide) rfl rfl sh_156 (Nat.le_of_ble_eq_true rfl) (rv_X12_isWord (wI (wI (wI (wI m3 172 (l3.toNatClampNeg) (m3.1 164 1)) 168 (l3.toNatClampNeg) (vp_nar .boolean l4)) 173 (l3.toNatClampNeg) l1) 167 1 (((wI (wI (wI m3 172 (l3.toNatClampNeg) (m3.1 164 1)) 168 (l3.toNatClampNeg) (vp_nar .boolean l4)) 173 (l3.toNatClampNeg) l1).1 167 1) + (1 : Int32))) (11 : Int32) h.1) ?_
              have h := h.2
              rintro r_ m_ hz_ ⟨⟨p_, rfl⟩ | ⟨p_, rfl⟩, rfl⟩
              · have h := h.1 p_
                refine g_if_ne (pc := 227) (tgt := 239) dX12_cond_227 (by decide) (fun _ => ?_) (fun c227 => absurd c227 (by decide))
                refine g_iconst (pc := 239) (v := (1 : Int32)) dX12_cond_239 (by decide) ?_
                refine g_goto (pc := 240) (tgt := 244) dX12_cond_240 (by decide) ?_
                refine g_istore_n (pc := 244) (L' := [(0, .ref 156), (1, .int l1), (3, .int l3), (4, .int l4), (5, .int (1 : Int32)), (2, .int (1 : Int32))]) dX12_cond_244 (Nat.le_of_ble_eq_true rfl) rfl ?_
                refine g_aload_n (pc := 245) (x := 156) dX12_cond_245 rfl ?_
                refine g_bipush (pc := 246) (v := (12 : Int32)) dX12_cond_246 (by decide) ?_
                refine g_callV (pc := 248) (as := [.int (12 : Int32)]) dX12_cond_248 cw_X12_271 (by decide) rfl rfl sh_156 (Nat.le_of_ble_eq_true rfl) (rv_X12_isWord (wI (wI (wI (wI m3 172 (l3.toNatClampNeg) (m3.1 164 1)) 168 (l3.toNatClampNeg) (vp_nar .boolean l4)) 173 (l3.toNatClampNeg) l1) 167 1 (((wI (wI (wI m3 172 (l3.toNatClampNeg) (m3.1 164 1)) 168 (l3.toNatClampNeg) (vp_nar .boolean l4)) 173 (l3.toNatClampNeg) l1).1 167 1) + (1 : Int32))) (12 : Int32) h.1) ?_
                have h := h.2
                rintro r_ m_ hz_ ⟨⟨p_, rfl⟩ | ⟨p_, rfl⟩, rfl⟩
                · have h := h.1 p_
                  refine g_if_eq (pc := 251) (tgt := 257) dX12_cond_251 (by decide) (fun c251 => absurd c251 (by decide)) (fun _ => ?_)
                  refine g_iinc (pc := 254) (x := l1) (v := (l1 + (1 : Int32))) (L' := [(0, .ref 156), (1, .int (l1 + (1 : Int32))), (3, .int l3), (4, .int l4), (5, .int (1 : Int32)), (2, .int (1 : Int32))]) dX12_cond_254 rfl rfl (Nat.le_of_ble_eq_true rfl) rfl ?_
                  refine g_iload_n (pc := 257) (x := (1 : Int32)) dX12_cond_257 rfl ?_
                  refine g_if_eq (pc := 258) (tgt := 270) dX12_cond_258 (by decide) (fun c258 => absurd c258 (by decide)) (fun _ => ?_)
                  refine g_aload_n (pc := 261) (x := 156) dX12_cond_261 rfl ?_
                  obtain ⟨Pm4, hRm4, h⟩ := h
                  refine g_callV (pc := 262) (as := []) dX12_cond_262 cw_X12_230 (by decide) rfl rfl sh_156 (Nat.le_of_ble_eq_true rfl) hRm4 ?_
                  intro r_ m4 hz_ hp_
                  rcases h.1 r_ m4 hp_ with rfl | rfl
                  · have h := h.2.1 m4 hp_
                    refine g_if_ne (pc := 265) (tgt := 270) dX12_cond_265 (by decide) (fun _ => ?_) (fun c265 => absurd c265 (by decide))
                    refine g_goto (pc := 270) (tgt := 14) dX12_cond_270 (by decide) ?_
                    refine g_sub (L' := [(0, .ref 156), (1, .int (l1 + (1 : Int32))), (2, .int (1 : Int32))]) [0, 1, 5] rfl ?_
                    exact h
                  · have h := h.2.2 m4 hp_
                    refine g_if_ne (pc := 265) (tgt := 270) dX12_cond_265 (by decide) (fun c265 => absurd c265 (by decide)) (fun _ => ?_)
                    refine g_iconst (pc := 268) (v := (0 : Int32)) dX12_cond_268 (by decide) ?_
                    exact g_iret (pc := 269) dX12_cond_269 rfl rfl (nar_B isB0) h
                · have h := h.2 p_
                  refine g_if_eq (pc := 251) (tgt := 257) dX12_cond_251 (by decide) (fun _ => ?_) (fun c251 => absurd c251 (by decide))
                  refine g_iload_n (pc := 257) (x := (1 : Int32)) dX12_cond_257 rfl ?_
                  refine g_if_eq (pc := 258) (tgt := 270) dX12_cond_258 (by decide) (fun c258 => absurd c258 (by decide)) (fun _ => ?_)
                  refine g_aload_n (pc := 261) (x := 156) dX12_cond_261 rfl ?_
                  obtain ⟨Pm4, hRm4, h⟩ := h
                  refine g_callV (pc := 262) (as := []) dX12_cond_262 cw_X12_230 (by decide) rfl rfl sh_156 (Nat.le_of_ble_eq_true rfl) hRm4 ?_
                  intro r_ m4 hz_ hp_
                  rcases h.1 r_ m4 hp_ with rfl | rfl
                  · have h := h.2.1 m4 hp_
                    refine g_if_ne (pc := 265) (tgt := 270) dX12_cond_265 (by decide) (fun _ => ?_) (fun c265 => absurd c265 (by decide))
                    refine g_goto (pc := 270) (tgt := 14) dX12_cond_270 (by decide) ?_
                    refine g_sub (L' := [(0, .ref 156), (1, .int l1), (2, .int (1 : Int32))]) [0, 1, 5] rfl ?_
                    exact h
                  · have h := h.2.2 m4 hp_
                    refine g_if_ne (pc := 265) (tgt := 270) dX12_cond_265 (by decide) (fun c265 => absurd c265 (by decide)) (fun _ => ?_)
                    refine g_iconst (pc := 268) (v := (0 : Int32)) dX12_cond_268 (by decide) ?_
                    exact g_iret (pc := 269) dX12_cond_269 rfl rfl (nar_B isB0) h
              · have h := h.2 p_
                refine g_if_ne (pc := 227) (tgt := 239) dX12_cond_227 (by decide) (fun c227 => absurd c227 (by decide)) (fun _ => ?_)
                refine g_aload_n (pc := 230) (x := 156) dX12_cond_230 rfl ?_
                refine g_bipush (pc := 231) (v := (12 : Int32)) dX12_cond_231 (by decide) ?_
                refine g_callV (pc := 233) (as := [.int (12 : Int32)]) dX12_cond_233 cw_X12_271 (by decide) rfl rfl sh_156 (Nat.le_of_ble_eq_true rfl) (rv_X12_isWord (wI (wI (wI (wI m3 172 (l3.toNatClampNeg) (m3.1 164 1)) 168 (l3.toNatClampNeg) (vp_nar .boolean l4)) 173 (l3.toNatClampNeg) l1) 167 1 (((wI (wI (wI m3 172 (l3.toNatClampNeg) (m3.1 164 1)) 168 (l3.toNatClampNeg) (vp_nar .boolean l4)) 173 (l3.toNatClampNeg) l1).1 167 1) + (1 : Int32))) (12 : Int32) h.1) ?_
                have h := h.2
                rintro r_ m_ hz_ ⟨⟨p_, rfl⟩ | ⟨p_, rfl⟩, rfl⟩
                · have h := h.1 p_
                  refine g_if_eq (pc := 236) (tgt := 243) dX12_cond_236 (by decide) (fun c236 => absurd c236 (by decide)) (fun _ => ?_)
                  refine g_iconst (pc := 239) (v := (1 : Int32)) dX12_cond_239 (by decide) ?_
                  refine g_goto (pc := 240) (tgt := 244) dX12_cond_240 (by decide) ?_
                  refine g_istore_n (pc := 244) (L' := [(0, .ref 156), (1, .int l1), (3, .int l3), (4, .int l4), (5, .int (1 : Int32)), (2, .int (1 : Int32))]) dX12_cond_244 (Nat.le_of_ble_eq_true rfl) rfl ?_
                  refine g_aload_n (pc := 245) (x := 156) dX12_cond_245 rfl ?_
                  refine g_bipush (pc := 246) (v := (12 : Int32)) dX12_cond_246 (by decide) ?_
                  refine g_callV (pc := 248) (as := [.int (12 : Int32)]) dX12_cond_248 cw_X12_271 (by decide) rfl rfl sh_156 (Nat.le_of_ble_eq_true rfl) (rv_X12_isWord (wI (wI (wI (wI m3 172 (l3.toNatClampNeg) (m3.1 164 1)) 168 (l3.toNatClampNeg) (vp_nar .boolean l4)) 173 (l3.toNatClampNeg) l1) 167 1 (((wI (wI (wI m3 172 (l3.toNatClampNeg) (m3.1 164 1)) 168 (l3.toNatClampNeg) (vp_nar .boolean l4)) 173 (l3.toNatClampNeg) l1).1 167 1) + (1 : Int32))) (12 : Int32) h.1) ?_
                  have h := h.2
                  rintro r_ m_ hz_ ⟨⟨p_, rfl⟩ | ⟨p_, rfl⟩, rfl⟩
                  · have h := h.1 p_
                    refine g_if_eq (pc := 251) (tgt := 257) dX12_cond_251 (by decide) (fun c251 => absurd c251 (by decide)) (fun _ => ?_)
                    refine g_iinc (pc := 254) (x := l1) (v := (l1 + (1 : Int32))) (L' := [(0, .ref 156), (1, .int (l1 + (1 : Int32))), (3, .int l3), (4, .int l4), (5, .int (1 : Int32)), (2, .int (1 : Int32))]) dX12_cond_254 rfl rfl (Nat.le_of_ble_eq_true rfl) rfl ?_
                    refine g_iload_n (pc := 257) (x := (1 : Int32)) dX12_cond_257 rfl ?_
                    refine g_if_eq (pc := 258) (tgt := 270) dX12_cond_258 (by decide) (fun c258 => absurd c258 (by decide)) (fun _ => ?_)
                    refine g_aload_n (pc := 261) (x := 156) dX12_cond_261 rfl ?_
                    obtain ⟨Pm4, hRm4, h⟩ := h
                    refine g_callV (pc := 262) (as := []) dX12_cond_262 cw_X12_230 (by decide) rfl rfl sh_156 (Nat.le_of_ble_eq_true rfl) hRm4 ?_
                    intro r_ m4 hz_ hp_
                    rcases h.1 r_ m4 hp_ with rfl | rfl
                    · have h := h.2.1 m4 hp_
                      refine g_if_ne (pc := 265) (tgt := 270) dX12_cond_265 (by decide) (fun _ => ?_) (fun c265 => absurd c265 (by decide))
                      refine g_goto (pc := 270) (tgt := 14) dX12_cond_270 (by decide) ?_
                      refine g_sub (L' := [(0, .ref 156), (1, .int (l1 + (1 : Int32))), (2, .int (1 : Int32))]) [0, 1, 5] rfl ?_
                      exact h
                    · have h := h.2.2 m4 hp_
                      refine g_if_ne (pc := 265) (tgt := 270) dX12_cond_265 (by decide) (fun c265 => absurd c265 (by decide)) (fun _ => ?_)
                      refine g_iconst (pc := 268) (v := (0 : Int32)) dX12_cond_268 (by decide) ?_
                      exact g_iret (pc := 269) dX12_cond_269 rfl rfl (nar_B isB0) h
                  · have h := h.2 p_
                    refine g_if_eq (pc := 251) (tgt := 257) dX12_cond_251 (by decide) (fun _ => ?_) (fun c251 => absurd c251 (by decide))
                    refine g_iload_n (pc := 257) (x := (1 : Int32)) dX12_cond_257 rfl ?_
                    refine g_if_eq (pc := 258) (tgt := 270) dX12_cond_258 (by decide) (fun c258 => absurd c258 (by decide)) (fun _ => ?_)
                    refine g_aload_n (pc := 261) (x := 156) dX12_cond_261 rfl ?_
                    obtain ⟨Pm4, hRm4, h⟩ := h
                    refine g_callV (pc := 262) (as := []) dX12_cond_262 cw_X12_230 (by decide) rfl rfl sh_156 (Nat.le_of_ble_eq_true rfl) hRm4 ?_
                    intro r_ m4 hz_ hp_
                    rcases h.1 r_ m4 hp_ with rfl | rfl
                    · have h := h.2.1 m4 hp_
                      refine g_if_ne (pc := 265) (tgt := 270) dX12_cond_265 (by decide) (fun _ => ?_) (fun c265 => absurd c265 (by decide))
                      refine g_goto (pc := 270) (tgt := 14) dX12_cond_270 (by decide) ?_
                      refine g_sub (L' := [(0, .ref 156), (1, .int l1), (2, .int (1 : Int32))]) [0, 1, 5] rfl ?_
                      exact h
                    · have h := h.2.2 m4 hp_
                      refine g_if_ne (pc := 265) (tgt := 270) dX12_cond_265 (by decide) (fun c265 => absurd c265 (by decide)) (fun _ => ?_)
                      refine g_iconst (pc := 268) (v := (0 : Int32)) dX12_cond_268 (by decide) ?_
                      exact g_iret (pc := 269) dX12_cond_269 rfl rfl (nar_B isB0) h
                · have h := h.2 p_
                  refine g_if_eq (pc := 236) (tgt := 243) dX12_cond_236 (by decide) (fun _ => ?_) (fun c236 => absurd c236 (by decide))
                  refine g_iconst (pc := 243) (v := (0 : Int32)) dX12_cond_243 (by decide) ?_
                  refine g_istore_n (pc := 244) (L' := [(0, .ref 156), (1, .int l1), (3, .int l3), (4, .int l4), (5, .int (1 : Int32)), (2, .int (0 : Int32))]) dX12_cond_244 (Nat.le_of_ble_eq_true rfl) rfl ?_
                  refine g_aload_n (pc := 245) (x := 156) dX12_cond_245 rfl ?_
                  refine g_bipush (pc := 246) (v := (12 : Int32)) dX12_cond_246 (by decide) ?_
                  refine g_callV (pc := 248) (as := [.int (12 : Int32)]) dX12_cond_248 cw_X12_271 (by decide) rfl rfl sh_156 (Nat.le_of_ble_eq_true rfl) (rv_X12_isWord (wI (wI (wI (wI m3 172 (l3.toNatClampNeg) (m3.1 164 1)) 168 (l3.toNatClampNeg) (vp_nar .boolean l4)) 173 (l3.toNatClampNeg) l1) 167 1 (((wI (wI (wI m3 172 (l3.toNatClampNeg) (m3.1 164 1)) 168 (l3.toNatClampNeg) (vp_nar .boolean l4)) 173 (l3.toNatClampNeg) l1).1 167 1) + (1 : Int32))) (12 : Int32) h.1) ?_
                  have h := h.2
                  rintro r_ m_ hz_ ⟨⟨p_, rfl⟩ | ⟨p_, rfl⟩, rfl⟩
                  · have h := h.1 p_
                    refine g_if_eq (pc := 251) (tgt := 257) dX12_cond_251 (by decide) (fun c251 => absurd c251 (by decide)) (fun _ => ?_)
                    refine g_iinc (pc := 254) (x := l1) (v := (l1 + (1 : Int32))) (L' := [(0, .ref 156), (1, .int (l1 + (1 : Int32))), (3, .int l3), (4, .int l4), (5, .int (1 : Int32)), (2, .int (0 : Int32))]) dX12_cond_254 rfl rfl (Nat.le_of_ble_eq_true rfl) rfl ?_
                    refine g_iload_n (pc := 257) (x := (0 : Int32)) dX12_cond_257 rfl ?_
                    refine g_if_eq (pc := 258) (tgt := 270) dX12_cond_258 (by decide) (fun _ => ?_) (fun c258 => absurd c258 (by decide))
                    refine g_goto (pc := 270) (tgt := 14) dX12_cond_270 (by decide) ?_
                    refine g_sub (L' := [(0, .ref 156), (1, .int (l1 + (1 : Int32))), (2, .int (0 : Int32))]) [0, 1, 5] rfl ?_
                    exact h
                  · have h := h.2 p_
                    refine g_if_eq (pc := 251) (tgt := 257) dX12_cond_251 (by decide) (fun _ => ?_) (fun c251 => absurd c251 (by decide))
                    refine g_iload_n (pc := 257) (x := (0 : Int32)) dX12_cond_257 rfl ?_
                    refine g_if_eq (pc := 258) (tgt := 270) dX12_cond_258 (by decide) (fun _ => ?_) (fun c258 => absurd c258 (by decide))
                    refine g_goto (pc := 270) (tgt := 14) dX12_cond_270 (by decide) ?_
                    refine g_sub (L' := [(0, .ref 156), (1, .int l1), (2, .int (0 : Int32))]) [0, 1, 5] rfl ?_
                    exact h
            · have h := h.2.2 m3 hp_
              refine g_if_ne (pc := 179) (tgt := 184) dX12_cond_179 (by decide) (fun c179 => absurd c179 (by decide)) (fun _ => ?_)
              refine g_iconst (pc := 182) (v := (0 : Int32)) dX12_cond_182 (by decide) ?_
              exact g_iret (pc := 183) dX12_cond_183 rfl rfl (nar_B isB0) h
          · have h := h.2.2 m2 hp_
            refine g_if_eq (pc := 172) (tgt := 182) dX12_cond_172 (by decide) (fun _ => ?_) (fun c172 => absurd c172 (by decide))
            refine g_iconst (pc := 182) (v := (0 : Int32)) dX12_cond_182 (by decide) ?_
            exact g_iret (pc := 183) dX12_cond_183 rfl rfl (nar_B isB0) h
        · have h := h.2 p_
          refine g_if_ne (pc := 113) (tgt := 135) dX12_cond_113 (by decide) (fun c113 => absurd c113 (by decide)) (fun _ => ?_)
          refine g_aload_n (pc := 116) (x := 156) dX12_cond_116 rfl ?_
          refine g_sipush (pc := 117) (v := (302 : Int32)) dX12_cond_117 (by decide) ?_
          refine g_callV (pc := 120) (as := [.int (302 : Int32)]) dX12_cond_120 cw_X12_256 (by decide) rfl rfl sh_156 (Nat.le_of_ble_eq_true rfl) (rv_X12_isSign (wI (wI m1 170 (l3.toNatClampNeg) (m1.1 156 32)) 171 (l3.toNatClampNeg) ((wI m1 170 (l3.toNatClampNeg) (m1.1 156 32)).1 164 1)) (302 : Int32) h.1) ?_
          have h := h.2
          rintro r_ m_ hz_ ⟨⟨p_, rfl⟩ | ⟨p_, rfl⟩, rfl⟩
          · have h := h.1 p_
            refine g_if_ne (pc := 123) (tgt := 135) dX12_cond_123 (by decide) (fun _ => ?_) (fun c123 => absurd c123 (by decide))
            refine g_iconst (pc := 135) (v := (1 : Int32)) dX12_cond_135 (by decide) ?_
            refine g_goto (pc := 136) (tgt := 140) dX12_cond_136 (by decide) ?_
            refine g_istore (pc := 140) (L' := [(0, .ref 156), (1, .int l1), (3, .int l3), (4, .int l4), (5, .int (1 : Int32))]) dX12_cond_140 (Nat.le_of_ble_eq_true rfl) rfl ?_
            refine g_iload (pc := 142) (x := (1 : Int32)) dX12_cond_142 rfl ?_
            refine g_if_ne (pc := 144) (tgt := 153) dX12_cond_144 (by decide) (fun _ => ?_) (fun c144 => absurd c144 (by decide))
            refine g_aload_n (pc := 153) (x := 156) dX12_cond_153 rfl ?_
            refine g_getR (pc := 154) (dd := 13) dX12_cond_154 fo_X12_52 sh_156 rfl ?_
            refine g_iload_n (pc := 157) (x := l3) dX12_cond_157 rfl ?_
            refine g_aload_n (pc := 158) (x := 156) dX12_cond_158 rfl ?_
            refine g_getR (pc := 159) (dd := 4) dX12_cond_159 fo_X12_19 sh_156 rfl ?_
            refine g_aload_n (pc := 162) (x := 156) dX12_cond_162 rfl ?_
            refine g_getI (pc := 163) dX12_cond_163 fo_X12_218 sh_156 rfl ?_
            refine g_iaload (pc := 166) dX12_cond_166 sh_160 h.1 ?_
            have h := h.2
            refine g_iastore (pc := 167) dX12_cond_167 sh_169 h.1 ?_
            have h := h.2
            refine g_aload_n (pc := 168) (x := 156) dX12_cond_168 rfl ?_
            obtain ⟨Pm2, hRm2, h⟩ := h
            refine g_callV (pc := 169) (as := []) dX12_cond_169 cw_X12_230 (by decide) rfl rfl sh_156 (Nat.le_of_ble_eq_true rfl) hRm2 ?_
            intro r_ m2 hz_ hp_
            rcases h.1 r_ m2 hp_ with rfl | rfl
            · have h := h.2.1 m2 hp_
              refine g_if_eq (pc := 172) (tgt := 182) dX12_cond_172 (by decide) (fun c172 => absurd c172 (by decide)) (fun _ => ?_)
              refine g_aload_n (pc := 175) (x := 156) dX12_cond_175 rfl ?_
              obtain ⟨Pm3, hRm3, h⟩ := h
              refine g_callV (pc := 176) (as := []) dX12_cond_176 cw_X12_274 (by decide) rfl rfl sh_156 (Nat.le_of_ble_eq_true rfl) hRm3 ?_
              intro r_ m3 hz_ hp_
              rcases h.1 r_ m3 hp_ with rfl | rfl
              · have h := h.2.1 m3 hp_
                refine g_if_ne (pc := 179) (tgt := 184) dX12_cond_179 (by decide) (fun _ => ?_) (fun c179 => absurd c179 (by decide))
                refine g_aload_n (pc := 184) (x := 156) dX12_cond_184 rfl ?_
                refine g_getR (pc := 185) (dd := 16) dX12_cond_185 fo_X12_61 sh_156 rfl ?_
                refine g_iload_n (pc := 188) (x := l3) dX12_cond_188 rfl ?_
                refine g_aload_n (pc := 189) (x := 156) dX12_cond_189 rfl ?_
                refine g_getR (pc := 190) (dd := 8) dX12_cond_190 fo_X12_36 sh_156 rfl ?_
                refine g_iconst (pc := 193) (v := (1 : Int32)) dX12_cond_193 (by decide) ?_
                refine g_iaload (pc := 194) dX12_cond_194 sh_164 (vp_in_nI (n := 1) (N := 2) (by decide) (by decide)) ?_
                refine g_iastore (pc := 195) dX12_cond_195 sh_172 h.1 ?_
                have h := h.2
                refine g_aload_n (pc := 196) (x := 156) dX12_cond_196 rfl ?_
                refine g_getR (pc := 197) (dd := 12) dX12_cond_197 fo_X12_48 sh_156 rfl ?_
                refine g_iload_n (pc := 200) (x := l3) dX12_cond_200 rfl ?_
                refine g_iload (pc := 201) (x := l4) dX12_cond_201 rfl ?_
                refine g_zastore (pc := 203) dX12_cond_203 sh_168 h.1 ?_
                have h := h.2
                refine g_aload_n (pc := 204) (x := 156) dX12_cond_204 rfl ?_
                refine g_getR (pc := 205) (dd := 17) dX12_cond_205 fo_X12_64 sh_156 rfl ?_
                refine g_iload_n (pc := 208) (x := l3) dX12_cond_208 rfl ?_
                refine g_iload_n (pc := 209) (x := l1) dX12_cond_209 rfl ?_
                refine g_iastore (pc := 210) dX12_cond_210 sh_173 h.1 ?_
                have h := h.2
                refine g_aload_n (pc := 211) (x := 156) dX12_cond_211 rfl ?_
                refine g_getR (pc := 212) (dd := 11) dX12_cond_212 fo_X12_45 sh_156 rfl ?_
                refine g_iconst (pc := 215) (v := (1 : Int32)) dX12_cond_215 (by decide) ?_
                refine g_dup2 (pc := 216) dX12_cond_216 rfl rfl ?_
                refine g_iaload (pc := 217) dX12_cond_217 sh_167 (vp_in_nI (n := 1) (N := 2) (by decide) (by decide)) ?_
                refine g_iconst (pc := 218) (v := (1 : Int32)) dX12_cond_218 (by decide) ?_
                refine g_iadd (pc := 219) dX12_cond_219 ?_
                refine g_iastore (pc := 220) dX12_cond_220 sh_167 (vp_in_nI (n := 1) (N := 2) (by decide) (by decide)) ?_
                refine g_aload_n (pc := 221) (x := 156) dX12_cond_221 rfl ?_
                refine g_bipush (pc := 222) (v := (11 : Int32)) dX12_cond_222 (by decide) ?_
                refine g_callV (pc := 224) (as := [.int (11 : Int32)]) dX12_cond_224 cw_X12_271 (by decide) rfl rfl sh_156 (Nat.le_of_ble_eq_true rfl) (rv_X12_isWord (wI (wI (wI (wI m3 172 (l3.toNatClampNeg) (m3.1 164 1)) 168 (l3.toNatClampNeg) (vp_nar .boolean l4)) 173 (l3.toNatClampNeg) l1) 167 1 (((wI (wI (wI m3 172 (l3.toNatClampNeg) (m3.1 164 1)) 168 (l3.toNatClampNeg) (vp_nar .boolean l4)) 173 (l3.toNatClampNeg) l1).1 167 1) + (1 : Int32))) (11 : Int32) h.1) ?_
                have h := h.2
                rintro r_ m_ hz_ ⟨⟨p_, rfl⟩ | ⟨p_, rfl⟩, rfl⟩
                · have h := h.1 p_
                  refine g_if_ne (pc := 227) (tgt := 239) dX12_cond_227 (by decide) (fun _ => ?_) (fun c227 => absurd c227 (by decide))
                  refine g_iconst (pc := 239) (v := (1 : Int32)) dX12_cond_239 (by decide) ?_
                  refine g_goto (pc := 240) (tgt := 244) dX12_cond_240 (by decide) ?_
                  refine g_istore_n (pc := 244) (L' := [(0, .ref 156), (1, .int l1), (3, .int l3), (4, .int l4), (5, .int (1 : Int32)), (2, .int (1 : Int32))]) dX12_cond_244 (Nat.le_of_ble_eq_true rfl) rfl ?_
                  refine g_aload_n (pc := 245) (x := 156) dX12_cond_245 rfl ?_
                  refine g_bipush (pc := 246) (v := (12 : Int32)) dX12_cond_246 (by decide) ?_
                  refine g_callV (pc := 248) (as := [.int (12 : Int32)]) dX12_cond_248 cw_X12_271 (by decide) rfl rfl sh_156 (Nat.le_of_ble_eq_true rfl) (rv_X12_isWord (wI (wI (wI (wI m3 172 (l3.toNatClampNeg) (m3.1 164 1)) 168 (l3.toNatClampNeg) (vp_nar .boolean l4)) 173 (l3.toNatClampNeg) l1) 167 1 (((wI (wI (wI m3 172 (l3.toNatClampNeg) (m3.1 164 1)) 168 (l3.toNatClampNeg) (vp_nar .boolean l4)) 173 (l3.toNatClampNeg) l1).1 167 1) + (1 : Int32))) (12 : Int32) h.1) ?_
                  have h := h.2
                  rintro r_ m_ hz_ ⟨⟨p_, rfl⟩ | ⟨p_, rfl⟩, rfl⟩
                  · have h := h.1 p_
                    refine g_if_eq (pc := 251) (tgt := 257) dX12_cond_251 (by decide) (fun c251 => absurd c251 (by decide)) (fun _ => ?_)
                    refine g_iinc (pc := 254) (x := l1) (v := (l1 + (1 : Int32))) (L' := [(0, .ref 156), (1, .int (l1 + (1 : Int32))), (3, .int l3), (4, .int l4), (5, .int (1 : Int32)), (2, .int (1 : Int32))]) dX12_cond_254 rfl rfl (Nat.le_of_ble_eq_true rfl) rfl ?_
                    refine g_iload_n (pc := 257) (x := (1 : Int32)) dX12_cond_257 rfl ?_
                    refine g_if_eq (pc := 258) (tgt := 270) dX12_cond_258 (by decide) (fun c258 => absurd c258 (by decide)) (fun _ => ?_)
                    refine g_aload_n (pc := 261) (x := 156) dX12_cond_261 rfl ?_
                    obtain ⟨Pm4, hRm4, h⟩ := h
                    refine g_callV (pc := 262) (as := []) dX12_cond_262 cw_X12_230 (by decide) rfl rfl sh_156 (Nat.le_of_ble_eq_true rfl) hRm4 ?_
                    intro r_ m4 hz_ hp_
                    rcases h.1 r_ m4 hp_ with rfl | rfl
                    · have h := h.2.1 m4 hp_
                      refine g_if_ne (pc := 265) (tgt := 270) dX12_cond_265 (by decide) (fun _ => ?_) (fun c265 => absurd c265 (by decide))
                      refine g_goto (pc := 270) (tgt := 14) dX12_cond_270 (by decide) ?_
                      refine g_sub (L' := [(0, .ref 156), (1, .int (l1 + (1 : Int32))), (2, .int (1 : Int32))]) [0, 1, 5] rfl ?_
                      exact h
                    · have h := h.2.2 m4 hp_
                      refine g_if_ne (pc := 265) (tgt := 270) dX12_cond_265 (by decide) (fun c265 => absurd c265 (by decide)) (fun _ => ?_)
                      refine g_iconst (pc := 268) (v := (0 : Int32)) dX12_cond_268 (by decide) ?_
                      exact g_iret (pc := 269) dX12_cond_269 rfl rfl (nar_B isB0) h
                  · have h := h.2 p_
                    refine g_if_eq (pc := 251) (tgt := 257) dX12_cond_251 (by decide) (fun _ => ?_) (fun c251 => absurd c251 (by decide))
                    refine g_iload_n (pc := 257) (x := (1 : Int32)) dX12_cond_257 rfl ?_
                    refine g_if_eq (pc := 258) (tgt := 270) dX12_cond_258 (by decide) (fun c258 => absurd c258 (by decide)) (fun _ => ?_)
                    refine g_aload_n (pc := 261) (x := 156) dX12_cond_261 rfl ?_
                    obtain ⟨Pm4, hRm4, h⟩ := h
                    refine g_callV (pc := 262) (as := []) dX12_cond_262 cw_X12_230 (by decide) rfl rfl sh_156 (Nat.le_of_ble_eq_true rfl) hRm4 ?_
                    intro r_ m4 hz_ hp_
                    rcases h.1 r_ m4 hp_ with rfl | rfl
                    · have h := h.2.1 m4 hp_
                      refine g_if_ne (pc := 265) (tgt := 270) dX12_cond_265 (by decide) (fun _ => ?_) (fun c265 => absurd c265 (by decide))
                      refine g_goto (pc := 270) (tgt := 14) dX12_cond_270 (by decide) ?_
                      refine g_sub (L' := [(0, .ref 156), (1, .int l1), (2, .int (1 : Int32))]) [0, 1, 5] rfl ?_
                      exact h
                    · have h := h.2.2 m4 hp_
                      refine g_if_ne (pc := 265) (tgt := 270) dX12_cond_265 (by decide) (fun c265 => absurd c265 (by decide)) (fun _ => ?_)
                      refine g_iconst (pc := 268) (v := (0 : Int32)) dX12_cond_268 (by decide) ?_
                      exact g_iret (pc := 269) dX12_cond_269 rfl rfl (nar_B isB0) h
                · have h := h.2 p_
                  refine g_if_ne (pc := 227) (tgt := 239) dX12_cond_227 (by decide) (fun c227 => absurd c227 (by decide)) (fun _ => ?_)
                  refine g_aload_n (pc := 230) (x := 156) dX12_cond_230 rfl ?_
                  refine g_bipush (pc := 231) (v := (12 : Int32)) dX12_cond_231 (by decide) ?_
                  refine g_callV (pc := 233) (as := [.int (12 : Int32)]) dX12_cond_233 cw_X12_271 (by decide) rfl rfl sh_156 (Nat.le_of_ble_eq_true rfl) (rv_X12_isWord (wI (wI (wI (wI m3 172 (l3.toNatClampNeg) (m3.1 164 1)) 168 (l3.toNatClampNeg) (vp_nar .boolean l4)) 173 (l3.toNatClampNeg) l1) 167 1 (((wI (wI (wI m3 172 (l3.toNatClampNeg) (m3.1 164 1)) 168 (l3.toNatClampNeg) (vp_nar .boolean l4)) 173 (l3.toNatClampNeg) l1).1 167 1) + (1 : Int32))) (12 : Int32) h.1) ?_
                  have h := h.2
                  rintro r_ m_ hz_ ⟨⟨p_, rfl⟩ | ⟨p_, rfl⟩, rfl⟩
                  · have h := h.1 p_
                    refine g_if_eq (pc := 236) (tgt := 243) dX12_cond_236 (by decide) (fun c236 => absurd c236 (by decide)) (fun _ => ?_)
                    refine g_iconst (pc := 239) (v := (1 : Int32)) dX12_cond_239 (by decide) ?_
                    refine g_goto (pc := 240) (tgt := 244) dX12_cond_240 (by decide) ?_
                    refine g_istore_n (pc := 244) (L' := [(0, .ref 156), (1, .int l1), (3, .int l3), (4, .int l4), (5, .int (1 : Int32)), (2, .int (1 : Int32))]) dX12_cond_244 (Nat.le_of_ble_eq_true rfl) rfl ?_
                    refine g_aload_n (pc := 245) (x := 156) dX12_cond_245 rfl ?_
                    refine g_bipush (pc := 246) (v := (12 : Int32)) dX12_cond_246 (by decide) ?_
                    refine g_callV (pc := 248) (as := [.int (12 : Int32)]) dX12_cond_248 cw_X12_271 (by decide) rfl rfl sh_156 (Nat.le_of_ble_eq_true rfl) (rv_X12_isWord (wI (wI (wI (wI m3 172 (l3.toNatClampNeg) (m3.1 164 1)) 168 (l3.toNatClampNeg) (vp_nar .boolean l4)) 173 (l3.toNatClampNeg) l1) 167 1 (((wI (wI (wI m3 172 (l3.toNatClampNeg) (m3.1 164 1)) 168 (l3.toNatClampNeg) (vp_nar .boolean l4)) 173 (l3.toNatClampNeg) l1).1 167 1) + (1 : Int32))) (12 : Int32) h.1) ?_
                    have h := h.2
                    rintro r_ m_ hz_ ⟨⟨p_, rfl⟩ | ⟨p_, rfl⟩, rfl⟩
                    · have h := h.1 p_
                      refine g_if_eq (pc := 251) (tgt := 257) dX12_cond_251 (by decide) (fun c251 => absurd c251 (by decide)) (fun _ => ?_)
                      refine g_iinc (pc := 254) (x := l1) (v := (l1 + (1 : Int32))) (L' := [(0, .ref 156), (1, .int (l1 + (1 : Int32))), (3, .int l3), (4, .int l4), (5, .int (1 : Int32)), (2, .int (1 : Int32))]) dX12_cond_254 rfl rfl (Nat.le_of_ble_eq_true rfl) rfl ?_
                      refine g_iload_n (pc := 257) (x := (1 : Int32)) dX12_cond_257 rfl ?_
                      refine g_if_eq (pc := 258) (tgt := 270) dX12_cond_258 (by decide) (fun c258 => absurd c258 (by decide)) (fun _ => ?_)
                      refine g_aload_n (pc := 261) (x := 156) dX12_cond_261 rfl ?_
                      obtain ⟨Pm4, hRm4, h⟩ := h
                      refine g_callV (pc := 262) (as := []) dX12_cond_262 cw_X12_230 (by decide) rfl rfl sh_156 (Nat.le_of_ble_eq_true rfl) hRm4 ?_
                      intro r_ m4 hz_ hp_
                      rcases h.1 r_ m4 hp_ with rfl | rfl
                      · have h := h.2.1 m4 hp_
                        refine g_if_ne (pc := 265) (tgt := 270) dX12_cond_265 (by decide) (fun _ => ?_) (fun c265 => absurd c265 (by decide))
                        refine g_goto (pc := 270) (tgt := 14) dX12_cond_270 (by decide) ?_
                        refine g_sub (L' := [(0, .ref 156), (1, .int (l1 + (1 : Int32))), (2, .int (1 : Int32))]) [0, 1, 5] rfl ?_
                        exact h
                      · have h := h.2.2 m4 hp_
                        refine g_if_ne (pc := 265) (tgt := 270) dX12_cond_265 (by decide) (fun c265 => absurd c265 (by decide)) (fun _ => ?_)
                        refine g_iconst (pc := 268) (v := (0 : Int32)) dX12_cond_268 (by decide) ?_
                        exact g_iret (pc := 269) dX12_cond_269 rfl rfl (nar_B isB0) h
                    · have h := h.2 p_
                      refine g_if_eq (pc := 251) (tgt := 257) dX12_cond_251 (by decide) (fun _ => ?_) (fun c251 => absurd c251 (by decide))
                      refine g_iload_n (pc := 257) (x := (1 : Int32)) dX12_cond_257 rfl ?_
                      refine g_if_eq (pc := 258) (tgt := 270) dX12_cond_258 (by decide) (fun c258 => absurd c258 (by decide)) (fun _ => ?_)
                      refine g_aload_n (pc := 261) (x := 156) dX12_cond_261 rfl ?_
                      obtain ⟨Pm4, hRm4, h⟩ := h
                      refine g_callV (pc := 262) (as := []) dX12_cond_262 cw_X12_230 (by decide) rfl rfl sh_156 (Nat.le_of_ble_eq_true rfl) hRm4 ?_
                      intro r_ m4 hz_ hp_
                      rcases h.1 r_ m4 hp_ with rfl | rfl
                      · have h := h.2.1 m4 hp_
                        refine g_if_ne (pc := 265) (tgt := 270) dX12_cond_265 (by decide) (fun _ => ?_) (fun c265 => absurd c265 (by decide))
                        refine g_goto (pc := 270) (tgt := 14) dX12_cond_270 (by decide) ?_
                        refine g_sub (L' := [(0, .ref 156), (1, .int l1), (2, .int (1 : Int32))]) [0, 1, 5] rfl ?_
                        exact h
                      · have h := h.2.2 m4 hp_
                        refine g_if_ne (pc := 265) (tgt := 270) dX12_cond_265 (by decide) (fun c265 => absurd c265 (by decide)) (fun _ => ?_)
                        refine g_iconst (pc := 268) (v := (0 : Int32)) dX12_cond_268 (by decide) ?_
                        exact g_iret (pc := 269) dX12_cond_269 rfl rfl (nar_B isB0) h
                  · have h := h.2 p_
                    refine g_if_eq (pc := 236) (tgt := 243) dX12_cond_236 (by decide) (fun _ => ?_) (fun c236 => absurd c236 (by decide))
                    refine g_iconst (pc := 243) (v := (0 : Int32)) dX12_cond_243 (by decide) ?_
                    refine g_istore_n (pc := 244) (L' := [(0, .ref 156), (1, .int l1), (3, .int l3), (4, .int l4), (5, .int (1 : Int32)), (2, .int (0 : Int32))]) dX12_cond_244 (Nat.le_of_ble_eq_true rfl) rfl ?_
                    refine g_aload_n (pc := 245) (x := 156) dX12_cond_245 rfl ?_
                    refine g_bipush (pc := 246) (v := (12 : Int32)) dX12_cond_246 (by decide) ?_
                    refine g_callV (pc := 248) (as := [.int (12 : Int32)]) dX12_cond_248 cw_X12_271 (by decide) rfl rfl sh_156 (Nat.le_of_ble_eq_true rfl) (rv_X12_isWord (wI (wI (wI (wI m3 172 (l3.toNatClampNeg) (m3.1 164 1)) 168 (l3.toNatClampNeg) (vp_nar .boolean l4)) 173 (l3.toNatClampNeg) l1) 167 1 (((wI (wI (wI m3 172 (l3.toNatClampNeg) (m3.1 164 1)) 168 (l3.toNatClampNeg) (vp_nar .boolean l4)) 173 (l3.toNatClampNeg) l1).1 167 1) + (1 : Int32))) (12 : Int32) h.1) ?_
                    have h := h.2
                    rintro r_ m_ hz_ ⟨⟨p_, rfl⟩ | ⟨p_, rfl⟩, rfl⟩
                    · have h := h.1 p_
                      refine g_if_eq (pc := 251) (tgt := 257) dX12_cond_251 (by decide) (fun c251 => absurd c251 (by decide)) (fun _ => ?_)
                      refine g_iinc (pc := 254) (x := l1) (v := (l1 + (1 : Int32))) (L' := [(0, .ref 156), (1, .int (l1 + (1 : Int32))), (3, .int l3), (4, .int l4), (5, .int (1 : Int32)), (2, .int (0 : Int32))]) dX12_cond_254 rfl rfl (Nat.le_of_ble_eq_true rfl) rfl ?_
                      refine g_iload_n (pc := 257) (x := (0 : Int32)) dX12_cond_257 rfl ?_
                      refine g_if_eq (pc := 258) (tgt := 270) dX12_cond_258 (by decide) (fun _ => ?_) (fun c258 => absurd c258 (by decide))
                      refine g_goto (pc := 270) (tgt := 14) dX12_cond_270 (by decide) ?_
                      refine g_sub (L' := [(0, .ref 156), (1, .int (l1 + (1 : Int32))), (2, .int (0 : Int32))]) [0, 1, 5] rfl ?_
                      exact h
                    · have h := h.2 p_
                      refine g_if_eq (pc := 251) (tgt := 257) dX12_cond_251 (by decide) (fun _ => ?_) (fun c251 => absurd c251 (by decide))
                      refine g_iload_n (pc := 257) (x := (0 : Int32)) dX12_cond_257 rfl ?_
                      refine g_if_eq (pc := 258) (tgt := 270) dX12_cond_258 (by decide) (fun _ => ?_) (fun c258 => absurd c258 (by decide))
                      refine g_goto (pc := 270) (tgt := 14) dX12_cond_270 (by decide) ?_
                      refine g_sub (L' := [(0, .ref 156), (1, .int l1), (2, .int (0 : Int32))]) [0, 1, 5] rfl ?_
                      exact h
              · have h := h.2.2 m3 hp_
                refine g_if_ne (pc := 179) (tgt := 184) dX12_cond_179 (by decide) (fun c179 => absurd c179 (by decide)) (fun _ => ?_)
                refine g_iconst (pc := 182) (v := (0 : Int32)) dX12_cond_182 (by decide) ?_
                exact g_iret (pc := 183) dX12_cond_183 rfl rfl (nar_B isB0) h
            · have h := h.2.2 m2 hp_
              refine g_if_eq (pc := 172) (tgt := 182) dX12_cond_172 (by decide) (fun _ => ?_) (fun c172 => absurd c172 (by decide))
              refine g_iconst (pc := 182) (v := (0 : Int32)) dX12_cond_182 (by decide) ?_
              exact g_iret (pc := 183) dX12_cond_183 rfl rfl (nar_B isB0) h
          · have h := h.2 p_
            refine g_if_ne (pc := 123) (tgt := 135) dX12_cond_123 (by decide) (fun c123 => absurd c123 (by decide)) (fun _ => ?_)
            refine g_aload_n (pc := 126) (x := 156) dX12_cond_126 rfl ?_
            refine g_bipush (pc := 127) (v := (60 : Int32)) dX12_cond_127 (by decide) ?_
            refine g_callV (pc := 129) (as := [.int (60 : Int32)]) dX12_cond_129 cw_X12_256 (by decide) rfl rfl sh_156 (Nat.le_of_ble_eq_true rfl) (rv_X12_isSign (wI (wI m1 170 (l3.toNatClampNeg) (m1.1 156 32)) 171 (l3.toNatClampNeg) ((wI m1 170 (l3.toNatClampNeg) (m1.1 156 32)).1 164 1)) (60 : Int32) h.1) ?_
            have h := h.2
            rintro r_ m_ hz_ ⟨⟨p_, rfl⟩ | ⟨p_, rfl⟩, rfl⟩
            · have h := h.1 p_
              refine g_if_eq (pc := 132) (tgt := 139) dX12_cond_132 (by decide) (fun c132 => absurd c132 (by decide)) (fun _ => ?_)
              refine g_iconst (pc := 135) (v := (1 : Int32)) dX12_cond_135 (by decide) ?_
              refine g_goto (pc := 136) (tgt := 140) dX12_cond_136 (by decide) ?_
              refine g_istore (pc := 140) (L' := [(0, .ref 156), (1, .int l1), (3, .int l3), (4, .int l4), (5, .int (1 : Int32))]) dX12_cond_140 (Nat.le_of_ble_eq_true rfl) rfl ?_
              refine g_iload (pc := 142) (x := (1 : Int32)) dX12_cond_142 rfl ?_
              refine g_if_ne (pc := 144) (tgt := 153) dX12_cond_144 (by decide) (fun _ => ?_) (fun c144 => absurd c144 (by decide))
              refine g_aload_n (pc := 153) (x := 156) dX12_cond_153 rfl ?_
              refine g_getR (pc := 154) (dd := 13) dX12_cond_154 fo_X12_52 sh_156 rfl ?_
              refine g_iload_n (pc := 157) (x := l3) dX12_cond_157 rfl ?_
              refine g_aload_n (pc := 158) (x := 156) dX12_cond_158 rfl ?_
              refine g_getR (pc := 159) (dd := 4) dX12_cond_159 fo_X12_19 sh_156 rfl ?_
              refine g_aload_n (pc := 162) (x := 156) dX12_cond_162 rfl ?_
              refine g_getI (pc := 163) dX12_cond_163 fo_X12_218 sh_156 rfl ?_
              refine g_iaload (pc := 166) dX12_cond_166 sh_160 h.1 ?_
              have h := h.2
              refine g_iastore (pc := 167) dX12_cond_167 sh_169 h.1 ?_
              have h := h.2
              refine g_aload_n (pc := 168) (x := 156) dX12_cond_168 rfl ?_
              obtain ⟨Pm2, hRm2, h⟩ := h
              refine g_callV (pc := 169) (as := []) dX12_cond_169 cw_X12_230 (by decide) rfl rfl sh_156 (Nat.le_of_ble_eq_true rfl) hRm2 ?_
              intro r_ m2 hz_ hp_
              rcases h.1 r_ m2 hp_ with rfl | rfl
              · have h := h.2.1 m2 hp_
                refine g_if_eq (pc := 172) (tgt := 182) dX12_cond_172 (by decide) (fun c172 => absurd c172 (by decide)) (fun _ => ?_)
                refine g_aload_n (pc := 175) (x := 156) dX12_cond_175 rfl ?_
                obtain ⟨Pm3, hRm3, h⟩ := h
                refine g_callV (pc := 176) (as := []) dX12_cond_176 cw_X12_274 (by decide) rfl rfl sh_156 (Nat.le_of_ble_eq_true rfl) hRm3 ?_
                intro r_ m3 hz_ hp_
                rcases h.1 r_ m3 hp_ with rfl | rfl
                · have h := h.2.1 m3 hp_
                  refine g_if_ne (pc := 179) (tgt := 184) dX12_cond_179 (by decide) (fun _ => ?_) (fun c179 => absurd c179 (by decide))
                  refine g_aload_n (pc := 184) (x := 156) dX12_cond_184 rfl ?_
                  refine g_getR (pc := 185) (dd := 16) dX12_cond_185 fo_X12_61 sh_156 rfl ?_
                  refine g_iload_n (pc := 188) (x := l3) dX12_cond_188 rfl ?_
                  refine g_aload_n (pc := 189) (x := 156) dX12_cond_189 rfl ?_
                  refine g_getR (pc := 190) (dd := 8) dX12_cond_190 fo_X12_36 sh_156 rfl ?_
                  refine g_iconst (pc := 193) (v := (1 : Int32)) dX12_cond_193 (by decide) ?_
                  refine g_iaload (pc := 194) dX12_cond_194 sh_164 (vp_in_nI (n := 1) (N := 2) (by decide) (by decide)) ?_
                  refine g_iastore (pc := 195) dX12_cond_195 sh_172 h.1 ?_
                  have h := h.2
                  refine g_aload_n (pc := 196) (x := 156) dX12_cond_196 rfl ?_
                  refine g_getR (pc := 197) (dd := 12) dX12_cond_197 fo_X12_48 sh_156 rfl ?_
                  refine g_iload_n (pc := 200) (x := l3) dX12_cond_200 rfl ?_
                  refine g_iload (pc := 201) (x := l4) dX12_cond_201 rfl ?_
                  refine g_zastore (pc := 203) dX12_cond_203 sh_168 h.1 ?_
                  have h := h.2
                  refine g_aload_n (pc := 204) (x := 156) dX12_cond_204 rfl ?_
                  refine g_getR (pc := 205) (dd := 17) dX12_cond_205 fo_X12_64 sh_156 rfl ?_
                  refine g_iload_n (pc := 208) (x := l3) dX12_cond_208 rfl ?_
                  refine g_iload_n (pc := 209) (x := l1) dX12_cond_209 rfl ?_
                  refine g_iastore (pc := 210) dX12_cond_210 sh_173 h.1 ?_
                  have h := h.2
                  refine g_aload_n (pc := 211) (x := 156) dX12_cond_211 rfl ?_
                  refine g_getR (pc := 212) (dd := 11) dX12_cond_212 fo_X12_45 sh_156 rfl ?_
                  refine g_iconst (pc := 215) (v := (1 : Int32)) dX12_cond_215 (by decide) ?_
                  refine g_dup2 (pc := 216) dX12_cond_216 rfl rfl ?_
                  refine g_iaload (pc := 217) dX12_cond_217 sh_167 (vp_in_nI (n := 1) (N := 2) (by decide) (by decide)) ?_
                  refine g_iconst (pc := 218) (v := (1 : Int32)) dX12_cond_218 (by decide) ?_
                  refine g_iadd (pc := 219) dX12_cond_219 ?_
                  refine g_iastore (pc := 220) dX12_cond_220 sh_167 (vp_in_nI (n := 1) (N := 2) (by decide) (by decide)) ?_
                  refine g_aload_n (pc := 221) (x := 156) dX12_cond_221 rfl ?_
                  refine g_bipush (pc := 222) (v := (11 : Int32)) dX12_cond_222 (by decide) ?_
                  refine g_callV (pc := 224) (as := [.int (11 : Int32)]) dX12_cond_224 cw_X12_271 (by decide) rfl rfl sh_156 (Nat.le_of_ble_eq_true rfl) (rv_X12_isWord (wI (wI (wI (wI m3 172 (l3.toNatClampNeg) (m3.1 164 1)) 168 (l3.toNatClampNeg) (vp_nar .boolean l4)) 173 (l3.toNatClampNeg) l1) 167 1 (((wI (wI (wI m3 172 (l3.toNatClampNeg) (m3.1 164 1)) 168 (l3.toNatClampNeg) (vp_nar .boolean l4)) 173 (l3.toNatClampNeg) l1).1 167 1) + (1 : Int32))) (11 : Int32) h.1) ?_
                  have h := h.2
                  rintro r_ m_ hz_ ⟨⟨p_, rfl⟩ | ⟨p_, rfl⟩, rfl⟩
                  · have h := h.1 p_
                    refine g_if_ne (pc := 227) (tgt := 239) dX12_cond_227 (by decide) (fun _ => ?_) (fun c227 => absurd c227 (by decide))
                    refine g_iconst (pc := 239) (v := (1 : Int32)) dX12_cond_239 (by decide) ?_
                    refine g_goto (pc := 240) (tgt := 244) dX12_cond_240 (by decide) ?_
                    refine g_istore_n (pc := 244) (L' := [(0, .ref 156), (1, .int l1), (3, .int l3), (4, .int l4), (5, .int (1 : Int32)), (2, .int (1 : Int32))]) dX12_cond_244 (Nat.le_of_ble_eq_true rfl) rfl ?_
                    refine g_aload_n (pc := 245) (x := 156) dX12_cond_245 rfl ?_
                    refine g_bipush (pc := 246) (v := (12 : Int32)) dX12_cond_246 (by decide) ?_
                    refine g_callV (pc := 248) (as := [.int (12 : Int32)]) dX12_cond_248 cw_X12_271 (by decide) rfl rfl sh_156 (Nat.le_of_ble_eq_true rfl) (rv_X12_isWord (wI (wI (wI (wI m3 172 (l3.toNatClampNeg) (m3.1 164 1)) 168 (l3.toNatClampNeg) (vp_nar .boolean l4)) 173 (l3.toNatClampNeg) l1) 167 1 (((wI (wI (wI m3 172 (l3.toNatClampNeg) (m3.1 164 1)) 168 (l3.toNatClampNeg) (vp_nar .boolean l4)) 173 (l3.toNatClampNeg) l1).1 167 1) + (1 : Int32))) (12 : Int32) h.1) ?_
                    have h := h.2
                    rintro r_ m_ hz_ ⟨⟨p_, rfl⟩ | ⟨p_, rfl⟩, rfl⟩
                    · have h := h.1 p_
                      refine g_if_eq (pc := 251) (tgt := 257) dX12_cond_251 (by decide) (fun c251 => absurd c251 (by decide)) (fun _ => ?_)
                      refine g_iinc (pc := 254) (x := l1) (v := (l1 + (1 : Int32))) (L' := [(0, .ref 156), (1, .int (l1 + (1 : Int32))), (3, .int l3), (4, .int l4), (5, .int (1 : Int32)), (2, .int (1 : Int32))]) dX12_cond_254 rfl rfl (Nat.le_of_ble_eq_true rfl) rfl ?_
                      refine g_iload_n (pc := 257) (x := (1 : Int32)) dX12_cond_257 rfl ?_
                      refine g_if_eq (pc := 258) (tgt := 270) dX12_cond_258 (by decide) (fun c258 => absurd c258 (by decide)) (fun _ => ?_)
                      refine g_aload_n (pc := 261) (x := 156) dX12_cond_261 rfl ?_
                      obtain ⟨Pm4, hRm4, h⟩ := h
                      refine g_callV (pc := 262) (as := []) dX12_cond_262 cw_X12_230 (by decide) rfl rfl sh_156 (Nat.le_of_ble_eq_true rfl) hRm4 ?_
                      intro r_ m4 hz_ hp_
                      rcases h.1 r_ m4 hp_ with rfl | rfl
                      · have h := h.2.1 m4 hp_
                        refine g_if_ne (pc := 265) (tgt := 270) dX12_cond_265 (by decide) (fun _ => ?_) (fun c265 => absurd c265 (by decide))
                        refine g_goto (pc := 270) (tgt := 14) dX12_cond_270 (by decide) ?_
                        refine g_sub (L' := [(0, .ref 156), (1, .int (l1 + (1 : Int32))), (2, .int (1 : Int32))]) [0, 1, 5] rfl ?_
                        exact h
                      · have h := h.2.2 m4 hp_
                        refine g_if_ne (pc := 265) (tgt := 270) dX12_cond_265 (by decide) (fun c265 => absurd c265 (by decide)) (fun _ => ?_)
                        refine g_iconst (pc := 268) (v := (0 : Int32)) dX12_cond_268 (by decide) ?_
                        exact g_iret (pc := 269) dX12_cond_269 rfl rfl (nar_B isB0) h
                    · have h := h.2 p_
                      refine g_if_eq (pc := 251) (tgt := 257) dX12_cond_251 (by decide) (fun _ => ?_) (fun c251 => absurd c251 (by decide))
                      refine g_iload_n (pc := 257) (x := (1 : Int32)) dX12_cond_257 rfl ?_
                      refine g_if_eq (pc := 258) (tgt := 270) dX12_cond_258 (by decide) (fun c258 => absurd c258 (by decide)) (fun _ => ?_)
                      refine g_aload_n (pc := 261) (x := 156) dX12_cond_261 rfl ?_
                      obtain ⟨Pm4, hRm4, h⟩ := h
                      refine g_callV (pc := 262) (as := []) dX12_cond_262 cw_X12_230 (by decide) rfl rfl sh_156 (Nat.le_of_ble_eq_true rfl) hRm4 ?_
                      intro r_ m4 hz_ hp_
                      rcases h.1 r_ m4 hp_ with rfl | rfl
                      · have h := h.2.1 m4 hp_
                        refine g_if_ne (pc := 265) (tgt := 270) dX12_cond_265 (by decide) (fun _ => ?_) (fun c265 => absurd c265 (by decide))
                        refine g_goto (pc := 270) (tgt := 14) dX12_cond_270 (by decide) ?_
                        refine g_sub (L' := [(0, .ref 156), (1, .int l1), (2, .int (1 : Int32))]) [0, 1, 5] rfl ?_
                        exact h
                      · have h := h.2.2 m4 hp_
                        refine g_if_ne (pc := 265) (tgt := 270) dX12_cond_265 (by decide) (fun c265 => absurd c265 (by decide)) (fun _ => ?_)
                        refine g_iconst (pc := 268) (v := (0 : Int32)) dX12_cond_268 (by decide) ?_
                        exact g_iret (pc := 269) dX12_cond_269 rfl rfl (nar_B isB0) h
                  · have h := h.2 p_
                    refine g_if_ne (pc := 227) (tgt := 239) dX12_cond_227 (by decide) (fun c227 => absurd c227 (by decide)) (fun _ => ?_)
                    refine g_aload_n (pc := 230) (x := 156) dX12_cond_230 rfl ?_
                    refine g_bipush (pc := 231) (v := (12 : Int32)) dX12_cond_231 (by decide) ?_
                    refine g_callV (pc := 233) (as := [.int (12 : Int32)]) dX12_cond_233 cw_X12_271 (by decide) rfl rfl sh_156 (Nat.le_of_ble_eq_true rfl) (rv_X12_isWord (wI (wI (wI (wI m3 172 (l3.toNatClampNeg) (m3.1 164 1)) 168 (l3.toNatClampNeg) (vp_nar .boolean l4)) 173 (l3.toNatClampNeg) l1) 167 1 (((wI (wI (wI m3 172 (l3.toNatClampNeg) (m3.1 164 1)) 168 (l3.toNatClampNeg) (vp_nar .boolean l4)) 173 (l3.toNatClampNeg) l1).1 167 1) + (1 : Int32))) (12 : Int32) h.1) ?_
                    have h := h.2
                    rintro r_ m_ hz_ ⟨⟨p_, rfl⟩ | ⟨p_, rfl⟩, rfl⟩
                    · have h := h.1 p_
                      refine g_if_eq (pc := 236) (tgt := 243) dX12_cond_236 (by decide) (fun c236 => absurd c236 (by decide)) (fun _ => ?_)
                      refine g_iconst (pc := 239) (v := (1 : Int32)) dX12_cond_239 (by decide) ?_
                      refine g_goto (pc := 240) (tgt := 244) dX12_cond_240 (by decide) ?_
                      refine g_istore_n (pc := 244) (L' := [(0, .ref 156), (1, .int l1), (3, .int l3), (4, .int l4), (5, .int (1 : Int32)), (2, .int (1 : Int32))]) dX12_cond_244 (Nat.le_of_ble_eq_true rfl) rfl ?_
                      refine g_aload_n (pc := 245) (x := 156) dX12_cond_245 rfl ?_
                      refine g_bipush (pc := 246) (v := (12 : Int32)) dX12_cond_246 (by decide) ?_
                      refine g_callV (pc := 248) (as := [.int (12 : Int32)]) dX12_cond_248 cw_X12_271 (by decide) rfl rfl sh_156 (Nat.le_of_ble_eq_true rfl) (rv_X12_isWord (wI (wI (wI (wI m3 172 (l3.toNatClampNeg) (m3.1 164 1)) 168 (l3.toNatClampNeg) (vp_nar .boolean l4)) 173 (l3.toNatClampNeg) l1) 167 1 (((wI (wI (wI m3 172 (l3.toNatClampNeg) (m3.1 164 1)) 168 (l3.toNatClampNeg) (vp_nar .boolean l4)) 173 (l3.toNatClampNeg) l1).1 167 1) + (1 : Int32))) (12 : Int32) h.1) ?_
                      have h := h.2
                      rintro r_ m_ hz_ ⟨⟨p_, rfl⟩ | ⟨p_, rfl⟩, rfl⟩
                      · have h := h.1 p_
                        refine g_if_eq (pc := 251) (tgt := 257) dX12_cond_251 (by decide) (fun c251 => absurd c251 (by decide)) (fun _ => ?_)
                        refine g_iinc (pc := 254) (x := l1) (v := (l1 + (1 : Int32))) (L' := [(0, .ref 156), (1, .int (l1 + (1 : Int32))), (3, .int l3), (4, .int l4), (5, .int (1 : Int32)), (2, .int (1 : Int32))]) dX12_cond_254 rfl rfl (Nat.le_of_ble_eq_true rfl) rfl ?_
                        refine g_iload_n (pc := 257) (x := (1 : Int32)) dX12_cond_257 rfl ?_
                        refine g_if_eq (pc := 258) (tgt := 270) dX12_cond_258 (by decide) (fun c258 => absurd c258 (by decide)) (fun _ => ?_)
                        refine g_aload_n (pc := 261) (x := 156) dX12_cond_261 rfl ?_
                        obtain ⟨Pm4, hRm4, h⟩ := h
                        refine g_callV (pc := 262) (as := []) dX12_cond_262 cw_X12_230 (by decide) rfl rfl sh_156 (Nat.le_of_ble_eq_true rfl) hRm4 ?_
                        intro r_ m4 hz_ hp_
                        rcases h.1 r_ m4 hp_ with rfl | rfl
                        · have h := h.2.1 m4 hp_
                          refine g_if_ne (pc := 265) (tgt := 270) dX12_cond_265 (by decide) (fun _ => ?_) (fun c265 => absurd c265 (by decide))
                          refine g_goto (pc := 270) (tgt := 14) dX12_cond_270 (by decide) ?_
                          refine g_sub (L' := [(0, .ref 156), (1, .int (l1 + (1 : Int32))), (2, .int (1 : Int32))]) [0, 1, 5] rfl ?_
                          exact h
                        · have h := h.2.2 m4 hp_
                          refine g_if_ne (pc := 265) (tgt := 270) dX12_cond_265 (by decide) (fun c265 => absurd c265 (by decide)) (fun _ => ?_)
                          refine g_iconst (pc := 268) (v := (0 : Int32)) dX12_cond_268 (by decide) ?_
                          exact g_iret (pc := 269) dX12_cond_269 rfl rfl (nar_B isB0) h
                      · have h := h.2 p_
                        refine g_if_eq (pc := 251) (tgt := 257) dX12_cond_251 (by decide) (fun _ => ?_) (fun c251 => absurd c251 (by decide))
                        refine g_iload_n (pc := 257) (x := (1 : Int32)) dX12_cond_257 rfl ?_
                        refine g_if_eq (pc := 258) (tgt := 270) dX12_cond_258 (by decide) (fun c258 => absurd c258 (by decide)) (fun _ => ?_)
                        refine g_aload_n (pc := 261) (x := 156) dX12_cond_261 rfl ?_
                        obtain ⟨Pm4, hRm4, h⟩ := h
                        refine g_callV (pc := 262) (as := []) dX12_cond_262 cw_X12_230 (by decide) rfl rfl sh_156 (Nat.le_of_ble_eq_true rfl) hRm4 ?_
                        intro r_ m4 hz_ hp_
                        rcases h.1 r_ m4 hp_ with rfl | rfl
                        · have h := h.2.1 m4 hp_
                          refine g_if_ne (pc := 265) (tgt := 270) dX12_cond_265 (by decide) (fun _ => ?_) (fun c265 => absurd c265 (by decide))
                          refine g_goto (pc := 270) (tgt := 14) dX12_cond_270 (by decide) ?_
                          refine g_sub (L' := [(0, .ref 156), (1, .int l1), (2, .int (1 : Int32))]) [0, 1, 5] rfl ?_
                          exact h
                        · have h := h.2.2 m4 hp_
                          refine g_if_ne (pc := 265) (tgt := 270) dX12_cond_265 (by decide) (fun c265 => absurd c265 (by decide)) (fun _ => ?_)
                          refine g_iconst (pc := 268) (v := (0 : Int32)) dX12_cond_268 (by decide) ?_
                          exact g_iret (pc := 269) dX12_cond_269 rfl rfl (nar_B isB0) h
                    · have h := h.2 p_
                      refine g_if_eq (pc := 236) (tgt := 243) dX12_cond_236 (by decide) (fun _ => ?_) (fun c236 => absurd c236 (by decide))
                      refine g_iconst (pc := 243) (v := (0 : Int32)) dX12_cond_243 (by decide) ?_
                      refine g_istore_n (pc := 244) (L' := [(0, .ref 156), (1, .int l1), (3, .int l3), (4, .int l4), (5, .int (1 : Int32)), (2, .int (0 : Int32))]) dX12_cond_244 (Nat.le_of_ble_eq_true rfl) rfl ?_
                      refine g_aload_n (pc := 245) (x := 156) dX12_cond_245 rfl ?_
                      refine g_bipush (pc := 246) (v := (12 : Int32)) dX12_cond_246 (by decide) ?_
                      refine g_callV (pc := 248) (as := [.int (12 : Int32)]) dX12_cond_248 cw_X12_271 (by decide) rfl rfl sh_156 (Nat.le_of_ble_eq_true rfl) (rv_X12_isWord (wI (wI (wI (wI m3 172 (l3.toNatClampNeg) (m3.1 164 1)) 168 (l3.toNatClampNeg) (vp_nar .boolean l4)) 173 (l3.toNatClampNeg) l1) 167 1 (((wI (wI (wI m3 172 (l3.toNatClampNeg) (m3.1 164 1)) 168 (l3.toNatClampNeg) (vp_nar .boolean l4)) 173 (l3.toNatClampNeg) l1).1 167 1) + (1 : Int32))) (12 : Int32) h.1) ?_
                      have h := h.2
                      rintro r_ m_ hz_ ⟨⟨p_, rfl⟩ | ⟨p_, rfl⟩, rfl⟩
                      · have h := h.1 p_
                        refine g_if_eq (pc := 251) (tgt := 257) dX12_cond_251 (by decide) (fun c251 => absurd c251 (by decide)) (fun _ => ?_)
                        refine g_iinc (pc := 254) (x := l1) (v := (l1 + (1 : Int32))) (L' := [(0, .ref 156), (1, .int (l1 + (1 : Int32))), (3, .int l3), (4, .int l4), (5, .int (1 : Int32)), (2, .int (0 : Int32))]) dX12_cond_254 rfl rfl (Nat.le_of_ble_eq_true rfl) rfl ?_
                        refine g_iload_n (pc := 257) (x := (0 : Int32)) dX12_cond_257 rfl ?_
                        refine g_if_eq (pc := 258) (tgt := 270) dX12_cond_258 (by decide) (fun _ => ?_) (fun c258 => absurd c258 (by decide))
                        refine g_goto (pc := 270) (tgt := 14) dX12_cond_270 (by decide) ?_
                        refine g_sub (L' := [(0, .ref 156), (1, .int (l1 + (1 : Int32))), (2, .int (0 : Int32))]) [0, 1, 5] rfl ?_
                        exact h
                      · have h := h.2 p_
                        refine g_if_eq (pc := 251) (tgt := 257) dX12_cond_251 (by decide) (fun _ => ?_) (fun c251 => absurd c251 (by decide))
                        refine g_iload_n (pc := 257) (x := (0 : Int32)) dX12_cond_257 rfl ?_
                        refine g_if_eq (pc := 258) (tgt := 270) dX12_cond_258 (by decide) (fun _ => ?_) (fun c258 => absurd c258 (by decide))
                        refine g_goto (pc := 270) (tgt := 14) dX12_cond_270 (by decide) ?_
                        refine g_sub (L' := [(0, .ref 156), (1, .int l1), (2, .int (0 : Int32))]) [0, 1, 5] rfl ?_
                        exact h
                · have h := h.2.2 m3 hp_
                  refine g_if_ne (pc := 179) (tgt := 184) dX12_cond_179 (by decide) (fun c179 => absurd c179 (by decide)) (fun _ => ?_)
                  refine g_iconst (pc := 182) (v := (0 : Int32)) dX12_cond_182 (by decide) ?_
                  exact g_iret (pc := 183) dX12_cond_183 rfl rfl (nar_B isB0) h
              · have h := h.2.2 m2 hp_
                refine g_if_eq (pc := 172) (tgt := 182) dX12_cond_172 (by decide) (fun _ => ?_) (fun c172 => absurd c172 (by decide))
                refine g_iconst (pc := 182) (v := (0 : Int32)) dX12_cond_182 (by decide) ?_
                exact g_iret (pc := 183) dX12_cond_183 rfl rfl (nar_B isB0) h
            · have h := h.2 p_
              refine g_if_eq (pc := 132) (tgt := 139) dX12_cond_132 (by decide) (fun _ => ?_) (fun c132 => absurd c132 (by decide))
              refine g_iconst (pc := 139) (v := (0 : Int32)) dX12_cond_139 (by decide) ?_
              refine g_istore (pc := 140) (L' := [(0, .ref 156), (1, .int l1), (3, .int l3), (4, .int l4), (5, .int (0 : Int32))]) dX12_cond_140 (Nat.le_of_ble_eq_true rfl) rfl ?_
              refine g_iload (pc := 142) (x := (0 : Int32)) dX12_cond_142 rfl ?_
              refine g_if_ne (pc := 144) (tgt := 153) dX12_cond_144 (by decide) (fun c144 => absurd c144 (by decide)) (fun _ => ?_)
              refine g_aload_n (pc := 147) (x := 156) dX12_cond_147 rfl ?_
              refine g_iconst (pc := 148) (v := (1 : Int32)) dX12_cond_148 (by decide) ?_
              obtain ⟨Pm2, hRm2, h⟩ := h
              refine g_callV (pc := 149) (as := [.int (1 : Int32)]) dX12_cond_149 cw_X12_227 (by decide) rfl rfl sh_156 (Nat.le_of_ble_eq_true rfl) hRm2 ?_
              intro r_ m2 hz_ hp_
              rcases h.1 r_ m2 hp_ with rfl | rfl
              · have h := h.2.1 m2 hp_
                exact g_iret (pc := 152) dX12_cond_152 rfl rfl (nar_B isB1) h
              · have h := h.2.2 m2 hp_
                exact g_iret (pc := 152) dX12_cond_152 rfl rfl (nar_B isB0) h
    · have h := h.2.2 m1 hp_
      refine g_if_ne (pc := 69) (tgt := 74) dX12_cond_69 (by decide) (fun c69 => absurd c69 (by decide)) (fun _ => ?_)
      refine g_iconst (pc := 72) (v := (0 : Int32)) dX12_cond_72 (by decide) ?_
      exact g_iret (pc := 73) dX12_cond_73 rfl rfl (nar_B isB0) h
theorem dX12_told_0 : decode cX12_told 0 = .ok (.aload_n 0, 1) := by decide +kernel
theorem dX12_told_1 : decode cX12_told 1 = .ok (.getfield 30, 3) := by decide +kernel
theorem dX12_told_4 : decode cX12_told 4 = .ok (.sipush 210, 3) := by decide +kernel
theorem dX12_told_7 : decode cX12_told 7 = .ok (.iload_n 1, 1) := by decide +kernel
theorem dX12_told_8 : decode cX12_told 8 = .ok (.iadd, 1) := by decide +kernel
theorem dX12_told_9 : decode cX12_told 9 = .ok (.iaload, 1) := by decide +kernel
theorem dX12_told_10 : decode cX12_told 10 = .ok (.ireturn, 1) := by decide +kernel
def o_X12_told (mm : MM) (a1 : Int32) : Prop := vp_in ((210 : Int32) + a1) 420 ∧ (True)
noncomputable def v_X12_told (mm : MM) (a1 : Int32) : Int32 := (mm.1 162 ((210 : Int32) + a1).toNatClampNeg)
theorem rv_X12_told (mm : MM) (a1 : Int32) (h : o_X12_told mm a1) : Runs e_X12_told [.ref 156, .int a1] mm (fun r m_ => r = .int (v_X12_told mm a1) ∧ mm = m_) := by
  refine runs_of_G (L := [(0, .ref 156), (1, .int a1)]) pl_X12 (Nat.le_of_ble_eq_true rfl) rfl ?_
  unfold o_X12_told at h
  refine g_aload_n (pc := 0) (x := 156) dX12_told_0 rfl ?_
  refine g_getR (pc := 1) (dd := 6) dX12_told_1 fo_X12_30 sh_156 rfl ?_
  refine g_sipush (pc := 4) (v := (210 : Int32)) dX12_told_4 (by decide) ?_
  refine g_iload_n (pc := 7) (x := a1) dX12_told_7 rfl ?_
  refine g_iadd (pc := 8) dX12_told_8 ?_
  refine g_iaload (pc := 9) dX12_told_9 sh_162 h.1 ?_
  have h := h.2
  exact g_iret (pc := 10) dX12_told_10 rfl rfl rfl ⟨rfl, rfl⟩
theorem dX12_tell_0 : decode cX12_tell 0 = .ok (.aload_n 0, 1) := by decide +kernel
theorem dX12_tell_1 : decode cX12_tell 1 = .ok (.getfield 30, 3) := by decide +kernel
theorem dX12_tell_4 : decode cX12_tell 4 = .ok (.sipush 210, 3) := by decide +kernel
theorem dX12_tell_7 : decode cX12_tell 7 = .ok (.iload_n 1, 1) := by decide +kernel
theorem dX12_tell_8 : decode cX12_tell 8 = .ok (.iadd, 1) := by decide +kernel
theorem dX12_tell_9 : decode cX12_tell 9 = .ok (.iload_n 2, 1) := by decide +kernel
theorem dX12_tell_10 : decode cX12_tell 10 = .ok (.iastore, 1) := by decide +kernel
theorem dX12_tell_11 : decode cX12_tell 11 = .ok (.return_, 1) := by decide +kernel
theorem b_X12_tell (mm : MM) (Q : Value → MM → Prop) (a1 : Int32) (a2 : Int32) (h : vp_in ((210 : Int32) + a1) 420 ∧ (Q .null (wI mm 162 (((210 : Int32) + a1).toNatClampNeg) a2))) : Runs e_X12_tell [.ref 156, .int a1, .int a2] mm Q := by
  refine runs_of_G (L := [(0, .ref 156), (1, .int a1), (2, .int a2)]) pl_X12 (Nat.le_of_ble_eq_true rfl) rfl ?_
  refine g_aload_n (pc := 0) (x := 156) dX12_tell_0 rfl ?_
  refine g_getR (pc := 1) (dd := 6) dX12_tell_1 fo_X12_30 sh_156 rfl ?_
  refine g_sipush (pc := 4) (v := (210 : Int32)) dX12_tell_4 (by decide) ?_
  refine g_iload_n (pc := 7) (x := a1) dX12_tell_7 rfl ?_
  refine g_iadd (pc := 8) dX12_tell_8 ?_
  refine g_iload_n (pc := 9) (x := a2) dX12_tell_9 rfl ?_
  refine g_iastore (pc := 10) dX12_tell_10 sh_162 h.1 ?_
  have h := h.2
  exact g_vret (pc := 11) dX12_tell_11 rfl rfl h
theorem dX12_begin_0 : decode cX12_begin 0 = .ok (.iconst 0, 1) := by decide +kernel
theorem dX12_begin_1 : decode cX12_begin 1 = .ok (.istore_n 2, 1) := by decide +kernel
theorem dX12_begin_2 : decode cX12_begin 2 = .ok (.iload_n 2, 1) := by decide +kernel
theorem dX12_begin_3 : decode cX12_begin 3 = .ok (.sipush 210, 3) := by decide +kernel
theorem dX12_begin_6 : decode cX12_begin 6 = .ok (.if_icmp .ge 22, 3) := by decide +kernel
theorem dX12_begin_9 : decode cX12_begin 9 = .ok (.aload_n 0, 1) := by decide +kernel
theorem dX12_begin_10 : decode cX12_begin 10 = .ok (.getfield 30, 3) := by decide +kernel
theorem dX12_begin_13 : decode cX12_begin 13 = .ok (.sipush 210, 3) := by decide +kernel
theorem dX12_begin_16 : decode cX12_begin 16 = .ok (.iload_n 1, 1) := by decide +kernel
theorem dX12_begin_17 : decode cX12_begin 17 = .ok (.imul, 1) := by decide +kernel
theorem dX12_begin_18 : decode cX12_begin 18 = .ok (.iload_n 2, 1) := by decide +kernel
theorem dX12_begin_19 : decode cX12_begin 19 = .ok (.iadd, 1) := by decide +kernel
theorem dX12_begin_20 : decode cX12_begin 20 = .ok (.iconst 0, 1) := by decide +kernel
theorem dX12_begin_21 : decode cX12_begin 21 = .ok (.iastore, 1) := by decide +kernel
theorem dX12_begin_22 : decode cX12_begin 22 = .ok (.iinc 2 1, 3) := by decide +kernel
theorem dX12_begin_25 : decode cX12_begin 25 = .ok (.goto (-23), 3) := by decide +kernel
theorem dX12_begin_28 : decode cX12_begin 28 = .ok (.aload_n 0, 1) := by decide +kernel
theorem dX12_begin_29 : decode cX12_begin 29 = .ok (.getfield 30, 3) := by decide +kernel
theorem dX12_begin_32 : decode cX12_begin 32 = .ok (.sipush 210, 3) := by decide +kernel
theorem dX12_begin_35 : decode cX12_begin 35 = .ok (.iload_n 1, 1) := by decide +kernel
theorem dX12_begin_36 : decode cX12_begin 36 = .ok (.imul, 1) := by decide +kernel
theorem dX12_begin_37 : decode cX12_begin 37 = .ok (.bipush 6, 2) := by decide +kernel
theorem dX12_begin_39 : decode cX12_begin 39 = .ok (.iadd, 1) := by decide +kernel
theorem dX12_begin_40 : decode cX12_begin 40 = .ok (.iconst 2, 1) := by decide +kernel
theorem dX12_begin_41 : decode cX12_begin 41 = .ok (.iastore, 1) := by decide +kernel
theorem dX12_begin_42 : decode cX12_begin 42 = .ok (.aload_n 0, 1) := by decide +kernel
theorem dX12_begin_43 : decode cX12_begin 43 = .ok (.getfield 30, 3) := by decide +kernel
theorem dX12_begin_46 : decode cX12_begin 46 = .ok (.sipush 210, 3) := by decide +kernel
theorem dX12_begin_49 : decode cX12_begin 49 = .ok (.iload_n 1, 1) := by decide +kernel
theorem dX12_begin_50 : decode cX12_begin 50 = .ok (.imul, 1) := by decide +kernel
theorem dX12_begin_51 : decode cX12_begin 51 = .ok (.bipush 7, 2) := by decide +kernel
theorem dX12_begin_53 : decode cX12_begin 53 = .ok (.iadd, 1) := by decide +kernel
theorem dX12_begin_54 : decode cX12_begin 54 = .ok (.bipush 10, 2) := by decide +kernel
theorem dX12_begin_56 : decode cX12_begin 56 = .ok (.iastore, 1) := by decide +kernel
theorem dX12_begin_57 : decode cX12_begin 57 = .ok (.iconst 0, 1) := by decide +kernel
theorem dX12_begin_58 : decode cX12_begin 58 = .ok (.istore_n 2, 1) := by decide +kernel
theorem dX12_begin_59 : decode cX12_begin 59 = .ok (.iload_n 2, 1) := by decide +kernel
theorem dX12_begin_60 : decode cX12_begin 60 = .ok (.bipush 6, 2) := by decide +kernel
theorem dX12_begin_62 : decode cX12_begin 62 = .ok (.if_icmp .ge 25, 3) := by decide +kernel
theorem dX12_begin_65 : decode cX12_begin 65 = .ok (.aload_n 0, 1) := by decide +kernel
theorem dX12_begin_66 : decode cX12_begin 66 = .ok (.getfield 30, 3) := by decide +kernel
theorem dX12_begin_69 : decode cX12_begin 69 = .ok (.sipush 210, 3) := by decide +kernel
theorem dX12_begin_72 : decode cX12_begin 72 = .ok (.iload_n 1, 1) := by decide +kernel
theorem dX12_begin_73 : decode cX12_begin 73 = .ok (.imul, 1) := by decide +kernel
theorem dX12_begin_74 : decode cX12_begin 74 = .ok (.bipush 10, 2) := by decide +kernel
theorem dX12_begin_76 : decode cX12_begin 76 = .ok (.iadd, 1) := by decide +kernel
theorem dX12_begin_77 : decode cX12_begin 77 = .ok (.iload_n 2, 1) := by decide +kernel
theorem dX12_begin_78 : decode cX12_begin 78 = .ok (.iadd, 1) := by decide +kernel
theorem dX12_begin_79 : decode cX12_begin 79 = .ok (.iconst (-1), 1) := by decide +kernel
theorem dX12_begin_80 : decode cX12_begin 80 = .ok (.iastore, 1) := by decide +kernel
theorem dX12_begin_81 : decode cX12_begin 81 = .ok (.iinc 2 1, 3) := by decide +kernel
theorem dX12_begin_84 : decode cX12_begin 84 = .ok (.goto (-25), 3) := by decide +kernel
theorem dX12_begin_87 : decode cX12_begin 87 = .ok (.aload_n 0, 1) := by decide +kernel
theorem dX12_begin_88 : decode cX12_begin 88 = .ok (.getfield 36, 3) := by decide +kernel
theorem dX12_begin_91 : decode cX12_begin 91 = .ok (.iload_n 1, 1) := by decide +kernel
theorem dX12_begin_92 : decode cX12_begin 92 = .ok (.iconst 0, 1) := by decide +kernel
theorem dX12_begin_93 : decode cX12_begin 93 = .ok (.iastore, 1) := by decide +kernel
theorem dX12_begin_94 : decode cX12_begin 94 = .ok (.aload_n 0, 1) := by decide +kernel
theorem dX12_begin_95 : decode cX12_begin 95 = .ok (.getfield 45, 3) := by decide +kernel
theorem dX12_begin_98 : decode cX12_begin 98 = .ok (.iload_n 1, 1) := by decide +kernel
theorem dX12_begin_99 : decode cX12_begin 99 = .ok (.iconst 0, 1) := by decide +kernel
theorem dX12_begin_100 : decode cX12_begin 100 = .ok (.iastore, 1) := by decide +kernel
theorem dX12_begin_101 : decode cX12_begin 101 = .ok (.return_, 1) := by decide +kernel
theorem b_X12_begin (mm : MM) (Q : Value → MM → Prop) (a1 : Int32) (h : G e_X12_begin 2 [(0, .ref 156), (1, .int a1), (2, .int (0 : Int32))] [] mm Q) : Runs e_X12_begin [.ref 156, .int a1] mm Q := by
  refine runs_of_G (L := [(0, .ref 156), (1, .int a1)]) pl_X12 (Nat.le_of_ble_eq_true rfl) rfl ?_
  refine g_iconst (pc := 0) (v := (0 : Int32)) dX12_begin_0 (by decide) ?_
  refine g_istore_n (pc := 1) (L' := [(0, .ref 156), (1, .int a1), (2, .int (0 : Int32))]) dX12_begin_1 (Nat.le_of_ble_eq_true rfl) rfl ?_
  exact h
theorem b_X12_begin_2 (mm : MM) (Q : Value → MM → Prop) (l1 : Int32) (l2 : Int32) (h : ((210 : Int32) ≤ l2 → (vp_in (((210 : Int32) * l1) + (6 : Int32)) 420 ∧ (vp_in (((210 : Int32) * l1) + (7 : Int32)) 420 ∧ (G e_X12_begin 59 [(0, .ref 156), (1, .int l1), (2, .int (0 : Int32))] [] (wI (wI mm 162 ((((210 : Int32) * l1) + (6 : Int32)).toNatClampNeg) (2 : Int32)) 162 ((((210 : Int32) * l1) + (7 : Int32)).toNatClampNeg) (10 : Int32)) Q)))) ∧ (¬ (210 : Int32) ≤ l2 → (vp_in (((210 : Int32) * l1) + l2) 420 ∧ (G e_X12_begin 2 [(0, .ref 156), (1, .int l1), (2, .int (l2 + (1 : Int32)))] [] (wI mm 162 ((((210 : Int32) * l1) + l2).toNatClampNeg) (0 : Int32)) Q)))) : G e_X12_begin 2 [(0, .ref 156), (1, .int l1), (2, .int l2)] [] mm Q := by
  refine g_iload_n (pc := 2) (x := l2) dX12_begin_2 rfl ?_
  refine g_sipush (pc := 3) (v := (210 : Int32)) dX12_begin_3 (by decide) ?_
  refine g_icmp_ge (pc := 6) (tgt := 28) dX12_begin_6 (by decide) (fun c6 => ?_) (fun c6 => ?_)
  · have h := h.1 c6
    refine g_aload_n (pc := 28) (x := 156) dX12_begin_28 rfl ?_
    refine g_getR (pc := 29) (dd := 6) dX12_begin_29 fo_X12_30 sh_156 rfl ?_
    refine g_sipush (pc := 32) (v := (210 : Int32)) dX12_begin_32 (by decide) ?_
    refine g_iload_n (pc := 35) (x := l1) dX12_begin_35 rfl ?_
    refine g_imul (pc := 36) dX12_begin_36 ?_
    refine g_bipush (pc := 37) (v := (6 : Int32)) dX12_begin_37 (by decide) ?_
    refine g_iadd (pc := 39) dX12_begin_39 ?_
    refine g_iconst (pc := 40) (v := (2 : Int32)) dX12_begin_40 (by decide) ?_
    refine g_iastore (pc := 41) dX12_begin_41 sh_162 h.1 ?_
    have h := h.2
    refine g_aload_n (pc := 42) (x := 156) dX12_begin_42 rfl ?_
    refine g_getR (pc := 43) (dd := 6) dX12_begin_43 fo_X12_30 sh_156 rfl ?_
    refine g_sipush (pc := 46) (v := (210 : Int32)) dX12_begin_46 (by decide) ?_
    refine g_iload_n (pc := 49) (x := l1) dX12_begin_49 rfl ?_
    refine g_imul (pc := 50) dX12_begin_50 ?_
    refine g_bipush (pc := 51) (v := (7 : Int32)) dX12_begin_51 (by decide) ?_
    refine g_iadd (pc := 53) dX12_begin_53 ?_
    refine g_bipush (pc := 54) (v := (10 : Int32)) dX12_begin_54 (by decide) ?_
    refine g_iastore (pc := 56) dX12_begin_56 sh_162 h.1 ?_
    have h := h.2
    refine g_iconst (pc := 57) (v := (0 : Int32)) dX12_begin_57 (by decide) ?_
    refine g_istore_n (pc := 58) (L' := [(0, .ref 156), (1, .int l1), (2, .int (0 : Int32))]) dX12_begin_58 (Nat.le_of_ble_eq_true rfl) rfl ?_
    exact h
  · have h := h.2 c6
    refine g_aload_n (pc := 9) (x := 156) dX12_begin_9 rfl ?_
    refine g_getR (pc := 10) (dd := 6) dX12_begin_10 fo_X12_30 sh_156 rfl ?_
    refine g_sipush (pc := 13) (v := (210 : Int32)) dX12_begin_13 (by decide) ?_
    refine g_iload_n (pc := 16) (x := l1) dX12_begin_16 rfl ?_
    refine g_imul (pc := 17) dX12_begin_17 ?_
    refine g_iload_n (pc := 18) (x := l2) dX12_begin_18 rfl ?_
    refine g_iadd (pc := 19) dX12_begin_19 ?_
    refine g_iconst (pc := 20) (v := (0 : Int32)) dX12_begin_20 (by decide) ?_
    refine g_iastore (pc := 21) dX12_begin_21 sh_162 h.1 ?_
    have h := h.2
    refine g_iinc (pc := 22) (x := l2) (v := (l2 + (1 : Int32))) (L' := [(0, .ref 156), (1, .int l1), (2, .int (l2 + (1 : Int32)))]) dX12_begin_22 rfl rfl (Nat.le_of_ble_eq_true rfl) rfl ?_
    refine g_goto (pc := 25) (tgt := 2) dX12_begin_25 (by decide) ?_
    exact h
theorem b_X12_begin_59 (mm : MM) (Q : Value → MM → Prop) (l1 : Int32) (l2 : Int32) (h : ((6 : Int32) ≤ l2 → (vp_in l1 2 ∧ (vp_in l1 2 ∧ (Q .null (wI (wI mm 164 (l1.toNatClampNeg) (0 : Int32)) 167 (l1.toNatClampNeg) (0 : Int32)))))) ∧ (¬ (6 : Int32) ≤ l2 → (vp_in ((((210 : Int32) * l1) + (10 : Int32)) + l2) 420 ∧ (G e_X12_begin 59 [(0, .ref 156), (1, .int l1), (2, .int (l2 + (1 : Int32)))] [] (wI mm 162 (((((210 : Int32) * l1) + (10 : Int32)) + l2).toNatClampNeg) (-1 : Int32)) Q)))) : G e_X12_begin 59 [(0, .ref 156), (1, .int l1), (2, .int l2)] [] mm Q := by
  refine g_iload_n (pc := 59) (x := l2) dX12_begin_59 rfl ?_
  refine g_bipush (pc := 60) (v := (6 : Int32)) dX12_begin_60 (by decide) ?_
  refine g_icmp_ge (pc := 62) (tgt := 87) dX12_begin_62 (by decide) (fun c62 => ?_) (fun c62 => ?_)
  · have h := h.1 c62
    refine g_aload_n (pc := 87) (x := 156) dX12_begin_87 rfl ?_
    refine g_getR (pc := 88) (dd := 8) dX12_begin_88 fo_X12_36 sh_156 rfl ?_
    refine g_iload_n (pc := 91) (x := l1) dX12_begin_91 rfl ?_
    refine g_iconst (pc := 92) (v := (0 : Int32)) dX12_begin_92 (by decide) ?_
    refine g_iastore (pc := 93) dX12_begin_93 sh_164 h.1 ?_
    have h := h.2
    refine g_aload_n (pc := 94) (x := 156) dX12_begin_94 rfl ?_
    refine g_getR (pc := 95) (dd := 11) dX12_begin_95 fo_X12_45 sh_156 rfl ?_
    refine g_iload_n (pc := 98) (x := l1) dX12_begin_98 rfl ?_
    refine g_iconst (pc := 99) (v := (0 : Int32)) dX12_begin_99 (by decide) ?_
    refine g_iastore (pc := 100) dX12_begin_100 sh_167 h.1 ?_
    have h := h.2
    exact g_vret (pc := 101) dX12_begin_101 rfl rfl h
  · have h := h.2 c62
    refine g_aload_n (pc := 65) (x := 156) dX12_begin_65 rfl ?_
    refine g_getR (pc := 66) (dd := 6) dX12_begin_66 fo_X12_30 sh_156 rfl ?_
    refine g_sipush (pc := 69) (v := (210 : Int32)) dX12_begin_69 (by decide) ?_
    refine g_iload_n (pc := 72) (x := l1) dX12_begin_72 rfl ?_
    refine g_imul (pc := 73) dX12_begin_73 ?_
    refine g_bipush (pc := 74) (v := (10 : Int32)) dX12_begin_74 (by decide) ?_
    refine g_iadd (pc := 76) dX12_begin_76 ?_
    refine g_iload_n (pc := 77) (x := l2) dX12_begin_77 rfl ?_
    refine g_iadd (pc := 78) dX12_begin_78 ?_
    refine g_iconst (pc := 79) (v := (-1 : Int32)) dX12_begin_79 (by decide) ?_
    refine g_iastore (pc := 80) dX12_begin_80 sh_162 h.1 ?_
    have h := h.2
    refine g_iinc (pc := 81) (x := l2) (v := (l2 + (1 : Int32))) (L' := [(0, .ref 156), (1, .int l1), (2, .int (l2 + (1 : Int32)))]) dX12_begin_81 rfl rfl (Nat.le_of_ble_eq_true rfl) rfl ?_
    refine g_goto (pc := 84) (tgt := 59) dX12_begin_84 (by decide) ?_
    exact h
theorem dX12_takesHold_0 : decode cX12_takesHold 0 = .ok (.iconst 0, 1) := by decide +kernel
theorem dX12_takesHold_1 : decode cX12_takesHold 1 = .ok (.istore_n 1, 1) := by decide +kernel
theorem dX12_takesHold_2 : decode cX12_takesHold 2 = .ok (.iload_n 1, 1) := by decide +kernel
theorem dX12_takesHold_3 : decode cX12_takesHold 3 = .ok (.sipush 210, 3) := by decide +kernel
theorem dX12_takesHold_6 : decode cX12_takesHold 6 = .ok (.if_icmp .ge 25, 3) := by decide +kernel
theorem dX12_takesHold_9 : decode cX12_takesHold 9 = .ok (.aload_n 0, 1) := by decide +kernel
theorem dX12_takesHold_10 : decode cX12_takesHold 10 = .ok (.getfield 30, 3) := by decide +kernel
theorem dX12_takesHold_13 : decode cX12_takesHold 13 = .ok (.iload_n 1, 1) := by decide +kernel
theorem dX12_takesHold_14 : decode cX12_takesHold 14 = .ok (.aload_n 0, 1) := by decide +kernel
theorem dX12_takesHold_15 : decode cX12_takesHold 15 = .ok (.getfield 30, 3) := by decide +kernel
theorem dX12_takesHold_18 : decode cX12_takesHold 18 = .ok (.sipush 210, 3) := by decide +kernel
theorem dX12_takesHold_21 : decode cX12_takesHold 21 = .ok (.iload_n 1, 1) := by decide +kernel
theorem dX12_takesHold_22 : decode cX12_takesHold 22 = .ok (.iadd, 1) := by decide +kernel
theorem dX12_takesHold_23 : decode cX12_takesHold 23 = .ok (.iaload, 1) := by decide +kernel
theorem dX12_takesHold_24 : decode cX12_takesHold 24 = .ok (.iastore, 1) := by decide +kernel
theorem dX12_takesHold_25 : decode cX12_takesHold 25 = .ok (.iinc 1 1, 3) := by decide +kernel
theorem dX12_takesHold_28 : decode cX12_takesHold 28 = .ok (.goto (-26), 3) := by decide +kernel
theorem dX12_takesHold_31 : decode cX12_takesHold 31 = .ok (.iconst 0, 1) := by decide +kernel
theorem dX12_takesHold_32 : decode cX12_takesHold 32 = .ok (.istore_n 1, 1) := by decide +kernel
theorem dX12_takesHold_33 : decode cX12_takesHold 33 = .ok (.iload_n 1, 1) := by decide +kernel
theorem dX12_takesHold_34 : decode cX12_takesHold 34 = .ok (.sipush 500, 3) := by decide +kernel
theorem dX12_takesHold_37 : decode cX12_takesHold 37 = .ok (.if_icmp .ge 41, 3) := by decide +kernel
theorem dX12_takesHold_40 : decode cX12_takesHold 40 = .ok (.aload_n 0, 1) := by decide +kernel
theorem dX12_takesHold_41 : decode cX12_takesHold 41 = .ok (.getfield 39, 3) := by decide +kernel
theorem dX12_takesHold_44 : decode cX12_takesHold 44 = .ok (.iload_n 1, 1) := by decide +kernel
theorem dX12_takesHold_45 : decode cX12_takesHold 45 = .ok (.aload_n 0, 1) := by decide +kernel
theorem dX12_takesHold_46 : decode cX12_takesHold 46 = .ok (.getfield 39, 3) := by decide +kernel
theorem dX12_takesHold_49 : decode cX12_takesHold 49 = .ok (.sipush 500, 3) := by decide +kernel
theorem dX12_takesHold_52 : decode cX12_takesHold 52 = .ok (.iload_n 1, 1) := by decide +kernel
theorem dX12_takesHold_53 : decode cX12_takesHold 53 = .ok (.iadd, 1) := by decide +kernel
theorem dX12_takesHold_54 : decode cX12_takesHold 54 = .ok (.iaload, 1) := by decide +kernel
theorem dX12_takesHold_55 : decode cX12_takesHold 55 = .ok (.iastore, 1) := by decide +kernel
theorem dX12_takesHold_56 : decode cX12_takesHold 56 = .ok (.aload_n 0, 1) := by decide +kernel
theorem dX12_takesHold_57 : decode cX12_takesHold 57 = .ok (.getfield 42, 3) := by decide +kernel
theorem dX12_takesHold_60 : decode cX12_takesHold 60 = .ok (.iload_n 1, 1) := by decide +kernel
theorem dX12_takesHold_61 : decode cX12_takesHold 61 = .ok (.aload_n 0, 1) := by decide +kernel
theorem dX12_takesHold_62 : decode cX12_takesHold 62 = .ok (.getfield 42, 3) := by decide +kernel
theorem dX12_takesHold_65 : decode cX12_takesHold 65 = .ok (.sipush 500, 3) := by decide +kernel
theorem dX12_takesHold_68 : decode cX12_takesHold 68 = .ok (.iload_n 1, 1) := by decide +kernel
theorem dX12_takesHold_69 : decode cX12_takesHold 69 = .ok (.iadd, 1) := by decide +kernel
theorem dX12_takesHold_70 : decode cX12_takesHold 70 = .ok (.iaload, 1) := by decide +kernel
theorem dX12_takesHold_71 : decode cX12_takesHold 71 = .ok (.iastore, 1) := by decide +kernel
theorem dX12_takesHold_72 : decode cX12_takesHold 72 = .ok (.iinc 1 1, 3) := by decide +kernel
theorem dX12_takesHold_75 : decode cX12_takesHold 75 = .ok (.goto (-42), 3) := by decide +kernel
theorem dX12_takesHold_78 : decode cX12_takesHold 78 = .ok (.iconst 0, 1) := by decide +kernel
theorem dX12_takesHold_79 : decode cX12_takesHold 79 = .ok (.istore_n 1, 1) := by decide +kernel
theorem dX12_takesHold_80 : decode cX12_takesHold 80 = .ok (.iload_n 1, 1) := by decide +kernel
theorem dX12_takesHold_81 : decode cX12_takesHold 81 = .ok (.sipush 200, 3) := by decide +kernel
theorem dX12_takesHold_84 : decode cX12_takesHold 84 = .ok (.if_icmp .ge 105, 3) := by decide +kernel
theorem dX12_takesHold_87 : decode cX12_takesHold 87 = .ok (.aload_n 0, 1) := by decide +kernel
theorem dX12_takesHold_88 : decode cX12_takesHold 88 = .ok (.getfield 48, 3) := by decide +kernel
theorem dX12_takesHold_91 : decode cX12_takesHold 91 = .ok (.iload_n 1, 1) := by decide +kernel
theorem dX12_takesHold_92 : decode cX12_takesHold 92 = .ok (.aload_n 0, 1) := by decide +kernel
theorem dX12_takesHold_93 : decode cX12_takesHold 93 = .ok (.getfield 48, 3) := by decide +kernel
theorem dX12_takesHold_96 : decode cX12_takesHold 96 = .ok (.sipush 200, 3) := by decide +kernel
theorem dX12_takesHold_99 : decode cX12_takesHold 99 = .ok (.iload_n 1, 1) := by decide +kernel
theorem dX12_takesHold_100 : decode cX12_takesHold 100 = .ok (.iadd, 1) := by decide +kernel
theorem dX12_takesHold_101 : decode cX12_takesHold 101 = .ok (.baload, 1) := by decide +kernel
theorem dX12_takesHold_102 : decode cX12_takesHold 102 = .ok (.bastore, 1) := by decide +kernel
theorem dX12_takesHold_103 : decode cX12_takesHold 103 = .ok (.aload_n 0, 1) := by decide +kernel
theorem dX12_takesHold_104 : decode cX12_takesHold 104 = .ok (.getfield 52, 3) := by decide +kernel
theorem dX12_takesHold_107 : decode cX12_takesHold 107 = .ok (.iload_n 1, 1) := by decide +kernel
theorem dX12_takesHold_108 : decode cX12_takesHold 108 = .ok (.aload_n 0, 1) := by decide +kernel
theorem dX12_takesHold_109 : decode cX12_takesHold 109 = .ok (.getfield 52, 3) := by decide +kernel
theorem dX12_takesHold_112 : decode cX12_takesHold 112 = .ok (.sipush 200, 3) := by decide +kernel
theorem dX12_takesHold_115 : decode cX12_takesHold 115 = .ok (.iload_n 1, 1) := by decide +kernel
theorem dX12_takesHold_116 : decode cX12_takesHold 116 = .ok (.iadd, 1) := by decide +kernel
theorem dX12_takesHold_117 : decode cX12_takesHold 117 = .ok (.iaload, 1) := by decide +kernel
theorem dX12_takesHold_118 : decode cX12_takesHold 118 = .ok (.iastore, 1) := by decide +kernel
theorem dX12_takesHold_119 : decode cX12_takesHold 119 = .ok (.aload_n 0, 1) := by decide +kernel
theorem dX12_takesHold_120 : decode cX12_takesHold 120 = .ok (.getfield 55, 3) := by decide +kernel
theorem dX12_takesHold_123 : decode cX12_takesHold 123 = .ok (.iload_n 1, 1) := by decide +kernel
theorem dX12_takesHold_124 : decode cX12_takesHold 124 = .ok (.aload_n 0, 1) := by decide +kernel
theorem dX12_takesHold_125 : decode cX12_takesHold 125 = .ok (.getfield 55, 3) := by decide +kernel
theorem dX12_takesHold_128 : decode cX12_takesHold 128 = .ok (.sipush 200, 3) := by decide +kernel
theorem dX12_takesHold_131 : decode cX12_takesHold 131 = .ok (.iload_n 1, 1) := by decide +kernel
theorem dX12_takesHold_132 : decode cX12_takesHold 132 = .ok (.iadd, 1) := by decide +kernel
theorem dX12_takesHold_133 : decode cX12_takesHold 133 = .ok (.iaload, 1) := by decide +kernel
theorem dX12_takesHold_134 : decode cX12_takesHold 134 = .ok (.iastore, 1) := by decide +kernel
theorem dX12_takesHold_135 : decode cX12_takesHold 135 = .ok (.aload_n 0, 1) := by decide +kernel
theorem dX12_takesHold_136 : decode cX12_takesHold 136 = .ok (.getfield 58, 3) := by decide +kernel
theorem dX12_takesHold_139 : decode cX12_takesHold 139 = .ok (.iload_n 1, 1) := by decide +kernel
theorem dX12_takesHold_140 : decode cX12_takesHold 140 = .ok (.aload_n 0, 1) := by decide +kernel
theorem dX12_takesHold_141 : decode cX12_takesHold 141 = .ok (.getfield 58, 3) := by decide +kernel
theorem dX12_takesHold_144 : decode cX12_takesHold 144 = .ok (.sipush 200, 3) := by decide +kernel
theorem dX12_takesHold_147 : decode cX12_takesHold 147 = .ok (.iload_n 1, 1) := by decide +kernel
theorem dX12_takesHold_148 : decode cX12_takesHold 148 = .ok (.iadd, 1) := by decide +kernel
theorem dX12_takesHold_149 : decode cX12_takesHold 149 = .ok (.iaload, 1) := by decide +kernel
theorem dX12_takesHold_150 : decode cX12_takesHold 150 = .ok (.iastore, 1) := by decide +kernel
theorem dX12_takesHold_151 : decode cX12_takesHold 151 = .ok (.aload_n 0, 1) := by decide +kernel
theorem dX12_takesHold_152 : decode cX12_takesHold 152 = .ok (.getfield 61, 3) := by decide +kernel
theorem dX12_takesHold_155 : decode cX12_takesHold 155 = .ok (.iload_n 1, 1) := by decide +kernel
theorem dX12_takesHold_156 : decode cX12_takesHold 156 = .ok (.aload_n 0, 1) := by decide +kernel
theorem dX12_takesHold_157 : decode cX12_takesHold 157 = .ok (.getfield 61, 3) := by decide +kernel
theorem dX12_takesHold_160 : decode cX12_takesHold 160 = .ok (.sipush 200, 3) := by decide +kernel
theorem dX12_takesHold_163 : decode cX12_takesHold 163 = .ok (.iload_n 1, 1) := by decide +kernel
theorem dX12_takesHold_164 : decode cX12_takesHold 164 = .ok (.iadd, 1) := by decide +kernel
theorem dX12_takesHold_165 : decode cX12_takesHold 165 = .ok (.iaload, 1) := by decide +kernel
theorem dX12_takesHold_166 : decode cX12_takesHold 166 = .ok (.iastore, 1) := by decide +kernel
theorem dX12_takesHold_167 : decode cX12_takesHold 167 = .ok (.aload_n 0, 1) := by decide +kernel
theorem dX12_takesHold_168 : decode cX12_takesHold 168 = .ok (.getfield 64, 3) := by decide +kernel
theorem dX12_takesHold_171 : decode cX12_takesHold 171 = .ok (.iload_n 1, 1) := by decide +kernel
theorem dX12_takesHold_172 : decode cX12_takesHold 172 = .ok (.aload_n 0, 1) := by decide +kernel
theorem dX12_takesHold_173 : decode cX12_takesHold 173 = .ok (.getfield 64, 3) := by decide +kernel
theorem dX12_takesHold_176 : decode cX12_takesHold 176 = .ok (.sipush 200, 3) := by decide +kernel
theorem dX12_takesHold_179 : decode cX12_takesHold 179 = .ok (.iload_n 1, 1) := by decide +kernel
theorem dX12_takesHold_180 : decode cX12_takesHold 180 = .ok (.iadd, 1) := by decide +kernel
theorem dX12_takesHold_181 : decode cX12_takesHold 181 = .ok (.iaload, 1) := by decide +kernel
theorem dX12_takesHold_182 : decode cX12_takesHold 182 = .ok (.iastore, 1) := by decide +kernel
theorem dX12_takesHold_183 : decode cX12_takesHold 183 = .ok (.iinc 1 1, 3) := by decide +kernel
theorem dX12_takesHold_186 : decode cX12_takesHold 186 = .ok (.goto (-106), 3) := by decide +kernel
theorem dX12_takesHold_189 : decode cX12_takesHold 189 = .ok (.aload_n 0, 1) := by decide +kernel
theorem dX12_takesHold_190 : decode cX12_takesHold 190 = .ok (.invokevirtual 122, 3) := by decide +kernel
theorem dX12_takesHold_193 : decode cX12_takesHold 193 = .ok (.return_, 1) := by decide +kernel
theorem b_X12_takesHold (mm : MM) (Q : Value → MM → Prop) (h : G e_X12_takesHold 2 [(0, .ref 156), (1, .int (0 : Int32))] [] mm Q) : Runs e_X12_takesHold [.ref 156] mm Q := by
  refine runs_of_G (L := [(0, .ref 156)]) pl_X12 (Nat.le_of_ble_eq_true rfl) rfl ?_
  refine g_iconst (pc := 0) (v := (0 : Int32)) dX12_takesHold_0 (by decide) ?_
  refine g_istore_n (pc := 1) (L' := [(0, .ref 156), (1, .int (0 : Int32))]) dX12_takesHold_1 (Nat.le_of_ble_eq_true rfl) rfl ?_
  exact h
theorem b_X12_takesHold_2 (mm : MM) (Q : Value → MM → Prop) (l1 : Int32) (h : ((210 : Int32) ≤ l1 → (G e_X12_takesHold 33 [(0, .ref 156), (1, .int (0 : Int32))] [] mm Q)) ∧ (¬ (210 : Int32) ≤ l1 → (vp_in ((210 : Int32) + l1) 420 ∧ (vp_in l1 420 ∧ (G e_X12_takesHold 2 [(0, .ref 156), (1, .int (l1 + (1 : Int32)))] [] (wI mm 162 (l1.toNatClampNeg) (mm.1 162 ((210 : Int32) + l1).toNatClampNeg)) Q))))) : G e_X12_takesHold 2 [(0, .ref 156), (1, .int l1)] [] mm Q := by
  refine g_iload_n (pc := 2) (x := l1) dX12_takesHold_2 rfl ?_
  refine g_sipush (pc := 3) (v := (210 : Int32)) dX12_takesHold_3 (by decide) ?_
  refine g_icmp_ge (pc := 6) (tgt := 31) dX12_takesHold_6 (by decide) (fun c6 => ?_) (fun c6 => ?_)
  · have h := h.1 c6
    refine g_iconst (pc := 31) (v := (0 : Int32)) dX12_takesHold_31 (by decide) ?_
    refine g_istore_n (pc := 32) (L' := [(0, .ref 156), (1, .int (0 : Int32))]) dX12_takesHold_32 (Nat.le_of_ble_eq_true rfl) rfl ?_
    exact h
  · have h := h.2 c6
    refine g_aload_n (pc := 9) (x := 156) dX12_takesHold_9 rfl ?_
    refine g_getR (pc := 10) (dd := 6) dX12_takesHold_10 fo_X12_30 sh_156 rfl ?_
    refine g_iload_n (pc := 13) (x := l1) dX12_takesHold_13 rfl ?_
    refine g_aload_n (pc := 14) (x := 156) dX12_takesHold_14 rfl ?_
    refine g_getR (pc := 15) (dd := 6) dX12_takesHold_15 fo_X12_30 sh_156 rfl ?_
    refine g_sipush (pc := 18) (v := (210 : Int32)) dX12_takesHold_18 (by decide) ?_
    refine g_iload_n (pc := 21) (x := l1) dX12_takesHold_21 rfl ?_
    refine g_iadd (pc := 22) dX12_takesHold_22 ?_
    refine g_iaload (pc := 23) dX12_takesHold_23 sh_162 h.1 ?_
    have h := h.2
    refine g_iastore (pc := 24) dX12_takesHold_24 sh_162 h.1 ?_
    have h := h.2
    refine g_iinc (pc := 25) (x := l1) (v := (l1 + (1 : Int32))) (L' := [(0, .ref 156), (1, .int (l1 + (1 : Int32)))]) dX12_takesHold_25 rfl rfl (Nat.le_of_ble_eq_true rfl) rfl ?_
    refine g_goto (pc := 28) (tgt := 2) dX12_takesHold_28 (by decide) ?_
    exact h
theorem b_X12_takesHold_33 (mm : MM) (Q : Value → MM → Prop) (l1 : Int32) (h : ((500 : Int32) ≤ l1 → (G e_X12_takesHold 80 [(0, .ref 156), (1, .int (0 : Int32))] [] mm Q)) ∧ (¬ (500 : Int32) ≤ l1 → (vp_in ((500 : Int32) + l1) 1000 ∧ (vp_in l1 1000 ∧ (vp_in ((500 : Int32) + l1) 1000 ∧ (vp_in l1 1000 ∧ (G e_X12_takesHold 33 [(0, .ref 156), (1, .int (l1 + (1 : Int32)))] [] (wI (wI mm 165 (l1.toNatClampNeg) (mm.1 165 ((500 : Int32) + l1).toNatClampNeg)) 166 (l1.toNatClampNeg) ((wI mm 165 (l1.toNatClampNeg) (mm.1 165 ((500 : Int32) + l1).toNatClampNeg)).1 166 ((500 : Int32) + l1).toNatClampNeg)) Q))))))) : G e_X12_takesHold 33 [(0, .ref 156), (1, .int l1)] [] mm Q := by
  refine g_iload_n (pc := 33) (x := l1) dX12_takesHold_33 rfl ?_
  refine g_sipush (pc := 34) (v := (500 : Int32)) dX12_takesHold_34 (by decide) ?_
  refine g_icmp_ge (pc := 37) (tgt := 78) dX12_takesHold_37 (by decide) (fun c37 => ?_) (fun c37 => ?_)
  · have h := h.1 c37
    refine g_iconst (pc := 78) (v := (0 : Int32)) dX12_takesHold_78 (by decide) ?_
    refine g_istore_n (pc := 79) (L' := [(0, .ref 156), (1, .int (0 : Int32))]) dX12_takesHold_79 (Nat.le_of_ble_eq_true rfl) rfl ?_
    exact h
  · have h := h.2 c37
    refine g_aload_n (pc := 40) (x := 156) dX12_takesHold_40 rfl ?_
    refine g_getR (pc := 41) (dd := 9) dX12_takesHold_41 fo_X12_39 sh_156 rfl ?_
    refine g_iload_n (pc := 44) (x := l1) dX12_takesHold_44 rfl ?_
    refine g_aload_n (pc := 45) (x := 156) dX12_takesHold_45 rfl ?_
    refine g_getR (pc := 46) (dd := 9) dX12_takesHold_46 fo_X12_39 sh_156 rfl ?_
    refine g_sipush (pc := 49) (v := (500 : Int32)) dX12_takesHold_49 (by decide) ?_
    refine g_iload_n (pc := 52) (x := l1) dX12_takesHold_52 rfl ?_
    refine g_iadd (pc := 53) dX12_takesHold_53 ?_
    refine g_iaload (pc := 54) dX12_takesHold_54 sh_165 h.1 ?_
    have h := h.2
    refine g_iastore (pc := 55) dX12_takesHold_55 sh_165 h.1 ?_
    have h := h.2
    refine g_aload_n (pc := 56) (x := 156) dX12_takesHold_56 rfl ?_
    refine g_getR (pc := 57) (dd := 10) dX12_takesHold_57 fo_X12_42 sh_156 rfl ?_
    refine g_iload_n (pc := 60) (x := l1) dX12_takesHold_60 rfl ?_
    refine g_aload_n (pc := 61) (x := 156) dX12_takesHold_61 rfl ?_
    refine g_getR (pc := 62) (dd := 10) dX12_takesHold_62 fo_X12_42 sh_156 rfl ?_
    refine g_sipush (pc := 65) (v := (500 : Int32)) dX12_takesHold_65 (by decide) ?_
    refine g_iload_n (pc := 68) (x := l1) dX12_takesHold_68 rfl ?_
    refine g_iadd (pc := 69) dX12_takesHold_69 ?_
    refine g_iaload (pc := 70) dX12_takesHold_70 sh_166 h.1 ?_
    have h := h.2
    refine g_iastore (pc := 71) dX12_takesHold_71 sh_166 h.1 ?_
    have h := h.2
    refine g_iinc (pc := 72) (x := l1) (v := (l1 + (1 : Int32))) (L' := [(0, .ref 156), (1, .int (l1 + (1 : Int32)))]) dX12_takesHold_72 rfl rfl (Nat.le_of_ble_eq_true rfl) rfl ?_
    refine g_goto (pc := 75) (tgt := 33) dX12_takesHold_75 (by decide) ?_
    exact h

theorem dX12_init_0 : decode cX12_init 0 = .ok (.aload_n 0, 1) := by decide +kernel
theorem dX12_init_1 : decode cX12_init 1 = .ok (.invokespecial 1, 3) := by decide +kernel
theorem dX12_init_4 : decode cX12_init 4 = .ok (.aload_n 0, 1) := by decide +kernel
theorem dX12_init_5 : decode cX12_init 5 = .ok (.sipush 2000, 3) := by decide +kernel
theorem dX12_init_8 : decode cX12_init 8 = .ok (.newarray .int, 2) := by decide +kernel
theorem dX12_init_10 : decode cX12_init 10 = .ok (.putfield 7, 3) := by decide +kernel
theorem dX12_init_13 : decode cX12_init 13 = .ok (.aload_n 0, 1) := by decide +kernel
theorem dX12_init_14 : decode cX12_init 14 = .ok (.sipush 2001, 3) := by decide +kernel
theorem dX12_init_17 : decode cX12_init 17 = .ok (.newarray .int, 2) := by decide +kernel
theorem dX12_init_19 : decode cX12_init 19 = .ok (.putfield 13, 3) := by decide +kernel
theorem dX12_init_22 : decode cX12_init 22 = .ok (.aload_n 0, 1) := by decide +kernel
theorem dX12_init_23 : decode cX12_init 23 = .ok (.sipush 2001, 3) := by decide +kernel
theorem dX12_init_26 : decode cX12_init 26 = .ok (.newarray .int, 2) := by decide +kernel
theorem dX12_init_28 : decode cX12_init 28 = .ok (.putfield 16, 3) := by decide +kernel
theorem dX12_init_31 : decode cX12_init 31 = .ok (.aload_n 0, 1) := by decide +kernel
theorem dX12_init_32 : decode cX12_init 32 = .ok (.sipush 2001, 3) := by decide +kernel
theorem dX12_init_35 : decode cX12_init 35 = .ok (.newarray .int, 2) := by decide +kernel
theorem dX12_init_37 : decode cX12_init 37 = .ok (.putfield 19, 3) := by decide +kernel
theorem dX12_init_40 : decode cX12_init 40 = .ok (.aload_n 0, 1) := by decide +kernel
theorem dX12_init_41 : decode cX12_init 41 = .ok (.sipush 2001, 3) := by decide +kernel
theorem dX12_init_44 : decode cX12_init 44 = .ok (.newarray .long, 2) := by decide +kernel
theorem dX12_init_46 : decode cX12_init 46 = .ok (.putfield 22, 3) := by decide +kernel
theorem dX12_init_49 : decode cX12_init 49 = .ok (.aload_n 0, 1) := by decide +kernel
theorem dX12_init_50 : decode cX12_init 50 = .ok (.iconst (-1), 1) := by decide +kernel
theorem dX12_init_51 : decode cX12_init 51 = .ok (.putfield 26, 3) := by decide +kernel
theorem dX12_init_54 : decode cX12_init 54 = .ok (.aload_n 0, 1) := by decide +kernel
theorem dX12_init_55 : decode cX12_init 55 = .ok (.sipush 420, 3) := by decide +kernel
theorem dX12_init_58 : decode cX12_init 58 = .ok (.newarray .int, 2) := by decide +kernel
theorem dX12_init_60 : decode cX12_init 60 = .ok (.putfield 30, 3) := by decide +kernel
theorem dX12_init_63 : decode cX12_init 63 = .ok (.aload_n 0, 1) := by decide +kernel
theorem dX12_init_64 : decode cX12_init 64 = .ok (.sipush 1260, 3) := by decide +kernel
theorem dX12_init_67 : decode cX12_init 67 = .ok (.newarray .int, 2) := by decide +kernel
theorem dX12_init_69 : decode cX12_init 69 = .ok (.putfield 33, 3) := by decide +kernel
theorem dX12_init_72 : decode cX12_init 72 = .ok (.aload_n 0, 1) := by decide +kernel
theorem dX12_init_73 : decode cX12_init 73 = .ok (.iconst 2, 1) := by decide +kernel
theorem dX12_init_74 : decode cX12_init 74 = .ok (.newarray .int, 2) := by decide +kernel
theorem dX12_init_76 : decode cX12_init 76 = .ok (.putfield 36, 3) := by decide +kernel
theorem dX12_init_79 : decode cX12_init 79 = .ok (.aload_n 0, 1) := by decide +kernel
theorem dX12_init_80 : decode cX12_init 80 = .ok (.sipush 1000, 3) := by decide +kernel
theorem dX12_init_83 : decode cX12_init 83 = .ok (.newarray .int, 2) := by decide +kernel
theorem dX12_init_85 : decode cX12_init 85 = .ok (.putfield 39, 3) := by decide +kernel
theorem dX12_init_88 : decode cX12_init 88 = .ok (.aload_n 0, 1) := by decide +kernel
theorem dX12_init_89 : decode cX12_init 89 = .ok (.sipush 1000, 3) := by decide +kernel
theorem dX12_init_92 : decode cX12_init 92 = .ok (.newarray .int, 2) := by decide +kernel
theorem dX12_init_94 : decode cX12_init 94 = .ok (.putfield 42, 3) := by decide +kernel
theorem dX12_init_97 : decode cX12_init 97 = .ok (.aload_n 0, 1) := by decide +kernel
theorem dX12_init_98 : decode cX12_init 98 = .ok (.iconst 2, 1) := by decide +kernel
theorem dX12_init_99 : decode cX12_init 99 = .ok (.newarray .int, 2) := by decide +kernel
theorem dX12_init_101 : decode cX12_init 101 = .ok (.putfield 45, 3) := by decide +kernel
theorem dX12_init_104 : decode cX12_init 104 = .ok (.aload_n 0, 1) := by decide +kernel
theorem dX12_init_105 : decode cX12_init 105 = .ok (.sipush 400, 3) := by decide +kernel
theorem dX12_init_108 : decode cX12_init 108 = .ok (.newarray .boolean, 2) := by decide +kernel
theorem dX12_init_110 : decode cX12_init 110 = .ok (.putfield 48, 3) := by decide +kernel
theorem dX12_init_113 : decode cX12_init 113 = .ok (.aload_n 0, 1) := by decide +kernel
theorem dX12_init_114 : decode cX12_init 114 = .ok (.sipush 400, 3) := by decide +kernel
theorem dX12_init_117 : decode cX12_init 117 = .ok (.newarray .int, 2) := by decide +kernel
theorem dX12_init_119 : decode cX12_init 119 = .ok (.putfield 52, 3) := by decide +kernel
theorem dX12_init_122 : decode cX12_init 122 = .ok (.aload_n 0, 1) := by decide +kernel
theorem dX12_init_123 : decode cX12_init 123 = .ok (.sipush 400, 3) := by decide +kernel
theorem dX12_init_126 : decode cX12_init 126 = .ok (.newarray .int, 2) := by decide +kernel
theorem dX12_init_128 : decode cX12_init 128 = .ok (.putfield 55, 3) := by decide +kernel
theorem dX12_init_131 : decode cX12_init 131 = .ok (.aload_n 0, 1) := by decide +kernel
theorem dX12_init_132 : decode cX12_init 132 = .ok (.sipush 400, 3) := by decide +kernel
theorem dX12_init_135 : decode cX12_init 135 = .ok (.newarray .int, 2) := by decide +kernel
theorem dX12_init_137 : decode cX12_init 137 = .ok (.putfield 58, 3) := by decide +kernel
theorem dX12_init_140 : decode cX12_init 140 = .ok (.aload_n 0, 1) := by decide +kernel
theorem dX12_init_141 : decode cX12_init 141 = .ok (.sipush 400, 3) := by decide +kernel
theorem dX12_init_144 : decode cX12_init 144 = .ok (.newarray .int, 2) := by decide +kernel
theorem dX12_init_146 : decode cX12_init 146 = .ok (.putfield 61, 3) := by decide +kernel
theorem dX12_init_149 : decode cX12_init 149 = .ok (.aload_n 0, 1) := by decide +kernel
theorem dX12_init_150 : decode cX12_init 150 = .ok (.sipush 400, 3) := by decide +kernel
theorem dX12_init_153 : decode cX12_init 153 = .ok (.newarray .int, 2) := by decide +kernel
theorem dX12_init_155 : decode cX12_init 155 = .ok (.putfield 64, 3) := by decide +kernel
theorem dX12_init_158 : decode cX12_init 158 = .ok (.aload_n 0, 1) := by decide +kernel
theorem dX12_init_159 : decode cX12_init 159 = .ok (.iconst 3, 1) := by decide +kernel
theorem dX12_init_160 : decode cX12_init 160 = .ok (.newarray .boolean, 2) := by decide +kernel
theorem dX12_init_162 : decode cX12_init 162 = .ok (.putfield 67, 3) := by decide +kernel
theorem dX12_init_165 : decode cX12_init 165 = .ok (.aload_n 0, 1) := by decide +kernel
theorem dX12_init_166 : decode cX12_init 166 = .ok (.bipush 30, 2) := by decide +kernel
theorem dX12_init_168 : decode cX12_init 168 = .ok (.newarray .long, 2) := by decide +kernel
theorem dX12_init_170 : decode cX12_init 170 = .ok (.putfield 70, 3) := by decide +kernel
theorem dX12_init_173 : decode cX12_init 173 = .ok (.aload_n 0, 1) := by decide +kernel
theorem dX12_init_174 : decode cX12_init 174 = .ok (.bipush 30, 2) := by decide +kernel
theorem dX12_init_176 : decode cX12_init 176 = .ok (.newarray .int, 2) := by decide +kernel
theorem dX12_init_178 : decode cX12_init 178 = .ok (.putfield 73, 3) := by decide +kernel
theorem dX12_init_181 : decode cX12_init 181 = .ok (.aload_n 0, 1) := by decide +kernel
theorem dX12_init_182 : decode cX12_init 182 = .ok (.bipush 30, 2) := by decide +kernel
theorem dX12_init_184 : decode cX12_init 184 = .ok (.newarray .int, 2) := by decide +kernel
theorem dX12_init_186 : decode cX12_init 186 = .ok (.putfield 76, 3) := by decide +kernel
theorem dX12_init_189 : decode cX12_init 189 = .ok (.aload_n 0, 1) := by decide +kernel
theorem dX12_init_190 : decode cX12_init 190 = .ok (.sipush 500, 3) := by decide +kernel
theorem dX12_init_193 : decode cX12_init 193 = .ok (.newarray .int, 2) := by decide +kernel
theorem dX12_init_195 : decode cX12_init 195 = .ok (.putfield 79, 3) := by decide +kernel
theorem dX12_init_198 : decode cX12_init 198 = .ok (.aload_n 0, 1) := by decide +kernel
theorem dX12_init_199 : decode cX12_init 199 = .ok (.bipush 9, 2) := by decide +kernel
theorem dX12_init_201 : decode cX12_init 201 = .ok (.newarray .int, 2) := by decide +kernel
theorem dX12_init_203 : decode cX12_init 203 = .ok (.putfield 82, 3) := by decide +kernel
theorem dX12_init_206 : decode cX12_init 206 = .ok (.aload_n 0, 1) := by decide +kernel
theorem dX12_init_207 : decode cX12_init 207 = .ok (.sipush 500, 3) := by decide +kernel
theorem dX12_init_210 : decode cX12_init 210 = .ok (.newarray .int, 2) := by decide +kernel
theorem dX12_init_212 : decode cX12_init 212 = .ok (.putfield 85, 3) := by decide +kernel
theorem dX12_init_215 : decode cX12_init 215 = .ok (.aload_n 0, 1) := by decide +kernel
theorem dX12_init_216 : decode cX12_init 216 = .ok (.sipush 900, 3) := by decide +kernel
theorem dX12_init_219 : decode cX12_init 219 = .ok (.newarray .int, 2) := by decide +kernel
theorem dX12_init_221 : decode cX12_init 221 = .ok (.putfield 88, 3) := by decide +kernel
theorem dX12_init_224 : decode cX12_init 224 = .ok (.aload_n 0, 1) := by decide +kernel
theorem dX12_init_225 : decode cX12_init 225 = .ok (.bipush 8, 2) := by decide +kernel
theorem dX12_init_227 : decode cX12_init 227 = .ok (.newarray .int, 2) := by decide +kernel
theorem dX12_init_229 : decode cX12_init 229 = .ok (.putfield 91, 3) := by decide +kernel
theorem dX12_init_232 : decode cX12_init 232 = .ok (.aload_n 0, 1) := by decide +kernel
theorem dX12_init_233 : decode cX12_init 233 = .ok (.sipush 504, 3) := by decide +kernel
theorem dX12_init_236 : decode cX12_init 236 = .ok (.newarray .int, 2) := by decide +kernel
theorem dX12_init_238 : decode cX12_init 238 = .ok (.putfield 94, 3) := by decide +kernel
theorem dX12_init_241 : decode cX12_init 241 = .ok (.aload_n 0, 1) := by decide +kernel
theorem dX12_init_242 : decode cX12_init 242 = .ok (.bipush 16, 2) := by decide +kernel
theorem dX12_init_244 : decode cX12_init 244 = .ok (.newarray .int, 2) := by decide +kernel
theorem dX12_init_246 : decode cX12_init 246 = .ok (.putfield 97, 3) := by decide +kernel
theorem dX12_init_249 : decode cX12_init 249 = .ok (.aload_n 0, 1) := by decide +kernel
theorem dX12_init_250 : decode cX12_init 250 = .ok (.bipush 16, 2) := by decide +kernel
theorem dX12_init_252 : decode cX12_init 252 = .ok (.newarray .int, 2) := by decide +kernel
theorem dX12_init_254 : decode cX12_init 254 = .ok (.putfield 100, 3) := by decide +kernel
theorem dX12_init_257 : decode cX12_init 257 = .ok (.aload_n 0, 1) := by decide +kernel
theorem dX12_init_258 : decode cX12_init 258 = .ok (.sipush 256, 3) := by decide +kernel
theorem dX12_init_261 : decode cX12_init 261 = .ok (.newarray .boolean, 2) := by decide +kernel
theorem dX12_init_263 : decode cX12_init 263 = .ok (.putfield 103, 3) := by decide +kernel
theorem dX12_init_266 : decode cX12_init 266 = .ok (.aload_n 0, 1) := by decide +kernel
theorem dX12_init_267 : decode cX12_init 267 = .ok (.sipush 256, 3) := by decide +kernel
theorem dX12_init_270 : decode cX12_init 270 = .ok (.newarray .int, 2) := by decide +kernel
theorem dX12_init_272 : decode cX12_init 272 = .ok (.putfield 106, 3) := by decide +kernel
theorem dX12_init_275 : decode cX12_init 275 = .ok (.aload_n 0, 1) := by decide +kernel
theorem dX12_init_276 : decode cX12_init 276 = .ok (.bipush 16, 2) := by decide +kernel
theorem dX12_init_278 : decode cX12_init 278 = .ok (.newarray .int, 2) := by decide +kernel
theorem dX12_init_280 : decode cX12_init 280 = .ok (.putfield 109, 3) := by decide +kernel
theorem dX12_init_283 : decode cX12_init 283 = .ok (.aload_n 0, 1) := by decide +kernel
theorem dX12_init_284 : decode cX12_init 284 = .ok (.bipush 12, 2) := by decide +kernel
theorem dX12_init_286 : decode cX12_init 286 = .ok (.newarray .int, 2) := by decide +kernel
theorem dX12_init_288 : decode cX12_init 288 = .ok (.putfield 112, 3) := by decide +kernel
theorem dX12_init_291 : decode cX12_init 291 = .ok (.aload_n 0, 1) := by decide +kernel
theorem dX12_init_292 : decode cX12_init 292 = .ok (.sipush 1300, 3) := by decide +kernel
theorem dX12_init_295 : decode cX12_init 295 = .ok (.newarray .int, 2) := by decide +kernel
theorem dX12_init_297 : decode cX12_init 297 = .ok (.putfield 115, 3) := by decide +kernel
theorem dX12_init_300 : decode cX12_init 300 = .ok (.aload_n 0, 1) := by decide +kernel
theorem dX12_init_301 : decode cX12_init 301 = .ok (.iconst 0, 1) := by decide +kernel
theorem dX12_init_302 : decode cX12_init 302 = .ok (.invokevirtual 118, 3) := by decide +kernel
theorem dX12_init_305 : decode cX12_init 305 = .ok (.aload_n 0, 1) := by decide +kernel
theorem dX12_init_306 : decode cX12_init 306 = .ok (.invokevirtual 122, 3) := by decide +kernel
theorem dX12_init_309 : decode cX12_init 309 = .ok (.return_, 1) := by decide +kernel
theorem w_1403 : (Jvm.Cond.methodLink "StiltTownModel" (1 : Nat) ({ cls := "java/lang/Object", name := "<init>", desc := "()V" } : Jvm.MethodName)) ∈ bigW := tp_6 (List.mem_of_getElem? (i := 203) rfl) rfl
theorem oi_X12_1 : OI RX12 1 := ⟨w_1403, w_27, w_28⟩
theorem fd_X12_7 : FD RX12 7 12 1 (.array .int) true := ⟨RX12, TX12, 53, tyX12, rfl, by decide, iX12, tyX12_ok, nmX12, w_1421, rfl, rfl, rfl⟩
theorem fd_X12_13 : FD RX12 13 12 3 (.array .int) true := ⟨RX12, TX12, 53, tyX12, rfl, by decide, iX12, tyX12_ok, nmX12, w_1423, rfl, rfl, rfl⟩
theorem fd_X12_16 : FD RX12 16 12 4 (.array .int) true := ⟨RX12, TX12, 53, tyX12, rfl, by decide, iX12, tyX12_ok, nmX12, w_1424, rfl, rfl, rfl⟩
theorem fd_X12_19 : FD RX12 19 12 5 (.array .int) true := ⟨RX12, TX12, 53, tyX12, rfl, by decide, iX12, tyX12_ok, nmX12, w_1425, rfl, rfl, rfl⟩
theorem fd_X12_22 : FD RX12 22 12 6 (.array .long) true := ⟨RX12, TX12, 53, tyX12, rfl, by decide, iX12, tyX12_ok, nmX12, w_1426, rfl, rfl, rfl⟩
theorem fd_X12_26 : FD RX12 26 12 9 (.int) false := ⟨RX12, TX12, 53, tyX12, rfl, by decide, iX12, tyX12_ok, nmX12, w_1429, rfl, rfl, rfl⟩
theorem fd_X12_30 : FD RX12 30 12 12 (.array .int) true := ⟨RX12, TX12, 53, tyX12, rfl, by decide, iX12, tyX12_ok, nmX12, w_1432, rfl, rfl, rfl⟩
theorem fd_X12_33 : FD RX12 33 12 13 (.array .int) true := ⟨RX12, TX12, 53, tyX12, rfl, by decide, iX12, tyX12_ok, nmX12, w_1433, rfl, rfl, rfl⟩
theorem fd_X12_36 : FD RX12 36 12 14 (.array .int) true := ⟨RX12, TX12, 53, tyX12, rfl, by decide, iX12, tyX12_ok, nmX12, w_1434, rfl, rfl, rfl⟩
theorem fd_X12_39 : FD RX12 39 12 15 (.array .int) true := ⟨RX12, TX12, 53, tyX12, rfl, by decide, iX12, tyX12_ok, nmX12, w_1435, rfl, rfl, rfl⟩
theorem fd_X12_42 : FD RX12 42 12 16 (.array .int) true := ⟨RX12, TX12, 53, tyX12, rfl, by decide, iX12, tyX12_ok, nmX12, w_1436, rfl, rfl, rfl⟩
theorem fd_X12_45 : FD RX12 45 12 17 (.array .int) true := ⟨RX12, TX12, 53, tyX12, rfl, by decide, iX12, tyX12_ok, nmX12, w_1437, rfl, rfl, rfl⟩
theorem fd_X12_48 : FD RX12 48 12 18 (.array .boolean) true := ⟨RX12, TX12, 53, tyX12, rfl, by decide, iX12, tyX12_ok, nmX12, w_1438, rfl, rfl, rfl⟩
theorem fd_X12_52 : FD RX12 52 12 19 (.array .int) true := ⟨RX12, TX12, 53, tyX12, rfl, by decide, iX12, tyX12_ok, nmX12, w_1439, rfl, rfl, rfl⟩
theorem fd_X12_55 : FD RX12 55 12 20 (.array .int) true := ⟨RX12, TX12, 53, tyX12, rfl, by decide, iX12, tyX12_ok, nmX12, w_1440, rfl, rfl, rfl⟩
theorem fd_X12_58 : FD RX12 58 12 21 (.array .int) true := ⟨RX12, TX12, 53, tyX12, rfl, by decide, iX12, tyX12_ok, nmX12, w_1441, rfl, rfl, rfl⟩
theorem fd_X12_61 : FD RX12 61 12 22 (.array .int) true := ⟨RX12, TX12, 53, tyX12, rfl, by decide, iX12, tyX12_ok, nmX12, w_1442, rfl, rfl, rfl⟩
theorem fd_X12_64 : FD RX12 64 12 23 (.array .int) true := ⟨RX12, TX12, 53, tyX12, rfl, by decide, iX12, tyX12_ok, nmX12, w_1443, rfl, rfl, rfl⟩
theorem fd_X12_67 : FD RX12 67 12 24 (.array .boolean) true := ⟨RX12, TX12, 53, tyX12, rfl, by decide, iX12, tyX12_ok, nmX12, w_1444, rfl, rfl, rfl⟩
theorem fd_X12_70 : FD RX12 70 12 26 (.array .long) true := ⟨RX12, TX12, 53, tyX12, rfl, by decide, iX12, tyX12_ok, nmX12, w_1446, rfl, rfl, rfl⟩
theorem fd_X12_73 : FD RX12 73 12 27 (.array .int) true := ⟨RX12, TX12, 53, tyX12, rfl, by decide, iX12, tyX12_ok, nmX12, w_1447, rfl, rfl, rfl⟩
theorem fd_X12_76 : FD RX12 76 12 28 (.array .int) true := ⟨RX12, TX12, 53, tyX12, rfl, by decide, iX12, tyX12_ok, nmX12, w_1448, rfl, rfl, rfl⟩
theorem fd_X12_79 : FD RX12 79 12 31 (.array .int) true := ⟨RX12, TX12, 53, tyX12, rfl, by decide, iX12, tyX12_ok, nmX12, w_1451, rfl, rfl, rfl⟩
theorem fd_X12_82 : FD RX12 82 12 34 (.array .int) true := ⟨RX12, TX12, 53, tyX12, rfl, by decide, iX12, tyX12_ok, nmX12, w_1454, rfl, rfl, rfl⟩
theorem fd_X12_85 : FD RX12 85 12 36 (.array .int) true := ⟨RX12, TX12, 53, tyX12, rfl, by decide, iX12, tyX12_ok, nmX12, w_1456, rfl, rfl, rfl⟩
theorem fd_X12_88 : FD RX12 88 12 37 (.array .int) true := ⟨RX12, TX12, 53, tyX12, rfl, by decide, iX12, tyX12_ok, nmX12, w_1457, rfl, rfl, rfl⟩
theorem fd_X12_91 : FD RX12 91 12 38 (.array .int) true := ⟨RX12, TX12, 53, tyX12, rfl, by decide, iX12, tyX12_ok, nmX12, w_1458, rfl, rfl, rfl⟩
theorem fd_X12_94 : FD RX12 94 12 39 (.array .int) true := ⟨RX12, TX12, 53, tyX12, rfl, by decide, iX12, tyX12_ok, nmX12, w_1459, rfl, rfl, rfl⟩
theorem fd_X12_97 : FD RX12 97 12 43 (.array .int) true := ⟨RX12, TX12, 53, tyX12, rfl, by decide, iX12, tyX12_ok, nmX12, w_1463, rfl, rfl, rfl⟩
theorem fd_X12_100 : FD RX12 100 12 44 (.array .int) true := ⟨RX12, TX12, 53, tyX12, rfl, by decide, iX12, tyX12_ok, nmX12, w_1464, rfl, rfl, rfl⟩
theorem fd_X12_103 : FD RX12 103 12 45 (.array .boolean) true := ⟨RX12, TX12, 53, tyX12, rfl, by decide, iX12, tyX12_ok, nmX12, w_1465, rfl, rfl, rfl⟩
theorem fd_X12_106 : FD RX12 106 12 46 (.array .int) true := ⟨RX12, TX12, 53, tyX12, rfl, by decide, iX12, tyX12_ok, nmX12, w_1466, rfl, rfl, rfl⟩
theorem fd_X12_109 : FD RX12 109 12 47 (.array .int) true := ⟨RX12, TX12, 53, tyX12, rfl, by decide, iX12, tyX12_ok, nmX12, w_1467, rfl, rfl, rfl⟩
theorem fd_X12_112 : FD RX12 112 12 51 (.array .int) true := ⟨RX12, TX12, 53, tyX12, rfl, by decide, iX12, tyX12_ok, nmX12, w_1471, rfl, rfl, rfl⟩
theorem fd_X12_115 : FD RX12 115 12 52 (.array .int) true := ⟨RX12, TX12, 53, tyX12, rfl, by decide, iX12, tyX12_ok, nmX12, w_1472, rfl, rfl, rfl⟩
def S12 : List SHP := tS_X11 ++ [.inr (12, svX12)]
def tA_X12 : MM := wRf (wRf (wRf (wRf (wRf (wRf (wRf (wRf (wRf (wRf (wRf (wRf (wRf (wRf (wRf (wRf (wRf (wRf (wRf (wRf (wRf (wRf (wRf (wRf (wRf (wRf (wRf (wRf (wRf (wI (wRf (wRf (wRf (wRf (wRf (tm_X11) (156) 1 (157)) (156) 3 (158)) (156) 4 (159)) (156) 5 (160)) (156) 6 (161)) (156) 9 (-1 : Int32)) (156) 12 (162)) (156) 13 (163)) (156) 14 (164)) (156) 15 (165)) (156) 16 (166)) (156) 17 (167)) (156) 18 (168)) (156) 19 (169)) (156) 20 (170)) (156) 21 (171)) (156) 22 (172)) (156) 23 (173)) (156) 24 (174)) (156) 26 (175)) (156) 27 (176)) (156) 28 (177)) (156) 31 (178)) (156) 34 (179)) (156) 36 (180)) (156) 37 (181)) (156) 38 (182)) (156) 39 (183)) (156) 43 (184)) (156) 44 (185)) (156) 45 (186)) (156) 46 (187)) (156) 47 (188)) (156) 51 (189)) (156) 52 (190)
def tB_X12 : MM := mBegin tA_X12 0
def tm_X12 : MM := mSlots (wR tB_X12 163 (settleF (tB_X12.1 162) (tB_X12.1 163) 0 0))
theorem mBegin_refs (mm : MM) (b : Nat) : (mBegin mm b).2.2 = mm.2.2 := rfl
theorem mSlots_refs (mm : MM) : (mSlots mm).2.2 = mm.2.2 := rfl
theorem wR_refs (mm : MM) (k : Nat) (f : Nat → Int32) : (wR mm k f).2.2 = mm.2.2 := rfl
theorem begin_H (mm : MM) : (mBegin mm 0).1 162 0 = nI 0 := by simp [mBegin, wI, wR, va_up, beginF, fb_put, upd, nI]
theorem begin_N (mm : MM) : (mBegin mm 0).1 162 2 = nI 0 := by simp [mBegin, wI, wR, va_up, beginF, fb_put, upd, nI]
def okL (mm : MM) (k : Nat) : Nat → List Nat → Bool
  | _, [] => true
  | j, 0 :: l => okL mm k (j + 1) l
  | j, 1 :: l => !(mm.2.2 k j == 0) && okL mm k (j + 1) l
  | j, (d + 2) :: l => (mm.2.2 k j == k + d && !(k + d == 0)) && okL mm k (j + 1) l
theorem okL_ok (mm : MM) (k : Nat) : ∀ (l : List Nat) (j : Nat), okL mm k j l = true → ∀ i sk, l[i]? = some sk → sk = 0 ∨ (sk = 1 ∧ mm.2.2 k (j + i) ≠ 0) ∨ (∃ d, sk = d + 2 ∧ mm.2.2 k (j + i) = k + d ∧ k + d ≠ 0)
  | [], j, h, i, sk, hs => by simp at hs
  | a :: l, j, h, 0, sk, hs => by
    simp only [List.getElem?_cons_zero, Option.some.injEq] at hs
    subst hs
    match a with
    | 0 => exact Or.inl rfl
    | 1 =>
      simp only [okL, Bool.and_eq_true, Bool.not_eq_true', beq_eq_false_iff_ne] at h
      exact Or.inr (Or.inl ⟨rfl, h.1⟩)
    | d + 2 =>
      simp only [okL, Bool.and_eq_true, Bool.not_eq_true', beq_eq_false_iff_ne, beq_iff_eq] at h
      exact Or.inr (Or.inr ⟨d, rfl, h.1.1, h.1.2⟩)
  | a :: l, j, h, i + 1, sk, hs => by
    have h2 : okL mm k (j + 1) l = true := by
      match a with
      | 0 => exact h
      | 1 => simp only [okL, Bool.and_eq_true] at h; exact h.2
      | d + 2 => simp only [okL, Bool.and_eq_true] at h; exact h.2
    have := okL_ok mm k l (j + 1) h2 i sk (by simpa using hs)
    rw [show j + 1 + i = j + (i + 1) by omega] at this
    exact this
def okC (mm : MM) (k : Nat) : SHP → Bool
  | .inl (t, _, _, _) => decide (t < 4) || (k == 44 || k == 65 || k == 98)
  | .inr (_, sks) => okL mm k 0 sks
theorem okm_of {mm : MM} (h : ((List.range nS).all fun k => match SHL[k]? with | some s => okC mm k s | none => true) = true) (h44 : mm.2.2 44 = rowsOf 44 20) (h65 : mm.2.2 65 = rowsOf 65 20) (h98 : ∀ j, mm.2.2 98 j = (if j < 2 then 98 + 30 + 14 * j else 0)) : OKM mm := by
  intro k s hs
  have hk : k < nS := sh_lt hs
  have h1 := List.all_eq_true.mp h k (List.mem_range.mpr hk)
  simp only [hs] at h1
  rcases s with ⟨t, n, d, e⟩ | ⟨ci, sks⟩
  · simp only [okC, Bool.or_eq_true, decide_eq_true_eq, beq_iff_eq] at h1
    rcases h1 with h1 | (rfl | rfl) | rfl
    · exact Or.inl h1
    · rw [sh_44] at hs
      cases hs
      refine Or.inr (fun j => ?_)
      rw [h44]
      unfold rowsOf
      refine ⟨?_, fun _ => by omega⟩
      split
      · omega
      · rfl
    · rw [sh_65] at hs
      cases hs
      refine Or.inr (fun j => ?_)
      rw [h65]
      unfold rowsOf
      refine ⟨?_, fun _ => by omega⟩
      split
      · omega
      · rfl
    · rw [sh_98] at hs
      cases hs
      exact Or.inr (fun j => ⟨h98 j, fun _ => by omega⟩)
  · intro j sk hj
    have := okL_ok mm k sks 0 h1 j sk hj
    rw [Nat.zero_add] at this
    exact this
set_option maxRecDepth 100000 in
theorem okm_A : OKM tA_X12 := okm_of (by decide +kernel) rfl rfl (fun j => by
  show va_up (va_up (fun _ => 0) 0 128) 1 142 j = _
  simp only [va_up]
  by_cases h1 : j = 1
  · subst h1; rfl
  · by_cases h0 : j = 0
    · subst h0; rfl
    · have : ¬ j < 2 := by omega
      simp [h1, h0, this])
theorem okm_B : OKM tB_X12 := okm_A.refs (mBegin_refs tA_X12 0)
theorem okm_X12 : OKM tm_X12 := okm_B.refs ((mSlots_refs _).trans (wR_refs _ _ _))

theorem dX12_mixed_0 : decode cX12_mixed 0 = .ok (.iload_n 0, 1) := by decide +kernel
theorem dX12_mixed_1 : decode cX12_mixed 1 = .ok (.iload_n 1, 1) := by decide +kernel
theorem dX12_mixed_2 : decode cX12_mixed 2 = .ok (.ixor, 1) := by decide +kernel
theorem dX12_mixed_3 : decode cX12_mixed 3 = .ok (.ldc_w 532, 3) := by decide +kernel
theorem dX12_mixed_6 : decode cX12_mixed 6 = .ok (.imul, 1) := by decide +kernel
theorem dX12_mixed_7 : decode cX12_mixed 7 = .ok (.sipush 12345, 3) := by decide +kernel
theorem dX12_mixed_10 : decode cX12_mixed 10 = .ok (.iadd, 1) := by decide +kernel
theorem dX12_mixed_11 : decode cX12_mixed 11 = .ok (.istore_n 2, 1) := by decide +kernel
theorem dX12_mixed_12 : decode cX12_mixed 12 = .ok (.iload_n 2, 1) := by decide +kernel
theorem dX12_mixed_13 : decode cX12_mixed 13 = .ok (.iload_n 2, 1) := by decide +kernel
theorem dX12_mixed_14 : decode cX12_mixed 14 = .ok (.bipush 15, 2) := by decide +kernel
theorem dX12_mixed_16 : decode cX12_mixed 16 = .ok (.iushr, 1) := by decide +kernel
theorem dX12_mixed_17 : decode cX12_mixed 17 = .ok (.ixor, 1) := by decide +kernel
theorem dX12_mixed_18 : decode cX12_mixed 18 = .ok (.ireturn, 1) := by decide +kernel
noncomputable def v_X12_mixed (mm : MM) (a0 : Int32) (a1 : Int32) : Int32 := ((((a0 ^^^ a1) * (1103515245 : Int32)) + (12345 : Int32)) ^^^ (ushr (((a0 ^^^ a1) * (1103515245 : Int32)) + (12345 : Int32)) (15 : Int32)))
theorem rv_X12_mixed (mm : MM) (a0 : Int32) (a1 : Int32) : Runs e_X12_mixed [.int a0, .int a1] mm (fun r m_ => r = .int (v_X12_mixed mm a0 a1) ∧ mm = m_) := by
  refine runs_of_G (L := [(0, .int a0), (1, .int a1)]) pl_X12 (Nat.le_of_ble_eq_true rfl) rfl ?_
  refine g_iload_n (pc := 0) (x := a0) dX12_mixed_0 rfl ?_
  refine g_iload_n (pc := 1) (x := a1) dX12_mixed_1 rfl ?_
  refine g_ixor (pc := 2) dX12_mixed_2 ?_
  refine g_ldcw (pc := 3) (v := (1103515245 : Int32)) dX12_mixed_3 ct_X12_532 ?_
  refine g_imul (pc := 6) dX12_mixed_6 ?_
  refine g_sipush (pc := 7) (v := (12345 : Int32)) dX12_mixed_7 (by decide) ?_
  refine g_iadd (pc := 10) dX12_mixed_10 ?_
  refine g_istore_n (pc := 11) (L' := [(0, .int a0), (1, .int a1), (2, .int (((a0 ^^^ a1) * (1103515245 : Int32)) + (12345 : Int32)))]) dX12_mixed_11 (Nat.le_of_ble_eq_true rfl) rfl ?_
  refine g_iload_n (pc := 12) (x := (((a0 ^^^ a1) * (1103515245 : Int32)) + (12345 : Int32))) dX12_mixed_12 rfl ?_
  refine g_iload_n (pc := 13) (x := (((a0 ^^^ a1) * (1103515245 : Int32)) + (12345 : Int32))) dX12_mixed_13 rfl ?_
  refine g_bipush (pc := 14) (v := (15 : Int32)) dX12_mixed_14 (by decide) ?_
  refine g_iushr (pc := 16) dX12_mixed_16 ?_
  refine g_ixor (pc := 17) dX12_mixed_17 ?_
  exact g_iret (pc := 18) dX12_mixed_18 rfl rfl rfl ⟨rfl, rfl⟩
theorem dX12_lot_0 : decode cX12_lot 0 = .ok (.iload_n 0, 1) := by decide +kernel
theorem dX12_lot_1 : decode cX12_lot 1 = .ok (.bipush 18, 2) := by decide +kernel
theorem dX12_lot_3 : decode cX12_lot 3 = .ok (.invokestatic 533, 3) := by decide +kernel
theorem dX12_lot_6 : decode cX12_lot 6 = .ok (.iload_n 1, 1) := by decide +kernel
theorem dX12_lot_7 : decode cX12_lot 7 = .ok (.invokestatic 533, 3) := by decide +kernel
theorem dX12_lot_10 : decode cX12_lot 10 = .ok (.iconst 1, 1) := by decide +kernel
theorem dX12_lot_11 : decode cX12_lot 11 = .ok (.iushr, 1) := by decide +kernel
theorem dX12_lot_12 : decode cX12_lot 12 = .ok (.iload_n 2, 1) := by decide +kernel
theorem dX12_lot_13 : decode cX12_lot 13 = .ok (.irem, 1) := by decide +kernel
theorem dX12_lot_14 : decode cX12_lot 14 = .ok (.ireturn, 1) := by decide +kernel
def o_X12_lot (mm : MM) (a0 : Int32) (a1 : Int32) (a2 : Int32) : Prop := ¬ a2 = 0 ∧ (True)
noncomputable def v_X12_lot (mm : MM) (a0 : Int32) (a1 : Int32) (a2 : Int32) : Int32 := ((ushr (v_X12_mixed mm (v_X12_mixed mm a0 (18 : Int32)) a1) (1 : Int32)) - (ushr (v_X12_mixed mm (v_X12_mixed mm a0 (18 : Int32)) a1) (1 : Int32)) / a2 * a2)
theorem rv_X12_lot (mm : MM) (a0 : Int32) (a1 : Int32) (a2 : Int32) (h : o_X12_lot mm a0 a1 a2) : Runs e_X12_lot [.int a0, .int a1, .int a2] mm (fun r m_ => r = .int (v_X12_lot mm a0 a1 a2) ∧ mm = m_) := by
  refine runs_of_G (L := [(0, .int a0), (1, .int a1), (2, .int a2)]) pl_X12 (Nat.le_of_ble_eq_true rfl) rfl ?_
  unfold o_X12_lot at h
  refine g_iload_n (pc := 0) (x := a0) dX12_lot_0 rfl ?_
  refine g_bipush (pc := 1) (v := (18 : Int32)) dX12_lot_1 (by decide) ?_
  refine g_callS (pc := 3) (as := [.int a0, .int (18 : Int32)]) dX12_lot_3 cw_X12_533 (by decide) rfl rfl (Nat.le_of_ble_eq_true rfl) (rv_X12_mixed mm a0 (18 : Int32)) ?_
  rintro r_ m_ hz_ ⟨rfl, rfl⟩
  refine g_iload_n (pc := 6) (x := a1) dX12_lot_6 rfl ?_
  refine g_callS (pc := 7) (as := [.int (v_X12_mixed mm a0 (18 : Int32)), .int a1]) dX12_lot_7 cw_X12_533 (by decide) rfl rfl (Nat.le_of_ble_eq_true rfl) (rv_X12_mixed mm (v_X12_mixed mm a0 (18 : Int32)) a1) ?_
  rintro r_ m_ hz_ ⟨rfl, rfl⟩
  refine g_iconst (pc := 10) (v := (1 : Int32)) dX12_lot_10 (by decide) ?_
  refine g_iushr (pc := 11) dX12_lot_11 ?_
  refine g_iload_n (pc := 12) (x := a2) dX12_lot_12 rfl ?_
  refine g_irem (pc := 13) dX12_lot_13 h.1 ?_
  have h := h.2
  exact g_iret (pc := 14) dX12_lot_14 rfl rfl rfl ⟨rfl, rfl⟩
theorem dX12_lives_0 : decode cX12_lives 0 = .ok (.aload_n 0, 1) := by decide +kernel
theorem dX12_lives_1 : decode cX12_lives 1 = .ok (.getfield 33, 3) := by decide +kernel
theorem dX12_lives_4 : decode cX12_lives 4 = .ok (.bipush 30, 2) := by decide +kernel
theorem dX12_lives_6 : decode cX12_lives 6 = .ok (.iload_n 1, 1) := by decide +kernel
theorem dX12_lives_7 : decode cX12_lives 7 = .ok (.bipush 10, 2) := by decide +kernel
theorem dX12_lives_9 : decode cX12_lives 9 = .ok (.iload_n 2, 1) := by decide +kernel
theorem dX12_lives_10 : decode cX12_lives 10 = .ok (.imul, 1) := by decide +kernel
theorem dX12_lives_11 : decode cX12_lives 11 = .ok (.aload_n 0, 1) := by decide +kernel
theorem dX12_lives_12 : decode cX12_lives 12 = .ok (.getfield 30, 3) := by decide +kernel
theorem dX12_lives_15 : decode cX12_lives 15 = .ok (.iconst 0, 1) := by decide +kernel
theorem dX12_lives_16 : decode cX12_lives 16 = .ok (.iaload, 1) := by decide +kernel
theorem dX12_lives_17 : decode cX12_lives 17 = .ok (.invokestatic 536, 3) := by decide +kernel
theorem dX12_lives_20 : decode cX12_lives 20 = .ok (.iadd, 1) := by decide +kernel
theorem dX12_lives_21 : decode cX12_lives 21 = .ok (.bipush (-2), 2) := by decide +kernel
theorem dX12_lives_23 : decode cX12_lives 23 = .ok (.iastore, 1) := by decide +kernel
theorem dX12_lives_24 : decode cX12_lives 24 = .ok (.iload_n 1, 1) := by decide +kernel
theorem dX12_lives_25 : decode cX12_lives 25 = .ok (.bipush 10, 2) := by decide +kernel
theorem dX12_lives_27 : decode cX12_lives 27 = .ok (.iload_n 2, 1) := by decide +kernel
theorem dX12_lives_28 : decode cX12_lives 28 = .ok (.imul, 1) := by decide +kernel
theorem dX12_lives_29 : decode cX12_lives 29 = .ok (.iconst 1, 1) := by decide +kernel
theorem dX12_lives_30 : decode cX12_lives 30 = .ok (.iadd, 1) := by decide +kernel
theorem dX12_lives_31 : decode cX12_lives 31 = .ok (.aload_n 0, 1) := by decide +kernel
theorem dX12_lives_32 : decode cX12_lives 32 = .ok (.getfield 30, 3) := by decide +kernel
theorem dX12_lives_35 : decode cX12_lives 35 = .ok (.iconst 1, 1) := by decide +kernel
theorem dX12_lives_36 : decode cX12_lives 36 = .ok (.iaload, 1) := by decide +kernel
theorem dX12_lives_37 : decode cX12_lives 37 = .ok (.invokestatic 536, 3) := by decide +kernel
theorem dX12_lives_40 : decode cX12_lives 40 = .ok (.istore_n 3, 1) := by decide +kernel
theorem dX12_lives_41 : decode cX12_lives 41 = .ok (.iload_n 1, 1) := by decide +kernel
theorem dX12_lives_42 : decode cX12_lives 42 = .ok (.bipush 10, 2) := by decide +kernel
theorem dX12_lives_44 : decode cX12_lives 44 = .ok (.iload_n 2, 1) := by decide +kernel
theorem dX12_lives_45 : decode cX12_lives 45 = .ok (.imul, 1) := by decide +kernel
theorem dX12_lives_46 : decode cX12_lives 46 = .ok (.iconst 2, 1) := by decide +kernel
theorem dX12_lives_47 : decode cX12_lives 47 = .ok (.iadd, 1) := by decide +kernel
theorem dX12_lives_48 : decode cX12_lives 48 = .ok (.aload_n 0, 1) := by decide +kernel
theorem dX12_lives_49 : decode cX12_lives 49 = .ok (.getfield 30, 3) := by decide +kernel
theorem dX12_lives_52 : decode cX12_lives 52 = .ok (.iconst 0, 1) := by decide +kernel
theorem dX12_lives_53 : decode cX12_lives 53 = .ok (.iaload, 1) := by decide +kernel
theorem dX12_lives_54 : decode cX12_lives 54 = .ok (.invokestatic 536, 3) := by decide +kernel
theorem dX12_lives_57 : decode cX12_lives 57 = .ok (.istore 4, 2) := by decide +kernel
theorem dX12_lives_59 : decode cX12_lives 59 = .ok (.aload_n 0, 1) := by decide +kernel
theorem dX12_lives_60 : decode cX12_lives 60 = .ok (.iload_n 3, 1) := by decide +kernel
theorem dX12_lives_61 : decode cX12_lives 61 = .ok (.invokevirtual 386, 3) := by decide +kernel
theorem dX12_lives_64 : decode cX12_lives 64 = .ok (.ifCond .ge 14, 3) := by decide +kernel
theorem dX12_lives_67 : decode cX12_lives 67 = .ok (.aload_n 0, 1) := by decide +kernel
theorem dX12_lives_68 : decode cX12_lives 68 = .ok (.getfield 33, 3) := by decide +kernel
theorem dX12_lives_71 : decode cX12_lives 71 = .ok (.bipush 30, 2) := by decide +kernel
theorem dX12_lives_73 : decode cX12_lives 73 = .ok (.iload 4, 2) := by decide +kernel
theorem dX12_lives_75 : decode cX12_lives 75 = .ok (.iadd, 1) := by decide +kernel
theorem dX12_lives_76 : decode cX12_lives 76 = .ok (.iload_n 3, 1) := by decide +kernel
theorem dX12_lives_77 : decode cX12_lives 77 = .ok (.iastore, 1) := by decide +kernel
theorem dX12_lives_78 : decode cX12_lives 78 = .ok (.iconst 0, 1) := by decide +kernel
theorem dX12_lives_79 : decode cX12_lives 79 = .ok (.istore 5, 2) := by decide +kernel
theorem dX12_lives_81 : decode cX12_lives 81 = .ok (.iconst 0, 1) := by decide +kernel
theorem dX12_lives_82 : decode cX12_lives 82 = .ok (.istore 6, 2) := by decide +kernel
theorem dX12_lives_84 : decode cX12_lives 84 = .ok (.iconst 0, 1) := by decide +kernel
theorem dX12_lives_85 : decode cX12_lives 85 = .ok (.istore 7, 2) := by decide +kernel
theorem dX12_lives_87 : decode cX12_lives 87 = .ok (.iload 7, 2) := by decide +kernel
theorem dX12_lives_89 : decode cX12_lives 89 = .ok (.aload_n 0, 1) := by decide +kernel
theorem dX12_lives_90 : decode cX12_lives 90 = .ok (.getfield 30, 3) := by decide +kernel
theorem dX12_lives_93 : decode cX12_lives 93 = .ok (.iconst 0, 1) := by decide +kernel
theorem dX12_lives_94 : decode cX12_lives 94 = .ok (.iaload, 1) := by decide +kernel
theorem dX12_lives_95 : decode cX12_lives 95 = .ok (.if_icmp .ge 98, 3) := by decide +kernel
theorem dX12_lives_98 : decode cX12_lives 98 = .ok (.iload 5, 2) := by decide +kernel
theorem dX12_lives_100 : decode cX12_lives 100 = .ok (.aload_n 0, 1) := by decide +kernel
theorem dX12_lives_101 : decode cX12_lives 101 = .ok (.getfield 30, 3) := by decide +kernel
theorem dX12_lives_104 : decode cX12_lives 104 = .ok (.bipush 6, 2) := by decide +kernel
theorem dX12_lives_106 : decode cX12_lives 106 = .ok (.iaload, 1) := by decide +kernel
theorem dX12_lives_107 : decode cX12_lives 107 = .ok (.if_icmp .ge 86, 3) := by decide +kernel
theorem dX12_lives_110 : decode cX12_lives 110 = .ok (.aload_n 0, 1) := by decide +kernel
theorem dX12_lives_111 : decode cX12_lives 111 = .ok (.iload 7, 2) := by decide +kernel
theorem dX12_lives_113 : decode cX12_lives 113 = .ok (.invokevirtual 383, 3) := by decide +kernel
theorem dX12_lives_116 : decode cX12_lives 116 = .ok (.aload_n 0, 1) := by decide +kernel
theorem dX12_lives_117 : decode cX12_lives 117 = .ok (.iload 7, 2) := by decide +kernel
theorem dX12_lives_119 : decode cX12_lives 119 = .ok (.invokevirtual 380, 3) := by decide +kernel
theorem dX12_lives_122 : decode cX12_lives 122 = .ok (.isub, 1) := by decide +kernel
theorem dX12_lives_123 : decode cX12_lives 123 = .ok (.aload_n 0, 1) := by decide +kernel
theorem dX12_lives_124 : decode cX12_lives 124 = .ok (.getfield 30, 3) := by decide +kernel
theorem dX12_lives_127 : decode cX12_lives 127 = .ok (.bipush 7, 2) := by decide +kernel
theorem dX12_lives_129 : decode cX12_lives 129 = .ok (.iaload, 1) := by decide +kernel
theorem dX12_lives_130 : decode cX12_lives 130 = .ok (.ineg, 1) := by decide +kernel
theorem dX12_lives_131 : decode cX12_lives 131 = .ok (.aload_n 0, 1) := by decide +kernel
theorem dX12_lives_132 : decode cX12_lives 132 = .ok (.getfield 30, 3) := by decide +kernel
theorem dX12_lives_135 : decode cX12_lives 135 = .ok (.bipush 7, 2) := by decide +kernel
theorem dX12_lives_137 : decode cX12_lives 137 = .ok (.iaload, 1) := by decide +kernel
theorem dX12_lives_138 : decode cX12_lives 138 = .ok (.invokestatic 361, 3) := by decide +kernel
theorem dX12_lives_141 : decode cX12_lives 141 = .ok (.istore 8, 2) := by decide +kernel
theorem dX12_lives_143 : decode cX12_lives 143 = .ok (.iload 8, 2) := by decide +kernel
theorem dX12_lives_145 : decode cX12_lives 145 = .ok (.ifCond .ne 6, 3) := by decide +kernel
theorem dX12_lives_148 : decode cX12_lives 148 = .ok (.goto 39, 3) := by decide +kernel
theorem dX12_lives_151 : decode cX12_lives 151 = .ok (.aload_n 0, 1) := by decide +kernel
theorem dX12_lives_152 : decode cX12_lives 152 = .ok (.getfield 33, 3) := by decide +kernel
theorem dX12_lives_155 : decode cX12_lives 155 = .ok (.bipush 10, 2) := by decide +kernel
theorem dX12_lives_157 : decode cX12_lives 157 = .ok (.iload 7, 2) := by decide +kernel
theorem dX12_lives_159 : decode cX12_lives 159 = .ok (.iadd, 1) := by decide +kernel
theorem dX12_lives_160 : decode cX12_lives 160 = .ok (.dup2, 1) := by decide +kernel
theorem dX12_lives_161 : decode cX12_lives 161 = .ok (.iaload, 1) := by decide +kernel
theorem dX12_lives_162 : decode cX12_lives 162 = .ok (.iload 8, 2) := by decide +kernel
theorem dX12_lives_164 : decode cX12_lives 164 = .ok (.iadd, 1) := by decide +kernel
theorem dX12_lives_165 : decode cX12_lives 165 = .ok (.iastore, 1) := by decide +kernel
theorem dX12_lives_166 : decode cX12_lives 166 = .ok (.iload 6, 2) := by decide +kernel
theorem dX12_lives_168 : decode cX12_lives 168 = .ok (.iload 8, 2) := by decide +kernel
theorem dX12_lives_170 : decode cX12_lives 170 = .ok (.ifCond .ge 9, 3) := by decide +kernel
theorem dX12_lives_173 : decode cX12_lives 173 = .ok (.iload 8, 2) := by decide +kernel
theorem dX12_lives_175 : decode cX12_lives 175 = .ok (.ineg, 1) := by decide +kernel
theorem dX12_lives_176 : decode cX12_lives 176 = .ok (.goto 5, 3) := by decide +kernel
theorem dX12_lives_179 : decode cX12_lives 179 = .ok (.iload 8, 2) := by decide +kernel
theorem dX12_lives_181 : decode cX12_lives 181 = .ok (.iadd, 1) := by decide +kernel
theorem dX12_lives_182 : decode cX12_lives 182 = .ok (.istore 6, 2) := by decide +kernel
theorem dX12_lives_184 : decode cX12_lives 184 = .ok (.iinc 5 1, 3) := by decide +kernel
theorem dX12_lives_187 : decode cX12_lives 187 = .ok (.iinc 7 1, 3) := by decide +kernel
theorem dX12_lives_190 : decode cX12_lives 190 = .ok (.goto (-103), 3) := by decide +kernel
theorem dX12_lives_193 : decode cX12_lives 193 = .ok (.iload 6, 2) := by decide +kernel
theorem dX12_lives_195 : decode cX12_lives 195 = .ok (.ireturn, 1) := by decide +kernel
theorem b_X12_lives (mm : MM) (Q : Value → MM → Prop) (a1 : Int32) (a2 : Int32) (h : o_X12_lot mm a1 ((10 : Int32) * a2) (mm.1 162 0) ∧ (vp_in ((30 : Int32) + (v_X12_lot mm a1 ((10 : Int32) * a2) (mm.1 162 0))) 1260 ∧ (o_X12_lot (wI mm 163 (((30 : Int32) + (v_X12_lot mm a1 ((10 : Int32) * a2) (mm.1 162 0))).toNatClampNeg) (-2 : Int32)) a1 (((10 : Int32) * a2) + (1 : Int32)) ((wI mm 163 (((30 : Int32) + (v_X12_lot mm a1 ((10 : Int32) * a2) (mm.1 162 0))).toNatClampNeg) (-2 : Int32)).1 162 1) ∧ (o_X12_lot (wI mm 163 (((30 : Int32) + (v_X12_lot mm a1 ((10 : Int32) * a2) (mm.1 162 0))).toNatClampNeg) (-2 : Int32)) a1 (((10 : Int32) * a2) + (2 : Int32)) ((wI mm 163 (((30 : Int32) + (v_X12_lot mm a1 ((10 : Int32) * a2) (mm.1 162 0))).toNatClampNeg) (-2 : Int32)).1 162 0) ∧ (∃ Pm1 : Value → MM → Prop, Runs e_X12_holderOf [.ref 156, .int (v_X12_lot (wI mm 163 (((30 : Int32) + (v_X12_lot mm a1 ((10 : Int32) * a2) (mm.1 162 0))).toNatClampNeg) (-2 : Int32)) a1 (((10 : Int32) * a2) + (1 : Int32)) ((wI mm 163 (((30 : Int32) + (v_X12_lot mm a1 ((10 : Int32) * a2) (mm.1 162 0))).toNatClampNeg) (-2 : Int32)).1 162 1))] (wI mm 163 (((30 : Int32) + (v_X12_lot mm a1 ((10 : Int32) * a2) (mm.1 162 0))).toNatClampNeg) (-2 : Int32)) Pm1 ∧ ∀ (r1 : Int32) (m1 : MM), Pm1 (.int r1) m1 → ((0 ≤ r1 → (G e_X12_lives 87 [(0, .ref 156), (5, .int (0 : Int32)), (6, .int (0 : Int32)), (7, .int (0 : Int32))] [] m1 Q)) ∧ (¬ 0 ≤ r1 → (vp_in ((30 : Int32) + (v_X12_lot (wI mm 163 (((30 : Int32) + (v_X12_lot mm a1 ((10 : Int32) * a2) (mm.1 162 0))).toNatClampNeg) (-2 : Int32)) a1 (((10 : Int32) * a2) + (2 : Int32)) ((wI mm 163 (((30 : Int32) + (v_X12_lot mm a1 ((10 : Int32) * a2) (mm.1 162 0))).toNatClampNeg) (-2 : Int32)).1 162 0))) 1260 ∧ (G e_X12_lives 87 [(0, .ref 156), (5, .int (0 : Int32)), (6, .int (0 : Int32)), (7, .int (0 : Int32))] [] (wI m1 163 (((30 : Int32) + (v_X12_lot (wI mm 163 (((30 : Int32) + (v_X12_lot mm a1 ((10 : Int32) * a2) (mm.1 162 0))).toNatClampNeg) (-2 : Int32)) a1 (((10 : Int32) * a2) + (2 : Int32)) ((wI mm 163 (((30 : Int32) + (v_X12_lot mm a1 ((10 : Int32) * a2) (mm.1 162 0))).toNatClampNeg) (-2 : Int32)).1 162 0))).toNatClampNeg) (v_X12_lot (wI mm 163 (((30 : Int32) + (v_X12_lot mm a1 ((10 : Int32) * a2) (mm.1 162 0))).toNatClampNeg) (-2 : Int32)) a1 (((10 : Int32) * a2) + (1 : Int32)) ((wI mm 163 (((30 : Int32) + (v_X12_lot mm a1 ((10 : Int32) * a2) (mm.1 162 0))).toNatClampNeg) (-2 : Int32)).1 162 1))) Q))))))))) : Runs e_X12_lives [.ref 156, .int a1, .int a2] mm Q := by
  refine runs_of_G (L := [(0, .ref 156), (1, .int a1), (2, .int a2)]) pl_X12 (Nat.le_of_ble_eq_true rfl) rfl ?_
  refine g_aload_n (pc := 0) (x := 156) dX12_lives_0 rfl ?_
  refine g_getR (pc := 1) (dd := 7) dX12_lives_1 fo_X12_33 sh_156 rfl ?_
  refine g_bipush (pc := 4) (v := (30 : Int32)) dX12_lives_4 (by decide) ?_
  refine g_iload_n (pc := 6) (x := a1) dX12_lives_6 rfl ?_
  refine g_bipush (pc := 7) (v := (10 : Int32)) dX12_lives_7 (by decide) ?_
  refine g_iload_n (pc := 9) (x := a2) dX12_lives_9 rfl ?_
  refine g_imul (pc := 10) dX12_lives_10 ?_
  refine g_aload_n (pc := 11) (x := 156) dX12_lives_11 rfl ?_
  refine g_getR (pc := 12) (dd := 6) dX12_lives_12 fo_X12_30 sh_156 rfl ?_
  refine g_iconst (pc := 15) (v := (0 : Int32)) dX12_lives_15 (by decide) ?_
  refine g_iaload (pc := 16) dX12_lives_16 sh_162 (vp_in_nI (n := 0) (N := 420) (by decide) (by decide)) ?_
  refine g_callS (pc := 17) (as := [.int a1, .int ((10 : Int32) * a2), .int (mm.1 162 0)]) dX12_lives_17 cw_X12_536 (by decide) rfl rfl (Nat.le_of_ble_eq_true rfl) (rv_X12_lot mm a1 ((10 : Int32) * a2) (mm.1 162 0) h.1) ?_
  have h := h.2
  rintro r_ m_ hz_ ⟨rfl, rfl⟩
  refine g_iadd (pc := 20) dX12_lives_20 ?_
  refine g_bipush (pc := 21) (v := (-2 : Int32)) dX12_lives_21 (by decide) ?_
  refine g_iastore (pc := 23) dX12_lives_23 sh_163 h.1 ?_
  have h := h.2
  refine g_iload_n (pc := 24) (x := a1) dX12_lives_24 rfl ?_
  refine g_bipush (pc := 25) (v := (10 : Int32)) dX12_lives_25 (by decide) ?_
  refine g_iload_n (pc := 27) (x := a2) dX12_lives_27 rfl ?_
  refine g_imul (pc := 28) dX12_lives_28 ?_
  refine g_iconst (pc := 29) (v := (1 : Int32)) dX12_lives_29 (by decide) ?_
  refine g_iadd (pc := 30) dX12_lives_30 ?_
  refine g_aload_n (pc := 31) (x := 156) dX12_lives_31 rfl ?_
  refine g_getR (pc := 32) (dd := 6) dX12_lives_32 fo_X12_30 sh_156 rfl ?_
  refine g_iconst (pc := 35) (v := (1 : Int32)) dX12_lives_35 (by decide) ?_
  refine g_iaload (pc := 36) dX12_lives_36 sh_162 (vp_in_nI (n := 1) (N := 420) (by decide) (by decide)) ?_
  refine g_callS (pc := 37) (as := [.int a1, .int (((10 : Int32) * a2) + (1 : Int32)), .int ((wI mm 163 (((30 : Int32) + (v_X12_lot mm a1 ((10 : Int32) * a2) (mm.1 162 0))).toNatClampNeg) (-2 : Int32)).1 162 1)]) dX12_lives_37 cw_X12_536 (by decide) rfl rfl (Nat.le_of_ble_eq_true rfl) (rv_X12_lot (wI mm 163 (((30 : Int32) + (v_X12_lot mm a1 ((10 : Int32) * a2) (mm.1 162 0))).toNatClampNeg) (-2 : Int32)) a1 (((10 : Int32) * a2) + (1 : Int32)) ((wI mm 163 (((30 : Int32) + (v_X12_lot mm a1 ((10 : Int32) * a2) (mm.1 162 0))).toNatClampNeg) (-2 : Int32)).1 162 1) h.1) ?_
  have h := h.2
  rintro r_ m_ hz_ ⟨rfl, rfl⟩
  refine g_istore_n (pc := 40) (L' := [(0, .ref 156), (1, .int a1), (2, .int a2), (3, .int (v_X12_lot (wI mm 163 (((30 : Int32) + (v_X12_lot mm a1 ((10 : Int32) * a2) (mm.1 162 0))).toNatClampNeg) (-2 : Int32)) a1 (((10 : Int32) * a2) + (1 : Int32)) ((wI mm 163 (((30 : Int32) + (v_X12_lot mm a1 ((10 : Int32) * a2) (mm.1 162 0))).toNatClampNeg) (-2 : Int32)).1 162 1)))]) dX12_lives_40 (Nat.le_of_ble_eq_true rfl) rfl ?_
  refine g_iload_n (pc := 41) (x := a1) dX12_lives_41 rfl ?_
  refine g_bipush (pc := 42) (v := (10 : Int32)) dX12_lives_42 (by decide) ?_
  refine g_iload_n (pc := 44) (x := a2) dX12_lives_44 rfl ?_
  refine g_imul (pc := 45) dX12_lives_45 ?_
  refine g_iconst (pc := 46) (v := (2 : Int32)) dX12_lives_46 (by decide) ?_
  refine g_iadd (pc := 47) dX12_lives_47 ?_
  refine g_aload_n (pc := 48) (x := 156) dX12_lives_48 rfl ?_
  refine g_getR (pc := 49) (dd := 6) dX12_lives_49 fo_X12_30 sh_156 rfl ?_
  refine g_iconst (pc := 52) (v := (0 : Int32)) dX12_lives_52 (by decide) ?_
  refine g_iaload (pc := 53) dX12_lives_53 sh_162 (vp_in_nI (n := 0) (N := 420) (by decide) (by decide)) ?_
  refine g_callS (pc := 54) (as := [.int a1, .int (((10 : Int32) * a2) + (2 : Int32)), .int ((wI mm 163 (((30 : Int32) + (v_X12_lot mm a1 ((10 : Int32) * a2) (mm.1 162 0))).toNatClampNeg) (-2 : Int32)).1 162 0)]) dX12_lives_54 cw_X12_536 (by decide) rfl rfl (Nat.le_of_ble_eq_true rfl) (rv_X12_lot (wI mm 163 (((30 : Int32) + (v_X12_lot mm a1 ((10 : Int32) * a2) (mm.1 162 0))).toNatClampNeg) (-2 : Int32)) a1 (((10 : Int32) * a2) + (2 : Int32)) ((wI mm 163 (((30 : Int32) + (v_X12_lot mm a1 ((10 : Int32) * a2) (mm.1 162 0))).toNatClampNeg) (-2 : Int32)).1 162 0) h.1) ?_
  have h := h.2
  rintro r_ m_ hz_ ⟨rfl, rfl⟩
  refine g_istore (pc := 57) (L' := [(0, .ref 156), (1, .int a1), (2, .int a2), (3, .int (v_X12_lot (wI mm 163 (((30 : Int32) + (v_X12_lot mm a1 ((10 : Int32) * a2) (mm.1 162 0))).toNatClampNeg) (-2 : Int32)) a1 (((10 : Int32) * a2) + (1 : Int32)) ((wI mm 163 (((30 : Int32) + (v_X12_lot mm a1 ((10 : Int32) * a2) (mm.1 162 0))).toNatClampNeg) (-2 : Int32)).1 162 1))), (4, .int (v_X12_lot (wI mm 163 (((30 : Int32) + (v_X12_lot mm a1 ((10 : Int32) * a2) (mm.1 162 0))).toNatClampNeg) (-2 : Int32)) a1 (((10 : Int32) * a2) + (2 : Int32)) ((wI mm 163 (((30 : Int32) + (v_X12_lot mm a1 ((10 : Int32) * a2) (mm.1 162 0))).toNatClampNeg) (-2 : Int32)).1 162 0)))]) dX12_lives_57 (Nat.le_of_ble_eq_true rfl) rfl ?_
  refine g_aload_n (pc := 59) (x := 156) dX12_lives_59 rfl ?_
  refine g_iload_n (pc := 60) (x := (v_X12_lot (wI mm 163 (((30 : Int32) + (v_X12_lot mm a1 ((10 : Int32) * a2) (mm.1 162 0))).toNatClampNeg) (-2 : Int32)) a1 (((10 : Int32) * a2) + (1 : Int32)) ((wI mm 163 (((30 : Int32) + (v_X12_lot mm a1 ((10 : Int32) * a2) (mm.1 162 0))).toNatClampNeg) (-2 : Int32)).1 162 1))) dX12_lives_60 rfl ?_
  obtain ⟨Pm1, hRm1, h⟩ := h
  refine g_callV (pc := 61) (as := [.int (v_X12_lot (wI mm 163 (((30 : Int32) + (v_X12_lot mm a1 ((10 : Int32) * a2) (mm.1 162 0))).toNatClampNeg) (-2 : Int32)) a1 (((10 : Int32) * a2) + (1 : Int32)) ((wI mm 163 (((30 : Int32) + (v_X12_lot mm a1 ((10 : Int32) * a2) (mm.1 162 0))).toNatClampNeg) (-2 : Int32)).1 162 1))]) dX12_lives_61 cw_X12_386 (by decide) rfl rfl sh_156 (Nat.le_of_ble_eq_true rfl) hRm1 ?_
  intro r_ m1 hz_ hp_
  obtain ⟨r1, rfl⟩ := hz_
  have h := h r1 m1 hp_
  refine g_if_ge (pc := 64) (tgt := 78) dX12_lives_64 (by decide) (fun c64 => ?_) (fun c64 => ?_)
  · have h := h.1 c64
    refine g_iconst (pc := 78) (v := (0 : Int32)) dX12_lives_78 (by decide) ?_
    refine g_istore (pc := 79) (L' := [(0, .ref 156), (1, .int a1), (2, .int a2), (3, .int (v_X12_lot (wI mm 163 (((30 : Int32) + (v_X12_lot mm a1 ((10 : Int32) * a2) (mm.1 162 0))).toNatClampNeg) (-2 : Int32)) a1 (((10 : Int32) * a2) + (1 : Int32)) ((wI mm 163 (((30 : Int32) + (v_X12_lot mm a1 ((10 : Int32) * a2) (mm.1 162 0))).toNatClampNeg) (-2 : Int32)).1 162 1))), (4, .int (v_X12_lot (wI mm 163 (((30 : Int32) + (v_X12_lot mm a1 ((10 : Int32) * a2) (mm.1 162 0))).toNatClampNeg) (-2 : Int32)) a1 (((10 : Int32) * a2) + (2 : Int32)) ((wI mm 163 (((30 : Int32) + (v_X12_lot mm a1 ((10 : Int32) * a2) (mm.1 162 0))).toNatClampNeg) (-2 : Int32)).1 162 0))), (5, .int (0 : Int32))]) dX12_lives_79 (Nat.le_of_ble_eq_true rfl) rfl ?_
    refine g_iconst (pc := 81) (v := (0 : Int32)) dX12_lives_81 (by decide) ?_
    refine g_istore (pc := 82) (L' := [(0, .ref 156), (1, .int a1), (2, .int a2), (3, .int (v_X12_lot (wI mm 163 (((30 : Int32) + (v_X12_lot mm a1 ((10 : Int32) * a2) (mm.1 162 0))).toNatClampNeg) (-2 : Int32)) a1 (((10 : Int32) * a2) + (1 : Int32)) ((wI mm 163 (((30 : Int32) + (v_X12_lot mm a1 ((10 : Int32) * a2) (mm.1 162 0))).toNatClampNeg) (-2 : Int32)).1 162 1))), (4, .int (v_X12_lot (wI mm 163 (((30 : Int32) + (v_X12_lot mm a1 ((10 : Int32) * a2) (mm.1 162 0))).toNatClampNeg) (-2 : Int32)) a1 (((10 : Int32) * a2) + (2 : Int32)) ((wI mm 163 (((30 : Int32) + (v_X12_lot mm a1 ((10 : Int32) * a2) (mm.1 162 0))).toNatClampNeg) (-2 : Int32)).1 162 0))), (5, .int (0 : Int32)), (6, .int (0 : Int32))]) dX12_lives_82 (Nat.le_of_ble_eq_true rfl) rfl ?_
    refine g_iconst (pc := 84) (v := (0 : Int32)) dX12_lives_84 (by decide) ?_
    refine g_istore (pc := 85) (L' := [(0, .ref 156), (1, .int a1), (2, .int a2), (3, .int (v_X12_lot (wI mm 163 (((30 : Int32) + (v_X12_lot mm a1 ((10 : Int32) * a2) (mm.1 162 0))).toNatClampNeg) (-2 : Int32)) a1 (((10 : Int32) * a2) + (1 : Int32)) ((wI mm 163 (((30 : Int32) + (v_X12_lot mm a1 ((10 : Int32) * a2) (mm.1 162 0))).toNatClampNeg) (-2 : Int32)).1 162 1))), (4, .int (v_X12_lot (wI mm 163 (((30 : Int32) + (v_X12_lot mm a1 ((10 : Int32) * a2) (mm.1 162 0))).toNatClampNeg) (-2 : Int32)) a1 (((10 : Int32) * a2) + (2 : Int32)) ((wI mm 163 (((30 : Int32) + (v_X12_lot mm a1 ((10 : Int32) * a2) (mm.1 162 0))).toNatClampNeg) (-2 : Int32)).1 162 0))), (5, .int (0 : Int32)), (6, .int (0 : Int32)), (7, .int (0 : Int32))]) dX12_lives_85 (Nat.le_of_ble_eq_true rfl) rfl ?_
    refine g_sub (L' := [(0, .ref 156), (5, .int (0 : Int32)), (6, .int (0 : Int32)), (7, .int (0 : Int32))]) [0, 5, 6, 7] rfl ?_
    exact h
  · have h := h.2 c64
    refine g_aload_n (pc := 67) (x := 156) dX12_lives_67 rfl ?_
    refine g_getR (pc := 68) (dd := 7) dX12_lives_68 fo_X12_33 sh_156 rfl ?_
    refine g_bipush (pc := 71) (v := (30 : Int32)) dX12_lives_71 (by decide) ?_
    refine g_iload (pc := 73) (x := (v_X12_lot (wI mm 163 (((30 : Int32) + (v_X12_lot mm a1 ((10 : Int32) * a2) (mm.1 162 0))).toNatClampNeg) (-2 : Int32)) a1 (((10 : Int32) * a2) + (2 : Int32)) ((wI mm 163 (((30 : Int32) + (v_X12_lot mm a1 ((10 : Int32) * a2) (mm.1 162 0))).toNatClampNeg) (-2 : Int32)).1 162 0))) dX12_lives_73 rfl ?_
    refine g_iadd (pc := 75) dX12_lives_75 ?_
    refine g_iload_n (pc := 76) (x := (v_X12_lot (wI mm 163 (((30 : Int32) + (v_X12_lot mm a1 ((10 : Int32) * a2) (mm.1 162 0))).toNatClampNeg) (-2 : Int32)) a1 (((10 : Int32) * a2) + (1 : Int32)) ((wI mm 163 (((30 : Int32) + (v_X12_lot mm a1 ((10 : Int32) * a2) (mm.1 162 0))).toNatClampNeg) (-2 : Int32)).1 162 1))) dX12_lives_76 rfl ?_
    refine g_iastore (pc := 77) dX12_lives_77 sh_163 h.1 ?_
    have h := h.2
    refine g_iconst (pc := 78) (v := (0 : Int32)) dX12_lives_78 (by decide) ?_
    refine g_istore (pc := 79) (L' := [(0, .ref 156), (1, .int a1), (2, .int a2), (3, .int (v_X12_lot (wI mm 163 (((30 : Int32) + (v_X12_lot mm a1 ((10 : Int32) * a2) (mm.1 162 0))).toNatClampNeg) (-2 : Int32)) a1 (((10 : Int32) * a2) + (1 : Int32)) ((wI mm 163 (((30 : Int32) + (v_X12_lot mm a1 ((10 : Int32) * a2) (mm.1 162 0))).toNatClampNeg) (-2 : Int32)).1 162 1))), (4, .int (v_X12_lot (wI mm 163 (((30 : Int32) + (v_X12_lot mm a1 ((10 : Int32) * a2) (mm.1 162 0))).toNatClampNeg) (-2 : Int32)) a1 (((10 : Int32) * a2) + (2 : Int32)) ((wI mm 163 (((30 : Int32) + (v_X12_lot mm a1 ((10 : Int32) * a2) (mm.1 162 0))).toNatClampNeg) (-2 : Int32)).1 162 0))), (5, .int (0 : Int32))]) dX12_lives_79 (Nat.le_of_ble_eq_true rfl) rfl ?_
    refine g_iconst (pc := 81) (v := (0 : Int32)) dX12_lives_81 (by decide) ?_
    refine g_istore (pc := 82) (L' := [(0, .ref 156), (1, .int a1), (2, .int a2), (3, .int (v_X12_lot (wI mm 163 (((30 : Int32) + (v_X12_lot mm a1 ((10 : Int32) * a2) (mm.1 162 0))).toNatClampNeg) (-2 : Int32)) a1 (((10 : Int32) * a2) + (1 : Int32)) ((wI mm 163 (((30 : Int32) + (v_X12_lot mm a1 ((10 : Int32) * a2) (mm.1 162 0))).toNatClampNeg) (-2 : Int32)).1 162 1))), (4, .int (v_X12_lot (wI mm 163 (((30 : Int32) + (v_X12_lot mm a1 ((10 : Int32) * a2) (mm.1 162 0))).toNatClampNeg) (-2 : Int32)) a1 (((10 : Int32) * a2) + (2 : Int32)) ((wI mm 163 (((30 : Int32) + (v_X12_lot mm a1 ((10 : Int32) * a2) (mm.1 162 0))).toNatClampNeg) (-2 : Int32)).1 162 0))), (5, .int (0 : Int32)), (6, .int (0 : Int32))]) dX12_lives_82 (Nat.le_of_ble_eq_true rfl) rfl ?_
    refine g_iconst (pc := 84) (v := (0 : Int32)) dX12_lives_84 (by decide) ?_
    refine g_istore (pc := 85) (L' := [(0, .ref 156), (1, .int a1), (2, .int a2), (3, .int (v_X12_lot (wI mm 163 (((30 : Int32) + (v_X12_lot mm a1 ((10 : Int32) * a2) (mm.1 162 0))).toNatClampNeg) (-2 : Int32)) a1 (((10 : Int32) * a2) + (1 : Int32)) ((wI mm 163 (((30 : Int32) + (v_X12_lot mm a1 ((10 : Int32) * a2) (mm.1 162 0))).toNatClampNeg) (-2 : Int32)).1 162 1))), (4, .int (v_X12_lot (wI mm 163 (((30 : Int32) + (v_X12_lot mm a1 ((10 : Int32) * a2) (mm.1 162 0))).toNatClampNeg) (-2 : Int32)) a1 (((10 : Int32) * a2) + (2 : Int32)) ((wI mm 163 (((30 : Int32) + (v_X12_lot mm a1 ((10 : Int32) * a2) (mm.1 162 0))).toNatClampNeg) (-2 : Int32)).1 162 0))), (5, .int (0 : Int32)), (6, .int (0 : Int32)), (7, .int (0 : Int32))]) dX12_lives_85 (Nat.le_of_ble_eq_true rfl) rfl ?_
    refine g_sub (L' := [(0, .ref 156), (5, .int (0 : Int32)), (6, .int (0 : Int32)), (7, .int (0 : Int32))]) [0, 5, 6, 7] rfl ?_
    exact h
theorem b_X12_lives_87 (mm : MM) (Q : Value → MM → Prop) (l5 : Int32) (l6 : Int32) (l7 : Int32) (h : ((mm.1 162 0) ≤ l7 → (Q (.int l6) mm)) ∧ (¬ (mm.1 162 0) ≤ l7 → (((mm.1 162 6) ≤ l5 → (Q (.int l6) mm)) ∧ (¬ (mm.1 162 6) ≤ l5 → (∃ Pm1 : Value → MM → Prop, Runs e_X12_dueOf [.ref 156, .int l7] mm Pm1 ∧ ∀ (r1 : Int32) (m1 : MM), Pm1 (.int r1) m1 → (o_X12_heightOf m1 l7 ∧ ((¬ (v_X12_within m1 (r1 - (v_X12_heightOf m1 l7)) (-(m1.1 162 7)) (m1.1 162 7)) = 0 → (vp_in ((10 : Int32) + l7) 1260 ∧ (vp_in ((10 : Int32) + l7) 1260 ∧ ((0 ≤ (v_X12_within m1 (r1 - (v_X12_heightOf m1 l7)) (-(m1.1 162 7)) (m1.1 162 7)) → (G e_X12_lives 87 [(0, .ref 156), (5, .int (l5 + (1 : Int32))), (6, .int (l6 + (v_X12_within m1 (r1 - (v_X12_heightOf m1 l7)) (-(m1.1 162 7)) (m1.1 162 7)))), (7, .int (l7 + (1 : Int32)))] [] (wI m1 163 (((10 : Int32) + l7).toNatClampNeg) ((m1.1 163 ((10 : Int32) + l7).toNatClampNeg) + (v_X12_within m1 (r1 - (v_X12_heightOf m1 l7)) (-(m1.1 162 7)) (m1.1 162 7)))) Q)) ∧ (¬ 0 ≤ (v_X12_within m1 (r1 - (v_X12_heightOf m1 l7)) (-(m1.1 162 7)) (m1.1 162 7)) → (G e_X12_lives 87 [(0, .ref 156), (5, .int (l5 + (1 : Int32))), (6, .int (l6 + (-(v_X12_within m1 (r1 - (v_X12_heightOf m1 l7)) (-(m1.1 162 7)) (m1.1 162 7))))), (7, .int (l7 + (1 : Int32)))] [] (wI m1 163 (((10 : Int32) + l7).toNatClampNeg) ((m1.1 163 ((10 : Int32) + l7).toNatClampNeg) + (v_X12_within m1 (r1 - (v_X12_heightOf m1 l7)) (-(m1.1 162 7)) (m1.1 162 7)))) Q)))))) ∧ ((v_X12_within m1 (r1 - (v_X12_heightOf m1 l7)) (-(m1.1 162 7)) (m1.1 162 7)) = 0 → (G e_X12_lives 87 [(0, .ref 156), (5, .int l5), (6, .int l6), (7, .int (l7 + (1 : Int32)))] [] m1 Q))))))))) : G e_X12_lives 87 [(0, .ref 156), (5, .int l5), (6, .int l6), (7, .int l7)] [] mm Q := by
  refine g_iload (pc := 87) (x := l7) dX12_lives_87 rfl ?_
  refine g_aload_n (pc := 89) (x := 156) dX12_lives_89 rfl ?_
  refine g_getR (pc := 90) (dd := 6) dX12_lives_90 fo_X12_30 sh_156 rfl ?_
  refine g_iconst (pc := 93) (v := (0 : Int32)) dX12_lives_93 (by decide) ?_
  refine g_iaload (pc := 94) dX12_lives_94 sh_162 (vp_in_nI (n := 0) (N := 420) (by decide) (by decide)) ?_
  refine g_icmp_ge (pc := 95) (tgt := 193) dX12_lives_95 (by decide) (fun c95 => ?_) (fun c95 => ?_)
  · have h := h.1 c95
    refine g_iload (pc := 193) (x := l6) dX12_lives_193 rfl ?_
    exact g_iret (pc := 195) dX12_lives_195 rfl rfl rfl h
  · have h := h.2 c95
    refine g_iload (pc := 98) (x := l5) dX12_lives_98 rfl ?_
    refine g_aload_n (pc := 100) (x := 156) dX12_lives_100 rfl ?_
    refine g_getR (pc := 101) (dd := 6) dX12_lives_101 fo_X12_30 sh_156 rfl ?_
    refine g_bipush (pc := 104) (v := (6 : Int32)) dX12_lives_104 (by decide) ?_
    refine g_iaload (pc := 106) dX12_lives_106 sh_162 (vp_in_nI (n := 6) (N := 420) (by decide) (by decide)) ?_
    refine g_icmp_ge (pc := 107) (tgt := 193) dX12_lives_107 (by decide) (fun c107 => ?_) (fun c107 => ?_)
    · have h := h.1 c107
      refine g_iload (pc := 193) (x := l6) dX12_lives_193 rfl ?_
      exact g_iret (pc := 195) dX12_lives_195 rfl rfl rfl h
    · have h := h.2 c107
      refine g_aload_n (pc := 110) (x := 156) dX12_lives_110 rfl ?_
      refine g_iload (pc := 111) (x := l7) dX12_lives_111 rfl ?_
      obtain ⟨Pm1, hRm1, h⟩ := h
      refine g_callV (pc := 113) (as := [.int l7]) dX12_lives_113 cw_X12_383 (by decide) rfl rfl sh_156 (Nat.le_of_ble_eq_true rfl) hRm1 ?_
      intro r_ m1 hz_ hp_
      obtain ⟨r1, rfl⟩ := hz_
      have h := h r1 m1 hp_
      refine g_aload_n (pc := 116) (x := 156) dX12_lives_116 rfl ?_
      refine g_iload (pc := 117) (x := l7) dX12_lives_117 rfl ?_
      refine g_callV (pc := 119) (as := [.int l7]) dX12_lives_119 cw_X12_380 (by decide) rfl rfl sh_156 (Nat.le_of_ble_eq_true rfl) (rv_X12_heightOf m1 l7 h.1) ?_
      have h := h.2
      rintro r_ m_ hz_ ⟨rfl, rfl⟩
      refine g_isub (pc := 122) dX12_lives_122 ?_
      refine g_aload_n (pc := 123) (x := 156) dX12_lives_123 rfl ?_
      refine g_getR (pc := 124) (dd := 6) dX12_lives_124 fo_X12_30 sh_156 rfl ?_
      refine g_bipush (pc := 127) (v := (7 : Int32)) dX12_lives_127 (by decide) ?_
      refine g_iaload (pc := 129) dX12_lives_129 sh_162 (vp_in_nI (n := 7) (N := 420) (by decide) (by decide)) ?_
      refine g_ineg (pc := 130) dX12_lives_130 ?_
      refine g_aload_n (pc := 131) (x := 156) dX12_lives_131 rfl ?_
      refine g_getR (pc := 132) (dd := 6) dX12_lives_132 fo_X12_30 sh_156 rfl ?_
      refine g_bipush (pc := 135) (v := (7 : Int32)) dX12_lives_135 (by decide) ?_
      refine g_iaload (pc := 137) dX12_lives_137 sh_162 (vp_in_nI (n := 7) (N := 420) (by decide) (by decide)) ?_
      refine g_callS (pc := 138) (as := [.int (r1 - (v_X12_heightOf m1 l7)), .int (-(m1.1 162 7)), .int (m1.1 162 7)]) dX12_lives_138 cw_X12_361 (by decide) rfl rfl (Nat.le_of_ble_eq_true rfl) (rv_X12_within m1 (r1 - (v_X12_heightOf m1 l7)) (-(m1.1 162 7)) (m1.1 162 7)) ?_
      rintro r_ m_ hz_ ⟨rfl, rfl⟩
      refine g_istore (pc := 141) (L' := [(0, .ref 156), (5, .int l5), (6, .int l6), (7, .int l7), (8, .int (v_X12_within m1 (r1 - (v_X12_heightOf m1 l7)) (-(m1.1 162 7)) (m1.1 162 7)))]) dX12_lives_141 (Nat.le_of_ble_eq_true rfl) rfl ?_
      refine g_iload (pc := 143) (x := (v_X12_within m1 (r1 - (v_X12_heightOf m1 l7)) (-(m1.1 162 7)) (m1.1 162 7))) dX12_lives_143 rfl ?_
      refine g_if_ne (pc := 145) (tgt := 151) dX12_lives_145 (by decide) (fun c145 => ?_) (fun c145 => ?_)
      · have h := h.1 c145
        refine g_aload_n (pc := 151) (x := 156) dX12_lives_151 rfl ?_
        refine g_getR (pc := 152) (dd := 7) dX12_lives_152 fo_X12_33 sh_156 rfl ?_
        refine g_bipush (pc := 155) (v := (10 : Int32)) dX12_lives_155 (by decide) ?_
        refine g_iload (pc := 157) (x := l7) dX12_lives_157 rfl ?_
        refine g_iadd (pc := 159) dX12_lives_159 ?_
        refine g_dup2 (pc := 160) dX12_lives_160 rfl rfl ?_
        refine g_iaload (pc := 161) dX12_lives_161 sh_163 h.1 ?_
        have h := h.2
        refine g_iload (pc := 162) (x := (v_X12_within m1 (r1 - (v_X12_heightOf m1 l7)) (-(m1.1 162 7)) (m1.1 162 7))) dX12_lives_162 rfl ?_
        refine g_iadd (pc := 164) dX12_lives_164 ?_
        refine g_iastore (pc := 165) dX12_lives_165 sh_163 h.1 ?_
        have h := h.2
        refine g_iload (pc := 166) (x := l6) dX12_lives_166 rfl ?_
        refine g_iload (pc := 168) (x := (v_X12_within m1 (r1 - (v_X12_heightOf m1 l7)) (-(m1.1 162 7)) (m1.1 162 7))) dX12_lives_168 rfl ?_
        refine g_if_ge (pc := 170) (tgt := 179) dX12_lives_170 (by decide) (fun c170 => ?_) (fun c170 => ?_)
        · have h := h.1 c170
          refine g_iload (pc := 179) (x := (v_X12_within m1 (r1 - (v_X12_heightOf m1 l7)) (-(m1.1 162 7)) (m1.1 162 7))) dX12_lives_179 rfl ?_
          refine g_iadd (pc := 181) dX12_lives_181 ?_
          refine g_istore (pc := 182) (L' := [(0, .ref 156), (5, .int l5), (6, .int (l6 + (v_X12_within m1 (r1 - (v_X12_heightOf m1 l7)) (-(m1.1 162 7)) (m1.1 162 7)))), (7, .int l7), (8, .int (v_X12_within m1 (r1 - (v_X12_heightOf m1 l7)) (-(m1.1 162 7)) (m1.1 162 7)))]) dX12_lives_182 (Nat.le_of_ble_eq_true rfl) rfl ?_
          refine g_iinc (pc := 184) (x := l5) (v := (l5 + (1 : Int32))) (L' := [(0, .ref 156), (5, .int (l5 + (1 : Int32))), (6, .int (l6 + (v_X12_within m1 (r1 - (v_X12_heightOf m1 l7)) (-(m1.1 162 7)) (m1.1 162 7)))), (7, .int l7), (8, .int (v_X12_within m1 (r1 - (v_X12_heightOf m1 l7)) (-(m1.1 162 7)) (m1.1 162 7)))]) dX12_lives_184 rfl rfl (Nat.le_of_ble_eq_true rfl) rfl ?_
          refine g_iinc (pc := 187) (x := l7) (v := (l7 + (1 : Int32))) (L' := [(0, .ref 156), (5, .int (l5 + (1 : Int32))), (6, .int (l6 + (v_X12_within m1 (r1 - (v_X12_heightOf m1 l7)) (-(m1.1 162 7)) (m1.1 162 7)))), (7, .int (l7 + (1 : Int32))), (8, .int (v_X12_within m1 (r1 - (v_X12_heightOf m1 l7)) (-(m1.1 162 7)) (m1.1 162 7)))]) dX12_lives_187 rfl rfl (Nat.le_of_ble_eq_true rfl) rfl ?_
          refine g_goto (pc := 190) (tgt := 87) dX12_lives_190 (by decide) ?_
          refine g_sub (L' := [(0, .ref 156), (5, .int (l5 + (1 : Int32))), (6, .int (l6 + (v_X12_within m1 (r1 - (v_X12_heightOf m1 l7)) (-(m1.1 162 7)) (m1.1 162 7)))), (7, .int (l7 + (1 : Int32)))]) [0, 1, 2, 3] rfl ?_
          exact h
        · have h := h.2 c170
          refine g_iload (pc := 173) (x := (v_X12_within m1 (r1 - (v_X12_heightOf m1 l7)) (-(m1.1 162 7)) (m1.1 162 7))) dX12_lives_173 rfl ?_
          refine g_ineg (pc := 175) dX12_lives_175 ?_
          refine g_goto (pc := 176) (tgt := 181) dX12_lives_176 (by decide) ?_
          refine g_iadd (pc := 181) dX12_lives_181 ?_
          refine g_istore (pc := 182) (L' := [(0, .ref 156), (5, .int l5), (6, .int (l6 + (-(v_X12_within m1 (r1 - (v_X12_heightOf m1 l7)) (-(m1.1 162 7)) (m1.1 162 7))))), (7, .int l7), (8, .int (v_X12_within m1 (r1 - (v_X12_heightOf m1 l7)) (-(m1.1 162 7)) (m1.1 162 7)))]) dX12_lives_182 (Nat.le_of_ble_eq_true rfl) rfl ?_
          refine g_iinc (pc := 184) (x := l5) (v := (l5 + (1 : Int32))) (L' := [(0, .ref 156), (5, .int (l5 + (1 : Int32))), (6, .int (l6 + (-(v_X12_within m1 (r1 - (v_X12_heightOf m1 l7)) (-(m1.1 162 7)) (m1.1 162 7))))), (7, .int l7), (8, .int (v_X12_within m1 (r1 - (v_X12_heightOf m1 l7)) (-(m1.1 162 7)) (m1.1 162 7)))]) dX12_lives_184 rfl rfl (Nat.le_of_ble_eq_true rfl) rfl ?_
          refine g_iinc (pc := 187) (x := l7) (v := (l7 + (1 : Int32))) (L' := [(0, .ref 156), (5, .int (l5 + (1 : Int32))), (6, .int (l6 + (-(v_X12_within m1 (r1 - (v_X12_heightOf m1 l7)) (-(m1.1 162 7)) (m1.1 162 7))))), (7, .int (l7 + (1 : Int32))), (8, .int (v_X12_within m1 (r1 - (v_X12_heightOf m1 l7)) (-(m1.1 162 7)) (m1.1 162 7)))]) dX12_lives_187 rfl rfl (Nat.le_of_ble_eq_true rfl) rfl ?_
          refine g_goto (pc := 190) (tgt := 87) dX12_lives_190 (by decide) ?_
          refine g_sub (L' := [(0, .ref 156), (5, .int (l5 + (1 : Int32))), (6, .int (l6 + (-(v_X12_within m1 (r1 - (v_X12_heightOf m1 l7)) (-(m1.1 162 7)) (m1.1 162 7))))), (7, .int (l7 + (1 : Int32)))]) [0, 1, 2, 3] rfl ?_
          exact h
      · have h := h.2 c145
        refine g_goto (pc := 148) (tgt := 187) dX12_lives_148 (by decide) ?_
        refine g_iinc (pc := 187) (x := l7) (v := (l7 + (1 : Int32))) (L' := [(0, .ref 156), (5, .int l5), (6, .int l6), (7, .int (l7 + (1 : Int32))), (8, .int (v_X12_within m1 (r1 - (v_X12_heightOf m1 l7)) (-(m1.1 162 7)) (m1.1 162 7)))]) dX12_lives_187 rfl rfl (Nat.le_of_ble_eq_true rfl) rfl ?_
        refine g_goto (pc := 190) (tgt := 87) dX12_lives_190 (by decide) ?_
        refine g_sub (L' := [(0, .ref 156), (5, .int l5), (6, .int l6), (7, .int (l7 + (1 : Int32)))]) [0, 1, 2, 3] rfl ?_
        exact h
theorem dX12_years_0 : decode cX12_years 0 = .ok (.iload_n 2, 1) := by decide +kernel
theorem dX12_years_1 : decode cX12_years 1 = .ok (.iconst 1, 1) := by decide +kernel
theorem dX12_years_2 : decode cX12_years 2 = .ok (.bipush 40, 2) := by decide +kernel
theorem dX12_years_4 : decode cX12_years 4 = .ok (.invokestatic 392, 3) := by decide +kernel
theorem dX12_years_7 : decode cX12_years 7 = .ok (.ifCond .ne 5, 3) := by decide +kernel
theorem dX12_years_10 : decode cX12_years 10 = .ok (.iconst (-1), 1) := by decide +kernel
theorem dX12_years_11 : decode cX12_years 11 = .ok (.ireturn, 1) := by decide +kernel
theorem dX12_years_12 : decode cX12_years 12 = .ok (.aload_n 0, 1) := by decide +kernel
theorem dX12_years_13 : decode cX12_years 13 = .ok (.iconst 0, 1) := by decide +kernel
theorem dX12_years_14 : decode cX12_years 14 = .ok (.putfield 283, 3) := by decide +kernel
theorem dX12_years_17 : decode cX12_years 17 = .ok (.aload_n 0, 1) := by decide +kernel
theorem dX12_years_18 : decode cX12_years 18 = .ok (.getfield 30, 3) := by decide +kernel
theorem dX12_years_21 : decode cX12_years 21 = .ok (.iconst 0, 1) := by decide +kernel
theorem dX12_years_22 : decode cX12_years 22 = .ok (.iaload, 1) := by decide +kernel
theorem dX12_years_23 : decode cX12_years 23 = .ok (.ifCond .eq 12, 3) := by decide +kernel
theorem dX12_years_26 : decode cX12_years 26 = .ok (.aload_n 0, 1) := by decide +kernel
theorem dX12_years_27 : decode cX12_years 27 = .ok (.getfield 30, 3) := by decide +kernel
theorem dX12_years_30 : decode cX12_years 30 = .ok (.iconst 1, 1) := by decide +kernel
theorem dX12_years_31 : decode cX12_years 31 = .ok (.iaload, 1) := by decide +kernel
theorem dX12_years_32 : decode cX12_years 32 = .ok (.ifCond .ne 5, 3) := by decide +kernel
theorem dX12_years_35 : decode cX12_years 35 = .ok (.iconst 0, 1) := by decide +kernel
theorem dX12_years_36 : decode cX12_years 36 = .ok (.ireturn, 1) := by decide +kernel
theorem dX12_years_37 : decode cX12_years 37 = .ok (.iconst 0, 1) := by decide +kernel
theorem dX12_years_38 : decode cX12_years 38 = .ok (.istore_n 3, 1) := by decide +kernel
theorem dX12_years_39 : decode cX12_years 39 = .ok (.iconst 0, 1) := by decide +kernel
theorem dX12_years_40 : decode cX12_years 40 = .ok (.istore 4, 2) := by decide +kernel
theorem dX12_years_42 : decode cX12_years 42 = .ok (.iload 4, 2) := by decide +kernel
theorem dX12_years_44 : decode cX12_years 44 = .ok (.iload_n 2, 1) := by decide +kernel
theorem dX12_years_45 : decode cX12_years 45 = .ok (.if_icmp .ge 19, 3) := by decide +kernel
theorem dX12_years_48 : decode cX12_years 48 = .ok (.iload_n 3, 1) := by decide +kernel
theorem dX12_years_49 : decode cX12_years 49 = .ok (.aload_n 0, 1) := by decide +kernel
theorem dX12_years_50 : decode cX12_years 50 = .ok (.iload_n 1, 1) := by decide +kernel
theorem dX12_years_51 : decode cX12_years 51 = .ok (.iload 4, 2) := by decide +kernel
theorem dX12_years_53 : decode cX12_years 53 = .ok (.invokevirtual 539, 3) := by decide +kernel
theorem dX12_years_56 : decode cX12_years 56 = .ok (.iadd, 1) := by decide +kernel
theorem dX12_years_57 : decode cX12_years 57 = .ok (.istore_n 3, 1) := by decide +kernel
theorem dX12_years_58 : decode cX12_years 58 = .ok (.iinc 4 1, 3) := by decide +kernel
theorem dX12_years_61 : decode cX12_years 61 = .ok (.goto (-19), 3) := by decide +kernel
theorem dX12_years_64 : decode cX12_years 64 = .ok (.iload_n 3, 1) := by decide +kernel
theorem dX12_years_65 : decode cX12_years 65 = .ok (.ireturn, 1) := by decide +kernel
theorem b_X12_years (mm : MM) (Q : Value → MM → Prop) (a1 : Int32) (a2 : Int32) (h : (p_X12_isIn mm a2 (1 : Int32) (40 : Int32) → ((((wI mm 156 40 (0 : Int32)).1 162 0) = 0 → (Q (.int (0 : Int32)) (wI mm 156 40 (0 : Int32)))) ∧ (¬ ((wI mm 156 40 (0 : Int32)).1 162 0) = 0 → ((¬ ((wI mm 156 40 (0 : Int32)).1 162 1) = 0 → (G e_X12_years 42 [(0, .ref 156), (1, .int a1), (2, .int a2), (3, .int (0 : Int32)), (4, .int (0 : Int32))] [] (wI mm 156 40 (0 : Int32)) Q)) ∧ (((wI mm 156 40 (0 : Int32)).1 162 1) = 0 → (Q (.int (0 : Int32)) (wI mm 156 40 (0 : Int32)))))))) ∧ (¬ p_X12_isIn mm a2 (1 : Int32) (40 : Int32) → (Q (.int (-1 : Int32)) mm))) : Runs e_X12_years [.ref 156, .int a1, .int a2] mm Q := by
  refine runs_of_G (L := [(0, .ref 156), (1, .int a1), (2, .int a2)]) pl_X12 (Nat.le_of_ble_eq_true rfl) rfl ?_
  refine g_iload_n (pc := 0) (x := a2) dX12_years_0 rfl ?_
  refine g_iconst (pc := 1) (v := (1 : Int32)) dX12_years_1 (by decide) ?_
  refine g_bipush (pc := 2) (v := (40 : Int32)) dX12_years_2 (by decide) ?_
  refine g_callS (pc := 4) (as := [.int a2, .int (1 : Int32), .int (40 : Int32)]) dX12_years_4 cw_X12_392 (by decide) rfl rfl (Nat.le_of_ble_eq_true rfl) (rv_X12_isIn mm a2 (1 : Int32) (40 : Int32)) ?_
  rintro r_ m_ hz_ ⟨⟨p_, rfl⟩ | ⟨p_, rfl⟩, rfl⟩
  · have h := h.1 p_
    refine g_if_ne (pc := 7) (tgt := 12) dX12_years_7 (by decide) (fun _ => ?_) (fun c7 => absurd c7 (by decide))
    refine g_aload_n (pc := 12) (x := 156) dX12_years_12 rfl ?_
    refine g_iconst (pc := 13) (v := (0 : Int32)) dX12_years_13 (by decide) ?_
    refine g_putI (pc := 14) dX12_years_14 fo_X12_283 sh_156 rfl rfl rfl ?_
    refine g_aload_n (pc := 17) (x := 156) dX12_years_17 rfl ?_
    refine g_getR (pc := 18) (dd := 6) dX12_years_18 fo_X12_30 sh_156 rfl ?_
    refine g_iconst (pc := 21) (v := (0 : Int32)) dX12_years_21 (by decide) ?_
    refine g_iaload (pc := 22) dX12_years_22 sh_162 (vp_in_nI (n := 0) (N := 420) (by decide) (by decide)) ?_
    refine g_if_eq (pc := 23) (tgt := 35) dX12_years_23 (by decide) (fun c23 => ?_) (fun c23 => ?_)
    · have h := h.1 c23
      refine g_iconst (pc := 35) (v := (0 : Int32)) dX12_years_35 (by decide) ?_
      exact g_iret (pc := 36) dX12_years_36 rfl rfl rfl h
    · have h := h.2 c23
      refine g_aload_n (pc := 26) (x := 156) dX12_years_26 rfl ?_
      refine g_getR (pc := 27) (dd := 6) dX12_years_27 fo_X12_30 sh_156 rfl ?_
      refine g_iconst (pc := 30) (v := (1 : Int32)) dX12_years_30 (by decide) ?_
      refine g_iaload (pc := 31) dX12_years_31 sh_162 (vp_in_nI (n := 1) (N := 420) (by decide) (by decide)) ?_
      refine g_if_ne (pc := 32) (tgt := 37) dX12_years_32 (by decide) (fun c32 => ?_) (fun c32 => ?_)
      · have h := h.1 c32
        refine g_iconst (pc := 37) (v := (0 : Int32)) dX12_years_37 (by decide) ?_
        refine g_istore_n (pc := 38) (L' := [(0, .ref 156), (1, .int a1), (2, .int a2), (3, .int (0 : Int32))]) dX12_years_38 (Nat.le_of_ble_eq_true rfl) rfl ?_
        refine g_iconst (pc := 39) (v := (0 : Int32)) dX12_years_39 (by decide) ?_
        refine g_istore (pc := 40) (L' := [(0, .ref 156), (1, .int a1), (2, .int a2), (3, .int (0 : Int32)), (4, .int (0 : Int32))]) dX12_years_40 (Nat.le_of_ble_eq_true rfl) rfl ?_
        exact h
      · have h := h.2 c32
        refine g_iconst (pc := 35) (v := (0 : Int32)) dX12_years_35 (by decide) ?_
        exact g_iret (pc := 36) dX12_years_36 rfl rfl rfl h
  · have h := h.2 p_
    refine g_if_ne (pc := 7) (tgt := 12) dX12_years_7 (by decide) (fun c7 => absurd c7 (by decide)) (fun _ => ?_)
    refine g_iconst (pc := 10) (v := (-1 : Int32)) dX12_years_10 (by decide) ?_
    exact g_iret (pc := 11) dX12_years_11 rfl rfl rfl h
theorem b_X12_years_42 (mm : MM) (Q : Value → MM → Prop) (l1 : Int32) (l2 : Int32) (l3 : Int32) (l4 : Int32) (h : (l2 ≤ l4 → (Q (.int l3) mm)) ∧ (¬ l2 ≤ l4 → (∃ Pm1 : Value → MM → Prop, Runs e_X12_lives [.ref 156, .int l1, .int l4] mm Pm1 ∧ ∀ (r1 : Int32) (m1 : MM), Pm1 (.int r1) m1 → (G e_X12_years 42 [(0, .ref 156), (1, .int l1), (2, .int l2), (3, .int (l3 + r1)), (4, .int (l4 + (1 : Int32)))] [] m1 Q)))) : G e_X12_years 42 [(0, .ref 156), (1, .int l1), (2, .int l2), (3, .int l3), (4, .int l4)] [] mm Q := by
  refine g_iload (pc := 42) (x := l4) dX12_years_42 rfl ?_
  refine g_iload_n (pc := 44) (x := l2) dX12_years_44 rfl ?_
  refine g_icmp_ge (pc := 45) (tgt := 64) dX12_years_45 (by decide) (fun c45 => ?_) (fun c45 => ?_)
  · have h := h.1 c45
    refine g_iload_n (pc := 64) (x := l3) dX12_years_64 rfl ?_
    exact g_iret (pc := 65) dX12_years_65 rfl rfl rfl h
  · have h := h.2 c45
    refine g_iload_n (pc := 48) (x := l3) dX12_years_48 rfl ?_
    refine g_aload_n (pc := 49) (x := 156) dX12_years_49 rfl ?_
    refine g_iload_n (pc := 50) (x := l1) dX12_years_50 rfl ?_
    refine g_iload (pc := 51) (x := l4) dX12_years_51 rfl ?_
    obtain ⟨Pm1, hRm1, h⟩ := h
    refine g_callV (pc := 53) (as := [.int l1, .int l4]) dX12_years_53 cw_X12_539 (by decide) rfl rfl sh_156 (Nat.le_of_ble_eq_true rfl) hRm1 ?_
    intro r_ m1 hz_ hp_
    obtain ⟨r1, rfl⟩ := hz_
    have h := h r1 m1 hp_
    refine g_iadd (pc := 56) dX12_years_56 ?_
    refine g_istore_n (pc := 57) (L' := [(0, .ref 156), (1, .int l1), (2, .int l2), (3, .int (l3 + r1)), (4, .int l4)]) dX12_years_57 (Nat.le_of_ble_eq_true rfl) rfl ?_
    refine g_iinc (pc := 58) (x := l4) (v := (l4 + (1 : Int32))) (L' := [(0, .ref 156), (1, .int l1), (2, .int l2), (3, .int (l3 + r1)), (4, .int (l4 + (1 : Int32)))]) dX12_years_58 rfl rfl (Nat.le_of_ble_eq_true rfl) rfl ?_
    refine g_goto (pc := 61) (tgt := 42) dX12_years_61 (by decide) ?_
    exact h
theorem dX12_copy_0 : decode cX12_copy 0 = .ok (.iconst 0, 1) := by decide +kernel
theorem dX12_copy_1 : decode cX12_copy 1 = .ok (.istore_n 3, 1) := by decide +kernel
theorem dX12_copy_2 : decode cX12_copy 2 = .ok (.iload_n 3, 1) := by decide +kernel
theorem dX12_copy_3 : decode cX12_copy 3 = .ok (.sipush 420, 3) := by decide +kernel
theorem dX12_copy_6 : decode cX12_copy 6 = .ok (.if_icmp .ge 33, 3) := by decide +kernel
theorem dX12_copy_9 : decode cX12_copy 9 = .ok (.aload_n 0, 1) := by decide +kernel
theorem dX12_copy_10 : decode cX12_copy 10 = .ok (.getfield 33, 3) := by decide +kernel
theorem dX12_copy_13 : decode cX12_copy 13 = .ok (.sipush 420, 3) := by decide +kernel
theorem dX12_copy_16 : decode cX12_copy 16 = .ok (.iload_n 2, 1) := by decide +kernel
theorem dX12_copy_17 : decode cX12_copy 17 = .ok (.imul, 1) := by decide +kernel
theorem dX12_copy_18 : decode cX12_copy 18 = .ok (.iload_n 3, 1) := by decide +kernel
theorem dX12_copy_19 : decode cX12_copy 19 = .ok (.iadd, 1) := by decide +kernel
theorem dX12_copy_20 : decode cX12_copy 20 = .ok (.aload_n 0, 1) := by decide +kernel
theorem dX12_copy_21 : decode cX12_copy 21 = .ok (.getfield 33, 3) := by decide +kernel
theorem dX12_copy_24 : decode cX12_copy 24 = .ok (.sipush 420, 3) := by decide +kernel
theorem dX12_copy_27 : decode cX12_copy 27 = .ok (.iload_n 1, 1) := by decide +kernel
theorem dX12_copy_28 : decode cX12_copy 28 = .ok (.imul, 1) := by decide +kernel
theorem dX12_copy_29 : decode cX12_copy 29 = .ok (.iload_n 3, 1) := by decide +kernel
theorem dX12_copy_30 : decode cX12_copy 30 = .ok (.iadd, 1) := by decide +kernel
theorem dX12_copy_31 : decode cX12_copy 31 = .ok (.iaload, 1) := by decide +kernel
theorem dX12_copy_32 : decode cX12_copy 32 = .ok (.iastore, 1) := by decide +kernel
theorem dX12_copy_33 : decode cX12_copy 33 = .ok (.iinc 3 1, 3) := by decide +kernel
theorem dX12_copy_36 : decode cX12_copy 36 = .ok (.goto (-34), 3) := by decide +kernel
theorem dX12_copy_39 : decode cX12_copy 39 = .ok (.return_, 1) := by decide +kernel
theorem b_X12_copy (mm : MM) (Q : Value → MM → Prop) (a1 : Int32) (a2 : Int32) (h : G e_X12_copy 2 [(0, .ref 156), (1, .int a1), (2, .int a2), (3, .int (0 : Int32))] [] mm Q) : Runs e_X12_copy [.ref 156, .int a1, .int a2] mm Q := by
  refine runs_of_G (L := [(0, .ref 156), (1, .int a1), (2, .int a2)]) pl_X12 (Nat.le_of_ble_eq_true rfl) rfl ?_
  refine g_iconst (pc := 0) (v := (0 : Int32)) dX12_copy_0 (by decide) ?_
  refine g_istore_n (pc := 1) (L' := [(0, .ref 156), (1, .int a1), (2, .int a2), (3, .int (0 : Int32))]) dX12_copy_1 (Nat.le_of_ble_eq_true rfl) rfl ?_
  exact h
theorem b_X12_copy_2 (mm : MM) (Q : Value → MM → Prop) (l1 : Int32) (l2 : Int32) (l3 : Int32) (h : ((420 : Int32) ≤ l3 → (Q .null mm)) ∧ (¬ (420 : Int32) ≤ l3 → (vp_in (((420 : Int32) * l1) + l3) 1260 ∧ (vp_in (((420 : Int32) * l2) + l3) 1260 ∧ (G e_X12_copy 2 [(0, .ref 156), (1, .int l1), (2, .int l2), (3, .int (l3 + (1 : Int32)))] [] (wI mm 163 ((((420 : Int32) * l2) + l3).toNatClampNeg) (mm.1 163 (((420 : Int32) * l1) + l3).toNatClampNeg)) Q))))) : G e_X12_copy 2 [(0, .ref 156), (1, .int l1), (2, .int l2), (3, .int l3)] [] mm Q := by
  refine g_iload_n (pc := 2) (x := l3) dX12_copy_2 rfl ?_
  refine g_sipush (pc := 3) (v := (420 : Int32)) dX12_copy_3 (by decide) ?_
  refine g_icmp_ge (pc := 6) (tgt := 39) dX12_copy_6 (by decide) (fun c6 => ?_) (fun c6 => ?_)
  · have h := h.1 c6
    exact g_vret (pc := 39) dX12_copy_39 rfl rfl h
  · have h := h.2 c6
    refine g_aload_n (pc := 9) (x := 156) dX12_copy_9 rfl ?_
    refine g_getR (pc := 10) (dd := 7) dX12_copy_10 fo_X12_33 sh_156 rfl ?_
    refine g_sipush (pc := 13) (v := (420 : Int32)) dX12_copy_13 (by decide) ?_
    refine g_iload_n (pc := 16) (x := l2) dX12_copy_16 rfl ?_
    refine g_imul (pc := 17) dX12_copy_17 ?_
    refine g_iload_n (pc := 18) (x := l3) dX12_copy_18 rfl ?_
    refine g_iadd (pc := 19) dX12_copy_19 ?_
    refine g_aload_n (pc := 20) (x := 156) dX12_copy_20 rfl ?_
    refine g_getR (pc := 21) (dd := 7) dX12_copy_21 fo_X12_33 sh_156 rfl ?_
    refine g_sipush (pc := 24) (v := (420 : Int32)) dX12_copy_24 (by decide) ?_
    refine g_iload_n (pc := 27) (x := l1) dX12_copy_27 rfl ?_
    refine g_imul (pc := 28) dX12_copy_28 ?_
    refine g_iload_n (pc := 29) (x := l3) dX12_copy_29 rfl ?_
    refine g_iadd (pc := 30) dX12_copy_30 ?_
    refine g_iaload (pc := 31) dX12_copy_31 sh_163 h.1 ?_
    have h := h.2
    refine g_iastore (pc := 32) dX12_copy_32 sh_163 h.1 ?_
    have h := h.2
    refine g_iinc (pc := 33) (x := l3) (v := (l3 + (1 : Int32))) (L' := [(0, .ref 156), (1, .int l1), (2, .int l2), (3, .int (l3 + (1 : Int32)))]) dX12_copy_33 rfl rfl (Nat.le_of_ble_eq_true rfl) rfl ?_
    refine g_goto (pc := 36) (tgt := 2) dX12_copy_36 (by decide) ?_
    exact h
theorem dX12_hold_0 : decode cX12_hold 0 = .ok (.iload_n 1, 1) := by decide +kernel
theorem dX12_hold_1 : decode cX12_hold 1 = .ok (.ifCond .lt 8, 3) := by decide +kernel
theorem dX12_hold_4 : decode cX12_hold 4 = .ok (.iload_n 1, 1) := by decide +kernel
theorem dX12_hold_5 : decode cX12_hold 5 = .ok (.iconst 1, 1) := by decide +kernel
theorem dX12_hold_6 : decode cX12_hold 6 = .ok (.if_icmp .le 5, 3) := by decide +kernel
theorem dX12_hold_9 : decode cX12_hold 9 = .ok (.iconst 0, 1) := by decide +kernel
theorem dX12_hold_10 : decode cX12_hold 10 = .ok (.ireturn, 1) := by decide +kernel
theorem dX12_hold_11 : decode cX12_hold 11 = .ok (.aload_n 0, 1) := by decide +kernel
theorem dX12_hold_12 : decode cX12_hold 12 = .ok (.iconst 0, 1) := by decide +kernel
theorem dX12_hold_13 : decode cX12_hold 13 = .ok (.iconst 1, 1) := by decide +kernel
theorem dX12_hold_14 : decode cX12_hold 14 = .ok (.iload_n 1, 1) := by decide +kernel
theorem dX12_hold_15 : decode cX12_hold 15 = .ok (.iadd, 1) := by decide +kernel
theorem dX12_hold_16 : decode cX12_hold 16 = .ok (.invokevirtual 542, 3) := by decide +kernel
theorem dX12_hold_19 : decode cX12_hold 19 = .ok (.aload_n 0, 1) := by decide +kernel
theorem dX12_hold_20 : decode cX12_hold 20 = .ok (.getfield 67, 3) := by decide +kernel
theorem dX12_hold_23 : decode cX12_hold 23 = .ok (.iconst 1, 1) := by decide +kernel
theorem dX12_hold_24 : decode cX12_hold 24 = .ok (.iload_n 1, 1) := by decide +kernel
theorem dX12_hold_25 : decode cX12_hold 25 = .ok (.iadd, 1) := by decide +kernel
theorem dX12_hold_26 : decode cX12_hold 26 = .ok (.iconst 1, 1) := by decide +kernel
theorem dX12_hold_27 : decode cX12_hold 27 = .ok (.bastore, 1) := by decide +kernel
theorem dX12_hold_28 : decode cX12_hold 28 = .ok (.iconst 1, 1) := by decide +kernel
theorem dX12_hold_29 : decode cX12_hold 29 = .ok (.ireturn, 1) := by decide +kernel
theorem b_X12_hold (mm : MM) (Q : Value → MM → Prop) (a1 : Int32) (h : (a1 < 0 → (Q (.int (0 : Int32)) mm)) ∧ (¬ a1 < 0 → ((a1 ≤ (1 : Int32) → (∃ Pm1 : Value → MM → Prop, Runs e_X12_copy [.ref 156, .int (0 : Int32), .int ((1 : Int32) + a1)] mm Pm1 ∧ ∀ m1, Pm1 .null m1 → (vp_in ((1 : Int32) + a1) 3 ∧ (Q (.int (1 : Int32)) (wI m1 174 (((1 : Int32) + a1).toNatClampNeg) (vp_nar .boolean (1 : Int32))))))) ∧ (¬ a1 ≤ (1 : Int32) → (Q (.int (0 : Int32)) mm))))) : Runs e_X12_hold [.ref 156, .int a1] mm Q := by
  refine runs_of_G (L := [(0, .ref 156), (1, .int a1)]) pl_X12 (Nat.le_of_ble_eq_true rfl) rfl ?_
  refine g_iload_n (pc := 0) (x := a1) dX12_hold_0 rfl ?_
  refine g_if_lt (pc := 1) (tgt := 9) dX12_hold_1 (by decide) (fun c1 => ?_) (fun c1 => ?_)
  · have h := h.1 c1
    refine g_iconst (pc := 9) (v := (0 : Int32)) dX12_hold_9 (by decide) ?_
    exact g_iret (pc := 10) dX12_hold_10 rfl rfl (nar_B isB0) h
  · have h := h.2 c1
    refine g_iload_n (pc := 4) (x := a1) dX12_hold_4 rfl ?_
    refine g_iconst (pc := 5) (v := (1 : Int32)) dX12_hold_5 (by decide) ?_
    refine g_icmp_le (pc := 6) (tgt := 11) dX12_hold_6 (by decide) (fun c6 => ?_) (fun c6 => ?_)
    · have h := h.1 c6
      refine g_aload_n (pc := 11) (x := 156) dX12_hold_11 rfl ?_
      refine g_iconst (pc := 12) (v := (0 : Int32)) dX12_hold_12 (by decide) ?_
      refine g_iconst (pc := 13) (v := (1 : Int32)) dX12_hold_13 (by decide) ?_
      refine g_iload_n (pc := 14) (x := a1) dX12_hold_14 rfl ?_
      refine g_iadd (pc := 15) dX12_hold_15 ?_
      obtain ⟨Pm1, hRm1, h⟩ := h
      refine g_callV (pc := 16) (as := [.int (0 : Int32), .int ((1 : Int32) + a1)]) dX12_hold_16 cw_X12_542 (by decide) rfl rfl sh_156 (Nat.le_of_ble_eq_true rfl) hRm1 ?_
      intro r_ m1 hz_ hp_
      obtain rfl := hz_
      have h := h m1 hp_
      refine g_aload_n (pc := 19) (x := 156) dX12_hold_19 rfl ?_
      refine g_getR (pc := 20) (dd := 18) dX12_hold_20 fo_X12_67 sh_156 rfl ?_
      refine g_iconst (pc := 23) (v := (1 : Int32)) dX12_hold_23 (by decide) ?_
      refine g_iload_n (pc := 24) (x := a1) dX12_hold_24 rfl ?_
      refine g_iadd (pc := 25) dX12_hold_25 ?_
      refine g_iconst (pc := 26) (v := (1 : Int32)) dX12_hold_26 (by decide) ?_
      refine g_zastore (pc := 27) dX12_hold_27 sh_174 h.1 ?_
      have h := h.2
      refine g_iconst (pc := 28) (v := (1 : Int32)) dX12_hold_28 (by decide) ?_
      exact g_iret (pc := 29) dX12_hold_29 rfl rfl (nar_B isB1) h
    · have h := h.2 c6
      refine g_iconst (pc := 9) (v := (0 : Int32)) dX12_hold_9 (by decide) ?_
      exact g_iret (pc := 10) dX12_hold_10 rfl rfl (nar_B isB0) h
theorem dX12_restore_0 : decode cX12_restore 0 = .ok (.iload_n 1, 1) := by decide +kernel
theorem dX12_restore_1 : decode cX12_restore 1 = .ok (.ifCond .lt 19, 3) := by decide +kernel
theorem dX12_restore_4 : decode cX12_restore 4 = .ok (.iload_n 1, 1) := by decide +kernel
theorem dX12_restore_5 : decode cX12_restore 5 = .ok (.iconst 1, 1) := by decide +kernel
theorem dX12_restore_6 : decode cX12_restore 6 = .ok (.if_icmp .gt 14, 3) := by decide +kernel
theorem dX12_restore_9 : decode cX12_restore 9 = .ok (.aload_n 0, 1) := by decide +kernel
theorem dX12_restore_10 : decode cX12_restore 10 = .ok (.getfield 67, 3) := by decide +kernel
theorem dX12_restore_13 : decode cX12_restore 13 = .ok (.iconst 1, 1) := by decide +kernel
theorem dX12_restore_14 : decode cX12_restore 14 = .ok (.iload_n 1, 1) := by decide +kernel
theorem dX12_restore_15 : decode cX12_restore 15 = .ok (.iadd, 1) := by decide +kernel
theorem dX12_restore_16 : decode cX12_restore 16 = .ok (.baload, 1) := by decide +kernel
theorem dX12_restore_17 : decode cX12_restore 17 = .ok (.ifCond .ne 5, 3) := by decide +kernel
theorem dX12_restore_20 : decode cX12_restore 20 = .ok (.iconst 0, 1) := by decide +kernel
theorem dX12_restore_21 : decode cX12_restore 21 = .ok (.ireturn, 1) := by decide +kernel
theorem dX12_restore_22 : decode cX12_restore 22 = .ok (.aload_n 0, 1) := by decide +kernel
theorem dX12_restore_23 : decode cX12_restore 23 = .ok (.iconst 1, 1) := by decide +kernel
theorem dX12_restore_24 : decode cX12_restore 24 = .ok (.iload_n 1, 1) := by decide +kernel
theorem dX12_restore_25 : decode cX12_restore 25 = .ok (.iadd, 1) := by decide +kernel
theorem dX12_restore_26 : decode cX12_restore 26 = .ok (.iconst 0, 1) := by decide +kernel
theorem dX12_restore_27 : decode cX12_restore 27 = .ok (.invokevirtual 542, 3) := by decide +kernel
theorem dX12_restore_30 : decode cX12_restore 30 = .ok (.aload_n 0, 1) := by decide +kernel
theorem dX12_restore_31 : decode cX12_restore 31 = .ok (.iconst 0, 1) := by decide +kernel
theorem dX12_restore_32 : decode cX12_restore 32 = .ok (.putfield 283, 3) := by decide +kernel
theorem dX12_restore_35 : decode cX12_restore 35 = .ok (.iconst 1, 1) := by decide +kernel
theorem dX12_restore_36 : decode cX12_restore 36 = .ok (.ireturn, 1) := by decide +kernel
theorem b_X12_restore (mm : MM) (Q : Value → MM → Prop) (a1 : Int32) (h : (a1 < 0 → (Q (.int (0 : Int32)) mm)) ∧ (¬ a1 < 0 → (((1 : Int32) < a1 → (Q (.int (0 : Int32)) mm)) ∧ (¬ (1 : Int32) < a1 → (vp_in ((1 : Int32) + a1) 3 ∧ ((¬ (mm.1 174 ((1 : Int32) + a1).toNatClampNeg) = 0 → (∃ Pm1 : Value → MM → Prop, Runs e_X12_copy [.ref 156, .int ((1 : Int32) + a1), .int (0 : Int32)] mm Pm1 ∧ ∀ m1, Pm1 .null m1 → (Q (.int (1 : Int32)) (wI m1 156 40 (0 : Int32))))) ∧ ((mm.1 174 ((1 : Int32) + a1).toNatClampNeg) = 0 → (Q (.int (0 : Int32)) mm)))))))) : Runs e_X12_restore [.ref 156, .int a1] mm Q := by
  refine runs_of_G (L := [(0, .ref 156), (1, .int a1)]) pl_X12 (Nat.le_of_ble_eq_true rfl) rfl ?_
  refine g_iload_n (pc := 0) (x := a1) dX12_restore_0 rfl ?_
  refine g_if_lt (pc := 1) (tgt := 20) dX12_restore_1 (by decide) (fun c1 => ?_) (fun c1 => ?_)
  · have h := h.1 c1
    refine g_iconst (pc := 20) (v := (0 : Int32)) dX12_restore_20 (by decide) ?_
    exact g_iret (pc := 21) dX12_restore_21 rfl rfl (nar_B isB0) h
  · have h := h.2 c1
    refine g_iload_n (pc := 4) (x := a1) dX12_restore_4 rfl ?_
    refine g_iconst (pc := 5) (v := (1 : Int32)) dX12_restore_5 (by decide) ?_
    refine g_icmp_gt (pc := 6) (tgt := 20) dX12_restore_6 (by decide) (fun c6 => ?_) (fun c6 => ?_)
    · have h := h.1 c6
      refine g_iconst (pc := 20) (v := (0 : Int32)) dX12_restore_20 (by decide) ?_
      exact g_iret (pc := 21) dX12_restore_21 rfl rfl (nar_B isB0) h
    · have h := h.2 c6
      refine g_aload_n (pc := 9) (x := 156) dX12_restore_9 rfl ?_
      refine g_getR (pc := 10) (dd := 18) dX12_restore_10 fo_X12_67 sh_156 rfl ?_
      refine g_iconst (pc := 13) (v := (1 : Int32)) dX12_restore_13 (by decide) ?_
      refine g_iload_n (pc := 14) (x := a1) dX12_restore_14 rfl ?_
      refine g_iadd (pc := 15) dX12_restore_15 ?_
      refine g_zaload (pc := 16) dX12_restore_16 sh_174 h.1 ?_
      have h := h.2
      refine g_if_ne (pc := 17) (tgt := 22) dX12_restore_17 (by decide) (fun c17 => ?_) (fun c17 => ?_)
      · have h := h.1 c17
        refine g_aload_n (pc := 22) (x := 156) dX12_restore_22 rfl ?_
        refine g_iconst (pc := 23) (v := (1 : Int32)) dX12_restore_23 (by decide) ?_
        refine g_iload_n (pc := 24) (x := a1) dX12_restore_24 rfl ?_
        refine g_iadd (pc := 25) dX12_restore_25 ?_
        refine g_iconst (pc := 26) (v := (0 : Int32)) dX12_restore_26 (by decide) ?_
        obtain ⟨Pm1, hRm1, h⟩ := h
        refine g_callV (pc := 27) (as := [.int ((1 : Int32) + a1), .int (0 : Int32)]) dX12_restore_27 cw_X12_542 (by decide) rfl rfl sh_156 (Nat.le_of_ble_eq_true rfl) hRm1 ?_
        intro r_ m1 hz_ hp_
        obtain rfl := hz_
        have h := h m1 hp_
        refine g_aload_n (pc := 30) (x := 156) dX12_restore_30 rfl ?_
        refine g_iconst (pc := 31) (v := (0 : Int32)) dX12_restore_31 (by decide) ?_
        refine g_putI (pc := 32) dX12_restore_32 fo_X12_283 sh_156 rfl rfl rfl ?_
        refine g_iconst (pc := 35) (v := (1 : Int32)) dX12_restore_35 (by decide) ?_
        exact g_iret (pc := 36) dX12_restore_36 rfl rfl (nar_B isB1) h
      · have h := h.2 c17
        refine g_iconst (pc := 20) (v := (0 : Int32)) dX12_restore_20 (by decide) ?_
        exact g_iret (pc := 21) dX12_restore_21 rfl rfl (nar_B isB0) h
theorem dX12_count_0 : decode cX12_count 0 = .ok (.iload_n 1, 1) := by decide +kernel
theorem dX12_count_1 : decode cX12_count 1 = .ok (.tableswitch 212 0 15 #[79, 86, 93, 100, 107, 114, 122, 130, 137, 144, 151, 156, 161, 191, 196, 204], 79) := by decide +kernel
theorem dX12_count_80 : decode cX12_count 80 = .ok (.aload_n 0, 1) := by decide +kernel
theorem dX12_count_81 : decode cX12_count 81 = .ok (.getfield 30, 3) := by decide +kernel
theorem dX12_count_84 : decode cX12_count 84 = .ok (.iconst 0, 1) := by decide +kernel
theorem dX12_count_85 : decode cX12_count 85 = .ok (.iaload, 1) := by decide +kernel
theorem dX12_count_86 : decode cX12_count 86 = .ok (.ireturn, 1) := by decide +kernel
theorem dX12_count_87 : decode cX12_count 87 = .ok (.aload_n 0, 1) := by decide +kernel
theorem dX12_count_88 : decode cX12_count 88 = .ok (.getfield 30, 3) := by decide +kernel
theorem dX12_count_91 : decode cX12_count 91 = .ok (.iconst 1, 1) := by decide +kernel
theorem dX12_count_92 : decode cX12_count 92 = .ok (.iaload, 1) := by decide +kernel
theorem dX12_count_93 : decode cX12_count 93 = .ok (.ireturn, 1) := by decide +kernel
theorem dX12_count_94 : decode cX12_count 94 = .ok (.aload_n 0, 1) := by decide +kernel
theorem dX12_count_95 : decode cX12_count 95 = .ok (.getfield 30, 3) := by decide +kernel
theorem dX12_count_98 : decode cX12_count 98 = .ok (.iconst 3, 1) := by decide +kernel
theorem dX12_count_99 : decode cX12_count 99 = .ok (.iaload, 1) := by decide +kernel
theorem dX12_count_100 : decode cX12_count 100 = .ok (.ireturn, 1) := by decide +kernel
theorem dX12_count_101 : decode cX12_count 101 = .ok (.aload_n 0, 1) := by decide +kernel
theorem dX12_count_102 : decode cX12_count 102 = .ok (.getfield 30, 3) := by decide +kernel
theorem dX12_count_105 : decode cX12_count 105 = .ok (.iconst 4, 1) := by decide +kernel
theorem dX12_count_106 : decode cX12_count 106 = .ok (.iaload, 1) := by decide +kernel
theorem dX12_count_107 : decode cX12_count 107 = .ok (.ireturn, 1) := by decide +kernel
theorem dX12_count_108 : decode cX12_count 108 = .ok (.aload_n 0, 1) := by decide +kernel
theorem dX12_count_109 : decode cX12_count 109 = .ok (.getfield 30, 3) := by decide +kernel
theorem dX12_count_112 : decode cX12_count 112 = .ok (.iconst 5, 1) := by decide +kernel
theorem dX12_count_113 : decode cX12_count 113 = .ok (.iaload, 1) := by decide +kernel
theorem dX12_count_114 : decode cX12_count 114 = .ok (.ireturn, 1) := by decide +kernel
theorem dX12_count_115 : decode cX12_count 115 = .ok (.aload_n 0, 1) := by decide +kernel
theorem dX12_count_116 : decode cX12_count 116 = .ok (.getfield 30, 3) := by decide +kernel
theorem dX12_count_119 : decode cX12_count 119 = .ok (.bipush 6, 2) := by decide +kernel
theorem dX12_count_121 : decode cX12_count 121 = .ok (.iaload, 1) := by decide +kernel
theorem dX12_count_122 : decode cX12_count 122 = .ok (.ireturn, 1) := by decide +kernel
theorem dX12_count_123 : decode cX12_count 123 = .ok (.aload_n 0, 1) := by decide +kernel
theorem dX12_count_124 : decode cX12_count 124 = .ok (.getfield 30, 3) := by decide +kernel
theorem dX12_count_127 : decode cX12_count 127 = .ok (.bipush 7, 2) := by decide +kernel
theorem dX12_count_129 : decode cX12_count 129 = .ok (.iaload, 1) := by decide +kernel
theorem dX12_count_130 : decode cX12_count 130 = .ok (.ireturn, 1) := by decide +kernel
theorem dX12_count_131 : decode cX12_count 131 = .ok (.aload_n 0, 1) := by decide +kernel
theorem dX12_count_132 : decode cX12_count 132 = .ok (.getfield 33, 3) := by decide +kernel
theorem dX12_count_135 : decode cX12_count 135 = .ok (.iconst 1, 1) := by decide +kernel
theorem dX12_count_136 : decode cX12_count 136 = .ok (.iaload, 1) := by decide +kernel
theorem dX12_count_137 : decode cX12_count 137 = .ok (.ireturn, 1) := by decide +kernel
theorem dX12_count_138 : decode cX12_count 138 = .ok (.aload_n 0, 1) := by decide +kernel
theorem dX12_count_139 : decode cX12_count 139 = .ok (.getfield 33, 3) := by decide +kernel
theorem dX12_count_142 : decode cX12_count 142 = .ok (.iconst 2, 1) := by decide +kernel
theorem dX12_count_143 : decode cX12_count 143 = .ok (.iaload, 1) := by decide +kernel
theorem dX12_count_144 : decode cX12_count 144 = .ok (.ireturn, 1) := by decide +kernel
theorem dX12_count_145 : decode cX12_count 145 = .ok (.aload_n 0, 1) := by decide +kernel
theorem dX12_count_146 : decode cX12_count 146 = .ok (.getfield 33, 3) := by decide +kernel
theorem dX12_count_149 : decode cX12_count 149 = .ok (.iconst 0, 1) := by decide +kernel
theorem dX12_count_150 : decode cX12_count 150 = .ok (.iaload, 1) := by decide +kernel
theorem dX12_count_151 : decode cX12_count 151 = .ok (.ireturn, 1) := by decide +kernel
theorem dX12_count_152 : decode cX12_count 152 = .ok (.aload_n 0, 1) := by decide +kernel
theorem dX12_count_153 : decode cX12_count 153 = .ok (.getfield 283, 3) := by decide +kernel
theorem dX12_count_156 : decode cX12_count 156 = .ok (.ireturn, 1) := by decide +kernel
theorem dX12_count_157 : decode cX12_count 157 = .ok (.aload_n 0, 1) := by decide +kernel
theorem dX12_count_158 : decode cX12_count 158 = .ok (.getfield 125, 3) := by decide +kernel
theorem dX12_count_161 : decode cX12_count 161 = .ok (.ireturn, 1) := by decide +kernel
theorem dX12_count_162 : decode cX12_count 162 = .ok (.aload_n 0, 1) := by decide +kernel
theorem dX12_count_163 : decode cX12_count 163 = .ok (.getfield 67, 3) := by decide +kernel
theorem dX12_count_166 : decode cX12_count 166 = .ok (.iconst 1, 1) := by decide +kernel
theorem dX12_count_167 : decode cX12_count 167 = .ok (.baload, 1) := by decide +kernel
theorem dX12_count_168 : decode cX12_count 168 = .ok (.ifCond .eq 7, 3) := by decide +kernel
theorem dX12_count_171 : decode cX12_count 171 = .ok (.iconst 1, 1) := by decide +kernel
theorem dX12_count_172 : decode cX12_count 172 = .ok (.goto 4, 3) := by decide +kernel
theorem dX12_count_175 : decode cX12_count 175 = .ok (.iconst 0, 1) := by decide +kernel
theorem dX12_count_176 : decode cX12_count 176 = .ok (.aload_n 0, 1) := by decide +kernel
theorem dX12_count_177 : decode cX12_count 177 = .ok (.getfield 67, 3) := by decide +kernel
theorem dX12_count_180 : decode cX12_count 180 = .ok (.iconst 2, 1) := by decide +kernel
theorem dX12_count_181 : decode cX12_count 181 = .ok (.baload, 1) := by decide +kernel
theorem dX12_count_182 : decode cX12_count 182 = .ok (.ifCond .eq 7, 3) := by decide +kernel
theorem dX12_count_185 : decode cX12_count 185 = .ok (.iconst 1, 1) := by decide +kernel
theorem dX12_count_186 : decode cX12_count 186 = .ok (.goto 4, 3) := by decide +kernel
theorem dX12_count_189 : decode cX12_count 189 = .ok (.iconst 0, 1) := by decide +kernel
theorem dX12_count_190 : decode cX12_count 190 = .ok (.iadd, 1) := by decide +kernel
theorem dX12_count_191 : decode cX12_count 191 = .ok (.ireturn, 1) := by decide +kernel
theorem dX12_count_192 : decode cX12_count 192 = .ok (.aload_n 0, 1) := by decide +kernel
theorem dX12_count_193 : decode cX12_count 193 = .ok (.getfield 280, 3) := by decide +kernel
theorem dX12_count_196 : decode cX12_count 196 = .ok (.ireturn, 1) := by decide +kernel
theorem dX12_count_197 : decode cX12_count 197 = .ok (.aload_n 0, 1) := by decide +kernel
theorem dX12_count_198 : decode cX12_count 198 = .ok (.getfield 30, 3) := by decide +kernel
theorem dX12_count_201 : decode cX12_count 201 = .ok (.bipush 8, 2) := by decide +kernel
theorem dX12_count_203 : decode cX12_count 203 = .ok (.iaload, 1) := by decide +kernel
theorem dX12_count_204 : decode cX12_count 204 = .ok (.ireturn, 1) := by decide +kernel
theorem dX12_count_205 : decode cX12_count 205 = .ok (.aload_n 0, 1) := by decide +kernel
theorem dX12_count_206 : decode cX12_count 206 = .ok (.getfield 30, 3) := by decide +kernel
theorem dX12_count_209 : decode cX12_count 209 = .ok (.bipush 9, 2) := by decide +kernel
theorem dX12_count_211 : decode cX12_count 211 = .ok (.iaload, 1) := by decide +kernel
theorem dX12_count_212 : decode cX12_count 212 = .ok (.ireturn, 1) := by decide +kernel
theorem dX12_count_213 : decode cX12_count 213 = .ok (.iconst (-1), 1) := by decide +kernel
theorem dX12_count_214 : decode cX12_count 214 = .ok (.ireturn, 1) := by decide +kernel
noncomputable def v_X12_count (mm : MM) (a1 : Int32) : Int32 := (cite (a1 = (0 : Int32)) (mm.1 162 0) (cite (a1 = (1 : Int32)) (mm.1 162 1) (cite (a1 = (2 : Int32)) (mm.1 162 3) (cite (a1 = (3 : Int32)) (mm.1 162 4) (cite (a1 = (4 : Int32)) (mm.1 162 5) (cite (a1 = (5 : Int32)) (mm.1 162 6) (cite (a1 = (6 : Int32)) (mm.1 162 7) (cite (a1 = (7 : Int32)) (mm.1 163 1) (cite (a1 = (8 : Int32)) (mm.1 163 2) (cite (a1 = (9 : Int32)) (mm.1 163 0) (cite (a1 = (10 : Int32)) (mm.1 156 40) (cite (a1 = (11 : Int32)) (mm.1 156 0) (cite (a1 = (12 : Int32)) (cite ((mm.1 174 1) = 0) (cite ((mm.1 174 2) = 0) ((0 : Int32) + (0 : Int32)) ((0 : Int32) + (1 : Int32))) (cite ((mm.1 174 2) = 0) ((1 : Int32) + (0 : Int32)) ((1 : Int32) + (1 : Int32)))) (cite (a1 = (13 : Int32)) (mm.1 156 50) (cite (a1 = (14 : Int32)) (mm.1 162 8) (cite (a1 = (15 : Int32)) (mm.1 162 9) (-1 : Int32)))))))))))))))))
theorem rv_X12_count (mm : MM) (a1 : Int32) : Runs e_X12_count [.ref 156, .int a1] mm (fun r m_ => r = .int (v_X12_count mm a1) ∧ mm = m_) := by
  refine runs_of_G (L := [(0, .ref 156), (1, .int a1)]) pl_X12 (Nat.le_of_ble_eq_true rfl) rfl ?_
  refine g_iload_n (pc := 0) (x := a1) dX12_count_0 rfl ?_
  by_cases c1_0 : a1 = (0 : Int32)
  · have c1_0_0 : a1 = (0 : Int32) := c1_0
    refine g_tsIn (pc := 1) (off := 79) (tgt := 80) dX12_count_1 (by rw [c1_0]; decide) (by rw [c1_0]; decide) (by rw [c1_0]; rfl) (by decide) ?_
    refine g_aload_n (pc := 80) (x := 156) dX12_count_80 rfl ?_
    refine g_getR (pc := 81) (dd := 6) dX12_count_81 fo_X12_30 sh_156 rfl ?_
    refine g_iconst (pc := 84) (v := (0 : Int32)) dX12_count_84 (by decide) ?_
    refine g_iaload (pc := 85) dX12_count_85 sh_162 (vp_in_nI (n := 0) (N := 420) (by decide) (by decide)) ?_
    exact g_iret (pc := 86) dX12_count_86 rfl rfl rfl ⟨(by unfold v_X12_count; rw [cite_pos c1_0_0] <;> rfl), rfl⟩
  · have c1_0_0 : ¬ a1 = (0 : Int32) := c1_0
    by_cases c1_1 : a1 = (1 : Int32)
    · have c1_1_1 : a1 = (1 : Int32) := c1_1
      refine g_tsIn (pc := 1) (off := 86) (tgt := 87) dX12_count_1 (by rw [c1_1]; decide) (by rw [c1_1]; decide) (by rw [c1_1]; rfl) (by decide) ?_
      refine g_aload_n (pc := 87) (x := 156) dX12_count_87 rfl ?_
      refine g_getR (pc := 88) (dd := 6) dX12_count_88 fo_X12_30 sh_156 rfl ?_
      refine g_iconst (pc := 91) (v := (1 : Int32)) dX12_count_91 (by decide) ?_
      refine g_iaload (pc := 92) dX12_count_92 sh_162 (vp_in_nI (n := 1) (N := 420) (by decide) (by decide)) ?_
      exact g_iret (pc := 93) dX12_count_93 rfl rfl rfl ⟨(by unfold v_X12_count; rw [cite_neg c1_0_0, cite_pos c1_1_1] <;> rfl), rfl⟩
    · have c1_1_1 : ¬ a1 = (1 : Int32) := c1_1
      by_cases c1_2 : a1 = (2 : Int32)
      · have c1_2_2 : a1 = (2 : Int32) := c1_2
        refine g_tsIn (pc := 1) (off := 93) (tgt := 94) dX12_count_1 (by rw [c1_2]; decide) (by rw [c1_2]; decide) (by rw [c1_2]; rfl) (by decide) ?_
        refine g_aload_n (pc := 94) (x := 156) dX12_count_94 rfl ?_
        refine g_getR (pc := 95) (dd := 6) dX12_count_95 fo_X12_30 sh_156 rfl ?_
        refine g_iconst (pc := 98) (v := (3 : Int32)) dX12_count_98 (by decide) ?_
        refine g_iaload (pc := 99) dX12_count_99 sh_162 (vp_in_nI (n := 3) (N := 420) (by decide) (by decide)) ?_
        exact g_iret (pc := 100) dX12_count_100 rfl rfl rfl ⟨(by unfold v_X12_count; rw [cite_neg c1_0_0, cite_neg c1_1_1, cite_pos c1_2_2] <;> rfl), rfl⟩
      · have c1_2_2 : ¬ a1 = (2 : Int32) := c1_2
        by_cases c1_3 : a1 = (3 : Int32)
        · have c1_3_3 : a1 = (3 : Int32) := c1_3
          refine g_tsIn (pc := 1) (off := 100) (tgt := 101) dX12_count_1 (by rw [c1_3]; decide) (by rw [c1_3]; decide) (by rw [c1_3]; rfl) (by decide) ?_
          refine g_aload_n (pc := 101) (x := 156) dX12_count_101 rfl ?_
          refine g_getR (pc := 102) (dd := 6) dX12_count_102 fo_X12_30 sh_156 rfl ?_
          refine g_iconst (pc := 105) (v := (4 : Int32)) dX12_count_105 (by decide) ?_
          refine g_iaload (pc := 106) dX12_count_106 sh_162 (vp_in_nI (n := 4) (N := 420) (by decide) (by decide)) ?_
          exact g_iret (pc := 107) dX12_count_107 rfl rfl rfl ⟨(by unfold v_X12_count; rw [cite_neg c1_0_0, cite_neg c1_1_1, cite_neg c1_2_2, cite_pos c1_3_3] <;> rfl), rfl⟩
        · have c1_3_3 : ¬ a1 = (3 : Int32) := c1_3
          by_cases c1_4 : a1 = (4 : Int32)
          · have c1_4_4 : a1 = (4 : Int32) := c1_4
            refine g_tsIn (pc := 1) (off := 107) (tgt := 108) dX12_count_1 (by rw [c1_4]; decide) (by rw [c1_4]; decide) (by rw [c1_4]; rfl) (by decide) ?_
            refine g_aload_n (pc := 108) (x := 156) dX12_count_108 rfl ?_
            refine g_getR (pc := 109) (dd := 6) dX12_count_109 fo_X12_30 sh_156 rfl ?_
            refine g_iconst (pc := 112) (v := (5 : Int32)) dX12_count_112 (by decide) ?_
            refine g_iaload (pc := 113) dX12_count_113 sh_162 (vp_in_nI (n := 5) (N := 420) (by decide) (by decide)) ?_
            exact g_iret (pc := 114) dX12_count_114 rfl rfl rfl ⟨(by unfold v_X12_count; rw [cite_neg c1_0_0, cite_neg c1_1_1, cite_neg c1_2_2, cite_neg c1_3_3, cite_pos c1_4_4] <;> rfl), rfl⟩
          · have c1_4_4 : ¬ a1 = (4 : Int32) := c1_4
            by_cases c1_5 : a1 = (5 : Int32)
            · have c1_5_5 : a1 = (5 : Int32) := c1_5
              refine g_tsIn (pc := 1) (off := 114) (tgt := 115) dX12_count_1 (by rw [c1_5]; decide) (by rw [c1_5]; decide) (by rw [c1_5]; rfl) (by decide) ?_
              refine g_aload_n (pc := 115) (x := 156) dX12_count_115 rfl ?_
              refine g_getR (pc := 116) (dd := 6) dX12_count_116 fo_X12_30 sh_156 rfl ?_
              refine g_bipush (pc := 119) (v := (6 : Int32)) dX12_count_119 (by decide) ?_
              refine g_iaload (pc := 121) dX12_count_121 sh_162 (vp_in_nI (n := 6) (N := 420) (by decide) (by decide)) ?_
              exact g_iret (pc := 122) dX12_count_122 rfl rfl rfl ⟨(by unfold v_X12_count; rw [cite_neg c1_0_0, cite_neg c1_1_1, cite_neg c1_2_2, cite_neg c1_3_3, cite_neg c1_4_4, cite_pos c1_5_5] <;> rfl), rfl⟩
            · have c1_5_5 : ¬ a1 = (5 : Int32) := c1_5
              by_cases c1_6 : a1 = (6 : Int32)
              · have c1_6_6 : a1 = (6 : Int32) := c1_6
                refine g_tsIn (pc := 1) (off := 122) (tgt := 123) dX12_count_1 (by rw [c1_6]; decide) (by rw [c1_6]; decide) (by rw [c1_6]; rfl) (by decide) ?_
                refine g_aload_n (pc := 123) (x := 156) dX12_count_123 rfl ?_
                refine g_getR (pc := 124) (dd := 6) dX12_count_124 fo_X12_30 sh_156 rfl ?_
                refine g_bipush (pc := 127) (v := (7 : Int32)) dX12_count_127 (by decide) ?_
                refine g_iaload (pc := 129) dX12_count_129 sh_162 (vp_in_nI (n := 7) (N := 420) (by decide) (by decide)) ?_
                exact g_iret (pc := 130) dX12_count_130 rfl rfl rfl ⟨(by unfold v_X12_count; rw [cite_neg c1_0_0, cite_neg c1_1_1, cite_neg c1_2_2, cite_neg c1_3_3, cite_neg c1_4_4, cite_neg c1_5_5, cite_pos c1_6_6] <;> rfl), rfl⟩
              · have c1_6_6 : ¬ a1 = (6 : Int32) := c1_6
                by_cases c1_7 : a1 = (7 : Int32)
                · have c1_7_7 : a1 = (7 : Int32) := c1_7
                  refine g_tsIn (pc := 1) (off := 130) (tgt := 131) dX12_count_1 (by rw [c1_7]; decide) (by rw [c1_7]; decide) (by rw [c1_7]; rfl) (by decide) ?_
                  refine g_aload_n (pc := 131) (x := 156) dX12_count_131 rfl ?_
                  refine g_getR (pc := 132) (dd := 7) dX12_count_132 fo_X12_33 sh_156 rfl ?_
                  refine g_iconst (pc := 135) (v := (1 : Int32)) dX12_count_135 (by decide) ?_
                  refine g_iaload (pc := 136) dX12_count_136 sh_163 (vp_in_nI (n := 1) (N := 1260) (by decide) (by decide)) ?_
                  exact g_iret (pc := 137) dX12_count_137 rfl rfl rfl ⟨(by unfold v_X12_count; rw [cite_neg c1_0_0, cite_neg c1_1_1, cite_neg c1_2_2, cite_neg c1_3_3, cite_neg c1_4_4, cite_neg c1_5_5, cite_neg c1_6_6, cite_pos c1_7_7] <;> rfl), rfl⟩
                · have c1_7_7 : ¬ a1 = (7 : Int32) := c1_7
                  by_cases c1_8 : a1 = (8 : Int32)
                  · have c1_8_8 : a1 = (8 : Int32) := c1_8
                    refine g_tsIn (pc := 1) (off := 137) (tgt := 138) dX12_count_1 (by rw [c1_8]; decide) (by rw [c1_8]; decide) (by rw [c1_8]; rfl) (by decide) ?_
                    refine g_aload_n (pc := 138) (x := 156) dX12_count_138 rfl ?_
                    refine g_getR (pc := 139) (dd := 7) dX12_count_139 fo_X12_33 sh_156 rfl ?_
                    refine g_iconst (pc := 142) (v := (2 : Int32)) dX12_count_142 (by decide) ?_
                    refine g_iaload (pc := 143) dX12_count_143 sh_163 (vp_in_nI (n := 2) (N := 1260) (by decide) (by decide)) ?_
                    exact g_iret (pc := 144) dX12_count_144 rfl rfl rfl ⟨(by unfold v_X12_count; rw [cite_neg c1_0_0, cite_neg c1_1_1, cite_neg c1_2_2, cite_neg c1_3_3, cite_neg c1_4_4, cite_neg c1_5_5, cite_neg c1_6_6, cite_neg c1_7_7, cite_pos c1_8_8] <;> rfl), rfl⟩
                  · have c1_8_8 : ¬ a1 = (8 : Int32) := c1_8
                    by_cases c1_9 : a1 = (9 : Int32)
                    · have c1_9_9 : a1 = (9 : Int32) := c1_9
                      refine g_tsIn (pc := 1) (off := 144) (tgt := 145) dX12_count_1 (by rw [c1_9]; decide) (by rw [c1_9]; decide) (by rw [c1_9]; rfl) (by decide) ?_
                      refine g_aload_n (pc := 145) (x := 156) dX12_count_145 rfl ?_
                      refine g_getR (pc := 146) (dd := 7) dX12_count_146 fo_X12_33 sh_156 rfl ?_
                      refine g_iconst (pc := 149) (v := (0 : Int32)) dX12_count_149 (by decide) ?_
                      refine g_iaload (pc := 150) dX12_count_150 sh_163 (vp_in_nI (n := 0) (N := 1260) (by decide) (by decide)) ?_
                      exact g_iret (pc := 151) dX12_count_151 rfl rfl rfl ⟨(by unfold v_X12_count; rw [cite_neg c1_0_0, cite_neg c1_1_1, cite_neg c1_2_2, cite_neg c1_3_3, cite_neg c1_4_4, cite_neg c1_5_5, cite_neg c1_6_6, cite_neg c1_7_7, cite_neg c1_8_8, cite_pos c1_9_9] <;> rfl), rfl⟩
                    · have c1_9_9 : ¬ a1 = (9 : Int32) := c1_9
                      by_cases c1_10 : a1 = (10 : Int32)
                      · have c1_10_10 : a1 = (10 : Int32) := c1_10
                        refine g_tsIn (pc := 1) (off := 151) (tgt := 152) dX12_count_1 (by rw [c1_10]; decide) (by rw [c1_10]; decide) (by rw [c1_10]; rfl) (by decide) ?_
                        refine g_aload_n (pc := 152) (x := 156) dX12_count_152 rfl ?_
                        refine g_getI (pc := 153) dX12_count_153 fo_X12_283 sh_156 rfl ?_
                        exact g_iret (pc := 156) dX12_count_156 rfl rfl rfl ⟨(by unfold v_X12_count; rw [cite_neg c1_0_0, cite_neg c1_1_1, cite_neg c1_2_2, cite_neg c1_3_3, cite_neg c1_4_4, cite_neg c1_5_5, cite_neg c1_6_6, cite_neg c1_7_7, cite_neg c1_8_8, cite_neg c1_9_9, cite_pos c1_10_10] <;> rfl), rfl⟩
                      · have c1_10_10 : ¬ a1 = (10 : Int32) := c1_10
                        by_cases c1_11 : a1 = (11 : Int32)
                        · have c1_11_11 : a1 = (11 : Int32) := c1_11
                          refine g_tsIn (pc := 1) (off := 156) (tgt := 157) dX12_count_1 (by rw [c1_11]; decide) (by rw [c1_11]; decide) (by rw [c1_11]; rfl) (by decide) ?_
                          refine g_aload_n (pc := 157) (x := 156) dX12_count_157 rfl ?_
                          refine g_getI (pc := 158) dX12_count_158 fo_X12_125 sh_156 rfl ?_
                          exact g_iret (pc := 161) dX12_count_161 rfl rfl rfl ⟨(by unfold v_X12_count; rw [cite_neg c1_0_0, cite_neg c1_1_1, cite_neg c1_2_2, cite_neg c1_3_3, cite_neg c1_4_4, cite_neg c1_5_5, cite_neg c1_6_6, cite_neg c1_7_7, cite_neg c1_8_8, cite_neg c1_9_9, cite_neg c1_10_10, cite_pos c1_11_11] <;> rfl), rfl⟩
                        · have c1_11_11 : ¬ a1 = (11 : Int32) := c1_11
                          by_cases c1_12 : a1 = (12 : Int32)
                          · have c1_12_12 : a1 = (12 : Int32) := c1_12
                            refine g_tsIn (pc := 1) (off := 161) (tgt := 162) dX12_count_1 (by rw [c1_12]; decide) (by rw [c1_12]; decide) (by rw [c1_12]; rfl) (by decide) ?_
                            refine g_aload_n (pc := 162) (x := 156) dX12_count_162 rfl ?_
                            refine g_getR (pc := 163) (dd := 18) dX12_count_163 fo_X12_67 sh_156 rfl ?_
                            refine g_iconst (pc := 166) (v := (1 : Int32)) dX12_count_166 (by decide) ?_
                            refine g_zaload (pc := 167) dX12_count_167 sh_174 (vp_in_nI (n := 1) (N := 3) (by decide) (by decide)) ?_
                            refine g_if_eq (pc := 168) (tgt := 175) dX12_count_168 (by decide) (fun c168 => ?_) (fun c168 => ?_)
                            · have c168_13 : (mm.1 174 1) = 0 := c168
                              refine g_iconst (pc := 175) (v := (0 : Int32)) dX12_count_175 (by decide) ?_
                              refine g_aload_n (pc := 176) (x := 156) dX12_count_176 rfl ?_
                              refine g_getR (pc := 177) (dd := 18) dX12_count_177 fo_X12_67 sh_156 rfl ?_
                              refine g_iconst (pc := 180) (v := (2 : Int32)) dX12_count_180 (by decide) ?_
                              refine g_zaload (pc := 181) dX12_count_181 sh_174 (vp_in_nI (n := 2) (N := 3) (by decide) (by decide)) ?_
                              refine g_if_eq (pc := 182) (tgt := 189) dX12_count_182 (by decide) (fun c182 => ?_) (fun c182 => ?_)
                              · have c182_14 : (mm.1 174 2) = 0 := c182
                                refine g_iconst (pc := 189) (v := (0 : Int32)) dX12_count_189 (by decide) ?_
                                refine g_iadd (pc := 190) dX12_count_190 ?_
                                exact g_iret (pc := 191) dX12_count_191 rfl rfl rfl ⟨(by unfold v_X12_count; rw [cite_neg c1_0_0, cite_neg c1_1_1, cite_neg c1_2_2, cite_neg c1_3_3, cite_neg c1_4_4, cite_neg c1_5_5, cite_neg c1_6_6, cite_neg c1_7_7, cite_neg c1_8_8, cite_neg c1_9_9, cite_neg c1_10_10, cite_neg c1_11_11, cite_pos c1_12_12, cite_pos c168_13, cite_pos c182_14] <;> rfl), rfl⟩
                              · have c182_14 : ¬ (mm.1 174 2) = 0 := c182
                                refine g_iconst (pc := 185) (v := (1 : Int32)) dX12_count_185 (by decide) ?_
                                refine g_goto (pc := 186) (tgt := 190) dX12_count_186 (by decide) ?_
                                refine g_iadd (pc := 190) dX12_count_190 ?_
                                exact g_iret (pc := 191) dX12_count_191 rfl rfl rfl ⟨(by unfold v_X12_count; rw [cite_neg c1_0_0, cite_neg c1_1_1, cite_neg c1_2_2, cite_neg c1_3_3, cite_neg c1_4_4, cite_neg c1_5_5, cite_neg c1_6_6, cite_neg c1_7_7, cite_neg c1_8_8, cite_neg c1_9_9, cite_neg c1_10_10, cite_neg c1_11_11, cite_pos c1_12_12, cite_pos c168_13, cite_neg c182_14] <;> rfl), rfl⟩
                            · have c168_13 : ¬ (mm.1 174 1) = 0 := c168
                              refine g_iconst (pc := 171) (v := (1 : Int32)) dX12_count_171 (by decide) ?_
                              refine g_goto (pc := 172) (tgt := 176) dX12_count_172 (by decide) ?_
                              refine g_aload_n (pc := 176) (x := 156) dX12_count_176 rfl ?_
                              refine g_getR (pc := 177) (dd := 18) dX12_count_177 fo_X12_67 sh_156 rfl ?_
                              refine g_iconst (pc := 180) (v := (2 : Int32)) dX12_count_180 (by decide) ?_
                              refine g_zaload (pc := 181) dX12_count_181 sh_174 (vp_in_nI (n := 2) (N := 3) (by decide) (by decide)) ?_
                              refine g_if_eq (pc := 182) (tgt := 189) dX12_count_182 (by decide) (fun c182 => ?_) (fun c182 => ?_)
                              · have c182_14 : (mm.1 174 2) = 0 := c182
                                refine g_iconst (pc := 189) (v := (0 : Int32)) dX12_count_189 (by decide) ?_
                                refine g_iadd (pc := 190) dX12_count_190 ?_
                                exact g_iret (pc := 191) dX12_count_191 rfl rfl rfl ⟨(by unfold v_X12_count; rw [cite_neg c1_0_0, cite_neg c1_1_1, cite_neg c1_2_2, cite_neg c1_3_3, cite_neg c1_4_4, cite_neg c1_5_5, cite_neg c1_6_6, cite_neg c1_7_7, cite_neg c1_8_8, cite_neg c1_9_9, cite_neg c1_10_10, cite_neg c1_11_11, cite_pos c1_12_12, cite_neg c168_13, cite_pos c182_14] <;> rfl), rfl⟩
                              · have c182_14 : ¬ (mm.1 174 2) = 0 := c182
                                refine g_iconst (pc := 185) (v := (1 : Int32)) dX12_count_185 (by decide) ?_
                                refine g_goto (pc := 186) (tgt := 190) dX12_count_186 (by decide) ?_
                                refine g_iadd (pc := 190) dX12_count_190 ?_
                                exact g_iret (pc := 191) dX12_count_191 rfl rfl rfl ⟨(by unfold v_X12_count; rw [cite_neg c1_0_0, cite_neg c1_1_1, cite_neg c1_2_2, cite_neg c1_3_3, cite_neg c1_4_4, cite_neg c1_5_5, cite_neg c1_6_6, cite_neg c1_7_7, cite_neg c1_8_8, cite_neg c1_9_9, cite_neg c1_10_10, cite_neg c1_11_11, cite_pos c1_12_12, cite_neg c168_13, cite_neg c182_14] <;> rfl), rfl⟩
                          · have c1_12_12 : ¬ a1 = (12 : Int32) := c1_12
                            by_cases c1_13 : a1 = (13 : Int32)
                            · have c1_13_13 : a1 = (13 : Int32) := c1_13
                              refine g_tsIn (pc := 1) (off := 191) (tgt := 192) dX12_count_1 (by rw [c1_13]; decide) (by rw [c1_13]; decide) (by rw [c1_13]; rfl) (by decide) ?_
                              refine g_aload_n (pc := 192) (x := 156) dX12_count_192 rfl ?_
                              refine g_getI (pc := 193) dX12_count_193 fo_X12_280 sh_156 rfl ?_
                              exact g_iret (pc := 196) dX12_count_196 rfl rfl rfl ⟨(by unfold v_X12_count; rw [cite_neg c1_0_0, cite_neg c1_1_1, cite_neg c1_2_2, cite_neg c1_3_3, cite_neg c1_4_4, cite_neg c1_5_5, cite_neg c1_6_6, cite_neg c1_7_7, cite_neg c1_8_8, cite_neg c1_9_9, cite_neg c1_10_10, cite_neg c1_11_11, cite_neg c1_12_12, cite_pos c1_13_13] <;> rfl), rfl⟩
                            · have c1_13_13 : ¬ a1 = (13 : Int32) := c1_13
                              by_cases c1_14 : a1 = (14 : Int32)
                              · have c1_14_14 : a1 = (14 : Int32) := c1_14
                                refine g_tsIn (pc := 1) (off := 196) (tgt := 197) dX12_count_1 (by rw [c1_14]; decide) (by rw [c1_14]; decide) (by rw [c1_14]; rfl) (by decide) ?_
                                refine g_aload_n (pc := 197) (x := 156) dX12_count_197 rfl ?_
                                refine g_getR (pc := 198) (dd := 6) dX12_count_198 fo_X12_30 sh_156 rfl ?_
                                refine g_bipush (pc := 201) (v := (8 : Int32)) dX12_count_201 (by decide) ?_
                                refine g_iaload (pc := 203) dX12_count_203 sh_162 (vp_in_nI (n := 8) (N := 420) (by decide) (by decide)) ?_
                                exact g_iret (pc := 204) dX12_count_204 rfl rfl rfl ⟨(by unfold v_X12_count; rw [cite_neg c1_0_0, cite_neg c1_1_1, cite_neg c1_2_2, cite_neg c1_3_3, cite_neg c1_4_4, cite_neg c1_5_5, cite_neg c1_6_6, cite_neg c1_7_7, cite_neg c1_8_8, cite_neg c1_9_9, cite_neg c1_10_10, cite_neg c1_11_11, cite_neg c1_12_12, cite_neg c1_13_13, cite_pos c1_14_14] <;> rfl), rfl⟩
                              · have c1_14_14 : ¬ a1 = (14 : Int32) := c1_14
                                by_cases c1_15 : a1 = (15 : Int32)
                                · have c1_15_15 : a1 = (15 : Int32) := c1_15
                                  refine g_tsIn (pc := 1) (off := 204) (tgt := 205) dX12_count_1 (by rw [c1_15]; decide) (by rw [c1_15]; decide) (by rw [c1_15]; rfl) (by decide) ?_
                                  refine g_aload_n (pc := 205) (x := 156) dX12_count_205 rfl ?_
                                  refine g_getR (pc := 206) (dd := 6) dX12_count_206 fo_X12_30 sh_156 rfl ?_
                                  refine g_bipush (pc := 209) (v := (9 : Int32)) dX12_count_209 (by decide) ?_
                                  refine g_iaload (pc := 211) dX12_count_211 sh_162 (vp_in_nI (n := 9) (N := 420) (by decide) (by decide)) ?_
                                  exact g_iret (pc := 212) dX12_count_212 rfl rfl rfl ⟨(by unfold v_X12_count; rw [cite_neg c1_0_0, cite_neg c1_1_1, cite_neg c1_2_2, cite_neg c1_3_3, cite_neg c1_4_4, cite_neg c1_5_5, cite_neg c1_6_6, cite_neg c1_7_7, cite_neg c1_8_8, cite_neg c1_9_9, cite_neg c1_10_10, cite_neg c1_11_11, cite_neg c1_12_12, cite_neg c1_13_13, cite_neg c1_14_14, cite_pos c1_15_15] <;> rfl), rfl⟩
                                · have c1_15_15 : ¬ a1 = (15 : Int32) := c1_15
                                  refine g_tsOut (pc := 1) (tgt := 213) dX12_count_1 (by have e0_ := ts_ne (k := 0) c1_0 (by decide); have e1_ := ts_ne (k := 1) c1_1 (by decide); have e2_ := ts_ne (k := 2) c1_2 (by decide); have e3_ := ts_ne (k := 3) c1_3 (by decide); have e4_ := ts_ne (k := 4) c1_4 (by decide); have e5_ := ts_ne (k := 5) c1_5 (by decide); have e6_ := ts_ne (k := 6) c1_6 (by decide); have e7_ := ts_ne (k := 7) c1_7 (by decide); have e8_ := ts_ne (k := 8) c1_8 (by decide); have e9_ := ts_ne (k := 9) c1_9 (by decide); have e10_ := ts_ne (k := 10) c1_10 (by decide); have e11_ := ts_ne (k := 11) c1_11 (by decide); have e12_ := ts_ne (k := 12) c1_12 (by decide); have e13_ := ts_ne (k := 13) c1_13 (by decide); have e14_ := ts_ne (k := 14) c1_14 (by decide); have e15_ := ts_ne (k := 15) c1_15 (by decide); omega) (by decide) ?_
                                  refine g_iconst (pc := 213) (v := (-1 : Int32)) dX12_count_213 (by decide) ?_
                                  exact g_iret (pc := 214) dX12_count_214 rfl rfl rfl ⟨(by unfold v_X12_count; rw [cite_neg c1_0_0, cite_neg c1_1_1, cite_neg c1_2_2, cite_neg c1_3_3, cite_neg c1_4_4, cite_neg c1_5_5, cite_neg c1_6_6, cite_neg c1_7_7, cite_neg c1_8_8, cite_neg c1_9_9, cite_neg c1_10_10, cite_neg c1_11_11, cite_neg c1_12_12, cite_neg c1_13_13, cite_neg c1_14_14, cite_neg c1_15_15] <;> rfl), rfl⟩

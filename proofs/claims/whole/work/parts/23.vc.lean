theorem b_X12_takesHold_80 (mm : MM) (Q : Value → MM → Prop) (l1 : Int32) (h : ((200 : Int32) ≤ l1 → (∃ Pm1 : Value → MM → Prop, Runs e_X12_settle [.ref 156] mm Pm1 ∧ ∀ m1, Pm1 .null m1 → (Q .null m1))) ∧ (¬ (200 : Int32) ≤ l1 → (vp_in ((200 : Int32) + l1) 400 ∧ (vp_in l1 400 ∧ (vp_in ((200 : Int32) + l1) 400 ∧ (vp_in l1 400 ∧ (vp_in ((200 : Int32) + l1) 400 ∧ (vp_in l1 400 ∧ (vp_in ((200 : Int32) + l1) 400 ∧ (vp_in l1 400 ∧ (vp_in ((200 : Int32) + l1) 400 ∧ (vp_in l1 400 ∧ (vp_in ((200 : Int32) + l1) 400 ∧ (vp_in l1 400 ∧ (G e_X12_takesHold 80 [(0, .ref 156), (1, .int (l1 + (1 : Int32)))] [] (wI (wI (wI (wI (wI (wI mm 168 (l1.toNatClampNeg) (vp_nar .boolean (mm.1 168 ((200 : Int32) + l1).toNatClampNeg))) 169 (l1.toNatClampNeg) ((wI mm 168 (l1.toNatClampNeg) (vp_nar .boolean (mm.1 168 ((200 : Int32) + l1).toNatClampNeg))).1 169 ((200 : Int32) + l1).toNatClampNeg)) 170 (l1.toNatClampNeg) ((wI (wI mm 168 (l1.toNatClampNeg) (vp_nar .boolean (mm.1 168 ((200 : Int32) + l1).toNatClampNeg))) 169 (l1.toNatClampNeg) ((wI mm 168 (l1.toNatClampNeg) (vp_nar .boolean (mm.1 168 ((200 : Int32) + l1).toNatClampNeg))).1 169 ((200 : Int32) + l1).toNatClampNeg)).1 170 ((200 : Int32) + l1).toNatClampNeg)) 171 (l1.toNatClampNeg) ((wI (wI (wI mm 168 (l1.toNatClampNeg) (vp_nar .boolean (mm.1 168 ((200 : Int32) + l1).toNatClampNeg))) 169 (l1.toNatClampNeg) ((wI mm 168 (l1.toNatClampNeg) (vp_nar .boolean (mm.1 168 ((200 : Int32) + l1).toNatClampNeg))).1 169 ((200 : Int32) + l1).toNatClampNeg)) 170 (l1.toNatClampNeg) ((wI (wI mm 168 (l1.toNatClampNeg) (vp_nar .boolean (mm.1 168 ((200 : Int32) + l1).toNatClampNeg))) 169 (l1.toNatClampNeg) ((wI mm 168 (l1.toNatClampNeg) (vp_nar .boolean (mm.1 168 ((200 : Int32) + l1).toNatClampNeg))).1 169 ((200 : Int32) + l1).toNatClampNeg)).1 170 ((200 : Int32) + l1).toNatClampNeg)).1 171 ((200 : Int32) + l1).toNatClampNeg)) 172 (l1.toNatClampNeg) ((wI (wI (wI (wI mm 168 (l1.toNatClampNeg) (vp_nar .boolean (mm.1 168 ((200 : Int32) + l1).toNatClampNeg))) 169 (l1.toNatClampNeg) ((wI mm 168 (l1.toNatClampNeg) (vp_nar .boolean (mm.1 168 ((200 : Int32) + l1).toNatClampNeg))).1 169 ((200 : Int32) + l1).toNatClampNeg)) 170 (l1.toNatClampNeg) ((wI (wI mm 168 (l1.toNatClampNeg) (vp_nar .boolean (mm.1 168 ((200 : Int32) + l1).toNatClampNeg))) 169 (l1.toNatClampNeg) ((wI mm 168 (l1.toNatClampNeg) (vp_nar .boolean (mm.1 168 ((200 : Int32) + l1).toNatClampNeg))).1 169 ((200 : Int32) + l1).toNatClampNeg)).1 170 ((200 : Int32) + l1).toNatClampNeg)) 171 (l1.toNatClampNeg) ((wI (wI (wI mm 168 (l1.toNatClampNeg) (vp_nar .boolean (mm.1 168 ((200 : Int32) + l1).toNatClampNeg))) 169 (l1.toNatClampNeg) ((wI mm 168 (l1.toNatClampNeg) (vp_nar .boolean (mm.1 168 ((200 : Int32) + l1).toNatClampNeg))).1 169 ((200 : Int32) + l1).toNatClampNeg)) 170 (l1.toNatClampNeg) ((wI (wI mm 168 (l1.toNatClampNeg) (vp_nar .boolean (mm.1 168 ((200 : Int32) + l1).toNatClampNeg))) 169 (l1.toNatClampNeg) ((wI mm 168 (l1.toNatClampNeg) (vp_nar .boolean (mm.1 168 ((200 : Int32) + l1).toNatClampNeg))).1 169 ((200 : Int32) + l1).toNatClampNeg)).1 170 ((200 : Int32) + l1).toNatClampNeg)).1 171 ((200 : Int32) + l1).toNatClampNeg)).1 172 ((200 : Int32) + l1).toNatClampNeg)) 173 (l1.toNatClampNeg) ((wI (wI (wI (wI (wI mm 168 (l1.toNatClampNeg) (vp_nar .boolean (mm.1 168 ((200 : Int32) + l1).toNatClampNeg))) 169 (l1.toNatClampNeg) ((wI mm 168 (l1.toNatClampNeg) (vp_nar .boolean (mm.1 168 ((200 : Int32) + l1).toNatClampNeg))).1 169 ((200 : Int32) + l1).toNatClampNeg)) 170 (l1.toNatClampNeg) ((wI (wI mm 168 (l1.toNatClampNeg) (vp_nar .boolean (mm.1 168 ((200 : Int32) + l1).toNatClampNeg))) 169 (l1.toNatClampNeg) ((wI mm 168 (l1.toNatClampNeg) (vp_nar .boolean (mm.1 168 ((200 : Int32) + l1).toNatClampNeg))).1 169 ((200 : Int32) + l1).toNatClampNeg)).1 170 ((200 : Int32) + l1).toNatClampNeg)) 171 (l1.toNatClampNeg) ((wI (wI (wI mm 168 (l1.toNatClampNeg) (vp_nar .boolean (mm.1 168 ((200 : Int32) + l1).toNatClampNeg))) 169 (l1.toNatClampNeg) ((wI mm 168 (l1.toNatClampNeg) (vp_nar .boolean (mm.1 168 ((200 : Int32) + l1).toNatClampNeg))).1 169 ((200 : Int32) + l1).toNatClampNeg)) 170 (l1.toNatClampNeg) ((wI (wI mm 168 (l1.toNatClampNeg) (vp_nar .boolean (mm.1 168 ((200 : Int32) + l1).toNatClampNeg))) 169 (l1.toNatClampNeg) ((wI mm 168 (l1.toNatClampNeg) (vp_nar .boolean (mm.1 168 ((200 : Int32) + l1).toNatClampNeg))).1 169 ((200 : Int32) + l1).toNatClampNeg)).1 170 ((200 : Int32) + l1).toNatClampNeg)).1 171 ((200 : Int32) + l1).toNatClampNeg)) 172 (l1.toNatClampNeg) ((wI (wI (wI (wI mm 168 (l1.toNatClampNeg) (vp_nar .boolean (mm.1 168 ((200 : Int32) + l1).toNatClampNeg))) 169 (l1.toNatClampNeg) ((wI mm 168 (l1.toNatClampNeg) (vp_nar .boolean (mm.1 168 ((200 : Int32) + l1).toNatClampNeg))).1 169 ((200 : Int32) + l1).toNatClampNeg)) 170 (l1.toNatClampNeg) ((wI (wI mm 168 (l1.toNatClampNeg) (vp_nar .boolean (mm.1 168 ((200 : Int32) + l1).toNatClampNeg))) 169 (l1.toNatClampNeg) ((wI mm 168 (l1.toNatClampNeg) (vp_nar .boolean (mm.1 168 ((200 : Int32) + l1).toNatClampNeg))).1 169 ((200 : Int32) + l1).toNatClampNeg)).1 170 ((200 : Int32) + l1).toNatClampNeg)) 171 (l1.toNatClampNeg) ((wI (wI (wI mm 168 (l1.toNatClampNeg) (vp_nar .boolean (mm.1 168 ((200 : Int32) + l1).toNatClampNeg))) 169 (l1.toNatClampNeg) ((wI mm 168 (l1.toNatClampNeg) (vp_nar .boolean (mm.1 168 ((200 : Int32) + l1).toNatClampNeg))).1 169 ((200 : Int32) + l1).toNatClampNeg)) 170 (l1.toNatClampNeg) ((wI (wI mm 168 (l1.toNatClampNeg) (vp_nar .boolean (mm.1 168 ((200 : Int32) + l1).toNatClampNeg))) 169 (l1.toNatClampNeg) ((wI mm 168 (l1.toNatClampNeg) (vp_nar .boolean (mm.1 168 ((200 : Int32) + l1).toNatClampNeg))).1 169 ((200 : Int32) + l1).toNatClampNeg)).1 170 ((200 : Int32) + l1).toNatClampNeg)).1 171 ((200 : Int32) + l1).toNatClampNeg)).1 172 ((200 : Int32) + l1).toNatClampNeg)).1 173 ((200 : Int32) + l1).toNatClampNeg)) Q))))))))))))))) : G e_X12_takesHold 80 [(0, .ref 156), (1, .int l1)] [] mm Q := by
  refine g_iload_n (pc := 80) (x := l1) dX12_takesHold_80 rfl ?_
  refine g_sipush (pc := 81) (v := (200 : Int32)) dX12_takesHold_81 (by decide) ?_
  refine g_icmp_ge (pc := 84) (tgt := 189) dX12_takesHold_84 (by decide) (fun c84 => ?_) (fun c84 => ?_)
  · have h := h.1 c84
    refine g_aload_n (pc := 189) (x := 156) dX12_takesHold_189 rfl ?_
    obtain ⟨Pm1, hRm1, h⟩ := h
    refine g_callV (pc := 190) (as := []) dX12_takesHold_190 cw_X12_122 (by decide) rfl rfl sh_156 (Nat.le_of_ble_eq_true rfl) hRm1 ?_
    intro r_ m1 hz_ hp_
    obtain rfl := hz_
    have h := h m1 hp_
    exact g_vret (pc := 193) dX12_takesHold_193 rfl rfl h
  · have h := h.2 c84
    refine g_aload_n (pc := 87) (x := 156) dX12_takesHold_87 rfl ?_
    refine g_getR (pc := 88) (dd := 12) dX12_takesHold_88 fo_X12_48 sh_156 rfl ?_
    refine g_iload_n (pc := 91) (x := l1) dX12_takesHold_91 rfl ?_
    refine g_aload_n (pc := 92) (x := 156) dX12_takesHold_92 rfl ?_
    refine g_getR (pc := 93) (dd := 12) dX12_takesHold_93 fo_X12_48 sh_156 rfl ?_
    refine g_sipush (pc := 96) (v := (200 : Int32)) dX12_takesHold_96 (by decide) ?_
    refine g_iload_n (pc := 99) (x := l1) dX12_takesHold_99 rfl ?_
    refine g_iadd (pc := 100) dX12_takesHold_100 ?_
    refine g_zaload (pc := 101) dX12_takesHold_101 sh_168 h.1 ?_
    have h := h.2
    refine g_zastore (pc := 102) dX12_takesHold_102 sh_168 h.1 ?_
    have h := h.2
    refine g_aload_n (pc := 103) (x := 156) dX12_takesHold_103 rfl ?_
    refine g_getR (pc := 104) (dd := 13) dX12_takesHold_104 fo_X12_52 sh_156 rfl ?_
    refine g_iload_n (pc := 107) (x := l1) dX12_takesHold_107 rfl ?_
    refine g_aload_n (pc := 108) (x := 156) dX12_takesHold_108 rfl ?_
    refine g_getR (pc := 109) (dd := 13) dX12_takesHold_109 fo_X12_52 sh_156 rfl ?_
    refine g_sipush (pc := 112) (v := (200 : Int32)) dX12_takesHold_112 (by decide) ?_
    refine g_iload_n (pc := 115) (x := l1) dX12_takesHold_115 rfl ?_
    refine g_iadd (pc := 116) dX12_takesHold_116 ?_
    refine g_iaload (pc := 117) dX12_takesHold_117 sh_169 h.1 ?_
    have h := h.2
    refine g_iastore (pc := 118) dX12_takesHold_118 sh_169 h.1 ?_
    have h := h.2
    refine g_aload_n (pc := 119) (x := 156) dX12_takesHold_119 rfl ?_
    refine g_getR (pc := 120) (dd := 14) dX12_takesHold_120 fo_X12_55 sh_156 rfl ?_
    refine g_iload_n (pc := 123) (x := l1) dX12_takesHold_123 rfl ?_
    refine g_aload_n (pc := 124) (x := 156) dX12_takesHold_124 rfl ?_
    refine g_getR (pc := 125) (dd := 14) dX12_takesHold_125 fo_X12_55 sh_156 rfl ?_
    refine g_sipush (pc := 128) (v := (200 : Int32)) dX12_takesHold_128 (by decide) ?_
    refine g_iload_n (pc := 131) (x := l1) dX12_takesHold_131 rfl ?_
    refine g_iadd (pc := 132) dX12_takesHold_132 ?_
    refine g_iaload (pc := 133) dX12_takesHold_133 sh_170 h.1 ?_
    have h := h.2
    refine g_iastore (pc := 134) dX12_takesHold_134 sh_170 h.1 ?_
    have h := h.2
    refine g_aload_n (pc := 135) (x := 156) dX12_takesHold_135 rfl ?_
    refine g_getR (pc := 136) (dd := 15) dX12_takesHold_136 fo_X12_58 sh_156 rfl ?_
    refine g_iload_n (pc := 139) (x := l1) dX12_takesHold_139 rfl ?_
    refine g_aload_n (pc := 140) (x := 156) dX12_takesHold_140 rfl ?_
    refine g_getR (pc := 141) (dd := 15) dX12_takesHold_141 fo_X12_58 sh_156 rfl ?_
    refine g_sipush (pc := 144) (v := (200 : Int32)) dX12_takesHold_144 (by decide) ?_
    refine g_iload_n (pc := 147) (x := l1) dX12_takesHold_147 rfl ?_
    refine g_iadd (pc := 148) dX12_takesHold_148 ?_
    refine g_iaload (pc := 149) dX12_takesHold_149 sh_171 h.1 ?_
    have h := h.2
    refine g_iastore (pc := 150) dX12_takesHold_150 sh_171 h.1 ?_
    have h := h.2
    refine g_aload_n (pc := 151) (x := 156) dX12_takesHold_151 rfl ?_
    refine g_getR (pc := 152) (dd := 16) dX12_takesHold_152 fo_X12_61 sh_156 rfl ?_
    refine g_iload_n (pc := 155) (x := l1) dX12_takesHold_155 rfl ?_
    refine g_aload_n (pc := 156) (x := 156) dX12_takesHold_156 rfl ?_
    refine g_getR (pc := 157) (dd := 16) dX12_takesHold_157 fo_X12_61 sh_156 rfl ?_
    refine g_sipush (pc := 160) (v := (200 : Int32)) dX12_takesHold_160 (by decide) ?_
    refine g_iload_n (pc := 163) (x := l1) dX12_takesHold_163 rfl ?_
    refine g_iadd (pc := 164) dX12_takesHold_164 ?_
    refine g_iaload (pc := 165) dX12_takesHold_165 sh_172 h.1 ?_
    have h := h.2
    refine g_iastore (pc := 166) dX12_takesHold_166 sh_172 h.1 ?_
    have h := h.2
    refine g_aload_n (pc := 167) (x := 156) dX12_takesHold_167 rfl ?_
    refine g_getR (pc := 168) (dd := 17) dX12_takesHold_168 fo_X12_64 sh_156 rfl ?_
    refine g_iload_n (pc := 171) (x := l1) dX12_takesHold_171 rfl ?_
    refine g_aload_n (pc := 172) (x := 156) dX12_takesHold_172 rfl ?_
    refine g_getR (pc := 173) (dd := 17) dX12_takesHold_173 fo_X12_64 sh_156 rfl ?_
    refine g_sipush (pc := 176) (v := (200 : Int32)) dX12_takesHold_176 (by decide) ?_
    refine g_iload_n (pc := 179) (x := l1) dX12_takesHold_179 rfl ?_
    refine g_iadd (pc := 180) dX12_takesHold_180 ?_
    refine g_iaload (pc := 181) dX12_takesHold_181 sh_173 h.1 ?_
    have h := h.2
    refine g_iastore (pc := 182) dX12_takesHold_182 sh_173 h.1 ?_
    have h := h.2
    refine g_iinc (pc := 183) (x := l1) (v := (l1 + (1 : Int32))) (L' := [(0, .ref 156), (1, .int (l1 + (1 : Int32)))]) dX12_takesHold_183 rfl rfl (Nat.le_of_ble_eq_true rfl) rfl ?_
    refine g_goto (pc := 186) (tgt := 80) dX12_takesHold_186 (by decide) ?_
    exact h
theorem dX12_settle_0 : decode cX12_settle 0 = .ok (.iconst 0, 1) := by decide +kernel
theorem dX12_settle_1 : decode cX12_settle 1 = .ok (.istore_n 1, 1) := by decide +kernel
theorem dX12_settle_2 : decode cX12_settle 2 = .ok (.iload_n 1, 1) := by decide +kernel
theorem dX12_settle_3 : decode cX12_settle 3 = .ok (.sipush 420, 3) := by decide +kernel
theorem dX12_settle_6 : decode cX12_settle 6 = .ok (.if_icmp .ge 16, 3) := by decide +kernel
theorem dX12_settle_9 : decode cX12_settle 9 = .ok (.aload_n 0, 1) := by decide +kernel
theorem dX12_settle_10 : decode cX12_settle 10 = .ok (.getfield 33, 3) := by decide +kernel
theorem dX12_settle_13 : decode cX12_settle 13 = .ok (.iload_n 1, 1) := by decide +kernel
theorem dX12_settle_14 : decode cX12_settle 14 = .ok (.iconst 0, 1) := by decide +kernel
theorem dX12_settle_15 : decode cX12_settle 15 = .ok (.iastore, 1) := by decide +kernel
theorem dX12_settle_16 : decode cX12_settle 16 = .ok (.iinc 1 1, 3) := by decide +kernel
theorem dX12_settle_19 : decode cX12_settle 19 = .ok (.goto (-17), 3) := by decide +kernel
theorem dX12_settle_22 : decode cX12_settle 22 = .ok (.iconst 0, 1) := by decide +kernel
theorem dX12_settle_23 : decode cX12_settle 23 = .ok (.istore_n 1, 1) := by decide +kernel
theorem dX12_settle_24 : decode cX12_settle 24 = .ok (.iload_n 1, 1) := by decide +kernel
theorem dX12_settle_25 : decode cX12_settle 25 = .ok (.bipush 16, 2) := by decide +kernel
theorem dX12_settle_27 : decode cX12_settle 27 = .ok (.if_icmp .ge 42, 3) := by decide +kernel
theorem dX12_settle_30 : decode cX12_settle 30 = .ok (.aload_n 0, 1) := by decide +kernel
theorem dX12_settle_31 : decode cX12_settle 31 = .ok (.getfield 33, 3) := by decide +kernel
theorem dX12_settle_34 : decode cX12_settle 34 = .ok (.bipush 10, 2) := by decide +kernel
theorem dX12_settle_36 : decode cX12_settle 36 = .ok (.iload_n 1, 1) := by decide +kernel
theorem dX12_settle_37 : decode cX12_settle 37 = .ok (.iadd, 1) := by decide +kernel
theorem dX12_settle_38 : decode cX12_settle 38 = .ok (.aload_n 0, 1) := by decide +kernel
theorem dX12_settle_39 : decode cX12_settle 39 = .ok (.getfield 30, 3) := by decide +kernel
theorem dX12_settle_42 : decode cX12_settle 42 = .ok (.bipush 20, 2) := by decide +kernel
theorem dX12_settle_44 : decode cX12_settle 44 = .ok (.iconst 3, 1) := by decide +kernel
theorem dX12_settle_45 : decode cX12_settle 45 = .ok (.iload_n 1, 1) := by decide +kernel
theorem dX12_settle_46 : decode cX12_settle 46 = .ok (.imul, 1) := by decide +kernel
theorem dX12_settle_47 : decode cX12_settle 47 = .ok (.iadd, 1) := by decide +kernel
theorem dX12_settle_48 : decode cX12_settle 48 = .ok (.iconst 1, 1) := by decide +kernel
theorem dX12_settle_49 : decode cX12_settle 49 = .ok (.iadd, 1) := by decide +kernel
theorem dX12_settle_50 : decode cX12_settle 50 = .ok (.iaload, 1) := by decide +kernel
theorem dX12_settle_51 : decode cX12_settle 51 = .ok (.iastore, 1) := by decide +kernel
theorem dX12_settle_52 : decode cX12_settle 52 = .ok (.aload_n 0, 1) := by decide +kernel
theorem dX12_settle_53 : decode cX12_settle 53 = .ok (.getfield 33, 3) := by decide +kernel
theorem dX12_settle_56 : decode cX12_settle 56 = .ok (.bipush 30, 2) := by decide +kernel
theorem dX12_settle_58 : decode cX12_settle 58 = .ok (.iload_n 1, 1) := by decide +kernel
theorem dX12_settle_59 : decode cX12_settle 59 = .ok (.iadd, 1) := by decide +kernel
theorem dX12_settle_60 : decode cX12_settle 60 = .ok (.bipush (-2), 2) := by decide +kernel
theorem dX12_settle_62 : decode cX12_settle 62 = .ok (.iastore, 1) := by decide +kernel
theorem dX12_settle_63 : decode cX12_settle 63 = .ok (.iinc 1 1, 3) := by decide +kernel
theorem dX12_settle_66 : decode cX12_settle 66 = .ok (.goto (-42), 3) := by decide +kernel
theorem dX12_settle_69 : decode cX12_settle 69 = .ok (.iconst 0, 1) := by decide +kernel
theorem dX12_settle_70 : decode cX12_settle 70 = .ok (.istore_n 1, 1) := by decide +kernel
theorem dX12_settle_71 : decode cX12_settle 71 = .ok (.iload_n 1, 1) := by decide +kernel
theorem dX12_settle_72 : decode cX12_settle 72 = .ok (.aload_n 0, 1) := by decide +kernel
theorem dX12_settle_73 : decode cX12_settle 73 = .ok (.getfield 30, 3) := by decide +kernel
theorem dX12_settle_76 : decode cX12_settle 76 = .ok (.iconst 2, 1) := by decide +kernel
theorem dX12_settle_77 : decode cX12_settle 77 = .ok (.iaload, 1) := by decide +kernel
theorem dX12_settle_78 : decode cX12_settle 78 = .ok (.if_icmp .ge 37, 3) := by decide +kernel
theorem dX12_settle_81 : decode cX12_settle 81 = .ok (.aload_n 0, 1) := by decide +kernel
theorem dX12_settle_82 : decode cX12_settle 82 = .ok (.aload_n 0, 1) := by decide +kernel
theorem dX12_settle_83 : decode cX12_settle 83 = .ok (.getfield 30, 3) := by decide +kernel
theorem dX12_settle_86 : decode cX12_settle 86 = .ok (.bipush 90, 2) := by decide +kernel
theorem dX12_settle_88 : decode cX12_settle 88 = .ok (.iconst 2, 1) := by decide +kernel
theorem dX12_settle_89 : decode cX12_settle 89 = .ok (.iload_n 1, 1) := by decide +kernel
theorem dX12_settle_90 : decode cX12_settle 90 = .ok (.imul, 1) := by decide +kernel
theorem dX12_settle_91 : decode cX12_settle 91 = .ok (.iadd, 1) := by decide +kernel
theorem dX12_settle_92 : decode cX12_settle 92 = .ok (.iaload, 1) := by decide +kernel
theorem dX12_settle_93 : decode cX12_settle 93 = .ok (.aload_n 0, 1) := by decide +kernel
theorem dX12_settle_94 : decode cX12_settle 94 = .ok (.getfield 30, 3) := by decide +kernel
theorem dX12_settle_97 : decode cX12_settle 97 = .ok (.bipush 90, 2) := by decide +kernel
theorem dX12_settle_99 : decode cX12_settle 99 = .ok (.iconst 2, 1) := by decide +kernel
theorem dX12_settle_100 : decode cX12_settle 100 = .ok (.iload_n 1, 1) := by decide +kernel
theorem dX12_settle_101 : decode cX12_settle 101 = .ok (.imul, 1) := by decide +kernel
theorem dX12_settle_102 : decode cX12_settle 102 = .ok (.iadd, 1) := by decide +kernel
theorem dX12_settle_103 : decode cX12_settle 103 = .ok (.iconst 1, 1) := by decide +kernel
theorem dX12_settle_104 : decode cX12_settle 104 = .ok (.iadd, 1) := by decide +kernel
theorem dX12_settle_105 : decode cX12_settle 105 = .ok (.iaload, 1) := by decide +kernel
theorem dX12_settle_106 : decode cX12_settle 106 = .ok (.invokevirtual 277, 3) := by decide +kernel
theorem dX12_settle_109 : decode cX12_settle 109 = .ok (.iinc 1 1, 3) := by decide +kernel
theorem dX12_settle_112 : decode cX12_settle 112 = .ok (.goto (-41), 3) := by decide +kernel
theorem dX12_settle_115 : decode cX12_settle 115 = .ok (.iconst 0, 1) := by decide +kernel
theorem dX12_settle_116 : decode cX12_settle 116 = .ok (.istore_n 1, 1) := by decide +kernel
theorem dX12_settle_117 : decode cX12_settle 117 = .ok (.iload_n 1, 1) := by decide +kernel
theorem dX12_settle_118 : decode cX12_settle 118 = .ok (.bipush 8, 2) := by decide +kernel
theorem dX12_settle_120 : decode cX12_settle 120 = .ok (.if_icmp .ge 32, 3) := by decide +kernel
theorem dX12_settle_123 : decode cX12_settle 123 = .ok (.aload_n 0, 1) := by decide +kernel
theorem dX12_settle_124 : decode cX12_settle 124 = .ok (.getfield 33, 3) := by decide +kernel
theorem dX12_settle_127 : decode cX12_settle 127 = .ok (.bipush 50, 2) := by decide +kernel
theorem dX12_settle_129 : decode cX12_settle 129 = .ok (.iload_n 1, 1) := by decide +kernel
theorem dX12_settle_130 : decode cX12_settle 130 = .ok (.iadd, 1) := by decide +kernel
theorem dX12_settle_131 : decode cX12_settle 131 = .ok (.aload_n 0, 1) := by decide +kernel
theorem dX12_settle_132 : decode cX12_settle 132 = .ok (.getfield 30, 3) := by decide +kernel
theorem dX12_settle_135 : decode cX12_settle 135 = .ok (.sipush 170, 3) := by decide +kernel
theorem dX12_settle_138 : decode cX12_settle 138 = .ok (.iconst 2, 1) := by decide +kernel
theorem dX12_settle_139 : decode cX12_settle 139 = .ok (.iload_n 1, 1) := by decide +kernel
theorem dX12_settle_140 : decode cX12_settle 140 = .ok (.imul, 1) := by decide +kernel
theorem dX12_settle_141 : decode cX12_settle 141 = .ok (.iadd, 1) := by decide +kernel
theorem dX12_settle_142 : decode cX12_settle 142 = .ok (.iconst 1, 1) := by decide +kernel
theorem dX12_settle_143 : decode cX12_settle 143 = .ok (.iadd, 1) := by decide +kernel
theorem dX12_settle_144 : decode cX12_settle 144 = .ok (.iaload, 1) := by decide +kernel
theorem dX12_settle_145 : decode cX12_settle 145 = .ok (.iastore, 1) := by decide +kernel
theorem dX12_settle_146 : decode cX12_settle 146 = .ok (.iinc 1 1, 3) := by decide +kernel
theorem dX12_settle_149 : decode cX12_settle 149 = .ok (.goto (-32), 3) := by decide +kernel
theorem dX12_settle_152 : decode cX12_settle 152 = .ok (.aload_n 0, 1) := by decide +kernel
theorem dX12_settle_153 : decode cX12_settle 153 = .ok (.iconst 0, 1) := by decide +kernel
theorem dX12_settle_154 : decode cX12_settle 154 = .ok (.putfield 280, 3) := by decide +kernel
theorem dX12_settle_157 : decode cX12_settle 157 = .ok (.aload_n 0, 1) := by decide +kernel
theorem dX12_settle_158 : decode cX12_settle 158 = .ok (.iconst 0, 1) := by decide +kernel
theorem dX12_settle_159 : decode cX12_settle 159 = .ok (.putfield 283, 3) := by decide +kernel
theorem dX12_settle_162 : decode cX12_settle 162 = .ok (.aload_n 0, 1) := by decide +kernel
theorem dX12_settle_163 : decode cX12_settle 163 = .ok (.getfield 67, 3) := by decide +kernel
theorem dX12_settle_166 : decode cX12_settle 166 = .ok (.iconst 1, 1) := by decide +kernel
theorem dX12_settle_167 : decode cX12_settle 167 = .ok (.iconst 0, 1) := by decide +kernel
theorem dX12_settle_168 : decode cX12_settle 168 = .ok (.bastore, 1) := by decide +kernel
theorem dX12_settle_169 : decode cX12_settle 169 = .ok (.aload_n 0, 1) := by decide +kernel
theorem dX12_settle_170 : decode cX12_settle 170 = .ok (.getfield 67, 3) := by decide +kernel
theorem dX12_settle_173 : decode cX12_settle 173 = .ok (.iconst 2, 1) := by decide +kernel
theorem dX12_settle_174 : decode cX12_settle 174 = .ok (.iconst 0, 1) := by decide +kernel
theorem dX12_settle_175 : decode cX12_settle 175 = .ok (.bastore, 1) := by decide +kernel
theorem dX12_settle_176 : decode cX12_settle 176 = .ok (.return_, 1) := by decide +kernel
theorem b_X12_settle (mm : MM) (Q : Value → MM → Prop) (h : G e_X12_settle 2 [(0, .ref 156), (1, .int (0 : Int32))] [] mm Q) : Runs e_X12_settle [.ref 156] mm Q := by
  refine runs_of_G (L := [(0, .ref 156)]) pl_X12 (Nat.le_of_ble_eq_true rfl) rfl ?_
  refine g_iconst (pc := 0) (v := (0 : Int32)) dX12_settle_0 (by decide) ?_
  refine g_istore_n (pc := 1) (L' := [(0, .ref 156), (1, .int (0 : Int32))]) dX12_settle_1 (Nat.le_of_ble_eq_true rfl) rfl ?_
  exact h
theorem b_X12_settle_2 (mm : MM) (Q : Value → MM → Prop) (l1 : Int32) (h : ((420 : Int32) ≤ l1 → (G e_X12_settle 24 [(0, .ref 156), (1, .int (0 : Int32))] [] mm Q)) ∧ (¬ (420 : Int32) ≤ l1 → (vp_in l1 1260 ∧ (G e_X12_settle 2 [(0, .ref 156), (1, .int (l1 + (1 : Int32)))] [] (wI mm 163 (l1.toNatClampNeg) (0 : Int32)) Q)))) : G e_X12_settle 2 [(0, .ref 156), (1, .int l1)] [] mm Q := by
  refine g_iload_n (pc := 2) (x := l1) dX12_settle_2 rfl ?_
  refine g_sipush (pc := 3) (v := (420 : Int32)) dX12_settle_3 (by decide) ?_
  refine g_icmp_ge (pc := 6) (tgt := 22) dX12_settle_6 (by decide) (fun c6 => ?_) (fun c6 => ?_)
  · have h := h.1 c6
    refine g_iconst (pc := 22) (v := (0 : Int32)) dX12_settle_22 (by decide) ?_
    refine g_istore_n (pc := 23) (L' := [(0, .ref 156), (1, .int (0 : Int32))]) dX12_settle_23 (Nat.le_of_ble_eq_true rfl) rfl ?_
    exact h
  · have h := h.2 c6
    refine g_aload_n (pc := 9) (x := 156) dX12_settle_9 rfl ?_
    refine g_getR (pc := 10) (dd := 7) dX12_settle_10 fo_X12_33 sh_156 rfl ?_
    refine g_iload_n (pc := 13) (x := l1) dX12_settle_13 rfl ?_
    refine g_iconst (pc := 14) (v := (0 : Int32)) dX12_settle_14 (by decide) ?_
    refine g_iastore (pc := 15) dX12_settle_15 sh_163 h.1 ?_
    have h := h.2
    refine g_iinc (pc := 16) (x := l1) (v := (l1 + (1 : Int32))) (L' := [(0, .ref 156), (1, .int (l1 + (1 : Int32)))]) dX12_settle_16 rfl rfl (Nat.le_of_ble_eq_true rfl) rfl ?_
    refine g_goto (pc := 19) (tgt := 2) dX12_settle_19 (by decide) ?_
    exact h
theorem b_X12_settle_24 (mm : MM) (Q : Value → MM → Prop) (l1 : Int32) (h : ((16 : Int32) ≤ l1 → (G e_X12_settle 71 [(0, .ref 156), (1, .int (0 : Int32))] [] mm Q)) ∧ (¬ (16 : Int32) ≤ l1 → (vp_in (((20 : Int32) + ((3 : Int32) * l1)) + (1 : Int32)) 420 ∧ (vp_in ((10 : Int32) + l1) 1260 ∧ (vp_in ((30 : Int32) + l1) 1260 ∧ (G e_X12_settle 24 [(0, .ref 156), (1, .int (l1 + (1 : Int32)))] [] (wI (wI mm 163 (((10 : Int32) + l1).toNatClampNeg) (mm.1 162 (((20 : Int32) + ((3 : Int32) * l1)) + (1 : Int32)).toNatClampNeg)) 163 (((30 : Int32) + l1).toNatClampNeg) (-2 : Int32)) Q)))))) : G e_X12_settle 24 [(0, .ref 156), (1, .int l1)] [] mm Q := by
  refine g_iload_n (pc := 24) (x := l1) dX12_settle_24 rfl ?_
  refine g_bipush (pc := 25) (v := (16 : Int32)) dX12_settle_25 (by decide) ?_
  refine g_icmp_ge (pc := 27) (tgt := 69) dX12_settle_27 (by decide) (fun c27 => ?_) (fun c27 => ?_)
  · have h := h.1 c27
    refine g_iconst (pc := 69) (v := (0 : Int32)) dX12_settle_69 (by decide) ?_
    refine g_istore_n (pc := 70) (L' := [(0, .ref 156), (1, .int (0 : Int32))]) dX12_settle_70 (Nat.le_of_ble_eq_true rfl) rfl ?_
    exact h
  · have h := h.2 c27
    refine g_aload_n (pc := 30) (x := 156) dX12_settle_30 rfl ?_
    refine g_getR (pc := 31) (dd := 7) dX12_settle_31 fo_X12_33 sh_156 rfl ?_
    refine g_bipush (pc := 34) (v := (10 : Int32)) dX12_settle_34 (by decide) ?_
    refine g_iload_n (pc := 36) (x := l1) dX12_settle_36 rfl ?_
    refine g_iadd (pc := 37) dX12_settle_37 ?_
    refine g_aload_n (pc := 38) (x := 156) dX12_settle_38 rfl ?_
    refine g_getR (pc := 39) (dd := 6) dX12_settle_39 fo_X12_30 sh_156 rfl ?_
    refine g_bipush (pc := 42) (v := (20 : Int32)) dX12_settle_42 (by decide) ?_
    refine g_iconst (pc := 44) (v := (3 : Int32)) dX12_settle_44 (by decide) ?_
    refine g_iload_n (pc := 45) (x := l1) dX12_settle_45 rfl ?_
    refine g_imul (pc := 46) dX12_settle_46 ?_
    refine g_iadd (pc := 47) dX12_settle_47 ?_
    refine g_iconst (pc := 48) (v := (1 : Int32)) dX12_settle_48 (by decide) ?_
    refine g_iadd (pc := 49) dX12_settle_49 ?_
    refine g_iaload (pc := 50) dX12_settle_50 sh_162 h.1 ?_
    have h := h.2
    refine g_iastore (pc := 51) dX12_settle_51 sh_163 h.1 ?_
    have h := h.2
    refine g_aload_n (pc := 52) (x := 156) dX12_settle_52 rfl ?_
    refine g_getR (pc := 53) (dd := 7) dX12_settle_53 fo_X12_33 sh_156 rfl ?_
    refine g_bipush (pc := 56) (v := (30 : Int32)) dX12_settle_56 (by decide) ?_
    refine g_iload_n (pc := 58) (x := l1) dX12_settle_58 rfl ?_
    refine g_iadd (pc := 59) dX12_settle_59 ?_
    refine g_bipush (pc := 60) (v := (-2 : Int32)) dX12_settle_60 (by decide) ?_
    refine g_iastore (pc := 62) dX12_settle_62 sh_163 h.1 ?_
    have h := h.2
    refine g_iinc (pc := 63) (x := l1) (v := (l1 + (1 : Int32))) (L' := [(0, .ref 156), (1, .int (l1 + (1 : Int32)))]) dX12_settle_63 rfl rfl (Nat.le_of_ble_eq_true rfl) rfl ?_
    refine g_goto (pc := 66) (tgt := 24) dX12_settle_66 (by decide) ?_
    exact h
theorem b_X12_settle_71 (mm : MM) (Q : Value → MM → Prop) (l1 : Int32) (h : ((mm.1 162 2) ≤ l1 → (G e_X12_settle 117 [(0, .ref 156), (1, .int (0 : Int32))] [] mm Q)) ∧ (¬ (mm.1 162 2) ≤ l1 → (vp_in ((90 : Int32) + ((2 : Int32) * l1)) 420 ∧ (vp_in (((90 : Int32) + ((2 : Int32) * l1)) + (1 : Int32)) 420 ∧ (∃ Pm1 : Value → MM → Prop, Runs e_X12_gives [.ref 156, .int (mm.1 162 ((90 : Int32) + ((2 : Int32) * l1)).toNatClampNeg), .int (mm.1 162 (((90 : Int32) + ((2 : Int32) * l1)) + (1 : Int32)).toNatClampNeg)] mm Pm1 ∧ ∀ m1, Pm1 .null m1 → (G e_X12_settle 71 [(0, .ref 156), (1, .int (l1 + (1 : Int32)))] [] m1 Q)))))) : G e_X12_settle 71 [(0, .ref 156), (1, .int l1)] [] mm Q := by
  refine g_iload_n (pc := 71) (x := l1) dX12_settle_71 rfl ?_
  refine g_aload_n (pc := 72) (x := 156) dX12_settle_72 rfl ?_
  refine g_getR (pc := 73) (dd := 6) dX12_settle_73 fo_X12_30 sh_156 rfl ?_
  refine g_iconst (pc := 76) (v := (2 : Int32)) dX12_settle_76 (by decide) ?_
  refine g_iaload (pc := 77) dX12_settle_77 sh_162 (vp_in_nI (n := 2) (N := 420) (by decide) (by decide)) ?_
  refine g_icmp_ge (pc := 78) (tgt := 115) dX12_settle_78 (by decide) (fun c78 => ?_) (fun c78 => ?_)
  · have h := h.1 c78
    refine g_iconst (pc := 115) (v := (0 : Int32)) dX12_settle_115 (by decide) ?_
    refine g_istore_n (pc := 116) (L' := [(0, .ref 156), (1, .int (0 : Int32))]) dX12_settle_116 (Nat.le_of_ble_eq_true rfl) rfl ?_
    exact h
  · have h := h.2 c78
    refine g_aload_n (pc := 81) (x := 156) dX12_settle_81 rfl ?_
    refine g_aload_n (pc := 82) (x := 156) dX12_settle_82 rfl ?_
    refine g_getR (pc := 83) (dd := 6) dX12_settle_83 fo_X12_30 sh_156 rfl ?_
    refine g_bipush (pc := 86) (v := (90 : Int32)) dX12_settle_86 (by decide) ?_
    refine g_iconst (pc := 88) (v := (2 : Int32)) dX12_settle_88 (by decide) ?_
    refine g_iload_n (pc := 89) (x := l1) dX12_settle_89 rfl ?_
    refine g_imul (pc := 90) dX12_settle_90 ?_
    refine g_iadd (pc := 91) dX12_settle_91 ?_
    refine g_iaload (pc := 92) dX12_settle_92 sh_162 h.1 ?_
    have h := h.2
    refine g_aload_n (pc := 93) (x := 156) dX12_settle_93 rfl ?_
    refine g_getR (pc := 94) (dd := 6) dX12_settle_94 fo_X12_30 sh_156 rfl ?_
    refine g_bipush (pc := 97) (v := (90 : Int32)) dX12_settle_97 (by decide) ?_
    refine g_iconst (pc := 99) (v := (2 : Int32)) dX12_settle_99 (by decide) ?_
    refine g_iload_n (pc := 100) (x := l1) dX12_settle_100 rfl ?_
    refine g_imul (pc := 101) dX12_settle_101 ?_
    refine g_iadd (pc := 102) dX12_settle_102 ?_
    refine g_iconst (pc := 103) (v := (1 : Int32)) dX12_settle_103 (by decide) ?_
    refine g_iadd (pc := 104) dX12_settle_104 ?_
    refine g_iaload (pc := 105) dX12_settle_105 sh_162 h.1 ?_
    have h := h.2
    obtain ⟨Pm1, hRm1, h⟩ := h
    refine g_callV (pc := 106) (as := [.int (mm.1 162 ((90 : Int32) + ((2 : Int32) * l1)).toNatClampNeg), .int (mm.1 162 (((90 : Int32) + ((2 : Int32) * l1)) + (1 : Int32)).toNatClampNeg)]) dX12_settle_106 cw_X12_277 (by decide) rfl rfl sh_156 (Nat.le_of_ble_eq_true rfl) hRm1 ?_
    intro r_ m1 hz_ hp_
    obtain rfl := hz_
    have h := h m1 hp_
    refine g_iinc (pc := 109) (x := l1) (v := (l1 + (1 : Int32))) (L' := [(0, .ref 156), (1, .int (l1 + (1 : Int32)))]) dX12_settle_109 rfl rfl (Nat.le_of_ble_eq_true rfl) rfl ?_
    refine g_goto (pc := 112) (tgt := 71) dX12_settle_112 (by decide) ?_
    exact h
theorem b_X12_settle_117 (mm : MM) (Q : Value → MM → Prop) (l1 : Int32) (h : ((8 : Int32) ≤ l1 → (Q .null (wI (wI (wI (wI mm 156 50 (0 : Int32)) 156 40 (0 : Int32)) 174 1 (vp_nar .boolean (0 : Int32))) 174 2 (vp_nar .boolean (0 : Int32))))) ∧ (¬ (8 : Int32) ≤ l1 → (vp_in (((170 : Int32) + ((2 : Int32) * l1)) + (1 : Int32)) 420 ∧ (vp_in ((50 : Int32) + l1) 1260 ∧ (G e_X12_settle 117 [(0, .ref 156), (1, .int (l1 + (1 : Int32)))] [] (wI mm 163 (((50 : Int32) + l1).toNatClampNeg) (mm.1 162 (((170 : Int32) + ((2 : Int32) * l1)) + (1 : Int32)).toNatClampNeg)) Q))))) : G e_X12_settle 117 [(0, .ref 156), (1, .int l1)] [] mm Q := by
  refine g_iload_n (pc := 117) (x := l1) dX12_settle_117 rfl ?_
  refine g_bipush (pc := 118) (v := (8 : Int32)) dX12_settle_118 (by decide) ?_
  refine g_icmp_ge (pc := 120) (tgt := 152) dX12_settle_120 (by decide) (fun c120 => ?_) (fun c120 => ?_)
  · have h := h.1 c120
    refine g_aload_n (pc := 152) (x := 156) dX12_settle_152 rfl ?_
    refine g_iconst (pc := 153) (v := (0 : Int32)) dX12_settle_153 (by decide) ?_
    refine g_putI (pc := 154) dX12_settle_154 fo_X12_280 sh_156 rfl rfl rfl ?_
    refine g_aload_n (pc := 157) (x := 156) dX12_settle_157 rfl ?_
    refine g_iconst (pc := 158) (v := (0 : Int32)) dX12_settle_158 (by decide) ?_
    refine g_putI (pc := 159) dX12_settle_159 fo_X12_283 sh_156 rfl rfl rfl ?_
    refine g_aload_n (pc := 162) (x := 156) dX12_settle_162 rfl ?_
    refine g_getR (pc := 163) (dd := 18) dX12_settle_163 fo_X12_67 sh_156 rfl ?_
    refine g_iconst (pc := 166) (v := (1 : Int32)) dX12_settle_166 (by decide) ?_
    refine g_iconst (pc := 167) (v := (0 : Int32)) dX12_settle_167 (by decide) ?_
    refine g_zastore (pc := 168) dX12_settle_168 sh_174 (vp_in_nI (n := 1) (N := 3) (by decide) (by decide)) ?_
    refine g_aload_n (pc := 169) (x := 156) dX12_settle_169 rfl ?_
    refine g_getR (pc := 170) (dd := 18) dX12_settle_170 fo_X12_67 sh_156 rfl ?_
    refine g_iconst (pc := 173) (v := (2 : Int32)) dX12_settle_173 (by decide) ?_
    refine g_iconst (pc := 174) (v := (0 : Int32)) dX12_settle_174 (by decide) ?_
    refine g_zastore (pc := 175) dX12_settle_175 sh_174 (vp_in_nI (n := 2) (N := 3) (by decide) (by decide)) ?_
    exact g_vret (pc := 176) dX12_settle_176 rfl rfl h
  · have h := h.2 c120
    refine g_aload_n (pc := 123) (x := 156) dX12_settle_123 rfl ?_
    refine g_getR (pc := 124) (dd := 7) dX12_settle_124 fo_X12_33 sh_156 rfl ?_
    refine g_bipush (pc := 127) (v := (50 : Int32)) dX12_settle_127 (by decide) ?_
    refine g_iload_n (pc := 129) (x := l1) dX12_settle_129 rfl ?_
    refine g_iadd (pc := 130) dX12_settle_130 ?_
    refine g_aload_n (pc := 131) (x := 156) dX12_settle_131 rfl ?_
    refine g_getR (pc := 132) (dd := 6) dX12_settle_132 fo_X12_30 sh_156 rfl ?_
    refine g_sipush (pc := 135) (v := (170 : Int32)) dX12_settle_135 (by decide) ?_
    refine g_iconst (pc := 138) (v := (2 : Int32)) dX12_settle_138 (by decide) ?_
    refine g_iload_n (pc := 139) (x := l1) dX12_settle_139 rfl ?_
    refine g_imul (pc := 140) dX12_settle_140 ?_
    refine g_iadd (pc := 141) dX12_settle_141 ?_
    refine g_iconst (pc := 142) (v := (1 : Int32)) dX12_settle_142 (by decide) ?_
    refine g_iadd (pc := 143) dX12_settle_143 ?_
    refine g_iaload (pc := 144) dX12_settle_144 sh_162 h.1 ?_
    have h := h.2
    refine g_iastore (pc := 145) dX12_settle_145 sh_163 h.1 ?_
    have h := h.2
    refine g_iinc (pc := 146) (x := l1) (v := (l1 + (1 : Int32))) (L' := [(0, .ref 156), (1, .int (l1 + (1 : Int32)))]) dX12_settle_146 rfl rfl (Nat.le_of_ble_eq_true rfl) rfl ?_
    refine g_goto (pc := 149) (tgt := 117) dX12_settle_149 (by decide) ?_
    exact h
theorem dX12_names_0 : decode cX12_names 0 = .ok (.aload_n 0, 1) := by decide +kernel
theorem dX12_names_1 : decode cX12_names 1 = .ok (.getfield 218, 3) := by decide +kernel
theorem dX12_names_4 : decode cX12_names 4 = .ok (.istore_n 3, 1) := by decide +kernel
theorem dX12_names_5 : decode cX12_names 5 = .ok (.aload_n 0, 1) := by decide +kernel
theorem dX12_names_6 : decode cX12_names 6 = .ok (.iconst 0, 1) := by decide +kernel
theorem dX12_names_7 : decode cX12_names 7 = .ok (.invokevirtual 234, 3) := by decide +kernel
theorem dX12_names_10 : decode cX12_names 10 = .ok (.ifCond .ne 5, 3) := by decide +kernel
theorem dX12_names_13 : decode cX12_names 13 = .ok (.iconst 0, 1) := by decide +kernel
theorem dX12_names_14 : decode cX12_names 14 = .ok (.ireturn, 1) := by decide +kernel
theorem dX12_names_15 : decode cX12_names 15 = .ok (.iconst 0, 1) := by decide +kernel
theorem dX12_names_16 : decode cX12_names 16 = .ok (.istore 4, 2) := by decide +kernel
theorem dX12_names_18 : decode cX12_names 18 = .ok (.iload 4, 2) := by decide +kernel
theorem dX12_names_20 : decode cX12_names 20 = .ok (.aload_n 0, 1) := by decide +kernel
theorem dX12_names_21 : decode cX12_names 21 = .ok (.getfield 286, 3) := by decide +kernel
theorem dX12_names_24 : decode cX12_names 24 = .ok (.if_icmp .ge 32, 3) := by decide +kernel
theorem dX12_names_27 : decode cX12_names 27 = .ok (.aload_n 0, 1) := by decide +kernel
theorem dX12_names_28 : decode cX12_names 28 = .ok (.getfield 70, 3) := by decide +kernel
theorem dX12_names_31 : decode cX12_names 31 = .ok (.iload 4, 2) := by decide +kernel
theorem dX12_names_33 : decode cX12_names 33 = .ok (.laload, 1) := by decide +kernel
theorem dX12_names_34 : decode cX12_names 34 = .ok (.aload_n 0, 1) := by decide +kernel
theorem dX12_names_35 : decode cX12_names 35 = .ok (.getfield 22, 3) := by decide +kernel
theorem dX12_names_38 : decode cX12_names 38 = .ok (.iload_n 3, 1) := by decide +kernel
theorem dX12_names_39 : decode cX12_names 39 = .ok (.laload, 1) := by decide +kernel
theorem dX12_names_40 : decode cX12_names 40 = .ok (.lcmp, 1) := by decide +kernel
theorem dX12_names_41 : decode cX12_names 41 = .ok (.ifCond .ne 9, 3) := by decide +kernel
theorem dX12_names_44 : decode cX12_names 44 = .ok (.aload_n 0, 1) := by decide +kernel
theorem dX12_names_45 : decode cX12_names 45 = .ok (.iconst 3, 1) := by decide +kernel
theorem dX12_names_46 : decode cX12_names 46 = .ok (.iload_n 3, 1) := by decide +kernel
theorem dX12_names_47 : decode cX12_names 47 = .ok (.invokevirtual 240, 3) := by decide +kernel
theorem dX12_names_50 : decode cX12_names 50 = .ok (.iinc 4 1, 3) := by decide +kernel
theorem dX12_names_53 : decode cX12_names 53 = .ok (.goto (-35), 3) := by decide +kernel
theorem dX12_names_56 : decode cX12_names 56 = .ok (.aload_n 0, 1) := by decide +kernel
theorem dX12_names_57 : decode cX12_names 57 = .ok (.getfield 70, 3) := by decide +kernel
theorem dX12_names_60 : decode cX12_names 60 = .ok (.aload_n 0, 1) := by decide +kernel
theorem dX12_names_61 : decode cX12_names 61 = .ok (.getfield 286, 3) := by decide +kernel
theorem dX12_names_64 : decode cX12_names 64 = .ok (.aload_n 0, 1) := by decide +kernel
theorem dX12_names_65 : decode cX12_names 65 = .ok (.getfield 22, 3) := by decide +kernel
theorem dX12_names_68 : decode cX12_names 68 = .ok (.iload_n 3, 1) := by decide +kernel
theorem dX12_names_69 : decode cX12_names 69 = .ok (.laload, 1) := by decide +kernel
theorem dX12_names_70 : decode cX12_names 70 = .ok (.lastore, 1) := by decide +kernel
theorem dX12_names_71 : decode cX12_names 71 = .ok (.aload_n 0, 1) := by decide +kernel
theorem dX12_names_72 : decode cX12_names 72 = .ok (.getfield 73, 3) := by decide +kernel
theorem dX12_names_75 : decode cX12_names 75 = .ok (.aload_n 0, 1) := by decide +kernel
theorem dX12_names_76 : decode cX12_names 76 = .ok (.getfield 286, 3) := by decide +kernel
theorem dX12_names_79 : decode cX12_names 79 = .ok (.iload_n 1, 1) := by decide +kernel
theorem dX12_names_80 : decode cX12_names 80 = .ok (.iastore, 1) := by decide +kernel
theorem dX12_names_81 : decode cX12_names 81 = .ok (.aload_n 0, 1) := by decide +kernel
theorem dX12_names_82 : decode cX12_names 82 = .ok (.getfield 76, 3) := by decide +kernel
theorem dX12_names_85 : decode cX12_names 85 = .ok (.aload_n 0, 1) := by decide +kernel
theorem dX12_names_86 : decode cX12_names 86 = .ok (.getfield 286, 3) := by decide +kernel
theorem dX12_names_89 : decode cX12_names 89 = .ok (.iload_n 2, 1) := by decide +kernel
theorem dX12_names_90 : decode cX12_names 90 = .ok (.iastore, 1) := by decide +kernel
theorem dX12_names_91 : decode cX12_names 91 = .ok (.aload_n 0, 1) := by decide +kernel
theorem dX12_names_92 : decode cX12_names 92 = .ok (.dup, 1) := by decide +kernel
theorem dX12_names_93 : decode cX12_names 93 = .ok (.getfield 286, 3) := by decide +kernel
theorem dX12_names_96 : decode cX12_names 96 = .ok (.iconst 1, 1) := by decide +kernel
theorem dX12_names_97 : decode cX12_names 97 = .ok (.iadd, 1) := by decide +kernel
theorem dX12_names_98 : decode cX12_names 98 = .ok (.putfield 286, 3) := by decide +kernel
theorem dX12_names_101 : decode cX12_names 101 = .ok (.iconst 1, 1) := by decide +kernel
theorem dX12_names_102 : decode cX12_names 102 = .ok (.ireturn, 1) := by decide +kernel
theorem b_X12_names (mm : MM) (Q : Value → MM → Prop) (a1 : Int32) (a2 : Int32) (h : ∃ Pm1 : Value → MM → Prop, Runs e_X12_takes [.ref 156, .int (0 : Int32)] mm Pm1 ∧ (∀ r m1, Pm1 r m1 → r = .int 1 ∨ r = .int 0) ∧ (∀ m1, Pm1 (.int 1) m1 → (G e_X12_names 18 [(0, .ref 156), (1, .int a1), (2, .int a2), (3, .int (mm.1 156 7)), (4, .int (0 : Int32))] [] m1 Q)) ∧ (∀ m1, Pm1 (.int 0) m1 → (Q (.int (0 : Int32)) m1))) : Runs e_X12_names [.ref 156, .int a1, .int a2] mm Q := by
  refine runs_of_G (L := [(0, .ref 156), (1, .int a1), (2, .int a2)]) pl_X12 (Nat.le_of_ble_eq_true rfl) rfl ?_
  refine g_aload_n (pc := 0) (x := 156) dX12_names_0 rfl ?_
  refine g_getI (pc := 1) dX12_names_1 fo_X12_218 sh_156 rfl ?_
  refine g_istore_n (pc := 4) (L' := [(0, .ref 156), (1, .int a1), (2, .int a2), (3, .int (mm.1 156 7))]) dX12_names_4 (Nat.le_of_ble_eq_true rfl) rfl ?_
  refine g_aload_n (pc := 5) (x := 156) dX12_names_5 rfl ?_
  refine g_iconst (pc := 6) (v := (0 : Int32)) dX12_names_6 (by decide) ?_
  obtain ⟨Pm1, hRm1, h⟩ := h
  refine g_callV (pc := 7) (as := [.int (0 : Int32)]) dX12_names_7 cw_X12_234 (by decide) rfl rfl sh_156 (Nat.le_of_ble_eq_true rfl) hRm1 ?_
  intro r_ m1 hz_ hp_
  rcases h.1 r_ m1 hp_ with rfl | rfl
  · have h := h.2.1 m1 hp_
    refine g_if_ne (pc := 10) (tgt := 15) dX12_names_10 (by decide) (fun _ => ?_) (fun c10 => absurd c10 (by decide))
    refine g_iconst (pc := 15) (v := (0 : Int32)) dX12_names_15 (by decide) ?_
    refine g_istore (pc := 16) (L' := [(0, .ref 156), (1, .int a1), (2, .int a2), (3, .int (mm.1 156 7)), (4, .int (0 : Int32))]) dX12_names_16 (Nat.le_of_ble_eq_true rfl) rfl ?_
    exact h
  · have h := h.2.2 m1 hp_
    refine g_if_ne (pc := 10) (tgt := 15) dX12_names_10 (by decide) (fun c10 => absurd c10 (by decide)) (fun _ => ?_)
    refine g_iconst (pc := 13) (v := (0 : Int32)) dX12_names_13 (by decide) ?_
    exact g_iret (pc := 14) dX12_names_14 rfl rfl (nar_B isB0) h
theorem b_X12_names_18 (mm : MM) (Q : Value → MM → Prop) (l1 : Int32) (l2 : Int32) (l3 : Int32) (l4 : Int32) (h : ((mm.1 156 25) ≤ l4 → (vp_in l3 2001 ∧ (vp_in (mm.1 156 25) 30 ∧ (vp_in ((wLg mm 175 ((mm.1 156 25).toNatClampNeg) (mm.2.1 161 l3.toNatClampNeg)).1 156 25) 30 ∧ (vp_in ((wI (wLg mm 175 ((mm.1 156 25).toNatClampNeg) (mm.2.1 161 l3.toNatClampNeg)) 176 (((wLg mm 175 ((mm.1 156 25).toNatClampNeg) (mm.2.1 161 l3.toNatClampNeg)).1 156 25).toNatClampNeg) l1).1 156 25) 30 ∧ (Q (.int (1 : Int32)) (wI (wI (wI (wLg mm 175 ((mm.1 156 25).toNatClampNeg) (mm.2.1 161 l3.toNatClampNeg)) 176 (((wLg mm 175 ((mm.1 156 25).toNatClampNeg) (mm.2.1 161 l3.toNatClampNeg)).1 156 25).toNatClampNeg) l1) 177 (((wI (wLg mm 175 ((mm.1 156 25).toNatClampNeg) (mm.2.1 161 l3.toNatClampNeg)) 176 (((wLg mm 175 ((mm.1 156 25).toNatClampNeg) (mm.2.1 161 l3.toNatClampNeg)).1 156 25).toNatClampNeg) l1).1 156 25).toNatClampNeg) l2) 156 25 (((wI (wI (wLg mm 175 ((mm.1 156 25).toNatClampNeg) (mm.2.1 161 l3.toNatClampNeg)) 176 (((wLg mm 175 ((mm.1 156 25).toNatClampNeg) (mm.2.1 161 l3.toNatClampNeg)).1 156 25).toNatClampNeg) l1) 177 (((wI (wLg mm 175 ((mm.1 156 25).toNatClampNeg) (mm.2.1 161 l3.toNatClampNeg)) 176 (((wLg mm 175 ((mm.1 156 25).toNatClampNeg) (mm.2.1 161 l3.toNatClampNeg)).1 156 25).toNatClampNeg) l1).1 156 25).toNatClampNeg) l2).1 156 25) + (1 : Int32))))))))) ∧ (¬ (mm.1 156 25) ≤ l4 → (vp_in l4 30 ∧ (vp_in l3 2001 ∧ ((¬ (lg_cmp (mm.2.1 175 l4.toNatClampNeg) (mm.2.1 161 l3.toNatClampNeg)) = 0 → (G e_X12_names 18 [(0, .ref 156), (1, .int l1), (2, .int l2), (3, .int l3), (4, .int (l4 + (1 : Int32)))] [] mm Q)) ∧ ((lg_cmp (mm.2.1 175 l4.toNatClampNeg) (mm.2.1 161 l3.toNatClampNeg)) = 0 → (∃ Pm1 : Value → MM → Prop, Runs e_X12_tells [.ref 156, .int (3 : Int32), .int l3] mm Pm1 ∧ ∀ m1, Pm1 .null m1 → (G e_X12_names 18 [(0, .ref 156), (1, .int l1), (2, .int l2), (3, .int l3), (4, .int (l4 + (1 : Int32)))] [] m1 Q)))))))) : G e_X12_names 18 [(0, .ref 156), (1, .int l1), (2, .int l2), (3, .int l3), (4, .int l4)] [] mm Q := by
  refine g_iload (pc := 18) (x := l4) dX12_names_18 rfl ?_
  refine g_aload_n (pc := 20) (x := 156) dX12_names_20 rfl ?_
  refine g_getI (pc := 21) dX12_names_21 fo_X12_286 sh_156 rfl ?_
  refine g_icmp_ge (pc := 24) (tgt := 56) dX12_names_24 (by decide) (fun c24 => ?_) (fun c24 => ?_)
  · have h := h.1 c24
    refine g_aload_n (pc := 56) (x := 156) dX12_names_56 rfl ?_
    refine g_getR (pc := 57) (dd := 19) dX12_names_57 fo_X12_70 sh_156 rfl ?_
    refine g_aload_n (pc := 60) (x := 156) dX12_names_60 rfl ?_
    refine g_getI (pc := 61) dX12_names_61 fo_X12_286 sh_156 rfl ?_
    refine g_aload_n (pc := 64) (x := 156) dX12_names_64 rfl ?_
    refine g_getR (pc := 65) (dd := 5) dX12_names_65 fo_X12_22 sh_156 rfl ?_
    refine g_iload_n (pc := 68) (x := l3) dX12_names_68 rfl ?_
    refine g_laload (pc := 69) dX12_names_69 sh_161 h.1 ?_
    have h := h.2
    refine g_lastore (pc := 70) dX12_names_70 sh_175 h.1 ?_
    have h := h.2
    refine g_aload_n (pc := 71) (x := 156) dX12_names_71 rfl ?_
    refine g_getR (pc := 72) (dd := 20) dX12_names_72 fo_X12_73 sh_156 rfl ?_
    refine g_aload_n (pc := 75) (x := 156) dX12_names_75 rfl ?_
    refine g_getI (pc := 76) dX12_names_76 fo_X12_286 sh_156 rfl ?_
    refine g_iload_n (pc := 79) (x := l1) dX12_names_79 rfl ?_
    refine g_iastore (pc := 80) dX12_names_80 sh_176 h.1 ?_
    have h := h.2
    refine g_aload_n (pc := 81) (x := 156) dX12_names_81 rfl ?_
    refine g_getR (pc := 82) (dd := 21) dX12_names_82 fo_X12_76 sh_156 rfl ?_
    refine g_aload_n (pc := 85) (x := 156) dX12_names_85 rfl ?_
    refine g_getI (pc := 86) dX12_names_86 fo_X12_286 sh_156 rfl ?_
    refine g_iload_n (pc := 89) (x := l2) dX12_names_89 rfl ?_
    refine g_iastore (pc := 90) dX12_names_90 sh_177 h.1 ?_
    have h := h.2
    refine g_aload_n (pc := 91) (x := 156) dX12_names_91 rfl ?_
    refine g_dup (pc := 92) dX12_names_92 rfl ?_
    refine g_getI (pc := 93) dX12_names_93 fo_X12_286 sh_156 rfl ?_
    refine g_iconst (pc := 96) (v := (1 : Int32)) dX12_names_96 (by decide) ?_
    refine g_iadd (pc := 97) dX12_names_97 ?_
    refine g_putI (pc := 98) dX12_names_98 fo_X12_286 sh_156 rfl rfl rfl ?_
    refine g_iconst (pc := 101) (v := (1 : Int32)) dX12_names_101 (by decide) ?_
    exact g_iret (pc := 102) dX12_names_102 rfl rfl (nar_B isB1) h
  · have h := h.2 c24
    refine g_aload_n (pc := 27) (x := 156) dX12_names_27 rfl ?_
    refine g_getR (pc := 28) (dd := 19) dX12_names_28 fo_X12_70 sh_156 rfl ?_
    refine g_iload (pc := 31) (x := l4) dX12_names_31 rfl ?_
    refine g_laload (pc := 33) dX12_names_33 sh_175 h.1 ?_
    have h := h.2
    refine g_aload_n (pc := 34) (x := 156) dX12_names_34 rfl ?_
    refine g_getR (pc := 35) (dd := 5) dX12_names_35 fo_X12_22 sh_156 rfl ?_
    refine g_iload_n (pc := 38) (x := l3) dX12_names_38 rfl ?_
    refine g_laload (pc := 39) dX12_names_39 sh_161 h.1 ?_
    have h := h.2
    refine g_lcmp (pc := 40) dX12_names_40 ?_
    refine g_if_ne (pc := 41) (tgt := 50) dX12_names_41 (by decide) (fun c41 => ?_) (fun c41 => ?_)
    · have h := h.1 c41
      refine g_iinc (pc := 50) (x := l4) (v := (l4 + (1 : Int32))) (L' := [(0, .ref 156), (1, .int l1), (2, .int l2), (3, .int l3), (4, .int (l4 + (1 : Int32)))]) dX12_names_50 rfl rfl (Nat.le_of_ble_eq_true rfl) rfl ?_
      refine g_goto (pc := 53) (tgt := 18) dX12_names_53 (by decide) ?_
      exact h
    · have h := h.2 c41
      refine g_aload_n (pc := 44) (x := 156) dX12_names_44 rfl ?_
      refine g_iconst (pc := 45) (v := (3 : Int32)) dX12_names_45 (by decide) ?_
      refine g_iload_n (pc := 46) (x := l3) dX12_names_46 rfl ?_
      obtain ⟨Pm1, hRm1, h⟩ := h
      refine g_callV (pc := 47) (as := [.int (3 : Int32), .int l3]) dX12_names_47 cw_X12_240 (by decide) rfl rfl sh_156 (Nat.le_of_ble_eq_true rfl) hRm1 ?_
      intro r_ m1 hz_ hp_
      obtain rfl := hz_
      have h := h m1 hp_
      refine g_iinc (pc := 50) (x := l4) (v := (l4 + (1 : Int32))) (L' := [(0, .ref 156), (1, .int l1), (2, .int l2), (3, .int l3), (4, .int (l4 + (1 : Int32)))]) dX12_names_50 rfl rfl (Nat.le_of_ble_eq_true rfl) rfl ?_
      refine g_goto (pc := 53) (tgt := 18) dX12_names_53 (by decide) ?_
      exact h
theorem dX12_takesName_0 : decode cX12_takesName 0 = .ok (.aload_n 0, 1) := by decide +kernel
theorem dX12_takesName_1 : decode cX12_takesName 1 = .ok (.getfield 218, 3) := by decide +kernel
theorem dX12_takesName_4 : decode cX12_takesName 4 = .ok (.istore_n 2, 1) := by decide +kernel
theorem dX12_takesName_5 : decode cX12_takesName 5 = .ok (.aload_n 0, 1) := by decide +kernel
theorem dX12_takesName_6 : decode cX12_takesName 6 = .ok (.iconst 0, 1) := by decide +kernel
theorem dX12_takesName_7 : decode cX12_takesName 7 = .ok (.invokevirtual 234, 3) := by decide +kernel
theorem dX12_takesName_10 : decode cX12_takesName 10 = .ok (.ifCond .ne 5, 3) := by decide +kernel
theorem dX12_takesName_13 : decode cX12_takesName 13 = .ok (.iconst 0, 1) := by decide +kernel
theorem dX12_takesName_14 : decode cX12_takesName 14 = .ok (.ireturn, 1) := by decide +kernel
theorem dX12_takesName_15 : decode cX12_takesName 15 = .ok (.aload_n 0, 1) := by decide +kernel
theorem dX12_takesName_16 : decode cX12_takesName 16 = .ok (.iconst (-1), 1) := by decide +kernel
theorem dX12_takesName_17 : decode cX12_takesName 17 = .ok (.putfield 237, 3) := by decide +kernel
theorem dX12_takesName_20 : decode cX12_takesName 20 = .ok (.aload_n 0, 1) := by decide +kernel
theorem dX12_takesName_21 : decode cX12_takesName 21 = .ok (.getfield 286, 3) := by decide +kernel
theorem dX12_takesName_24 : decode cX12_takesName 24 = .ok (.iconst 1, 1) := by decide +kernel
theorem dX12_takesName_25 : decode cX12_takesName 25 = .ok (.isub, 1) := by decide +kernel
theorem dX12_takesName_26 : decode cX12_takesName 26 = .ok (.istore_n 3, 1) := by decide +kernel
theorem dX12_takesName_27 : decode cX12_takesName 27 = .ok (.iload_n 3, 1) := by decide +kernel
theorem dX12_takesName_28 : decode cX12_takesName 28 = .ok (.ifCond .lt 45, 3) := by decide +kernel
theorem dX12_takesName_31 : decode cX12_takesName 31 = .ok (.aload_n 0, 1) := by decide +kernel
theorem dX12_takesName_32 : decode cX12_takesName 32 = .ok (.getfield 70, 3) := by decide +kernel
theorem dX12_takesName_35 : decode cX12_takesName 35 = .ok (.iload_n 3, 1) := by decide +kernel
theorem dX12_takesName_36 : decode cX12_takesName 36 = .ok (.laload, 1) := by decide +kernel
theorem dX12_takesName_37 : decode cX12_takesName 37 = .ok (.aload_n 0, 1) := by decide +kernel
theorem dX12_takesName_38 : decode cX12_takesName 38 = .ok (.getfield 22, 3) := by decide +kernel
theorem dX12_takesName_41 : decode cX12_takesName 41 = .ok (.iload_n 2, 1) := by decide +kernel
theorem dX12_takesName_42 : decode cX12_takesName 42 = .ok (.laload, 1) := by decide +kernel
theorem dX12_takesName_43 : decode cX12_takesName 43 = .ok (.lcmp, 1) := by decide +kernel
theorem dX12_takesName_44 : decode cX12_takesName 44 = .ok (.ifCond .ne 23, 3) := by decide +kernel
theorem dX12_takesName_47 : decode cX12_takesName 47 = .ok (.aload_n 0, 1) := by decide +kernel
theorem dX12_takesName_48 : decode cX12_takesName 48 = .ok (.getfield 73, 3) := by decide +kernel
theorem dX12_takesName_51 : decode cX12_takesName 51 = .ok (.iload_n 3, 1) := by decide +kernel
theorem dX12_takesName_52 : decode cX12_takesName 52 = .ok (.iaload, 1) := by decide +kernel
theorem dX12_takesName_53 : decode cX12_takesName 53 = .ok (.iload_n 1, 1) := by decide +kernel
theorem dX12_takesName_54 : decode cX12_takesName 54 = .ok (.if_icmp .ne 13, 3) := by decide +kernel
theorem dX12_takesName_57 : decode cX12_takesName 57 = .ok (.aload_n 0, 1) := by decide +kernel
theorem dX12_takesName_58 : decode cX12_takesName 58 = .ok (.aload_n 0, 1) := by decide +kernel
theorem dX12_takesName_59 : decode cX12_takesName 59 = .ok (.getfield 76, 3) := by decide +kernel
theorem dX12_takesName_62 : decode cX12_takesName 62 = .ok (.iload_n 3, 1) := by decide +kernel
theorem dX12_takesName_63 : decode cX12_takesName 63 = .ok (.iaload, 1) := by decide +kernel
theorem dX12_takesName_64 : decode cX12_takesName 64 = .ok (.putfield 237, 3) := by decide +kernel
theorem dX12_takesName_67 : decode cX12_takesName 67 = .ok (.iinc 3 (-1), 3) := by decide +kernel
theorem dX12_takesName_70 : decode cX12_takesName 70 = .ok (.goto (-43), 3) := by decide +kernel
theorem dX12_takesName_73 : decode cX12_takesName 73 = .ok (.aload_n 0, 1) := by decide +kernel
theorem dX12_takesName_74 : decode cX12_takesName 74 = .ok (.getfield 237, 3) := by decide +kernel
theorem dX12_takesName_77 : decode cX12_takesName 77 = .ok (.ifCond .ge 9, 3) := by decide +kernel
theorem dX12_takesName_80 : decode cX12_takesName 80 = .ok (.aload_n 0, 1) := by decide +kernel
theorem dX12_takesName_81 : decode cX12_takesName 81 = .ok (.iconst 4, 1) := by decide +kernel
theorem dX12_takesName_82 : decode cX12_takesName 82 = .ok (.iload_n 2, 1) := by decide +kernel
theorem dX12_takesName_83 : decode cX12_takesName 83 = .ok (.invokevirtual 240, 3) := by decide +kernel
theorem dX12_takesName_86 : decode cX12_takesName 86 = .ok (.iconst 1, 1) := by decide +kernel
theorem dX12_takesName_87 : decode cX12_takesName 87 = .ok (.ireturn, 1) := by decide +kernel
theorem b_X12_takesName (mm : MM) (Q : Value → MM → Prop) (a1 : Int32) (h : ∃ Pm1 : Value → MM → Prop, Runs e_X12_takes [.ref 156, .int (0 : Int32)] mm Pm1 ∧ (∀ r m1, Pm1 r m1 → r = .int 1 ∨ r = .int 0) ∧ (∀ m1, Pm1 (.int 1) m1 → (G e_X12_takesName 27 [(0, .ref 156), (1, .int a1), (2, .int (mm.1 156 7)), (3, .int (((wI m1 156 29 (-1 : Int32)).1 156 25) - (1 : Int32)))] [] (wI m1 156 29 (-1 : Int32)) Q)) ∧ (∀ m1, Pm1 (.int 0) m1 → (Q (.int (0 : Int32)) m1))) : Runs e_X12_takesName [.ref 156, .int a1] mm Q := by
  refine runs_of_G (L := [(0, .ref 156), (1, .int a1)]) pl_X12 (Nat.le_of_ble_eq_true rfl) rfl ?_
  refine g_aload_n (pc := 0) (x := 156) dX12_takesName_0 rfl ?_
  refine g_getI (pc := 1) dX12_takesName_1 fo_X12_218 sh_156 rfl ?_
  refine g_istore_n (pc := 4) (L' := [(0, .ref 156), (1, .int a1), (2, .int (mm.1 156 7))]) dX12_takesName_4 (Nat.le_of_ble_eq_true rfl) rfl ?_
  refine g_aload_n (pc := 5) (x := 156) dX12_takesName_5 rfl ?_
  refine g_iconst (pc := 6) (v := (0 : Int32)) dX12_takesName_6 (by decide) ?_
  obtain ⟨Pm1, hRm1, h⟩ := h
  refine g_callV (pc := 7) (as := [.int (0 : Int32)]) dX12_takesName_7 cw_X12_234 (by decide) rfl rfl sh_156 (Nat.le_of_ble_eq_true rfl) hRm1 ?_
  intro r_ m1 hz_ hp_
  rcases h.1 r_ m1 hp_ with rfl | rfl
  · have h := h.2.1 m1 hp_
    refine g_if_ne (pc := 10) (tgt := 15) dX12_takesName_10 (by decide) (fun _ => ?_) (fun c10 => absurd c10 (by decide))
    refine g_aload_n (pc := 15) (x := 156) dX12_takesName_15 rfl ?_
    refine g_iconst (pc := 16) (v := (-1 : Int32)) dX12_takesName_16 (by decide) ?_
    refine g_putI (pc := 17) dX12_takesName_17 fo_X12_237 sh_156 rfl rfl rfl ?_
    refine g_aload_n (pc := 20) (x := 156) dX12_takesName_20 rfl ?_
    refine g_getI (pc := 21) dX12_takesName_21 fo_X12_286 sh_156 rfl ?_
    refine g_iconst (pc := 24) (v := (1 : Int32)) dX12_takesName_24 (by decide) ?_
    refine g_isub (pc := 25) dX12_takesName_25 ?_
    refine g_istore_n (pc := 26) (L' := [(0, .ref 156), (1, .int a1), (2, .int (mm.1 156 7)), (3, .int (((wI m1 156 29 (-1 : Int32)).1 156 25) - (1 : Int32)))]) dX12_takesName_26 (Nat.le_of_ble_eq_true rfl) rfl ?_
    exact h
  · have h := h.2.2 m1 hp_
    refine g_if_ne (pc := 10) (tgt := 15) dX12_takesName_10 (by decide) (fun c10 => absurd c10 (by decide)) (fun _ => ?_)
    refine g_iconst (pc := 13) (v := (0 : Int32)) dX12_takesName_13 (by decide) ?_
    exact g_iret (pc := 14) dX12_takesName_14 rfl rfl (nar_B isB0) h
theorem b_X12_takesName_27 (mm : MM) (Q : Value → MM → Prop) (l1 : Int32) (l2 : Int32) (l3 : Int32) (h : (l3 < 0 → ((0 ≤ (mm.1 156 29) → (Q (.int (1 : Int32)) mm)) ∧ (¬ 0 ≤ (mm.1 156 29) → (∃ Pm1 : Value → MM → Prop, Runs e_X12_tells [.ref 156, .int (4 : Int32), .int l2] mm Pm1 ∧ ∀ m1, Pm1 .null m1 → (Q (.int (1 : Int32)) m1))))) ∧ (¬ l3 < 0 → (vp_in l3 30 ∧ (vp_in l2 2001 ∧ ((¬ (lg_cmp (mm.2.1 175 l3.toNatClampNeg) (mm.2.1 161 l2.toNatClampNeg)) = 0 → (G e_X12_takesName 27 [(0, .ref 156), (1, .int l1), (2, .int l2), (3, .int (l3 + (-1 : Int32)))] [] mm Q)) ∧ ((lg_cmp (mm.2.1 175 l3.toNatClampNeg) (mm.2.1 161 l2.toNatClampNeg)) = 0 → (vp_in l3 30 ∧ ((¬ (mm.1 176 l3.toNatClampNeg) = l1 → (G e_X12_takesName 27 [(0, .ref 156), (1, .int l1), (2, .int l2), (3, .int (l3 + (-1 : Int32)))] [] mm Q)) ∧ ((mm.1 176 l3.toNatClampNeg) = l1 → (vp_in l3 30 ∧ (G e_X12_takesName 27 [(0, .ref 156), (1, .int l1), (2, .int l2), (3, .int (l3 + (-1 : Int32)))] [] (wI mm 156 29 (mm.1 177 l3.toNatClampNeg)) Q))))))))))) : G e_X12_takesName 27 [(0, .ref 156), (1, .int l1), (2, .int l2), (3, .int l3)] [] mm Q := by
  refine g_iload_n (pc := 27) (x := l3) dX12_takesName_27 rfl ?_
  refine g_if_lt (pc := 28) (tgt := 73) dX12_takesName_28 (by decide) (fun c28 => ?_) (fun c28 => ?_)
  · have h := h.1 c28
    refine g_aload_n (pc := 73) (x := 156) dX12_takesName_73 rfl ?_
    refine g_getI (pc := 74) dX12_takesName_74 fo_X12_237 sh_156 rfl ?_
    refine g_if_ge (pc := 77) (tgt := 86) dX12_takesName_77 (by decide) (fun c77 => ?_) (fun c77 => ?_)
    · have h := h.1 c77
      refine g_iconst (pc := 86) (v := (1 : Int32)) dX12_takesName_86 (by decide) ?_
      exact g_iret (pc := 87) dX12_takesName_87 rfl rfl (nar_B isB1) h
    · have h := h.2 c77
      refine g_aload_n (pc := 80) (x := 156) dX12_takesName_80 rfl ?_
      refine g_iconst (pc := 81) (v := (4 : Int32)) dX12_takesName_81 (by decide) ?_
      refine g_iload_n (pc := 82) (x := l2) dX12_takesName_82 rfl ?_
      obtain ⟨Pm1, hRm1, h⟩ := h
      refine g_callV (pc := 83) (as := [.int (4 : Int32), .int l2]) dX12_takesName_83 cw_X12_240 (by decide) rfl rfl sh_156 (Nat.le_of_ble_eq_true rfl) hRm1 ?_
      intro r_ m1 hz_ hp_
      obtain rfl := hz_
      have h := h m1 hp_
      refine g_iconst (pc := 86) (v := (1 : Int32)) dX12_takesName_86 (by decide) ?_
      exact g_iret (pc := 87) dX12_takesName_87 rfl rfl (nar_B isB1) h
  · have h := h.2 c28
    refine g_aload_n (pc := 31) (x := 156) dX12_takesName_31 rfl ?_
    refine g_getR (pc := 32) (dd := 19) dX12_takesName_32 fo_X12_70 sh_156 rfl ?_
    refine g_iload_n (pc := 35) (x := l3) dX12_takesName_35 rfl ?_
    refine g_laload (pc := 36) dX12_takesName_36 sh_175 h.1 ?_
    have h := h.2
    refine g_aload_n (pc := 37) (x := 156) dX12_takesName_37 rfl ?_
    refine g_getR (pc := 38) (dd := 5) dX12_takesName_38 fo_X12_22 sh_156 rfl ?_
    refine g_iload_n (pc := 41) (x := l2) dX12_takesName_41 rfl ?_
    refine g_laload (pc := 42) dX12_takesName_42 sh_161 h.1 ?_
    have h := h.2
    refine g_lcmp (pc := 43) dX12_takesName_43 ?_
    refine g_if_ne (pc := 44) (tgt := 67) dX12_takesName_44 (by decide) (fun c44 => ?_) (fun c44 => ?_)
    · have h := h.1 c44
      refine g_iinc (pc := 67) (x := l3) (v := (l3 + (-1 : Int32))) (L' := [(0, .ref 156), (1, .int l1), (2, .int l2), (3, .int (l3 + (-1 : Int32)))]) dX12_takesName_67 rfl rfl (Nat.le_of_ble_eq_true rfl) rfl ?_
      refine g_goto (pc := 70) (tgt := 27) dX12_takesName_70 (by decide) ?_
      exact h
    · have h := h.2 c44
      refine g_aload_n (pc := 47) (x := 156) dX12_takesName_47 rfl ?_
      refine g_getR (pc := 48) (dd := 20) dX12_takesName_48 fo_X12_73 sh_156 rfl ?_
      refine g_iload_n (pc := 51) (x := l3) dX12_takesName_51 rfl ?_
      refine g_iaload (pc := 52) dX12_takesName_52 sh_176 h.1 ?_
      have h := h.2
      refine g_iload_n (pc := 53) (x := l1) dX12_takesName_53 rfl ?_
      refine g_icmp_ne (pc := 54) (tgt := 67) dX12_takesName_54 (by decide) (fun c54 => ?_) (fun c54 => ?_)
      · have h := h.1 c54
        refine g_iinc (pc := 67) (x := l3) (v := (l3 + (-1 : Int32))) (L' := [(0, .ref 156), (1, .int l1), (2, .int l2), (3, .int (l3 + (-1 : Int32)))]) dX12_takesName_67 rfl rfl (Nat.le_of_ble_eq_true rfl) rfl ?_
        refine g_goto (pc := 70) (tgt := 27) dX12_takesName_70 (by decide) ?_
        exact h
      · have h := h.2 c54
        refine g_aload_n (pc := 57) (x := 156) dX12_takesName_57 rfl ?_
        refine g_aload_n (pc := 58) (x := 156) dX12_takesName_58 rfl ?_
        refine g_getR (pc := 59) (dd := 21) dX12_takesName_59 fo_X12_76 sh_156 rfl ?_
        refine g_iload_n (pc := 62) (x := l3) dX12_takesName_62 rfl ?_
        refine g_iaload (pc := 63) dX12_takesName_63 sh_177 h.1 ?_
        have h := h.2
        refine g_putI (pc := 64) dX12_takesName_64 fo_X12_237 sh_156 rfl rfl rfl ?_
        refine g_iinc (pc := 67) (x := l3) (v := (l3 + (-1 : Int32))) (L' := [(0, .ref 156), (1, .int l1), (2, .int l2), (3, .int (l3 + (-1 : Int32)))]) dX12_takesName_67 rfl rfl (Nat.le_of_ble_eq_true rfl) rfl ?_
        refine g_goto (pc := 70) (tgt := 27) dX12_takesName_70 (by decide) ?_
        exact h
theorem dX12_next_0 : decode cX12_next 0 = .ok (.aload_n 0, 1) := by decide +kernel
theorem dX12_next_1 : decode cX12_next 1 = .ok (.iload_n 1, 1) := by decide +kernel
theorem dX12_next_2 : decode cX12_next 2 = .ok (.invokevirtual 289, 3) := by decide +kernel
theorem dX12_next_5 : decode cX12_next 5 = .ok (.iload_n 2, 1) := by decide +kernel
theorem dX12_next_6 : decode cX12_next 6 = .ok (.if_icmp .ne 5, 3) := by decide +kernel
theorem dX12_next_9 : decode cX12_next 9 = .ok (.iconst (-1), 1) := by decide +kernel
theorem dX12_next_10 : decode cX12_next 10 = .ok (.ireturn, 1) := by decide +kernel
theorem dX12_next_11 : decode cX12_next 11 = .ok (.iload_n 3, 1) := by decide +kernel
theorem dX12_next_12 : decode cX12_next 12 = .ok (.iload 4, 2) := by decide +kernel
theorem dX12_next_14 : decode cX12_next 14 = .ok (.aload_n 0, 1) := by decide +kernel
theorem dX12_next_15 : decode cX12_next 15 = .ok (.iload_n 1, 1) := by decide +kernel
theorem dX12_next_16 : decode cX12_next 16 = .ok (.invokevirtual 289, 3) := by decide +kernel
theorem dX12_next_19 : decode cX12_next 19 = .ok (.imul, 1) := by decide +kernel
theorem dX12_next_20 : decode cX12_next 20 = .ok (.iadd, 1) := by decide +kernel
theorem dX12_next_21 : decode cX12_next 21 = .ok (.istore 5, 2) := by decide +kernel
theorem dX12_next_23 : decode cX12_next 23 = .ok (.aload_n 0, 1) := by decide +kernel
theorem dX12_next_24 : decode cX12_next 24 = .ok (.iload_n 1, 1) := by decide +kernel
theorem dX12_next_25 : decode cX12_next 25 = .ok (.aload_n 0, 1) := by decide +kernel
theorem dX12_next_26 : decode cX12_next 26 = .ok (.iload_n 1, 1) := by decide +kernel
theorem dX12_next_27 : decode cX12_next 27 = .ok (.invokevirtual 289, 3) := by decide +kernel
theorem dX12_next_30 : decode cX12_next 30 = .ok (.iconst 1, 1) := by decide +kernel
theorem dX12_next_31 : decode cX12_next 31 = .ok (.iadd, 1) := by decide +kernel
theorem dX12_next_32 : decode cX12_next 32 = .ok (.invokevirtual 292, 3) := by decide +kernel
theorem dX12_next_35 : decode cX12_next 35 = .ok (.iload 5, 2) := by decide +kernel
theorem dX12_next_37 : decode cX12_next 37 = .ok (.ireturn, 1) := by decide +kernel
theorem b_X12_next (mm : MM) (Q : Value → MM → Prop) (a1 : Int32) (a2 : Int32) (a3 : Int32) (a4 : Int32) (h : o_X12_told mm a1 ∧ ((¬ (v_X12_told mm a1) = a2 → (o_X12_told mm a1 ∧ (o_X12_told mm a1 ∧ (∃ Pm1 : Value → MM → Prop, Runs e_X12_tell [.ref 156, .int a1, .int ((v_X12_told mm a1) + (1 : Int32))] mm Pm1 ∧ ∀ m1, Pm1 .null m1 → (Q (.int (a3 + (a4 * (v_X12_told mm a1)))) m1))))) ∧ ((v_X12_told mm a1) = a2 → (Q (.int (-1 : Int32)) mm)))) : Runs e_X12_next [.ref 156, .int a1, .int a2, .int a3, .int a4] mm Q := by
  refine runs_of_G (L := [(0, .ref 156), (1, .int a1), (2, .int a2), (3, .int a3), (4, .int a4)]) pl_X12 (Nat.le_of_ble_eq_true rfl) rfl ?_
  refine g_aload_n (pc := 0) (x := 156) dX12_next_0 rfl ?_
  refine g_iload_n (pc := 1) (x := a1) dX12_next_1 rfl ?_
  refine g_callV (pc := 2) (as := [.int a1]) dX12_next_2 cw_X12_289 (by decide) rfl rfl sh_156 (Nat.le_of_ble_eq_true rfl) (rv_X12_told mm a1 h.1) ?_
  have h := h.2
  rintro r_ m_ hz_ ⟨rfl, rfl⟩
  refine g_iload_n (pc := 5) (x := a2) dX12_next_5 rfl ?_
  refine g_icmp_ne (pc := 6) (tgt := 11) dX12_next_6 (by decide) (fun c6 => ?_) (fun c6 => ?_)
  · have h := h.1 c6
    refine g_iload_n (pc := 11) (x := a3) dX12_next_11 rfl ?_
    refine g_iload (pc := 12) (x := a4) dX12_next_12 rfl ?_
    refine g_aload_n (pc := 14) (x := 156) dX12_next_14 rfl ?_
    refine g_iload_n (pc := 15) (x := a1) dX12_next_15 rfl ?_
    refine g_callV (pc := 16) (as := [.int a1]) dX12_next_16 cw_X12_289 (by decide) rfl rfl sh_156 (Nat.le_of_ble_eq_true rfl) (rv_X12_told mm a1 h.1) ?_
    have h := h.2
    rintro r_ m_ hz_ ⟨rfl, rfl⟩
    refine g_imul (pc := 19) dX12_next_19 ?_
    refine g_iadd (pc := 20) dX12_next_20 ?_
    refine g_istore (pc := 21) (L' := [(0, .ref 156), (1, .int a1), (2, .int a2), (3, .int a3), (4, .int a4), (5, .int (a3 + (a4 * (v_X12_told mm a1))))]) dX12_next_21 (Nat.le_of_ble_eq_true rfl) rfl ?_
    refine g_aload_n (pc := 23) (x := 156) dX12_next_23 rfl ?_
    refine g_iload_n (pc := 24) (x := a1) dX12_next_24 rfl ?_
    refine g_aload_n (pc := 25) (x := 156) dX12_next_25 rfl ?_
    refine g_iload_n (pc := 26) (x := a1) dX12_next_26 rfl ?_
    refine g_callV (pc := 27) (as := [.int a1]) dX12_next_27 cw_X12_289 (by decide) rfl rfl sh_156 (Nat.le_of_ble_eq_true rfl) (rv_X12_told mm a1 h.1) ?_
    have h := h.2
    rintro r_ m_ hz_ ⟨rfl, rfl⟩
    refine g_iconst (pc := 30) (v := (1 : Int32)) dX12_next_30 (by decide) ?_
    refine g_iadd (pc := 31) dX12_next_31 ?_
    obtain ⟨Pm1, hRm1, h⟩ := h
    refine g_callV (pc := 32) (as := [.int a1, .int ((v_X12_told mm a1) + (1 : Int32))]) dX12_next_32 cw_X12_292 (by decide) rfl rfl sh_156 (Nat.le_of_ble_eq_true rfl) hRm1 ?_
    intro r_ m1 hz_ hp_
    obtain rfl := hz_
    have h := h m1 hp_
    refine g_iload (pc := 35) (x := (a3 + (a4 * (v_X12_told mm a1)))) dX12_next_35 rfl ?_
    exact g_iret (pc := 37) dX12_next_37 rfl rfl rfl h
  · have h := h.2 c6
    refine g_iconst (pc := 9) (v := (-1 : Int32)) dX12_next_9 (by decide) ?_
    exact g_iret (pc := 10) dX12_next_10 rfl rfl rfl h
theorem dX12_tellHouse_0 : decode cX12_tellHouse 0 = .ok (.aload_n 0, 1) := by decide +kernel
theorem dX12_tellHouse_1 : decode cX12_tellHouse 1 = .ok (.iconst 0, 1) := by decide +kernel
theorem dX12_tellHouse_2 : decode cX12_tellHouse 2 = .ok (.invokevirtual 289, 3) := by decide +kernel
theorem dX12_tellHouse_5 : decode cX12_tellHouse 5 = .ok (.istore_n 1, 1) := by decide +kernel
theorem dX12_tellHouse_6 : decode cX12_tellHouse 6 = .ok (.aload_n 0, 1) := by decide +kernel
theorem dX12_tellHouse_7 : decode cX12_tellHouse 7 = .ok (.iconst 0, 1) := by decide +kernel
theorem dX12_tellHouse_8 : decode cX12_tellHouse 8 = .ok (.bipush 16, 2) := by decide +kernel
theorem dX12_tellHouse_10 : decode cX12_tellHouse 10 = .ok (.bipush 20, 2) := by decide +kernel
theorem dX12_tellHouse_12 : decode cX12_tellHouse 12 = .ok (.iconst 3, 1) := by decide +kernel
theorem dX12_tellHouse_13 : decode cX12_tellHouse 13 = .ok (.invokevirtual 295, 3) := by decide +kernel
theorem dX12_tellHouse_16 : decode cX12_tellHouse 16 = .ok (.istore_n 2, 1) := by decide +kernel
theorem dX12_tellHouse_17 : decode cX12_tellHouse 17 = .ok (.iload_n 2, 1) := by decide +kernel
theorem dX12_tellHouse_18 : decode cX12_tellHouse 18 = .ok (.ifCond .ge 9, 3) := by decide +kernel
theorem dX12_tellHouse_21 : decode cX12_tellHouse 21 = .ok (.aload_n 0, 1) := by decide +kernel
theorem dX12_tellHouse_22 : decode cX12_tellHouse 22 = .ok (.iconst 2, 1) := by decide +kernel
theorem dX12_tellHouse_23 : decode cX12_tellHouse 23 = .ok (.invokevirtual 227, 3) := by decide +kernel
theorem dX12_tellHouse_26 : decode cX12_tellHouse 26 = .ok (.ireturn, 1) := by decide +kernel
theorem dX12_tellHouse_27 : decode cX12_tellHouse 27 = .ok (.aload_n 0, 1) := by decide +kernel
theorem dX12_tellHouse_28 : decode cX12_tellHouse 28 = .ok (.invokevirtual 230, 3) := by decide +kernel
theorem dX12_tellHouse_31 : decode cX12_tellHouse 31 = .ok (.ifCond .eq 22, 3) := by decide +kernel
theorem dX12_tellHouse_34 : decode cX12_tellHouse 34 = .ok (.aload_n 0, 1) := by decide +kernel
theorem dX12_tellHouse_35 : decode cX12_tellHouse 35 = .ok (.iconst 0, 1) := by decide +kernel
theorem dX12_tellHouse_36 : decode cX12_tellHouse 36 = .ok (.iload_n 1, 1) := by decide +kernel
theorem dX12_tellHouse_37 : decode cX12_tellHouse 37 = .ok (.invokevirtual 299, 3) := by decide +kernel
theorem dX12_tellHouse_40 : decode cX12_tellHouse 40 = .ok (.ifCond .eq 13, 3) := by decide +kernel
theorem dX12_tellHouse_43 : decode cX12_tellHouse 43 = .ok (.aload_n 0, 1) := by decide +kernel
theorem dX12_tellHouse_44 : decode cX12_tellHouse 44 = .ok (.iconst 0, 1) := by decide +kernel
theorem dX12_tellHouse_45 : decode cX12_tellHouse 45 = .ok (.bipush 40, 2) := by decide +kernel
theorem dX12_tellHouse_47 : decode cX12_tellHouse 47 = .ok (.invokevirtual 302, 3) := by decide +kernel
theorem dX12_tellHouse_50 : decode cX12_tellHouse 50 = .ok (.ifCond .ne 5, 3) := by decide +kernel
theorem dX12_tellHouse_53 : decode cX12_tellHouse 53 = .ok (.iconst 0, 1) := by decide +kernel
theorem dX12_tellHouse_54 : decode cX12_tellHouse 54 = .ok (.ireturn, 1) := by decide +kernel
theorem dX12_tellHouse_55 : decode cX12_tellHouse 55 = .ok (.aload_n 0, 1) := by decide +kernel
theorem dX12_tellHouse_56 : decode cX12_tellHouse 56 = .ok (.iload_n 2, 1) := by decide +kernel
theorem dX12_tellHouse_57 : decode cX12_tellHouse 57 = .ok (.aload_n 0, 1) := by decide +kernel
theorem dX12_tellHouse_58 : decode cX12_tellHouse 58 = .ok (.getfield 237, 3) := by decide +kernel
theorem dX12_tellHouse_61 : decode cX12_tellHouse 61 = .ok (.invokevirtual 292, 3) := by decide +kernel
theorem dX12_tellHouse_64 : decode cX12_tellHouse 64 = .ok (.aload_n 0, 1) := by decide +kernel
theorem dX12_tellHouse_65 : decode cX12_tellHouse 65 = .ok (.iconst 0, 1) := by decide +kernel
theorem dX12_tellHouse_66 : decode cX12_tellHouse 66 = .ok (.bipush 99, 2) := by decide +kernel
theorem dX12_tellHouse_68 : decode cX12_tellHouse 68 = .ok (.invokevirtual 302, 3) := by decide +kernel
theorem dX12_tellHouse_71 : decode cX12_tellHouse 71 = .ok (.ifCond .ne 5, 3) := by decide +kernel
theorem dX12_tellHouse_74 : decode cX12_tellHouse 74 = .ok (.iconst 0, 1) := by decide +kernel
theorem dX12_tellHouse_75 : decode cX12_tellHouse 75 = .ok (.ireturn, 1) := by decide +kernel
theorem dX12_tellHouse_76 : decode cX12_tellHouse 76 = .ok (.aload_n 0, 1) := by decide +kernel
theorem dX12_tellHouse_77 : decode cX12_tellHouse 77 = .ok (.iload_n 2, 1) := by decide +kernel
theorem dX12_tellHouse_78 : decode cX12_tellHouse 78 = .ok (.iconst 1, 1) := by decide +kernel
theorem dX12_tellHouse_79 : decode cX12_tellHouse 79 = .ok (.iadd, 1) := by decide +kernel
theorem dX12_tellHouse_80 : decode cX12_tellHouse 80 = .ok (.aload_n 0, 1) := by decide +kernel
theorem dX12_tellHouse_81 : decode cX12_tellHouse 81 = .ok (.getfield 237, 3) := by decide +kernel
theorem dX12_tellHouse_84 : decode cX12_tellHouse 84 = .ok (.invokevirtual 292, 3) := by decide +kernel
theorem dX12_tellHouse_87 : decode cX12_tellHouse 87 = .ok (.aload_n 0, 1) := by decide +kernel
theorem dX12_tellHouse_88 : decode cX12_tellHouse 88 = .ok (.iconst 1, 1) := by decide +kernel
theorem dX12_tellHouse_89 : decode cX12_tellHouse 89 = .ok (.bipush 9, 2) := by decide +kernel
theorem dX12_tellHouse_91 : decode cX12_tellHouse 91 = .ok (.invokevirtual 302, 3) := by decide +kernel
theorem dX12_tellHouse_94 : decode cX12_tellHouse 94 = .ok (.ifCond .ne 5, 3) := by decide +kernel
theorem dX12_tellHouse_97 : decode cX12_tellHouse 97 = .ok (.iconst 0, 1) := by decide +kernel
theorem dX12_tellHouse_98 : decode cX12_tellHouse 98 = .ok (.ireturn, 1) := by decide +kernel
theorem dX12_tellHouse_99 : decode cX12_tellHouse 99 = .ok (.aload_n 0, 1) := by decide +kernel
theorem dX12_tellHouse_100 : decode cX12_tellHouse 100 = .ok (.iload_n 2, 1) := by decide +kernel
theorem dX12_tellHouse_101 : decode cX12_tellHouse 101 = .ok (.iconst 2, 1) := by decide +kernel
theorem dX12_tellHouse_102 : decode cX12_tellHouse 102 = .ok (.iadd, 1) := by decide +kernel
theorem dX12_tellHouse_103 : decode cX12_tellHouse 103 = .ok (.aload_n 0, 1) := by decide +kernel
theorem dX12_tellHouse_104 : decode cX12_tellHouse 104 = .ok (.getfield 237, 3) := by decide +kernel
theorem dX12_tellHouse_107 : decode cX12_tellHouse 107 = .ok (.invokevirtual 292, 3) := by decide +kernel
theorem dX12_tellHouse_110 : decode cX12_tellHouse 110 = .ok (.iconst 1, 1) := by decide +kernel
theorem dX12_tellHouse_111 : decode cX12_tellHouse 111 = .ok (.ireturn, 1) := by decide +kernel
theorem b_X12_tellHouse (mm : MM) (Q : Value → MM → Prop) (h : o_X12_told mm (0 : Int32) ∧ (∃ Pm1 : Value → MM → Prop, Runs e_X12_next [.ref 156, .int (0 : Int32), .int (16 : Int32), .int (20 : Int32), .int (3 : Int32)] mm Pm1 ∧ ∀ (r1 : Int32) (m1 : MM), Pm1 (.int r1) m1 → ((0 ≤ r1 → (∃ Pm2 : Value → MM → Prop, Runs e_X12_pass [.ref 156] m1 Pm2 ∧ (∀ r m2, Pm2 r m2 → r = .int 1 ∨ r = .int 0) ∧ (∀ m2, Pm2 (.int 1) m2 → (∃ Pm3 : Value → MM → Prop, Runs e_X12_names [.ref 156, .int (0 : Int32), .int (v_X12_told mm (0 : Int32))] m2 Pm3 ∧ (∀ r m3, Pm3 r m3 → r = .int 1 ∨ r = .int 0) ∧ (∀ m3, Pm3 (.int 1) m3 → (∃ Pm4 : Value → MM → Prop, Runs e_X12_takesInt [.ref 156, .int (0 : Int32), .int (40 : Int32)] m3 Pm4 ∧ (∀ r m4, Pm4 r m4 → r = .int 1 ∨ r = .int 0) ∧ (∀ m4, Pm4 (.int 1) m4 → (∃ Pm5 : Value → MM → Prop, Runs e_X12_tell [.ref 156, .int r1, .int (m4.1 156 29)] m4 Pm5 ∧ ∀ m5, Pm5 .null m5 → (∃ Pm6 : Value → MM → Prop, Runs e_X12_takesInt [.ref 156, .int (0 : Int32), .int (99 : Int32)] m5 Pm6 ∧ (∀ r m6, Pm6 r m6 → r = .int 1 ∨ r = .int 0) ∧ (∀ m6, Pm6 (.int 1) m6 → (∃ Pm7 : Value → MM → Prop, Runs e_X12_tell [.ref 156, .int (r1 + (1 : Int32)), .int (m6.1 156 29)] m6 Pm7 ∧ ∀ m7, Pm7 .null m7 → (∃ Pm8 : Value → MM → Prop, Runs e_X12_takesInt [.ref 156, .int (1 : Int32), .int (9 : Int32)] m7 Pm8 ∧ (∀ r m8, Pm8 r m8 → r = .int 1 ∨ r = .int 0) ∧ (∀ m8, Pm8 (.int 1) m8 → (∃ Pm9 : Value → MM → Prop, Runs e_X12_tell [.ref 156, .int (r1 + (2 : Int32)), .int (m8.1 156 29)] m8 Pm9 ∧ ∀ m9, Pm9 .null m9 → (Q (.int (1 : Int32)) m9))) ∧ (∀ m8, Pm8 (.int 0) m8 → (Q (.int (0 : Int32)) m8))))) ∧ (∀ m6, Pm6 (.int 0) m6 → (Q (.int (0 : Int32)) m6))))) ∧ (∀ m4, Pm4 (.int 0) m4 → (Q (.int (0 : Int32)) m4)))) ∧ (∀ m3, Pm3 (.int 0) m3 → (Q (.int (0 : Int32)) m3)))) ∧ (∀ m2, Pm2 (.int 0) m2 → (Q (.int (0 : Int32)) m2)))) ∧ (¬ 0 ≤ r1 → (∃ Pm2 : Value → MM → Prop, Runs e_X12_wrong [.ref 156, .int (2 : Int32)] m1 Pm2 ∧ (∀ r m2, Pm2 r m2 → r = .int 1 ∨ r = .int 0) ∧ (∀ m2, Pm2 (.int 1) m2 → (Q (.int (1 : Int32)) m2)) ∧ (∀ m2, Pm2 (.int 0) m2 → (Q (.int (0 : Int32)) m2))))))) : Runs e_X12_tellHouse [.ref 156] mm Q := by
  refine runs_of_G (L := [(0, .ref 156)]) pl_X12 (Nat.le_of_ble_eq_true rfl) rfl ?_
  refine g_aload_n (pc := 0) (x := 156) dX12_tellHouse_0 rfl ?_
  refine g_iconst (pc := 1) (v := (0 : Int32)) dX12_tellHouse_1 (by decide) ?_
  refine g_callV (pc := 2) (as := [.int (0 : Int32)]) dX12_tellHouse_2 cw_X12_289 (by decide) rfl rfl sh_156 (Nat.le_of_ble_eq_true rfl) (rv_X12_told mm (0 : Int32) h.1) ?_
  have h := h.2
  rintro r_ m_ hz_ ⟨rfl, rfl⟩
  refine g_istore_n (pc := 5) (L' := [(0, .ref 156), (1, .int (v_X12_told mm (0 : Int32)))]) dX12_tellHouse_5 (Nat.le_of_ble_eq_true rfl) rfl ?_
  refine g_aload_n (pc := 6) (x := 156) dX12_tellHouse_6 rfl ?_
  refine g_iconst (pc := 7) (v := (0 : Int32)) dX12_tellHouse_7 (by decide) ?_
  refine g_bipush (pc := 8) (v := (16 : Int32)) dX12_tellHouse_8 (by decide) ?_
  refine g_bipush (pc := 10) (v := (20 : Int32)) dX12_tellHouse_10 (by decide) ?_
  refine g_iconst (pc := 12) (v := (3 : Int32)) dX12_tellHouse_12 (by decide) ?_
  obtain ⟨Pm1, hRm1, h⟩ := h
  refine g_callV (pc := 13) (as := [.int (0 : Int32), .int (16 : Int32), .int (20 : Int32), .int (3 : Int32)]) dX12_tellHouse_13 cw_X12_295 (by decide) rfl rfl sh_156 (Nat.le_of_ble_eq_true rfl) hRm1 ?_
  intro r_ m1 hz_ hp_
  obtain ⟨r1, rfl⟩ := hz_
  have h := h r1 m1 hp_
  refine g_istore_n (pc := 16) (L' := [(0, .ref 156), (1, .int (v_X12_told mm (0 : Int32))), (2, .int r1)]) dX12_tellHouse_16 (Nat.le_of_ble_eq_true rfl) rfl ?_
  refine g_iload_n (pc := 17) (x := r1) dX12_tellHouse_17 rfl ?_
  refine g_if_ge (pc := 18) (tgt := 27) dX12_tellHouse_18 (by decide) (fun c18 => ?_) (fun c18 => ?_)
  · have h := h.1 c18
    refine g_aload_n (pc := 27) (x := 156) dX12_tellHouse_27 rfl ?_
    obtain ⟨Pm2, hRm2, h⟩ := h
    refine g_callV (pc := 28) (as := []) dX12_tellHouse_28 cw_X12_230 (by decide) rfl rfl sh_156 (Nat.le_of_ble_eq_true rfl) hRm2 ?_
    intro r_ m2 hz_ hp_
    rcases h.1 r_ m2 hp_ with rfl | rfl
    · have h := h.2.1 m2 hp_
      refine g_if_eq (pc := 31) (tgt := 53) dX12_tellHouse_31 (by decide) (fun c31 => absurd c31 (by decide)) (fun _ => ?_)
      refine g_aload_n (pc := 34) (x := 156) dX12_tellHouse_34 rfl ?_
      refine g_iconst (pc := 35) (v := (0 : Int32)) dX12_tellHouse_35 (by decide) ?_
      refine g_iload_n (pc := 36) (x := (v_X12_told mm (0 : Int32))) dX12_tellHouse_36 rfl ?_
      obtain ⟨Pm3, hRm3, h⟩ := h
      refine g_callV (pc := 37) (as := [.int (0 : Int32), .int (v_X12_told mm (0 : Int32))]) dX12_tellHouse_37 cw_X12_299 (by decide) rfl rfl sh_156 (Nat.le_of_ble_eq_true rfl) hRm3 ?_
      intro r_ m3 hz_ hp_
      rcases h.1 r_ m3 hp_ with rfl | rfl
      · have h := h.2.1 m3 hp_
        refine g_if_eq (pc := 40) (tgt := 53) dX12_tellHouse_40 (by decide) (fun c40 => absurd c40 (by decide)) (fun _ => ?_)
        refine g_aload_n (pc := 43) (x := 156) dX12_tellHouse_43 rfl ?_
        refine g_iconst (pc := 44) (v := (0 : Int32)) dX12_tellHouse_44 (by decide) ?_
        refine g_bipush (pc := 45) (v := (40 : Int32)) dX12_tellHouse_45 (by decide) ?_
        obtain ⟨Pm4, hRm4, h⟩ := h
        refine g_callV (pc := 47) (as := [.int (0 : Int32), .int (40 : Int32)]) dX12_tellHouse_47 cw_X12_302 (by decide) rfl rfl sh_156 (Nat.le_of_ble_eq_true rfl) hRm4 ?_
        intro r_ m4 hz_ hp_
        rcases h.1 r_ m4 hp_ with rfl | rfl
        · have h := h.2.1 m4 hp_
          refine g_if_ne (pc := 50) (tgt := 55) dX12_tellHouse_50 (by decide) (fun _ => ?_) (fun c50 => absurd c50 (by decide))
          refine g_aload_n (pc := 55) (x := 156) dX12_tellHouse_55 rfl ?_
          refine g_iload_n (pc := 56) (x := r1) dX12_tellHouse_56 rfl ?_
          refine g_aload_n (pc := 57) (x := 156) dX12_tellHouse_57 rfl ?_
          refine g_getI (pc := 58) dX12_tellHouse_58 fo_X12_237 sh_156 rfl ?_
          obtain ⟨Pm5, hRm5, h⟩ := h
          refine g_callV (pc := 61) (as := [.int r1, .int (m4.1 156 29)]) dX12_tellHouse_61 cw_X12_292 (by decide) rfl rfl sh_156 (Nat.le_of_ble_eq_true rfl) hRm5 ?_
          intro r_ m5 hz_ hp_
          obtain rfl := hz_
          have h := h m5 hp_
          refine g_aload_n (pc := 64) (x := 156) dX12_tellHouse_64 rfl ?_
          refine g_iconst (pc := 65) (v := (0 : Int32)) dX12_tellHouse_65 (by decide) ?_
          refine g_bipush (pc := 66) (v := (99 : Int32)) dX12_tellHouse_66 (by decide) ?_
          obtain ⟨Pm6, hRm6, h⟩ := h
          refine g_callV (pc := 68) (as := [.int (0 : Int32), .int (99 : Int32)]) dX12_tellHouse_68 cw_X12_302 (by decide) rfl rfl sh_156 (Nat.le_of_ble_eq_true rfl) hRm6 ?_
          intro r_ m6 hz_ hp_
          rcases h.1 r_ m6 hp_ with rfl | rfl
          · have h := h.2.1 m6 hp_
            refine g_if_ne (pc := 71) (tgt := 76) dX12_tellHouse_71 (by decide) (fun _ => ?_) (fun c71 => absurd c71 (by decide))
            refine g_aload_n (pc := 76) (x := 156) dX12_tellHouse_76 rfl ?_
            refine g_iload_n (pc := 77) (x := r1) dX12_tellHouse_77 rfl ?_
            refine g_iconst (pc := 78) (v := (1 : Int32)) dX12_tellHouse_78 (by decide) ?_
            refine g_iadd (pc := 79) dX12_tellHouse_79 ?_
            refine g_aload_n (pc := 80) (x := 156) dX12_tellHouse_80 rfl ?_
            refine g_getI (pc := 81) dX12_tellHouse_81 fo_X12_237 sh_156 rfl ?_
            obtain ⟨Pm7, hRm7, h⟩ := h
            refine g_callV (pc := 84) (as := [.int (r1 + (1 : Int32)), .int (m6.1 156 29)]) dX12_tellHouse_84 cw_X12_292 (by decide) rfl rfl sh_156 (Nat.le_of_ble_eq_true rfl) hRm7 ?_
            intro r_ m7 hz_ hp_
            obtain rfl := hz_
            have h := h m7 hp_
            refine g_aload_n (pc := 87) (x := 156) dX12_tellHouse_87 rfl ?_
            refine g_iconst (pc := 88) (v := (1 : Int32)) dX12_tellHouse_88 (by decide) ?_
            refine g_bipush (pc := 89) (v := (9 : Int32)) dX12_tellHouse_89 (by decide) ?_
            obtain ⟨Pm8, hRm8, h⟩ := h
            refine g_callV (pc := 91) (as := [.int (1 : Int32), .int (9 : Int32)]) dX12_tellHouse_91 cw_X12_302 (by decide) rfl rfl sh_156 (Nat.le_of_ble_eq_true rfl) hRm8 ?_
            intro r_ m8 hz_ hp_
            rcases h.1 r_ m8 hp_ with rfl | rfl
            · have h := h.2.1 m8 hp_
              refine g_if_ne (pc := 94) (tgt := 99) dX12_tellHouse_94 (by decide) (fun _ => ?_) (fun c94 => absurd c94 (by decide))
              refine g_aload_n (pc := 99) (x := 156) dX12_tellHouse_99 rfl ?_
              refine g_iload_n (pc := 100) (x := r1) dX12_tellHouse_100 rfl ?_
              refine g_iconst (pc := 101) (v := (2 : Int32)) dX12_tellHouse_101 (by decide) ?_
              refine g_iadd (pc := 102) dX12_tellHouse_102 ?_
              refine g_aload_n (pc := 103) (x := 156) dX12_tellHouse_103 rfl ?_
              refine g_getI (pc := 104) dX12_tellHouse_104 fo_X12_237 sh_156 rfl ?_
              obtain ⟨Pm9, hRm9, h⟩ := h
              refine g_callV (pc := 107) (as := [.int (r1 + (2 : Int32)), .int (m8.1 156 29)]) dX12_tellHouse_107 cw_X12_292 (by decide) rfl rfl sh_156 (Nat.le_of_ble_eq_true rfl) hRm9 ?_
              intro r_ m9 hz_ hp_
              obtain rfl := hz_
              have h := h m9 hp_
              refine g_iconst (pc := 110) (v := (1 : Int32)) dX12_tellHouse_110 (by decide) ?_
              exact g_iret (pc := 111) dX12_tellHouse_111 rfl rfl (nar_B isB1) h
            · have h := h.2.2 m8 hp_
              refine g_if_ne (pc := 94) (tgt := 99) dX12_tellHouse_94 (by decide) (fun c94 => absurd c94 (by decide)) (fun _ => ?_)
              refine g_iconst (pc := 97) (v := (0 : Int32)) dX12_tellHouse_97 (by decide) ?_
              exact g_iret (pc := 98) dX12_tellHouse_98 rfl rfl (nar_B isB0) h
          · have h := h.2.2 m6 hp_
            refine g_if_ne (pc := 71) (tgt := 76) dX12_tellHouse_71 (by decide) (fun c71 => absurd c71 (by decide)) (fun _ => ?_)
            refine g_iconst (pc := 74) (v := (0 : Int32)) dX12_tellHouse_74 (by decide) ?_
            exact g_iret (pc := 75) dX12_tellHouse_75 rfl rfl (nar_B isB0) h
        · have h := h.2.2 m4 hp_
          refine g_if_ne (pc := 50) (tgt := 55) dX12_tellHouse_50 (by decide) (fun c50 => absurd c50 (by decide)) (fun _ => ?_)
          refine g_iconst (pc := 53) (v := (0 : Int32)) dX12_tellHouse_53 (by decide) ?_
          exact g_iret (pc := 54) dX12_tellHouse_54 rfl rfl (nar_B isB0) h
      · have h := h.2.2 m3 hp_
        refine g_if_eq (pc := 40) (tgt := 53) dX12_tellHouse_40 (by decide) (fun _ => ?_) (fun c40 => absurd c40 (by decide))
        refine g_iconst (pc := 53) (v := (0 : Int32)) dX12_tellHouse_53 (by decide) ?_
        exact g_iret (pc := 54) dX12_tellHouse_54 rfl rfl (nar_B isB0) h
    · have h := h.2.2 m2 hp_
      refine g_if_eq (pc := 31) (tgt := 53) dX12_tellHouse_31 (by decide) (fun _ => ?_) (fun c31 => absurd c31 (by decide))
      refine g_iconst (pc := 53) (v := (0 : Int32)) dX12_tellHouse_53 (by decide) ?_
      exact g_iret (pc := 54) dX12_tellHouse_54 rfl rfl (nar_B isB0) h
  · have h := h.2 c18
    refine g_aload_n (pc := 21) (x := 156) dX12_tellHouse_21 rfl ?_
    refine g_iconst (pc := 22) (v := (2 : Int32)) dX12_tellHouse_22 (by decide) ?_
    obtain ⟨Pm2, hRm2, h⟩ := h
    refine g_callV (pc := 23) (as := [.int (2 : Int32)]) dX12_tellHouse_23 cw_X12_227 (by decide) rfl rfl sh_156 (Nat.le_of_ble_eq_true rfl) hRm2 ?_
    intro r_ m2 hz_ hp_
    rcases h.1 r_ m2 hp_ with rfl | rfl
    · have h := h.2.1 m2 hp_
      exact g_iret (pc := 26) dX12_tellHouse_26 rfl rfl (nar_B isB1) h
    · have h := h.2.2 m2 hp_
      exact g_iret (pc := 26) dX12_tellHouse_26 rfl rfl (nar_B isB0) h
theorem dX12_tellOffice_0 : decode cX12_tellOffice 0 = .ok (.aload_n 0, 1) := by decide +kernel
theorem dX12_tellOffice_1 : decode cX12_tellOffice 1 = .ok (.iconst 1, 1) := by decide +kernel
theorem dX12_tellOffice_2 : decode cX12_tellOffice 2 = .ok (.invokevirtual 289, 3) := by decide +kernel
theorem dX12_tellOffice_5 : decode cX12_tellOffice 5 = .ok (.istore_n 1, 1) := by decide +kernel
theorem dX12_tellOffice_6 : decode cX12_tellOffice 6 = .ok (.aload_n 0, 1) := by decide +kernel
theorem dX12_tellOffice_7 : decode cX12_tellOffice 7 = .ok (.iconst 1, 1) := by decide +kernel
theorem dX12_tellOffice_8 : decode cX12_tellOffice 8 = .ok (.bipush 12, 2) := by decide +kernel
theorem dX12_tellOffice_10 : decode cX12_tellOffice 10 = .ok (.bipush 70, 2) := by decide +kernel
theorem dX12_tellOffice_12 : decode cX12_tellOffice 12 = .ok (.iconst 1, 1) := by decide +kernel
theorem dX12_tellOffice_13 : decode cX12_tellOffice 13 = .ok (.invokevirtual 295, 3) := by decide +kernel
theorem dX12_tellOffice_16 : decode cX12_tellOffice 16 = .ok (.istore_n 2, 1) := by decide +kernel
theorem dX12_tellOffice_17 : decode cX12_tellOffice 17 = .ok (.iload_n 2, 1) := by decide +kernel
theorem dX12_tellOffice_18 : decode cX12_tellOffice 18 = .ok (.ifCond .ge 9, 3) := by decide +kernel
theorem dX12_tellOffice_21 : decode cX12_tellOffice 21 = .ok (.aload_n 0, 1) := by decide +kernel
theorem dX12_tellOffice_22 : decode cX12_tellOffice 22 = .ok (.iconst 2, 1) := by decide +kernel
theorem dX12_tellOffice_23 : decode cX12_tellOffice 23 = .ok (.invokevirtual 227, 3) := by decide +kernel
theorem dX12_tellOffice_26 : decode cX12_tellOffice 26 = .ok (.ireturn, 1) := by decide +kernel
theorem dX12_tellOffice_27 : decode cX12_tellOffice 27 = .ok (.aload_n 0, 1) := by decide +kernel
theorem dX12_tellOffice_28 : decode cX12_tellOffice 28 = .ok (.invokevirtual 230, 3) := by decide +kernel
theorem dX12_tellOffice_31 : decode cX12_tellOffice 31 = .ok (.ifCond .eq 22, 3) := by decide +kernel
theorem dX12_tellOffice_34 : decode cX12_tellOffice 34 = .ok (.aload_n 0, 1) := by decide +kernel
theorem dX12_tellOffice_35 : decode cX12_tellOffice 35 = .ok (.iconst 1, 1) := by decide +kernel
theorem dX12_tellOffice_36 : decode cX12_tellOffice 36 = .ok (.iload_n 1, 1) := by decide +kernel
theorem dX12_tellOffice_37 : decode cX12_tellOffice 37 = .ok (.invokevirtual 299, 3) := by decide +kernel
theorem dX12_tellOffice_40 : decode cX12_tellOffice 40 = .ok (.ifCond .eq 13, 3) := by decide +kernel
theorem dX12_tellOffice_43 : decode cX12_tellOffice 43 = .ok (.aload_n 0, 1) := by decide +kernel
theorem dX12_tellOffice_44 : decode cX12_tellOffice 44 = .ok (.iconst 0, 1) := by decide +kernel
theorem dX12_tellOffice_45 : decode cX12_tellOffice 45 = .ok (.bipush 99, 2) := by decide +kernel
theorem dX12_tellOffice_47 : decode cX12_tellOffice 47 = .ok (.invokevirtual 302, 3) := by decide +kernel
theorem dX12_tellOffice_50 : decode cX12_tellOffice 50 = .ok (.ifCond .ne 5, 3) := by decide +kernel
theorem dX12_tellOffice_53 : decode cX12_tellOffice 53 = .ok (.iconst 0, 1) := by decide +kernel
theorem dX12_tellOffice_54 : decode cX12_tellOffice 54 = .ok (.ireturn, 1) := by decide +kernel
theorem dX12_tellOffice_55 : decode cX12_tellOffice 55 = .ok (.aload_n 0, 1) := by decide +kernel
theorem dX12_tellOffice_56 : decode cX12_tellOffice 56 = .ok (.iload_n 2, 1) := by decide +kernel
theorem dX12_tellOffice_57 : decode cX12_tellOffice 57 = .ok (.aload_n 0, 1) := by decide +kernel
theorem dX12_tellOffice_58 : decode cX12_tellOffice 58 = .ok (.getfield 237, 3) := by decide +kernel
theorem dX12_tellOffice_61 : decode cX12_tellOffice 61 = .ok (.invokevirtual 292, 3) := by decide +kernel
theorem dX12_tellOffice_64 : decode cX12_tellOffice 64 = .ok (.iconst 1, 1) := by decide +kernel
theorem dX12_tellOffice_65 : decode cX12_tellOffice 65 = .ok (.ireturn, 1) := by decide +kernel
theorem b_X12_tellOffice (mm : MM) (Q : Value → MM → Prop) (h : o_X12_told mm (1 : Int32) ∧ (∃ Pm1 : Value → MM → Prop, Runs e_X12_next [.ref 156, .int (1 : Int32), .int (12 : Int32), .int (70 : Int32), .int (1 : Int32)] mm Pm1 ∧ ∀ (r1 : Int32) (m1 : MM), Pm1 (.int r1) m1 → ((0 ≤ r1 → (∃ Pm2 : Value → MM → Prop, Runs e_X12_pass [.ref 156] m1 Pm2 ∧ (∀ r m2, Pm2 r m2 → r = .int 1 ∨ r = .int 0) ∧ (∀ m2, Pm2 (.int 1) m2 → (∃ Pm3 : Value → MM → Prop, Runs e_X12_names [.ref 156, .int (1 : Int32), .int (v_X12_told mm (1 : Int32))] m2 Pm3 ∧ (∀ r m3, Pm3 r m3 → r = .int 1 ∨ r = .int 0) ∧ (∀ m3, Pm3 (.int 1) m3 → (∃ Pm4 : Value → MM → Prop, Runs e_X12_takesInt [.ref 156, .int (0 : Int32), .int (99 : Int32)] m3 Pm4 ∧ (∀ r m4, Pm4 r m4 → r = .int 1 ∨ r = .int 0) ∧ (∀ m4, Pm4 (.int 1) m4 → (∃ Pm5 : Value → MM → Prop, Runs e_X12_tell [.ref 156, .int r1, .int (m4.1 156 29)] m4 Pm5 ∧ ∀ m5, Pm5 .null m5 → (Q (.int (1 : Int32)) m5))) ∧ (∀ m4, Pm4 (.int 0) m4 → (Q (.int (0 : Int32)) m4)))) ∧ (∀ m3, Pm3 (.int 0) m3 → (Q (.int (0 : Int32)) m3)))) ∧ (∀ m2, Pm2 (.int 0) m2 → (Q (.int (0 : Int32)) m2)))) ∧ (¬ 0 ≤ r1 → (∃ Pm2 : Value → MM → Prop, Runs e_X12_wrong [.ref 156, .int (2 : Int32)] m1 Pm2 ∧ (∀ r m2, Pm2 r m2 → r = .int 1 ∨ r = .int 0) ∧ (∀ m2, Pm2 (.int 1) m2 → (Q (.int (1 : Int32)) m2)) ∧ (∀ m2, Pm2 (.int 0) m2 → (Q (.int (0 : Int32)) m2))))))) : Runs e_X12_tellOffice [.ref 156] mm Q := by
  refine runs_of_G (L := [(0, .ref 156)]) pl_X12 (Nat.le_of_ble_eq_true rfl) rfl ?_
  refine g_aload_n (pc := 0) (x := 156) dX12_tellOffice_0 rfl ?_
  refine g_iconst (pc := 1) (v := (1 : Int32)) dX12_tellOffice_1 (by decide) ?_
  refine g_callV (pc := 2) (as := [.int (1 : Int32)]) dX12_tellOffice_2 cw_X12_289 (by decide) rfl rfl sh_156 (Nat.le_of_ble_eq_true rfl) (rv_X12_told mm (1 : Int32) h.1) ?_
  have h := h.2
  rintro r_ m_ hz_ ⟨rfl, rfl⟩
  refine g_istore_n (pc := 5) (L' := [(0, .ref 156), (1, .int (v_X12_told mm (1 : Int32)))]) dX12_tellOffice_5 (Nat.le_of_ble_eq_true rfl) rfl ?_
  refine g_aload_n (pc := 6) (x := 156) dX12_tellOffice_6 rfl ?_
  refine g_iconst (pc := 7) (v := (1 : Int32)) dX12_tellOffice_7 (by decide) ?_
  refine g_bipush (pc := 8) (v := (12 : Int32)) dX12_tellOffice_8 (by decide) ?_
  refine g_bipush (pc := 10) (v := (70 : Int32)) dX12_tellOffice_10 (by decide) ?_
  refine g_iconst (pc := 12) (v := (1 : Int32)) dX12_tellOffice_12 (by decide) ?_
  obtain ⟨Pm1, hRm1, h⟩ := h
  refine g_callV (pc := 13) (as := [.int (1 : Int32), .int (12 : Int32), .int (70 : Int32), .int (1 : Int32)]) dX12_tellOffice_13 cw_X12_295 (by decide) rfl rfl sh_156 (Nat.le_of_ble_eq_true rfl) hRm1 ?_
  intro r_ m1 hz_ hp_
  obtain ⟨r1, rfl⟩ := hz_
  have h := h r1 m1 hp_
  refine g_istore_n (pc := 16) (L' := [(0, .ref 156), (1, .int (v_X12_told mm (1 : Int32))), (2, .int r1)]) dX12_tellOffice_16 (Nat.le_of_ble_eq_true rfl) rfl ?_
  refine g_iload_n (pc := 17) (x := r1) dX12_tellOffice_17 rfl ?_
  refine g_if_ge (pc := 18) (tgt := 27) dX12_tellOffice_18 (by decide) (fun c18 => ?_) (fun c18 => ?_)
  · have h := h.1 c18
    refine g_aload_n (pc := 27) (x := 156) dX12_tellOffice_27 rfl ?_
    obtain ⟨Pm2, hRm2, h⟩ := h
    refine g_callV (pc := 28) (as := []) dX12_tellOffice_28 cw_X12_230 (by decide) rfl rfl sh_156 (Nat.le_of_ble_eq_true rfl) hRm2 ?_
    intro r_ m2 hz_ hp_
    rcases h.1 r_ m2 hp_ with rfl | rfl
    · have h := h.2.1 m2 hp_
      refine g_if_eq (pc := 31) (tgt := 53) dX12_tellOffice_31 (by decide) (fun c31 => absurd c31 (by decide)) (fun _ => ?_)
      refine g_aload_n (pc := 34) (x := 156) dX12_tellOffice_34 rfl ?_
      refine g_iconst (pc := 35) (v := (1 : Int32)) dX12_tellOffice_35 (by decide) ?_
      refine g_iload_n (pc := 36) (x := (v_X12_told mm (1 : Int32))) dX12_tellOffice_36 rfl ?_
      obtain ⟨Pm3, hRm3, h⟩ := h
      refine g_callV (pc := 37) (as := [.int (1 : Int32), .int (v_X12_told mm (1 : Int32))]) dX12_tellOffice_37 cw_X12_299 (by decide) rfl rfl sh_156 (Nat.le_of_ble_eq_true rfl) hRm3 ?_
      intro r_ m3 hz_ hp_
      rcases h.1 r_ m3 hp_ with rfl | rfl
      · have h := h.2.1 m3 hp_
        refine g_if_eq (pc := 40) (tgt := 53) dX12_tellOffice_40 (by decide) (fun c40 => absurd c40 (by decide)) (fun _ => ?_)
        refine g_aload_n (pc := 43) (x := 156) dX12_tellOffice_43 rfl ?_
        refine g_iconst (pc := 44) (v := (0 : Int32)) dX12_tellOffice_44 (by decide) ?_
        refine g_bipush (pc := 45) (v := (99 : Int32)) dX12_tellOffice_45 (by decide) ?_
        obtain ⟨Pm4, hRm4, h⟩ := h
        refine g_callV (pc := 47) (as := [.int (0 : Int32), .int (99 : Int32)]) dX12_tellOffice_47 cw_X12_302 (by decide) rfl rfl sh_156 (Nat.le_of_ble_eq_true rfl) hRm4 ?_
        intro r_ m4 hz_ hp_
        rcases h.1 r_ m4 hp_ with rfl | rfl
        · have h := h.2.1 m4 hp_
          refine g_if_ne (pc := 50) (tgt := 55) dX12_tellOffice_50 (by decide) (fun _ => ?_) (fun c50 => absurd c50 (by decide))
          refine g_aload_n (pc := 55) (x := 156) dX12_tellOffice_55 rfl ?_
          refine g_iload_n (pc := 56) (x := r1) dX12_tellOffice_56 rfl ?_
          refine g_aload_n (pc := 57) (x := 156) dX12_tellOffice_57 rfl ?_
          refine g_getI (pc := 58) dX12_tellOffice_58 fo_X12_237 sh_156 rfl ?_
          obtain ⟨Pm5, hRm5, h⟩ := h
          refine g_callV (pc := 61) (as := [.int r1, .int (m4.1 156 29)]) dX12_tellOffice_61 cw_X12_292 (by decide) rfl rfl sh_156 (Nat.le_of_ble_eq_true rfl) hRm5 ?_
          intro r_ m5 hz_ hp_
          obtain rfl := hz_
          have h := h m5 hp_
          refine g_iconst (pc := 64) (v := (1 : Int32)) dX12_tellOffice_64 (by decide) ?_
          exact g_iret (pc := 65) dX12_tellOffice_65 rfl rfl (nar_B isB1) h
        · have h := h.2.2 m4 hp_
          refine g_if_ne (pc := 50) (tgt := 55) dX12_tellOffice_50 (by decide) (fun c50 => absurd c50 (by decide)) (fun _ => ?_)
          refine g_iconst (pc := 53) (v := (0 : Int32)) dX12_tellOffice_53 (by decide) ?_
          exact g_iret (pc := 54) dX12_tellOffice_54 rfl rfl (nar_B isB0) h
      · have h := h.2.2 m3 hp_
        refine g_if_eq (pc := 40) (tgt := 53) dX12_tellOffice_40 (by decide) (fun _ => ?_) (fun c40 => absurd c40 (by decide))
        refine g_iconst (pc := 53) (v := (0 : Int32)) dX12_tellOffice_53 (by decide) ?_
        exact g_iret (pc := 54) dX12_tellOffice_54 rfl rfl (nar_B isB0) h
    · have h := h.2.2 m2 hp_
      refine g_if_eq (pc := 31) (tgt := 53) dX12_tellOffice_31 (by decide) (fun _ => ?_) (fun c31 => absurd c31 (by decide))
      refine g_iconst (pc := 53) (v := (0 : Int32)) dX12_tellOffice_53 (by decide) ?_
      exact g_iret (pc := 54) dX12_tellOffice_54 rfl rfl (nar_B isB0) h
  · have h := h.2 c18
    refine g_aload_n (pc := 21) (x := 156) dX12_tellOffice_21 rfl ?_
    refine g_iconst (pc := 22) (v := (2 : Int32)) dX12_tellOffice_22 (by decide) ?_
    obtain ⟨Pm2, hRm2, h⟩ := h
    refine g_callV (pc := 23) (as := [.int (2 : Int32)]) dX12_tellOffice_23 cw_X12_227 (by decide) rfl rfl sh_156 (Nat.le_of_ble_eq_true rfl) hRm2 ?_
    intro r_ m2 hz_ hp_
    rcases h.1 r_ m2 hp_ with rfl | rfl
    · have h := h.2.1 m2 hp_
      exact g_iret (pc := 26) dX12_tellOffice_26 rfl rfl (nar_B isB1) h
    · have h := h.2.2 m2 hp_
      exact g_iret (pc := 26) dX12_tellOffice_26 rfl rfl (nar_B isB0) h
theorem dX12_tellIn_0 : decode cX12_tellIn 0 = .ok (.aload_n 0, 1) := by decide +kernel
theorem dX12_tellIn_1 : decode cX12_tellIn 1 = .ok (.iconst 2, 1) := by decide +kernel
theorem dX12_tellIn_2 : decode cX12_tellIn 2 = .ok (.bipush 12, 2) := by decide +kernel
theorem dX12_tellIn_4 : decode cX12_tellIn 4 = .ok (.bipush 90, 2) := by decide +kernel
theorem dX12_tellIn_6 : decode cX12_tellIn 6 = .ok (.iconst 2, 1) := by decide +kernel
theorem dX12_tellIn_7 : decode cX12_tellIn 7 = .ok (.invokevirtual 295, 3) := by decide +kernel
theorem dX12_tellIn_10 : decode cX12_tellIn 10 = .ok (.istore_n 1, 1) := by decide +kernel
theorem dX12_tellIn_11 : decode cX12_tellIn 11 = .ok (.iload_n 1, 1) := by decide +kernel
theorem dX12_tellIn_12 : decode cX12_tellIn 12 = .ok (.ifCond .ge 9, 3) := by decide +kernel
theorem dX12_tellIn_15 : decode cX12_tellIn 15 = .ok (.aload_n 0, 1) := by decide +kernel
theorem dX12_tellIn_16 : decode cX12_tellIn 16 = .ok (.iconst 2, 1) := by decide +kernel
theorem dX12_tellIn_17 : decode cX12_tellIn 17 = .ok (.invokevirtual 227, 3) := by decide +kernel
theorem dX12_tellIn_20 : decode cX12_tellIn 20 = .ok (.ireturn, 1) := by decide +kernel
theorem dX12_tellIn_21 : decode cX12_tellIn 21 = .ok (.aload_n 0, 1) := by decide +kernel
theorem dX12_tellIn_22 : decode cX12_tellIn 22 = .ok (.invokevirtual 230, 3) := by decide +kernel
theorem dX12_tellIn_25 : decode cX12_tellIn 25 = .ok (.ifCond .eq 11, 3) := by decide +kernel
theorem dX12_tellIn_28 : decode cX12_tellIn 28 = .ok (.aload_n 0, 1) := by decide +kernel
theorem dX12_tellIn_29 : decode cX12_tellIn 29 = .ok (.iconst 0, 1) := by decide +kernel
theorem dX12_tellIn_30 : decode cX12_tellIn 30 = .ok (.invokevirtual 305, 3) := by decide +kernel
theorem dX12_tellIn_33 : decode cX12_tellIn 33 = .ok (.ifCond .ne 5, 3) := by decide +kernel
theorem dX12_tellIn_36 : decode cX12_tellIn 36 = .ok (.iconst 0, 1) := by decide +kernel
theorem dX12_tellIn_37 : decode cX12_tellIn 37 = .ok (.ireturn, 1) := by decide +kernel
theorem dX12_tellIn_38 : decode cX12_tellIn 38 = .ok (.aload_n 0, 1) := by decide +kernel
theorem dX12_tellIn_39 : decode cX12_tellIn 39 = .ok (.iload_n 1, 1) := by decide +kernel
theorem dX12_tellIn_40 : decode cX12_tellIn 40 = .ok (.aload_n 0, 1) := by decide +kernel
theorem dX12_tellIn_41 : decode cX12_tellIn 41 = .ok (.getfield 237, 3) := by decide +kernel
theorem dX12_tellIn_44 : decode cX12_tellIn 44 = .ok (.invokevirtual 292, 3) := by decide +kernel
theorem dX12_tellIn_47 : decode cX12_tellIn 47 = .ok (.aload_n 0, 1) := by decide +kernel
theorem dX12_tellIn_48 : decode cX12_tellIn 48 = .ok (.iconst 1, 1) := by decide +kernel
theorem dX12_tellIn_49 : decode cX12_tellIn 49 = .ok (.invokevirtual 305, 3) := by decide +kernel
theorem dX12_tellIn_52 : decode cX12_tellIn 52 = .ok (.ifCond .ne 5, 3) := by decide +kernel
theorem dX12_tellIn_55 : decode cX12_tellIn 55 = .ok (.iconst 0, 1) := by decide +kernel
theorem dX12_tellIn_56 : decode cX12_tellIn 56 = .ok (.ireturn, 1) := by decide +kernel
theorem dX12_tellIn_57 : decode cX12_tellIn 57 = .ok (.aload_n 0, 1) := by decide +kernel
theorem dX12_tellIn_58 : decode cX12_tellIn 58 = .ok (.iload_n 1, 1) := by decide +kernel
theorem dX12_tellIn_59 : decode cX12_tellIn 59 = .ok (.iconst 1, 1) := by decide +kernel
theorem dX12_tellIn_60 : decode cX12_tellIn 60 = .ok (.iadd, 1) := by decide +kernel
theorem dX12_tellIn_61 : decode cX12_tellIn 61 = .ok (.aload_n 0, 1) := by decide +kernel
theorem dX12_tellIn_62 : decode cX12_tellIn 62 = .ok (.getfield 237, 3) := by decide +kernel
theorem dX12_tellIn_65 : decode cX12_tellIn 65 = .ok (.invokevirtual 292, 3) := by decide +kernel
theorem dX12_tellIn_68 : decode cX12_tellIn 68 = .ok (.iconst 1, 1) := by decide +kernel
theorem dX12_tellIn_69 : decode cX12_tellIn 69 = .ok (.ireturn, 1) := by decide +kernel
theorem b_X12_tellIn (mm : MM) (Q : Value → MM → Prop) (h : ∃ Pm1 : Value → MM → Prop, Runs e_X12_next [.ref 156, .int (2 : Int32), .int (12 : Int32), .int (90 : Int32), .int (2 : Int32)] mm Pm1 ∧ ∀ (r1 : Int32) (m1 : MM), Pm1 (.int r1) m1 → ((0 ≤ r1 → (∃ Pm2 : Value → MM → Prop, Runs e_X12_pass [.ref 156] m1 Pm2 ∧ (∀ r m2, Pm2 r m2 → r = .int 1 ∨ r = .int 0) ∧ (∀ m2, Pm2 (.int 1) m2 → (∃ Pm3 : Value → MM → Prop, Runs e_X12_takesName [.ref 156, .int (0 : Int32)] m2 Pm3 ∧ (∀ r m3, Pm3 r m3 → r = .int 1 ∨ r = .int 0) ∧ (∀ m3, Pm3 (.int 1) m3 → (∃ Pm4 : Value → MM → Prop, Runs e_X12_tell [.ref 156, .int r1, .int (m3.1 156 29)] m3 Pm4 ∧ ∀ m4, Pm4 .null m4 → (∃ Pm5 : Value → MM → Prop, Runs e_X12_takesName [.ref 156, .int (1 : Int32)] m4 Pm5 ∧ (∀ r m5, Pm5 r m5 → r = .int 1 ∨ r = .int 0) ∧ (∀ m5, Pm5 (.int 1) m5 → (∃ Pm6 : Value → MM → Prop, Runs e_X12_tell [.ref 156, .int (r1 + (1 : Int32)), .int (m5.1 156 29)] m5 Pm6 ∧ ∀ m6, Pm6 .null m6 → (Q (.int (1 : Int32)) m6))) ∧ (∀ m5, Pm5 (.int 0) m5 → (Q (.int (0 : Int32)) m5))))) ∧ (∀ m3, Pm3 (.int 0) m3 → (Q (.int (0 : Int32)) m3)))) ∧ (∀ m2, Pm2 (.int 0) m2 → (Q (.int (0 : Int32)) m2)))) ∧ (¬ 0 ≤ r1 → (∃ Pm2 : Value → MM → Prop, Runs e_X12_wrong [.ref 156, .int (2 : Int32)] m1 Pm2 ∧ (∀ r m2, Pm2 r m2 → r = .int 1 ∨ r = .int 0) ∧ (∀ m2, Pm2 (.int 1) m2 → (Q (.int (1 : Int32)) m2)) ∧ (∀ m2, Pm2 (.int 0) m2 → (Q (.int (0 : Int32)) m2)))))) : Runs e_X12_tellIn [.ref 156] mm Q := by
  refine runs_of_G (L := [(0, .ref 156)]) pl_X12 (Nat.le_of_ble_eq_true rfl) rfl ?_
  refine g_aload_n (pc := 0) (x := 156) dX12_tellIn_0 rfl ?_
  refine g_iconst (pc := 1) (v := (2 : Int32)) dX12_tellIn_1 (by decide) ?_
  refine g_bipush (pc := 2) (v := (12 : Int32)) dX12_tellIn_2 (by decide) ?_
  refine g_bipush (pc := 4) (v := (90 : Int32)) dX12_tellIn_4 (by decide) ?_
  refine g_iconst (pc := 6) (v := (2 : Int32)) dX12_tellIn_6 (by decide) ?_
  obtain ⟨Pm1, hRm1, h⟩ := h
  refine g_callV (pc := 7) (as := [.int (2 : Int32), .int (12 : Int32), .int (90 : Int32), .int (2 : Int32)]) dX12_tellIn_7 cw_X12_295 (by decide) rfl rfl sh_156 (Nat.le_of_ble_eq_true rfl) hRm1 ?_
  intro r_ m1 hz_ hp_
  obtain ⟨r1, rfl⟩ := hz_
  have h := h r1 m1 hp_
  refine g_istore_n (pc := 10) (L' := [(0, .ref 156), (1, .int r1)]) dX12_tellIn_10 (Nat.le_of_ble_eq_true rfl) rfl ?_
  refine g_iload_n (pc := 11) (x := r1) dX12_tellIn_11 rfl ?_
  refine g_if_ge (pc := 12) (tgt := 21) dX12_tellIn_12 (by decide) (fun c12 => ?_) (fun c12 => ?_)
  · have h := h.1 c12
    refine g_aload_n (pc := 21) (x := 156) dX12_tellIn_21 rfl ?_
    obtain ⟨Pm2, hRm2, h⟩ := h
    refine g_callV (pc := 22) (as := []) dX12_tellIn_22 cw_X12_230 (by decide) rfl rfl sh_156 (Nat.le_of_ble_eq_true rfl) hRm2 ?_
    intro r_ m2 hz_ hp_
    rcases h.1 r_ m2 hp_ with rfl | rfl
    · have h := h.2.1 m2 hp_
      refine g_if_eq (pc := 25) (tgt := 36) dX12_tellIn_25 (by decide) (fun c25 => absurd c25 (by decide)) (fun _ => ?_)
      refine g_aload_n (pc := 28) (x := 156) dX12_tellIn_28 rfl ?_
      refine g_iconst (pc := 29) (v := (0 : Int32)) dX12_tellIn_29 (by decide) ?_
      obtain ⟨Pm3, hRm3, h⟩ := h
      refine g_callV (pc := 30) (as := [.int (0 : Int32)]) dX12_tellIn_30 cw_X12_305 (by decide) rfl rfl sh_156 (Nat.le_of_ble_eq_true rfl) hRm3 ?_
      intro r_ m3 hz_ hp_
      rcases h.1 r_ m3 hp_ with rfl | rfl
      · have h := h.2.1 m3 hp_
        refine g_if_ne (pc := 33) (tgt := 38) dX12_tellIn_33 (by decide) (fun _ => ?_) (fun c33 => absurd c33 (by decide))
        refine g_aload_n (pc := 38) (x := 156) dX12_tellIn_38 rfl ?_
        refine g_iload_n (pc := 39) (x := r1) dX12_tellIn_39 rfl ?_
        refine g_aload_n (pc := 40) (x := 156) dX12_tellIn_40 rfl ?_
        refine g_getI (pc := 41) dX12_tellIn_41 fo_X12_237 sh_156 rfl ?_
        obtain ⟨Pm4, hRm4, h⟩ := h
        refine g_callV (pc := 44) (as := [.int r1, .int (m3.1 156 29)]) dX12_tellIn_44 cw_X12_292 (by decide) rfl rfl sh_156 (Nat.le_of_ble_eq_true rfl) hRm4 ?_
        intro r_ m4 hz_ hp_
        obtain rfl := hz_
        have h := h m4 hp_
        refine g_aload_n (pc := 47) (x := 156) dX12_tellIn_47 rfl ?_
        refine g_iconst (pc := 48) (v := (1 : Int32)) dX12_tellIn_48 (by decide) ?_
        obtain ⟨Pm5, hRm5, h⟩ := h
        refine g_callV (pc := 49) (as := [.int (1 : Int32)]) dX12_tellIn_49 cw_X12_305 (by decide) rfl rfl sh_156 (Nat.le_of_ble_eq_true rfl) hRm5 ?_
        intro r_ m5 hz_ hp_
        rcases h.1 r_ m5 hp_ with rfl | rfl
        · have h := h.2.1 m5 hp_
          refine g_if_ne (pc := 52) (tgt := 57) dX12_tellIn_52 (by decide) (fun _ => ?_) (fun c52 => absurd c52 (by decide))
          refine g_aload_n (pc := 57) (x := 156) dX12_tellIn_57 rfl ?_
          refine g_iload_n (pc := 58) (x := r1) dX12_tellIn_58 rfl ?_
          refine g_iconst (pc := 59) (v := (1 : Int32)) dX12_tellIn_59 (by decide) ?_
          refine g_iadd (pc := 60) dX12_tellIn_60 ?_
          refine g_aload_n (pc := 61) (x := 156) dX12_tellIn_61 rfl ?_
          refine g_getI (pc := 62) dX12_tellIn_62 fo_X12_237 sh_156 rfl ?_
          obtain ⟨Pm6, hRm6, h⟩ := h
          refine g_callV (pc := 65) (as := [.int (r1 + (1 : Int32)), .int (m5.1 156 29)]) dX12_tellIn_65 cw_X12_292 (by decide) rfl rfl sh_156 (Nat.le_of_ble_eq_true rfl) hRm6 ?_
          intro r_ m6 hz_ hp_
          obtain rfl := hz_
          have h := h m6 hp_
          refine g_iconst (pc := 68) (v := (1 : Int32)) dX12_tellIn_68 (by decide) ?_
          exact g_iret (pc := 69) dX12_tellIn_69 rfl rfl (nar_B isB1) h
        · have h := h.2.2 m5 hp_
          refine g_if_ne (pc := 52) (tgt := 57) dX12_tellIn_52 (by decide) (fun c52 => absurd c52 (by decide)) (fun _ => ?_)
          refine g_iconst (pc := 55) (v := (0 : Int32)) dX12_tellIn_55 (by decide) ?_
          exact g_iret (pc := 56) dX12_tellIn_56 rfl rfl (nar_B isB0) h
      · have h := h.2.2 m3 hp_
        refine g_if_ne (pc := 33) (tgt := 38) dX12_tellIn_33 (by decide) (fun c33 => absurd c33 (by decide)) (fun _ => ?_)
        refine g_iconst (pc := 36) (v := (0 : Int32)) dX12_tellIn_36 (by decide) ?_
        exact g_iret (pc := 37) dX12_tellIn_37 rfl rfl (nar_B isB0) h
    · have h := h.2.2 m2 hp_
      refine g_if_eq (pc := 25) (tgt := 36) dX12_tellIn_25 (by decide) (fun _ => ?_) (fun c25 => absurd c25 (by decide))
      refine g_iconst (pc := 36) (v := (0 : Int32)) dX12_tellIn_36 (by decide) ?_
      exact g_iret (pc := 37) dX12_tellIn_37 rfl rfl (nar_B isB0) h
  · have h := h.2 c12
    refine g_aload_n (pc := 15) (x := 156) dX12_tellIn_15 rfl ?_
    refine g_iconst (pc := 16) (v := (2 : Int32)) dX12_tellIn_16 (by decide) ?_
    obtain ⟨Pm2, hRm2, h⟩ := h
    refine g_callV (pc := 17) (as := [.int (2 : Int32)]) dX12_tellIn_17 cw_X12_227 (by decide) rfl rfl sh_156 (Nat.le_of_ble_eq_true rfl) hRm2 ?_
    intro r_ m2 hz_ hp_
    rcases h.1 r_ m2 hp_ with rfl | rfl
    · have h := h.2.1 m2 hp_
      exact g_iret (pc := 20) dX12_tellIn_20 rfl rfl (nar_B isB1) h
    · have h := h.2.2 m2 hp_
      exact g_iret (pc := 20) dX12_tellIn_20 rfl rfl (nar_B isB0) h
theorem dX12_tellStair_0 : decode cX12_tellStair 0 = .ok (.aload_n 0, 1) := by decide +kernel
theorem dX12_tellStair_1 : decode cX12_tellStair 1 = .ok (.iconst 3, 1) := by decide +kernel
theorem dX12_tellStair_2 : decode cX12_tellStair 2 = .ok (.bipush 12, 2) := by decide +kernel
theorem dX12_tellStair_4 : decode cX12_tellStair 4 = .ok (.bipush 120, 2) := by decide +kernel
theorem dX12_tellStair_6 : decode cX12_tellStair 6 = .ok (.iconst 3, 1) := by decide +kernel
theorem dX12_tellStair_7 : decode cX12_tellStair 7 = .ok (.invokevirtual 295, 3) := by decide +kernel
theorem dX12_tellStair_10 : decode cX12_tellStair 10 = .ok (.istore_n 1, 1) := by decide +kernel
theorem dX12_tellStair_11 : decode cX12_tellStair 11 = .ok (.iload_n 1, 1) := by decide +kernel
theorem dX12_tellStair_12 : decode cX12_tellStair 12 = .ok (.ifCond .ge 9, 3) := by decide +kernel
theorem dX12_tellStair_15 : decode cX12_tellStair 15 = .ok (.aload_n 0, 1) := by decide +kernel
theorem dX12_tellStair_16 : decode cX12_tellStair 16 = .ok (.iconst 2, 1) := by decide +kernel
theorem dX12_tellStair_17 : decode cX12_tellStair 17 = .ok (.invokevirtual 227, 3) := by decide +kernel
theorem dX12_tellStair_20 : decode cX12_tellStair 20 = .ok (.ireturn, 1) := by decide +kernel
theorem dX12_tellStair_21 : decode cX12_tellStair 21 = .ok (.aload_n 0, 1) := by decide +kernel
theorem dX12_tellStair_22 : decode cX12_tellStair 22 = .ok (.invokevirtual 230, 3) := by decide +kernel
theorem dX12_tellStair_25 : decode cX12_tellStair 25 = .ok (.ifCond .eq 11, 3) := by decide +kernel
theorem dX12_tellStair_28 : decode cX12_tellStair 28 = .ok (.aload_n 0, 1) := by decide +kernel
theorem dX12_tellStair_29 : decode cX12_tellStair 29 = .ok (.iconst 0, 1) := by decide +kernel
theorem dX12_tellStair_30 : decode cX12_tellStair 30 = .ok (.invokevirtual 305, 3) := by decide +kernel
theorem dX12_tellStair_33 : decode cX12_tellStair 33 = .ok (.ifCond .ne 5, 3) := by decide +kernel
theorem dX12_tellStair_36 : decode cX12_tellStair 36 = .ok (.iconst 0, 1) := by decide +kernel
theorem dX12_tellStair_37 : decode cX12_tellStair 37 = .ok (.ireturn, 1) := by decide +kernel
theorem dX12_tellStair_38 : decode cX12_tellStair 38 = .ok (.aload_n 0, 1) := by decide +kernel
theorem dX12_tellStair_39 : decode cX12_tellStair 39 = .ok (.iload_n 1, 1) := by decide +kernel
theorem dX12_tellStair_40 : decode cX12_tellStair 40 = .ok (.aload_n 0, 1) := by decide +kernel
theorem dX12_tellStair_41 : decode cX12_tellStair 41 = .ok (.getfield 237, 3) := by decide +kernel
theorem dX12_tellStair_44 : decode cX12_tellStair 44 = .ok (.invokevirtual 292, 3) := by decide +kernel
theorem dX12_tellStair_47 : decode cX12_tellStair 47 = .ok (.aload_n 0, 1) := by decide +kernel
theorem dX12_tellStair_48 : decode cX12_tellStair 48 = .ok (.iload_n 1, 1) := by decide +kernel
theorem dX12_tellStair_49 : decode cX12_tellStair 49 = .ok (.iconst 1, 1) := by decide +kernel
theorem dX12_tellStair_50 : decode cX12_tellStair 50 = .ok (.iadd, 1) := by decide +kernel
theorem dX12_tellStair_51 : decode cX12_tellStair 51 = .ok (.iconst (-1), 1) := by decide +kernel
theorem dX12_tellStair_52 : decode cX12_tellStair 52 = .ok (.invokevirtual 292, 3) := by decide +kernel
theorem dX12_tellStair_55 : decode cX12_tellStair 55 = .ok (.aload_n 0, 1) := by decide +kernel
theorem dX12_tellStair_56 : decode cX12_tellStair 56 = .ok (.iconst 4, 1) := by decide +kernel
theorem dX12_tellStair_57 : decode cX12_tellStair 57 = .ok (.invokevirtual 271, 3) := by decide +kernel
theorem dX12_tellStair_60 : decode cX12_tellStair 60 = .ok (.ifCond .eq 12, 3) := by decide +kernel
theorem dX12_tellStair_63 : decode cX12_tellStair 63 = .ok (.aload_n 0, 1) := by decide +kernel
theorem dX12_tellStair_64 : decode cX12_tellStair 64 = .ok (.invokevirtual 230, 3) := by decide +kernel
theorem dX12_tellStair_67 : decode cX12_tellStair 67 = .ok (.ifCond .ne 56, 3) := by decide +kernel
theorem dX12_tellStair_70 : decode cX12_tellStair 70 = .ok (.iconst 0, 1) := by decide +kernel
theorem dX12_tellStair_71 : decode cX12_tellStair 71 = .ok (.ireturn, 1) := by decide +kernel
theorem dX12_tellStair_72 : decode cX12_tellStair 72 = .ok (.aload_n 0, 1) := by decide +kernel
theorem dX12_tellStair_73 : decode cX12_tellStair 73 = .ok (.getfield 218, 3) := by decide +kernel
theorem dX12_tellStair_76 : decode cX12_tellStair 76 = .ok (.istore_n 2, 1) := by decide +kernel
theorem dX12_tellStair_77 : decode cX12_tellStair 77 = .ok (.aload_n 0, 1) := by decide +kernel
theorem dX12_tellStair_78 : decode cX12_tellStair 78 = .ok (.iconst 0, 1) := by decide +kernel
theorem dX12_tellStair_79 : decode cX12_tellStair 79 = .ok (.invokevirtual 305, 3) := by decide +kernel
theorem dX12_tellStair_82 : decode cX12_tellStair 82 = .ok (.ifCond .ne 5, 3) := by decide +kernel
theorem dX12_tellStair_85 : decode cX12_tellStair 85 = .ok (.iconst 0, 1) := by decide +kernel
theorem dX12_tellStair_86 : decode cX12_tellStair 86 = .ok (.ireturn, 1) := by decide +kernel
theorem dX12_tellStair_87 : decode cX12_tellStair 87 = .ok (.aload_n 0, 1) := by decide +kernel
theorem dX12_tellStair_88 : decode cX12_tellStair 88 = .ok (.getfield 237, 3) := by decide +kernel
theorem dX12_tellStair_91 : decode cX12_tellStair 91 = .ok (.ifCond .lt 21, 3) := by decide +kernel
theorem dX12_tellStair_94 : decode cX12_tellStair 94 = .ok (.aload_n 0, 1) := by decide +kernel
theorem dX12_tellStair_95 : decode cX12_tellStair 95 = .ok (.getfield 237, 3) := by decide +kernel
theorem dX12_tellStair_98 : decode cX12_tellStair 98 = .ok (.aload_n 0, 1) := by decide +kernel
theorem dX12_tellStair_99 : decode cX12_tellStair 99 = .ok (.iload_n 1, 1) := by decide +kernel
theorem dX12_tellStair_100 : decode cX12_tellStair 100 = .ok (.invokevirtual 289, 3) := by decide +kernel
theorem dX12_tellStair_103 : decode cX12_tellStair 103 = .ok (.if_icmp .ne 9, 3) := by decide +kernel
theorem dX12_tellStair_106 : decode cX12_tellStair 106 = .ok (.aload_n 0, 1) := by decide +kernel
theorem dX12_tellStair_107 : decode cX12_tellStair 107 = .ok (.iconst 5, 1) := by decide +kernel
theorem dX12_tellStair_108 : decode cX12_tellStair 108 = .ok (.iload_n 2, 1) := by decide +kernel
theorem dX12_tellStair_109 : decode cX12_tellStair 109 = .ok (.invokevirtual 240, 3) := by decide +kernel
theorem dX12_tellStair_112 : decode cX12_tellStair 112 = .ok (.aload_n 0, 1) := by decide +kernel
theorem dX12_tellStair_113 : decode cX12_tellStair 113 = .ok (.iload_n 1, 1) := by decide +kernel
theorem dX12_tellStair_114 : decode cX12_tellStair 114 = .ok (.iconst 1, 1) := by decide +kernel
theorem dX12_tellStair_115 : decode cX12_tellStair 115 = .ok (.iadd, 1) := by decide +kernel
theorem dX12_tellStair_116 : decode cX12_tellStair 116 = .ok (.aload_n 0, 1) := by decide +kernel
theorem dX12_tellStair_117 : decode cX12_tellStair 117 = .ok (.getfield 237, 3) := by decide +kernel
theorem dX12_tellStair_120 : decode cX12_tellStair 120 = .ok (.invokevirtual 292, 3) := by decide +kernel
theorem dX12_tellStair_123 : decode cX12_tellStair 123 = .ok (.aload_n 0, 1) := by decide +kernel
theorem dX12_tellStair_124 : decode cX12_tellStair 124 = .ok (.iconst 0, 1) := by decide +kernel
theorem dX12_tellStair_125 : decode cX12_tellStair 125 = .ok (.bipush 99, 2) := by decide +kernel
theorem dX12_tellStair_127 : decode cX12_tellStair 127 = .ok (.invokevirtual 302, 3) := by decide +kernel
theorem dX12_tellStair_130 : decode cX12_tellStair 130 = .ok (.ifCond .ne 5, 3) := by decide +kernel
theorem dX12_tellStair_133 : decode cX12_tellStair 133 = .ok (.iconst 0, 1) := by decide +kernel
theorem dX12_tellStair_134 : decode cX12_tellStair 134 = .ok (.ireturn, 1) := by decide +kernel
theorem dX12_tellStair_135 : decode cX12_tellStair 135 = .ok (.aload_n 0, 1) := by decide +kernel
theorem dX12_tellStair_136 : decode cX12_tellStair 136 = .ok (.iload_n 1, 1) := by decide +kernel
theorem dX12_tellStair_137 : decode cX12_tellStair 137 = .ok (.iconst 2, 1) := by decide +kernel
theorem dX12_tellStair_138 : decode cX12_tellStair 138 = .ok (.iadd, 1) := by decide +kernel
theorem dX12_tellStair_139 : decode cX12_tellStair 139 = .ok (.aload_n 0, 1) := by decide +kernel
theorem dX12_tellStair_140 : decode cX12_tellStair 140 = .ok (.getfield 237, 3) := by decide +kernel
theorem dX12_tellStair_143 : decode cX12_tellStair 143 = .ok (.invokevirtual 292, 3) := by decide +kernel
theorem dX12_tellStair_146 : decode cX12_tellStair 146 = .ok (.iconst 1, 1) := by decide +kernel
theorem dX12_tellStair_147 : decode cX12_tellStair 147 = .ok (.ireturn, 1) := by decide +kernel
theorem b_X12_tellStair (mm : MM) (Q : Value → MM → Prop) (h : ∃ Pm1 : Value → MM → Prop, Runs e_X12_next [.ref 156, .int (3 : Int32), .int (12 : Int32), .int (120 : Int32), .int (3 : Int32)] mm Pm1 ∧ ∀ (r1 : Int32) (m1 : MM), Pm1 (.int r1) m1 → ((0 ≤ r1 → (∃ Pm2 : Value → MM → Prop, Runs e_X12_pass [.ref 156] m1 Pm2 ∧ (∀ r m2, Pm2 r m2 → r = .int 1 ∨ r = .int 0) ∧ (∀ m2, Pm2 (.int 1) m2 → (∃ Pm3 : Value → MM → Prop, Runs e_X12_takesName [.ref 156, .int (0 : Int32)] m2 Pm3 ∧ (∀ r m3, Pm3 r m3 → r = .int 1 ∨ r = .int 0) ∧ (∀ m3, Pm3 (.int 1) m3 → (∃ Pm4 : Value → MM → Prop, Runs e_X12_tell [.ref 156, .int r1, .int (m3.1 156 29)] m3 Pm4 ∧ ∀ m4, Pm4 .null m4 → (∃ Pm5 : Value → MM → Prop, Runs e_X12_tell [.ref 156, .int (r1 + (1 : Int32)), .int (-1 : Int32)] m4 Pm5 ∧ ∀ m5, Pm5 .null m5 → (o_X12_isWord m5 (4 : Int32) ∧ ((p_X12_isWord m5 (4 : Int32) → (∃ Pm6 : Value → MM → Prop, Runs e_X12_pass [.ref 156] m5 Pm6 ∧ (∀ r m6, Pm6 r m6 → r = .int 1 ∨ r = .int 0) ∧ (∀ m6, Pm6 (.int 1) m6 → (∃ Pm7 : Value → MM → Prop, Runs e_X12_takesInt [.ref 156, .int (0 : Int32), .int (99 : Int32)] m6 Pm7 ∧ (∀ r m7, Pm7 r m7 → r = .int 1 ∨ r = .int 0) ∧ (∀ m7, Pm7 (.int 1) m7 → (∃ Pm8 : Value → MM → Prop, Runs e_X12_tell [.ref 156, .int (r1 + (2 : Int32)), .int (m7.1 156 29)] m7 Pm8 ∧ ∀ m8, Pm8 .null m8 → (Q (.int (1 : Int32)) m8))) ∧ (∀ m7, Pm7 (.int 0) m7 → (Q (.int (0 : Int32)) m7)))) ∧ (∀ m6, Pm6 (.int 0) m6 → (Q (.int (0 : Int32)) m6)))) ∧ (¬ p_X12_isWord m5 (4 : Int32) → (∃ Pm6 : Value → MM → Prop, Runs e_X12_takesName [.ref 156, .int (0 : Int32)] m5 Pm6 ∧ (∀ r m6, Pm6 r m6 → r = .int 1 ∨ r = .int 0) ∧ (∀ m6, Pm6 (.int 1) m6 → (((m6.1 156 29) < 0 → (∃ Pm7 : Value → MM → Prop, Runs e_X12_tell [.ref 156, .int (r1 + (1 : Int32)), .int (m6.1 156 29)] m6 Pm7 ∧ ∀ m7, Pm7 .null m7 → (∃ Pm8 : Value → MM → Prop, Runs e_X12_takesInt [.ref 156, .int (0 : Int32), .int (99 : Int32)] m7 Pm8 ∧ (∀ r m8, Pm8 r m8 → r = .int 1 ∨ r = .int 0) ∧ (∀ m8, Pm8 (.int 1) m8 → (∃ Pm9 : Value → MM → Prop, Runs e_X12_tell [.ref 156, .int (r1 + (2 : Int32)), .int (m8.1 156 29)] m8 Pm9 ∧ ∀ m9, Pm9 .null m9 → (Q (.int (1 : Int32)) m9))) ∧ (∀ m8, Pm8 (.int 0) m8 → (Q (.int (0 : Int32)) m8))))) ∧ (¬ (m6.1 156 29) < 0 → (o_X12_told m6 r1 ∧ ((¬ (m6.1 156 29) = (v_X12_told m6 r1) → (∃ Pm7 : Value → MM → Prop, Runs e_X12_tell [.ref 156, .int (r1 + (1 : Int32)), .int (m6.1 156 29)] m6 Pm7 ∧ ∀ m7, Pm7 .null m7 → (∃ Pm8 : Value → MM → Prop, Runs e_X12_takesInt [.ref 156, .int (0 : Int32), .int (99 : Int32)] m7 Pm8 ∧ (∀ r m8, Pm8 r m8 → r = .int 1 ∨ r = .int 0) ∧ (∀ m8, Pm8 (.int 1) m8 → (∃ Pm9 : Value → MM → Prop, Runs e_X12_tell [.ref 156, .int (r1 + (2 : Int32)), .int (m8.1 156 29)] m8 Pm9 ∧ ∀ m9, Pm9 .null m9 → (Q (.int (1 : Int32)) m9))) ∧ (∀ m8, Pm8 (.int 0) m8 → (Q (.int (0 : Int32)) m8))))) ∧ ((m6.1 156 29) = (v_X12_told m6 r1) → (∃ Pm7 : Value → MM → Prop, Runs e_X12_tells [.ref 156, .int (5 : Int32), .int (m5.1 156 7)] m6 Pm7 ∧ ∀ m7, Pm7 .null m7 → (∃ Pm8 : Value → MM → Prop, Runs e_X12_tell [.ref 156, .int (r1 + (1 : Int32)), .int (m7.1 156 29)] m7 Pm8 ∧ ∀ m8, Pm8 .null m8 → (∃ Pm9 : Value → MM → Prop, Runs e_X12_takesInt [.ref 156, .int (0 : Int32), .int (99 : Int32)] m8 Pm9 ∧ (∀ r m9, Pm9 r m9 → r = .int 1 ∨ r = .int 0) ∧ (∀ m9, Pm9 (.int 1) m9 → (∃ Pm10 : Value → MM → Prop, Runs e_X12_tell [.ref 156, .int (r1 + (2 : Int32)), .int (m9.1 156 29)] m9 Pm10 ∧ ∀ m10, Pm10 .null m10 → (Q (.int (1 : Int32)) m10))) ∧ (∀ m9, Pm9 (.int 0) m9 → (Q (.int (0 : Int32)) m9))))))))))) ∧ (∀ m6, Pm6 (.int 0) m6 → (Q (.int (0 : Int32)) m6))))))))) ∧ (∀ m3, Pm3 (.int 0) m3 → (Q (.int (0 : Int32)) m3)))) ∧ (∀ m2, Pm2 (.int 0) m2 → (Q (.int (0 : Int32)) m2)))) ∧ (¬ 0 ≤ r1 → (∃ Pm2 : Value → MM → Prop, Runs e_X12_wrong [.ref 156, .int (2 : Int32)] m1 Pm2 ∧ (∀ r m2, Pm2 r m2 → r = .int 1 ∨ r = .int 0) ∧ (∀ m2, Pm2 (.int 1) m2 → (Q (.int (1 : Int32)) m2)) ∧ (∀ m2, Pm2 (.int 0) m2 → (Q (.int (0 : Int32)) m2)))))) : Runs e_X12_tellStair [.ref 156] mm Q := by
  refine runs_of_G (L := [(0, .ref 156)]) pl_X12 (Nat.le_of_ble_eq_true rfl) rfl ?_
  refine g_aload_n (pc := 0) (x := 156) dX12_tellStair_0 rfl ?_
  refine g_iconst (pc := 1) (v := (3 : Int32)) dX12_tellStair_1 (by decide) ?_
  refine g_bipush (pc := 2) (v := (12 : Int32)) dX12_tellStair_2 (by decide) ?_
  refine g_bipush (pc := 4) (v := (120 : Int32)) dX12_tellStair_4 (by decide) ?_
  refine g_iconst (pc := 6) (v := (3 : Int32)) dX12_tellStair_6 (by decide) ?_
  obtain ⟨Pm1, hRm1, h⟩ := h
  refine g_callV (pc := 7) (as := [.int (3 : Int32), .int (12 : Int32), .int (120 : Int32), .int (3 : Int32)]) dX12_tellStair_7 cw_X12_295 (by decide) rfl rfl sh_156 (Nat.le_of_ble_eq_true rfl) hRm1 ?_
  intro r_ m1 hz_ hp_
  obtain ⟨r1, rfl⟩ := hz_
  have h := h r1 m1 hp_
  refine g_istore_n (pc := 10) (L' := [(0, .ref 156), (1, .int r1)]) dX12_tellStair_10 (Nat.le_of_ble_eq_true rfl) rfl ?_
  refine g_iload_n (pc := 11) (x := r1) dX12_tellStair_11 rfl ?_
  refine g_if_ge (pc := 12) (tgt := 21) dX12_tellStair_12 (by decide) (fun c12 => ?_) (fun c12 => ?_)
  · have h := h.1 c12
    refine g_aload_n (pc := 21) (x := 156) dX12_tellStair_21 rfl ?_
    obtain ⟨Pm2, hRm2, h⟩ := h
    refine g_callV (pc := 22) (as := []) dX12_tellStair_22 cw_X12_230 (by decide) rfl rfl sh_156 (Nat.le_of_ble_eq_true rfl) hRm2 ?_
    intro r_ m2 hz_ hp_
    rcases h.1 r_ m2 hp_ with rfl | rfl
    · have h := h.2.1 m2 hp_
      refine g_if_eq (pc := 25) (tgt := 36) dX12_tellStair_25 (by decide) (fun c25 => absurd c25 (by decide)) (fun _ => ?_)
      refine g_aload_n (pc := 28) (x := 156) dX12_tellStair_28 rfl ?_
      refine g_iconst (pc := 29) (v := (0 : Int32)) dX12_tellStair_29 (by decide) ?_
      obtain ⟨Pm3, hRm3, h⟩ := h
      refine g_callV (pc := 30) (as := [.int (0 : Int32)]) dX12_tellStair_30 cw_X12_305 (by decide) rfl rfl sh_156 (Nat.le_of_ble_eq_true rfl) hRm3 ?_
      intro r_ m3 hz_ hp_
      rcases h.1 r_ m3 hp_ with rfl | rfl
      · have h := h.2.1 m3 hp_
        refine g_if_ne (pc := 33) (tgt := 38) dX12_tellStair_33 (by decide) (fun _ => ?_) (fun c33 => absurd c33 (by decide))
        refine g_aload_n (pc := 38) (x := 156) dX12_tellStair_38 rfl ?_
        refine g_iload_n (pc := 39) (x := r1) dX12_tellStair_39 rfl ?_
        refine g_aload_n (pc := 40) (x := 156) dX12_tellStair_40 rfl ?_
        refine g_getI (pc := 41) dX12_tellStair_41 fo_X12_237 sh_156 rfl ?_
        obtain ⟨Pm4, hRm4, h⟩ := h
        refine g_callV (pc := 44) (as := [.int r1, .int (m3.1 156 29)]) dX12_tellStair_44 cw_X12_292 (by decide) rfl rfl sh_156 (Nat.le_of_ble_eq_true rfl) hRm4 ?_
        intro r_ m4 hz_ hp_
        obtain rfl := hz_
        have h := h m4 hp_
        refine g_aload_n (pc := 47) (x := 156) dX12_tellStair_47 rfl ?_
        refine g_iload_n (pc := 48) (x := r1) dX12_tellStair_48 rfl ?_
        refine g_iconst (pc := 49) (v := (1 : Int32)) dX12_tellStair_49 (by decide) ?_
        refine g_iadd (pc := 50) dX12_tellStair_50 ?_
        refine g_iconst (pc := 51) (v := (-1 : Int32)) dX12_tellStair_51 (by decide) ?_
        obtain ⟨Pm5, hRm5, h⟩ := h
        refine g_callV (pc := 52) (as := [.int (r1 + (1 : Int32)), .int (-1 : Int32)]) dX12_tellStair_52 cw_X12_292 (by decide) rfl rfl sh_156 (Nat.le_of_ble_eq_true rfl) hRm5 ?_
        intro r_ m5 hz_ hp_
        obtain rfl := hz_
        have h := h m5 hp_
        refine g_aload_n (pc := 55) (x := 156) dX12_tellStair_55 rfl ?_
        refine g_iconst (pc := 56) (v := (4 : Int32)) dX12_tellStair_56 (by decide) ?_
        refine g_callV (pc := 57) (as := [.int (4 : Int32)]) dX12_tellStair_57 cw_X12_271 (by decide) rfl rfl sh_156 (Nat.le_of_ble_eq_true rfl) (rv_X12_isWord m5 (4 : Int32) h.1) ?_
        have h := h.2
        rintro r_ m_ hz_ ⟨⟨p_, rfl⟩ | ⟨p_, rfl⟩, rfl⟩
        · have h := h.1 p_
          refine g_if_eq (pc := 60) (tgt := 72) dX12_tellStair_60 (by decide) (fun c60 => absurd c60 (by decide)) (fun _ => ?_)
          refine g_aload_n (pc := 63) (x := 156) dX12_tellStair_63 rfl ?_
          obtain ⟨Pm6, hRm6, h⟩ := h
          refine g_callV (pc := 64) (as := []) dX12_tellStair_64 cw_X12_230 (by decide) rfl rfl sh_156 (Nat.le_of_ble_eq_true rfl) hRm6 ?_
          intro r_ m6 hz_ hp_
          rcases h.1 r_ m6 hp_ with rfl | rfl
          · have h := h.2.1 m6 hp_
            refine g_if_ne (pc := 67) (tgt := 123) dX12_tellStair_67 (by decide) (fun _ => ?_) (fun c67 => absurd c67 (by decide))
            refine g_aload_n (pc := 123) (x := 156) dX12_tellStair_123 rfl ?_
            refine g_iconst (pc := 124) (v := (0 : Int32)) dX12_tellStair_124 (by decide) ?_
            refine g_bipush (pc := 125) (v := (99 : Int32)) dX12_tellStair_125 (by decide) ?_
            obtain ⟨Pm7, hRm7, h⟩ := h
            refine g_callV (pc := 127) (as := [.int (0 : Int32), .int (99 : Int32)]) dX12_tellStair_127 cw_X12_302 (by decide) rfl rfl sh_156 (Nat.le_of_ble_eq_true rfl) hRm7 ?_
            intro r_ m7 hz_ hp_
            rcases h.1 r_ m7 hp_ with rfl | rfl
            · have h := h.2.1 m7 hp_
              refine g_if_ne (pc := 130) (tgt := 135) dX12_tellStair_130 (by decide) (fun _ => ?_) (fun c130 => absurd c130 (by decide))
              refine g_aload_n (pc := 135) (x := 156) dX12_tellStair_135 rfl ?_
              refine g_iload_n (pc := 136) (x := r1) dX12_tellStair_136 rfl ?_
              refine g_iconst (pc := 137) (v := (2 : Int32)) dX12_tellStair_137 (by decide) ?_
              refine g_iadd (pc := 138) dX12_tellStair_138 ?_
              refine g_aload_n (pc := 139) (x := 156) dX12_tellStair_139 rfl ?_
              refine g_getI (pc := 140) dX12_tellStair_140 fo_X12_237 sh_156 rfl ?_
              obtain ⟨Pm8, hRm8, h⟩ := h
              refine g_callV (pc := 143) (as := [.int (r1 + (2 : Int32)), .int (m7.1 156 29)]) dX12_tellStair_143 cw_X12_292 (by decide) rfl rfl sh_156 (Nat.le_of_ble_eq_true rfl) hRm8 ?_
              intro r_ m8 hz_ hp_
              obtain rfl := hz_
              have h := h m8 hp_
              refine g_iconst (pc := 146) (v := (1 : Int32)) dX12_tellStair_146 (by decide) ?_
              exact g_iret (pc := 147) dX12_tellStair_147 rfl rfl (nar_B isB1) h
            · have h := h.2.2 m7 hp_
              refine g_if_ne (pc := 130) (tgt := 135) dX12_tellStair_130 (by decide) (fun c130 => absurd c130 (by decide)) (fun _ => ?_)
              refine g_iconst (pc := 133) (v := (0 : Int32)) dX12_tellStair_133 (by decide) ?_
              exact g_iret (pc := 134) dX12_tellStair_134 rfl rfl (nar_B isB0) h
          · have h := h.2.2 m6 hp_
            refine g_if_ne (pc := 67) (tgt := 123) dX12_tellStair_67 (by decide) (fun c67 => absurd c67 (by decide)) (fun _ => ?_)
            refine g_iconst (pc := 70) (v := (0 : Int32)) dX12_tellStair_70 (by decide) ?_
            exact g_iret (pc := 71) dX12_tellStair_71 rfl rfl (nar_B isB0) h
        · have h := h.2 p_
          refine g_if_eq (pc := 60) (tgt := 72) dX12_tellStair_60 (by decide) (fun _ => ?_) (fun c60 => absurd c60 (by decide))
          refine g_aload_n (pc := 72) (x := 156) dX12_tellStair_72 rfl ?_
          refine g_getI (pc := 73) dX12_tellStair_73 fo_X12_218 sh_156 rfl ?_
          refine g_istore_n (pc := 76) (L' := [(0, .ref 156), (1, .int r1), (2, .int (m5.1 156 7))]) dX12_tellStair_76 (Nat.le_of_ble_eq_true rfl) rfl ?_
          refine g_aload_n (pc := 77) (x := 156) dX12_tellStair_77 rfl ?_
          refine g_iconst (pc := 78) (v := (0 : Int32)) dX12_tellStair_78 (by decide) ?_
          obtain ⟨Pm6, hRm6, h⟩ := h
          refine g_callV (pc := 79) (as := [.int (0 : Int32)]) dX12_tellStair_79 cw_X12_305 (by decide) rfl rfl sh_156 (Nat.le_of_ble_eq_true rfl) hRm6 ?_
          intro r_ m6 hz_ hp_
          rcases h.1 r_ m6 hp_ with rfl | rfl
          · have h := h.2.1 m6 hp_
            refine g_if_ne (pc := 82) (tgt := 87) dX12_tellStair_82 (by decide) (fun _ => ?_) (fun c82 => absurd c82 (by decide))
            refine g_aload_n (pc := 87) (x := 156) dX12_tellStair_87 rfl ?_
            refine g_getI (pc := 88) dX12_tellStair_88 fo_X12_237 sh_156 rfl ?_
            refine g_if_lt (pc := 91) (tgt := 112) dX12_tellStair_91 (by decide) (fun c91 => ?_) (fun c91 => ?_)
            · have h := h.1 c91
              refine g_aload_n (pc := 112) (x := 156) dX12_tellStair_112 rfl ?_
              refine g_iload_n (pc := 113) (x := r1) dX12_tellStair_113 rfl ?_
              refine g_iconst (pc := 114) (v := (1 : Int32)) dX12_tellStair_114 (by decide) ?_
              refine g_iadd (pc := 115) dX12_tellStair_115 ?_
              refine g_aload_n (pc := 116) (x := 156) dX12_tellStair_116 rfl ?_
              refine g_getI (pc := 117) dX12_tellStair_117 fo_X12_237 sh_156 rfl ?_
              obtain ⟨Pm7, hRm7, h⟩ := h
              refine g_callV (pc := 120) (as := [.int (r1 + (1 : Int32)), .int (m6.1 156 29)]) dX12_tellStair_120 cw_X12_292 (by decide) rfl rfl sh_156 (Nat.le_of_ble_eq_true rfl) hRm7 ?_
              intro r_ m7 hz_ hp_
              obtain rfl := hz_
              have h := h m7 hp_
              refine g_aload_n (pc := 123) (x := 156) dX12_tellStair_123 rfl ?_
              refine g_iconst (pc := 124) (v := (0 : Int32)) dX12_tellStair_124 (by decide) ?_
              refine g_bipush (pc := 125) (v := (99 : Int32)) dX12_tellStair_125 (by decide) ?_
              obtain ⟨Pm8, hRm8, h⟩ := h
              refine g_callV (pc := 127) (as := [.int (0 : Int32), .int (99 : Int32)]) dX12_tellStair_127 cw_X12_302 (by decide) rfl rfl sh_156 (Nat.le_of_ble_eq_true rfl) hRm8 ?_
              intro r_ m8 hz_ hp_
              rcases h.1 r_ m8 hp_ with rfl | rfl
              · have h := h.2.1 m8 hp_
                refine g_if_ne (pc := 130) (tgt := 135) dX12_tellStair_130 (by decide) (fun _ => ?_) (fun c130 => absurd c130 (by decide))
                refine g_aload_n (pc := 135) (x := 156) dX12_tellStair_135 rfl ?_
                refine g_iload_n (pc := 136) (x := r1) dX12_tellStair_136 rfl ?_
                refine g_iconst (pc := 137) (v := (2 : Int32)) dX12_tellStair_137 (by decide) ?_
                refine g_iadd (pc := 138) dX12_tellStair_138 ?_
                refine g_aload_n (pc := 139) (x := 156) dX12_tellStair_139 rfl ?_
                refine g_getI (pc := 140) dX12_tellStair_140 fo_X12_237 sh_156 rfl ?_
                obtain ⟨Pm9, hRm9, h⟩ := h
                refine g_callV (pc := 143) (as := [.int (r1 + (2 : Int32)), .int (m8.1 156 29)]) dX12_tellStair_143 cw_X12_292 (by decide) rfl rfl sh_156 (Nat.le_of_ble_eq_true rfl) hRm9 ?_
                intro r_ m9 hz_ hp_
                obtain rfl := hz_
                have h := h m9 hp_
                refine g_iconst (pc := 146) (v := (1 : Int32)) dX12_tellStair_146 (by decide) ?_
                exact g_iret (pc := 147) dX12_tellStair_147 rfl rfl (nar_B isB1) h
              · have h := h.2.2 m8 hp_
                refine g_if_ne (pc := 130) (tgt := 135) dX12_tellStair_130 (by decide) (fun c130 => absurd c130 (by decide)) (fun _ => ?_)
                refine g_iconst (pc := 133) (v := (0 : Int32)) dX12_tellStair_133 (by decide) ?_
                exact g_iret (pc := 134) dX12_tellStair_134 rfl rfl (nar_B isB0) h
            · have h := h.2 c91
              refine g_aload_n (pc := 94) (x := 156) dX12_tellStair_94 rfl ?_
              refine g_getI (pc := 95) dX12_tellStair_95 fo_X12_237 sh_156 rfl ?_
              refine g_aload_n (pc := 98) (x := 156) dX12_tellStair_98 rfl ?_
              refine g_iload_n (pc := 99) (x := r1) dX12_tellStair_99 rfl ?_
              refine g_callV (pc := 100) (as := [.int r1]) dX12_tellStair_100 cw_X12_289 (by decide) rfl rfl sh_156 (Nat.le_of_ble_eq_true rfl) (rv_X12_told m6 r1 h.1) ?_
              have h := h.2
              rintro r_ m_ hz_ ⟨rfl, rfl⟩
              refine g_icmp_ne (pc := 103) (tgt := 112) dX12_tellStair_103 (by decide) (fun c103 => ?_) (fun c103 => ?_)
              · have h := h.1 c103
                refine g_aload_n (pc := 112) (x := 156) dX12_tellStair_112 rfl ?_
                refine g_iload_n (pc := 113) (x := r1) dX12_tellStair_113 rfl ?_
                refine g_iconst (pc := 114) (v := (1 : Int32)) dX12_tellStair_114 (by decide) ?_
                refine g_iadd (pc := 115) dX12_tellStair_115 ?_
                refine g_aload_n (pc := 116) (x := 156) dX12_tellStair_116 rfl ?_
                refine g_getI (pc := 117) dX12_tellStair_117 fo_X12_237 sh_156 rfl ?_
                obtain ⟨Pm7, hRm7, h⟩ := h
                refine g_callV (pc := 120) (as := [.int (r1 + (1 : Int32)), .int (m6.1 156 29)]) dX12_tellStair_120 cw_X12_292 (by decide) rfl rfl sh_156 (Nat.le_of_ble_eq_true rfl) hRm7 ?_
                intro r_ m7 hz_ hp_
                obtain rfl := hz_
                have h := h m7 hp_
                refine g_aload_n (pc := 123) (x := 156) dX12_tellStair_123 rfl ?_
                refine g_iconst (pc := 124) (v := (0 : Int32)) dX12_tellStair_124 (by decide) ?_
                refine g_bipush (pc := 125) (v := (99 : Int32)) dX12_tellStair_125 (by decide) ?_
                obtain ⟨Pm8, hRm8, h⟩ := h
                refine g_callV (pc := 127) (as := [.int (0 : Int32), .int (99 : Int32)]) dX12_tellStair_127 cw_X12_302 (by decide) rfl rfl sh_156 (Nat.le_of_ble_eq_true rfl) hRm8 ?_
                intro r_ m8 hz_ hp_
                rcases h.1 r_ m8 hp_ with rfl | rfl
                · have h := h.2.1 m8 hp_
                  refine g_if_ne (pc := 130) (tgt := 135) dX12_tellStair_130 (by decide) (fun _ => ?_) (fun c130 => absurd c130 (by decide))
                  refine g_aload_n (pc := 135) (x := 156) dX12_tellStair_135 rfl ?_
                  refine g_iload_n (pc := 136) (x := r1) dX12_tellStair_136 rfl ?_
                  refine g_iconst (pc := 137) (v := (2 : Int32)) dX12_tellStair_137 (by decide) ?_
                  refine g_iadd (pc := 138) dX12_tellStair_138 ?_
                  refine g_aload_n (pc := 139) (x := 156) dX12_tellStair_139 rfl ?_
                  refine g_getI (pc := 140) dX12_tellStair_140 fo_X12_237 sh_156 rfl ?_
                  obtain ⟨Pm9, hRm9, h⟩ := h
                  refine g_callV (pc := 143) (as := [.int (r1 + (2 : Int32)), .int (m8.1 156 29)]) dX12_tellStair_143 cw_X12_292 (by decide) rfl rfl sh_156 (Nat.le_of_ble_eq_true rfl) hRm9 ?_
                  intro r_ m9 hz_ hp_
                  obtain rfl := hz_
                  have h := h m9 hp_
                  refine g_iconst (pc := 146) (v := (1 : Int32)) dX12_tellStair_146 (by decide) ?_
                  exact g_iret (pc := 147) dX12_tellStair_147 rfl rfl (nar_B isB1) h
                · have h := h.2.2 m8 hp_
                  refine g_if_ne (pc := 130) (tgt := 135) dX12_tellStair_130 (by decide) (fun c130 => absurd c130 (by decide)) (fun _ => ?_)
                  refine g_iconst (pc := 133) (v := (0 : Int32)) dX12_tellStair_133 (by decide) ?_
                  exact g_iret (pc := 134) dX12_tellStair_134 rfl rfl (nar_B isB0) h
              · have h := h.2 c103
                refine g_aload_n (pc := 106) (x := 156) dX12_tellStair_106 rfl ?_
                refine g_iconst (pc := 107) (v := (5 : Int32)) dX12_tellStair_107 (by decide) ?_
                refine g_iload_n (pc := 108) (x := (m5.1 156 7)) dX12_tellStair_108 rfl ?_
                obtain ⟨Pm7, hRm7, h⟩ := h
                refine g_callV (pc := 109) (as := [.int (5 : Int32), .int (m5.1 156 7)]) dX12_tellStair_109 cw_X12_240 (by decide) rfl rfl sh_156 (Nat.le_of_ble_eq_true rfl) hRm7 ?_
                intro r_ m7 hz_ hp_
                obtain rfl := hz_
                have h := h m7 hp_
                refine g_aload_n (pc := 112) (x := 156) dX12_tellStair_112 rfl ?_
                refine g_iload_n (pc := 113) (x := r1) dX12_tellStair_113 rfl ?_
                refine g_iconst (pc := 114) (v := (1 : Int32)) dX12_tellStair_114 (by decide) ?_
                refine g_iadd (pc := 115) dX12_tellStair_115 ?_
                refine g_aload_n (pc := 116) (x := 156) dX12_tellStair_116 rfl ?_
                refine g_getI (pc := 117) dX12_tellStair_117 fo_X12_237 sh_156 rfl ?_
                obtain ⟨Pm8, hRm8, h⟩ := h
                refine g_callV (pc := 120) (as := [.int (r1 + (1 : Int32)), .int (m7.1 156 29)]) dX12_tellStair_120 cw_X12_292 (by decide) rfl rfl sh_156 (Nat.le_of_ble_eq_true rfl) hRm8 ?_
                intro r_ m8 hz_ hp_
                obtain rfl := hz_
                have h := h m8 hp_
                refine g_aload_n (pc := 123) (x := 156) dX12_tellStair_123 rfl ?_
                refine g_iconst (pc := 124) (v := (0 : Int32)) dX12_tellStair_124 (by decide) ?_
                refine g_bipush (pc := 125) (v := (99 : Int32)) dX12_tellStair_125 (by decide) ?_
                obtain ⟨Pm9, hRm9, h⟩ := h
                refine g_callV (pc := 127) (as := [.int (0 : Int32), .int (99 : Int32)]) dX12_tellStair_127 cw_X12_302 (by decide) rfl rfl sh_156 (Nat.le_of_ble_eq_true rfl) hRm9 ?_
                intro r_ m9 hz_ hp_
                rcases h.1 r_ m9 hp_ with rfl | rfl
                · have h := h.2.1 m9 hp_
                  refine g_if_ne (pc := 130) (tgt := 135) dX12_tellStair_130 (by decide) (fun _ => ?_) (fun c130 => absurd c130 (by decide))
                  refine g_aload_n (pc := 135) (x := 156) dX12_tellStair_135 rfl ?_
                  refine g_iload_n (pc := 136) (x := r1) dX12_tellStair_136 rfl ?_
                  refine g_iconst (pc := 137) (v := (2 : Int32)) dX12_tellStair_137 (by decide) ?_
                  refine g_iadd (pc := 138) dX12_tellStair_138 ?_
                  refine g_aload_n (pc := 139) (x := 156) dX12_tellStair_139 rfl ?_
                  refine g_getI (pc := 140) dX12_tellStair_140 fo_X12_237 sh_156 rfl ?_
                  obtain ⟨Pm10, hRm10, h⟩ := h
                  refine g_callV (pc := 143) (as := [.int (r1 + (2 : Int32)), .int (m9.1 156 29)]) dX12_tellStair_143 cw_X12_292 (by decide) rfl rfl sh_156 (Nat.le_of_ble_eq_true rfl) hRm10 ?_
                  intro r_ m10 hz_ hp_
                  obtain rfl := hz_
                  have h := h m10 hp_
                  refine g_iconst (pc := 146) (v := (1 : Int32)) dX12_tellStair_146 (by decide) ?_
                  exact g_iret (pc := 147) dX12_tellStair_147 rfl rfl (nar_B isB1) h
                · have h := h.2.2 m9 hp_
                  refine g_if_ne (pc := 130) (tgt := 135) dX12_tellStair_130 (by decide) (fun c130 => absurd c130 (by decide)) (fun _ => ?_)
                  refine g_iconst (pc := 133) (v := (0 : Int32)) dX12_tellStair_133 (by decide) ?_
                  exact g_iret (pc := 134) dX12_tellStair_134 rfl rfl (nar_B isB0) h
          · have h := h.2.2 m6 hp_
            refine g_if_ne (pc := 82) (tgt := 87) dX12_tellStair_82 (by decide) (fun c82 => absurd c82 (by decide)) (fun _ => ?_)
            refine g_iconst (pc := 85) (v := (0 : Int32)) dX12_tellStair_85 (by decide) ?_
            exact g_iret (pc := 86) dX12_tellStair_86 rfl rfl (nar_B isB0) h
      · have h := h.2.2 m3 hp_
        refine g_if_ne (pc := 33) (tgt := 38) dX12_tellStair_33 (by decide) (fun c33 => absurd c33 (by decide)) (fun _ => ?_)
        refine g_iconst (pc := 36) (v := (0 : Int32)) dX12_tellStair_36 (by decide) ?_
        exact g_iret (pc := 37) dX12_tellStair_37 rfl rfl (nar_B isB0) h
    · have h := h.2.2 m2 hp_
      refine g_if_eq (pc := 25) (tgt := 36) dX12_tellStair_25 (by decide) (fun _ => ?_) (fun c25 => absurd c25 (by decide))
      refine g_iconst (pc := 36) (v := (0 : Int32)) dX12_tellStair_36 (by decide) ?_
      exact g_iret (pc := 37) dX12_tellStair_37 rfl rfl (nar_B isB0) h
  · have h := h.2 c12
    refine g_aload_n (pc := 15) (x := 156) dX12_tellStair_15 rfl ?_
    refine g_iconst (pc := 16) (v := (2 : Int32)) dX12_tellStair_16 (by decide) ?_
    obtain ⟨Pm2, hRm2, h⟩ := h
    refine g_callV (pc := 17) (as := [.int (2 : Int32)]) dX12_tellStair_17 cw_X12_227 (by decide) rfl rfl sh_156 (Nat.le_of_ble_eq_true rfl) hRm2 ?_
    intro r_ m2 hz_ hp_
    rcases h.1 r_ m2 hp_ with rfl | rfl
    · have h := h.2.1 m2 hp_
      exact g_iret (pc := 20) dX12_tellStair_20 rfl rfl (nar_B isB1) h
    · have h := h.2.2 m2 hp_
      exact g_iret (pc := 20) dX12_tellStair_20 rfl rfl (nar_B isB0) h
theorem dX12_tellQuay_0 : decode cX12_tellQuay 0 = .ok (.aload_n 0, 1) := by decide +kernel
theorem dX12_tellQuay_1 : decode cX12_tellQuay 1 = .ok (.iconst 4, 1) := by decide +kernel
theorem dX12_tellQuay_2 : decode cX12_tellQuay 2 = .ok (.iconst 4, 1) := by decide +kernel
theorem dX12_tellQuay_3 : decode cX12_tellQuay 3 = .ok (.sipush 160, 3) := by decide +kernel
theorem dX12_tellQuay_6 : decode cX12_tellQuay 6 = .ok (.iconst 1, 1) := by decide +kernel
theorem dX12_tellQuay_7 : decode cX12_tellQuay 7 = .ok (.invokevirtual 295, 3) := by decide +kernel
theorem dX12_tellQuay_10 : decode cX12_tellQuay 10 = .ok (.istore_n 1, 1) := by decide +kernel
theorem dX12_tellQuay_11 : decode cX12_tellQuay 11 = .ok (.iload_n 1, 1) := by decide +kernel
theorem dX12_tellQuay_12 : decode cX12_tellQuay 12 = .ok (.ifCond .ge 9, 3) := by decide +kernel
theorem dX12_tellQuay_15 : decode cX12_tellQuay 15 = .ok (.aload_n 0, 1) := by decide +kernel
theorem dX12_tellQuay_16 : decode cX12_tellQuay 16 = .ok (.iconst 2, 1) := by decide +kernel
theorem dX12_tellQuay_17 : decode cX12_tellQuay 17 = .ok (.invokevirtual 227, 3) := by decide +kernel
theorem dX12_tellQuay_20 : decode cX12_tellQuay 20 = .ok (.ireturn, 1) := by decide +kernel
theorem dX12_tellQuay_21 : decode cX12_tellQuay 21 = .ok (.aload_n 0, 1) := by decide +kernel
theorem dX12_tellQuay_22 : decode cX12_tellQuay 22 = .ok (.invokevirtual 230, 3) := by decide +kernel
theorem dX12_tellQuay_25 : decode cX12_tellQuay 25 = .ok (.ifCond .eq 11, 3) := by decide +kernel
theorem dX12_tellQuay_28 : decode cX12_tellQuay 28 = .ok (.aload_n 0, 1) := by decide +kernel
theorem dX12_tellQuay_29 : decode cX12_tellQuay 29 = .ok (.iconst 0, 1) := by decide +kernel
theorem dX12_tellQuay_30 : decode cX12_tellQuay 30 = .ok (.invokevirtual 305, 3) := by decide +kernel
theorem dX12_tellQuay_33 : decode cX12_tellQuay 33 = .ok (.ifCond .ne 5, 3) := by decide +kernel
theorem dX12_tellQuay_36 : decode cX12_tellQuay 36 = .ok (.iconst 0, 1) := by decide +kernel
theorem dX12_tellQuay_37 : decode cX12_tellQuay 37 = .ok (.ireturn, 1) := by decide +kernel
theorem dX12_tellQuay_38 : decode cX12_tellQuay 38 = .ok (.aload_n 0, 1) := by decide +kernel
theorem dX12_tellQuay_39 : decode cX12_tellQuay 39 = .ok (.iload_n 1, 1) := by decide +kernel
theorem dX12_tellQuay_40 : decode cX12_tellQuay 40 = .ok (.aload_n 0, 1) := by decide +kernel
theorem dX12_tellQuay_41 : decode cX12_tellQuay 41 = .ok (.getfield 237, 3) := by decide +kernel
theorem dX12_tellQuay_44 : decode cX12_tellQuay 44 = .ok (.invokevirtual 292, 3) := by decide +kernel
theorem dX12_tellQuay_47 : decode cX12_tellQuay 47 = .ok (.iconst 1, 1) := by decide +kernel
theorem dX12_tellQuay_48 : decode cX12_tellQuay 48 = .ok (.ireturn, 1) := by decide +kernel
theorem b_X12_tellQuay (mm : MM) (Q : Value → MM → Prop) (h : ∃ Pm1 : Value → MM → Prop, Runs e_X12_next [.ref 156, .int (4 : Int32), .int (4 : Int32), .int (160 : Int32), .int (1 : Int32)] mm Pm1 ∧ ∀ (r1 : Int32) (m1 : MM), Pm1 (.int r1) m1 → ((0 ≤ r1 → (∃ Pm2 : Value → MM → Prop, Runs e_X12_pass [.ref 156] m1 Pm2 ∧ (∀ r m2, Pm2 r m2 → r = .int 1 ∨ r = .int 0) ∧ (∀ m2, Pm2 (.int 1) m2 → (∃ Pm3 : Value → MM → Prop, Runs e_X12_takesName [.ref 156, .int (0 : Int32)] m2 Pm3 ∧ (∀ r m3, Pm3 r m3 → r = .int 1 ∨ r = .int 0) ∧ (∀ m3, Pm3 (.int 1) m3 → (∃ Pm4 : Value → MM → Prop, Runs e_X12_tell [.ref 156, .int r1, .int (m3.1 156 29)] m3 Pm4 ∧ ∀ m4, Pm4 .null m4 → (Q (.int (1 : Int32)) m4))) ∧ (∀ m3, Pm3 (.int 0) m3 → (Q (.int (0 : Int32)) m3)))) ∧ (∀ m2, Pm2 (.int 0) m2 → (Q (.int (0 : Int32)) m2)))) ∧ (¬ 0 ≤ r1 → (∃ Pm2 : Value → MM → Prop, Runs e_X12_wrong [.ref 156, .int (2 : Int32)] m1 Pm2 ∧ (∀ r m2, Pm2 r m2 → r = .int 1 ∨ r = .int 0) ∧ (∀ m2, Pm2 (.int 1) m2 → (Q (.int (1 : Int32)) m2)) ∧ (∀ m2, Pm2 (.int 0) m2 → (Q (.int (0 : Int32)) m2)))))) : Runs e_X12_tellQuay [.ref 156] mm Q := by
  refine runs_of_G (L := [(0, .ref 156)]) pl_X12 (Nat.le_of_ble_eq_true rfl) rfl ?_
  refine g_aload_n (pc := 0) (x := 156) dX12_tellQuay_0 rfl ?_
  refine g_iconst (pc := 1) (v := (4 : Int32)) dX12_tellQuay_1 (by decide) ?_
  refine g_iconst (pc := 2) (v := (4 : Int32)) dX12_tellQuay_2 (by decide) ?_
  refine g_sipush (pc := 3) (v := (160 : Int32)) dX12_tellQuay_3 (by decide) ?_
  refine g_iconst (pc := 6) (v := (1 : Int32)) dX12_tellQuay_6 (by decide) ?_
  obtain ⟨Pm1, hRm1, h⟩ := h
  refine g_callV (pc := 7) (as := [.int (4 : Int32), .int (4 : Int32), .int (160 : Int32), .int (1 : Int32)]) dX12_tellQuay_7 cw_X12_295 (by decide) rfl rfl sh_156 (Nat.le_of_ble_eq_true rfl) hRm1 ?_
  intro r_ m1 hz_ hp_
  obtain ⟨r1, rfl⟩ := hz_
  have h := h r1 m1 hp_
  refine g_istore_n (pc := 10) (L' := [(0, .ref 156), (1, .int r1)]) dX12_tellQuay_10 (Nat.le_of_ble_eq_true rfl) rfl ?_
  refine g_iload_n (pc := 11) (x := r1) dX12_tellQuay_11 rfl ?_
  refine g_if_ge (pc := 12) (tgt := 21) dX12_tellQuay_12 (by decide) (fun c12 => ?_) (fun c12 => ?_)
  · have h := h.1 c12
    refine g_aload_n (pc := 21) (x := 156) dX12_tellQuay_21 rfl ?_
    obtain ⟨Pm2, hRm2, h⟩ := h
    refine g_callV (pc := 22) (as := []) dX12_tellQuay_22 cw_X12_230 (by decide) rfl rfl sh_156 (Nat.le_of_ble_eq_true rfl) hRm2 ?_
    intro r_ m2 hz_ hp_
    rcases h.1 r_ m2 hp_ with rfl | rfl
    · have h := h.2.1 m2 hp_
      refine g_if_eq (pc := 25) (tgt := 36) dX12_tellQuay_25 (by decide) (fun c25 => absurd c25 (by decide)) (fun _ => ?_)
      refine g_aload_n (pc := 28) (x := 156) dX12_tellQuay_28 rfl ?_
      refine g_iconst (pc := 29) (v := (0 : Int32)) dX12_tellQuay_29 (by decide) ?_
      obtain ⟨Pm3, hRm3, h⟩ := h
      refine g_callV (pc := 30) (as := [.int (0 : Int32)]) dX12_tellQuay_30 cw_X12_305 (by decide) rfl rfl sh_156 (Nat.le_of_ble_eq_true rfl) hRm3 ?_
      intro r_ m3 hz_ hp_
      rcases h.1 r_ m3 hp_ with rfl | rfl
      · have h := h.2.1 m3 hp_
        refine g_if_ne (pc := 33) (tgt := 38) dX12_tellQuay_33 (by decide) (fun _ => ?_) (fun c33 => absurd c33 (by decide))
        refine g_aload_n (pc := 38) (x := 156) dX12_tellQuay_38 rfl ?_
        refine g_iload_n (pc := 39) (x := r1) dX12_tellQuay_39 rfl ?_
        refine g_aload_n (pc := 40) (x := 156) dX12_tellQuay_40 rfl ?_
        refine g_getI (pc := 41) dX12_tellQuay_41 fo_X12_237 sh_156 rfl ?_
        obtain ⟨Pm4, hRm4, h⟩ := h
        refine g_callV (pc := 44) (as := [.int r1, .int (m3.1 156 29)]) dX12_tellQuay_44 cw_X12_292 (by decide) rfl rfl sh_156 (Nat.le_of_ble_eq_true rfl) hRm4 ?_
        intro r_ m4 hz_ hp_
        obtain rfl := hz_
        have h := h m4 hp_
        refine g_iconst (pc := 47) (v := (1 : Int32)) dX12_tellQuay_47 (by decide) ?_
        exact g_iret (pc := 48) dX12_tellQuay_48 rfl rfl (nar_B isB1) h
      · have h := h.2.2 m3 hp_
        refine g_if_ne (pc := 33) (tgt := 38) dX12_tellQuay_33 (by decide) (fun c33 => absurd c33 (by decide)) (fun _ => ?_)
        refine g_iconst (pc := 36) (v := (0 : Int32)) dX12_tellQuay_36 (by decide) ?_
        exact g_iret (pc := 37) dX12_tellQuay_37 rfl rfl (nar_B isB0) h
    · have h := h.2.2 m2 hp_
      refine g_if_eq (pc := 25) (tgt := 36) dX12_tellQuay_25 (by decide) (fun _ => ?_) (fun c25 => absurd c25 (by decide))
      refine g_iconst (pc := 36) (v := (0 : Int32)) dX12_tellQuay_36 (by decide) ?_
      exact g_iret (pc := 37) dX12_tellQuay_37 rfl rfl (nar_B isB0) h
  · have h := h.2 c12
    refine g_aload_n (pc := 15) (x := 156) dX12_tellQuay_15 rfl ?_
    refine g_iconst (pc := 16) (v := (2 : Int32)) dX12_tellQuay_16 (by decide) ?_
    obtain ⟨Pm2, hRm2, h⟩ := h
    refine g_callV (pc := 17) (as := [.int (2 : Int32)]) dX12_tellQuay_17 cw_X12_227 (by decide) rfl rfl sh_156 (Nat.le_of_ble_eq_true rfl) hRm2 ?_
    intro r_ m2 hz_ hp_
    rcases h.1 r_ m2 hp_ with rfl | rfl
    · have h := h.2.1 m2 hp_
      exact g_iret (pc := 20) dX12_tellQuay_20 rfl rfl (nar_B isB1) h
    · have h := h.2.2 m2 hp_
      exact g_iret (pc := 20) dX12_tellQuay_20 rfl rfl (nar_B isB0) h
theorem dX12_tellWood_0 : decode cX12_tellWood 0 = .ok (.aload_n 0, 1) := by decide +kernel
theorem dX12_tellWood_1 : decode cX12_tellWood 1 = .ok (.iconst 5, 1) := by decide +kernel
theorem dX12_tellWood_2 : decode cX12_tellWood 2 = .ok (.bipush 8, 2) := by decide +kernel
theorem dX12_tellWood_4 : decode cX12_tellWood 4 = .ok (.sipush 170, 3) := by decide +kernel
theorem dX12_tellWood_7 : decode cX12_tellWood 7 = .ok (.iconst 2, 1) := by decide +kernel
theorem dX12_tellWood_8 : decode cX12_tellWood 8 = .ok (.invokevirtual 295, 3) := by decide +kernel
theorem dX12_tellWood_11 : decode cX12_tellWood 11 = .ok (.istore_n 1, 1) := by decide +kernel
theorem dX12_tellWood_12 : decode cX12_tellWood 12 = .ok (.iload_n 1, 1) := by decide +kernel
theorem dX12_tellWood_13 : decode cX12_tellWood 13 = .ok (.ifCond .ge 9, 3) := by decide +kernel
theorem dX12_tellWood_16 : decode cX12_tellWood 16 = .ok (.aload_n 0, 1) := by decide +kernel
theorem dX12_tellWood_17 : decode cX12_tellWood 17 = .ok (.iconst 2, 1) := by decide +kernel
theorem dX12_tellWood_18 : decode cX12_tellWood 18 = .ok (.invokevirtual 227, 3) := by decide +kernel
theorem dX12_tellWood_21 : decode cX12_tellWood 21 = .ok (.ireturn, 1) := by decide +kernel
theorem dX12_tellWood_22 : decode cX12_tellWood 22 = .ok (.aload_n 0, 1) := by decide +kernel
theorem dX12_tellWood_23 : decode cX12_tellWood 23 = .ok (.invokevirtual 230, 3) := by decide +kernel
theorem dX12_tellWood_26 : decode cX12_tellWood 26 = .ok (.ifCond .eq 13, 3) := by decide +kernel
theorem dX12_tellWood_29 : decode cX12_tellWood 29 = .ok (.aload_n 0, 1) := by decide +kernel
theorem dX12_tellWood_30 : decode cX12_tellWood 30 = .ok (.iconst 1, 1) := by decide +kernel
theorem dX12_tellWood_31 : decode cX12_tellWood 31 = .ok (.bipush 60, 2) := by decide +kernel
theorem dX12_tellWood_33 : decode cX12_tellWood 33 = .ok (.invokevirtual 302, 3) := by decide +kernel
theorem dX12_tellWood_36 : decode cX12_tellWood 36 = .ok (.ifCond .ne 5, 3) := by decide +kernel
theorem dX12_tellWood_39 : decode cX12_tellWood 39 = .ok (.iconst 0, 1) := by decide +kernel
theorem dX12_tellWood_40 : decode cX12_tellWood 40 = .ok (.ireturn, 1) := by decide +kernel
theorem dX12_tellWood_41 : decode cX12_tellWood 41 = .ok (.aload_n 0, 1) := by decide +kernel
theorem dX12_tellWood_42 : decode cX12_tellWood 42 = .ok (.iload_n 1, 1) := by decide +kernel
theorem dX12_tellWood_43 : decode cX12_tellWood 43 = .ok (.aload_n 0, 1) := by decide +kernel
theorem dX12_tellWood_44 : decode cX12_tellWood 44 = .ok (.getfield 237, 3) := by decide +kernel
theorem dX12_tellWood_47 : decode cX12_tellWood 47 = .ok (.invokevirtual 292, 3) := by decide +kernel
theorem dX12_tellWood_50 : decode cX12_tellWood 50 = .ok (.aload_n 0, 1) := by decide +kernel
theorem dX12_tellWood_51 : decode cX12_tellWood 51 = .ok (.iconst 0, 1) := by decide +kernel
theorem dX12_tellWood_52 : decode cX12_tellWood 52 = .ok (.bipush 99, 2) := by decide +kernel
theorem dX12_tellWood_54 : decode cX12_tellWood 54 = .ok (.invokevirtual 302, 3) := by decide +kernel
theorem dX12_tellWood_57 : decode cX12_tellWood 57 = .ok (.ifCond .ne 5, 3) := by decide +kernel
theorem dX12_tellWood_60 : decode cX12_tellWood 60 = .ok (.iconst 0, 1) := by decide +kernel
theorem dX12_tellWood_61 : decode cX12_tellWood 61 = .ok (.ireturn, 1) := by decide +kernel
theorem dX12_tellWood_62 : decode cX12_tellWood 62 = .ok (.aload_n 0, 1) := by decide +kernel
theorem dX12_tellWood_63 : decode cX12_tellWood 63 = .ok (.iload_n 1, 1) := by decide +kernel
theorem dX12_tellWood_64 : decode cX12_tellWood 64 = .ok (.iconst 1, 1) := by decide +kernel
theorem dX12_tellWood_65 : decode cX12_tellWood 65 = .ok (.iadd, 1) := by decide +kernel
theorem dX12_tellWood_66 : decode cX12_tellWood 66 = .ok (.aload_n 0, 1) := by decide +kernel
theorem dX12_tellWood_67 : decode cX12_tellWood 67 = .ok (.getfield 237, 3) := by decide +kernel
theorem dX12_tellWood_70 : decode cX12_tellWood 70 = .ok (.invokevirtual 292, 3) := by decide +kernel
theorem dX12_tellWood_73 : decode cX12_tellWood 73 = .ok (.iconst 1, 1) := by decide +kernel
theorem dX12_tellWood_74 : decode cX12_tellWood 74 = .ok (.ireturn, 1) := by decide +kernel
theorem b_X12_tellWood (mm : MM) (Q : Value → MM → Prop) (h : ∃ Pm1 : Value → MM → Prop, Runs e_X12_next [.ref 156, .int (5 : Int32), .int (8 : Int32), .int (170 : Int32), .int (2 : Int32)] mm Pm1 ∧ ∀ (r1 : Int32) (m1 : MM), Pm1 (.int r1) m1 → ((0 ≤ r1 → (∃ Pm2 : Value → MM → Prop, Runs e_X12_pass [.ref 156] m1 Pm2 ∧ (∀ r m2, Pm2 r m2 → r = .int 1 ∨ r = .int 0) ∧ (∀ m2, Pm2 (.int 1) m2 → (∃ Pm3 : Value → MM → Prop, Runs e_X12_takesInt [.ref 156, .int (1 : Int32), .int (60 : Int32)] m2 Pm3 ∧ (∀ r m3, Pm3 r m3 → r = .int 1 ∨ r = .int 0) ∧ (∀ m3, Pm3 (.int 1) m3 → (∃ Pm4 : Value → MM → Prop, Runs e_X12_tell [.ref 156, .int r1, .int (m3.1 156 29)] m3 Pm4 ∧ ∀ m4, Pm4 .null m4 → (∃ Pm5 : Value → MM → Prop, Runs e_X12_takesInt [.ref 156, .int (0 : Int32), .int (99 : Int32)] m4 Pm5 ∧ (∀ r m5, Pm5 r m5 → r = .int 1 ∨ r = .int 0) ∧ (∀ m5, Pm5 (.int 1) m5 → (∃ Pm6 : Value → MM → Prop, Runs e_X12_tell [.ref 156, .int (r1 + (1 : Int32)), .int (m5.1 156 29)] m5 Pm6 ∧ ∀ m6, Pm6 .null m6 → (Q (.int (1 : Int32)) m6))) ∧ (∀ m5, Pm5 (.int 0) m5 → (Q (.int (0 : Int32)) m5))))) ∧ (∀ m3, Pm3 (.int 0) m3 → (Q (.int (0 : Int32)) m3)))) ∧ (∀ m2, Pm2 (.int 0) m2 → (Q (.int (0 : Int32)) m2)))) ∧ (¬ 0 ≤ r1 → (∃ Pm2 : Value → MM → Prop, Runs e_X12_wrong [.ref 156, .int (2 : Int32)] m1 Pm2 ∧ (∀ r m2, Pm2 r m2 → r = .int 1 ∨ r = .int 0) ∧ (∀ m2, Pm2 (.int 1) m2 → (Q (.int (1 : Int32)) m2)) ∧ (∀ m2, Pm2 (.int 0) m2 → (Q (.int (0 : Int32)) m2)))))) : Runs e_X12_tellWood [.ref 156] mm Q := by
  refine runs_of_G (L := [(0, .ref 156)]) pl_X12 (Nat.le_of_ble_eq_true rfl) rfl ?_
  refine g_aload_n (pc := 0) (x := 156) dX12_tellWood_0 rfl ?_
  refine g_iconst (pc := 1) (v := (5 : Int32)) dX12_tellWood_1 (by decide) ?_
  refine g_bipush (pc := 2) (v := (8 : Int32)) dX12_tellWood_2 (by decide) ?_
  refine g_sipush (pc := 4) (v := (170 : Int32)) dX12_tellWood_4 (by decide) ?_
  refine g_iconst (pc := 7) (v := (2 : Int32)) dX12_tellWood_7 (by decide) ?_
  obtain ⟨Pm1, hRm1, h⟩ := h
  refine g_callV (pc := 8) (as := [.int (5 : Int32), .int (8 : Int32), .int (170 : Int32), .int (2 : Int32)]) dX12_tellWood_8 cw_X12_295 (by decide) rfl rfl sh_156 (Nat.le_of_ble_eq_true rfl) hRm1 ?_
  intro r_ m1 hz_ hp_
  obtain ⟨r1, rfl⟩ := hz_
  have h := h r1 m1 hp_
  refine g_istore_n (pc := 11) (L' := [(0, .ref 156), (1, .int r1)]) dX12_tellWood_11 (Nat.le_of_ble_eq_true rfl) rfl ?_
  refine g_iload_n (pc := 12) (x := r1) dX12_tellWood_12 rfl ?_
  refine g_if_ge (pc := 13) (tgt := 22) dX12_tellWood_13 (by decide) (fun c13 => ?_) (fun c13 => ?_)
  · have h := h.1 c13
    refine g_aload_n (pc := 22) (x := 156) dX12_tellWood_22 rfl ?_
    obtain ⟨Pm2, hRm2, h⟩ := h
    refine g_callV (pc := 23) (as := []) dX12_tellWood_23 cw_X12_230 (by decide) rfl rfl sh_156 (Nat.le_of_ble_eq_true rfl) hRm2 ?_
    intro r_ m2 hz_ hp_
    rcases h.1 r_ m2 hp_ with rfl | rfl
    · have h := h.2.1 m2 hp_
      refine g_if_eq (pc := 26) (tgt := 39) dX12_tellWood_26 (by decide) (fun c26 => absurd c26 (by decide)) (fun _ => ?_)
      refine g_aload_n (pc := 29) (x := 156) dX12_tellWood_29 rfl ?_
      refine g_iconst (pc := 30) (v := (1 : Int32)) dX12_tellWood_30 (by decide) ?_
      refine g_bipush (pc := 31) (v := (60 : Int32)) dX12_tellWood_31 (by decide) ?_
      obtain ⟨Pm3, hRm3, h⟩ := h
      refine g_callV (pc := 33) (as := [.int (1 : Int32), .int (60 : Int32)]) dX12_tellWood_33 cw_X12_302 (by decide) rfl rfl sh_156 (Nat.le_of_ble_eq_true rfl) hRm3 ?_
      intro r_ m3 hz_ hp_
      rcases h.1 r_ m3 hp_ with rfl | rfl
      · have h := h.2.1 m3 hp_
        refine g_if_ne (pc := 36) (tgt := 41) dX12_tellWood_36 (by decide) (fun _ => ?_) (fun c36 => absurd c36 (by decide))
        refine g_aload_n (pc := 41) (x := 156) dX12_tellWood_41 rfl ?_
        refine g_iload_n (pc := 42) (x := r1) dX12_tellWood_42 rfl ?_
        refine g_aload_n (pc := 43) (x := 156) dX12_tellWood_43 rfl ?_
        refine g_getI (pc := 44) dX12_tellWood_44 fo_X12_237 sh_156 rfl ?_
        obtain ⟨Pm4, hRm4, h⟩ := h
        refine g_callV (pc := 47) (as := [.int r1, .int (m3.1 156 29)]) dX12_tellWood_47 cw_X12_292 (by decide) rfl rfl sh_156 (Nat.le_of_ble_eq_true rfl) hRm4 ?_
        intro r_ m4 hz_ hp_
        obtain rfl := hz_
        have h := h m4 hp_
        refine g_aload_n (pc := 50) (x := 156) dX12_tellWood_50 rfl ?_
        refine g_iconst (pc := 51) (v := (0 : Int32)) dX12_tellWood_51 (by decide) ?_
        refine g_bipush (pc := 52) (v := (99 : Int32)) dX12_tellWood_52 (by decide) ?_
        obtain ⟨Pm5, hRm5, h⟩ := h
        refine g_callV (pc := 54) (as := [.int (0 : Int32), .int (99 : Int32)]) dX12_tellWood_54 cw_X12_302 (by decide) rfl rfl sh_156 (Nat.le_of_ble_eq_true rfl) hRm5 ?_
        intro r_ m5 hz_ hp_
        rcases h.1 r_ m5 hp_ with rfl | rfl
        · have h := h.2.1 m5 hp_
          refine g_if_ne (pc := 57) (tgt := 62) dX12_tellWood_57 (by decide) (fun _ => ?_) (fun c57 => absurd c57 (by decide))
          refine g_aload_n (pc := 62) (x := 156) dX12_tellWood_62 rfl ?_
          refine g_iload_n (pc := 63) (x := r1) dX12_tellWood_63 rfl ?_
          refine g_iconst (pc := 64) (v := (1 : Int32)) dX12_tellWood_64 (by decide) ?_
          refine g_iadd (pc := 65) dX12_tellWood_65 ?_
          refine g_aload_n (pc := 66) (x := 156) dX12_tellWood_66 rfl ?_
          refine g_getI (pc := 67) dX12_tellWood_67 fo_X12_237 sh_156 rfl ?_
          obtain ⟨Pm6, hRm6, h⟩ := h
          refine g_callV (pc := 70) (as := [.int (r1 + (1 : Int32)), .int (m5.1 156 29)]) dX12_tellWood_70 cw_X12_292 (by decide) rfl rfl sh_156 (Nat.le_of_ble_eq_true rfl) hRm6 ?_
          intro r_ m6 hz_ hp_
          obtain rfl := hz_
          have h := h m6 hp_
          refine g_iconst (pc := 73) (v := (1 : Int32)) dX12_tellWood_73 (by decide) ?_
          exact g_iret (pc := 74) dX12_tellWood_74 rfl rfl (nar_B isB1) h
        · have h := h.2.2 m5 hp_
          refine g_if_ne (pc := 57) (tgt := 62) dX12_tellWood_57 (by decide) (fun c57 => absurd c57 (by decide)) (fun _ => ?_)
          refine g_iconst (pc := 60) (v := (0 : Int32)) dX12_tellWood_60 (by decide) ?_
          exact g_iret (pc := 61) dX12_tellWood_61 rfl rfl (nar_B isB0) h
      · have h := h.2.2 m3 hp_
        refine g_if_ne (pc := 36) (tgt := 41) dX12_tellWood_36 (by decide) (fun c36 => absurd c36 (by decide)) (fun _ => ?_)
        refine g_iconst (pc := 39) (v := (0 : Int32)) dX12_tellWood_39 (by decide) ?_
        exact g_iret (pc := 40) dX12_tellWood_40 rfl rfl (nar_B isB0) h
    · have h := h.2.2 m2 hp_
      refine g_if_eq (pc := 26) (tgt := 39) dX12_tellWood_26 (by decide) (fun _ => ?_) (fun c26 => absurd c26 (by decide))
      refine g_iconst (pc := 39) (v := (0 : Int32)) dX12_tellWood_39 (by decide) ?_
      exact g_iret (pc := 40) dX12_tellWood_40 rfl rfl (nar_B isB0) h
  · have h := h.2 c13
    refine g_aload_n (pc := 16) (x := 156) dX12_tellWood_16 rfl ?_
    refine g_iconst (pc := 17) (v := (2 : Int32)) dX12_tellWood_17 (by decide) ?_
    obtain ⟨Pm2, hRm2, h⟩ := h
    refine g_callV (pc := 18) (as := [.int (2 : Int32)]) dX12_tellWood_18 cw_X12_227 (by decide) rfl rfl sh_156 (Nat.le_of_ble_eq_true rfl) hRm2 ?_
    intro r_ m2 hz_ hp_
    rcases h.1 r_ m2 hp_ with rfl | rfl
    · have h := h.2.1 m2 hp_
      exact g_iret (pc := 21) dX12_tellWood_21 rfl rfl (nar_B isB1) h
    · have h := h.2.2 m2 hp_
      exact g_iret (pc := 21) dX12_tellWood_21 rfl rfl (nar_B isB0) h
theorem dX12_tellNumber_0 : decode cX12_tellNumber 0 = .ok (.aload_n 0, 1) := by decide +kernel
theorem dX12_tellNumber_1 : decode cX12_tellNumber 1 = .ok (.invokevirtual 230, 3) := by decide +kernel
theorem dX12_tellNumber_4 : decode cX12_tellNumber 4 = .ok (.ifCond .eq 12, 3) := by decide +kernel
theorem dX12_tellNumber_7 : decode cX12_tellNumber 7 = .ok (.aload_n 0, 1) := by decide +kernel
theorem dX12_tellNumber_8 : decode cX12_tellNumber 8 = .ok (.iconst 1, 1) := by decide +kernel
theorem dX12_tellNumber_9 : decode cX12_tellNumber 9 = .ok (.iload_n 2, 1) := by decide +kernel
theorem dX12_tellNumber_10 : decode cX12_tellNumber 10 = .ok (.invokevirtual 302, 3) := by decide +kernel
theorem dX12_tellNumber_13 : decode cX12_tellNumber 13 = .ok (.ifCond .ne 5, 3) := by decide +kernel
theorem dX12_tellNumber_16 : decode cX12_tellNumber 16 = .ok (.iconst 0, 1) := by decide +kernel
theorem dX12_tellNumber_17 : decode cX12_tellNumber 17 = .ok (.ireturn, 1) := by decide +kernel
theorem dX12_tellNumber_18 : decode cX12_tellNumber 18 = .ok (.aload_n 0, 1) := by decide +kernel
theorem dX12_tellNumber_19 : decode cX12_tellNumber 19 = .ok (.iload_n 1, 1) := by decide +kernel
theorem dX12_tellNumber_20 : decode cX12_tellNumber 20 = .ok (.aload_n 0, 1) := by decide +kernel
theorem dX12_tellNumber_21 : decode cX12_tellNumber 21 = .ok (.getfield 237, 3) := by decide +kernel
theorem dX12_tellNumber_24 : decode cX12_tellNumber 24 = .ok (.invokevirtual 292, 3) := by decide +kernel
theorem dX12_tellNumber_27 : decode cX12_tellNumber 27 = .ok (.iconst 1, 1) := by decide +kernel
theorem dX12_tellNumber_28 : decode cX12_tellNumber 28 = .ok (.ireturn, 1) := by decide +kernel
theorem b_X12_tellNumber (mm : MM) (Q : Value → MM → Prop) (a1 : Int32) (a2 : Int32) (h : ∃ Pm1 : Value → MM → Prop, Runs e_X12_pass [.ref 156] mm Pm1 ∧ (∀ r m1, Pm1 r m1 → r = .int 1 ∨ r = .int 0) ∧ (∀ m1, Pm1 (.int 1) m1 → (∃ Pm2 : Value → MM → Prop, Runs e_X12_takesInt [.ref 156, .int (1 : Int32), .int a2] m1 Pm2 ∧ (∀ r m2, Pm2 r m2 → r = .int 1 ∨ r = .int 0) ∧ (∀ m2, Pm2 (.int 1) m2 → (∃ Pm3 : Value → MM → Prop, Runs e_X12_tell [.ref 156, .int a1, .int (m2.1 156 29)] m2 Pm3 ∧ ∀ m3, Pm3 .null m3 → (Q (.int (1 : Int32)) m3))) ∧ (∀ m2, Pm2 (.int 0) m2 → (Q (.int (0 : Int32)) m2)))) ∧ (∀ m1, Pm1 (.int 0) m1 → (Q (.int (0 : Int32)) m1))) : Runs e_X12_tellNumber [.ref 156, .int a1, .int a2] mm Q := by
  refine runs_of_G (L := [(0, .ref 156), (1, .int a1), (2, .int a2)]) pl_X12 (Nat.le_of_ble_eq_true rfl) rfl ?_
  refine g_aload_n (pc := 0) (x := 156) dX12_tellNumber_0 rfl ?_
  obtain ⟨Pm1, hRm1, h⟩ := h
  refine g_callV (pc := 1) (as := []) dX12_tellNumber_1 cw_X12_230 (by decide) rfl rfl sh_156 (Nat.le_of_ble_eq_true rfl) hRm1 ?_
  intro r_ m1 hz_ hp_
  rcases h.1 r_ m1 hp_ with rfl | rfl
  · have h := h.2.1 m1 hp_
    refine g_if_eq (pc := 4) (tgt := 16) dX12_tellNumber_4 (by decide) (fun c4 => absurd c4 (by decide)) (fun _ => ?_)
    refine g_aload_n (pc := 7) (x := 156) dX12_tellNumber_7 rfl ?_
    refine g_iconst (pc := 8) (v := (1 : Int32)) dX12_tellNumber_8 (by decide) ?_
    refine g_iload_n (pc := 9) (x := a2) dX12_tellNumber_9 rfl ?_
    obtain ⟨Pm2, hRm2, h⟩ := h
    refine g_callV (pc := 10) (as := [.int (1 : Int32), .int a2]) dX12_tellNumber_10 cw_X12_302 (by decide) rfl rfl sh_156 (Nat.le_of_ble_eq_true rfl) hRm2 ?_
    intro r_ m2 hz_ hp_
    rcases h.1 r_ m2 hp_ with rfl | rfl
    · have h := h.2.1 m2 hp_
      refine g_if_ne (pc := 13) (tgt := 18) dX12_tellNumber_13 (by decide) (fun _ => ?_) (fun c13 => absurd c13 (by decide))
      refine g_aload_n (pc := 18) (x := 156) dX12_tellNumber_18 rfl ?_
      refine g_iload_n (pc := 19) (x := a1) dX12_tellNumber_19 rfl ?_
      refine g_aload_n (pc := 20) (x := 156) dX12_tellNumber_20 rfl ?_
      refine g_getI (pc := 21) dX12_tellNumber_21 fo_X12_237 sh_156 rfl ?_
      obtain ⟨Pm3, hRm3, h⟩ := h
      refine g_callV (pc := 24) (as := [.int a1, .int (m2.1 156 29)]) dX12_tellNumber_24 cw_X12_292 (by decide) rfl rfl sh_156 (Nat.le_of_ble_eq_true rfl) hRm3 ?_
      intro r_ m3 hz_ hp_
      obtain rfl := hz_
      have h := h m3 hp_
      refine g_iconst (pc := 27) (v := (1 : Int32)) dX12_tellNumber_27 (by decide) ?_
      exact g_iret (pc := 28) dX12_tellNumber_28 rfl rfl (nar_B isB1) h
    · have h := h.2.2 m2 hp_
      refine g_if_ne (pc := 13) (tgt := 18) dX12_tellNumber_13 (by decide) (fun c13 => absurd c13 (by decide)) (fun _ => ?_)
      refine g_iconst (pc := 16) (v := (0 : Int32)) dX12_tellNumber_16 (by decide) ?_
      exact g_iret (pc := 17) dX12_tellNumber_17 rfl rfl (nar_B isB0) h
  · have h := h.2.2 m1 hp_
    refine g_if_eq (pc := 4) (tgt := 16) dX12_tellNumber_4 (by decide) (fun _ => ?_) (fun c4 => absurd c4 (by decide))
    refine g_iconst (pc := 16) (v := (0 : Int32)) dX12_tellNumber_16 (by decide) ?_
    exact g_iret (pc := 17) dX12_tellNumber_17 rfl rfl (nar_B isB0) h
theorem dX12_tellLaw_0 : decode cX12_tellLaw 0 = .ok (.aload_n 0, 1) := by decide +kernel
theorem dX12_tellLaw_1 : decode cX12_tellLaw 1 = .ok (.invokevirtual 230, 3) := by decide +kernel
theorem dX12_tellLaw_4 : decode cX12_tellLaw 4 = .ok (.ifCond .ne 5, 3) := by decide +kernel
theorem dX12_tellLaw_7 : decode cX12_tellLaw 7 = .ok (.iconst 0, 1) := by decide +kernel
theorem dX12_tellLaw_8 : decode cX12_tellLaw 8 = .ok (.ireturn, 1) := by decide +kernel
theorem dX12_tellLaw_9 : decode cX12_tellLaw 9 = .ok (.aload_n 0, 1) := by decide +kernel
theorem dX12_tellLaw_10 : decode cX12_tellLaw 10 = .ok (.bipush 61, 2) := by decide +kernel
theorem dX12_tellLaw_12 : decode cX12_tellLaw 12 = .ok (.invokevirtual 256, 3) := by decide +kernel
theorem dX12_tellLaw_15 : decode cX12_tellLaw 15 = .ok (.ifCond .ne 9, 3) := by decide +kernel
theorem dX12_tellLaw_18 : decode cX12_tellLaw 18 = .ok (.aload_n 0, 1) := by decide +kernel
theorem dX12_tellLaw_19 : decode cX12_tellLaw 19 = .ok (.iconst 1, 1) := by decide +kernel
theorem dX12_tellLaw_20 : decode cX12_tellLaw 20 = .ok (.invokevirtual 227, 3) := by decide +kernel
theorem dX12_tellLaw_23 : decode cX12_tellLaw 23 = .ok (.ireturn, 1) := by decide +kernel
theorem dX12_tellLaw_24 : decode cX12_tellLaw 24 = .ok (.aload_n 0, 1) := by decide +kernel
theorem dX12_tellLaw_25 : decode cX12_tellLaw 25 = .ok (.invokevirtual 230, 3) := by decide +kernel
theorem dX12_tellLaw_28 : decode cX12_tellLaw 28 = .ok (.ifCond .eq 10, 3) := by decide +kernel
theorem dX12_tellLaw_31 : decode cX12_tellLaw 31 = .ok (.aload_n 0, 1) := by decide +kernel
theorem dX12_tellLaw_32 : decode cX12_tellLaw 32 = .ok (.invokevirtual 274, 3) := by decide +kernel
theorem dX12_tellLaw_35 : decode cX12_tellLaw 35 = .ok (.ifCond .ne 5, 3) := by decide +kernel
theorem dX12_tellLaw_38 : decode cX12_tellLaw 38 = .ok (.iconst 0, 1) := by decide +kernel
theorem dX12_tellLaw_39 : decode cX12_tellLaw 39 = .ok (.ireturn, 1) := by decide +kernel
theorem dX12_tellLaw_40 : decode cX12_tellLaw 40 = .ok (.aload_n 0, 1) := by decide +kernel
theorem dX12_tellLaw_41 : decode cX12_tellLaw 41 = .ok (.bipush 10, 2) := by decide +kernel
theorem dX12_tellLaw_43 : decode cX12_tellLaw 43 = .ok (.iconst 2, 1) := by decide +kernel
theorem dX12_tellLaw_44 : decode cX12_tellLaw 44 = .ok (.iload_n 1, 1) := by decide +kernel
theorem dX12_tellLaw_45 : decode cX12_tellLaw 45 = .ok (.imul, 1) := by decide +kernel
theorem dX12_tellLaw_46 : decode cX12_tellLaw 46 = .ok (.iadd, 1) := by decide +kernel
theorem dX12_tellLaw_47 : decode cX12_tellLaw 47 = .ok (.aload_n 0, 1) := by decide +kernel
theorem dX12_tellLaw_48 : decode cX12_tellLaw 48 = .ok (.getfield 253, 3) := by decide +kernel
theorem dX12_tellLaw_51 : decode cX12_tellLaw 51 = .ok (.invokevirtual 292, 3) := by decide +kernel
theorem dX12_tellLaw_54 : decode cX12_tellLaw 54 = .ok (.aload_n 0, 1) := by decide +kernel
theorem dX12_tellLaw_55 : decode cX12_tellLaw 55 = .ok (.bipush 10, 2) := by decide +kernel
theorem dX12_tellLaw_57 : decode cX12_tellLaw 57 = .ok (.iconst 2, 1) := by decide +kernel
theorem dX12_tellLaw_58 : decode cX12_tellLaw 58 = .ok (.iload_n 1, 1) := by decide +kernel
theorem dX12_tellLaw_59 : decode cX12_tellLaw 59 = .ok (.imul, 1) := by decide +kernel
theorem dX12_tellLaw_60 : decode cX12_tellLaw 60 = .ok (.iadd, 1) := by decide +kernel
theorem dX12_tellLaw_61 : decode cX12_tellLaw 61 = .ok (.iconst 1, 1) := by decide +kernel
theorem dX12_tellLaw_62 : decode cX12_tellLaw 62 = .ok (.iadd, 1) := by decide +kernel
theorem dX12_tellLaw_63 : decode cX12_tellLaw 63 = .ok (.aload_n 0, 1) := by decide +kernel
theorem dX12_tellLaw_64 : decode cX12_tellLaw 64 = .ok (.getfield 36, 3) := by decide +kernel
theorem dX12_tellLaw_67 : decode cX12_tellLaw 67 = .ok (.iconst 1, 1) := by decide +kernel
theorem dX12_tellLaw_68 : decode cX12_tellLaw 68 = .ok (.iaload, 1) := by decide +kernel
theorem dX12_tellLaw_69 : decode cX12_tellLaw 69 = .ok (.invokevirtual 292, 3) := by decide +kernel
theorem dX12_tellLaw_72 : decode cX12_tellLaw 72 = .ok (.iconst 1, 1) := by decide +kernel
theorem dX12_tellLaw_73 : decode cX12_tellLaw 73 = .ok (.ireturn, 1) := by decide +kernel
theorem b_X12_tellLaw (mm : MM) (Q : Value → MM → Prop) (a1 : Int32) (h : ∃ Pm1 : Value → MM → Prop, Runs e_X12_pass [.ref 156] mm Pm1 ∧ (∀ r m1, Pm1 r m1 → r = .int 1 ∨ r = .int 0) ∧ (∀ m1, Pm1 (.int 1) m1 → (o_X12_isSign m1 (61 : Int32) ∧ ((p_X12_isSign m1 (61 : Int32) → (∃ Pm2 : Value → MM → Prop, Runs e_X12_pass [.ref 156] m1 Pm2 ∧ (∀ r m2, Pm2 r m2 → r = .int 1 ∨ r = .int 0) ∧ (∀ m2, Pm2 (.int 1) m2 → (∃ Pm3 : Value → MM → Prop, Runs e_X12_expr [.ref 156] m2 Pm3 ∧ (∀ r m3, Pm3 r m3 → r = .int 1 ∨ r = .int 0) ∧ (∀ m3, Pm3 (.int 1) m3 → (∃ Pm4 : Value → MM → Prop, Runs e_X12_tell [.ref 156, .int ((10 : Int32) + ((2 : Int32) * a1)), .int (m3.1 156 32)] m3 Pm4 ∧ ∀ m4, Pm4 .null m4 → (∃ Pm5 : Value → MM → Prop, Runs e_X12_tell [.ref 156, .int (((10 : Int32) + ((2 : Int32) * a1)) + (1 : Int32)), .int (m4.1 164 1)] m4 Pm5 ∧ ∀ m5, Pm5 .null m5 → (Q (.int (1 : Int32)) m5)))) ∧ (∀ m3, Pm3 (.int 0) m3 → (Q (.int (0 : Int32)) m3)))) ∧ (∀ m2, Pm2 (.int 0) m2 → (Q (.int (0 : Int32)) m2)))) ∧ (¬ p_X12_isSign m1 (61 : Int32) → (∃ Pm2 : Value → MM → Prop, Runs e_X12_wrong [.ref 156, .int (1 : Int32)] m1 Pm2 ∧ (∀ r m2, Pm2 r m2 → r = .int 1 ∨ r = .int 0) ∧ (∀ m2, Pm2 (.int 1) m2 → (Q (.int (1 : Int32)) m2)) ∧ (∀ m2, Pm2 (.int 0) m2 → (Q (.int (0 : Int32)) m2))))))) ∧ (∀ m1, Pm1 (.int 0) m1 → (Q (.int (0 : Int32)) m1))) : Runs e_X12_tellLaw [.ref 156, .int a1] mm Q := by
  refine runs_of_G (L := [(0, .ref 156), (1, .int a1)]) pl_X12 (Nat.le_of_ble_eq_true rfl) rfl ?_
  refine g_aload_n (pc := 0) (x := 156) dX12_tellLaw_0 rfl ?_
  obtain ⟨Pm1, hRm1, h⟩ := h
  refine g_callV (pc := 1) (as := []) dX12_tellLaw_1 cw_X12_230 (by decide) rfl rfl sh_156 (Nat.le_of_ble_eq_true rfl) hRm1 ?_
  intro r_ m1 hz_ hp_
  rcases h.1 r_ m1 hp_ with rfl | rfl
  · have h := h.2.1 m1 hp_
    refine g_if_ne (pc := 4) (tgt := 9) dX12_tellLaw_4 (by decide) (fun _ => ?_) (fun c4 => absurd c4 (by decide))
    refine g_aload_n (pc := 9) (x := 156) dX12_tellLaw_9 rfl ?_
    refine g_bipush (pc := 10) (v := (61 : Int32)) dX12_tellLaw_10 (by decide) ?_
    refine g_callV (pc := 12) (as := [.int (61 : Int32)]) dX12_tellLaw_12 cw_X12_256 (by decide) rfl rfl sh_156 (Nat.le_of_ble_eq_true rfl) (rv_X12_isSign m1 (61 : Int32) h.1) ?_
    have h := h.2
    rintro r_ m_ hz_ ⟨⟨p_, rfl⟩ | ⟨p_, rfl⟩, rfl⟩
    · have h := h.1 p_
      refine g_if_ne (pc := 15) (tgt := 24) dX12_tellLaw_15 (by decide) (fun _ => ?_) (fun c15 => absurd c15 (by decide))
      refine g_aload_n (pc := 24) (x := 156) dX12_tellLaw_24 rfl ?_
      obtain ⟨Pm2, hRm2, h⟩ := h
      refine g_callV (pc := 25) (as := []) dX12_tellLaw_25 cw_X12_230 (by decide) rfl rfl sh_156 (Nat.le_of_ble_eq_true rfl) hRm2 ?_
      intro r_ m2 hz_ hp_
      rcases h.1 r_ m2 hp_ with rfl | rfl
      · have h := h.2.1 m2 hp_
        refine g_if_eq (pc := 28) (tgt := 38) dX12_tellLaw_28 (by decide) (fun c28 => absurd c28 (by decide)) (fun _ => ?_)
        refine g_aload_n (pc := 31) (x := 156) dX12_tellLaw_31 rfl ?_
        obtain ⟨Pm3, hRm3, h⟩ := h
        refine g_callV (pc := 32) (as := []) dX12_tellLaw_32 cw_X12_274 (by decide) rfl rfl sh_156 (Nat.le_of_ble_eq_true rfl) hRm3 ?_
        intro r_ m3 hz_ hp_
        rcases h.1 r_ m3 hp_ with rfl | rfl
        · have h := h.2.1 m3 hp_
          refine g_if_ne (pc := 35) (tgt := 40) dX12_tellLaw_35 (by decide) (fun _ => ?_) (fun c35 => absurd c35 (by decide))
          refine g_aload_n (pc := 40) (x := 156) dX12_tellLaw_40 rfl ?_
          refine g_bipush (pc := 41) (v := (10 : Int32)) dX12_tellLaw_41 (by decide) ?_
          refine g_iconst (pc := 43) (v := (2 : Int32)) dX12_tellLaw_43 (by decide) ?_
          refine g_iload_n (pc := 44) (x := a1) dX12_tellLaw_44 rfl ?_
          refine g_imul (pc := 45) dX12_tellLaw_45 ?_
          refine g_iadd (pc := 46) dX12_tellLaw_46 ?_
          refine g_aload_n (pc := 47) (x := 156) dX12_tellLaw_47 rfl ?_
          refine g_getI (pc := 48) dX12_tellLaw_48 fo_X12_253 sh_156 rfl ?_
          obtain ⟨Pm4, hRm4, h⟩ := h
          refine g_callV (pc := 51) (as := [.int ((10 : Int32) + ((2 : Int32) * a1)), .int (m3.1 156 32)]) dX12_tellLaw_51 cw_X12_292 (by decide) rfl rfl sh_156 (Nat.le_of_ble_eq_true rfl) hRm4 ?_
          intro r_ m4 hz_ hp_
          obtain rfl := hz_
          have h := h m4 hp_
          refine g_aload_n (pc := 54) (x := 156) dX12_tellLaw_54 rfl ?_
          refine g_bipush (pc := 55) (v := (10 : Int32)) dX12_tellLaw_55 (by decide) ?_
          refine g_iconst (pc := 57) (v := (2 : Int32)) dX12_tellLaw_57 (by decide) ?_
          refine g_iload_n (pc := 58) (x := a1) dX12_tellLaw_58 rfl ?_
          refine g_imul (pc := 59) dX12_tellLaw_59 ?_
          refine g_iadd (pc := 60) dX12_tellLaw_60 ?_
          refine g_iconst (pc := 61) (v := (1 : Int32)) dX12_tellLaw_61 (by decide) ?_
          refine g_iadd (pc := 62) dX12_tellLaw_62 ?_
          refine g_aload_n (pc := 63) (x := 156) dX12_tellLaw_63 rfl ?_
          refine g_getR (pc := 64) (dd := 8) dX12_tellLaw_64 fo_X12_36 sh_156 rfl ?_
          refine g_iconst (pc := 67) (v := (1 : Int32)) dX12_tellLaw_67 (by decide) ?_
          refine g_iaload (pc := 68) dX12_tellLaw_68 sh_164 (vp_in_nI (n := 1) (N := 2) (by decide) (by decide)) ?_
          obtain ⟨Pm5, hRm5, h⟩ := h
          refine g_callV (pc := 69) (as := [.int (((10 : Int32) + ((2 : Int32) * a1)) + (1 : Int32)), .int (m4.1 164 1)]) dX12_tellLaw_69 cw_X12_292 (by decide) rfl rfl sh_156 (Nat.le_of_ble_eq_true rfl) hRm5 ?_
          intro r_ m5 hz_ hp_
          obtain rfl := hz_
          have h := h m5 hp_
          refine g_iconst (pc := 72) (v := (1 : Int32)) dX12_tellLaw_72 (by decide) ?_
          exact g_iret (pc := 73) dX12_tellLaw_73 rfl rfl (nar_B isB1) h
        · have h := h.2.2 m3 hp_
          refine g_if_ne (pc := 35) (tgt := 40) dX12_tellLaw_35 (by decide) (fun c35 => absurd c35 (by decide)) (fun _ => ?_)
          refine g_iconst (pc := 38) (v := (0 : Int32)) dX12_tellLaw_38 (by decide) ?_
          exact g_iret (pc := 39) dX12_tellLaw_39 rfl rfl (nar_B isB0) h
      · have h := h.2.2 m2 hp_
        refine g_if_eq (pc := 28) (tgt := 38) dX12_tellLaw_28 (by decide) (fun _ => ?_) (fun c28 => absurd c28 (by decide))
        refine g_iconst (pc := 38) (v := (0 : Int32)) dX12_tellLaw_38 (by decide) ?_
        exact g_iret (pc := 39) dX12_tellLaw_39 rfl rfl (nar_B isB0) h
    · have h := h.2 p_
      refine g_if_ne (pc := 15) (tgt := 24) dX12_tellLaw_15 (by decide) (fun c15 => absurd c15 (by decide)) (fun _ => ?_)
      refine g_aload_n (pc := 18) (x := 156) dX12_tellLaw_18 rfl ?_
      refine g_iconst (pc := 19) (v := (1 : Int32)) dX12_tellLaw_19 (by decide) ?_
      obtain ⟨Pm2, hRm2, h⟩ := h
      refine g_callV (pc := 20) (as := [.int (1 : Int32)]) dX12_tellLaw_20 cw_X12_227 (by decide) rfl rfl sh_156 (Nat.le_of_ble_eq_true rfl) hRm2 ?_
      intro r_ m2 hz_ hp_
      rcases h.1 r_ m2 hp_ with rfl | rfl
      · have h := h.2.1 m2 hp_
        exact g_iret (pc := 23) dX12_tellLaw_23 rfl rfl (nar_B isB1) h
      · have h := h.2.2 m2 hp_
        exact g_iret (pc := 23) dX12_tellLaw_23 rfl rfl (nar_B isB0) h
  · have h := h.2.2 m1 hp_
    refine g_if_ne (pc := 4) (tgt := 9) dX12_tellLaw_4 (by decide) (fun c4 => absurd c4 (by decide)) (fun _ => ?_)
    refine g_iconst (pc := 7) (v := (0 : Int32)) dX12_tellLaw_7 (by decide) ?_
    exact g_iret (pc := 8) dX12_tellLaw_8 rfl rfl (nar_B isB0) h

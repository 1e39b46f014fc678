theorem dX4_readText_0 : decode cX4_readText 0 = .ok (.aload_n 0, 1) := by decide +kernel
theorem dX4_readText_1 : decode cX4_readText 1 = .ok (.invokevirtual 85, 3) := by decide +kernel
theorem dX4_readText_4 : decode cX4_readText 4 = .ok (.iconst 0, 1) := by decide +kernel
theorem dX4_readText_5 : decode cX4_readText 5 = .ok (.istore_n 1, 1) := by decide +kernel
theorem dX4_readText_6 : decode cX4_readText 6 = .ok (.iload_n 1, 1) := by decide +kernel
theorem dX4_readText_7 : decode cX4_readText 7 = .ok (.sipush 400, 3) := by decide +kernel
theorem dX4_readText_10 : decode cX4_readText 10 = .ok (.if_icmp .gt 221, 3) := by decide +kernel
theorem dX4_readText_13 : decode cX4_readText 13 = .ok (.aload_n 0, 1) := by decide +kernel
theorem dX4_readText_14 : decode cX4_readText 14 = .ok (.getfield 47, 3) := by decide +kernel
theorem dX4_readText_17 : decode cX4_readText 17 = .ok (.ifCond .ne 214, 3) := by decide +kernel
theorem dX4_readText_20 : decode cX4_readText 20 = .ok (.aload_n 0, 1) := by decide +kernel
theorem dX4_readText_21 : decode cX4_readText 21 = .ok (.invokevirtual 88, 3) := by decide +kernel
theorem dX4_readText_24 : decode cX4_readText 24 = .ok (.bipush 40, 2) := by decide +kernel
theorem dX4_readText_26 : decode cX4_readText 26 = .ok (.if_icmp .eq 205, 3) := by decide +kernel
theorem dX4_readText_29 : decode cX4_readText 29 = .ok (.aload_n 0, 1) := by decide +kernel
theorem dX4_readText_30 : decode cX4_readText 30 = .ok (.invokevirtual 88, 3) := by decide +kernel
theorem dX4_readText_33 : decode cX4_readText 33 = .ok (.istore_n 2, 1) := by decide +kernel
theorem dX4_readText_34 : decode cX4_readText 34 = .ok (.iload_n 2, 1) := by decide +kernel
theorem dX4_readText_35 : decode cX4_readText 35 = .ok (.tableswitch 185 0 12 #[65, 72, 79, 86, 93, 100, 107, 124, 149, 167, 141, 141, 141], 65) := by decide +kernel
theorem dX4_readText_100 : decode cX4_readText 100 = .ok (.aload_n 0, 1) := by decide +kernel
theorem dX4_readText_101 : decode cX4_readText 101 = .ok (.invokevirtual 92, 3) := by decide +kernel
theorem dX4_readText_104 : decode cX4_readText 104 = .ok (.goto 121, 3) := by decide +kernel
theorem dX4_readText_107 : decode cX4_readText 107 = .ok (.aload_n 0, 1) := by decide +kernel
theorem dX4_readText_108 : decode cX4_readText 108 = .ok (.invokevirtual 95, 3) := by decide +kernel
theorem dX4_readText_111 : decode cX4_readText 111 = .ok (.goto 114, 3) := by decide +kernel
theorem dX4_readText_114 : decode cX4_readText 114 = .ok (.aload_n 0, 1) := by decide +kernel
theorem dX4_readText_115 : decode cX4_readText 115 = .ok (.invokevirtual 98, 3) := by decide +kernel
theorem dX4_readText_118 : decode cX4_readText 118 = .ok (.goto 107, 3) := by decide +kernel
theorem dX4_readText_121 : decode cX4_readText 121 = .ok (.aload_n 0, 1) := by decide +kernel
theorem dX4_readText_122 : decode cX4_readText 122 = .ok (.invokevirtual 101, 3) := by decide +kernel
theorem dX4_readText_125 : decode cX4_readText 125 = .ok (.goto 100, 3) := by decide +kernel
theorem dX4_readText_128 : decode cX4_readText 128 = .ok (.aload_n 0, 1) := by decide +kernel
theorem dX4_readText_129 : decode cX4_readText 129 = .ok (.invokevirtual 104, 3) := by decide +kernel
theorem dX4_readText_132 : decode cX4_readText 132 = .ok (.goto 93, 3) := by decide +kernel
theorem dX4_readText_135 : decode cX4_readText 135 = .ok (.aload_n 0, 1) := by decide +kernel
theorem dX4_readText_136 : decode cX4_readText 136 = .ok (.invokevirtual 107, 3) := by decide +kernel
theorem dX4_readText_139 : decode cX4_readText 139 = .ok (.goto 86, 3) := by decide +kernel
theorem dX4_readText_142 : decode cX4_readText 142 = .ok (.aload_n 0, 1) := by decide +kernel
theorem dX4_readText_143 : decode cX4_readText 143 = .ok (.getfield 32, 3) := by decide +kernel
theorem dX4_readText_146 : decode cX4_readText 146 = .ok (.aload_n 0, 1) := by decide +kernel
theorem dX4_readText_147 : decode cX4_readText 147 = .ok (.iload_n 2, 1) := by decide +kernel
theorem dX4_readText_148 : decode cX4_readText 148 = .ok (.bipush 9, 2) := by decide +kernel
theorem dX4_readText_150 : decode cX4_readText 150 = .ok (.invokevirtual 110, 3) := by decide +kernel
theorem dX4_readText_153 : decode cX4_readText 153 = .ok (.putfield 114, 3) := by decide +kernel
theorem dX4_readText_156 : decode cX4_readText 156 = .ok (.goto 69, 3) := by decide +kernel
theorem dX4_readText_159 : decode cX4_readText 159 = .ok (.aload_n 0, 1) := by decide +kernel
theorem dX4_readText_160 : decode cX4_readText 160 = .ok (.getfield 32, 3) := by decide +kernel
theorem dX4_readText_163 : decode cX4_readText 163 = .ok (.aload_n 0, 1) := by decide +kernel
theorem dX4_readText_164 : decode cX4_readText 164 = .ok (.iload_n 2, 1) := by decide +kernel
theorem dX4_readText_165 : decode cX4_readText 165 = .ok (.bipush 99, 2) := by decide +kernel
theorem dX4_readText_167 : decode cX4_readText 167 = .ok (.invokevirtual 110, 3) := by decide +kernel
theorem dX4_readText_170 : decode cX4_readText 170 = .ok (.putfield 117, 3) := by decide +kernel
theorem dX4_readText_173 : decode cX4_readText 173 = .ok (.goto 52, 3) := by decide +kernel
theorem dX4_readText_176 : decode cX4_readText 176 = .ok (.aload_n 0, 1) := by decide +kernel
theorem dX4_readText_177 : decode cX4_readText 177 = .ok (.iload_n 2, 1) := by decide +kernel
theorem dX4_readText_178 : decode cX4_readText 178 = .ok (.invokevirtual 120, 3) := by decide +kernel
theorem dX4_readText_181 : decode cX4_readText 181 = .ok (.goto 44, 3) := by decide +kernel
theorem dX4_readText_184 : decode cX4_readText 184 = .ok (.aload_n 0, 1) := by decide +kernel
theorem dX4_readText_185 : decode cX4_readText 185 = .ok (.iload_n 2, 1) := by decide +kernel
theorem dX4_readText_186 : decode cX4_readText 186 = .ok (.aload_n 0, 1) := by decide +kernel
theorem dX4_readText_187 : decode cX4_readText 187 = .ok (.getfield 32, 3) := by decide +kernel
theorem dX4_readText_190 : decode cX4_readText 190 = .ok (.getfield 124, 3) := by decide +kernel
theorem dX4_readText_193 : decode cX4_readText 193 = .ok (.getfield 128, 3) := by decide +kernel
theorem dX4_readText_196 : decode cX4_readText 196 = .ok (.invokevirtual 133, 3) := by decide +kernel
theorem dX4_readText_199 : decode cX4_readText 199 = .ok (.goto 26, 3) := by decide +kernel
theorem dX4_readText_202 : decode cX4_readText 202 = .ok (.aload_n 0, 1) := by decide +kernel
theorem dX4_readText_203 : decode cX4_readText 203 = .ok (.iload_n 2, 1) := by decide +kernel
theorem dX4_readText_204 : decode cX4_readText 204 = .ok (.aload_n 0, 1) := by decide +kernel
theorem dX4_readText_205 : decode cX4_readText 205 = .ok (.getfield 32, 3) := by decide +kernel
theorem dX4_readText_208 : decode cX4_readText 208 = .ok (.getfield 124, 3) := by decide +kernel
theorem dX4_readText_211 : decode cX4_readText 211 = .ok (.getfield 137, 3) := by decide +kernel
theorem dX4_readText_214 : decode cX4_readText 214 = .ok (.invokevirtual 133, 3) := by decide +kernel
theorem dX4_readText_217 : decode cX4_readText 217 = .ok (.goto 8, 3) := by decide +kernel
theorem dX4_readText_220 : decode cX4_readText 220 = .ok (.aload_n 0, 1) := by decide +kernel
theorem dX4_readText_221 : decode cX4_readText 221 = .ok (.iconst 1, 1) := by decide +kernel
theorem dX4_readText_222 : decode cX4_readText 222 = .ok (.invokevirtual 140, 3) := by decide +kernel
theorem dX4_readText_225 : decode cX4_readText 225 = .ok (.iinc 1 1, 3) := by decide +kernel
theorem dX4_readText_228 : decode cX4_readText 228 = .ok (.goto (-222), 3) := by decide +kernel
theorem dX4_readText_231 : decode cX4_readText 231 = .ok (.aload_n 0, 1) := by decide +kernel
theorem dX4_readText_232 : decode cX4_readText 232 = .ok (.getfield 47, 3) := by decide +kernel
theorem dX4_readText_235 : decode cX4_readText 235 = .ok (.ifCond .ne 26, 3) := by decide +kernel
theorem dX4_readText_238 : decode cX4_readText 238 = .ok (.aload_n 0, 1) := by decide +kernel
theorem dX4_readText_239 : decode cX4_readText 239 = .ok (.getfield 53, 3) := by decide +kernel
theorem dX4_readText_242 : decode cX4_readText 242 = .ok (.ifCond .eq 19, 3) := by decide +kernel
theorem dX4_readText_245 : decode cX4_readText 245 = .ok (.aload_n 0, 1) := by decide +kernel
theorem dX4_readText_246 : decode cX4_readText 246 = .ok (.aload_n 0, 1) := by decide +kernel
theorem dX4_readText_247 : decode cX4_readText 247 = .ok (.getfield 53, 3) := by decide +kernel
theorem dX4_readText_250 : decode cX4_readText 250 = .ok (.putfield 47, 3) := by decide +kernel
theorem dX4_readText_253 : decode cX4_readText 253 = .ok (.aload_n 0, 1) := by decide +kernel
theorem dX4_readText_254 : decode cX4_readText 254 = .ok (.aload_n 0, 1) := by decide +kernel
theorem dX4_readText_255 : decode cX4_readText 255 = .ok (.getfield 56, 3) := by decide +kernel
theorem dX4_readText_258 : decode cX4_readText 258 = .ok (.putfield 50, 3) := by decide +kernel
theorem dX4_readText_261 : decode cX4_readText 261 = .ok (.aload_n 0, 1) := by decide +kernel
theorem dX4_readText_262 : decode cX4_readText 262 = .ok (.getfield 47, 3) := by decide +kernel
theorem dX4_readText_265 : decode cX4_readText 265 = .ok (.ireturn, 1) := by decide +kernel
theorem b_X4_readText (mm : MM) (Q : Value → MM → Prop) (h : ∃ Pm1 : Value → MM → Prop, Runs e_X4_begin [.ref 1] mm Pm1 ∧ ∀ m1, Pm1 .null m1 → (G e_X4_readText 6 [(0, .ref 1), (1, .int (0 : Int32))] [] m1 Q)) : Runs e_X4_readText [.ref 1] mm Q := by
  refine runs_of_G (L := [(0, .ref 1)]) pl_X4 (Nat.le_of_ble_eq_true rfl) rfl ?_
  refine g_aload_n (pc := 0) (x := 1) dX4_readText_0 rfl ?_
  obtain ⟨Pm1, hRm1, h⟩ := h
  refine g_callV (pc := 1) (as := []) dX4_readText_1 cw_X4_85 (by decide) rfl rfl sh_1 (Nat.le_of_ble_eq_true rfl) hRm1 ?_
  intro r_ m1 hz_ hp_
  obtain rfl := hz_
  have h := h m1 hp_
  refine g_iconst (pc := 4) (v := (0 : Int32)) dX4_readText_4 (by decide) ?_
  refine g_istore_n (pc := 5) (L' := [(0, .ref 1), (1, .int (0 : Int32))]) dX4_readText_5 (Nat.le_of_ble_eq_true rfl) rfl ?_
  exact h
theorem dX4_kind_0 : decode cX4_kind 0 = .ok (.aload_n 0, 1) := by decide +kernel
theorem dX4_kind_1 : decode cX4_kind 1 = .ok (.getfield 43, 3) := by decide +kernel
theorem dX4_kind_4 : decode cX4_kind 4 = .ok (.ifCond .lt 32, 3) := by decide +kernel
theorem dX4_kind_7 : decode cX4_kind 7 = .ok (.aload_n 0, 1) := by decide +kernel
theorem dX4_kind_8 : decode cX4_kind 8 = .ok (.getfield 43, 3) := by decide +kernel
theorem dX4_kind_11 : decode cX4_kind 11 = .ok (.aload_n 0, 1) := by decide +kernel
theorem dX4_kind_12 : decode cX4_kind 12 = .ok (.getfield 25, 3) := by decide +kernel
theorem dX4_kind_15 : decode cX4_kind 15 = .ok (.getfield 283, 3) := by decide +kernel
theorem dX4_kind_18 : decode cX4_kind 18 = .ok (.if_icmp .ge 18, 3) := by decide +kernel
theorem dX4_kind_21 : decode cX4_kind 21 = .ok (.aload_n 0, 1) := by decide +kernel
theorem dX4_kind_22 : decode cX4_kind 22 = .ok (.getfield 25, 3) := by decide +kernel
theorem dX4_kind_25 : decode cX4_kind 25 = .ok (.getfield 289, 3) := by decide +kernel
theorem dX4_kind_28 : decode cX4_kind 28 = .ok (.aload_n 0, 1) := by decide +kernel
theorem dX4_kind_29 : decode cX4_kind 29 = .ok (.getfield 43, 3) := by decide +kernel
theorem dX4_kind_32 : decode cX4_kind 32 = .ok (.iaload, 1) := by decide +kernel
theorem dX4_kind_33 : decode cX4_kind 33 = .ok (.goto 5, 3) := by decide +kernel
theorem dX4_kind_36 : decode cX4_kind 36 = .ok (.bipush 40, 2) := by decide +kernel
theorem dX4_kind_38 : decode cX4_kind 38 = .ok (.ireturn, 1) := by decide +kernel
def o_X4_kind (mm : MM) : Prop := ((mm.1 1 6) < 0 → (True)) ∧ (¬ (mm.1 1 6) < 0 → (((mm.1 5 5) ≤ (mm.1 1 6) → (True)) ∧ (¬ (mm.1 5 5) ≤ (mm.1 1 6) → (vp_in (mm.1 1 6) 401 ∧ (True)))))
noncomputable def v_X4_kind (mm : MM) : Int32 := (cite ((mm.1 1 6) < 0) (40 : Int32) (cite ((mm.1 5 5) ≤ (mm.1 1 6)) (40 : Int32) (mm.1 7 (mm.1 1 6).toNatClampNeg)))
theorem rv_X4_kind (mm : MM) (h : o_X4_kind mm) : Runs e_X4_kind [.ref 1] mm (fun r m_ => r = .int (v_X4_kind mm) ∧ mm = m_) := by
  refine runs_of_G (L := [(0, .ref 1)]) pl_X4 (Nat.le_of_ble_eq_true rfl) rfl ?_
  unfold o_X4_kind at h
  refine g_aload_n (pc := 0) (x := 1) dX4_kind_0 rfl ?_
  refine g_getI (pc := 1) dX4_kind_1 fo_X4_43 sh_1 rfl ?_
  refine g_if_lt (pc := 4) (tgt := 36) dX4_kind_4 (by decide) (fun c4 => ?_) (fun c4 => ?_)
  · have c4_0 : (mm.1 1 6) < 0 := c4
    have h := h.1 c4
    refine g_bipush (pc := 36) (v := (40 : Int32)) dX4_kind_36 (by decide) ?_
    exact g_iret (pc := 38) dX4_kind_38 rfl rfl rfl ⟨(by unfold v_X4_kind; rw [cite_pos c4_0] <;> rfl), rfl⟩
  · have c4_0 : ¬ (mm.1 1 6) < 0 := c4
    have h := h.2 c4
    refine g_aload_n (pc := 7) (x := 1) dX4_kind_7 rfl ?_
    refine g_getI (pc := 8) dX4_kind_8 fo_X4_43 sh_1 rfl ?_
    refine g_aload_n (pc := 11) (x := 1) dX4_kind_11 rfl ?_
    refine g_getR (pc := 12) (dd := 4) dX4_kind_12 fo_X4_25 sh_1 rfl ?_
    refine g_getI (pc := 15) dX4_kind_15 fo_X4_283 sh_5 rfl ?_
    refine g_icmp_ge (pc := 18) (tgt := 36) dX4_kind_18 (by decide) (fun c18 => ?_) (fun c18 => ?_)
    · have c18_1 : (mm.1 5 5) ≤ (mm.1 1 6) := c18
      have h := h.1 c18
      refine g_bipush (pc := 36) (v := (40 : Int32)) dX4_kind_36 (by decide) ?_
      exact g_iret (pc := 38) dX4_kind_38 rfl rfl rfl ⟨(by unfold v_X4_kind; rw [cite_neg c4_0, cite_pos c18_1] <;> rfl), rfl⟩
    · have c18_1 : ¬ (mm.1 5 5) ≤ (mm.1 1 6) := c18
      have h := h.2 c18
      refine g_aload_n (pc := 21) (x := 1) dX4_kind_21 rfl ?_
      refine g_getR (pc := 22) (dd := 4) dX4_kind_22 fo_X4_25 sh_1 rfl ?_
      refine g_getR (pc := 25) (dd := 2) dX4_kind_25 fo_X4_289 sh_5 rfl ?_
      refine g_aload_n (pc := 28) (x := 1) dX4_kind_28 rfl ?_
      refine g_getI (pc := 29) dX4_kind_29 fo_X4_43 sh_1 rfl ?_
      refine g_iaload (pc := 32) dX4_kind_32 sh_7 h.1 ?_
      have h := h.2
      refine g_goto (pc := 33) (tgt := 38) dX4_kind_33 (by decide) ?_
      exact g_iret (pc := 38) dX4_kind_38 rfl rfl rfl ⟨(by unfold v_X4_kind; rw [cite_neg c4_0, cite_neg c18_1] <;> rfl), rfl⟩
theorem b_X4_readText_6 (mm : MM) (Q : Value → MM → Prop) (l1 : Int32) (h : ((400 : Int32) < l1 → ((¬ (mm.1 1 7) = 0 → (Q (.int (mm.1 1 7)) mm)) ∧ ((mm.1 1 7) = 0 → (((mm.1 1 9) = 0 → (Q (.int (mm.1 1 7)) mm)) ∧ (¬ (mm.1 1 9) = 0 → (Q (.int ((wI (wI mm 1 7 (mm.1 1 9)) 1 8 ((wI mm 1 7 (mm.1 1 9)).1 1 10)).1 1 7)) (wI (wI mm 1 7 (mm.1 1 9)) 1 8 ((wI mm 1 7 (mm.1 1 9)).1 1 10)))))))) ∧ (¬ (400 : Int32) < l1 → ((¬ (mm.1 1 7) = 0 → ((¬ (mm.1 1 7) = 0 → (Q (.int (mm.1 1 7)) mm)) ∧ ((mm.1 1 7) = 0 → (((mm.1 1 9) = 0 → (Q (.int (mm.1 1 7)) mm)) ∧ (¬ (mm.1 1 9) = 0 → (Q (.int ((wI (wI mm 1 7 (mm.1 1 9)) 1 8 ((wI mm 1 7 (mm.1 1 9)).1 1 10)).1 1 7)) (wI (wI mm 1 7 (mm.1 1 9)) 1 8 ((wI mm 1 7 (mm.1 1 9)).1 1 10)))))))) ∧ ((mm.1 1 7) = 0 → (o_X4_kind mm ∧ (((v_X4_kind mm) = (40 : Int32) → ((¬ (mm.1 1 7) = 0 → (Q (.int (mm.1 1 7)) mm)) ∧ ((mm.1 1 7) = 0 → (((mm.1 1 9) = 0 → (Q (.int (mm.1 1 7)) mm)) ∧ (¬ (mm.1 1 9) = 0 → (Q (.int ((wI (wI mm 1 7 (mm.1 1 9)) 1 8 ((wI mm 1 7 (mm.1 1 9)).1 1 10)).1 1 7)) (wI (wI mm 1 7 (mm.1 1 9)) 1 8 ((wI mm 1 7 (mm.1 1 9)).1 1 10)))))))) ∧ (¬ (v_X4_kind mm) = (40 : Int32) → (o_X4_kind mm ∧ (((v_X4_kind mm) = (0 : Int32) → (∃ Pm1 : Value → MM → Prop, Runs e_X4_readHouse [.ref 1] mm Pm1 ∧ ∀ m1, Pm1 .null m1 → (G e_X4_readText 6 [(0, .ref 1), (1, .int (l1 + (1 : Int32)))] [] m1 Q))) ∧ (¬ (v_X4_kind mm) = (0 : Int32) → (((v_X4_kind mm) = (1 : Int32) → (∃ Pm1 : Value → MM → Prop, Runs e_X4_readOffice [.ref 1] mm Pm1 ∧ ∀ m1, Pm1 .null m1 → (G e_X4_readText 6 [(0, .ref 1), (1, .int (l1 + (1 : Int32)))] [] m1 Q))) ∧ (¬ (v_X4_kind mm) = (1 : Int32) → (((v_X4_kind mm) = (2 : Int32) → (∃ Pm1 : Value → MM → Prop, Runs e_X4_readIn [.ref 1] mm Pm1 ∧ ∀ m1, Pm1 .null m1 → (G e_X4_readText 6 [(0, .ref 1), (1, .int (l1 + (1 : Int32)))] [] m1 Q))) ∧ (¬ (v_X4_kind mm) = (2 : Int32) → (((v_X4_kind mm) = (3 : Int32) → (∃ Pm1 : Value → MM → Prop, Runs e_X4_readStair [.ref 1] mm Pm1 ∧ ∀ m1, Pm1 .null m1 → (G e_X4_readText 6 [(0, .ref 1), (1, .int (l1 + (1 : Int32)))] [] m1 Q))) ∧ (¬ (v_X4_kind mm) = (3 : Int32) → (((v_X4_kind mm) = (4 : Int32) → (∃ Pm1 : Value → MM → Prop, Runs e_X4_readQuay [.ref 1] mm Pm1 ∧ ∀ m1, Pm1 .null m1 → (G e_X4_readText 6 [(0, .ref 1), (1, .int (l1 + (1 : Int32)))] [] m1 Q))) ∧ (¬ (v_X4_kind mm) = (4 : Int32) → (((v_X4_kind mm) = (5 : Int32) → (∃ Pm1 : Value → MM → Prop, Runs e_X4_readWood [.ref 1] mm Pm1 ∧ ∀ m1, Pm1 .null m1 → (G e_X4_readText 6 [(0, .ref 1), (1, .int (l1 + (1 : Int32)))] [] m1 Q))) ∧ (¬ (v_X4_kind mm) = (5 : Int32) → (((v_X4_kind mm) = (6 : Int32) → (AtTown (mm.2.2 1 4) ∧ (∃ Pm2 : Value → MM → Prop, Runs e_X4_readLone [.ref 1, .int (v_X4_kind mm), .int (9 : Int32)] mm Pm2 ∧ ∀ (r2 : Int32) (m2 : MM), Pm2 (.int r2) m2 → (G e_X4_readText 6 [(0, .ref 1), (1, .int (l1 + (1 : Int32)))] [] (wI m2 (mm.2.2 1 4) 14 r2) Q)))) ∧ (¬ (v_X4_kind mm) = (6 : Int32) → (((v_X4_kind mm) = (7 : Int32) → (AtTown (mm.2.2 1 4) ∧ (∃ Pm2 : Value → MM → Prop, Runs e_X4_readLone [.ref 1, .int (v_X4_kind mm), .int (99 : Int32)] mm Pm2 ∧ ∀ (r2 : Int32) (m2 : MM), Pm2 (.int r2) m2 → (G e_X4_readText 6 [(0, .ref 1), (1, .int (l1 + (1 : Int32)))] [] (wI m2 (mm.2.2 1 4) 15 r2) Q)))) ∧ (¬ (v_X4_kind mm) = (7 : Int32) → (((v_X4_kind mm) = (8 : Int32) → (AtTown (mm.2.2 1 4) ∧ (∃ Pm2 : Value → MM → Prop, Runs e_X4_readRule [.ref 1, .int (v_X4_kind mm), .int (mm.1 ((mm.2.2 1 4) + 8) 11)] mm Pm2 ∧ ∀ m2, Pm2 .null m2 → (G e_X4_readText 6 [(0, .ref 1), (1, .int (l1 + (1 : Int32)))] [] m2 Q)))) ∧ (¬ (v_X4_kind mm) = (8 : Int32) → (((v_X4_kind mm) = (9 : Int32) → (AtTown (mm.2.2 1 4) ∧ (∃ Pm2 : Value → MM → Prop, Runs e_X4_readRule [.ref 1, .int (v_X4_kind mm), .int (mm.1 ((mm.2.2 1 4) + 8) 12)] mm Pm2 ∧ ∀ m2, Pm2 .null m2 → (G e_X4_readText 6 [(0, .ref 1), (1, .int (l1 + (1 : Int32)))] [] m2 Q)))) ∧ (¬ (v_X4_kind mm) = (9 : Int32) → (((v_X4_kind mm) = (10 : Int32) → (∃ Pm1 : Value → MM → Prop, Runs e_X4_readLaw [.ref 1, .int (v_X4_kind mm)] mm Pm1 ∧ ∀ m1, Pm1 .null m1 → (G e_X4_readText 6 [(0, .ref 1), (1, .int (l1 + (1 : Int32)))] [] m1 Q))) ∧ (¬ (v_X4_kind mm) = (10 : Int32) → (((v_X4_kind mm) = (11 : Int32) → (∃ Pm1 : Value → MM → Prop, Runs e_X4_readLaw [.ref 1, .int (v_X4_kind mm)] mm Pm1 ∧ ∀ m1, Pm1 .null m1 → (G e_X4_readText 6 [(0, .ref 1), (1, .int (l1 + (1 : Int32)))] [] m1 Q))) ∧ (¬ (v_X4_kind mm) = (11 : Int32) → (((v_X4_kind mm) = (12 : Int32) → (∃ Pm1 : Value → MM → Prop, Runs e_X4_readLaw [.ref 1, .int (v_X4_kind mm)] mm Pm1 ∧ ∀ m1, Pm1 .null m1 → (G e_X4_readText 6 [(0, .ref 1), (1, .int (l1 + (1 : Int32)))] [] m1 Q))) ∧ (¬ (v_X4_kind mm) = (12 : Int32) → (∃ Pm1 : Value → MM → Prop, Runs e_X4_fail [.ref 1, .int (1 : Int32)] mm Pm1 ∧ ∀ m1, Pm1 .null m1 → (G e_X4_readText 6 [(0, .ref 1), (1, .int (l1 + (1 : Int32)))] [] m1 Q)))))))))))))))))))))))))))))))))))) : G e_X4_readText 6 [(0, .ref 1), (1, .int l1)] [] mm Q := by
  refine g_iload_n (pc := 6) (x := l1) dX4_readText_6 rfl ?_
  refine g_sipush (pc := 7) (v := (400 : Int32)) dX4_readText_7 (by decide) ?_
  refine g_icmp_gt (pc := 10) (tgt := 231) dX4_readText_10 (by decide) (fun c10 => ?_) (fun c10 => ?_)
  · have h := h.1 c10
    refine g_aload_n (pc := 231) (x := 1) dX4_readText_231 rfl ?_
    refine g_getI (pc := 232) dX4_readText_232 fo_X4_47 sh_1 rfl ?_
    refine g_if_ne (pc := 235) (tgt := 261) dX4_readText_235 (by decide) (fun c235 => ?_) (fun c235 => ?_)
    · have h := h.1 c235
      refine g_aload_n (pc := 261) (x := 1) dX4_readText_261 rfl ?_
      refine g_getI (pc := 262) dX4_readText_262 fo_X4_47 sh_1 rfl ?_
      exact g_iret (pc := 265) dX4_readText_265 rfl rfl rfl h
    · have h := h.2 c235
      refine g_aload_n (pc := 238) (x := 1) dX4_readText_238 rfl ?_
      refine g_getI (pc := 239) dX4_readText_239 fo_X4_53 sh_1 rfl ?_
      refine g_if_eq (pc := 242) (tgt := 261) dX4_readText_242 (by decide) (fun c242 => ?_) (fun c242 => ?_)
      · have h := h.1 c242
        refine g_aload_n (pc := 261) (x := 1) dX4_readText_261 rfl ?_
        refine g_getI (pc := 262) dX4_readText_262 fo_X4_47 sh_1 rfl ?_
        exact g_iret (pc := 265) dX4_readText_265 rfl rfl rfl h
      · have h := h.2 c242
        refine g_aload_n (pc := 245) (x := 1) dX4_readText_245 rfl ?_
        refine g_aload_n (pc := 246) (x := 1) dX4_readText_246 rfl ?_
        refine g_getI (pc := 247) dX4_readText_247 fo_X4_53 sh_1 rfl ?_
        refine g_putI (pc := 250) dX4_readText_250 fo_X4_47 sh_1 rfl rfl rfl ?_
        refine g_aload_n (pc := 253) (x := 1) dX4_readText_253 rfl ?_
        refine g_aload_n (pc := 254) (x := 1) dX4_readText_254 rfl ?_
        refine g_getI (pc := 255) dX4_readText_255 fo_X4_56 sh_1 rfl ?_
        refine g_putI (pc := 258) dX4_readText_258 fo_X4_50 sh_1 rfl rfl rfl ?_
        refine g_aload_n (pc := 261) (x := 1) dX4_readText_261 rfl ?_
        refine g_getI (pc := 262) dX4_readText_262 fo_X4_47 sh_1 rfl ?_
        exact g_iret (pc := 265) dX4_readText_265 rfl rfl rfl h
  · have h := h.2 c10
    refine g_aload_n (pc := 13) (x := 1) dX4_readText_13 rfl ?_
    refine g_getI (pc := 14) dX4_readText_14 fo_X4_47 sh_1 rfl ?_
    refine g_if_ne (pc := 17) (tgt := 231) dX4_readText_17 (by decide) (fun c17 => ?_) (fun c17 => ?_)
    · have h := h.1 c17
      refine g_aload_n (pc := 231) (x := 1) dX4_readText_231 rfl ?_
      refine g_getI (pc := 232) dX4_readText_232 fo_X4_47 sh_1 rfl ?_
      refine g_if_ne (pc := 235) (tgt := 261) dX4_readText_235 (by decide) (fun c235 => ?_) (fun c235 => ?_)
      · have h := h.1 c235
        refine g_aload_n (pc := 261) (x := 1) dX4_readText_261 rfl ?_
        refine g_getI (pc := 262) dX4_readText_262 fo_X4_47 sh_1 rfl ?_
        exact g_iret (pc := 265) dX4_readText_265 rfl rfl rfl h
      · have h := h.2 c235
        refine g_aload_n (pc := 238) (x := 1) dX4_readText_238 rfl ?_
        refine g_getI (pc := 239) dX4_readText_239 fo_X4_53 sh_1 rfl ?_
        refine g_if_eq (pc := 242) (tgt := 261) dX4_readText_242 (by decide) (fun c242 => ?_) (fun c242 => ?_)
        · have h := h.1 c242
          refine g_aload_n (pc := 261) (x := 1) dX4_readText_261 rfl ?_
          refine g_getI (pc := 262) dX4_readText_262 fo_X4_47 sh_1 rfl ?_
          exact g_iret (pc := 265) dX4_readText_265 rfl rfl rfl h
        · have h := h.2 c242
          refine g_aload_n (pc := 245) (x := 1) dX4_readText_245 rfl ?_
          refine g_aload_n (pc := 246) (x := 1) dX4_readText_246 rfl ?_
          refine g_getI (pc := 247) dX4_readText_247 fo_X4_53 sh_1 rfl ?_
          refine g_putI (pc := 250) dX4_readText_250 fo_X4_47 sh_1 rfl rfl rfl ?_
          refine g_aload_n (pc := 253) (x := 1) dX4_readText_253 rfl ?_
          refine g_aload_n (pc := 254) (x := 1) dX4_readText_254 rfl ?_
          refine g_getI (pc := 255) dX4_readText_255 fo_X4_56 sh_1 rfl ?_
          refine g_putI (pc := 258) dX4_readText_258 fo_X4_50 sh_1 rfl rfl rfl ?_
          refine g_aload_n (pc := 261) (x := 1) dX4_readText_261 rfl ?_
          refine g_getI (pc := 262) dX4_readText_262 fo_X4_47 sh_1 rfl ?_
          exact g_iret (pc := 265) dX4_readText_265 rfl rfl rfl h
    · have h := h.2 c17
      refine g_aload_n (pc := 20) (x := 1) dX4_readText_20 rfl ?_
      refine g_callV (pc := 21) (as := []) dX4_readText_21 cw_X4_88 (by decide) rfl rfl sh_1 (Nat.le_of_ble_eq_true rfl) (rv_X4_kind mm h.1) ?_
      have h := h.2
      rintro r_ m_ hz_ ⟨rfl, rfl⟩
      refine g_bipush (pc := 24) (v := (40 : Int32)) dX4_readText_24 (by decide) ?_
      refine g_icmp_eq (pc := 26) (tgt := 231) dX4_readText_26 (by decide) (fun c26 => ?_) (fun c26 => ?_)
      · have h := h.1 c26
        refine g_aload_n (pc := 231) (x := 1) dX4_readText_231 rfl ?_
        refine g_getI (pc := 232) dX4_readText_232 fo_X4_47 sh_1 rfl ?_
        refine g_if_ne (pc := 235) (tgt := 261) dX4_readText_235 (by decide) (fun c235 => ?_) (fun c235 => ?_)
        · have h := h.1 c235
          refine g_aload_n (pc := 261) (x := 1) dX4_readText_261 rfl ?_
          refine g_getI (pc := 262) dX4_readText_262 fo_X4_47 sh_1 rfl ?_
          exact g_iret (pc := 265) dX4_readText_265 rfl rfl rfl h
        · have h := h.2 c235
          refine g_aload_n (pc := 238) (x := 1) dX4_readText_238 rfl ?_
          refine g_getI (pc := 239) dX4_readText_239 fo_X4_53 sh_1 rfl ?_
          refine g_if_eq (pc := 242) (tgt := 261) dX4_readText_242 (by decide) (fun c242 => ?_) (fun c242 => ?_)
          · have h := h.1 c242
            refine g_aload_n (pc := 261) (x := 1) dX4_readText_261 rfl ?_
            refine g_getI (pc := 262) dX4_readText_262 fo_X4_47 sh_1 rfl ?_
            exact g_iret (pc := 265) dX4_readText_265 rfl rfl rfl h
          · have h := h.2 c242
            refine g_aload_n (pc := 245) (x := 1) dX4_readText_245 rfl ?_
            refine g_aload_n (pc := 246) (x := 1) dX4_readText_246 rfl ?_
            refine g_getI (pc := 247) dX4_readText_247 fo_X4_53 sh_1 rfl ?_
            refine g_putI (pc := 250) dX4_readText_250 fo_X4_47 sh_1 rfl rfl rfl ?_
            refine g_aload_n (pc := 253) (x := 1) dX4_readText_253 rfl ?_
            refine g_aload_n (pc := 254) (x := 1) dX4_readText_254 rfl ?_
            refine g_getI (pc := 255) dX4_readText_255 fo_X4_56 sh_1 rfl ?_
            refine g_putI (pc := 258) dX4_readText_258 fo_X4_50 sh_1 rfl rfl rfl ?_
            refine g_aload_n (pc := 261) (x := 1) dX4_readText_261 rfl ?_
            refine g_getI (pc := 262) dX4_readText_262 fo_X4_47 sh_1 rfl ?_
            exact g_iret (pc := 265) dX4_readText_265 rfl rfl rfl h
      · have h := h.2 c26
        refine g_aload_n (pc := 29) (x := 1) dX4_readText_29 rfl ?_
        refine g_callV (pc := 30) (as := []) dX4_readText_30 cw_X4_88 (by decide) rfl rfl sh_1 (Nat.le_of_ble_eq_true rfl) (rv_X4_kind mm h.1) ?_
        have h := h.2
        rintro r_ m_ hz_ ⟨rfl, rfl⟩
        refine g_istore_n (pc := 33) (L' := [(0, .ref 1), (1, .int l1), (2, .int (v_X4_kind mm))]) dX4_readText_33 (Nat.le_of_ble_eq_true rfl) rfl ?_
        refine g_iload_n (pc := 34) (x := (v_X4_kind mm)) dX4_readText_34 rfl ?_
        by_cases c35_0 : (v_X4_kind mm) = (0 : Int32)
        · have h := h.1 c35_0
          refine g_tsIn (pc := 35) (off := 65) (tgt := 100) dX4_readText_35 (by rw [c35_0]; decide) (by rw [c35_0]; decide) (by rw [c35_0]; rfl) (by decide) ?_
          refine g_aload_n (pc := 100) (x := 1) dX4_readText_100 rfl ?_
          obtain ⟨Pm1, hRm1, h⟩ := h
          refine g_callV (pc := 101) (as := []) dX4_readText_101 cw_X4_92 (by decide) rfl rfl sh_1 (Nat.le_of_ble_eq_true rfl) hRm1 ?_
          intro r_ m1 hz_ hp_
          obtain rfl := hz_
          have h := h m1 hp_
          refine g_goto (pc := 104) (tgt := 225) dX4_readText_104 (by decide) ?_
          refine g_iinc (pc := 225) (x := l1) (v := (l1 + (1 : Int32))) (L' := [(0, .ref 1), (1, .int (l1 + (1 : Int32))), (2, .int (v_X4_kind mm))]) dX4_readText_225 rfl rfl (Nat.le_of_ble_eq_true rfl) rfl ?_
          refine g_goto (pc := 228) (tgt := 6) dX4_readText_228 (by decide) ?_
          refine g_sub (L' := [(0, .ref 1), (1, .int (l1 + (1 : Int32)))]) [0, 1] rfl ?_
          exact h
        · have h := h.2 c35_0
          by_cases c35_1 : (v_X4_kind mm) = (1 : Int32)
          · have h := h.1 c35_1
            refine g_tsIn (pc := 35) (off := 72) (tgt := 107) dX4_readText_35 (by rw [c35_1]; decide) (by rw [c35_1]; decide) (by rw [c35_1]; rfl) (by decide) ?_
            refine g_aload_n (pc := 107) (x := 1) dX4_readText_107 rfl ?_
            obtain ⟨Pm1, hRm1, h⟩ := h
            refine g_callV (pc := 108) (as := []) dX4_readText_108 cw_X4_95 (by decide) rfl rfl sh_1 (Nat.le_of_ble_eq_true rfl) hRm1 ?_
            intro r_ m1 hz_ hp_
            obtain rfl := hz_
            have h := h m1 hp_
            refine g_goto (pc := 111) (tgt := 225) dX4_readText_111 (by decide) ?_
            refine g_iinc (pc := 225) (x := l1) (v := (l1 + (1 : Int32))) (L' := [(0, .ref 1), (1, .int (l1 + (1 : Int32))), (2, .int (v_X4_kind mm))]) dX4_readText_225 rfl rfl (Nat.le_of_ble_eq_true rfl) rfl ?_
            refine g_goto (pc := 228) (tgt := 6) dX4_readText_228 (by decide) ?_
            refine g_sub (L' := [(0, .ref 1), (1, .int (l1 + (1 : Int32)))]) [0, 1] rfl ?_
            exact h
          · have h := h.2 c35_1
            by_cases c35_2 : (v_X4_kind mm) = (2 : Int32)
            · have h := h.1 c35_2
              refine g_tsIn (pc := 35) (off := 79) (tgt := 114) dX4_readText_35 (by rw [c35_2]; decide) (by rw [c35_2]; decide) (by rw [c35_2]; rfl) (by decide) ?_
              refine g_aload_n (pc := 114) (x := 1) dX4_readText_114 rfl ?_
              obtain ⟨Pm1, hRm1, h⟩ := h
              refine g_callV (pc := 115) (as := []) dX4_readText_115 cw_X4_98 (by decide) rfl rfl sh_1 (Nat.le_of_ble_eq_true rfl) hRm1 ?_
              intro r_ m1 hz_ hp_
              obtain rfl := hz_
              have h := h m1 hp_
              refine g_goto (pc := 118) (tgt := 225) dX4_readText_118 (by decide) ?_
              refine g_iinc (pc := 225) (x := l1) (v := (l1 + (1 : Int32))) (L' := [(0, .ref 1), (1, .int (l1 + (1 : Int32))), (2, .int (v_X4_kind mm))]) dX4_readText_225 rfl rfl (Nat.le_of_ble_eq_true rfl) rfl ?_
              refine g_goto (pc := 228) (tgt := 6) dX4_readText_228 (by decide) ?_
              refine g_sub (L' := [(0, .ref 1), (1, .int (l1 + (1 : Int32)))]) [0, 1] rfl ?_
              exact h
            · have h := h.2 c35_2
              by_cases c35_3 : (v_X4_kind mm) = (3 : Int32)
              · have h := h.1 c35_3
                refine g_tsIn (pc := 35) (off := 86) (tgt := 121) dX4_readText_35 (by rw [c35_3]; decide) (by rw [c35_3]; decide) (by rw [c35_3]; rfl) (by decide) ?_
                refine g_aload_n (pc := 121) (x := 1) dX4_readText_121 rfl ?_
                obtain ⟨Pm1, hRm1, h⟩ := h
                refine g_callV (pc := 122) (as := []) dX4_readText_122 cw_X4_101 (by decide) rfl rfl sh_1 (Nat.le_of_ble_eq_true rfl) hRm1 ?_
                intro r_ m1 hz_ hp_
                obtain rfl := hz_
                have h := h m1 hp_
                refine g_goto (pc := 125) (tgt := 225) dX4_readText_125 (by decide) ?_
                refine g_iinc (pc := 225) (x := l1) (v := (l1 + (1 : Int32))) (L' := [(0, .ref 1), (1, .int (l1 + (1 : Int32))), (2, .int (v_X4_kind mm))]) dX4_readText_225 rfl rfl (Nat.le_of_ble_eq_true rfl) rfl ?_
                refine g_goto (pc := 228) (tgt := 6) dX4_readText_228 (by decide) ?_
                refine g_sub (L' := [(0, .ref 1), (1, .int (l1 + (1 : Int32)))]) [0, 1] rfl ?_
                exact h
              · have h := h.2 c35_3
                by_cases c35_4 : (v_X4_kind mm) = (4 : Int32)
                · have h := h.1 c35_4
                  refine g_tsIn (pc := 35) (off := 93) (tgt := 128) dX4_readText_35 (by rw [c35_4]; decide) (by rw [c35_4]; decide) (by rw [c35_4]; rfl) (by decide) ?_
                  refine g_aload_n (pc := 128) (x := 1) dX4_readText_128 rfl ?_
                  obtain ⟨Pm1, hRm1, h⟩ := h
                  refine g_callV (pc := 129) (as := []) dX4_readText_129 cw_X4_104 (by decide) rfl rfl sh_1 (Nat.le_of_ble_eq_true rfl) hRm1 ?_
                  intro r_ m1 hz_ hp_
                  obtain rfl := hz_
                  have h := h m1 hp_
                  refine g_goto (pc := 132) (tgt := 225) dX4_readText_132 (by decide) ?_
                  refine g_iinc (pc := 225) (x := l1) (v := (l1 + (1 : Int32))) (L' := [(0, .ref 1), (1, .int (l1 + (1 : Int32))), (2, .int (v_X4_kind mm))]) dX4_readText_225 rfl rfl (Nat.le_of_ble_eq_true rfl) rfl ?_
                  refine g_goto (pc := 228) (tgt := 6) dX4_readText_228 (by decide) ?_
                  refine g_sub (L' := [(0, .ref 1), (1, .int (l1 + (1 : Int32)))]) [0, 1] rfl ?_
                  exact h
                · have h := h.2 c35_4
                  by_cases c35_5 : (v_X4_kind mm) = (5 : Int32)
                  · have h := h.1 c35_5
                    refine g_tsIn (pc := 35) (off := 100) (tgt := 135) dX4_readText_35 (by rw [c35_5]; decide) (by rw [c35_5]; decide) (by rw [c35_5]; rfl) (by decide) ?_
                    refine g_aload_n (pc := 135) (x := 1) dX4_readText_135 rfl ?_
                    obtain ⟨Pm1, hRm1, h⟩ := h
                    refine g_callV (pc := 136) (as := []) dX4_readText_136 cw_X4_107 (by decide) rfl rfl sh_1 (Nat.le_of_ble_eq_true rfl) hRm1 ?_
                    intro r_ m1 hz_ hp_
                    obtain rfl := hz_
                    have h := h m1 hp_
                    refine g_goto (pc := 139) (tgt := 225) dX4_readText_139 (by decide) ?_
                    refine g_iinc (pc := 225) (x := l1) (v := (l1 + (1 : Int32))) (L' := [(0, .ref 1), (1, .int (l1 + (1 : Int32))), (2, .int (v_X4_kind mm))]) dX4_readText_225 rfl rfl (Nat.le_of_ble_eq_true rfl) rfl ?_
                    refine g_goto (pc := 228) (tgt := 6) dX4_readText_228 (by decide) ?_
                    refine g_sub (L' := [(0, .ref 1), (1, .int (l1 + (1 : Int32)))]) [0, 1] rfl ?_
                    exact h
                  · have h := h.2 c35_5
                    by_cases c35_6 : (v_X4_kind mm) = (6 : Int32)
                    · have h := h.1 c35_6
                      refine g_tsIn (pc := 35) (off := 107) (tgt := 142) dX4_readText_35 (by rw [c35_6]; decide) (by rw [c35_6]; decide) (by rw [c35_6]; rfl) (by decide) ?_
                      refine g_aload_n (pc := 142) (x := 1) dX4_readText_142 rfl ?_
                      refine g_getVt (pc := 143) (t := (mm.2.2 1 4)) dX4_readText_143 fo_X4_32 sh_1 rfl rfl ?_
                      have hr0 := h.1
                      have h := h.2
                      refine g_aload_n (pc := 146) (x := 1) dX4_readText_146 rfl ?_
                      refine g_iload_n (pc := 147) (x := (v_X4_kind mm)) dX4_readText_147 rfl ?_
                      refine g_bipush (pc := 148) (v := (9 : Int32)) dX4_readText_148 (by decide) ?_
                      obtain ⟨Pm2, hRm2, h⟩ := h
                      refine g_callV (pc := 150) (as := [.int (v_X4_kind mm), .int (9 : Int32)]) dX4_readText_150 cw_X4_110 (by decide) rfl rfl sh_1 (Nat.le_of_ble_eq_true rfl) hRm2 ?_
                      intro r_ m2 hz_ hp_
                      obtain ⟨r2, rfl⟩ := hz_
                      have h := h r2 m2 hp_
                      refine g_putI (pc := 153) dX4_readText_153 fo_X4_114 (AtTown_0 hr0) rfl rfl rfl ?_
                      refine g_goto (pc := 156) (tgt := 225) dX4_readText_156 (by decide) ?_
                      refine g_iinc (pc := 225) (x := l1) (v := (l1 + (1 : Int32))) (L' := [(0, .ref 1), (1, .int (l1 + (1 : Int32))), (2, .int (v_X4_kind mm))]) dX4_readText_225 rfl rfl (Nat.le_of_ble_eq_true rfl) rfl ?_
                      refine g_goto (pc := 228) (tgt := 6) dX4_readText_228 (by decide) ?_
                      refine g_sub (L' := [(0, .ref 1), (1, .int (l1 + (1 : Int32)))]) [0, 1] rfl ?_
                      exact h
                    · have h := h.2 c35_6
                      by_cases c35_7 : (v_X4_kind mm) = (7 : Int32)
                      · have h := h.1 c35_7
                        refine g_tsIn (pc := 35) (off := 124) (tgt := 159) dX4_readText_35 (by rw [c35_7]; decide) (by rw [c35_7]; decide) (by rw [c35_7]; rfl) (by decide) ?_
                        refine g_aload_n (pc := 159) (x := 1) dX4_readText_159 rfl ?_
                        refine g_getVt (pc := 160) (t := (mm.2.2 1 4)) dX4_readText_160 fo_X4_32 sh_1 rfl rfl ?_
                        have hr0 := h.1
                        have h := h.2
                        refine g_aload_n (pc := 163) (x := 1) dX4_readText_163 rfl ?_
                        refine g_iload_n (pc := 164) (x := (v_X4_kind mm)) dX4_readText_164 rfl ?_
                        refine g_bipush (pc := 165) (v := (99 : Int32)) dX4_readText_165 (by decide) ?_
                        obtain ⟨Pm2, hRm2, h⟩ := h
                        refine g_callV (pc := 167) (as := [.int (v_X4_kind mm), .int (99 : Int32)]) dX4_readText_167 cw_X4_110 (by decide) rfl rfl sh_1 (Nat.le_of_ble_eq_true rfl) hRm2 ?_
                        intro r_ m2 hz_ hp_
                        obtain ⟨r2, rfl⟩ := hz_
                        have h := h r2 m2 hp_
                        refine g_putI (pc := 170) dX4_readText_170 fo_X4_117 (AtTown_0 hr0) rfl rfl rfl ?_
                        refine g_goto (pc := 173) (tgt := 225) dX4_readText_173 (by decide) ?_
                        refine g_iinc (pc := 225) (x := l1) (v := (l1 + (1 : Int32))) (L' := [(0, .ref 1), (1, .int (l1 + (1 : Int32))), (2, .int (v_X4_kind mm))]) dX4_readText_225 rfl rfl (Nat.le_of_ble_eq_true rfl) rfl ?_
                        refine g_goto (pc := 228) (tgt := 6) dX4_readText_228 (by decide) ?_
                        refine g_sub (L' := [(0, .ref 1), (1, .int (l1 + (1 : Int32)))]) [0, 1] rfl ?_
                        exact h
                      · have h := h.2 c35_7
                        by_cases c35_8 : (v_X4_kind mm) = (8 : Int32)
                        · have h := h.1 c35_8
                          refine g_tsIn (pc := 35) (off := 149) (tgt := 184) dX4_readText_35 (by rw [c35_8]; decide) (by rw [c35_8]; decide) (by rw [c35_8]; rfl) (by decide) ?_
                          refine g_aload_n (pc := 184) (x := 1) dX4_readText_184 rfl ?_
                          refine g_iload_n (pc := 185) (x := (v_X4_kind mm)) dX4_readText_185 rfl ?_
                          refine g_aload_n (pc := 186) (x := 1) dX4_readText_186 rfl ?_
                          refine g_getVt (pc := 187) (t := (mm.2.2 1 4)) dX4_readText_187 fo_X4_32 sh_1 rfl rfl ?_
                          have hr0 := h.1
                          have h := h.2
                          refine g_getR (pc := 190) (dd := 8) dX4_readText_190 fo_X4_124 (AtTown_0 hr0) rfl ?_
                          refine g_getI (pc := 193) dX4_readText_193 fo_X4_128 (AtLaws_0 (AtTown.laws hr0)) rfl ?_
                          obtain ⟨Pm2, hRm2, h⟩ := h
                          refine g_callV (pc := 196) (as := [.int (v_X4_kind mm), .int (mm.1 ((mm.2.2 1 4) + 8) 11)]) dX4_readText_196 cw_X4_133 (by decide) rfl rfl sh_1 (Nat.le_of_ble_eq_true rfl) hRm2 ?_
                          intro r_ m2 hz_ hp_
                          obtain rfl := hz_
                          have h := h m2 hp_
                          refine g_goto (pc := 199) (tgt := 225) dX4_readText_199 (by decide) ?_
                          refine g_iinc (pc := 225) (x := l1) (v := (l1 + (1 : Int32))) (L' := [(0, .ref 1), (1, .int (l1 + (1 : Int32))), (2, .int (v_X4_kind mm))]) dX4_readText_225 rfl rfl (Nat.le_of_ble_eq_true rfl) rfl ?_
                          refine g_goto (pc := 228) (tgt := 6) dX4_readText_228 (by decide) ?_
                          refine g_sub (L' := [(0, .ref 1), (1, .int (l1 + (1 : Int32)))]) [0, 1] rfl ?_
                          exact h
                        · have h := h.2 c35_8
                          by_cases c35_9 : (v_X4_kind mm) = (9 : Int32)
                          · have h := h.1 c35_9
                            refine g_tsIn (pc := 35) (off := 167) (tgt := 202) dX4_readText_35 (by rw [c35_9]; decide) (by rw [c35_9]; decide) (by rw [c35_9]; rfl) (by decide) ?_
                            refine g_aload_n (pc := 202) (x := 1) dX4_readText_202 rfl ?_
                            refine g_iload_n (pc := 203) (x := (v_X4_kind mm)) dX4_readText_203 rfl ?_
                            refine g_aload_n (pc := 204) (x := 1) dX4_readText_204 rfl ?_
                            refine g_getVt (pc := 205) (t := (mm.2.2 1 4)) dX4_readText_205 fo_X4_32 sh_1 rfl rfl ?_
                            have hr0 := h.1
                            have h := h.2
                            refine g_getR (pc := 208) (dd := 8) dX4_readText_208 fo_X4_124 (AtTown_0 hr0) rfl ?_
                            refine g_getI (pc := 211) dX4_readText_211 fo_X4_137 (AtLaws_0 (AtTown.laws hr0)) rfl ?_
                            obtain ⟨Pm2, hRm2, h⟩ := h
                            refine g_callV (pc := 214) (as := [.int (v_X4_kind mm), .int (mm.1 ((mm.2.2 1 4) + 8) 12)]) dX4_readText_214 cw_X4_133 (by decide) rfl rfl sh_1 (Nat.le_of_ble_eq_true rfl) hRm2 ?_
                            intro r_ m2 hz_ hp_
                            obtain rfl := hz_
                            have h := h m2 hp_
                            refine g_goto (pc := 217) (tgt := 225) dX4_readText_217 (by decide) ?_
                            refine g_iinc (pc := 225) (x := l1) (v := (l1 + (1 : Int32))) (L' := [(0, .ref 1), (1, .int (l1 + (1 : Int32))), (2, .int (v_X4_kind mm))]) dX4_readText_225 rfl rfl (Nat.le_of_ble_eq_true rfl) rfl ?_
                            refine g_goto (pc := 228) (tgt := 6) dX4_readText_228 (by decide) ?_
                            refine g_sub (L' := [(0, .ref 1), (1, .int (l1 + (1 : Int32)))]) [0, 1] rfl ?_
                            exact h
                          · have h := h.2 c35_9
                            by_cases c35_10 : (v_X4_kind mm) = (10 : Int32)
                            · have h := h.1 c35_10
                              refine g_tsIn (pc := 35) (off := 141) (tgt := 176) dX4_readText_35 (by rw [c35_10]; decide) (by rw [c35_10]; decide) (by rw [c35_10]; rfl) (by decide) ?_
                              refine g_aload_n (pc := 176) (x := 1) dX4_readText_176 rfl ?_
                              refine g_iload_n (pc := 177) (x := (v_X4_kind mm)) dX4_readText_177 rfl ?_
                              obtain ⟨Pm1, hRm1, h⟩ := h
                              refine g_callV (pc := 178) (as := [.int (v_X4_kind mm)]) dX4_readText_178 cw_X4_120 (by decide) rfl rfl sh_1 (Nat.le_of_ble_eq_true rfl) hRm1 ?_
                              intro r_ m1 hz_ hp_
                              obtain rfl := hz_
                              have h := h m1 hp_
                              refine g_goto (pc := 181) (tgt := 225) dX4_readText_181 (by decide) ?_
                              refine g_iinc (pc := 225) (x := l1) (v := (l1 + (1 : Int32))) (L' := [(0, .ref 1), (1, .int (l1 + (1 : Int32))), (2, .int (v_X4_kind mm))]) dX4_readText_225 rfl rfl (Nat.le_of_ble_eq_true rfl) rfl ?_
                              refine g_goto (pc := 228) (tgt := 6) dX4_readText_228 (by decide) ?_
                              refine g_sub (L' := [(0, .ref 1), (1, .int (l1 + (1 : Int32)))]) [0, 1] rfl ?_
                              exact h
                            · have h := h.2 c35_10
                              by_cases c35_11 : (v_X4_kind mm) = (11 : Int32)
                              · have h := h.1 c35_11
                                refine g_tsIn (pc := 35) (off := 141) (tgt := 176) dX4_readText_35 (by rw [c35_11]; decide) (by rw [c35_11]; decide) (by rw [c35_11]; rfl) (by decide) ?_
                                refine g_aload_n (pc := 176) (x := 1) dX4_readText_176 rfl ?_
                                refine g_iload_n (pc := 177) (x := (v_X4_kind mm)) dX4_readText_177 rfl ?_
                                obtain ⟨Pm1, hRm1, h⟩ := h
                                refine g_callV (pc := 178) (as := [.int (v_X4_kind mm)]) dX4_readText_178 cw_X4_120 (by decide) rfl rfl sh_1 (Nat.le_of_ble_eq_true rfl) hRm1 ?_
                                intro r_ m1 hz_ hp_
                                obtain rfl := hz_
                                have h := h m1 hp_
                                refine g_goto (pc := 181) (tgt := 225) dX4_readText_181 (by decide) ?_
                                refine g_iinc (pc := 225) (x := l1) (v := (l1 + (1 : Int32))) (L' := [(0, .ref 1), (1, .int (l1 + (1 : Int32))), (2, .int (v_X4_kind mm))]) dX4_readText_225 rfl rfl (Nat.le_of_ble_eq_true rfl) rfl ?_
                                refine g_goto (pc := 228) (tgt := 6) dX4_readText_228 (by decide) ?_
                                refine g_sub (L' := [(0, .ref 1), (1, .int (l1 + (1 : Int32)))]) [0, 1] rfl ?_
                                exact h
                              · have h := h.2 c35_11
                                by_cases c35_12 : (v_X4_kind mm) = (12 : Int32)
                                · have h := h.1 c35_12
                                  refine g_tsIn (pc := 35) (off := 141) (tgt := 176) dX4_readText_35 (by rw [c35_12]; decide) (by rw [c35_12]; decide) (by rw [c35_12]; rfl) (by decide) ?_
                                  refine g_aload_n (pc := 176) (x := 1) dX4_readText_176 rfl ?_
                                  refine g_iload_n (pc := 177) (x := (v_X4_kind mm)) dX4_readText_177 rfl ?_
                                  obtain ⟨Pm1, hRm1, h⟩ := h
                                  refine g_callV (pc := 178) (as := [.int (v_X4_kind mm)]) dX4_readText_178 cw_X4_120 (by decide) rfl rfl sh_1 (Nat.le_of_ble_eq_true rfl) hRm1 ?_
                                  intro r_ m1 hz_ hp_
                                  obtain rfl := hz_
                                  have h := h m1 hp_
                                  refine g_goto (pc := 181) (tgt := 225) dX4_readText_181 (by decide) ?_
                                  refine g_iinc (pc := 225) (x := l1) (v := (l1 + (1 : Int32))) (L' := [(0, .ref 1), (1, .int (l1 + (1 : Int32))), (2, .int (v_X4_kind mm))]) dX4_readText_225 rfl rfl (Nat.le_of_ble_eq_true rfl) rfl ?_
                                  refine g_goto (pc := 228) (tgt := 6) dX4_readText_228 (by decide) ?_
                                  refine g_sub (L' := [(0, .ref 1), (1, .int (l1 + (1 : Int32)))]) [0, 1] rfl ?_
                                  exact h
                                · have h := h.2 c35_12
                                  refine g_tsOut (pc := 35) (tgt := 220) dX4_readText_35 (by have e0_ := ts_ne (k := 0) c35_0 (by decide); have e1_ := ts_ne (k := 1) c35_1 (by decide); have e2_ := ts_ne (k := 2) c35_2 (by decide); have e3_ := ts_ne (k := 3) c35_3 (by decide); have e4_ := ts_ne (k := 4) c35_4 (by decide); have e5_ := ts_ne (k := 5) c35_5 (by decide); have e6_ := ts_ne (k := 6) c35_6 (by decide); have e7_ := ts_ne (k := 7) c35_7 (by decide); have e8_ := ts_ne (k := 8) c35_8 (by decide); have e9_ := ts_ne (k := 9) c35_9 (by decide); have e10_ := ts_ne (k := 10) c35_10 (by decide); have e11_ := ts_ne (k := 11) c35_11 (by decide); have e12_ := ts_ne (k := 12) c35_12 (by decide); omega) (by decide) ?_
                                  refine g_aload_n (pc := 220) (x := 1) dX4_readText_220 rfl ?_
                                  refine g_iconst (pc := 221) (v := (1 : Int32)) dX4_readText_221 (by decide) ?_
                                  obtain ⟨Pm1, hRm1, h⟩ := h
                                  refine g_callV (pc := 222) (as := [.int (1 : Int32)]) dX4_readText_222 cw_X4_140 (by decide) rfl rfl sh_1 (Nat.le_of_ble_eq_true rfl) hRm1 ?_
                                  intro r_ m1 hz_ hp_
                                  obtain rfl := hz_
                                  have h := h m1 hp_
                                  refine g_iinc (pc := 225) (x := l1) (v := (l1 + (1 : Int32))) (L' := [(0, .ref 1), (1, .int (l1 + (1 : Int32))), (2, .int (v_X4_kind mm))]) dX4_readText_225 rfl rfl (Nat.le_of_ble_eq_true rfl) rfl ?_
                                  refine g_goto (pc := 228) (tgt := 6) dX4_readText_228 (by decide) ?_
                                  refine g_sub (L' := [(0, .ref 1), (1, .int (l1 + (1 : Int32)))]) [0, 1] rfl ?_
                                  exact h
theorem dX4_readLone_0 : decode cX4_readLone 0 = .ok (.aload_n 0, 1) := by decide +kernel
theorem dX4_readLone_1 : decode cX4_readLone 1 = .ok (.iload_n 1, 1) := by decide +kernel
theorem dX4_readLone_2 : decode cX4_readLone 2 = .ok (.invokevirtual 143, 3) := by decide +kernel
theorem dX4_readLone_5 : decode cX4_readLone 5 = .ok (.pop, 1) := by decide +kernel
theorem dX4_readLone_6 : decode cX4_readLone 6 = .ok (.aload_n 0, 1) := by decide +kernel
theorem dX4_readLone_7 : decode cX4_readLone 7 = .ok (.iconst 1, 1) := by decide +kernel
theorem dX4_readLone_8 : decode cX4_readLone 8 = .ok (.iload_n 2, 1) := by decide +kernel
theorem dX4_readLone_9 : decode cX4_readLone 9 = .ok (.invokevirtual 147, 3) := by decide +kernel
theorem dX4_readLone_12 : decode cX4_readLone 12 = .ok (.istore_n 3, 1) := by decide +kernel
theorem dX4_readLone_13 : decode cX4_readLone 13 = .ok (.aload_n 0, 1) := by decide +kernel
theorem dX4_readLone_14 : decode cX4_readLone 14 = .ok (.bipush 28, 2) := by decide +kernel
theorem dX4_readLone_16 : decode cX4_readLone 16 = .ok (.invokevirtual 143, 3) := by decide +kernel
theorem dX4_readLone_19 : decode cX4_readLone 19 = .ok (.pop, 1) := by decide +kernel
theorem dX4_readLone_20 : decode cX4_readLone 20 = .ok (.iload_n 3, 1) := by decide +kernel
theorem dX4_readLone_21 : decode cX4_readLone 21 = .ok (.ireturn, 1) := by decide +kernel
theorem b_X4_readLone (mm : MM) (Q : Value → MM → Prop) (a1 : Int32) (a2 : Int32) (h : ∃ Pm1 : Value → MM → Prop, Runs e_X4_take [.ref 1, .int a1] mm Pm1 ∧ (∀ r m1, Pm1 r m1 → r = .int 1 ∨ r = .int 0) ∧ (∀ m1, Pm1 (.int 1) m1 → (∃ Pm2 : Value → MM → Prop, Runs e_X4_readInt [.ref 1, .int (1 : Int32), .int a2] m1 Pm2 ∧ ∀ (r2 : Int32) (m2 : MM), Pm2 (.int r2) m2 → (∃ Pm3 : Value → MM → Prop, Runs e_X4_take [.ref 1, .int (28 : Int32)] m2 Pm3 ∧ (∀ r m3, Pm3 r m3 → r = .int 1 ∨ r = .int 0) ∧ (∀ m3, Pm3 (.int 1) m3 → (Q (.int r2) m3)) ∧ (∀ m3, Pm3 (.int 0) m3 → (Q (.int r2) m3))))) ∧ (∀ m1, Pm1 (.int 0) m1 → (∃ Pm2 : Value → MM → Prop, Runs e_X4_readInt [.ref 1, .int (1 : Int32), .int a2] m1 Pm2 ∧ ∀ (r2 : Int32) (m2 : MM), Pm2 (.int r2) m2 → (∃ Pm3 : Value → MM → Prop, Runs e_X4_take [.ref 1, .int (28 : Int32)] m2 Pm3 ∧ (∀ r m3, Pm3 r m3 → r = .int 1 ∨ r = .int 0) ∧ (∀ m3, Pm3 (.int 1) m3 → (Q (.int r2) m3)) ∧ (∀ m3, Pm3 (.int 0) m3 → (Q (.int r2) m3)))))) : Runs e_X4_readLone [.ref 1, .int a1, .int a2] mm Q := by
  refine runs_of_G (L := [(0, .ref 1), (1, .int a1), (2, .int a2)]) pl_X4 (Nat.le_of_ble_eq_true rfl) rfl ?_
  refine g_aload_n (pc := 0) (x := 1) dX4_readLone_0 rfl ?_
  refine g_iload_n (pc := 1) (x := a1) dX4_readLone_1 rfl ?_
  obtain ⟨Pm1, hRm1, h⟩ := h
  refine g_callV (pc := 2) (as := [.int a1]) dX4_readLone_2 cw_X4_143 (by decide) rfl rfl sh_1 (Nat.le_of_ble_eq_true rfl) hRm1 ?_
  intro r_ m1 hz_ hp_
  rcases h.1 r_ m1 hp_ with rfl | rfl
  · have h := h.2.1 m1 hp_
    refine g_pop (pc := 5) dX4_readLone_5 rfl ?_
    refine g_aload_n (pc := 6) (x := 1) dX4_readLone_6 rfl ?_
    refine g_iconst (pc := 7) (v := (1 : Int32)) dX4_readLone_7 (by decide) ?_
    refine g_iload_n (pc := 8) (x := a2) dX4_readLone_8 rfl ?_
    obtain ⟨Pm2, hRm2, h⟩ := h
    refine g_callV (pc := 9) (as := [.int (1 : Int32), .int a2]) dX4_readLone_9 cw_X4_147 (by decide) rfl rfl sh_1 (Nat.le_of_ble_eq_true rfl) hRm2 ?_
    intro r_ m2 hz_ hp_
    obtain ⟨r2, rfl⟩ := hz_
    have h := h r2 m2 hp_
    refine g_istore_n (pc := 12) (L' := [(0, .ref 1), (1, .int a1), (2, .int a2), (3, .int r2)]) dX4_readLone_12 (Nat.le_of_ble_eq_true rfl) rfl ?_
    refine g_aload_n (pc := 13) (x := 1) dX4_readLone_13 rfl ?_
    refine g_bipush (pc := 14) (v := (28 : Int32)) dX4_readLone_14 (by decide) ?_
    obtain ⟨Pm3, hRm3, h⟩ := h
    refine g_callV (pc := 16) (as := [.int (28 : Int32)]) dX4_readLone_16 cw_X4_143 (by decide) rfl rfl sh_1 (Nat.le_of_ble_eq_true rfl) hRm3 ?_
    intro r_ m3 hz_ hp_
    rcases h.1 r_ m3 hp_ with rfl | rfl
    · have h := h.2.1 m3 hp_
      refine g_pop (pc := 19) dX4_readLone_19 rfl ?_
      refine g_iload_n (pc := 20) (x := r2) dX4_readLone_20 rfl ?_
      exact g_iret (pc := 21) dX4_readLone_21 rfl rfl rfl h
    · have h := h.2.2 m3 hp_
      refine g_pop (pc := 19) dX4_readLone_19 rfl ?_
      refine g_iload_n (pc := 20) (x := r2) dX4_readLone_20 rfl ?_
      exact g_iret (pc := 21) dX4_readLone_21 rfl rfl rfl h
  · have h := h.2.2 m1 hp_
    refine g_pop (pc := 5) dX4_readLone_5 rfl ?_
    refine g_aload_n (pc := 6) (x := 1) dX4_readLone_6 rfl ?_
    refine g_iconst (pc := 7) (v := (1 : Int32)) dX4_readLone_7 (by decide) ?_
    refine g_iload_n (pc := 8) (x := a2) dX4_readLone_8 rfl ?_
    obtain ⟨Pm2, hRm2, h⟩ := h
    refine g_callV (pc := 9) (as := [.int (1 : Int32), .int a2]) dX4_readLone_9 cw_X4_147 (by decide) rfl rfl sh_1 (Nat.le_of_ble_eq_true rfl) hRm2 ?_
    intro r_ m2 hz_ hp_
    obtain ⟨r2, rfl⟩ := hz_
    have h := h r2 m2 hp_
    refine g_istore_n (pc := 12) (L' := [(0, .ref 1), (1, .int a1), (2, .int a2), (3, .int r2)]) dX4_readLone_12 (Nat.le_of_ble_eq_true rfl) rfl ?_
    refine g_aload_n (pc := 13) (x := 1) dX4_readLone_13 rfl ?_
    refine g_bipush (pc := 14) (v := (28 : Int32)) dX4_readLone_14 (by decide) ?_
    obtain ⟨Pm3, hRm3, h⟩ := h
    refine g_callV (pc := 16) (as := [.int (28 : Int32)]) dX4_readLone_16 cw_X4_143 (by decide) rfl rfl sh_1 (Nat.le_of_ble_eq_true rfl) hRm3 ?_
    intro r_ m3 hz_ hp_
    rcases h.1 r_ m3 hp_ with rfl | rfl
    · have h := h.2.1 m3 hp_
      refine g_pop (pc := 19) dX4_readLone_19 rfl ?_
      refine g_iload_n (pc := 20) (x := r2) dX4_readLone_20 rfl ?_
      exact g_iret (pc := 21) dX4_readLone_21 rfl rfl rfl h
    · have h := h.2.2 m3 hp_
      refine g_pop (pc := 19) dX4_readLone_19 rfl ?_
      refine g_iload_n (pc := 20) (x := r2) dX4_readLone_20 rfl ?_
      exact g_iret (pc := 21) dX4_readLone_21 rfl rfl rfl h
theorem dX4_readHouse_0 : decode cX4_readHouse 0 = .ok (.aload_n 0, 1) := by decide +kernel
theorem dX4_readHouse_1 : decode cX4_readHouse 1 = .ok (.getfield 32, 3) := by decide +kernel
theorem dX4_readHouse_4 : decode cX4_readHouse 4 = .ok (.getfield 150, 3) := by decide +kernel
theorem dX4_readHouse_7 : decode cX4_readHouse 7 = .ok (.istore_n 1, 1) := by decide +kernel
theorem dX4_readHouse_8 : decode cX4_readHouse 8 = .ok (.aload_n 0, 1) := by decide +kernel
theorem dX4_readHouse_9 : decode cX4_readHouse 9 = .ok (.iconst 0, 1) := by decide +kernel
theorem dX4_readHouse_10 : decode cX4_readHouse 10 = .ok (.iload_n 1, 1) := by decide +kernel
theorem dX4_readHouse_11 : decode cX4_readHouse 11 = .ok (.bipush 16, 2) := by decide +kernel
theorem dX4_readHouse_13 : decode cX4_readHouse 13 = .ok (.invokevirtual 153, 3) := by decide +kernel
theorem dX4_readHouse_16 : decode cX4_readHouse 16 = .ok (.ifCond .ne 4, 3) := by decide +kernel
theorem dX4_readHouse_19 : decode cX4_readHouse 19 = .ok (.return_, 1) := by decide +kernel
theorem dX4_readHouse_20 : decode cX4_readHouse 20 = .ok (.aload_n 0, 1) := by decide +kernel
theorem dX4_readHouse_21 : decode cX4_readHouse 21 = .ok (.iload_n 1, 1) := by decide +kernel
theorem dX4_readHouse_22 : decode cX4_readHouse 22 = .ok (.invokevirtual 157, 3) := by decide +kernel
theorem dX4_readHouse_25 : decode cX4_readHouse 25 = .ok (.aload_n 0, 1) := by decide +kernel
theorem dX4_readHouse_26 : decode cX4_readHouse 26 = .ok (.getfield 32, 3) := by decide +kernel
theorem dX4_readHouse_29 : decode cX4_readHouse 29 = .ok (.getfield 160, 3) := by decide +kernel
theorem dX4_readHouse_32 : decode cX4_readHouse 32 = .ok (.iload_n 1, 1) := by decide +kernel
theorem dX4_readHouse_33 : decode cX4_readHouse 33 = .ok (.aload_n 0, 1) := by decide +kernel
theorem dX4_readHouse_34 : decode cX4_readHouse 34 = .ok (.iconst 0, 1) := by decide +kernel
theorem dX4_readHouse_35 : decode cX4_readHouse 35 = .ok (.bipush 40, 2) := by decide +kernel
theorem dX4_readHouse_37 : decode cX4_readHouse 37 = .ok (.invokevirtual 147, 3) := by decide +kernel
theorem dX4_readHouse_40 : decode cX4_readHouse 40 = .ok (.iastore, 1) := by decide +kernel
theorem dX4_readHouse_41 : decode cX4_readHouse 41 = .ok (.aload_n 0, 1) := by decide +kernel
theorem dX4_readHouse_42 : decode cX4_readHouse 42 = .ok (.getfield 39, 3) := by decide +kernel
theorem dX4_readHouse_45 : decode cX4_readHouse 45 = .ok (.getfield 163, 3) := by decide +kernel
theorem dX4_readHouse_48 : decode cX4_readHouse 48 = .ok (.iload_n 1, 1) := by decide +kernel
theorem dX4_readHouse_49 : decode cX4_readHouse 49 = .ok (.aload_n 0, 1) := by decide +kernel
theorem dX4_readHouse_50 : decode cX4_readHouse 50 = .ok (.iconst 0, 1) := by decide +kernel
theorem dX4_readHouse_51 : decode cX4_readHouse 51 = .ok (.bipush 99, 2) := by decide +kernel
theorem dX4_readHouse_53 : decode cX4_readHouse 53 = .ok (.invokevirtual 147, 3) := by decide +kernel
theorem dX4_readHouse_56 : decode cX4_readHouse 56 = .ok (.iastore, 1) := by decide +kernel
theorem dX4_readHouse_57 : decode cX4_readHouse 57 = .ok (.aload_n 0, 1) := by decide +kernel
theorem dX4_readHouse_58 : decode cX4_readHouse 58 = .ok (.getfield 32, 3) := by decide +kernel
theorem dX4_readHouse_61 : decode cX4_readHouse 61 = .ok (.getfield 166, 3) := by decide +kernel
theorem dX4_readHouse_64 : decode cX4_readHouse 64 = .ok (.iload_n 1, 1) := by decide +kernel
theorem dX4_readHouse_65 : decode cX4_readHouse 65 = .ok (.aload_n 0, 1) := by decide +kernel
theorem dX4_readHouse_66 : decode cX4_readHouse 66 = .ok (.iconst 1, 1) := by decide +kernel
theorem dX4_readHouse_67 : decode cX4_readHouse 67 = .ok (.bipush 9, 2) := by decide +kernel
theorem dX4_readHouse_69 : decode cX4_readHouse 69 = .ok (.invokevirtual 147, 3) := by decide +kernel
theorem dX4_readHouse_72 : decode cX4_readHouse 72 = .ok (.iastore, 1) := by decide +kernel
theorem dX4_readHouse_73 : decode cX4_readHouse 73 = .ok (.aload_n 0, 1) := by decide +kernel
theorem dX4_readHouse_74 : decode cX4_readHouse 74 = .ok (.bipush 28, 2) := by decide +kernel
theorem dX4_readHouse_76 : decode cX4_readHouse 76 = .ok (.invokevirtual 143, 3) := by decide +kernel
theorem dX4_readHouse_79 : decode cX4_readHouse 79 = .ok (.pop, 1) := by decide +kernel
theorem dX4_readHouse_80 : decode cX4_readHouse 80 = .ok (.aload_n 0, 1) := by decide +kernel
theorem dX4_readHouse_81 : decode cX4_readHouse 81 = .ok (.getfield 32, 3) := by decide +kernel
theorem dX4_readHouse_84 : decode cX4_readHouse 84 = .ok (.dup, 1) := by decide +kernel
theorem dX4_readHouse_85 : decode cX4_readHouse 85 = .ok (.getfield 150, 3) := by decide +kernel
theorem dX4_readHouse_88 : decode cX4_readHouse 88 = .ok (.iconst 1, 1) := by decide +kernel
theorem dX4_readHouse_89 : decode cX4_readHouse 89 = .ok (.iadd, 1) := by decide +kernel
theorem dX4_readHouse_90 : decode cX4_readHouse 90 = .ok (.putfield 150, 3) := by decide +kernel
theorem dX4_readHouse_93 : decode cX4_readHouse 93 = .ok (.return_, 1) := by decide +kernel
theorem b_X4_readHouse (mm : MM) (Q : Value → MM → Prop) (h : AtTown (mm.2.2 1 4) ∧ (∃ Pm2 : Value → MM → Prop, Runs e_X4_takeFirst [.ref 1, .int (0 : Int32), .int (mm.1 (mm.2.2 1 4) 8), .int (16 : Int32)] mm Pm2 ∧ (∀ r m2, Pm2 r m2 → r = .int 1 ∨ r = .int 0) ∧ (∀ m2, Pm2 (.int 1) m2 → (∃ Pm3 : Value → MM → Prop, Runs e_X4_readNewName [.ref 1, .int (mm.1 (mm.2.2 1 4) 8)] m2 Pm3 ∧ ∀ m3, Pm3 .null m3 → (AtTown (m3.2.2 1 4) ∧ (∃ Pm5 : Value → MM → Prop, Runs e_X4_readInt [.ref 1, .int (0 : Int32), .int (40 : Int32)] m3 Pm5 ∧ ∀ (r5 : Int32) (m5 : MM), Pm5 (.int r5) m5 → (vp_in (mm.1 (mm.2.2 1 4) 8) 16 ∧ (AtState (m5.2.2 1 5) ∧ (∃ Pm7 : Value → MM → Prop, Runs e_X4_readInt [.ref 1, .int (0 : Int32), .int (99 : Int32)] (wI m5 ((m3.2.2 1 4) + 1) ((mm.1 (mm.2.2 1 4) 8).toNatClampNeg) r5) Pm7 ∧ ∀ (r7 : Int32) (m7 : MM), Pm7 (.int r7) m7 → (vp_in (mm.1 (mm.2.2 1 4) 8) 16 ∧ (AtTown (m7.2.2 1 4) ∧ (∃ Pm9 : Value → MM → Prop, Runs e_X4_readInt [.ref 1, .int (1 : Int32), .int (9 : Int32)] (wI m7 ((m5.2.2 1 5) + 1) ((mm.1 (mm.2.2 1 4) 8).toNatClampNeg) r7) Pm9 ∧ ∀ (r9 : Int32) (m9 : MM), Pm9 (.int r9) m9 → (vp_in (mm.1 (mm.2.2 1 4) 8) 16 ∧ (∃ Pm10 : Value → MM → Prop, Runs e_X4_take [.ref 1, .int (28 : Int32)] (wI m9 ((m7.2.2 1 4) + 2) ((mm.1 (mm.2.2 1 4) 8).toNatClampNeg) r9) Pm10 ∧ (∀ r m10, Pm10 r m10 → r = .int 1 ∨ r = .int 0) ∧ (∀ m10, Pm10 (.int 1) m10 → (AtTown (m10.2.2 1 4) ∧ (Q .null (wI m10 (m10.2.2 1 4) 8 ((m10.1 (m10.2.2 1 4) 8) + (1 : Int32)))))) ∧ (∀ m10, Pm10 (.int 0) m10 → (AtTown (m10.2.2 1 4) ∧ (Q .null (wI m10 (m10.2.2 1 4) 8 ((m10.1 (m10.2.2 1 4) 8) + (1 : Int32)))))))))))))))))) ∧ (∀ m2, Pm2 (.int 0) m2 → (Q .null m2)))) : Runs e_X4_readHouse [.ref 1] mm Q := by
  refine runs_of_G (L := [(0, .ref 1)]) pl_X4 (Nat.le_of_ble_eq_true rfl) rfl ?_
  refine g_aload_n (pc := 0) (x := 1) dX4_readHouse_0 rfl ?_
  refine g_getVt (pc := 1) (t := (mm.2.2 1 4)) dX4_readHouse_1 fo_X4_32 sh_1 rfl rfl ?_
  have hr0 := h.1
  have h := h.2
  refine g_getI (pc := 4) dX4_readHouse_4 fo_X4_150 (AtTown_0 hr0) rfl ?_
  refine g_istore_n (pc := 7) (L' := [(0, .ref 1), (1, .int (mm.1 (mm.2.2 1 4) 8))]) dX4_readHouse_7 (Nat.le_of_ble_eq_true rfl) rfl ?_
  refine g_aload_n (pc := 8) (x := 1) dX4_readHouse_8 rfl ?_
  refine g_iconst (pc := 9) (v := (0 : Int32)) dX4_readHouse_9 (by decide) ?_
  refine g_iload_n (pc := 10) (x := (mm.1 (mm.2.2 1 4) 8)) dX4_readHouse_10 rfl ?_
  refine g_bipush (pc := 11) (v := (16 : Int32)) dX4_readHouse_11 (by decide) ?_
  obtain ⟨Pm2, hRm2, h⟩ := h
  refine g_callV (pc := 13) (as := [.int (0 : Int32), .int (mm.1 (mm.2.2 1 4) 8), .int (16 : Int32)]) dX4_readHouse_13 cw_X4_153 (by decide) rfl rfl sh_1 (Nat.le_of_ble_eq_true rfl) hRm2 ?_
  intro r_ m2 hz_ hp_
  rcases h.1 r_ m2 hp_ with rfl | rfl
  · have h := h.2.1 m2 hp_
    refine g_if_ne (pc := 16) (tgt := 20) dX4_readHouse_16 (by decide) (fun _ => ?_) (fun c16 => absurd c16 (by decide))
    refine g_aload_n (pc := 20) (x := 1) dX4_readHouse_20 rfl ?_
    refine g_iload_n (pc := 21) (x := (mm.1 (mm.2.2 1 4) 8)) dX4_readHouse_21 rfl ?_
    obtain ⟨Pm3, hRm3, h⟩ := h
    refine g_callV (pc := 22) (as := [.int (mm.1 (mm.2.2 1 4) 8)]) dX4_readHouse_22 cw_X4_157 (by decide) rfl rfl sh_1 (Nat.le_of_ble_eq_true rfl) hRm3 ?_
    intro r_ m3 hz_ hp_
    obtain rfl := hz_
    have h := h m3 hp_
    refine g_aload_n (pc := 25) (x := 1) dX4_readHouse_25 rfl ?_
    refine g_getVt (pc := 26) (t := (m3.2.2 1 4)) dX4_readHouse_26 fo_X4_32 sh_1 rfl rfl ?_
    have hr3 := h.1
    have h := h.2
    refine g_getR (pc := 29) (dd := 1) dX4_readHouse_29 fo_X4_160 (AtTown_0 hr3) rfl ?_
    refine g_iload_n (pc := 32) (x := (mm.1 (mm.2.2 1 4) 8)) dX4_readHouse_32 rfl ?_
    refine g_aload_n (pc := 33) (x := 1) dX4_readHouse_33 rfl ?_
    refine g_iconst (pc := 34) (v := (0 : Int32)) dX4_readHouse_34 (by decide) ?_
    refine g_bipush (pc := 35) (v := (40 : Int32)) dX4_readHouse_35 (by decide) ?_
    obtain ⟨Pm5, hRm5, h⟩ := h
    refine g_callV (pc := 37) (as := [.int (0 : Int32), .int (40 : Int32)]) dX4_readHouse_37 cw_X4_147 (by decide) rfl rfl sh_1 (Nat.le_of_ble_eq_true rfl) hRm5 ?_
    intro r_ m5 hz_ hp_
    obtain ⟨r5, rfl⟩ := hz_
    have h := h r5 m5 hp_
    refine g_iastore (pc := 40) dX4_readHouse_40 (AtTown_1 hr3) h.1 ?_
    have h := h.2
    refine g_aload_n (pc := 41) (x := 1) dX4_readHouse_41 rfl ?_
    refine g_getVt (pc := 42) (t := (m5.2.2 1 5)) dX4_readHouse_42 fo_X4_39 sh_1 rfl rfl ?_
    have hr5 := h.1
    have h := h.2
    refine g_getR (pc := 45) (dd := 1) dX4_readHouse_45 fo_X4_163 (AtState_0 hr5) rfl ?_
    refine g_iload_n (pc := 48) (x := (mm.1 (mm.2.2 1 4) 8)) dX4_readHouse_48 rfl ?_
    refine g_aload_n (pc := 49) (x := 1) dX4_readHouse_49 rfl ?_
    refine g_iconst (pc := 50) (v := (0 : Int32)) dX4_readHouse_50 (by decide) ?_
    refine g_bipush (pc := 51) (v := (99 : Int32)) dX4_readHouse_51 (by decide) ?_
    obtain ⟨Pm7, hRm7, h⟩ := h
    refine g_callV (pc := 53) (as := [.int (0 : Int32), .int (99 : Int32)]) dX4_readHouse_53 cw_X4_147 (by decide) rfl rfl sh_1 (Nat.le_of_ble_eq_true rfl) hRm7 ?_
    intro r_ m7 hz_ hp_
    obtain ⟨r7, rfl⟩ := hz_
    have h := h r7 m7 hp_
    refine g_iastore (pc := 56) dX4_readHouse_56 (AtState_1 hr5) h.1 ?_
    have h := h.2
    refine g_aload_n (pc := 57) (x := 1) dX4_readHouse_57 rfl ?_
    refine g_getVt (pc := 58) (t := (m7.2.2 1 4)) dX4_readHouse_58 fo_X4_32 sh_1 rfl rfl ?_
    have hr7 := h.1
    have h := h.2
    refine g_getR (pc := 61) (dd := 2) dX4_readHouse_61 fo_X4_166 (AtTown_0 hr7) rfl ?_
    refine g_iload_n (pc := 64) (x := (mm.1 (mm.2.2 1 4) 8)) dX4_readHouse_64 rfl ?_
    refine g_aload_n (pc := 65) (x := 1) dX4_readHouse_65 rfl ?_
    refine g_iconst (pc := 66) (v := (1 : Int32)) dX4_readHouse_66 (by decide) ?_
    refine g_bipush (pc := 67) (v := (9 : Int32)) dX4_readHouse_67 (by decide) ?_
    obtain ⟨Pm9, hRm9, h⟩ := h
    refine g_callV (pc := 69) (as := [.int (1 : Int32), .int (9 : Int32)]) dX4_readHouse_69 cw_X4_147 (by decide) rfl rfl sh_1 (Nat.le_of_ble_eq_true rfl) hRm9 ?_
    intro r_ m9 hz_ hp_
    obtain ⟨r9, rfl⟩ := hz_
    have h := h r9 m9 hp_
    refine g_iastore (pc := 72) dX4_readHouse_72 (AtTown_2 hr7) h.1 ?_
    have h := h.2
    refine g_aload_n (pc := 73) (x := 1) dX4_readHouse_73 rfl ?_
    refine g_bipush (pc := 74) (v := (28 : Int32)) dX4_readHouse_74 (by decide) ?_
    obtain ⟨Pm10, hRm10, h⟩ := h
    refine g_callV (pc := 76) (as := [.int (28 : Int32)]) dX4_readHouse_76 cw_X4_143 (by decide) rfl rfl sh_1 (Nat.le_of_ble_eq_true rfl) hRm10 ?_
    intro r_ m10 hz_ hp_
    rcases h.1 r_ m10 hp_ with rfl | rfl
    · have h := h.2.1 m10 hp_
      refine g_pop (pc := 79) dX4_readHouse_79 rfl ?_
      refine g_aload_n (pc := 80) (x := 1) dX4_readHouse_80 rfl ?_
      refine g_getVt (pc := 81) (t := (m10.2.2 1 4)) dX4_readHouse_81 fo_X4_32 sh_1 rfl rfl ?_
      have hr10 := h.1
      have h := h.2
      refine g_dup (pc := 84) dX4_readHouse_84 rfl ?_
      refine g_getI (pc := 85) dX4_readHouse_85 fo_X4_150 (AtTown_0 hr10) rfl ?_
      refine g_iconst (pc := 88) (v := (1 : Int32)) dX4_readHouse_88 (by decide) ?_
      refine g_iadd (pc := 89) dX4_readHouse_89 ?_
      refine g_putI (pc := 90) dX4_readHouse_90 fo_X4_150 (AtTown_0 hr10) rfl rfl rfl ?_
      exact g_vret (pc := 93) dX4_readHouse_93 rfl rfl h
    · have h := h.2.2 m10 hp_
      refine g_pop (pc := 79) dX4_readHouse_79 rfl ?_
      refine g_aload_n (pc := 80) (x := 1) dX4_readHouse_80 rfl ?_
      refine g_getVt (pc := 81) (t := (m10.2.2 1 4)) dX4_readHouse_81 fo_X4_32 sh_1 rfl rfl ?_
      have hr10 := h.1
      have h := h.2
      refine g_dup (pc := 84) dX4_readHouse_84 rfl ?_
      refine g_getI (pc := 85) dX4_readHouse_85 fo_X4_150 (AtTown_0 hr10) rfl ?_
      refine g_iconst (pc := 88) (v := (1 : Int32)) dX4_readHouse_88 (by decide) ?_
      refine g_iadd (pc := 89) dX4_readHouse_89 ?_
      refine g_putI (pc := 90) dX4_readHouse_90 fo_X4_150 (AtTown_0 hr10) rfl rfl rfl ?_
      exact g_vret (pc := 93) dX4_readHouse_93 rfl rfl h
  · have h := h.2.2 m2 hp_
    refine g_if_ne (pc := 16) (tgt := 20) dX4_readHouse_16 (by decide) (fun c16 => absurd c16 (by decide)) (fun _ => ?_)
    exact g_vret (pc := 19) dX4_readHouse_19 rfl rfl h
theorem dX4_readOffice_0 : decode cX4_readOffice 0 = .ok (.aload_n 0, 1) := by decide +kernel
theorem dX4_readOffice_1 : decode cX4_readOffice 1 = .ok (.getfield 32, 3) := by decide +kernel
theorem dX4_readOffice_4 : decode cX4_readOffice 4 = .ok (.getfield 169, 3) := by decide +kernel
theorem dX4_readOffice_7 : decode cX4_readOffice 7 = .ok (.istore_n 1, 1) := by decide +kernel
theorem dX4_readOffice_8 : decode cX4_readOffice 8 = .ok (.aload_n 0, 1) := by decide +kernel
theorem dX4_readOffice_9 : decode cX4_readOffice 9 = .ok (.iconst 1, 1) := by decide +kernel
theorem dX4_readOffice_10 : decode cX4_readOffice 10 = .ok (.iload_n 1, 1) := by decide +kernel
theorem dX4_readOffice_11 : decode cX4_readOffice 11 = .ok (.bipush 12, 2) := by decide +kernel
theorem dX4_readOffice_13 : decode cX4_readOffice 13 = .ok (.invokevirtual 153, 3) := by decide +kernel
theorem dX4_readOffice_16 : decode cX4_readOffice 16 = .ok (.ifCond .ne 4, 3) := by decide +kernel
theorem dX4_readOffice_19 : decode cX4_readOffice 19 = .ok (.return_, 1) := by decide +kernel
theorem dX4_readOffice_20 : decode cX4_readOffice 20 = .ok (.aload_n 0, 1) := by decide +kernel
theorem dX4_readOffice_21 : decode cX4_readOffice 21 = .ok (.bipush 16, 2) := by decide +kernel
theorem dX4_readOffice_23 : decode cX4_readOffice 23 = .ok (.iload_n 1, 1) := by decide +kernel
theorem dX4_readOffice_24 : decode cX4_readOffice 24 = .ok (.iadd, 1) := by decide +kernel
theorem dX4_readOffice_25 : decode cX4_readOffice 25 = .ok (.invokevirtual 157, 3) := by decide +kernel
theorem dX4_readOffice_28 : decode cX4_readOffice 28 = .ok (.aload_n 0, 1) := by decide +kernel
theorem dX4_readOffice_29 : decode cX4_readOffice 29 = .ok (.getfield 32, 3) := by decide +kernel
theorem dX4_readOffice_32 : decode cX4_readOffice 32 = .ok (.getfield 172, 3) := by decide +kernel
theorem dX4_readOffice_35 : decode cX4_readOffice 35 = .ok (.iload_n 1, 1) := by decide +kernel
theorem dX4_readOffice_36 : decode cX4_readOffice 36 = .ok (.aload_n 0, 1) := by decide +kernel
theorem dX4_readOffice_37 : decode cX4_readOffice 37 = .ok (.iconst 0, 1) := by decide +kernel
theorem dX4_readOffice_38 : decode cX4_readOffice 38 = .ok (.bipush 99, 2) := by decide +kernel
theorem dX4_readOffice_40 : decode cX4_readOffice 40 = .ok (.invokevirtual 147, 3) := by decide +kernel
theorem dX4_readOffice_43 : decode cX4_readOffice 43 = .ok (.iastore, 1) := by decide +kernel
theorem dX4_readOffice_44 : decode cX4_readOffice 44 = .ok (.aload_n 0, 1) := by decide +kernel
theorem dX4_readOffice_45 : decode cX4_readOffice 45 = .ok (.bipush 28, 2) := by decide +kernel
theorem dX4_readOffice_47 : decode cX4_readOffice 47 = .ok (.invokevirtual 143, 3) := by decide +kernel
theorem dX4_readOffice_50 : decode cX4_readOffice 50 = .ok (.pop, 1) := by decide +kernel
theorem dX4_readOffice_51 : decode cX4_readOffice 51 = .ok (.aload_n 0, 1) := by decide +kernel
theorem dX4_readOffice_52 : decode cX4_readOffice 52 = .ok (.getfield 32, 3) := by decide +kernel
theorem dX4_readOffice_55 : decode cX4_readOffice 55 = .ok (.dup, 1) := by decide +kernel
theorem dX4_readOffice_56 : decode cX4_readOffice 56 = .ok (.getfield 169, 3) := by decide +kernel
theorem dX4_readOffice_59 : decode cX4_readOffice 59 = .ok (.iconst 1, 1) := by decide +kernel
theorem dX4_readOffice_60 : decode cX4_readOffice 60 = .ok (.iadd, 1) := by decide +kernel
theorem dX4_readOffice_61 : decode cX4_readOffice 61 = .ok (.putfield 169, 3) := by decide +kernel
theorem dX4_readOffice_64 : decode cX4_readOffice 64 = .ok (.return_, 1) := by decide +kernel
theorem b_X4_readOffice (mm : MM) (Q : Value → MM → Prop) (h : AtTown (mm.2.2 1 4) ∧ (∃ Pm2 : Value → MM → Prop, Runs e_X4_takeFirst [.ref 1, .int (1 : Int32), .int (mm.1 (mm.2.2 1 4) 9), .int (12 : Int32)] mm Pm2 ∧ (∀ r m2, Pm2 r m2 → r = .int 1 ∨ r = .int 0) ∧ (∀ m2, Pm2 (.int 1) m2 → (∃ Pm3 : Value → MM → Prop, Runs e_X4_readNewName [.ref 1, .int ((16 : Int32) + (mm.1 (mm.2.2 1 4) 9))] m2 Pm3 ∧ ∀ m3, Pm3 .null m3 → (AtTown (m3.2.2 1 4) ∧ (∃ Pm5 : Value → MM → Prop, Runs e_X4_readInt [.ref 1, .int (0 : Int32), .int (99 : Int32)] m3 Pm5 ∧ ∀ (r5 : Int32) (m5 : MM), Pm5 (.int r5) m5 → (vp_in (mm.1 (mm.2.2 1 4) 9) 12 ∧ (∃ Pm6 : Value → MM → Prop, Runs e_X4_take [.ref 1, .int (28 : Int32)] (wI m5 ((m3.2.2 1 4) + 3) ((mm.1 (mm.2.2 1 4) 9).toNatClampNeg) r5) Pm6 ∧ (∀ r m6, Pm6 r m6 → r = .int 1 ∨ r = .int 0) ∧ (∀ m6, Pm6 (.int 1) m6 → (AtTown (m6.2.2 1 4) ∧ (Q .null (wI m6 (m6.2.2 1 4) 9 ((m6.1 (m6.2.2 1 4) 9) + (1 : Int32)))))) ∧ (∀ m6, Pm6 (.int 0) m6 → (AtTown (m6.2.2 1 4) ∧ (Q .null (wI m6 (m6.2.2 1 4) 9 ((m6.1 (m6.2.2 1 4) 9) + (1 : Int32)))))))))))) ∧ (∀ m2, Pm2 (.int 0) m2 → (Q .null m2)))) : Runs e_X4_readOffice [.ref 1] mm Q := by
  refine runs_of_G (L := [(0, .ref 1)]) pl_X4 (Nat.le_of_ble_eq_true rfl) rfl ?_
  refine g_aload_n (pc := 0) (x := 1) dX4_readOffice_0 rfl ?_
  refine g_getVt (pc := 1) (t := (mm.2.2 1 4)) dX4_readOffice_1 fo_X4_32 sh_1 rfl rfl ?_
  have hr0 := h.1
  have h := h.2
  refine g_getI (pc := 4) dX4_readOffice_4 fo_X4_169 (AtTown_0 hr0) rfl ?_
  refine g_istore_n (pc := 7) (L' := [(0, .ref 1), (1, .int (mm.1 (mm.2.2 1 4) 9))]) dX4_readOffice_7 (Nat.le_of_ble_eq_true rfl) rfl ?_
  refine g_aload_n (pc := 8) (x := 1) dX4_readOffice_8 rfl ?_
  refine g_iconst (pc := 9) (v := (1 : Int32)) dX4_readOffice_9 (by decide) ?_
  refine g_iload_n (pc := 10) (x := (mm.1 (mm.2.2 1 4) 9)) dX4_readOffice_10 rfl ?_
  refine g_bipush (pc := 11) (v := (12 : Int32)) dX4_readOffice_11 (by decide) ?_
  obtain ⟨Pm2, hRm2, h⟩ := h
  refine g_callV (pc := 13) (as := [.int (1 : Int32), .int (mm.1 (mm.2.2 1 4) 9), .int (12 : Int32)]) dX4_readOffice_13 cw_X4_153 (by decide) rfl rfl sh_1 (Nat.le_of_ble_eq_true rfl) hRm2 ?_
  intro r_ m2 hz_ hp_
  rcases h.1 r_ m2 hp_ with rfl | rfl
  · have h := h.2.1 m2 hp_
    refine g_if_ne (pc := 16) (tgt := 20) dX4_readOffice_16 (by decide) (fun _ => ?_) (fun c16 => absurd c16 (by decide))
    refine g_aload_n (pc := 20) (x := 1) dX4_readOffice_20 rfl ?_
    refine g_bipush (pc := 21) (v := (16 : Int32)) dX4_readOffice_21 (by decide) ?_
    refine g_iload_n (pc := 23) (x := (mm.1 (mm.2.2 1 4) 9)) dX4_readOffice_23 rfl ?_
    refine g_iadd (pc := 24) dX4_readOffice_24 ?_
    obtain ⟨Pm3, hRm3, h⟩ := h
    refine g_callV (pc := 25) (as := [.int ((16 : Int32) + (mm.1 (mm.2.2 1 4) 9))]) dX4_readOffice_25 cw_X4_157 (by decide) rfl rfl sh_1 (Nat.le_of_ble_eq_true rfl) hRm3 ?_
    intro r_ m3 hz_ hp_
    obtain rfl := hz_
    have h := h m3 hp_
    refine g_aload_n (pc := 28) (x := 1) dX4_readOffice_28 rfl ?_
    refine g_getVt (pc := 29) (t := (m3.2.2 1 4)) dX4_readOffice_29 fo_X4_32 sh_1 rfl rfl ?_
    have hr3 := h.1
    have h := h.2
    refine g_getR (pc := 32) (dd := 3) dX4_readOffice_32 fo_X4_172 (AtTown_0 hr3) rfl ?_
    refine g_iload_n (pc := 35) (x := (mm.1 (mm.2.2 1 4) 9)) dX4_readOffice_35 rfl ?_
    refine g_aload_n (pc := 36) (x := 1) dX4_readOffice_36 rfl ?_
    refine g_iconst (pc := 37) (v := (0 : Int32)) dX4_readOffice_37 (by decide) ?_
    refine g_bipush (pc := 38) (v := (99 : Int32)) dX4_readOffice_38 (by decide) ?_
    obtain ⟨Pm5, hRm5, h⟩ := h
    refine g_callV (pc := 40) (as := [.int (0 : Int32), .int (99 : Int32)]) dX4_readOffice_40 cw_X4_147 (by decide) rfl rfl sh_1 (Nat.le_of_ble_eq_true rfl) hRm5 ?_
    intro r_ m5 hz_ hp_
    obtain ⟨r5, rfl⟩ := hz_
    have h := h r5 m5 hp_
    refine g_iastore (pc := 43) dX4_readOffice_43 (AtTown_3 hr3) h.1 ?_
    have h := h.2
    refine g_aload_n (pc := 44) (x := 1) dX4_readOffice_44 rfl ?_
    refine g_bipush (pc := 45) (v := (28 : Int32)) dX4_readOffice_45 (by decide) ?_
    obtain ⟨Pm6, hRm6, h⟩ := h
    refine g_callV (pc := 47) (as := [.int (28 : Int32)]) dX4_readOffice_47 cw_X4_143 (by decide) rfl rfl sh_1 (Nat.le_of_ble_eq_true rfl) hRm6 ?_
    intro r_ m6 hz_ hp_
    rcases h.1 r_ m6 hp_ with rfl | rfl
    · have h := h.2.1 m6 hp_
      refine g_pop (pc := 50) dX4_readOffice_50 rfl ?_
      refine g_aload_n (pc := 51) (x := 1) dX4_readOffice_51 rfl ?_
      refine g_getVt (pc := 52) (t := (m6.2.2 1 4)) dX4_readOffice_52 fo_X4_32 sh_1 rfl rfl ?_
      have hr6 := h.1
      have h := h.2
      refine g_dup (pc := 55) dX4_readOffice_55 rfl ?_
      refine g_getI (pc := 56) dX4_readOffice_56 fo_X4_169 (AtTown_0 hr6) rfl ?_
      refine g_iconst (pc := 59) (v := (1 : Int32)) dX4_readOffice_59 (by decide) ?_
      refine g_iadd (pc := 60) dX4_readOffice_60 ?_
      refine g_putI (pc := 61) dX4_readOffice_61 fo_X4_169 (AtTown_0 hr6) rfl rfl rfl ?_
      exact g_vret (pc := 64) dX4_readOffice_64 rfl rfl h
    · have h := h.2.2 m6 hp_
      refine g_pop (pc := 50) dX4_readOffice_50 rfl ?_
      refine g_aload_n (pc := 51) (x := 1) dX4_readOffice_51 rfl ?_
      refine g_getVt (pc := 52) (t := (m6.2.2 1 4)) dX4_readOffice_52 fo_X4_32 sh_1 rfl rfl ?_
      have hr6 := h.1
      have h := h.2
      refine g_dup (pc := 55) dX4_readOffice_55 rfl ?_
      refine g_getI (pc := 56) dX4_readOffice_56 fo_X4_169 (AtTown_0 hr6) rfl ?_
      refine g_iconst (pc := 59) (v := (1 : Int32)) dX4_readOffice_59 (by decide) ?_
      refine g_iadd (pc := 60) dX4_readOffice_60 ?_
      refine g_putI (pc := 61) dX4_readOffice_61 fo_X4_169 (AtTown_0 hr6) rfl rfl rfl ?_
      exact g_vret (pc := 64) dX4_readOffice_64 rfl rfl h
  · have h := h.2.2 m2 hp_
    refine g_if_ne (pc := 16) (tgt := 20) dX4_readOffice_16 (by decide) (fun c16 => absurd c16 (by decide)) (fun _ => ?_)
    exact g_vret (pc := 19) dX4_readOffice_19 rfl rfl h
theorem dX4_readIn_0 : decode cX4_readIn 0 = .ok (.aload_n 0, 1) := by decide +kernel
theorem dX4_readIn_1 : decode cX4_readIn 1 = .ok (.iconst 2, 1) := by decide +kernel
theorem dX4_readIn_2 : decode cX4_readIn 2 = .ok (.aload_n 0, 1) := by decide +kernel
theorem dX4_readIn_3 : decode cX4_readIn 3 = .ok (.getfield 62, 3) := by decide +kernel
theorem dX4_readIn_6 : decode cX4_readIn 6 = .ok (.bipush 12, 2) := by decide +kernel
theorem dX4_readIn_8 : decode cX4_readIn 8 = .ok (.invokevirtual 153, 3) := by decide +kernel
theorem dX4_readIn_11 : decode cX4_readIn 11 = .ok (.ifCond .ne 4, 3) := by decide +kernel
theorem dX4_readIn_14 : decode cX4_readIn 14 = .ok (.return_, 1) := by decide +kernel
theorem dX4_readIn_15 : decode cX4_readIn 15 = .ok (.aload_n 0, 1) := by decide +kernel
theorem dX4_readIn_16 : decode cX4_readIn 16 = .ok (.invokevirtual 175, 3) := by decide +kernel
theorem dX4_readIn_19 : decode cX4_readIn 19 = .ok (.istore_n 1, 1) := by decide +kernel
theorem dX4_readIn_20 : decode cX4_readIn 20 = .ok (.aload_n 0, 1) := by decide +kernel
theorem dX4_readIn_21 : decode cX4_readIn 21 = .ok (.invokevirtual 178, 3) := by decide +kernel
theorem dX4_readIn_24 : decode cX4_readIn 24 = .ok (.istore_n 2, 1) := by decide +kernel
theorem dX4_readIn_25 : decode cX4_readIn 25 = .ok (.aload_n 0, 1) := by decide +kernel
theorem dX4_readIn_26 : decode cX4_readIn 26 = .ok (.bipush 28, 2) := by decide +kernel
theorem dX4_readIn_28 : decode cX4_readIn 28 = .ok (.invokevirtual 143, 3) := by decide +kernel
theorem dX4_readIn_31 : decode cX4_readIn 31 = .ok (.pop, 1) := by decide +kernel
theorem dX4_readIn_32 : decode cX4_readIn 32 = .ok (.aload_n 0, 1) := by decide +kernel
theorem dX4_readIn_33 : decode cX4_readIn 33 = .ok (.dup, 1) := by decide +kernel
theorem dX4_readIn_34 : decode cX4_readIn 34 = .ok (.getfield 62, 3) := by decide +kernel
theorem dX4_readIn_37 : decode cX4_readIn 37 = .ok (.iconst 1, 1) := by decide +kernel
theorem dX4_readIn_38 : decode cX4_readIn 38 = .ok (.iadd, 1) := by decide +kernel
theorem dX4_readIn_39 : decode cX4_readIn 39 = .ok (.putfield 62, 3) := by decide +kernel
theorem dX4_readIn_42 : decode cX4_readIn 42 = .ok (.iload_n 1, 1) := by decide +kernel
theorem dX4_readIn_43 : decode cX4_readIn 43 = .ok (.iconst (-1), 1) := by decide +kernel
theorem dX4_readIn_44 : decode cX4_readIn 44 = .ok (.if_icmp .eq 17, 3) := by decide +kernel
theorem dX4_readIn_47 : decode cX4_readIn 47 = .ok (.iload_n 2, 1) := by decide +kernel
theorem dX4_readIn_48 : decode cX4_readIn 48 = .ok (.iconst (-1), 1) := by decide +kernel
theorem dX4_readIn_49 : decode cX4_readIn 49 = .ok (.if_icmp .eq 12, 3) := by decide +kernel
theorem dX4_readIn_52 : decode cX4_readIn 52 = .ok (.aload_n 0, 1) := by decide +kernel
theorem dX4_readIn_53 : decode cX4_readIn 53 = .ok (.getfield 39, 3) := by decide +kernel
theorem dX4_readIn_56 : decode cX4_readIn 56 = .ok (.iload_n 1, 1) := by decide +kernel
theorem dX4_readIn_57 : decode cX4_readIn 57 = .ok (.iload_n 2, 1) := by decide +kernel
theorem dX4_readIn_58 : decode cX4_readIn 58 = .ok (.invokevirtual 181, 3) := by decide +kernel
theorem dX4_readIn_61 : decode cX4_readIn 61 = .ok (.return_, 1) := by decide +kernel
theorem b_X4_readIn (mm : MM) (Q : Value → MM → Prop) (h : ∃ Pm1 : Value → MM → Prop, Runs e_X4_takeFirst [.ref 1, .int (2 : Int32), .int (mm.1 1 12), .int (12 : Int32)] mm Pm1 ∧ (∀ r m1, Pm1 r m1 → r = .int 1 ∨ r = .int 0) ∧ (∀ m1, Pm1 (.int 1) m1 → (∃ Pm2 : Value → MM → Prop, Runs e_X4_readHouseName [.ref 1] m1 Pm2 ∧ ∀ (r2 : Int32) (m2 : MM), Pm2 (.int r2) m2 → (∃ Pm3 : Value → MM → Prop, Runs e_X4_readOfficeName [.ref 1] m2 Pm3 ∧ ∀ (r3 : Int32) (m3 : MM), Pm3 (.int r3) m3 → (∃ Pm4 : Value → MM → Prop, Runs e_X4_take [.ref 1, .int (28 : Int32)] m3 Pm4 ∧ (∀ r m4, Pm4 r m4 → r = .int 1 ∨ r = .int 0) ∧ (∀ m4, Pm4 (.int 1) m4 → ((r2 = (-1 : Int32) → (Q .null (wI m4 1 12 ((m4.1 1 12) + (1 : Int32))))) ∧ (¬ r2 = (-1 : Int32) → ((r3 = (-1 : Int32) → (Q .null (wI m4 1 12 ((m4.1 1 12) + (1 : Int32))))) ∧ (¬ r3 = (-1 : Int32) → (AtState (m4.2.2 1 5) ∧ (∃ Pm6 : Value → MM → Prop, Runs e_X6_settle [.ref (m4.2.2 1 5), .int r2, .int r3] (wI m4 1 12 ((m4.1 1 12) + (1 : Int32))) Pm6 ∧ ∀ m6, Pm6 .null m6 → (Q .null m6)))))))) ∧ (∀ m4, Pm4 (.int 0) m4 → ((r2 = (-1 : Int32) → (Q .null (wI m4 1 12 ((m4.1 1 12) + (1 : Int32))))) ∧ (¬ r2 = (-1 : Int32) → ((r3 = (-1 : Int32) → (Q .null (wI m4 1 12 ((m4.1 1 12) + (1 : Int32))))) ∧ (¬ r3 = (-1 : Int32) → (AtState (m4.2.2 1 5) ∧ (∃ Pm6 : Value → MM → Prop, Runs e_X6_settle [.ref (m4.2.2 1 5), .int r2, .int r3] (wI m4 1 12 ((m4.1 1 12) + (1 : Int32))) Pm6 ∧ ∀ m6, Pm6 .null m6 → (Q .null m6)))))))))))) ∧ (∀ m1, Pm1 (.int 0) m1 → (Q .null m1))) : Runs e_X4_readIn [.ref 1] mm Q := by
  refine runs_of_G (L := [(0, .ref 1)]) pl_X4 (Nat.le_of_ble_eq_true rfl) rfl ?_
  refine g_aload_n (pc := 0) (x := 1) dX4_readIn_0 rfl ?_
  refine g_iconst (pc := 1) (v := (2 : Int32)) dX4_readIn_1 (by decide) ?_
  refine g_aload_n (pc := 2) (x := 1) dX4_readIn_2 rfl ?_
  refine g_getI (pc := 3) dX4_readIn_3 fo_X4_62 sh_1 rfl ?_
  refine g_bipush (pc := 6) (v := (12 : Int32)) dX4_readIn_6 (by decide) ?_
  obtain ⟨Pm1, hRm1, h⟩ := h
  refine g_callV (pc := 8) (as := [.int (2 : Int32), .int (mm.1 1 12), .int (12 : Int32)]) dX4_readIn_8 cw_X4_153 (by decide) rfl rfl sh_1 (Nat.le_of_ble_eq_true rfl) hRm1 ?_
  intro r_ m1 hz_ hp_
  rcases h.1 r_ m1 hp_ with rfl | rfl
  · have h := h.2.1 m1 hp_
    refine g_if_ne (pc := 11) (tgt := 15) dX4_readIn_11 (by decide) (fun _ => ?_) (fun c11 => absurd c11 (by decide))
    refine g_aload_n (pc := 15) (x := 1) dX4_readIn_15 rfl ?_
    obtain ⟨Pm2, hRm2, h⟩ := h
    refine g_callV (pc := 16) (as := []) dX4_readIn_16 cw_X4_175 (by decide) rfl rfl sh_1 (Nat.le_of_ble_eq_true rfl) hRm2 ?_
    intro r_ m2 hz_ hp_
    obtain ⟨r2, rfl⟩ := hz_
    have h := h r2 m2 hp_
    refine g_istore_n (pc := 19) (L' := [(0, .ref 1), (1, .int r2)]) dX4_readIn_19 (Nat.le_of_ble_eq_true rfl) rfl ?_
    refine g_aload_n (pc := 20) (x := 1) dX4_readIn_20 rfl ?_
    obtain ⟨Pm3, hRm3, h⟩ := h
    refine g_callV (pc := 21) (as := []) dX4_readIn_21 cw_X4_178 (by decide) rfl rfl sh_1 (Nat.le_of_ble_eq_true rfl) hRm3 ?_
    intro r_ m3 hz_ hp_
    obtain ⟨r3, rfl⟩ := hz_
    have h := h r3 m3 hp_
    refine g_istore_n (pc := 24) (L' := [(0, .ref 1), (1, .int r2), (2, .int r3)]) dX4_readIn_24 (Nat.le_of_ble_eq_true rfl) rfl ?_
    refine g_aload_n (pc := 25) (x := 1) dX4_readIn_25 rfl ?_
    refine g_bipush (pc := 26) (v := (28 : Int32)) dX4_readIn_26 (by decide) ?_
    obtain ⟨Pm4, hRm4, h⟩ := h
    refine g_callV (pc := 28) (as := [.int (28 : Int32)]) dX4_readIn_28 cw_X4_143 (by decide) rfl rfl sh_1 (Nat.le_of_ble_eq_true rfl) hRm4 ?_
    intro r_ m4 hz_ hp_
    rcases h.1 r_ m4 hp_ with rfl | rfl
    · have h := h.2.1 m4 hp_
      refine g_pop (pc := 31) dX4_readIn_31 rfl ?_
      refine g_aload_n (pc := 32) (x := 1) dX4_readIn_32 rfl ?_
      refine g_dup (pc := 33) dX4_readIn_33 rfl ?_
      refine g_getI (pc := 34) dX4_readIn_34 fo_X4_62 sh_1 rfl ?_
      refine g_iconst (pc := 37) (v := (1 : Int32)) dX4_readIn_37 (by decide) ?_
      refine g_iadd (pc := 38) dX4_readIn_38 ?_
      refine g_putI (pc := 39) dX4_readIn_39 fo_X4_62 sh_1 rfl rfl rfl ?_
      refine g_iload_n (pc := 42) (x := r2) dX4_readIn_42 rfl ?_
      refine g_iconst (pc := 43) (v := (-1 : Int32)) dX4_readIn_43 (by decide) ?_
      refine g_icmp_eq (pc := 44) (tgt := 61) dX4_readIn_44 (by decide) (fun c44 => ?_) (fun c44 => ?_)
      · have h := h.1 c44
        exact g_vret (pc := 61) dX4_readIn_61 rfl rfl h
      · have h := h.2 c44
        refine g_iload_n (pc := 47) (x := r3) dX4_readIn_47 rfl ?_
        refine g_iconst (pc := 48) (v := (-1 : Int32)) dX4_readIn_48 (by decide) ?_
        refine g_icmp_eq (pc := 49) (tgt := 61) dX4_readIn_49 (by decide) (fun c49 => ?_) (fun c49 => ?_)
        · have h := h.1 c49
          exact g_vret (pc := 61) dX4_readIn_61 rfl rfl h
        · have h := h.2 c49
          refine g_aload_n (pc := 52) (x := 1) dX4_readIn_52 rfl ?_
          refine g_getVt (pc := 53) (t := (m4.2.2 1 5)) dX4_readIn_53 fo_X4_39 sh_1 rfl rfl ?_
          have hr4 := h.1
          have h := h.2
          refine g_iload_n (pc := 56) (x := r2) dX4_readIn_56 rfl ?_
          refine g_iload_n (pc := 57) (x := r3) dX4_readIn_57 rfl ?_
          obtain ⟨Pm6, hRm6, h⟩ := h
          refine g_callV (pc := 58) (as := [.int r2, .int r3]) dX4_readIn_58 cw_X4_181 (by decide) rfl rfl (AtState_0 hr4) (Nat.le_of_ble_eq_true rfl) hRm6 ?_
          intro r_ m6 hz_ hp_
          obtain rfl := hz_
          have h := h m6 hp_
          exact g_vret (pc := 61) dX4_readIn_61 rfl rfl h
    · have h := h.2.2 m4 hp_
      refine g_pop (pc := 31) dX4_readIn_31 rfl ?_
      refine g_aload_n (pc := 32) (x := 1) dX4_readIn_32 rfl ?_
      refine g_dup (pc := 33) dX4_readIn_33 rfl ?_
      refine g_getI (pc := 34) dX4_readIn_34 fo_X4_62 sh_1 rfl ?_
      refine g_iconst (pc := 37) (v := (1 : Int32)) dX4_readIn_37 (by decide) ?_
      refine g_iadd (pc := 38) dX4_readIn_38 ?_
      refine g_putI (pc := 39) dX4_readIn_39 fo_X4_62 sh_1 rfl rfl rfl ?_
      refine g_iload_n (pc := 42) (x := r2) dX4_readIn_42 rfl ?_
      refine g_iconst (pc := 43) (v := (-1 : Int32)) dX4_readIn_43 (by decide) ?_
      refine g_icmp_eq (pc := 44) (tgt := 61) dX4_readIn_44 (by decide) (fun c44 => ?_) (fun c44 => ?_)
      · have h := h.1 c44
        exact g_vret (pc := 61) dX4_readIn_61 rfl rfl h
      · have h := h.2 c44
        refine g_iload_n (pc := 47) (x := r3) dX4_readIn_47 rfl ?_
        refine g_iconst (pc := 48) (v := (-1 : Int32)) dX4_readIn_48 (by decide) ?_
        refine g_icmp_eq (pc := 49) (tgt := 61) dX4_readIn_49 (by decide) (fun c49 => ?_) (fun c49 => ?_)
        · have h := h.1 c49
          exact g_vret (pc := 61) dX4_readIn_61 rfl rfl h
        · have h := h.2 c49
          refine g_aload_n (pc := 52) (x := 1) dX4_readIn_52 rfl ?_
          refine g_getVt (pc := 53) (t := (m4.2.2 1 5)) dX4_readIn_53 fo_X4_39 sh_1 rfl rfl ?_
          have hr4 := h.1
          have h := h.2
          refine g_iload_n (pc := 56) (x := r2) dX4_readIn_56 rfl ?_
          refine g_iload_n (pc := 57) (x := r3) dX4_readIn_57 rfl ?_
          obtain ⟨Pm6, hRm6, h⟩ := h
          refine g_callV (pc := 58) (as := [.int r2, .int r3]) dX4_readIn_58 cw_X4_181 (by decide) rfl rfl (AtState_0 hr4) (Nat.le_of_ble_eq_true rfl) hRm6 ?_
          intro r_ m6 hz_ hp_
          obtain rfl := hz_
          have h := h m6 hp_
          exact g_vret (pc := 61) dX4_readIn_61 rfl rfl h
  · have h := h.2.2 m1 hp_
    refine g_if_ne (pc := 11) (tgt := 15) dX4_readIn_11 (by decide) (fun c11 => absurd c11 (by decide)) (fun _ => ?_)
    exact g_vret (pc := 14) dX4_readIn_14 rfl rfl h
theorem dX4_start_0 : decode cX4_start 0 = .ok (.aload_n 0, 1) := by decide +kernel
theorem dX4_start_1 : decode cX4_start 1 = .ok (.getfield 43, 3) := by decide +kernel
theorem dX4_start_4 : decode cX4_start 4 = .ok (.ifCond .lt 32, 3) := by decide +kernel
theorem dX4_start_7 : decode cX4_start 7 = .ok (.aload_n 0, 1) := by decide +kernel
theorem dX4_start_8 : decode cX4_start 8 = .ok (.getfield 43, 3) := by decide +kernel
theorem dX4_start_11 : decode cX4_start 11 = .ok (.aload_n 0, 1) := by decide +kernel
theorem dX4_start_12 : decode cX4_start 12 = .ok (.getfield 25, 3) := by decide +kernel
theorem dX4_start_15 : decode cX4_start 15 = .ok (.getfield 283, 3) := by decide +kernel
theorem dX4_start_18 : decode cX4_start 18 = .ok (.if_icmp .ge 18, 3) := by decide +kernel
theorem dX4_start_21 : decode cX4_start 21 = .ok (.aload_n 0, 1) := by decide +kernel
theorem dX4_start_22 : decode cX4_start 22 = .ok (.getfield 25, 3) := by decide +kernel
theorem dX4_start_25 : decode cX4_start 25 = .ok (.getfield 286, 3) := by decide +kernel
theorem dX4_start_28 : decode cX4_start 28 = .ok (.aload_n 0, 1) := by decide +kernel
theorem dX4_start_29 : decode cX4_start 29 = .ok (.getfield 43, 3) := by decide +kernel
theorem dX4_start_32 : decode cX4_start 32 = .ok (.iaload, 1) := by decide +kernel
theorem dX4_start_33 : decode cX4_start 33 = .ok (.goto 4, 3) := by decide +kernel
theorem dX4_start_36 : decode cX4_start 36 = .ok (.iconst (-1), 1) := by decide +kernel
theorem dX4_start_37 : decode cX4_start 37 = .ok (.ireturn, 1) := by decide +kernel
def o_X4_start (mm : MM) : Prop := ((mm.1 1 6) < 0 → (True)) ∧ (¬ (mm.1 1 6) < 0 → (((mm.1 5 5) ≤ (mm.1 1 6) → (True)) ∧ (¬ (mm.1 5 5) ≤ (mm.1 1 6) → (vp_in (mm.1 1 6) 401 ∧ (True)))))
noncomputable def v_X4_start (mm : MM) : Int32 := (cite ((mm.1 1 6) < 0) (-1 : Int32) (cite ((mm.1 5 5) ≤ (mm.1 1 6)) (-1 : Int32) (mm.1 8 (mm.1 1 6).toNatClampNeg)))
theorem rv_X4_start (mm : MM) (h : o_X4_start mm) : Runs e_X4_start [.ref 1] mm (fun r m_ => r = .int (v_X4_start mm) ∧ mm = m_) := by
  refine runs_of_G (L := [(0, .ref 1)]) pl_X4 (Nat.le_of_ble_eq_true rfl) rfl ?_
  unfold o_X4_start at h
  refine g_aload_n (pc := 0) (x := 1) dX4_start_0 rfl ?_
  refine g_getI (pc := 1) dX4_start_1 fo_X4_43 sh_1 rfl ?_
  refine g_if_lt (pc := 4) (tgt := 36) dX4_start_4 (by decide) (fun c4 => ?_) (fun c4 => ?_)
  · have c4_0 : (mm.1 1 6) < 0 := c4
    have h := h.1 c4
    refine g_iconst (pc := 36) (v := (-1 : Int32)) dX4_start_36 (by decide) ?_
    exact g_iret (pc := 37) dX4_start_37 rfl rfl rfl ⟨(by unfold v_X4_start; rw [cite_pos c4_0] <;> rfl), rfl⟩
  · have c4_0 : ¬ (mm.1 1 6) < 0 := c4
    have h := h.2 c4
    refine g_aload_n (pc := 7) (x := 1) dX4_start_7 rfl ?_
    refine g_getI (pc := 8) dX4_start_8 fo_X4_43 sh_1 rfl ?_
    refine g_aload_n (pc := 11) (x := 1) dX4_start_11 rfl ?_
    refine g_getR (pc := 12) (dd := 4) dX4_start_12 fo_X4_25 sh_1 rfl ?_
    refine g_getI (pc := 15) dX4_start_15 fo_X4_283 sh_5 rfl ?_
    refine g_icmp_ge (pc := 18) (tgt := 36) dX4_start_18 (by decide) (fun c18 => ?_) (fun c18 => ?_)
    · have c18_1 : (mm.1 5 5) ≤ (mm.1 1 6) := c18
      have h := h.1 c18
      refine g_iconst (pc := 36) (v := (-1 : Int32)) dX4_start_36 (by decide) ?_
      exact g_iret (pc := 37) dX4_start_37 rfl rfl rfl ⟨(by unfold v_X4_start; rw [cite_neg c4_0, cite_pos c18_1] <;> rfl), rfl⟩
    · have c18_1 : ¬ (mm.1 5 5) ≤ (mm.1 1 6) := c18
      have h := h.2 c18
      refine g_aload_n (pc := 21) (x := 1) dX4_start_21 rfl ?_
      refine g_getR (pc := 22) (dd := 4) dX4_start_22 fo_X4_25 sh_1 rfl ?_
      refine g_getR (pc := 25) (dd := 3) dX4_start_25 fo_X4_286 sh_5 rfl ?_
      refine g_aload_n (pc := 28) (x := 1) dX4_start_28 rfl ?_
      refine g_getI (pc := 29) dX4_start_29 fo_X4_43 sh_1 rfl ?_
      refine g_iaload (pc := 32) dX4_start_32 sh_8 h.1 ?_
      have h := h.2
      refine g_goto (pc := 33) (tgt := 37) dX4_start_33 (by decide) ?_
      exact g_iret (pc := 37) dX4_start_37 rfl rfl rfl ⟨(by unfold v_X4_start; rw [cite_neg c4_0, cite_neg c18_1] <;> rfl), rfl⟩
theorem dX4_readStair_0 : decode cX4_readStair 0 = .ok (.aload_n 0, 1) := by decide +kernel
theorem dX4_readStair_1 : decode cX4_readStair 1 = .ok (.getfield 32, 3) := by decide +kernel
theorem dX4_readStair_4 : decode cX4_readStair 4 = .ok (.getfield 184, 3) := by decide +kernel
theorem dX4_readStair_7 : decode cX4_readStair 7 = .ok (.istore_n 1, 1) := by decide +kernel
theorem dX4_readStair_8 : decode cX4_readStair 8 = .ok (.aload_n 0, 1) := by decide +kernel
theorem dX4_readStair_9 : decode cX4_readStair 9 = .ok (.iconst 3, 1) := by decide +kernel
theorem dX4_readStair_10 : decode cX4_readStair 10 = .ok (.iload_n 1, 1) := by decide +kernel
theorem dX4_readStair_11 : decode cX4_readStair 11 = .ok (.bipush 12, 2) := by decide +kernel
theorem dX4_readStair_13 : decode cX4_readStair 13 = .ok (.invokevirtual 153, 3) := by decide +kernel
theorem dX4_readStair_16 : decode cX4_readStair 16 = .ok (.ifCond .ne 4, 3) := by decide +kernel
theorem dX4_readStair_19 : decode cX4_readStair 19 = .ok (.return_, 1) := by decide +kernel
theorem dX4_readStair_20 : decode cX4_readStair 20 = .ok (.aload_n 0, 1) := by decide +kernel
theorem dX4_readStair_21 : decode cX4_readStair 21 = .ok (.invokevirtual 175, 3) := by decide +kernel
theorem dX4_readStair_24 : decode cX4_readStair 24 = .ok (.istore_n 2, 1) := by decide +kernel
theorem dX4_readStair_25 : decode cX4_readStair 25 = .ok (.iconst (-1), 1) := by decide +kernel
theorem dX4_readStair_26 : decode cX4_readStair 26 = .ok (.istore_n 3, 1) := by decide +kernel
theorem dX4_readStair_27 : decode cX4_readStair 27 = .ok (.aload_n 0, 1) := by decide +kernel
theorem dX4_readStair_28 : decode cX4_readStair 28 = .ok (.invokevirtual 88, 3) := by decide +kernel
theorem dX4_readStair_31 : decode cX4_readStair 31 = .ok (.bipush 21, 2) := by decide +kernel
theorem dX4_readStair_33 : decode cX4_readStair 33 = .ok (.if_icmp .ne 13, 3) := by decide +kernel
theorem dX4_readStair_36 : decode cX4_readStair 36 = .ok (.aload_n 0, 1) := by decide +kernel
theorem dX4_readStair_37 : decode cX4_readStair 37 = .ok (.bipush 21, 2) := by decide +kernel
theorem dX4_readStair_39 : decode cX4_readStair 39 = .ok (.invokevirtual 143, 3) := by decide +kernel
theorem dX4_readStair_42 : decode cX4_readStair 42 = .ok (.pop, 1) := by decide +kernel
theorem dX4_readStair_43 : decode cX4_readStair 43 = .ok (.goto 31, 3) := by decide +kernel
theorem dX4_readStair_46 : decode cX4_readStair 46 = .ok (.aload_n 0, 1) := by decide +kernel
theorem dX4_readStair_47 : decode cX4_readStair 47 = .ok (.invokevirtual 187, 3) := by decide +kernel
theorem dX4_readStair_50 : decode cX4_readStair 50 = .ok (.istore 4, 2) := by decide +kernel
theorem dX4_readStair_52 : decode cX4_readStair 52 = .ok (.aload_n 0, 1) := by decide +kernel
theorem dX4_readStair_53 : decode cX4_readStair 53 = .ok (.invokevirtual 175, 3) := by decide +kernel
theorem dX4_readStair_56 : decode cX4_readStair 56 = .ok (.istore_n 3, 1) := by decide +kernel
theorem dX4_readStair_57 : decode cX4_readStair 57 = .ok (.iload_n 3, 1) := by decide +kernel
theorem dX4_readStair_58 : decode cX4_readStair 58 = .ok (.iconst (-1), 1) := by decide +kernel
theorem dX4_readStair_59 : decode cX4_readStair 59 = .ok (.if_icmp .eq 15, 3) := by decide +kernel
theorem dX4_readStair_62 : decode cX4_readStair 62 = .ok (.iload_n 3, 1) := by decide +kernel
theorem dX4_readStair_63 : decode cX4_readStair 63 = .ok (.iload_n 2, 1) := by decide +kernel
theorem dX4_readStair_64 : decode cX4_readStair 64 = .ok (.if_icmp .ne 10, 3) := by decide +kernel
theorem dX4_readStair_67 : decode cX4_readStair 67 = .ok (.aload_n 0, 1) := by decide +kernel
theorem dX4_readStair_68 : decode cX4_readStair 68 = .ok (.iconst 5, 1) := by decide +kernel
theorem dX4_readStair_69 : decode cX4_readStair 69 = .ok (.iload 4, 2) := by decide +kernel
theorem dX4_readStair_71 : decode cX4_readStair 71 = .ok (.invokevirtual 190, 3) := by decide +kernel
theorem dX4_readStair_74 : decode cX4_readStair 74 = .ok (.aload_n 0, 1) := by decide +kernel
theorem dX4_readStair_75 : decode cX4_readStair 75 = .ok (.getfield 32, 3) := by decide +kernel
theorem dX4_readStair_78 : decode cX4_readStair 78 = .ok (.getfield 193, 3) := by decide +kernel
theorem dX4_readStair_81 : decode cX4_readStair 81 = .ok (.iload_n 1, 1) := by decide +kernel
theorem dX4_readStair_82 : decode cX4_readStair 82 = .ok (.iload_n 2, 1) := by decide +kernel
theorem dX4_readStair_83 : decode cX4_readStair 83 = .ok (.iastore, 1) := by decide +kernel
theorem dX4_readStair_84 : decode cX4_readStair 84 = .ok (.aload_n 0, 1) := by decide +kernel
theorem dX4_readStair_85 : decode cX4_readStair 85 = .ok (.getfield 32, 3) := by decide +kernel
theorem dX4_readStair_88 : decode cX4_readStair 88 = .ok (.getfield 196, 3) := by decide +kernel
theorem dX4_readStair_91 : decode cX4_readStair 91 = .ok (.iload_n 1, 1) := by decide +kernel
theorem dX4_readStair_92 : decode cX4_readStair 92 = .ok (.iload_n 3, 1) := by decide +kernel
theorem dX4_readStair_93 : decode cX4_readStair 93 = .ok (.iastore, 1) := by decide +kernel
theorem dX4_readStair_94 : decode cX4_readStair 94 = .ok (.aload_n 0, 1) := by decide +kernel
theorem dX4_readStair_95 : decode cX4_readStair 95 = .ok (.getfield 32, 3) := by decide +kernel
theorem dX4_readStair_98 : decode cX4_readStair 98 = .ok (.getfield 199, 3) := by decide +kernel
theorem dX4_readStair_101 : decode cX4_readStair 101 = .ok (.iload_n 1, 1) := by decide +kernel
theorem dX4_readStair_102 : decode cX4_readStair 102 = .ok (.aload_n 0, 1) := by decide +kernel
theorem dX4_readStair_103 : decode cX4_readStair 103 = .ok (.iconst 0, 1) := by decide +kernel
theorem dX4_readStair_104 : decode cX4_readStair 104 = .ok (.bipush 99, 2) := by decide +kernel
theorem dX4_readStair_106 : decode cX4_readStair 106 = .ok (.invokevirtual 147, 3) := by decide +kernel
theorem dX4_readStair_109 : decode cX4_readStair 109 = .ok (.iastore, 1) := by decide +kernel
theorem dX4_readStair_110 : decode cX4_readStair 110 = .ok (.aload_n 0, 1) := by decide +kernel
theorem dX4_readStair_111 : decode cX4_readStair 111 = .ok (.bipush 28, 2) := by decide +kernel
theorem dX4_readStair_113 : decode cX4_readStair 113 = .ok (.invokevirtual 143, 3) := by decide +kernel
theorem dX4_readStair_116 : decode cX4_readStair 116 = .ok (.pop, 1) := by decide +kernel
theorem dX4_readStair_117 : decode cX4_readStair 117 = .ok (.aload_n 0, 1) := by decide +kernel
theorem dX4_readStair_118 : decode cX4_readStair 118 = .ok (.getfield 32, 3) := by decide +kernel
theorem dX4_readStair_121 : decode cX4_readStair 121 = .ok (.dup, 1) := by decide +kernel
theorem dX4_readStair_122 : decode cX4_readStair 122 = .ok (.getfield 184, 3) := by decide +kernel
theorem dX4_readStair_125 : decode cX4_readStair 125 = .ok (.iconst 1, 1) := by decide +kernel
theorem dX4_readStair_126 : decode cX4_readStair 126 = .ok (.iadd, 1) := by decide +kernel
theorem dX4_readStair_127 : decode cX4_readStair 127 = .ok (.putfield 184, 3) := by decide +kernel
theorem dX4_readStair_130 : decode cX4_readStair 130 = .ok (.return_, 1) := by decide +kernel
theorem b_X4_readStair (mm : MM) (Q : Value → MM → Prop) (h : AtTown (mm.2.2 1 4) ∧ (∃ Pm2 : Value → MM → Prop, Runs e_X4_takeFirst [.ref 1, .int (3 : Int32), .int (mm.1 (mm.2.2 1 4) 10), .int (12 : Int32)] mm Pm2 ∧ (∀ r m2, Pm2 r m2 → r = .int 1 ∨ r = .int 0) ∧ (∀ m2, Pm2 (.int 1) m2 → (∃ Pm3 : Value → MM → Prop, Runs e_X4_readHouseName [.ref 1] m2 Pm3 ∧ ∀ (r3 : Int32) (m3 : MM), Pm3 (.int r3) m3 → (o_X4_kind m3 ∧ ((¬ (v_X4_kind m3) = (21 : Int32) → (o_X4_start m3 ∧ (∃ Pm4 : Value → MM → Prop, Runs e_X4_readHouseName [.ref 1] m3 Pm4 ∧ ∀ (r4 : Int32) (m4 : MM), Pm4 (.int r4) m4 → ((r4 = (-1 : Int32) → (AtTown (m4.2.2 1 4) ∧ (vp_in (mm.1 (mm.2.2 1 4) 10) 12 ∧ (AtTown (m4.2.2 1 4) ∧ (vp_in (mm.1 (mm.2.2 1 4) 10) 12 ∧ (AtTown (m4.2.2 1 4) ∧ (∃ Pm8 : Value → MM → Prop, Runs e_X4_readInt [.ref 1, .int (0 : Int32), .int (99 : Int32)] (wI (wI m4 ((m4.2.2 1 4) + 4) ((mm.1 (mm.2.2 1 4) 10).toNatClampNeg) r3) ((m4.2.2 1 4) + 5) ((mm.1 (mm.2.2 1 4) 10).toNatClampNeg) r4) Pm8 ∧ ∀ (r8 : Int32) (m8 : MM), Pm8 (.int r8) m8 → (vp_in (mm.1 (mm.2.2 1 4) 10) 12 ∧ (∃ Pm9 : Value → MM → Prop, Runs e_X4_take [.ref 1, .int (28 : Int32)] (wI m8 ((m4.2.2 1 4) + 6) ((mm.1 (mm.2.2 1 4) 10).toNatClampNeg) r8) Pm9 ∧ (∀ r m9, Pm9 r m9 → r = .int 1 ∨ r = .int 0) ∧ (∀ m9, Pm9 (.int 1) m9 → (AtTown (m9.2.2 1 4) ∧ (Q .null (wI m9 (m9.2.2 1 4) 10 ((m9.1 (m9.2.2 1 4) 10) + (1 : Int32)))))) ∧ (∀ m9, Pm9 (.int 0) m9 → (AtTown (m9.2.2 1 4) ∧ (Q .null (wI m9 (m9.2.2 1 4) 10 ((m9.1 (m9.2.2 1 4) 10) + (1 : Int32))))))))))))))) ∧ (¬ r4 = (-1 : Int32) → ((¬ r4 = r3 → (AtTown (m4.2.2 1 4) ∧ (vp_in (mm.1 (mm.2.2 1 4) 10) 12 ∧ (AtTown (m4.2.2 1 4) ∧ (vp_in (mm.1 (mm.2.2 1 4) 10) 12 ∧ (AtTown (m4.2.2 1 4) ∧ (∃ Pm8 : Value → MM → Prop, Runs e_X4_readInt [.ref 1, .int (0 : Int32), .int (99 : Int32)] (wI (wI m4 ((m4.2.2 1 4) + 4) ((mm.1 (mm.2.2 1 4) 10).toNatClampNeg) r3) ((m4.2.2 1 4) + 5) ((mm.1 (mm.2.2 1 4) 10).toNatClampNeg) r4) Pm8 ∧ ∀ (r8 : Int32) (m8 : MM), Pm8 (.int r8) m8 → (vp_in (mm.1 (mm.2.2 1 4) 10) 12 ∧ (∃ Pm9 : Value → MM → Prop, Runs e_X4_take [.ref 1, .int (28 : Int32)] (wI m8 ((m4.2.2 1 4) + 6) ((mm.1 (mm.2.2 1 4) 10).toNatClampNeg) r8) Pm9 ∧ (∀ r m9, Pm9 r m9 → r = .int 1 ∨ r = .int 0) ∧ (∀ m9, Pm9 (.int 1) m9 → (AtTown (m9.2.2 1 4) ∧ (Q .null (wI m9 (m9.2.2 1 4) 10 ((m9.1 (m9.2.2 1 4) 10) + (1 : Int32)))))) ∧ (∀ m9, Pm9 (.int 0) m9 → (AtTown (m9.2.2 1 4) ∧ (Q .null (wI m9 (m9.2.2 1 4) 10 ((m9.1 (m9.2.2 1 4) 10) + (1 : Int32))))))))))))))) ∧ (r4 = r3 → (∃ Pm5 : Value → MM → Prop, Runs e_X4_failLate [.ref 1, .int (5 : Int32), .int (v_X4_start m3)] m4 Pm5 ∧ ∀ m5, Pm5 .null m5 → (AtTown (m5.2.2 1 4) ∧ (vp_in (mm.1 (mm.2.2 1 4) 10) 12 ∧ (AtTown (m5.2.2 1 4) ∧ (vp_in (mm.1 (mm.2.2 1 4) 10) 12 ∧ (AtTown (m5.2.2 1 4) ∧ (∃ Pm9 : Value → MM → Prop, Runs e_X4_readInt [.ref 1, .int (0 : Int32), .int (99 : Int32)] (wI (wI m5 ((m5.2.2 1 4) + 4) ((mm.1 (mm.2.2 1 4) 10).toNatClampNeg) r3) ((m5.2.2 1 4) + 5) ((mm.1 (mm.2.2 1 4) 10).toNatClampNeg) r4) Pm9 ∧ ∀ (r9 : Int32) (m9 : MM), Pm9 (.int r9) m9 → (vp_in (mm.1 (mm.2.2 1 4) 10) 12 ∧ (∃ Pm10 : Value → MM → Prop, Runs e_X4_take [.ref 1, .int (28 : Int32)] (wI m9 ((m5.2.2 1 4) + 6) ((mm.1 (mm.2.2 1 4) 10).toNatClampNeg) r9) Pm10 ∧ (∀ r m10, Pm10 r m10 → r = .int 1 ∨ r = .int 0) ∧ (∀ m10, Pm10 (.int 1) m10 → (AtTown (m10.2.2 1 4) ∧ (Q .null (wI m10 (m10.2.2 1 4) 10 ((m10.1 (m10.2.2 1 4) 10) + (1 : Int32)))))) ∧ (∀ m10, Pm10 (.int 0) m10 → (AtTown (m10.2.2 1 4) ∧ (Q .null (wI m10 (m10.2.2 1 4) 10 ((m10.1 (m10.2.2 1 4) 10) + (1 : Int32)))))))))))))))))))))) ∧ ((v_X4_kind m3) = (21 : Int32) → (∃ Pm4 : Value → MM → Prop, Runs e_X4_take [.ref 1, .int (21 : Int32)] m3 Pm4 ∧ (∀ r m4, Pm4 r m4 → r = .int 1 ∨ r = .int 0) ∧ (∀ m4, Pm4 (.int 1) m4 → (AtTown (m4.2.2 1 4) ∧ (vp_in (mm.1 (mm.2.2 1 4) 10) 12 ∧ (AtTown (m4.2.2 1 4) ∧ (vp_in (mm.1 (mm.2.2 1 4) 10) 12 ∧ (AtTown (m4.2.2 1 4) ∧ (∃ Pm8 : Value → MM → Prop, Runs e_X4_readInt [.ref 1, .int (0 : Int32), .int (99 : Int32)] (wI (wI m4 ((m4.2.2 1 4) + 4) ((mm.1 (mm.2.2 1 4) 10).toNatClampNeg) r3) ((m4.2.2 1 4) + 5) ((mm.1 (mm.2.2 1 4) 10).toNatClampNeg) (-1 : Int32)) Pm8 ∧ ∀ (r8 : Int32) (m8 : MM), Pm8 (.int r8) m8 → (vp_in (mm.1 (mm.2.2 1 4) 10) 12 ∧ (∃ Pm9 : Value → MM → Prop, Runs e_X4_take [.ref 1, .int (28 : Int32)] (wI m8 ((m4.2.2 1 4) + 6) ((mm.1 (mm.2.2 1 4) 10).toNatClampNeg) r8) Pm9 ∧ (∀ r m9, Pm9 r m9 → r = .int 1 ∨ r = .int 0) ∧ (∀ m9, Pm9 (.int 1) m9 → (AtTown (m9.2.2 1 4) ∧ (Q .null (wI m9 (m9.2.2 1 4) 10 ((m9.1 (m9.2.2 1 4) 10) + (1 : Int32)))))) ∧ (∀ m9, Pm9 (.int 0) m9 → (AtTown (m9.2.2 1 4) ∧ (Q .null (wI m9 (m9.2.2 1 4) 10 ((m9.1 (m9.2.2 1 4) 10) + (1 : Int32))))))))))))))) ∧ (∀ m4, Pm4 (.int 0) m4 → (AtTown (m4.2.2 1 4) ∧ (vp_in (mm.1 (mm.2.2 1 4) 10) 12 ∧ (AtTown (m4.2.2 1 4) ∧ (vp_in (mm.1 (mm.2.2 1 4) 10) 12 ∧ (AtTown (m4.2.2 1 4) ∧ (∃ Pm8 : Value → MM → Prop, Runs e_X4_readInt [.ref 1, .int (0 : Int32), .int (99 : Int32)] (wI (wI m4 ((m4.2.2 1 4) + 4) ((mm.1 (mm.2.2 1 4) 10).toNatClampNeg) r3) ((m4.2.2 1 4) + 5) ((mm.1 (mm.2.2 1 4) 10).toNatClampNeg) (-1 : Int32)) Pm8 ∧ ∀ (r8 : Int32) (m8 : MM), Pm8 (.int r8) m8 → (vp_in (mm.1 (mm.2.2 1 4) 10) 12 ∧ (∃ Pm9 : Value → MM → Prop, Runs e_X4_take [.ref 1, .int (28 : Int32)] (wI m8 ((m4.2.2 1 4) + 6) ((mm.1 (mm.2.2 1 4) 10).toNatClampNeg) r8) Pm9 ∧ (∀ r m9, Pm9 r m9 → r = .int 1 ∨ r = .int 0) ∧ (∀ m9, Pm9 (.int 1) m9 → (AtTown (m9.2.2 1 4) ∧ (Q .null (wI m9 (m9.2.2 1 4) 10 ((m9.1 (m9.2.2 1 4) 10) + (1 : Int32)))))) ∧ (∀ m9, Pm9 (.int 0) m9 → (AtTown (m9.2.2 1 4) ∧ (Q .null (wI m9 (m9.2.2 1 4) 10 ((m9.1 (m9.2.2 1 4) 10) + (1 : Int32))))))))))))))))))))) ∧ (∀ m2, Pm2 (.int 0) m2 → (Q .null m2)))) : Runs e_X4_readStair [.ref 1] mm Q := by
  refine runs_of_G (L := [(0, .ref 1)]) pl_X4 (Nat.le_of_ble_eq_true rfl) rfl ?_
  refine g_aload_n (pc := 0) (x := 1) dX4_readStair_0 rfl ?_
  refine g_getVt (pc := 1) (t := (mm.2.2 1 4)) dX4_readStair_1 fo_X4_32 sh_1 rfl rfl ?_
  have hr0 := h.1
  have h := h.2
  refine g_getI (pc := 4) dX4_readStair_4 fo_X4_184 (AtTown_0 hr0) rfl ?_
  refine g_istore_n (pc := 7) (L' := [(0, .ref 1), (1, .int (mm.1 (mm.2.2 1 4) 10))]) dX4_readStair_7 (Nat.le_of_ble_eq_true rfl) rfl ?_
  refine g_aload_n (pc := 8) (x := 1) dX4_readStair_8 rfl ?_
  refine g_iconst (pc := 9) (v := (3 : Int32)) dX4_readStair_9 (by decide) ?_
  refine g_iload_n (pc := 10) (x := (mm.1 (mm.2.2 1 4) 10)) dX4_readStair_10 rfl ?_
  refine g_bipush (pc := 11) (v := (12 : Int32)) dX4_readStair_11 (by decide) ?_
  obtain ⟨Pm2, hRm2, h⟩ := h
  refine g_callV (pc := 13) (as := [.int (3 : Int32), .int (mm.1 (mm.2.2 1 4) 10), .int (12 : Int32)]) dX4_readStair_13 cw_X4_153 (by decide) rfl rfl sh_1 (Nat.le_of_ble_eq_true rfl) hRm2 ?_
  intro r_ m2 hz_ hp_
  rcases h.1 r_ m2 hp_ with rfl | rfl
  · have h := h.2.1 m2 hp_
    refine g_if_ne (pc := 16) (tgt := 20) dX4_readStair_16 (by decide) (fun _ => ?_) (fun c16 => absurd c16 (by decide))
    refine g_aload_n (pc := 20) (x := 1) dX4_readStair_20 rfl ?_
    obtain ⟨Pm3, hRm3, h⟩ := h
    refine g_callV (pc := 21) (as := []) dX4_readStair_21 cw_X4_175 (by decide) rfl rfl sh_1 (Nat.le_of_ble_eq_true rfl) hRm3 ?_
    intro r_ m3 hz_ hp_
    obtain ⟨r3, rfl⟩ := hz_
    have h := h r3 m3 hp_
    refine g_istore_n (pc := 24) (L' := [(0, .ref 1), (1, .int (mm.1 (mm.2.2 1 4) 10)), (2, .int r3)]) dX4_readStair_24 (Nat.le_of_ble_eq_true rfl) rfl ?_
    refine g_iconst (pc := 25) (v := (-1 : Int32)) dX4_readStair_25 (by decide) ?_
    refine g_istore_n (pc := 26) (L' := [(0, .ref 1), (1, .int (mm.1 (mm.2.2 1 4) 10)), (2, .int r3), (3, .int (-1 : Int32))]) dX4_readStair_26 (Nat.le_of_ble_eq_true rfl) rfl ?_
    refine g_aload_n (pc := 27) (x := 1) dX4_readStair_27 rfl ?_
    refine g_callV (pc := 28) (as := []) dX4_readStair_28 cw_X4_88 (by decide) rfl rfl sh_1 (Nat.le_of_ble_eq_true rfl) (rv_X4_kind m3 h.1) ?_
    have h := h.2
    rintro r_ m_ hz_ ⟨rfl, rfl⟩
    refine g_bipush (pc := 31) (v := (21 : Int32)) dX4_readStair_31 (by decide) ?_
    refine g_icmp_ne (pc := 33) (tgt := 46) dX4_readStair_33 (by decide) (fun c33 => ?_) (fun c33 => ?_)
    · have h := h.1 c33
      refine g_aload_n (pc := 46) (x := 1) dX4_readStair_46 rfl ?_
      refine g_callV (pc := 47) (as := []) dX4_readStair_47 cw_X4_187 (by decide) rfl rfl sh_1 (Nat.le_of_ble_eq_true rfl) (rv_X4_start m3 h.1) ?_
      have h := h.2
      rintro r_ m_ hz_ ⟨rfl, rfl⟩
      refine g_istore (pc := 50) (L' := [(0, .ref 1), (1, .int (mm.1 (mm.2.2 1 4) 10)), (2, .int r3), (3, .int (-1 : Int32)), (4, .int (v_X4_start m3))]) dX4_readStair_50 (Nat.le_of_ble_eq_true rfl) rfl ?_
      refine g_aload_n (pc := 52) (x := 1) dX4_readStair_52 rfl ?_
      obtain ⟨Pm4, hRm4, h⟩ := h
      refine g_callV (pc := 53) (as := []) dX4_readStair_53 cw_X4_175 (by decide) rfl rfl sh_1 (Nat.le_of_ble_eq_true rfl) hRm4 ?_
      intro r_ m4 hz_ hp_
      obtain ⟨r4, rfl⟩ := hz_
      have h := h r4 m4 hp_
      refine g_istore_n (pc := 56) (L' := [(0, .ref 1), (1, .int (mm.1 (mm.2.2 1 4) 10)), (2, .int r3), (3, .int r4), (4, .int (v_X4_start m3))]) dX4_readStair_56 (Nat.le_of_ble_eq_true rfl) rfl ?_
      refine g_iload_n (pc := 57) (x := r4) dX4_readStair_57 rfl ?_
      refine g_iconst (pc := 58) (v := (-1 : Int32)) dX4_readStair_58 (by decide) ?_
      refine g_icmp_eq (pc := 59) (tgt := 74) dX4_readStair_59 (by decide) (fun c59 => ?_) (fun c59 => ?_)
      · have h := h.1 c59
        refine g_aload_n (pc := 74) (x := 1) dX4_readStair_74 rfl ?_
        refine g_getVt (pc := 75) (t := (m4.2.2 1 4)) dX4_readStair_75 fo_X4_32 sh_1 rfl rfl ?_
        have hr4 := h.1
        have h := h.2
        refine g_getR (pc := 78) (dd := 4) dX4_readStair_78 fo_X4_193 (AtTown_0 hr4) rfl ?_
        refine g_iload_n (pc := 81) (x := (mm.1 (mm.2.2 1 4) 10)) dX4_readStair_81 rfl ?_
        refine g_iload_n (pc := 82) (x := r3) dX4_readStair_82 rfl ?_
        refine g_iastore (pc := 83) dX4_readStair_83 (AtTown_4 hr4) h.1 ?_
        have h := h.2
        refine g_aload_n (pc := 84) (x := 1) dX4_readStair_84 rfl ?_
        refine g_getVt (pc := 85) (t := (m4.2.2 1 4)) dX4_readStair_85 fo_X4_32 sh_1 rfl rfl ?_
        have hr5 := h.1
        have h := h.2
        refine g_getR (pc := 88) (dd := 5) dX4_readStair_88 fo_X4_196 (AtTown_0 hr5) rfl ?_
        refine g_iload_n (pc := 91) (x := (mm.1 (mm.2.2 1 4) 10)) dX4_readStair_91 rfl ?_
        refine g_iload_n (pc := 92) (x := r4) dX4_readStair_92 rfl ?_
        refine g_iastore (pc := 93) dX4_readStair_93 (AtTown_5 hr5) h.1 ?_
        have h := h.2
        refine g_aload_n (pc := 94) (x := 1) dX4_readStair_94 rfl ?_
        refine g_getVt (pc := 95) (t := (m4.2.2 1 4)) dX4_readStair_95 fo_X4_32 sh_1 rfl rfl ?_
        have hr6 := h.1
        have h := h.2
        refine g_getR (pc := 98) (dd := 6) dX4_readStair_98 fo_X4_199 (AtTown_0 hr6) rfl ?_
        refine g_iload_n (pc := 101) (x := (mm.1 (mm.2.2 1 4) 10)) dX4_readStair_101 rfl ?_
        refine g_aload_n (pc := 102) (x := 1) dX4_readStair_102 rfl ?_
        refine g_iconst (pc := 103) (v := (0 : Int32)) dX4_readStair_103 (by decide) ?_
        refine g_bipush (pc := 104) (v := (99 : Int32)) dX4_readStair_104 (by decide) ?_
        obtain ⟨Pm8, hRm8, h⟩ := h
        refine g_callV (pc := 106) (as := [.int (0 : Int32), .int (99 : Int32)]) dX4_readStair_106 cw_X4_147 (by decide) rfl rfl sh_1 (Nat.le_of_ble_eq_true rfl) hRm8 ?_
        intro r_ m8 hz_ hp_
        obtain ⟨r8, rfl⟩ := hz_
        have h := h r8 m8 hp_
        refine g_iastore (pc := 109) dX4_readStair_109 (AtTown_6 hr6) h.1 ?_
        have h := h.2
        refine g_aload_n (pc := 110) (x := 1) dX4_readStair_110 rfl ?_
        refine g_bipush (pc := 111) (v := (28 : Int32)) dX4_readStair_111 (by decide) ?_
        obtain ⟨Pm9, hRm9, h⟩ := h
        refine g_callV (pc := 113) (as := [.int (28 : Int32)]) dX4_readStair_113 cw_X4_143 (by decide) rfl rfl sh_1 (Nat.le_of_ble_eq_true rfl) hRm9 ?_
        intro r_ m9 hz_ hp_
        rcases h.1 r_ m9 hp_ with rfl | rfl
        · have h := h.2.1 m9 hp_
          refine g_pop (pc := 116) dX4_readStair_116 rfl ?_
          refine g_aload_n (pc := 117) (x := 1) dX4_readStair_117 rfl ?_
          refine g_getVt (pc := 118) (t := (m9.2.2 1 4)) dX4_readStair_118 fo_X4_32 sh_1 rfl rfl ?_
          have hr9 := h.1
          have h := h.2
          refine g_dup (pc := 121) dX4_readStair_121 rfl ?_
          refine g_getI (pc := 122) dX4_readStair_122 fo_X4_184 (AtTown_0 hr9) rfl ?_
          refine g_iconst (pc := 125) (v := (1 : Int32)) dX4_readStair_125 (by decide) ?_
          refine g_iadd (pc := 126) dX4_readStair_126 ?_
          refine g_putI (pc := 127) dX4_readStair_127 fo_X4_184 (AtTown_0 hr9) rfl rfl rfl ?_
          exact g_vret (pc := 130) dX4_readStair_130 rfl rfl h
        · have h := h.2.2 m9 hp_
          refine g_pop (pc := 116) dX4_readStair_116 rfl ?_
          refine g_aload_n (pc := 117) (x := 1) dX4_readStair_117 rfl ?_
          refine g_getVt (pc := 118) (t := (m9.2.2 1 4)) dX4_readStair_118 fo_X4_32 sh_1 rfl rfl ?_
          have hr9 := h.1
          have h := h.2
          refine g_dup (pc := 121) dX4_readStair_121 rfl ?_
          refine g_getI (pc := 122) dX4_readStair_122 fo_X4_184 (AtTown_0 hr9) rfl ?_
          refine g_iconst (pc := 125) (v := (1 : Int32)) dX4_readStair_125 (by decide) ?_
          refine g_iadd (pc := 126) dX4_readStair_126 ?_
          refine g_putI (pc := 127) dX4_readStair_127 fo_X4_184 (AtTown_0 hr9) rfl rfl rfl ?_
          exact g_vret (pc := 130) dX4_readStair_130 rfl rfl h
      · have h := h.2 c59
        refine g_iload_n (pc := 62) (x := r4) dX4_readStair_62 rfl ?_
        refine g_iload_n (pc := 63) (x := r3) dX4_readStair_63 rfl ?_
        refine g_icmp_ne (pc := 64) (tgt := 74) dX4_readStair_64 (by decide) (fun c64 => ?_) (fun c64 => ?_)
        · have h := h.1 c64
          refine g_aload_n (pc := 74) (x := 1) dX4_readStair_74 rfl ?_
          refine g_getVt (pc := 75) (t := (m4.2.2 1 4)) dX4_readStair_75 fo_X4_32 sh_1 rfl rfl ?_
          have hr4 := h.1
          have h := h.2
          refine g_getR (pc := 78) (dd := 4) dX4_readStair_78 fo_X4_193 (AtTown_0 hr4) rfl ?_
          refine g_iload_n (pc := 81) (x := (mm.1 (mm.2.2 1 4) 10)) dX4_readStair_81 rfl ?_
          refine g_iload_n (pc := 82) (x := r3) dX4_readStair_82 rfl ?_
          refine g_iastore (pc := 83) dX4_readStair_83 (AtTown_4 hr4) h.1 ?_
          have h := h.2
          refine g_aload_n (pc := 84) (x := 1) dX4_readStair_84 rfl ?_
          refine g_getVt (pc := 85) (t := (m4.2.2 1 4)) dX4_readStair_85 fo_X4_32 sh_1 rfl rfl ?_
          have hr5 := h.1
          have h := h.2
          refine g_getR (pc := 88) (dd := 5) dX4_readStair_88 fo_X4_196 (AtTown_0 hr5) rfl ?_
          refine g_iload_n (pc := 91) (x := (mm.1 (mm.2.2 1 4) 10)) dX4_readStair_91 rfl ?_
          refine g_iload_n (pc := 92) (x := r4) dX4_readStair_92 rfl ?_
          refine g_iastore (pc := 93) dX4_readStair_93 (AtTown_5 hr5) h.1 ?_
          have h := h.2
          refine g_aload_n (pc := 94) (x := 1) dX4_readStair_94 rfl ?_
          refine g_getVt (pc := 95) (t := (m4.2.2 1 4)) dX4_readStair_95 fo_X4_32 sh_1 rfl rfl ?_
          have hr6 := h.1
          have h := h.2
          refine g_getR (pc := 98) (dd := 6) dX4_readStair_98 fo_X4_199 (AtTown_0 hr6) rfl ?_
          refine g_iload_n (pc := 101) (x := (mm.1 (mm.2.2 1 4) 10)) dX4_readStair_101 rfl ?_
          refine g_aload_n (pc := 102) (x := 1) dX4_readStair_102 rfl ?_
          refine g_iconst (pc := 103) (v := (0 : Int32)) dX4_readStair_103 (by decide) ?_
          refine g_bipush (pc := 104) (v := (99 : Int32)) dX4_readStair_104 (by decide) ?_
          obtain ⟨Pm8, hRm8, h⟩ := h
          refine g_callV (pc := 106) (as := [.int (0 : Int32), .int (99 : Int32)]) dX4_readStair_106 cw_X4_147 (by decide) rfl rfl sh_1 (Nat.le_of_ble_eq_true rfl) hRm8 ?_
          intro r_ m8 hz_ hp_
          obtain ⟨r8, rfl⟩ := hz_
          have h := h r8 m8 hp_
          refine g_iastore (pc := 109) dX4_readStair_109 (AtTown_6 hr6) h.1 ?_
          have h := h.2
          refine g_aload_n (pc := 110) (x := 1) dX4_readStair_110 rfl ?_
          refine g_bipush (pc := 111) (v := (28 : Int32)) dX4_readStair_111 (by decide) ?_
          obtain ⟨Pm9, hRm9, h⟩ := h
          refine g_callV (pc := 113) (as := [.int (28 : Int32)]) dX4_readStair_113 cw_X4_143 (by decide) rfl rfl sh_1 (Nat.le_of_ble_eq_true rfl) hRm9 ?_
          intro r_ m9 hz_ hp_
          rcases h.1 r_ m9 hp_ with rfl | rfl
          · have h := h.2.1 m9 hp_
            refine g_pop (pc := 116) dX4_readStair_116 rfl ?_
            refine g_aload_n (pc := 117) (x := 1) dX4_readStair_117 rfl ?_
            refine g_getVt (pc := 118) (t := (m9.2.2 1 4)) dX4_readStair_118 fo_X4_32 sh_1 rfl rfl ?_
            have hr9 := h.1
            have h := h.2
            refine g_dup (pc := 121) dX4_readStair_121 rfl ?_
            refine g_getI (pc := 122) dX4_readStair_122 fo_X4_184 (AtTown_0 hr9) rfl ?_
            refine g_iconst (pc := 125) (v := (1 : Int32)) dX4_readStair_125 (by decide) ?_
            refine g_iadd (pc := 126) dX4_readStair_126 ?_
            refine g_putI (pc := 127) dX4_readStair_127 fo_X4_184 (AtTown_0 hr9) rfl rfl rfl ?_
            exact g_vret (pc := 130) dX4_readStair_130 rfl rfl h
          · have h := h.2.2 m9 hp_
            refine g_pop (pc := 116) dX4_readStair_116 rfl ?_
            refine g_aload_n (pc := 117) (x := 1) dX4_readStair_117 rfl ?_
            refine g_getVt (pc := 118) (t := (m9.2.2 1 4)) dX4_readStair_118 fo_X4_32 sh_1 rfl rfl ?_
            have hr9 := h.1
            have h := h.2
            refine g_dup (pc := 121) dX4_readStair_121 rfl ?_
            refine g_getI (pc := 122) dX4_readStair_122 fo_X4_184 (AtTown_0 hr9) rfl ?_
            refine g_iconst (pc := 125) (v := (1 : Int32)) dX4_readStair_125 (by decide) ?_
            refine g_iadd (pc := 126) dX4_readStair_126 ?_
            refine g_putI (pc := 127) dX4_readStair_127 fo_X4_184 (AtTown_0 hr9) rfl rfl rfl ?_
            exact g_vret (pc := 130) dX4_readStair_130 rfl rfl h
        · have h := h.2 c64
          refine g_aload_n (pc := 67) (x := 1) dX4_readStair_67 rfl ?_
          refine g_iconst (pc := 68) (v := (5 : Int32)) dX4_readStair_68 (by decide) ?_
          refine g_iload (pc := 69) (x := (v_X4_start m3)) dX4_readStair_69 rfl ?_
          obtain ⟨Pm5, hRm5, h⟩ := h
          refine g_callV (pc := 71) (as := [.int (5 : Int32), .int (v_X4_start m3)]) dX4_readStair_71 cw_X4_190 (by decide) rfl rfl sh_1 (Nat.le_of_ble_eq_true rfl) hRm5 ?_
          intro r_ m5 hz_ hp_
          obtain rfl := hz_
          have h := h m5 hp_
          refine g_aload_n (pc := 74) (x := 1) dX4_readStair_74 rfl ?_
          refine g_getVt (pc := 75) (t := (m5.2.2 1 4)) dX4_readStair_75 fo_X4_32 sh_1 rfl rfl ?_
          have hr5 := h.1
          have h := h.2
          refine g_getR (pc := 78) (dd := 4) dX4_readStair_78 fo_X4_193 (AtTown_0 hr5) rfl ?_
          refine g_iload_n (pc := 81) (x := (mm.1 (mm.2.2 1 4) 10)) dX4_readStair_81 rfl ?_
          refine g_iload_n (pc := 82) (x := r3) dX4_readStair_82 rfl ?_
          refine g_iastore (pc := 83) dX4_readStair_83 (AtTown_4 hr5) h.1 ?_
          have h := h.2
          refine g_aload_n (pc := 84) (x := 1) dX4_readStair_84 rfl ?_
          refine g_getVt (pc := 85) (t := (m5.2.2 1 4)) dX4_readStair_85 fo_X4_32 sh_1 rfl rfl ?_
          have hr6 := h.1
          have h := h.2
          refine g_getR (pc := 88) (dd := 5) dX4_readStair_88 fo_X4_196 (AtTown_0 hr6) rfl ?_
          refine g_iload_n (pc := 91) (x := (mm.1 (mm.2.2 1 4) 10)) dX4_readStair_91 rfl ?_
          refine g_iload_n (pc := 92) (x := r4) dX4_readStair_92 rfl ?_
          refine g_iastore (pc := 93) dX4_readStair_93 (AtTown_5 hr6) h.1 ?_
          have h := h.2
          refine g_aload_n (pc := 94) (x := 1) dX4_readStair_94 rfl ?_
          refine g_getVt (pc := 95) (t := (m5.2.2 1 4)) dX4_readStair_95 fo_X4_32 sh_1 rfl rfl ?_
          have hr7 := h.1
          have h := h.2
          refine g_getR (pc := 98) (dd := 6) dX4_readStair_98 fo_X4_199 (AtTown_0 hr7) rfl ?_
          refine g_iload_n (pc := 101) (x := (mm.1 (mm.2.2 1 4) 10)) dX4_readStair_101 rfl ?_
          refine g_aload_n (pc := 102) (x := 1) dX4_readStair_102 rfl ?_
          refine g_iconst (pc := 103) (v := (0 : Int32)) dX4_readStair_103 (by decide) ?_
          refine g_bipush (pc := 104) (v := (99 : Int32)) dX4_readStair_104 (by decide) ?_
          obtain ⟨Pm9, hRm9, h⟩ := h
          refine g_callV (pc := 106) (as := [.int (0 : Int32), .int (99 : Int32)]) dX4_readStair_106 cw_X4_147 (by decide) rfl rfl sh_1 (Nat.le_of_ble_eq_true rfl) hRm9 ?_
          intro r_ m9 hz_ hp_
          obtain ⟨r9, rfl⟩ := hz_
          have h := h r9 m9 hp_
          refine g_iastore (pc := 109) dX4_readStair_109 (AtTown_6 hr7) h.1 ?_
          have h := h.2
          refine g_aload_n (pc := 110) (x := 1) dX4_readStair_110 rfl ?_
          refine g_bipush (pc := 111) (v := (28 : Int32)) dX4_readStair_111 (by decide) ?_
          obtain ⟨Pm10, hRm10, h⟩ := h
          refine g_callV (pc := 113) (as := [.int (28 : Int32)]) dX4_readStair_113 cw_X4_143 (by decide) rfl rfl sh_1 (Nat.le_of_ble_eq_true rfl) hRm10 ?_
          intro r_ m10 hz_ hp_
          rcases h.1 r_ m10 hp_ with rfl | rfl
          · have h := h.2.1 m10 hp_
            refine g_pop (pc := 116) dX4_readStair_116 rfl ?_
            refine g_aload_n (pc := 117) (x := 1) dX4_readStair_117 rfl ?_
            refine g_getVt (pc := 118) (t := (m10.2.2 1 4)) dX4_readStair_118 fo_X4_32 sh_1 rfl rfl ?_
            have hr10 := h.1
            have h := h.2
            refine g_dup (pc := 121) dX4_readStair_121 rfl ?_
            refine g_getI (pc := 122) dX4_readStair_122 fo_X4_184 (AtTown_0 hr10) rfl ?_
            refine g_iconst (pc := 125) (v := (1 : Int32)) dX4_readStair_125 (by decide) ?_
            refine g_iadd (pc := 126) dX4_readStair_126 ?_
            refine g_putI (pc := 127) dX4_readStair_127 fo_X4_184 (AtTown_0 hr10) rfl rfl rfl ?_
            exact g_vret (pc := 130) dX4_readStair_130 rfl rfl h
          · have h := h.2.2 m10 hp_
            refine g_pop (pc := 116) dX4_readStair_116 rfl ?_
            refine g_aload_n (pc := 117) (x := 1) dX4_readStair_117 rfl ?_
            refine g_getVt (pc := 118) (t := (m10.2.2 1 4)) dX4_readStair_118 fo_X4_32 sh_1 rfl rfl ?_
            have hr10 := h.1
            have h := h.2
            refine g_dup (pc := 121) dX4_readStair_121 rfl ?_
            refine g_getI (pc := 122) dX4_readStair_122 fo_X4_184 (AtTown_0 hr10) rfl ?_
            refine g_iconst (pc := 125) (v := (1 : Int32)) dX4_readStair_125 (by decide) ?_
            refine g_iadd (pc := 126) dX4_readStair_126 ?_
            refine g_putI (pc := 127) dX4_readStair_127 fo_X4_184 (AtTown_0 hr10) rfl rfl rfl ?_
            exact g_vret (pc := 130) dX4_readStair_130 rfl rfl h
    · have h := h.2 c33
      refine g_aload_n (pc := 36) (x := 1) dX4_readStair_36 rfl ?_
      refine g_bipush (pc := 37) (v := (21 : Int32)) dX4_readStair_37 (by decide) ?_
      obtain ⟨Pm4, hRm4, h⟩ := h
      refine g_callV (pc := 39) (as := [.int (21 : Int32)]) dX4_readStair_39 cw_X4_143 (by decide) rfl rfl sh_1 (Nat.le_of_ble_eq_true rfl) hRm4 ?_
      intro r_ m4 hz_ hp_
      rcases h.1 r_ m4 hp_ with rfl | rfl
      · have h := h.2.1 m4 hp_
        refine g_pop (pc := 42) dX4_readStair_42 rfl ?_
        refine g_goto (pc := 43) (tgt := 74) dX4_readStair_43 (by decide) ?_
        refine g_aload_n (pc := 74) (x := 1) dX4_readStair_74 rfl ?_
        refine g_getVt (pc := 75) (t := (m4.2.2 1 4)) dX4_readStair_75 fo_X4_32 sh_1 rfl rfl ?_
        have hr4 := h.1
        have h := h.2
        refine g_getR (pc := 78) (dd := 4) dX4_readStair_78 fo_X4_193 (AtTown_0 hr4) rfl ?_
        refine g_iload_n (pc := 81) (x := (mm.1 (mm.2.2 1 4) 10)) dX4_readStair_81 rfl ?_
        refine g_iload_n (pc := 82) (x := r3) dX4_readStair_82 rfl ?_
        refine g_iastore (pc := 83) dX4_readStair_83 (AtTown_4 hr4) h.1 ?_
        have h := h.2
        refine g_aload_n (pc := 84) (x := 1) dX4_readStair_84 rfl ?_
        refine g_getVt (pc := 85) (t := (m4.2.2 1 4)) dX4_readStair_85 fo_X4_32 sh_1 rfl rfl ?_
        have hr5 := h.1
        have h := h.2
        refine g_getR (pc := 88) (dd := 5) dX4_readStair_88 fo_X4_196 (AtTown_0 hr5) rfl ?_
        refine g_iload_n (pc := 91) (x := (mm.1 (mm.2.2 1 4) 10)) dX4_readStair_91 rfl ?_
        refine g_iload_n (pc := 92) (x := (-1 : Int32)) dX4_readStair_92 rfl ?_
        refine g_iastore (pc := 93) dX4_readStair_93 (AtTown_5 hr5) h.1 ?_
        have h := h.2
        refine g_aload_n (pc := 94) (x := 1) dX4_readStair_94 rfl ?_
        refine g_getVt (pc := 95) (t := (m4.2.2 1 4)) dX4_readStair_95 fo_X4_32 sh_1 rfl rfl ?_
        have hr6 := h.1
        have h := h.2
        refine g_getR (pc := 98) (dd := 6) dX4_readStair_98 fo_X4_199 (AtTown_0 hr6) rfl ?_
        refine g_iload_n (pc := 101) (x := (mm.1 (mm.2.2 1 4) 10)) dX4_readStair_101 rfl ?_
        refine g_aload_n (pc := 102) (x := 1) dX4_readStair_102 rfl ?_
        refine g_iconst (pc := 103) (v := (0 : Int32)) dX4_readStair_103 (by decide) ?_
        refine g_bipush (pc := 104) (v := (99 : Int32)) dX4_readStair_104 (by decide) ?_
        obtain ⟨Pm8, hRm8, h⟩ := h
        refine g_callV (pc := 106) (as := [.int (0 : Int32), .int (99 : Int32)]) dX4_readStair_106 cw_X4_147 (by decide) rfl rfl sh_1 (Nat.le_of_ble_eq_true rfl) hRm8 ?_
        intro r_ m8 hz_ hp_
        obtain ⟨r8, rfl⟩ := hz_
        have h := h r8 m8 hp_
        refine g_iastore (pc := 109) dX4_readStair_109 (AtTown_6 hr6) h.1 ?_
        have h := h.2
        refine g_aload_n (pc := 110) (x := 1) dX4_readStair_110 rfl ?_
        refine g_bipush (pc := 111) (v := (28 : Int32)) dX4_readStair_111 (by decide) ?_
        obtain ⟨Pm9, hRm9, h⟩ := h
        refine g_callV (pc := 113) (as := [.int (28 : Int32)]) dX4_readStair_113 cw_X4_143 (by decide) rfl rfl sh_1 (Nat.le_of_ble_eq_true rfl) hRm9 ?_
        intro r_ m9 hz_ hp_
        rcases h.1 r_ m9 hp_ with rfl | rfl
        · have h := h.2.1 m9 hp_
          refine g_pop (pc := 116) dX4_readStair_116 rfl ?_
          refine g_aload_n (pc := 117) (x := 1) dX4_readStair_117 rfl ?_
          refine g_getVt (pc := 118) (t := (m9.2.2 1 4)) dX4_readStair_118 fo_X4_32 sh_1 rfl rfl ?_
          have hr9 := h.1
          have h := h.2
          refine g_dup (pc := 121) dX4_readStair_121 rfl ?_
          refine g_getI (pc := 122) dX4_readStair_122 fo_X4_184 (AtTown_0 hr9) rfl ?_
          refine g_iconst (pc := 125) (v := (1 : Int32)) dX4_readStair_125 (by decide) ?_
          refine g_iadd (pc := 126) dX4_readStair_126 ?_
          refine g_putI (pc := 127) dX4_readStair_127 fo_X4_184 (AtTown_0 hr9) rfl rfl rfl ?_
          exact g_vret (pc := 130) dX4_readStair_130 rfl rfl h
        · have h := h.2.2 m9 hp_
          refine g_pop (pc := 116) dX4_readStair_116 rfl ?_
          refine g_aload_n (pc := 117) (x := 1) dX4_readStair_117 rfl ?_
          refine g_getVt (pc := 118) (t := (m9.2.2 1 4)) dX4_readStair_118 fo_X4_32 sh_1 rfl rfl ?_
          have hr9 := h.1
          have h := h.2
          refine g_dup (pc := 121) dX4_readStair_121 rfl ?_
          refine g_getI (pc := 122) dX4_readStair_122 fo_X4_184 (AtTown_0 hr9) rfl ?_
          refine g_iconst (pc := 125) (v := (1 : Int32)) dX4_readStair_125 (by decide) ?_
          refine g_iadd (pc := 126) dX4_readStair_126 ?_
          refine g_putI (pc := 127) dX4_readStair_127 fo_X4_184 (AtTown_0 hr9) rfl rfl rfl ?_
          exact g_vret (pc := 130) dX4_readStair_130 rfl rfl h
      · have h := h.2.2 m4 hp_
        refine g_pop (pc := 42) dX4_readStair_42 rfl ?_
        refine g_goto (pc := 43) (tgt := 74) dX4_readStair_43 (by decide) ?_
        refine g_aload_n (pc := 74) (x := 1) dX4_readStair_74 rfl ?_
        refine g_getVt (pc := 75) (t := (m4.2.2 1 4)) dX4_readStair_75 fo_X4_32 sh_1 rfl rfl ?_
        have hr4 := h.1
        have h := h.2
        refine g_getR (pc := 78) (dd := 4) dX4_readStair_78 fo_X4_193 (AtTown_0 hr4) rfl ?_
        refine g_iload_n (pc := 81) (x := (mm.1 (mm.2.2 1 4) 10)) dX4_readStair_81 rfl ?_
        refine g_iload_n (pc := 82) (x := r3) dX4_readStair_82 rfl ?_
        refine g_iastore (pc := 83) dX4_readStair_83 (AtTown_4 hr4) h.1 ?_
        have h := h.2
        refine g_aload_n (pc := 84) (x := 1) dX4_readStair_84 rfl ?_
        refine g_getVt (pc := 85) (t := (m4.2.2 1 4)) dX4_readStair_85 fo_X4_32 sh_1 rfl rfl ?_
        have hr5 := h.1
        have h := h.2
        refine g_getR (pc := 88) (dd := 5) dX4_readStair_88 fo_X4_196 (AtTown_0 hr5) rfl ?_
        refine g_iload_n (pc := 91) (x := (mm.1 (mm.2.2 1 4) 10)) dX4_readStair_91 rfl ?_
        refine g_iload_n (pc := 92) (x := (-1 : Int32)) dX4_readStair_92 rfl ?_
        refine g_iastore (pc := 93) dX4_readStair_93 (AtTown_5 hr5) h.1 ?_
        have h := h.2
        refine g_aload_n (pc := 94) (x := 1) dX4_readStair_94 rfl ?_
        refine g_getVt (pc := 95) (t := (m4.2.2 1 4)) dX4_readStair_95 fo_X4_32 sh_1 rfl rfl ?_
        have hr6 := h.1
        have h := h.2
        refine g_getR (pc := 98) (dd := 6) dX4_readStair_98 fo_X4_199 (AtTown_0 hr6) rfl ?_
        refine g_iload_n (pc := 101) (x := (mm.1 (mm.2.2 1 4) 10)) dX4_readStair_101 rfl ?_
        refine g_aload_n (pc := 102) (x := 1) dX4_readStair_102 rfl ?_
        refine g_iconst (pc := 103) (v := (0 : Int32)) dX4_readStair_103 (by decide) ?_
        refine g_bipush (pc := 104) (v := (99 : Int32)) dX4_readStair_104 (by decide) ?_
        obtain ⟨Pm8, hRm8, h⟩ := h
        refine g_callV (pc := 106) (as := [.int (0 : Int32), .int (99 : Int32)]) dX4_readStair_106 cw_X4_147 (by decide) rfl rfl sh_1 (Nat.le_of_ble_eq_true rfl) hRm8 ?_
        intro r_ m8 hz_ hp_
        obtain ⟨r8, rfl⟩ := hz_
        have h := h r8 m8 hp_
        refine g_iastore (pc := 109) dX4_readStair_109 (AtTown_6 hr6) h.1 ?_
        have h := h.2
        refine g_aload_n (pc := 110) (x := 1) dX4_readStair_110 rfl ?_
        refine g_bipush (pc := 111) (v := (28 : Int32)) dX4_readStair_111 (by decide) ?_
        obtain ⟨Pm9, hRm9, h⟩ := h
        refine g_callV (pc := 113) (as := [.int (28 : Int32)]) dX4_readStair_113 cw_X4_143 (by decide) rfl rfl sh_1 (Nat.le_of_ble_eq_true rfl) hRm9 ?_
        intro r_ m9 hz_ hp_
        rcases h.1 r_ m9 hp_ with rfl | rfl
        · have h := h.2.1 m9 hp_
          refine g_pop (pc := 116) dX4_readStair_116 rfl ?_
          refine g_aload_n (pc := 117) (x := 1) dX4_readStair_117 rfl ?_
          refine g_getVt (pc := 118) (t := (m9.2.2 1 4)) dX4_readStair_118 fo_X4_32 sh_1 rfl rfl ?_
          have hr9 := h.1
          have h := h.2
          refine g_dup (pc := 121) dX4_readStair_121 rfl ?_
          refine g_getI (pc := 122) dX4_readStair_122 fo_X4_184 (AtTown_0 hr9) rfl ?_
          refine g_iconst (pc := 125) (v := (1 : Int32)) dX4_readStair_125 (by decide) ?_
          refine g_iadd (pc := 126) dX4_readStair_126 ?_
          refine g_putI (pc := 127) dX4_readStair_127 fo_X4_184 (AtTown_0 hr9) rfl rfl rfl ?_
          exact g_vret (pc := 130) dX4_readStair_130 rfl rfl h
        · have h := h.2.2 m9 hp_
          refine g_pop (pc := 116) dX4_readStair_116 rfl ?_
          refine g_aload_n (pc := 117) (x := 1) dX4_readStair_117 rfl ?_
          refine g_getVt (pc := 118) (t := (m9.2.2 1 4)) dX4_readStair_118 fo_X4_32 sh_1 rfl rfl ?_
          have hr9 := h.1
          have h := h.2
          refine g_dup (pc := 121) dX4_readStair_121 rfl ?_
          refine g_getI (pc := 122) dX4_readStair_122 fo_X4_184 (AtTown_0 hr9) rfl ?_
          refine g_iconst (pc := 125) (v := (1 : Int32)) dX4_readStair_125 (by decide) ?_
          refine g_iadd (pc := 126) dX4_readStair_126 ?_
          refine g_putI (pc := 127) dX4_readStair_127 fo_X4_184 (AtTown_0 hr9) rfl rfl rfl ?_
          exact g_vret (pc := 130) dX4_readStair_130 rfl rfl h
  · have h := h.2.2 m2 hp_
    refine g_if_ne (pc := 16) (tgt := 20) dX4_readStair_16 (by decide) (fun c16 => absurd c16 (by decide)) (fun _ => ?_)
    exact g_vret (pc := 19) dX4_readStair_19 rfl rfl h
theorem dX4_readQuay_0 : decode cX4_readQuay 0 = .ok (.aload_n 0, 1) := by decide +kernel
theorem dX4_readQuay_1 : decode cX4_readQuay 1 = .ok (.iconst 4, 1) := by decide +kernel
theorem dX4_readQuay_2 : decode cX4_readQuay 2 = .ok (.aload_n 0, 1) := by decide +kernel
theorem dX4_readQuay_3 : decode cX4_readQuay 3 = .ok (.getfield 32, 3) := by decide +kernel
theorem dX4_readQuay_6 : decode cX4_readQuay 6 = .ok (.getfield 202, 3) := by decide +kernel
theorem dX4_readQuay_9 : decode cX4_readQuay 9 = .ok (.iconst 4, 1) := by decide +kernel
theorem dX4_readQuay_10 : decode cX4_readQuay 10 = .ok (.invokevirtual 153, 3) := by decide +kernel
theorem dX4_readQuay_13 : decode cX4_readQuay 13 = .ok (.ifCond .ne 4, 3) := by decide +kernel
theorem dX4_readQuay_16 : decode cX4_readQuay 16 = .ok (.return_, 1) := by decide +kernel
theorem dX4_readQuay_17 : decode cX4_readQuay 17 = .ok (.aload_n 0, 1) := by decide +kernel
theorem dX4_readQuay_18 : decode cX4_readQuay 18 = .ok (.invokevirtual 175, 3) := by decide +kernel
theorem dX4_readQuay_21 : decode cX4_readQuay 21 = .ok (.istore_n 1, 1) := by decide +kernel
theorem dX4_readQuay_22 : decode cX4_readQuay 22 = .ok (.aload_n 0, 1) := by decide +kernel
theorem dX4_readQuay_23 : decode cX4_readQuay 23 = .ok (.bipush 28, 2) := by decide +kernel
theorem dX4_readQuay_25 : decode cX4_readQuay 25 = .ok (.invokevirtual 143, 3) := by decide +kernel
theorem dX4_readQuay_28 : decode cX4_readQuay 28 = .ok (.pop, 1) := by decide +kernel
theorem dX4_readQuay_29 : decode cX4_readQuay 29 = .ok (.aload_n 0, 1) := by decide +kernel
theorem dX4_readQuay_30 : decode cX4_readQuay 30 = .ok (.getfield 32, 3) := by decide +kernel
theorem dX4_readQuay_33 : decode cX4_readQuay 33 = .ok (.dup, 1) := by decide +kernel
theorem dX4_readQuay_34 : decode cX4_readQuay 34 = .ok (.getfield 202, 3) := by decide +kernel
theorem dX4_readQuay_37 : decode cX4_readQuay 37 = .ok (.iconst 1, 1) := by decide +kernel
theorem dX4_readQuay_38 : decode cX4_readQuay 38 = .ok (.iadd, 1) := by decide +kernel
theorem dX4_readQuay_39 : decode cX4_readQuay 39 = .ok (.putfield 202, 3) := by decide +kernel
theorem dX4_readQuay_42 : decode cX4_readQuay 42 = .ok (.aload_n 0, 1) := by decide +kernel
theorem dX4_readQuay_43 : decode cX4_readQuay 43 = .ok (.getfield 32, 3) := by decide +kernel
theorem dX4_readQuay_46 : decode cX4_readQuay 46 = .ok (.dup, 1) := by decide +kernel
theorem dX4_readQuay_47 : decode cX4_readQuay 47 = .ok (.getfield 205, 3) := by decide +kernel
theorem dX4_readQuay_50 : decode cX4_readQuay 50 = .ok (.iload_n 1, 1) := by decide +kernel
theorem dX4_readQuay_51 : decode cX4_readQuay 51 = .ok (.invokestatic 208, 3) := by decide +kernel
theorem dX4_readQuay_54 : decode cX4_readQuay 54 = .ok (.ior, 1) := by decide +kernel
theorem dX4_readQuay_55 : decode cX4_readQuay 55 = .ok (.putfield 205, 3) := by decide +kernel
theorem dX4_readQuay_58 : decode cX4_readQuay 58 = .ok (.return_, 1) := by decide +kernel
theorem b_X4_readQuay (mm : MM) (Q : Value → MM → Prop) (h : AtTown (mm.2.2 1 4) ∧ (∃ Pm2 : Value → MM → Prop, Runs e_X4_takeFirst [.ref 1, .int (4 : Int32), .int (mm.1 (mm.2.2 1 4) 11), .int (4 : Int32)] mm Pm2 ∧ (∀ r m2, Pm2 r m2 → r = .int 1 ∨ r = .int 0) ∧ (∀ m2, Pm2 (.int 1) m2 → (∃ Pm3 : Value → MM → Prop, Runs e_X4_readHouseName [.ref 1] m2 Pm3 ∧ ∀ (r3 : Int32) (m3 : MM), Pm3 (.int r3) m3 → (∃ Pm4 : Value → MM → Prop, Runs e_X4_take [.ref 1, .int (28 : Int32)] m3 Pm4 ∧ (∀ r m4, Pm4 r m4 → r = .int 1 ∨ r = .int 0) ∧ (∀ m4, Pm4 (.int 1) m4 → (AtTown (m4.2.2 1 4) ∧ (AtTown (m4.2.2 1 4) ∧ (Q .null (wI (wI m4 (m4.2.2 1 4) 11 ((m4.1 (m4.2.2 1 4) 11) + (1 : Int32))) (m4.2.2 1 4) 12 (((wI m4 (m4.2.2 1 4) 11 ((m4.1 (m4.2.2 1 4) 11) + (1 : Int32))).1 (m4.2.2 1 4) 12) ||| (v_X8_bitOf (wI m4 (m4.2.2 1 4) 11 ((m4.1 (m4.2.2 1 4) 11) + (1 : Int32))) r3))))))) ∧ (∀ m4, Pm4 (.int 0) m4 → (AtTown (m4.2.2 1 4) ∧ (AtTown (m4.2.2 1 4) ∧ (Q .null (wI (wI m4 (m4.2.2 1 4) 11 ((m4.1 (m4.2.2 1 4) 11) + (1 : Int32))) (m4.2.2 1 4) 12 (((wI m4 (m4.2.2 1 4) 11 ((m4.1 (m4.2.2 1 4) 11) + (1 : Int32))).1 (m4.2.2 1 4) 12) ||| (v_X8_bitOf (wI m4 (m4.2.2 1 4) 11 ((m4.1 (m4.2.2 1 4) 11) + (1 : Int32))) r3)))))))))) ∧ (∀ m2, Pm2 (.int 0) m2 → (Q .null m2)))) : Runs e_X4_readQuay [.ref 1] mm Q := by
  refine runs_of_G (L := [(0, .ref 1)]) pl_X4 (Nat.le_of_ble_eq_true rfl) rfl ?_
  refine g_aload_n (pc := 0) (x := 1) dX4_readQuay_0 rfl ?_
  refine g_iconst (pc := 1) (v := (4 : Int32)) dX4_readQuay_1 (by decide) ?_
  refine g_aload_n (pc := 2) (x := 1) dX4_readQuay_2 rfl ?_
  refine g_getVt (pc := 3) (t := (mm.2.2 1 4)) dX4_readQuay_3 fo_X4_32 sh_1 rfl rfl ?_
  have hr0 := h.1
  have h := h.2
  refine g_getI (pc := 6) dX4_readQuay_6 fo_X4_202 (AtTown_0 hr0) rfl ?_
  refine g_iconst (pc := 9) (v := (4 : Int32)) dX4_readQuay_9 (by decide) ?_
  obtain ⟨Pm2, hRm2, h⟩ := h
  refine g_callV (pc := 10) (as := [.int (4 : Int32), .int (mm.1 (mm.2.2 1 4) 11), .int (4 : Int32)]) dX4_readQuay_10 cw_X4_153 (by decide) rfl rfl sh_1 (Nat.le_of_ble_eq_true rfl) hRm2 ?_
  intro r_ m2 hz_ hp_
  rcases h.1 r_ m2 hp_ with rfl | rfl
  · have h := h.2.1 m2 hp_
    refine g_if_ne (pc := 13) (tgt := 17) dX4_readQuay_13 (by decide) (fun _ => ?_) (fun c13 => absurd c13 (by decide))
    refine g_aload_n (pc := 17) (x := 1) dX4_readQuay_17 rfl ?_
    obtain ⟨Pm3, hRm3, h⟩ := h
    refine g_callV (pc := 18) (as := []) dX4_readQuay_18 cw_X4_175 (by decide) rfl rfl sh_1 (Nat.le_of_ble_eq_true rfl) hRm3 ?_
    intro r_ m3 hz_ hp_
    obtain ⟨r3, rfl⟩ := hz_
    have h := h r3 m3 hp_
    refine g_istore_n (pc := 21) (L' := [(0, .ref 1), (1, .int r3)]) dX4_readQuay_21 (Nat.le_of_ble_eq_true rfl) rfl ?_
    refine g_aload_n (pc := 22) (x := 1) dX4_readQuay_22 rfl ?_
    refine g_bipush (pc := 23) (v := (28 : Int32)) dX4_readQuay_23 (by decide) ?_
    obtain ⟨Pm4, hRm4, h⟩ := h
    refine g_callV (pc := 25) (as := [.int (28 : Int32)]) dX4_readQuay_25 cw_X4_143 (by decide) rfl rfl sh_1 (Nat.le_of_ble_eq_true rfl) hRm4 ?_
    intro r_ m4 hz_ hp_
    rcases h.1 r_ m4 hp_ with rfl | rfl
    · have h := h.2.1 m4 hp_
      refine g_pop (pc := 28) dX4_readQuay_28 rfl ?_
      refine g_aload_n (pc := 29) (x := 1) dX4_readQuay_29 rfl ?_
      refine g_getVt (pc := 30) (t := (m4.2.2 1 4)) dX4_readQuay_30 fo_X4_32 sh_1 rfl rfl ?_
      have hr4 := h.1
      have h := h.2
      refine g_dup (pc := 33) dX4_readQuay_33 rfl ?_
      refine g_getI (pc := 34) dX4_readQuay_34 fo_X4_202 (AtTown_0 hr4) rfl ?_
      refine g_iconst (pc := 37) (v := (1 : Int32)) dX4_readQuay_37 (by decide) ?_
      refine g_iadd (pc := 38) dX4_readQuay_38 ?_
      refine g_putI (pc := 39) dX4_readQuay_39 fo_X4_202 (AtTown_0 hr4) rfl rfl rfl ?_
      refine g_aload_n (pc := 42) (x := 1) dX4_readQuay_42 rfl ?_
      refine g_getVt (pc := 43) (t := (m4.2.2 1 4)) dX4_readQuay_43 fo_X4_32 sh_1 rfl rfl ?_
      have hr5 := h.1
      have h := h.2
      refine g_dup (pc := 46) dX4_readQuay_46 rfl ?_
      refine g_getI (pc := 47) dX4_readQuay_47 fo_X4_205 (AtTown_0 hr5) rfl ?_
      refine g_iload_n (pc := 50) (x := r3) dX4_readQuay_50 rfl ?_
      refine g_callSN (pc := 51) (as := [.int r3]) dX4_readQuay_51 cw_X4_208 (by decide) rfl rfl (Nat.le_of_ble_eq_true rfl) (rv_X8_bitOf (wI m4 (m4.2.2 1 4) 11 ((m4.1 (m4.2.2 1 4) 11) + (1 : Int32))) r3) ?_
      rintro r_ m_ hz_ ⟨rfl, rfl⟩
      refine g_ior (pc := 54) dX4_readQuay_54 ?_
      refine g_putI (pc := 55) dX4_readQuay_55 fo_X4_205 (AtTown_0 hr5) rfl rfl rfl ?_
      exact g_vret (pc := 58) dX4_readQuay_58 rfl rfl h
    · have h := h.2.2 m4 hp_
      refine g_pop (pc := 28) dX4_readQuay_28 rfl ?_
      refine g_aload_n (pc := 29) (x := 1) dX4_readQuay_29 rfl ?_
      refine g_getVt (pc := 30) (t := (m4.2.2 1 4)) dX4_readQuay_30 fo_X4_32 sh_1 rfl rfl ?_
      have hr4 := h.1
      have h := h.2
      refine g_dup (pc := 33) dX4_readQuay_33 rfl ?_
      refine g_getI (pc := 34) dX4_readQuay_34 fo_X4_202 (AtTown_0 hr4) rfl ?_
      refine g_iconst (pc := 37) (v := (1 : Int32)) dX4_readQuay_37 (by decide) ?_
      refine g_iadd (pc := 38) dX4_readQuay_38 ?_
      refine g_putI (pc := 39) dX4_readQuay_39 fo_X4_202 (AtTown_0 hr4) rfl rfl rfl ?_
      refine g_aload_n (pc := 42) (x := 1) dX4_readQuay_42 rfl ?_
      refine g_getVt (pc := 43) (t := (m4.2.2 1 4)) dX4_readQuay_43 fo_X4_32 sh_1 rfl rfl ?_
      have hr5 := h.1
      have h := h.2
      refine g_dup (pc := 46) dX4_readQuay_46 rfl ?_
      refine g_getI (pc := 47) dX4_readQuay_47 fo_X4_205 (AtTown_0 hr5) rfl ?_
      refine g_iload_n (pc := 50) (x := r3) dX4_readQuay_50 rfl ?_
      refine g_callSN (pc := 51) (as := [.int r3]) dX4_readQuay_51 cw_X4_208 (by decide) rfl rfl (Nat.le_of_ble_eq_true rfl) (rv_X8_bitOf (wI m4 (m4.2.2 1 4) 11 ((m4.1 (m4.2.2 1 4) 11) + (1 : Int32))) r3) ?_
      rintro r_ m_ hz_ ⟨rfl, rfl⟩
      refine g_ior (pc := 54) dX4_readQuay_54 ?_
      refine g_putI (pc := 55) dX4_readQuay_55 fo_X4_205 (AtTown_0 hr5) rfl rfl rfl ?_
      exact g_vret (pc := 58) dX4_readQuay_58 rfl rfl h
  · have h := h.2.2 m2 hp_
    refine g_if_ne (pc := 13) (tgt := 17) dX4_readQuay_13 (by decide) (fun c13 => absurd c13 (by decide)) (fun _ => ?_)
    exact g_vret (pc := 16) dX4_readQuay_16 rfl rfl h
theorem dX4_readWood_0 : decode cX4_readWood 0 = .ok (.aload_n 0, 1) := by decide +kernel
theorem dX4_readWood_1 : decode cX4_readWood 1 = .ok (.getfield 32, 3) := by decide +kernel
theorem dX4_readWood_4 : decode cX4_readWood 4 = .ok (.getfield 212, 3) := by decide +kernel
theorem dX4_readWood_7 : decode cX4_readWood 7 = .ok (.istore_n 1, 1) := by decide +kernel
theorem dX4_readWood_8 : decode cX4_readWood 8 = .ok (.aload_n 0, 1) := by decide +kernel
theorem dX4_readWood_9 : decode cX4_readWood 9 = .ok (.iconst 5, 1) := by decide +kernel
theorem dX4_readWood_10 : decode cX4_readWood 10 = .ok (.iload_n 1, 1) := by decide +kernel
theorem dX4_readWood_11 : decode cX4_readWood 11 = .ok (.bipush 8, 2) := by decide +kernel
theorem dX4_readWood_13 : decode cX4_readWood 13 = .ok (.invokevirtual 153, 3) := by decide +kernel
theorem dX4_readWood_16 : decode cX4_readWood 16 = .ok (.ifCond .ne 4, 3) := by decide +kernel
theorem dX4_readWood_19 : decode cX4_readWood 19 = .ok (.return_, 1) := by decide +kernel
theorem dX4_readWood_20 : decode cX4_readWood 20 = .ok (.aload_n 0, 1) := by decide +kernel
theorem dX4_readWood_21 : decode cX4_readWood 21 = .ok (.getfield 32, 3) := by decide +kernel
theorem dX4_readWood_24 : decode cX4_readWood 24 = .ok (.getfield 215, 3) := by decide +kernel
theorem dX4_readWood_27 : decode cX4_readWood 27 = .ok (.iload_n 1, 1) := by decide +kernel
theorem dX4_readWood_28 : decode cX4_readWood 28 = .ok (.aload_n 0, 1) := by decide +kernel
theorem dX4_readWood_29 : decode cX4_readWood 29 = .ok (.iconst 1, 1) := by decide +kernel
theorem dX4_readWood_30 : decode cX4_readWood 30 = .ok (.bipush 60, 2) := by decide +kernel
theorem dX4_readWood_32 : decode cX4_readWood 32 = .ok (.invokevirtual 147, 3) := by decide +kernel
theorem dX4_readWood_35 : decode cX4_readWood 35 = .ok (.iastore, 1) := by decide +kernel
theorem dX4_readWood_36 : decode cX4_readWood 36 = .ok (.aload_n 0, 1) := by decide +kernel
theorem dX4_readWood_37 : decode cX4_readWood 37 = .ok (.getfield 39, 3) := by decide +kernel
theorem dX4_readWood_40 : decode cX4_readWood 40 = .ok (.getfield 218, 3) := by decide +kernel
theorem dX4_readWood_43 : decode cX4_readWood 43 = .ok (.iload_n 1, 1) := by decide +kernel
theorem dX4_readWood_44 : decode cX4_readWood 44 = .ok (.aload_n 0, 1) := by decide +kernel
theorem dX4_readWood_45 : decode cX4_readWood 45 = .ok (.iconst 0, 1) := by decide +kernel
theorem dX4_readWood_46 : decode cX4_readWood 46 = .ok (.bipush 99, 2) := by decide +kernel
theorem dX4_readWood_48 : decode cX4_readWood 48 = .ok (.invokevirtual 147, 3) := by decide +kernel
theorem dX4_readWood_51 : decode cX4_readWood 51 = .ok (.iastore, 1) := by decide +kernel
theorem dX4_readWood_52 : decode cX4_readWood 52 = .ok (.aload_n 0, 1) := by decide +kernel
theorem dX4_readWood_53 : decode cX4_readWood 53 = .ok (.bipush 28, 2) := by decide +kernel
theorem dX4_readWood_55 : decode cX4_readWood 55 = .ok (.invokevirtual 143, 3) := by decide +kernel
theorem dX4_readWood_58 : decode cX4_readWood 58 = .ok (.pop, 1) := by decide +kernel
theorem dX4_readWood_59 : decode cX4_readWood 59 = .ok (.aload_n 0, 1) := by decide +kernel
theorem dX4_readWood_60 : decode cX4_readWood 60 = .ok (.getfield 32, 3) := by decide +kernel
theorem dX4_readWood_63 : decode cX4_readWood 63 = .ok (.dup, 1) := by decide +kernel
theorem dX4_readWood_64 : decode cX4_readWood 64 = .ok (.getfield 212, 3) := by decide +kernel
theorem dX4_readWood_67 : decode cX4_readWood 67 = .ok (.iconst 1, 1) := by decide +kernel
theorem dX4_readWood_68 : decode cX4_readWood 68 = .ok (.iadd, 1) := by decide +kernel
theorem dX4_readWood_69 : decode cX4_readWood 69 = .ok (.putfield 212, 3) := by decide +kernel
theorem dX4_readWood_72 : decode cX4_readWood 72 = .ok (.return_, 1) := by decide +kernel
theorem b_X4_readWood (mm : MM) (Q : Value → MM → Prop) (h : AtTown (mm.2.2 1 4) ∧ (∃ Pm2 : Value → MM → Prop, Runs e_X4_takeFirst [.ref 1, .int (5 : Int32), .int (mm.1 (mm.2.2 1 4) 13), .int (8 : Int32)] mm Pm2 ∧ (∀ r m2, Pm2 r m2 → r = .int 1 ∨ r = .int 0) ∧ (∀ m2, Pm2 (.int 1) m2 → (AtTown (m2.2.2 1 4) ∧ (∃ Pm4 : Value → MM → Prop, Runs e_X4_readInt [.ref 1, .int (1 : Int32), .int (60 : Int32)] m2 Pm4 ∧ ∀ (r4 : Int32) (m4 : MM), Pm4 (.int r4) m4 → (vp_in (mm.1 (mm.2.2 1 4) 13) 8 ∧ (AtState (m4.2.2 1 5) ∧ (∃ Pm6 : Value → MM → Prop, Runs e_X4_readInt [.ref 1, .int (0 : Int32), .int (99 : Int32)] (wI m4 ((m2.2.2 1 4) + 7) ((mm.1 (mm.2.2 1 4) 13).toNatClampNeg) r4) Pm6 ∧ ∀ (r6 : Int32) (m6 : MM), Pm6 (.int r6) m6 → (vp_in (mm.1 (mm.2.2 1 4) 13) 8 ∧ (∃ Pm7 : Value → MM → Prop, Runs e_X4_take [.ref 1, .int (28 : Int32)] (wI m6 ((m4.2.2 1 5) + 3) ((mm.1 (mm.2.2 1 4) 13).toNatClampNeg) r6) Pm7 ∧ (∀ r m7, Pm7 r m7 → r = .int 1 ∨ r = .int 0) ∧ (∀ m7, Pm7 (.int 1) m7 → (AtTown (m7.2.2 1 4) ∧ (Q .null (wI m7 (m7.2.2 1 4) 13 ((m7.1 (m7.2.2 1 4) 13) + (1 : Int32)))))) ∧ (∀ m7, Pm7 (.int 0) m7 → (AtTown (m7.2.2 1 4) ∧ (Q .null (wI m7 (m7.2.2 1 4) 13 ((m7.1 (m7.2.2 1 4) 13) + (1 : Int32)))))))))))))) ∧ (∀ m2, Pm2 (.int 0) m2 → (Q .null m2)))) : Runs e_X4_readWood [.ref 1] mm Q := by
  refine runs_of_G (L := [(0, .ref 1)]) pl_X4 (Nat.le_of_ble_eq_true rfl) rfl ?_
  refine g_aload_n (pc := 0) (x := 1) dX4_readWood_0 rfl ?_
  refine g_getVt (pc := 1) (t := (mm.2.2 1 4)) dX4_readWood_1 fo_X4_32 sh_1 rfl rfl ?_
  have hr0 := h.1
  have h := h.2
  refine g_getI (pc := 4) dX4_readWood_4 fo_X4_212 (AtTown_0 hr0) rfl ?_
  refine g_istore_n (pc := 7) (L' := [(0, .ref 1), (1, .int (mm.1 (mm.2.2 1 4) 13))]) dX4_readWood_7 (Nat.le_of_ble_eq_true rfl) rfl ?_
  refine g_aload_n (pc := 8) (x := 1) dX4_readWood_8 rfl ?_
  refine g_iconst (pc := 9) (v := (5 : Int32)) dX4_readWood_9 (by decide) ?_
  refine g_iload_n (pc := 10) (x := (mm.1 (mm.2.2 1 4) 13)) dX4_readWood_10 rfl ?_
  refine g_bipush (pc := 11) (v := (8 : Int32)) dX4_readWood_11 (by decide) ?_
  obtain ⟨Pm2, hRm2, h⟩ := h
  refine g_callV (pc := 13) (as := [.int (5 : Int32), .int (mm.1 (mm.2.2 1 4) 13), .int (8 : Int32)]) dX4_readWood_13 cw_X4_153 (by decide) rfl rfl sh_1 (Nat.le_of_ble_eq_true rfl) hRm2 ?_
  intro r_ m2 hz_ hp_
  rcases h.1 r_ m2 hp_ with rfl | rfl
  · have h := h.2.1 m2 hp_
    refine g_if_ne (pc := 16) (tgt := 20) dX4_readWood_16 (by decide) (fun _ => ?_) (fun c16 => absurd c16 (by decide))
    refine g_aload_n (pc := 20) (x := 1) dX4_readWood_20 rfl ?_
    refine g_getVt (pc := 21) (t := (m2.2.2 1 4)) dX4_readWood_21 fo_X4_32 sh_1 rfl rfl ?_
    have hr2 := h.1
    have h := h.2
    refine g_getR (pc := 24) (dd := 7) dX4_readWood_24 fo_X4_215 (AtTown_0 hr2) rfl ?_
    refine g_iload_n (pc := 27) (x := (mm.1 (mm.2.2 1 4) 13)) dX4_readWood_27 rfl ?_
    refine g_aload_n (pc := 28) (x := 1) dX4_readWood_28 rfl ?_
    refine g_iconst (pc := 29) (v := (1 : Int32)) dX4_readWood_29 (by decide) ?_
    refine g_bipush (pc := 30) (v := (60 : Int32)) dX4_readWood_30 (by decide) ?_
    obtain ⟨Pm4, hRm4, h⟩ := h
    refine g_callV (pc := 32) (as := [.int (1 : Int32), .int (60 : Int32)]) dX4_readWood_32 cw_X4_147 (by decide) rfl rfl sh_1 (Nat.le_of_ble_eq_true rfl) hRm4 ?_
    intro r_ m4 hz_ hp_
    obtain ⟨r4, rfl⟩ := hz_
    have h := h r4 m4 hp_
    refine g_iastore (pc := 35) dX4_readWood_35 (AtTown_7 hr2) h.1 ?_
    have h := h.2
    refine g_aload_n (pc := 36) (x := 1) dX4_readWood_36 rfl ?_
    refine g_getVt (pc := 37) (t := (m4.2.2 1 5)) dX4_readWood_37 fo_X4_39 sh_1 rfl rfl ?_
    have hr4 := h.1
    have h := h.2
    refine g_getR (pc := 40) (dd := 3) dX4_readWood_40 fo_X4_218 (AtState_0 hr4) rfl ?_
    refine g_iload_n (pc := 43) (x := (mm.1 (mm.2.2 1 4) 13)) dX4_readWood_43 rfl ?_
    refine g_aload_n (pc := 44) (x := 1) dX4_readWood_44 rfl ?_
    refine g_iconst (pc := 45) (v := (0 : Int32)) dX4_readWood_45 (by decide) ?_
    refine g_bipush (pc := 46) (v := (99 : Int32)) dX4_readWood_46 (by decide) ?_
    obtain ⟨Pm6, hRm6, h⟩ := h
    refine g_callV (pc := 48) (as := [.int (0 : Int32), .int (99 : Int32)]) dX4_readWood_48 cw_X4_147 (by decide) rfl rfl sh_1 (Nat.le_of_ble_eq_true rfl) hRm6 ?_
    intro r_ m6 hz_ hp_
    obtain ⟨r6, rfl⟩ := hz_
    have h := h r6 m6 hp_
    refine g_iastore (pc := 51) dX4_readWood_51 (AtState_3 hr4) h.1 ?_
    have h := h.2
    refine g_aload_n (pc := 52) (x := 1) dX4_readWood_52 rfl ?_
    refine g_bipush (pc := 53) (v := (28 : Int32)) dX4_readWood_53 (by decide) ?_
    obtain ⟨Pm7, hRm7, h⟩ := h
    refine g_callV (pc := 55) (as := [.int (28 : Int32)]) dX4_readWood_55 cw_X4_143 (by decide) rfl rfl sh_1 (Nat.le_of_ble_eq_true rfl) hRm7 ?_
    intro r_ m7 hz_ hp_
    rcases h.1 r_ m7 hp_ with rfl | rfl
    · have h := h.2.1 m7 hp_
      refine g_pop (pc := 58) dX4_readWood_58 rfl ?_
      refine g_aload_n (pc := 59) (x := 1) dX4_readWood_59 rfl ?_
      refine g_getVt (pc := 60) (t := (m7.2.2 1 4)) dX4_readWood_60 fo_X4_32 sh_1 rfl rfl ?_
      have hr7 := h.1
      have h := h.2
      refine g_dup (pc := 63) dX4_readWood_63 rfl ?_
      refine g_getI (pc := 64) dX4_readWood_64 fo_X4_212 (AtTown_0 hr7) rfl ?_
      refine g_iconst (pc := 67) (v := (1 : Int32)) dX4_readWood_67 (by decide) ?_
      refine g_iadd (pc := 68) dX4_readWood_68 ?_
      refine g_putI (pc := 69) dX4_readWood_69 fo_X4_212 (AtTown_0 hr7) rfl rfl rfl ?_
      exact g_vret (pc := 72) dX4_readWood_72 rfl rfl h
    · have h := h.2.2 m7 hp_
      refine g_pop (pc := 58) dX4_readWood_58 rfl ?_
      refine g_aload_n (pc := 59) (x := 1) dX4_readWood_59 rfl ?_
      refine g_getVt (pc := 60) (t := (m7.2.2 1 4)) dX4_readWood_60 fo_X4_32 sh_1 rfl rfl ?_
      have hr7 := h.1
      have h := h.2
      refine g_dup (pc := 63) dX4_readWood_63 rfl ?_
      refine g_getI (pc := 64) dX4_readWood_64 fo_X4_212 (AtTown_0 hr7) rfl ?_
      refine g_iconst (pc := 67) (v := (1 : Int32)) dX4_readWood_67 (by decide) ?_
      refine g_iadd (pc := 68) dX4_readWood_68 ?_
      refine g_putI (pc := 69) dX4_readWood_69 fo_X4_212 (AtTown_0 hr7) rfl rfl rfl ?_
      exact g_vret (pc := 72) dX4_readWood_72 rfl rfl h
  · have h := h.2.2 m2 hp_
    refine g_if_ne (pc := 16) (tgt := 20) dX4_readWood_16 (by decide) (fun c16 => absurd c16 (by decide)) (fun _ => ?_)
    exact g_vret (pc := 19) dX4_readWood_19 rfl rfl h
theorem dX4_readLaw_0 : decode cX4_readLaw 0 = .ok (.aload_n 0, 1) := by decide +kernel
theorem dX4_readLaw_1 : decode cX4_readLaw 1 = .ok (.iload_n 1, 1) := by decide +kernel
theorem dX4_readLaw_2 : decode cX4_readLaw 2 = .ok (.invokevirtual 143, 3) := by decide +kernel
theorem dX4_readLaw_5 : decode cX4_readLaw 5 = .ok (.pop, 1) := by decide +kernel
theorem dX4_readLaw_6 : decode cX4_readLaw 6 = .ok (.aload_n 0, 1) := by decide +kernel
theorem dX4_readLaw_7 : decode cX4_readLaw 7 = .ok (.bipush 29, 2) := by decide +kernel
theorem dX4_readLaw_9 : decode cX4_readLaw 9 = .ok (.invokevirtual 143, 3) := by decide +kernel
theorem dX4_readLaw_12 : decode cX4_readLaw 12 = .ok (.pop, 1) := by decide +kernel
theorem dX4_readLaw_13 : decode cX4_readLaw 13 = .ok (.aload_n 0, 1) := by decide +kernel
theorem dX4_readLaw_14 : decode cX4_readLaw 14 = .ok (.getfield 32, 3) := by decide +kernel
theorem dX4_readLaw_17 : decode cX4_readLaw 17 = .ok (.getfield 124, 3) := by decide +kernel
theorem dX4_readLaw_20 : decode cX4_readLaw 20 = .ok (.getfield 221, 3) := by decide +kernel
theorem dX4_readLaw_23 : decode cX4_readLaw 23 = .ok (.istore_n 2, 1) := by decide +kernel
theorem dX4_readLaw_24 : decode cX4_readLaw 24 = .ok (.aload_n 0, 1) := by decide +kernel
theorem dX4_readLaw_25 : decode cX4_readLaw 25 = .ok (.iconst 0, 1) := by decide +kernel
theorem dX4_readLaw_26 : decode cX4_readLaw 26 = .ok (.invokevirtual 224, 3) := by decide +kernel
theorem dX4_readLaw_29 : decode cX4_readLaw 29 = .ok (.aload_n 0, 1) := by decide +kernel
theorem dX4_readLaw_30 : decode cX4_readLaw 30 = .ok (.getfield 32, 3) := by decide +kernel
theorem dX4_readLaw_33 : decode cX4_readLaw 33 = .ok (.getfield 124, 3) := by decide +kernel
theorem dX4_readLaw_36 : decode cX4_readLaw 36 = .ok (.iload_n 1, 1) := by decide +kernel
theorem dX4_readLaw_37 : decode cX4_readLaw 37 = .ok (.iload_n 2, 1) := by decide +kernel
theorem dX4_readLaw_38 : decode cX4_readLaw 38 = .ok (.invokevirtual 227, 3) := by decide +kernel
theorem dX4_readLaw_41 : decode cX4_readLaw 41 = .ok (.return_, 1) := by decide +kernel
theorem b_X4_readLaw (mm : MM) (Q : Value → MM → Prop) (a1 : Int32) (h : ∃ Pm1 : Value → MM → Prop, Runs e_X4_take [.ref 1, .int a1] mm Pm1 ∧ (∀ r m1, Pm1 r m1 → r = .int 1 ∨ r = .int 0) ∧ (∀ m1, Pm1 (.int 1) m1 → (∃ Pm2 : Value → MM → Prop, Runs e_X4_take [.ref 1, .int (29 : Int32)] m1 Pm2 ∧ (∀ r m2, Pm2 r m2 → r = .int 1 ∨ r = .int 0) ∧ (∀ m2, Pm2 (.int 1) m2 → (AtTown (m2.2.2 1 4) ∧ (∃ Pm4 : Value → MM → Prop, Runs e_X4_readFormula [.ref 1, .int (0 : Int32)] m2 Pm4 ∧ ∀ m4, Pm4 .null m4 → (AtTown (m4.2.2 1 4) ∧ (∃ Pm6 : Value → MM → Prop, Runs e_X1_tell [.ref ((m4.2.2 1 4) + 8), .int a1, .int (m2.1 ((m2.2.2 1 4) + 8) 5)] m4 Pm6 ∧ ∀ m6, Pm6 .null m6 → (Q .null m6)))))) ∧ (∀ m2, Pm2 (.int 0) m2 → (AtTown (m2.2.2 1 4) ∧ (∃ Pm4 : Value → MM → Prop, Runs e_X4_readFormula [.ref 1, .int (0 : Int32)] m2 Pm4 ∧ ∀ m4, Pm4 .null m4 → (AtTown (m4.2.2 1 4) ∧ (∃ Pm6 : Value → MM → Prop, Runs e_X1_tell [.ref ((m4.2.2 1 4) + 8), .int a1, .int (m2.1 ((m2.2.2 1 4) + 8) 5)] m4 Pm6 ∧ ∀ m6, Pm6 .null m6 → (Q .null m6)))))))) ∧ (∀ m1, Pm1 (.int 0) m1 → (∃ Pm2 : Value → MM → Prop, Runs e_X4_take [.ref 1, .int (29 : Int32)] m1 Pm2 ∧ (∀ r m2, Pm2 r m2 → r = .int 1 ∨ r = .int 0) ∧ (∀ m2, Pm2 (.int 1) m2 → (AtTown (m2.2.2 1 4) ∧ (∃ Pm4 : Value → MM → Prop, Runs e_X4_readFormula [.ref 1, .int (0 : Int32)] m2 Pm4 ∧ ∀ m4, Pm4 .null m4 → (AtTown (m4.2.2 1 4) ∧ (∃ Pm6 : Value → MM → Prop, Runs e_X1_tell [.ref ((m4.2.2 1 4) + 8), .int a1, .int (m2.1 ((m2.2.2 1 4) + 8) 5)] m4 Pm6 ∧ ∀ m6, Pm6 .null m6 → (Q .null m6)))))) ∧ (∀ m2, Pm2 (.int 0) m2 → (AtTown (m2.2.2 1 4) ∧ (∃ Pm4 : Value → MM → Prop, Runs e_X4_readFormula [.ref 1, .int (0 : Int32)] m2 Pm4 ∧ ∀ m4, Pm4 .null m4 → (AtTown (m4.2.2 1 4) ∧ (∃ Pm6 : Value → MM → Prop, Runs e_X1_tell [.ref ((m4.2.2 1 4) + 8), .int a1, .int (m2.1 ((m2.2.2 1 4) + 8) 5)] m4 Pm6 ∧ ∀ m6, Pm6 .null m6 → (Q .null m6))))))))) : Runs e_X4_readLaw [.ref 1, .int a1] mm Q := by
  refine runs_of_G (L := [(0, .ref 1), (1, .int a1)]) pl_X4 (Nat.le_of_ble_eq_true rfl) rfl ?_
  refine g_aload_n (pc := 0) (x := 1) dX4_readLaw_0 rfl ?_
  refine g_iload_n (pc := 1) (x := a1) dX4_readLaw_1 rfl ?_
  obtain ⟨Pm1, hRm1, h⟩ := h
  refine g_callV (pc := 2) (as := [.int a1]) dX4_readLaw_2 cw_X4_143 (by decide) rfl rfl sh_1 (Nat.le_of_ble_eq_true rfl) hRm1 ?_
  intro r_ m1 hz_ hp_
  rcases h.1 r_ m1 hp_ with rfl | rfl
  · have h := h.2.1 m1 hp_
    refine g_pop (pc := 5) dX4_readLaw_5 rfl ?_
    refine g_aload_n (pc := 6) (x := 1) dX4_readLaw_6 rfl ?_
    refine g_bipush (pc := 7) (v := (29 : Int32)) dX4_readLaw_7 (by decide) ?_
    obtain ⟨Pm2, hRm2, h⟩ := h
    refine g_callV (pc := 9) (as := [.int (29 : Int32)]) dX4_readLaw_9 cw_X4_143 (by decide) rfl rfl sh_1 (Nat.le_of_ble_eq_true rfl) hRm2 ?_
    intro r_ m2 hz_ hp_
    rcases h.1 r_ m2 hp_ with rfl | rfl
    · have h := h.2.1 m2 hp_
      refine g_pop (pc := 12) dX4_readLaw_12 rfl ?_
      refine g_aload_n (pc := 13) (x := 1) dX4_readLaw_13 rfl ?_
      refine g_getVt (pc := 14) (t := (m2.2.2 1 4)) dX4_readLaw_14 fo_X4_32 sh_1 rfl rfl ?_
      have hr2 := h.1
      have h := h.2
      refine g_getR (pc := 17) (dd := 8) dX4_readLaw_17 fo_X4_124 (AtTown_0 hr2) rfl ?_
      refine g_getI (pc := 20) dX4_readLaw_20 fo_X4_221 (AtLaws_0 (AtTown.laws hr2)) rfl ?_
      refine g_istore_n (pc := 23) (L' := [(0, .ref 1), (1, .int a1), (2, .int (m2.1 ((m2.2.2 1 4) + 8) 5))]) dX4_readLaw_23 (Nat.le_of_ble_eq_true rfl) rfl ?_
      refine g_aload_n (pc := 24) (x := 1) dX4_readLaw_24 rfl ?_
      refine g_iconst (pc := 25) (v := (0 : Int32)) dX4_readLaw_25 (by decide) ?_
      obtain ⟨Pm4, hRm4, h⟩ := h
      refine g_callV (pc := 26) (as := [.int (0 : Int32)]) dX4_readLaw_26 cw_X4_224 (by decide) rfl rfl sh_1 (Nat.le_of_ble_eq_true rfl) hRm4 ?_
      intro r_ m4 hz_ hp_
      obtain rfl := hz_
      have h := h m4 hp_
      refine g_aload_n (pc := 29) (x := 1) dX4_readLaw_29 rfl ?_
      refine g_getVt (pc := 30) (t := (m4.2.2 1 4)) dX4_readLaw_30 fo_X4_32 sh_1 rfl rfl ?_
      have hr4 := h.1
      have h := h.2
      refine g_getR (pc := 33) (dd := 8) dX4_readLaw_33 fo_X4_124 (AtTown_0 hr4) rfl ?_
      refine g_iload_n (pc := 36) (x := a1) dX4_readLaw_36 rfl ?_
      refine g_iload_n (pc := 37) (x := (m2.1 ((m2.2.2 1 4) + 8) 5)) dX4_readLaw_37 rfl ?_
      obtain ⟨Pm6, hRm6, h⟩ := h
      refine g_callV (pc := 38) (as := [.int a1, .int (m2.1 ((m2.2.2 1 4) + 8) 5)]) dX4_readLaw_38 cw_X4_227 (by decide) rfl rfl (AtLaws_0 (AtTown.laws hr4)) (Nat.le_of_ble_eq_true rfl) hRm6 ?_
      intro r_ m6 hz_ hp_
      obtain rfl := hz_
      have h := h m6 hp_
      exact g_vret (pc := 41) dX4_readLaw_41 rfl rfl h
    · have h := h.2.2 m2 hp_
      refine g_pop (pc := 12) dX4_readLaw_12 rfl ?_
      refine g_aload_n (pc := 13) (x := 1) dX4_readLaw_13 rfl ?_
      refine g_getVt (pc := 14) (t := (m2.2.2 1 4)) dX4_readLaw_14 fo_X4_32 sh_1 rfl rfl ?_
      have hr2 := h.1
      have h := h.2
      refine g_getR (pc := 17) (dd := 8) dX4_readLaw_17 fo_X4_124 (AtTown_0 hr2) rfl ?_
      refine g_getI (pc := 20) dX4_readLaw_20 fo_X4_221 (AtLaws_0 (AtTown.laws hr2)) rfl ?_
      refine g_istore_n (pc := 23) (L' := [(0, .ref 1), (1, .int a1), (2, .int (m2.1 ((m2.2.2 1 4) + 8) 5))]) dX4_readLaw_23 (Nat.le_of_ble_eq_true rfl) rfl ?_
      refine g_aload_n (pc := 24) (x := 1) dX4_readLaw_24 rfl ?_
      refine g_iconst (pc := 25) (v := (0 : Int32)) dX4_readLaw_25 (by decide) ?_
      obtain ⟨Pm4, hRm4, h⟩ := h
      refine g_callV (pc := 26) (as := [.int (0 : Int32)]) dX4_readLaw_26 cw_X4_224 (by decide) rfl rfl sh_1 (Nat.le_of_ble_eq_true rfl) hRm4 ?_
      intro r_ m4 hz_ hp_
      obtain rfl := hz_
      have h := h m4 hp_
      refine g_aload_n (pc := 29) (x := 1) dX4_readLaw_29 rfl ?_
      refine g_getVt (pc := 30) (t := (m4.2.2 1 4)) dX4_readLaw_30 fo_X4_32 sh_1 rfl rfl ?_
      have hr4 := h.1
      have h := h.2
      refine g_getR (pc := 33) (dd := 8) dX4_readLaw_33 fo_X4_124 (AtTown_0 hr4) rfl ?_
      refine g_iload_n (pc := 36) (x := a1) dX4_readLaw_36 rfl ?_
      refine g_iload_n (pc := 37) (x := (m2.1 ((m2.2.2 1 4) + 8) 5)) dX4_readLaw_37 rfl ?_
      obtain ⟨Pm6, hRm6, h⟩ := h
      refine g_callV (pc := 38) (as := [.int a1, .int (m2.1 ((m2.2.2 1 4) + 8) 5)]) dX4_readLaw_38 cw_X4_227 (by decide) rfl rfl (AtLaws_0 (AtTown.laws hr4)) (Nat.le_of_ble_eq_true rfl) hRm6 ?_
      intro r_ m6 hz_ hp_
      obtain rfl := hz_
      have h := h m6 hp_
      exact g_vret (pc := 41) dX4_readLaw_41 rfl rfl h
  · have h := h.2.2 m1 hp_
    refine g_pop (pc := 5) dX4_readLaw_5 rfl ?_
    refine g_aload_n (pc := 6) (x := 1) dX4_readLaw_6 rfl ?_
    refine g_bipush (pc := 7) (v := (29 : Int32)) dX4_readLaw_7 (by decide) ?_
    obtain ⟨Pm2, hRm2, h⟩ := h
    refine g_callV (pc := 9) (as := [.int (29 : Int32)]) dX4_readLaw_9 cw_X4_143 (by decide) rfl rfl sh_1 (Nat.le_of_ble_eq_true rfl) hRm2 ?_
    intro r_ m2 hz_ hp_
    rcases h.1 r_ m2 hp_ with rfl | rfl
    · have h := h.2.1 m2 hp_
      refine g_pop (pc := 12) dX4_readLaw_12 rfl ?_
      refine g_aload_n (pc := 13) (x := 1) dX4_readLaw_13 rfl ?_
      refine g_getVt (pc := 14) (t := (m2.2.2 1 4)) dX4_readLaw_14 fo_X4_32 sh_1 rfl rfl ?_
      have hr2 := h.1
      have h := h.2
      refine g_getR (pc := 17) (dd := 8) dX4_readLaw_17 fo_X4_124 (AtTown_0 hr2) rfl ?_
      refine g_getI (pc := 20) dX4_readLaw_20 fo_X4_221 (AtLaws_0 (AtTown.laws hr2)) rfl ?_
      refine g_istore_n (pc := 23) (L' := [(0, .ref 1), (1, .int a1), (2, .int (m2.1 ((m2.2.2 1 4) + 8) 5))]) dX4_readLaw_23 (Nat.le_of_ble_eq_true rfl) rfl ?_
      refine g_aload_n (pc := 24) (x := 1) dX4_readLaw_24 rfl ?_
      refine g_iconst (pc := 25) (v := (0 : Int32)) dX4_readLaw_25 (by decide) ?_
      obtain ⟨Pm4, hRm4, h⟩ := h
      refine g_callV (pc := 26) (as := [.int (0 : Int32)]) dX4_readLaw_26 cw_X4_224 (by decide) rfl rfl sh_1 (Nat.le_of_ble_eq_true rfl) hRm4 ?_
      intro r_ m4 hz_ hp_
      obtain rfl := hz_
      have h := h m4 hp_
      refine g_aload_n (pc := 29) (x := 1) dX4_readLaw_29 rfl ?_
      refine g_getVt (pc := 30) (t := (m4.2.2 1 4)) dX4_readLaw_30 fo_X4_32 sh_1 rfl rfl ?_
      have hr4 := h.1
      have h := h.2
      refine g_getR (pc := 33) (dd := 8) dX4_readLaw_33 fo_X4_124 (AtTown_0 hr4) rfl ?_
      refine g_iload_n (pc := 36) (x := a1) dX4_readLaw_36 rfl ?_
      refine g_iload_n (pc := 37) (x := (m2.1 ((m2.2.2 1 4) + 8) 5)) dX4_readLaw_37 rfl ?_
      obtain ⟨Pm6, hRm6, h⟩ := h
      refine g_callV (pc := 38) (as := [.int a1, .int (m2.1 ((m2.2.2 1 4) + 8) 5)]) dX4_readLaw_38 cw_X4_227 (by decide) rfl rfl (AtLaws_0 (AtTown.laws hr4)) (Nat.le_of_ble_eq_true rfl) hRm6 ?_
      intro r_ m6 hz_ hp_
      obtain rfl := hz_
      have h := h m6 hp_
      exact g_vret (pc := 41) dX4_readLaw_41 rfl rfl h
    · have h := h.2.2 m2 hp_
      refine g_pop (pc := 12) dX4_readLaw_12 rfl ?_
      refine g_aload_n (pc := 13) (x := 1) dX4_readLaw_13 rfl ?_
      refine g_getVt (pc := 14) (t := (m2.2.2 1 4)) dX4_readLaw_14 fo_X4_32 sh_1 rfl rfl ?_
      have hr2 := h.1
      have h := h.2
      refine g_getR (pc := 17) (dd := 8) dX4_readLaw_17 fo_X4_124 (AtTown_0 hr2) rfl ?_
      refine g_getI (pc := 20) dX4_readLaw_20 fo_X4_221 (AtLaws_0 (AtTown.laws hr2)) rfl ?_
      refine g_istore_n (pc := 23) (L' := [(0, .ref 1), (1, .int a1), (2, .int (m2.1 ((m2.2.2 1 4) + 8) 5))]) dX4_readLaw_23 (Nat.le_of_ble_eq_true rfl) rfl ?_
      refine g_aload_n (pc := 24) (x := 1) dX4_readLaw_24 rfl ?_
      refine g_iconst (pc := 25) (v := (0 : Int32)) dX4_readLaw_25 (by decide) ?_
      obtain ⟨Pm4, hRm4, h⟩ := h
      refine g_callV (pc := 26) (as := [.int (0 : Int32)]) dX4_readLaw_26 cw_X4_224 (by decide) rfl rfl sh_1 (Nat.le_of_ble_eq_true rfl) hRm4 ?_
      intro r_ m4 hz_ hp_
      obtain rfl := hz_
      have h := h m4 hp_
      refine g_aload_n (pc := 29) (x := 1) dX4_readLaw_29 rfl ?_
      refine g_getVt (pc := 30) (t := (m4.2.2 1 4)) dX4_readLaw_30 fo_X4_32 sh_1 rfl rfl ?_
      have hr4 := h.1
      have h := h.2
      refine g_getR (pc := 33) (dd := 8) dX4_readLaw_33 fo_X4_124 (AtTown_0 hr4) rfl ?_
      refine g_iload_n (pc := 36) (x := a1) dX4_readLaw_36 rfl ?_
      refine g_iload_n (pc := 37) (x := (m2.1 ((m2.2.2 1 4) + 8) 5)) dX4_readLaw_37 rfl ?_
      obtain ⟨Pm6, hRm6, h⟩ := h
      refine g_callV (pc := 38) (as := [.int a1, .int (m2.1 ((m2.2.2 1 4) + 8) 5)]) dX4_readLaw_38 cw_X4_227 (by decide) rfl rfl (AtLaws_0 (AtTown.laws hr4)) (Nat.le_of_ble_eq_true rfl) hRm6 ?_
      intro r_ m6 hz_ hp_
      obtain rfl := hz_
      have h := h m6 hp_
      exact g_vret (pc := 41) dX4_readLaw_41 rfl rfl h
theorem dX4_readRule_0 : decode cX4_readRule 0 = .ok (.aload_n 0, 1) := by decide +kernel
theorem dX4_readRule_1 : decode cX4_readRule 1 = .ok (.iload_n 1, 1) := by decide +kernel
theorem dX4_readRule_2 : decode cX4_readRule 2 = .ok (.iload_n 2, 1) := by decide +kernel
theorem dX4_readRule_3 : decode cX4_readRule 3 = .ok (.iconst 4, 1) := by decide +kernel
theorem dX4_readRule_4 : decode cX4_readRule 4 = .ok (.invokevirtual 153, 3) := by decide +kernel
theorem dX4_readRule_7 : decode cX4_readRule 7 = .ok (.ifCond .ne 4, 3) := by decide +kernel
theorem dX4_readRule_10 : decode cX4_readRule 10 = .ok (.return_, 1) := by decide +kernel
theorem dX4_readRule_11 : decode cX4_readRule 11 = .ok (.aload_n 0, 1) := by decide +kernel
theorem dX4_readRule_12 : decode cX4_readRule 12 = .ok (.bipush 22, 2) := by decide +kernel
theorem dX4_readRule_14 : decode cX4_readRule 14 = .ok (.invokevirtual 143, 3) := by decide +kernel
theorem dX4_readRule_17 : decode cX4_readRule 17 = .ok (.pop, 1) := by decide +kernel
theorem dX4_readRule_18 : decode cX4_readRule 18 = .ok (.aload_n 0, 1) := by decide +kernel
theorem dX4_readRule_19 : decode cX4_readRule 19 = .ok (.getfield 32, 3) := by decide +kernel
theorem dX4_readRule_22 : decode cX4_readRule 22 = .ok (.getfield 124, 3) := by decide +kernel
theorem dX4_readRule_25 : decode cX4_readRule 25 = .ok (.getfield 221, 3) := by decide +kernel
theorem dX4_readRule_28 : decode cX4_readRule 28 = .ok (.istore_n 3, 1) := by decide +kernel
theorem dX4_readRule_29 : decode cX4_readRule 29 = .ok (.aload_n 0, 1) := by decide +kernel
theorem dX4_readRule_30 : decode cX4_readRule 30 = .ok (.iconst 1, 1) := by decide +kernel
theorem dX4_readRule_31 : decode cX4_readRule 31 = .ok (.invokevirtual 224, 3) := by decide +kernel
theorem dX4_readRule_34 : decode cX4_readRule 34 = .ok (.aload_n 0, 1) := by decide +kernel
theorem dX4_readRule_35 : decode cX4_readRule 35 = .ok (.getfield 32, 3) := by decide +kernel
theorem dX4_readRule_38 : decode cX4_readRule 38 = .ok (.getfield 124, 3) := by decide +kernel
theorem dX4_readRule_41 : decode cX4_readRule 41 = .ok (.iload_n 1, 1) := by decide +kernel
theorem dX4_readRule_42 : decode cX4_readRule 42 = .ok (.iload_n 3, 1) := by decide +kernel
theorem dX4_readRule_43 : decode cX4_readRule 43 = .ok (.invokevirtual 227, 3) := by decide +kernel
theorem dX4_readRule_46 : decode cX4_readRule 46 = .ok (.return_, 1) := by decide +kernel
theorem b_X4_readRule (mm : MM) (Q : Value → MM → Prop) (a1 : Int32) (a2 : Int32) (h : ∃ Pm1 : Value → MM → Prop, Runs e_X4_takeFirst [.ref 1, .int a1, .int a2, .int (4 : Int32)] mm Pm1 ∧ (∀ r m1, Pm1 r m1 → r = .int 1 ∨ r = .int 0) ∧ (∀ m1, Pm1 (.int 1) m1 → (∃ Pm2 : Value → MM → Prop, Runs e_X4_take [.ref 1, .int (22 : Int32)] m1 Pm2 ∧ (∀ r m2, Pm2 r m2 → r = .int 1 ∨ r = .int 0) ∧ (∀ m2, Pm2 (.int 1) m2 → (AtTown (m2.2.2 1 4) ∧ (∃ Pm4 : Value → MM → Prop, Runs e_X4_readFormula [.ref 1, .int (1 : Int32)] m2 Pm4 ∧ ∀ m4, Pm4 .null m4 → (AtTown (m4.2.2 1 4) ∧ (∃ Pm6 : Value → MM → Prop, Runs e_X1_tell [.ref ((m4.2.2 1 4) + 8), .int a1, .int (m2.1 ((m2.2.2 1 4) + 8) 5)] m4 Pm6 ∧ ∀ m6, Pm6 .null m6 → (Q .null m6)))))) ∧ (∀ m2, Pm2 (.int 0) m2 → (AtTown (m2.2.2 1 4) ∧ (∃ Pm4 : Value → MM → Prop, Runs e_X4_readFormula [.ref 1, .int (1 : Int32)] m2 Pm4 ∧ ∀ m4, Pm4 .null m4 → (AtTown (m4.2.2 1 4) ∧ (∃ Pm6 : Value → MM → Prop, Runs e_X1_tell [.ref ((m4.2.2 1 4) + 8), .int a1, .int (m2.1 ((m2.2.2 1 4) + 8) 5)] m4 Pm6 ∧ ∀ m6, Pm6 .null m6 → (Q .null m6)))))))) ∧ (∀ m1, Pm1 (.int 0) m1 → (Q .null m1))) : Runs e_X4_readRule [.ref 1, .int a1, .int a2] mm Q := by
  refine runs_of_G (L := [(0, .ref 1), (1, .int a1), (2, .int a2)]) pl_X4 (Nat.le_of_ble_eq_true rfl) rfl ?_
  refine g_aload_n (pc := 0) (x := 1) dX4_readRule_0 rfl ?_
  refine g_iload_n (pc := 1) (x := a1) dX4_readRule_1 rfl ?_
  refine g_iload_n (pc := 2) (x := a2) dX4_readRule_2 rfl ?_
  refine g_iconst (pc := 3) (v := (4 : Int32)) dX4_readRule_3 (by decide) ?_
  obtain ⟨Pm1, hRm1, h⟩ := h
  refine g_callV (pc := 4) (as := [.int a1, .int a2, .int (4 : Int32)]) dX4_readRule_4 cw_X4_153 (by decide) rfl rfl sh_1 (Nat.le_of_ble_eq_true rfl) hRm1 ?_
  intro r_ m1 hz_ hp_
  rcases h.1 r_ m1 hp_ with rfl | rfl
  · have h := h.2.1 m1 hp_
    refine g_if_ne (pc := 7) (tgt := 11) dX4_readRule_7 (by decide) (fun _ => ?_) (fun c7 => absurd c7 (by decide))
    refine g_aload_n (pc := 11) (x := 1) dX4_readRule_11 rfl ?_
    refine g_bipush (pc := 12) (v := (22 : Int32)) dX4_readRule_12 (by decide) ?_
    obtain ⟨Pm2, hRm2, h⟩ := h
    refine g_callV (pc := 14) (as := [.int (22 : Int32)]) dX4_readRule_14 cw_X4_143 (by decide) rfl rfl sh_1 (Nat.le_of_ble_eq_true rfl) hRm2 ?_
    intro r_ m2 hz_ hp_
    rcases h.1 r_ m2 hp_ with rfl | rfl
    · have h := h.2.1 m2 hp_
      refine g_pop (pc := 17) dX4_readRule_17 rfl ?_
      refine g_aload_n (pc := 18) (x := 1) dX4_readRule_18 rfl ?_
      refine g_getVt (pc := 19) (t := (m2.2.2 1 4)) dX4_readRule_19 fo_X4_32 sh_1 rfl rfl ?_
      have hr2 := h.1
      have h := h.2
      refine g_getR (pc := 22) (dd := 8) dX4_readRule_22 fo_X4_124 (AtTown_0 hr2) rfl ?_
      refine g_getI (pc := 25) dX4_readRule_25 fo_X4_221 (AtLaws_0 (AtTown.laws hr2)) rfl ?_
      refine g_istore_n (pc := 28) (L' := [(0, .ref 1), (1, .int a1), (2, .int a2), (3, .int (m2.1 ((m2.2.2 1 4) + 8) 5))]) dX4_readRule_28 (Nat.le_of_ble_eq_true rfl) rfl ?_
      refine g_aload_n (pc := 29) (x := 1) dX4_readRule_29 rfl ?_
      refine g_iconst (pc := 30) (v := (1 : Int32)) dX4_readRule_30 (by decide) ?_
      obtain ⟨Pm4, hRm4, h⟩ := h
      refine g_callV (pc := 31) (as := [.int (1 : Int32)]) dX4_readRule_31 cw_X4_224 (by decide) rfl rfl sh_1 (Nat.le_of_ble_eq_true rfl) hRm4 ?_
      intro r_ m4 hz_ hp_
      obtain rfl := hz_
      have h := h m4 hp_
      refine g_aload_n (pc := 34) (x := 1) dX4_readRule_34 rfl ?_
      refine g_getVt (pc := 35) (t := (m4.2.2 1 4)) dX4_readRule_35 fo_X4_32 sh_1 rfl rfl ?_
      have hr4 := h.1
      have h := h.2
      refine g_getR (pc := 38) (dd := 8) dX4_readRule_38 fo_X4_124 (AtTown_0 hr4) rfl ?_
      refine g_iload_n (pc := 41) (x := a1) dX4_readRule_41 rfl ?_
      refine g_iload_n (pc := 42) (x := (m2.1 ((m2.2.2 1 4) + 8) 5)) dX4_readRule_42 rfl ?_
      obtain ⟨Pm6, hRm6, h⟩ := h
      refine g_callV (pc := 43) (as := [.int a1, .int (m2.1 ((m2.2.2 1 4) + 8) 5)]) dX4_readRule_43 cw_X4_227 (by decide) rfl rfl (AtLaws_0 (AtTown.laws hr4)) (Nat.le_of_ble_eq_true rfl) hRm6 ?_
      intro r_ m6 hz_ hp_
      obtain rfl := hz_
      have h := h m6 hp_
      exact g_vret (pc := 46) dX4_readRule_46 rfl rfl h
    · have h := h.2.2 m2 hp_
      refine g_pop (pc := 17) dX4_readRule_17 rfl ?_
      refine g_aload_n (pc := 18) (x := 1) dX4_readRule_18 rfl ?_
      refine g_getVt (pc := 19) (t := (m2.2.2 1 4)) dX4_readRule_19 fo_X4_32 sh_1 rfl rfl ?_
      have hr2 := h.1
      have h := h.2
      refine g_getR (pc := 22) (dd := 8) dX4_readRule_22 fo_X4_124 (AtTown_0 hr2) rfl ?_
      refine g_getI (pc := 25) dX4_readRule_25 fo_X4_221 (AtLaws_0 (AtTown.laws hr2)) rfl ?_
      refine g_istore_n (pc := 28) (L' := [(0, .ref 1), (1, .int a1), (2, .int a2), (3, .int (m2.1 ((m2.2.2 1 4) + 8) 5))]) dX4_readRule_28 (Nat.le_of_ble_eq_true rfl) rfl ?_
      refine g_aload_n (pc := 29) (x := 1) dX4_readRule_29 rfl ?_
      refine g_iconst (pc := 30) (v := (1 : Int32)) dX4_readRule_30 (by decide) ?_
      obtain ⟨Pm4, hRm4, h⟩ := h
      refine g_callV (pc := 31) (as := [.int (1 : Int32)]) dX4_readRule_31 cw_X4_224 (by decide) rfl rfl sh_1 (Nat.le_of_ble_eq_true rfl) hRm4 ?_
      intro r_ m4 hz_ hp_
      obtain rfl := hz_
      have h := h m4 hp_
      refine g_aload_n (pc := 34) (x := 1) dX4_readRule_34 rfl ?_
      refine g_getVt (pc := 35) (t := (m4.2.2 1 4)) dX4_readRule_35 fo_X4_32 sh_1 rfl rfl ?_
      have hr4 := h.1
      have h := h.2
      refine g_getR (pc := 38) (dd := 8) dX4_readRule_38 fo_X4_124 (AtTown_0 hr4) rfl ?_
      refine g_iload_n (pc := 41) (x := a1) dX4_readRule_41 rfl ?_
      refine g_iload_n (pc := 42) (x := (m2.1 ((m2.2.2 1 4) + 8) 5)) dX4_readRule_42 rfl ?_
      obtain ⟨Pm6, hRm6, h⟩ := h
      refine g_callV (pc := 43) (as := [.int a1, .int (m2.1 ((m2.2.2 1 4) + 8) 5)]) dX4_readRule_43 cw_X4_227 (by decide) rfl rfl (AtLaws_0 (AtTown.laws hr4)) (Nat.le_of_ble_eq_true rfl) hRm6 ?_
      intro r_ m6 hz_ hp_
      obtain rfl := hz_
      have h := h m6 hp_
      exact g_vret (pc := 46) dX4_readRule_46 rfl rfl h
  · have h := h.2.2 m1 hp_
    refine g_if_ne (pc := 7) (tgt := 11) dX4_readRule_7 (by decide) (fun c7 => absurd c7 (by decide)) (fun _ => ?_)
    exact g_vret (pc := 10) dX4_readRule_10 rfl rfl h
theorem dX4_readFormula_0 : decode cX4_readFormula 0 = .ok (.aload_n 0, 1) := by decide +kernel
theorem dX4_readFormula_1 : decode cX4_readFormula 1 = .ok (.iload_n 1, 1) := by decide +kernel
theorem dX4_readFormula_2 : decode cX4_readFormula 2 = .ok (.putfield 68, 3) := by decide +kernel
theorem dX4_readFormula_5 : decode cX4_readFormula 5 = .ok (.aload_n 0, 1) := by decide +kernel
theorem dX4_readFormula_6 : decode cX4_readFormula 6 = .ok (.iconst 0, 1) := by decide +kernel
theorem dX4_readFormula_7 : decode cX4_readFormula 7 = .ok (.putfield 71, 3) := by decide +kernel
theorem dX4_readFormula_10 : decode cX4_readFormula 10 = .ok (.aload_n 0, 1) := by decide +kernel
theorem dX4_readFormula_11 : decode cX4_readFormula 11 = .ok (.iconst 0, 1) := by decide +kernel
theorem dX4_readFormula_12 : decode cX4_readFormula 12 = .ok (.putfield 65, 3) := by decide +kernel
theorem dX4_readFormula_15 : decode cX4_readFormula 15 = .ok (.aload_n 0, 1) := by decide +kernel
theorem dX4_readFormula_16 : decode cX4_readFormula 16 = .ok (.iconst 1, 1) := by decide +kernel
theorem dX4_readFormula_17 : decode cX4_readFormula 17 = .ok (.putfield 74, 3) := by decide +kernel
theorem dX4_readFormula_20 : decode cX4_readFormula 20 = .ok (.aload_n 0, 1) := by decide +kernel
theorem dX4_readFormula_21 : decode cX4_readFormula 21 = .ok (.iload_n 1, 1) := by decide +kernel
theorem dX4_readFormula_22 : decode cX4_readFormula 22 = .ok (.iconst 1, 1) := by decide +kernel
theorem dX4_readFormula_23 : decode cX4_readFormula 23 = .ok (.if_icmp .ne 7, 3) := by decide +kernel
theorem dX4_readFormula_26 : decode cX4_readFormula 26 = .ok (.iconst 1, 1) := by decide +kernel
theorem dX4_readFormula_27 : decode cX4_readFormula 27 = .ok (.goto 4, 3) := by decide +kernel
theorem dX4_readFormula_30 : decode cX4_readFormula 30 = .ok (.iconst 0, 1) := by decide +kernel
theorem dX4_readFormula_31 : decode cX4_readFormula 31 = .ok (.putfield 78, 3) := by decide +kernel
theorem dX4_readFormula_34 : decode cX4_readFormula 34 = .ok (.iconst 0, 1) := by decide +kernel
theorem dX4_readFormula_35 : decode cX4_readFormula 35 = .ok (.istore_n 2, 1) := by decide +kernel
theorem dX4_readFormula_36 : decode cX4_readFormula 36 = .ok (.iload_n 2, 1) := by decide +kernel
theorem dX4_readFormula_37 : decode cX4_readFormula 37 = .ok (.sipush 400, 3) := by decide +kernel
theorem dX4_readFormula_40 : decode cX4_readFormula 40 = .ok (.if_icmp .gt 42, 3) := by decide +kernel
theorem dX4_readFormula_43 : decode cX4_readFormula 43 = .ok (.aload_n 0, 1) := by decide +kernel
theorem dX4_readFormula_44 : decode cX4_readFormula 44 = .ok (.getfield 47, 3) := by decide +kernel
theorem dX4_readFormula_47 : decode cX4_readFormula 47 = .ok (.ifCond .ne 35, 3) := by decide +kernel
theorem dX4_readFormula_50 : decode cX4_readFormula 50 = .ok (.aload_n 0, 1) := by decide +kernel
theorem dX4_readFormula_51 : decode cX4_readFormula 51 = .ok (.getfield 68, 3) := by decide +kernel
theorem dX4_readFormula_54 : decode cX4_readFormula 54 = .ok (.iconst 3, 1) := by decide +kernel
theorem dX4_readFormula_55 : decode cX4_readFormula 55 = .ok (.if_icmp .eq 27, 3) := by decide +kernel
theorem dX4_readFormula_58 : decode cX4_readFormula 58 = .ok (.aload_n 0, 1) := by decide +kernel
theorem dX4_readFormula_59 : decode cX4_readFormula 59 = .ok (.getfield 74, 3) := by decide +kernel
theorem dX4_readFormula_62 : decode cX4_readFormula 62 = .ok (.ifCond .eq 10, 3) := by decide +kernel
theorem dX4_readFormula_65 : decode cX4_readFormula 65 = .ok (.aload_n 0, 1) := by decide +kernel
theorem dX4_readFormula_66 : decode cX4_readFormula 66 = .ok (.invokevirtual 230, 3) := by decide +kernel
theorem dX4_readFormula_69 : decode cX4_readFormula 69 = .ok (.goto 7, 3) := by decide +kernel
theorem dX4_readFormula_72 : decode cX4_readFormula 72 = .ok (.aload_n 0, 1) := by decide +kernel
theorem dX4_readFormula_73 : decode cX4_readFormula 73 = .ok (.invokevirtual 233, 3) := by decide +kernel
theorem dX4_readFormula_76 : decode cX4_readFormula 76 = .ok (.iinc 2 1, 3) := by decide +kernel
theorem dX4_readFormula_79 : decode cX4_readFormula 79 = .ok (.goto (-43), 3) := by decide +kernel
theorem dX4_readFormula_82 : decode cX4_readFormula 82 = .ok (.return_, 1) := by decide +kernel
theorem b_X4_readFormula (mm : MM) (Q : Value → MM → Prop) (a1 : Int32) (h : (¬ a1 = (1 : Int32) → (G e_X4_readFormula 36 [(0, .ref 1), (2, .int (0 : Int32))] [] (wI (wI (wI (wI (wI mm 1 14 a1) 1 15 (0 : Int32)) 1 13 (0 : Int32)) 1 16 (1 : Int32)) 1 17 (0 : Int32)) Q)) ∧ (a1 = (1 : Int32) → (G e_X4_readFormula 36 [(0, .ref 1), (2, .int (0 : Int32))] [] (wI (wI (wI (wI (wI mm 1 14 a1) 1 15 (0 : Int32)) 1 13 (0 : Int32)) 1 16 (1 : Int32)) 1 17 (1 : Int32)) Q))) : Runs e_X4_readFormula [.ref 1, .int a1] mm Q := by
  refine runs_of_G (L := [(0, .ref 1), (1, .int a1)]) pl_X4 (Nat.le_of_ble_eq_true rfl) rfl ?_
  refine g_aload_n (pc := 0) (x := 1) dX4_readFormula_0 rfl ?_
  refine g_iload_n (pc := 1) (x := a1) dX4_readFormula_1 rfl ?_
  refine g_putI (pc := 2) dX4_readFormula_2 fo_X4_68 sh_1 rfl rfl rfl ?_
  refine g_aload_n (pc := 5) (x := 1) dX4_readFormula_5 rfl ?_
  refine g_iconst (pc := 6) (v := (0 : Int32)) dX4_readFormula_6 (by decide) ?_
  refine g_putI (pc := 7) dX4_readFormula_7 fo_X4_71 sh_1 rfl rfl rfl ?_
  refine g_aload_n (pc := 10) (x := 1) dX4_readFormula_10 rfl ?_
  refine g_iconst (pc := 11) (v := (0 : Int32)) dX4_readFormula_11 (by decide) ?_
  refine g_putI (pc := 12) dX4_readFormula_12 fo_X4_65 sh_1 rfl rfl rfl ?_
  refine g_aload_n (pc := 15) (x := 1) dX4_readFormula_15 rfl ?_
  refine g_iconst (pc := 16) (v := (1 : Int32)) dX4_readFormula_16 (by decide) ?_
  refine g_putI (pc := 17) dX4_readFormula_17 fo_X4_74 sh_1 rfl (nar_B isB1) (fit_B isB1) ?_
  refine g_aload_n (pc := 20) (x := 1) dX4_readFormula_20 rfl ?_
  refine g_iload_n (pc := 21) (x := a1) dX4_readFormula_21 rfl ?_
  refine g_iconst (pc := 22) (v := (1 : Int32)) dX4_readFormula_22 (by decide) ?_
  refine g_icmp_ne (pc := 23) (tgt := 30) dX4_readFormula_23 (by decide) (fun c23 => ?_) (fun c23 => ?_)
  · have h := h.1 c23
    refine g_iconst (pc := 30) (v := (0 : Int32)) dX4_readFormula_30 (by decide) ?_
    refine g_putI (pc := 31) dX4_readFormula_31 fo_X4_78 sh_1 rfl (nar_B isB0) (fit_B isB0) ?_
    refine g_iconst (pc := 34) (v := (0 : Int32)) dX4_readFormula_34 (by decide) ?_
    refine g_istore_n (pc := 35) (L' := [(0, .ref 1), (1, .int a1), (2, .int (0 : Int32))]) dX4_readFormula_35 (Nat.le_of_ble_eq_true rfl) rfl ?_
    refine g_sub (L' := [(0, .ref 1), (2, .int (0 : Int32))]) [0, 2] rfl ?_
    exact h
  · have h := h.2 c23
    refine g_iconst (pc := 26) (v := (1 : Int32)) dX4_readFormula_26 (by decide) ?_
    refine g_goto (pc := 27) (tgt := 31) dX4_readFormula_27 (by decide) ?_
    refine g_putI (pc := 31) dX4_readFormula_31 fo_X4_78 sh_1 rfl (nar_B isB1) (fit_B isB1) ?_
    refine g_iconst (pc := 34) (v := (0 : Int32)) dX4_readFormula_34 (by decide) ?_
    refine g_istore_n (pc := 35) (L' := [(0, .ref 1), (1, .int a1), (2, .int (0 : Int32))]) dX4_readFormula_35 (Nat.le_of_ble_eq_true rfl) rfl ?_
    refine g_sub (L' := [(0, .ref 1), (2, .int (0 : Int32))]) [0, 2] rfl ?_
    exact h

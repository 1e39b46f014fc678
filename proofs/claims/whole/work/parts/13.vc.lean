theorem b_X4_readFormula_36 (mm : MM) (Q : Value → MM → Prop) (l2 : Int32) (h : ((400 : Int32) < l2 → (Q .null mm)) ∧ (¬ (400 : Int32) < l2 → ((¬ (mm.1 1 7) = 0 → (Q .null mm)) ∧ ((mm.1 1 7) = 0 → (((mm.1 1 14) = (3 : Int32) → (Q .null mm)) ∧ (¬ (mm.1 1 14) = (3 : Int32) → (((mm.1 1 16) = 0 → (∃ Pm1 : Value → MM → Prop, Runs e_X4_readBetween [.ref 1] mm Pm1 ∧ ∀ m1, Pm1 .null m1 → (G e_X4_readFormula 36 [(0, .ref 1), (2, .int (l2 + (1 : Int32)))] [] m1 Q))) ∧ (¬ (mm.1 1 16) = 0 → (∃ Pm1 : Value → MM → Prop, Runs e_X4_readUnit [.ref 1] mm Pm1 ∧ ∀ m1, Pm1 .null m1 → (G e_X4_readFormula 36 [(0, .ref 1), (2, .int (l2 + (1 : Int32)))] [] m1 Q)))))))))) : G e_X4_readFormula 36 [(0, .ref 1), (2, .int l2)] [] mm Q := by
  refine g_iload_n (pc := 36) (x := l2) dX4_readFormula_36 rfl ?_
  refine g_sipush (pc := 37) (v := (400 : Int32)) dX4_readFormula_37 (by decide) ?_
  refine g_icmp_gt (pc := 40) (tgt := 82) dX4_readFormula_40 (by decide) (fun c40 => ?_) (fun c40 => ?_)
  · have h := h.1 c40
    exact g_vret (pc := 82) dX4_readFormula_82 rfl rfl h
  · have h := h.2 c40
    refine g_aload_n (pc := 43) (x := 1) dX4_readFormula_43 rfl ?_
    refine g_getI (pc := 44) dX4_readFormula_44 fo_X4_47 sh_1 rfl ?_
    refine g_if_ne (pc := 47) (tgt := 82) dX4_readFormula_47 (by decide) (fun c47 => ?_) (fun c47 => ?_)
    · have h := h.1 c47
      exact g_vret (pc := 82) dX4_readFormula_82 rfl rfl h
    · have h := h.2 c47
      refine g_aload_n (pc := 50) (x := 1) dX4_readFormula_50 rfl ?_
      refine g_getI (pc := 51) dX4_readFormula_51 fo_X4_68 sh_1 rfl ?_
      refine g_iconst (pc := 54) (v := (3 : Int32)) dX4_readFormula_54 (by decide) ?_
      refine g_icmp_eq (pc := 55) (tgt := 82) dX4_readFormula_55 (by decide) (fun c55 => ?_) (fun c55 => ?_)
      · have h := h.1 c55
        exact g_vret (pc := 82) dX4_readFormula_82 rfl rfl h
      · have h := h.2 c55
        refine g_aload_n (pc := 58) (x := 1) dX4_readFormula_58 rfl ?_
        refine g_getI (pc := 59) dX4_readFormula_59 fo_X4_74 sh_1 rfl ?_
        refine g_if_eq (pc := 62) (tgt := 72) dX4_readFormula_62 (by decide) (fun c62 => ?_) (fun c62 => ?_)
        · have h := h.1 c62
          refine g_aload_n (pc := 72) (x := 1) dX4_readFormula_72 rfl ?_
          obtain ⟨Pm1, hRm1, h⟩ := h
          refine g_callV (pc := 73) (as := []) dX4_readFormula_73 cw_X4_233 (by decide) rfl rfl sh_1 (Nat.le_of_ble_eq_true rfl) hRm1 ?_
          intro r_ m1 hz_ hp_
          obtain rfl := hz_
          have h := h m1 hp_
          refine g_iinc (pc := 76) (x := l2) (v := (l2 + (1 : Int32))) (L' := [(0, .ref 1), (2, .int (l2 + (1 : Int32)))]) dX4_readFormula_76 rfl rfl (Nat.le_of_ble_eq_true rfl) rfl ?_
          refine g_goto (pc := 79) (tgt := 36) dX4_readFormula_79 (by decide) ?_
          exact h
        · have h := h.2 c62
          refine g_aload_n (pc := 65) (x := 1) dX4_readFormula_65 rfl ?_
          obtain ⟨Pm1, hRm1, h⟩ := h
          refine g_callV (pc := 66) (as := []) dX4_readFormula_66 cw_X4_230 (by decide) rfl rfl sh_1 (Nat.le_of_ble_eq_true rfl) hRm1 ?_
          intro r_ m1 hz_ hp_
          obtain rfl := hz_
          have h := h m1 hp_
          refine g_goto (pc := 69) (tgt := 76) dX4_readFormula_69 (by decide) ?_
          refine g_iinc (pc := 76) (x := l2) (v := (l2 + (1 : Int32))) (L' := [(0, .ref 1), (2, .int (l2 + (1 : Int32)))]) dX4_readFormula_76 rfl rfl (Nat.le_of_ble_eq_true rfl) rfl ?_
          refine g_goto (pc := 79) (tgt := 36) dX4_readFormula_79 (by decide) ?_
          exact h
theorem dX4_value_0 : decode cX4_value 0 = .ok (.aload_n 0, 1) := by decide +kernel
theorem dX4_value_1 : decode cX4_value 1 = .ok (.getfield 43, 3) := by decide +kernel
theorem dX4_value_4 : decode cX4_value 4 = .ok (.ifCond .lt 32, 3) := by decide +kernel
theorem dX4_value_7 : decode cX4_value 7 = .ok (.aload_n 0, 1) := by decide +kernel
theorem dX4_value_8 : decode cX4_value 8 = .ok (.getfield 43, 3) := by decide +kernel
theorem dX4_value_11 : decode cX4_value 11 = .ok (.aload_n 0, 1) := by decide +kernel
theorem dX4_value_12 : decode cX4_value 12 = .ok (.getfield 25, 3) := by decide +kernel
theorem dX4_value_15 : decode cX4_value 15 = .ok (.getfield 283, 3) := by decide +kernel
theorem dX4_value_18 : decode cX4_value 18 = .ok (.if_icmp .ge 18, 3) := by decide +kernel
theorem dX4_value_21 : decode cX4_value 21 = .ok (.aload_n 0, 1) := by decide +kernel
theorem dX4_value_22 : decode cX4_value 22 = .ok (.getfield 25, 3) := by decide +kernel
theorem dX4_value_25 : decode cX4_value 25 = .ok (.getfield 292, 3) := by decide +kernel
theorem dX4_value_28 : decode cX4_value 28 = .ok (.aload_n 0, 1) := by decide +kernel
theorem dX4_value_29 : decode cX4_value 29 = .ok (.getfield 43, 3) := by decide +kernel
theorem dX4_value_32 : decode cX4_value 32 = .ok (.laload, 1) := by decide +kernel
theorem dX4_value_33 : decode cX4_value 33 = .ok (.goto 4, 3) := by decide +kernel
theorem dX4_value_36 : decode cX4_value 36 = .ok (.lconst 0, 1) := by decide +kernel
theorem dX4_value_37 : decode cX4_value 37 = .ok (.lreturn, 1) := by decide +kernel
def o_X4_value (mm : MM) : Prop := ((mm.1 1 6) < 0 → (True)) ∧ (¬ (mm.1 1 6) < 0 → (((mm.1 5 5) ≤ (mm.1 1 6) → (True)) ∧ (¬ (mm.1 5 5) ≤ (mm.1 1 6) → (vp_in (mm.1 1 6) 401 ∧ (True)))))
noncomputable def v_X4_value (mm : MM) : Int64 := (cite ((mm.1 1 6) < 0) (0 : Int64) (cite ((mm.1 5 5) ≤ (mm.1 1 6)) (0 : Int64) (mm.2.1 9 (mm.1 1 6).toNatClampNeg)))
theorem rv_X4_value (mm : MM) (h : o_X4_value mm) : Runs e_X4_value [.ref 1] mm (fun r m_ => r = .long (v_X4_value mm) ∧ mm = m_) := by
  refine runs_of_G (L := [(0, .ref 1)]) pl_X4 (Nat.le_of_ble_eq_true rfl) rfl ?_
  unfold o_X4_value at h
  refine g_aload_n (pc := 0) (x := 1) dX4_value_0 rfl ?_
  refine g_getI (pc := 1) dX4_value_1 fo_X4_43 sh_1 rfl ?_
  refine g_if_lt (pc := 4) (tgt := 36) dX4_value_4 (by decide) (fun c4 => ?_) (fun c4 => ?_)
  · have c4_0 : (mm.1 1 6) < 0 := c4
    have h := h.1 c4
    refine g_lconst (pc := 36) (v := (0 : Int64)) dX4_value_36 (by decide) ?_
    exact g_lret (pc := 37) dX4_value_37 rfl rfl ⟨(by unfold v_X4_value; rw [cite_pos c4_0] <;> rfl), rfl⟩
  · have c4_0 : ¬ (mm.1 1 6) < 0 := c4
    have h := h.2 c4
    refine g_aload_n (pc := 7) (x := 1) dX4_value_7 rfl ?_
    refine g_getI (pc := 8) dX4_value_8 fo_X4_43 sh_1 rfl ?_
    refine g_aload_n (pc := 11) (x := 1) dX4_value_11 rfl ?_
    refine g_getR (pc := 12) (dd := 4) dX4_value_12 fo_X4_25 sh_1 rfl ?_
    refine g_getI (pc := 15) dX4_value_15 fo_X4_283 sh_5 rfl ?_
    refine g_icmp_ge (pc := 18) (tgt := 36) dX4_value_18 (by decide) (fun c18 => ?_) (fun c18 => ?_)
    · have c18_1 : (mm.1 5 5) ≤ (mm.1 1 6) := c18
      have h := h.1 c18
      refine g_lconst (pc := 36) (v := (0 : Int64)) dX4_value_36 (by decide) ?_
      exact g_lret (pc := 37) dX4_value_37 rfl rfl ⟨(by unfold v_X4_value; rw [cite_neg c4_0, cite_pos c18_1] <;> rfl), rfl⟩
    · have c18_1 : ¬ (mm.1 5 5) ≤ (mm.1 1 6) := c18
      have h := h.2 c18
      refine g_aload_n (pc := 21) (x := 1) dX4_value_21 rfl ?_
      refine g_getR (pc := 22) (dd := 4) dX4_value_22 fo_X4_25 sh_1 rfl ?_
      refine g_getR (pc := 25) (dd := 4) dX4_value_25 fo_X4_292 sh_5 rfl ?_
      refine g_aload_n (pc := 28) (x := 1) dX4_value_28 rfl ?_
      refine g_getI (pc := 29) dX4_value_29 fo_X4_43 sh_1 rfl ?_
      refine g_laload (pc := 32) dX4_value_32 sh_9 h.1 ?_
      have h := h.2
      refine g_goto (pc := 33) (tgt := 37) dX4_value_33 (by decide) ?_
      exact g_lret (pc := 37) dX4_value_37 rfl rfl ⟨(by unfold v_X4_value; rw [cite_neg c4_0, cite_neg c18_1] <;> rfl), rfl⟩
theorem dX4_intValue_0 : decode cX4_intValue 0 = .ok (.aload_n 0, 1) := by decide +kernel
theorem dX4_intValue_1 : decode cX4_intValue 1 = .ok (.invokevirtual 88, 3) := by decide +kernel
theorem dX4_intValue_4 : decode cX4_intValue 4 = .ok (.bipush 27, 2) := by decide +kernel
theorem dX4_intValue_6 : decode cX4_intValue 6 = .ok (.if_icmp .ne 11, 3) := by decide +kernel
theorem dX4_intValue_9 : decode cX4_intValue 9 = .ok (.aload_n 0, 1) := by decide +kernel
theorem dX4_intValue_10 : decode cX4_intValue 10 = .ok (.invokevirtual 272, 3) := by decide +kernel
theorem dX4_intValue_13 : decode cX4_intValue 13 = .ok (.l2i, 1) := by decide +kernel
theorem dX4_intValue_14 : decode cX4_intValue 14 = .ok (.goto 4, 3) := by decide +kernel
theorem dX4_intValue_17 : decode cX4_intValue 17 = .ok (.iconst 0, 1) := by decide +kernel
theorem dX4_intValue_18 : decode cX4_intValue 18 = .ok (.ireturn, 1) := by decide +kernel
def o_X4_intValue (mm : MM) : Prop := o_X4_kind mm ∧ ((¬ (v_X4_kind mm) = (27 : Int32) → (True)) ∧ ((v_X4_kind mm) = (27 : Int32) → (o_X4_value mm ∧ (True))))
noncomputable def v_X4_intValue (mm : MM) : Int32 := (cite ((v_X4_kind mm) = (27 : Int32)) (v_X4_value mm).toInt32 (0 : Int32))
theorem rv_X4_intValue (mm : MM) (h : o_X4_intValue mm) : Runs e_X4_intValue [.ref 1] mm (fun r m_ => r = .int (v_X4_intValue mm) ∧ mm = m_) := by
  refine runs_of_G (L := [(0, .ref 1)]) pl_X4 (Nat.le_of_ble_eq_true rfl) rfl ?_
  unfold o_X4_intValue at h
  refine g_aload_n (pc := 0) (x := 1) dX4_intValue_0 rfl ?_
  refine g_callV (pc := 1) (as := []) dX4_intValue_1 cw_X4_88 (by decide) rfl rfl sh_1 (Nat.le_of_ble_eq_true rfl) (rv_X4_kind mm h.1) ?_
  have h := h.2
  rintro r_ m_ hz_ ⟨rfl, rfl⟩
  refine g_bipush (pc := 4) (v := (27 : Int32)) dX4_intValue_4 (by decide) ?_
  refine g_icmp_ne (pc := 6) (tgt := 17) dX4_intValue_6 (by decide) (fun c6 => ?_) (fun c6 => ?_)
  · have c6_0 : ¬ (v_X4_kind mm) = (27 : Int32) := c6
    have h := h.1 c6
    refine g_iconst (pc := 17) (v := (0 : Int32)) dX4_intValue_17 (by decide) ?_
    exact g_iret (pc := 18) dX4_intValue_18 rfl rfl rfl ⟨(by unfold v_X4_intValue; rw [cite_neg c6_0] <;> rfl), rfl⟩
  · have c6_0 : (v_X4_kind mm) = (27 : Int32) := c6
    have h := h.2 c6
    refine g_aload_n (pc := 9) (x := 1) dX4_intValue_9 rfl ?_
    refine g_callV (pc := 10) (as := []) dX4_intValue_10 cw_X4_272 (by decide) rfl rfl sh_1 (Nat.le_of_ble_eq_true rfl) (rv_X4_value mm h.1) ?_
    have h := h.2
    rintro r_ m_ hz_ ⟨rfl, rfl⟩
    refine g_l2i (pc := 13) dX4_intValue_13 ?_
    refine g_goto (pc := 14) (tgt := 18) dX4_intValue_14 (by decide) ?_
    exact g_iret (pc := 18) dX4_intValue_18 rfl rfl rfl ⟨(by unfold v_X4_intValue; rw [cite_pos c6_0] <;> rfl), rfl⟩
theorem dX4_readUnit_0 : decode cX4_readUnit 0 = .ok (.aload_n 0, 1) := by decide +kernel
theorem dX4_readUnit_1 : decode cX4_readUnit 1 = .ok (.invokevirtual 88, 3) := by decide +kernel
theorem dX4_readUnit_4 : decode cX4_readUnit 4 = .ok (.istore_n 1, 1) := by decide +kernel
theorem dX4_readUnit_5 : decode cX4_readUnit 5 = .ok (.aload_n 0, 1) := by decide +kernel
theorem dX4_readUnit_6 : decode cX4_readUnit 6 = .ok (.invokevirtual 236, 3) := by decide +kernel
theorem dX4_readUnit_9 : decode cX4_readUnit 9 = .ok (.istore_n 2, 1) := by decide +kernel
theorem dX4_readUnit_10 : decode cX4_readUnit 10 = .ok (.iload_n 1, 1) := by decide +kernel
theorem dX4_readUnit_11 : decode cX4_readUnit 11 = .ok (.bipush 25, 2) := by decide +kernel
theorem dX4_readUnit_13 : decode cX4_readUnit 13 = .ok (.if_icmp .ne 26, 3) := by decide +kernel
theorem dX4_readUnit_16 : decode cX4_readUnit 16 = .ok (.aload_n 0, 1) := by decide +kernel
theorem dX4_readUnit_17 : decode cX4_readUnit 17 = .ok (.getfield 78, 3) := by decide +kernel
theorem dX4_readUnit_20 : decode cX4_readUnit 20 = .ok (.ifCond .eq 19, 3) := by decide +kernel
theorem dX4_readUnit_23 : decode cX4_readUnit 23 = .ok (.aload_n 0, 1) := by decide +kernel
theorem dX4_readUnit_24 : decode cX4_readUnit 24 = .ok (.bipush 25, 2) := by decide +kernel
theorem dX4_readUnit_26 : decode cX4_readUnit 26 = .ok (.invokevirtual 143, 3) := by decide +kernel
theorem dX4_readUnit_29 : decode cX4_readUnit 29 = .ok (.pop, 1) := by decide +kernel
theorem dX4_readUnit_30 : decode cX4_readUnit 30 = .ok (.aload_n 0, 1) := by decide +kernel
theorem dX4_readUnit_31 : decode cX4_readUnit 31 = .ok (.bipush 25, 2) := by decide +kernel
theorem dX4_readUnit_33 : decode cX4_readUnit 33 = .ok (.invokevirtual 239, 3) := by decide +kernel
theorem dX4_readUnit_36 : decode cX4_readUnit 36 = .ok (.goto 85, 3) := by decide +kernel
theorem dX4_readUnit_39 : decode cX4_readUnit 39 = .ok (.iload_n 1, 1) := by decide +kernel
theorem dX4_readUnit_40 : decode cX4_readUnit 40 = .ok (.bipush 38, 2) := by decide +kernel
theorem dX4_readUnit_42 : decode cX4_readUnit 42 = .ok (.if_icmp .ne 10, 3) := by decide +kernel
theorem dX4_readUnit_45 : decode cX4_readUnit 45 = .ok (.aload_n 0, 1) := by decide +kernel
theorem dX4_readUnit_46 : decode cX4_readUnit 46 = .ok (.invokevirtual 242, 3) := by decide +kernel
theorem dX4_readUnit_49 : decode cX4_readUnit 49 = .ok (.goto 72, 3) := by decide +kernel
theorem dX4_readUnit_52 : decode cX4_readUnit 52 = .ok (.iload_n 1, 1) := by decide +kernel
theorem dX4_readUnit_53 : decode cX4_readUnit 53 = .ok (.bipush 27, 2) := by decide +kernel
theorem dX4_readUnit_55 : decode cX4_readUnit 55 = .ok (.if_icmp .ne 29, 3) := by decide +kernel
theorem dX4_readUnit_58 : decode cX4_readUnit 58 = .ok (.aload_n 0, 1) := by decide +kernel
theorem dX4_readUnit_59 : decode cX4_readUnit 59 = .ok (.bipush 27, 2) := by decide +kernel
theorem dX4_readUnit_61 : decode cX4_readUnit 61 = .ok (.invokevirtual 143, 3) := by decide +kernel
theorem dX4_readUnit_64 : decode cX4_readUnit 64 = .ok (.pop, 1) := by decide +kernel
theorem dX4_readUnit_65 : decode cX4_readUnit 65 = .ok (.aload_n 0, 1) := by decide +kernel
theorem dX4_readUnit_66 : decode cX4_readUnit 66 = .ok (.getfield 32, 3) := by decide +kernel
theorem dX4_readUnit_69 : decode cX4_readUnit 69 = .ok (.getfield 124, 3) := by decide +kernel
theorem dX4_readUnit_72 : decode cX4_readUnit 72 = .ok (.iload_n 2, 1) := by decide +kernel
theorem dX4_readUnit_73 : decode cX4_readUnit 73 = .ok (.invokevirtual 245, 3) := by decide +kernel
theorem dX4_readUnit_76 : decode cX4_readUnit 76 = .ok (.aload_n 0, 1) := by decide +kernel
theorem dX4_readUnit_77 : decode cX4_readUnit 77 = .ok (.iconst 0, 1) := by decide +kernel
theorem dX4_readUnit_78 : decode cX4_readUnit 78 = .ok (.putfield 74, 3) := by decide +kernel
theorem dX4_readUnit_81 : decode cX4_readUnit 81 = .ok (.goto 40, 3) := by decide +kernel
theorem dX4_readUnit_84 : decode cX4_readUnit 84 = .ok (.iload_n 1, 1) := by decide +kernel
theorem dX4_readUnit_85 : decode cX4_readUnit 85 = .ok (.invokestatic 248, 3) := by decide +kernel
theorem dX4_readUnit_88 : decode cX4_readUnit 88 = .ok (.ifCond .eq 28, 3) := by decide +kernel
theorem dX4_readUnit_91 : decode cX4_readUnit 91 = .ok (.aload_n 0, 1) := by decide +kernel
theorem dX4_readUnit_92 : decode cX4_readUnit 92 = .ok (.iload_n 1, 1) := by decide +kernel
theorem dX4_readUnit_93 : decode cX4_readUnit 93 = .ok (.invokevirtual 143, 3) := by decide +kernel
theorem dX4_readUnit_96 : decode cX4_readUnit 96 = .ok (.pop, 1) := by decide +kernel
theorem dX4_readUnit_97 : decode cX4_readUnit 97 = .ok (.aload_n 0, 1) := by decide +kernel
theorem dX4_readUnit_98 : decode cX4_readUnit 98 = .ok (.getfield 32, 3) := by decide +kernel
theorem dX4_readUnit_101 : decode cX4_readUnit 101 = .ok (.getfield 124, 3) := by decide +kernel
theorem dX4_readUnit_104 : decode cX4_readUnit 104 = .ok (.iload_n 1, 1) := by decide +kernel
theorem dX4_readUnit_105 : decode cX4_readUnit 105 = .ok (.invokevirtual 251, 3) := by decide +kernel
theorem dX4_readUnit_108 : decode cX4_readUnit 108 = .ok (.aload_n 0, 1) := by decide +kernel
theorem dX4_readUnit_109 : decode cX4_readUnit 109 = .ok (.iconst 0, 1) := by decide +kernel
theorem dX4_readUnit_110 : decode cX4_readUnit 110 = .ok (.putfield 74, 3) := by decide +kernel
theorem dX4_readUnit_113 : decode cX4_readUnit 113 = .ok (.goto 8, 3) := by decide +kernel
theorem dX4_readUnit_116 : decode cX4_readUnit 116 = .ok (.aload_n 0, 1) := by decide +kernel
theorem dX4_readUnit_117 : decode cX4_readUnit 117 = .ok (.iconst 1, 1) := by decide +kernel
theorem dX4_readUnit_118 : decode cX4_readUnit 118 = .ok (.invokevirtual 140, 3) := by decide +kernel
theorem dX4_readUnit_121 : decode cX4_readUnit 121 = .ok (.return_, 1) := by decide +kernel
theorem b_X4_readUnit (mm : MM) (Q : Value → MM → Prop) (h : o_X4_kind mm ∧ (o_X4_intValue mm ∧ ((¬ (v_X4_kind mm) = (25 : Int32) → ((¬ (v_X4_kind mm) = (38 : Int32) → ((¬ (v_X4_kind mm) = (27 : Int32) → ((p_X11_isVar mm (v_X4_kind mm) → (∃ Pm1 : Value → MM → Prop, Runs e_X4_take [.ref 1, .int (v_X4_kind mm)] mm Pm1 ∧ (∀ r m1, Pm1 r m1 → r = .int 1 ∨ r = .int 0) ∧ (∀ m1, Pm1 (.int 1) m1 → (AtTown (m1.2.2 1 4) ∧ (∃ Pm3 : Value → MM → Prop, Runs e_X1_addKind [.ref ((m1.2.2 1 4) + 8), .int (v_X4_kind mm)] m1 Pm3 ∧ ∀ m3, Pm3 .null m3 → (Q .null (wI m3 1 16 (0 : Int32)))))) ∧ (∀ m1, Pm1 (.int 0) m1 → (AtTown (m1.2.2 1 4) ∧ (∃ Pm3 : Value → MM → Prop, Runs e_X1_addKind [.ref ((m1.2.2 1 4) + 8), .int (v_X4_kind mm)] m1 Pm3 ∧ ∀ m3, Pm3 .null m3 → (Q .null (wI m3 1 16 (0 : Int32)))))))) ∧ (¬ p_X11_isVar mm (v_X4_kind mm) → (∃ Pm1 : Value → MM → Prop, Runs e_X4_fail [.ref 1, .int (1 : Int32)] mm Pm1 ∧ ∀ m1, Pm1 .null m1 → (Q .null m1))))) ∧ ((v_X4_kind mm) = (27 : Int32) → (∃ Pm1 : Value → MM → Prop, Runs e_X4_take [.ref 1, .int (27 : Int32)] mm Pm1 ∧ (∀ r m1, Pm1 r m1 → r = .int 1 ∨ r = .int 0) ∧ (∀ m1, Pm1 (.int 1) m1 → (AtTown (m1.2.2 1 4) ∧ (∃ Pm3 : Value → MM → Prop, Runs e_X1_addNumber [.ref ((m1.2.2 1 4) + 8), .int (v_X4_intValue mm)] m1 Pm3 ∧ ∀ m3, Pm3 .null m3 → (Q .null (wI m3 1 16 (0 : Int32)))))) ∧ (∀ m1, Pm1 (.int 0) m1 → (AtTown (m1.2.2 1 4) ∧ (∃ Pm3 : Value → MM → Prop, Runs e_X1_addNumber [.ref ((m1.2.2 1 4) + 8), .int (v_X4_intValue mm)] m1 Pm3 ∧ ∀ m3, Pm3 .null m3 → (Q .null (wI m3 1 16 (0 : Int32)))))))))) ∧ ((v_X4_kind mm) = (38 : Int32) → (∃ Pm1 : Value → MM → Prop, Runs e_X4_readOpen [.ref 1] mm Pm1 ∧ ∀ m1, Pm1 .null m1 → (Q .null m1))))) ∧ ((v_X4_kind mm) = (25 : Int32) → (((mm.1 1 17) = 0 → ((¬ (v_X4_kind mm) = (38 : Int32) → ((¬ (v_X4_kind mm) = (27 : Int32) → ((p_X11_isVar mm (v_X4_kind mm) → (∃ Pm1 : Value → MM → Prop, Runs e_X4_take [.ref 1, .int (v_X4_kind mm)] mm Pm1 ∧ (∀ r m1, Pm1 r m1 → r = .int 1 ∨ r = .int 0) ∧ (∀ m1, Pm1 (.int 1) m1 → (AtTown (m1.2.2 1 4) ∧ (∃ Pm3 : Value → MM → Prop, Runs e_X1_addKind [.ref ((m1.2.2 1 4) + 8), .int (v_X4_kind mm)] m1 Pm3 ∧ ∀ m3, Pm3 .null m3 → (Q .null (wI m3 1 16 (0 : Int32)))))) ∧ (∀ m1, Pm1 (.int 0) m1 → (AtTown (m1.2.2 1 4) ∧ (∃ Pm3 : Value → MM → Prop, Runs e_X1_addKind [.ref ((m1.2.2 1 4) + 8), .int (v_X4_kind mm)] m1 Pm3 ∧ ∀ m3, Pm3 .null m3 → (Q .null (wI m3 1 16 (0 : Int32)))))))) ∧ (¬ p_X11_isVar mm (v_X4_kind mm) → (∃ Pm1 : Value → MM → Prop, Runs e_X4_fail [.ref 1, .int (1 : Int32)] mm Pm1 ∧ ∀ m1, Pm1 .null m1 → (Q .null m1))))) ∧ ((v_X4_kind mm) = (27 : Int32) → (∃ Pm1 : Value → MM → Prop, Runs e_X4_take [.ref 1, .int (27 : Int32)] mm Pm1 ∧ (∀ r m1, Pm1 r m1 → r = .int 1 ∨ r = .int 0) ∧ (∀ m1, Pm1 (.int 1) m1 → (AtTown (m1.2.2 1 4) ∧ (∃ Pm3 : Value → MM → Prop, Runs e_X1_addNumber [.ref ((m1.2.2 1 4) + 8), .int (v_X4_intValue mm)] m1 Pm3 ∧ ∀ m3, Pm3 .null m3 → (Q .null (wI m3 1 16 (0 : Int32)))))) ∧ (∀ m1, Pm1 (.int 0) m1 → (AtTown (m1.2.2 1 4) ∧ (∃ Pm3 : Value → MM → Prop, Runs e_X1_addNumber [.ref ((m1.2.2 1 4) + 8), .int (v_X4_intValue mm)] m1 Pm3 ∧ ∀ m3, Pm3 .null m3 → (Q .null (wI m3 1 16 (0 : Int32)))))))))) ∧ ((v_X4_kind mm) = (38 : Int32) → (∃ Pm1 : Value → MM → Prop, Runs e_X4_readOpen [.ref 1] mm Pm1 ∧ ∀ m1, Pm1 .null m1 → (Q .null m1))))) ∧ (¬ (mm.1 1 17) = 0 → (∃ Pm1 : Value → MM → Prop, Runs e_X4_take [.ref 1, .int (25 : Int32)] mm Pm1 ∧ (∀ r m1, Pm1 r m1 → r = .int 1 ∨ r = .int 0) ∧ (∀ m1, Pm1 (.int 1) m1 → (∃ Pm2 : Value → MM → Prop, Runs e_X4_keepWaiting [.ref 1, .int (25 : Int32)] m1 Pm2 ∧ ∀ m2, Pm2 .null m2 → (Q .null m2))) ∧ (∀ m1, Pm1 (.int 0) m1 → (∃ Pm2 : Value → MM → Prop, Runs e_X4_keepWaiting [.ref 1, .int (25 : Int32)] m1 Pm2 ∧ ∀ m2, Pm2 .null m2 → (Q .null m2)))))))))) : Runs e_X4_readUnit [.ref 1] mm Q := by
  refine runs_of_G (L := [(0, .ref 1)]) pl_X4 (Nat.le_of_ble_eq_true rfl) rfl ?_
  refine g_aload_n (pc := 0) (x := 1) dX4_readUnit_0 rfl ?_
  refine g_callV (pc := 1) (as := []) dX4_readUnit_1 cw_X4_88 (by decide) rfl rfl sh_1 (Nat.le_of_ble_eq_true rfl) (rv_X4_kind mm h.1) ?_
  have h := h.2
  rintro r_ m_ hz_ ⟨rfl, rfl⟩
  refine g_istore_n (pc := 4) (L' := [(0, .ref 1), (1, .int (v_X4_kind mm))]) dX4_readUnit_4 (Nat.le_of_ble_eq_true rfl) rfl ?_
  refine g_aload_n (pc := 5) (x := 1) dX4_readUnit_5 rfl ?_
  refine g_callV (pc := 6) (as := []) dX4_readUnit_6 cw_X4_236 (by decide) rfl rfl sh_1 (Nat.le_of_ble_eq_true rfl) (rv_X4_intValue mm h.1) ?_
  have h := h.2
  rintro r_ m_ hz_ ⟨rfl, rfl⟩
  refine g_istore_n (pc := 9) (L' := [(0, .ref 1), (1, .int (v_X4_kind mm)), (2, .int (v_X4_intValue mm))]) dX4_readUnit_9 (Nat.le_of_ble_eq_true rfl) rfl ?_
  refine g_iload_n (pc := 10) (x := (v_X4_kind mm)) dX4_readUnit_10 rfl ?_
  refine g_bipush (pc := 11) (v := (25 : Int32)) dX4_readUnit_11 (by decide) ?_
  refine g_icmp_ne (pc := 13) (tgt := 39) dX4_readUnit_13 (by decide) (fun c13 => ?_) (fun c13 => ?_)
  · have h := h.1 c13
    refine g_iload_n (pc := 39) (x := (v_X4_kind mm)) dX4_readUnit_39 rfl ?_
    refine g_bipush (pc := 40) (v := (38 : Int32)) dX4_readUnit_40 (by decide) ?_
    refine g_icmp_ne (pc := 42) (tgt := 52) dX4_readUnit_42 (by decide) (fun c42 => ?_) (fun c42 => ?_)
    · have h := h.1 c42
      refine g_iload_n (pc := 52) (x := (v_X4_kind mm)) dX4_readUnit_52 rfl ?_
      refine g_bipush (pc := 53) (v := (27 : Int32)) dX4_readUnit_53 (by decide) ?_
      refine g_icmp_ne (pc := 55) (tgt := 84) dX4_readUnit_55 (by decide) (fun c55 => ?_) (fun c55 => ?_)
      · have h := h.1 c55
        refine g_iload_n (pc := 84) (x := (v_X4_kind mm)) dX4_readUnit_84 rfl ?_
        refine g_callSN (pc := 85) (as := [.int (v_X4_kind mm)]) dX4_readUnit_85 cw_X4_248 (by decide) rfl rfl (Nat.le_of_ble_eq_true rfl) (rv_X11_isVar mm (v_X4_kind mm)) ?_
        rintro r_ m_ hz_ ⟨⟨p_, rfl⟩ | ⟨p_, rfl⟩, rfl⟩
        · have h := h.1 p_
          refine g_if_eq (pc := 88) (tgt := 116) dX4_readUnit_88 (by decide) (fun c88 => absurd c88 (by decide)) (fun _ => ?_)
          refine g_aload_n (pc := 91) (x := 1) dX4_readUnit_91 rfl ?_
          refine g_iload_n (pc := 92) (x := (v_X4_kind mm)) dX4_readUnit_92 rfl ?_
          obtain ⟨Pm1, hRm1, h⟩ := h
          refine g_callV (pc := 93) (as := [.int (v_X4_kind mm)]) dX4_readUnit_93 cw_X4_143 (by decide) rfl rfl sh_1 (Nat.le_of_ble_eq_true rfl) hRm1 ?_
          intro r_ m1 hz_ hp_
          rcases h.1 r_ m1 hp_ with rfl | rfl
          · have h := h.2.1 m1 hp_
            refine g_pop (pc := 96) dX4_readUnit_96 rfl ?_
            refine g_aload_n (pc := 97) (x := 1) dX4_readUnit_97 rfl ?_
            refine g_getVt (pc := 98) (t := (m1.2.2 1 4)) dX4_readUnit_98 fo_X4_32 sh_1 rfl rfl ?_
            have hr1 := h.1
            have h := h.2
            refine g_getR (pc := 101) (dd := 8) dX4_readUnit_101 fo_X4_124 (AtTown_0 hr1) rfl ?_
            refine g_iload_n (pc := 104) (x := (v_X4_kind mm)) dX4_readUnit_104 rfl ?_
            obtain ⟨Pm3, hRm3, h⟩ := h
            refine g_callV (pc := 105) (as := [.int (v_X4_kind mm)]) dX4_readUnit_105 cw_X4_251 (by decide) rfl rfl (AtLaws_0 (AtTown.laws hr1)) (Nat.le_of_ble_eq_true rfl) hRm3 ?_
            intro r_ m3 hz_ hp_
            obtain rfl := hz_
            have h := h m3 hp_
            refine g_aload_n (pc := 108) (x := 1) dX4_readUnit_108 rfl ?_
            refine g_iconst (pc := 109) (v := (0 : Int32)) dX4_readUnit_109 (by decide) ?_
            refine g_putI (pc := 110) dX4_readUnit_110 fo_X4_74 sh_1 rfl (nar_B isB0) (fit_B isB0) ?_
            refine g_goto (pc := 113) (tgt := 121) dX4_readUnit_113 (by decide) ?_
            exact g_vret (pc := 121) dX4_readUnit_121 rfl rfl h
          · have h := h.2.2 m1 hp_
            refine g_pop (pc := 96) dX4_readUnit_96 rfl ?_
            refine g_aload_n (pc := 97) (x := 1) dX4_readUnit_97 rfl ?_
            refine g_getVt (pc := 98) (t := (m1.2.2 1 4)) dX4_readUnit_98 fo_X4_32 sh_1 rfl rfl ?_
            have hr1 := h.1
            have h := h.2
            refine g_getR (pc := 101) (dd := 8) dX4_readUnit_101 fo_X4_124 (AtTown_0 hr1) rfl ?_
            refine g_iload_n (pc := 104) (x := (v_X4_kind mm)) dX4_readUnit_104 rfl ?_
            obtain ⟨Pm3, hRm3, h⟩ := h
            refine g_callV (pc := 105) (as := [.int (v_X4_kind mm)]) dX4_readUnit_105 cw_X4_251 (by decide) rfl rfl (AtLaws_0 (AtTown.laws hr1)) (Nat.le_of_ble_eq_true rfl) hRm3 ?_
            intro r_ m3 hz_ hp_
            obtain rfl := hz_
            have h := h m3 hp_
            refine g_aload_n (pc := 108) (x := 1) dX4_readUnit_108 rfl ?_
            refine g_iconst (pc := 109) (v := (0 : Int32)) dX4_readUnit_109 (by decide) ?_
            refine g_putI (pc := 110) dX4_readUnit_110 fo_X4_74 sh_1 rfl (nar_B isB0) (fit_B isB0) ?_
            refine g_goto (pc := 113) (tgt := 121) dX4_readUnit_113 (by decide) ?_
            exact g_vret (pc := 121) dX4_readUnit_121 rfl rfl h
        · have h := h.2 p_
          refine g_if_eq (pc := 88) (tgt := 116) dX4_readUnit_88 (by decide) (fun _ => ?_) (fun c88 => absurd c88 (by decide))
          refine g_aload_n (pc := 116) (x := 1) dX4_readUnit_116 rfl ?_
          refine g_iconst (pc := 117) (v := (1 : Int32)) dX4_readUnit_117 (by decide) ?_
          obtain ⟨Pm1, hRm1, h⟩ := h
          refine g_callV (pc := 118) (as := [.int (1 : Int32)]) dX4_readUnit_118 cw_X4_140 (by decide) rfl rfl sh_1 (Nat.le_of_ble_eq_true rfl) hRm1 ?_
          intro r_ m1 hz_ hp_
          obtain rfl := hz_
          have h := h m1 hp_
          exact g_vret (pc := 121) dX4_readUnit_121 rfl rfl h
      · have h := h.2 c55
        refine g_aload_n (pc := 58) (x := 1) dX4_readUnit_58 rfl ?_
        refine g_bipush (pc := 59) (v := (27 : Int32)) dX4_readUnit_59 (by decide) ?_
        obtain ⟨Pm1, hRm1, h⟩ := h
        refine g_callV (pc := 61) (as := [.int (27 : Int32)]) dX4_readUnit_61 cw_X4_143 (by decide) rfl rfl sh_1 (Nat.le_of_ble_eq_true rfl) hRm1 ?_
        intro r_ m1 hz_ hp_
        rcases h.1 r_ m1 hp_ with rfl | rfl
        · have h := h.2.1 m1 hp_
          refine g_pop (pc := 64) dX4_readUnit_64 rfl ?_
          refine g_aload_n (pc := 65) (x := 1) dX4_readUnit_65 rfl ?_
          refine g_getVt (pc := 66) (t := (m1.2.2 1 4)) dX4_readUnit_66 fo_X4_32 sh_1 rfl rfl ?_
          have hr1 := h.1
          have h := h.2
          refine g_getR (pc := 69) (dd := 8) dX4_readUnit_69 fo_X4_124 (AtTown_0 hr1) rfl ?_
          refine g_iload_n (pc := 72) (x := (v_X4_intValue mm)) dX4_readUnit_72 rfl ?_
          obtain ⟨Pm3, hRm3, h⟩ := h
          refine g_callV (pc := 73) (as := [.int (v_X4_intValue mm)]) dX4_readUnit_73 cw_X4_245 (by decide) rfl rfl (AtLaws_0 (AtTown.laws hr1)) (Nat.le_of_ble_eq_true rfl) hRm3 ?_
          intro r_ m3 hz_ hp_
          obtain rfl := hz_
          have h := h m3 hp_
          refine g_aload_n (pc := 76) (x := 1) dX4_readUnit_76 rfl ?_
          refine g_iconst (pc := 77) (v := (0 : Int32)) dX4_readUnit_77 (by decide) ?_
          refine g_putI (pc := 78) dX4_readUnit_78 fo_X4_74 sh_1 rfl (nar_B isB0) (fit_B isB0) ?_
          refine g_goto (pc := 81) (tgt := 121) dX4_readUnit_81 (by decide) ?_
          exact g_vret (pc := 121) dX4_readUnit_121 rfl rfl h
        · have h := h.2.2 m1 hp_
          refine g_pop (pc := 64) dX4_readUnit_64 rfl ?_
          refine g_aload_n (pc := 65) (x := 1) dX4_readUnit_65 rfl ?_
          refine g_getVt (pc := 66) (t := (m1.2.2 1 4)) dX4_readUnit_66 fo_X4_32 sh_1 rfl rfl ?_
          have hr1 := h.1
          have h := h.2
          refine g_getR (pc := 69) (dd := 8) dX4_readUnit_69 fo_X4_124 (AtTown_0 hr1) rfl ?_
          refine g_iload_n (pc := 72) (x := (v_X4_intValue mm)) dX4_readUnit_72 rfl ?_
          obtain ⟨Pm3, hRm3, h⟩ := h
          refine g_callV (pc := 73) (as := [.int (v_X4_intValue mm)]) dX4_readUnit_73 cw_X4_245 (by decide) rfl rfl (AtLaws_0 (AtTown.laws hr1)) (Nat.le_of_ble_eq_true rfl) hRm3 ?_
          intro r_ m3 hz_ hp_
          obtain rfl := hz_
          have h := h m3 hp_
          refine g_aload_n (pc := 76) (x := 1) dX4_readUnit_76 rfl ?_
          refine g_iconst (pc := 77) (v := (0 : Int32)) dX4_readUnit_77 (by decide) ?_
          refine g_putI (pc := 78) dX4_readUnit_78 fo_X4_74 sh_1 rfl (nar_B isB0) (fit_B isB0) ?_
          refine g_goto (pc := 81) (tgt := 121) dX4_readUnit_81 (by decide) ?_
          exact g_vret (pc := 121) dX4_readUnit_121 rfl rfl h
    · have h := h.2 c42
      refine g_aload_n (pc := 45) (x := 1) dX4_readUnit_45 rfl ?_
      obtain ⟨Pm1, hRm1, h⟩ := h
      refine g_callV (pc := 46) (as := []) dX4_readUnit_46 cw_X4_242 (by decide) rfl rfl sh_1 (Nat.le_of_ble_eq_true rfl) hRm1 ?_
      intro r_ m1 hz_ hp_
      obtain rfl := hz_
      have h := h m1 hp_
      refine g_goto (pc := 49) (tgt := 121) dX4_readUnit_49 (by decide) ?_
      exact g_vret (pc := 121) dX4_readUnit_121 rfl rfl h
  · have h := h.2 c13
    refine g_aload_n (pc := 16) (x := 1) dX4_readUnit_16 rfl ?_
    refine g_getI (pc := 17) dX4_readUnit_17 fo_X4_78 sh_1 rfl ?_
    refine g_if_eq (pc := 20) (tgt := 39) dX4_readUnit_20 (by decide) (fun c20 => ?_) (fun c20 => ?_)
    · have h := h.1 c20
      refine g_iload_n (pc := 39) (x := (v_X4_kind mm)) dX4_readUnit_39 rfl ?_
      refine g_bipush (pc := 40) (v := (38 : Int32)) dX4_readUnit_40 (by decide) ?_
      refine g_icmp_ne (pc := 42) (tgt := 52) dX4_readUnit_42 (by decide) (fun c42 => ?_) (fun c42 => ?_)
      · have h := h.1 c42
        refine g_iload_n (pc := 52) (x := (v_X4_kind mm)) dX4_readUnit_52 rfl ?_
        refine g_bipush (pc := 53) (v := (27 : Int32)) dX4_readUnit_53 (by decide) ?_
        refine g_icmp_ne (pc := 55) (tgt := 84) dX4_readUnit_55 (by decide) (fun c55 => ?_) (fun c55 => ?_)
        · have h := h.1 c55
          refine g_iload_n (pc := 84) (x := (v_X4_kind mm)) dX4_readUnit_84 rfl ?_
          refine g_callSN (pc := 85) (as := [.int (v_X4_kind mm)]) dX4_readUnit_85 cw_X4_248 (by decide) rfl rfl (Nat.le_of_ble_eq_true rfl) (rv_X11_isVar mm (v_X4_kind mm)) ?_
          rintro r_ m_ hz_ ⟨⟨p_, rfl⟩ | ⟨p_, rfl⟩, rfl⟩
          · have h := h.1 p_
            refine g_if_eq (pc := 88) (tgt := 116) dX4_readUnit_88 (by decide) (fun c88 => absurd c88 (by decide)) (fun _ => ?_)
            refine g_aload_n (pc := 91) (x := 1) dX4_readUnit_91 rfl ?_
            refine g_iload_n (pc := 92) (x := (v_X4_kind mm)) dX4_readUnit_92 rfl ?_
            obtain ⟨Pm1, hRm1, h⟩ := h
            refine g_callV (pc := 93) (as := [.int (v_X4_kind mm)]) dX4_readUnit_93 cw_X4_143 (by decide) rfl rfl sh_1 (Nat.le_of_ble_eq_true rfl) hRm1 ?_
            intro r_ m1 hz_ hp_
            rcases h.1 r_ m1 hp_ with rfl | rfl
            · have h := h.2.1 m1 hp_
              refine g_pop (pc := 96) dX4_readUnit_96 rfl ?_
              refine g_aload_n (pc := 97) (x := 1) dX4_readUnit_97 rfl ?_
              refine g_getVt (pc := 98) (t := (m1.2.2 1 4)) dX4_readUnit_98 fo_X4_32 sh_1 rfl rfl ?_
              have hr1 := h.1
              have h := h.2
              refine g_getR (pc := 101) (dd := 8) dX4_readUnit_101 fo_X4_124 (AtTown_0 hr1) rfl ?_
              refine g_iload_n (pc := 104) (x := (v_X4_kind mm)) dX4_readUnit_104 rfl ?_
              obtain ⟨Pm3, hRm3, h⟩ := h
              refine g_callV (pc := 105) (as := [.int (v_X4_kind mm)]) dX4_readUnit_105 cw_X4_251 (by decide) rfl rfl (AtLaws_0 (AtTown.laws hr1)) (Nat.le_of_ble_eq_true rfl) hRm3 ?_
              intro r_ m3 hz_ hp_
              obtain rfl := hz_
              have h := h m3 hp_
              refine g_aload_n (pc := 108) (x := 1) dX4_readUnit_108 rfl ?_
              refine g_iconst (pc := 109) (v := (0 : Int32)) dX4_readUnit_109 (by decide) ?_
              refine g_putI (pc := 110) dX4_readUnit_110 fo_X4_74 sh_1 rfl (nar_B isB0) (fit_B isB0) ?_
              refine g_goto (pc := 113) (tgt := 121) dX4_readUnit_113 (by decide) ?_
              exact g_vret (pc := 121) dX4_readUnit_121 rfl rfl h
            · have h := h.2.2 m1 hp_
              refine g_pop (pc := 96) dX4_readUnit_96 rfl ?_
              refine g_aload_n (pc := 97) (x := 1) dX4_readUnit_97 rfl ?_
              refine g_getVt (pc := 98) (t := (m1.2.2 1 4)) dX4_readUnit_98 fo_X4_32 sh_1 rfl rfl ?_
              have hr1 := h.1
              have h := h.2
              refine g_getR (pc := 101) (dd := 8) dX4_readUnit_101 fo_X4_124 (AtTown_0 hr1) rfl ?_
              refine g_iload_n (pc := 104) (x := (v_X4_kind mm)) dX4_readUnit_104 rfl ?_
              obtain ⟨Pm3, hRm3, h⟩ := h
              refine g_callV (pc := 105) (as := [.int (v_X4_kind mm)]) dX4_readUnit_105 cw_X4_251 (by decide) rfl rfl (AtLaws_0 (AtTown.laws hr1)) (Nat.le_of_ble_eq_true rfl) hRm3 ?_
              intro r_ m3 hz_ hp_
              obtain rfl := hz_
              have h := h m3 hp_
              refine g_aload_n (pc := 108) (x := 1) dX4_readUnit_108 rfl ?_
              refine g_iconst (pc := 109) (v := (0 : Int32)) dX4_readUnit_109 (by decide) ?_
              refine g_putI (pc := 110) dX4_readUnit_110 fo_X4_74 sh_1 rfl (nar_B isB0) (fit_B isB0) ?_
              refine g_goto (pc := 113) (tgt := 121) dX4_readUnit_113 (by decide) ?_
              exact g_vret (pc := 121) dX4_readUnit_121 rfl rfl h
          · have h := h.2 p_
            refine g_if_eq (pc := 88) (tgt := 116) dX4_readUnit_88 (by decide) (fun _ => ?_) (fun c88 => absurd c88 (by decide))
            refine g_aload_n (pc := 116) (x := 1) dX4_readUnit_116 rfl ?_
            refine g_iconst (pc := 117) (v := (1 : Int32)) dX4_readUnit_117 (by decide) ?_
            obtain ⟨Pm1, hRm1, h⟩ := h
            refine g_callV (pc := 118) (as := [.int (1 : Int32)]) dX4_readUnit_118 cw_X4_140 (by decide) rfl rfl sh_1 (Nat.le_of_ble_eq_true rfl) hRm1 ?_
            intro r_ m1 hz_ hp_
            obtain rfl := hz_
            have h := h m1 hp_
            exact g_vret (pc := 121) dX4_readUnit_121 rfl rfl h
        · have h := h.2 c55
          refine g_aload_n (pc := 58) (x := 1) dX4_readUnit_58 rfl ?_
          refine g_bipush (pc := 59) (v := (27 : Int32)) dX4_readUnit_59 (by decide) ?_
          obtain ⟨Pm1, hRm1, h⟩ := h
          refine g_callV (pc := 61) (as := [.int (27 : Int32)]) dX4_readUnit_61 cw_X4_143 (by decide) rfl rfl sh_1 (Nat.le_of_ble_eq_true rfl) hRm1 ?_
          intro r_ m1 hz_ hp_
          rcases h.1 r_ m1 hp_ with rfl | rfl
          · have h := h.2.1 m1 hp_
            refine g_pop (pc := 64) dX4_readUnit_64 rfl ?_
            refine g_aload_n (pc := 65) (x := 1) dX4_readUnit_65 rfl ?_
            refine g_getVt (pc := 66) (t := (m1.2.2 1 4)) dX4_readUnit_66 fo_X4_32 sh_1 rfl rfl ?_
            have hr1 := h.1
            have h := h.2
            refine g_getR (pc := 69) (dd := 8) dX4_readUnit_69 fo_X4_124 (AtTown_0 hr1) rfl ?_
            refine g_iload_n (pc := 72) (x := (v_X4_intValue mm)) dX4_readUnit_72 rfl ?_
            obtain ⟨Pm3, hRm3, h⟩ := h
            refine g_callV (pc := 73) (as := [.int (v_X4_intValue mm)]) dX4_readUnit_73 cw_X4_245 (by decide) rfl rfl (AtLaws_0 (AtTown.laws hr1)) (Nat.le_of_ble_eq_true rfl) hRm3 ?_
            intro r_ m3 hz_ hp_
            obtain rfl := hz_
            have h := h m3 hp_
            refine g_aload_n (pc := 76) (x := 1) dX4_readUnit_76 rfl ?_
            refine g_iconst (pc := 77) (v := (0 : Int32)) dX4_readUnit_77 (by decide) ?_
            refine g_putI (pc := 78) dX4_readUnit_78 fo_X4_74 sh_1 rfl (nar_B isB0) (fit_B isB0) ?_
            refine g_goto (pc := 81) (tgt := 121) dX4_readUnit_81 (by decide) ?_
            exact g_vret (pc := 121) dX4_readUnit_121 rfl rfl h
          · have h := h.2.2 m1 hp_
            refine g_pop (pc := 64) dX4_readUnit_64 rfl ?_
            refine g_aload_n (pc := 65) (x := 1) dX4_readUnit_65 rfl ?_
            refine g_getVt (pc := 66) (t := (m1.2.2 1 4)) dX4_readUnit_66 fo_X4_32 sh_1 rfl rfl ?_
            have hr1 := h.1
            have h := h.2
            refine g_getR (pc := 69) (dd := 8) dX4_readUnit_69 fo_X4_124 (AtTown_0 hr1) rfl ?_
            refine g_iload_n (pc := 72) (x := (v_X4_intValue mm)) dX4_readUnit_72 rfl ?_
            obtain ⟨Pm3, hRm3, h⟩ := h
            refine g_callV (pc := 73) (as := [.int (v_X4_intValue mm)]) dX4_readUnit_73 cw_X4_245 (by decide) rfl rfl (AtLaws_0 (AtTown.laws hr1)) (Nat.le_of_ble_eq_true rfl) hRm3 ?_
            intro r_ m3 hz_ hp_
            obtain rfl := hz_
            have h := h m3 hp_
            refine g_aload_n (pc := 76) (x := 1) dX4_readUnit_76 rfl ?_
            refine g_iconst (pc := 77) (v := (0 : Int32)) dX4_readUnit_77 (by decide) ?_
            refine g_putI (pc := 78) dX4_readUnit_78 fo_X4_74 sh_1 rfl (nar_B isB0) (fit_B isB0) ?_
            refine g_goto (pc := 81) (tgt := 121) dX4_readUnit_81 (by decide) ?_
            exact g_vret (pc := 121) dX4_readUnit_121 rfl rfl h
      · have h := h.2 c42
        refine g_aload_n (pc := 45) (x := 1) dX4_readUnit_45 rfl ?_
        obtain ⟨Pm1, hRm1, h⟩ := h
        refine g_callV (pc := 46) (as := []) dX4_readUnit_46 cw_X4_242 (by decide) rfl rfl sh_1 (Nat.le_of_ble_eq_true rfl) hRm1 ?_
        intro r_ m1 hz_ hp_
        obtain rfl := hz_
        have h := h m1 hp_
        refine g_goto (pc := 49) (tgt := 121) dX4_readUnit_49 (by decide) ?_
        exact g_vret (pc := 121) dX4_readUnit_121 rfl rfl h
    · have h := h.2 c20
      refine g_aload_n (pc := 23) (x := 1) dX4_readUnit_23 rfl ?_
      refine g_bipush (pc := 24) (v := (25 : Int32)) dX4_readUnit_24 (by decide) ?_
      obtain ⟨Pm1, hRm1, h⟩ := h
      refine g_callV (pc := 26) (as := [.int (25 : Int32)]) dX4_readUnit_26 cw_X4_143 (by decide) rfl rfl sh_1 (Nat.le_of_ble_eq_true rfl) hRm1 ?_
      intro r_ m1 hz_ hp_
      rcases h.1 r_ m1 hp_ with rfl | rfl
      · have h := h.2.1 m1 hp_
        refine g_pop (pc := 29) dX4_readUnit_29 rfl ?_
        refine g_aload_n (pc := 30) (x := 1) dX4_readUnit_30 rfl ?_
        refine g_bipush (pc := 31) (v := (25 : Int32)) dX4_readUnit_31 (by decide) ?_
        obtain ⟨Pm2, hRm2, h⟩ := h
        refine g_callV (pc := 33) (as := [.int (25 : Int32)]) dX4_readUnit_33 cw_X4_239 (by decide) rfl rfl sh_1 (Nat.le_of_ble_eq_true rfl) hRm2 ?_
        intro r_ m2 hz_ hp_
        obtain rfl := hz_
        have h := h m2 hp_
        refine g_goto (pc := 36) (tgt := 121) dX4_readUnit_36 (by decide) ?_
        exact g_vret (pc := 121) dX4_readUnit_121 rfl rfl h
      · have h := h.2.2 m1 hp_
        refine g_pop (pc := 29) dX4_readUnit_29 rfl ?_
        refine g_aload_n (pc := 30) (x := 1) dX4_readUnit_30 rfl ?_
        refine g_bipush (pc := 31) (v := (25 : Int32)) dX4_readUnit_31 (by decide) ?_
        obtain ⟨Pm2, hRm2, h⟩ := h
        refine g_callV (pc := 33) (as := [.int (25 : Int32)]) dX4_readUnit_33 cw_X4_239 (by decide) rfl rfl sh_1 (Nat.le_of_ble_eq_true rfl) hRm2 ?_
        intro r_ m2 hz_ hp_
        obtain rfl := hz_
        have h := h m2 hp_
        refine g_goto (pc := 36) (tgt := 121) dX4_readUnit_36 (by decide) ?_
        exact g_vret (pc := 121) dX4_readUnit_121 rfl rfl h
theorem dX4_readOpen_0 : decode cX4_readOpen 0 = .ok (.aload_n 0, 1) := by decide +kernel
theorem dX4_readOpen_1 : decode cX4_readOpen 1 = .ok (.getfield 71, 3) := by decide +kernel
theorem dX4_readOpen_4 : decode cX4_readOpen 4 = .ok (.bipush 6, 2) := by decide +kernel
theorem dX4_readOpen_6 : decode cX4_readOpen 6 = .ok (.if_icmp .lt 9, 3) := by decide +kernel
theorem dX4_readOpen_9 : decode cX4_readOpen 9 = .ok (.aload_n 0, 1) := by decide +kernel
theorem dX4_readOpen_10 : decode cX4_readOpen 10 = .ok (.iconst 2, 1) := by decide +kernel
theorem dX4_readOpen_11 : decode cX4_readOpen 11 = .ok (.invokevirtual 140, 3) := by decide +kernel
theorem dX4_readOpen_14 : decode cX4_readOpen 14 = .ok (.return_, 1) := by decide +kernel
theorem dX4_readOpen_15 : decode cX4_readOpen 15 = .ok (.aload_n 0, 1) := by decide +kernel
theorem dX4_readOpen_16 : decode cX4_readOpen 16 = .ok (.bipush 38, 2) := by decide +kernel
theorem dX4_readOpen_18 : decode cX4_readOpen 18 = .ok (.invokevirtual 143, 3) := by decide +kernel
theorem dX4_readOpen_21 : decode cX4_readOpen 21 = .ok (.pop, 1) := by decide +kernel
theorem dX4_readOpen_22 : decode cX4_readOpen 22 = .ok (.aload_n 0, 1) := by decide +kernel
theorem dX4_readOpen_23 : decode cX4_readOpen 23 = .ok (.bipush 38, 2) := by decide +kernel
theorem dX4_readOpen_25 : decode cX4_readOpen 25 = .ok (.invokevirtual 239, 3) := by decide +kernel
theorem dX4_readOpen_28 : decode cX4_readOpen 28 = .ok (.aload_n 0, 1) := by decide +kernel
theorem dX4_readOpen_29 : decode cX4_readOpen 29 = .ok (.dup, 1) := by decide +kernel
theorem dX4_readOpen_30 : decode cX4_readOpen 30 = .ok (.getfield 71, 3) := by decide +kernel
theorem dX4_readOpen_33 : decode cX4_readOpen 33 = .ok (.iconst 1, 1) := by decide +kernel
theorem dX4_readOpen_34 : decode cX4_readOpen 34 = .ok (.iadd, 1) := by decide +kernel
theorem dX4_readOpen_35 : decode cX4_readOpen 35 = .ok (.putfield 71, 3) := by decide +kernel
theorem dX4_readOpen_38 : decode cX4_readOpen 38 = .ok (.aload_n 0, 1) := by decide +kernel
theorem dX4_readOpen_39 : decode cX4_readOpen 39 = .ok (.iconst 0, 1) := by decide +kernel
theorem dX4_readOpen_40 : decode cX4_readOpen 40 = .ok (.putfield 78, 3) := by decide +kernel
theorem dX4_readOpen_43 : decode cX4_readOpen 43 = .ok (.return_, 1) := by decide +kernel
theorem b_X4_readOpen (mm : MM) (Q : Value → MM → Prop) (h : ((mm.1 1 15) < (6 : Int32) → (∃ Pm1 : Value → MM → Prop, Runs e_X4_take [.ref 1, .int (38 : Int32)] mm Pm1 ∧ (∀ r m1, Pm1 r m1 → r = .int 1 ∨ r = .int 0) ∧ (∀ m1, Pm1 (.int 1) m1 → (∃ Pm2 : Value → MM → Prop, Runs e_X4_keepWaiting [.ref 1, .int (38 : Int32)] m1 Pm2 ∧ ∀ m2, Pm2 .null m2 → (Q .null (wI (wI m2 1 15 ((m2.1 1 15) + (1 : Int32))) 1 17 (0 : Int32))))) ∧ (∀ m1, Pm1 (.int 0) m1 → (∃ Pm2 : Value → MM → Prop, Runs e_X4_keepWaiting [.ref 1, .int (38 : Int32)] m1 Pm2 ∧ ∀ m2, Pm2 .null m2 → (Q .null (wI (wI m2 1 15 ((m2.1 1 15) + (1 : Int32))) 1 17 (0 : Int32))))))) ∧ (¬ (mm.1 1 15) < (6 : Int32) → (∃ Pm1 : Value → MM → Prop, Runs e_X4_fail [.ref 1, .int (2 : Int32)] mm Pm1 ∧ ∀ m1, Pm1 .null m1 → (Q .null m1)))) : Runs e_X4_readOpen [.ref 1] mm Q := by
  refine runs_of_G (L := [(0, .ref 1)]) pl_X4 (Nat.le_of_ble_eq_true rfl) rfl ?_
  refine g_aload_n (pc := 0) (x := 1) dX4_readOpen_0 rfl ?_
  refine g_getI (pc := 1) dX4_readOpen_1 fo_X4_71 sh_1 rfl ?_
  refine g_bipush (pc := 4) (v := (6 : Int32)) dX4_readOpen_4 (by decide) ?_
  refine g_icmp_lt (pc := 6) (tgt := 15) dX4_readOpen_6 (by decide) (fun c6 => ?_) (fun c6 => ?_)
  · have h := h.1 c6
    refine g_aload_n (pc := 15) (x := 1) dX4_readOpen_15 rfl ?_
    refine g_bipush (pc := 16) (v := (38 : Int32)) dX4_readOpen_16 (by decide) ?_
    obtain ⟨Pm1, hRm1, h⟩ := h
    refine g_callV (pc := 18) (as := [.int (38 : Int32)]) dX4_readOpen_18 cw_X4_143 (by decide) rfl rfl sh_1 (Nat.le_of_ble_eq_true rfl) hRm1 ?_
    intro r_ m1 hz_ hp_
    rcases h.1 r_ m1 hp_ with rfl | rfl
    · have h := h.2.1 m1 hp_
      refine g_pop (pc := 21) dX4_readOpen_21 rfl ?_
      refine g_aload_n (pc := 22) (x := 1) dX4_readOpen_22 rfl ?_
      refine g_bipush (pc := 23) (v := (38 : Int32)) dX4_readOpen_23 (by decide) ?_
      obtain ⟨Pm2, hRm2, h⟩ := h
      refine g_callV (pc := 25) (as := [.int (38 : Int32)]) dX4_readOpen_25 cw_X4_239 (by decide) rfl rfl sh_1 (Nat.le_of_ble_eq_true rfl) hRm2 ?_
      intro r_ m2 hz_ hp_
      obtain rfl := hz_
      have h := h m2 hp_
      refine g_aload_n (pc := 28) (x := 1) dX4_readOpen_28 rfl ?_
      refine g_dup (pc := 29) dX4_readOpen_29 rfl ?_
      refine g_getI (pc := 30) dX4_readOpen_30 fo_X4_71 sh_1 rfl ?_
      refine g_iconst (pc := 33) (v := (1 : Int32)) dX4_readOpen_33 (by decide) ?_
      refine g_iadd (pc := 34) dX4_readOpen_34 ?_
      refine g_putI (pc := 35) dX4_readOpen_35 fo_X4_71 sh_1 rfl rfl rfl ?_
      refine g_aload_n (pc := 38) (x := 1) dX4_readOpen_38 rfl ?_
      refine g_iconst (pc := 39) (v := (0 : Int32)) dX4_readOpen_39 (by decide) ?_
      refine g_putI (pc := 40) dX4_readOpen_40 fo_X4_78 sh_1 rfl (nar_B isB0) (fit_B isB0) ?_
      exact g_vret (pc := 43) dX4_readOpen_43 rfl rfl h
    · have h := h.2.2 m1 hp_
      refine g_pop (pc := 21) dX4_readOpen_21 rfl ?_
      refine g_aload_n (pc := 22) (x := 1) dX4_readOpen_22 rfl ?_
      refine g_bipush (pc := 23) (v := (38 : Int32)) dX4_readOpen_23 (by decide) ?_
      obtain ⟨Pm2, hRm2, h⟩ := h
      refine g_callV (pc := 25) (as := [.int (38 : Int32)]) dX4_readOpen_25 cw_X4_239 (by decide) rfl rfl sh_1 (Nat.le_of_ble_eq_true rfl) hRm2 ?_
      intro r_ m2 hz_ hp_
      obtain rfl := hz_
      have h := h m2 hp_
      refine g_aload_n (pc := 28) (x := 1) dX4_readOpen_28 rfl ?_
      refine g_dup (pc := 29) dX4_readOpen_29 rfl ?_
      refine g_getI (pc := 30) dX4_readOpen_30 fo_X4_71 sh_1 rfl ?_
      refine g_iconst (pc := 33) (v := (1 : Int32)) dX4_readOpen_33 (by decide) ?_
      refine g_iadd (pc := 34) dX4_readOpen_34 ?_
      refine g_putI (pc := 35) dX4_readOpen_35 fo_X4_71 sh_1 rfl rfl rfl ?_
      refine g_aload_n (pc := 38) (x := 1) dX4_readOpen_38 rfl ?_
      refine g_iconst (pc := 39) (v := (0 : Int32)) dX4_readOpen_39 (by decide) ?_
      refine g_putI (pc := 40) dX4_readOpen_40 fo_X4_78 sh_1 rfl (nar_B isB0) (fit_B isB0) ?_
      exact g_vret (pc := 43) dX4_readOpen_43 rfl rfl h
  · have h := h.2 c6
    refine g_aload_n (pc := 9) (x := 1) dX4_readOpen_9 rfl ?_
    refine g_iconst (pc := 10) (v := (2 : Int32)) dX4_readOpen_10 (by decide) ?_
    obtain ⟨Pm1, hRm1, h⟩ := h
    refine g_callV (pc := 11) (as := [.int (2 : Int32)]) dX4_readOpen_11 cw_X4_140 (by decide) rfl rfl sh_1 (Nat.le_of_ble_eq_true rfl) hRm1 ?_
    intro r_ m1 hz_ hp_
    obtain rfl := hz_
    have h := h m1 hp_
    exact g_vret (pc := 14) dX4_readOpen_14 rfl rfl h
theorem dX4_readBetween_0 : decode cX4_readBetween 0 = .ok (.aload_n 0, 1) := by decide +kernel
theorem dX4_readBetween_1 : decode cX4_readBetween 1 = .ok (.invokevirtual 88, 3) := by decide +kernel
theorem dX4_readBetween_4 : decode cX4_readBetween 4 = .ok (.istore_n 1, 1) := by decide +kernel
theorem dX4_readBetween_5 : decode cX4_readBetween 5 = .ok (.iload_n 1, 1) := by decide +kernel
theorem dX4_readBetween_6 : decode cX4_readBetween 6 = .ok (.invokestatic 254, 3) := by decide +kernel
theorem dX4_readBetween_9 : decode cX4_readBetween 9 = .ok (.ifCond .eq 15, 3) := by decide +kernel
theorem dX4_readBetween_12 : decode cX4_readBetween 12 = .ok (.aload_n 0, 1) := by decide +kernel
theorem dX4_readBetween_13 : decode cX4_readBetween 13 = .ok (.iload_n 1, 1) := by decide +kernel
theorem dX4_readBetween_14 : decode cX4_readBetween 14 = .ok (.aload_n 0, 1) := by decide +kernel
theorem dX4_readBetween_15 : decode cX4_readBetween 15 = .ok (.getfield 68, 3) := by decide +kernel
theorem dX4_readBetween_18 : decode cX4_readBetween 18 = .ok (.invokevirtual 257, 3) := by decide +kernel
theorem dX4_readBetween_21 : decode cX4_readBetween 21 = .ok (.goto 115, 3) := by decide +kernel
theorem dX4_readBetween_24 : decode cX4_readBetween 24 = .ok (.aload_n 0, 1) := by decide +kernel
theorem dX4_readBetween_25 : decode cX4_readBetween 25 = .ok (.getfield 71, 3) := by decide +kernel
theorem dX4_readBetween_28 : decode cX4_readBetween 28 = .ok (.ifCond .le 10, 3) := by decide +kernel
theorem dX4_readBetween_31 : decode cX4_readBetween 31 = .ok (.aload_n 0, 1) := by decide +kernel
theorem dX4_readBetween_32 : decode cX4_readBetween 32 = .ok (.invokevirtual 260, 3) := by decide +kernel
theorem dX4_readBetween_35 : decode cX4_readBetween 35 = .ok (.goto 101, 3) := by decide +kernel
theorem dX4_readBetween_38 : decode cX4_readBetween 38 = .ok (.aload_n 0, 1) := by decide +kernel
theorem dX4_readBetween_39 : decode cX4_readBetween 39 = .ok (.getfield 68, 3) := by decide +kernel
theorem dX4_readBetween_42 : decode cX4_readBetween 42 = .ok (.iconst 1, 1) := by decide +kernel
theorem dX4_readBetween_43 : decode cX4_readBetween 43 = .ok (.if_icmp .ne 19, 3) := by decide +kernel
theorem dX4_readBetween_46 : decode cX4_readBetween 46 = .ok (.iload_n 1, 1) := by decide +kernel
theorem dX4_readBetween_47 : decode cX4_readBetween 47 = .ok (.invokestatic 263, 3) := by decide +kernel
theorem dX4_readBetween_50 : decode cX4_readBetween 50 = .ok (.ifCond .eq 12, 3) := by decide +kernel
theorem dX4_readBetween_53 : decode cX4_readBetween 53 = .ok (.aload_n 0, 1) := by decide +kernel
theorem dX4_readBetween_54 : decode cX4_readBetween 54 = .ok (.iload_n 1, 1) := by decide +kernel
theorem dX4_readBetween_55 : decode cX4_readBetween 55 = .ok (.iconst 2, 1) := by decide +kernel
theorem dX4_readBetween_56 : decode cX4_readBetween 56 = .ok (.invokevirtual 257, 3) := by decide +kernel
theorem dX4_readBetween_59 : decode cX4_readBetween 59 = .ok (.goto 77, 3) := by decide +kernel
theorem dX4_readBetween_62 : decode cX4_readBetween 62 = .ok (.aload_n 0, 1) := by decide +kernel
theorem dX4_readBetween_63 : decode cX4_readBetween 63 = .ok (.getfield 68, 3) := by decide +kernel
theorem dX4_readBetween_66 : decode cX4_readBetween 66 = .ok (.iconst 2, 1) := by decide +kernel
theorem dX4_readBetween_67 : decode cX4_readBetween 67 = .ok (.if_icmp .ne 24, 3) := by decide +kernel
theorem dX4_readBetween_70 : decode cX4_readBetween 70 = .ok (.iload_n 1, 1) := by decide +kernel
theorem dX4_readBetween_71 : decode cX4_readBetween 71 = .ok (.bipush 24, 2) := by decide +kernel
theorem dX4_readBetween_73 : decode cX4_readBetween 73 = .ok (.if_icmp .eq 9, 3) := by decide +kernel
theorem dX4_readBetween_76 : decode cX4_readBetween 76 = .ok (.iload_n 1, 1) := by decide +kernel
theorem dX4_readBetween_77 : decode cX4_readBetween 77 = .ok (.bipush 23, 2) := by decide +kernel
theorem dX4_readBetween_79 : decode cX4_readBetween 79 = .ok (.if_icmp .ne 12, 3) := by decide +kernel
theorem dX4_readBetween_82 : decode cX4_readBetween 82 = .ok (.aload_n 0, 1) := by decide +kernel
theorem dX4_readBetween_83 : decode cX4_readBetween 83 = .ok (.iload_n 1, 1) := by decide +kernel
theorem dX4_readBetween_84 : decode cX4_readBetween 84 = .ok (.iconst 1, 1) := by decide +kernel
theorem dX4_readBetween_85 : decode cX4_readBetween 85 = .ok (.invokevirtual 257, 3) := by decide +kernel
theorem dX4_readBetween_88 : decode cX4_readBetween 88 = .ok (.goto 48, 3) := by decide +kernel
theorem dX4_readBetween_91 : decode cX4_readBetween 91 = .ok (.aload_n 0, 1) := by decide +kernel
theorem dX4_readBetween_92 : decode cX4_readBetween 92 = .ok (.getfield 68, 3) := by decide +kernel
theorem dX4_readBetween_95 : decode cX4_readBetween 95 = .ok (.iconst 1, 1) := by decide +kernel
theorem dX4_readBetween_96 : decode cX4_readBetween 96 = .ok (.if_icmp .ne 11, 3) := by decide +kernel
theorem dX4_readBetween_99 : decode cX4_readBetween 99 = .ok (.aload_n 0, 1) := by decide +kernel
theorem dX4_readBetween_100 : decode cX4_readBetween 100 = .ok (.iconst 1, 1) := by decide +kernel
theorem dX4_readBetween_101 : decode cX4_readBetween 101 = .ok (.invokevirtual 140, 3) := by decide +kernel
theorem dX4_readBetween_104 : decode cX4_readBetween 104 = .ok (.goto 32, 3) := by decide +kernel
theorem dX4_readBetween_107 : decode cX4_readBetween 107 = .ok (.aload_n 0, 1) := by decide +kernel
theorem dX4_readBetween_108 : decode cX4_readBetween 108 = .ok (.bipush 28, 2) := by decide +kernel
theorem dX4_readBetween_110 : decode cX4_readBetween 110 = .ok (.invokevirtual 143, 3) := by decide +kernel
theorem dX4_readBetween_113 : decode cX4_readBetween 113 = .ok (.pop, 1) := by decide +kernel
theorem dX4_readBetween_114 : decode cX4_readBetween 114 = .ok (.aload_n 0, 1) := by decide +kernel
theorem dX4_readBetween_115 : decode cX4_readBetween 115 = .ok (.iconst 1, 1) := by decide +kernel
theorem dX4_readBetween_116 : decode cX4_readBetween 116 = .ok (.invokevirtual 266, 3) := by decide +kernel
theorem dX4_readBetween_119 : decode cX4_readBetween 119 = .ok (.aload_n 0, 1) := by decide +kernel
theorem dX4_readBetween_120 : decode cX4_readBetween 120 = .ok (.getfield 32, 3) := by decide +kernel
theorem dX4_readBetween_123 : decode cX4_readBetween 123 = .ok (.getfield 124, 3) := by decide +kernel
theorem dX4_readBetween_126 : decode cX4_readBetween 126 = .ok (.bipush 28, 2) := by decide +kernel
theorem dX4_readBetween_128 : decode cX4_readBetween 128 = .ok (.invokevirtual 251, 3) := by decide +kernel
theorem dX4_readBetween_131 : decode cX4_readBetween 131 = .ok (.aload_n 0, 1) := by decide +kernel
theorem dX4_readBetween_132 : decode cX4_readBetween 132 = .ok (.iconst 3, 1) := by decide +kernel
theorem dX4_readBetween_133 : decode cX4_readBetween 133 = .ok (.putfield 68, 3) := by decide +kernel
theorem dX4_readBetween_136 : decode cX4_readBetween 136 = .ok (.return_, 1) := by decide +kernel
theorem b_X4_readBetween (mm : MM) (Q : Value → MM → Prop) (h : o_X4_kind mm ∧ ((p_X11_reckons mm (v_X4_kind mm) → (∃ Pm1 : Value → MM → Prop, Runs e_X4_readJoint [.ref 1, .int (v_X4_kind mm), .int (mm.1 1 14)] mm Pm1 ∧ ∀ m1, Pm1 .null m1 → (Q .null m1))) ∧ (¬ p_X11_reckons mm (v_X4_kind mm) → (((mm.1 1 15) ≤ 0 → ((¬ (mm.1 1 14) = (1 : Int32) → ((¬ (mm.1 1 14) = (2 : Int32) → ((¬ (mm.1 1 14) = (1 : Int32) → (∃ Pm1 : Value → MM → Prop, Runs e_X4_take [.ref 1, .int (28 : Int32)] mm Pm1 ∧ (∀ r m1, Pm1 r m1 → r = .int 1 ∨ r = .int 0) ∧ (∀ m1, Pm1 (.int 1) m1 → (∃ Pm2 : Value → MM → Prop, Runs e_X4_release [.ref 1, .int (1 : Int32)] m1 Pm2 ∧ ∀ m2, Pm2 .null m2 → (AtTown (m2.2.2 1 4) ∧ (∃ Pm4 : Value → MM → Prop, Runs e_X1_addKind [.ref ((m2.2.2 1 4) + 8), .int (28 : Int32)] m2 Pm4 ∧ ∀ m4, Pm4 .null m4 → (Q .null (wI m4 1 14 (3 : Int32))))))) ∧ (∀ m1, Pm1 (.int 0) m1 → (∃ Pm2 : Value → MM → Prop, Runs e_X4_release [.ref 1, .int (1 : Int32)] m1 Pm2 ∧ ∀ m2, Pm2 .null m2 → (AtTown (m2.2.2 1 4) ∧ (∃ Pm4 : Value → MM → Prop, Runs e_X1_addKind [.ref ((m2.2.2 1 4) + 8), .int (28 : Int32)] m2 Pm4 ∧ ∀ m4, Pm4 .null m4 → (Q .null (wI m4 1 14 (3 : Int32))))))))) ∧ ((mm.1 1 14) = (1 : Int32) → (∃ Pm1 : Value → MM → Prop, Runs e_X4_fail [.ref 1, .int (1 : Int32)] mm Pm1 ∧ ∀ m1, Pm1 .null m1 → (Q .null m1))))) ∧ ((mm.1 1 14) = (2 : Int32) → (((v_X4_kind mm) = (24 : Int32) → (∃ Pm1 : Value → MM → Prop, Runs e_X4_readJoint [.ref 1, .int (v_X4_kind mm), .int (1 : Int32)] mm Pm1 ∧ ∀ m1, Pm1 .null m1 → (Q .null m1))) ∧ (¬ (v_X4_kind mm) = (24 : Int32) → ((¬ (v_X4_kind mm) = (23 : Int32) → ((¬ (mm.1 1 14) = (1 : Int32) → (∃ Pm1 : Value → MM → Prop, Runs e_X4_take [.ref 1, .int (28 : Int32)] mm Pm1 ∧ (∀ r m1, Pm1 r m1 → r = .int 1 ∨ r = .int 0) ∧ (∀ m1, Pm1 (.int 1) m1 → (∃ Pm2 : Value → MM → Prop, Runs e_X4_release [.ref 1, .int (1 : Int32)] m1 Pm2 ∧ ∀ m2, Pm2 .null m2 → (AtTown (m2.2.2 1 4) ∧ (∃ Pm4 : Value → MM → Prop, Runs e_X1_addKind [.ref ((m2.2.2 1 4) + 8), .int (28 : Int32)] m2 Pm4 ∧ ∀ m4, Pm4 .null m4 → (Q .null (wI m4 1 14 (3 : Int32))))))) ∧ (∀ m1, Pm1 (.int 0) m1 → (∃ Pm2 : Value → MM → Prop, Runs e_X4_release [.ref 1, .int (1 : Int32)] m1 Pm2 ∧ ∀ m2, Pm2 .null m2 → (AtTown (m2.2.2 1 4) ∧ (∃ Pm4 : Value → MM → Prop, Runs e_X1_addKind [.ref ((m2.2.2 1 4) + 8), .int (28 : Int32)] m2 Pm4 ∧ ∀ m4, Pm4 .null m4 → (Q .null (wI m4 1 14 (3 : Int32))))))))) ∧ ((mm.1 1 14) = (1 : Int32) → (∃ Pm1 : Value → MM → Prop, Runs e_X4_fail [.ref 1, .int (1 : Int32)] mm Pm1 ∧ ∀ m1, Pm1 .null m1 → (Q .null m1))))) ∧ ((v_X4_kind mm) = (23 : Int32) → (∃ Pm1 : Value → MM → Prop, Runs e_X4_readJoint [.ref 1, .int (v_X4_kind mm), .int (1 : Int32)] mm Pm1 ∧ ∀ m1, Pm1 .null m1 → (Q .null m1))))))))) ∧ ((mm.1 1 14) = (1 : Int32) → ((p_X11_compares mm (v_X4_kind mm) → (∃ Pm1 : Value → MM → Prop, Runs e_X4_readJoint [.ref 1, .int (v_X4_kind mm), .int (2 : Int32)] mm Pm1 ∧ ∀ m1, Pm1 .null m1 → (Q .null m1))) ∧ (¬ p_X11_compares mm (v_X4_kind mm) → ((¬ (mm.1 1 14) = (2 : Int32) → ((¬ (mm.1 1 14) = (1 : Int32) → (∃ Pm1 : Value → MM → Prop, Runs e_X4_take [.ref 1, .int (28 : Int32)] mm Pm1 ∧ (∀ r m1, Pm1 r m1 → r = .int 1 ∨ r = .int 0) ∧ (∀ m1, Pm1 (.int 1) m1 → (∃ Pm2 : Value → MM → Prop, Runs e_X4_release [.ref 1, .int (1 : Int32)] m1 Pm2 ∧ ∀ m2, Pm2 .null m2 → (AtTown (m2.2.2 1 4) ∧ (∃ Pm4 : Value → MM → Prop, Runs e_X1_addKind [.ref ((m2.2.2 1 4) + 8), .int (28 : Int32)] m2 Pm4 ∧ ∀ m4, Pm4 .null m4 → (Q .null (wI m4 1 14 (3 : Int32))))))) ∧ (∀ m1, Pm1 (.int 0) m1 → (∃ Pm2 : Value → MM → Prop, Runs e_X4_release [.ref 1, .int (1 : Int32)] m1 Pm2 ∧ ∀ m2, Pm2 .null m2 → (AtTown (m2.2.2 1 4) ∧ (∃ Pm4 : Value → MM → Prop, Runs e_X1_addKind [.ref ((m2.2.2 1 4) + 8), .int (28 : Int32)] m2 Pm4 ∧ ∀ m4, Pm4 .null m4 → (Q .null (wI m4 1 14 (3 : Int32))))))))) ∧ ((mm.1 1 14) = (1 : Int32) → (∃ Pm1 : Value → MM → Prop, Runs e_X4_fail [.ref 1, .int (1 : Int32)] mm Pm1 ∧ ∀ m1, Pm1 .null m1 → (Q .null m1))))) ∧ ((mm.1 1 14) = (2 : Int32) → (((v_X4_kind mm) = (24 : Int32) → (∃ Pm1 : Value → MM → Prop, Runs e_X4_readJoint [.ref 1, .int (v_X4_kind mm), .int (1 : Int32)] mm Pm1 ∧ ∀ m1, Pm1 .null m1 → (Q .null m1))) ∧ (¬ (v_X4_kind mm) = (24 : Int32) → ((¬ (v_X4_kind mm) = (23 : Int32) → ((¬ (mm.1 1 14) = (1 : Int32) → (∃ Pm1 : Value → MM → Prop, Runs e_X4_take [.ref 1, .int (28 : Int32)] mm Pm1 ∧ (∀ r m1, Pm1 r m1 → r = .int 1 ∨ r = .int 0) ∧ (∀ m1, Pm1 (.int 1) m1 → (∃ Pm2 : Value → MM → Prop, Runs e_X4_release [.ref 1, .int (1 : Int32)] m1 Pm2 ∧ ∀ m2, Pm2 .null m2 → (AtTown (m2.2.2 1 4) ∧ (∃ Pm4 : Value → MM → Prop, Runs e_X1_addKind [.ref ((m2.2.2 1 4) + 8), .int (28 : Int32)] m2 Pm4 ∧ ∀ m4, Pm4 .null m4 → (Q .null (wI m4 1 14 (3 : Int32))))))) ∧ (∀ m1, Pm1 (.int 0) m1 → (∃ Pm2 : Value → MM → Prop, Runs e_X4_release [.ref 1, .int (1 : Int32)] m1 Pm2 ∧ ∀ m2, Pm2 .null m2 → (AtTown (m2.2.2 1 4) ∧ (∃ Pm4 : Value → MM → Prop, Runs e_X1_addKind [.ref ((m2.2.2 1 4) + 8), .int (28 : Int32)] m2 Pm4 ∧ ∀ m4, Pm4 .null m4 → (Q .null (wI m4 1 14 (3 : Int32))))))))) ∧ ((mm.1 1 14) = (1 : Int32) → (∃ Pm1 : Value → MM → Prop, Runs e_X4_fail [.ref 1, .int (1 : Int32)] mm Pm1 ∧ ∀ m1, Pm1 .null m1 → (Q .null m1))))) ∧ ((v_X4_kind mm) = (23 : Int32) → (∃ Pm1 : Value → MM → Prop, Runs e_X4_readJoint [.ref 1, .int (v_X4_kind mm), .int (1 : Int32)] mm Pm1 ∧ ∀ m1, Pm1 .null m1 → (Q .null m1))))))))))))) ∧ (¬ (mm.1 1 15) ≤ 0 → (∃ Pm1 : Value → MM → Prop, Runs e_X4_readClose [.ref 1] mm Pm1 ∧ ∀ m1, Pm1 .null m1 → (Q .null m1))))))) : Runs e_X4_readBetween [.ref 1] mm Q := by
  refine runs_of_G (L := [(0, .ref 1)]) pl_X4 (Nat.le_of_ble_eq_true rfl) rfl ?_
  refine g_aload_n (pc := 0) (x := 1) dX4_readBetween_0 rfl ?_
  refine g_callV (pc := 1) (as := []) dX4_readBetween_1 cw_X4_88 (by decide) rfl rfl sh_1 (Nat.le_of_ble_eq_true rfl) (rv_X4_kind mm h.1) ?_
  have h := h.2
  rintro r_ m_ hz_ ⟨rfl, rfl⟩
  refine g_istore_n (pc := 4) (L' := [(0, .ref 1), (1, .int (v_X4_kind mm))]) dX4_readBetween_4 (Nat.le_of_ble_eq_true rfl) rfl ?_
  refine g_iload_n (pc := 5) (x := (v_X4_kind mm)) dX4_readBetween_5 rfl ?_
  refine g_callSN (pc := 6) (as := [.int (v_X4_kind mm)]) dX4_readBetween_6 cw_X4_254 (by decide) rfl rfl (Nat.le_of_ble_eq_true rfl) (rv_X11_reckons mm (v_X4_kind mm)) ?_
  rintro r_ m_ hz_ ⟨⟨p_, rfl⟩ | ⟨p_, rfl⟩, rfl⟩
  · have h := h.1 p_
    refine g_if_eq (pc := 9) (tgt := 24) dX4_readBetween_9 (by decide) (fun c9 => absurd c9 (by decide)) (fun _ => ?_)
    refine g_aload_n (pc := 12) (x := 1) dX4_readBetween_12 rfl ?_
    refine g_iload_n (pc := 13) (x := (v_X4_kind mm)) dX4_readBetween_13 rfl ?_
    refine g_aload_n (pc := 14) (x := 1) dX4_readBetween_14 rfl ?_
    refine g_getI (pc := 15) dX4_readBetween_15 fo_X4_68 sh_1 rfl ?_
    obtain ⟨Pm1, hRm1, h⟩ := h
    refine g_callV (pc := 18) (as := [.int (v_X4_kind mm), .int (mm.1 1 14)]) dX4_readBetween_18 cw_X4_257 (by decide) rfl rfl sh_1 (Nat.le_of_ble_eq_true rfl) hRm1 ?_
    intro r_ m1 hz_ hp_
    obtain rfl := hz_
    have h := h m1 hp_
    refine g_goto (pc := 21) (tgt := 136) dX4_readBetween_21 (by decide) ?_
    exact g_vret (pc := 136) dX4_readBetween_136 rfl rfl h
  · have h := h.2 p_
    refine g_if_eq (pc := 9) (tgt := 24) dX4_readBetween_9 (by decide) (fun _ => ?_) (fun c9 => absurd c9 (by decide))
    refine g_aload_n (pc := 24) (x := 1) dX4_readBetween_24 rfl ?_
    refine g_getI (pc := 25) dX4_readBetween_25 fo_X4_71 sh_1 rfl ?_
    refine g_if_le (pc := 28) (tgt := 38) dX4_readBetween_28 (by decide) (fun c28 => ?_) (fun c28 => ?_)
    · have h := h.1 c28
      refine g_aload_n (pc := 38) (x := 1) dX4_readBetween_38 rfl ?_
      refine g_getI (pc := 39) dX4_readBetween_39 fo_X4_68 sh_1 rfl ?_
      refine g_iconst (pc := 42) (v := (1 : Int32)) dX4_readBetween_42 (by decide) ?_
      refine g_icmp_ne (pc := 43) (tgt := 62) dX4_readBetween_43 (by decide) (fun c43 => ?_) (fun c43 => ?_)
      · have h := h.1 c43
        refine g_aload_n (pc := 62) (x := 1) dX4_readBetween_62 rfl ?_
        refine g_getI (pc := 63) dX4_readBetween_63 fo_X4_68 sh_1 rfl ?_
        refine g_iconst (pc := 66) (v := (2 : Int32)) dX4_readBetween_66 (by decide) ?_
        refine g_icmp_ne (pc := 67) (tgt := 91) dX4_readBetween_67 (by decide) (fun c67 => ?_) (fun c67 => ?_)
        · have h := h.1 c67
          refine g_aload_n (pc := 91) (x := 1) dX4_readBetween_91 rfl ?_
          refine g_getI (pc := 92) dX4_readBetween_92 fo_X4_68 sh_1 rfl ?_
          refine g_iconst (pc := 95) (v := (1 : Int32)) dX4_readBetween_95 (by decide) ?_
          refine g_icmp_ne (pc := 96) (tgt := 107) dX4_readBetween_96 (by decide) (fun c96 => ?_) (fun c96 => ?_)
          · have h := h.1 c96
            refine g_aload_n (pc := 107) (x := 1) dX4_readBetween_107 rfl ?_
            refine g_bipush (pc := 108) (v := (28 : Int32)) dX4_readBetween_108 (by decide) ?_
            obtain ⟨Pm1, hRm1, h⟩ := h
            refine g_callV (pc := 110) (as := [.int (28 : Int32)]) dX4_readBetween_110 cw_X4_143 (by decide) rfl rfl sh_1 (Nat.le_of_ble_eq_true rfl) hRm1 ?_
            intro r_ m1 hz_ hp_
            rcases h.1 r_ m1 hp_ with rfl | rfl
            · have h := h.2.1 m1 hp_
              refine g_pop (pc := 113) dX4_readBetween_113 rfl ?_
              refine g_aload_n (pc := 114) (x := 1) dX4_readBetween_114 rfl ?_
              refine g_iconst (pc := 115) (v := (1 : Int32)) dX4_readBetween_115 (by decide) ?_
              obtain ⟨Pm2, hRm2, h⟩ := h
              refine g_callV (pc := 116) (as := [.int (1 : Int32)]) dX4_readBetween_116 cw_X4_266 (by decide) rfl rfl sh_1 (Nat.le_of_ble_eq_true rfl) hRm2 ?_
              intro r_ m2 hz_ hp_
              obtain rfl := hz_
              have h := h m2 hp_
              refine g_aload_n (pc := 119) (x := 1) dX4_readBetween_119 rfl ?_
              refine g_getVt (pc := 120) (t := (m2.2.2 1 4)) dX4_readBetween_120 fo_X4_32 sh_1 rfl rfl ?_
              have hr2 := h.1
              have h := h.2
              refine g_getR (pc := 123) (dd := 8) dX4_readBetween_123 fo_X4_124 (AtTown_0 hr2) rfl ?_
              refine g_bipush (pc := 126) (v := (28 : Int32)) dX4_readBetween_126 (by decide) ?_
              obtain ⟨Pm4, hRm4, h⟩ := h
              refine g_callV (pc := 128) (as := [.int (28 : Int32)]) dX4_readBetween_128 cw_X4_251 (by decide) rfl rfl (AtLaws_0 (AtTown.laws hr2)) (Nat.le_of_ble_eq_true rfl) hRm4 ?_
              intro r_ m4 hz_ hp_
              obtain rfl := hz_
              have h := h m4 hp_
              refine g_aload_n (pc := 131) (x := 1) dX4_readBetween_131 rfl ?_
              refine g_iconst (pc := 132) (v := (3 : Int32)) dX4_readBetween_132 (by decide) ?_
              refine g_putI (pc := 133) dX4_readBetween_133 fo_X4_68 sh_1 rfl rfl rfl ?_
              exact g_vret (pc := 136) dX4_readBetween_136 rfl rfl h
            · have h := h.2.2 m1 hp_
              refine g_pop (pc := 113) dX4_readBetween_113 rfl ?_
              refine g_aload_n (pc := 114) (x := 1) dX4_readBetween_114 rfl ?_
              refine g_iconst (pc := 115) (v := (1 : Int32)) dX4_readBetween_115 (by decide) ?_
              obtain ⟨Pm2, hRm2, h⟩ := h
              refine g_callV (pc := 116) (as := [.int (1 : Int32)]) dX4_readBetween_116 cw_X4_266 (by decide) rfl rfl sh_1 (Nat.le_of_ble_eq_true rfl) hRm2 ?_
              intro r_ m2 hz_ hp_
              obtain rfl := hz_
              have h := h m2 hp_
              refine g_aload_n (pc := 119) (x := 1) dX4_readBetween_119 rfl ?_
              refine g_getVt (pc := 120) (t := (m2.2.2 1 4)) dX4_readBetween_120 fo_X4_32 sh_1 rfl rfl ?_
              have hr2 := h.1
              have h := h.2
              refine g_getR (pc := 123) (dd := 8) dX4_readBetween_123 fo_X4_124 (AtTown_0 hr2) rfl ?_
              refine g_bipush (pc := 126) (v := (28 : Int32)) dX4_readBetween_126 (by decide) ?_
              obtain ⟨Pm4, hRm4, h⟩ := h
              refine g_callV (pc := 128) (as := [.int (28 : Int32)]) dX4_readBetween_128 cw_X4_251 (by decide) rfl rfl (AtLaws_0 (AtTown.laws hr2)) (Nat.le_of_ble_eq_true rfl) hRm4 ?_
              intro r_ m4 hz_ hp_
              obtain rfl := hz_
              have h := h m4 hp_
              refine g_aload_n (pc := 131) (x := 1) dX4_readBetween_131 rfl ?_
              refine g_iconst (pc := 132) (v := (3 : Int32)) dX4_readBetween_132 (by decide) ?_
              refine g_putI (pc := 133) dX4_readBetween_133 fo_X4_68 sh_1 rfl rfl rfl ?_
              exact g_vret (pc := 136) dX4_readBetween_136 rfl rfl h
          · have h := h.2 c96
            refine g_aload_n (pc := 99) (x := 1) dX4_readBetween_99 rfl ?_
            refine g_iconst (pc := 100) (v := (1 : Int32)) dX4_readBetween_100 (by decide) ?_
            obtain ⟨Pm1, hRm1, h⟩ := h
            refine g_callV (pc := 101) (as := [.int (1 : Int32)]) dX4_readBetween_101 cw_X4_140 (by decide) rfl rfl sh_1 (Nat.le_of_ble_eq_true rfl) hRm1 ?_
            intro r_ m1 hz_ hp_
            obtain rfl := hz_
            have h := h m1 hp_
            refine g_goto (pc := 104) (tgt := 136) dX4_readBetween_104 (by decide) ?_
            exact g_vret (pc := 136) dX4_readBetween_136 rfl rfl h
        · have h := h.2 c67
          refine g_iload_n (pc := 70) (x := (v_X4_kind mm)) dX4_readBetween_70 rfl ?_
          refine g_bipush (pc := 71) (v := (24 : Int32)) dX4_readBetween_71 (by decide) ?_
          refine g_icmp_eq (pc := 73) (tgt := 82) dX4_readBetween_73 (by decide) (fun c73 => ?_) (fun c73 => ?_)
          · have h := h.1 c73
            refine g_aload_n (pc := 82) (x := 1) dX4_readBetween_82 rfl ?_
            refine g_iload_n (pc := 83) (x := (v_X4_kind mm)) dX4_readBetween_83 rfl ?_
            refine g_iconst (pc := 84) (v := (1 : Int32)) dX4_readBetween_84 (by decide) ?_
            obtain ⟨Pm1, hRm1, h⟩ := h
            refine g_callV (pc := 85) (as := [.int (v_X4_kind mm), .int (1 : Int32)]) dX4_readBetween_85 cw_X4_257 (by decide) rfl rfl sh_1 (Nat.le_of_ble_eq_true rfl) hRm1 ?_
            intro r_ m1 hz_ hp_
            obtain rfl := hz_
            have h := h m1 hp_
            refine g_goto (pc := 88) (tgt := 136) dX4_readBetween_88 (by decide) ?_
            exact g_vret (pc := 136) dX4_readBetween_136 rfl rfl h
          · have h := h.2 c73
            refine g_iload_n (pc := 76) (x := (v_X4_kind mm)) dX4_readBetween_76 rfl ?_
            refine g_bipush (pc := 77) (v := (23 : Int32)) dX4_readBetween_77 (by decide) ?_
            refine g_icmp_ne (pc := 79) (tgt := 91) dX4_readBetween_79 (by decide) (fun c79 => ?_) (fun c79 => ?_)
            · have h := h.1 c79
              refine g_aload_n (pc := 91) (x := 1) dX4_readBetween_91 rfl ?_
              refine g_getI (pc := 92) dX4_readBetween_92 fo_X4_68 sh_1 rfl ?_
              refine g_iconst (pc := 95) (v := (1 : Int32)) dX4_readBetween_95 (by decide) ?_
              refine g_icmp_ne (pc := 96) (tgt := 107) dX4_readBetween_96 (by decide) (fun c96 => ?_) (fun c96 => ?_)
              · have h := h.1 c96
                refine g_aload_n (pc := 107) (x := 1) dX4_readBetween_107 rfl ?_
                refine g_bipush (pc := 108) (v := (28 : Int32)) dX4_readBetween_108 (by decide) ?_
                obtain ⟨Pm1, hRm1, h⟩ := h
                refine g_callV (pc := 110) (as := [.int (28 : Int32)]) dX4_readBetween_110 cw_X4_143 (by decide) rfl rfl sh_1 (Nat.le_of_ble_eq_true rfl) hRm1 ?_
                intro r_ m1 hz_ hp_
                rcases h.1 r_ m1 hp_ with rfl | rfl
                · have h := h.2.1 m1 hp_
                  refine g_pop (pc := 113) dX4_readBetween_113 rfl ?_
                  refine g_aload_n (pc := 114) (x := 1) dX4_readBetween_114 rfl ?_
                  refine g_iconst (pc := 115) (v := (1 : Int32)) dX4_readBetween_115 (by decide) ?_
                  obtain ⟨Pm2, hRm2, h⟩ := h
                  refine g_callV (pc := 116) (as := [.int (1 : Int32)]) dX4_readBetween_116 cw_X4_266 (by decide) rfl rfl sh_1 (Nat.le_of_ble_eq_true rfl) hRm2 ?_
                  intro r_ m2 hz_ hp_
                  obtain rfl := hz_
                  have h := h m2 hp_
                  refine g_aload_n (pc := 119) (x := 1) dX4_readBetween_119 rfl ?_
                  refine g_getVt (pc := 120) (t := (m2.2.2 1 4)) dX4_readBetween_120 fo_X4_32 sh_1 rfl rfl ?_
                  have hr2 := h.1
                  have h := h.2
                  refine g_getR (pc := 123) (dd := 8) dX4_readBetween_123 fo_X4_124 (AtTown_0 hr2) rfl ?_
                  refine g_bipush (pc := 126) (v := (28 : Int32)) dX4_readBetween_126 (by decide) ?_
                  obtain ⟨Pm4, hRm4, h⟩ := h
                  refine g_callV (pc := 128) (as := [.int (28 : Int32)]) dX4_readBetween_128 cw_X4_251 (by decide) rfl rfl (AtLaws_0 (AtTown.laws hr2)) (Nat.le_of_ble_eq_true rfl) hRm4 ?_
                  intro r_ m4 hz_ hp_
                  obtain rfl := hz_
                  have h := h m4 hp_
                  refine g_aload_n (pc := 131) (x := 1) dX4_readBetween_131 rfl ?_
                  refine g_iconst (pc := 132) (v := (3 : Int32)) dX4_readBetween_132 (by decide) ?_
                  refine g_putI (pc := 133) dX4_readBetween_133 fo_X4_68 sh_1 rfl rfl rfl ?_
                  exact g_vret (pc := 136) dX4_readBetween_136 rfl rfl h
                · have h := h.2.2 m1 hp_
                  refine g_pop (pc := 113) dX4_readBetween_113 rfl ?_
                  refine g_aload_n (pc := 114) (x := 1) dX4_readBetween_114 rfl ?_
                  refine g_iconst (pc := 115) (v := (1 : Int32)) dX4_readBetween_115 (by decide) ?_
                  obtain ⟨Pm2, hRm2, h⟩ := h
                  refine g_callV (pc := 116) (as := [.int (1 : Int32)]) dX4_readBetween_116 cw_X4_266 (by decide) rfl rfl sh_1 (Nat.le_of_ble_eq_true rfl) hRm2 ?_
                  intro r_ m2 hz_ hp_
                  obtain rfl := hz_
                  have h := h m2 hp_
                  refine g_aload_n (pc := 119) (x := 1) dX4_readBetween_119 rfl ?_
                  refine g_getVt (pc := 120) (t := (m2.2.2 1 4)) dX4_readBetween_120 fo_X4_32 sh_1 rfl rfl ?_
                  have hr2 := h.1
                  have h := h.2
                  refine g_getR (pc := 123) (dd := 8) dX4_readBetween_123 fo_X4_124 (AtTown_0 hr2) rfl ?_
                  refine g_bipush (pc := 126) (v := (28 : Int32)) dX4_readBetween_126 (by decide) ?_
                  obtain ⟨Pm4, hRm4, h⟩ := h
                  refine g_callV (pc := 128) (as := [.int (28 : Int32)]) dX4_readBetween_128 cw_X4_251 (by decide) rfl rfl (AtLaws_0 (AtTown.laws hr2)) (Nat.le_of_ble_eq_true rfl) hRm4 ?_
                  intro r_ m4 hz_ hp_
                  obtain rfl := hz_
                  have h := h m4 hp_
                  refine g_aload_n (pc := 131) (x := 1) dX4_readBetween_131 rfl ?_
                  refine g_iconst (pc := 132) (v := (3 : Int32)) dX4_readBetween_132 (by decide) ?_
                  refine g_putI (pc := 133) dX4_readBetween_133 fo_X4_68 sh_1 rfl rfl rfl ?_
                  exact g_vret (pc := 136) dX4_readBetween_136 rfl rfl h
              · have h := h.2 c96
                refine g_aload_n (pc := 99) (x := 1) dX4_readBetween_99 rfl ?_
                refine g_iconst (pc := 100) (v := (1 : Int32)) dX4_readBetween_100 (by decide) ?_
                obtain ⟨Pm1, hRm1, h⟩ := h
                refine g_callV (pc := 101) (as := [.int (1 : Int32)]) dX4_readBetween_101 cw_X4_140 (by decide) rfl rfl sh_1 (Nat.le_of_ble_eq_true rfl) hRm1 ?_
                intro r_ m1 hz_ hp_
                obtain rfl := hz_
                have h := h m1 hp_
                refine g_goto (pc := 104) (tgt := 136) dX4_readBetween_104 (by decide) ?_
                exact g_vret (pc := 136) dX4_readBetween_136 rfl rfl h
            · have h := h.2 c79
              refine g_aload_n (pc := 82) (x := 1) dX4_readBetween_82 rfl ?_
              refine g_iload_n (pc := 83) (x := (v_X4_kind mm)) dX4_readBetween_83 rfl ?_
              refine g_iconst (pc := 84) (v := (1 : Int32)) dX4_readBetween_84 (by decide) ?_
              obtain ⟨Pm1, hRm1, h⟩ := h
              refine g_callV (pc := 85) (as := [.int (v_X4_kind mm), .int (1 : Int32)]) dX4_readBetween_85 cw_X4_257 (by decide) rfl rfl sh_1 (Nat.le_of_ble_eq_true rfl) hRm1 ?_
              intro r_ m1 hz_ hp_
              obtain rfl := hz_
              have h := h m1 hp_
              refine g_goto (pc := 88) (tgt := 136) dX4_readBetween_88 (by decide) ?_
              exact g_vret (pc := 136) dX4_readBetween_136 rfl rfl h
      · have h := h.2 c43
        refine g_iload_n (pc := 46) (x := (v_X4_kind mm)) dX4_readBetween_46 rfl ?_
        refine g_callSN (pc := 47) (as := [.int (v_X4_kind mm)]) dX4_readBetween_47 cw_X4_263 (by decide) rfl rfl (Nat.le_of_ble_eq_true rfl) (rv_X11_compares mm (v_X4_kind mm)) ?_
        rintro r_ m_ hz_ ⟨⟨p_, rfl⟩ | ⟨p_, rfl⟩, rfl⟩
        · have h := h.1 p_
          refine g_if_eq (pc := 50) (tgt := 62) dX4_readBetween_50 (by decide) (fun c50 => absurd c50 (by decide)) (fun _ => ?_)
          refine g_aload_n (pc := 53) (x := 1) dX4_readBetween_53 rfl ?_
          refine g_iload_n (pc := 54) (x := (v_X4_kind mm)) dX4_readBetween_54 rfl ?_
          refine g_iconst (pc := 55) (v := (2 : Int32)) dX4_readBetween_55 (by decide) ?_
          obtain ⟨Pm1, hRm1, h⟩ := h
          refine g_callV (pc := 56) (as := [.int (v_X4_kind mm), .int (2 : Int32)]) dX4_readBetween_56 cw_X4_257 (by decide) rfl rfl sh_1 (Nat.le_of_ble_eq_true rfl) hRm1 ?_
          intro r_ m1 hz_ hp_
          obtain rfl := hz_
          have h := h m1 hp_
          refine g_goto (pc := 59) (tgt := 136) dX4_readBetween_59 (by decide) ?_
          exact g_vret (pc := 136) dX4_readBetween_136 rfl rfl h
        · have h := h.2 p_
          refine g_if_eq (pc := 50) (tgt := 62) dX4_readBetween_50 (by decide) (fun _ => ?_) (fun c50 => absurd c50 (by decide))
          refine g_aload_n (pc := 62) (x := 1) dX4_readBetween_62 rfl ?_
          refine g_getI (pc := 63) dX4_readBetween_63 fo_X4_68 sh_1 rfl ?_
          refine g_iconst (pc := 66) (v := (2 : Int32)) dX4_readBetween_66 (by decide) ?_
          refine g_icmp_ne (pc := 67) (tgt := 91) dX4_readBetween_67 (by decide) (fun c67 => ?_) (fun c67 => ?_)
          · have h := h.1 c67
            refine g_aload_n (pc := 91) (x := 1) dX4_readBetween_91 rfl ?_
            refine g_getI (pc := 92) dX4_readBetween_92 fo_X4_68 sh_1 rfl ?_
            refine g_iconst (pc := 95) (v := (1 : Int32)) dX4_readBetween_95 (by decide) ?_
            refine g_icmp_ne (pc := 96) (tgt := 107) dX4_readBetween_96 (by decide) (fun c96 => ?_) (fun c96 => ?_)
            · have h := h.1 c96
              refine g_aload_n (pc := 107) (x := 1) dX4_readBetween_107 rfl ?_
              refine g_bipush (pc := 108) (v := (28 : Int32)) dX4_readBetween_108 (by decide) ?_
              obtain ⟨Pm1, hRm1, h⟩ := h
              refine g_callV (pc := 110) (as := [.int (28 : Int32)]) dX4_readBetween_110 cw_X4_143 (by decide) rfl rfl sh_1 (Nat.le_of_ble_eq_true rfl) hRm1 ?_
              intro r_ m1 hz_ hp_
              rcases h.1 r_ m1 hp_ with rfl | rfl
              · have h := h.2.1 m1 hp_
                refine g_pop (pc := 113) dX4_readBetween_113 rfl ?_
                refine g_aload_n (pc := 114) (x := 1) dX4_readBetween_114 rfl ?_
                refine g_iconst (pc := 115) (v := (1 : Int32)) dX4_readBetween_115 (by decide) ?_
                obtain ⟨Pm2, hRm2, h⟩ := h
                refine g_callV (pc := 116) (as := [.int (1 : Int32)]) dX4_readBetween_116 cw_X4_266 (by decide) rfl rfl sh_1 (Nat.le_of_ble_eq_true rfl) hRm2 ?_
                intro r_ m2 hz_ hp_
                obtain rfl := hz_
                have h := h m2 hp_
                refine g_aload_n (pc := 119) (x := 1) dX4_readBetween_119 rfl ?_
                refine g_getVt (pc := 120) (t := (m2.2.2 1 4)) dX4_readBetween_120 fo_X4_32 sh_1 rfl rfl ?_
                have hr2 := h.1
                have h := h.2
                refine g_getR (pc := 123) (dd := 8) dX4_readBetween_123 fo_X4_124 (AtTown_0 hr2) rfl ?_
                refine g_bipush (pc := 126) (v := (28 : Int32)) dX4_readBetween_126 (by decide) ?_
                obtain ⟨Pm4, hRm4, h⟩ := h
                refine g_callV (pc := 128) (as := [.int (28 : Int32)]) dX4_readBetween_128 cw_X4_251 (by decide) rfl rfl (AtLaws_0 (AtTown.laws hr2)) (Nat.le_of_ble_eq_true rfl) hRm4 ?_
                intro r_ m4 hz_ hp_
                obtain rfl := hz_
                have h := h m4 hp_
                refine g_aload_n (pc := 131) (x := 1) dX4_readBetween_131 rfl ?_
                refine g_iconst (pc := 132) (v := (3 : Int32)) dX4_readBetween_132 (by decide) ?_
                refine g_putI (pc := 133) dX4_readBetween_133 fo_X4_68 sh_1 rfl rfl rfl ?_
                exact g_vret (pc := 136) dX4_readBetween_136 rfl rfl h
              · have h := h.2.2 m1 hp_
                refine g_pop (pc := 113) dX4_readBetween_113 rfl ?_
                refine g_aload_n (pc := 114) (x := 1) dX4_readBetween_114 rfl ?_
                refine g_iconst (pc := 115) (v := (1 : Int32)) dX4_readBetween_115 (by decide) ?_
                obtain ⟨Pm2, hRm2, h⟩ := h
                refine g_callV (pc := 116) (as := [.int (1 : Int32)]) dX4_readBetween_116 cw_X4_266 (by decide) rfl rfl sh_1 (Nat.le_of_ble_eq_true rfl) hRm2 ?_
                intro r_ m2 hz_ hp_
                obtain rfl := hz_
                have h := h m2 hp_
                refine g_aload_n (pc := 119) (x := 1) dX4_readBetween_119 rfl ?_
                refine g_getVt (pc := 120) (t := (m2.2.2 1 4)) dX4_readBetween_120 fo_X4_32 sh_1 rfl rfl ?_
                have hr2 := h.1
                have h := h.2
                refine g_getR (pc := 123) (dd := 8) dX4_readBetween_123 fo_X4_124 (AtTown_0 hr2) rfl ?_
                refine g_bipush (pc := 126) (v := (28 : Int32)) dX4_readBetween_126 (by decide) ?_
                obtain ⟨Pm4, hRm4, h⟩ := h
                refine g_callV (pc := 128) (as := [.int (28 : Int32)]) dX4_readBetween_128 cw_X4_251 (by decide) rfl rfl (AtLaws_0 (AtTown.laws hr2)) (Nat.le_of_ble_eq_true rfl) hRm4 ?_
                intro r_ m4 hz_ hp_
                obtain rfl := hz_
                have h := h m4 hp_
                refine g_aload_n (pc := 131) (x := 1) dX4_readBetween_131 rfl ?_
                refine g_iconst (pc := 132) (v := (3 : Int32)) dX4_readBetween_132 (by decide) ?_
                refine g_putI (pc := 133) dX4_readBetween_133 fo_X4_68 sh_1 rfl rfl rfl ?_
                exact g_vret (pc := 136) dX4_readBetween_136 rfl rfl h
            · have h := h.2 c96
              refine g_aload_n (pc := 99) (x := 1) dX4_readBetween_99 rfl ?_
              refine g_iconst (pc := 100) (v := (1 : Int32)) dX4_readBetween_100 (by decide) ?_
              obtain ⟨Pm1, hRm1, h⟩ := h
              refine g_callV (pc := 101) (as := [.int (1 : Int32)]) dX4_readBetween_101 cw_X4_140 (by decide) rfl rfl sh_1 (Nat.le_of_ble_eq_true rfl) hRm1 ?_
              intro r_ m1 hz_ hp_
              obtain rfl := hz_
              have h := h m1 hp_
              refine g_goto (pc := 104) (tgt := 136) dX4_readBetween_104 (by decide) ?_
              exact g_vret (pc := 136) dX4_readBetween_136 rfl rfl h
          · have h := h.2 c67
            refine g_iload_n (pc := 70) (x := (v_X4_kind mm)) dX4_readBetween_70 rfl ?_
            refine g_bipush (pc := 71) (v := (24 : Int32)) dX4_readBetween_71 (by decide) ?_
            refine g_icmp_eq (pc := 73) (tgt := 82) dX4_readBetween_73 (by decide) (fun c73 => ?_) (fun c73 => ?_)
            · have h := h.1 c73
              refine g_aload_n (pc := 82) (x := 1) dX4_readBetween_82 rfl ?_
              refine g_iload_n (pc := 83) (x := (v_X4_kind mm)) dX4_readBetween_83 rfl ?_
              refine g_iconst (pc := 84) (v := (1 : Int32)) dX4_readBetween_84 (by decide) ?_
              obtain ⟨Pm1, hRm1, h⟩ := h
              refine g_callV (pc := 85) (as := [.int (v_X4_kind mm), .int (1 : Int32)]) dX4_readBetween_85 cw_X4_257 (by decide) rfl rfl sh_1 (Nat.le_of_ble_eq_true rfl) hRm1 ?_
              intro r_ m1 hz_ hp_
              obtain rfl := hz_
              have h := h m1 hp_
              refine g_goto (pc := 88) (tgt := 136) dX4_readBetween_88 (by decide) ?_
              exact g_vret (pc := 136) dX4_readBetween_136 rfl rfl h
            · have h := h.2 c73
              refine g_iload_n (pc := 76) (x := (v_X4_kind mm)) dX4_readBetween_76 rfl ?_
              refine g_bipush (pc := 77) (v := (23 : Int32)) dX4_readBetween_77 (by decide) ?_
              refine g_icmp_ne (pc := 79) (tgt := 91) dX4_readBetween_79 (by decide) (fun c79 => ?_) (fun c79 => ?_)
              · have h := h.1 c79
                refine g_aload_n (pc := 91) (x := 1) dX4_readBetween_91 rfl ?_
                refine g_getI (pc := 92) dX4_readBetween_92 fo_X4_68 sh_1 rfl ?_
                refine g_iconst (pc := 95) (v := (1 : Int32)) dX4_readBetween_95 (by decide) ?_
                refine g_icmp_ne (pc := 96) (tgt := 107) dX4_readBetween_96 (by decide) (fun c96 => ?_) (fun c96 => ?_)
                · have h := h.1 c96
                  refine g_aload_n (pc := 107) (x := 1) dX4_readBetween_107 rfl ?_
                  refine g_bipush (pc := 108) (v := (28 : Int32)) dX4_readBetween_108 (by decide) ?_
                  obtain ⟨Pm1, hRm1, h⟩ := h
                  refine g_callV (pc := 110) (as := [.int (28 : Int32)]) dX4_readBetween_110 cw_X4_143 (by decide) rfl rfl sh_1 (Nat.le_of_ble_eq_true rfl) hRm1 ?_
                  intro r_ m1 hz_ hp_
                  rcases h.1 r_ m1 hp_ with rfl | rfl
                  · have h := h.2.1 m1 hp_
                    refine g_pop (pc := 113) dX4_readBetween_113 rfl ?_
                    refine g_aload_n (pc := 114) (x := 1) dX4_readBetween_114 rfl ?_
                    refine g_iconst (pc := 115) (v := (1 : Int32)) dX4_readBetween_115 (by decide) ?_
                    obtain ⟨Pm2, hRm2, h⟩ := h
                    refine g_callV (pc := 116) (as := [.int (1 : Int32)]) dX4_readBetween_116 cw_X4_266 (by decide) rfl rfl sh_1 (Nat.le_of_ble_eq_true rfl) hRm2 ?_
                    intro r_ m2 hz_ hp_
                    obtain rfl := hz_
                    have h := h m2 hp_
                    refine g_aload_n (pc := 119) (x := 1) dX4_readBetween_119 rfl ?_
                    refine g_getVt (pc := 120) (t := (m2.2.2 1 4)) dX4_readBetween_120 fo_X4_32 sh_1 rfl rfl ?_
                    have hr2 := h.1
                    have h := h.2
                    refine g_getR (pc := 123) (dd := 8) dX4_readBetween_123 fo_X4_124 (AtTown_0 hr2) rfl ?_
                    refine g_bipush (pc := 126) (v := (28 : Int32)) dX4_readBetween_126 (by decide) ?_
                    obtain ⟨Pm4, hRm4, h⟩ := h
                    refine g_callV (pc := 128) (as := [.int (28 : Int32)]) dX4_readBetween_128 cw_X4_251 (by decide) rfl rfl (AtLaws_0 (AtTown.laws hr2)) (Nat.le_of_ble_eq_true rfl) hRm4 ?_
                    intro r_ m4 hz_ hp_
                    obtain rfl := hz_
                    have h := h m4 hp_
                    refine g_aload_n (pc := 131) (x := 1) dX4_readBetween_131 rfl ?_
                    refine g_iconst (pc := 132) (v := (3 : Int32)) dX4_readBetween_132 (by decide) ?_
                    refine g_putI (pc := 133) dX4_readBetween_133 fo_X4_68 sh_1 rfl rfl rfl ?_
                    exact g_vret (pc := 136) dX4_readBetween_136 rfl rfl h
                  · have h := h.2.2 m1 hp_
                    refine g_pop (pc := 113) dX4_readBetween_113 rfl ?_
                    refine g_aload_n (pc := 114) (x := 1) dX4_readBetween_114 rfl ?_
                    refine g_iconst (pc := 115) (v := (1 : Int32)) dX4_readBetween_115 (by decide) ?_
                    obtain ⟨Pm2, hRm2, h⟩ := h
                    refine g_callV (pc := 116) (as := [.int (1 : Int32)]) dX4_readBetween_116 cw_X4_266 (by decide) rfl rfl sh_1 (Nat.le_of_ble_eq_true rfl) hRm2 ?_
                    intro r_ m2 hz_ hp_
                    obtain rfl := hz_
                    have h := h m2 hp_
                    refine g_aload_n (pc := 119) (x := 1) dX4_readBetween_119 rfl ?_
                    refine g_getVt (pc := 120) (t := (m2.2.2 1 4)) dX4_readBetween_120 fo_X4_32 sh_1 rfl rfl ?_
                    have hr2 := h.1
                    have h := h.2
                    refine g_getR (pc := 123) (dd := 8) dX4_readBetween_123 fo_X4_124 (AtTown_0 hr2) rfl ?_
                    refine g_bipush (pc := 126) (v := (28 : Int32)) dX4_readBetween_126 (by decide) ?_
                    obtain ⟨Pm4, hRm4, h⟩ := h
                    refine g_callV (pc := 128) (as := [.int (28 : Int32)]) dX4_readBetween_128 cw_X4_251 (by decide) rfl rfl (AtLaws_0 (AtTown.laws hr2)) (Nat.le_of_ble_eq_true rfl) hRm4 ?_
                    intro r_ m4 hz_ hp_
                    obtain rfl := hz_
                    have h := h m4 hp_
                    refine g_aload_n (pc := 131) (x := 1) dX4_readBetween_131 rfl ?_
                    refine g_iconst (pc := 132) (v := (3 : Int32)) dX4_readBetween_132 (by decide) ?_
                    refine g_putI (pc := 133) dX4_readBetween_133 fo_X4_68 sh_1 rfl rfl rfl ?_
                    exact g_vret (pc := 136) dX4_readBetween_136 rfl rfl h
                · have h := h.2 c96
                  refine g_aload_n (pc := 99) (x := 1) dX4_readBetween_99 rfl ?_
                  refine g_iconst (pc := 100) (v := (1 : Int32)) dX4_readBetween_100 (by decide) ?_
                  obtain ⟨Pm1, hRm1, h⟩ := h
                  refine g_callV (pc := 101) (as := [.int (1 : Int32)]) dX4_readBetween_101 cw_X4_140 (by decide) rfl rfl sh_1 (Nat.le_of_ble_eq_true rfl) hRm1 ?_
                  intro r_ m1 hz_ hp_
                  obtain rfl := hz_
                  have h := h m1 hp_
                  refine g_goto (pc := 104) (tgt := 136) dX4_readBetween_104 (by decide) ?_
                  exact g_vret (pc := 136) dX4_readBetween_136 rfl rfl h
              · have h := h.2 c79
                refine g_aload_n (pc := 82) (x := 1) dX4_readBetween_82 rfl ?_
                refine g_iload_n (pc := 83) (x := (v_X4_kind mm)) dX4_readBetween_83 rfl ?_
                refine g_iconst (pc := 84) (v := (1 : Int32)) dX4_readBetween_84 (by decide) ?_
                obtain ⟨Pm1, hRm1, h⟩ := h
                refine g_callV (pc := 85) (as := [.int (v_X4_kind mm), .int (1 : Int32)]) dX4_readBetween_85 cw_X4_257 (by decide) rfl rfl sh_1 (Nat.le_of_ble_eq_true rfl) hRm1 ?_
                intro r_ m1 hz_ hp_
                obtain rfl := hz_
                have h := h m1 hp_
                refine g_goto (pc := 88) (tgt := 136) dX4_readBetween_88 (by decide) ?_
                exact g_vret (pc := 136) dX4_readBetween_136 rfl rfl h
    · have h := h.2 c28
      refine g_aload_n (pc := 31) (x := 1) dX4_readBetween_31 rfl ?_
      obtain ⟨Pm1, hRm1, h⟩ := h
      refine g_callV (pc := 32) (as := []) dX4_readBetween_32 cw_X4_260 (by decide) rfl rfl sh_1 (Nat.le_of_ble_eq_true rfl) hRm1 ?_
      intro r_ m1 hz_ hp_
      obtain rfl := hz_
      have h := h m1 hp_
      refine g_goto (pc := 35) (tgt := 136) dX4_readBetween_35 (by decide) ?_
      exact g_vret (pc := 136) dX4_readBetween_136 rfl rfl h
theorem dX4_bond_0 : decode cX4_bond 0 = .ok (.iload_n 0, 1) := by decide +kernel
theorem dX4_bond_1 : decode cX4_bond 1 = .ok (.tableswitch 92 23 38 #[79, 81, 83, 92, 92, 92, 92, 85, 85, 87, 87, 92, 92, 92, 92, 90], 79) := by decide +kernel
theorem dX4_bond_80 : decode cX4_bond 80 = .ok (.iconst 1, 1) := by decide +kernel
theorem dX4_bond_81 : decode cX4_bond 81 = .ok (.ireturn, 1) := by decide +kernel
theorem dX4_bond_82 : decode cX4_bond 82 = .ok (.iconst 2, 1) := by decide +kernel
theorem dX4_bond_83 : decode cX4_bond 83 = .ok (.ireturn, 1) := by decide +kernel
theorem dX4_bond_84 : decode cX4_bond 84 = .ok (.iconst 3, 1) := by decide +kernel
theorem dX4_bond_85 : decode cX4_bond 85 = .ok (.ireturn, 1) := by decide +kernel
theorem dX4_bond_86 : decode cX4_bond 86 = .ok (.iconst 5, 1) := by decide +kernel
theorem dX4_bond_87 : decode cX4_bond 87 = .ok (.ireturn, 1) := by decide +kernel
theorem dX4_bond_88 : decode cX4_bond 88 = .ok (.bipush 6, 2) := by decide +kernel
theorem dX4_bond_90 : decode cX4_bond 90 = .ok (.ireturn, 1) := by decide +kernel
theorem dX4_bond_91 : decode cX4_bond 91 = .ok (.iconst 0, 1) := by decide +kernel
theorem dX4_bond_92 : decode cX4_bond 92 = .ok (.ireturn, 1) := by decide +kernel
theorem dX4_bond_93 : decode cX4_bond 93 = .ok (.iconst 4, 1) := by decide +kernel
theorem dX4_bond_94 : decode cX4_bond 94 = .ok (.ireturn, 1) := by decide +kernel
noncomputable def v_X4_bond (mm : MM) (a0 : Int32) : Int32 := (cite (a0 = (23 : Int32)) (1 : Int32) (cite (a0 = (24 : Int32)) (2 : Int32) (cite (a0 = (25 : Int32)) (3 : Int32) (cite (a0 = (26 : Int32)) (4 : Int32) (cite (a0 = (27 : Int32)) (4 : Int32) (cite (a0 = (28 : Int32)) (4 : Int32) (cite (a0 = (29 : Int32)) (4 : Int32) (cite (a0 = (30 : Int32)) (5 : Int32) (cite (a0 = (31 : Int32)) (5 : Int32) (cite (a0 = (32 : Int32)) (6 : Int32) (cite (a0 = (33 : Int32)) (6 : Int32) (cite (a0 = (34 : Int32)) (4 : Int32) (cite (a0 = (35 : Int32)) (4 : Int32) (cite (a0 = (36 : Int32)) (4 : Int32) (cite (a0 = (37 : Int32)) (4 : Int32) (cite (a0 = (38 : Int32)) (0 : Int32) (4 : Int32)))))))))))))))))
theorem rv_X4_bond (mm : MM) (a0 : Int32) : Runs e_X4_bond [.int a0] mm (fun r m_ => r = .int (v_X4_bond mm a0) ∧ mm = m_) := by
  refine runs_of_G (L := [(0, .int a0)]) pl_X4 (Nat.le_of_ble_eq_true rfl) rfl ?_
  refine g_iload_n (pc := 0) (x := a0) dX4_bond_0 rfl ?_
  by_cases c1_0 : a0 = (23 : Int32)
  · have c1_0_0 : a0 = (23 : Int32) := c1_0
    refine g_tsIn (pc := 1) (off := 79) (tgt := 80) dX4_bond_1 (by rw [c1_0]; decide) (by rw [c1_0]; decide) (by rw [c1_0]; rfl) (by decide) ?_
    refine g_iconst (pc := 80) (v := (1 : Int32)) dX4_bond_80 (by decide) ?_
    exact g_iret (pc := 81) dX4_bond_81 rfl rfl rfl ⟨(by unfold v_X4_bond; rw [cite_pos c1_0_0] <;> rfl), rfl⟩
  · have c1_0_0 : ¬ a0 = (23 : Int32) := c1_0
    by_cases c1_1 : a0 = (24 : Int32)
    · have c1_1_1 : a0 = (24 : Int32) := c1_1
      refine g_tsIn (pc := 1) (off := 81) (tgt := 82) dX4_bond_1 (by rw [c1_1]; decide) (by rw [c1_1]; decide) (by rw [c1_1]; rfl) (by decide) ?_
      refine g_iconst (pc := 82) (v := (2 : Int32)) dX4_bond_82 (by decide) ?_
      exact g_iret (pc := 83) dX4_bond_83 rfl rfl rfl ⟨(by unfold v_X4_bond; rw [cite_neg c1_0_0, cite_pos c1_1_1] <;> rfl), rfl⟩
    · have c1_1_1 : ¬ a0 = (24 : Int32) := c1_1
      by_cases c1_2 : a0 = (25 : Int32)
      · have c1_2_2 : a0 = (25 : Int32) := c1_2
        refine g_tsIn (pc := 1) (off := 83) (tgt := 84) dX4_bond_1 (by rw [c1_2]; decide) (by rw [c1_2]; decide) (by rw [c1_2]; rfl) (by decide) ?_
        refine g_iconst (pc := 84) (v := (3 : Int32)) dX4_bond_84 (by decide) ?_
        exact g_iret (pc := 85) dX4_bond_85 rfl rfl rfl ⟨(by unfold v_X4_bond; rw [cite_neg c1_0_0, cite_neg c1_1_1, cite_pos c1_2_2] <;> rfl), rfl⟩
      · have c1_2_2 : ¬ a0 = (25 : Int32) := c1_2
        by_cases c1_3 : a0 = (26 : Int32)
        · have c1_3_3 : a0 = (26 : Int32) := c1_3
          refine g_tsIn (pc := 1) (off := 92) (tgt := 93) dX4_bond_1 (by rw [c1_3]; decide) (by rw [c1_3]; decide) (by rw [c1_3]; rfl) (by decide) ?_
          refine g_iconst (pc := 93) (v := (4 : Int32)) dX4_bond_93 (by decide) ?_
          exact g_iret (pc := 94) dX4_bond_94 rfl rfl rfl ⟨(by unfold v_X4_bond; rw [cite_neg c1_0_0, cite_neg c1_1_1, cite_neg c1_2_2, cite_pos c1_3_3] <;> rfl), rfl⟩
        · have c1_3_3 : ¬ a0 = (26 : Int32) := c1_3
          by_cases c1_4 : a0 = (27 : Int32)
          · have c1_4_4 : a0 = (27 : Int32) := c1_4
            refine g_tsIn (pc := 1) (off := 92) (tgt := 93) dX4_bond_1 (by rw [c1_4]; decide) (by rw [c1_4]; decide) (by rw [c1_4]; rfl) (by decide) ?_
            refine g_iconst (pc := 93) (v := (4 : Int32)) dX4_bond_93 (by decide) ?_
            exact g_iret (pc := 94) dX4_bond_94 rfl rfl rfl ⟨(by unfold v_X4_bond; rw [cite_neg c1_0_0, cite_neg c1_1_1, cite_neg c1_2_2, cite_neg c1_3_3, cite_pos c1_4_4] <;> rfl), rfl⟩
          · have c1_4_4 : ¬ a0 = (27 : Int32) := c1_4
            by_cases c1_5 : a0 = (28 : Int32)
            · have c1_5_5 : a0 = (28 : Int32) := c1_5
              refine g_tsIn (pc := 1) (off := 92) (tgt := 93) dX4_bond_1 (by rw [c1_5]; decide) (by rw [c1_5]; decide) (by rw [c1_5]; rfl) (by decide) ?_
              refine g_iconst (pc := 93) (v := (4 : Int32)) dX4_bond_93 (by decide) ?_
              exact g_iret (pc := 94) dX4_bond_94 rfl rfl rfl ⟨(by unfold v_X4_bond; rw [cite_neg c1_0_0, cite_neg c1_1_1, cite_neg c1_2_2, cite_neg c1_3_3, cite_neg c1_4_4, cite_pos c1_5_5] <;> rfl), rfl⟩
            · have c1_5_5 : ¬ a0 = (28 : Int32) := c1_5
              by_cases c1_6 : a0 = (29 : Int32)
              · have c1_6_6 : a0 = (29 : Int32) := c1_6
                refine g_tsIn (pc := 1) (off := 92) (tgt := 93) dX4_bond_1 (by rw [c1_6]; decide) (by rw [c1_6]; decide) (by rw [c1_6]; rfl) (by decide) ?_
                refine g_iconst (pc := 93) (v := (4 : Int32)) dX4_bond_93 (by decide) ?_
                exact g_iret (pc := 94) dX4_bond_94 rfl rfl rfl ⟨(by unfold v_X4_bond; rw [cite_neg c1_0_0, cite_neg c1_1_1, cite_neg c1_2_2, cite_neg c1_3_3, cite_neg c1_4_4, cite_neg c1_5_5, cite_pos c1_6_6] <;> rfl), rfl⟩
              · have c1_6_6 : ¬ a0 = (29 : Int32) := c1_6
                by_cases c1_7 : a0 = (30 : Int32)
                · have c1_7_7 : a0 = (30 : Int32) := c1_7
                  refine g_tsIn (pc := 1) (off := 85) (tgt := 86) dX4_bond_1 (by rw [c1_7]; decide) (by rw [c1_7]; decide) (by rw [c1_7]; rfl) (by decide) ?_
                  refine g_iconst (pc := 86) (v := (5 : Int32)) dX4_bond_86 (by decide) ?_
                  exact g_iret (pc := 87) dX4_bond_87 rfl rfl rfl ⟨(by unfold v_X4_bond; rw [cite_neg c1_0_0, cite_neg c1_1_1, cite_neg c1_2_2, cite_neg c1_3_3, cite_neg c1_4_4, cite_neg c1_5_5, cite_neg c1_6_6, cite_pos c1_7_7] <;> rfl), rfl⟩
                · have c1_7_7 : ¬ a0 = (30 : Int32) := c1_7
                  by_cases c1_8 : a0 = (31 : Int32)
                  · have c1_8_8 : a0 = (31 : Int32) := c1_8
                    refine g_tsIn (pc := 1) (off := 85) (tgt := 86) dX4_bond_1 (by rw [c1_8]; decide) (by rw [c1_8]; decide) (by rw [c1_8]; rfl) (by decide) ?_
                    refine g_iconst (pc := 86) (v := (5 : Int32)) dX4_bond_86 (by decide) ?_
                    exact g_iret (pc := 87) dX4_bond_87 rfl rfl rfl ⟨(by unfold v_X4_bond; rw [cite_neg c1_0_0, cite_neg c1_1_1, cite_neg c1_2_2, cite_neg c1_3_3, cite_neg c1_4_4, cite_neg c1_5_5, cite_neg c1_6_6, cite_neg c1_7_7, cite_pos c1_8_8] <;> rfl), rfl⟩
                  · have c1_8_8 : ¬ a0 = (31 : Int32) := c1_8
                    by_cases c1_9 : a0 = (32 : Int32)
                    · have c1_9_9 : a0 = (32 : Int32) := c1_9
                      refine g_tsIn (pc := 1) (off := 87) (tgt := 88) dX4_bond_1 (by rw [c1_9]; decide) (by rw [c1_9]; decide) (by rw [c1_9]; rfl) (by decide) ?_
                      refine g_bipush (pc := 88) (v := (6 : Int32)) dX4_bond_88 (by decide) ?_
                      exact g_iret (pc := 90) dX4_bond_90 rfl rfl rfl ⟨(by unfold v_X4_bond; rw [cite_neg c1_0_0, cite_neg c1_1_1, cite_neg c1_2_2, cite_neg c1_3_3, cite_neg c1_4_4, cite_neg c1_5_5, cite_neg c1_6_6, cite_neg c1_7_7, cite_neg c1_8_8, cite_pos c1_9_9] <;> rfl), rfl⟩
                    · have c1_9_9 : ¬ a0 = (32 : Int32) := c1_9
                      by_cases c1_10 : a0 = (33 : Int32)
                      · have c1_10_10 : a0 = (33 : Int32) := c1_10
                        refine g_tsIn (pc := 1) (off := 87) (tgt := 88) dX4_bond_1 (by rw [c1_10]; decide) (by rw [c1_10]; decide) (by rw [c1_10]; rfl) (by decide) ?_
                        refine g_bipush (pc := 88) (v := (6 : Int32)) dX4_bond_88 (by decide) ?_
                        exact g_iret (pc := 90) dX4_bond_90 rfl rfl rfl ⟨(by unfold v_X4_bond; rw [cite_neg c1_0_0, cite_neg c1_1_1, cite_neg c1_2_2, cite_neg c1_3_3, cite_neg c1_4_4, cite_neg c1_5_5, cite_neg c1_6_6, cite_neg c1_7_7, cite_neg c1_8_8, cite_neg c1_9_9, cite_pos c1_10_10] <;> rfl), rfl⟩
                      · have c1_10_10 : ¬ a0 = (33 : Int32) := c1_10
                        by_cases c1_11 : a0 = (34 : Int32)
                        · have c1_11_11 : a0 = (34 : Int32) := c1_11
                          refine g_tsIn (pc := 1) (off := 92) (tgt := 93) dX4_bond_1 (by rw [c1_11]; decide) (by rw [c1_11]; decide) (by rw [c1_11]; rfl) (by decide) ?_
                          refine g_iconst (pc := 93) (v := (4 : Int32)) dX4_bond_93 (by decide) ?_
                          exact g_iret (pc := 94) dX4_bond_94 rfl rfl rfl ⟨(by unfold v_X4_bond; rw [cite_neg c1_0_0, cite_neg c1_1_1, cite_neg c1_2_2, cite_neg c1_3_3, cite_neg c1_4_4, cite_neg c1_5_5, cite_neg c1_6_6, cite_neg c1_7_7, cite_neg c1_8_8, cite_neg c1_9_9, cite_neg c1_10_10, cite_pos c1_11_11] <;> rfl), rfl⟩
                        · have c1_11_11 : ¬ a0 = (34 : Int32) := c1_11
                          by_cases c1_12 : a0 = (35 : Int32)
                          · have c1_12_12 : a0 = (35 : Int32) := c1_12
                            refine g_tsIn (pc := 1) (off := 92) (tgt := 93) dX4_bond_1 (by rw [c1_12]; decide) (by rw [c1_12]; decide) (by rw [c1_12]; rfl) (by decide) ?_
                            refine g_iconst (pc := 93) (v := (4 : Int32)) dX4_bond_93 (by decide) ?_
                            exact g_iret (pc := 94) dX4_bond_94 rfl rfl rfl ⟨(by unfold v_X4_bond; rw [cite_neg c1_0_0, cite_neg c1_1_1, cite_neg c1_2_2, cite_neg c1_3_3, cite_neg c1_4_4, cite_neg c1_5_5, cite_neg c1_6_6, cite_neg c1_7_7, cite_neg c1_8_8, cite_neg c1_9_9, cite_neg c1_10_10, cite_neg c1_11_11, cite_pos c1_12_12] <;> rfl), rfl⟩
                          · have c1_12_12 : ¬ a0 = (35 : Int32) := c1_12
                            by_cases c1_13 : a0 = (36 : Int32)
                            · have c1_13_13 : a0 = (36 : Int32) := c1_13
                              refine g_tsIn (pc := 1) (off := 92) (tgt := 93) dX4_bond_1 (by rw [c1_13]; decide) (by rw [c1_13]; decide) (by rw [c1_13]; rfl) (by decide) ?_
                              refine g_iconst (pc := 93) (v := (4 : Int32)) dX4_bond_93 (by decide) ?_
                              exact g_iret (pc := 94) dX4_bond_94 rfl rfl rfl ⟨(by unfold v_X4_bond; rw [cite_neg c1_0_0, cite_neg c1_1_1, cite_neg c1_2_2, cite_neg c1_3_3, cite_neg c1_4_4, cite_neg c1_5_5, cite_neg c1_6_6, cite_neg c1_7_7, cite_neg c1_8_8, cite_neg c1_9_9, cite_neg c1_10_10, cite_neg c1_11_11, cite_neg c1_12_12, cite_pos c1_13_13] <;> rfl), rfl⟩
                            · have c1_13_13 : ¬ a0 = (36 : Int32) := c1_13
                              by_cases c1_14 : a0 = (37 : Int32)
                              · have c1_14_14 : a0 = (37 : Int32) := c1_14
                                refine g_tsIn (pc := 1) (off := 92) (tgt := 93) dX4_bond_1 (by rw [c1_14]; decide) (by rw [c1_14]; decide) (by rw [c1_14]; rfl) (by decide) ?_
                                refine g_iconst (pc := 93) (v := (4 : Int32)) dX4_bond_93 (by decide) ?_
                                exact g_iret (pc := 94) dX4_bond_94 rfl rfl rfl ⟨(by unfold v_X4_bond; rw [cite_neg c1_0_0, cite_neg c1_1_1, cite_neg c1_2_2, cite_neg c1_3_3, cite_neg c1_4_4, cite_neg c1_5_5, cite_neg c1_6_6, cite_neg c1_7_7, cite_neg c1_8_8, cite_neg c1_9_9, cite_neg c1_10_10, cite_neg c1_11_11, cite_neg c1_12_12, cite_neg c1_13_13, cite_pos c1_14_14] <;> rfl), rfl⟩
                              · have c1_14_14 : ¬ a0 = (37 : Int32) := c1_14
                                by_cases c1_15 : a0 = (38 : Int32)
                                · have c1_15_15 : a0 = (38 : Int32) := c1_15
                                  refine g_tsIn (pc := 1) (off := 90) (tgt := 91) dX4_bond_1 (by rw [c1_15]; decide) (by rw [c1_15]; decide) (by rw [c1_15]; rfl) (by decide) ?_
                                  refine g_iconst (pc := 91) (v := (0 : Int32)) dX4_bond_91 (by decide) ?_
                                  exact g_iret (pc := 92) dX4_bond_92 rfl rfl rfl ⟨(by unfold v_X4_bond; rw [cite_neg c1_0_0, cite_neg c1_1_1, cite_neg c1_2_2, cite_neg c1_3_3, cite_neg c1_4_4, cite_neg c1_5_5, cite_neg c1_6_6, cite_neg c1_7_7, cite_neg c1_8_8, cite_neg c1_9_9, cite_neg c1_10_10, cite_neg c1_11_11, cite_neg c1_12_12, cite_neg c1_13_13, cite_neg c1_14_14, cite_pos c1_15_15] <;> rfl), rfl⟩
                                · have c1_15_15 : ¬ a0 = (38 : Int32) := c1_15
                                  refine g_tsOut (pc := 1) (tgt := 93) dX4_bond_1 (by have e0_ := ts_ne (k := 23) c1_0 (by decide); have e1_ := ts_ne (k := 24) c1_1 (by decide); have e2_ := ts_ne (k := 25) c1_2 (by decide); have e3_ := ts_ne (k := 26) c1_3 (by decide); have e4_ := ts_ne (k := 27) c1_4 (by decide); have e5_ := ts_ne (k := 28) c1_5 (by decide); have e6_ := ts_ne (k := 29) c1_6 (by decide); have e7_ := ts_ne (k := 30) c1_7 (by decide); have e8_ := ts_ne (k := 31) c1_8 (by decide); have e9_ := ts_ne (k := 32) c1_9 (by decide); have e10_ := ts_ne (k := 33) c1_10 (by decide); have e11_ := ts_ne (k := 34) c1_11 (by decide); have e12_ := ts_ne (k := 35) c1_12 (by decide); have e13_ := ts_ne (k := 36) c1_13 (by decide); have e14_ := ts_ne (k := 37) c1_14 (by decide); have e15_ := ts_ne (k := 38) c1_15 (by decide); omega) (by decide) ?_
                                  refine g_iconst (pc := 93) (v := (4 : Int32)) dX4_bond_93 (by decide) ?_
                                  exact g_iret (pc := 94) dX4_bond_94 rfl rfl rfl ⟨(by unfold v_X4_bond; rw [cite_neg c1_0_0, cite_neg c1_1_1, cite_neg c1_2_2, cite_neg c1_3_3, cite_neg c1_4_4, cite_neg c1_5_5, cite_neg c1_6_6, cite_neg c1_7_7, cite_neg c1_8_8, cite_neg c1_9_9, cite_neg c1_10_10, cite_neg c1_11_11, cite_neg c1_12_12, cite_neg c1_13_13, cite_neg c1_14_14, cite_neg c1_15_15] <;> rfl), rfl⟩
theorem dX4_readJoint_0 : decode cX4_readJoint 0 = .ok (.aload_n 0, 1) := by decide +kernel
theorem dX4_readJoint_1 : decode cX4_readJoint 1 = .ok (.iload_n 1, 1) := by decide +kernel
theorem dX4_readJoint_2 : decode cX4_readJoint 2 = .ok (.invokevirtual 143, 3) := by decide +kernel
theorem dX4_readJoint_5 : decode cX4_readJoint 5 = .ok (.pop, 1) := by decide +kernel
theorem dX4_readJoint_6 : decode cX4_readJoint 6 = .ok (.aload_n 0, 1) := by decide +kernel
theorem dX4_readJoint_7 : decode cX4_readJoint 7 = .ok (.iload_n 1, 1) := by decide +kernel
theorem dX4_readJoint_8 : decode cX4_readJoint 8 = .ok (.invokestatic 269, 3) := by decide +kernel
theorem dX4_readJoint_11 : decode cX4_readJoint 11 = .ok (.invokevirtual 266, 3) := by decide +kernel
theorem dX4_readJoint_14 : decode cX4_readJoint 14 = .ok (.aload_n 0, 1) := by decide +kernel
theorem dX4_readJoint_15 : decode cX4_readJoint 15 = .ok (.iload_n 1, 1) := by decide +kernel
theorem dX4_readJoint_16 : decode cX4_readJoint 16 = .ok (.invokevirtual 239, 3) := by decide +kernel
theorem dX4_readJoint_19 : decode cX4_readJoint 19 = .ok (.aload_n 0, 1) := by decide +kernel
theorem dX4_readJoint_20 : decode cX4_readJoint 20 = .ok (.iload_n 2, 1) := by decide +kernel
theorem dX4_readJoint_21 : decode cX4_readJoint 21 = .ok (.putfield 68, 3) := by decide +kernel
theorem dX4_readJoint_24 : decode cX4_readJoint 24 = .ok (.aload_n 0, 1) := by decide +kernel
theorem dX4_readJoint_25 : decode cX4_readJoint 25 = .ok (.iconst 1, 1) := by decide +kernel
theorem dX4_readJoint_26 : decode cX4_readJoint 26 = .ok (.putfield 74, 3) := by decide +kernel
theorem dX4_readJoint_29 : decode cX4_readJoint 29 = .ok (.aload_n 0, 1) := by decide +kernel
theorem dX4_readJoint_30 : decode cX4_readJoint 30 = .ok (.iload_n 1, 1) := by decide +kernel
theorem dX4_readJoint_31 : decode cX4_readJoint 31 = .ok (.bipush 24, 2) := by decide +kernel
theorem dX4_readJoint_33 : decode cX4_readJoint 33 = .ok (.if_icmp .eq 9, 3) := by decide +kernel
theorem dX4_readJoint_36 : decode cX4_readJoint 36 = .ok (.iload_n 1, 1) := by decide +kernel
theorem dX4_readJoint_37 : decode cX4_readJoint 37 = .ok (.bipush 23, 2) := by decide +kernel
theorem dX4_readJoint_39 : decode cX4_readJoint 39 = .ok (.if_icmp .ne 7, 3) := by decide +kernel
theorem dX4_readJoint_42 : decode cX4_readJoint 42 = .ok (.iconst 1, 1) := by decide +kernel
theorem dX4_readJoint_43 : decode cX4_readJoint 43 = .ok (.goto 4, 3) := by decide +kernel
theorem dX4_readJoint_46 : decode cX4_readJoint 46 = .ok (.iconst 0, 1) := by decide +kernel
theorem dX4_readJoint_47 : decode cX4_readJoint 47 = .ok (.putfield 78, 3) := by decide +kernel
theorem dX4_readJoint_50 : decode cX4_readJoint 50 = .ok (.return_, 1) := by decide +kernel
theorem b_X4_readJoint (mm : MM) (Q : Value → MM → Prop) (a1 : Int32) (a2 : Int32) (h : ∃ Pm1 : Value → MM → Prop, Runs e_X4_take [.ref 1, .int a1] mm Pm1 ∧ (∀ r m1, Pm1 r m1 → r = .int 1 ∨ r = .int 0) ∧ (∀ m1, Pm1 (.int 1) m1 → (∃ Pm2 : Value → MM → Prop, Runs e_X4_release [.ref 1, .int (v_X4_bond m1 a1)] m1 Pm2 ∧ ∀ m2, Pm2 .null m2 → (∃ Pm3 : Value → MM → Prop, Runs e_X4_keepWaiting [.ref 1, .int a1] m2 Pm3 ∧ ∀ m3, Pm3 .null m3 → ((a1 = (24 : Int32) → (Q .null (wI (wI (wI m3 1 14 a2) 1 16 (1 : Int32)) 1 17 (1 : Int32)))) ∧ (¬ a1 = (24 : Int32) → ((¬ a1 = (23 : Int32) → (Q .null (wI (wI (wI m3 1 14 a2) 1 16 (1 : Int32)) 1 17 (0 : Int32)))) ∧ (a1 = (23 : Int32) → (Q .null (wI (wI (wI m3 1 14 a2) 1 16 (1 : Int32)) 1 17 (1 : Int32)))))))))) ∧ (∀ m1, Pm1 (.int 0) m1 → (∃ Pm2 : Value → MM → Prop, Runs e_X4_release [.ref 1, .int (v_X4_bond m1 a1)] m1 Pm2 ∧ ∀ m2, Pm2 .null m2 → (∃ Pm3 : Value → MM → Prop, Runs e_X4_keepWaiting [.ref 1, .int a1] m2 Pm3 ∧ ∀ m3, Pm3 .null m3 → ((a1 = (24 : Int32) → (Q .null (wI (wI (wI m3 1 14 a2) 1 16 (1 : Int32)) 1 17 (1 : Int32)))) ∧ (¬ a1 = (24 : Int32) → ((¬ a1 = (23 : Int32) → (Q .null (wI (wI (wI m3 1 14 a2) 1 16 (1 : Int32)) 1 17 (0 : Int32)))) ∧ (a1 = (23 : Int32) → (Q .null (wI (wI (wI m3 1 14 a2) 1 16 (1 : Int32)) 1 17 (1 : Int32))))))))))) : Runs e_X4_readJoint [.ref 1, .int a1, .int a2] mm Q := by
  refine runs_of_G (L := [(0, .ref 1), (1, .int a1), (2, .int a2)]) pl_X4 (Nat.le_of_ble_eq_true rfl) rfl ?_
  refine g_aload_n (pc := 0) (x := 1) dX4_readJoint_0 rfl ?_
  refine g_iload_n (pc := 1) (x := a1) dX4_readJoint_1 rfl ?_
  obtain ⟨Pm1, hRm1, h⟩ := h
  refine g_callV (pc := 2) (as := [.int a1]) dX4_readJoint_2 cw_X4_143 (by decide) rfl rfl sh_1 (Nat.le_of_ble_eq_true rfl) hRm1 ?_
  intro r_ m1 hz_ hp_
  rcases h.1 r_ m1 hp_ with rfl | rfl
  · have h := h.2.1 m1 hp_
    refine g_pop (pc := 5) dX4_readJoint_5 rfl ?_
    refine g_aload_n (pc := 6) (x := 1) dX4_readJoint_6 rfl ?_
    refine g_iload_n (pc := 7) (x := a1) dX4_readJoint_7 rfl ?_
    refine g_callS (pc := 8) (as := [.int a1]) dX4_readJoint_8 cw_X4_269 (by decide) rfl rfl (Nat.le_of_ble_eq_true rfl) (rv_X4_bond m1 a1) ?_
    rintro r_ m_ hz_ ⟨rfl, rfl⟩
    obtain ⟨Pm2, hRm2, h⟩ := h
    refine g_callV (pc := 11) (as := [.int (v_X4_bond m1 a1)]) dX4_readJoint_11 cw_X4_266 (by decide) rfl rfl sh_1 (Nat.le_of_ble_eq_true rfl) hRm2 ?_
    intro r_ m2 hz_ hp_
    obtain rfl := hz_
    have h := h m2 hp_
    refine g_aload_n (pc := 14) (x := 1) dX4_readJoint_14 rfl ?_
    refine g_iload_n (pc := 15) (x := a1) dX4_readJoint_15 rfl ?_
    obtain ⟨Pm3, hRm3, h⟩ := h
    refine g_callV (pc := 16) (as := [.int a1]) dX4_readJoint_16 cw_X4_239 (by decide) rfl rfl sh_1 (Nat.le_of_ble_eq_true rfl) hRm3 ?_
    intro r_ m3 hz_ hp_
    obtain rfl := hz_
    have h := h m3 hp_
    refine g_aload_n (pc := 19) (x := 1) dX4_readJoint_19 rfl ?_
    refine g_iload_n (pc := 20) (x := a2) dX4_readJoint_20 rfl ?_
    refine g_putI (pc := 21) dX4_readJoint_21 fo_X4_68 sh_1 rfl rfl rfl ?_
    refine g_aload_n (pc := 24) (x := 1) dX4_readJoint_24 rfl ?_
    refine g_iconst (pc := 25) (v := (1 : Int32)) dX4_readJoint_25 (by decide) ?_
    refine g_putI (pc := 26) dX4_readJoint_26 fo_X4_74 sh_1 rfl (nar_B isB1) (fit_B isB1) ?_
    refine g_aload_n (pc := 29) (x := 1) dX4_readJoint_29 rfl ?_
    refine g_iload_n (pc := 30) (x := a1) dX4_readJoint_30 rfl ?_
    refine g_bipush (pc := 31) (v := (24 : Int32)) dX4_readJoint_31 (by decide) ?_
    refine g_icmp_eq (pc := 33) (tgt := 42) dX4_readJoint_33 (by decide) (fun c33 => ?_) (fun c33 => ?_)
    · have h := h.1 c33
      refine g_iconst (pc := 42) (v := (1 : Int32)) dX4_readJoint_42 (by decide) ?_
      refine g_goto (pc := 43) (tgt := 47) dX4_readJoint_43 (by decide) ?_
      refine g_putI (pc := 47) dX4_readJoint_47 fo_X4_78 sh_1 rfl (nar_B isB1) (fit_B isB1) ?_
      exact g_vret (pc := 50) dX4_readJoint_50 rfl rfl h
    · have h := h.2 c33
      refine g_iload_n (pc := 36) (x := a1) dX4_readJoint_36 rfl ?_
      refine g_bipush (pc := 37) (v := (23 : Int32)) dX4_readJoint_37 (by decide) ?_
      refine g_icmp_ne (pc := 39) (tgt := 46) dX4_readJoint_39 (by decide) (fun c39 => ?_) (fun c39 => ?_)
      · have h := h.1 c39
        refine g_iconst (pc := 46) (v := (0 : Int32)) dX4_readJoint_46 (by decide) ?_
        refine g_putI (pc := 47) dX4_readJoint_47 fo_X4_78 sh_1 rfl (nar_B isB0) (fit_B isB0) ?_
        exact g_vret (pc := 50) dX4_readJoint_50 rfl rfl h
      · have h := h.2 c39
        refine g_iconst (pc := 42) (v := (1 : Int32)) dX4_readJoint_42 (by decide) ?_
        refine g_goto (pc := 43) (tgt := 47) dX4_readJoint_43 (by decide) ?_
        refine g_putI (pc := 47) dX4_readJoint_47 fo_X4_78 sh_1 rfl (nar_B isB1) (fit_B isB1) ?_
        exact g_vret (pc := 50) dX4_readJoint_50 rfl rfl h
  · have h := h.2.2 m1 hp_
    refine g_pop (pc := 5) dX4_readJoint_5 rfl ?_
    refine g_aload_n (pc := 6) (x := 1) dX4_readJoint_6 rfl ?_
    refine g_iload_n (pc := 7) (x := a1) dX4_readJoint_7 rfl ?_
    refine g_callS (pc := 8) (as := [.int a1]) dX4_readJoint_8 cw_X4_269 (by decide) rfl rfl (Nat.le_of_ble_eq_true rfl) (rv_X4_bond m1 a1) ?_
    rintro r_ m_ hz_ ⟨rfl, rfl⟩
    obtain ⟨Pm2, hRm2, h⟩ := h
    refine g_callV (pc := 11) (as := [.int (v_X4_bond m1 a1)]) dX4_readJoint_11 cw_X4_266 (by decide) rfl rfl sh_1 (Nat.le_of_ble_eq_true rfl) hRm2 ?_
    intro r_ m2 hz_ hp_
    obtain rfl := hz_
    have h := h m2 hp_
    refine g_aload_n (pc := 14) (x := 1) dX4_readJoint_14 rfl ?_
    refine g_iload_n (pc := 15) (x := a1) dX4_readJoint_15 rfl ?_
    obtain ⟨Pm3, hRm3, h⟩ := h
    refine g_callV (pc := 16) (as := [.int a1]) dX4_readJoint_16 cw_X4_239 (by decide) rfl rfl sh_1 (Nat.le_of_ble_eq_true rfl) hRm3 ?_
    intro r_ m3 hz_ hp_
    obtain rfl := hz_
    have h := h m3 hp_
    refine g_aload_n (pc := 19) (x := 1) dX4_readJoint_19 rfl ?_
    refine g_iload_n (pc := 20) (x := a2) dX4_readJoint_20 rfl ?_
    refine g_putI (pc := 21) dX4_readJoint_21 fo_X4_68 sh_1 rfl rfl rfl ?_
    refine g_aload_n (pc := 24) (x := 1) dX4_readJoint_24 rfl ?_
    refine g_iconst (pc := 25) (v := (1 : Int32)) dX4_readJoint_25 (by decide) ?_
    refine g_putI (pc := 26) dX4_readJoint_26 fo_X4_74 sh_1 rfl (nar_B isB1) (fit_B isB1) ?_
    refine g_aload_n (pc := 29) (x := 1) dX4_readJoint_29 rfl ?_
    refine g_iload_n (pc := 30) (x := a1) dX4_readJoint_30 rfl ?_
    refine g_bipush (pc := 31) (v := (24 : Int32)) dX4_readJoint_31 (by decide) ?_
    refine g_icmp_eq (pc := 33) (tgt := 42) dX4_readJoint_33 (by decide) (fun c33 => ?_) (fun c33 => ?_)
    · have h := h.1 c33
      refine g_iconst (pc := 42) (v := (1 : Int32)) dX4_readJoint_42 (by decide) ?_
      refine g_goto (pc := 43) (tgt := 47) dX4_readJoint_43 (by decide) ?_
      refine g_putI (pc := 47) dX4_readJoint_47 fo_X4_78 sh_1 rfl (nar_B isB1) (fit_B isB1) ?_
      exact g_vret (pc := 50) dX4_readJoint_50 rfl rfl h
    · have h := h.2 c33
      refine g_iload_n (pc := 36) (x := a1) dX4_readJoint_36 rfl ?_
      refine g_bipush (pc := 37) (v := (23 : Int32)) dX4_readJoint_37 (by decide) ?_
      refine g_icmp_ne (pc := 39) (tgt := 46) dX4_readJoint_39 (by decide) (fun c39 => ?_) (fun c39 => ?_)
      · have h := h.1 c39
        refine g_iconst (pc := 46) (v := (0 : Int32)) dX4_readJoint_46 (by decide) ?_
        refine g_putI (pc := 47) dX4_readJoint_47 fo_X4_78 sh_1 rfl (nar_B isB0) (fit_B isB0) ?_
        exact g_vret (pc := 50) dX4_readJoint_50 rfl rfl h
      · have h := h.2 c39
        refine g_iconst (pc := 42) (v := (1 : Int32)) dX4_readJoint_42 (by decide) ?_
        refine g_goto (pc := 43) (tgt := 47) dX4_readJoint_43 (by decide) ?_
        refine g_putI (pc := 47) dX4_readJoint_47 fo_X4_78 sh_1 rfl (nar_B isB1) (fit_B isB1) ?_
        exact g_vret (pc := 50) dX4_readJoint_50 rfl rfl h
theorem dX4_readClose_0 : decode cX4_readClose 0 = .ok (.aload_n 0, 1) := by decide +kernel
theorem dX4_readClose_1 : decode cX4_readClose 1 = .ok (.bipush 39, 2) := by decide +kernel
theorem dX4_readClose_3 : decode cX4_readClose 3 = .ok (.invokevirtual 143, 3) := by decide +kernel
theorem dX4_readClose_6 : decode cX4_readClose 6 = .ok (.pop, 1) := by decide +kernel
theorem dX4_readClose_7 : decode cX4_readClose 7 = .ok (.aload_n 0, 1) := by decide +kernel
theorem dX4_readClose_8 : decode cX4_readClose 8 = .ok (.iconst 1, 1) := by decide +kernel
theorem dX4_readClose_9 : decode cX4_readClose 9 = .ok (.invokevirtual 266, 3) := by decide +kernel
theorem dX4_readClose_12 : decode cX4_readClose 12 = .ok (.aload_n 0, 1) := by decide +kernel
theorem dX4_readClose_13 : decode cX4_readClose 13 = .ok (.getfield 65, 3) := by decide +kernel
theorem dX4_readClose_16 : decode cX4_readClose 16 = .ok (.ifCond .le 13, 3) := by decide +kernel
theorem dX4_readClose_19 : decode cX4_readClose 19 = .ok (.aload_n 0, 1) := by decide +kernel
theorem dX4_readClose_20 : decode cX4_readClose 20 = .ok (.dup, 1) := by decide +kernel
theorem dX4_readClose_21 : decode cX4_readClose 21 = .ok (.getfield 65, 3) := by decide +kernel
theorem dX4_readClose_24 : decode cX4_readClose 24 = .ok (.iconst 1, 1) := by decide +kernel
theorem dX4_readClose_25 : decode cX4_readClose 25 = .ok (.isub, 1) := by decide +kernel
theorem dX4_readClose_26 : decode cX4_readClose 26 = .ok (.putfield 65, 3) := by decide +kernel
theorem dX4_readClose_29 : decode cX4_readClose 29 = .ok (.aload_n 0, 1) := by decide +kernel
theorem dX4_readClose_30 : decode cX4_readClose 30 = .ok (.dup, 1) := by decide +kernel
theorem dX4_readClose_31 : decode cX4_readClose 31 = .ok (.getfield 71, 3) := by decide +kernel
theorem dX4_readClose_34 : decode cX4_readClose 34 = .ok (.iconst 1, 1) := by decide +kernel
theorem dX4_readClose_35 : decode cX4_readClose 35 = .ok (.isub, 1) := by decide +kernel
theorem dX4_readClose_36 : decode cX4_readClose 36 = .ok (.putfield 71, 3) := by decide +kernel
theorem dX4_readClose_39 : decode cX4_readClose 39 = .ok (.return_, 1) := by decide +kernel
theorem b_X4_readClose (mm : MM) (Q : Value → MM → Prop) (h : ∃ Pm1 : Value → MM → Prop, Runs e_X4_take [.ref 1, .int (39 : Int32)] mm Pm1 ∧ (∀ r m1, Pm1 r m1 → r = .int 1 ∨ r = .int 0) ∧ (∀ m1, Pm1 (.int 1) m1 → (∃ Pm2 : Value → MM → Prop, Runs e_X4_release [.ref 1, .int (1 : Int32)] m1 Pm2 ∧ ∀ m2, Pm2 .null m2 → (((m2.1 1 13) ≤ 0 → (Q .null (wI m2 1 15 ((m2.1 1 15) - (1 : Int32))))) ∧ (¬ (m2.1 1 13) ≤ 0 → (Q .null (wI (wI m2 1 13 ((m2.1 1 13) - (1 : Int32))) 1 15 (((wI m2 1 13 ((m2.1 1 13) - (1 : Int32))).1 1 15) - (1 : Int32)))))))) ∧ (∀ m1, Pm1 (.int 0) m1 → (∃ Pm2 : Value → MM → Prop, Runs e_X4_release [.ref 1, .int (1 : Int32)] m1 Pm2 ∧ ∀ m2, Pm2 .null m2 → (((m2.1 1 13) ≤ 0 → (Q .null (wI m2 1 15 ((m2.1 1 15) - (1 : Int32))))) ∧ (¬ (m2.1 1 13) ≤ 0 → (Q .null (wI (wI m2 1 13 ((m2.1 1 13) - (1 : Int32))) 1 15 (((wI m2 1 13 ((m2.1 1 13) - (1 : Int32))).1 1 15) - (1 : Int32))))))))) : Runs e_X4_readClose [.ref 1] mm Q := by
  refine runs_of_G (L := [(0, .ref 1)]) pl_X4 (Nat.le_of_ble_eq_true rfl) rfl ?_
  refine g_aload_n (pc := 0) (x := 1) dX4_readClose_0 rfl ?_
  refine g_bipush (pc := 1) (v := (39 : Int32)) dX4_readClose_1 (by decide) ?_
  obtain ⟨Pm1, hRm1, h⟩ := h
  refine g_callV (pc := 3) (as := [.int (39 : Int32)]) dX4_readClose_3 cw_X4_143 (by decide) rfl rfl sh_1 (Nat.le_of_ble_eq_true rfl) hRm1 ?_
  intro r_ m1 hz_ hp_
  rcases h.1 r_ m1 hp_ with rfl | rfl
  · have h := h.2.1 m1 hp_
    refine g_pop (pc := 6) dX4_readClose_6 rfl ?_
    refine g_aload_n (pc := 7) (x := 1) dX4_readClose_7 rfl ?_
    refine g_iconst (pc := 8) (v := (1 : Int32)) dX4_readClose_8 (by decide) ?_
    obtain ⟨Pm2, hRm2, h⟩ := h
    refine g_callV (pc := 9) (as := [.int (1 : Int32)]) dX4_readClose_9 cw_X4_266 (by decide) rfl rfl sh_1 (Nat.le_of_ble_eq_true rfl) hRm2 ?_
    intro r_ m2 hz_ hp_
    obtain rfl := hz_
    have h := h m2 hp_
    refine g_aload_n (pc := 12) (x := 1) dX4_readClose_12 rfl ?_
    refine g_getI (pc := 13) dX4_readClose_13 fo_X4_65 sh_1 rfl ?_
    refine g_if_le (pc := 16) (tgt := 29) dX4_readClose_16 (by decide) (fun c16 => ?_) (fun c16 => ?_)
    · have h := h.1 c16
      refine g_aload_n (pc := 29) (x := 1) dX4_readClose_29 rfl ?_
      refine g_dup (pc := 30) dX4_readClose_30 rfl ?_
      refine g_getI (pc := 31) dX4_readClose_31 fo_X4_71 sh_1 rfl ?_
      refine g_iconst (pc := 34) (v := (1 : Int32)) dX4_readClose_34 (by decide) ?_
      refine g_isub (pc := 35) dX4_readClose_35 ?_
      refine g_putI (pc := 36) dX4_readClose_36 fo_X4_71 sh_1 rfl rfl rfl ?_
      exact g_vret (pc := 39) dX4_readClose_39 rfl rfl h
    · have h := h.2 c16
      refine g_aload_n (pc := 19) (x := 1) dX4_readClose_19 rfl ?_
      refine g_dup (pc := 20) dX4_readClose_20 rfl ?_
      refine g_getI (pc := 21) dX4_readClose_21 fo_X4_65 sh_1 rfl ?_
      refine g_iconst (pc := 24) (v := (1 : Int32)) dX4_readClose_24 (by decide) ?_
      refine g_isub (pc := 25) dX4_readClose_25 ?_
      refine g_putI (pc := 26) dX4_readClose_26 fo_X4_65 sh_1 rfl rfl rfl ?_
      refine g_aload_n (pc := 29) (x := 1) dX4_readClose_29 rfl ?_
      refine g_dup (pc := 30) dX4_readClose_30 rfl ?_
      refine g_getI (pc := 31) dX4_readClose_31 fo_X4_71 sh_1 rfl ?_
      refine g_iconst (pc := 34) (v := (1 : Int32)) dX4_readClose_34 (by decide) ?_
      refine g_isub (pc := 35) dX4_readClose_35 ?_
      refine g_putI (pc := 36) dX4_readClose_36 fo_X4_71 sh_1 rfl rfl rfl ?_
      exact g_vret (pc := 39) dX4_readClose_39 rfl rfl h
  · have h := h.2.2 m1 hp_
    refine g_pop (pc := 6) dX4_readClose_6 rfl ?_
    refine g_aload_n (pc := 7) (x := 1) dX4_readClose_7 rfl ?_
    refine g_iconst (pc := 8) (v := (1 : Int32)) dX4_readClose_8 (by decide) ?_
    obtain ⟨Pm2, hRm2, h⟩ := h
    refine g_callV (pc := 9) (as := [.int (1 : Int32)]) dX4_readClose_9 cw_X4_266 (by decide) rfl rfl sh_1 (Nat.le_of_ble_eq_true rfl) hRm2 ?_
    intro r_ m2 hz_ hp_
    obtain rfl := hz_
    have h := h m2 hp_
    refine g_aload_n (pc := 12) (x := 1) dX4_readClose_12 rfl ?_
    refine g_getI (pc := 13) dX4_readClose_13 fo_X4_65 sh_1 rfl ?_
    refine g_if_le (pc := 16) (tgt := 29) dX4_readClose_16 (by decide) (fun c16 => ?_) (fun c16 => ?_)
    · have h := h.1 c16
      refine g_aload_n (pc := 29) (x := 1) dX4_readClose_29 rfl ?_
      refine g_dup (pc := 30) dX4_readClose_30 rfl ?_
      refine g_getI (pc := 31) dX4_readClose_31 fo_X4_71 sh_1 rfl ?_
      refine g_iconst (pc := 34) (v := (1 : Int32)) dX4_readClose_34 (by decide) ?_
      refine g_isub (pc := 35) dX4_readClose_35 ?_
      refine g_putI (pc := 36) dX4_readClose_36 fo_X4_71 sh_1 rfl rfl rfl ?_
      exact g_vret (pc := 39) dX4_readClose_39 rfl rfl h
    · have h := h.2 c16
      refine g_aload_n (pc := 19) (x := 1) dX4_readClose_19 rfl ?_
      refine g_dup (pc := 20) dX4_readClose_20 rfl ?_
      refine g_getI (pc := 21) dX4_readClose_21 fo_X4_65 sh_1 rfl ?_
      refine g_iconst (pc := 24) (v := (1 : Int32)) dX4_readClose_24 (by decide) ?_
      refine g_isub (pc := 25) dX4_readClose_25 ?_
      refine g_putI (pc := 26) dX4_readClose_26 fo_X4_65 sh_1 rfl rfl rfl ?_
      refine g_aload_n (pc := 29) (x := 1) dX4_readClose_29 rfl ?_
      refine g_dup (pc := 30) dX4_readClose_30 rfl ?_
      refine g_getI (pc := 31) dX4_readClose_31 fo_X4_71 sh_1 rfl ?_
      refine g_iconst (pc := 34) (v := (1 : Int32)) dX4_readClose_34 (by decide) ?_
      refine g_isub (pc := 35) dX4_readClose_35 ?_
      refine g_putI (pc := 36) dX4_readClose_36 fo_X4_71 sh_1 rfl rfl rfl ?_
      exact g_vret (pc := 39) dX4_readClose_39 rfl rfl h
theorem dX4_keepWaiting_0 : decode cX4_keepWaiting 0 = .ok (.aload_n 0, 1) := by decide +kernel
theorem dX4_keepWaiting_1 : decode cX4_keepWaiting 1 = .ok (.getfield 65, 3) := by decide +kernel
theorem dX4_keepWaiting_4 : decode cX4_keepWaiting 4 = .ok (.ifCond .lt 33, 3) := by decide +kernel
theorem dX4_keepWaiting_7 : decode cX4_keepWaiting 7 = .ok (.aload_n 0, 1) := by decide +kernel
theorem dX4_keepWaiting_8 : decode cX4_keepWaiting 8 = .ok (.getfield 65, 3) := by decide +kernel
theorem dX4_keepWaiting_11 : decode cX4_keepWaiting 11 = .ok (.sipush 400, 3) := by decide +kernel
theorem dX4_keepWaiting_14 : decode cX4_keepWaiting 14 = .ok (.if_icmp .ge 23, 3) := by decide +kernel
theorem dX4_keepWaiting_17 : decode cX4_keepWaiting 17 = .ok (.aload_n 0, 1) := by decide +kernel
theorem dX4_keepWaiting_18 : decode cX4_keepWaiting 18 = .ok (.getfield 19, 3) := by decide +kernel
theorem dX4_keepWaiting_21 : decode cX4_keepWaiting 21 = .ok (.aload_n 0, 1) := by decide +kernel
theorem dX4_keepWaiting_22 : decode cX4_keepWaiting 22 = .ok (.getfield 65, 3) := by decide +kernel
theorem dX4_keepWaiting_25 : decode cX4_keepWaiting 25 = .ok (.iload_n 1, 1) := by decide +kernel
theorem dX4_keepWaiting_26 : decode cX4_keepWaiting 26 = .ok (.iastore, 1) := by decide +kernel
theorem dX4_keepWaiting_27 : decode cX4_keepWaiting 27 = .ok (.aload_n 0, 1) := by decide +kernel
theorem dX4_keepWaiting_28 : decode cX4_keepWaiting 28 = .ok (.dup, 1) := by decide +kernel
theorem dX4_keepWaiting_29 : decode cX4_keepWaiting 29 = .ok (.getfield 65, 3) := by decide +kernel
theorem dX4_keepWaiting_32 : decode cX4_keepWaiting 32 = .ok (.iconst 1, 1) := by decide +kernel
theorem dX4_keepWaiting_33 : decode cX4_keepWaiting 33 = .ok (.iadd, 1) := by decide +kernel
theorem dX4_keepWaiting_34 : decode cX4_keepWaiting 34 = .ok (.putfield 65, 3) := by decide +kernel
theorem dX4_keepWaiting_37 : decode cX4_keepWaiting 37 = .ok (.return_, 1) := by decide +kernel
theorem b_X4_keepWaiting (mm : MM) (Q : Value → MM → Prop) (a1 : Int32) (h : ((mm.1 1 13) < 0 → (Q .null mm)) ∧ (¬ (mm.1 1 13) < 0 → (((400 : Int32) ≤ (mm.1 1 13) → (Q .null mm)) ∧ (¬ (400 : Int32) ≤ (mm.1 1 13) → (vp_in (mm.1 1 13) 400 ∧ (Q .null (wI (wI mm 4 ((mm.1 1 13).toNatClampNeg) a1) 1 13 (((wI mm 4 ((mm.1 1 13).toNatClampNeg) a1).1 1 13) + (1 : Int32))))))))) : Runs e_X4_keepWaiting [.ref 1, .int a1] mm Q := by
  refine runs_of_G (L := [(0, .ref 1), (1, .int a1)]) pl_X4 (Nat.le_of_ble_eq_true rfl) rfl ?_
  refine g_aload_n (pc := 0) (x := 1) dX4_keepWaiting_0 rfl ?_
  refine g_getI (pc := 1) dX4_keepWaiting_1 fo_X4_65 sh_1 rfl ?_
  refine g_if_lt (pc := 4) (tgt := 37) dX4_keepWaiting_4 (by decide) (fun c4 => ?_) (fun c4 => ?_)
  · have h := h.1 c4
    exact g_vret (pc := 37) dX4_keepWaiting_37 rfl rfl h
  · have h := h.2 c4
    refine g_aload_n (pc := 7) (x := 1) dX4_keepWaiting_7 rfl ?_
    refine g_getI (pc := 8) dX4_keepWaiting_8 fo_X4_65 sh_1 rfl ?_
    refine g_sipush (pc := 11) (v := (400 : Int32)) dX4_keepWaiting_11 (by decide) ?_
    refine g_icmp_ge (pc := 14) (tgt := 37) dX4_keepWaiting_14 (by decide) (fun c14 => ?_) (fun c14 => ?_)
    · have h := h.1 c14
      exact g_vret (pc := 37) dX4_keepWaiting_37 rfl rfl h
    · have h := h.2 c14
      refine g_aload_n (pc := 17) (x := 1) dX4_keepWaiting_17 rfl ?_
      refine g_getR (pc := 18) (dd := 3) dX4_keepWaiting_18 fo_X4_19 sh_1 rfl ?_
      refine g_aload_n (pc := 21) (x := 1) dX4_keepWaiting_21 rfl ?_
      refine g_getI (pc := 22) dX4_keepWaiting_22 fo_X4_65 sh_1 rfl ?_
      refine g_iload_n (pc := 25) (x := a1) dX4_keepWaiting_25 rfl ?_
      refine g_iastore (pc := 26) dX4_keepWaiting_26 sh_4 h.1 ?_
      have h := h.2
      refine g_aload_n (pc := 27) (x := 1) dX4_keepWaiting_27 rfl ?_
      refine g_dup (pc := 28) dX4_keepWaiting_28 rfl ?_
      refine g_getI (pc := 29) dX4_keepWaiting_29 fo_X4_65 sh_1 rfl ?_
      refine g_iconst (pc := 32) (v := (1 : Int32)) dX4_keepWaiting_32 (by decide) ?_
      refine g_iadd (pc := 33) dX4_keepWaiting_33 ?_
      refine g_putI (pc := 34) dX4_keepWaiting_34 fo_X4_65 sh_1 rfl rfl rfl ?_
      exact g_vret (pc := 37) dX4_keepWaiting_37 rfl rfl h
theorem dX4_release_0 : decode cX4_release 0 = .ok (.aload_n 0, 1) := by decide +kernel
theorem dX4_release_1 : decode cX4_release 1 = .ok (.getfield 65, 3) := by decide +kernel
theorem dX4_release_4 : decode cX4_release 4 = .ok (.iconst 1, 1) := by decide +kernel
theorem dX4_release_5 : decode cX4_release 5 = .ok (.isub, 1) := by decide +kernel
theorem dX4_release_6 : decode cX4_release 6 = .ok (.istore_n 2, 1) := by decide +kernel
theorem dX4_release_7 : decode cX4_release 7 = .ok (.iload_n 2, 1) := by decide +kernel
theorem dX4_release_8 : decode cX4_release 8 = .ok (.ifCond .lt 50, 3) := by decide +kernel
theorem dX4_release_11 : decode cX4_release 11 = .ok (.iload_n 2, 1) := by decide +kernel
theorem dX4_release_12 : decode cX4_release 12 = .ok (.sipush 400, 3) := by decide +kernel
theorem dX4_release_15 : decode cX4_release 15 = .ok (.if_icmp .ge 43, 3) := by decide +kernel
theorem dX4_release_18 : decode cX4_release 18 = .ok (.aload_n 0, 1) := by decide +kernel
theorem dX4_release_19 : decode cX4_release 19 = .ok (.getfield 19, 3) := by decide +kernel
theorem dX4_release_22 : decode cX4_release 22 = .ok (.iload_n 2, 1) := by decide +kernel
theorem dX4_release_23 : decode cX4_release 23 = .ok (.iaload, 1) := by decide +kernel
theorem dX4_release_24 : decode cX4_release 24 = .ok (.invokestatic 269, 3) := by decide +kernel
theorem dX4_release_27 : decode cX4_release 27 = .ok (.iload_n 1, 1) := by decide +kernel
theorem dX4_release_28 : decode cX4_release 28 = .ok (.if_icmp .lt 30, 3) := by decide +kernel
theorem dX4_release_31 : decode cX4_release 31 = .ok (.aload_n 0, 1) := by decide +kernel
theorem dX4_release_32 : decode cX4_release 32 = .ok (.getfield 32, 3) := by decide +kernel
theorem dX4_release_35 : decode cX4_release 35 = .ok (.getfield 124, 3) := by decide +kernel
theorem dX4_release_38 : decode cX4_release 38 = .ok (.aload_n 0, 1) := by decide +kernel
theorem dX4_release_39 : decode cX4_release 39 = .ok (.getfield 19, 3) := by decide +kernel
theorem dX4_release_42 : decode cX4_release 42 = .ok (.iload_n 2, 1) := by decide +kernel
theorem dX4_release_43 : decode cX4_release 43 = .ok (.iaload, 1) := by decide +kernel
theorem dX4_release_44 : decode cX4_release 44 = .ok (.invokevirtual 251, 3) := by decide +kernel
theorem dX4_release_47 : decode cX4_release 47 = .ok (.aload_n 0, 1) := by decide +kernel
theorem dX4_release_48 : decode cX4_release 48 = .ok (.iload_n 2, 1) := by decide +kernel
theorem dX4_release_49 : decode cX4_release 49 = .ok (.putfield 65, 3) := by decide +kernel
theorem dX4_release_52 : decode cX4_release 52 = .ok (.iinc 2 (-1), 3) := by decide +kernel
theorem dX4_release_55 : decode cX4_release 55 = .ok (.goto (-48), 3) := by decide +kernel
theorem dX4_release_58 : decode cX4_release 58 = .ok (.return_, 1) := by decide +kernel
theorem b_X4_release (mm : MM) (Q : Value → MM → Prop) (a1 : Int32) (h : G e_X4_release 7 [(0, .ref 1), (1, .int a1), (2, .int ((mm.1 1 13) - (1 : Int32)))] [] mm Q) : Runs e_X4_release [.ref 1, .int a1] mm Q := by
  refine runs_of_G (L := [(0, .ref 1), (1, .int a1)]) pl_X4 (Nat.le_of_ble_eq_true rfl) rfl ?_
  refine g_aload_n (pc := 0) (x := 1) dX4_release_0 rfl ?_
  refine g_getI (pc := 1) dX4_release_1 fo_X4_65 sh_1 rfl ?_
  refine g_iconst (pc := 4) (v := (1 : Int32)) dX4_release_4 (by decide) ?_
  refine g_isub (pc := 5) dX4_release_5 ?_
  refine g_istore_n (pc := 6) (L' := [(0, .ref 1), (1, .int a1), (2, .int ((mm.1 1 13) - (1 : Int32)))]) dX4_release_6 (Nat.le_of_ble_eq_true rfl) rfl ?_
  exact h
theorem b_X4_release_7 (mm : MM) (Q : Value → MM → Prop) (l1 : Int32) (l2 : Int32) (h : (l2 < 0 → (Q .null mm)) ∧ (¬ l2 < 0 → (((400 : Int32) ≤ l2 → (Q .null mm)) ∧ (¬ (400 : Int32) ≤ l2 → (vp_in l2 400 ∧ (((v_X4_bond mm (mm.1 4 l2.toNatClampNeg)) < l1 → (Q .null mm)) ∧ (¬ (v_X4_bond mm (mm.1 4 l2.toNatClampNeg)) < l1 → (AtTown (mm.2.2 1 4) ∧ (vp_in l2 400 ∧ (∃ Pm2 : Value → MM → Prop, Runs e_X1_addKind [.ref ((mm.2.2 1 4) + 8), .int (mm.1 4 l2.toNatClampNeg)] mm Pm2 ∧ ∀ m2, Pm2 .null m2 → (G e_X4_release 7 [(0, .ref 1), (1, .int l1), (2, .int (l2 + (-1 : Int32)))] [] (wI m2 1 13 l2) Q))))))))))) : G e_X4_release 7 [(0, .ref 1), (1, .int l1), (2, .int l2)] [] mm Q := by
  refine g_iload_n (pc := 7) (x := l2) dX4_release_7 rfl ?_
  refine g_if_lt (pc := 8) (tgt := 58) dX4_release_8 (by decide) (fun c8 => ?_) (fun c8 => ?_)
  · have h := h.1 c8
    exact g_vret (pc := 58) dX4_release_58 rfl rfl h
  · have h := h.2 c8
    refine g_iload_n (pc := 11) (x := l2) dX4_release_11 rfl ?_
    refine g_sipush (pc := 12) (v := (400 : Int32)) dX4_release_12 (by decide) ?_
    refine g_icmp_ge (pc := 15) (tgt := 58) dX4_release_15 (by decide) (fun c15 => ?_) (fun c15 => ?_)
    · have h := h.1 c15
      exact g_vret (pc := 58) dX4_release_58 rfl rfl h
    · have h := h.2 c15
      refine g_aload_n (pc := 18) (x := 1) dX4_release_18 rfl ?_
      refine g_getR (pc := 19) (dd := 3) dX4_release_19 fo_X4_19 sh_1 rfl ?_
      refine g_iload_n (pc := 22) (x := l2) dX4_release_22 rfl ?_
      refine g_iaload (pc := 23) dX4_release_23 sh_4 h.1 ?_
      have h := h.2
      refine g_callS (pc := 24) (as := [.int (mm.1 4 l2.toNatClampNeg)]) dX4_release_24 cw_X4_269 (by decide) rfl rfl (Nat.le_of_ble_eq_true rfl) (rv_X4_bond mm (mm.1 4 l2.toNatClampNeg)) ?_
      rintro r_ m_ hz_ ⟨rfl, rfl⟩
      refine g_iload_n (pc := 27) (x := l1) dX4_release_27 rfl ?_
      refine g_icmp_lt (pc := 28) (tgt := 58) dX4_release_28 (by decide) (fun c28 => ?_) (fun c28 => ?_)
      · have h := h.1 c28
        exact g_vret (pc := 58) dX4_release_58 rfl rfl h
      · have h := h.2 c28
        refine g_aload_n (pc := 31) (x := 1) dX4_release_31 rfl ?_
        refine g_getVt (pc := 32) (t := (mm.2.2 1 4)) dX4_release_32 fo_X4_32 sh_1 rfl rfl ?_
        have hr0 := h.1
        have h := h.2
        refine g_getR (pc := 35) (dd := 8) dX4_release_35 fo_X4_124 (AtTown_0 hr0) rfl ?_
        refine g_aload_n (pc := 38) (x := 1) dX4_release_38 rfl ?_
        refine g_getR (pc := 39) (dd := 3) dX4_release_39 fo_X4_19 sh_1 rfl ?_
        refine g_iload_n (pc := 42) (x := l2) dX4_release_42 rfl ?_
        refine g_iaload (pc := 43) dX4_release_43 sh_4 h.1 ?_
        have h := h.2
        obtain ⟨Pm2, hRm2, h⟩ := h
        refine g_callV (pc := 44) (as := [.int (mm.1 4 l2.toNatClampNeg)]) dX4_release_44 cw_X4_251 (by decide) rfl rfl (AtLaws_0 (AtTown.laws hr0)) (Nat.le_of_ble_eq_true rfl) hRm2 ?_
        intro r_ m2 hz_ hp_
        obtain rfl := hz_
        have h := h m2 hp_
        refine g_aload_n (pc := 47) (x := 1) dX4_release_47 rfl ?_
        refine g_iload_n (pc := 48) (x := l2) dX4_release_48 rfl ?_
        refine g_putI (pc := 49) dX4_release_49 fo_X4_65 sh_1 rfl rfl rfl ?_
        refine g_iinc (pc := 52) (x := l2) (v := (l2 + (-1 : Int32))) (L' := [(0, .ref 1), (1, .int l1), (2, .int (l2 + (-1 : Int32)))]) dX4_release_52 rfl rfl (Nat.le_of_ble_eq_true rfl) rfl ?_
        refine g_goto (pc := 55) (tgt := 7) dX4_release_55 (by decide) ?_
        exact h
theorem dX4_readNewName_0 : decode cX4_readNewName 0 = .ok (.aload_n 0, 1) := by decide +kernel
theorem dX4_readNewName_1 : decode cX4_readNewName 1 = .ok (.invokevirtual 187, 3) := by decide +kernel
theorem dX4_readNewName_4 : decode cX4_readNewName 4 = .ok (.istore_n 2, 1) := by decide +kernel
theorem dX4_readNewName_5 : decode cX4_readNewName 5 = .ok (.aload_n 0, 1) := by decide +kernel
theorem dX4_readNewName_6 : decode cX4_readNewName 6 = .ok (.invokevirtual 272, 3) := by decide +kernel
theorem dX4_readNewName_9 : decode cX4_readNewName 9 = .ok (.lstore_n 3, 1) := by decide +kernel
theorem dX4_readNewName_10 : decode cX4_readNewName 10 = .ok (.aload_n 0, 1) := by decide +kernel
theorem dX4_readNewName_11 : decode cX4_readNewName 11 = .ok (.bipush 26, 2) := by decide +kernel
theorem dX4_readNewName_13 : decode cX4_readNewName 13 = .ok (.invokevirtual 143, 3) := by decide +kernel
theorem dX4_readNewName_16 : decode cX4_readNewName 16 = .ok (.ifCond .ne 4, 3) := by decide +kernel
theorem dX4_readNewName_19 : decode cX4_readNewName 19 = .ok (.return_, 1) := by decide +kernel
theorem dX4_readNewName_20 : decode cX4_readNewName 20 = .ok (.aload_n 0, 1) := by decide +kernel
theorem dX4_readNewName_21 : decode cX4_readNewName 21 = .ok (.lload_n 3, 1) := by decide +kernel
theorem dX4_readNewName_22 : decode cX4_readNewName 22 = .ok (.invokevirtual 276, 3) := by decide +kernel
theorem dX4_readNewName_25 : decode cX4_readNewName 25 = .ok (.iconst (-1), 1) := by decide +kernel
theorem dX4_readNewName_26 : decode cX4_readNewName 26 = .ok (.if_icmp .eq 9, 3) := by decide +kernel
theorem dX4_readNewName_29 : decode cX4_readNewName 29 = .ok (.aload_n 0, 1) := by decide +kernel
theorem dX4_readNewName_30 : decode cX4_readNewName 30 = .ok (.iconst 3, 1) := by decide +kernel
theorem dX4_readNewName_31 : decode cX4_readNewName 31 = .ok (.iload_n 2, 1) := by decide +kernel
theorem dX4_readNewName_32 : decode cX4_readNewName 32 = .ok (.invokevirtual 190, 3) := by decide +kernel
theorem dX4_readNewName_35 : decode cX4_readNewName 35 = .ok (.aload_n 0, 1) := by decide +kernel
theorem dX4_readNewName_36 : decode cX4_readNewName 36 = .ok (.getfield 59, 3) := by decide +kernel
theorem dX4_readNewName_39 : decode cX4_readNewName 39 = .ok (.ifCond .lt 45, 3) := by decide +kernel
theorem dX4_readNewName_42 : decode cX4_readNewName 42 = .ok (.aload_n 0, 1) := by decide +kernel
theorem dX4_readNewName_43 : decode cX4_readNewName 43 = .ok (.getfield 59, 3) := by decide +kernel
theorem dX4_readNewName_46 : decode cX4_readNewName 46 = .ok (.aload_n 0, 1) := by decide +kernel
theorem dX4_readNewName_47 : decode cX4_readNewName 47 = .ok (.getfield 9, 3) := by decide +kernel
theorem dX4_readNewName_50 : decode cX4_readNewName 50 = .ok (.arraylength, 1) := by decide +kernel
theorem dX4_readNewName_51 : decode cX4_readNewName 51 = .ok (.if_icmp .ge 33, 3) := by decide +kernel
theorem dX4_readNewName_54 : decode cX4_readNewName 54 = .ok (.aload_n 0, 1) := by decide +kernel
theorem dX4_readNewName_55 : decode cX4_readNewName 55 = .ok (.getfield 9, 3) := by decide +kernel
theorem dX4_readNewName_58 : decode cX4_readNewName 58 = .ok (.aload_n 0, 1) := by decide +kernel
theorem dX4_readNewName_59 : decode cX4_readNewName 59 = .ok (.getfield 59, 3) := by decide +kernel
theorem dX4_readNewName_62 : decode cX4_readNewName 62 = .ok (.lload_n 3, 1) := by decide +kernel
theorem dX4_readNewName_63 : decode cX4_readNewName 63 = .ok (.lastore, 1) := by decide +kernel
theorem dX4_readNewName_64 : decode cX4_readNewName 64 = .ok (.aload_n 0, 1) := by decide +kernel
theorem dX4_readNewName_65 : decode cX4_readNewName 65 = .ok (.getfield 15, 3) := by decide +kernel
theorem dX4_readNewName_68 : decode cX4_readNewName 68 = .ok (.aload_n 0, 1) := by decide +kernel
theorem dX4_readNewName_69 : decode cX4_readNewName 69 = .ok (.getfield 59, 3) := by decide +kernel
theorem dX4_readNewName_72 : decode cX4_readNewName 72 = .ok (.iload_n 1, 1) := by decide +kernel
theorem dX4_readNewName_73 : decode cX4_readNewName 73 = .ok (.iastore, 1) := by decide +kernel
theorem dX4_readNewName_74 : decode cX4_readNewName 74 = .ok (.aload_n 0, 1) := by decide +kernel
theorem dX4_readNewName_75 : decode cX4_readNewName 75 = .ok (.dup, 1) := by decide +kernel
theorem dX4_readNewName_76 : decode cX4_readNewName 76 = .ok (.getfield 59, 3) := by decide +kernel
theorem dX4_readNewName_79 : decode cX4_readNewName 79 = .ok (.iconst 1, 1) := by decide +kernel
theorem dX4_readNewName_80 : decode cX4_readNewName 80 = .ok (.iadd, 1) := by decide +kernel
theorem dX4_readNewName_81 : decode cX4_readNewName 81 = .ok (.putfield 59, 3) := by decide +kernel
theorem dX4_readNewName_84 : decode cX4_readNewName 84 = .ok (.return_, 1) := by decide +kernel
theorem b_X4_readNewName (mm : MM) (Q : Value → MM → Prop) (a1 : Int32) (h : o_X4_start mm ∧ (o_X4_value mm ∧ (∃ Pm1 : Value → MM → Prop, Runs e_X4_take [.ref 1, .int (26 : Int32)] mm Pm1 ∧ (∀ r m1, Pm1 r m1 → r = .int 1 ∨ r = .int 0) ∧ (∀ m1, Pm1 (.int 1) m1 → (∃ Pm2 : Value → MM → Prop, Runs e_X4_ownerOf [.ref 1, .long (v_X4_value mm)] m1 Pm2 ∧ ∀ (r2 : Int32) (m2 : MM), Pm2 (.int r2) m2 → ((r2 = (-1 : Int32) → (((m2.1 1 11) < 0 → (Q .null m2)) ∧ (¬ (m2.1 1 11) < 0 → (((28 : Int32) ≤ (m2.1 1 11) → (Q .null m2)) ∧ (¬ (28 : Int32) ≤ (m2.1 1 11) → (vp_in (m2.1 1 11) 28 ∧ (vp_in ((wLg m2 2 ((m2.1 1 11).toNatClampNeg) (v_X4_value mm)).1 1 11) 28 ∧ (Q .null (wI (wI (wLg m2 2 ((m2.1 1 11).toNatClampNeg) (v_X4_value mm)) 3 (((wLg m2 2 ((m2.1 1 11).toNatClampNeg) (v_X4_value mm)).1 1 11).toNatClampNeg) a1) 1 11 (((wI (wLg m2 2 ((m2.1 1 11).toNatClampNeg) (v_X4_value mm)) 3 (((wLg m2 2 ((m2.1 1 11).toNatClampNeg) (v_X4_value mm)).1 1 11).toNatClampNeg) a1).1 1 11) + (1 : Int32))))))))))) ∧ (¬ r2 = (-1 : Int32) → (∃ Pm3 : Value → MM → Prop, Runs e_X4_failLate [.ref 1, .int (3 : Int32), .int (v_X4_start mm)] m2 Pm3 ∧ ∀ m3, Pm3 .null m3 → (((m3.1 1 11) < 0 → (Q .null m3)) ∧ (¬ (m3.1 1 11) < 0 → (((28 : Int32) ≤ (m3.1 1 11) → (Q .null m3)) ∧ (¬ (28 : Int32) ≤ (m3.1 1 11) → (vp_in (m3.1 1 11) 28 ∧ (vp_in ((wLg m3 2 ((m3.1 1 11).toNatClampNeg) (v_X4_value mm)).1 1 11) 28 ∧ (Q .null (wI (wI (wLg m3 2 ((m3.1 1 11).toNatClampNeg) (v_X4_value mm)) 3 (((wLg m3 2 ((m3.1 1 11).toNatClampNeg) (v_X4_value mm)).1 1 11).toNatClampNeg) a1) 1 11 (((wI (wLg m3 2 ((m3.1 1 11).toNatClampNeg) (v_X4_value mm)) 3 (((wLg m3 2 ((m3.1 1 11).toNatClampNeg) (v_X4_value mm)).1 1 11).toNatClampNeg) a1).1 1 11) + (1 : Int32))))))))))))))) ∧ (∀ m1, Pm1 (.int 0) m1 → (Q .null m1))))) : Runs e_X4_readNewName [.ref 1, .int a1] mm Q := by
  refine runs_of_G (L := [(0, .ref 1), (1, .int a1)]) pl_X4 (Nat.le_of_ble_eq_true rfl) rfl ?_
  refine g_aload_n (pc := 0) (x := 1) dX4_readNewName_0 rfl ?_
  refine g_callV (pc := 1) (as := []) dX4_readNewName_1 cw_X4_187 (by decide) rfl rfl sh_1 (Nat.le_of_ble_eq_true rfl) (rv_X4_start mm h.1) ?_
  have h := h.2
  rintro r_ m_ hz_ ⟨rfl, rfl⟩
  refine g_istore_n (pc := 4) (L' := [(0, .ref 1), (1, .int a1), (2, .int (v_X4_start mm))]) dX4_readNewName_4 (Nat.le_of_ble_eq_true rfl) rfl ?_
  refine g_aload_n (pc := 5) (x := 1) dX4_readNewName_5 rfl ?_
  refine g_callV (pc := 6) (as := []) dX4_readNewName_6 cw_X4_272 (by decide) rfl rfl sh_1 (Nat.le_of_ble_eq_true rfl) (rv_X4_value mm h.1) ?_
  have h := h.2
  rintro r_ m_ hz_ ⟨rfl, rfl⟩
  refine g_lstore_n (pc := 9) (L' := [(0, .ref 1), (1, .int a1), (2, .int (v_X4_start mm)), (3, .long (v_X4_value mm))]) dX4_readNewName_9 (Nat.le_of_ble_eq_true rfl) rfl ?_
  refine g_aload_n (pc := 10) (x := 1) dX4_readNewName_10 rfl ?_
  refine g_bipush (pc := 11) (v := (26 : Int32)) dX4_readNewName_11 (by decide) ?_
  obtain ⟨Pm1, hRm1, h⟩ := h
  refine g_callV (pc := 13) (as := [.int (26 : Int32)]) dX4_readNewName_13 cw_X4_143 (by decide) rfl rfl sh_1 (Nat.le_of_ble_eq_true rfl) hRm1 ?_
  intro r_ m1 hz_ hp_
  rcases h.1 r_ m1 hp_ with rfl | rfl
  · have h := h.2.1 m1 hp_
    refine g_if_ne (pc := 16) (tgt := 20) dX4_readNewName_16 (by decide) (fun _ => ?_) (fun c16 => absurd c16 (by decide))
    refine g_aload_n (pc := 20) (x := 1) dX4_readNewName_20 rfl ?_
    refine g_lload_n (pc := 21) (x := (v_X4_value mm)) dX4_readNewName_21 rfl ?_
    obtain ⟨Pm2, hRm2, h⟩ := h
    refine g_callV (pc := 22) (as := [.long (v_X4_value mm)]) dX4_readNewName_22 cw_X4_276 (by decide) rfl rfl sh_1 (Nat.le_of_ble_eq_true rfl) hRm2 ?_
    intro r_ m2 hz_ hp_
    obtain ⟨r2, rfl⟩ := hz_
    have h := h r2 m2 hp_
    refine g_iconst (pc := 25) (v := (-1 : Int32)) dX4_readNewName_25 (by decide) ?_
    refine g_icmp_eq (pc := 26) (tgt := 35) dX4_readNewName_26 (by decide) (fun c26 => ?_) (fun c26 => ?_)
    · have h := h.1 c26
      refine g_aload_n (pc := 35) (x := 1) dX4_readNewName_35 rfl ?_
      refine g_getI (pc := 36) dX4_readNewName_36 fo_X4_59 sh_1 rfl ?_
      refine g_if_lt (pc := 39) (tgt := 84) dX4_readNewName_39 (by decide) (fun c39 => ?_) (fun c39 => ?_)
      · have h := h.1 c39
        exact g_vret (pc := 84) dX4_readNewName_84 rfl rfl h
      · have h := h.2 c39
        refine g_aload_n (pc := 42) (x := 1) dX4_readNewName_42 rfl ?_
        refine g_getI (pc := 43) dX4_readNewName_43 fo_X4_59 sh_1 rfl ?_
        refine g_aload_n (pc := 46) (x := 1) dX4_readNewName_46 rfl ?_
        refine g_getR (pc := 47) (dd := 1) dX4_readNewName_47 fo_X4_9 sh_1 rfl ?_
        refine g_alen (pc := 50) (t := 3) (v := (28 : Int32)) (by decide) dX4_readNewName_50 sh_2 (by decide) ?_
        refine g_icmp_ge (pc := 51) (tgt := 84) dX4_readNewName_51 (by decide) (fun c51 => ?_) (fun c51 => ?_)
        · have h := h.1 c51
          exact g_vret (pc := 84) dX4_readNewName_84 rfl rfl h
        · have h := h.2 c51
          refine g_aload_n (pc := 54) (x := 1) dX4_readNewName_54 rfl ?_
          refine g_getR (pc := 55) (dd := 1) dX4_readNewName_55 fo_X4_9 sh_1 rfl ?_
          refine g_aload_n (pc := 58) (x := 1) dX4_readNewName_58 rfl ?_
          refine g_getI (pc := 59) dX4_readNewName_59 fo_X4_59 sh_1 rfl ?_
          refine g_lload_n (pc := 62) (x := (v_X4_value mm)) dX4_readNewName_62 rfl ?_
          refine g_lastore (pc := 63) dX4_readNewName_63 sh_2 h.1 ?_
          have h := h.2
          refine g_aload_n (pc := 64) (x := 1) dX4_readNewName_64 rfl ?_
          refine g_getR (pc := 65) (dd := 2) dX4_readNewName_65 fo_X4_15 sh_1 rfl ?_
          refine g_aload_n (pc := 68) (x := 1) dX4_readNewName_68 rfl ?_
          refine g_getI (pc := 69) dX4_readNewName_69 fo_X4_59 sh_1 rfl ?_
          refine g_iload_n (pc := 72) (x := a1) dX4_readNewName_72 rfl ?_
          refine g_iastore (pc := 73) dX4_readNewName_73 sh_3 h.1 ?_
          have h := h.2
          refine g_aload_n (pc := 74) (x := 1) dX4_readNewName_74 rfl ?_
          refine g_dup (pc := 75) dX4_readNewName_75 rfl ?_
          refine g_getI (pc := 76) dX4_readNewName_76 fo_X4_59 sh_1 rfl ?_
          refine g_iconst (pc := 79) (v := (1 : Int32)) dX4_readNewName_79 (by decide) ?_
          refine g_iadd (pc := 80) dX4_readNewName_80 ?_
          refine g_putI (pc := 81) dX4_readNewName_81 fo_X4_59 sh_1 rfl rfl rfl ?_
          exact g_vret (pc := 84) dX4_readNewName_84 rfl rfl h
    · have h := h.2 c26
      refine g_aload_n (pc := 29) (x := 1) dX4_readNewName_29 rfl ?_
      refine g_iconst (pc := 30) (v := (3 : Int32)) dX4_readNewName_30 (by decide) ?_
      refine g_iload_n (pc := 31) (x := (v_X4_start mm)) dX4_readNewName_31 rfl ?_
      obtain ⟨Pm3, hRm3, h⟩ := h
      refine g_callV (pc := 32) (as := [.int (3 : Int32), .int (v_X4_start mm)]) dX4_readNewName_32 cw_X4_190 (by decide) rfl rfl sh_1 (Nat.le_of_ble_eq_true rfl) hRm3 ?_
      intro r_ m3 hz_ hp_
      obtain rfl := hz_
      have h := h m3 hp_
      refine g_aload_n (pc := 35) (x := 1) dX4_readNewName_35 rfl ?_
      refine g_getI (pc := 36) dX4_readNewName_36 fo_X4_59 sh_1 rfl ?_
      refine g_if_lt (pc := 39) (tgt := 84) dX4_readNewName_39 (by decide) (fun c39 => ?_) (fun c39 => ?_)
      · have h := h.1 c39
        exact g_vret (pc := 84) dX4_readNewName_84 rfl rfl h
      · have h := h.2 c39
        refine g_aload_n (pc := 42) (x := 1) dX4_readNewName_42 rfl ?_
        refine g_getI (pc := 43) dX4_readNewName_43 fo_X4_59 sh_1 rfl ?_
        refine g_aload_n (pc := 46) (x := 1) dX4_readNewName_46 rfl ?_
        refine g_getR (pc := 47) (dd := 1) dX4_readNewName_47 fo_X4_9 sh_1 rfl ?_
        refine g_alen (pc := 50) (t := 3) (v := (28 : Int32)) (by decide) dX4_readNewName_50 sh_2 (by decide) ?_
        refine g_icmp_ge (pc := 51) (tgt := 84) dX4_readNewName_51 (by decide) (fun c51 => ?_) (fun c51 => ?_)
        · have h := h.1 c51
          exact g_vret (pc := 84) dX4_readNewName_84 rfl rfl h
        · have h := h.2 c51
          refine g_aload_n (pc := 54) (x := 1) dX4_readNewName_54 rfl ?_
          refine g_getR (pc := 55) (dd := 1) dX4_readNewName_55 fo_X4_9 sh_1 rfl ?_
          refine g_aload_n (pc := 58) (x := 1) dX4_readNewName_58 rfl ?_
          refine g_getI (pc := 59) dX4_readNewName_59 fo_X4_59 sh_1 rfl ?_
          refine g_lload_n (pc := 62) (x := (v_X4_value mm)) dX4_readNewName_62 rfl ?_
          refine g_lastore (pc := 63) dX4_readNewName_63 sh_2 h.1 ?_
          have h := h.2
          refine g_aload_n (pc := 64) (x := 1) dX4_readNewName_64 rfl ?_
          refine g_getR (pc := 65) (dd := 2) dX4_readNewName_65 fo_X4_15 sh_1 rfl ?_
          refine g_aload_n (pc := 68) (x := 1) dX4_readNewName_68 rfl ?_
          refine g_getI (pc := 69) dX4_readNewName_69 fo_X4_59 sh_1 rfl ?_
          refine g_iload_n (pc := 72) (x := a1) dX4_readNewName_72 rfl ?_
          refine g_iastore (pc := 73) dX4_readNewName_73 sh_3 h.1 ?_
          have h := h.2
          refine g_aload_n (pc := 74) (x := 1) dX4_readNewName_74 rfl ?_
          refine g_dup (pc := 75) dX4_readNewName_75 rfl ?_
          refine g_getI (pc := 76) dX4_readNewName_76 fo_X4_59 sh_1 rfl ?_
          refine g_iconst (pc := 79) (v := (1 : Int32)) dX4_readNewName_79 (by decide) ?_
          refine g_iadd (pc := 80) dX4_readNewName_80 ?_
          refine g_putI (pc := 81) dX4_readNewName_81 fo_X4_59 sh_1 rfl rfl rfl ?_
          exact g_vret (pc := 84) dX4_readNewName_84 rfl rfl h
  · have h := h.2.2 m1 hp_
    refine g_if_ne (pc := 16) (tgt := 20) dX4_readNewName_16 (by decide) (fun c16 => absurd c16 (by decide)) (fun _ => ?_)
    exact g_vret (pc := 19) dX4_readNewName_19 rfl rfl h
theorem dX4_readHouseName_0 : decode cX4_readHouseName 0 = .ok (.aload_n 0, 1) := by decide +kernel
theorem dX4_readHouseName_1 : decode cX4_readHouseName 1 = .ok (.invokevirtual 187, 3) := by decide +kernel
theorem dX4_readHouseName_4 : decode cX4_readHouseName 4 = .ok (.istore_n 1, 1) := by decide +kernel
theorem dX4_readHouseName_5 : decode cX4_readHouseName 5 = .ok (.aload_n 0, 1) := by decide +kernel
theorem dX4_readHouseName_6 : decode cX4_readHouseName 6 = .ok (.invokevirtual 272, 3) := by decide +kernel
theorem dX4_readHouseName_9 : decode cX4_readHouseName 9 = .ok (.lstore_n 2, 1) := by decide +kernel
theorem dX4_readHouseName_10 : decode cX4_readHouseName 10 = .ok (.aload_n 0, 1) := by decide +kernel
theorem dX4_readHouseName_11 : decode cX4_readHouseName 11 = .ok (.bipush 26, 2) := by decide +kernel
theorem dX4_readHouseName_13 : decode cX4_readHouseName 13 = .ok (.invokevirtual 143, 3) := by decide +kernel
theorem dX4_readHouseName_16 : decode cX4_readHouseName 16 = .ok (.ifCond .ne 5, 3) := by decide +kernel
theorem dX4_readHouseName_19 : decode cX4_readHouseName 19 = .ok (.iconst (-1), 1) := by decide +kernel
theorem dX4_readHouseName_20 : decode cX4_readHouseName 20 = .ok (.ireturn, 1) := by decide +kernel
theorem dX4_readHouseName_21 : decode cX4_readHouseName 21 = .ok (.aload_n 0, 1) := by decide +kernel
theorem dX4_readHouseName_22 : decode cX4_readHouseName 22 = .ok (.lload_n 2, 1) := by decide +kernel
theorem dX4_readHouseName_23 : decode cX4_readHouseName 23 = .ok (.invokevirtual 276, 3) := by decide +kernel
theorem dX4_readHouseName_26 : decode cX4_readHouseName 26 = .ok (.istore 4, 2) := by decide +kernel
theorem dX4_readHouseName_28 : decode cX4_readHouseName 28 = .ok (.iload 4, 2) := by decide +kernel
theorem dX4_readHouseName_30 : decode cX4_readHouseName 30 = .ok (.iconst (-1), 1) := by decide +kernel
theorem dX4_readHouseName_31 : decode cX4_readHouseName 31 = .ok (.if_icmp .eq 10, 3) := by decide +kernel
theorem dX4_readHouseName_34 : decode cX4_readHouseName 34 = .ok (.iload 4, 2) := by decide +kernel
theorem dX4_readHouseName_36 : decode cX4_readHouseName 36 = .ok (.bipush 16, 2) := by decide +kernel
theorem dX4_readHouseName_38 : decode cX4_readHouseName 38 = .ok (.if_icmp .lt 11, 3) := by decide +kernel
theorem dX4_readHouseName_41 : decode cX4_readHouseName 41 = .ok (.aload_n 0, 1) := by decide +kernel
theorem dX4_readHouseName_42 : decode cX4_readHouseName 42 = .ok (.iconst 4, 1) := by decide +kernel
theorem dX4_readHouseName_43 : decode cX4_readHouseName 43 = .ok (.iload_n 1, 1) := by decide +kernel
theorem dX4_readHouseName_44 : decode cX4_readHouseName 44 = .ok (.invokevirtual 190, 3) := by decide +kernel
theorem dX4_readHouseName_47 : decode cX4_readHouseName 47 = .ok (.iconst (-1), 1) := by decide +kernel
theorem dX4_readHouseName_48 : decode cX4_readHouseName 48 = .ok (.ireturn, 1) := by decide +kernel
theorem dX4_readHouseName_49 : decode cX4_readHouseName 49 = .ok (.iload 4, 2) := by decide +kernel
theorem dX4_readHouseName_51 : decode cX4_readHouseName 51 = .ok (.ireturn, 1) := by decide +kernel
theorem b_X4_readHouseName (mm : MM) (Q : Value → MM → Prop) (h : o_X4_start mm ∧ (o_X4_value mm ∧ (∃ Pm1 : Value → MM → Prop, Runs e_X4_take [.ref 1, .int (26 : Int32)] mm Pm1 ∧ (∀ r m1, Pm1 r m1 → r = .int 1 ∨ r = .int 0) ∧ (∀ m1, Pm1 (.int 1) m1 → (∃ Pm2 : Value → MM → Prop, Runs e_X4_ownerOf [.ref 1, .long (v_X4_value mm)] m1 Pm2 ∧ ∀ (r2 : Int32) (m2 : MM), Pm2 (.int r2) m2 → ((r2 = (-1 : Int32) → (∃ Pm3 : Value → MM → Prop, Runs e_X4_failLate [.ref 1, .int (4 : Int32), .int (v_X4_start mm)] m2 Pm3 ∧ ∀ m3, Pm3 .null m3 → (Q (.int (-1 : Int32)) m3))) ∧ (¬ r2 = (-1 : Int32) → ((r2 < (16 : Int32) → (Q (.int r2) m2)) ∧ (¬ r2 < (16 : Int32) → (∃ Pm3 : Value → MM → Prop, Runs e_X4_failLate [.ref 1, .int (4 : Int32), .int (v_X4_start mm)] m2 Pm3 ∧ ∀ m3, Pm3 .null m3 → (Q (.int (-1 : Int32)) m3)))))))) ∧ (∀ m1, Pm1 (.int 0) m1 → (Q (.int (-1 : Int32)) m1))))) : Runs e_X4_readHouseName [.ref 1] mm Q := by
  refine runs_of_G (L := [(0, .ref 1)]) pl_X4 (Nat.le_of_ble_eq_true rfl) rfl ?_
  refine g_aload_n (pc := 0) (x := 1) dX4_readHouseName_0 rfl ?_
  refine g_callV (pc := 1) (as := []) dX4_readHouseName_1 cw_X4_187 (by decide) rfl rfl sh_1 (Nat.le_of_ble_eq_true rfl) (rv_X4_start mm h.1) ?_
  have h := h.2
  rintro r_ m_ hz_ ⟨rfl, rfl⟩
  refine g_istore_n (pc := 4) (L' := [(0, .ref 1), (1, .int (v_X4_start mm))]) dX4_readHouseName_4 (Nat.le_of_ble_eq_true rfl) rfl ?_
  refine g_aload_n (pc := 5) (x := 1) dX4_readHouseName_5 rfl ?_
  refine g_callV (pc := 6) (as := []) dX4_readHouseName_6 cw_X4_272 (by decide) rfl rfl sh_1 (Nat.le_of_ble_eq_true rfl) (rv_X4_value mm h.1) ?_
  have h := h.2
  rintro r_ m_ hz_ ⟨rfl, rfl⟩
  refine g_lstore_n (pc := 9) (L' := [(0, .ref 1), (1, .int (v_X4_start mm)), (2, .long (v_X4_value mm))]) dX4_readHouseName_9 (Nat.le_of_ble_eq_true rfl) rfl ?_
  refine g_aload_n (pc := 10) (x := 1) dX4_readHouseName_10 rfl ?_
  refine g_bipush (pc := 11) (v := (26 : Int32)) dX4_readHouseName_11 (by decide) ?_
  obtain ⟨Pm1, hRm1, h⟩ := h
  refine g_callV (pc := 13) (as := [.int (26 : Int32)]) dX4_readHouseName_13 cw_X4_143 (by decide) rfl rfl sh_1 (Nat.le_of_ble_eq_true rfl) hRm1 ?_
  intro r_ m1 hz_ hp_
  rcases h.1 r_ m1 hp_ with rfl | rfl
  · have h := h.2.1 m1 hp_
    refine g_if_ne (pc := 16) (tgt := 21) dX4_readHouseName_16 (by decide) (fun _ => ?_) (fun c16 => absurd c16 (by decide))
    refine g_aload_n (pc := 21) (x := 1) dX4_readHouseName_21 rfl ?_
    refine g_lload_n (pc := 22) (x := (v_X4_value mm)) dX4_readHouseName_22 rfl ?_
    obtain ⟨Pm2, hRm2, h⟩ := h
    refine g_callV (pc := 23) (as := [.long (v_X4_value mm)]) dX4_readHouseName_23 cw_X4_276 (by decide) rfl rfl sh_1 (Nat.le_of_ble_eq_true rfl) hRm2 ?_
    intro r_ m2 hz_ hp_
    obtain ⟨r2, rfl⟩ := hz_
    have h := h r2 m2 hp_
    refine g_istore (pc := 26) (L' := [(0, .ref 1), (1, .int (v_X4_start mm)), (2, .long (v_X4_value mm)), (4, .int r2)]) dX4_readHouseName_26 (Nat.le_of_ble_eq_true rfl) rfl ?_
    refine g_iload (pc := 28) (x := r2) dX4_readHouseName_28 rfl ?_
    refine g_iconst (pc := 30) (v := (-1 : Int32)) dX4_readHouseName_30 (by decide) ?_
    refine g_icmp_eq (pc := 31) (tgt := 41) dX4_readHouseName_31 (by decide) (fun c31 => ?_) (fun c31 => ?_)
    · have h := h.1 c31
      refine g_aload_n (pc := 41) (x := 1) dX4_readHouseName_41 rfl ?_
      refine g_iconst (pc := 42) (v := (4 : Int32)) dX4_readHouseName_42 (by decide) ?_
      refine g_iload_n (pc := 43) (x := (v_X4_start mm)) dX4_readHouseName_43 rfl ?_
      obtain ⟨Pm3, hRm3, h⟩ := h
      refine g_callV (pc := 44) (as := [.int (4 : Int32), .int (v_X4_start mm)]) dX4_readHouseName_44 cw_X4_190 (by decide) rfl rfl sh_1 (Nat.le_of_ble_eq_true rfl) hRm3 ?_
      intro r_ m3 hz_ hp_
      obtain rfl := hz_
      have h := h m3 hp_
      refine g_iconst (pc := 47) (v := (-1 : Int32)) dX4_readHouseName_47 (by decide) ?_
      exact g_iret (pc := 48) dX4_readHouseName_48 rfl rfl rfl h
    · have h := h.2 c31
      refine g_iload (pc := 34) (x := r2) dX4_readHouseName_34 rfl ?_
      refine g_bipush (pc := 36) (v := (16 : Int32)) dX4_readHouseName_36 (by decide) ?_
      refine g_icmp_lt (pc := 38) (tgt := 49) dX4_readHouseName_38 (by decide) (fun c38 => ?_) (fun c38 => ?_)
      · have h := h.1 c38
        refine g_iload (pc := 49) (x := r2) dX4_readHouseName_49 rfl ?_
        exact g_iret (pc := 51) dX4_readHouseName_51 rfl rfl rfl h
      · have h := h.2 c38
        refine g_aload_n (pc := 41) (x := 1) dX4_readHouseName_41 rfl ?_
        refine g_iconst (pc := 42) (v := (4 : Int32)) dX4_readHouseName_42 (by decide) ?_
        refine g_iload_n (pc := 43) (x := (v_X4_start mm)) dX4_readHouseName_43 rfl ?_
        obtain ⟨Pm3, hRm3, h⟩ := h
        refine g_callV (pc := 44) (as := [.int (4 : Int32), .int (v_X4_start mm)]) dX4_readHouseName_44 cw_X4_190 (by decide) rfl rfl sh_1 (Nat.le_of_ble_eq_true rfl) hRm3 ?_
        intro r_ m3 hz_ hp_
        obtain rfl := hz_
        have h := h m3 hp_
        refine g_iconst (pc := 47) (v := (-1 : Int32)) dX4_readHouseName_47 (by decide) ?_
        exact g_iret (pc := 48) dX4_readHouseName_48 rfl rfl rfl h
  · have h := h.2.2 m1 hp_
    refine g_if_ne (pc := 16) (tgt := 21) dX4_readHouseName_16 (by decide) (fun c16 => absurd c16 (by decide)) (fun _ => ?_)
    refine g_iconst (pc := 19) (v := (-1 : Int32)) dX4_readHouseName_19 (by decide) ?_
    exact g_iret (pc := 20) dX4_readHouseName_20 rfl rfl rfl h
theorem dX4_readOfficeName_0 : decode cX4_readOfficeName 0 = .ok (.aload_n 0, 1) := by decide +kernel
theorem dX4_readOfficeName_1 : decode cX4_readOfficeName 1 = .ok (.invokevirtual 187, 3) := by decide +kernel
theorem dX4_readOfficeName_4 : decode cX4_readOfficeName 4 = .ok (.istore_n 1, 1) := by decide +kernel
theorem dX4_readOfficeName_5 : decode cX4_readOfficeName 5 = .ok (.aload_n 0, 1) := by decide +kernel
theorem dX4_readOfficeName_6 : decode cX4_readOfficeName 6 = .ok (.invokevirtual 272, 3) := by decide +kernel
theorem dX4_readOfficeName_9 : decode cX4_readOfficeName 9 = .ok (.lstore_n 2, 1) := by decide +kernel
theorem dX4_readOfficeName_10 : decode cX4_readOfficeName 10 = .ok (.aload_n 0, 1) := by decide +kernel
theorem dX4_readOfficeName_11 : decode cX4_readOfficeName 11 = .ok (.bipush 26, 2) := by decide +kernel
theorem dX4_readOfficeName_13 : decode cX4_readOfficeName 13 = .ok (.invokevirtual 143, 3) := by decide +kernel
theorem dX4_readOfficeName_16 : decode cX4_readOfficeName 16 = .ok (.ifCond .ne 5, 3) := by decide +kernel
theorem dX4_readOfficeName_19 : decode cX4_readOfficeName 19 = .ok (.iconst (-1), 1) := by decide +kernel
theorem dX4_readOfficeName_20 : decode cX4_readOfficeName 20 = .ok (.ireturn, 1) := by decide +kernel
theorem dX4_readOfficeName_21 : decode cX4_readOfficeName 21 = .ok (.aload_n 0, 1) := by decide +kernel
theorem dX4_readOfficeName_22 : decode cX4_readOfficeName 22 = .ok (.lload_n 2, 1) := by decide +kernel
theorem dX4_readOfficeName_23 : decode cX4_readOfficeName 23 = .ok (.invokevirtual 276, 3) := by decide +kernel
theorem dX4_readOfficeName_26 : decode cX4_readOfficeName 26 = .ok (.istore 4, 2) := by decide +kernel
theorem dX4_readOfficeName_28 : decode cX4_readOfficeName 28 = .ok (.iload 4, 2) := by decide +kernel
theorem dX4_readOfficeName_30 : decode cX4_readOfficeName 30 = .ok (.bipush 16, 2) := by decide +kernel
theorem dX4_readOfficeName_32 : decode cX4_readOfficeName 32 = .ok (.if_icmp .ge 11, 3) := by decide +kernel
theorem dX4_readOfficeName_35 : decode cX4_readOfficeName 35 = .ok (.aload_n 0, 1) := by decide +kernel
theorem dX4_readOfficeName_36 : decode cX4_readOfficeName 36 = .ok (.iconst 4, 1) := by decide +kernel
theorem dX4_readOfficeName_37 : decode cX4_readOfficeName 37 = .ok (.iload_n 1, 1) := by decide +kernel
theorem dX4_readOfficeName_38 : decode cX4_readOfficeName 38 = .ok (.invokevirtual 190, 3) := by decide +kernel
theorem dX4_readOfficeName_41 : decode cX4_readOfficeName 41 = .ok (.iconst (-1), 1) := by decide +kernel
theorem dX4_readOfficeName_42 : decode cX4_readOfficeName 42 = .ok (.ireturn, 1) := by decide +kernel
theorem dX4_readOfficeName_43 : decode cX4_readOfficeName 43 = .ok (.iload 4, 2) := by decide +kernel
theorem dX4_readOfficeName_45 : decode cX4_readOfficeName 45 = .ok (.bipush 16, 2) := by decide +kernel
theorem dX4_readOfficeName_47 : decode cX4_readOfficeName 47 = .ok (.isub, 1) := by decide +kernel
theorem dX4_readOfficeName_48 : decode cX4_readOfficeName 48 = .ok (.ireturn, 1) := by decide +kernel
theorem b_X4_readOfficeName (mm : MM) (Q : Value → MM → Prop) (h : o_X4_start mm ∧ (o_X4_value mm ∧ (∃ Pm1 : Value → MM → Prop, Runs e_X4_take [.ref 1, .int (26 : Int32)] mm Pm1 ∧ (∀ r m1, Pm1 r m1 → r = .int 1 ∨ r = .int 0) ∧ (∀ m1, Pm1 (.int 1) m1 → (∃ Pm2 : Value → MM → Prop, Runs e_X4_ownerOf [.ref 1, .long (v_X4_value mm)] m1 Pm2 ∧ ∀ (r2 : Int32) (m2 : MM), Pm2 (.int r2) m2 → (((16 : Int32) ≤ r2 → (Q (.int (r2 - (16 : Int32))) m2)) ∧ (¬ (16 : Int32) ≤ r2 → (∃ Pm3 : Value → MM → Prop, Runs e_X4_failLate [.ref 1, .int (4 : Int32), .int (v_X4_start mm)] m2 Pm3 ∧ ∀ m3, Pm3 .null m3 → (Q (.int (-1 : Int32)) m3)))))) ∧ (∀ m1, Pm1 (.int 0) m1 → (Q (.int (-1 : Int32)) m1))))) : Runs e_X4_readOfficeName [.ref 1] mm Q := by
  refine runs_of_G (L := [(0, .ref 1)]) pl_X4 (Nat.le_of_ble_eq_true rfl) rfl ?_
  refine g_aload_n (pc := 0) (x := 1) dX4_readOfficeName_0 rfl ?_
  refine g_callV (pc := 1) (as := []) dX4_readOfficeName_1 cw_X4_187 (by decide) rfl rfl sh_1 (Nat.le_of_ble_eq_true rfl) (rv_X4_start mm h.1) ?_
  have h := h.2
  rintro r_ m_ hz_ ⟨rfl, rfl⟩
  refine g_istore_n (pc := 4) (L' := [(0, .ref 1), (1, .int (v_X4_start mm))]) dX4_readOfficeName_4 (Nat.le_of_ble_eq_true rfl) rfl ?_
  refine g_aload_n (pc := 5) (x := 1) dX4_readOfficeName_5 rfl ?_
  refine g_callV (pc := 6) (as := []) dX4_readOfficeName_6 cw_X4_272 (by decide) rfl rfl sh_1 (Nat.le_of_ble_eq_true rfl) (rv_X4_value mm h.1) ?_
  have h := h.2
  rintro r_ m_ hz_ ⟨rfl, rfl⟩
  refine g_lstore_n (pc := 9) (L' := [(0, .ref 1), (1, .int (v_X4_start mm)), (2, .long (v_X4_value mm))]) dX4_readOfficeName_9 (Nat.le_of_ble_eq_true rfl) rfl ?_
  refine g_aload_n (pc := 10) (x := 1) dX4_readOfficeName_10 rfl ?_
  refine g_bipush (pc := 11) (v := (26 : Int32)) dX4_readOfficeName_11 (by decide) ?_
  obtain ⟨Pm1, hRm1, h⟩ := h
  refine g_callV (pc := 13) (as := [.int (26 : Int32)]) dX4_readOfficeName_13 cw_X4_143 (by decide) rfl rfl sh_1 (Nat.le_of_ble_eq_true rfl) hRm1 ?_
  intro r_ m1 hz_ hp_
  rcases h.1 r_ m1 hp_ with rfl | rfl
  · have h := h.2.1 m1 hp_
    refine g_if_ne (pc := 16) (tgt := 21) dX4_readOfficeName_16 (by decide) (fun _ => ?_) (fun c16 => absurd c16 (by decide))
    refine g_aload_n (pc := 21) (x := 1) dX4_readOfficeName_21 rfl ?_
    refine g_lload_n (pc := 22) (x := (v_X4_value mm)) dX4_readOfficeName_22 rfl ?_
    obtain ⟨Pm2, hRm2, h⟩ := h
    refine g_callV (pc := 23) (as := [.long (v_X4_value mm)]) dX4_readOfficeName_23 cw_X4_276 (by decide) rfl rfl sh_1 (Nat.le_of_ble_eq_true rfl) hRm2 ?_
    intro r_ m2 hz_ hp_
    obtain ⟨r2, rfl⟩ := hz_
    have h := h r2 m2 hp_
    refine g_istore (pc := 26) (L' := [(0, .ref 1), (1, .int (v_X4_start mm)), (2, .long (v_X4_value mm)), (4, .int r2)]) dX4_readOfficeName_26 (Nat.le_of_ble_eq_true rfl) rfl ?_
    refine g_iload (pc := 28) (x := r2) dX4_readOfficeName_28 rfl ?_
    refine g_bipush (pc := 30) (v := (16 : Int32)) dX4_readOfficeName_30 (by decide) ?_
    refine g_icmp_ge (pc := 32) (tgt := 43) dX4_readOfficeName_32 (by decide) (fun c32 => ?_) (fun c32 => ?_)
    · have h := h.1 c32
      refine g_iload (pc := 43) (x := r2) dX4_readOfficeName_43 rfl ?_
      refine g_bipush (pc := 45) (v := (16 : Int32)) dX4_readOfficeName_45 (by decide) ?_
      refine g_isub (pc := 47) dX4_readOfficeName_47 ?_
      exact g_iret (pc := 48) dX4_readOfficeName_48 rfl rfl rfl h
    · have h := h.2 c32
      refine g_aload_n (pc := 35) (x := 1) dX4_readOfficeName_35 rfl ?_
      refine g_iconst (pc := 36) (v := (4 : Int32)) dX4_readOfficeName_36 (by decide) ?_
      refine g_iload_n (pc := 37) (x := (v_X4_start mm)) dX4_readOfficeName_37 rfl ?_
      obtain ⟨Pm3, hRm3, h⟩ := h
      refine g_callV (pc := 38) (as := [.int (4 : Int32), .int (v_X4_start mm)]) dX4_readOfficeName_38 cw_X4_190 (by decide) rfl rfl sh_1 (Nat.le_of_ble_eq_true rfl) hRm3 ?_
      intro r_ m3 hz_ hp_
      obtain rfl := hz_
      have h := h m3 hp_
      refine g_iconst (pc := 41) (v := (-1 : Int32)) dX4_readOfficeName_41 (by decide) ?_
      exact g_iret (pc := 42) dX4_readOfficeName_42 rfl rfl rfl h
  · have h := h.2.2 m1 hp_
    refine g_if_ne (pc := 16) (tgt := 21) dX4_readOfficeName_16 (by decide) (fun c16 => absurd c16 (by decide)) (fun _ => ?_)
    refine g_iconst (pc := 19) (v := (-1 : Int32)) dX4_readOfficeName_19 (by decide) ?_
    exact g_iret (pc := 20) dX4_readOfficeName_20 rfl rfl rfl h
theorem dX4_ownerOf_0 : decode cX4_ownerOf 0 = .ok (.iconst 0, 1) := by decide +kernel
theorem dX4_ownerOf_1 : decode cX4_ownerOf 1 = .ok (.istore_n 3, 1) := by decide +kernel
theorem dX4_ownerOf_2 : decode cX4_ownerOf 2 = .ok (.iload_n 3, 1) := by decide +kernel
theorem dX4_ownerOf_3 : decode cX4_ownerOf 3 = .ok (.aload_n 0, 1) := by decide +kernel
theorem dX4_ownerOf_4 : decode cX4_ownerOf 4 = .ok (.getfield 59, 3) := by decide +kernel
theorem dX4_ownerOf_7 : decode cX4_ownerOf 7 = .ok (.if_icmp .ge 36, 3) := by decide +kernel
theorem dX4_ownerOf_10 : decode cX4_ownerOf 10 = .ok (.iload_n 3, 1) := by decide +kernel
theorem dX4_ownerOf_11 : decode cX4_ownerOf 11 = .ok (.aload_n 0, 1) := by decide +kernel
theorem dX4_ownerOf_12 : decode cX4_ownerOf 12 = .ok (.getfield 9, 3) := by decide +kernel
theorem dX4_ownerOf_15 : decode cX4_ownerOf 15 = .ok (.arraylength, 1) := by decide +kernel
theorem dX4_ownerOf_16 : decode cX4_ownerOf 16 = .ok (.if_icmp .ge 27, 3) := by decide +kernel
theorem dX4_ownerOf_19 : decode cX4_ownerOf 19 = .ok (.aload_n 0, 1) := by decide +kernel
theorem dX4_ownerOf_20 : decode cX4_ownerOf 20 = .ok (.getfield 9, 3) := by decide +kernel
theorem dX4_ownerOf_23 : decode cX4_ownerOf 23 = .ok (.iload_n 3, 1) := by decide +kernel
theorem dX4_ownerOf_24 : decode cX4_ownerOf 24 = .ok (.laload, 1) := by decide +kernel
theorem dX4_ownerOf_25 : decode cX4_ownerOf 25 = .ok (.lload_n 1, 1) := by decide +kernel
theorem dX4_ownerOf_26 : decode cX4_ownerOf 26 = .ok (.lcmp, 1) := by decide +kernel
theorem dX4_ownerOf_27 : decode cX4_ownerOf 27 = .ok (.ifCond .ne 10, 3) := by decide +kernel
theorem dX4_ownerOf_30 : decode cX4_ownerOf 30 = .ok (.aload_n 0, 1) := by decide +kernel
theorem dX4_ownerOf_31 : decode cX4_ownerOf 31 = .ok (.getfield 15, 3) := by decide +kernel
theorem dX4_ownerOf_34 : decode cX4_ownerOf 34 = .ok (.iload_n 3, 1) := by decide +kernel
theorem dX4_ownerOf_35 : decode cX4_ownerOf 35 = .ok (.iaload, 1) := by decide +kernel
theorem dX4_ownerOf_36 : decode cX4_ownerOf 36 = .ok (.ireturn, 1) := by decide +kernel
theorem dX4_ownerOf_37 : decode cX4_ownerOf 37 = .ok (.iinc 3 1, 3) := by decide +kernel
theorem dX4_ownerOf_40 : decode cX4_ownerOf 40 = .ok (.goto (-38), 3) := by decide +kernel
theorem dX4_ownerOf_43 : decode cX4_ownerOf 43 = .ok (.iconst (-1), 1) := by decide +kernel
theorem dX4_ownerOf_44 : decode cX4_ownerOf 44 = .ok (.ireturn, 1) := by decide +kernel
theorem b_X4_ownerOf (mm : MM) (Q : Value → MM → Prop) (a1 : Int64) (h : G e_X4_ownerOf 2 [(0, .ref 1), (1, .long a1), (3, .int (0 : Int32))] [] mm Q) : Runs e_X4_ownerOf [.ref 1, .long a1] mm Q := by
  refine runs_of_G (L := [(0, .ref 1), (1, .long a1)]) pl_X4 (Nat.le_of_ble_eq_true rfl) rfl ?_
  refine g_iconst (pc := 0) (v := (0 : Int32)) dX4_ownerOf_0 (by decide) ?_
  refine g_istore_n (pc := 1) (L' := [(0, .ref 1), (1, .long a1), (3, .int (0 : Int32))]) dX4_ownerOf_1 (Nat.le_of_ble_eq_true rfl) rfl ?_
  exact h
theorem b_X4_ownerOf_2 (mm : MM) (Q : Value → MM → Prop) (l1 : Int64) (l3 : Int32) (h : ((mm.1 1 11) ≤ l3 → (Q (.int (-1 : Int32)) mm)) ∧ (¬ (mm.1 1 11) ≤ l3 → (((28 : Int32) ≤ l3 → (Q (.int (-1 : Int32)) mm)) ∧ (¬ (28 : Int32) ≤ l3 → (vp_in l3 28 ∧ ((¬ (lg_cmp (mm.2.1 2 l3.toNatClampNeg) l1) = 0 → (G e_X4_ownerOf 2 [(0, .ref 1), (1, .long l1), (3, .int (l3 + (1 : Int32)))] [] mm Q)) ∧ ((lg_cmp (mm.2.1 2 l3.toNatClampNeg) l1) = 0 → (vp_in l3 28 ∧ (Q (.int (mm.1 3 l3.toNatClampNeg)) mm))))))))) : G e_X4_ownerOf 2 [(0, .ref 1), (1, .long l1), (3, .int l3)] [] mm Q := by
  refine g_iload_n (pc := 2) (x := l3) dX4_ownerOf_2 rfl ?_
  refine g_aload_n (pc := 3) (x := 1) dX4_ownerOf_3 rfl ?_
  refine g_getI (pc := 4) dX4_ownerOf_4 fo_X4_59 sh_1 rfl ?_
  refine g_icmp_ge (pc := 7) (tgt := 43) dX4_ownerOf_7 (by decide) (fun c7 => ?_) (fun c7 => ?_)
  · have h := h.1 c7
    refine g_iconst (pc := 43) (v := (-1 : Int32)) dX4_ownerOf_43 (by decide) ?_
    exact g_iret (pc := 44) dX4_ownerOf_44 rfl rfl rfl h
  · have h := h.2 c7
    refine g_iload_n (pc := 10) (x := l3) dX4_ownerOf_10 rfl ?_
    refine g_aload_n (pc := 11) (x := 1) dX4_ownerOf_11 rfl ?_
    refine g_getR (pc := 12) (dd := 1) dX4_ownerOf_12 fo_X4_9 sh_1 rfl ?_
    refine g_alen (pc := 15) (t := 3) (v := (28 : Int32)) (by decide) dX4_ownerOf_15 sh_2 (by decide) ?_
    refine g_icmp_ge (pc := 16) (tgt := 43) dX4_ownerOf_16 (by decide) (fun c16 => ?_) (fun c16 => ?_)
    · have h := h.1 c16
      refine g_iconst (pc := 43) (v := (-1 : Int32)) dX4_ownerOf_43 (by decide) ?_
      exact g_iret (pc := 44) dX4_ownerOf_44 rfl rfl rfl h
    · have h := h.2 c16
      refine g_aload_n (pc := 19) (x := 1) dX4_ownerOf_19 rfl ?_
      refine g_getR (pc := 20) (dd := 1) dX4_ownerOf_20 fo_X4_9 sh_1 rfl ?_
      refine g_iload_n (pc := 23) (x := l3) dX4_ownerOf_23 rfl ?_
      refine g_laload (pc := 24) dX4_ownerOf_24 sh_2 h.1 ?_
      have h := h.2
      refine g_lload_n (pc := 25) (x := l1) dX4_ownerOf_25 rfl ?_
      refine g_lcmp (pc := 26) dX4_ownerOf_26 ?_
      refine g_if_ne (pc := 27) (tgt := 37) dX4_ownerOf_27 (by decide) (fun c27 => ?_) (fun c27 => ?_)
      · have h := h.1 c27
        refine g_iinc (pc := 37) (x := l3) (v := (l3 + (1 : Int32))) (L' := [(0, .ref 1), (1, .long l1), (3, .int (l3 + (1 : Int32)))]) dX4_ownerOf_37 rfl rfl (Nat.le_of_ble_eq_true rfl) rfl ?_
        refine g_goto (pc := 40) (tgt := 2) dX4_ownerOf_40 (by decide) ?_
        exact h
      · have h := h.2 c27
        refine g_aload_n (pc := 30) (x := 1) dX4_ownerOf_30 rfl ?_
        refine g_getR (pc := 31) (dd := 2) dX4_ownerOf_31 fo_X4_15 sh_1 rfl ?_
        refine g_iload_n (pc := 34) (x := l3) dX4_ownerOf_34 rfl ?_
        refine g_iaload (pc := 35) dX4_ownerOf_35 sh_3 h.1 ?_
        have h := h.2
        exact g_iret (pc := 36) dX4_ownerOf_36 rfl rfl rfl h
theorem dX11_within_0 : decode cX11_within 0 = .ok (.iload_n 0, 1) := by decide +kernel
theorem dX11_within_1 : decode cX11_within 1 = .ok (.iload_n 1, 1) := by decide +kernel
theorem dX11_within_2 : decode cX11_within 2 = .ok (.if_icmp .lt 12, 3) := by decide +kernel
theorem dX11_within_5 : decode cX11_within 5 = .ok (.iload_n 0, 1) := by decide +kernel
theorem dX11_within_6 : decode cX11_within 6 = .ok (.iload_n 2, 1) := by decide +kernel
theorem dX11_within_7 : decode cX11_within 7 = .ok (.if_icmp .gt 7, 3) := by decide +kernel
theorem dX11_within_10 : decode cX11_within 10 = .ok (.iconst 1, 1) := by decide +kernel
theorem dX11_within_11 : decode cX11_within 11 = .ok (.goto 4, 3) := by decide +kernel
theorem dX11_within_14 : decode cX11_within 14 = .ok (.iconst 0, 1) := by decide +kernel
theorem dX11_within_15 : decode cX11_within 15 = .ok (.ireturn, 1) := by decide +kernel
def p_X11_within (mm : MM) (a0 : Int32) (a1 : Int32) (a2 : Int32) : Prop := (¬ a0 < a1 ∧ ¬ a2 < a0)
theorem rv_X11_within (mm : MM) (a0 : Int32) (a1 : Int32) (a2 : Int32) : Runs e_X11_within [.int a0, .int a1, .int a2] mm (fun r m_ => ((p_X11_within mm a0 a1 a2 ∧ r = .int 1) ∨ (¬ p_X11_within mm a0 a1 a2 ∧ r = .int 0)) ∧ mm = m_) := by
  refine runs_of_G (L := [(0, .int a0), (1, .int a1), (2, .int a2)]) pl_X11 (Nat.le_of_ble_eq_true rfl) rfl ?_
  refine g_iload_n (pc := 0) (x := a0) dX11_within_0 rfl ?_
  refine g_iload_n (pc := 1) (x := a1) dX11_within_1 rfl ?_
  refine g_icmp_lt (pc := 2) (tgt := 14) dX11_within_2 (by decide) (fun c2 => ?_) (fun c2 => ?_)
  · have c2_0 : a0 < a1 := c2
    refine g_iconst (pc := 14) (v := (0 : Int32)) dX11_within_14 (by decide) ?_
    exact g_iret (pc := 15) dX11_within_15 rfl rfl (nar_B isB0) ⟨Or.inr ⟨(show ¬ p_X11_within mm a0 a1 a2 from (fun h_ => (h_.1 c2_0))), rfl⟩, rfl⟩
  · have c2_0 : ¬ a0 < a1 := c2
    refine g_iload_n (pc := 5) (x := a0) dX11_within_5 rfl ?_
    refine g_iload_n (pc := 6) (x := a2) dX11_within_6 rfl ?_
    refine g_icmp_gt (pc := 7) (tgt := 14) dX11_within_7 (by decide) (fun c7 => ?_) (fun c7 => ?_)
    · have c7_1 : a2 < a0 := c7
      refine g_iconst (pc := 14) (v := (0 : Int32)) dX11_within_14 (by decide) ?_
      exact g_iret (pc := 15) dX11_within_15 rfl rfl (nar_B isB0) ⟨Or.inr ⟨(show ¬ p_X11_within mm a0 a1 a2 from (fun h_ => (not_not_intro c7_1) h_.2)), rfl⟩, rfl⟩
    · have c7_1 : ¬ a2 < a0 := c7
      refine g_iconst (pc := 10) (v := (1 : Int32)) dX11_within_10 (by decide) ?_
      refine g_goto (pc := 11) (tgt := 15) dX11_within_11 (by decide) ?_
      exact g_iret (pc := 15) dX11_within_15 rfl rfl (nar_B isB1) ⟨Or.inl ⟨(show p_X11_within mm a0 a1 a2 from ⟨c2_0, c7_1⟩), rfl⟩, rfl⟩
theorem dX4_readInt_0 : decode cX4_readInt 0 = .ok (.aload_n 0, 1) := by decide +kernel
theorem dX4_readInt_1 : decode cX4_readInt 1 = .ok (.invokevirtual 187, 3) := by decide +kernel
theorem dX4_readInt_4 : decode cX4_readInt 4 = .ok (.istore_n 3, 1) := by decide +kernel
theorem dX4_readInt_5 : decode cX4_readInt 5 = .ok (.aload_n 0, 1) := by decide +kernel
theorem dX4_readInt_6 : decode cX4_readInt 6 = .ok (.invokevirtual 236, 3) := by decide +kernel
theorem dX4_readInt_9 : decode cX4_readInt 9 = .ok (.istore 4, 2) := by decide +kernel
theorem dX4_readInt_11 : decode cX4_readInt 11 = .ok (.aload_n 0, 1) := by decide +kernel
theorem dX4_readInt_12 : decode cX4_readInt 12 = .ok (.bipush 27, 2) := by decide +kernel
theorem dX4_readInt_14 : decode cX4_readInt 14 = .ok (.invokevirtual 143, 3) := by decide +kernel
theorem dX4_readInt_17 : decode cX4_readInt 17 = .ok (.ifCond .eq 19, 3) := by decide +kernel
theorem dX4_readInt_20 : decode cX4_readInt 20 = .ok (.iload 4, 2) := by decide +kernel
theorem dX4_readInt_22 : decode cX4_readInt 22 = .ok (.iload_n 1, 1) := by decide +kernel
theorem dX4_readInt_23 : decode cX4_readInt 23 = .ok (.iload_n 2, 1) := by decide +kernel
theorem dX4_readInt_24 : decode cX4_readInt 24 = .ok (.invokestatic 280, 3) := by decide +kernel
theorem dX4_readInt_27 : decode cX4_readInt 27 = .ok (.ifCond .ne 9, 3) := by decide +kernel
theorem dX4_readInt_30 : decode cX4_readInt 30 = .ok (.aload_n 0, 1) := by decide +kernel
theorem dX4_readInt_31 : decode cX4_readInt 31 = .ok (.iconst 5, 1) := by decide +kernel
theorem dX4_readInt_32 : decode cX4_readInt 32 = .ok (.iload_n 3, 1) := by decide +kernel
theorem dX4_readInt_33 : decode cX4_readInt 33 = .ok (.invokevirtual 190, 3) := by decide +kernel
theorem dX4_readInt_36 : decode cX4_readInt 36 = .ok (.iload 4, 2) := by decide +kernel
theorem dX4_readInt_38 : decode cX4_readInt 38 = .ok (.ireturn, 1) := by decide +kernel
theorem b_X4_readInt (mm : MM) (Q : Value → MM → Prop) (a1 : Int32) (a2 : Int32) (h : o_X4_start mm ∧ (o_X4_intValue mm ∧ (∃ Pm1 : Value → MM → Prop, Runs e_X4_take [.ref 1, .int (27 : Int32)] mm Pm1 ∧ (∀ r m1, Pm1 r m1 → r = .int 1 ∨ r = .int 0) ∧ (∀ m1, Pm1 (.int 1) m1 → ((p_X11_within m1 (v_X4_intValue mm) a1 a2 → (Q (.int (v_X4_intValue mm)) m1)) ∧ (¬ p_X11_within m1 (v_X4_intValue mm) a1 a2 → (∃ Pm2 : Value → MM → Prop, Runs e_X4_failLate [.ref 1, .int (5 : Int32), .int (v_X4_start mm)] m1 Pm2 ∧ ∀ m2, Pm2 .null m2 → (Q (.int (v_X4_intValue mm)) m2))))) ∧ (∀ m1, Pm1 (.int 0) m1 → (Q (.int (v_X4_intValue mm)) m1))))) : Runs e_X4_readInt [.ref 1, .int a1, .int a2] mm Q := by
  refine runs_of_G (L := [(0, .ref 1), (1, .int a1), (2, .int a2)]) pl_X4 (Nat.le_of_ble_eq_true rfl) rfl ?_
  refine g_aload_n (pc := 0) (x := 1) dX4_readInt_0 rfl ?_
  refine g_callV (pc := 1) (as := []) dX4_readInt_1 cw_X4_187 (by decide) rfl rfl sh_1 (Nat.le_of_ble_eq_true rfl) (rv_X4_start mm h.1) ?_
  have h := h.2
  rintro r_ m_ hz_ ⟨rfl, rfl⟩
  refine g_istore_n (pc := 4) (L' := [(0, .ref 1), (1, .int a1), (2, .int a2), (3, .int (v_X4_start mm))]) dX4_readInt_4 (Nat.le_of_ble_eq_true rfl) rfl ?_
  refine g_aload_n (pc := 5) (x := 1) dX4_readInt_5 rfl ?_
  refine g_callV (pc := 6) (as := []) dX4_readInt_6 cw_X4_236 (by decide) rfl rfl sh_1 (Nat.le_of_ble_eq_true rfl) (rv_X4_intValue mm h.1) ?_
  have h := h.2
  rintro r_ m_ hz_ ⟨rfl, rfl⟩
  refine g_istore (pc := 9) (L' := [(0, .ref 1), (1, .int a1), (2, .int a2), (3, .int (v_X4_start mm)), (4, .int (v_X4_intValue mm))]) dX4_readInt_9 (Nat.le_of_ble_eq_true rfl) rfl ?_
  refine g_aload_n (pc := 11) (x := 1) dX4_readInt_11 rfl ?_
  refine g_bipush (pc := 12) (v := (27 : Int32)) dX4_readInt_12 (by decide) ?_
  obtain ⟨Pm1, hRm1, h⟩ := h
  refine g_callV (pc := 14) (as := [.int (27 : Int32)]) dX4_readInt_14 cw_X4_143 (by decide) rfl rfl sh_1 (Nat.le_of_ble_eq_true rfl) hRm1 ?_
  intro r_ m1 hz_ hp_
  rcases h.1 r_ m1 hp_ with rfl | rfl
  · have h := h.2.1 m1 hp_
    refine g_if_eq (pc := 17) (tgt := 36) dX4_readInt_17 (by decide) (fun c17 => absurd c17 (by decide)) (fun _ => ?_)
    refine g_iload (pc := 20) (x := (v_X4_intValue mm)) dX4_readInt_20 rfl ?_
    refine g_iload_n (pc := 22) (x := a1) dX4_readInt_22 rfl ?_
    refine g_iload_n (pc := 23) (x := a2) dX4_readInt_23 rfl ?_
    refine g_callSN (pc := 24) (as := [.int (v_X4_intValue mm), .int a1, .int a2]) dX4_readInt_24 cw_X4_280 (by decide) rfl rfl (Nat.le_of_ble_eq_true rfl) (rv_X11_within m1 (v_X4_intValue mm) a1 a2) ?_
    rintro r_ m_ hz_ ⟨⟨p_, rfl⟩ | ⟨p_, rfl⟩, rfl⟩
    · have h := h.1 p_
      refine g_if_ne (pc := 27) (tgt := 36) dX4_readInt_27 (by decide) (fun _ => ?_) (fun c27 => absurd c27 (by decide))
      refine g_iload (pc := 36) (x := (v_X4_intValue mm)) dX4_readInt_36 rfl ?_
      exact g_iret (pc := 38) dX4_readInt_38 rfl rfl rfl h
    · have h := h.2 p_
      refine g_if_ne (pc := 27) (tgt := 36) dX4_readInt_27 (by decide) (fun c27 => absurd c27 (by decide)) (fun _ => ?_)
      refine g_aload_n (pc := 30) (x := 1) dX4_readInt_30 rfl ?_
      refine g_iconst (pc := 31) (v := (5 : Int32)) dX4_readInt_31 (by decide) ?_
      refine g_iload_n (pc := 32) (x := (v_X4_start mm)) dX4_readInt_32 rfl ?_
      obtain ⟨Pm2, hRm2, h⟩ := h
      refine g_callV (pc := 33) (as := [.int (5 : Int32), .int (v_X4_start mm)]) dX4_readInt_33 cw_X4_190 (by decide) rfl rfl sh_1 (Nat.le_of_ble_eq_true rfl) hRm2 ?_
      intro r_ m2 hz_ hp_
      obtain rfl := hz_
      have h := h m2 hp_
      refine g_iload (pc := 36) (x := (v_X4_intValue mm)) dX4_readInt_36 rfl ?_
      exact g_iret (pc := 38) dX4_readInt_38 rfl rfl rfl h
  · have h := h.2.2 m1 hp_
    refine g_if_eq (pc := 17) (tgt := 36) dX4_readInt_17 (by decide) (fun _ => ?_) (fun c17 => absurd c17 (by decide))
    refine g_iload (pc := 36) (x := (v_X4_intValue mm)) dX4_readInt_36 rfl ?_
    exact g_iret (pc := 38) dX4_readInt_38 rfl rfl rfl h

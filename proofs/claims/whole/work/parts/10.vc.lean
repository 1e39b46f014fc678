theorem dX0_prepare_0 : decode cX0_prepare 0 = .ok (.iconst 0, 1) := by decide +kernel
theorem dX0_prepare_1 : decode cX0_prepare 1 = .ok (.istore_n 2, 1) := by decide +kernel
theorem dX0_prepare_2 : decode cX0_prepare 2 = .ok (.iload_n 2, 1) := by decide +kernel
theorem dX0_prepare_3 : decode cX0_prepare 3 = .ok (.bipush 16, 2) := by decide +kernel
theorem dX0_prepare_5 : decode cX0_prepare 5 = .ok (.if_icmp .ge 20, 3) := by decide +kernel
theorem dX0_prepare_8 : decode cX0_prepare 8 = .ok (.aload_n 0, 1) := by decide +kernel
theorem dX0_prepare_9 : decode cX0_prepare 9 = .ok (.getfield 15, 3) := by decide +kernel
theorem dX0_prepare_12 : decode cX0_prepare 12 = .ok (.iload_n 2, 1) := by decide +kernel
theorem dX0_prepare_13 : decode cX0_prepare 13 = .ok (.aload_n 1, 1) := by decide +kernel
theorem dX0_prepare_14 : decode cX0_prepare 14 = .ok (.iload_n 2, 1) := by decide +kernel
theorem dX0_prepare_15 : decode cX0_prepare 15 = .ok (.invokevirtual 25, 3) := by decide +kernel
theorem dX0_prepare_18 : decode cX0_prepare 18 = .ok (.iastore, 1) := by decide +kernel
theorem dX0_prepare_19 : decode cX0_prepare 19 = .ok (.iinc 2 1, 3) := by decide +kernel
theorem dX0_prepare_22 : decode cX0_prepare 22 = .ok (.goto (-20), 3) := by decide +kernel
theorem dX0_prepare_25 : decode cX0_prepare 25 = .ok (.iconst 0, 1) := by decide +kernel
theorem dX0_prepare_26 : decode cX0_prepare 26 = .ok (.istore_n 2, 1) := by decide +kernel
theorem dX0_prepare_27 : decode cX0_prepare 27 = .ok (.iload_n 2, 1) := by decide +kernel
theorem dX0_prepare_28 : decode cX0_prepare 28 = .ok (.aload_n 0, 1) := by decide +kernel
theorem dX0_prepare_29 : decode cX0_prepare 29 = .ok (.getfield 18, 3) := by decide +kernel
theorem dX0_prepare_32 : decode cX0_prepare 32 = .ok (.arraylength, 1) := by decide +kernel
theorem dX0_prepare_33 : decode cX0_prepare 33 = .ok (.if_icmp .ge 16, 3) := by decide +kernel
theorem dX0_prepare_36 : decode cX0_prepare 36 = .ok (.aload_n 0, 1) := by decide +kernel
theorem dX0_prepare_37 : decode cX0_prepare 37 = .ok (.getfield 18, 3) := by decide +kernel
theorem dX0_prepare_40 : decode cX0_prepare 40 = .ok (.iload_n 2, 1) := by decide +kernel
theorem dX0_prepare_41 : decode cX0_prepare 41 = .ok (.iconst (-1), 1) := by decide +kernel
theorem dX0_prepare_42 : decode cX0_prepare 42 = .ok (.iastore, 1) := by decide +kernel
theorem dX0_prepare_43 : decode cX0_prepare 43 = .ok (.iinc 2 1, 3) := by decide +kernel
theorem dX0_prepare_46 : decode cX0_prepare 46 = .ok (.goto (-19), 3) := by decide +kernel
theorem dX0_prepare_49 : decode cX0_prepare 49 = .ok (.return_, 1) := by decide +kernel
theorem b_X0_prepare (mm : MM) (Q : Value → MM → Prop) (a1 : Nat) (h1 : AtTown a1) (h : G e_X0_prepare 2 [(0, .ref 91), (1, .ref a1), (2, .int (0 : Int32))] [] mm Q) : Runs e_X0_prepare [.ref 91, .ref a1] mm Q := by
  refine runs_of_G (L := [(0, .ref 91), (1, .ref a1)]) pl_X0 (Nat.le_of_ble_eq_true rfl) rfl ?_
  refine g_iconst (pc := 0) (v := (0 : Int32)) dX0_prepare_0 (by decide) ?_
  refine g_istore_n (pc := 1) (L' := [(0, .ref 91), (1, .ref a1), (2, .int (0 : Int32))]) dX0_prepare_1 (Nat.le_of_ble_eq_true rfl) rfl ?_
  exact h
theorem b_X0_prepare_2 (mm : MM) (Q : Value → MM → Prop) (l1 : Nat) (l2 : Int32) (k1 : AtTown l1) (h : ((16 : Int32) ≤ l2 → (G e_X0_prepare 27 [(0, .ref 91), (2, .int (0 : Int32))] [] mm Q)) ∧ (¬ (16 : Int32) ≤ l2 → (∃ Pm1 : Value → MM → Prop, Runs e_X8_neighbours [.ref l1, .int l2] mm Pm1 ∧ ∀ (r1 : Int32) (m1 : MM), Pm1 (.int r1) m1 → (vp_in l2 16 ∧ (G e_X0_prepare 2 [(0, .ref 91), (1, .ref l1), (2, .int (l2 + (1 : Int32)))] [] (wI m1 93 (l2.toNatClampNeg) r1) Q))))) : G e_X0_prepare 2 [(0, .ref 91), (1, .ref l1), (2, .int l2)] [] mm Q := by
  refine g_iload_n (pc := 2) (x := l2) dX0_prepare_2 rfl ?_
  refine g_bipush (pc := 3) (v := (16 : Int32)) dX0_prepare_3 (by decide) ?_
  refine g_icmp_ge (pc := 5) (tgt := 25) dX0_prepare_5 (by decide) (fun c5 => ?_) (fun c5 => ?_)
  · have h := h.1 c5
    refine g_iconst (pc := 25) (v := (0 : Int32)) dX0_prepare_25 (by decide) ?_
    refine g_istore_n (pc := 26) (L' := [(0, .ref 91), (1, .ref l1), (2, .int (0 : Int32))]) dX0_prepare_26 (Nat.le_of_ble_eq_true rfl) rfl ?_
    refine g_sub (L' := [(0, .ref 91), (2, .int (0 : Int32))]) [0, 2] rfl ?_
    exact h
  · have h := h.2 c5
    refine g_aload_n (pc := 8) (x := 91) dX0_prepare_8 rfl ?_
    refine g_getR (pc := 9) (dd := 2) dX0_prepare_9 fo_X0_15 sh_91 rfl ?_
    refine g_iload_n (pc := 12) (x := l2) dX0_prepare_12 rfl ?_
    refine g_aload_n (pc := 13) (x := l1) dX0_prepare_13 rfl ?_
    refine g_iload_n (pc := 14) (x := l2) dX0_prepare_14 rfl ?_
    obtain ⟨Pm1, hRm1, h⟩ := h
    refine g_callV (pc := 15) (as := [.int l2]) dX0_prepare_15 cw_X0_25 (by decide) rfl rfl (AtTown_0 k1) (Nat.le_of_ble_eq_true rfl) hRm1 ?_
    intro r_ m1 hz_ hp_
    obtain ⟨r1, rfl⟩ := hz_
    have h := h r1 m1 hp_
    refine g_iastore (pc := 18) dX0_prepare_18 sh_93 h.1 ?_
    have h := h.2
    refine g_iinc (pc := 19) (x := l2) (v := (l2 + (1 : Int32))) (L' := [(0, .ref 91), (1, .ref l1), (2, .int (l2 + (1 : Int32)))]) dX0_prepare_19 rfl rfl (Nat.le_of_ble_eq_true rfl) rfl ?_
    refine g_goto (pc := 22) (tgt := 2) dX0_prepare_22 (by decide) ?_
    exact h
theorem b_X0_prepare_27 (mm : MM) (Q : Value → MM → Prop) (l2 : Int32) (h : ((256 : Int32) ≤ l2 → (Q .null mm)) ∧ (¬ (256 : Int32) ≤ l2 → (vp_in l2 256 ∧ (G e_X0_prepare 27 [(0, .ref 91), (2, .int (l2 + (1 : Int32)))] [] (wI mm 94 (l2.toNatClampNeg) (-1 : Int32)) Q)))) : G e_X0_prepare 27 [(0, .ref 91), (2, .int l2)] [] mm Q := by
  refine g_iload_n (pc := 27) (x := l2) dX0_prepare_27 rfl ?_
  refine g_aload_n (pc := 28) (x := 91) dX0_prepare_28 rfl ?_
  refine g_getR (pc := 29) (dd := 3) dX0_prepare_29 fo_X0_18 sh_91 rfl ?_
  refine g_alen (pc := 32) (t := 0) (v := (256 : Int32)) (by decide) dX0_prepare_32 sh_94 (by decide) ?_
  refine g_icmp_ge (pc := 33) (tgt := 49) dX0_prepare_33 (by decide) (fun c33 => ?_) (fun c33 => ?_)
  · have h := h.1 c33
    exact g_vret (pc := 49) dX0_prepare_49 rfl rfl h
  · have h := h.2 c33
    refine g_aload_n (pc := 36) (x := 91) dX0_prepare_36 rfl ?_
    refine g_getR (pc := 37) (dd := 3) dX0_prepare_37 fo_X0_18 sh_91 rfl ?_
    refine g_iload_n (pc := 40) (x := l2) dX0_prepare_40 rfl ?_
    refine g_iconst (pc := 41) (v := (-1 : Int32)) dX0_prepare_41 (by decide) ?_
    refine g_iastore (pc := 42) dX0_prepare_42 sh_94 h.1 ?_
    have h := h.2
    refine g_iinc (pc := 43) (x := l2) (v := (l2 + (1 : Int32))) (L' := [(0, .ref 91), (2, .int (l2 + (1 : Int32)))]) dX0_prepare_43 rfl rfl (Nat.le_of_ble_eq_true rfl) rfl ?_
    refine g_goto (pc := 46) (tgt := 27) dX0_prepare_46 (by decide) ?_
    exact h
theorem dX0_startAt_0 : decode cX0_startAt 0 = .ok (.iconst 0, 1) := by decide +kernel
theorem dX0_startAt_1 : decode cX0_startAt 1 = .ok (.istore 5, 2) := by decide +kernel
theorem dX0_startAt_3 : decode cX0_startAt 3 = .ok (.iload 5, 2) := by decide +kernel
theorem dX0_startAt_5 : decode cX0_startAt 5 = .ok (.bipush 16, 2) := by decide +kernel
theorem dX0_startAt_7 : decode cX0_startAt 7 = .ok (.if_icmp .ge 28, 3) := by decide +kernel
theorem dX0_startAt_10 : decode cX0_startAt 10 = .ok (.aload_n 0, 1) := by decide +kernel
theorem dX0_startAt_11 : decode cX0_startAt 11 = .ok (.getfield 9, 3) := by decide +kernel
theorem dX0_startAt_14 : decode cX0_startAt 14 = .ok (.iload 5, 2) := by decide +kernel
theorem dX0_startAt_16 : decode cX0_startAt 16 = .ok (.iload 5, 2) := by decide +kernel
theorem dX0_startAt_18 : decode cX0_startAt 18 = .ok (.iload_n 3, 1) := by decide +kernel
theorem dX0_startAt_19 : decode cX0_startAt 19 = .ok (.if_icmp .ne 7, 3) := by decide +kernel
theorem dX0_startAt_22 : decode cX0_startAt 22 = .ok (.iconst 0, 1) := by decide +kernel
theorem dX0_startAt_23 : decode cX0_startAt 23 = .ok (.goto 5, 3) := by decide +kernel
theorem dX0_startAt_26 : decode cX0_startAt 26 = .ok (.bipush (-2), 2) := by decide +kernel
theorem dX0_startAt_28 : decode cX0_startAt 28 = .ok (.iastore, 1) := by decide +kernel
theorem dX0_startAt_29 : decode cX0_startAt 29 = .ok (.iinc 5 1, 3) := by decide +kernel
theorem dX0_startAt_32 : decode cX0_startAt 32 = .ok (.goto (-29), 3) := by decide +kernel
theorem dX0_startAt_35 : decode cX0_startAt 35 = .ok (.iload_n 3, 1) := by decide +kernel
theorem dX0_startAt_36 : decode cX0_startAt 36 = .ok (.invokestatic 31, 3) := by decide +kernel
theorem dX0_startAt_39 : decode cX0_startAt 39 = .ok (.istore 5, 2) := by decide +kernel
theorem dX0_startAt_41 : decode cX0_startAt 41 = .ok (.aload_n 0, 1) := by decide +kernel
theorem dX0_startAt_42 : decode cX0_startAt 42 = .ok (.iconst 0, 1) := by decide +kernel
theorem dX0_startAt_43 : decode cX0_startAt 43 = .ok (.putfield 21, 3) := by decide +kernel
theorem dX0_startAt_46 : decode cX0_startAt 46 = .ok (.iconst 1, 1) := by decide +kernel
theorem dX0_startAt_47 : decode cX0_startAt 47 = .ok (.istore 6, 2) := by decide +kernel
theorem dX0_startAt_49 : decode cX0_startAt 49 = .ok (.iload 6, 2) := by decide +kernel
theorem dX0_startAt_51 : decode cX0_startAt 51 = .ok (.bipush 16, 2) := by decide +kernel
theorem dX0_startAt_53 : decode cX0_startAt 53 = .ok (.if_icmp .gt 50, 3) := by decide +kernel
theorem dX0_startAt_56 : decode cX0_startAt 56 = .ok (.aload_n 0, 1) := by decide +kernel
theorem dX0_startAt_57 : decode cX0_startAt 57 = .ok (.aload_n 1, 1) := by decide +kernel
theorem dX0_startAt_58 : decode cX0_startAt 58 = .ok (.aload_n 2, 1) := by decide +kernel
theorem dX0_startAt_59 : decode cX0_startAt 59 = .ok (.iload 4, 2) := by decide +kernel
theorem dX0_startAt_61 : decode cX0_startAt 61 = .ok (.iload 5, 2) := by decide +kernel
theorem dX0_startAt_63 : decode cX0_startAt 63 = .ok (.invokevirtual 34, 3) := by decide +kernel
theorem dX0_startAt_66 : decode cX0_startAt 66 = .ok (.istore 7, 2) := by decide +kernel
theorem dX0_startAt_68 : decode cX0_startAt 68 = .ok (.iload 7, 2) := by decide +kernel
theorem dX0_startAt_70 : decode cX0_startAt 70 = .ok (.ifCond .ne 6, 3) := by decide +kernel
theorem dX0_startAt_73 : decode cX0_startAt 73 = .ok (.goto 30, 3) := by decide +kernel
theorem dX0_startAt_76 : decode cX0_startAt 76 = .ok (.aload_n 0, 1) := by decide +kernel
theorem dX0_startAt_77 : decode cX0_startAt 77 = .ok (.iload 7, 2) := by decide +kernel
theorem dX0_startAt_79 : decode cX0_startAt 79 = .ok (.iload 6, 2) := by decide +kernel
theorem dX0_startAt_81 : decode cX0_startAt 81 = .ok (.invokevirtual 38, 3) := by decide +kernel
theorem dX0_startAt_84 : decode cX0_startAt 84 = .ok (.iload 5, 2) := by decide +kernel
theorem dX0_startAt_86 : decode cX0_startAt 86 = .ok (.iload 7, 2) := by decide +kernel
theorem dX0_startAt_88 : decode cX0_startAt 88 = .ok (.ior, 1) := by decide +kernel
theorem dX0_startAt_89 : decode cX0_startAt 89 = .ok (.istore 5, 2) := by decide +kernel
theorem dX0_startAt_91 : decode cX0_startAt 91 = .ok (.aload_n 0, 1) := by decide +kernel
theorem dX0_startAt_92 : decode cX0_startAt 92 = .ok (.iload 6, 2) := by decide +kernel
theorem dX0_startAt_94 : decode cX0_startAt 94 = .ok (.putfield 21, 3) := by decide +kernel
theorem dX0_startAt_97 : decode cX0_startAt 97 = .ok (.iinc 6 1, 3) := by decide +kernel
theorem dX0_startAt_100 : decode cX0_startAt 100 = .ok (.goto (-51), 3) := by decide +kernel
theorem dX0_startAt_103 : decode cX0_startAt 103 = .ok (.iload 5, 2) := by decide +kernel
theorem dX0_startAt_105 : decode cX0_startAt 105 = .ok (.invokestatic 42, 3) := by decide +kernel
theorem dX0_startAt_108 : decode cX0_startAt 108 = .ok (.ireturn, 1) := by decide +kernel
theorem b_X0_startAt (mm : MM) (Q : Value → MM → Prop) (a1 : Nat) (a2 : Nat) (a3 : Int32) (a4 : Int32) (h1 : AtTown a1) (h2 : AtState a2) (h : G e_X0_startAt 3 [(0, .ref 91), (1, .ref a1), (2, .ref a2), (3, .int a3), (4, .int a4), (5, .int (0 : Int32))] [] mm Q) : Runs e_X0_startAt [.ref 91, .ref a1, .ref a2, .int a3, .int a4] mm Q := by
  refine runs_of_G (L := [(0, .ref 91), (1, .ref a1), (2, .ref a2), (3, .int a3), (4, .int a4)]) pl_X0 (Nat.le_of_ble_eq_true rfl) rfl ?_
  refine g_iconst (pc := 0) (v := (0 : Int32)) dX0_startAt_0 (by decide) ?_
  refine g_istore (pc := 1) (L' := [(0, .ref 91), (1, .ref a1), (2, .ref a2), (3, .int a3), (4, .int a4), (5, .int (0 : Int32))]) dX0_startAt_1 (Nat.le_of_ble_eq_true rfl) rfl ?_
  exact h
theorem dX8_bitOf_0 : decode cX8_bitOf 0 = .ok (.iload_n 0, 1) := by decide +kernel
theorem dX8_bitOf_1 : decode cX8_bitOf 1 = .ok (.ifCond .lt 15, 3) := by decide +kernel
theorem dX8_bitOf_4 : decode cX8_bitOf 4 = .ok (.iload_n 0, 1) := by decide +kernel
theorem dX8_bitOf_5 : decode cX8_bitOf 5 = .ok (.bipush 16, 2) := by decide +kernel
theorem dX8_bitOf_7 : decode cX8_bitOf 7 = .ok (.if_icmp .ge 9, 3) := by decide +kernel
theorem dX8_bitOf_10 : decode cX8_bitOf 10 = .ok (.iconst 1, 1) := by decide +kernel
theorem dX8_bitOf_11 : decode cX8_bitOf 11 = .ok (.iload_n 0, 1) := by decide +kernel
theorem dX8_bitOf_12 : decode cX8_bitOf 12 = .ok (.ishl, 1) := by decide +kernel
theorem dX8_bitOf_13 : decode cX8_bitOf 13 = .ok (.goto 4, 3) := by decide +kernel
theorem dX8_bitOf_16 : decode cX8_bitOf 16 = .ok (.iconst 0, 1) := by decide +kernel
theorem dX8_bitOf_17 : decode cX8_bitOf 17 = .ok (.ireturn, 1) := by decide +kernel
noncomputable def v_X8_bitOf (mm : MM) (a0 : Int32) : Int32 := (cite (a0 < 0) (0 : Int32) (cite ((16 : Int32) ≤ a0) (0 : Int32) ((1 : Int32) <<< (a0 &&& 31))))
theorem rv_X8_bitOf (mm : MM) (a0 : Int32) : Runs e_X8_bitOf [.int a0] mm (fun r m_ => r = .int (v_X8_bitOf mm a0) ∧ mm = m_) := by
  refine runs_of_G (L := [(0, .int a0)]) pl_X8 (Nat.le_of_ble_eq_true rfl) rfl ?_
  refine g_iload_n (pc := 0) (x := a0) dX8_bitOf_0 rfl ?_
  refine g_if_lt (pc := 1) (tgt := 16) dX8_bitOf_1 (by decide) (fun c1 => ?_) (fun c1 => ?_)
  · have c1_0 : a0 < 0 := c1
    refine g_iconst (pc := 16) (v := (0 : Int32)) dX8_bitOf_16 (by decide) ?_
    exact g_iret (pc := 17) dX8_bitOf_17 rfl rfl rfl ⟨(by unfold v_X8_bitOf; rw [cite_pos c1_0] <;> rfl), rfl⟩
  · have c1_0 : ¬ a0 < 0 := c1
    refine g_iload_n (pc := 4) (x := a0) dX8_bitOf_4 rfl ?_
    refine g_bipush (pc := 5) (v := (16 : Int32)) dX8_bitOf_5 (by decide) ?_
    refine g_icmp_ge (pc := 7) (tgt := 16) dX8_bitOf_7 (by decide) (fun c7 => ?_) (fun c7 => ?_)
    · have c7_1 : (16 : Int32) ≤ a0 := c7
      refine g_iconst (pc := 16) (v := (0 : Int32)) dX8_bitOf_16 (by decide) ?_
      exact g_iret (pc := 17) dX8_bitOf_17 rfl rfl rfl ⟨(by unfold v_X8_bitOf; rw [cite_neg c1_0, cite_pos c7_1] <;> rfl), rfl⟩
    · have c7_1 : ¬ (16 : Int32) ≤ a0 := c7
      refine g_iconst (pc := 10) (v := (1 : Int32)) dX8_bitOf_10 (by decide) ?_
      refine g_iload_n (pc := 11) (x := a0) dX8_bitOf_11 rfl ?_
      refine g_ishl (pc := 12) dX8_bitOf_12 ?_
      refine g_goto (pc := 13) (tgt := 17) dX8_bitOf_13 (by decide) ?_
      exact g_iret (pc := 17) dX8_bitOf_17 rfl rfl rfl ⟨(by unfold v_X8_bitOf; rw [cite_neg c1_0, cite_neg c7_1] <;> rfl), rfl⟩
theorem b_X0_startAt_3 (mm : MM) (Q : Value → MM → Prop) (l1 : Nat) (l2 : Nat) (l3 : Int32) (l4 : Int32) (l5 : Int32) (k1 : AtTown l1) (k2 : AtState l2) (h : ((16 : Int32) ≤ l5 → (G e_X0_startAt 49 [(0, .ref 91), (1, .ref l1), (2, .ref l2), (4, .int l4), (5, .int (v_X8_bitOf mm l3)), (6, .int (1 : Int32))] [] (wI mm 91 3 (0 : Int32)) Q)) ∧ (¬ (16 : Int32) ≤ l5 → ((¬ l5 = l3 → (vp_in l5 16 ∧ (G e_X0_startAt 3 [(0, .ref 91), (1, .ref l1), (2, .ref l2), (3, .int l3), (4, .int l4), (5, .int (l5 + (1 : Int32)))] [] (wI mm 92 (l5.toNatClampNeg) (-2 : Int32)) Q))) ∧ (l5 = l3 → (vp_in l5 16 ∧ (G e_X0_startAt 3 [(0, .ref 91), (1, .ref l1), (2, .ref l2), (3, .int l3), (4, .int l4), (5, .int (l5 + (1 : Int32)))] [] (wI mm 92 (l5.toNatClampNeg) (0 : Int32)) Q)))))) : G e_X0_startAt 3 [(0, .ref 91), (1, .ref l1), (2, .ref l2), (3, .int l3), (4, .int l4), (5, .int l5)] [] mm Q := by
  refine g_iload (pc := 3) (x := l5) dX0_startAt_3 rfl ?_
  refine g_bipush (pc := 5) (v := (16 : Int32)) dX0_startAt_5 (by decide) ?_
  refine g_icmp_ge (pc := 7) (tgt := 35) dX0_startAt_7 (by decide) (fun c7 => ?_) (fun c7 => ?_)
  · have h := h.1 c7
    refine g_iload_n (pc := 35) (x := l3) dX0_startAt_35 rfl ?_
    refine g_callSN (pc := 36) (as := [.int l3]) dX0_startAt_36 cw_X0_31 (by decide) rfl rfl (Nat.le_of_ble_eq_true rfl) (rv_X8_bitOf mm l3) ?_
    rintro r_ m_ hz_ ⟨rfl, rfl⟩
    refine g_istore (pc := 39) (L' := [(0, .ref 91), (1, .ref l1), (2, .ref l2), (3, .int l3), (4, .int l4), (5, .int (v_X8_bitOf mm l3))]) dX0_startAt_39 (Nat.le_of_ble_eq_true rfl) rfl ?_
    refine g_aload_n (pc := 41) (x := 91) dX0_startAt_41 rfl ?_
    refine g_iconst (pc := 42) (v := (0 : Int32)) dX0_startAt_42 (by decide) ?_
    refine g_putI (pc := 43) dX0_startAt_43 fo_X0_21 sh_91 rfl rfl rfl ?_
    refine g_iconst (pc := 46) (v := (1 : Int32)) dX0_startAt_46 (by decide) ?_
    refine g_istore (pc := 47) (L' := [(0, .ref 91), (1, .ref l1), (2, .ref l2), (3, .int l3), (4, .int l4), (5, .int (v_X8_bitOf mm l3)), (6, .int (1 : Int32))]) dX0_startAt_47 (Nat.le_of_ble_eq_true rfl) rfl ?_
    refine g_sub (L' := [(0, .ref 91), (1, .ref l1), (2, .ref l2), (4, .int l4), (5, .int (v_X8_bitOf mm l3)), (6, .int (1 : Int32))]) [0, 1, 2, 4, 5, 6] rfl ?_
    exact h
  · have h := h.2 c7
    refine g_aload_n (pc := 10) (x := 91) dX0_startAt_10 rfl ?_
    refine g_getR (pc := 11) (dd := 1) dX0_startAt_11 fo_X0_9 sh_91 rfl ?_
    refine g_iload (pc := 14) (x := l5) dX0_startAt_14 rfl ?_
    refine g_iload (pc := 16) (x := l5) dX0_startAt_16 rfl ?_
    refine g_iload_n (pc := 18) (x := l3) dX0_startAt_18 rfl ?_
    refine g_icmp_ne (pc := 19) (tgt := 26) dX0_startAt_19 (by decide) (fun c19 => ?_) (fun c19 => ?_)
    · have h := h.1 c19
      refine g_bipush (pc := 26) (v := (-2 : Int32)) dX0_startAt_26 (by decide) ?_
      refine g_iastore (pc := 28) dX0_startAt_28 sh_92 h.1 ?_
      have h := h.2
      refine g_iinc (pc := 29) (x := l5) (v := (l5 + (1 : Int32))) (L' := [(0, .ref 91), (1, .ref l1), (2, .ref l2), (3, .int l3), (4, .int l4), (5, .int (l5 + (1 : Int32)))]) dX0_startAt_29 rfl rfl (Nat.le_of_ble_eq_true rfl) rfl ?_
      refine g_goto (pc := 32) (tgt := 3) dX0_startAt_32 (by decide) ?_
      exact h
    · have h := h.2 c19
      refine g_iconst (pc := 22) (v := (0 : Int32)) dX0_startAt_22 (by decide) ?_
      refine g_goto (pc := 23) (tgt := 28) dX0_startAt_23 (by decide) ?_
      refine g_iastore (pc := 28) dX0_startAt_28 sh_92 h.1 ?_
      have h := h.2
      refine g_iinc (pc := 29) (x := l5) (v := (l5 + (1 : Int32))) (L' := [(0, .ref 91), (1, .ref l1), (2, .ref l2), (3, .int l3), (4, .int l4), (5, .int (l5 + (1 : Int32)))]) dX0_startAt_29 rfl rfl (Nat.le_of_ble_eq_true rfl) rfl ?_
      refine g_goto (pc := 32) (tgt := 3) dX0_startAt_32 (by decide) ?_
      exact h
theorem dJ6_bitCount_0f7a4_0 : decode cJ6_bitCount_0f7a4 0 = .ok (.iload_n 0, 1) := by decide +kernel
theorem dJ6_bitCount_0f7a4_1 : decode cJ6_bitCount_0f7a4 1 = .ok (.iload_n 0, 1) := by decide +kernel
theorem dJ6_bitCount_0f7a4_2 : decode cJ6_bitCount_0f7a4 2 = .ok (.iconst 1, 1) := by decide +kernel
theorem dJ6_bitCount_0f7a4_3 : decode cJ6_bitCount_0f7a4 3 = .ok (.iushr, 1) := by decide +kernel
theorem dJ6_bitCount_0f7a4_4 : decode cJ6_bitCount_0f7a4 4 = .ok (.ldc_w 265, 3) := by decide +kernel
theorem dJ6_bitCount_0f7a4_7 : decode cJ6_bitCount_0f7a4 7 = .ok (.iand, 1) := by decide +kernel
theorem dJ6_bitCount_0f7a4_8 : decode cJ6_bitCount_0f7a4 8 = .ok (.isub, 1) := by decide +kernel
theorem dJ6_bitCount_0f7a4_9 : decode cJ6_bitCount_0f7a4 9 = .ok (.istore_n 0, 1) := by decide +kernel
theorem dJ6_bitCount_0f7a4_10 : decode cJ6_bitCount_0f7a4 10 = .ok (.iload_n 0, 1) := by decide +kernel
theorem dJ6_bitCount_0f7a4_11 : decode cJ6_bitCount_0f7a4 11 = .ok (.ldc_w 266, 3) := by decide +kernel
theorem dJ6_bitCount_0f7a4_14 : decode cJ6_bitCount_0f7a4 14 = .ok (.iand, 1) := by decide +kernel
theorem dJ6_bitCount_0f7a4_15 : decode cJ6_bitCount_0f7a4 15 = .ok (.iload_n 0, 1) := by decide +kernel
theorem dJ6_bitCount_0f7a4_16 : decode cJ6_bitCount_0f7a4 16 = .ok (.iconst 2, 1) := by decide +kernel
theorem dJ6_bitCount_0f7a4_17 : decode cJ6_bitCount_0f7a4 17 = .ok (.iushr, 1) := by decide +kernel
theorem dJ6_bitCount_0f7a4_18 : decode cJ6_bitCount_0f7a4 18 = .ok (.ldc_w 266, 3) := by decide +kernel
theorem dJ6_bitCount_0f7a4_21 : decode cJ6_bitCount_0f7a4 21 = .ok (.iand, 1) := by decide +kernel
theorem dJ6_bitCount_0f7a4_22 : decode cJ6_bitCount_0f7a4 22 = .ok (.iadd, 1) := by decide +kernel
theorem dJ6_bitCount_0f7a4_23 : decode cJ6_bitCount_0f7a4 23 = .ok (.istore_n 0, 1) := by decide +kernel
theorem dJ6_bitCount_0f7a4_24 : decode cJ6_bitCount_0f7a4 24 = .ok (.iload_n 0, 1) := by decide +kernel
theorem dJ6_bitCount_0f7a4_25 : decode cJ6_bitCount_0f7a4 25 = .ok (.iload_n 0, 1) := by decide +kernel
theorem dJ6_bitCount_0f7a4_26 : decode cJ6_bitCount_0f7a4 26 = .ok (.iconst 4, 1) := by decide +kernel
theorem dJ6_bitCount_0f7a4_27 : decode cJ6_bitCount_0f7a4 27 = .ok (.iushr, 1) := by decide +kernel
theorem dJ6_bitCount_0f7a4_28 : decode cJ6_bitCount_0f7a4 28 = .ok (.iadd, 1) := by decide +kernel
theorem dJ6_bitCount_0f7a4_29 : decode cJ6_bitCount_0f7a4 29 = .ok (.ldc_w 267, 3) := by decide +kernel
theorem dJ6_bitCount_0f7a4_32 : decode cJ6_bitCount_0f7a4 32 = .ok (.iand, 1) := by decide +kernel
theorem dJ6_bitCount_0f7a4_33 : decode cJ6_bitCount_0f7a4 33 = .ok (.istore_n 0, 1) := by decide +kernel
theorem dJ6_bitCount_0f7a4_34 : decode cJ6_bitCount_0f7a4 34 = .ok (.iload_n 0, 1) := by decide +kernel
theorem dJ6_bitCount_0f7a4_35 : decode cJ6_bitCount_0f7a4 35 = .ok (.iload_n 0, 1) := by decide +kernel
theorem dJ6_bitCount_0f7a4_36 : decode cJ6_bitCount_0f7a4 36 = .ok (.bipush 8, 2) := by decide +kernel
theorem dJ6_bitCount_0f7a4_38 : decode cJ6_bitCount_0f7a4 38 = .ok (.iushr, 1) := by decide +kernel
theorem dJ6_bitCount_0f7a4_39 : decode cJ6_bitCount_0f7a4 39 = .ok (.iadd, 1) := by decide +kernel
theorem dJ6_bitCount_0f7a4_40 : decode cJ6_bitCount_0f7a4 40 = .ok (.istore_n 0, 1) := by decide +kernel
theorem dJ6_bitCount_0f7a4_41 : decode cJ6_bitCount_0f7a4 41 = .ok (.iload_n 0, 1) := by decide +kernel
theorem dJ6_bitCount_0f7a4_42 : decode cJ6_bitCount_0f7a4 42 = .ok (.iload_n 0, 1) := by decide +kernel
theorem dJ6_bitCount_0f7a4_43 : decode cJ6_bitCount_0f7a4 43 = .ok (.bipush 16, 2) := by decide +kernel
theorem dJ6_bitCount_0f7a4_45 : decode cJ6_bitCount_0f7a4 45 = .ok (.iushr, 1) := by decide +kernel
theorem dJ6_bitCount_0f7a4_46 : decode cJ6_bitCount_0f7a4 46 = .ok (.iadd, 1) := by decide +kernel
theorem dJ6_bitCount_0f7a4_47 : decode cJ6_bitCount_0f7a4 47 = .ok (.istore_n 0, 1) := by decide +kernel
theorem dJ6_bitCount_0f7a4_48 : decode cJ6_bitCount_0f7a4 48 = .ok (.iload_n 0, 1) := by decide +kernel
theorem dJ6_bitCount_0f7a4_49 : decode cJ6_bitCount_0f7a4 49 = .ok (.bipush 63, 2) := by decide +kernel
theorem dJ6_bitCount_0f7a4_51 : decode cJ6_bitCount_0f7a4 51 = .ok (.iand, 1) := by decide +kernel
theorem dJ6_bitCount_0f7a4_52 : decode cJ6_bitCount_0f7a4 52 = .ok (.ireturn, 1) := by decide +kernel
noncomputable def v_J6_bitCount_0f7a4 (mm : MM) (a0 : Int32) : Int32 := ((((((((a0 - ((ushr a0 (1 : Int32)) &&& (1431655765 : Int32))) &&& (858993459 : Int32)) + ((ushr (a0 - ((ushr a0 (1 : Int32)) &&& (1431655765 : Int32))) (2 : Int32)) &&& (858993459 : Int32))) + (ushr (((a0 - ((ushr a0 (1 : Int32)) &&& (1431655765 : Int32))) &&& (858993459 : Int32)) + ((ushr (a0 - ((ushr a0 (1 : Int32)) &&& (1431655765 : Int32))) (2 : Int32)) &&& (858993459 : Int32))) (4 : Int32))) &&& (252645135 : Int32)) + (ushr (((((a0 - ((ushr a0 (1 : Int32)) &&& (1431655765 : Int32))) &&& (858993459 : Int32)) + ((ushr (a0 - ((ushr a0 (1 : Int32)) &&& (1431655765 : Int32))) (2 : Int32)) &&& (858993459 : Int32))) + (ushr (((a0 - ((ushr a0 (1 : Int32)) &&& (1431655765 : Int32))) &&& (858993459 : Int32)) + ((ushr (a0 - ((ushr a0 (1 : Int32)) &&& (1431655765 : Int32))) (2 : Int32)) &&& (858993459 : Int32))) (4 : Int32))) &&& (252645135 : Int32)) (8 : Int32))) + (ushr ((((((a0 - ((ushr a0 (1 : Int32)) &&& (1431655765 : Int32))) &&& (858993459 : Int32)) + ((ushr (a0 - ((ushr a0 (1 : Int32)) &&& (1431655765 : Int32))) (2 : Int32)) &&& (858993459 : Int32))) + (ushr (((a0 - ((ushr a0 (1 : Int32)) &&& (1431655765 : Int32))) &&& (858993459 : Int32)) + ((ushr (a0 - ((ushr a0 (1 : Int32)) &&& (1431655765 : Int32))) (2 : Int32)) &&& (858993459 : Int32))) (4 : Int32))) &&& (252645135 : Int32)) + (ushr (((((a0 - ((ushr a0 (1 : Int32)) &&& (1431655765 : Int32))) &&& (858993459 : Int32)) + ((ushr (a0 - ((ushr a0 (1 : Int32)) &&& (1431655765 : Int32))) (2 : Int32)) &&& (858993459 : Int32))) + (ushr (((a0 - ((ushr a0 (1 : Int32)) &&& (1431655765 : Int32))) &&& (858993459 : Int32)) + ((ushr (a0 - ((ushr a0 (1 : Int32)) &&& (1431655765 : Int32))) (2 : Int32)) &&& (858993459 : Int32))) (4 : Int32))) &&& (252645135 : Int32)) (8 : Int32))) (16 : Int32))) &&& (63 : Int32))
theorem rv_J6_bitCount_0f7a4 (mm : MM) (a0 : Int32) : Runs e_J6_bitCount_0f7a4 [.int a0] mm (fun r m_ => r = .int (v_J6_bitCount_0f7a4 mm a0) ∧ mm = m_) := by
  refine runs_of_G (L := [(0, .int a0)]) pl_J6 (Nat.le_of_ble_eq_true rfl) rfl ?_
  refine g_iload_n (pc := 0) (x := a0) dJ6_bitCount_0f7a4_0 rfl ?_
  refine g_iload_n (pc := 1) (x := a0) dJ6_bitCount_0f7a4_1 rfl ?_
  refine g_iconst (pc := 2) (v := (1 : Int32)) dJ6_bitCount_0f7a4_2 (by decide) ?_
  refine g_iushr (pc := 3) dJ6_bitCount_0f7a4_3 ?_
  refine g_ldcw (pc := 4) (v := (1431655765 : Int32)) dJ6_bitCount_0f7a4_4 ct_J6_265 ?_
  refine g_iand (pc := 7) dJ6_bitCount_0f7a4_7 ?_
  refine g_isub (pc := 8) dJ6_bitCount_0f7a4_8 ?_
  refine g_istore_n (pc := 9) (L' := [(0, .int (a0 - ((ushr a0 (1 : Int32)) &&& (1431655765 : Int32))))]) dJ6_bitCount_0f7a4_9 (Nat.le_of_ble_eq_true rfl) rfl ?_
  refine g_iload_n (pc := 10) (x := (a0 - ((ushr a0 (1 : Int32)) &&& (1431655765 : Int32)))) dJ6_bitCount_0f7a4_10 rfl ?_
  refine g_ldcw (pc := 11) (v := (858993459 : Int32)) dJ6_bitCount_0f7a4_11 ct_J6_266 ?_
  refine g_iand (pc := 14) dJ6_bitCount_0f7a4_14 ?_
  refine g_iload_n (pc := 15) (x := (a0 - ((ushr a0 (1 : Int32)) &&& (1431655765 : Int32)))) dJ6_bitCount_0f7a4_15 rfl ?_
  refine g_iconst (pc := 16) (v := (2 : Int32)) dJ6_bitCount_0f7a4_16 (by decide) ?_
  refine g_iushr (pc := 17) dJ6_bitCount_0f7a4_17 ?_
  refine g_ldcw (pc := 18) (v := (858993459 : Int32)) dJ6_bitCount_0f7a4_18 ct_J6_266 ?_
  refine g_iand (pc := 21) dJ6_bitCount_0f7a4_21 ?_
  refine g_iadd (pc := 22) dJ6_bitCount_0f7a4_22 ?_
  refine g_istore_n (pc := 23) (L' := [(0, .int (((a0 - ((ushr a0 (1 : Int32)) &&& (1431655765 : Int32))) &&& (858993459 : Int32)) + ((ushr (a0 - ((ushr a0 (1 : Int32)) &&& (1431655765 : Int32))) (2 : Int32)) &&& (858993459 : Int32))))]) dJ6_bitCount_0f7a4_23 (Nat.le_of_ble_eq_true rfl) rfl ?_
  refine g_iload_n (pc := 24) (x := (((a0 - ((ushr a0 (1 : Int32)) &&& (1431655765 : Int32))) &&& (858993459 : Int32)) + ((ushr (a0 - ((ushr a0 (1 : Int32)) &&& (1431655765 : Int32))) (2 : Int32)) &&& (858993459 : Int32)))) dJ6_bitCount_0f7a4_24 rfl ?_
  refine g_iload_n (pc := 25) (x := (((a0 - ((ushr a0 (1 : Int32)) &&& (1431655765 : Int32))) &&& (858993459 : Int32)) + ((ushr (a0 - ((ushr a0 (1 : Int32)) &&& (1431655765 : Int32))) (2 : Int32)) &&& (858993459 : Int32)))) dJ6_bitCount_0f7a4_25 rfl ?_
  refine g_iconst (pc := 26) (v := (4 : Int32)) dJ6_bitCount_0f7a4_26 (by decide) ?_
  refine g_iushr (pc := 27) dJ6_bitCount_0f7a4_27 ?_
  refine g_iadd (pc := 28) dJ6_bitCount_0f7a4_28 ?_
  refine g_ldcw (pc := 29) (v := (252645135 : Int32)) dJ6_bitCount_0f7a4_29 ct_J6_267 ?_
  refine g_iand (pc := 32) dJ6_bitCount_0f7a4_32 ?_
  refine g_istore_n (pc := 33) (L' := [(0, .int (((((a0 - ((ushr a0 (1 : Int32)) &&& (1431655765 : Int32))) &&& (858993459 : Int32)) + ((ushr (a0 - ((ushr a0 (1 : Int32)) &&& (1431655765 : Int32))) (2 : Int32)) &&& (858993459 : Int32))) + (ushr (((a0 - ((ushr a0 (1 : Int32)) &&& (1431655765 : Int32))) &&& (858993459 : Int32)) + ((ushr (a0 - ((ushr a0 (1 : Int32)) &&& (1431655765 : Int32))) (2 : Int32)) &&& (858993459 : Int32))) (4 : Int32))) &&& (252645135 : Int32)))]) dJ6_bitCount_0f7a4_33 (Nat.le_of_ble_eq_true rfl) rfl ?_
  refine g_iload_n (pc := 34) (x := (((((a0 - ((ushr a0 (1 : Int32)) &&& (1431655765 : Int32))) &&& (858993459 : Int32)) + ((ushr (a0 - ((ushr a0 (1 : Int32)) &&& (1431655765 : Int32))) (2 : Int32)) &&& (858993459 : Int32))) + (ushr (((a0 - ((ushr a0 (1 : Int32)) &&& (1431655765 : Int32))) &&& (858993459 : Int32)) + ((ushr (a0 - ((ushr a0 (1 : Int32)) &&& (1431655765 : Int32))) (2 : Int32)) &&& (858993459 : Int32))) (4 : Int32))) &&& (252645135 : Int32))) dJ6_bitCount_0f7a4_34 rfl ?_
  refine g_iload_n (pc := 35) (x := (((((a0 - ((ushr a0 (1 : Int32)) &&& (1431655765 : Int32))) &&& (858993459 : Int32)) + ((ushr (a0 - ((ushr a0 (1 : Int32)) &&& (1431655765 : Int32))) (2 : Int32)) &&& (858993459 : Int32))) + (ushr (((a0 - ((ushr a0 (1 : Int32)) &&& (1431655765 : Int32))) &&& (858993459 : Int32)) + ((ushr (a0 - ((ushr a0 (1 : Int32)) &&& (1431655765 : Int32))) (2 : Int32)) &&& (858993459 : Int32))) (4 : Int32))) &&& (252645135 : Int32))) dJ6_bitCount_0f7a4_35 rfl ?_
  refine g_bipush (pc := 36) (v := (8 : Int32)) dJ6_bitCount_0f7a4_36 (by decide) ?_
  refine g_iushr (pc := 38) dJ6_bitCount_0f7a4_38 ?_
  refine g_iadd (pc := 39) dJ6_bitCount_0f7a4_39 ?_
  refine g_istore_n (pc := 40) (L' := [(0, .int ((((((a0 - ((ushr a0 (1 : Int32)) &&& (1431655765 : Int32))) &&& (858993459 : Int32)) + ((ushr (a0 - ((ushr a0 (1 : Int32)) &&& (1431655765 : Int32))) (2 : Int32)) &&& (858993459 : Int32))) + (ushr (((a0 - ((ushr a0 (1 : Int32)) &&& (1431655765 : Int32))) &&& (858993459 : Int32)) + ((ushr (a0 - ((ushr a0 (1 : Int32)) &&& (1431655765 : Int32))) (2 : Int32)) &&& (858993459 : Int32))) (4 : Int32))) &&& (252645135 : Int32)) + (ushr (((((a0 - ((ushr a0 (1 : Int32)) &&& (1431655765 : Int32))) &&& (858993459 : Int32)) + ((ushr (a0 - ((ushr a0 (1 : Int32)) &&& (1431655765 : Int32))) (2 : Int32)) &&& (858993459 : Int32))) + (ushr (((a0 - ((ushr a0 (1 : Int32)) &&& (1431655765 : Int32))) &&& (858993459 : Int32)) + ((ushr (a0 - ((ushr a0 (1 : Int32)) &&& (1431655765 : Int32))) (2 : Int32)) &&& (858993459 : Int32))) (4 : Int32))) &&& (252645135 : Int32)) (8 : Int32))))]) dJ6_bitCount_0f7a4_40 (Nat.le_of_ble_eq_true rfl) rfl ?_
  refine g_iload_n (pc := 41) (x := ((((((a0 - ((ushr a0 (1 : Int32)) &&& (1431655765 : Int32))) &&& (858993459 : Int32)) + ((ushr (a0 - ((ushr a0 (1 : Int32)) &&& (1431655765 : Int32))) (2 : Int32)) &&& (858993459 : Int32))) + (ushr (((a0 - ((ushr a0 (1 : Int32)) &&& (1431655765 : Int32))) &&& (858993459 : Int32)) + ((ushr (a0 - ((ushr a0 (1 : Int32)) &&& (1431655765 : Int32))) (2 : Int32)) &&& (858993459 : Int32))) (4 : Int32))) &&& (252645135 : Int32)) + (ushr (((((a0 - ((ushr a0 (1 : Int32)) &&& (1431655765 : Int32))) &&& (858993459 : Int32)) + ((ushr (a0 - ((ushr a0 (1 : Int32)) &&& (1431655765 : Int32))) (2 : Int32)) &&& (858993459 : Int32))) + (ushr (((a0 - ((ushr a0 (1 : Int32)) &&& (1431655765 : Int32))) &&& (858993459 : Int32)) + ((ushr (a0 - ((ushr a0 (1 : Int32)) &&& (1431655765 : Int32))) (2 : Int32)) &&& (858993459 : Int32))) (4 : Int32))) &&& (252645135 : Int32)) (8 : Int32)))) dJ6_bitCount_0f7a4_41 rfl ?_
  refine g_iload_n (pc := 42) (x := ((((((a0 - ((ushr a0 (1 : Int32)) &&& (1431655765 : Int32))) &&& (858993459 : Int32)) + ((ushr (a0 - ((ushr a0 (1 : Int32)) &&& (1431655765 : Int32))) (2 : Int32)) &&& (858993459 : Int32))) + (ushr (((a0 - ((ushr a0 (1 : Int32)) &&& (1431655765 : Int32))) &&& (858993459 : Int32)) + ((ushr (a0 - ((ushr a0 (1 : Int32)) &&& (1431655765 : Int32))) (2 : Int32)) &&& (858993459 : Int32))) (4 : Int32))) &&& (252645135 : Int32)) + (ushr (((((a0 - ((ushr a0 (1 : Int32)) &&& (1431655765 : Int32))) &&& (858993459 : Int32)) + ((ushr (a0 - ((ushr a0 (1 : Int32)) &&& (1431655765 : Int32))) (2 : Int32)) &&& (858993459 : Int32))) + (ushr (((a0 - ((ushr a0 (1 : Int32)) &&& (1431655765 : Int32))) &&& (858993459 : Int32)) + ((ushr (a0 - ((ushr a0 (1 : Int32)) &&& (1431655765 : Int32))) (2 : Int32)) &&& (858993459 : Int32))) (4 : Int32))) &&& (252645135 : Int32)) (8 : Int32)))) dJ6_bitCount_0f7a4_42 rfl ?_
  refine g_bipush (pc := 43) (v := (16 : Int32)) dJ6_bitCount_0f7a4_43 (by decide) ?_
  refine g_iushr (pc := 45) dJ6_bitCount_0f7a4_45 ?_
  refine g_iadd (pc := 46) dJ6_bitCount_0f7a4_46 ?_
  refine g_istore_n (pc := 47) (L' := [(0, .int (((((((a0 - ((ushr a0 (1 : Int32)) &&& (1431655765 : Int32))) &&& (858993459 : Int32)) + ((ushr (a0 - ((ushr a0 (1 : Int32)) &&& (1431655765 : Int32))) (2 : Int32)) &&& (858993459 : Int32))) + (ushr (((a0 - ((ushr a0 (1 : Int32)) &&& (1431655765 : Int32))) &&& (858993459 : Int32)) + ((ushr (a0 - ((ushr a0 (1 : Int32)) &&& (1431655765 : Int32))) (2 : Int32)) &&& (858993459 : Int32))) (4 : Int32))) &&& (252645135 : Int32)) + (ushr (((((a0 - ((ushr a0 (1 : Int32)) &&& (1431655765 : Int32))) &&& (858993459 : Int32)) + ((ushr (a0 - ((ushr a0 (1 : Int32)) &&& (1431655765 : Int32))) (2 : Int32)) &&& (858993459 : Int32))) + (ushr (((a0 - ((ushr a0 (1 : Int32)) &&& (1431655765 : Int32))) &&& (858993459 : Int32)) + ((ushr (a0 - ((ushr a0 (1 : Int32)) &&& (1431655765 : Int32))) (2 : Int32)) &&& (858993459 : Int32))) (4 : Int32))) &&& (252645135 : Int32)) (8 : Int32))) + (ushr ((((((a0 - ((ushr a0 (1 : Int32)) &&& (1431655765 : Int32))) &&& (858993459 : Int32)) + ((ushr (a0 - ((ushr a0 (1 : Int32)) &&& (1431655765 : Int32))) (2 : Int32)) &&& (858993459 : Int32))) + (ushr (((a0 - ((ushr a0 (1 : Int32)) &&& (1431655765 : Int32))) &&& (858993459 : Int32)) + ((ushr (a0 - ((ushr a0 (1 : Int32)) &&& (1431655765 : Int32))) (2 : Int32)) &&& (858993459 : Int32))) (4 : Int32))) &&& (252645135 : Int32)) + (ushr (((((a0 - ((ushr a0 (1 : Int32)) &&& (1431655765 : Int32))) &&& (858993459 : Int32)) + ((ushr (a0 - ((ushr a0 (1 : Int32)) &&& (1431655765 : Int32))) (2 : Int32)) &&& (858993459 : Int32))) + (ushr (((a0 - ((ushr a0 (1 : Int32)) &&& (1431655765 : Int32))) &&& (858993459 : Int32)) + ((ushr (a0 - ((ushr a0 (1 : Int32)) &&& (1431655765 : Int32))) (2 : Int32)) &&& (858993459 : Int32))) (4 : Int32))) &&& (252645135 : Int32)) (8 : Int32))) (16 : Int32))))]) dJ6_bitCount_0f7a4_47 (Nat.le_of_ble_eq_true rfl) rfl ?_
  refine g_iload_n (pc := 48) (x := (((((((a0 - ((ushr a0 (1 : Int32)) &&& (1431655765 : Int32))) &&& (858993459 : Int32)) + ((ushr (a0 - ((ushr a0 (1 : Int32)) &&& (1431655765 : Int32))) (2 : Int32)) &&& (858993459 : Int32))) + (ushr (((a0 - ((ushr a0 (1 : Int32)) &&& (1431655765 : Int32))) &&& (858993459 : Int32)) + ((ushr (a0 - ((ushr a0 (1 : Int32)) &&& (1431655765 : Int32))) (2 : Int32)) &&& (858993459 : Int32))) (4 : Int32))) &&& (252645135 : Int32)) + (ushr (((((a0 - ((ushr a0 (1 : Int32)) &&& (1431655765 : Int32))) &&& (858993459 : Int32)) + ((ushr (a0 - ((ushr a0 (1 : Int32)) &&& (1431655765 : Int32))) (2 : Int32)) &&& (858993459 : Int32))) + (ushr (((a0 - ((ushr a0 (1 : Int32)) &&& (1431655765 : Int32))) &&& (858993459 : Int32)) + ((ushr (a0 - ((ushr a0 (1 : Int32)) &&& (1431655765 : Int32))) (2 : Int32)) &&& (858993459 : Int32))) (4 : Int32))) &&& (252645135 : Int32)) (8 : Int32))) + (ushr ((((((a0 - ((ushr a0 (1 : Int32)) &&& (1431655765 : Int32))) &&& (858993459 : Int32)) + ((ushr (a0 - ((ushr a0 (1 : Int32)) &&& (1431655765 : Int32))) (2 : Int32)) &&& (858993459 : Int32))) + (ushr (((a0 - ((ushr a0 (1 : Int32)) &&& (1431655765 : Int32))) &&& (858993459 : Int32)) + ((ushr (a0 - ((ushr a0 (1 : Int32)) &&& (1431655765 : Int32))) (2 : Int32)) &&& (858993459 : Int32))) (4 : Int32))) &&& (252645135 : Int32)) + (ushr (((((a0 - ((ushr a0 (1 : Int32)) &&& (1431655765 : Int32))) &&& (858993459 : Int32)) + ((ushr (a0 - ((ushr a0 (1 : Int32)) &&& (1431655765 : Int32))) (2 : Int32)) &&& (858993459 : Int32))) + (ushr (((a0 - ((ushr a0 (1 : Int32)) &&& (1431655765 : Int32))) &&& (858993459 : Int32)) + ((ushr (a0 - ((ushr a0 (1 : Int32)) &&& (1431655765 : Int32))) (2 : Int32)) &&& (858993459 : Int32))) (4 : Int32))) &&& (252645135 : Int32)) (8 : Int32))) (16 : Int32)))) dJ6_bitCount_0f7a4_48 rfl ?_
  refine g_bipush (pc := 49) (v := (63 : Int32)) dJ6_bitCount_0f7a4_49 (by decide) ?_
  refine g_iand (pc := 51) dJ6_bitCount_0f7a4_51 ?_
  exact g_iret (pc := 52) dJ6_bitCount_0f7a4_52 rfl rfl rfl ⟨rfl, rfl⟩
theorem b_X0_startAt_49 (mm : MM) (Q : Value → MM → Prop) (l1 : Nat) (l2 : Nat) (l4 : Int32) (l5 : Int32) (l6 : Int32) (k1 : AtTown l1) (k2 : AtState l2) (h : ((16 : Int32) < l6 → (Q (.int (v_J6_bitCount_0f7a4 mm l5)) mm)) ∧ (¬ (16 : Int32) < l6 → (∃ Pm1 : Value → MM → Prop, Runs e_X0_fallingBits [.ref 91, .ref l1, .ref l2, .int l4, .int l5] mm Pm1 ∧ ∀ (r1 : Int32) (m1 : MM), Pm1 (.int r1) m1 → ((¬ r1 = 0 → (∃ Pm2 : Value → MM → Prop, Runs e_X0_enter [.ref 91, .int r1, .int l6] m1 Pm2 ∧ ∀ m2, Pm2 .null m2 → (G e_X0_startAt 49 [(0, .ref 91), (1, .ref l1), (2, .ref l2), (4, .int l4), (5, .int (l5 ||| r1)), (6, .int (l6 + (1 : Int32)))] [] (wI m2 91 3 l6) Q))) ∧ (r1 = 0 → (Q (.int (v_J6_bitCount_0f7a4 m1 l5)) m1)))))) : G e_X0_startAt 49 [(0, .ref 91), (1, .ref l1), (2, .ref l2), (4, .int l4), (5, .int l5), (6, .int l6)] [] mm Q := by
  refine g_iload (pc := 49) (x := l6) dX0_startAt_49 rfl ?_
  refine g_bipush (pc := 51) (v := (16 : Int32)) dX0_startAt_51 (by decide) ?_
  refine g_icmp_gt (pc := 53) (tgt := 103) dX0_startAt_53 (by decide) (fun c53 => ?_) (fun c53 => ?_)
  · have h := h.1 c53
    refine g_iload (pc := 103) (x := l5) dX0_startAt_103 rfl ?_
    refine g_callS (pc := 105) (as := [.int l5]) dX0_startAt_105 cw_X0_42 (by decide) rfl rfl (Nat.le_of_ble_eq_true rfl) (rv_J6_bitCount_0f7a4 mm l5) ?_
    rintro r_ m_ hz_ ⟨rfl, rfl⟩
    exact g_iret (pc := 108) dX0_startAt_108 rfl rfl rfl h
  · have h := h.2 c53
    refine g_aload_n (pc := 56) (x := 91) dX0_startAt_56 rfl ?_
    refine g_aload_n (pc := 57) (x := l1) dX0_startAt_57 rfl ?_
    refine g_aload_n (pc := 58) (x := l2) dX0_startAt_58 rfl ?_
    refine g_iload (pc := 59) (x := l4) dX0_startAt_59 rfl ?_
    refine g_iload (pc := 61) (x := l5) dX0_startAt_61 rfl ?_
    obtain ⟨Pm1, hRm1, h⟩ := h
    refine g_callV (pc := 63) (as := [.ref l1, .ref l2, .int l4, .int l5]) dX0_startAt_63 cw_X0_34 (by decide) rfl rfl sh_91 (Nat.le_of_ble_eq_true rfl) hRm1 ?_
    intro r_ m1 hz_ hp_
    obtain ⟨r1, rfl⟩ := hz_
    have h := h r1 m1 hp_
    refine g_istore (pc := 66) (L' := [(0, .ref 91), (1, .ref l1), (2, .ref l2), (4, .int l4), (5, .int l5), (6, .int l6), (7, .int r1)]) dX0_startAt_66 (Nat.le_of_ble_eq_true rfl) rfl ?_
    refine g_iload (pc := 68) (x := r1) dX0_startAt_68 rfl ?_
    refine g_if_ne (pc := 70) (tgt := 76) dX0_startAt_70 (by decide) (fun c70 => ?_) (fun c70 => ?_)
    · have h := h.1 c70
      refine g_aload_n (pc := 76) (x := 91) dX0_startAt_76 rfl ?_
      refine g_iload (pc := 77) (x := r1) dX0_startAt_77 rfl ?_
      refine g_iload (pc := 79) (x := l6) dX0_startAt_79 rfl ?_
      obtain ⟨Pm2, hRm2, h⟩ := h
      refine g_callV (pc := 81) (as := [.int r1, .int l6]) dX0_startAt_81 cw_X0_38 (by decide) rfl rfl sh_91 (Nat.le_of_ble_eq_true rfl) hRm2 ?_
      intro r_ m2 hz_ hp_
      obtain rfl := hz_
      have h := h m2 hp_
      refine g_iload (pc := 84) (x := l5) dX0_startAt_84 rfl ?_
      refine g_iload (pc := 86) (x := r1) dX0_startAt_86 rfl ?_
      refine g_ior (pc := 88) dX0_startAt_88 ?_
      refine g_istore (pc := 89) (L' := [(0, .ref 91), (1, .ref l1), (2, .ref l2), (4, .int l4), (5, .int (l5 ||| r1)), (6, .int l6), (7, .int r1)]) dX0_startAt_89 (Nat.le_of_ble_eq_true rfl) rfl ?_
      refine g_aload_n (pc := 91) (x := 91) dX0_startAt_91 rfl ?_
      refine g_iload (pc := 92) (x := l6) dX0_startAt_92 rfl ?_
      refine g_putI (pc := 94) dX0_startAt_94 fo_X0_21 sh_91 rfl rfl rfl ?_
      refine g_iinc (pc := 97) (x := l6) (v := (l6 + (1 : Int32))) (L' := [(0, .ref 91), (1, .ref l1), (2, .ref l2), (4, .int l4), (5, .int (l5 ||| r1)), (6, .int (l6 + (1 : Int32))), (7, .int r1)]) dX0_startAt_97 rfl rfl (Nat.le_of_ble_eq_true rfl) rfl ?_
      refine g_goto (pc := 100) (tgt := 49) dX0_startAt_100 (by decide) ?_
      refine g_sub (L' := [(0, .ref 91), (1, .ref l1), (2, .ref l2), (4, .int l4), (5, .int (l5 ||| r1)), (6, .int (l6 + (1 : Int32)))]) [0, 1, 2, 3, 4, 5] rfl ?_
      exact h
    · have h := h.2 c70
      refine g_goto (pc := 73) (tgt := 103) dX0_startAt_73 (by decide) ?_
      refine g_iload (pc := 103) (x := l5) dX0_startAt_103 rfl ?_
      refine g_callS (pc := 105) (as := [.int l5]) dX0_startAt_105 cw_X0_42 (by decide) rfl rfl (Nat.le_of_ble_eq_true rfl) (rv_J6_bitCount_0f7a4 m1 l5) ?_
      rintro r_ m_ hz_ ⟨rfl, rfl⟩
      exact g_iret (pc := 108) dX0_startAt_108 rfl rfl rfl h
theorem dX0_fallingBits_0 : decode cX0_fallingBits 0 = .ok (.iconst 0, 1) := by decide +kernel
theorem dX0_fallingBits_1 : decode cX0_fallingBits 1 = .ok (.istore 5, 2) := by decide +kernel
theorem dX0_fallingBits_3 : decode cX0_fallingBits 3 = .ok (.iconst 0, 1) := by decide +kernel
theorem dX0_fallingBits_4 : decode cX0_fallingBits 4 = .ok (.istore 6, 2) := by decide +kernel
theorem dX0_fallingBits_6 : decode cX0_fallingBits 6 = .ok (.iload 6, 2) := by decide +kernel
theorem dX0_fallingBits_8 : decode cX0_fallingBits 8 = .ok (.aload_n 1, 1) := by decide +kernel
theorem dX0_fallingBits_9 : decode cX0_fallingBits 9 = .ok (.getfield 47, 3) := by decide +kernel
theorem dX0_fallingBits_12 : decode cX0_fallingBits 12 = .ok (.if_icmp .ge 105, 3) := by decide +kernel
theorem dX0_fallingBits_15 : decode cX0_fallingBits 15 = .ok (.aload_n 0, 1) := by decide +kernel
theorem dX0_fallingBits_16 : decode cX0_fallingBits 16 = .ok (.getfield 15, 3) := by decide +kernel
theorem dX0_fallingBits_19 : decode cX0_fallingBits 19 = .ok (.iload 6, 2) := by decide +kernel
theorem dX0_fallingBits_21 : decode cX0_fallingBits 21 = .ok (.iaload, 1) := by decide +kernel
theorem dX0_fallingBits_22 : decode cX0_fallingBits 22 = .ok (.iload 4, 2) := by decide +kernel
theorem dX0_fallingBits_24 : decode cX0_fallingBits 24 = .ok (.iand, 1) := by decide +kernel
theorem dX0_fallingBits_25 : decode cX0_fallingBits 25 = .ok (.invokestatic 42, 3) := by decide +kernel
theorem dX0_fallingBits_28 : decode cX0_fallingBits 28 = .ok (.istore 7, 2) := by decide +kernel
theorem dX0_fallingBits_30 : decode cX0_fallingBits 30 = .ok (.iload 6, 2) := by decide +kernel
theorem dX0_fallingBits_32 : decode cX0_fallingBits 32 = .ok (.bipush 16, 2) := by decide +kernel
theorem dX0_fallingBits_34 : decode cX0_fallingBits 34 = .ok (.imul, 1) := by decide +kernel
theorem dX0_fallingBits_35 : decode cX0_fallingBits 35 = .ok (.iload 7, 2) := by decide +kernel
theorem dX0_fallingBits_37 : decode cX0_fallingBits 37 = .ok (.iadd, 1) := by decide +kernel
theorem dX0_fallingBits_38 : decode cX0_fallingBits 38 = .ok (.istore 8, 2) := by decide +kernel
theorem dX0_fallingBits_40 : decode cX0_fallingBits 40 = .ok (.iload 4, 2) := by decide +kernel
theorem dX0_fallingBits_42 : decode cX0_fallingBits 42 = .ok (.iload 6, 2) := by decide +kernel
theorem dX0_fallingBits_44 : decode cX0_fallingBits 44 = .ok (.ishr, 1) := by decide +kernel
theorem dX0_fallingBits_45 : decode cX0_fallingBits 45 = .ok (.iconst 1, 1) := by decide +kernel
theorem dX0_fallingBits_46 : decode cX0_fallingBits 46 = .ok (.iand, 1) := by decide +kernel
theorem dX0_fallingBits_47 : decode cX0_fallingBits 47 = .ok (.ifCond .ne 64, 3) := by decide +kernel
theorem dX0_fallingBits_50 : decode cX0_fallingBits 50 = .ok (.iload 8, 2) := by decide +kernel
theorem dX0_fallingBits_52 : decode cX0_fallingBits 52 = .ok (.aload_n 0, 1) := by decide +kernel
theorem dX0_fallingBits_53 : decode cX0_fallingBits 53 = .ok (.getfield 18, 3) := by decide +kernel
theorem dX0_fallingBits_56 : decode cX0_fallingBits 56 = .ok (.arraylength, 1) := by decide +kernel
theorem dX0_fallingBits_57 : decode cX0_fallingBits 57 = .ok (.if_icmp .ge 54, 3) := by decide +kernel
theorem dX0_fallingBits_60 : decode cX0_fallingBits 60 = .ok (.aload_n 0, 1) := by decide +kernel
theorem dX0_fallingBits_61 : decode cX0_fallingBits 61 = .ok (.getfield 18, 3) := by decide +kernel
theorem dX0_fallingBits_64 : decode cX0_fallingBits 64 = .ok (.iload 8, 2) := by decide +kernel
theorem dX0_fallingBits_66 : decode cX0_fallingBits 66 = .ok (.iaload, 1) := by decide +kernel
theorem dX0_fallingBits_67 : decode cX0_fallingBits 67 = .ok (.iconst (-1), 1) := by decide +kernel
theorem dX0_fallingBits_68 : decode cX0_fallingBits 68 = .ok (.if_icmp .ne 28, 3) := by decide +kernel
theorem dX0_fallingBits_71 : decode cX0_fallingBits 71 = .ok (.aload_n 0, 1) := by decide +kernel
theorem dX0_fallingBits_72 : decode cX0_fallingBits 72 = .ok (.getfield 18, 3) := by decide +kernel
theorem dX0_fallingBits_75 : decode cX0_fallingBits 75 = .ok (.iload 8, 2) := by decide +kernel
theorem dX0_fallingBits_77 : decode cX0_fallingBits 77 = .ok (.aload_n 1, 1) := by decide +kernel
theorem dX0_fallingBits_78 : decode cX0_fallingBits 78 = .ok (.aload_n 2, 1) := by decide +kernel
theorem dX0_fallingBits_79 : decode cX0_fallingBits 79 = .ok (.iload 6, 2) := by decide +kernel
theorem dX0_fallingBits_81 : decode cX0_fallingBits 81 = .ok (.iload_n 3, 1) := by decide +kernel
theorem dX0_fallingBits_82 : decode cX0_fallingBits 82 = .ok (.iload 7, 2) := by decide +kernel
theorem dX0_fallingBits_84 : decode cX0_fallingBits 84 = .ok (.invokevirtual 50, 3) := by decide +kernel
theorem dX0_fallingBits_87 : decode cX0_fallingBits 87 = .ok (.ifCond .eq 7, 3) := by decide +kernel
theorem dX0_fallingBits_90 : decode cX0_fallingBits 90 = .ok (.iconst 1, 1) := by decide +kernel
theorem dX0_fallingBits_91 : decode cX0_fallingBits 91 = .ok (.goto 4, 3) := by decide +kernel
theorem dX0_fallingBits_94 : decode cX0_fallingBits 94 = .ok (.iconst 0, 1) := by decide +kernel
theorem dX0_fallingBits_95 : decode cX0_fallingBits 95 = .ok (.iastore, 1) := by decide +kernel
theorem dX0_fallingBits_96 : decode cX0_fallingBits 96 = .ok (.iload 5, 2) := by decide +kernel
theorem dX0_fallingBits_98 : decode cX0_fallingBits 98 = .ok (.aload_n 0, 1) := by decide +kernel
theorem dX0_fallingBits_99 : decode cX0_fallingBits 99 = .ok (.getfield 18, 3) := by decide +kernel
theorem dX0_fallingBits_102 : decode cX0_fallingBits 102 = .ok (.iload 8, 2) := by decide +kernel
theorem dX0_fallingBits_104 : decode cX0_fallingBits 104 = .ok (.iaload, 1) := by decide +kernel
theorem dX0_fallingBits_105 : decode cX0_fallingBits 105 = .ok (.iload 6, 2) := by decide +kernel
theorem dX0_fallingBits_107 : decode cX0_fallingBits 107 = .ok (.ishl, 1) := by decide +kernel
theorem dX0_fallingBits_108 : decode cX0_fallingBits 108 = .ok (.ior, 1) := by decide +kernel
theorem dX0_fallingBits_109 : decode cX0_fallingBits 109 = .ok (.istore 5, 2) := by decide +kernel
theorem dX0_fallingBits_111 : decode cX0_fallingBits 111 = .ok (.iinc 6 1, 3) := by decide +kernel
theorem dX0_fallingBits_114 : decode cX0_fallingBits 114 = .ok (.goto (-108), 3) := by decide +kernel
theorem dX0_fallingBits_117 : decode cX0_fallingBits 117 = .ok (.iload 5, 2) := by decide +kernel
theorem dX0_fallingBits_119 : decode cX0_fallingBits 119 = .ok (.ireturn, 1) := by decide +kernel
theorem b_X0_fallingBits (mm : MM) (Q : Value → MM → Prop) (a1 : Nat) (a2 : Nat) (a3 : Int32) (a4 : Int32) (h1 : AtTown a1) (h2 : AtState a2) (h : G e_X0_fallingBits 6 [(0, .ref 91), (1, .ref a1), (2, .ref a2), (3, .int a3), (4, .int a4), (5, .int (0 : Int32)), (6, .int (0 : Int32))] [] mm Q) : Runs e_X0_fallingBits [.ref 91, .ref a1, .ref a2, .int a3, .int a4] mm Q := by
  refine runs_of_G (L := [(0, .ref 91), (1, .ref a1), (2, .ref a2), (3, .int a3), (4, .int a4)]) pl_X0 (Nat.le_of_ble_eq_true rfl) rfl ?_
  refine g_iconst (pc := 0) (v := (0 : Int32)) dX0_fallingBits_0 (by decide) ?_
  refine g_istore (pc := 1) (L' := [(0, .ref 91), (1, .ref a1), (2, .ref a2), (3, .int a3), (4, .int a4), (5, .int (0 : Int32))]) dX0_fallingBits_1 (Nat.le_of_ble_eq_true rfl) rfl ?_
  refine g_iconst (pc := 3) (v := (0 : Int32)) dX0_fallingBits_3 (by decide) ?_
  refine g_istore (pc := 4) (L' := [(0, .ref 91), (1, .ref a1), (2, .ref a2), (3, .int a3), (4, .int a4), (5, .int (0 : Int32)), (6, .int (0 : Int32))]) dX0_fallingBits_4 (Nat.le_of_ble_eq_true rfl) rfl ?_
  exact h
theorem b_X0_fallingBits_6 (mm : MM) (Q : Value → MM → Prop) (l1 : Nat) (l2 : Nat) (l3 : Int32) (l4 : Int32) (l5 : Int32) (l6 : Int32) (k1 : AtTown l1) (k2 : AtState l2) (h : ((mm.1 l1 8) ≤ l6 → (Q (.int l5) mm)) ∧ (¬ (mm.1 l1 8) ≤ l6 → (vp_in l6 16 ∧ ((¬ ((l4 >>> (l6 &&& 31)) &&& (1 : Int32)) = 0 → (G e_X0_fallingBits 6 [(0, .ref 91), (1, .ref l1), (2, .ref l2), (3, .int l3), (4, .int l4), (5, .int l5), (6, .int (l6 + (1 : Int32)))] [] mm Q)) ∧ (((l4 >>> (l6 &&& 31)) &&& (1 : Int32)) = 0 → (((256 : Int32) ≤ ((l6 * (16 : Int32)) + (v_J6_bitCount_0f7a4 mm ((mm.1 93 l6.toNatClampNeg) &&& l4))) → (G e_X0_fallingBits 6 [(0, .ref 91), (1, .ref l1), (2, .ref l2), (3, .int l3), (4, .int l4), (5, .int l5), (6, .int (l6 + (1 : Int32)))] [] mm Q)) ∧ (¬ (256 : Int32) ≤ ((l6 * (16 : Int32)) + (v_J6_bitCount_0f7a4 mm ((mm.1 93 l6.toNatClampNeg) &&& l4))) → (vp_in ((l6 * (16 : Int32)) + (v_J6_bitCount_0f7a4 mm ((mm.1 93 l6.toNatClampNeg) &&& l4))) 256 ∧ ((¬ (mm.1 94 ((l6 * (16 : Int32)) + (v_J6_bitCount_0f7a4 mm ((mm.1 93 l6.toNatClampNeg) &&& l4))).toNatClampNeg) = (-1 : Int32) → (vp_in ((l6 * (16 : Int32)) + (v_J6_bitCount_0f7a4 mm ((mm.1 93 l6.toNatClampNeg) &&& l4))) 256 ∧ (G e_X0_fallingBits 6 [(0, .ref 91), (1, .ref l1), (2, .ref l2), (3, .int l3), (4, .int l4), (5, .int (l5 ||| ((mm.1 94 ((l6 * (16 : Int32)) + (v_J6_bitCount_0f7a4 mm ((mm.1 93 l6.toNatClampNeg) &&& l4))).toNatClampNeg) <<< (l6 &&& 31)))), (6, .int (l6 + (1 : Int32)))] [] mm Q))) ∧ ((mm.1 94 ((l6 * (16 : Int32)) + (v_J6_bitCount_0f7a4 mm ((mm.1 93 l6.toNatClampNeg) &&& l4))).toNatClampNeg) = (-1 : Int32) → (∃ Pm1 : Value → MM → Prop, Runs e_X8_hasToFall [.ref l1, .ref l2, .int l6, .int l3, .int (v_J6_bitCount_0f7a4 mm ((mm.1 93 l6.toNatClampNeg) &&& l4))] mm Pm1 ∧ (∀ r m1, Pm1 r m1 → r = .int 1 ∨ r = .int 0) ∧ (∀ m1, Pm1 (.int 1) m1 → (vp_in ((l6 * (16 : Int32)) + (v_J6_bitCount_0f7a4 mm ((mm.1 93 l6.toNatClampNeg) &&& l4))) 256 ∧ (vp_in ((l6 * (16 : Int32)) + (v_J6_bitCount_0f7a4 mm ((mm.1 93 l6.toNatClampNeg) &&& l4))) 256 ∧ (G e_X0_fallingBits 6 [(0, .ref 91), (1, .ref l1), (2, .ref l2), (3, .int l3), (4, .int l4), (5, .int (l5 ||| (((wI m1 94 (((l6 * (16 : Int32)) + (v_J6_bitCount_0f7a4 mm ((mm.1 93 l6.toNatClampNeg) &&& l4))).toNatClampNeg) (1 : Int32)).1 94 ((l6 * (16 : Int32)) + (v_J6_bitCount_0f7a4 mm ((mm.1 93 l6.toNatClampNeg) &&& l4))).toNatClampNeg) <<< (l6 &&& 31)))), (6, .int (l6 + (1 : Int32)))] [] (wI m1 94 (((l6 * (16 : Int32)) + (v_J6_bitCount_0f7a4 mm ((mm.1 93 l6.toNatClampNeg) &&& l4))).toNatClampNeg) (1 : Int32)) Q)))) ∧ (∀ m1, Pm1 (.int 0) m1 → (vp_in ((l6 * (16 : Int32)) + (v_J6_bitCount_0f7a4 mm ((mm.1 93 l6.toNatClampNeg) &&& l4))) 256 ∧ (vp_in ((l6 * (16 : Int32)) + (v_J6_bitCount_0f7a4 mm ((mm.1 93 l6.toNatClampNeg) &&& l4))) 256 ∧ (G e_X0_fallingBits 6 [(0, .ref 91), (1, .ref l1), (2, .ref l2), (3, .int l3), (4, .int l4), (5, .int (l5 ||| (((wI m1 94 (((l6 * (16 : Int32)) + (v_J6_bitCount_0f7a4 mm ((mm.1 93 l6.toNatClampNeg) &&& l4))).toNatClampNeg) (0 : Int32)).1 94 ((l6 * (16 : Int32)) + (v_J6_bitCount_0f7a4 mm ((mm.1 93 l6.toNatClampNeg) &&& l4))).toNatClampNeg) <<< (l6 &&& 31)))), (6, .int (l6 + (1 : Int32)))] [] (wI m1 94 (((l6 * (16 : Int32)) + (v_J6_bitCount_0f7a4 mm ((mm.1 93 l6.toNatClampNeg) &&& l4))).toNatClampNeg) (0 : Int32)) Q))))))))))))))) : G e_X0_fallingBits 6 [(0, .ref 91), (1, .ref l1), (2, .ref l2), (3, .int l3), (4, .int l4), (5, .int l5), (6, .int l6)] [] mm Q := by
  refine g_iload (pc := 6) (x := l6) dX0_fallingBits_6 rfl ?_
  refine g_aload_n (pc := 8) (x := l1) dX0_fallingBits_8 rfl ?_
  refine g_getI (pc := 9) dX0_fallingBits_9 fo_X0_47 (AtTown_0 k1) rfl ?_
  refine g_icmp_ge (pc := 12) (tgt := 117) dX0_fallingBits_12 (by decide) (fun c12 => ?_) (fun c12 => ?_)
  · have h := h.1 c12
    refine g_iload (pc := 117) (x := l5) dX0_fallingBits_117 rfl ?_
    exact g_iret (pc := 119) dX0_fallingBits_119 rfl rfl rfl h
  · have h := h.2 c12
    refine g_aload_n (pc := 15) (x := 91) dX0_fallingBits_15 rfl ?_
    refine g_getR (pc := 16) (dd := 2) dX0_fallingBits_16 fo_X0_15 sh_91 rfl ?_
    refine g_iload (pc := 19) (x := l6) dX0_fallingBits_19 rfl ?_
    refine g_iaload (pc := 21) dX0_fallingBits_21 sh_93 h.1 ?_
    have h := h.2
    refine g_iload (pc := 22) (x := l4) dX0_fallingBits_22 rfl ?_
    refine g_iand (pc := 24) dX0_fallingBits_24 ?_
    refine g_callS (pc := 25) (as := [.int ((mm.1 93 l6.toNatClampNeg) &&& l4)]) dX0_fallingBits_25 cw_X0_42 (by decide) rfl rfl (Nat.le_of_ble_eq_true rfl) (rv_J6_bitCount_0f7a4 mm ((mm.1 93 l6.toNatClampNeg) &&& l4)) ?_
    rintro r_ m_ hz_ ⟨rfl, rfl⟩
    refine g_istore (pc := 28) (L' := [(0, .ref 91), (1, .ref l1), (2, .ref l2), (3, .int l3), (4, .int l4), (5, .int l5), (6, .int l6), (7, .int (v_J6_bitCount_0f7a4 mm ((mm.1 93 l6.toNatClampNeg) &&& l4)))]) dX0_fallingBits_28 (Nat.le_of_ble_eq_true rfl) rfl ?_
    refine g_iload (pc := 30) (x := l6) dX0_fallingBits_30 rfl ?_
    refine g_bipush (pc := 32) (v := (16 : Int32)) dX0_fallingBits_32 (by decide) ?_
    refine g_imul (pc := 34) dX0_fallingBits_34 ?_
    refine g_iload (pc := 35) (x := (v_J6_bitCount_0f7a4 mm ((mm.1 93 l6.toNatClampNeg) &&& l4))) dX0_fallingBits_35 rfl ?_
    refine g_iadd (pc := 37) dX0_fallingBits_37 ?_
    refine g_istore (pc := 38) (L' := [(0, .ref 91), (1, .ref l1), (2, .ref l2), (3, .int l3), (4, .int l4), (5, .int l5), (6, .int l6), (7, .int (v_J6_bitCount_0f7a4 mm ((mm.1 93 l6.toNatClampNeg) &&& l4))), (8, .int ((l6 * (16 : Int32)) + (v_J6_bitCount_0f7a4 mm ((mm.1 93 l6.toNatClampNeg) &&& l4))))]) dX0_fallingBits_38 (Nat.le_of_ble_eq_true rfl) rfl ?_
    refine g_iload (pc := 40) (x := l4) dX0_fallingBits_40 rfl ?_
    refine g_iload (pc := 42) (x := l6) dX0_fallingBits_42 rfl ?_
    refine g_ishr (pc := 44) dX0_fallingBits_44 ?_
    refine g_iconst (pc := 45) (v := (1 : Int32)) dX0_fallingBits_45 (by decide) ?_
    refine g_iand (pc := 46) dX0_fallingBits_46 ?_
    refine g_if_ne (pc := 47) (tgt := 111) dX0_fallingBits_47 (by decide) (fun c47 => ?_) (fun c47 => ?_)
    · have h := h.1 c47
      refine g_iinc (pc := 111) (x := l6) (v := (l6 + (1 : Int32))) (L' := [(0, .ref 91), (1, .ref l1), (2, .ref l2), (3, .int l3), (4, .int l4), (5, .int l5), (6, .int (l6 + (1 : Int32))), (7, .int (v_J6_bitCount_0f7a4 mm ((mm.1 93 l6.toNatClampNeg) &&& l4))), (8, .int ((l6 * (16 : Int32)) + (v_J6_bitCount_0f7a4 mm ((mm.1 93 l6.toNatClampNeg) &&& l4))))]) dX0_fallingBits_111 rfl rfl (Nat.le_of_ble_eq_true rfl) rfl ?_
      refine g_goto (pc := 114) (tgt := 6) dX0_fallingBits_114 (by decide) ?_
      refine g_sub (L' := [(0, .ref 91), (1, .ref l1), (2, .ref l2), (3, .int l3), (4, .int l4), (5, .int l5), (6, .int (l6 + (1 : Int32)))]) [0, 1, 2, 3, 4, 5, 6] rfl ?_
      exact h
    · have h := h.2 c47
      refine g_iload (pc := 50) (x := ((l6 * (16 : Int32)) + (v_J6_bitCount_0f7a4 mm ((mm.1 93 l6.toNatClampNeg) &&& l4)))) dX0_fallingBits_50 rfl ?_
      refine g_aload_n (pc := 52) (x := 91) dX0_fallingBits_52 rfl ?_
      refine g_getR (pc := 53) (dd := 3) dX0_fallingBits_53 fo_X0_18 sh_91 rfl ?_
      refine g_alen (pc := 56) (t := 0) (v := (256 : Int32)) (by decide) dX0_fallingBits_56 sh_94 (by decide) ?_
      refine g_icmp_ge (pc := 57) (tgt := 111) dX0_fallingBits_57 (by decide) (fun c57 => ?_) (fun c57 => ?_)
      · have h := h.1 c57
        refine g_iinc (pc := 111) (x := l6) (v := (l6 + (1 : Int32))) (L' := [(0, .ref 91), (1, .ref l1), (2, .ref l2), (3, .int l3), (4, .int l4), (5, .int l5), (6, .int (l6 + (1 : Int32))), (7, .int (v_J6_bitCount_0f7a4 mm ((mm.1 93 l6.toNatClampNeg) &&& l4))), (8, .int ((l6 * (16 : Int32)) + (v_J6_bitCount_0f7a4 mm ((mm.1 93 l6.toNatClampNeg) &&& l4))))]) dX0_fallingBits_111 rfl rfl (Nat.le_of_ble_eq_true rfl) rfl ?_
        refine g_goto (pc := 114) (tgt := 6) dX0_fallingBits_114 (by decide) ?_
        refine g_sub (L' := [(0, .ref 91), (1, .ref l1), (2, .ref l2), (3, .int l3), (4, .int l4), (5, .int l5), (6, .int (l6 + (1 : Int32)))]) [0, 1, 2, 3, 4, 5, 6] rfl ?_
        exact h
      · have h := h.2 c57
        refine g_aload_n (pc := 60) (x := 91) dX0_fallingBits_60 rfl ?_
        refine g_getR (pc := 61) (dd := 3) dX0_fallingBits_61 fo_X0_18 sh_91 rfl ?_
        refine g_iload (pc := 64) (x := ((l6 * (16 : Int32)) + (v_J6_bitCount_0f7a4 mm ((mm.1 93 l6.toNatClampNeg) &&& l4)))) dX0_fallingBits_64 rfl ?_
        refine g_iaload (pc := 66) dX0_fallingBits_66 sh_94 h.1 ?_
        have h := h.2
        refine g_iconst (pc := 67) (v := (-1 : Int32)) dX0_fallingBits_67 (by decide) ?_
        refine g_icmp_ne (pc := 68) (tgt := 96) dX0_fallingBits_68 (by decide) (fun c68 => ?_) (fun c68 => ?_)
        · have h := h.1 c68
          refine g_iload (pc := 96) (x := l5) dX0_fallingBits_96 rfl ?_
          refine g_aload_n (pc := 98) (x := 91) dX0_fallingBits_98 rfl ?_
          refine g_getR (pc := 99) (dd := 3) dX0_fallingBits_99 fo_X0_18 sh_91 rfl ?_
          refine g_iload (pc := 102) (x := ((l6 * (16 : Int32)) + (v_J6_bitCount_0f7a4 mm ((mm.1 93 l6.toNatClampNeg) &&& l4)))) dX0_fallingBits_102 rfl ?_
          refine g_iaload (pc := 104) dX0_fallingBits_104 sh_94 h.1 ?_
          have h := h.2
          refine g_iload (pc := 105) (x := l6) dX0_fallingBits_105 rfl ?_
          refine g_ishl (pc := 107) dX0_fallingBits_107 ?_
          refine g_ior (pc := 108) dX0_fallingBits_108 ?_
          refine g_istore (pc := 109) (L' := [(0, .ref 91), (1, .ref l1), (2, .ref l2), (3, .int l3), (4, .int l4), (5, .int (l5 ||| ((mm.1 94 ((l6 * (16 : Int32)) + (v_J6_bitCount_0f7a4 mm ((mm.1 93 l6.toNatClampNeg) &&& l4))).toNatClampNeg) <<< (l6 &&& 31)))), (6, .int l6), (7, .int (v_J6_bitCount_0f7a4 mm ((mm.1 93 l6.toNatClampNeg) &&& l4))), (8, .int ((l6 * (16 : Int32)) + (v_J6_bitCount_0f7a4 mm ((mm.1 93 l6.toNatClampNeg) &&& l4))))]) dX0_fallingBits_109 (Nat.le_of_ble_eq_true rfl) rfl ?_
          refine g_iinc (pc := 111) (x := l6) (v := (l6 + (1 : Int32))) (L' := [(0, .ref 91), (1, .ref l1), (2, .ref l2), (3, .int l3), (4, .int l4), (5, .int (l5 ||| ((mm.1 94 ((l6 * (16 : Int32)) + (v_J6_bitCount_0f7a4 mm ((mm.1 93 l6.toNatClampNeg) &&& l4))).toNatClampNeg) <<< (l6 &&& 31)))), (6, .int (l6 + (1 : Int32))), (7, .int (v_J6_bitCount_0f7a4 mm ((mm.1 93 l6.toNatClampNeg) &&& l4))), (8, .int ((l6 * (16 : Int32)) + (v_J6_bitCount_0f7a4 mm ((mm.1 93 l6.toNatClampNeg) &&& l4))))]) dX0_fallingBits_111 rfl rfl (Nat.le_of_ble_eq_true rfl) rfl ?_
          refine g_goto (pc := 114) (tgt := 6) dX0_fallingBits_114 (by decide) ?_
          refine g_sub (L' := [(0, .ref 91), (1, .ref l1), (2, .ref l2), (3, .int l3), (4, .int l4), (5, .int (l5 ||| ((mm.1 94 ((l6 * (16 : Int32)) + (v_J6_bitCount_0f7a4 mm ((mm.1 93 l6.toNatClampNeg) &&& l4))).toNatClampNeg) <<< (l6 &&& 31)))), (6, .int (l6 + (1 : Int32)))]) [0, 1, 2, 3, 4, 5, 6] rfl ?_
          exact h
        · have h := h.2 c68
          refine g_aload_n (pc := 71) (x := 91) dX0_fallingBits_71 rfl ?_
          refine g_getR (pc := 72) (dd := 3) dX0_fallingBits_72 fo_X0_18 sh_91 rfl ?_
          refine g_iload (pc := 75) (x := ((l6 * (16 : Int32)) + (v_J6_bitCount_0f7a4 mm ((mm.1 93 l6.toNatClampNeg) &&& l4)))) dX0_fallingBits_75 rfl ?_
          refine g_aload_n (pc := 77) (x := l1) dX0_fallingBits_77 rfl ?_
          refine g_aload_n (pc := 78) (x := l2) dX0_fallingBits_78 rfl ?_
          refine g_iload (pc := 79) (x := l6) dX0_fallingBits_79 rfl ?_
          refine g_iload_n (pc := 81) (x := l3) dX0_fallingBits_81 rfl ?_
          refine g_iload (pc := 82) (x := (v_J6_bitCount_0f7a4 mm ((mm.1 93 l6.toNatClampNeg) &&& l4))) dX0_fallingBits_82 rfl ?_
          obtain ⟨Pm1, hRm1, h⟩ := h
          refine g_callV (pc := 84) (as := [.ref l2, .int l6, .int l3, .int (v_J6_bitCount_0f7a4 mm ((mm.1 93 l6.toNatClampNeg) &&& l4))]) dX0_fallingBits_84 cw_X0_50 (by decide) rfl rfl (AtTown_0 k1) (Nat.le_of_ble_eq_true rfl) hRm1 ?_
          intro r_ m1 hz_ hp_
          rcases h.1 r_ m1 hp_ with rfl | rfl
          · have h := h.2.1 m1 hp_
            refine g_if_eq (pc := 87) (tgt := 94) dX0_fallingBits_87 (by decide) (fun c87 => absurd c87 (by decide)) (fun _ => ?_)
            refine g_iconst (pc := 90) (v := (1 : Int32)) dX0_fallingBits_90 (by decide) ?_
            refine g_goto (pc := 91) (tgt := 95) dX0_fallingBits_91 (by decide) ?_
            refine g_iastore (pc := 95) dX0_fallingBits_95 sh_94 h.1 ?_
            have h := h.2
            refine g_iload (pc := 96) (x := l5) dX0_fallingBits_96 rfl ?_
            refine g_aload_n (pc := 98) (x := 91) dX0_fallingBits_98 rfl ?_
            refine g_getR (pc := 99) (dd := 3) dX0_fallingBits_99 fo_X0_18 sh_91 rfl ?_
            refine g_iload (pc := 102) (x := ((l6 * (16 : Int32)) + (v_J6_bitCount_0f7a4 mm ((mm.1 93 l6.toNatClampNeg) &&& l4)))) dX0_fallingBits_102 rfl ?_
            refine g_iaload (pc := 104) dX0_fallingBits_104 sh_94 h.1 ?_
            have h := h.2
            refine g_iload (pc := 105) (x := l6) dX0_fallingBits_105 rfl ?_
            refine g_ishl (pc := 107) dX0_fallingBits_107 ?_
            refine g_ior (pc := 108) dX0_fallingBits_108 ?_
            refine g_istore (pc := 109) (L' := [(0, .ref 91), (1, .ref l1), (2, .ref l2), (3, .int l3), (4, .int l4), (5, .int (l5 ||| (((wI m1 94 (((l6 * (16 : Int32)) + (v_J6_bitCount_0f7a4 mm ((mm.1 93 l6.toNatClampNeg) &&& l4))).toNatClampNeg) (1 : Int32)).1 94 ((l6 * (16 : Int32)) + (v_J6_bitCount_0f7a4 mm ((mm.1 93 l6.toNatClampNeg) &&& l4))).toNatClampNeg) <<< (l6 &&& 31)))), (6, .int l6), (7, .int (v_J6_bitCount_0f7a4 mm ((mm.1 93 l6.toNatClampNeg) &&& l4))), (8, .int ((l6 * (16 : Int32)) + (v_J6_bitCount_0f7a4 mm ((mm.1 93 l6.toNatClampNeg) &&& l4))))]) dX0_fallingBits_109 (Nat.le_of_ble_eq_true rfl) rfl ?_
            refine g_iinc (pc := 111) (x := l6) (v := (l6 + (1 : Int32))) (L' := [(0, .ref 91), (1, .ref l1), (2, .ref l2), (3, .int l3), (4, .int l4), (5, .int (l5 ||| (((wI m1 94 (((l6 * (16 : Int32)) + (v_J6_bitCount_0f7a4 mm ((mm.1 93 l6.toNatClampNeg) &&& l4))).toNatClampNeg) (1 : Int32)).1 94 ((l6 * (16 : Int32)) + (v_J6_bitCount_0f7a4 mm ((mm.1 93 l6.toNatClampNeg) &&& l4))).toNatClampNeg) <<< (l6 &&& 31)))), (6, .int (l6 + (1 : Int32))), (7, .int (v_J6_bitCount_0f7a4 mm ((mm.1 93 l6.toNatClampNeg) &&& l4))), (8, .int ((l6 * (16 : Int32)) + (v_J6_bitCount_0f7a4 mm ((mm.1 93 l6.toNatClampNeg) &&& l4))))]) dX0_fallingBits_111 rfl rfl (Nat.le_of_ble_eq_true rfl) rfl ?_
            refine g_goto (pc := 114) (tgt := 6) dX0_fallingBits_114 (by decide) ?_
            refine g_sub (L' := [(0, .ref 91), (1, .ref l1), (2, .ref l2), (3, .int l3), (4, .int l4), (5, .int (l5 ||| (((wI m1 94 (((l6 * (16 : Int32)) + (v_J6_bitCount_0f7a4 mm ((mm.1 93 l6.toNatClampNeg) &&& l4))).toNatClampNeg) (1 : Int32)).1 94 ((l6 * (16 : Int32)) + (v_J6_bitCount_0f7a4 mm ((mm.1 93 l6.toNatClampNeg) &&& l4))).toNatClampNeg) <<< (l6 &&& 31)))), (6, .int (l6 + (1 : Int32)))]) [0, 1, 2, 3, 4, 5, 6] rfl ?_
            exact h
          · have h := h.2.2 m1 hp_
            refine g_if_eq (pc := 87) (tgt := 94) dX0_fallingBits_87 (by decide) (fun _ => ?_) (fun c87 => absurd c87 (by decide))
            refine g_iconst (pc := 94) (v := (0 : Int32)) dX0_fallingBits_94 (by decide) ?_
            refine g_iastore (pc := 95) dX0_fallingBits_95 sh_94 h.1 ?_
            have h := h.2
            refine g_iload (pc := 96) (x := l5) dX0_fallingBits_96 rfl ?_
            refine g_aload_n (pc := 98) (x := 91) dX0_fallingBits_98 rfl ?_
            refine g_getR (pc := 99) (dd := 3) dX0_fallingBits_99 fo_X0_18 sh_91 rfl ?_
            refine g_iload (pc := 102) (x := ((l6 * (16 : Int32)) + (v_J6_bitCount_0f7a4 mm ((mm.1 93 l6.toNatClampNeg) &&& l4)))) dX0_fallingBits_102 rfl ?_
            refine g_iaload (pc := 104) dX0_fallingBits_104 sh_94 h.1 ?_
            have h := h.2
            refine g_iload (pc := 105) (x := l6) dX0_fallingBits_105 rfl ?_
            refine g_ishl (pc := 107) dX0_fallingBits_107 ?_
            refine g_ior (pc := 108) dX0_fallingBits_108 ?_
            refine g_istore (pc := 109) (L' := [(0, .ref 91), (1, .ref l1), (2, .ref l2), (3, .int l3), (4, .int l4), (5, .int (l5 ||| (((wI m1 94 (((l6 * (16 : Int32)) + (v_J6_bitCount_0f7a4 mm ((mm.1 93 l6.toNatClampNeg) &&& l4))).toNatClampNeg) (0 : Int32)).1 94 ((l6 * (16 : Int32)) + (v_J6_bitCount_0f7a4 mm ((mm.1 93 l6.toNatClampNeg) &&& l4))).toNatClampNeg) <<< (l6 &&& 31)))), (6, .int l6), (7, .int (v_J6_bitCount_0f7a4 mm ((mm.1 93 l6.toNatClampNeg) &&& l4))), (8, .int ((l6 * (16 : Int32)) + (v_J6_bitCount_0f7a4 mm ((mm.1 93 l6.toNatClampNeg) &&& l4))))]) dX0_fallingBits_109 (Nat.le_of_ble_eq_true rfl) rfl ?_
            refine g_iinc (pc := 111) (x := l6) (v := (l6 + (1 : Int32))) (L' := [(0, .ref 91), (1, .ref l1), (2, .ref l2), (3, .int l3), (4, .int l4), (5, .int (l5 ||| (((wI m1 94 (((l6 * (16 : Int32)) + (v_J6_bitCount_0f7a4 mm ((mm.1 93 l6.toNatClampNeg) &&& l4))).toNatClampNeg) (0 : Int32)).1 94 ((l6 * (16 : Int32)) + (v_J6_bitCount_0f7a4 mm ((mm.1 93 l6.toNatClampNeg) &&& l4))).toNatClampNeg) <<< (l6 &&& 31)))), (6, .int (l6 + (1 : Int32))), (7, .int (v_J6_bitCount_0f7a4 mm ((mm.1 93 l6.toNatClampNeg) &&& l4))), (8, .int ((l6 * (16 : Int32)) + (v_J6_bitCount_0f7a4 mm ((mm.1 93 l6.toNatClampNeg) &&& l4))))]) dX0_fallingBits_111 rfl rfl (Nat.le_of_ble_eq_true rfl) rfl ?_
            refine g_goto (pc := 114) (tgt := 6) dX0_fallingBits_114 (by decide) ?_
            refine g_sub (L' := [(0, .ref 91), (1, .ref l1), (2, .ref l2), (3, .int l3), (4, .int l4), (5, .int (l5 ||| (((wI m1 94 (((l6 * (16 : Int32)) + (v_J6_bitCount_0f7a4 mm ((mm.1 93 l6.toNatClampNeg) &&& l4))).toNatClampNeg) (0 : Int32)).1 94 ((l6 * (16 : Int32)) + (v_J6_bitCount_0f7a4 mm ((mm.1 93 l6.toNatClampNeg) &&& l4))).toNatClampNeg) <<< (l6 &&& 31)))), (6, .int (l6 + (1 : Int32)))]) [0, 1, 2, 3, 4, 5, 6] rfl ?_
            exact h
theorem dX0_enter_0 : decode cX0_enter 0 = .ok (.iconst 0, 1) := by decide +kernel
theorem dX0_enter_1 : decode cX0_enter 1 = .ok (.istore_n 3, 1) := by decide +kernel
theorem dX0_enter_2 : decode cX0_enter 2 = .ok (.iload_n 3, 1) := by decide +kernel
theorem dX0_enter_3 : decode cX0_enter 3 = .ok (.bipush 16, 2) := by decide +kernel
theorem dX0_enter_5 : decode cX0_enter 5 = .ok (.if_icmp .ge 24, 3) := by decide +kernel
theorem dX0_enter_8 : decode cX0_enter 8 = .ok (.iload_n 1, 1) := by decide +kernel
theorem dX0_enter_9 : decode cX0_enter 9 = .ok (.iload_n 3, 1) := by decide +kernel
theorem dX0_enter_10 : decode cX0_enter 10 = .ok (.ishr, 1) := by decide +kernel
theorem dX0_enter_11 : decode cX0_enter 11 = .ok (.iconst 1, 1) := by decide +kernel
theorem dX0_enter_12 : decode cX0_enter 12 = .ok (.iand, 1) := by decide +kernel
theorem dX0_enter_13 : decode cX0_enter 13 = .ok (.ifCond .eq 10, 3) := by decide +kernel
theorem dX0_enter_16 : decode cX0_enter 16 = .ok (.aload_n 0, 1) := by decide +kernel
theorem dX0_enter_17 : decode cX0_enter 17 = .ok (.getfield 9, 3) := by decide +kernel
theorem dX0_enter_20 : decode cX0_enter 20 = .ok (.iload_n 3, 1) := by decide +kernel
theorem dX0_enter_21 : decode cX0_enter 21 = .ok (.iload_n 2, 1) := by decide +kernel
theorem dX0_enter_22 : decode cX0_enter 22 = .ok (.iastore, 1) := by decide +kernel
theorem dX0_enter_23 : decode cX0_enter 23 = .ok (.iinc 3 1, 3) := by decide +kernel
theorem dX0_enter_26 : decode cX0_enter 26 = .ok (.goto (-24), 3) := by decide +kernel
theorem dX0_enter_29 : decode cX0_enter 29 = .ok (.return_, 1) := by decide +kernel
theorem b_X0_enter (mm : MM) (Q : Value → MM → Prop) (a1 : Int32) (a2 : Int32) (h : G e_X0_enter 2 [(0, .ref 91), (1, .int a1), (2, .int a2), (3, .int (0 : Int32))] [] mm Q) : Runs e_X0_enter [.ref 91, .int a1, .int a2] mm Q := by
  refine runs_of_G (L := [(0, .ref 91), (1, .int a1), (2, .int a2)]) pl_X0 (Nat.le_of_ble_eq_true rfl) rfl ?_
  refine g_iconst (pc := 0) (v := (0 : Int32)) dX0_enter_0 (by decide) ?_
  refine g_istore_n (pc := 1) (L' := [(0, .ref 91), (1, .int a1), (2, .int a2), (3, .int (0 : Int32))]) dX0_enter_1 (Nat.le_of_ble_eq_true rfl) rfl ?_
  exact h
theorem b_X0_enter_2 (mm : MM) (Q : Value → MM → Prop) (l1 : Int32) (l2 : Int32) (l3 : Int32) (h : ((16 : Int32) ≤ l3 → (Q .null mm)) ∧ (¬ (16 : Int32) ≤ l3 → ((((l1 >>> (l3 &&& 31)) &&& (1 : Int32)) = 0 → (G e_X0_enter 2 [(0, .ref 91), (1, .int l1), (2, .int l2), (3, .int (l3 + (1 : Int32)))] [] mm Q)) ∧ (¬ ((l1 >>> (l3 &&& 31)) &&& (1 : Int32)) = 0 → (vp_in l3 16 ∧ (G e_X0_enter 2 [(0, .ref 91), (1, .int l1), (2, .int l2), (3, .int (l3 + (1 : Int32)))] [] (wI mm 92 (l3.toNatClampNeg) l2) Q)))))) : G e_X0_enter 2 [(0, .ref 91), (1, .int l1), (2, .int l2), (3, .int l3)] [] mm Q := by
  refine g_iload_n (pc := 2) (x := l3) dX0_enter_2 rfl ?_
  refine g_bipush (pc := 3) (v := (16 : Int32)) dX0_enter_3 (by decide) ?_
  refine g_icmp_ge (pc := 5) (tgt := 29) dX0_enter_5 (by decide) (fun c5 => ?_) (fun c5 => ?_)
  · have h := h.1 c5
    exact g_vret (pc := 29) dX0_enter_29 rfl rfl h
  · have h := h.2 c5
    refine g_iload_n (pc := 8) (x := l1) dX0_enter_8 rfl ?_
    refine g_iload_n (pc := 9) (x := l3) dX0_enter_9 rfl ?_
    refine g_ishr (pc := 10) dX0_enter_10 ?_
    refine g_iconst (pc := 11) (v := (1 : Int32)) dX0_enter_11 (by decide) ?_
    refine g_iand (pc := 12) dX0_enter_12 ?_
    refine g_if_eq (pc := 13) (tgt := 23) dX0_enter_13 (by decide) (fun c13 => ?_) (fun c13 => ?_)
    · have h := h.1 c13
      refine g_iinc (pc := 23) (x := l3) (v := (l3 + (1 : Int32))) (L' := [(0, .ref 91), (1, .int l1), (2, .int l2), (3, .int (l3 + (1 : Int32)))]) dX0_enter_23 rfl rfl (Nat.le_of_ble_eq_true rfl) rfl ?_
      refine g_goto (pc := 26) (tgt := 2) dX0_enter_26 (by decide) ?_
      exact h
    · have h := h.2 c13
      refine g_aload_n (pc := 16) (x := 91) dX0_enter_16 rfl ?_
      refine g_getR (pc := 17) (dd := 1) dX0_enter_17 fo_X0_9 sh_91 rfl ?_
      refine g_iload_n (pc := 20) (x := l3) dX0_enter_20 rfl ?_
      refine g_iload_n (pc := 21) (x := l2) dX0_enter_21 rfl ?_
      refine g_iastore (pc := 22) dX0_enter_22 sh_92 h.1 ?_
      have h := h.2
      refine g_iinc (pc := 23) (x := l3) (v := (l3 + (1 : Int32))) (L' := [(0, .ref 91), (1, .int l1), (2, .int l2), (3, .int (l3 + (1 : Int32)))]) dX0_enter_23 rfl rfl (Nat.le_of_ble_eq_true rfl) rfl ?_
      refine g_goto (pc := 26) (tgt := 2) dX0_enter_26 (by decide) ?_
      exact h
theorem dX1_empty_0 : decode cX1_empty 0 = .ok (.aload_n 0, 1) := by decide +kernel
theorem dX1_empty_1 : decode cX1_empty 1 = .ok (.iconst 0, 1) := by decide +kernel
theorem dX1_empty_2 : decode cX1_empty 2 = .ok (.putfield 27, 3) := by decide +kernel
theorem dX1_empty_5 : decode cX1_empty 5 = .ok (.aload_n 0, 1) := by decide +kernel
theorem dX1_empty_6 : decode cX1_empty 6 = .ok (.iconst (-1), 1) := by decide +kernel
theorem dX1_empty_7 : decode cX1_empty 7 = .ok (.putfield 38, 3) := by decide +kernel
theorem dX1_empty_10 : decode cX1_empty 10 = .ok (.aload_n 0, 1) := by decide +kernel
theorem dX1_empty_11 : decode cX1_empty 11 = .ok (.iconst (-1), 1) := by decide +kernel
theorem dX1_empty_12 : decode cX1_empty 12 = .ok (.putfield 41, 3) := by decide +kernel
theorem dX1_empty_15 : decode cX1_empty 15 = .ok (.aload_n 0, 1) := by decide +kernel
theorem dX1_empty_16 : decode cX1_empty 16 = .ok (.iconst (-1), 1) := by decide +kernel
theorem dX1_empty_17 : decode cX1_empty 17 = .ok (.putfield 44, 3) := by decide +kernel
theorem dX1_empty_20 : decode cX1_empty 20 = .ok (.aload_n 0, 1) := by decide +kernel
theorem dX1_empty_21 : decode cX1_empty 21 = .ok (.iconst 0, 1) := by decide +kernel
theorem dX1_empty_22 : decode cX1_empty 22 = .ok (.putfield 47, 3) := by decide +kernel
theorem dX1_empty_25 : decode cX1_empty 25 = .ok (.aload_n 0, 1) := by decide +kernel
theorem dX1_empty_26 : decode cX1_empty 26 = .ok (.iconst 0, 1) := by decide +kernel
theorem dX1_empty_27 : decode cX1_empty 27 = .ok (.putfield 50, 3) := by decide +kernel
theorem dX1_empty_30 : decode cX1_empty 30 = .ok (.return_, 1) := by decide +kernel
theorem b_X1_empty (mm : MM) (Q : Value → MM → Prop) (t0 : Nat) (h0 : AtLaws t0) (h : Q .null (wI (wI (wI (wI (wI (wI mm t0 5 (0 : Int32)) t0 8 (-1 : Int32)) t0 9 (-1 : Int32)) t0 10 (-1 : Int32)) t0 11 (0 : Int32)) t0 12 (0 : Int32))) : Runs e_X1_empty [.ref t0] mm Q := by
  refine runs_of_G (L := [(0, .ref t0)]) pl_X1 (Nat.le_of_ble_eq_true rfl) rfl ?_
  refine g_aload_n (pc := 0) (x := t0) dX1_empty_0 rfl ?_
  refine g_iconst (pc := 1) (v := (0 : Int32)) dX1_empty_1 (by decide) ?_
  refine g_putI (pc := 2) dX1_empty_2 fo_X1_27 (AtLaws_0 h0) rfl rfl rfl ?_
  refine g_aload_n (pc := 5) (x := t0) dX1_empty_5 rfl ?_
  refine g_iconst (pc := 6) (v := (-1 : Int32)) dX1_empty_6 (by decide) ?_
  refine g_putI (pc := 7) dX1_empty_7 fo_X1_38 (AtLaws_0 h0) rfl rfl rfl ?_
  refine g_aload_n (pc := 10) (x := t0) dX1_empty_10 rfl ?_
  refine g_iconst (pc := 11) (v := (-1 : Int32)) dX1_empty_11 (by decide) ?_
  refine g_putI (pc := 12) dX1_empty_12 fo_X1_41 (AtLaws_0 h0) rfl rfl rfl ?_
  refine g_aload_n (pc := 15) (x := t0) dX1_empty_15 rfl ?_
  refine g_iconst (pc := 16) (v := (-1 : Int32)) dX1_empty_16 (by decide) ?_
  refine g_putI (pc := 17) dX1_empty_17 fo_X1_44 (AtLaws_0 h0) rfl rfl rfl ?_
  refine g_aload_n (pc := 20) (x := t0) dX1_empty_20 rfl ?_
  refine g_iconst (pc := 21) (v := (0 : Int32)) dX1_empty_21 (by decide) ?_
  refine g_putI (pc := 22) dX1_empty_22 fo_X1_47 (AtLaws_0 h0) rfl rfl rfl ?_
  refine g_aload_n (pc := 25) (x := t0) dX1_empty_25 rfl ?_
  refine g_iconst (pc := 26) (v := (0 : Int32)) dX1_empty_26 (by decide) ?_
  refine g_putI (pc := 27) dX1_empty_27 fo_X1_50 (AtLaws_0 h0) rfl rfl rfl ?_
  exact g_vret (pc := 30) dX1_empty_30 rfl rfl h
theorem dX1_addNumber_0 : decode cX1_addNumber 0 = .ok (.aload_n 0, 1) := by decide +kernel
theorem dX1_addNumber_1 : decode cX1_addNumber 1 = .ok (.getfield 27, 3) := by decide +kernel
theorem dX1_addNumber_4 : decode cX1_addNumber 4 = .ok (.sipush 400, 3) := by decide +kernel
theorem dX1_addNumber_7 : decode cX1_addNumber 7 = .ok (.if_icmp .ge 23, 3) := by decide +kernel
theorem dX1_addNumber_10 : decode cX1_addNumber 10 = .ok (.aload_n 0, 1) := by decide +kernel
theorem dX1_addNumber_11 : decode cX1_addNumber 11 = .ok (.getfield 9, 3) := by decide +kernel
theorem dX1_addNumber_14 : decode cX1_addNumber 14 = .ok (.aload_n 0, 1) := by decide +kernel
theorem dX1_addNumber_15 : decode cX1_addNumber 15 = .ok (.getfield 27, 3) := by decide +kernel
theorem dX1_addNumber_18 : decode cX1_addNumber 18 = .ok (.iload_n 1, 1) := by decide +kernel
theorem dX1_addNumber_19 : decode cX1_addNumber 19 = .ok (.iastore, 1) := by decide +kernel
theorem dX1_addNumber_20 : decode cX1_addNumber 20 = .ok (.aload_n 0, 1) := by decide +kernel
theorem dX1_addNumber_21 : decode cX1_addNumber 21 = .ok (.dup, 1) := by decide +kernel
theorem dX1_addNumber_22 : decode cX1_addNumber 22 = .ok (.getfield 27, 3) := by decide +kernel
theorem dX1_addNumber_25 : decode cX1_addNumber 25 = .ok (.iconst 1, 1) := by decide +kernel
theorem dX1_addNumber_26 : decode cX1_addNumber 26 = .ok (.iadd, 1) := by decide +kernel
theorem dX1_addNumber_27 : decode cX1_addNumber 27 = .ok (.putfield 27, 3) := by decide +kernel
theorem dX1_addNumber_30 : decode cX1_addNumber 30 = .ok (.return_, 1) := by decide +kernel
theorem b_X1_addNumber (mm : MM) (Q : Value → MM → Prop) (t0 : Nat) (a1 : Int32) (h0 : AtLaws t0) (h : ((400 : Int32) ≤ (mm.1 t0 5) → (Q .null mm)) ∧ (¬ (400 : Int32) ≤ (mm.1 t0 5) → (vp_in (mm.1 t0 5) 400 ∧ (Q .null (wI (wI mm (t0 + 1) ((mm.1 t0 5).toNatClampNeg) a1) t0 5 (((wI mm (t0 + 1) ((mm.1 t0 5).toNatClampNeg) a1).1 t0 5) + (1 : Int32))))))) : Runs e_X1_addNumber [.ref t0, .int a1] mm Q := by
  refine runs_of_G (L := [(0, .ref t0), (1, .int a1)]) pl_X1 (Nat.le_of_ble_eq_true rfl) rfl ?_
  refine g_aload_n (pc := 0) (x := t0) dX1_addNumber_0 rfl ?_
  refine g_getI (pc := 1) dX1_addNumber_1 fo_X1_27 (AtLaws_0 h0) rfl ?_
  refine g_sipush (pc := 4) (v := (400 : Int32)) dX1_addNumber_4 (by decide) ?_
  refine g_icmp_ge (pc := 7) (tgt := 30) dX1_addNumber_7 (by decide) (fun c7 => ?_) (fun c7 => ?_)
  · have h := h.1 c7
    exact g_vret (pc := 30) dX1_addNumber_30 rfl rfl h
  · have h := h.2 c7
    refine g_aload_n (pc := 10) (x := t0) dX1_addNumber_10 rfl ?_
    refine g_getR (pc := 11) (dd := 1) dX1_addNumber_11 fo_X1_9 (AtLaws_0 h0) rfl ?_
    refine g_aload_n (pc := 14) (x := t0) dX1_addNumber_14 rfl ?_
    refine g_getI (pc := 15) dX1_addNumber_15 fo_X1_27 (AtLaws_0 h0) rfl ?_
    refine g_iload_n (pc := 18) (x := a1) dX1_addNumber_18 rfl ?_
    refine g_iastore (pc := 19) dX1_addNumber_19 (AtLaws_1 h0) h.1 ?_
    have h := h.2
    refine g_aload_n (pc := 20) (x := t0) dX1_addNumber_20 rfl ?_
    refine g_dup (pc := 21) dX1_addNumber_21 rfl ?_
    refine g_getI (pc := 22) dX1_addNumber_22 fo_X1_27 (AtLaws_0 h0) rfl ?_
    refine g_iconst (pc := 25) (v := (1 : Int32)) dX1_addNumber_25 (by decide) ?_
    refine g_iadd (pc := 26) dX1_addNumber_26 ?_
    refine g_putI (pc := 27) dX1_addNumber_27 fo_X1_27 (AtLaws_0 h0) rfl rfl rfl ?_
    exact g_vret (pc := 30) dX1_addNumber_30 rfl rfl h
theorem dX1_addKind_0 : decode cX1_addKind 0 = .ok (.aload_n 0, 1) := by decide +kernel
theorem dX1_addKind_1 : decode cX1_addKind 1 = .ok (.getfield 27, 3) := by decide +kernel
theorem dX1_addKind_4 : decode cX1_addKind 4 = .ok (.sipush 400, 3) := by decide +kernel
theorem dX1_addKind_7 : decode cX1_addKind 7 = .ok (.if_icmp .ge 25, 3) := by decide +kernel
theorem dX1_addKind_10 : decode cX1_addKind 10 = .ok (.aload_n 0, 1) := by decide +kernel
theorem dX1_addKind_11 : decode cX1_addKind 11 = .ok (.getfield 9, 3) := by decide +kernel
theorem dX1_addKind_14 : decode cX1_addKind 14 = .ok (.aload_n 0, 1) := by decide +kernel
theorem dX1_addKind_15 : decode cX1_addKind 15 = .ok (.getfield 27, 3) := by decide +kernel
theorem dX1_addKind_18 : decode cX1_addKind 18 = .ok (.iconst (-1), 1) := by decide +kernel
theorem dX1_addKind_19 : decode cX1_addKind 19 = .ok (.iload_n 1, 1) := by decide +kernel
theorem dX1_addKind_20 : decode cX1_addKind 20 = .ok (.isub, 1) := by decide +kernel
theorem dX1_addKind_21 : decode cX1_addKind 21 = .ok (.iastore, 1) := by decide +kernel
theorem dX1_addKind_22 : decode cX1_addKind 22 = .ok (.aload_n 0, 1) := by decide +kernel
theorem dX1_addKind_23 : decode cX1_addKind 23 = .ok (.dup, 1) := by decide +kernel
theorem dX1_addKind_24 : decode cX1_addKind 24 = .ok (.getfield 27, 3) := by decide +kernel
theorem dX1_addKind_27 : decode cX1_addKind 27 = .ok (.iconst 1, 1) := by decide +kernel
theorem dX1_addKind_28 : decode cX1_addKind 28 = .ok (.iadd, 1) := by decide +kernel
theorem dX1_addKind_29 : decode cX1_addKind 29 = .ok (.putfield 27, 3) := by decide +kernel
theorem dX1_addKind_32 : decode cX1_addKind 32 = .ok (.return_, 1) := by decide +kernel
theorem b_X1_addKind (mm : MM) (Q : Value → MM → Prop) (t0 : Nat) (a1 : Int32) (h0 : AtLaws t0) (h : ((400 : Int32) ≤ (mm.1 t0 5) → (Q .null mm)) ∧ (¬ (400 : Int32) ≤ (mm.1 t0 5) → (vp_in (mm.1 t0 5) 400 ∧ (Q .null (wI (wI mm (t0 + 1) ((mm.1 t0 5).toNatClampNeg) ((-1 : Int32) - a1)) t0 5 (((wI mm (t0 + 1) ((mm.1 t0 5).toNatClampNeg) ((-1 : Int32) - a1)).1 t0 5) + (1 : Int32))))))) : Runs e_X1_addKind [.ref t0, .int a1] mm Q := by
  refine runs_of_G (L := [(0, .ref t0), (1, .int a1)]) pl_X1 (Nat.le_of_ble_eq_true rfl) rfl ?_
  refine g_aload_n (pc := 0) (x := t0) dX1_addKind_0 rfl ?_
  refine g_getI (pc := 1) dX1_addKind_1 fo_X1_27 (AtLaws_0 h0) rfl ?_
  refine g_sipush (pc := 4) (v := (400 : Int32)) dX1_addKind_4 (by decide) ?_
  refine g_icmp_ge (pc := 7) (tgt := 32) dX1_addKind_7 (by decide) (fun c7 => ?_) (fun c7 => ?_)
  · have h := h.1 c7
    exact g_vret (pc := 32) dX1_addKind_32 rfl rfl h
  · have h := h.2 c7
    refine g_aload_n (pc := 10) (x := t0) dX1_addKind_10 rfl ?_
    refine g_getR (pc := 11) (dd := 1) dX1_addKind_11 fo_X1_9 (AtLaws_0 h0) rfl ?_
    refine g_aload_n (pc := 14) (x := t0) dX1_addKind_14 rfl ?_
    refine g_getI (pc := 15) dX1_addKind_15 fo_X1_27 (AtLaws_0 h0) rfl ?_
    refine g_iconst (pc := 18) (v := (-1 : Int32)) dX1_addKind_18 (by decide) ?_
    refine g_iload_n (pc := 19) (x := a1) dX1_addKind_19 rfl ?_
    refine g_isub (pc := 20) dX1_addKind_20 ?_
    refine g_iastore (pc := 21) dX1_addKind_21 (AtLaws_1 h0) h.1 ?_
    have h := h.2
    refine g_aload_n (pc := 22) (x := t0) dX1_addKind_22 rfl ?_
    refine g_dup (pc := 23) dX1_addKind_23 rfl ?_
    refine g_getI (pc := 24) dX1_addKind_24 fo_X1_27 (AtLaws_0 h0) rfl ?_
    refine g_iconst (pc := 27) (v := (1 : Int32)) dX1_addKind_27 (by decide) ?_
    refine g_iadd (pc := 28) dX1_addKind_28 ?_
    refine g_putI (pc := 29) dX1_addKind_29 fo_X1_27 (AtLaws_0 h0) rfl rfl rfl ?_
    exact g_vret (pc := 32) dX1_addKind_32 rfl rfl h
theorem dX1_tell_0 : decode cX1_tell 0 = .ok (.iload_n 1, 1) := by decide +kernel
theorem dX1_tell_1 : decode cX1_tell 1 = .ok (.tableswitch 90 8 12 #[59, 90, 35, 43, 51], 35) := by decide +kernel
theorem dX1_tell_36 : decode cX1_tell 36 = .ok (.aload_n 0, 1) := by decide +kernel
theorem dX1_tell_37 : decode cX1_tell 37 = .ok (.iload_n 2, 1) := by decide +kernel
theorem dX1_tell_38 : decode cX1_tell 38 = .ok (.putfield 38, 3) := by decide +kernel
theorem dX1_tell_41 : decode cX1_tell 41 = .ok (.goto 78, 3) := by decide +kernel
theorem dX1_tell_44 : decode cX1_tell 44 = .ok (.aload_n 0, 1) := by decide +kernel
theorem dX1_tell_45 : decode cX1_tell 45 = .ok (.iload_n 2, 1) := by decide +kernel
theorem dX1_tell_46 : decode cX1_tell 46 = .ok (.putfield 41, 3) := by decide +kernel
theorem dX1_tell_49 : decode cX1_tell 49 = .ok (.goto 70, 3) := by decide +kernel
theorem dX1_tell_52 : decode cX1_tell 52 = .ok (.aload_n 0, 1) := by decide +kernel
theorem dX1_tell_53 : decode cX1_tell 53 = .ok (.iload_n 2, 1) := by decide +kernel
theorem dX1_tell_54 : decode cX1_tell 54 = .ok (.putfield 44, 3) := by decide +kernel
theorem dX1_tell_57 : decode cX1_tell 57 = .ok (.goto 62, 3) := by decide +kernel
theorem dX1_tell_60 : decode cX1_tell 60 = .ok (.aload_n 0, 1) := by decide +kernel
theorem dX1_tell_61 : decode cX1_tell 61 = .ok (.getfield 47, 3) := by decide +kernel
theorem dX1_tell_64 : decode cX1_tell 64 = .ok (.iconst 4, 1) := by decide +kernel
theorem dX1_tell_65 : decode cX1_tell 65 = .ok (.if_icmp .ge 54, 3) := by decide +kernel
theorem dX1_tell_68 : decode cX1_tell 68 = .ok (.aload_n 0, 1) := by decide +kernel
theorem dX1_tell_69 : decode cX1_tell 69 = .ok (.getfield 15, 3) := by decide +kernel
theorem dX1_tell_72 : decode cX1_tell 72 = .ok (.aload_n 0, 1) := by decide +kernel
theorem dX1_tell_73 : decode cX1_tell 73 = .ok (.getfield 47, 3) := by decide +kernel
theorem dX1_tell_76 : decode cX1_tell 76 = .ok (.iload_n 2, 1) := by decide +kernel
theorem dX1_tell_77 : decode cX1_tell 77 = .ok (.iastore, 1) := by decide +kernel
theorem dX1_tell_78 : decode cX1_tell 78 = .ok (.aload_n 0, 1) := by decide +kernel
theorem dX1_tell_79 : decode cX1_tell 79 = .ok (.dup, 1) := by decide +kernel
theorem dX1_tell_80 : decode cX1_tell 80 = .ok (.getfield 47, 3) := by decide +kernel
theorem dX1_tell_83 : decode cX1_tell 83 = .ok (.iconst 1, 1) := by decide +kernel
theorem dX1_tell_84 : decode cX1_tell 84 = .ok (.iadd, 1) := by decide +kernel
theorem dX1_tell_85 : decode cX1_tell 85 = .ok (.putfield 47, 3) := by decide +kernel
theorem dX1_tell_88 : decode cX1_tell 88 = .ok (.goto 31, 3) := by decide +kernel
theorem dX1_tell_91 : decode cX1_tell 91 = .ok (.aload_n 0, 1) := by decide +kernel
theorem dX1_tell_92 : decode cX1_tell 92 = .ok (.getfield 50, 3) := by decide +kernel
theorem dX1_tell_95 : decode cX1_tell 95 = .ok (.iconst 4, 1) := by decide +kernel
theorem dX1_tell_96 : decode cX1_tell 96 = .ok (.if_icmp .ge 23, 3) := by decide +kernel
theorem dX1_tell_99 : decode cX1_tell 99 = .ok (.aload_n 0, 1) := by decide +kernel
theorem dX1_tell_100 : decode cX1_tell 100 = .ok (.getfield 18, 3) := by decide +kernel
theorem dX1_tell_103 : decode cX1_tell 103 = .ok (.aload_n 0, 1) := by decide +kernel
theorem dX1_tell_104 : decode cX1_tell 104 = .ok (.getfield 50, 3) := by decide +kernel
theorem dX1_tell_107 : decode cX1_tell 107 = .ok (.iload_n 2, 1) := by decide +kernel
theorem dX1_tell_108 : decode cX1_tell 108 = .ok (.iastore, 1) := by decide +kernel
theorem dX1_tell_109 : decode cX1_tell 109 = .ok (.aload_n 0, 1) := by decide +kernel
theorem dX1_tell_110 : decode cX1_tell 110 = .ok (.dup, 1) := by decide +kernel
theorem dX1_tell_111 : decode cX1_tell 111 = .ok (.getfield 50, 3) := by decide +kernel
theorem dX1_tell_114 : decode cX1_tell 114 = .ok (.iconst 1, 1) := by decide +kernel
theorem dX1_tell_115 : decode cX1_tell 115 = .ok (.iadd, 1) := by decide +kernel
theorem dX1_tell_116 : decode cX1_tell 116 = .ok (.putfield 50, 3) := by decide +kernel
theorem dX1_tell_119 : decode cX1_tell 119 = .ok (.return_, 1) := by decide +kernel
theorem b_X1_tell (mm : MM) (Q : Value → MM → Prop) (t0 : Nat) (a1 : Int32) (a2 : Int32) (h0 : AtLaws t0) (h : (a1 = (8 : Int32) → (((4 : Int32) ≤ (mm.1 t0 11) → (Q .null mm)) ∧ (¬ (4 : Int32) ≤ (mm.1 t0 11) → (vp_in (mm.1 t0 11) 4 ∧ (Q .null (wI (wI mm (t0 + 2) ((mm.1 t0 11).toNatClampNeg) a2) t0 11 (((wI mm (t0 + 2) ((mm.1 t0 11).toNatClampNeg) a2).1 t0 11) + (1 : Int32)))))))) ∧ (¬ a1 = (8 : Int32) → ((a1 = (9 : Int32) → (((4 : Int32) ≤ (mm.1 t0 12) → (Q .null mm)) ∧ (¬ (4 : Int32) ≤ (mm.1 t0 12) → (vp_in (mm.1 t0 12) 4 ∧ (Q .null (wI (wI mm (t0 + 3) ((mm.1 t0 12).toNatClampNeg) a2) t0 12 (((wI mm (t0 + 3) ((mm.1 t0 12).toNatClampNeg) a2).1 t0 12) + (1 : Int32)))))))) ∧ (¬ a1 = (9 : Int32) → ((a1 = (10 : Int32) → (Q .null (wI mm t0 8 a2))) ∧ (¬ a1 = (10 : Int32) → ((a1 = (11 : Int32) → (Q .null (wI mm t0 9 a2))) ∧ (¬ a1 = (11 : Int32) → ((a1 = (12 : Int32) → (Q .null (wI mm t0 10 a2))) ∧ (¬ a1 = (12 : Int32) → (((4 : Int32) ≤ (mm.1 t0 12) → (Q .null mm)) ∧ (¬ (4 : Int32) ≤ (mm.1 t0 12) → (vp_in (mm.1 t0 12) 4 ∧ (Q .null (wI (wI mm (t0 + 3) ((mm.1 t0 12).toNatClampNeg) a2) t0 12 (((wI mm (t0 + 3) ((mm.1 t0 12).toNatClampNeg) a2).1 t0 12) + (1 : Int32))))))))))))))))) : Runs e_X1_tell [.ref t0, .int a1, .int a2] mm Q := by
  refine runs_of_G (L := [(0, .ref t0), (1, .int a1), (2, .int a2)]) pl_X1 (Nat.le_of_ble_eq_true rfl) rfl ?_
  refine g_iload_n (pc := 0) (x := a1) dX1_tell_0 rfl ?_
  by_cases c1_0 : a1 = (8 : Int32)
  · have h := h.1 c1_0
    refine g_tsIn (pc := 1) (off := 59) (tgt := 60) dX1_tell_1 (by rw [c1_0]; decide) (by rw [c1_0]; decide) (by rw [c1_0]; rfl) (by decide) ?_
    refine g_aload_n (pc := 60) (x := t0) dX1_tell_60 rfl ?_
    refine g_getI (pc := 61) dX1_tell_61 fo_X1_47 (AtLaws_0 h0) rfl ?_
    refine g_iconst (pc := 64) (v := (4 : Int32)) dX1_tell_64 (by decide) ?_
    refine g_icmp_ge (pc := 65) (tgt := 119) dX1_tell_65 (by decide) (fun c65 => ?_) (fun c65 => ?_)
    · have h := h.1 c65
      exact g_vret (pc := 119) dX1_tell_119 rfl rfl h
    · have h := h.2 c65
      refine g_aload_n (pc := 68) (x := t0) dX1_tell_68 rfl ?_
      refine g_getR (pc := 69) (dd := 2) dX1_tell_69 fo_X1_15 (AtLaws_0 h0) rfl ?_
      refine g_aload_n (pc := 72) (x := t0) dX1_tell_72 rfl ?_
      refine g_getI (pc := 73) dX1_tell_73 fo_X1_47 (AtLaws_0 h0) rfl ?_
      refine g_iload_n (pc := 76) (x := a2) dX1_tell_76 rfl ?_
      refine g_iastore (pc := 77) dX1_tell_77 (AtLaws_2 h0) h.1 ?_
      have h := h.2
      refine g_aload_n (pc := 78) (x := t0) dX1_tell_78 rfl ?_
      refine g_dup (pc := 79) dX1_tell_79 rfl ?_
      refine g_getI (pc := 80) dX1_tell_80 fo_X1_47 (AtLaws_0 h0) rfl ?_
      refine g_iconst (pc := 83) (v := (1 : Int32)) dX1_tell_83 (by decide) ?_
      refine g_iadd (pc := 84) dX1_tell_84 ?_
      refine g_putI (pc := 85) dX1_tell_85 fo_X1_47 (AtLaws_0 h0) rfl rfl rfl ?_
      refine g_goto (pc := 88) (tgt := 119) dX1_tell_88 (by decide) ?_
      exact g_vret (pc := 119) dX1_tell_119 rfl rfl h
  · have h := h.2 c1_0
    by_cases c1_1 : a1 = (9 : Int32)
    · have h := h.1 c1_1
      refine g_tsIn (pc := 1) (off := 90) (tgt := 91) dX1_tell_1 (by rw [c1_1]; decide) (by rw [c1_1]; decide) (by rw [c1_1]; rfl) (by decide) ?_
      refine g_aload_n (pc := 91) (x := t0) dX1_tell_91 rfl ?_
      refine g_getI (pc := 92) dX1_tell_92 fo_X1_50 (AtLaws_0 h0) rfl ?_
      refine g_iconst (pc := 95) (v := (4 : Int32)) dX1_tell_95 (by decide) ?_
      refine g_icmp_ge (pc := 96) (tgt := 119) dX1_tell_96 (by decide) (fun c96 => ?_) (fun c96 => ?_)
      · have h := h.1 c96
        exact g_vret (pc := 119) dX1_tell_119 rfl rfl h
      · have h := h.2 c96
        refine g_aload_n (pc := 99) (x := t0) dX1_tell_99 rfl ?_
        refine g_getR (pc := 100) (dd := 3) dX1_tell_100 fo_X1_18 (AtLaws_0 h0) rfl ?_
        refine g_aload_n (pc := 103) (x := t0) dX1_tell_103 rfl ?_
        refine g_getI (pc := 104) dX1_tell_104 fo_X1_50 (AtLaws_0 h0) rfl ?_
        refine g_iload_n (pc := 107) (x := a2) dX1_tell_107 rfl ?_
        refine g_iastore (pc := 108) dX1_tell_108 (AtLaws_3 h0) h.1 ?_
        have h := h.2
        refine g_aload_n (pc := 109) (x := t0) dX1_tell_109 rfl ?_
        refine g_dup (pc := 110) dX1_tell_110 rfl ?_
        refine g_getI (pc := 111) dX1_tell_111 fo_X1_50 (AtLaws_0 h0) rfl ?_
        refine g_iconst (pc := 114) (v := (1 : Int32)) dX1_tell_114 (by decide) ?_
        refine g_iadd (pc := 115) dX1_tell_115 ?_
        refine g_putI (pc := 116) dX1_tell_116 fo_X1_50 (AtLaws_0 h0) rfl rfl rfl ?_
        exact g_vret (pc := 119) dX1_tell_119 rfl rfl h
    · have h := h.2 c1_1
      by_cases c1_2 : a1 = (10 : Int32)
      · have h := h.1 c1_2
        refine g_tsIn (pc := 1) (off := 35) (tgt := 36) dX1_tell_1 (by rw [c1_2]; decide) (by rw [c1_2]; decide) (by rw [c1_2]; rfl) (by decide) ?_
        refine g_aload_n (pc := 36) (x := t0) dX1_tell_36 rfl ?_
        refine g_iload_n (pc := 37) (x := a2) dX1_tell_37 rfl ?_
        refine g_putI (pc := 38) dX1_tell_38 fo_X1_38 (AtLaws_0 h0) rfl rfl rfl ?_
        refine g_goto (pc := 41) (tgt := 119) dX1_tell_41 (by decide) ?_
        exact g_vret (pc := 119) dX1_tell_119 rfl rfl h
      · have h := h.2 c1_2
        by_cases c1_3 : a1 = (11 : Int32)
        · have h := h.1 c1_3
          refine g_tsIn (pc := 1) (off := 43) (tgt := 44) dX1_tell_1 (by rw [c1_3]; decide) (by rw [c1_3]; decide) (by rw [c1_3]; rfl) (by decide) ?_
          refine g_aload_n (pc := 44) (x := t0) dX1_tell_44 rfl ?_
          refine g_iload_n (pc := 45) (x := a2) dX1_tell_45 rfl ?_
          refine g_putI (pc := 46) dX1_tell_46 fo_X1_41 (AtLaws_0 h0) rfl rfl rfl ?_
          refine g_goto (pc := 49) (tgt := 119) dX1_tell_49 (by decide) ?_
          exact g_vret (pc := 119) dX1_tell_119 rfl rfl h
        · have h := h.2 c1_3
          by_cases c1_4 : a1 = (12 : Int32)
          · have h := h.1 c1_4
            refine g_tsIn (pc := 1) (off := 51) (tgt := 52) dX1_tell_1 (by rw [c1_4]; decide) (by rw [c1_4]; decide) (by rw [c1_4]; rfl) (by decide) ?_
            refine g_aload_n (pc := 52) (x := t0) dX1_tell_52 rfl ?_
            refine g_iload_n (pc := 53) (x := a2) dX1_tell_53 rfl ?_
            refine g_putI (pc := 54) dX1_tell_54 fo_X1_44 (AtLaws_0 h0) rfl rfl rfl ?_
            refine g_goto (pc := 57) (tgt := 119) dX1_tell_57 (by decide) ?_
            exact g_vret (pc := 119) dX1_tell_119 rfl rfl h
          · have h := h.2 c1_4
            refine g_tsOut (pc := 1) (tgt := 91) dX1_tell_1 (by have e0_ := ts_ne (k := 8) c1_0 (by decide); have e1_ := ts_ne (k := 9) c1_1 (by decide); have e2_ := ts_ne (k := 10) c1_2 (by decide); have e3_ := ts_ne (k := 11) c1_3 (by decide); have e4_ := ts_ne (k := 12) c1_4 (by decide); omega) (by decide) ?_
            refine g_aload_n (pc := 91) (x := t0) dX1_tell_91 rfl ?_
            refine g_getI (pc := 92) dX1_tell_92 fo_X1_50 (AtLaws_0 h0) rfl ?_
            refine g_iconst (pc := 95) (v := (4 : Int32)) dX1_tell_95 (by decide) ?_
            refine g_icmp_ge (pc := 96) (tgt := 119) dX1_tell_96 (by decide) (fun c96 => ?_) (fun c96 => ?_)
            · have h := h.1 c96
              exact g_vret (pc := 119) dX1_tell_119 rfl rfl h
            · have h := h.2 c96
              refine g_aload_n (pc := 99) (x := t0) dX1_tell_99 rfl ?_
              refine g_getR (pc := 100) (dd := 3) dX1_tell_100 fo_X1_18 (AtLaws_0 h0) rfl ?_
              refine g_aload_n (pc := 103) (x := t0) dX1_tell_103 rfl ?_
              refine g_getI (pc := 104) dX1_tell_104 fo_X1_50 (AtLaws_0 h0) rfl ?_
              refine g_iload_n (pc := 107) (x := a2) dX1_tell_107 rfl ?_
              refine g_iastore (pc := 108) dX1_tell_108 (AtLaws_3 h0) h.1 ?_
              have h := h.2
              refine g_aload_n (pc := 109) (x := t0) dX1_tell_109 rfl ?_
              refine g_dup (pc := 110) dX1_tell_110 rfl ?_
              refine g_getI (pc := 111) dX1_tell_111 fo_X1_50 (AtLaws_0 h0) rfl ?_
              refine g_iconst (pc := 114) (v := (1 : Int32)) dX1_tell_114 (by decide) ?_
              refine g_iadd (pc := 115) dX1_tell_115 ?_
              refine g_putI (pc := 116) dX1_tell_116 fo_X1_50 (AtLaws_0 h0) rfl rfl rfl ?_
              exact g_vret (pc := 119) dX1_tell_119 rfl rfl h
theorem dX1_wipeVars_0 : decode cX1_wipeVars 0 = .ok (.iconst 0, 1) := by decide +kernel
theorem dX1_wipeVars_1 : decode cX1_wipeVars 1 = .ok (.istore_n 1, 1) := by decide +kernel
theorem dX1_wipeVars_2 : decode cX1_wipeVars 2 = .ok (.iload_n 1, 1) := by decide +kernel
theorem dX1_wipeVars_3 : decode cX1_wipeVars 3 = .ok (.aload_n 0, 1) := by decide +kernel
theorem dX1_wipeVars_4 : decode cX1_wipeVars 4 = .ok (.getfield 21, 3) := by decide +kernel
theorem dX1_wipeVars_7 : decode cX1_wipeVars 7 = .ok (.arraylength, 1) := by decide +kernel
theorem dX1_wipeVars_8 : decode cX1_wipeVars 8 = .ok (.if_icmp .ge 16, 3) := by decide +kernel
theorem dX1_wipeVars_11 : decode cX1_wipeVars 11 = .ok (.aload_n 0, 1) := by decide +kernel
theorem dX1_wipeVars_12 : decode cX1_wipeVars 12 = .ok (.getfield 21, 3) := by decide +kernel
theorem dX1_wipeVars_15 : decode cX1_wipeVars 15 = .ok (.iload_n 1, 1) := by decide +kernel
theorem dX1_wipeVars_16 : decode cX1_wipeVars 16 = .ok (.iconst 0, 1) := by decide +kernel
theorem dX1_wipeVars_17 : decode cX1_wipeVars 17 = .ok (.iastore, 1) := by decide +kernel
theorem dX1_wipeVars_18 : decode cX1_wipeVars 18 = .ok (.iinc 1 1, 3) := by decide +kernel
theorem dX1_wipeVars_21 : decode cX1_wipeVars 21 = .ok (.goto (-19), 3) := by decide +kernel
theorem dX1_wipeVars_24 : decode cX1_wipeVars 24 = .ok (.return_, 1) := by decide +kernel
theorem b_X1_wipeVars (mm : MM) (Q : Value → MM → Prop) (t0 : Nat) (h0 : AtLaws t0) (h : G e_X1_wipeVars 2 [(0, .ref t0), (1, .int (0 : Int32))] [] mm Q) : Runs e_X1_wipeVars [.ref t0] mm Q := by
  refine runs_of_G (L := [(0, .ref t0)]) pl_X1 (Nat.le_of_ble_eq_true rfl) rfl ?_
  refine g_iconst (pc := 0) (v := (0 : Int32)) dX1_wipeVars_0 (by decide) ?_
  refine g_istore_n (pc := 1) (L' := [(0, .ref t0), (1, .int (0 : Int32))]) dX1_wipeVars_1 (Nat.le_of_ble_eq_true rfl) rfl ?_
  exact h
theorem b_X1_wipeVars_2 (mm : MM) (Q : Value → MM → Prop) (l0 : Nat) (l1 : Int32) (k0 : AtLaws l0) (h : ((9 : Int32) ≤ l1 → (Q .null mm)) ∧ (¬ (9 : Int32) ≤ l1 → (vp_in l1 9 ∧ (G e_X1_wipeVars 2 [(0, .ref l0), (1, .int (l1 + (1 : Int32)))] [] (wI mm (l0 + 4) (l1.toNatClampNeg) (0 : Int32)) Q)))) : G e_X1_wipeVars 2 [(0, .ref l0), (1, .int l1)] [] mm Q := by
  refine g_iload_n (pc := 2) (x := l1) dX1_wipeVars_2 rfl ?_
  refine g_aload_n (pc := 3) (x := l0) dX1_wipeVars_3 rfl ?_
  refine g_getR (pc := 4) (dd := 4) dX1_wipeVars_4 fo_X1_21 (AtLaws_0 k0) rfl ?_
  refine g_alen (pc := 7) (t := 0) (v := (9 : Int32)) (by decide) dX1_wipeVars_7 (AtLaws_4 k0) (by decide) ?_
  refine g_icmp_ge (pc := 8) (tgt := 24) dX1_wipeVars_8 (by decide) (fun c8 => ?_) (fun c8 => ?_)
  · have h := h.1 c8
    exact g_vret (pc := 24) dX1_wipeVars_24 rfl rfl h
  · have h := h.2 c8
    refine g_aload_n (pc := 11) (x := l0) dX1_wipeVars_11 rfl ?_
    refine g_getR (pc := 12) (dd := 4) dX1_wipeVars_12 fo_X1_21 (AtLaws_0 k0) rfl ?_
    refine g_iload_n (pc := 15) (x := l1) dX1_wipeVars_15 rfl ?_
    refine g_iconst (pc := 16) (v := (0 : Int32)) dX1_wipeVars_16 (by decide) ?_
    refine g_iastore (pc := 17) dX1_wipeVars_17 (AtLaws_4 k0) h.1 ?_
    have h := h.2
    refine g_iinc (pc := 18) (x := l1) (v := (l1 + (1 : Int32))) (L' := [(0, .ref l0), (1, .int (l1 + (1 : Int32)))]) dX1_wipeVars_18 rfl rfl (Nat.le_of_ble_eq_true rfl) rfl ?_
    refine g_goto (pc := 21) (tgt := 2) dX1_wipeVars_21 (by decide) ?_
    exact h
theorem dX11_isVar_0 : decode cX11_isVar 0 = .ok (.iload_n 0, 1) := by decide +kernel
theorem dX11_isVar_1 : decode cX11_isVar 1 = .ok (.bipush 12, 2) := by decide +kernel
theorem dX11_isVar_3 : decode cX11_isVar 3 = .ok (.if_icmp .lt 13, 3) := by decide +kernel
theorem dX11_isVar_6 : decode cX11_isVar 6 = .ok (.iload_n 0, 1) := by decide +kernel
theorem dX11_isVar_7 : decode cX11_isVar 7 = .ok (.bipush 20, 2) := by decide +kernel
theorem dX11_isVar_9 : decode cX11_isVar 9 = .ok (.if_icmp .gt 7, 3) := by decide +kernel
theorem dX11_isVar_12 : decode cX11_isVar 12 = .ok (.iconst 1, 1) := by decide +kernel
theorem dX11_isVar_13 : decode cX11_isVar 13 = .ok (.goto 4, 3) := by decide +kernel
theorem dX11_isVar_16 : decode cX11_isVar 16 = .ok (.iconst 0, 1) := by decide +kernel
theorem dX11_isVar_17 : decode cX11_isVar 17 = .ok (.ireturn, 1) := by decide +kernel
def p_X11_isVar (mm : MM) (a0 : Int32) : Prop := (¬ a0 < (12 : Int32) ∧ ¬ (20 : Int32) < a0)
theorem rv_X11_isVar (mm : MM) (a0 : Int32) : Runs e_X11_isVar [.int a0] mm (fun r m_ => ((p_X11_isVar mm a0 ∧ r = .int 1) ∨ (¬ p_X11_isVar mm a0 ∧ r = .int 0)) ∧ mm = m_) := by
  refine runs_of_G (L := [(0, .int a0)]) pl_X11 (Nat.le_of_ble_eq_true rfl) rfl ?_
  refine g_iload_n (pc := 0) (x := a0) dX11_isVar_0 rfl ?_
  refine g_bipush (pc := 1) (v := (12 : Int32)) dX11_isVar_1 (by decide) ?_
  refine g_icmp_lt (pc := 3) (tgt := 16) dX11_isVar_3 (by decide) (fun c3 => ?_) (fun c3 => ?_)
  · have c3_0 : a0 < (12 : Int32) := c3
    refine g_iconst (pc := 16) (v := (0 : Int32)) dX11_isVar_16 (by decide) ?_
    exact g_iret (pc := 17) dX11_isVar_17 rfl rfl (nar_B isB0) ⟨Or.inr ⟨(show ¬ p_X11_isVar mm a0 from (fun h_ => (h_.1 c3_0))), rfl⟩, rfl⟩
  · have c3_0 : ¬ a0 < (12 : Int32) := c3
    refine g_iload_n (pc := 6) (x := a0) dX11_isVar_6 rfl ?_
    refine g_bipush (pc := 7) (v := (20 : Int32)) dX11_isVar_7 (by decide) ?_
    refine g_icmp_gt (pc := 9) (tgt := 16) dX11_isVar_9 (by decide) (fun c9 => ?_) (fun c9 => ?_)
    · have c9_1 : (20 : Int32) < a0 := c9
      refine g_iconst (pc := 16) (v := (0 : Int32)) dX11_isVar_16 (by decide) ?_
      exact g_iret (pc := 17) dX11_isVar_17 rfl rfl (nar_B isB0) ⟨Or.inr ⟨(show ¬ p_X11_isVar mm a0 from (fun h_ => (not_not_intro c9_1) h_.2)), rfl⟩, rfl⟩
    · have c9_1 : ¬ (20 : Int32) < a0 := c9
      refine g_iconst (pc := 12) (v := (1 : Int32)) dX11_isVar_12 (by decide) ?_
      refine g_goto (pc := 13) (tgt := 17) dX11_isVar_13 (by decide) ?_
      exact g_iret (pc := 17) dX11_isVar_17 rfl rfl (nar_B isB1) ⟨Or.inl ⟨(show p_X11_isVar mm a0 from ⟨c3_0, c9_1⟩), rfl⟩, rfl⟩
theorem dX1_put_0 : decode cX1_put 0 = .ok (.iload_n 1, 1) := by decide +kernel
theorem dX1_put_1 : decode cX1_put 1 = .ok (.invokestatic 53, 3) := by decide +kernel
theorem dX1_put_4 : decode cX1_put 4 = .ok (.ifCond .eq 13, 3) := by decide +kernel
theorem dX1_put_7 : decode cX1_put 7 = .ok (.aload_n 0, 1) := by decide +kernel
theorem dX1_put_8 : decode cX1_put 8 = .ok (.getfield 21, 3) := by decide +kernel
theorem dX1_put_11 : decode cX1_put 11 = .ok (.iload_n 1, 1) := by decide +kernel
theorem dX1_put_12 : decode cX1_put 12 = .ok (.bipush 12, 2) := by decide +kernel
theorem dX1_put_14 : decode cX1_put 14 = .ok (.isub, 1) := by decide +kernel
theorem dX1_put_15 : decode cX1_put 15 = .ok (.iload_n 2, 1) := by decide +kernel
theorem dX1_put_16 : decode cX1_put 16 = .ok (.iastore, 1) := by decide +kernel
theorem dX1_put_17 : decode cX1_put 17 = .ok (.return_, 1) := by decide +kernel
theorem b_X1_put (mm : MM) (Q : Value → MM → Prop) (t0 : Nat) (a1 : Int32) (a2 : Int32) (h0 : AtLaws t0) (h : (p_X11_isVar mm a1 → (vp_in (a1 - (12 : Int32)) 9 ∧ (Q .null (wI mm (t0 + 4) ((a1 - (12 : Int32)).toNatClampNeg) a2)))) ∧ (¬ p_X11_isVar mm a1 → (Q .null mm))) : Runs e_X1_put [.ref t0, .int a1, .int a2] mm Q := by
  refine runs_of_G (L := [(0, .ref t0), (1, .int a1), (2, .int a2)]) pl_X1 (Nat.le_of_ble_eq_true rfl) rfl ?_
  refine g_iload_n (pc := 0) (x := a1) dX1_put_0 rfl ?_
  refine g_callSN (pc := 1) (as := [.int a1]) dX1_put_1 cw_X1_53 (by decide) rfl rfl (Nat.le_of_ble_eq_true rfl) (rv_X11_isVar mm a1) ?_
  rintro r_ m_ hz_ ⟨⟨p_, rfl⟩ | ⟨p_, rfl⟩, rfl⟩
  · have h := h.1 p_
    refine g_if_eq (pc := 4) (tgt := 17) dX1_put_4 (by decide) (fun c4 => absurd c4 (by decide)) (fun _ => ?_)
    refine g_aload_n (pc := 7) (x := t0) dX1_put_7 rfl ?_
    refine g_getR (pc := 8) (dd := 4) dX1_put_8 fo_X1_21 (AtLaws_0 h0) rfl ?_
    refine g_iload_n (pc := 11) (x := a1) dX1_put_11 rfl ?_
    refine g_bipush (pc := 12) (v := (12 : Int32)) dX1_put_12 (by decide) ?_
    refine g_isub (pc := 14) dX1_put_14 ?_
    refine g_iload_n (pc := 15) (x := a2) dX1_put_15 rfl ?_
    refine g_iastore (pc := 16) dX1_put_16 (AtLaws_4 h0) h.1 ?_
    have h := h.2
    exact g_vret (pc := 17) dX1_put_17 rfl rfl h
  · have h := h.2 p_
    refine g_if_eq (pc := 4) (tgt := 17) dX1_put_4 (by decide) (fun _ => ?_) (fun c4 => absurd c4 (by decide))
    exact g_vret (pc := 17) dX1_put_17 rfl rfl h
theorem dX1_someHolds_0 : decode cX1_someHolds 0 = .ok (.iconst 0, 1) := by decide +kernel
theorem dX1_someHolds_1 : decode cX1_someHolds 1 = .ok (.istore_n 3, 1) := by decide +kernel
theorem dX1_someHolds_2 : decode cX1_someHolds 2 = .ok (.iload_n 3, 1) := by decide +kernel
theorem dX1_someHolds_3 : decode cX1_someHolds 3 = .ok (.iload_n 2, 1) := by decide +kernel
theorem dX1_someHolds_4 : decode cX1_someHolds 4 = .ok (.if_icmp .ge 27, 3) := by decide +kernel
theorem dX1_someHolds_7 : decode cX1_someHolds 7 = .ok (.iload_n 3, 1) := by decide +kernel
theorem dX1_someHolds_8 : decode cX1_someHolds 8 = .ok (.aload_n 1, 1) := by decide +kernel
theorem dX1_someHolds_9 : decode cX1_someHolds 9 = .ok (.arraylength, 1) := by decide +kernel
theorem dX1_someHolds_10 : decode cX1_someHolds 10 = .ok (.if_icmp .ge 21, 3) := by decide +kernel
theorem dX1_someHolds_13 : decode cX1_someHolds 13 = .ok (.aload_n 0, 1) := by decide +kernel
theorem dX1_someHolds_14 : decode cX1_someHolds 14 = .ok (.aload_n 1, 1) := by decide +kernel
theorem dX1_someHolds_15 : decode cX1_someHolds 15 = .ok (.iload_n 3, 1) := by decide +kernel
theorem dX1_someHolds_16 : decode cX1_someHolds 16 = .ok (.iaload, 1) := by decide +kernel
theorem dX1_someHolds_17 : decode cX1_someHolds 17 = .ok (.invokevirtual 57, 3) := by decide +kernel
theorem dX1_someHolds_20 : decode cX1_someHolds 20 = .ok (.ifCond .eq 5, 3) := by decide +kernel
theorem dX1_someHolds_23 : decode cX1_someHolds 23 = .ok (.iconst 1, 1) := by decide +kernel
theorem dX1_someHolds_24 : decode cX1_someHolds 24 = .ok (.ireturn, 1) := by decide +kernel
theorem dX1_someHolds_25 : decode cX1_someHolds 25 = .ok (.iinc 3 1, 3) := by decide +kernel
theorem dX1_someHolds_28 : decode cX1_someHolds 28 = .ok (.goto (-26), 3) := by decide +kernel
theorem dX1_someHolds_31 : decode cX1_someHolds 31 = .ok (.iconst 0, 1) := by decide +kernel
theorem dX1_someHolds_32 : decode cX1_someHolds 32 = .ok (.ireturn, 1) := by decide +kernel
theorem b_X1_someHolds (mm : MM) (Q : Value → MM → Prop) (t0 : Nat) (a1 : Nat) (a2 : Int32) (h0 : AtLaws t0) (h1 : SHL[a1]? = some (.inl (0, 4, 0, 0))) (h : G e_X1_someHolds 2 [(0, .ref t0), (1, .ref a1), (2, .int a2), (3, .int (0 : Int32))] [] mm Q) : Runs e_X1_someHolds [.ref t0, .ref a1, .int a2] mm Q := by
  refine runs_of_G (L := [(0, .ref t0), (1, .ref a1), (2, .int a2)]) pl_X1 (Nat.le_of_ble_eq_true rfl) rfl ?_
  refine g_iconst (pc := 0) (v := (0 : Int32)) dX1_someHolds_0 (by decide) ?_
  refine g_istore_n (pc := 1) (L' := [(0, .ref t0), (1, .ref a1), (2, .int a2), (3, .int (0 : Int32))]) dX1_someHolds_1 (Nat.le_of_ble_eq_true rfl) rfl ?_
  exact h
theorem b_X1_someHolds_2 (mm : MM) (Q : Value → MM → Prop) (l0 : Nat) (l1 : Nat) (l2 : Int32) (l3 : Int32) (k0 : AtLaws l0) (k1 : SHL[l1]? = some (.inl (0, 4, 0, 0))) (h : (l2 ≤ l3 → (Q (.int (0 : Int32)) mm)) ∧ (¬ l2 ≤ l3 → (((4 : Int32) ≤ l3 → (Q (.int (0 : Int32)) mm)) ∧ (¬ (4 : Int32) ≤ l3 → (vp_in l3 4 ∧ (∃ Pm1 : Value → MM → Prop, Runs e_X1_value [.ref l0, .int (mm.1 l1 l3.toNatClampNeg)] mm Pm1 ∧ ∀ (r1 : Int32) (m1 : MM), Pm1 (.int r1) m1 → ((r1 = 0 → (G e_X1_someHolds 2 [(0, .ref l0), (1, .ref l1), (2, .int l2), (3, .int (l3 + (1 : Int32)))] [] m1 Q)) ∧ (¬ r1 = 0 → (Q (.int (1 : Int32)) m1))))))))) : G e_X1_someHolds 2 [(0, .ref l0), (1, .ref l1), (2, .int l2), (3, .int l3)] [] mm Q := by
  refine g_iload_n (pc := 2) (x := l3) dX1_someHolds_2 rfl ?_
  refine g_iload_n (pc := 3) (x := l2) dX1_someHolds_3 rfl ?_
  refine g_icmp_ge (pc := 4) (tgt := 31) dX1_someHolds_4 (by decide) (fun c4 => ?_) (fun c4 => ?_)
  · have h := h.1 c4
    refine g_iconst (pc := 31) (v := (0 : Int32)) dX1_someHolds_31 (by decide) ?_
    exact g_iret (pc := 32) dX1_someHolds_32 rfl rfl (nar_B isB0) h
  · have h := h.2 c4
    refine g_iload_n (pc := 7) (x := l3) dX1_someHolds_7 rfl ?_
    refine g_aload_n (pc := 8) (x := l1) dX1_someHolds_8 rfl ?_
    refine g_alen (pc := 9) (t := 0) (v := (4 : Int32)) (by decide) dX1_someHolds_9 k1 (by decide) ?_
    refine g_icmp_ge (pc := 10) (tgt := 31) dX1_someHolds_10 (by decide) (fun c10 => ?_) (fun c10 => ?_)
    · have h := h.1 c10
      refine g_iconst (pc := 31) (v := (0 : Int32)) dX1_someHolds_31 (by decide) ?_
      exact g_iret (pc := 32) dX1_someHolds_32 rfl rfl (nar_B isB0) h
    · have h := h.2 c10
      refine g_aload_n (pc := 13) (x := l0) dX1_someHolds_13 rfl ?_
      refine g_aload_n (pc := 14) (x := l1) dX1_someHolds_14 rfl ?_
      refine g_iload_n (pc := 15) (x := l3) dX1_someHolds_15 rfl ?_
      refine g_iaload (pc := 16) dX1_someHolds_16 k1 h.1 ?_
      have h := h.2
      obtain ⟨Pm1, hRm1, h⟩ := h
      refine g_callV (pc := 17) (as := [.int (mm.1 l1 l3.toNatClampNeg)]) dX1_someHolds_17 cw_X1_57 (by decide) rfl rfl (AtLaws_0 k0) (Nat.le_of_ble_eq_true rfl) hRm1 ?_
      intro r_ m1 hz_ hp_
      obtain ⟨r1, rfl⟩ := hz_
      have h := h r1 m1 hp_
      refine g_if_eq (pc := 20) (tgt := 25) dX1_someHolds_20 (by decide) (fun c20 => ?_) (fun c20 => ?_)
      · have h := h.1 c20
        refine g_iinc (pc := 25) (x := l3) (v := (l3 + (1 : Int32))) (L' := [(0, .ref l0), (1, .ref l1), (2, .int l2), (3, .int (l3 + (1 : Int32)))]) dX1_someHolds_25 rfl rfl (Nat.le_of_ble_eq_true rfl) rfl ?_
        refine g_goto (pc := 28) (tgt := 2) dX1_someHolds_28 (by decide) ?_
        exact h
      · have h := h.2 c20
        refine g_iconst (pc := 23) (v := (1 : Int32)) dX1_someHolds_23 (by decide) ?_
        exact g_iret (pc := 24) dX1_someHolds_24 rfl rfl (nar_B isB1) h
theorem dX1_value_0 : decode cX1_value 0 = .ok (.aload_n 0, 1) := by decide +kernel
theorem dX1_value_1 : decode cX1_value 1 = .ok (.iconst 0, 1) := by decide +kernel
theorem dX1_value_2 : decode cX1_value 2 = .ok (.putfield 31, 3) := by decide +kernel
theorem dX1_value_5 : decode cX1_value 5 = .ok (.aload_n 0, 1) := by decide +kernel
theorem dX1_value_6 : decode cX1_value 6 = .ok (.iconst 0, 1) := by decide +kernel
theorem dX1_value_7 : decode cX1_value 7 = .ok (.putfield 34, 3) := by decide +kernel
theorem dX1_value_10 : decode cX1_value 10 = .ok (.iload_n 1, 1) := by decide +kernel
theorem dX1_value_11 : decode cX1_value 11 = .ok (.istore_n 2, 1) := by decide +kernel
theorem dX1_value_12 : decode cX1_value 12 = .ok (.iload_n 2, 1) := by decide +kernel
theorem dX1_value_13 : decode cX1_value 13 = .ok (.ifCond .lt 93, 3) := by decide +kernel
theorem dX1_value_16 : decode cX1_value 16 = .ok (.iload_n 2, 1) := by decide +kernel
theorem dX1_value_17 : decode cX1_value 17 = .ok (.aload_n 0, 1) := by decide +kernel
theorem dX1_value_18 : decode cX1_value 18 = .ok (.getfield 27, 3) := by decide +kernel
theorem dX1_value_21 : decode cX1_value 21 = .ok (.if_icmp .ge 85, 3) := by decide +kernel
theorem dX1_value_24 : decode cX1_value 24 = .ok (.iconst (-1), 1) := by decide +kernel
theorem dX1_value_25 : decode cX1_value 25 = .ok (.aload_n 0, 1) := by decide +kernel
theorem dX1_value_26 : decode cX1_value 26 = .ok (.getfield 9, 3) := by decide +kernel
theorem dX1_value_29 : decode cX1_value 29 = .ok (.iload_n 2, 1) := by decide +kernel
theorem dX1_value_30 : decode cX1_value 30 = .ok (.iaload, 1) := by decide +kernel
theorem dX1_value_31 : decode cX1_value 31 = .ok (.isub, 1) := by decide +kernel
theorem dX1_value_32 : decode cX1_value 32 = .ok (.istore_n 3, 1) := by decide +kernel
theorem dX1_value_33 : decode cX1_value 33 = .ok (.iload_n 3, 1) := by decide +kernel
theorem dX1_value_34 : decode cX1_value 34 = .ok (.bipush 28, 2) := by decide +kernel
theorem dX1_value_36 : decode cX1_value 36 = .ok (.if_icmp .ne 6, 3) := by decide +kernel
theorem dX1_value_39 : decode cX1_value 39 = .ok (.goto 67, 3) := by decide +kernel
theorem dX1_value_42 : decode cX1_value 42 = .ok (.iload_n 3, 1) := by decide +kernel
theorem dX1_value_43 : decode cX1_value 43 = .ok (.ifCond .ge 16, 3) := by decide +kernel
theorem dX1_value_46 : decode cX1_value 46 = .ok (.aload_n 0, 1) := by decide +kernel
theorem dX1_value_47 : decode cX1_value 47 = .ok (.aload_n 0, 1) := by decide +kernel
theorem dX1_value_48 : decode cX1_value 48 = .ok (.getfield 9, 3) := by decide +kernel
theorem dX1_value_51 : decode cX1_value 51 = .ok (.iload_n 2, 1) := by decide +kernel
theorem dX1_value_52 : decode cX1_value 52 = .ok (.iaload, 1) := by decide +kernel
theorem dX1_value_53 : decode cX1_value 53 = .ok (.invokevirtual 61, 3) := by decide +kernel
theorem dX1_value_56 : decode cX1_value 56 = .ok (.goto 44, 3) := by decide +kernel
theorem dX1_value_59 : decode cX1_value 59 = .ok (.iload_n 3, 1) := by decide +kernel
theorem dX1_value_60 : decode cX1_value 60 = .ok (.invokestatic 53, 3) := by decide +kernel
theorem dX1_value_63 : decode cX1_value 63 = .ok (.ifCond .eq 19, 3) := by decide +kernel
theorem dX1_value_66 : decode cX1_value 66 = .ok (.aload_n 0, 1) := by decide +kernel
theorem dX1_value_67 : decode cX1_value 67 = .ok (.aload_n 0, 1) := by decide +kernel
theorem dX1_value_68 : decode cX1_value 68 = .ok (.getfield 21, 3) := by decide +kernel
theorem dX1_value_71 : decode cX1_value 71 = .ok (.iload_n 3, 1) := by decide +kernel
theorem dX1_value_72 : decode cX1_value 72 = .ok (.bipush 12, 2) := by decide +kernel
theorem dX1_value_74 : decode cX1_value 74 = .ok (.isub, 1) := by decide +kernel
theorem dX1_value_75 : decode cX1_value 75 = .ok (.iaload, 1) := by decide +kernel
theorem dX1_value_76 : decode cX1_value 76 = .ok (.invokevirtual 61, 3) := by decide +kernel
theorem dX1_value_79 : decode cX1_value 79 = .ok (.goto 21, 3) := by decide +kernel
theorem dX1_value_82 : decode cX1_value 82 = .ok (.iload_n 3, 1) := by decide +kernel
theorem dX1_value_83 : decode cX1_value 83 = .ok (.bipush 25, 2) := by decide +kernel
theorem dX1_value_85 : decode cX1_value 85 = .ok (.if_icmp .ne 10, 3) := by decide +kernel
theorem dX1_value_88 : decode cX1_value 88 = .ok (.aload_n 0, 1) := by decide +kernel
theorem dX1_value_89 : decode cX1_value 89 = .ok (.invokevirtual 65, 3) := by decide +kernel
theorem dX1_value_92 : decode cX1_value 92 = .ok (.goto 8, 3) := by decide +kernel
theorem dX1_value_95 : decode cX1_value 95 = .ok (.aload_n 0, 1) := by decide +kernel
theorem dX1_value_96 : decode cX1_value 96 = .ok (.iload_n 3, 1) := by decide +kernel
theorem dX1_value_97 : decode cX1_value 97 = .ok (.invokevirtual 68, 3) := by decide +kernel
theorem dX1_value_100 : decode cX1_value 100 = .ok (.iinc 2 1, 3) := by decide +kernel
theorem dX1_value_103 : decode cX1_value 103 = .ok (.goto (-91), 3) := by decide +kernel
theorem dX1_value_106 : decode cX1_value 106 = .ok (.aload_n 0, 1) := by decide +kernel
theorem dX1_value_107 : decode cX1_value 107 = .ok (.getfield 34, 3) := by decide +kernel
theorem dX1_value_110 : decode cX1_value 110 = .ok (.ifCond .ne 10, 3) := by decide +kernel
theorem dX1_value_113 : decode cX1_value 113 = .ok (.aload_n 0, 1) := by decide +kernel
theorem dX1_value_114 : decode cX1_value 114 = .ok (.getfield 31, 3) := by decide +kernel
theorem dX1_value_117 : decode cX1_value 117 = .ok (.ifCond .ne 7, 3) := by decide +kernel
theorem dX1_value_120 : decode cX1_value 120 = .ok (.iconst 0, 1) := by decide +kernel
theorem dX1_value_121 : decode cX1_value 121 = .ok (.goto 9, 3) := by decide +kernel
theorem dX1_value_124 : decode cX1_value 124 = .ok (.aload_n 0, 1) := by decide +kernel
theorem dX1_value_125 : decode cX1_value 125 = .ok (.getfield 24, 3) := by decide +kernel
theorem dX1_value_128 : decode cX1_value 128 = .ok (.iconst 0, 1) := by decide +kernel
theorem dX1_value_129 : decode cX1_value 129 = .ok (.iaload, 1) := by decide +kernel
theorem dX1_value_130 : decode cX1_value 130 = .ok (.ireturn, 1) := by decide +kernel
theorem b_X1_value (mm : MM) (Q : Value → MM → Prop) (t0 : Nat) (a1 : Int32) (h0 : AtLaws t0) (h : G e_X1_value 12 [(0, .ref t0), (2, .int a1)] [] (wI (wI mm t0 6 (0 : Int32)) t0 7 (0 : Int32)) Q) : Runs e_X1_value [.ref t0, .int a1] mm Q := by
  refine runs_of_G (L := [(0, .ref t0), (1, .int a1)]) pl_X1 (Nat.le_of_ble_eq_true rfl) rfl ?_
  refine g_aload_n (pc := 0) (x := t0) dX1_value_0 rfl ?_
  refine g_iconst (pc := 1) (v := (0 : Int32)) dX1_value_1 (by decide) ?_
  refine g_putI (pc := 2) dX1_value_2 fo_X1_31 (AtLaws_0 h0) rfl rfl rfl ?_
  refine g_aload_n (pc := 5) (x := t0) dX1_value_5 rfl ?_
  refine g_iconst (pc := 6) (v := (0 : Int32)) dX1_value_6 (by decide) ?_
  refine g_putI (pc := 7) dX1_value_7 fo_X1_34 (AtLaws_0 h0) rfl (nar_B isB0) (fit_B isB0) ?_
  refine g_iload_n (pc := 10) (x := a1) dX1_value_10 rfl ?_
  refine g_istore_n (pc := 11) (L' := [(0, .ref t0), (1, .int a1), (2, .int a1)]) dX1_value_11 (Nat.le_of_ble_eq_true rfl) rfl ?_
  refine g_sub (L' := [(0, .ref t0), (2, .int a1)]) [0, 2] rfl ?_
  exact h
theorem b_X1_value_12 (mm : MM) (Q : Value → MM → Prop) (l0 : Nat) (l2 : Int32) (k0 : AtLaws l0) (h : (l2 < 0 → ((¬ (mm.1 l0 7) = 0 → (Q (.int (0 : Int32)) mm)) ∧ ((mm.1 l0 7) = 0 → ((¬ (mm.1 l0 6) = 0 → (Q (.int (mm.1 (l0 + 5) 0)) mm)) ∧ ((mm.1 l0 6) = 0 → (Q (.int (0 : Int32)) mm)))))) ∧ (¬ l2 < 0 → (((mm.1 l0 5) ≤ l2 → ((¬ (mm.1 l0 7) = 0 → (Q (.int (0 : Int32)) mm)) ∧ ((mm.1 l0 7) = 0 → ((¬ (mm.1 l0 6) = 0 → (Q (.int (mm.1 (l0 + 5) 0)) mm)) ∧ ((mm.1 l0 6) = 0 → (Q (.int (0 : Int32)) mm)))))) ∧ (¬ (mm.1 l0 5) ≤ l2 → (vp_in l2 400 ∧ ((¬ ((-1 : Int32) - (mm.1 (l0 + 1) l2.toNatClampNeg)) = (28 : Int32) → ((0 ≤ ((-1 : Int32) - (mm.1 (l0 + 1) l2.toNatClampNeg)) → ((p_X11_isVar mm ((-1 : Int32) - (mm.1 (l0 + 1) l2.toNatClampNeg)) → (vp_in (((-1 : Int32) - (mm.1 (l0 + 1) l2.toNatClampNeg)) - (12 : Int32)) 9 ∧ (∃ Pm1 : Value → MM → Prop, Runs e_X1_push [.ref l0, .int (mm.1 (l0 + 4) (((-1 : Int32) - (mm.1 (l0 + 1) l2.toNatClampNeg)) - (12 : Int32)).toNatClampNeg)] mm Pm1 ∧ ∀ m1, Pm1 .null m1 → (G e_X1_value 12 [(0, .ref l0), (2, .int (l2 + (1 : Int32)))] [] m1 Q)))) ∧ (¬ p_X11_isVar mm ((-1 : Int32) - (mm.1 (l0 + 1) l2.toNatClampNeg)) → ((¬ ((-1 : Int32) - (mm.1 (l0 + 1) l2.toNatClampNeg)) = (25 : Int32) → (∃ Pm1 : Value → MM → Prop, Runs e_X1_join [.ref l0, .int ((-1 : Int32) - (mm.1 (l0 + 1) l2.toNatClampNeg))] mm Pm1 ∧ ∀ m1, Pm1 .null m1 → (G e_X1_value 12 [(0, .ref l0), (2, .int (l2 + (1 : Int32)))] [] m1 Q))) ∧ (((-1 : Int32) - (mm.1 (l0 + 1) l2.toNatClampNeg)) = (25 : Int32) → (∃ Pm1 : Value → MM → Prop, Runs e_X1_turnRound [.ref l0] mm Pm1 ∧ ∀ m1, Pm1 .null m1 → (G e_X1_value 12 [(0, .ref l0), (2, .int (l2 + (1 : Int32)))] [] m1 Q))))))) ∧ (¬ 0 ≤ ((-1 : Int32) - (mm.1 (l0 + 1) l2.toNatClampNeg)) → (vp_in l2 400 ∧ (∃ Pm1 : Value → MM → Prop, Runs e_X1_push [.ref l0, .int (mm.1 (l0 + 1) l2.toNatClampNeg)] mm Pm1 ∧ ∀ m1, Pm1 .null m1 → (G e_X1_value 12 [(0, .ref l0), (2, .int (l2 + (1 : Int32)))] [] m1 Q)))))) ∧ (((-1 : Int32) - (mm.1 (l0 + 1) l2.toNatClampNeg)) = (28 : Int32) → ((¬ (mm.1 l0 7) = 0 → (Q (.int (0 : Int32)) mm)) ∧ ((mm.1 l0 7) = 0 → ((¬ (mm.1 l0 6) = 0 → (Q (.int (mm.1 (l0 + 5) 0)) mm)) ∧ ((mm.1 l0 6) = 0 → (Q (.int (0 : Int32)) mm)))))))))))) : G e_X1_value 12 [(0, .ref l0), (2, .int l2)] [] mm Q := by
  refine g_iload_n (pc := 12) (x := l2) dX1_value_12 rfl ?_
  refine g_if_lt (pc := 13) (tgt := 106) dX1_value_13 (by decide) (fun c13 => ?_) (fun c13 => ?_)
  · have h := h.1 c13
    refine g_aload_n (pc := 106) (x := l0) dX1_value_106 rfl ?_
    refine g_getI (pc := 107) dX1_value_107 fo_X1_34 (AtLaws_0 k0) rfl ?_
    refine g_if_ne (pc := 110) (tgt := 120) dX1_value_110 (by decide) (fun c110 => ?_) (fun c110 => ?_)
    · have h := h.1 c110
      refine g_iconst (pc := 120) (v := (0 : Int32)) dX1_value_120 (by decide) ?_
      refine g_goto (pc := 121) (tgt := 130) dX1_value_121 (by decide) ?_
      exact g_iret (pc := 130) dX1_value_130 rfl rfl rfl h
    · have h := h.2 c110
      refine g_aload_n (pc := 113) (x := l0) dX1_value_113 rfl ?_
      refine g_getI (pc := 114) dX1_value_114 fo_X1_31 (AtLaws_0 k0) rfl ?_
      refine g_if_ne (pc := 117) (tgt := 124) dX1_value_117 (by decide) (fun c117 => ?_) (fun c117 => ?_)
      · have h := h.1 c117
        refine g_aload_n (pc := 124) (x := l0) dX1_value_124 rfl ?_
        refine g_getR (pc := 125) (dd := 5) dX1_value_125 fo_X1_24 (AtLaws_0 k0) rfl ?_
        refine g_iconst (pc := 128) (v := (0 : Int32)) dX1_value_128 (by decide) ?_
        refine g_iaload (pc := 129) dX1_value_129 (AtLaws_5 k0) (vp_in_nI (n := 0) (N := 32) (by decide) (by decide)) ?_
        exact g_iret (pc := 130) dX1_value_130 rfl rfl rfl h
      · have h := h.2 c117
        refine g_iconst (pc := 120) (v := (0 : Int32)) dX1_value_120 (by decide) ?_
        refine g_goto (pc := 121) (tgt := 130) dX1_value_121 (by decide) ?_
        exact g_iret (pc := 130) dX1_value_130 rfl rfl rfl h
  · have h := h.2 c13
    refine g_iload_n (pc := 16) (x := l2) dX1_value_16 rfl ?_
    refine g_aload_n (pc := 17) (x := l0) dX1_value_17 rfl ?_
    refine g_getI (pc := 18) dX1_value_18 fo_X1_27 (AtLaws_0 k0) rfl ?_
    refine g_icmp_ge (pc := 21) (tgt := 106) dX1_value_21 (by decide) (fun c21 => ?_) (fun c21 => ?_)
    · have h := h.1 c21
      refine g_aload_n (pc := 106) (x := l0) dX1_value_106 rfl ?_
      refine g_getI (pc := 107) dX1_value_107 fo_X1_34 (AtLaws_0 k0) rfl ?_
      refine g_if_ne (pc := 110) (tgt := 120) dX1_value_110 (by decide) (fun c110 => ?_) (fun c110 => ?_)
      · have h := h.1 c110
        refine g_iconst (pc := 120) (v := (0 : Int32)) dX1_value_120 (by decide) ?_
        refine g_goto (pc := 121) (tgt := 130) dX1_value_121 (by decide) ?_
        exact g_iret (pc := 130) dX1_value_130 rfl rfl rfl h
      · have h := h.2 c110
        refine g_aload_n (pc := 113) (x := l0) dX1_value_113 rfl ?_
        refine g_getI (pc := 114) dX1_value_114 fo_X1_31 (AtLaws_0 k0) rfl ?_
        refine g_if_ne (pc := 117) (tgt := 124) dX1_value_117 (by decide) (fun c117 => ?_) (fun c117 => ?_)
        · have h := h.1 c117
          refine g_aload_n (pc := 124) (x := l0) dX1_value_124 rfl ?_
          refine g_getR (pc := 125) (dd := 5) dX1_value_125 fo_X1_24 (AtLaws_0 k0) rfl ?_
          refine g_iconst (pc := 128) (v := (0 : Int32)) dX1_value_128 (by decide) ?_
          refine g_iaload (pc := 129) dX1_value_129 (AtLaws_5 k0) (vp_in_nI (n := 0) (N := 32) (by decide) (by decide)) ?_
          exact g_iret (pc := 130) dX1_value_130 rfl rfl rfl h
        · have h := h.2 c117
          refine g_iconst (pc := 120) (v := (0 : Int32)) dX1_value_120 (by decide) ?_
          refine g_goto (pc := 121) (tgt := 130) dX1_value_121 (by decide) ?_
          exact g_iret (pc := 130) dX1_value_130 rfl rfl rfl h
    · have h := h.2 c21
      refine g_iconst (pc := 24) (v := (-1 : Int32)) dX1_value_24 (by decide) ?_
      refine g_aload_n (pc := 25) (x := l0) dX1_value_25 rfl ?_
      refine g_getR (pc := 26) (dd := 1) dX1_value_26 fo_X1_9 (AtLaws_0 k0) rfl ?_
      refine g_iload_n (pc := 29) (x := l2) dX1_value_29 rfl ?_
      refine g_iaload (pc := 30) dX1_value_30 (AtLaws_1 k0) h.1 ?_
      have h := h.2
      refine g_isub (pc := 31) dX1_value_31 ?_
      refine g_istore_n (pc := 32) (L' := [(0, .ref l0), (2, .int l2), (3, .int ((-1 : Int32) - (mm.1 (l0 + 1) l2.toNatClampNeg)))]) dX1_value_32 (Nat.le_of_ble_eq_true rfl) rfl ?_
      refine g_iload_n (pc := 33) (x := ((-1 : Int32) - (mm.1 (l0 + 1) l2.toNatClampNeg))) dX1_value_33 rfl ?_
      refine g_bipush (pc := 34) (v := (28 : Int32)) dX1_value_34 (by decide) ?_
      refine g_icmp_ne (pc := 36) (tgt := 42) dX1_value_36 (by decide) (fun c36 => ?_) (fun c36 => ?_)
      · have h := h.1 c36
        refine g_iload_n (pc := 42) (x := ((-1 : Int32) - (mm.1 (l0 + 1) l2.toNatClampNeg))) dX1_value_42 rfl ?_
        refine g_if_ge (pc := 43) (tgt := 59) dX1_value_43 (by decide) (fun c43 => ?_) (fun c43 => ?_)
        · have h := h.1 c43
          refine g_iload_n (pc := 59) (x := ((-1 : Int32) - (mm.1 (l0 + 1) l2.toNatClampNeg))) dX1_value_59 rfl ?_
          refine g_callSN (pc := 60) (as := [.int ((-1 : Int32) - (mm.1 (l0 + 1) l2.toNatClampNeg))]) dX1_value_60 cw_X1_53 (by decide) rfl rfl (Nat.le_of_ble_eq_true rfl) (rv_X11_isVar mm ((-1 : Int32) - (mm.1 (l0 + 1) l2.toNatClampNeg))) ?_
          rintro r_ m_ hz_ ⟨⟨p_, rfl⟩ | ⟨p_, rfl⟩, rfl⟩
          · have h := h.1 p_
            refine g_if_eq (pc := 63) (tgt := 82) dX1_value_63 (by decide) (fun c63 => absurd c63 (by decide)) (fun _ => ?_)
            refine g_aload_n (pc := 66) (x := l0) dX1_value_66 rfl ?_
            refine g_aload_n (pc := 67) (x := l0) dX1_value_67 rfl ?_
            refine g_getR (pc := 68) (dd := 4) dX1_value_68 fo_X1_21 (AtLaws_0 k0) rfl ?_
            refine g_iload_n (pc := 71) (x := ((-1 : Int32) - (mm.1 (l0 + 1) l2.toNatClampNeg))) dX1_value_71 rfl ?_
            refine g_bipush (pc := 72) (v := (12 : Int32)) dX1_value_72 (by decide) ?_
            refine g_isub (pc := 74) dX1_value_74 ?_
            refine g_iaload (pc := 75) dX1_value_75 (AtLaws_4 k0) h.1 ?_
            have h := h.2
            obtain ⟨Pm1, hRm1, h⟩ := h
            refine g_callV (pc := 76) (as := [.int (mm.1 (l0 + 4) (((-1 : Int32) - (mm.1 (l0 + 1) l2.toNatClampNeg)) - (12 : Int32)).toNatClampNeg)]) dX1_value_76 cw_X1_61 (by decide) rfl rfl (AtLaws_0 k0) (Nat.le_of_ble_eq_true rfl) hRm1 ?_
            intro r_ m1 hz_ hp_
            obtain rfl := hz_
            have h := h m1 hp_
            refine g_goto (pc := 79) (tgt := 100) dX1_value_79 (by decide) ?_
            refine g_iinc (pc := 100) (x := l2) (v := (l2 + (1 : Int32))) (L' := [(0, .ref l0), (2, .int (l2 + (1 : Int32))), (3, .int ((-1 : Int32) - (mm.1 (l0 + 1) l2.toNatClampNeg)))]) dX1_value_100 rfl rfl (Nat.le_of_ble_eq_true rfl) rfl ?_
            refine g_goto (pc := 103) (tgt := 12) dX1_value_103 (by decide) ?_
            refine g_sub (L' := [(0, .ref l0), (2, .int (l2 + (1 : Int32)))]) [0, 1] rfl ?_
            exact h
          · have h := h.2 p_
            refine g_if_eq (pc := 63) (tgt := 82) dX1_value_63 (by decide) (fun _ => ?_) (fun c63 => absurd c63 (by decide))
            refine g_iload_n (pc := 82) (x := ((-1 : Int32) - (mm.1 (l0 + 1) l2.toNatClampNeg))) dX1_value_82 rfl ?_
            refine g_bipush (pc := 83) (v := (25 : Int32)) dX1_value_83 (by decide) ?_
            refine g_icmp_ne (pc := 85) (tgt := 95) dX1_value_85 (by decide) (fun c85 => ?_) (fun c85 => ?_)
            · have h := h.1 c85
              refine g_aload_n (pc := 95) (x := l0) dX1_value_95 rfl ?_
              refine g_iload_n (pc := 96) (x := ((-1 : Int32) - (mm.1 (l0 + 1) l2.toNatClampNeg))) dX1_value_96 rfl ?_
              obtain ⟨Pm1, hRm1, h⟩ := h
              refine g_callV (pc := 97) (as := [.int ((-1 : Int32) - (mm.1 (l0 + 1) l2.toNatClampNeg))]) dX1_value_97 cw_X1_68 (by decide) rfl rfl (AtLaws_0 k0) (Nat.le_of_ble_eq_true rfl) hRm1 ?_
              intro r_ m1 hz_ hp_
              obtain rfl := hz_
              have h := h m1 hp_
              refine g_iinc (pc := 100) (x := l2) (v := (l2 + (1 : Int32))) (L' := [(0, .ref l0), (2, .int (l2 + (1 : Int32))), (3, .int ((-1 : Int32) - (mm.1 (l0 + 1) l2.toNatClampNeg)))]) dX1_value_100 rfl rfl (Nat.le_of_ble_eq_true rfl) rfl ?_
              refine g_goto (pc := 103) (tgt := 12) dX1_value_103 (by decide) ?_
              refine g_sub (L' := [(0, .ref l0), (2, .int (l2 + (1 : Int32)))]) [0, 1] rfl ?_
              exact h
            · have h := h.2 c85
              refine g_aload_n (pc := 88) (x := l0) dX1_value_88 rfl ?_
              obtain ⟨Pm1, hRm1, h⟩ := h
              refine g_callV (pc := 89) (as := []) dX1_value_89 cw_X1_65 (by decide) rfl rfl (AtLaws_0 k0) (Nat.le_of_ble_eq_true rfl) hRm1 ?_
              intro r_ m1 hz_ hp_
              obtain rfl := hz_
              have h := h m1 hp_
              refine g_goto (pc := 92) (tgt := 100) dX1_value_92 (by decide) ?_
              refine g_iinc (pc := 100) (x := l2) (v := (l2 + (1 : Int32))) (L' := [(0, .ref l0), (2, .int (l2 + (1 : Int32))), (3, .int ((-1 : Int32) - (mm.1 (l0 + 1) l2.toNatClampNeg)))]) dX1_value_100 rfl rfl (Nat.le_of_ble_eq_true rfl) rfl ?_
              refine g_goto (pc := 103) (tgt := 12) dX1_value_103 (by decide) ?_
              refine g_sub (L' := [(0, .ref l0), (2, .int (l2 + (1 : Int32)))]) [0, 1] rfl ?_
              exact h
        · have h := h.2 c43
          refine g_aload_n (pc := 46) (x := l0) dX1_value_46 rfl ?_
          refine g_aload_n (pc := 47) (x := l0) dX1_value_47 rfl ?_
          refine g_getR (pc := 48) (dd := 1) dX1_value_48 fo_X1_9 (AtLaws_0 k0) rfl ?_
          refine g_iload_n (pc := 51) (x := l2) dX1_value_51 rfl ?_
          refine g_iaload (pc := 52) dX1_value_52 (AtLaws_1 k0) h.1 ?_
          have h := h.2
          obtain ⟨Pm1, hRm1, h⟩ := h
          refine g_callV (pc := 53) (as := [.int (mm.1 (l0 + 1) l2.toNatClampNeg)]) dX1_value_53 cw_X1_61 (by decide) rfl rfl (AtLaws_0 k0) (Nat.le_of_ble_eq_true rfl) hRm1 ?_
          intro r_ m1 hz_ hp_
          obtain rfl := hz_
          have h := h m1 hp_
          refine g_goto (pc := 56) (tgt := 100) dX1_value_56 (by decide) ?_
          refine g_iinc (pc := 100) (x := l2) (v := (l2 + (1 : Int32))) (L' := [(0, .ref l0), (2, .int (l2 + (1 : Int32))), (3, .int ((-1 : Int32) - (mm.1 (l0 + 1) l2.toNatClampNeg)))]) dX1_value_100 rfl rfl (Nat.le_of_ble_eq_true rfl) rfl ?_
          refine g_goto (pc := 103) (tgt := 12) dX1_value_103 (by decide) ?_
          refine g_sub (L' := [(0, .ref l0), (2, .int (l2 + (1 : Int32)))]) [0, 1] rfl ?_
          exact h
      · have h := h.2 c36
        refine g_goto (pc := 39) (tgt := 106) dX1_value_39 (by decide) ?_
        refine g_aload_n (pc := 106) (x := l0) dX1_value_106 rfl ?_
        refine g_getI (pc := 107) dX1_value_107 fo_X1_34 (AtLaws_0 k0) rfl ?_
        refine g_if_ne (pc := 110) (tgt := 120) dX1_value_110 (by decide) (fun c110 => ?_) (fun c110 => ?_)
        · have h := h.1 c110
          refine g_iconst (pc := 120) (v := (0 : Int32)) dX1_value_120 (by decide) ?_
          refine g_goto (pc := 121) (tgt := 130) dX1_value_121 (by decide) ?_
          exact g_iret (pc := 130) dX1_value_130 rfl rfl rfl h
        · have h := h.2 c110
          refine g_aload_n (pc := 113) (x := l0) dX1_value_113 rfl ?_
          refine g_getI (pc := 114) dX1_value_114 fo_X1_31 (AtLaws_0 k0) rfl ?_
          refine g_if_ne (pc := 117) (tgt := 124) dX1_value_117 (by decide) (fun c117 => ?_) (fun c117 => ?_)
          · have h := h.1 c117
            refine g_aload_n (pc := 124) (x := l0) dX1_value_124 rfl ?_
            refine g_getR (pc := 125) (dd := 5) dX1_value_125 fo_X1_24 (AtLaws_0 k0) rfl ?_
            refine g_iconst (pc := 128) (v := (0 : Int32)) dX1_value_128 (by decide) ?_
            refine g_iaload (pc := 129) dX1_value_129 (AtLaws_5 k0) (vp_in_nI (n := 0) (N := 32) (by decide) (by decide)) ?_
            exact g_iret (pc := 130) dX1_value_130 rfl rfl rfl h
          · have h := h.2 c117
            refine g_iconst (pc := 120) (v := (0 : Int32)) dX1_value_120 (by decide) ?_
            refine g_goto (pc := 121) (tgt := 130) dX1_value_121 (by decide) ?_
            exact g_iret (pc := 130) dX1_value_130 rfl rfl rfl h
theorem dX1_push_0 : decode cX1_push 0 = .ok (.aload_n 0, 1) := by decide +kernel
theorem dX1_push_1 : decode cX1_push 1 = .ok (.getfield 31, 3) := by decide +kernel
theorem dX1_push_4 : decode cX1_push 4 = .ok (.ifCond .lt 32, 3) := by decide +kernel
theorem dX1_push_7 : decode cX1_push 7 = .ok (.aload_n 0, 1) := by decide +kernel
theorem dX1_push_8 : decode cX1_push 8 = .ok (.getfield 31, 3) := by decide +kernel
theorem dX1_push_11 : decode cX1_push 11 = .ok (.bipush 32, 2) := by decide +kernel
theorem dX1_push_13 : decode cX1_push 13 = .ok (.if_icmp .ge 23, 3) := by decide +kernel
theorem dX1_push_16 : decode cX1_push 16 = .ok (.aload_n 0, 1) := by decide +kernel
theorem dX1_push_17 : decode cX1_push 17 = .ok (.getfield 24, 3) := by decide +kernel
theorem dX1_push_20 : decode cX1_push 20 = .ok (.aload_n 0, 1) := by decide +kernel
theorem dX1_push_21 : decode cX1_push 21 = .ok (.getfield 31, 3) := by decide +kernel
theorem dX1_push_24 : decode cX1_push 24 = .ok (.iload_n 1, 1) := by decide +kernel
theorem dX1_push_25 : decode cX1_push 25 = .ok (.iastore, 1) := by decide +kernel
theorem dX1_push_26 : decode cX1_push 26 = .ok (.aload_n 0, 1) := by decide +kernel
theorem dX1_push_27 : decode cX1_push 27 = .ok (.dup, 1) := by decide +kernel
theorem dX1_push_28 : decode cX1_push 28 = .ok (.getfield 31, 3) := by decide +kernel
theorem dX1_push_31 : decode cX1_push 31 = .ok (.iconst 1, 1) := by decide +kernel
theorem dX1_push_32 : decode cX1_push 32 = .ok (.iadd, 1) := by decide +kernel
theorem dX1_push_33 : decode cX1_push 33 = .ok (.putfield 31, 3) := by decide +kernel
theorem dX1_push_36 : decode cX1_push 36 = .ok (.return_, 1) := by decide +kernel
theorem b_X1_push (mm : MM) (Q : Value → MM → Prop) (t0 : Nat) (a1 : Int32) (h0 : AtLaws t0) (h : ((mm.1 t0 6) < 0 → (Q .null mm)) ∧ (¬ (mm.1 t0 6) < 0 → (((32 : Int32) ≤ (mm.1 t0 6) → (Q .null mm)) ∧ (¬ (32 : Int32) ≤ (mm.1 t0 6) → (vp_in (mm.1 t0 6) 32 ∧ (Q .null (wI (wI mm (t0 + 5) ((mm.1 t0 6).toNatClampNeg) a1) t0 6 (((wI mm (t0 + 5) ((mm.1 t0 6).toNatClampNeg) a1).1 t0 6) + (1 : Int32))))))))) : Runs e_X1_push [.ref t0, .int a1] mm Q := by
  refine runs_of_G (L := [(0, .ref t0), (1, .int a1)]) pl_X1 (Nat.le_of_ble_eq_true rfl) rfl ?_
  refine g_aload_n (pc := 0) (x := t0) dX1_push_0 rfl ?_
  refine g_getI (pc := 1) dX1_push_1 fo_X1_31 (AtLaws_0 h0) rfl ?_
  refine g_if_lt (pc := 4) (tgt := 36) dX1_push_4 (by decide) (fun c4 => ?_) (fun c4 => ?_)
  · have h := h.1 c4
    exact g_vret (pc := 36) dX1_push_36 rfl rfl h
  · have h := h.2 c4
    refine g_aload_n (pc := 7) (x := t0) dX1_push_7 rfl ?_
    refine g_getI (pc := 8) dX1_push_8 fo_X1_31 (AtLaws_0 h0) rfl ?_
    refine g_bipush (pc := 11) (v := (32 : Int32)) dX1_push_11 (by decide) ?_
    refine g_icmp_ge (pc := 13) (tgt := 36) dX1_push_13 (by decide) (fun c13 => ?_) (fun c13 => ?_)
    · have h := h.1 c13
      exact g_vret (pc := 36) dX1_push_36 rfl rfl h
    · have h := h.2 c13
      refine g_aload_n (pc := 16) (x := t0) dX1_push_16 rfl ?_
      refine g_getR (pc := 17) (dd := 5) dX1_push_17 fo_X1_24 (AtLaws_0 h0) rfl ?_
      refine g_aload_n (pc := 20) (x := t0) dX1_push_20 rfl ?_
      refine g_getI (pc := 21) dX1_push_21 fo_X1_31 (AtLaws_0 h0) rfl ?_
      refine g_iload_n (pc := 24) (x := a1) dX1_push_24 rfl ?_
      refine g_iastore (pc := 25) dX1_push_25 (AtLaws_5 h0) h.1 ?_
      have h := h.2
      refine g_aload_n (pc := 26) (x := t0) dX1_push_26 rfl ?_
      refine g_dup (pc := 27) dX1_push_27 rfl ?_
      refine g_getI (pc := 28) dX1_push_28 fo_X1_31 (AtLaws_0 h0) rfl ?_
      refine g_iconst (pc := 31) (v := (1 : Int32)) dX1_push_31 (by decide) ?_
      refine g_iadd (pc := 32) dX1_push_32 ?_
      refine g_putI (pc := 33) dX1_push_33 fo_X1_31 (AtLaws_0 h0) rfl rfl rfl ?_
      exact g_vret (pc := 36) dX1_push_36 rfl rfl h
theorem dX1_turnRound_0 : decode cX1_turnRound 0 = .ok (.aload_n 0, 1) := by decide +kernel
theorem dX1_turnRound_1 : decode cX1_turnRound 1 = .ok (.getfield 31, 3) := by decide +kernel
theorem dX1_turnRound_4 : decode cX1_turnRound 4 = .ok (.iconst 1, 1) := by decide +kernel
theorem dX1_turnRound_5 : decode cX1_turnRound 5 = .ok (.if_icmp .lt 36, 3) := by decide +kernel
theorem dX1_turnRound_8 : decode cX1_turnRound 8 = .ok (.aload_n 0, 1) := by decide +kernel
theorem dX1_turnRound_9 : decode cX1_turnRound 9 = .ok (.getfield 31, 3) := by decide +kernel
theorem dX1_turnRound_12 : decode cX1_turnRound 12 = .ok (.bipush 32, 2) := by decide +kernel
theorem dX1_turnRound_14 : decode cX1_turnRound 14 = .ok (.if_icmp .gt 27, 3) := by decide +kernel
theorem dX1_turnRound_17 : decode cX1_turnRound 17 = .ok (.aload_n 0, 1) := by decide +kernel
theorem dX1_turnRound_18 : decode cX1_turnRound 18 = .ok (.getfield 24, 3) := by decide +kernel
theorem dX1_turnRound_21 : decode cX1_turnRound 21 = .ok (.aload_n 0, 1) := by decide +kernel
theorem dX1_turnRound_22 : decode cX1_turnRound 22 = .ok (.getfield 31, 3) := by decide +kernel
theorem dX1_turnRound_25 : decode cX1_turnRound 25 = .ok (.iconst 1, 1) := by decide +kernel
theorem dX1_turnRound_26 : decode cX1_turnRound 26 = .ok (.isub, 1) := by decide +kernel
theorem dX1_turnRound_27 : decode cX1_turnRound 27 = .ok (.iconst 1, 1) := by decide +kernel
theorem dX1_turnRound_28 : decode cX1_turnRound 28 = .ok (.aload_n 0, 1) := by decide +kernel
theorem dX1_turnRound_29 : decode cX1_turnRound 29 = .ok (.getfield 24, 3) := by decide +kernel
theorem dX1_turnRound_32 : decode cX1_turnRound 32 = .ok (.aload_n 0, 1) := by decide +kernel
theorem dX1_turnRound_33 : decode cX1_turnRound 33 = .ok (.getfield 31, 3) := by decide +kernel
theorem dX1_turnRound_36 : decode cX1_turnRound 36 = .ok (.iconst 1, 1) := by decide +kernel
theorem dX1_turnRound_37 : decode cX1_turnRound 37 = .ok (.isub, 1) := by decide +kernel
theorem dX1_turnRound_38 : decode cX1_turnRound 38 = .ok (.iaload, 1) := by decide +kernel
theorem dX1_turnRound_39 : decode cX1_turnRound 39 = .ok (.isub, 1) := by decide +kernel
theorem dX1_turnRound_40 : decode cX1_turnRound 40 = .ok (.iastore, 1) := by decide +kernel
theorem dX1_turnRound_41 : decode cX1_turnRound 41 = .ok (.return_, 1) := by decide +kernel
theorem b_X1_turnRound (mm : MM) (Q : Value → MM → Prop) (t0 : Nat) (h0 : AtLaws t0) (h : ((mm.1 t0 6) < (1 : Int32) → (Q .null mm)) ∧ (¬ (mm.1 t0 6) < (1 : Int32) → (((32 : Int32) < (mm.1 t0 6) → (Q .null mm)) ∧ (¬ (32 : Int32) < (mm.1 t0 6) → (vp_in ((mm.1 t0 6) - (1 : Int32)) 32 ∧ (vp_in ((mm.1 t0 6) - (1 : Int32)) 32 ∧ (Q .null (wI mm (t0 + 5) (((mm.1 t0 6) - (1 : Int32)).toNatClampNeg) ((1 : Int32) - (mm.1 (t0 + 5) ((mm.1 t0 6) - (1 : Int32)).toNatClampNeg)))))))))) : Runs e_X1_turnRound [.ref t0] mm Q := by
  refine runs_of_G (L := [(0, .ref t0)]) pl_X1 (Nat.le_of_ble_eq_true rfl) rfl ?_
  refine g_aload_n (pc := 0) (x := t0) dX1_turnRound_0 rfl ?_
  refine g_getI (pc := 1) dX1_turnRound_1 fo_X1_31 (AtLaws_0 h0) rfl ?_
  refine g_iconst (pc := 4) (v := (1 : Int32)) dX1_turnRound_4 (by decide) ?_
  refine g_icmp_lt (pc := 5) (tgt := 41) dX1_turnRound_5 (by decide) (fun c5 => ?_) (fun c5 => ?_)
  · have h := h.1 c5
    exact g_vret (pc := 41) dX1_turnRound_41 rfl rfl h
  · have h := h.2 c5
    refine g_aload_n (pc := 8) (x := t0) dX1_turnRound_8 rfl ?_
    refine g_getI (pc := 9) dX1_turnRound_9 fo_X1_31 (AtLaws_0 h0) rfl ?_
    refine g_bipush (pc := 12) (v := (32 : Int32)) dX1_turnRound_12 (by decide) ?_
    refine g_icmp_gt (pc := 14) (tgt := 41) dX1_turnRound_14 (by decide) (fun c14 => ?_) (fun c14 => ?_)
    · have h := h.1 c14
      exact g_vret (pc := 41) dX1_turnRound_41 rfl rfl h
    · have h := h.2 c14
      refine g_aload_n (pc := 17) (x := t0) dX1_turnRound_17 rfl ?_
      refine g_getR (pc := 18) (dd := 5) dX1_turnRound_18 fo_X1_24 (AtLaws_0 h0) rfl ?_
      refine g_aload_n (pc := 21) (x := t0) dX1_turnRound_21 rfl ?_
      refine g_getI (pc := 22) dX1_turnRound_22 fo_X1_31 (AtLaws_0 h0) rfl ?_
      refine g_iconst (pc := 25) (v := (1 : Int32)) dX1_turnRound_25 (by decide) ?_
      refine g_isub (pc := 26) dX1_turnRound_26 ?_
      refine g_iconst (pc := 27) (v := (1 : Int32)) dX1_turnRound_27 (by decide) ?_
      refine g_aload_n (pc := 28) (x := t0) dX1_turnRound_28 rfl ?_
      refine g_getR (pc := 29) (dd := 5) dX1_turnRound_29 fo_X1_24 (AtLaws_0 h0) rfl ?_
      refine g_aload_n (pc := 32) (x := t0) dX1_turnRound_32 rfl ?_
      refine g_getI (pc := 33) dX1_turnRound_33 fo_X1_31 (AtLaws_0 h0) rfl ?_
      refine g_iconst (pc := 36) (v := (1 : Int32)) dX1_turnRound_36 (by decide) ?_
      refine g_isub (pc := 37) dX1_turnRound_37 ?_
      refine g_iaload (pc := 38) dX1_turnRound_38 (AtLaws_5 h0) h.1 ?_
      have h := h.2
      refine g_isub (pc := 39) dX1_turnRound_39 ?_
      refine g_iastore (pc := 40) dX1_turnRound_40 (AtLaws_5 h0) h.1 ?_
      have h := h.2
      exact g_vret (pc := 41) dX1_turnRound_41 rfl rfl h
theorem dX11_compares_0 : decode cX11_compares 0 = .ok (.iload_n 0, 1) := by decide +kernel
theorem dX11_compares_1 : decode cX11_compares 1 = .ok (.bipush 34, 2) := by decide +kernel
theorem dX11_compares_3 : decode cX11_compares 3 = .ok (.if_icmp .lt 13, 3) := by decide +kernel
theorem dX11_compares_6 : decode cX11_compares 6 = .ok (.iload_n 0, 1) := by decide +kernel
theorem dX11_compares_7 : decode cX11_compares 7 = .ok (.bipush 37, 2) := by decide +kernel
theorem dX11_compares_9 : decode cX11_compares 9 = .ok (.if_icmp .gt 7, 3) := by decide +kernel
theorem dX11_compares_12 : decode cX11_compares 12 = .ok (.iconst 1, 1) := by decide +kernel
theorem dX11_compares_13 : decode cX11_compares 13 = .ok (.goto 4, 3) := by decide +kernel
theorem dX11_compares_16 : decode cX11_compares 16 = .ok (.iconst 0, 1) := by decide +kernel
theorem dX11_compares_17 : decode cX11_compares 17 = .ok (.ireturn, 1) := by decide +kernel
def p_X11_compares (mm : MM) (a0 : Int32) : Prop := (¬ a0 < (34 : Int32) ∧ ¬ (37 : Int32) < a0)
theorem rv_X11_compares (mm : MM) (a0 : Int32) : Runs e_X11_compares [.int a0] mm (fun r m_ => ((p_X11_compares mm a0 ∧ r = .int 1) ∨ (¬ p_X11_compares mm a0 ∧ r = .int 0)) ∧ mm = m_) := by
  refine runs_of_G (L := [(0, .int a0)]) pl_X11 (Nat.le_of_ble_eq_true rfl) rfl ?_
  refine g_iload_n (pc := 0) (x := a0) dX11_compares_0 rfl ?_
  refine g_bipush (pc := 1) (v := (34 : Int32)) dX11_compares_1 (by decide) ?_
  refine g_icmp_lt (pc := 3) (tgt := 16) dX11_compares_3 (by decide) (fun c3 => ?_) (fun c3 => ?_)
  · have c3_0 : a0 < (34 : Int32) := c3
    refine g_iconst (pc := 16) (v := (0 : Int32)) dX11_compares_16 (by decide) ?_
    exact g_iret (pc := 17) dX11_compares_17 rfl rfl (nar_B isB0) ⟨Or.inr ⟨(show ¬ p_X11_compares mm a0 from (fun h_ => (h_.1 c3_0))), rfl⟩, rfl⟩
  · have c3_0 : ¬ a0 < (34 : Int32) := c3
    refine g_iload_n (pc := 6) (x := a0) dX11_compares_6 rfl ?_
    refine g_bipush (pc := 7) (v := (37 : Int32)) dX11_compares_7 (by decide) ?_
    refine g_icmp_gt (pc := 9) (tgt := 16) dX11_compares_9 (by decide) (fun c9 => ?_) (fun c9 => ?_)
    · have c9_1 : (37 : Int32) < a0 := c9
      refine g_iconst (pc := 16) (v := (0 : Int32)) dX11_compares_16 (by decide) ?_
      exact g_iret (pc := 17) dX11_compares_17 rfl rfl (nar_B isB0) ⟨Or.inr ⟨(show ¬ p_X11_compares mm a0 from (fun h_ => (not_not_intro c9_1) h_.2)), rfl⟩, rfl⟩
    · have c9_1 : ¬ (37 : Int32) < a0 := c9
      refine g_iconst (pc := 12) (v := (1 : Int32)) dX11_compares_12 (by decide) ?_
      refine g_goto (pc := 13) (tgt := 17) dX11_compares_13 (by decide) ?_
      exact g_iret (pc := 17) dX11_compares_17 rfl rfl (nar_B isB1) ⟨Or.inl ⟨(show p_X11_compares mm a0 from ⟨c3_0, c9_1⟩), rfl⟩, rfl⟩
theorem dX1_holds_0 : decode cX1_holds 0 = .ok (.iload_n 0, 1) := by decide +kernel
theorem dX1_holds_1 : decode cX1_holds 1 = .ok (.tableswitch 60 34 36 #[27, 38, 49], 27) := by decide +kernel
theorem dX1_holds_28 : decode cX1_holds 28 = .ok (.iload_n 1, 1) := by decide +kernel
theorem dX1_holds_29 : decode cX1_holds 29 = .ok (.iload_n 2, 1) := by decide +kernel
theorem dX1_holds_30 : decode cX1_holds 30 = .ok (.if_icmp .ne 7, 3) := by decide +kernel
theorem dX1_holds_33 : decode cX1_holds 33 = .ok (.iconst 1, 1) := by decide +kernel
theorem dX1_holds_34 : decode cX1_holds 34 = .ok (.goto 4, 3) := by decide +kernel
theorem dX1_holds_37 : decode cX1_holds 37 = .ok (.iconst 0, 1) := by decide +kernel
theorem dX1_holds_38 : decode cX1_holds 38 = .ok (.ireturn, 1) := by decide +kernel
theorem dX1_holds_39 : decode cX1_holds 39 = .ok (.iload_n 1, 1) := by decide +kernel
theorem dX1_holds_40 : decode cX1_holds 40 = .ok (.iload_n 2, 1) := by decide +kernel
theorem dX1_holds_41 : decode cX1_holds 41 = .ok (.if_icmp .eq 7, 3) := by decide +kernel
theorem dX1_holds_44 : decode cX1_holds 44 = .ok (.iconst 1, 1) := by decide +kernel
theorem dX1_holds_45 : decode cX1_holds 45 = .ok (.goto 4, 3) := by decide +kernel
theorem dX1_holds_48 : decode cX1_holds 48 = .ok (.iconst 0, 1) := by decide +kernel
theorem dX1_holds_49 : decode cX1_holds 49 = .ok (.ireturn, 1) := by decide +kernel
theorem dX1_holds_50 : decode cX1_holds 50 = .ok (.iload_n 1, 1) := by decide +kernel
theorem dX1_holds_51 : decode cX1_holds 51 = .ok (.iload_n 2, 1) := by decide +kernel
theorem dX1_holds_52 : decode cX1_holds 52 = .ok (.if_icmp .ge 7, 3) := by decide +kernel
theorem dX1_holds_55 : decode cX1_holds 55 = .ok (.iconst 1, 1) := by decide +kernel
theorem dX1_holds_56 : decode cX1_holds 56 = .ok (.goto 4, 3) := by decide +kernel
theorem dX1_holds_59 : decode cX1_holds 59 = .ok (.iconst 0, 1) := by decide +kernel
theorem dX1_holds_60 : decode cX1_holds 60 = .ok (.ireturn, 1) := by decide +kernel
theorem dX1_holds_61 : decode cX1_holds 61 = .ok (.iload_n 1, 1) := by decide +kernel
theorem dX1_holds_62 : decode cX1_holds 62 = .ok (.iload_n 2, 1) := by decide +kernel
theorem dX1_holds_63 : decode cX1_holds 63 = .ok (.if_icmp .gt 7, 3) := by decide +kernel
theorem dX1_holds_66 : decode cX1_holds 66 = .ok (.iconst 1, 1) := by decide +kernel
theorem dX1_holds_67 : decode cX1_holds 67 = .ok (.goto 4, 3) := by decide +kernel
theorem dX1_holds_70 : decode cX1_holds 70 = .ok (.iconst 0, 1) := by decide +kernel
theorem dX1_holds_71 : decode cX1_holds 71 = .ok (.ireturn, 1) := by decide +kernel
def p_X1_holds (mm : MM) (a0 : Int32) (a1 : Int32) (a2 : Int32) : Prop := ((a0 = (34 : Int32) ∧ a1 = a2) ∨ (¬ a0 = (34 : Int32) ∧ ((a0 = (35 : Int32) ∧ ¬ a1 = a2) ∨ (¬ a0 = (35 : Int32) ∧ ((a0 = (36 : Int32) ∧ ¬ a2 ≤ a1) ∨ (¬ a0 = (36 : Int32) ∧ ¬ a2 < a1))))))
theorem rv_X1_holds (mm : MM) (a0 : Int32) (a1 : Int32) (a2 : Int32) : Runs e_X1_holds [.int a0, .int a1, .int a2] mm (fun r m_ => ((p_X1_holds mm a0 a1 a2 ∧ r = .int 1) ∨ (¬ p_X1_holds mm a0 a1 a2 ∧ r = .int 0)) ∧ mm = m_) := by
  refine runs_of_G (L := [(0, .int a0), (1, .int a1), (2, .int a2)]) pl_X1 (Nat.le_of_ble_eq_true rfl) rfl ?_
  refine g_iload_n (pc := 0) (x := a0) dX1_holds_0 rfl ?_
  by_cases c1_0 : a0 = (34 : Int32)
  · have c1_0_0 : a0 = (34 : Int32) := c1_0
    refine g_tsIn (pc := 1) (off := 27) (tgt := 28) dX1_holds_1 (by rw [c1_0]; decide) (by rw [c1_0]; decide) (by rw [c1_0]; rfl) (by decide) ?_
    refine g_iload_n (pc := 28) (x := a1) dX1_holds_28 rfl ?_
    refine g_iload_n (pc := 29) (x := a2) dX1_holds_29 rfl ?_
    refine g_icmp_ne (pc := 30) (tgt := 37) dX1_holds_30 (by decide) (fun c30 => ?_) (fun c30 => ?_)
    · have c30_1 : ¬ a1 = a2 := c30
      refine g_iconst (pc := 37) (v := (0 : Int32)) dX1_holds_37 (by decide) ?_
      exact g_iret (pc := 38) dX1_holds_38 rfl rfl (nar_B isB0) ⟨Or.inr ⟨(show ¬ p_X1_holds mm a0 a1 a2 from (fun h_ => h_.elim (fun z_ => c30_1 z_.2) (fun z_ => (z_.1 c1_0_0)))), rfl⟩, rfl⟩
    · have c30_1 : a1 = a2 := c30
      refine g_iconst (pc := 33) (v := (1 : Int32)) dX1_holds_33 (by decide) ?_
      refine g_goto (pc := 34) (tgt := 38) dX1_holds_34 (by decide) ?_
      exact g_iret (pc := 38) dX1_holds_38 rfl rfl (nar_B isB1) ⟨Or.inl ⟨(show p_X1_holds mm a0 a1 a2 from (Or.inl ⟨c1_0_0, c30_1⟩)), rfl⟩, rfl⟩
  · have c1_0_0 : ¬ a0 = (34 : Int32) := c1_0
    by_cases c1_1 : a0 = (35 : Int32)
    · have c1_1_1 : a0 = (35 : Int32) := c1_1
      refine g_tsIn (pc := 1) (off := 38) (tgt := 39) dX1_holds_1 (by rw [c1_1]; decide) (by rw [c1_1]; decide) (by rw [c1_1]; rfl) (by decide) ?_
      refine g_iload_n (pc := 39) (x := a1) dX1_holds_39 rfl ?_
      refine g_iload_n (pc := 40) (x := a2) dX1_holds_40 rfl ?_
      refine g_icmp_eq (pc := 41) (tgt := 48) dX1_holds_41 (by decide) (fun c41 => ?_) (fun c41 => ?_)
      · have c41_2 : a1 = a2 := c41
        refine g_iconst (pc := 48) (v := (0 : Int32)) dX1_holds_48 (by decide) ?_
        exact g_iret (pc := 49) dX1_holds_49 rfl rfl (nar_B isB0) ⟨Or.inr ⟨(show ¬ p_X1_holds mm a0 a1 a2 from (fun h_ => h_.elim (fun z_ => (c1_0_0 z_.1)) (fun z_ => (fun h_ => h_.elim (fun z_ => (not_not_intro c41_2) z_.2) (fun z_ => (z_.1 c1_1_1))) z_.2))), rfl⟩, rfl⟩
      · have c41_2 : ¬ a1 = a2 := c41
        refine g_iconst (pc := 44) (v := (1 : Int32)) dX1_holds_44 (by decide) ?_
        refine g_goto (pc := 45) (tgt := 49) dX1_holds_45 (by decide) ?_
        exact g_iret (pc := 49) dX1_holds_49 rfl rfl (nar_B isB1) ⟨Or.inl ⟨(show p_X1_holds mm a0 a1 a2 from (Or.inr ⟨c1_0_0, (Or.inl ⟨c1_1_1, c41_2⟩)⟩)), rfl⟩, rfl⟩
    · have c1_1_1 : ¬ a0 = (35 : Int32) := c1_1
      by_cases c1_2 : a0 = (36 : Int32)
      · have c1_2_2 : a0 = (36 : Int32) := c1_2
        refine g_tsIn (pc := 1) (off := 49) (tgt := 50) dX1_holds_1 (by rw [c1_2]; decide) (by rw [c1_2]; decide) (by rw [c1_2]; rfl) (by decide) ?_
        refine g_iload_n (pc := 50) (x := a1) dX1_holds_50 rfl ?_
        refine g_iload_n (pc := 51) (x := a2) dX1_holds_51 rfl ?_
        refine g_icmp_ge (pc := 52) (tgt := 59) dX1_holds_52 (by decide) (fun c52 => ?_) (fun c52 => ?_)
        · have c52_3 : a2 ≤ a1 := c52
          refine g_iconst (pc := 59) (v := (0 : Int32)) dX1_holds_59 (by decide) ?_
          exact g_iret (pc := 60) dX1_holds_60 rfl rfl (nar_B isB0) ⟨Or.inr ⟨(show ¬ p_X1_holds mm a0 a1 a2 from (fun h_ => h_.elim (fun z_ => (c1_0_0 z_.1)) (fun z_ => (fun h_ => h_.elim (fun z_ => (c1_1_1 z_.1)) (fun z_ => (fun h_ => h_.elim (fun z_ => (not_not_intro c52_3) z_.2) (fun z_ => (z_.1 c1_2_2))) z_.2)) z_.2))), rfl⟩, rfl⟩
        · have c52_3 : ¬ a2 ≤ a1 := c52
          refine g_iconst (pc := 55) (v := (1 : Int32)) dX1_holds_55 (by decide) ?_
          refine g_goto (pc := 56) (tgt := 60) dX1_holds_56 (by decide) ?_
          exact g_iret (pc := 60) dX1_holds_60 rfl rfl (nar_B isB1) ⟨Or.inl ⟨(show p_X1_holds mm a0 a1 a2 from (Or.inr ⟨c1_0_0, (Or.inr ⟨c1_1_1, (Or.inl ⟨c1_2_2, c52_3⟩)⟩)⟩)), rfl⟩, rfl⟩
      · have c1_2_2 : ¬ a0 = (36 : Int32) := c1_2
        refine g_tsOut (pc := 1) (tgt := 61) dX1_holds_1 (by have e0_ := ts_ne (k := 34) c1_0 (by decide); have e1_ := ts_ne (k := 35) c1_1 (by decide); have e2_ := ts_ne (k := 36) c1_2 (by decide); omega) (by decide) ?_
        refine g_iload_n (pc := 61) (x := a1) dX1_holds_61 rfl ?_
        refine g_iload_n (pc := 62) (x := a2) dX1_holds_62 rfl ?_
        refine g_icmp_gt (pc := 63) (tgt := 70) dX1_holds_63 (by decide) (fun c63 => ?_) (fun c63 => ?_)
        · have c63_3 : a2 < a1 := c63
          refine g_iconst (pc := 70) (v := (0 : Int32)) dX1_holds_70 (by decide) ?_
          exact g_iret (pc := 71) dX1_holds_71 rfl rfl (nar_B isB0) ⟨Or.inr ⟨(show ¬ p_X1_holds mm a0 a1 a2 from (fun h_ => h_.elim (fun z_ => (c1_0_0 z_.1)) (fun z_ => (fun h_ => h_.elim (fun z_ => (c1_1_1 z_.1)) (fun z_ => (fun h_ => h_.elim (fun z_ => (c1_2_2 z_.1)) (fun z_ => (not_not_intro c63_3) z_.2)) z_.2)) z_.2))), rfl⟩, rfl⟩
        · have c63_3 : ¬ a2 < a1 := c63
          refine g_iconst (pc := 66) (v := (1 : Int32)) dX1_holds_66 (by decide) ?_
          refine g_goto (pc := 67) (tgt := 71) dX1_holds_67 (by decide) ?_
          exact g_iret (pc := 71) dX1_holds_71 rfl rfl (nar_B isB1) ⟨Or.inl ⟨(show p_X1_holds mm a0 a1 a2 from (Or.inr ⟨c1_0_0, (Or.inr ⟨c1_1_1, (Or.inr ⟨c1_2_2, c63_3⟩)⟩)⟩)), rfl⟩, rfl⟩
theorem dX11_reckons_0 : decode cX11_reckons 0 = .ok (.iload_n 0, 1) := by decide +kernel
theorem dX11_reckons_1 : decode cX11_reckons 1 = .ok (.bipush 30, 2) := by decide +kernel
theorem dX11_reckons_3 : decode cX11_reckons 3 = .ok (.if_icmp .lt 13, 3) := by decide +kernel
theorem dX11_reckons_6 : decode cX11_reckons 6 = .ok (.iload_n 0, 1) := by decide +kernel
theorem dX11_reckons_7 : decode cX11_reckons 7 = .ok (.bipush 33, 2) := by decide +kernel
theorem dX11_reckons_9 : decode cX11_reckons 9 = .ok (.if_icmp .gt 7, 3) := by decide +kernel
theorem dX11_reckons_12 : decode cX11_reckons 12 = .ok (.iconst 1, 1) := by decide +kernel
theorem dX11_reckons_13 : decode cX11_reckons 13 = .ok (.goto 4, 3) := by decide +kernel
theorem dX11_reckons_16 : decode cX11_reckons 16 = .ok (.iconst 0, 1) := by decide +kernel
theorem dX11_reckons_17 : decode cX11_reckons 17 = .ok (.ireturn, 1) := by decide +kernel
def p_X11_reckons (mm : MM) (a0 : Int32) : Prop := (¬ a0 < (30 : Int32) ∧ ¬ (33 : Int32) < a0)
theorem rv_X11_reckons (mm : MM) (a0 : Int32) : Runs e_X11_reckons [.int a0] mm (fun r m_ => ((p_X11_reckons mm a0 ∧ r = .int 1) ∨ (¬ p_X11_reckons mm a0 ∧ r = .int 0)) ∧ mm = m_) := by
  refine runs_of_G (L := [(0, .int a0)]) pl_X11 (Nat.le_of_ble_eq_true rfl) rfl ?_
  refine g_iload_n (pc := 0) (x := a0) dX11_reckons_0 rfl ?_
  refine g_bipush (pc := 1) (v := (30 : Int32)) dX11_reckons_1 (by decide) ?_
  refine g_icmp_lt (pc := 3) (tgt := 16) dX11_reckons_3 (by decide) (fun c3 => ?_) (fun c3 => ?_)
  · have c3_0 : a0 < (30 : Int32) := c3
    refine g_iconst (pc := 16) (v := (0 : Int32)) dX11_reckons_16 (by decide) ?_
    exact g_iret (pc := 17) dX11_reckons_17 rfl rfl (nar_B isB0) ⟨Or.inr ⟨(show ¬ p_X11_reckons mm a0 from (fun h_ => (h_.1 c3_0))), rfl⟩, rfl⟩
  · have c3_0 : ¬ a0 < (30 : Int32) := c3
    refine g_iload_n (pc := 6) (x := a0) dX11_reckons_6 rfl ?_
    refine g_bipush (pc := 7) (v := (33 : Int32)) dX11_reckons_7 (by decide) ?_
    refine g_icmp_gt (pc := 9) (tgt := 16) dX11_reckons_9 (by decide) (fun c9 => ?_) (fun c9 => ?_)
    · have c9_1 : (33 : Int32) < a0 := c9
      refine g_iconst (pc := 16) (v := (0 : Int32)) dX11_reckons_16 (by decide) ?_
      exact g_iret (pc := 17) dX11_reckons_17 rfl rfl (nar_B isB0) ⟨Or.inr ⟨(show ¬ p_X11_reckons mm a0 from (fun h_ => (not_not_intro c9_1) h_.2)), rfl⟩, rfl⟩
    · have c9_1 : ¬ (33 : Int32) < a0 := c9
      refine g_iconst (pc := 12) (v := (1 : Int32)) dX11_reckons_12 (by decide) ?_
      refine g_goto (pc := 13) (tgt := 17) dX11_reckons_13 (by decide) ?_
      exact g_iret (pc := 17) dX11_reckons_17 rfl rfl (nar_B isB1) ⟨Or.inl ⟨(show p_X11_reckons mm a0 from ⟨c3_0, c9_1⟩), rfl⟩, rfl⟩
theorem dX1_join_0 : decode cX1_join 0 = .ok (.aload_n 0, 1) := by decide +kernel
theorem dX1_join_1 : decode cX1_join 1 = .ok (.getfield 31, 3) := by decide +kernel
theorem dX1_join_4 : decode cX1_join 4 = .ok (.iconst 2, 1) := by decide +kernel
theorem dX1_join_5 : decode cX1_join 5 = .ok (.if_icmp .lt 12, 3) := by decide +kernel
theorem dX1_join_8 : decode cX1_join 8 = .ok (.aload_n 0, 1) := by decide +kernel
theorem dX1_join_9 : decode cX1_join 9 = .ok (.getfield 31, 3) := by decide +kernel
theorem dX1_join_12 : decode cX1_join 12 = .ok (.bipush 32, 2) := by decide +kernel
theorem dX1_join_14 : decode cX1_join 14 = .ok (.if_icmp .le 4, 3) := by decide +kernel
theorem dX1_join_17 : decode cX1_join 17 = .ok (.return_, 1) := by decide +kernel
theorem dX1_join_18 : decode cX1_join 18 = .ok (.aload_n 0, 1) := by decide +kernel
theorem dX1_join_19 : decode cX1_join 19 = .ok (.getfield 24, 3) := by decide +kernel
theorem dX1_join_22 : decode cX1_join 22 = .ok (.aload_n 0, 1) := by decide +kernel
theorem dX1_join_23 : decode cX1_join 23 = .ok (.getfield 31, 3) := by decide +kernel
theorem dX1_join_26 : decode cX1_join 26 = .ok (.iconst 2, 1) := by decide +kernel
theorem dX1_join_27 : decode cX1_join 27 = .ok (.isub, 1) := by decide +kernel
theorem dX1_join_28 : decode cX1_join 28 = .ok (.iaload, 1) := by decide +kernel
theorem dX1_join_29 : decode cX1_join 29 = .ok (.istore_n 2, 1) := by decide +kernel
theorem dX1_join_30 : decode cX1_join 30 = .ok (.aload_n 0, 1) := by decide +kernel
theorem dX1_join_31 : decode cX1_join 31 = .ok (.getfield 24, 3) := by decide +kernel
theorem dX1_join_34 : decode cX1_join 34 = .ok (.aload_n 0, 1) := by decide +kernel
theorem dX1_join_35 : decode cX1_join 35 = .ok (.getfield 31, 3) := by decide +kernel
theorem dX1_join_38 : decode cX1_join 38 = .ok (.iconst 1, 1) := by decide +kernel
theorem dX1_join_39 : decode cX1_join 39 = .ok (.isub, 1) := by decide +kernel
theorem dX1_join_40 : decode cX1_join 40 = .ok (.iaload, 1) := by decide +kernel
theorem dX1_join_41 : decode cX1_join 41 = .ok (.istore_n 3, 1) := by decide +kernel
theorem dX1_join_42 : decode cX1_join 42 = .ok (.aload_n 0, 1) := by decide +kernel
theorem dX1_join_43 : decode cX1_join 43 = .ok (.dup, 1) := by decide +kernel
theorem dX1_join_44 : decode cX1_join 44 = .ok (.getfield 31, 3) := by decide +kernel
theorem dX1_join_47 : decode cX1_join 47 = .ok (.iconst 1, 1) := by decide +kernel
theorem dX1_join_48 : decode cX1_join 48 = .ok (.isub, 1) := by decide +kernel
theorem dX1_join_49 : decode cX1_join 49 = .ok (.putfield 31, 3) := by decide +kernel
theorem dX1_join_52 : decode cX1_join 52 = .ok (.iload_n 1, 1) := by decide +kernel
theorem dX1_join_53 : decode cX1_join 53 = .ok (.invokestatic 71, 3) := by decide +kernel
theorem dX1_join_56 : decode cX1_join 56 = .ok (.ifCond .eq 43, 3) := by decide +kernel
theorem dX1_join_59 : decode cX1_join 59 = .ok (.aload_n 0, 1) := by decide +kernel
theorem dX1_join_60 : decode cX1_join 60 = .ok (.getfield 24, 3) := by decide +kernel
theorem dX1_join_63 : decode cX1_join 63 = .ok (.aload_n 0, 1) := by decide +kernel
theorem dX1_join_64 : decode cX1_join 64 = .ok (.getfield 31, 3) := by decide +kernel
theorem dX1_join_67 : decode cX1_join 67 = .ok (.iconst 1, 1) := by decide +kernel
theorem dX1_join_68 : decode cX1_join 68 = .ok (.isub, 1) := by decide +kernel
theorem dX1_join_69 : decode cX1_join 69 = .ok (.aload_n 0, 1) := by decide +kernel
theorem dX1_join_70 : decode cX1_join 70 = .ok (.getfield 34, 3) := by decide +kernel
theorem dX1_join_73 : decode cX1_join 73 = .ok (.ifCond .ne 16, 3) := by decide +kernel
theorem dX1_join_76 : decode cX1_join 76 = .ok (.iload_n 1, 1) := by decide +kernel
theorem dX1_join_77 : decode cX1_join 77 = .ok (.iload_n 2, 1) := by decide +kernel
theorem dX1_join_78 : decode cX1_join 78 = .ok (.iload_n 3, 1) := by decide +kernel
theorem dX1_join_79 : decode cX1_join 79 = .ok (.invokestatic 74, 3) := by decide +kernel
theorem dX1_join_82 : decode cX1_join 82 = .ok (.ifCond .eq 7, 3) := by decide +kernel
theorem dX1_join_85 : decode cX1_join 85 = .ok (.iconst 1, 1) := by decide +kernel
theorem dX1_join_86 : decode cX1_join 86 = .ok (.goto 4, 3) := by decide +kernel
theorem dX1_join_89 : decode cX1_join 89 = .ok (.iconst 0, 1) := by decide +kernel
theorem dX1_join_90 : decode cX1_join 90 = .ok (.iastore, 1) := by decide +kernel
theorem dX1_join_91 : decode cX1_join 91 = .ok (.aload_n 0, 1) := by decide +kernel
theorem dX1_join_92 : decode cX1_join 92 = .ok (.iconst 0, 1) := by decide +kernel
theorem dX1_join_93 : decode cX1_join 93 = .ok (.putfield 34, 3) := by decide +kernel
theorem dX1_join_96 : decode cX1_join 96 = .ok (.goto 57, 3) := by decide +kernel
theorem dX1_join_99 : decode cX1_join 99 = .ok (.iload_n 1, 1) := by decide +kernel
theorem dX1_join_100 : decode cX1_join 100 = .ok (.invokestatic 78, 3) := by decide +kernel
theorem dX1_join_103 : decode cX1_join 103 = .ok (.ifCond .eq 24, 3) := by decide +kernel
theorem dX1_join_106 : decode cX1_join 106 = .ok (.aload_n 0, 1) := by decide +kernel
theorem dX1_join_107 : decode cX1_join 107 = .ok (.getfield 24, 3) := by decide +kernel
theorem dX1_join_110 : decode cX1_join 110 = .ok (.aload_n 0, 1) := by decide +kernel
theorem dX1_join_111 : decode cX1_join 111 = .ok (.getfield 31, 3) := by decide +kernel
theorem dX1_join_114 : decode cX1_join 114 = .ok (.iconst 1, 1) := by decide +kernel
theorem dX1_join_115 : decode cX1_join 115 = .ok (.isub, 1) := by decide +kernel
theorem dX1_join_116 : decode cX1_join 116 = .ok (.aload_n 0, 1) := by decide +kernel
theorem dX1_join_117 : decode cX1_join 117 = .ok (.iload_n 1, 1) := by decide +kernel
theorem dX1_join_118 : decode cX1_join 118 = .ok (.iload_n 2, 1) := by decide +kernel
theorem dX1_join_119 : decode cX1_join 119 = .ok (.iload_n 3, 1) := by decide +kernel
theorem dX1_join_120 : decode cX1_join 120 = .ok (.invokevirtual 81, 3) := by decide +kernel
theorem dX1_join_123 : decode cX1_join 123 = .ok (.iastore, 1) := by decide +kernel
theorem dX1_join_124 : decode cX1_join 124 = .ok (.goto 29, 3) := by decide +kernel
theorem dX1_join_127 : decode cX1_join 127 = .ok (.aload_n 0, 1) := by decide +kernel
theorem dX1_join_128 : decode cX1_join 128 = .ok (.getfield 24, 3) := by decide +kernel
theorem dX1_join_131 : decode cX1_join 131 = .ok (.aload_n 0, 1) := by decide +kernel
theorem dX1_join_132 : decode cX1_join 132 = .ok (.getfield 31, 3) := by decide +kernel
theorem dX1_join_135 : decode cX1_join 135 = .ok (.iconst 1, 1) := by decide +kernel
theorem dX1_join_136 : decode cX1_join 136 = .ok (.isub, 1) := by decide +kernel
theorem dX1_join_137 : decode cX1_join 137 = .ok (.iload_n 1, 1) := by decide +kernel
theorem dX1_join_138 : decode cX1_join 138 = .ok (.bipush 24, 2) := by decide +kernel
theorem dX1_join_140 : decode cX1_join 140 = .ok (.if_icmp .ne 9, 3) := by decide +kernel
theorem dX1_join_143 : decode cX1_join 143 = .ok (.iload_n 2, 1) := by decide +kernel
theorem dX1_join_144 : decode cX1_join 144 = .ok (.iload_n 3, 1) := by decide +kernel
theorem dX1_join_145 : decode cX1_join 145 = .ok (.iand, 1) := by decide +kernel
theorem dX1_join_146 : decode cX1_join 146 = .ok (.goto 6, 3) := by decide +kernel
theorem dX1_join_149 : decode cX1_join 149 = .ok (.iload_n 2, 1) := by decide +kernel
theorem dX1_join_150 : decode cX1_join 150 = .ok (.iload_n 3, 1) := by decide +kernel
theorem dX1_join_151 : decode cX1_join 151 = .ok (.ior, 1) := by decide +kernel
theorem dX1_join_152 : decode cX1_join 152 = .ok (.iastore, 1) := by decide +kernel
theorem dX1_join_153 : decode cX1_join 153 = .ok (.return_, 1) := by decide +kernel
theorem b_X1_join (mm : MM) (Q : Value → MM → Prop) (t0 : Nat) (a1 : Int32) (h0 : AtLaws t0) (h : ((mm.1 t0 6) < (2 : Int32) → (Q .null mm)) ∧ (¬ (mm.1 t0 6) < (2 : Int32) → (((mm.1 t0 6) ≤ (32 : Int32) → (vp_in ((mm.1 t0 6) - (2 : Int32)) 32 ∧ (vp_in ((mm.1 t0 6) - (1 : Int32)) 32 ∧ ((p_X11_compares (wI mm t0 6 ((mm.1 t0 6) - (1 : Int32))) a1 → ((¬ ((wI mm t0 6 ((mm.1 t0 6) - (1 : Int32))).1 t0 7) = 0 → (vp_in (((wI mm t0 6 ((mm.1 t0 6) - (1 : Int32))).1 t0 6) - (1 : Int32)) 32 ∧ (Q .null (wI (wI (wI mm t0 6 ((mm.1 t0 6) - (1 : Int32))) (t0 + 5) ((((wI mm t0 6 ((mm.1 t0 6) - (1 : Int32))).1 t0 6) - (1 : Int32)).toNatClampNeg) (0 : Int32)) t0 7 (0 : Int32))))) ∧ (((wI mm t0 6 ((mm.1 t0 6) - (1 : Int32))).1 t0 7) = 0 → ((p_X1_holds (wI mm t0 6 ((mm.1 t0 6) - (1 : Int32))) a1 (mm.1 (t0 + 5) ((mm.1 t0 6) - (2 : Int32)).toNatClampNeg) (mm.1 (t0 + 5) ((mm.1 t0 6) - (1 : Int32)).toNatClampNeg) → (vp_in (((wI mm t0 6 ((mm.1 t0 6) - (1 : Int32))).1 t0 6) - (1 : Int32)) 32 ∧ (Q .null (wI (wI (wI mm t0 6 ((mm.1 t0 6) - (1 : Int32))) (t0 + 5) ((((wI mm t0 6 ((mm.1 t0 6) - (1 : Int32))).1 t0 6) - (1 : Int32)).toNatClampNeg) (1 : Int32)) t0 7 (0 : Int32))))) ∧ (¬ p_X1_holds (wI mm t0 6 ((mm.1 t0 6) - (1 : Int32))) a1 (mm.1 (t0 + 5) ((mm.1 t0 6) - (2 : Int32)).toNatClampNeg) (mm.1 (t0 + 5) ((mm.1 t0 6) - (1 : Int32)).toNatClampNeg) → (vp_in (((wI mm t0 6 ((mm.1 t0 6) - (1 : Int32))).1 t0 6) - (1 : Int32)) 32 ∧ (Q .null (wI (wI (wI mm t0 6 ((mm.1 t0 6) - (1 : Int32))) (t0 + 5) ((((wI mm t0 6 ((mm.1 t0 6) - (1 : Int32))).1 t0 6) - (1 : Int32)).toNatClampNeg) (0 : Int32)) t0 7 (0 : Int32))))))))) ∧ (¬ p_X11_compares (wI mm t0 6 ((mm.1 t0 6) - (1 : Int32))) a1 → ((p_X11_reckons (wI mm t0 6 ((mm.1 t0 6) - (1 : Int32))) a1 → (∃ Pm1 : Value → MM → Prop, Runs e_X1_reckon [.ref t0, .int a1, .int (mm.1 (t0 + 5) ((mm.1 t0 6) - (2 : Int32)).toNatClampNeg), .int (mm.1 (t0 + 5) ((mm.1 t0 6) - (1 : Int32)).toNatClampNeg)] (wI mm t0 6 ((mm.1 t0 6) - (1 : Int32))) Pm1 ∧ ∀ (r1 : Int32) (m1 : MM), Pm1 (.int r1) m1 → (vp_in (((wI mm t0 6 ((mm.1 t0 6) - (1 : Int32))).1 t0 6) - (1 : Int32)) 32 ∧ (Q .null (wI m1 (t0 + 5) ((((wI mm t0 6 ((mm.1 t0 6) - (1 : Int32))).1 t0 6) - (1 : Int32)).toNatClampNeg) r1))))) ∧ (¬ p_X11_reckons (wI mm t0 6 ((mm.1 t0 6) - (1 : Int32))) a1 → ((¬ a1 = (24 : Int32) → (vp_in (((wI mm t0 6 ((mm.1 t0 6) - (1 : Int32))).1 t0 6) - (1 : Int32)) 32 ∧ (Q .null (wI (wI mm t0 6 ((mm.1 t0 6) - (1 : Int32))) (t0 + 5) ((((wI mm t0 6 ((mm.1 t0 6) - (1 : Int32))).1 t0 6) - (1 : Int32)).toNatClampNeg) ((mm.1 (t0 + 5) ((mm.1 t0 6) - (2 : Int32)).toNatClampNeg) ||| (mm.1 (t0 + 5) ((mm.1 t0 6) - (1 : Int32)).toNatClampNeg)))))) ∧ (a1 = (24 : Int32) → (vp_in (((wI mm t0 6 ((mm.1 t0 6) - (1 : Int32))).1 t0 6) - (1 : Int32)) 32 ∧ (Q .null (wI (wI mm t0 6 ((mm.1 t0 6) - (1 : Int32))) (t0 + 5) ((((wI mm t0 6 ((mm.1 t0 6) - (1 : Int32))).1 t0 6) - (1 : Int32)).toNatClampNeg) ((mm.1 (t0 + 5) ((mm.1 t0 6) - (2 : Int32)).toNatClampNeg) &&& (mm.1 (t0 + 5) ((mm.1 t0 6) - (1 : Int32)).toNatClampNeg)))))))))))))) ∧ (¬ (mm.1 t0 6) ≤ (32 : Int32) → (Q .null mm))))) : Runs e_X1_join [.ref t0, .int a1] mm Q := by
  refine runs_of_G (L := [(0, .ref t0), (1, .int a1)]) pl_X1 (Nat.le_of_ble_eq_true rfl) rfl ?_
  refine g_aload_n (pc := 0) (x := t0) dX1_join_0 rfl ?_
  refine g_getI (pc := 1) dX1_join_1 fo_X1_31 (AtLaws_0 h0) rfl ?_
  refine g_iconst (pc := 4) (v := (2 : Int32)) dX1_join_4 (by decide) ?_
  refine g_icmp_lt (pc := 5) (tgt := 17) dX1_join_5 (by decide) (fun c5 => ?_) (fun c5 => ?_)
  · have h := h.1 c5
    exact g_vret (pc := 17) dX1_join_17 rfl rfl h
  · have h := h.2 c5
    refine g_aload_n (pc := 8) (x := t0) dX1_join_8 rfl ?_
    refine g_getI (pc := 9) dX1_join_9 fo_X1_31 (AtLaws_0 h0) rfl ?_
    refine g_bipush (pc := 12) (v := (32 : Int32)) dX1_join_12 (by decide) ?_
    refine g_icmp_le (pc := 14) (tgt := 18) dX1_join_14 (by decide) (fun c14 => ?_) (fun c14 => ?_)
    · have h := h.1 c14
      refine g_aload_n (pc := 18) (x := t0) dX1_join_18 rfl ?_
      refine g_getR (pc := 19) (dd := 5) dX1_join_19 fo_X1_24 (AtLaws_0 h0) rfl ?_
      refine g_aload_n (pc := 22) (x := t0) dX1_join_22 rfl ?_
      refine g_getI (pc := 23) dX1_join_23 fo_X1_31 (AtLaws_0 h0) rfl ?_
      refine g_iconst (pc := 26) (v := (2 : Int32)) dX1_join_26 (by decide) ?_
      refine g_isub (pc := 27) dX1_join_27 ?_
      refine g_iaload (pc := 28) dX1_join_28 (AtLaws_5 h0) h.1 ?_
      have h := h.2
      refine g_istore_n (pc := 29) (L' := [(0, .ref t0), (1, .int a1), (2, .int (mm.1 (t0 + 5) ((mm.1 t0 6) - (2 : Int32)).toNatClampNeg))]) dX1_join_29 (Nat.le_of_ble_eq_true rfl) rfl ?_
      refine g_aload_n (pc := 30) (x := t0) dX1_join_30 rfl ?_
      refine g_getR (pc := 31) (dd := 5) dX1_join_31 fo_X1_24 (AtLaws_0 h0) rfl ?_
      refine g_aload_n (pc := 34) (x := t0) dX1_join_34 rfl ?_
      refine g_getI (pc := 35) dX1_join_35 fo_X1_31 (AtLaws_0 h0) rfl ?_
      refine g_iconst (pc := 38) (v := (1 : Int32)) dX1_join_38 (by decide) ?_
      refine g_isub (pc := 39) dX1_join_39 ?_
      refine g_iaload (pc := 40) dX1_join_40 (AtLaws_5 h0) h.1 ?_
      have h := h.2
      refine g_istore_n (pc := 41) (L' := [(0, .ref t0), (1, .int a1), (2, .int (mm.1 (t0 + 5) ((mm.1 t0 6) - (2 : Int32)).toNatClampNeg)), (3, .int (mm.1 (t0 + 5) ((mm.1 t0 6) - (1 : Int32)).toNatClampNeg))]) dX1_join_41 (Nat.le_of_ble_eq_true rfl) rfl ?_
      refine g_aload_n (pc := 42) (x := t0) dX1_join_42 rfl ?_
      refine g_dup (pc := 43) dX1_join_43 rfl ?_
      refine g_getI (pc := 44) dX1_join_44 fo_X1_31 (AtLaws_0 h0) rfl ?_
      refine g_iconst (pc := 47) (v := (1 : Int32)) dX1_join_47 (by decide) ?_
      refine g_isub (pc := 48) dX1_join_48 ?_
      refine g_putI (pc := 49) dX1_join_49 fo_X1_31 (AtLaws_0 h0) rfl rfl rfl ?_
      refine g_iload_n (pc := 52) (x := a1) dX1_join_52 rfl ?_
      refine g_callSN (pc := 53) (as := [.int a1]) dX1_join_53 cw_X1_71 (by decide) rfl rfl (Nat.le_of_ble_eq_true rfl) (rv_X11_compares (wI mm t0 6 ((mm.1 t0 6) - (1 : Int32))) a1) ?_
      rintro r_ m_ hz_ ⟨⟨p_, rfl⟩ | ⟨p_, rfl⟩, rfl⟩
      · have h := h.1 p_
        refine g_if_eq (pc := 56) (tgt := 99) dX1_join_56 (by decide) (fun c56 => absurd c56 (by decide)) (fun _ => ?_)
        refine g_aload_n (pc := 59) (x := t0) dX1_join_59 rfl ?_
        refine g_getR (pc := 60) (dd := 5) dX1_join_60 fo_X1_24 (AtLaws_0 h0) rfl ?_
        refine g_aload_n (pc := 63) (x := t0) dX1_join_63 rfl ?_
        refine g_getI (pc := 64) dX1_join_64 fo_X1_31 (AtLaws_0 h0) rfl ?_
        refine g_iconst (pc := 67) (v := (1 : Int32)) dX1_join_67 (by decide) ?_
        refine g_isub (pc := 68) dX1_join_68 ?_
        refine g_aload_n (pc := 69) (x := t0) dX1_join_69 rfl ?_
        refine g_getI (pc := 70) dX1_join_70 fo_X1_34 (AtLaws_0 h0) rfl ?_
        refine g_if_ne (pc := 73) (tgt := 89) dX1_join_73 (by decide) (fun c73 => ?_) (fun c73 => ?_)
        · have h := h.1 c73
          refine g_iconst (pc := 89) (v := (0 : Int32)) dX1_join_89 (by decide) ?_
          refine g_iastore (pc := 90) dX1_join_90 (AtLaws_5 h0) h.1 ?_
          have h := h.2
          refine g_aload_n (pc := 91) (x := t0) dX1_join_91 rfl ?_
          refine g_iconst (pc := 92) (v := (0 : Int32)) dX1_join_92 (by decide) ?_
          refine g_putI (pc := 93) dX1_join_93 fo_X1_34 (AtLaws_0 h0) rfl (nar_B isB0) (fit_B isB0) ?_
          refine g_goto (pc := 96) (tgt := 153) dX1_join_96 (by decide) ?_
          exact g_vret (pc := 153) dX1_join_153 rfl rfl h
        · have h := h.2 c73
          refine g_iload_n (pc := 76) (x := a1) dX1_join_76 rfl ?_
          refine g_iload_n (pc := 77) (x := (mm.1 (t0 + 5) ((mm.1 t0 6) - (2 : Int32)).toNatClampNeg)) dX1_join_77 rfl ?_
          refine g_iload_n (pc := 78) (x := (mm.1 (t0 + 5) ((mm.1 t0 6) - (1 : Int32)).toNatClampNeg)) dX1_join_78 rfl ?_
          refine g_callS (pc := 79) (as := [.int a1, .int (mm.1 (t0 + 5) ((mm.1 t0 6) - (2 : Int32)).toNatClampNeg), .int (mm.1 (t0 + 5) ((mm.1 t0 6) - (1 : Int32)).toNatClampNeg)]) dX1_join_79 cw_X1_74 (by decide) rfl rfl (Nat.le_of_ble_eq_true rfl) (rv_X1_holds (wI mm t0 6 ((mm.1 t0 6) - (1 : Int32))) a1 (mm.1 (t0 + 5) ((mm.1 t0 6) - (2 : Int32)).toNatClampNeg) (mm.1 (t0 + 5) ((mm.1 t0 6) - (1 : Int32)).toNatClampNeg)) ?_
          rintro r_ m_ hz_ ⟨⟨p_, rfl⟩ | ⟨p_, rfl⟩, rfl⟩
          · have h := h.1 p_
            refine g_if_eq (pc := 82) (tgt := 89) dX1_join_82 (by decide) (fun c82 => absurd c82 (by decide)) (fun _ => ?_)
            refine g_iconst (pc := 85) (v := (1 : Int32)) dX1_join_85 (by decide) ?_
            refine g_goto (pc := 86) (tgt := 90) dX1_join_86 (by decide) ?_
            refine g_iastore (pc := 90) dX1_join_90 (AtLaws_5 h0) h.1 ?_
            have h := h.2
            refine g_aload_n (pc := 91) (x := t0) dX1_join_91 rfl ?_
            refine g_iconst (pc := 92) (v := (0 : Int32)) dX1_join_92 (by decide) ?_
            refine g_putI (pc := 93) dX1_join_93 fo_X1_34 (AtLaws_0 h0) rfl (nar_B isB0) (fit_B isB0) ?_
            refine g_goto (pc := 96) (tgt := 153) dX1_join_96 (by decide) ?_
            exact g_vret (pc := 153) dX1_join_153 rfl rfl h
          · have h := h.2 p_
            refine g_if_eq (pc := 82) (tgt := 89) dX1_join_82 (by decide) (fun _ => ?_) (fun c82 => absurd c82 (by decide))
            refine g_iconst (pc := 89) (v := (0 : Int32)) dX1_join_89 (by decide) ?_
            refine g_iastore (pc := 90) dX1_join_90 (AtLaws_5 h0) h.1 ?_
            have h := h.2
            refine g_aload_n (pc := 91) (x := t0) dX1_join_91 rfl ?_
            refine g_iconst (pc := 92) (v := (0 : Int32)) dX1_join_92 (by decide) ?_
            refine g_putI (pc := 93) dX1_join_93 fo_X1_34 (AtLaws_0 h0) rfl (nar_B isB0) (fit_B isB0) ?_
            refine g_goto (pc := 96) (tgt := 153) dX1_join_96 (by decide) ?_
            exact g_vret (pc := 153) dX1_join_153 rfl rfl h
      · have h := h.2 p_
        refine g_if_eq (pc := 56) (tgt := 99) dX1_join_56 (by decide) (fun _ => ?_) (fun c56 => absurd c56 (by decide))
        refine g_iload_n (pc := 99) (x := a1) dX1_join_99 rfl ?_
        refine g_callSN (pc := 100) (as := [.int a1]) dX1_join_100 cw_X1_78 (by decide) rfl rfl (Nat.le_of_ble_eq_true rfl) (rv_X11_reckons (wI mm t0 6 ((mm.1 t0 6) - (1 : Int32))) a1) ?_
        rintro r_ m_ hz_ ⟨⟨p_, rfl⟩ | ⟨p_, rfl⟩, rfl⟩
        · have h := h.1 p_
          refine g_if_eq (pc := 103) (tgt := 127) dX1_join_103 (by decide) (fun c103 => absurd c103 (by decide)) (fun _ => ?_)
          refine g_aload_n (pc := 106) (x := t0) dX1_join_106 rfl ?_
          refine g_getR (pc := 107) (dd := 5) dX1_join_107 fo_X1_24 (AtLaws_0 h0) rfl ?_
          refine g_aload_n (pc := 110) (x := t0) dX1_join_110 rfl ?_
          refine g_getI (pc := 111) dX1_join_111 fo_X1_31 (AtLaws_0 h0) rfl ?_
          refine g_iconst (pc := 114) (v := (1 : Int32)) dX1_join_114 (by decide) ?_
          refine g_isub (pc := 115) dX1_join_115 ?_
          refine g_aload_n (pc := 116) (x := t0) dX1_join_116 rfl ?_
          refine g_iload_n (pc := 117) (x := a1) dX1_join_117 rfl ?_
          refine g_iload_n (pc := 118) (x := (mm.1 (t0 + 5) ((mm.1 t0 6) - (2 : Int32)).toNatClampNeg)) dX1_join_118 rfl ?_
          refine g_iload_n (pc := 119) (x := (mm.1 (t0 + 5) ((mm.1 t0 6) - (1 : Int32)).toNatClampNeg)) dX1_join_119 rfl ?_
          obtain ⟨Pm1, hRm1, h⟩ := h
          refine g_callV (pc := 120) (as := [.int a1, .int (mm.1 (t0 + 5) ((mm.1 t0 6) - (2 : Int32)).toNatClampNeg), .int (mm.1 (t0 + 5) ((mm.1 t0 6) - (1 : Int32)).toNatClampNeg)]) dX1_join_120 cw_X1_81 (by decide) rfl rfl (AtLaws_0 h0) (Nat.le_of_ble_eq_true rfl) hRm1 ?_
          intro r_ m1 hz_ hp_
          obtain ⟨r1, rfl⟩ := hz_
          have h := h r1 m1 hp_
          refine g_iastore (pc := 123) dX1_join_123 (AtLaws_5 h0) h.1 ?_
          have h := h.2
          refine g_goto (pc := 124) (tgt := 153) dX1_join_124 (by decide) ?_
          exact g_vret (pc := 153) dX1_join_153 rfl rfl h
        · have h := h.2 p_
          refine g_if_eq (pc := 103) (tgt := 127) dX1_join_103 (by decide) (fun _ => ?_) (fun c103 => absurd c103 (by decide))
          refine g_aload_n (pc := 127) (x := t0) dX1_join_127 rfl ?_
          refine g_getR (pc := 128) (dd := 5) dX1_join_128 fo_X1_24 (AtLaws_0 h0) rfl ?_
          refine g_aload_n (pc := 131) (x := t0) dX1_join_131 rfl ?_
          refine g_getI (pc := 132) dX1_join_132 fo_X1_31 (AtLaws_0 h0) rfl ?_
          refine g_iconst (pc := 135) (v := (1 : Int32)) dX1_join_135 (by decide) ?_
          refine g_isub (pc := 136) dX1_join_136 ?_
          refine g_iload_n (pc := 137) (x := a1) dX1_join_137 rfl ?_
          refine g_bipush (pc := 138) (v := (24 : Int32)) dX1_join_138 (by decide) ?_
          refine g_icmp_ne (pc := 140) (tgt := 149) dX1_join_140 (by decide) (fun c140 => ?_) (fun c140 => ?_)
          · have h := h.1 c140
            refine g_iload_n (pc := 149) (x := (mm.1 (t0 + 5) ((mm.1 t0 6) - (2 : Int32)).toNatClampNeg)) dX1_join_149 rfl ?_
            refine g_iload_n (pc := 150) (x := (mm.1 (t0 + 5) ((mm.1 t0 6) - (1 : Int32)).toNatClampNeg)) dX1_join_150 rfl ?_
            refine g_ior (pc := 151) dX1_join_151 ?_
            refine g_iastore (pc := 152) dX1_join_152 (AtLaws_5 h0) h.1 ?_
            have h := h.2
            exact g_vret (pc := 153) dX1_join_153 rfl rfl h
          · have h := h.2 c140
            refine g_iload_n (pc := 143) (x := (mm.1 (t0 + 5) ((mm.1 t0 6) - (2 : Int32)).toNatClampNeg)) dX1_join_143 rfl ?_
            refine g_iload_n (pc := 144) (x := (mm.1 (t0 + 5) ((mm.1 t0 6) - (1 : Int32)).toNatClampNeg)) dX1_join_144 rfl ?_
            refine g_iand (pc := 145) dX1_join_145 ?_
            refine g_goto (pc := 146) (tgt := 152) dX1_join_146 (by decide) ?_
            refine g_iastore (pc := 152) dX1_join_152 (AtLaws_5 h0) h.1 ?_
            have h := h.2
            exact g_vret (pc := 153) dX1_join_153 rfl rfl h
    · have h := h.2 c14
      exact g_vret (pc := 17) dX1_join_17 rfl rfl h
theorem dX1_reckon_0 : decode cX1_reckon 0 = .ok (.iload_n 1, 1) := by decide +kernel
theorem dX1_reckon_1 : decode cX1_reckon 1 = .ok (.tableswitch 39 30 32 #[27, 31, 35], 27) := by decide +kernel
theorem dX1_reckon_28 : decode cX1_reckon 28 = .ok (.iload_n 2, 1) := by decide +kernel
theorem dX1_reckon_29 : decode cX1_reckon 29 = .ok (.iload_n 3, 1) := by decide +kernel
theorem dX1_reckon_30 : decode cX1_reckon 30 = .ok (.iadd, 1) := by decide +kernel
theorem dX1_reckon_31 : decode cX1_reckon 31 = .ok (.ireturn, 1) := by decide +kernel
theorem dX1_reckon_32 : decode cX1_reckon 32 = .ok (.iload_n 2, 1) := by decide +kernel
theorem dX1_reckon_33 : decode cX1_reckon 33 = .ok (.iload_n 3, 1) := by decide +kernel
theorem dX1_reckon_34 : decode cX1_reckon 34 = .ok (.isub, 1) := by decide +kernel
theorem dX1_reckon_35 : decode cX1_reckon 35 = .ok (.ireturn, 1) := by decide +kernel
theorem dX1_reckon_36 : decode cX1_reckon 36 = .ok (.iload_n 2, 1) := by decide +kernel
theorem dX1_reckon_37 : decode cX1_reckon 37 = .ok (.iload_n 3, 1) := by decide +kernel
theorem dX1_reckon_38 : decode cX1_reckon 38 = .ok (.imul, 1) := by decide +kernel
theorem dX1_reckon_39 : decode cX1_reckon 39 = .ok (.ireturn, 1) := by decide +kernel
theorem dX1_reckon_40 : decode cX1_reckon 40 = .ok (.iload_n 3, 1) := by decide +kernel
theorem dX1_reckon_41 : decode cX1_reckon 41 = .ok (.ifCond .ne 10, 3) := by decide +kernel
theorem dX1_reckon_44 : decode cX1_reckon 44 = .ok (.aload_n 0, 1) := by decide +kernel
theorem dX1_reckon_45 : decode cX1_reckon 45 = .ok (.iconst 1, 1) := by decide +kernel
theorem dX1_reckon_46 : decode cX1_reckon 46 = .ok (.putfield 34, 3) := by decide +kernel
theorem dX1_reckon_49 : decode cX1_reckon 49 = .ok (.iconst 0, 1) := by decide +kernel
theorem dX1_reckon_50 : decode cX1_reckon 50 = .ok (.ireturn, 1) := by decide +kernel
theorem dX1_reckon_51 : decode cX1_reckon 51 = .ok (.iload_n 2, 1) := by decide +kernel
theorem dX1_reckon_52 : decode cX1_reckon 52 = .ok (.iload_n 3, 1) := by decide +kernel
theorem dX1_reckon_53 : decode cX1_reckon 53 = .ok (.idiv, 1) := by decide +kernel
theorem dX1_reckon_54 : decode cX1_reckon 54 = .ok (.ireturn, 1) := by decide +kernel
theorem b_X1_reckon (mm : MM) (Q : Value → MM → Prop) (t0 : Nat) (a1 : Int32) (a2 : Int32) (a3 : Int32) (h0 : AtLaws t0) (h : (a1 = (30 : Int32) → (Q (.int (a2 + a3)) mm)) ∧ (¬ a1 = (30 : Int32) → ((a1 = (31 : Int32) → (Q (.int (a2 - a3)) mm)) ∧ (¬ a1 = (31 : Int32) → ((a1 = (32 : Int32) → (Q (.int (a2 * a3)) mm)) ∧ (¬ a1 = (32 : Int32) → ((¬ a3 = 0 → (¬ a3 = 0 ∧ (Q (.int (a2 / a3)) mm))) ∧ (a3 = 0 → (Q (.int (0 : Int32)) (wI mm t0 7 (1 : Int32))))))))))) : Runs e_X1_reckon [.ref t0, .int a1, .int a2, .int a3] mm Q := by
  refine runs_of_G (L := [(0, .ref t0), (1, .int a1), (2, .int a2), (3, .int a3)]) pl_X1 (Nat.le_of_ble_eq_true rfl) rfl ?_
  refine g_iload_n (pc := 0) (x := a1) dX1_reckon_0 rfl ?_
  by_cases c1_0 : a1 = (30 : Int32)
  · have h := h.1 c1_0
    refine g_tsIn (pc := 1) (off := 27) (tgt := 28) dX1_reckon_1 (by rw [c1_0]; decide) (by rw [c1_0]; decide) (by rw [c1_0]; rfl) (by decide) ?_
    refine g_iload_n (pc := 28) (x := a2) dX1_reckon_28 rfl ?_
    refine g_iload_n (pc := 29) (x := a3) dX1_reckon_29 rfl ?_
    refine g_iadd (pc := 30) dX1_reckon_30 ?_
    exact g_iret (pc := 31) dX1_reckon_31 rfl rfl rfl h
  · have h := h.2 c1_0
    by_cases c1_1 : a1 = (31 : Int32)
    · have h := h.1 c1_1
      refine g_tsIn (pc := 1) (off := 31) (tgt := 32) dX1_reckon_1 (by rw [c1_1]; decide) (by rw [c1_1]; decide) (by rw [c1_1]; rfl) (by decide) ?_
      refine g_iload_n (pc := 32) (x := a2) dX1_reckon_32 rfl ?_
      refine g_iload_n (pc := 33) (x := a3) dX1_reckon_33 rfl ?_
      refine g_isub (pc := 34) dX1_reckon_34 ?_
      exact g_iret (pc := 35) dX1_reckon_35 rfl rfl rfl h
    · have h := h.2 c1_1
      by_cases c1_2 : a1 = (32 : Int32)
      · have h := h.1 c1_2
        refine g_tsIn (pc := 1) (off := 35) (tgt := 36) dX1_reckon_1 (by rw [c1_2]; decide) (by rw [c1_2]; decide) (by rw [c1_2]; rfl) (by decide) ?_
        refine g_iload_n (pc := 36) (x := a2) dX1_reckon_36 rfl ?_
        refine g_iload_n (pc := 37) (x := a3) dX1_reckon_37 rfl ?_
        refine g_imul (pc := 38) dX1_reckon_38 ?_
        exact g_iret (pc := 39) dX1_reckon_39 rfl rfl rfl h
      · have h := h.2 c1_2
        refine g_tsOut (pc := 1) (tgt := 40) dX1_reckon_1 (by have e0_ := ts_ne (k := 30) c1_0 (by decide); have e1_ := ts_ne (k := 31) c1_1 (by decide); have e2_ := ts_ne (k := 32) c1_2 (by decide); omega) (by decide) ?_
        refine g_iload_n (pc := 40) (x := a3) dX1_reckon_40 rfl ?_
        refine g_if_ne (pc := 41) (tgt := 51) dX1_reckon_41 (by decide) (fun c41 => ?_) (fun c41 => ?_)
        · have h := h.1 c41
          refine g_iload_n (pc := 51) (x := a2) dX1_reckon_51 rfl ?_
          refine g_iload_n (pc := 52) (x := a3) dX1_reckon_52 rfl ?_
          refine g_idiv (pc := 53) dX1_reckon_53 h.1 ?_
          have h := h.2
          exact g_iret (pc := 54) dX1_reckon_54 rfl rfl rfl h
        · have h := h.2 c41
          refine g_aload_n (pc := 44) (x := t0) dX1_reckon_44 rfl ?_
          refine g_iconst (pc := 45) (v := (1 : Int32)) dX1_reckon_45 (by decide) ?_
          refine g_putI (pc := 46) dX1_reckon_46 fo_X1_34 (AtLaws_0 h0) rfl (nar_B isB1) (fit_B isB1) ?_
          refine g_iconst (pc := 49) (v := (0 : Int32)) dX1_reckon_49 (by decide) ?_
          exact g_iret (pc := 50) dX1_reckon_50 rfl rfl rfl h

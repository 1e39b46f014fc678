theorem dX8_stairMeets_0 : decode cX8_stairMeets 0 = .ok (.aload_n 1, 1) := by decide +kernel
theorem dX8_stairMeets_1 : decode cX8_stairMeets 1 = .ok (.aload_n 0, 1) := by decide +kernel
theorem dX8_stairMeets_2 : decode cX8_stairMeets 2 = .ok (.getfield 21, 3) := by decide +kernel
theorem dX8_stairMeets_5 : decode cX8_stairMeets 5 = .ok (.iload_n 2, 1) := by decide +kernel
theorem dX8_stairMeets_6 : decode cX8_stairMeets 6 = .ok (.iaload, 1) := by decide +kernel
theorem dX8_stairMeets_7 : decode cX8_stairMeets 7 = .ok (.invokestatic 137, 3) := by decide +kernel
theorem dX8_stairMeets_10 : decode cX8_stairMeets 10 = .ok (.aload_n 1, 1) := by decide +kernel
theorem dX8_stairMeets_11 : decode cX8_stairMeets 11 = .ok (.aload_n 0, 1) := by decide +kernel
theorem dX8_stairMeets_12 : decode cX8_stairMeets 12 = .ok (.getfield 24, 3) := by decide +kernel
theorem dX8_stairMeets_15 : decode cX8_stairMeets 15 = .ok (.iload_n 2, 1) := by decide +kernel
theorem dX8_stairMeets_16 : decode cX8_stairMeets 16 = .ok (.iaload, 1) := by decide +kernel
theorem dX8_stairMeets_17 : decode cX8_stairMeets 17 = .ok (.invokestatic 137, 3) := by decide +kernel
theorem dX8_stairMeets_20 : decode cX8_stairMeets 20 = .ok (.isub, 1) := by decide +kernel
theorem dX8_stairMeets_21 : decode cX8_stairMeets 21 = .ok (.invokestatic 141, 3) := by decide +kernel
theorem dX8_stairMeets_24 : decode cX8_stairMeets 24 = .ok (.aload_n 0, 1) := by decide +kernel
theorem dX8_stairMeets_25 : decode cX8_stairMeets 25 = .ok (.getfield 27, 3) := by decide +kernel
theorem dX8_stairMeets_28 : decode cX8_stairMeets 28 = .ok (.iload_n 2, 1) := by decide +kernel
theorem dX8_stairMeets_29 : decode cX8_stairMeets 29 = .ok (.iaload, 1) := by decide +kernel
theorem dX8_stairMeets_30 : decode cX8_stairMeets 30 = .ok (.if_icmp .gt 7, 3) := by decide +kernel
theorem dX8_stairMeets_33 : decode cX8_stairMeets 33 = .ok (.iconst 1, 1) := by decide +kernel
theorem dX8_stairMeets_34 : decode cX8_stairMeets 34 = .ok (.goto 4, 3) := by decide +kernel
theorem dX8_stairMeets_37 : decode cX8_stairMeets 37 = .ok (.iconst 0, 1) := by decide +kernel
theorem dX8_stairMeets_38 : decode cX8_stairMeets 38 = .ok (.ireturn, 1) := by decide +kernel
def o_X8_stairMeets (mm : MM) (t0 : Nat) (a1 : Nat) (a2 : Int32) : Prop := vp_in a2 12 ∧ (o_X8_endHeight mm a1 (mm.1 (t0 + 4) a2.toNatClampNeg) ∧ (vp_in a2 12 ∧ (o_X8_endHeight mm a1 (mm.1 (t0 + 5) a2.toNatClampNeg) ∧ (vp_in a2 12 ∧ (((mm.1 (t0 + 6) a2.toNatClampNeg) < (iabs ((v_X8_endHeight mm a1 (mm.1 (t0 + 4) a2.toNatClampNeg)) - (v_X8_endHeight mm a1 (mm.1 (t0 + 5) a2.toNatClampNeg)))) → (True)) ∧ (¬ (mm.1 (t0 + 6) a2.toNatClampNeg) < (iabs ((v_X8_endHeight mm a1 (mm.1 (t0 + 4) a2.toNatClampNeg)) - (v_X8_endHeight mm a1 (mm.1 (t0 + 5) a2.toNatClampNeg)))) → (True)))))))
def p_X8_stairMeets (mm : MM) (t0 : Nat) (a1 : Nat) (a2 : Int32) : Prop := ¬ (mm.1 (t0 + 6) a2.toNatClampNeg) < (iabs ((v_X8_endHeight mm a1 (mm.1 (t0 + 4) a2.toNatClampNeg)) - (v_X8_endHeight mm a1 (mm.1 (t0 + 5) a2.toNatClampNeg))))
theorem rv_X8_stairMeets (mm : MM) (t0 : Nat) (a1 : Nat) (a2 : Int32) (h0 : AtTown t0) (h1 : SHL[a1]? = some (.inl (0, 16, 0, 0))) (h : o_X8_stairMeets mm t0 a1 a2) : Runs e_X8_stairMeets [.ref t0, .ref a1, .int a2] mm (fun r m_ => ((p_X8_stairMeets mm t0 a1 a2 ∧ r = .int 1) ∨ (¬ p_X8_stairMeets mm t0 a1 a2 ∧ r = .int 0)) ∧ mm = m_) := by
  refine runs_of_G (L := [(0, .ref t0), (1, .ref a1), (2, .int a2)]) pl_X8 (Nat.le_of_ble_eq_true rfl) rfl ?_
  unfold o_X8_stairMeets at h
  refine g_aload_n (pc := 0) (x := a1) dX8_stairMeets_0 rfl ?_
  refine g_aload_n (pc := 1) (x := t0) dX8_stairMeets_1 rfl ?_
  refine g_getR (pc := 2) (dd := 4) dX8_stairMeets_2 fo_X8_21 (AtTown_0 h0) rfl ?_
  refine g_iload_n (pc := 5) (x := a2) dX8_stairMeets_5 rfl ?_
  refine g_iaload (pc := 6) dX8_stairMeets_6 (AtTown_4 h0) h.1 ?_
  have h := h.2
  refine g_callS (pc := 7) (as := [.ref a1, .int (mm.1 (t0 + 4) a2.toNatClampNeg)]) dX8_stairMeets_7 cw_X8_137 (by decide) rfl rfl (Nat.le_of_ble_eq_true rfl) (rv_X8_endHeight mm a1 (mm.1 (t0 + 4) a2.toNatClampNeg) h1 h.1) ?_
  have h := h.2
  rintro r_ m_ hz_ ⟨rfl, rfl⟩
  refine g_aload_n (pc := 10) (x := a1) dX8_stairMeets_10 rfl ?_
  refine g_aload_n (pc := 11) (x := t0) dX8_stairMeets_11 rfl ?_
  refine g_getR (pc := 12) (dd := 5) dX8_stairMeets_12 fo_X8_24 (AtTown_0 h0) rfl ?_
  refine g_iload_n (pc := 15) (x := a2) dX8_stairMeets_15 rfl ?_
  refine g_iaload (pc := 16) dX8_stairMeets_16 (AtTown_5 h0) h.1 ?_
  have h := h.2
  refine g_callS (pc := 17) (as := [.ref a1, .int (mm.1 (t0 + 5) a2.toNatClampNeg)]) dX8_stairMeets_17 cw_X8_137 (by decide) rfl rfl (Nat.le_of_ble_eq_true rfl) (rv_X8_endHeight mm a1 (mm.1 (t0 + 5) a2.toNatClampNeg) h1 h.1) ?_
  have h := h.2
  rintro r_ m_ hz_ ⟨rfl, rfl⟩
  refine g_isub (pc := 20) dX8_stairMeets_20 ?_
  refine g_mabs (pc := 21) dX8_stairMeets_21 cw_X8_141 (by decide) (Nat.le_of_ble_eq_true rfl) ?_
  refine g_aload_n (pc := 24) (x := t0) dX8_stairMeets_24 rfl ?_
  refine g_getR (pc := 25) (dd := 6) dX8_stairMeets_25 fo_X8_27 (AtTown_0 h0) rfl ?_
  refine g_iload_n (pc := 28) (x := a2) dX8_stairMeets_28 rfl ?_
  refine g_iaload (pc := 29) dX8_stairMeets_29 (AtTown_6 h0) h.1 ?_
  have h := h.2
  refine g_icmp_gt (pc := 30) (tgt := 37) dX8_stairMeets_30 (by decide) (fun c30 => ?_) (fun c30 => ?_)
  · have c30_0 : (mm.1 (t0 + 6) a2.toNatClampNeg) < (iabs ((v_X8_endHeight mm a1 (mm.1 (t0 + 4) a2.toNatClampNeg)) - (v_X8_endHeight mm a1 (mm.1 (t0 + 5) a2.toNatClampNeg)))) := c30
    refine g_iconst (pc := 37) (v := (0 : Int32)) dX8_stairMeets_37 (by decide) ?_
    exact g_iret (pc := 38) dX8_stairMeets_38 rfl rfl (nar_B isB0) ⟨Or.inr ⟨(show ¬ p_X8_stairMeets mm t0 a1 a2 from (not_not_intro c30_0)), rfl⟩, rfl⟩
  · have c30_0 : ¬ (mm.1 (t0 + 6) a2.toNatClampNeg) < (iabs ((v_X8_endHeight mm a1 (mm.1 (t0 + 4) a2.toNatClampNeg)) - (v_X8_endHeight mm a1 (mm.1 (t0 + 5) a2.toNatClampNeg)))) := c30
    refine g_iconst (pc := 33) (v := (1 : Int32)) dX8_stairMeets_33 (by decide) ?_
    refine g_goto (pc := 34) (tgt := 38) dX8_stairMeets_34 (by decide) ?_
    exact g_iret (pc := 38) dX8_stairMeets_38 rfl rfl (nar_B isB1) ⟨Or.inl ⟨(show p_X8_stairMeets mm t0 a1 a2 from c30_0), rfl⟩, rfl⟩
theorem dX8_reachedBits_0 : decode cX8_reachedBits 0 = .ok (.aload_n 0, 1) := by decide +kernel
theorem dX8_reachedBits_1 : decode cX8_reachedBits 1 = .ok (.aload_n 1, 1) := by decide +kernel
theorem dX8_reachedBits_2 : decode cX8_reachedBits 2 = .ok (.iload_n 2, 1) := by decide +kernel
theorem dX8_reachedBits_3 : decode cX8_reachedBits 3 = .ok (.iconst (-1), 1) := by decide +kernel
theorem dX8_reachedBits_4 : decode cX8_reachedBits 4 = .ok (.iconst (-1), 1) := by decide +kernel
theorem dX8_reachedBits_5 : decode cX8_reachedBits 5 = .ok (.invokevirtual 146, 3) := by decide +kernel
theorem dX8_reachedBits_8 : decode cX8_reachedBits 8 = .ok (.ireturn, 1) := by decide +kernel
theorem b_X8_reachedBits (mm : MM) (Q : Value → MM → Prop) (t0 : Nat) (a1 : Nat) (a2 : Int32) (h0 : AtTown t0) (h1 : SHL[a1]? = some (.inl (0, 16, 0, 0))) (h : ∃ Pm1 : Value → MM → Prop, Runs e_X8_reachedWithout [.ref t0, .ref a1, .int a2, .int (-1 : Int32), .int (-1 : Int32)] mm Pm1 ∧ ∀ (r1 : Int32) (m1 : MM), Pm1 (.int r1) m1 → (Q (.int r1) m1)) : Runs e_X8_reachedBits [.ref t0, .ref a1, .int a2] mm Q := by
  refine runs_of_G (L := [(0, .ref t0), (1, .ref a1), (2, .int a2)]) pl_X8 (Nat.le_of_ble_eq_true rfl) rfl ?_
  refine g_aload_n (pc := 0) (x := t0) dX8_reachedBits_0 rfl ?_
  refine g_aload_n (pc := 1) (x := a1) dX8_reachedBits_1 rfl ?_
  refine g_iload_n (pc := 2) (x := a2) dX8_reachedBits_2 rfl ?_
  refine g_iconst (pc := 3) (v := (-1 : Int32)) dX8_reachedBits_3 (by decide) ?_
  refine g_iconst (pc := 4) (v := (-1 : Int32)) dX8_reachedBits_4 (by decide) ?_
  obtain ⟨Pm1, hRm1, h⟩ := h
  refine g_callV (pc := 5) (as := [.ref a1, .int a2, .int (-1 : Int32), .int (-1 : Int32)]) dX8_reachedBits_5 cw_X8_146 (by decide) rfl rfl (AtTown_0 h0) (Nat.le_of_ble_eq_true rfl) hRm1 ?_
  intro r_ m1 hz_ hp_
  obtain ⟨r1, rfl⟩ := hz_
  have h := h r1 m1 hp_
  exact g_iret (pc := 8) dX8_reachedBits_8 rfl rfl rfl h
theorem dX8_reachedWithout_0 : decode cX8_reachedWithout 0 = .ok (.iconst 1, 1) := by decide +kernel
theorem dX8_reachedWithout_1 : decode cX8_reachedWithout 1 = .ok (.aload_n 0, 1) := by decide +kernel
theorem dX8_reachedWithout_2 : decode cX8_reachedWithout 2 = .ok (.getfield 40, 3) := by decide +kernel
theorem dX8_reachedWithout_5 : decode cX8_reachedWithout 5 = .ok (.ishl, 1) := by decide +kernel
theorem dX8_reachedWithout_6 : decode cX8_reachedWithout 6 = .ok (.iconst 1, 1) := by decide +kernel
theorem dX8_reachedWithout_7 : decode cX8_reachedWithout 7 = .ok (.isub, 1) := by decide +kernel
theorem dX8_reachedWithout_8 : decode cX8_reachedWithout 8 = .ok (.aload_n 0, 1) := by decide +kernel
theorem dX8_reachedWithout_9 : decode cX8_reachedWithout 9 = .ok (.aload_n 1, 1) := by decide +kernel
theorem dX8_reachedWithout_10 : decode cX8_reachedWithout 10 = .ok (.iload_n 2, 1) := by decide +kernel
theorem dX8_reachedWithout_11 : decode cX8_reachedWithout 11 = .ok (.invokevirtual 150, 3) := by decide +kernel
theorem dX8_reachedWithout_14 : decode cX8_reachedWithout 14 = .ok (.iconst (-1), 1) := by decide +kernel
theorem dX8_reachedWithout_15 : decode cX8_reachedWithout 15 = .ok (.ixor, 1) := by decide +kernel
theorem dX8_reachedWithout_16 : decode cX8_reachedWithout 16 = .ok (.iand, 1) := by decide +kernel
theorem dX8_reachedWithout_17 : decode cX8_reachedWithout 17 = .ok (.iload 4, 2) := by decide +kernel
theorem dX8_reachedWithout_19 : decode cX8_reachedWithout 19 = .ok (.invokestatic 153, 3) := by decide +kernel
theorem dX8_reachedWithout_22 : decode cX8_reachedWithout 22 = .ok (.iconst (-1), 1) := by decide +kernel
theorem dX8_reachedWithout_23 : decode cX8_reachedWithout 23 = .ok (.ixor, 1) := by decide +kernel
theorem dX8_reachedWithout_24 : decode cX8_reachedWithout 24 = .ok (.iand, 1) := by decide +kernel
theorem dX8_reachedWithout_25 : decode cX8_reachedWithout 25 = .ok (.istore 5, 2) := by decide +kernel
theorem dX8_reachedWithout_27 : decode cX8_reachedWithout 27 = .ok (.aload_n 0, 1) := by decide +kernel
theorem dX8_reachedWithout_28 : decode cX8_reachedWithout 28 = .ok (.getfield 53, 3) := by decide +kernel
theorem dX8_reachedWithout_31 : decode cX8_reachedWithout 31 = .ok (.iload 5, 2) := by decide +kernel
theorem dX8_reachedWithout_33 : decode cX8_reachedWithout 33 = .ok (.iand, 1) := by decide +kernel
theorem dX8_reachedWithout_34 : decode cX8_reachedWithout 34 = .ok (.istore 6, 2) := by decide +kernel
theorem dX8_reachedWithout_36 : decode cX8_reachedWithout 36 = .ok (.iconst 0, 1) := by decide +kernel
theorem dX8_reachedWithout_37 : decode cX8_reachedWithout 37 = .ok (.istore 7, 2) := by decide +kernel
theorem dX8_reachedWithout_39 : decode cX8_reachedWithout 39 = .ok (.iload 7, 2) := by decide +kernel
theorem dX8_reachedWithout_41 : decode cX8_reachedWithout 41 = .ok (.aload_n 0, 1) := by decide +kernel
theorem dX8_reachedWithout_42 : decode cX8_reachedWithout 42 = .ok (.getfield 40, 3) := by decide +kernel
theorem dX8_reachedWithout_45 : decode cX8_reachedWithout 45 = .ok (.if_icmp .gt 74, 3) := by decide +kernel
theorem dX8_reachedWithout_48 : decode cX8_reachedWithout 48 = .ok (.iload 6, 2) := by decide +kernel
theorem dX8_reachedWithout_50 : decode cX8_reachedWithout 50 = .ok (.istore 8, 2) := by decide +kernel
theorem dX8_reachedWithout_52 : decode cX8_reachedWithout 52 = .ok (.iconst 0, 1) := by decide +kernel
theorem dX8_reachedWithout_53 : decode cX8_reachedWithout 53 = .ok (.istore 9, 2) := by decide +kernel
theorem dX8_reachedWithout_55 : decode cX8_reachedWithout 55 = .ok (.iload 9, 2) := by decide +kernel
theorem dX8_reachedWithout_57 : decode cX8_reachedWithout 57 = .ok (.aload_n 0, 1) := by decide +kernel
theorem dX8_reachedWithout_58 : decode cX8_reachedWithout 58 = .ok (.getfield 47, 3) := by decide +kernel
theorem dX8_reachedWithout_61 : decode cX8_reachedWithout 61 = .ok (.if_icmp .ge 42, 3) := by decide +kernel
theorem dX8_reachedWithout_64 : decode cX8_reachedWithout 64 = .ok (.iload 9, 2) := by decide +kernel
theorem dX8_reachedWithout_66 : decode cX8_reachedWithout 66 = .ok (.iload_n 3, 1) := by decide +kernel
theorem dX8_reachedWithout_67 : decode cX8_reachedWithout 67 = .ok (.if_icmp .eq 30, 3) := by decide +kernel
theorem dX8_reachedWithout_70 : decode cX8_reachedWithout 70 = .ok (.aload_n 0, 1) := by decide +kernel
theorem dX8_reachedWithout_71 : decode cX8_reachedWithout 71 = .ok (.aload_n 1, 1) := by decide +kernel
theorem dX8_reachedWithout_72 : decode cX8_reachedWithout 72 = .ok (.iload 9, 2) := by decide +kernel
theorem dX8_reachedWithout_74 : decode cX8_reachedWithout 74 = .ok (.invokevirtual 156, 3) := by decide +kernel
theorem dX8_reachedWithout_77 : decode cX8_reachedWithout 77 = .ok (.ifCond .eq 20, 3) := by decide +kernel
theorem dX8_reachedWithout_80 : decode cX8_reachedWithout 80 = .ok (.iload 6, 2) := by decide +kernel
theorem dX8_reachedWithout_82 : decode cX8_reachedWithout 82 = .ok (.aload_n 0, 1) := by decide +kernel
theorem dX8_reachedWithout_83 : decode cX8_reachedWithout 83 = .ok (.iload 9, 2) := by decide +kernel
theorem dX8_reachedWithout_85 : decode cX8_reachedWithout 85 = .ok (.iload 6, 2) := by decide +kernel
theorem dX8_reachedWithout_87 : decode cX8_reachedWithout 87 = .ok (.iload_n 2, 1) := by decide +kernel
theorem dX8_reachedWithout_88 : decode cX8_reachedWithout 88 = .ok (.invokevirtual 159, 3) := by decide +kernel
theorem dX8_reachedWithout_91 : decode cX8_reachedWithout 91 = .ok (.iload 5, 2) := by decide +kernel
theorem dX8_reachedWithout_93 : decode cX8_reachedWithout 93 = .ok (.iand, 1) := by decide +kernel
theorem dX8_reachedWithout_94 : decode cX8_reachedWithout 94 = .ok (.ior, 1) := by decide +kernel
theorem dX8_reachedWithout_95 : decode cX8_reachedWithout 95 = .ok (.istore 6, 2) := by decide +kernel
theorem dX8_reachedWithout_97 : decode cX8_reachedWithout 97 = .ok (.iinc 9 1, 3) := by decide +kernel
theorem dX8_reachedWithout_100 : decode cX8_reachedWithout 100 = .ok (.goto (-45), 3) := by decide +kernel
theorem dX8_reachedWithout_103 : decode cX8_reachedWithout 103 = .ok (.iload 6, 2) := by decide +kernel
theorem dX8_reachedWithout_105 : decode cX8_reachedWithout 105 = .ok (.iload 8, 2) := by decide +kernel
theorem dX8_reachedWithout_107 : decode cX8_reachedWithout 107 = .ok (.if_icmp .ne 6, 3) := by decide +kernel
theorem dX8_reachedWithout_110 : decode cX8_reachedWithout 110 = .ok (.goto 9, 3) := by decide +kernel
theorem dX8_reachedWithout_113 : decode cX8_reachedWithout 113 = .ok (.iinc 7 1, 3) := by decide +kernel
theorem dX8_reachedWithout_116 : decode cX8_reachedWithout 116 = .ok (.goto (-77), 3) := by decide +kernel
theorem dX8_reachedWithout_119 : decode cX8_reachedWithout 119 = .ok (.iload 6, 2) := by decide +kernel
theorem dX8_reachedWithout_121 : decode cX8_reachedWithout 121 = .ok (.ireturn, 1) := by decide +kernel
theorem b_X8_reachedWithout (mm : MM) (Q : Value → MM → Prop) (t0 : Nat) (a1 : Nat) (a2 : Int32) (a3 : Int32) (a4 : Int32) (h0 : AtTown t0) (h1 : SHL[a1]? = some (.inl (0, 16, 0, 0))) (h : ∃ Pm1 : Value → MM → Prop, Runs e_X8_wetBits [.ref t0, .ref a1, .int a2] mm Pm1 ∧ ∀ (r1 : Int32) (m1 : MM), Pm1 (.int r1) m1 → (G e_X8_reachedWithout 39 [(0, .ref t0), (1, .ref a1), (2, .int a2), (3, .int a3), (5, .int (((((1 : Int32) <<< ((mm.1 t0 8) &&& 31)) - (1 : Int32)) &&& (r1 ^^^ (-1 : Int32))) &&& ((v_X8_bitOf m1 a4) ^^^ (-1 : Int32)))), (6, .int ((m1.1 t0 12) &&& (((((1 : Int32) <<< ((mm.1 t0 8) &&& 31)) - (1 : Int32)) &&& (r1 ^^^ (-1 : Int32))) &&& ((v_X8_bitOf m1 a4) ^^^ (-1 : Int32))))), (7, .int (0 : Int32))] [] m1 Q)) : Runs e_X8_reachedWithout [.ref t0, .ref a1, .int a2, .int a3, .int a4] mm Q := by
  refine runs_of_G (L := [(0, .ref t0), (1, .ref a1), (2, .int a2), (3, .int a3), (4, .int a4)]) pl_X8 (Nat.le_of_ble_eq_true rfl) rfl ?_
  refine g_iconst (pc := 0) (v := (1 : Int32)) dX8_reachedWithout_0 (by decide) ?_
  refine g_aload_n (pc := 1) (x := t0) dX8_reachedWithout_1 rfl ?_
  refine g_getI (pc := 2) dX8_reachedWithout_2 fo_X8_40 (AtTown_0 h0) rfl ?_
  refine g_ishl (pc := 5) dX8_reachedWithout_5 ?_
  refine g_iconst (pc := 6) (v := (1 : Int32)) dX8_reachedWithout_6 (by decide) ?_
  refine g_isub (pc := 7) dX8_reachedWithout_7 ?_
  refine g_aload_n (pc := 8) (x := t0) dX8_reachedWithout_8 rfl ?_
  refine g_aload_n (pc := 9) (x := a1) dX8_reachedWithout_9 rfl ?_
  refine g_iload_n (pc := 10) (x := a2) dX8_reachedWithout_10 rfl ?_
  obtain ⟨Pm1, hRm1, h⟩ := h
  refine g_callV (pc := 11) (as := [.ref a1, .int a2]) dX8_reachedWithout_11 cw_X8_150 (by decide) rfl rfl (AtTown_0 h0) (Nat.le_of_ble_eq_true rfl) hRm1 ?_
  intro r_ m1 hz_ hp_
  obtain ⟨r1, rfl⟩ := hz_
  have h := h r1 m1 hp_
  refine g_iconst (pc := 14) (v := (-1 : Int32)) dX8_reachedWithout_14 (by decide) ?_
  refine g_ixor (pc := 15) dX8_reachedWithout_15 ?_
  refine g_iand (pc := 16) dX8_reachedWithout_16 ?_
  refine g_iload (pc := 17) (x := a4) dX8_reachedWithout_17 rfl ?_
  refine g_callS (pc := 19) (as := [.int a4]) dX8_reachedWithout_19 cw_X8_153 (by decide) rfl rfl (Nat.le_of_ble_eq_true rfl) (rv_X8_bitOf m1 a4) ?_
  rintro r_ m_ hz_ ⟨rfl, rfl⟩
  refine g_iconst (pc := 22) (v := (-1 : Int32)) dX8_reachedWithout_22 (by decide) ?_
  refine g_ixor (pc := 23) dX8_reachedWithout_23 ?_
  refine g_iand (pc := 24) dX8_reachedWithout_24 ?_
  refine g_istore (pc := 25) (L' := [(0, .ref t0), (1, .ref a1), (2, .int a2), (3, .int a3), (4, .int a4), (5, .int (((((1 : Int32) <<< ((mm.1 t0 8) &&& 31)) - (1 : Int32)) &&& (r1 ^^^ (-1 : Int32))) &&& ((v_X8_bitOf m1 a4) ^^^ (-1 : Int32))))]) dX8_reachedWithout_25 (Nat.le_of_ble_eq_true rfl) rfl ?_
  refine g_aload_n (pc := 27) (x := t0) dX8_reachedWithout_27 rfl ?_
  refine g_getI (pc := 28) dX8_reachedWithout_28 fo_X8_53 (AtTown_0 h0) rfl ?_
  refine g_iload (pc := 31) (x := (((((1 : Int32) <<< ((mm.1 t0 8) &&& 31)) - (1 : Int32)) &&& (r1 ^^^ (-1 : Int32))) &&& ((v_X8_bitOf m1 a4) ^^^ (-1 : Int32)))) dX8_reachedWithout_31 rfl ?_
  refine g_iand (pc := 33) dX8_reachedWithout_33 ?_
  refine g_istore (pc := 34) (L' := [(0, .ref t0), (1, .ref a1), (2, .int a2), (3, .int a3), (4, .int a4), (5, .int (((((1 : Int32) <<< ((mm.1 t0 8) &&& 31)) - (1 : Int32)) &&& (r1 ^^^ (-1 : Int32))) &&& ((v_X8_bitOf m1 a4) ^^^ (-1 : Int32)))), (6, .int ((m1.1 t0 12) &&& (((((1 : Int32) <<< ((mm.1 t0 8) &&& 31)) - (1 : Int32)) &&& (r1 ^^^ (-1 : Int32))) &&& ((v_X8_bitOf m1 a4) ^^^ (-1 : Int32)))))]) dX8_reachedWithout_34 (Nat.le_of_ble_eq_true rfl) rfl ?_
  refine g_iconst (pc := 36) (v := (0 : Int32)) dX8_reachedWithout_36 (by decide) ?_
  refine g_istore (pc := 37) (L' := [(0, .ref t0), (1, .ref a1), (2, .int a2), (3, .int a3), (4, .int a4), (5, .int (((((1 : Int32) <<< ((mm.1 t0 8) &&& 31)) - (1 : Int32)) &&& (r1 ^^^ (-1 : Int32))) &&& ((v_X8_bitOf m1 a4) ^^^ (-1 : Int32)))), (6, .int ((m1.1 t0 12) &&& (((((1 : Int32) <<< ((mm.1 t0 8) &&& 31)) - (1 : Int32)) &&& (r1 ^^^ (-1 : Int32))) &&& ((v_X8_bitOf m1 a4) ^^^ (-1 : Int32))))), (7, .int (0 : Int32))]) dX8_reachedWithout_37 (Nat.le_of_ble_eq_true rfl) rfl ?_
  refine g_sub (L' := [(0, .ref t0), (1, .ref a1), (2, .int a2), (3, .int a3), (5, .int (((((1 : Int32) <<< ((mm.1 t0 8) &&& 31)) - (1 : Int32)) &&& (r1 ^^^ (-1 : Int32))) &&& ((v_X8_bitOf m1 a4) ^^^ (-1 : Int32)))), (6, .int ((m1.1 t0 12) &&& (((((1 : Int32) <<< ((mm.1 t0 8) &&& 31)) - (1 : Int32)) &&& (r1 ^^^ (-1 : Int32))) &&& ((v_X8_bitOf m1 a4) ^^^ (-1 : Int32))))), (7, .int (0 : Int32))]) [0, 1, 2, 3, 5, 6, 7] rfl ?_
  exact h
theorem b_X8_reachedWithout_39 (mm : MM) (Q : Value → MM → Prop) (l0 : Nat) (l1 : Nat) (l2 : Int32) (l3 : Int32) (l5 : Int32) (l6 : Int32) (l7 : Int32) (k0 : AtTown l0) (k1 : SHL[l1]? = some (.inl (0, 16, 0, 0))) (h : ((mm.1 l0 8) < l7 → (Q (.int l6) mm)) ∧ (¬ (mm.1 l0 8) < l7 → (G e_X8_reachedWithout 55 [(0, .ref l0), (1, .ref l1), (2, .int l2), (3, .int l3), (5, .int l5), (6, .int l6), (7, .int l7), (8, .int l6), (9, .int (0 : Int32))] [] mm Q))) : G e_X8_reachedWithout 39 [(0, .ref l0), (1, .ref l1), (2, .int l2), (3, .int l3), (5, .int l5), (6, .int l6), (7, .int l7)] [] mm Q := by
  refine g_iload (pc := 39) (x := l7) dX8_reachedWithout_39 rfl ?_
  refine g_aload_n (pc := 41) (x := l0) dX8_reachedWithout_41 rfl ?_
  refine g_getI (pc := 42) dX8_reachedWithout_42 fo_X8_40 (AtTown_0 k0) rfl ?_
  refine g_icmp_gt (pc := 45) (tgt := 119) dX8_reachedWithout_45 (by decide) (fun c45 => ?_) (fun c45 => ?_)
  · have h := h.1 c45
    refine g_iload (pc := 119) (x := l6) dX8_reachedWithout_119 rfl ?_
    exact g_iret (pc := 121) dX8_reachedWithout_121 rfl rfl rfl h
  · have h := h.2 c45
    refine g_iload (pc := 48) (x := l6) dX8_reachedWithout_48 rfl ?_
    refine g_istore (pc := 50) (L' := [(0, .ref l0), (1, .ref l1), (2, .int l2), (3, .int l3), (5, .int l5), (6, .int l6), (7, .int l7), (8, .int l6)]) dX8_reachedWithout_50 (Nat.le_of_ble_eq_true rfl) rfl ?_
    refine g_iconst (pc := 52) (v := (0 : Int32)) dX8_reachedWithout_52 (by decide) ?_
    refine g_istore (pc := 53) (L' := [(0, .ref l0), (1, .ref l1), (2, .int l2), (3, .int l3), (5, .int l5), (6, .int l6), (7, .int l7), (8, .int l6), (9, .int (0 : Int32))]) dX8_reachedWithout_53 (Nat.le_of_ble_eq_true rfl) rfl ?_
    exact h
theorem dX8_behindStair_0 : decode cX8_behindStair 0 = .ok (.aload_n 0, 1) := by decide +kernel
theorem dX8_behindStair_1 : decode cX8_behindStair 1 = .ok (.getfield 21, 3) := by decide +kernel
theorem dX8_behindStair_4 : decode cX8_behindStair 4 = .ok (.iload_n 1, 1) := by decide +kernel
theorem dX8_behindStair_5 : decode cX8_behindStair 5 = .ok (.iaload, 1) := by decide +kernel
theorem dX8_behindStair_6 : decode cX8_behindStair 6 = .ok (.invokestatic 153, 3) := by decide +kernel
theorem dX8_behindStair_9 : decode cX8_behindStair 9 = .ok (.istore 4, 2) := by decide +kernel
theorem dX8_behindStair_11 : decode cX8_behindStair 11 = .ok (.aload_n 0, 1) := by decide +kernel
theorem dX8_behindStair_12 : decode cX8_behindStair 12 = .ok (.getfield 24, 3) := by decide +kernel
theorem dX8_behindStair_15 : decode cX8_behindStair 15 = .ok (.iload_n 1, 1) := by decide +kernel
theorem dX8_behindStair_16 : decode cX8_behindStair 16 = .ok (.iaload, 1) := by decide +kernel
theorem dX8_behindStair_17 : decode cX8_behindStair 17 = .ok (.invokestatic 153, 3) := by decide +kernel
theorem dX8_behindStair_20 : decode cX8_behindStair 20 = .ok (.istore 5, 2) := by decide +kernel
theorem dX8_behindStair_22 : decode cX8_behindStair 22 = .ok (.aload_n 0, 1) := by decide +kernel
theorem dX8_behindStair_23 : decode cX8_behindStair 23 = .ok (.getfield 24, 3) := by decide +kernel
theorem dX8_behindStair_26 : decode cX8_behindStair 26 = .ok (.iload_n 1, 1) := by decide +kernel
theorem dX8_behindStair_27 : decode cX8_behindStair 27 = .ok (.iaload, 1) := by decide +kernel
theorem dX8_behindStair_28 : decode cX8_behindStair 28 = .ok (.iconst (-1), 1) := by decide +kernel
theorem dX8_behindStair_29 : decode cX8_behindStair 29 = .ok (.if_icmp .ne 14, 3) := by decide +kernel
theorem dX8_behindStair_32 : decode cX8_behindStair 32 = .ok (.iload_n 3, 1) := by decide +kernel
theorem dX8_behindStair_33 : decode cX8_behindStair 33 = .ok (.ifCond .ne 8, 3) := by decide +kernel
theorem dX8_behindStair_36 : decode cX8_behindStair 36 = .ok (.iload 4, 2) := by decide +kernel
theorem dX8_behindStair_38 : decode cX8_behindStair 38 = .ok (.goto 4, 3) := by decide +kernel
theorem dX8_behindStair_41 : decode cX8_behindStair 41 = .ok (.iconst 0, 1) := by decide +kernel
theorem dX8_behindStair_42 : decode cX8_behindStair 42 = .ok (.ireturn, 1) := by decide +kernel
theorem dX8_behindStair_43 : decode cX8_behindStair 43 = .ok (.iload_n 2, 1) := by decide +kernel
theorem dX8_behindStair_44 : decode cX8_behindStair 44 = .ok (.iload 4, 2) := by decide +kernel
theorem dX8_behindStair_46 : decode cX8_behindStair 46 = .ok (.iand, 1) := by decide +kernel
theorem dX8_behindStair_47 : decode cX8_behindStair 47 = .ok (.ifCond .ne 10, 3) := by decide +kernel
theorem dX8_behindStair_50 : decode cX8_behindStair 50 = .ok (.iload_n 2, 1) := by decide +kernel
theorem dX8_behindStair_51 : decode cX8_behindStair 51 = .ok (.iload 5, 2) := by decide +kernel
theorem dX8_behindStair_53 : decode cX8_behindStair 53 = .ok (.iand, 1) := by decide +kernel
theorem dX8_behindStair_54 : decode cX8_behindStair 54 = .ok (.ifCond .eq 11, 3) := by decide +kernel
theorem dX8_behindStair_57 : decode cX8_behindStair 57 = .ok (.iload 4, 2) := by decide +kernel
theorem dX8_behindStair_59 : decode cX8_behindStair 59 = .ok (.iload 5, 2) := by decide +kernel
theorem dX8_behindStair_61 : decode cX8_behindStair 61 = .ok (.ior, 1) := by decide +kernel
theorem dX8_behindStair_62 : decode cX8_behindStair 62 = .ok (.goto 4, 3) := by decide +kernel
theorem dX8_behindStair_65 : decode cX8_behindStair 65 = .ok (.iconst 0, 1) := by decide +kernel
theorem dX8_behindStair_66 : decode cX8_behindStair 66 = .ok (.ireturn, 1) := by decide +kernel
def o_X8_behindStair (mm : MM) (t0 : Nat) (a1 : Int32) (a2 : Int32) (a3 : Int32) : Prop := vp_in a1 12 ∧ (vp_in a1 12 ∧ (vp_in a1 12 ∧ ((¬ (mm.1 (t0 + 5) a1.toNatClampNeg) = (-1 : Int32) → ((¬ (a2 &&& (v_X8_bitOf mm (mm.1 (t0 + 4) a1.toNatClampNeg))) = 0 → (True)) ∧ ((a2 &&& (v_X8_bitOf mm (mm.1 (t0 + 4) a1.toNatClampNeg))) = 0 → (((a2 &&& (v_X8_bitOf mm (mm.1 (t0 + 5) a1.toNatClampNeg))) = 0 → (True)) ∧ (¬ (a2 &&& (v_X8_bitOf mm (mm.1 (t0 + 5) a1.toNatClampNeg))) = 0 → (True)))))) ∧ ((mm.1 (t0 + 5) a1.toNatClampNeg) = (-1 : Int32) → ((¬ a3 = 0 → (True)) ∧ (a3 = 0 → (True)))))))
noncomputable def v_X8_behindStair (mm : MM) (t0 : Nat) (a1 : Int32) (a2 : Int32) (a3 : Int32) : Int32 := (cite ((mm.1 (t0 + 5) a1.toNatClampNeg) = (-1 : Int32)) (cite (a3 = 0) (v_X8_bitOf mm (mm.1 (t0 + 4) a1.toNatClampNeg)) (0 : Int32)) (cite ((a2 &&& (v_X8_bitOf mm (mm.1 (t0 + 4) a1.toNatClampNeg))) = 0) (cite ((a2 &&& (v_X8_bitOf mm (mm.1 (t0 + 5) a1.toNatClampNeg))) = 0) (0 : Int32) ((v_X8_bitOf mm (mm.1 (t0 + 4) a1.toNatClampNeg)) ||| (v_X8_bitOf mm (mm.1 (t0 + 5) a1.toNatClampNeg)))) ((v_X8_bitOf mm (mm.1 (t0 + 4) a1.toNatClampNeg)) ||| (v_X8_bitOf mm (mm.1 (t0 + 5) a1.toNatClampNeg)))))
theorem rv_X8_behindStair (mm : MM) (t0 : Nat) (a1 : Int32) (a2 : Int32) (a3 : Int32) (h0 : AtTown t0) (h : o_X8_behindStair mm t0 a1 a2 a3) : Runs e_X8_behindStair [.ref t0, .int a1, .int a2, .int a3] mm (fun r m_ => r = .int (v_X8_behindStair mm t0 a1 a2 a3) ∧ mm = m_) := by
  refine runs_of_G (L := [(0, .ref t0), (1, .int a1), (2, .int a2), (3, .int a3)]) pl_X8 (Nat.le_of_ble_eq_true rfl) rfl ?_
  unfold o_X8_behindStair at h
  refine g_aload_n (pc := 0) (x := t0) dX8_behindStair_0 rfl ?_
  refine g_getR (pc := 1) (dd := 4) dX8_behindStair_1 fo_X8_21 (AtTown_0 h0) rfl ?_
  refine g_iload_n (pc := 4) (x := a1) dX8_behindStair_4 rfl ?_
  refine g_iaload (pc := 5) dX8_behindStair_5 (AtTown_4 h0) h.1 ?_
  have h := h.2
  refine g_callS (pc := 6) (as := [.int (mm.1 (t0 + 4) a1.toNatClampNeg)]) dX8_behindStair_6 cw_X8_153 (by decide) rfl rfl (Nat.le_of_ble_eq_true rfl) (rv_X8_bitOf mm (mm.1 (t0 + 4) a1.toNatClampNeg)) ?_
  rintro r_ m_ hz_ ⟨rfl, rfl⟩
  refine g_istore (pc := 9) (L' := [(0, .ref t0), (1, .int a1), (2, .int a2), (3, .int a3), (4, .int (v_X8_bitOf mm (mm.1 (t0 + 4) a1.toNatClampNeg)))]) dX8_behindStair_9 (Nat.le_of_ble_eq_true rfl) rfl ?_
  refine g_aload_n (pc := 11) (x := t0) dX8_behindStair_11 rfl ?_
  refine g_getR (pc := 12) (dd := 5) dX8_behindStair_12 fo_X8_24 (AtTown_0 h0) rfl ?_
  refine g_iload_n (pc := 15) (x := a1) dX8_behindStair_15 rfl ?_
  refine g_iaload (pc := 16) dX8_behindStair_16 (AtTown_5 h0) h.1 ?_
  have h := h.2
  refine g_callS (pc := 17) (as := [.int (mm.1 (t0 + 5) a1.toNatClampNeg)]) dX8_behindStair_17 cw_X8_153 (by decide) rfl rfl (Nat.le_of_ble_eq_true rfl) (rv_X8_bitOf mm (mm.1 (t0 + 5) a1.toNatClampNeg)) ?_
  rintro r_ m_ hz_ ⟨rfl, rfl⟩
  refine g_istore (pc := 20) (L' := [(0, .ref t0), (1, .int a1), (2, .int a2), (3, .int a3), (4, .int (v_X8_bitOf mm (mm.1 (t0 + 4) a1.toNatClampNeg))), (5, .int (v_X8_bitOf mm (mm.1 (t0 + 5) a1.toNatClampNeg)))]) dX8_behindStair_20 (Nat.le_of_ble_eq_true rfl) rfl ?_
  refine g_aload_n (pc := 22) (x := t0) dX8_behindStair_22 rfl ?_
  refine g_getR (pc := 23) (dd := 5) dX8_behindStair_23 fo_X8_24 (AtTown_0 h0) rfl ?_
  refine g_iload_n (pc := 26) (x := a1) dX8_behindStair_26 rfl ?_
  refine g_iaload (pc := 27) dX8_behindStair_27 (AtTown_5 h0) h.1 ?_
  have h := h.2
  refine g_iconst (pc := 28) (v := (-1 : Int32)) dX8_behindStair_28 (by decide) ?_
  refine g_icmp_ne (pc := 29) (tgt := 43) dX8_behindStair_29 (by decide) (fun c29 => ?_) (fun c29 => ?_)
  · have c29_0 : ¬ (mm.1 (t0 + 5) a1.toNatClampNeg) = (-1 : Int32) := c29
    refine g_iload_n (pc := 43) (x := a2) dX8_behindStair_43 rfl ?_
    refine g_iload (pc := 44) (x := (v_X8_bitOf mm (mm.1 (t0 + 4) a1.toNatClampNeg))) dX8_behindStair_44 rfl ?_
    refine g_iand (pc := 46) dX8_behindStair_46 ?_
    refine g_if_ne (pc := 47) (tgt := 57) dX8_behindStair_47 (by decide) (fun c47 => ?_) (fun c47 => ?_)
    · have c47_1 : ¬ (a2 &&& (v_X8_bitOf mm (mm.1 (t0 + 4) a1.toNatClampNeg))) = 0 := c47
      refine g_iload (pc := 57) (x := (v_X8_bitOf mm (mm.1 (t0 + 4) a1.toNatClampNeg))) dX8_behindStair_57 rfl ?_
      refine g_iload (pc := 59) (x := (v_X8_bitOf mm (mm.1 (t0 + 5) a1.toNatClampNeg))) dX8_behindStair_59 rfl ?_
      refine g_ior (pc := 61) dX8_behindStair_61 ?_
      refine g_goto (pc := 62) (tgt := 66) dX8_behindStair_62 (by decide) ?_
      exact g_iret (pc := 66) dX8_behindStair_66 rfl rfl rfl ⟨(by unfold v_X8_behindStair; rw [cite_neg c29_0, cite_neg c47_1] <;> rfl), rfl⟩
    · have c47_1 : (a2 &&& (v_X8_bitOf mm (mm.1 (t0 + 4) a1.toNatClampNeg))) = 0 := c47
      refine g_iload_n (pc := 50) (x := a2) dX8_behindStair_50 rfl ?_
      refine g_iload (pc := 51) (x := (v_X8_bitOf mm (mm.1 (t0 + 5) a1.toNatClampNeg))) dX8_behindStair_51 rfl ?_
      refine g_iand (pc := 53) dX8_behindStair_53 ?_
      refine g_if_eq (pc := 54) (tgt := 65) dX8_behindStair_54 (by decide) (fun c54 => ?_) (fun c54 => ?_)
      · have c54_2 : (a2 &&& (v_X8_bitOf mm (mm.1 (t0 + 5) a1.toNatClampNeg))) = 0 := c54
        refine g_iconst (pc := 65) (v := (0 : Int32)) dX8_behindStair_65 (by decide) ?_
        exact g_iret (pc := 66) dX8_behindStair_66 rfl rfl rfl ⟨(by unfold v_X8_behindStair; rw [cite_neg c29_0, cite_pos c47_1, cite_pos c54_2] <;> rfl), rfl⟩
      · have c54_2 : ¬ (a2 &&& (v_X8_bitOf mm (mm.1 (t0 + 5) a1.toNatClampNeg))) = 0 := c54
        refine g_iload (pc := 57) (x := (v_X8_bitOf mm (mm.1 (t0 + 4) a1.toNatClampNeg))) dX8_behindStair_57 rfl ?_
        refine g_iload (pc := 59) (x := (v_X8_bitOf mm (mm.1 (t0 + 5) a1.toNatClampNeg))) dX8_behindStair_59 rfl ?_
        refine g_ior (pc := 61) dX8_behindStair_61 ?_
        refine g_goto (pc := 62) (tgt := 66) dX8_behindStair_62 (by decide) ?_
        exact g_iret (pc := 66) dX8_behindStair_66 rfl rfl rfl ⟨(by unfold v_X8_behindStair; rw [cite_neg c29_0, cite_pos c47_1, cite_neg c54_2] <;> rfl), rfl⟩
  · have c29_0 : (mm.1 (t0 + 5) a1.toNatClampNeg) = (-1 : Int32) := c29
    refine g_iload_n (pc := 32) (x := a3) dX8_behindStair_32 rfl ?_
    refine g_if_ne (pc := 33) (tgt := 41) dX8_behindStair_33 (by decide) (fun c33 => ?_) (fun c33 => ?_)
    · have c33_1 : ¬ a3 = 0 := c33
      refine g_iconst (pc := 41) (v := (0 : Int32)) dX8_behindStair_41 (by decide) ?_
      exact g_iret (pc := 42) dX8_behindStair_42 rfl rfl rfl ⟨(by unfold v_X8_behindStair; rw [cite_pos c29_0, cite_neg c33_1] <;> rfl), rfl⟩
    · have c33_1 : a3 = 0 := c33
      refine g_iload (pc := 36) (x := (v_X8_bitOf mm (mm.1 (t0 + 4) a1.toNatClampNeg))) dX8_behindStair_36 rfl ?_
      refine g_goto (pc := 38) (tgt := 42) dX8_behindStair_38 (by decide) ?_
      exact g_iret (pc := 42) dX8_behindStair_42 rfl rfl rfl ⟨(by unfold v_X8_behindStair; rw [cite_pos c29_0, cite_pos c33_1] <;> rfl), rfl⟩
theorem b_X8_reachedWithout_55 (mm : MM) (Q : Value → MM → Prop) (l0 : Nat) (l1 : Nat) (l2 : Int32) (l3 : Int32) (l5 : Int32) (l6 : Int32) (l7 : Int32) (l8 : Int32) (l9 : Int32) (k0 : AtTown l0) (k1 : SHL[l1]? = some (.inl (0, 16, 0, 0))) (h : ((mm.1 l0 10) ≤ l9 → ((¬ l6 = l8 → (G e_X8_reachedWithout 39 [(0, .ref l0), (1, .ref l1), (2, .int l2), (3, .int l3), (5, .int l5), (6, .int l6), (7, .int (l7 + (1 : Int32)))] [] mm Q)) ∧ (l6 = l8 → (Q (.int l6) mm)))) ∧ (¬ (mm.1 l0 10) ≤ l9 → ((l9 = l3 → (G e_X8_reachedWithout 55 [(0, .ref l0), (1, .ref l1), (2, .int l2), (3, .int l3), (5, .int l5), (6, .int l6), (7, .int l7), (8, .int l8), (9, .int (l9 + (1 : Int32)))] [] mm Q)) ∧ (¬ l9 = l3 → (o_X8_stairMeets mm l0 l1 l9 ∧ ((p_X8_stairMeets mm l0 l1 l9 → (o_X8_behindStair mm l0 l9 l6 l2 ∧ (G e_X8_reachedWithout 55 [(0, .ref l0), (1, .ref l1), (2, .int l2), (3, .int l3), (5, .int l5), (6, .int (l6 ||| ((v_X8_behindStair mm l0 l9 l6 l2) &&& l5))), (7, .int l7), (8, .int l8), (9, .int (l9 + (1 : Int32)))] [] mm Q))) ∧ (¬ p_X8_stairMeets mm l0 l1 l9 → (G e_X8_reachedWithout 55 [(0, .ref l0), (1, .ref l1), (2, .int l2), (3, .int l3), (5, .int l5), (6, .int l6), (7, .int l7), (8, .int l8), (9, .int (l9 + (1 : Int32)))] [] mm Q)))))))) : G e_X8_reachedWithout 55 [(0, .ref l0), (1, .ref l1), (2, .int l2), (3, .int l3), (5, .int l5), (6, .int l6), (7, .int l7), (8, .int l8), (9, .int l9)] [] mm Q := by
  refine g_iload (pc := 55) (x := l9) dX8_reachedWithout_55 rfl ?_
  refine g_aload_n (pc := 57) (x := l0) dX8_reachedWithout_57 rfl ?_
  refine g_getI (pc := 58) dX8_reachedWithout_58 fo_X8_47 (AtTown_0 k0) rfl ?_
  refine g_icmp_ge (pc := 61) (tgt := 103) dX8_reachedWithout_61 (by decide) (fun c61 => ?_) (fun c61 => ?_)
  · have h := h.1 c61
    refine g_iload (pc := 103) (x := l6) dX8_reachedWithout_103 rfl ?_
    refine g_iload (pc := 105) (x := l8) dX8_reachedWithout_105 rfl ?_
    refine g_icmp_ne (pc := 107) (tgt := 113) dX8_reachedWithout_107 (by decide) (fun c107 => ?_) (fun c107 => ?_)
    · have h := h.1 c107
      refine g_iinc (pc := 113) (x := l7) (v := (l7 + (1 : Int32))) (L' := [(0, .ref l0), (1, .ref l1), (2, .int l2), (3, .int l3), (5, .int l5), (6, .int l6), (7, .int (l7 + (1 : Int32))), (8, .int l8), (9, .int l9)]) dX8_reachedWithout_113 rfl rfl (Nat.le_of_ble_eq_true rfl) rfl ?_
      refine g_goto (pc := 116) (tgt := 39) dX8_reachedWithout_116 (by decide) ?_
      refine g_sub (L' := [(0, .ref l0), (1, .ref l1), (2, .int l2), (3, .int l3), (5, .int l5), (6, .int l6), (7, .int (l7 + (1 : Int32)))]) [0, 1, 2, 3, 4, 5, 6] rfl ?_
      exact h
    · have h := h.2 c107
      refine g_goto (pc := 110) (tgt := 119) dX8_reachedWithout_110 (by decide) ?_
      refine g_iload (pc := 119) (x := l6) dX8_reachedWithout_119 rfl ?_
      exact g_iret (pc := 121) dX8_reachedWithout_121 rfl rfl rfl h
  · have h := h.2 c61
    refine g_iload (pc := 64) (x := l9) dX8_reachedWithout_64 rfl ?_
    refine g_iload_n (pc := 66) (x := l3) dX8_reachedWithout_66 rfl ?_
    refine g_icmp_eq (pc := 67) (tgt := 97) dX8_reachedWithout_67 (by decide) (fun c67 => ?_) (fun c67 => ?_)
    · have h := h.1 c67
      refine g_iinc (pc := 97) (x := l9) (v := (l9 + (1 : Int32))) (L' := [(0, .ref l0), (1, .ref l1), (2, .int l2), (3, .int l3), (5, .int l5), (6, .int l6), (7, .int l7), (8, .int l8), (9, .int (l9 + (1 : Int32)))]) dX8_reachedWithout_97 rfl rfl (Nat.le_of_ble_eq_true rfl) rfl ?_
      refine g_goto (pc := 100) (tgt := 55) dX8_reachedWithout_100 (by decide) ?_
      exact h
    · have h := h.2 c67
      refine g_aload_n (pc := 70) (x := l0) dX8_reachedWithout_70 rfl ?_
      refine g_aload_n (pc := 71) (x := l1) dX8_reachedWithout_71 rfl ?_
      refine g_iload (pc := 72) (x := l9) dX8_reachedWithout_72 rfl ?_
      refine g_callV (pc := 74) (as := [.ref l1, .int l9]) dX8_reachedWithout_74 cw_X8_156 (by decide) rfl rfl (AtTown_0 k0) (Nat.le_of_ble_eq_true rfl) (rv_X8_stairMeets mm l0 l1 l9 k0 k1 h.1) ?_
      have h := h.2
      rintro r_ m_ hz_ ⟨⟨p_, rfl⟩ | ⟨p_, rfl⟩, rfl⟩
      · have h := h.1 p_
        refine g_if_eq (pc := 77) (tgt := 97) dX8_reachedWithout_77 (by decide) (fun c77 => absurd c77 (by decide)) (fun _ => ?_)
        refine g_iload (pc := 80) (x := l6) dX8_reachedWithout_80 rfl ?_
        refine g_aload_n (pc := 82) (x := l0) dX8_reachedWithout_82 rfl ?_
        refine g_iload (pc := 83) (x := l9) dX8_reachedWithout_83 rfl ?_
        refine g_iload (pc := 85) (x := l6) dX8_reachedWithout_85 rfl ?_
        refine g_iload_n (pc := 87) (x := l2) dX8_reachedWithout_87 rfl ?_
        refine g_callV (pc := 88) (as := [.int l9, .int l6, .int l2]) dX8_reachedWithout_88 cw_X8_159 (by decide) rfl rfl (AtTown_0 k0) (Nat.le_of_ble_eq_true rfl) (rv_X8_behindStair mm l0 l9 l6 l2 k0 h.1) ?_
        have h := h.2
        rintro r_ m_ hz_ ⟨rfl, rfl⟩
        refine g_iload (pc := 91) (x := l5) dX8_reachedWithout_91 rfl ?_
        refine g_iand (pc := 93) dX8_reachedWithout_93 ?_
        refine g_ior (pc := 94) dX8_reachedWithout_94 ?_
        refine g_istore (pc := 95) (L' := [(0, .ref l0), (1, .ref l1), (2, .int l2), (3, .int l3), (5, .int l5), (6, .int (l6 ||| ((v_X8_behindStair mm l0 l9 l6 l2) &&& l5))), (7, .int l7), (8, .int l8), (9, .int l9)]) dX8_reachedWithout_95 (Nat.le_of_ble_eq_true rfl) rfl ?_
        refine g_iinc (pc := 97) (x := l9) (v := (l9 + (1 : Int32))) (L' := [(0, .ref l0), (1, .ref l1), (2, .int l2), (3, .int l3), (5, .int l5), (6, .int (l6 ||| ((v_X8_behindStair mm l0 l9 l6 l2) &&& l5))), (7, .int l7), (8, .int l8), (9, .int (l9 + (1 : Int32)))]) dX8_reachedWithout_97 rfl rfl (Nat.le_of_ble_eq_true rfl) rfl ?_
        refine g_goto (pc := 100) (tgt := 55) dX8_reachedWithout_100 (by decide) ?_
        exact h
      · have h := h.2 p_
        refine g_if_eq (pc := 77) (tgt := 97) dX8_reachedWithout_77 (by decide) (fun _ => ?_) (fun c77 => absurd c77 (by decide))
        refine g_iinc (pc := 97) (x := l9) (v := (l9 + (1 : Int32))) (L' := [(0, .ref l0), (1, .ref l1), (2, .int l2), (3, .int l3), (5, .int l5), (6, .int l6), (7, .int l7), (8, .int l8), (9, .int (l9 + (1 : Int32)))]) dX8_reachedWithout_97 rfl rfl (Nat.le_of_ble_eq_true rfl) rfl ?_
        refine g_goto (pc := 100) (tgt := 55) dX8_reachedWithout_100 (by decide) ?_
        exact h
theorem dX8_cutBy_0 : decode cX8_cutBy 0 = .ok (.aload_n 0, 1) := by decide +kernel
theorem dX8_cutBy_1 : decode cX8_cutBy 1 = .ok (.aload_n 3, 1) := by decide +kernel
theorem dX8_cutBy_2 : decode cX8_cutBy 2 = .ok (.iload 4, 2) := by decide +kernel
theorem dX8_cutBy_4 : decode cX8_cutBy 4 = .ok (.invokevirtual 163, 3) := by decide +kernel
theorem dX8_cutBy_7 : decode cX8_cutBy 7 = .ok (.istore 5, 2) := by decide +kernel
theorem dX8_cutBy_9 : decode cX8_cutBy 9 = .ok (.iload_n 2, 1) := by decide +kernel
theorem dX8_cutBy_10 : decode cX8_cutBy 10 = .ok (.ifCond .eq 21, 3) := by decide +kernel
theorem dX8_cutBy_13 : decode cX8_cutBy 13 = .ok (.iload 5, 2) := by decide +kernel
theorem dX8_cutBy_15 : decode cX8_cutBy 15 = .ok (.aload_n 0, 1) := by decide +kernel
theorem dX8_cutBy_16 : decode cX8_cutBy 16 = .ok (.aload_n 3, 1) := by decide +kernel
theorem dX8_cutBy_17 : decode cX8_cutBy 17 = .ok (.iload 4, 2) := by decide +kernel
theorem dX8_cutBy_19 : decode cX8_cutBy 19 = .ok (.iload_n 1, 1) := by decide +kernel
theorem dX8_cutBy_20 : decode cX8_cutBy 20 = .ok (.iconst (-1), 1) := by decide +kernel
theorem dX8_cutBy_21 : decode cX8_cutBy 21 = .ok (.invokevirtual 146, 3) := by decide +kernel
theorem dX8_cutBy_24 : decode cX8_cutBy 24 = .ok (.iconst (-1), 1) := by decide +kernel
theorem dX8_cutBy_25 : decode cX8_cutBy 25 = .ok (.ixor, 1) := by decide +kernel
theorem dX8_cutBy_26 : decode cX8_cutBy 26 = .ok (.iand, 1) := by decide +kernel
theorem dX8_cutBy_27 : decode cX8_cutBy 27 = .ok (.invokestatic 166, 3) := by decide +kernel
theorem dX8_cutBy_30 : decode cX8_cutBy 30 = .ok (.ireturn, 1) := by decide +kernel
theorem dX8_cutBy_31 : decode cX8_cutBy 31 = .ok (.aload_n 0, 1) := by decide +kernel
theorem dX8_cutBy_32 : decode cX8_cutBy 32 = .ok (.aload_n 3, 1) := by decide +kernel
theorem dX8_cutBy_33 : decode cX8_cutBy 33 = .ok (.iload 4, 2) := by decide +kernel
theorem dX8_cutBy_35 : decode cX8_cutBy 35 = .ok (.iconst (-1), 1) := by decide +kernel
theorem dX8_cutBy_36 : decode cX8_cutBy 36 = .ok (.iload_n 1, 1) := by decide +kernel
theorem dX8_cutBy_37 : decode cX8_cutBy 37 = .ok (.invokevirtual 146, 3) := by decide +kernel
theorem dX8_cutBy_40 : decode cX8_cutBy 40 = .ok (.istore 6, 2) := by decide +kernel
theorem dX8_cutBy_42 : decode cX8_cutBy 42 = .ok (.iload 5, 2) := by decide +kernel
theorem dX8_cutBy_44 : decode cX8_cutBy 44 = .ok (.iload 6, 2) := by decide +kernel
theorem dX8_cutBy_46 : decode cX8_cutBy 46 = .ok (.iconst (-1), 1) := by decide +kernel
theorem dX8_cutBy_47 : decode cX8_cutBy 47 = .ok (.ixor, 1) := by decide +kernel
theorem dX8_cutBy_48 : decode cX8_cutBy 48 = .ok (.iand, 1) := by decide +kernel
theorem dX8_cutBy_49 : decode cX8_cutBy 49 = .ok (.iload_n 1, 1) := by decide +kernel
theorem dX8_cutBy_50 : decode cX8_cutBy 50 = .ok (.invokestatic 153, 3) := by decide +kernel
theorem dX8_cutBy_53 : decode cX8_cutBy 53 = .ok (.iconst (-1), 1) := by decide +kernel
theorem dX8_cutBy_54 : decode cX8_cutBy 54 = .ok (.ixor, 1) := by decide +kernel
theorem dX8_cutBy_55 : decode cX8_cutBy 55 = .ok (.iand, 1) := by decide +kernel
theorem dX8_cutBy_56 : decode cX8_cutBy 56 = .ok (.invokestatic 166, 3) := by decide +kernel
theorem dX8_cutBy_59 : decode cX8_cutBy 59 = .ok (.ireturn, 1) := by decide +kernel
theorem b_X8_cutBy (mm : MM) (Q : Value → MM → Prop) (t0 : Nat) (a1 : Int32) (a2 : Int32) (a3 : Nat) (a4 : Int32) (h0 : AtTown t0) (h3 : SHL[a3]? = some (.inl (0, 16, 0, 0))) (h : ∃ Pm1 : Value → MM → Prop, Runs e_X8_reachedBits [.ref t0, .ref a3, .int a4] mm Pm1 ∧ ∀ (r1 : Int32) (m1 : MM), Pm1 (.int r1) m1 → ((a2 = 0 → (∃ Pm2 : Value → MM → Prop, Runs e_X8_reachedWithout [.ref t0, .ref a3, .int a4, .int (-1 : Int32), .int a1] m1 Pm2 ∧ ∀ (r2 : Int32) (m2 : MM), Pm2 (.int r2) m2 → (Q (.int (v_J6_bitCount_0f7a4 m2 ((r1 &&& (r2 ^^^ (-1 : Int32))) &&& ((v_X8_bitOf m2 a1) ^^^ (-1 : Int32))))) m2))) ∧ (¬ a2 = 0 → (∃ Pm2 : Value → MM → Prop, Runs e_X8_reachedWithout [.ref t0, .ref a3, .int a4, .int a1, .int (-1 : Int32)] m1 Pm2 ∧ ∀ (r2 : Int32) (m2 : MM), Pm2 (.int r2) m2 → (Q (.int (v_J6_bitCount_0f7a4 m2 (r1 &&& (r2 ^^^ (-1 : Int32))))) m2))))) : Runs e_X8_cutBy [.ref t0, .int a1, .int a2, .ref a3, .int a4] mm Q := by
  refine runs_of_G (L := [(0, .ref t0), (1, .int a1), (2, .int a2), (3, .ref a3), (4, .int a4)]) pl_X8 (Nat.le_of_ble_eq_true rfl) rfl ?_
  refine g_aload_n (pc := 0) (x := t0) dX8_cutBy_0 rfl ?_
  refine g_aload_n (pc := 1) (x := a3) dX8_cutBy_1 rfl ?_
  refine g_iload (pc := 2) (x := a4) dX8_cutBy_2 rfl ?_
  obtain ⟨Pm1, hRm1, h⟩ := h
  refine g_callV (pc := 4) (as := [.ref a3, .int a4]) dX8_cutBy_4 cw_X8_163 (by decide) rfl rfl (AtTown_0 h0) (Nat.le_of_ble_eq_true rfl) hRm1 ?_
  intro r_ m1 hz_ hp_
  obtain ⟨r1, rfl⟩ := hz_
  have h := h r1 m1 hp_
  refine g_istore (pc := 7) (L' := [(0, .ref t0), (1, .int a1), (2, .int a2), (3, .ref a3), (4, .int a4), (5, .int r1)]) dX8_cutBy_7 (Nat.le_of_ble_eq_true rfl) rfl ?_
  refine g_iload_n (pc := 9) (x := a2) dX8_cutBy_9 rfl ?_
  refine g_if_eq (pc := 10) (tgt := 31) dX8_cutBy_10 (by decide) (fun c10 => ?_) (fun c10 => ?_)
  · have h := h.1 c10
    refine g_aload_n (pc := 31) (x := t0) dX8_cutBy_31 rfl ?_
    refine g_aload_n (pc := 32) (x := a3) dX8_cutBy_32 rfl ?_
    refine g_iload (pc := 33) (x := a4) dX8_cutBy_33 rfl ?_
    refine g_iconst (pc := 35) (v := (-1 : Int32)) dX8_cutBy_35 (by decide) ?_
    refine g_iload_n (pc := 36) (x := a1) dX8_cutBy_36 rfl ?_
    obtain ⟨Pm2, hRm2, h⟩ := h
    refine g_callV (pc := 37) (as := [.ref a3, .int a4, .int (-1 : Int32), .int a1]) dX8_cutBy_37 cw_X8_146 (by decide) rfl rfl (AtTown_0 h0) (Nat.le_of_ble_eq_true rfl) hRm2 ?_
    intro r_ m2 hz_ hp_
    obtain ⟨r2, rfl⟩ := hz_
    have h := h r2 m2 hp_
    refine g_istore (pc := 40) (L' := [(0, .ref t0), (1, .int a1), (2, .int a2), (3, .ref a3), (4, .int a4), (5, .int r1), (6, .int r2)]) dX8_cutBy_40 (Nat.le_of_ble_eq_true rfl) rfl ?_
    refine g_iload (pc := 42) (x := r1) dX8_cutBy_42 rfl ?_
    refine g_iload (pc := 44) (x := r2) dX8_cutBy_44 rfl ?_
    refine g_iconst (pc := 46) (v := (-1 : Int32)) dX8_cutBy_46 (by decide) ?_
    refine g_ixor (pc := 47) dX8_cutBy_47 ?_
    refine g_iand (pc := 48) dX8_cutBy_48 ?_
    refine g_iload_n (pc := 49) (x := a1) dX8_cutBy_49 rfl ?_
    refine g_callS (pc := 50) (as := [.int a1]) dX8_cutBy_50 cw_X8_153 (by decide) rfl rfl (Nat.le_of_ble_eq_true rfl) (rv_X8_bitOf m2 a1) ?_
    rintro r_ m_ hz_ ⟨rfl, rfl⟩
    refine g_iconst (pc := 53) (v := (-1 : Int32)) dX8_cutBy_53 (by decide) ?_
    refine g_ixor (pc := 54) dX8_cutBy_54 ?_
    refine g_iand (pc := 55) dX8_cutBy_55 ?_
    refine g_callS (pc := 56) (as := [.int ((r1 &&& (r2 ^^^ (-1 : Int32))) &&& ((v_X8_bitOf m2 a1) ^^^ (-1 : Int32)))]) dX8_cutBy_56 cw_X8_166 (by decide) rfl rfl (Nat.le_of_ble_eq_true rfl) (rv_J6_bitCount_0f7a4 m2 ((r1 &&& (r2 ^^^ (-1 : Int32))) &&& ((v_X8_bitOf m2 a1) ^^^ (-1 : Int32)))) ?_
    rintro r_ m_ hz_ ⟨rfl, rfl⟩
    exact g_iret (pc := 59) dX8_cutBy_59 rfl rfl rfl h
  · have h := h.2 c10
    refine g_iload (pc := 13) (x := r1) dX8_cutBy_13 rfl ?_
    refine g_aload_n (pc := 15) (x := t0) dX8_cutBy_15 rfl ?_
    refine g_aload_n (pc := 16) (x := a3) dX8_cutBy_16 rfl ?_
    refine g_iload (pc := 17) (x := a4) dX8_cutBy_17 rfl ?_
    refine g_iload_n (pc := 19) (x := a1) dX8_cutBy_19 rfl ?_
    refine g_iconst (pc := 20) (v := (-1 : Int32)) dX8_cutBy_20 (by decide) ?_
    obtain ⟨Pm2, hRm2, h⟩ := h
    refine g_callV (pc := 21) (as := [.ref a3, .int a4, .int a1, .int (-1 : Int32)]) dX8_cutBy_21 cw_X8_146 (by decide) rfl rfl (AtTown_0 h0) (Nat.le_of_ble_eq_true rfl) hRm2 ?_
    intro r_ m2 hz_ hp_
    obtain ⟨r2, rfl⟩ := hz_
    have h := h r2 m2 hp_
    refine g_iconst (pc := 24) (v := (-1 : Int32)) dX8_cutBy_24 (by decide) ?_
    refine g_ixor (pc := 25) dX8_cutBy_25 ?_
    refine g_iand (pc := 26) dX8_cutBy_26 ?_
    refine g_callS (pc := 27) (as := [.int (r1 &&& (r2 ^^^ (-1 : Int32)))]) dX8_cutBy_27 cw_X8_166 (by decide) rfl rfl (Nat.le_of_ble_eq_true rfl) (rv_J6_bitCount_0f7a4 m2 (r1 &&& (r2 ^^^ (-1 : Int32)))) ?_
    rintro r_ m_ hz_ ⟨rfl, rfl⟩
    exact g_iret (pc := 30) dX8_cutBy_30 rfl rfl rfl h
theorem dX8_seesInto_0 : decode cX8_seesInto 0 = .ok (.aload_n 1, 1) := by decide +kernel
theorem dX8_seesInto_1 : decode cX8_seesInto 1 = .ok (.iload_n 2, 1) := by decide +kernel
theorem dX8_seesInto_2 : decode cX8_seesInto 2 = .ok (.iaload, 1) := by decide +kernel
theorem dX8_seesInto_3 : decode cX8_seesInto 3 = .ok (.aload_n 1, 1) := by decide +kernel
theorem dX8_seesInto_4 : decode cX8_seesInto 4 = .ok (.iload_n 3, 1) := by decide +kernel
theorem dX8_seesInto_5 : decode cX8_seesInto 5 = .ok (.iaload, 1) := by decide +kernel
theorem dX8_seesInto_6 : decode cX8_seesInto 6 = .ok (.if_icmp .le 18, 3) := by decide +kernel
theorem dX8_seesInto_9 : decode cX8_seesInto 9 = .ok (.aload_n 0, 1) := by decide +kernel
theorem dX8_seesInto_10 : decode cX8_seesInto 10 = .ok (.getfield 9, 3) := by decide +kernel
theorem dX8_seesInto_13 : decode cX8_seesInto 13 = .ok (.iload_n 2, 1) := by decide +kernel
theorem dX8_seesInto_14 : decode cX8_seesInto 14 = .ok (.iaload, 1) := by decide +kernel
theorem dX8_seesInto_15 : decode cX8_seesInto 15 = .ok (.aload_n 0, 1) := by decide +kernel
theorem dX8_seesInto_16 : decode cX8_seesInto 16 = .ok (.getfield 9, 3) := by decide +kernel
theorem dX8_seesInto_19 : decode cX8_seesInto 19 = .ok (.iload_n 3, 1) := by decide +kernel
theorem dX8_seesInto_20 : decode cX8_seesInto 20 = .ok (.iaload, 1) := by decide +kernel
theorem dX8_seesInto_21 : decode cX8_seesInto 21 = .ok (.if_icmp .ne 5, 3) := by decide +kernel
theorem dX8_seesInto_24 : decode cX8_seesInto 24 = .ok (.iconst 0, 1) := by decide +kernel
theorem dX8_seesInto_25 : decode cX8_seesInto 25 = .ok (.ireturn, 1) := by decide +kernel
theorem dX8_seesInto_26 : decode cX8_seesInto 26 = .ok (.aload_n 0, 1) := by decide +kernel
theorem dX8_seesInto_27 : decode cX8_seesInto 27 = .ok (.getfield 9, 3) := by decide +kernel
theorem dX8_seesInto_30 : decode cX8_seesInto 30 = .ok (.iload_n 2, 1) := by decide +kernel
theorem dX8_seesInto_31 : decode cX8_seesInto 31 = .ok (.iaload, 1) := by decide +kernel
theorem dX8_seesInto_32 : decode cX8_seesInto 32 = .ok (.aload_n 0, 1) := by decide +kernel
theorem dX8_seesInto_33 : decode cX8_seesInto 33 = .ok (.getfield 9, 3) := by decide +kernel
theorem dX8_seesInto_36 : decode cX8_seesInto 36 = .ok (.iload_n 3, 1) := by decide +kernel
theorem dX8_seesInto_37 : decode cX8_seesInto 37 = .ok (.iaload, 1) := by decide +kernel
theorem dX8_seesInto_38 : decode cX8_seesInto 38 = .ok (.isub, 1) := by decide +kernel
theorem dX8_seesInto_39 : decode cX8_seesInto 39 = .ok (.invokestatic 141, 3) := by decide +kernel
theorem dX8_seesInto_42 : decode cX8_seesInto 42 = .ok (.istore 4, 2) := by decide +kernel
theorem dX8_seesInto_44 : decode cX8_seesInto 44 = .ok (.iconst 0, 1) := by decide +kernel
theorem dX8_seesInto_45 : decode cX8_seesInto 45 = .ok (.istore 5, 2) := by decide +kernel
theorem dX8_seesInto_47 : decode cX8_seesInto 47 = .ok (.iload 5, 2) := by decide +kernel
theorem dX8_seesInto_49 : decode cX8_seesInto 49 = .ok (.aload_n 0, 1) := by decide +kernel
theorem dX8_seesInto_50 : decode cX8_seesInto 50 = .ok (.getfield 40, 3) := by decide +kernel
theorem dX8_seesInto_53 : decode cX8_seesInto 53 = .ok (.if_icmp .ge 108, 3) := by decide +kernel
theorem dX8_seesInto_56 : decode cX8_seesInto 56 = .ok (.aload_n 0, 1) := by decide +kernel
theorem dX8_seesInto_57 : decode cX8_seesInto 57 = .ok (.getfield 9, 3) := by decide +kernel
theorem dX8_seesInto_60 : decode cX8_seesInto 60 = .ok (.iload 5, 2) := by decide +kernel
theorem dX8_seesInto_62 : decode cX8_seesInto 62 = .ok (.iaload, 1) := by decide +kernel
theorem dX8_seesInto_63 : decode cX8_seesInto 63 = .ok (.aload_n 0, 1) := by decide +kernel
theorem dX8_seesInto_64 : decode cX8_seesInto 64 = .ok (.getfield 9, 3) := by decide +kernel
theorem dX8_seesInto_67 : decode cX8_seesInto 67 = .ok (.iload_n 2, 1) := by decide +kernel
theorem dX8_seesInto_68 : decode cX8_seesInto 68 = .ok (.iaload, 1) := by decide +kernel
theorem dX8_seesInto_69 : decode cX8_seesInto 69 = .ok (.isub, 1) := by decide +kernel
theorem dX8_seesInto_70 : decode cX8_seesInto 70 = .ok (.invokestatic 141, 3) := by decide +kernel
theorem dX8_seesInto_73 : decode cX8_seesInto 73 = .ok (.istore 6, 2) := by decide +kernel
theorem dX8_seesInto_75 : decode cX8_seesInto 75 = .ok (.aload_n 0, 1) := by decide +kernel
theorem dX8_seesInto_76 : decode cX8_seesInto 76 = .ok (.getfield 9, 3) := by decide +kernel
theorem dX8_seesInto_79 : decode cX8_seesInto 79 = .ok (.iload 5, 2) := by decide +kernel
theorem dX8_seesInto_81 : decode cX8_seesInto 81 = .ok (.iaload, 1) := by decide +kernel
theorem dX8_seesInto_82 : decode cX8_seesInto 82 = .ok (.aload_n 0, 1) := by decide +kernel
theorem dX8_seesInto_83 : decode cX8_seesInto 83 = .ok (.getfield 9, 3) := by decide +kernel
theorem dX8_seesInto_86 : decode cX8_seesInto 86 = .ok (.iload_n 3, 1) := by decide +kernel
theorem dX8_seesInto_87 : decode cX8_seesInto 87 = .ok (.iaload, 1) := by decide +kernel
theorem dX8_seesInto_88 : decode cX8_seesInto 88 = .ok (.isub, 1) := by decide +kernel
theorem dX8_seesInto_89 : decode cX8_seesInto 89 = .ok (.invokestatic 141, 3) := by decide +kernel
theorem dX8_seesInto_92 : decode cX8_seesInto 92 = .ok (.istore 7, 2) := by decide +kernel
theorem dX8_seesInto_94 : decode cX8_seesInto 94 = .ok (.iload 6, 2) := by decide +kernel
theorem dX8_seesInto_96 : decode cX8_seesInto 96 = .ok (.ifCond .le 22, 3) := by decide +kernel
theorem dX8_seesInto_99 : decode cX8_seesInto 99 = .ok (.iload 7, 2) := by decide +kernel
theorem dX8_seesInto_101 : decode cX8_seesInto 101 = .ok (.ifCond .le 17, 3) := by decide +kernel
theorem dX8_seesInto_104 : decode cX8_seesInto 104 = .ok (.iload 6, 2) := by decide +kernel
theorem dX8_seesInto_106 : decode cX8_seesInto 106 = .ok (.iload 7, 2) := by decide +kernel
theorem dX8_seesInto_108 : decode cX8_seesInto 108 = .ok (.iadd, 1) := by decide +kernel
theorem dX8_seesInto_109 : decode cX8_seesInto 109 = .ok (.iload 4, 2) := by decide +kernel
theorem dX8_seesInto_111 : decode cX8_seesInto 111 = .ok (.if_icmp .ne 7, 3) := by decide +kernel
theorem dX8_seesInto_114 : decode cX8_seesInto 114 = .ok (.iconst 1, 1) := by decide +kernel
theorem dX8_seesInto_115 : decode cX8_seesInto 115 = .ok (.goto 4, 3) := by decide +kernel
theorem dX8_seesInto_118 : decode cX8_seesInto 118 = .ok (.iconst 0, 1) := by decide +kernel
theorem dX8_seesInto_119 : decode cX8_seesInto 119 = .ok (.istore 8, 2) := by decide +kernel
theorem dX8_seesInto_121 : decode cX8_seesInto 121 = .ok (.aload_n 1, 1) := by decide +kernel
theorem dX8_seesInto_122 : decode cX8_seesInto 122 = .ok (.iload_n 2, 1) := by decide +kernel
theorem dX8_seesInto_123 : decode cX8_seesInto 123 = .ok (.iaload, 1) := by decide +kernel
theorem dX8_seesInto_124 : decode cX8_seesInto 124 = .ok (.iload 7, 2) := by decide +kernel
theorem dX8_seesInto_126 : decode cX8_seesInto 126 = .ok (.imul, 1) := by decide +kernel
theorem dX8_seesInto_127 : decode cX8_seesInto 127 = .ok (.aload_n 1, 1) := by decide +kernel
theorem dX8_seesInto_128 : decode cX8_seesInto 128 = .ok (.iload_n 3, 1) := by decide +kernel
theorem dX8_seesInto_129 : decode cX8_seesInto 129 = .ok (.iaload, 1) := by decide +kernel
theorem dX8_seesInto_130 : decode cX8_seesInto 130 = .ok (.iload 6, 2) := by decide +kernel
theorem dX8_seesInto_132 : decode cX8_seesInto 132 = .ok (.imul, 1) := by decide +kernel
theorem dX8_seesInto_133 : decode cX8_seesInto 133 = .ok (.iadd, 1) := by decide +kernel
theorem dX8_seesInto_134 : decode cX8_seesInto 134 = .ok (.istore 9, 2) := by decide +kernel
theorem dX8_seesInto_136 : decode cX8_seesInto 136 = .ok (.iload 8, 2) := by decide +kernel
theorem dX8_seesInto_138 : decode cX8_seesInto 138 = .ok (.ifCond .eq 17, 3) := by decide +kernel
theorem dX8_seesInto_141 : decode cX8_seesInto 141 = .ok (.aload_n 1, 1) := by decide +kernel
theorem dX8_seesInto_142 : decode cX8_seesInto 142 = .ok (.iload 5, 2) := by decide +kernel
theorem dX8_seesInto_144 : decode cX8_seesInto 144 = .ok (.iaload, 1) := by decide +kernel
theorem dX8_seesInto_145 : decode cX8_seesInto 145 = .ok (.iload 4, 2) := by decide +kernel
theorem dX8_seesInto_147 : decode cX8_seesInto 147 = .ok (.imul, 1) := by decide +kernel
theorem dX8_seesInto_148 : decode cX8_seesInto 148 = .ok (.iload 9, 2) := by decide +kernel
theorem dX8_seesInto_150 : decode cX8_seesInto 150 = .ok (.if_icmp .lt 5, 3) := by decide +kernel
theorem dX8_seesInto_153 : decode cX8_seesInto 153 = .ok (.iconst 0, 1) := by decide +kernel
theorem dX8_seesInto_154 : decode cX8_seesInto 154 = .ok (.ireturn, 1) := by decide +kernel
theorem dX8_seesInto_155 : decode cX8_seesInto 155 = .ok (.iinc 5 1, 3) := by decide +kernel
theorem dX8_seesInto_158 : decode cX8_seesInto 158 = .ok (.goto (-111), 3) := by decide +kernel
theorem dX8_seesInto_161 : decode cX8_seesInto 161 = .ok (.iconst 1, 1) := by decide +kernel
theorem dX8_seesInto_162 : decode cX8_seesInto 162 = .ok (.ireturn, 1) := by decide +kernel
theorem b_X8_seesInto (mm : MM) (Q : Value → MM → Prop) (t0 : Nat) (a1 : Nat) (a2 : Int32) (a3 : Int32) (h0 : AtTown t0) (h1 : SHL[a1]? = some (.inl (0, 16, 0, 0))) (h : vp_in a2 16 ∧ (vp_in a3 16 ∧ (((mm.1 a1 a2.toNatClampNeg) ≤ (mm.1 a1 a3.toNatClampNeg) → (Q (.int (0 : Int32)) mm)) ∧ (¬ (mm.1 a1 a2.toNatClampNeg) ≤ (mm.1 a1 a3.toNatClampNeg) → (vp_in a2 16 ∧ (vp_in a3 16 ∧ ((¬ (mm.1 (t0 + 1) a2.toNatClampNeg) = (mm.1 (t0 + 1) a3.toNatClampNeg) → (vp_in a2 16 ∧ (vp_in a3 16 ∧ (G e_X8_seesInto 47 [(0, .ref t0), (1, .ref a1), (2, .int a2), (3, .int a3), (4, .int (iabs ((mm.1 (t0 + 1) a2.toNatClampNeg) - (mm.1 (t0 + 1) a3.toNatClampNeg)))), (5, .int (0 : Int32))] [] mm Q)))) ∧ ((mm.1 (t0 + 1) a2.toNatClampNeg) = (mm.1 (t0 + 1) a3.toNatClampNeg) → (Q (.int (0 : Int32)) mm))))))))) : Runs e_X8_seesInto [.ref t0, .ref a1, .int a2, .int a3] mm Q := by
  refine runs_of_G (L := [(0, .ref t0), (1, .ref a1), (2, .int a2), (3, .int a3)]) pl_X8 (Nat.le_of_ble_eq_true rfl) rfl ?_
  refine g_aload_n (pc := 0) (x := a1) dX8_seesInto_0 rfl ?_
  refine g_iload_n (pc := 1) (x := a2) dX8_seesInto_1 rfl ?_
  refine g_iaload (pc := 2) dX8_seesInto_2 h1 h.1 ?_
  have h := h.2
  refine g_aload_n (pc := 3) (x := a1) dX8_seesInto_3 rfl ?_
  refine g_iload_n (pc := 4) (x := a3) dX8_seesInto_4 rfl ?_
  refine g_iaload (pc := 5) dX8_seesInto_5 h1 h.1 ?_
  have h := h.2
  refine g_icmp_le (pc := 6) (tgt := 24) dX8_seesInto_6 (by decide) (fun c6 => ?_) (fun c6 => ?_)
  · have h := h.1 c6
    refine g_iconst (pc := 24) (v := (0 : Int32)) dX8_seesInto_24 (by decide) ?_
    exact g_iret (pc := 25) dX8_seesInto_25 rfl rfl (nar_B isB0) h
  · have h := h.2 c6
    refine g_aload_n (pc := 9) (x := t0) dX8_seesInto_9 rfl ?_
    refine g_getR (pc := 10) (dd := 1) dX8_seesInto_10 fo_X8_9 (AtTown_0 h0) rfl ?_
    refine g_iload_n (pc := 13) (x := a2) dX8_seesInto_13 rfl ?_
    refine g_iaload (pc := 14) dX8_seesInto_14 (AtTown_1 h0) h.1 ?_
    have h := h.2
    refine g_aload_n (pc := 15) (x := t0) dX8_seesInto_15 rfl ?_
    refine g_getR (pc := 16) (dd := 1) dX8_seesInto_16 fo_X8_9 (AtTown_0 h0) rfl ?_
    refine g_iload_n (pc := 19) (x := a3) dX8_seesInto_19 rfl ?_
    refine g_iaload (pc := 20) dX8_seesInto_20 (AtTown_1 h0) h.1 ?_
    have h := h.2
    refine g_icmp_ne (pc := 21) (tgt := 26) dX8_seesInto_21 (by decide) (fun c21 => ?_) (fun c21 => ?_)
    · have h := h.1 c21
      refine g_aload_n (pc := 26) (x := t0) dX8_seesInto_26 rfl ?_
      refine g_getR (pc := 27) (dd := 1) dX8_seesInto_27 fo_X8_9 (AtTown_0 h0) rfl ?_
      refine g_iload_n (pc := 30) (x := a2) dX8_seesInto_30 rfl ?_
      refine g_iaload (pc := 31) dX8_seesInto_31 (AtTown_1 h0) h.1 ?_
      have h := h.2
      refine g_aload_n (pc := 32) (x := t0) dX8_seesInto_32 rfl ?_
      refine g_getR (pc := 33) (dd := 1) dX8_seesInto_33 fo_X8_9 (AtTown_0 h0) rfl ?_
      refine g_iload_n (pc := 36) (x := a3) dX8_seesInto_36 rfl ?_
      refine g_iaload (pc := 37) dX8_seesInto_37 (AtTown_1 h0) h.1 ?_
      have h := h.2
      refine g_isub (pc := 38) dX8_seesInto_38 ?_
      refine g_mabs (pc := 39) dX8_seesInto_39 cw_X8_141 (by decide) (Nat.le_of_ble_eq_true rfl) ?_
      refine g_istore (pc := 42) (L' := [(0, .ref t0), (1, .ref a1), (2, .int a2), (3, .int a3), (4, .int (iabs ((mm.1 (t0 + 1) a2.toNatClampNeg) - (mm.1 (t0 + 1) a3.toNatClampNeg))))]) dX8_seesInto_42 (Nat.le_of_ble_eq_true rfl) rfl ?_
      refine g_iconst (pc := 44) (v := (0 : Int32)) dX8_seesInto_44 (by decide) ?_
      refine g_istore (pc := 45) (L' := [(0, .ref t0), (1, .ref a1), (2, .int a2), (3, .int a3), (4, .int (iabs ((mm.1 (t0 + 1) a2.toNatClampNeg) - (mm.1 (t0 + 1) a3.toNatClampNeg)))), (5, .int (0 : Int32))]) dX8_seesInto_45 (Nat.le_of_ble_eq_true rfl) rfl ?_
      exact h
    · have h := h.2 c21
      refine g_iconst (pc := 24) (v := (0 : Int32)) dX8_seesInto_24 (by decide) ?_
      exact g_iret (pc := 25) dX8_seesInto_25 rfl rfl (nar_B isB0) h
theorem b_X8_seesInto_47 (mm : MM) (Q : Value → MM → Prop) (l0 : Nat) (l1 : Nat) (l2 : Int32) (l3 : Int32) (l4 : Int32) (l5 : Int32) (k0 : AtTown l0) (k1 : SHL[l1]? = some (.inl (0, 16, 0, 0))) (h : ((mm.1 l0 8) ≤ l5 → (Q (.int (1 : Int32)) mm)) ∧ (¬ (mm.1 l0 8) ≤ l5 → (vp_in l5 16 ∧ (vp_in l2 16 ∧ (vp_in l5 16 ∧ (vp_in l3 16 ∧ (((iabs ((mm.1 (l0 + 1) l5.toNatClampNeg) - (mm.1 (l0 + 1) l2.toNatClampNeg))) ≤ 0 → (vp_in l2 16 ∧ (vp_in l3 16 ∧ (G e_X8_seesInto 47 [(0, .ref l0), (1, .ref l1), (2, .int l2), (3, .int l3), (4, .int l4), (5, .int (l5 + (1 : Int32)))] [] mm Q)))) ∧ (¬ (iabs ((mm.1 (l0 + 1) l5.toNatClampNeg) - (mm.1 (l0 + 1) l2.toNatClampNeg))) ≤ 0 → (((iabs ((mm.1 (l0 + 1) l5.toNatClampNeg) - (mm.1 (l0 + 1) l3.toNatClampNeg))) ≤ 0 → (vp_in l2 16 ∧ (vp_in l3 16 ∧ (G e_X8_seesInto 47 [(0, .ref l0), (1, .ref l1), (2, .int l2), (3, .int l3), (4, .int l4), (5, .int (l5 + (1 : Int32)))] [] mm Q)))) ∧ (¬ (iabs ((mm.1 (l0 + 1) l5.toNatClampNeg) - (mm.1 (l0 + 1) l3.toNatClampNeg))) ≤ 0 → ((¬ ((iabs ((mm.1 (l0 + 1) l5.toNatClampNeg) - (mm.1 (l0 + 1) l2.toNatClampNeg))) + (iabs ((mm.1 (l0 + 1) l5.toNatClampNeg) - (mm.1 (l0 + 1) l3.toNatClampNeg)))) = l4 → (vp_in l2 16 ∧ (vp_in l3 16 ∧ (G e_X8_seesInto 47 [(0, .ref l0), (1, .ref l1), (2, .int l2), (3, .int l3), (4, .int l4), (5, .int (l5 + (1 : Int32)))] [] mm Q)))) ∧ (((iabs ((mm.1 (l0 + 1) l5.toNatClampNeg) - (mm.1 (l0 + 1) l2.toNatClampNeg))) + (iabs ((mm.1 (l0 + 1) l5.toNatClampNeg) - (mm.1 (l0 + 1) l3.toNatClampNeg)))) = l4 → (vp_in l2 16 ∧ (vp_in l3 16 ∧ (vp_in l5 16 ∧ ((((mm.1 l1 l5.toNatClampNeg) * l4) < (((mm.1 l1 l2.toNatClampNeg) * (iabs ((mm.1 (l0 + 1) l5.toNatClampNeg) - (mm.1 (l0 + 1) l3.toNatClampNeg)))) + ((mm.1 l1 l3.toNatClampNeg) * (iabs ((mm.1 (l0 + 1) l5.toNatClampNeg) - (mm.1 (l0 + 1) l2.toNatClampNeg))))) → (G e_X8_seesInto 47 [(0, .ref l0), (1, .ref l1), (2, .int l2), (3, .int l3), (4, .int l4), (5, .int (l5 + (1 : Int32)))] [] mm Q)) ∧ (¬ ((mm.1 l1 l5.toNatClampNeg) * l4) < (((mm.1 l1 l2.toNatClampNeg) * (iabs ((mm.1 (l0 + 1) l5.toNatClampNeg) - (mm.1 (l0 + 1) l3.toNatClampNeg)))) + ((mm.1 l1 l3.toNatClampNeg) * (iabs ((mm.1 (l0 + 1) l5.toNatClampNeg) - (mm.1 (l0 + 1) l2.toNatClampNeg))))) → (Q (.int (0 : Int32)) mm)))))))))))))))))) : G e_X8_seesInto 47 [(0, .ref l0), (1, .ref l1), (2, .int l2), (3, .int l3), (4, .int l4), (5, .int l5)] [] mm Q := by
  refine g_iload (pc := 47) (x := l5) dX8_seesInto_47 rfl ?_
  refine g_aload_n (pc := 49) (x := l0) dX8_seesInto_49 rfl ?_
  refine g_getI (pc := 50) dX8_seesInto_50 fo_X8_40 (AtTown_0 k0) rfl ?_
  refine g_icmp_ge (pc := 53) (tgt := 161) dX8_seesInto_53 (by decide) (fun c53 => ?_) (fun c53 => ?_)
  · have h := h.1 c53
    refine g_iconst (pc := 161) (v := (1 : Int32)) dX8_seesInto_161 (by decide) ?_
    exact g_iret (pc := 162) dX8_seesInto_162 rfl rfl (nar_B isB1) h
  · have h := h.2 c53
    refine g_aload_n (pc := 56) (x := l0) dX8_seesInto_56 rfl ?_
    refine g_getR (pc := 57) (dd := 1) dX8_seesInto_57 fo_X8_9 (AtTown_0 k0) rfl ?_
    refine g_iload (pc := 60) (x := l5) dX8_seesInto_60 rfl ?_
    refine g_iaload (pc := 62) dX8_seesInto_62 (AtTown_1 k0) h.1 ?_
    have h := h.2
    refine g_aload_n (pc := 63) (x := l0) dX8_seesInto_63 rfl ?_
    refine g_getR (pc := 64) (dd := 1) dX8_seesInto_64 fo_X8_9 (AtTown_0 k0) rfl ?_
    refine g_iload_n (pc := 67) (x := l2) dX8_seesInto_67 rfl ?_
    refine g_iaload (pc := 68) dX8_seesInto_68 (AtTown_1 k0) h.1 ?_
    have h := h.2
    refine g_isub (pc := 69) dX8_seesInto_69 ?_
    refine g_mabs (pc := 70) dX8_seesInto_70 cw_X8_141 (by decide) (Nat.le_of_ble_eq_true rfl) ?_
    refine g_istore (pc := 73) (L' := [(0, .ref l0), (1, .ref l1), (2, .int l2), (3, .int l3), (4, .int l4), (5, .int l5), (6, .int (iabs ((mm.1 (l0 + 1) l5.toNatClampNeg) - (mm.1 (l0 + 1) l2.toNatClampNeg))))]) dX8_seesInto_73 (Nat.le_of_ble_eq_true rfl) rfl ?_
    refine g_aload_n (pc := 75) (x := l0) dX8_seesInto_75 rfl ?_
    refine g_getR (pc := 76) (dd := 1) dX8_seesInto_76 fo_X8_9 (AtTown_0 k0) rfl ?_
    refine g_iload (pc := 79) (x := l5) dX8_seesInto_79 rfl ?_
    refine g_iaload (pc := 81) dX8_seesInto_81 (AtTown_1 k0) h.1 ?_
    have h := h.2
    refine g_aload_n (pc := 82) (x := l0) dX8_seesInto_82 rfl ?_
    refine g_getR (pc := 83) (dd := 1) dX8_seesInto_83 fo_X8_9 (AtTown_0 k0) rfl ?_
    refine g_iload_n (pc := 86) (x := l3) dX8_seesInto_86 rfl ?_
    refine g_iaload (pc := 87) dX8_seesInto_87 (AtTown_1 k0) h.1 ?_
    have h := h.2
    refine g_isub (pc := 88) dX8_seesInto_88 ?_
    refine g_mabs (pc := 89) dX8_seesInto_89 cw_X8_141 (by decide) (Nat.le_of_ble_eq_true rfl) ?_
    refine g_istore (pc := 92) (L' := [(0, .ref l0), (1, .ref l1), (2, .int l2), (3, .int l3), (4, .int l4), (5, .int l5), (6, .int (iabs ((mm.1 (l0 + 1) l5.toNatClampNeg) - (mm.1 (l0 + 1) l2.toNatClampNeg)))), (7, .int (iabs ((mm.1 (l0 + 1) l5.toNatClampNeg) - (mm.1 (l0 + 1) l3.toNatClampNeg))))]) dX8_seesInto_92 (Nat.le_of_ble_eq_true rfl) rfl ?_
    refine g_iload (pc := 94) (x := (iabs ((mm.1 (l0 + 1) l5.toNatClampNeg) - (mm.1 (l0 + 1) l2.toNatClampNeg)))) dX8_seesInto_94 rfl ?_
    refine g_if_le (pc := 96) (tgt := 118) dX8_seesInto_96 (by decide) (fun c96 => ?_) (fun c96 => ?_)
    · have h := h.1 c96
      refine g_iconst (pc := 118) (v := (0 : Int32)) dX8_seesInto_118 (by decide) ?_
      refine g_istore (pc := 119) (L' := [(0, .ref l0), (1, .ref l1), (2, .int l2), (3, .int l3), (4, .int l4), (5, .int l5), (6, .int (iabs ((mm.1 (l0 + 1) l5.toNatClampNeg) - (mm.1 (l0 + 1) l2.toNatClampNeg)))), (7, .int (iabs ((mm.1 (l0 + 1) l5.toNatClampNeg) - (mm.1 (l0 + 1) l3.toNatClampNeg)))), (8, .int (0 : Int32))]) dX8_seesInto_119 (Nat.le_of_ble_eq_true rfl) rfl ?_
      refine g_aload_n (pc := 121) (x := l1) dX8_seesInto_121 rfl ?_
      refine g_iload_n (pc := 122) (x := l2) dX8_seesInto_122 rfl ?_
      refine g_iaload (pc := 123) dX8_seesInto_123 k1 h.1 ?_
      have h := h.2
      refine g_iload (pc := 124) (x := (iabs ((mm.1 (l0 + 1) l5.toNatClampNeg) - (mm.1 (l0 + 1) l3.toNatClampNeg)))) dX8_seesInto_124 rfl ?_
      refine g_imul (pc := 126) dX8_seesInto_126 ?_
      refine g_aload_n (pc := 127) (x := l1) dX8_seesInto_127 rfl ?_
      refine g_iload_n (pc := 128) (x := l3) dX8_seesInto_128 rfl ?_
      refine g_iaload (pc := 129) dX8_seesInto_129 k1 h.1 ?_
      have h := h.2
      refine g_iload (pc := 130) (x := (iabs ((mm.1 (l0 + 1) l5.toNatClampNeg) - (mm.1 (l0 + 1) l2.toNatClampNeg)))) dX8_seesInto_130 rfl ?_
      refine g_imul (pc := 132) dX8_seesInto_132 ?_
      refine g_iadd (pc := 133) dX8_seesInto_133 ?_
      refine g_istore (pc := 134) (L' := [(0, .ref l0), (1, .ref l1), (2, .int l2), (3, .int l3), (4, .int l4), (5, .int l5), (6, .int (iabs ((mm.1 (l0 + 1) l5.toNatClampNeg) - (mm.1 (l0 + 1) l2.toNatClampNeg)))), (7, .int (iabs ((mm.1 (l0 + 1) l5.toNatClampNeg) - (mm.1 (l0 + 1) l3.toNatClampNeg)))), (8, .int (0 : Int32)), (9, .int (((mm.1 l1 l2.toNatClampNeg) * (iabs ((mm.1 (l0 + 1) l5.toNatClampNeg) - (mm.1 (l0 + 1) l3.toNatClampNeg)))) + ((mm.1 l1 l3.toNatClampNeg) * (iabs ((mm.1 (l0 + 1) l5.toNatClampNeg) - (mm.1 (l0 + 1) l2.toNatClampNeg))))))]) dX8_seesInto_134 (Nat.le_of_ble_eq_true rfl) rfl ?_
      refine g_iload (pc := 136) (x := (0 : Int32)) dX8_seesInto_136 rfl ?_
      refine g_if_eq (pc := 138) (tgt := 155) dX8_seesInto_138 (by decide) (fun _ => ?_) (fun c138 => absurd c138 (by decide))
      refine g_iinc (pc := 155) (x := l5) (v := (l5 + (1 : Int32))) (L' := [(0, .ref l0), (1, .ref l1), (2, .int l2), (3, .int l3), (4, .int l4), (5, .int (l5 + (1 : Int32))), (6, .int (iabs ((mm.1 (l0 + 1) l5.toNatClampNeg) - (mm.1 (l0 + 1) l2.toNatClampNeg)))), (7, .int (iabs ((mm.1 (l0 + 1) l5.toNatClampNeg) - (mm.1 (l0 + 1) l3.toNatClampNeg)))), (8, .int (0 : Int32)), (9, .int (((mm.1 l1 l2.toNatClampNeg) * (iabs ((mm.1 (l0 + 1) l5.toNatClampNeg) - (mm.1 (l0 + 1) l3.toNatClampNeg)))) + ((mm.1 l1 l3.toNatClampNeg) * (iabs ((mm.1 (l0 + 1) l5.toNatClampNeg) - (mm.1 (l0 + 1) l2.toNatClampNeg))))))]) dX8_seesInto_155 rfl rfl (Nat.le_of_ble_eq_true rfl) rfl ?_
      refine g_goto (pc := 158) (tgt := 47) dX8_seesInto_158 (by decide) ?_
      refine g_sub (L' := [(0, .ref l0), (1, .ref l1), (2, .int l2), (3, .int l3), (4, .int l4), (5, .int (l5 + (1 : Int32)))]) [0, 1, 2, 3, 4, 5] rfl ?_
      exact h
    · have h := h.2 c96
      refine g_iload (pc := 99) (x := (iabs ((mm.1 (l0 + 1) l5.toNatClampNeg) - (mm.1 (l0 + 1) l3.toNatClampNeg)))) dX8_seesInto_99 rfl ?_
      refine g_if_le (pc := 101) (tgt := 118) dX8_seesInto_101 (by decide) (fun c101 => ?_) (fun c101 => ?_)
      · have h := h.1 c101
        refine g_iconst (pc := 118) (v := (0 : Int32)) dX8_seesInto_118 (by decide) ?_
        refine g_istore (pc := 119) (L' := [(0, .ref l0), (1, .ref l1), (2, .int l2), (3, .int l3), (4, .int l4), (5, .int l5), (6, .int (iabs ((mm.1 (l0 + 1) l5.toNatClampNeg) - (mm.1 (l0 + 1) l2.toNatClampNeg)))), (7, .int (iabs ((mm.1 (l0 + 1) l5.toNatClampNeg) - (mm.1 (l0 + 1) l3.toNatClampNeg)))), (8, .int (0 : Int32))]) dX8_seesInto_119 (Nat.le_of_ble_eq_true rfl) rfl ?_
        refine g_aload_n (pc := 121) (x := l1) dX8_seesInto_121 rfl ?_
        refine g_iload_n (pc := 122) (x := l2) dX8_seesInto_122 rfl ?_
        refine g_iaload (pc := 123) dX8_seesInto_123 k1 h.1 ?_
        have h := h.2
        refine g_iload (pc := 124) (x := (iabs ((mm.1 (l0 + 1) l5.toNatClampNeg) - (mm.1 (l0 + 1) l3.toNatClampNeg)))) dX8_seesInto_124 rfl ?_
        refine g_imul (pc := 126) dX8_seesInto_126 ?_
        refine g_aload_n (pc := 127) (x := l1) dX8_seesInto_127 rfl ?_
        refine g_iload_n (pc := 128) (x := l3) dX8_seesInto_128 rfl ?_
        refine g_iaload (pc := 129) dX8_seesInto_129 k1 h.1 ?_
        have h := h.2
        refine g_iload (pc := 130) (x := (iabs ((mm.1 (l0 + 1) l5.toNatClampNeg) - (mm.1 (l0 + 1) l2.toNatClampNeg)))) dX8_seesInto_130 rfl ?_
        refine g_imul (pc := 132) dX8_seesInto_132 ?_
        refine g_iadd (pc := 133) dX8_seesInto_133 ?_
        refine g_istore (pc := 134) (L' := [(0, .ref l0), (1, .ref l1), (2, .int l2), (3, .int l3), (4, .int l4), (5, .int l5), (6, .int (iabs ((mm.1 (l0 + 1) l5.toNatClampNeg) - (mm.1 (l0 + 1) l2.toNatClampNeg)))), (7, .int (iabs ((mm.1 (l0 + 1) l5.toNatClampNeg) - (mm.1 (l0 + 1) l3.toNatClampNeg)))), (8, .int (0 : Int32)), (9, .int (((mm.1 l1 l2.toNatClampNeg) * (iabs ((mm.1 (l0 + 1) l5.toNatClampNeg) - (mm.1 (l0 + 1) l3.toNatClampNeg)))) + ((mm.1 l1 l3.toNatClampNeg) * (iabs ((mm.1 (l0 + 1) l5.toNatClampNeg) - (mm.1 (l0 + 1) l2.toNatClampNeg))))))]) dX8_seesInto_134 (Nat.le_of_ble_eq_true rfl) rfl ?_
        refine g_iload (pc := 136) (x := (0 : Int32)) dX8_seesInto_136 rfl ?_
        refine g_if_eq (pc := 138) (tgt := 155) dX8_seesInto_138 (by decide) (fun _ => ?_) (fun c138 => absurd c138 (by decide))
        refine g_iinc (pc := 155) (x := l5) (v := (l5 + (1 : Int32))) (L' := [(0, .ref l0), (1, .ref l1), (2, .int l2), (3, .int l3), (4, .int l4), (5, .int (l5 + (1 : Int32))), (6, .int (iabs ((mm.1 (l0 + 1) l5.toNatClampNeg) - (mm.1 (l0 + 1) l2.toNatClampNeg)))), (7, .int (iabs ((mm.1 (l0 + 1) l5.toNatClampNeg) - (mm.1 (l0 + 1) l3.toNatClampNeg)))), (8, .int (0 : Int32)), (9, .int (((mm.1 l1 l2.toNatClampNeg) * (iabs ((mm.1 (l0 + 1) l5.toNatClampNeg) - (mm.1 (l0 + 1) l3.toNatClampNeg)))) + ((mm.1 l1 l3.toNatClampNeg) * (iabs ((mm.1 (l0 + 1) l5.toNatClampNeg) - (mm.1 (l0 + 1) l2.toNatClampNeg))))))]) dX8_seesInto_155 rfl rfl (Nat.le_of_ble_eq_true rfl) rfl ?_
        refine g_goto (pc := 158) (tgt := 47) dX8_seesInto_158 (by decide) ?_
        refine g_sub (L' := [(0, .ref l0), (1, .ref l1), (2, .int l2), (3, .int l3), (4, .int l4), (5, .int (l5 + (1 : Int32)))]) [0, 1, 2, 3, 4, 5] rfl ?_
        exact h
      · have h := h.2 c101
        refine g_iload (pc := 104) (x := (iabs ((mm.1 (l0 + 1) l5.toNatClampNeg) - (mm.1 (l0 + 1) l2.toNatClampNeg)))) dX8_seesInto_104 rfl ?_
        refine g_iload (pc := 106) (x := (iabs ((mm.1 (l0 + 1) l5.toNatClampNeg) - (mm.1 (l0 + 1) l3.toNatClampNeg)))) dX8_seesInto_106 rfl ?_
        refine g_iadd (pc := 108) dX8_seesInto_108 ?_
        refine g_iload (pc := 109) (x := l4) dX8_seesInto_109 rfl ?_
        refine g_icmp_ne (pc := 111) (tgt := 118) dX8_seesInto_111 (by decide) (fun c111 => ?_) (fun c111 => ?_)
        · have h := h.1 c111
          refine g_iconst (pc := 118) (v := (0 : Int32)) dX8_seesInto_118 (by decide) ?_
          refine g_istore (pc := 119) (L' := [(0, .ref l0), (1, .ref l1), (2, .int l2), (3, .int l3), (4, .int l4), (5, .int l5), (6, .int (iabs ((mm.1 (l0 + 1) l5.toNatClampNeg) - (mm.1 (l0 + 1) l2.toNatClampNeg)))), (7, .int (iabs ((mm.1 (l0 + 1) l5.toNatClampNeg) - (mm.1 (l0 + 1) l3.toNatClampNeg)))), (8, .int (0 : Int32))]) dX8_seesInto_119 (Nat.le_of_ble_eq_true rfl) rfl ?_
          refine g_aload_n (pc := 121) (x := l1) dX8_seesInto_121 rfl ?_
          refine g_iload_n (pc := 122) (x := l2) dX8_seesInto_122 rfl ?_
          refine g_iaload (pc := 123) dX8_seesInto_123 k1 h.1 ?_
          have h := h.2
          refine g_iload (pc := 124) (x := (iabs ((mm.1 (l0 + 1) l5.toNatClampNeg) - (mm.1 (l0 + 1) l3.toNatClampNeg)))) dX8_seesInto_124 rfl ?_
          refine g_imul (pc := 126) dX8_seesInto_126 ?_
          refine g_aload_n (pc := 127) (x := l1) dX8_seesInto_127 rfl ?_
          refine g_iload_n (pc := 128) (x := l3) dX8_seesInto_128 rfl ?_
          refine g_iaload (pc := 129) dX8_seesInto_129 k1 h.1 ?_
          have h := h.2
          refine g_iload (pc := 130) (x := (iabs ((mm.1 (l0 + 1) l5.toNatClampNeg) - (mm.1 (l0 + 1) l2.toNatClampNeg)))) dX8_seesInto_130 rfl ?_
          refine g_imul (pc := 132) dX8_seesInto_132 ?_
          refine g_iadd (pc := 133) dX8_seesInto_133 ?_
          refine g_istore (pc := 134) (L' := [(0, .ref l0), (1, .ref l1), (2, .int l2), (3, .int l3), (4, .int l4), (5, .int l5), (6, .int (iabs ((mm.1 (l0 + 1) l5.toNatClampNeg) - (mm.1 (l0 + 1) l2.toNatClampNeg)))), (7, .int (iabs ((mm.1 (l0 + 1) l5.toNatClampNeg) - (mm.1 (l0 + 1) l3.toNatClampNeg)))), (8, .int (0 : Int32)), (9, .int (((mm.1 l1 l2.toNatClampNeg) * (iabs ((mm.1 (l0 + 1) l5.toNatClampNeg) - (mm.1 (l0 + 1) l3.toNatClampNeg)))) + ((mm.1 l1 l3.toNatClampNeg) * (iabs ((mm.1 (l0 + 1) l5.toNatClampNeg) - (mm.1 (l0 + 1) l2.toNatClampNeg))))))]) dX8_seesInto_134 (Nat.le_of_ble_eq_true rfl) rfl ?_
          refine g_iload (pc := 136) (x := (0 : Int32)) dX8_seesInto_136 rfl ?_
          refine g_if_eq (pc := 138) (tgt := 155) dX8_seesInto_138 (by decide) (fun _ => ?_) (fun c138 => absurd c138 (by decide))
          refine g_iinc (pc := 155) (x := l5) (v := (l5 + (1 : Int32))) (L' := [(0, .ref l0), (1, .ref l1), (2, .int l2), (3, .int l3), (4, .int l4), (5, .int (l5 + (1 : Int32))), (6, .int (iabs ((mm.1 (l0 + 1) l5.toNatClampNeg) - (mm.1 (l0 + 1) l2.toNatClampNeg)))), (7, .int (iabs ((mm.1 (l0 + 1) l5.toNatClampNeg) - (mm.1 (l0 + 1) l3.toNatClampNeg)))), (8, .int (0 : Int32)), (9, .int (((mm.1 l1 l2.toNatClampNeg) * (iabs ((mm.1 (l0 + 1) l5.toNatClampNeg) - (mm.1 (l0 + 1) l3.toNatClampNeg)))) + ((mm.1 l1 l3.toNatClampNeg) * (iabs ((mm.1 (l0 + 1) l5.toNatClampNeg) - (mm.1 (l0 + 1) l2.toNatClampNeg))))))]) dX8_seesInto_155 rfl rfl (Nat.le_of_ble_eq_true rfl) rfl ?_
          refine g_goto (pc := 158) (tgt := 47) dX8_seesInto_158 (by decide) ?_
          refine g_sub (L' := [(0, .ref l0), (1, .ref l1), (2, .int l2), (3, .int l3), (4, .int l4), (5, .int (l5 + (1 : Int32)))]) [0, 1, 2, 3, 4, 5] rfl ?_
          exact h
        · have h := h.2 c111
          refine g_iconst (pc := 114) (v := (1 : Int32)) dX8_seesInto_114 (by decide) ?_
          refine g_goto (pc := 115) (tgt := 119) dX8_seesInto_115 (by decide) ?_
          refine g_istore (pc := 119) (L' := [(0, .ref l0), (1, .ref l1), (2, .int l2), (3, .int l3), (4, .int l4), (5, .int l5), (6, .int (iabs ((mm.1 (l0 + 1) l5.toNatClampNeg) - (mm.1 (l0 + 1) l2.toNatClampNeg)))), (7, .int (iabs ((mm.1 (l0 + 1) l5.toNatClampNeg) - (mm.1 (l0 + 1) l3.toNatClampNeg)))), (8, .int (1 : Int32))]) dX8_seesInto_119 (Nat.le_of_ble_eq_true rfl) rfl ?_
          refine g_aload_n (pc := 121) (x := l1) dX8_seesInto_121 rfl ?_
          refine g_iload_n (pc := 122) (x := l2) dX8_seesInto_122 rfl ?_
          refine g_iaload (pc := 123) dX8_seesInto_123 k1 h.1 ?_
          have h := h.2
          refine g_iload (pc := 124) (x := (iabs ((mm.1 (l0 + 1) l5.toNatClampNeg) - (mm.1 (l0 + 1) l3.toNatClampNeg)))) dX8_seesInto_124 rfl ?_
          refine g_imul (pc := 126) dX8_seesInto_126 ?_
          refine g_aload_n (pc := 127) (x := l1) dX8_seesInto_127 rfl ?_
          refine g_iload_n (pc := 128) (x := l3) dX8_seesInto_128 rfl ?_
          refine g_iaload (pc := 129) dX8_seesInto_129 k1 h.1 ?_
          have h := h.2
          refine g_iload (pc := 130) (x := (iabs ((mm.1 (l0 + 1) l5.toNatClampNeg) - (mm.1 (l0 + 1) l2.toNatClampNeg)))) dX8_seesInto_130 rfl ?_
          refine g_imul (pc := 132) dX8_seesInto_132 ?_
          refine g_iadd (pc := 133) dX8_seesInto_133 ?_
          refine g_istore (pc := 134) (L' := [(0, .ref l0), (1, .ref l1), (2, .int l2), (3, .int l3), (4, .int l4), (5, .int l5), (6, .int (iabs ((mm.1 (l0 + 1) l5.toNatClampNeg) - (mm.1 (l0 + 1) l2.toNatClampNeg)))), (7, .int (iabs ((mm.1 (l0 + 1) l5.toNatClampNeg) - (mm.1 (l0 + 1) l3.toNatClampNeg)))), (8, .int (1 : Int32)), (9, .int (((mm.1 l1 l2.toNatClampNeg) * (iabs ((mm.1 (l0 + 1) l5.toNatClampNeg) - (mm.1 (l0 + 1) l3.toNatClampNeg)))) + ((mm.1 l1 l3.toNatClampNeg) * (iabs ((mm.1 (l0 + 1) l5.toNatClampNeg) - (mm.1 (l0 + 1) l2.toNatClampNeg))))))]) dX8_seesInto_134 (Nat.le_of_ble_eq_true rfl) rfl ?_
          refine g_iload (pc := 136) (x := (1 : Int32)) dX8_seesInto_136 rfl ?_
          refine g_if_eq (pc := 138) (tgt := 155) dX8_seesInto_138 (by decide) (fun c138 => absurd c138 (by decide)) (fun _ => ?_)
          refine g_aload_n (pc := 141) (x := l1) dX8_seesInto_141 rfl ?_
          refine g_iload (pc := 142) (x := l5) dX8_seesInto_142 rfl ?_
          refine g_iaload (pc := 144) dX8_seesInto_144 k1 h.1 ?_
          have h := h.2
          refine g_iload (pc := 145) (x := l4) dX8_seesInto_145 rfl ?_
          refine g_imul (pc := 147) dX8_seesInto_147 ?_
          refine g_iload (pc := 148) (x := (((mm.1 l1 l2.toNatClampNeg) * (iabs ((mm.1 (l0 + 1) l5.toNatClampNeg) - (mm.1 (l0 + 1) l3.toNatClampNeg)))) + ((mm.1 l1 l3.toNatClampNeg) * (iabs ((mm.1 (l0 + 1) l5.toNatClampNeg) - (mm.1 (l0 + 1) l2.toNatClampNeg)))))) dX8_seesInto_148 rfl ?_
          refine g_icmp_lt (pc := 150) (tgt := 155) dX8_seesInto_150 (by decide) (fun c150 => ?_) (fun c150 => ?_)
          · have h := h.1 c150
            refine g_iinc (pc := 155) (x := l5) (v := (l5 + (1 : Int32))) (L' := [(0, .ref l0), (1, .ref l1), (2, .int l2), (3, .int l3), (4, .int l4), (5, .int (l5 + (1 : Int32))), (6, .int (iabs ((mm.1 (l0 + 1) l5.toNatClampNeg) - (mm.1 (l0 + 1) l2.toNatClampNeg)))), (7, .int (iabs ((mm.1 (l0 + 1) l5.toNatClampNeg) - (mm.1 (l0 + 1) l3.toNatClampNeg)))), (8, .int (1 : Int32)), (9, .int (((mm.1 l1 l2.toNatClampNeg) * (iabs ((mm.1 (l0 + 1) l5.toNatClampNeg) - (mm.1 (l0 + 1) l3.toNatClampNeg)))) + ((mm.1 l1 l3.toNatClampNeg) * (iabs ((mm.1 (l0 + 1) l5.toNatClampNeg) - (mm.1 (l0 + 1) l2.toNatClampNeg))))))]) dX8_seesInto_155 rfl rfl (Nat.le_of_ble_eq_true rfl) rfl ?_
            refine g_goto (pc := 158) (tgt := 47) dX8_seesInto_158 (by decide) ?_
            refine g_sub (L' := [(0, .ref l0), (1, .ref l1), (2, .int l2), (3, .int l3), (4, .int l4), (5, .int (l5 + (1 : Int32)))]) [0, 1, 2, 3, 4, 5] rfl ?_
            exact h
          · have h := h.2 c150
            refine g_iconst (pc := 153) (v := (0 : Int32)) dX8_seesInto_153 (by decide) ?_
            exact g_iret (pc := 154) dX8_seesInto_154 rfl rfl (nar_B isB0) h
theorem dX8_lightOf_0 : decode cX8_lightOf 0 = .ok (.iconst 3, 1) := by decide +kernel
theorem dX8_lightOf_1 : decode cX8_lightOf 1 = .ok (.istore_n 3, 1) := by decide +kernel
theorem dX8_lightOf_2 : decode cX8_lightOf 2 = .ok (.iconst 0, 1) := by decide +kernel
theorem dX8_lightOf_3 : decode cX8_lightOf 3 = .ok (.istore 4, 2) := by decide +kernel
theorem dX8_lightOf_5 : decode cX8_lightOf 5 = .ok (.iload 4, 2) := by decide +kernel
theorem dX8_lightOf_7 : decode cX8_lightOf 7 = .ok (.aload_n 0, 1) := by decide +kernel
theorem dX8_lightOf_8 : decode cX8_lightOf 8 = .ok (.getfield 40, 3) := by decide +kernel
theorem dX8_lightOf_11 : decode cX8_lightOf 11 = .ok (.if_icmp .ge 99, 3) := by decide +kernel
theorem dX8_lightOf_14 : decode cX8_lightOf 14 = .ok (.aload_n 1, 1) := by decide +kernel
theorem dX8_lightOf_15 : decode cX8_lightOf 15 = .ok (.iload 4, 2) := by decide +kernel
theorem dX8_lightOf_17 : decode cX8_lightOf 17 = .ok (.iaload, 1) := by decide +kernel
theorem dX8_lightOf_18 : decode cX8_lightOf 18 = .ok (.aload_n 1, 1) := by decide +kernel
theorem dX8_lightOf_19 : decode cX8_lightOf 19 = .ok (.iload_n 2, 1) := by decide +kernel
theorem dX8_lightOf_20 : decode cX8_lightOf 20 = .ok (.iaload, 1) := by decide +kernel
theorem dX8_lightOf_21 : decode cX8_lightOf 21 = .ok (.isub, 1) := by decide +kernel
theorem dX8_lightOf_22 : decode cX8_lightOf 22 = .ok (.istore 5, 2) := by decide +kernel
theorem dX8_lightOf_24 : decode cX8_lightOf 24 = .ok (.aload_n 0, 1) := by decide +kernel
theorem dX8_lightOf_25 : decode cX8_lightOf 25 = .ok (.getfield 9, 3) := by decide +kernel
theorem dX8_lightOf_28 : decode cX8_lightOf 28 = .ok (.iload 4, 2) := by decide +kernel
theorem dX8_lightOf_30 : decode cX8_lightOf 30 = .ok (.iaload, 1) := by decide +kernel
theorem dX8_lightOf_31 : decode cX8_lightOf 31 = .ok (.aload_n 0, 1) := by decide +kernel
theorem dX8_lightOf_32 : decode cX8_lightOf 32 = .ok (.getfield 9, 3) := by decide +kernel
theorem dX8_lightOf_35 : decode cX8_lightOf 35 = .ok (.iload_n 2, 1) := by decide +kernel
theorem dX8_lightOf_36 : decode cX8_lightOf 36 = .ok (.iaload, 1) := by decide +kernel
theorem dX8_lightOf_37 : decode cX8_lightOf 37 = .ok (.if_icmp .ge 27, 3) := by decide +kernel
theorem dX8_lightOf_40 : decode cX8_lightOf 40 = .ok (.iload 5, 2) := by decide +kernel
theorem dX8_lightOf_42 : decode cX8_lightOf 42 = .ok (.aload_n 0, 1) := by decide +kernel
theorem dX8_lightOf_43 : decode cX8_lightOf 43 = .ok (.getfield 9, 3) := by decide +kernel
theorem dX8_lightOf_46 : decode cX8_lightOf 46 = .ok (.iload_n 2, 1) := by decide +kernel
theorem dX8_lightOf_47 : decode cX8_lightOf 47 = .ok (.iaload, 1) := by decide +kernel
theorem dX8_lightOf_48 : decode cX8_lightOf 48 = .ok (.aload_n 0, 1) := by decide +kernel
theorem dX8_lightOf_49 : decode cX8_lightOf 49 = .ok (.getfield 9, 3) := by decide +kernel
theorem dX8_lightOf_52 : decode cX8_lightOf 52 = .ok (.iload 4, 2) := by decide +kernel
theorem dX8_lightOf_54 : decode cX8_lightOf 54 = .ok (.iaload, 1) := by decide +kernel
theorem dX8_lightOf_55 : decode cX8_lightOf 55 = .ok (.isub, 1) := by decide +kernel
theorem dX8_lightOf_56 : decode cX8_lightOf 56 = .ok (.if_icmp .lt 8, 3) := by decide +kernel
theorem dX8_lightOf_59 : decode cX8_lightOf 59 = .ok (.iload_n 3, 1) := by decide +kernel
theorem dX8_lightOf_60 : decode cX8_lightOf 60 = .ok (.bipush (-2), 2) := by decide +kernel
theorem dX8_lightOf_62 : decode cX8_lightOf 62 = .ok (.iand, 1) := by decide +kernel
theorem dX8_lightOf_63 : decode cX8_lightOf 63 = .ok (.istore_n 3, 1) := by decide +kernel
theorem dX8_lightOf_64 : decode cX8_lightOf 64 = .ok (.aload_n 0, 1) := by decide +kernel
theorem dX8_lightOf_65 : decode cX8_lightOf 65 = .ok (.getfield 9, 3) := by decide +kernel
theorem dX8_lightOf_68 : decode cX8_lightOf 68 = .ok (.iload 4, 2) := by decide +kernel
theorem dX8_lightOf_70 : decode cX8_lightOf 70 = .ok (.iaload, 1) := by decide +kernel
theorem dX8_lightOf_71 : decode cX8_lightOf 71 = .ok (.aload_n 0, 1) := by decide +kernel
theorem dX8_lightOf_72 : decode cX8_lightOf 72 = .ok (.getfield 9, 3) := by decide +kernel
theorem dX8_lightOf_75 : decode cX8_lightOf 75 = .ok (.iload_n 2, 1) := by decide +kernel
theorem dX8_lightOf_76 : decode cX8_lightOf 76 = .ok (.iaload, 1) := by decide +kernel
theorem dX8_lightOf_77 : decode cX8_lightOf 77 = .ok (.if_icmp .le 27, 3) := by decide +kernel
theorem dX8_lightOf_80 : decode cX8_lightOf 80 = .ok (.iload 5, 2) := by decide +kernel
theorem dX8_lightOf_82 : decode cX8_lightOf 82 = .ok (.aload_n 0, 1) := by decide +kernel
theorem dX8_lightOf_83 : decode cX8_lightOf 83 = .ok (.getfield 9, 3) := by decide +kernel
theorem dX8_lightOf_86 : decode cX8_lightOf 86 = .ok (.iload 4, 2) := by decide +kernel
theorem dX8_lightOf_88 : decode cX8_lightOf 88 = .ok (.iaload, 1) := by decide +kernel
theorem dX8_lightOf_89 : decode cX8_lightOf 89 = .ok (.aload_n 0, 1) := by decide +kernel
theorem dX8_lightOf_90 : decode cX8_lightOf 90 = .ok (.getfield 9, 3) := by decide +kernel
theorem dX8_lightOf_93 : decode cX8_lightOf 93 = .ok (.iload_n 2, 1) := by decide +kernel
theorem dX8_lightOf_94 : decode cX8_lightOf 94 = .ok (.iaload, 1) := by decide +kernel
theorem dX8_lightOf_95 : decode cX8_lightOf 95 = .ok (.isub, 1) := by decide +kernel
theorem dX8_lightOf_96 : decode cX8_lightOf 96 = .ok (.if_icmp .lt 8, 3) := by decide +kernel
theorem dX8_lightOf_99 : decode cX8_lightOf 99 = .ok (.iload_n 3, 1) := by decide +kernel
theorem dX8_lightOf_100 : decode cX8_lightOf 100 = .ok (.bipush (-3), 2) := by decide +kernel
theorem dX8_lightOf_102 : decode cX8_lightOf 102 = .ok (.iand, 1) := by decide +kernel
theorem dX8_lightOf_103 : decode cX8_lightOf 103 = .ok (.istore_n 3, 1) := by decide +kernel
theorem dX8_lightOf_104 : decode cX8_lightOf 104 = .ok (.iinc 4 1, 3) := by decide +kernel
theorem dX8_lightOf_107 : decode cX8_lightOf 107 = .ok (.goto (-102), 3) := by decide +kernel
theorem dX8_lightOf_110 : decode cX8_lightOf 110 = .ok (.iload_n 3, 1) := by decide +kernel
theorem dX8_lightOf_111 : decode cX8_lightOf 111 = .ok (.ireturn, 1) := by decide +kernel
theorem b_X8_lightOf (mm : MM) (Q : Value → MM → Prop) (t0 : Nat) (a1 : Nat) (a2 : Int32) (h0 : AtTown t0) (h1 : SHL[a1]? = some (.inl (0, 16, 0, 0))) (h : G e_X8_lightOf 5 [(0, .ref t0), (1, .ref a1), (2, .int a2), (3, .int (3 : Int32)), (4, .int (0 : Int32))] [] mm Q) : Runs e_X8_lightOf [.ref t0, .ref a1, .int a2] mm Q := by
  refine runs_of_G (L := [(0, .ref t0), (1, .ref a1), (2, .int a2)]) pl_X8 (Nat.le_of_ble_eq_true rfl) rfl ?_
  refine g_iconst (pc := 0) (v := (3 : Int32)) dX8_lightOf_0 (by decide) ?_
  refine g_istore_n (pc := 1) (L' := [(0, .ref t0), (1, .ref a1), (2, .int a2), (3, .int (3 : Int32))]) dX8_lightOf_1 (Nat.le_of_ble_eq_true rfl) rfl ?_
  refine g_iconst (pc := 2) (v := (0 : Int32)) dX8_lightOf_2 (by decide) ?_
  refine g_istore (pc := 3) (L' := [(0, .ref t0), (1, .ref a1), (2, .int a2), (3, .int (3 : Int32)), (4, .int (0 : Int32))]) dX8_lightOf_3 (Nat.le_of_ble_eq_true rfl) rfl ?_
  exact h
theorem b_X8_lightOf_5 (mm : MM) (Q : Value → MM → Prop) (l0 : Nat) (l1 : Nat) (l2 : Int32) (l3 : Int32) (l4 : Int32) (k0 : AtTown l0) (k1 : SHL[l1]? = some (.inl (0, 16, 0, 0))) (h : ((mm.1 l0 8) ≤ l4 → (Q (.int l3) mm)) ∧ (¬ (mm.1 l0 8) ≤ l4 → (vp_in l4 16 ∧ (vp_in l2 16 ∧ (vp_in l4 16 ∧ (vp_in l2 16 ∧ (((mm.1 (l0 + 1) l2.toNatClampNeg) ≤ (mm.1 (l0 + 1) l4.toNatClampNeg) → (vp_in l4 16 ∧ (vp_in l2 16 ∧ (((mm.1 (l0 + 1) l4.toNatClampNeg) ≤ (mm.1 (l0 + 1) l2.toNatClampNeg) → (G e_X8_lightOf 5 [(0, .ref l0), (1, .ref l1), (2, .int l2), (3, .int l3), (4, .int (l4 + (1 : Int32)))] [] mm Q)) ∧ (¬ (mm.1 (l0 + 1) l4.toNatClampNeg) ≤ (mm.1 (l0 + 1) l2.toNatClampNeg) → (vp_in l4 16 ∧ (vp_in l2 16 ∧ ((((mm.1 l1 l4.toNatClampNeg) - (mm.1 l1 l2.toNatClampNeg)) < ((mm.1 (l0 + 1) l4.toNatClampNeg) - (mm.1 (l0 + 1) l2.toNatClampNeg)) → (G e_X8_lightOf 5 [(0, .ref l0), (1, .ref l1), (2, .int l2), (3, .int l3), (4, .int (l4 + (1 : Int32)))] [] mm Q)) ∧ (¬ ((mm.1 l1 l4.toNatClampNeg) - (mm.1 l1 l2.toNatClampNeg)) < ((mm.1 (l0 + 1) l4.toNatClampNeg) - (mm.1 (l0 + 1) l2.toNatClampNeg)) → (G e_X8_lightOf 5 [(0, .ref l0), (1, .ref l1), (2, .int l2), (3, .int (l3 &&& (-3 : Int32))), (4, .int (l4 + (1 : Int32)))] [] mm Q)))))))))) ∧ (¬ (mm.1 (l0 + 1) l2.toNatClampNeg) ≤ (mm.1 (l0 + 1) l4.toNatClampNeg) → (vp_in l2 16 ∧ (vp_in l4 16 ∧ ((((mm.1 l1 l4.toNatClampNeg) - (mm.1 l1 l2.toNatClampNeg)) < ((mm.1 (l0 + 1) l2.toNatClampNeg) - (mm.1 (l0 + 1) l4.toNatClampNeg)) → (vp_in l4 16 ∧ (vp_in l2 16 ∧ (((mm.1 (l0 + 1) l4.toNatClampNeg) ≤ (mm.1 (l0 + 1) l2.toNatClampNeg) → (G e_X8_lightOf 5 [(0, .ref l0), (1, .ref l1), (2, .int l2), (3, .int l3), (4, .int (l4 + (1 : Int32)))] [] mm Q)) ∧ (¬ (mm.1 (l0 + 1) l4.toNatClampNeg) ≤ (mm.1 (l0 + 1) l2.toNatClampNeg) → (vp_in l4 16 ∧ (vp_in l2 16 ∧ ((((mm.1 l1 l4.toNatClampNeg) - (mm.1 l1 l2.toNatClampNeg)) < ((mm.1 (l0 + 1) l4.toNatClampNeg) - (mm.1 (l0 + 1) l2.toNatClampNeg)) → (G e_X8_lightOf 5 [(0, .ref l0), (1, .ref l1), (2, .int l2), (3, .int l3), (4, .int (l4 + (1 : Int32)))] [] mm Q)) ∧ (¬ ((mm.1 l1 l4.toNatClampNeg) - (mm.1 l1 l2.toNatClampNeg)) < ((mm.1 (l0 + 1) l4.toNatClampNeg) - (mm.1 (l0 + 1) l2.toNatClampNeg)) → (G e_X8_lightOf 5 [(0, .ref l0), (1, .ref l1), (2, .int l2), (3, .int (l3 &&& (-3 : Int32))), (4, .int (l4 + (1 : Int32)))] [] mm Q)))))))))) ∧ (¬ ((mm.1 l1 l4.toNatClampNeg) - (mm.1 l1 l2.toNatClampNeg)) < ((mm.1 (l0 + 1) l2.toNatClampNeg) - (mm.1 (l0 + 1) l4.toNatClampNeg)) → (vp_in l4 16 ∧ (vp_in l2 16 ∧ (((mm.1 (l0 + 1) l4.toNatClampNeg) ≤ (mm.1 (l0 + 1) l2.toNatClampNeg) → (G e_X8_lightOf 5 [(0, .ref l0), (1, .ref l1), (2, .int l2), (3, .int (l3 &&& (-2 : Int32))), (4, .int (l4 + (1 : Int32)))] [] mm Q)) ∧ (¬ (mm.1 (l0 + 1) l4.toNatClampNeg) ≤ (mm.1 (l0 + 1) l2.toNatClampNeg) → (vp_in l4 16 ∧ (vp_in l2 16 ∧ ((((mm.1 l1 l4.toNatClampNeg) - (mm.1 l1 l2.toNatClampNeg)) < ((mm.1 (l0 + 1) l4.toNatClampNeg) - (mm.1 (l0 + 1) l2.toNatClampNeg)) → (G e_X8_lightOf 5 [(0, .ref l0), (1, .ref l1), (2, .int l2), (3, .int (l3 &&& (-2 : Int32))), (4, .int (l4 + (1 : Int32)))] [] mm Q)) ∧ (¬ ((mm.1 l1 l4.toNatClampNeg) - (mm.1 l1 l2.toNatClampNeg)) < ((mm.1 (l0 + 1) l4.toNatClampNeg) - (mm.1 (l0 + 1) l2.toNatClampNeg)) → (G e_X8_lightOf 5 [(0, .ref l0), (1, .ref l1), (2, .int l2), (3, .int ((l3 &&& (-2 : Int32)) &&& (-3 : Int32))), (4, .int (l4 + (1 : Int32)))] [] mm Q))))))))))))))))))))) : G e_X8_lightOf 5 [(0, .ref l0), (1, .ref l1), (2, .int l2), (3, .int l3), (4, .int l4)] [] mm Q := by
  refine g_iload (pc := 5) (x := l4) dX8_lightOf_5 rfl ?_
  refine g_aload_n (pc := 7) (x := l0) dX8_lightOf_7 rfl ?_
  refine g_getI (pc := 8) dX8_lightOf_8 fo_X8_40 (AtTown_0 k0) rfl ?_
  refine g_icmp_ge (pc := 11) (tgt := 110) dX8_lightOf_11 (by decide) (fun c11 => ?_) (fun c11 => ?_)
  · have h := h.1 c11
    refine g_iload_n (pc := 110) (x := l3) dX8_lightOf_110 rfl ?_
    exact g_iret (pc := 111) dX8_lightOf_111 rfl rfl rfl h
  · have h := h.2 c11
    refine g_aload_n (pc := 14) (x := l1) dX8_lightOf_14 rfl ?_
    refine g_iload (pc := 15) (x := l4) dX8_lightOf_15 rfl ?_
    refine g_iaload (pc := 17) dX8_lightOf_17 k1 h.1 ?_
    have h := h.2
    refine g_aload_n (pc := 18) (x := l1) dX8_lightOf_18 rfl ?_
    refine g_iload_n (pc := 19) (x := l2) dX8_lightOf_19 rfl ?_
    refine g_iaload (pc := 20) dX8_lightOf_20 k1 h.1 ?_
    have h := h.2
    refine g_isub (pc := 21) dX8_lightOf_21 ?_
    refine g_istore (pc := 22) (L' := [(0, .ref l0), (1, .ref l1), (2, .int l2), (3, .int l3), (4, .int l4), (5, .int ((mm.1 l1 l4.toNatClampNeg) - (mm.1 l1 l2.toNatClampNeg)))]) dX8_lightOf_22 (Nat.le_of_ble_eq_true rfl) rfl ?_
    refine g_aload_n (pc := 24) (x := l0) dX8_lightOf_24 rfl ?_
    refine g_getR (pc := 25) (dd := 1) dX8_lightOf_25 fo_X8_9 (AtTown_0 k0) rfl ?_
    refine g_iload (pc := 28) (x := l4) dX8_lightOf_28 rfl ?_
    refine g_iaload (pc := 30) dX8_lightOf_30 (AtTown_1 k0) h.1 ?_
    have h := h.2
    refine g_aload_n (pc := 31) (x := l0) dX8_lightOf_31 rfl ?_
    refine g_getR (pc := 32) (dd := 1) dX8_lightOf_32 fo_X8_9 (AtTown_0 k0) rfl ?_
    refine g_iload_n (pc := 35) (x := l2) dX8_lightOf_35 rfl ?_
    refine g_iaload (pc := 36) dX8_lightOf_36 (AtTown_1 k0) h.1 ?_
    have h := h.2
    refine g_icmp_ge (pc := 37) (tgt := 64) dX8_lightOf_37 (by decide) (fun c37 => ?_) (fun c37 => ?_)
    · have h := h.1 c37
      refine g_aload_n (pc := 64) (x := l0) dX8_lightOf_64 rfl ?_
      refine g_getR (pc := 65) (dd := 1) dX8_lightOf_65 fo_X8_9 (AtTown_0 k0) rfl ?_
      refine g_iload (pc := 68) (x := l4) dX8_lightOf_68 rfl ?_
      refine g_iaload (pc := 70) dX8_lightOf_70 (AtTown_1 k0) h.1 ?_
      have h := h.2
      refine g_aload_n (pc := 71) (x := l0) dX8_lightOf_71 rfl ?_
      refine g_getR (pc := 72) (dd := 1) dX8_lightOf_72 fo_X8_9 (AtTown_0 k0) rfl ?_
      refine g_iload_n (pc := 75) (x := l2) dX8_lightOf_75 rfl ?_
      refine g_iaload (pc := 76) dX8_lightOf_76 (AtTown_1 k0) h.1 ?_
      have h := h.2
      refine g_icmp_le (pc := 77) (tgt := 104) dX8_lightOf_77 (by decide) (fun c77 => ?_) (fun c77 => ?_)
      · have h := h.1 c77
        refine g_iinc (pc := 104) (x := l4) (v := (l4 + (1 : Int32))) (L' := [(0, .ref l0), (1, .ref l1), (2, .int l2), (3, .int l3), (4, .int (l4 + (1 : Int32))), (5, .int ((mm.1 l1 l4.toNatClampNeg) - (mm.1 l1 l2.toNatClampNeg)))]) dX8_lightOf_104 rfl rfl (Nat.le_of_ble_eq_true rfl) rfl ?_
        refine g_goto (pc := 107) (tgt := 5) dX8_lightOf_107 (by decide) ?_
        refine g_sub (L' := [(0, .ref l0), (1, .ref l1), (2, .int l2), (3, .int l3), (4, .int (l4 + (1 : Int32)))]) [0, 1, 2, 3, 4] rfl ?_
        exact h
      · have h := h.2 c77
        refine g_iload (pc := 80) (x := ((mm.1 l1 l4.toNatClampNeg) - (mm.1 l1 l2.toNatClampNeg))) dX8_lightOf_80 rfl ?_
        refine g_aload_n (pc := 82) (x := l0) dX8_lightOf_82 rfl ?_
        refine g_getR (pc := 83) (dd := 1) dX8_lightOf_83 fo_X8_9 (AtTown_0 k0) rfl ?_
        refine g_iload (pc := 86) (x := l4) dX8_lightOf_86 rfl ?_
        refine g_iaload (pc := 88) dX8_lightOf_88 (AtTown_1 k0) h.1 ?_
        have h := h.2
        refine g_aload_n (pc := 89) (x := l0) dX8_lightOf_89 rfl ?_
        refine g_getR (pc := 90) (dd := 1) dX8_lightOf_90 fo_X8_9 (AtTown_0 k0) rfl ?_
        refine g_iload_n (pc := 93) (x := l2) dX8_lightOf_93 rfl ?_
        refine g_iaload (pc := 94) dX8_lightOf_94 (AtTown_1 k0) h.1 ?_
        have h := h.2
        refine g_isub (pc := 95) dX8_lightOf_95 ?_
        refine g_icmp_lt (pc := 96) (tgt := 104) dX8_lightOf_96 (by decide) (fun c96 => ?_) (fun c96 => ?_)
        · have h := h.1 c96
          refine g_iinc (pc := 104) (x := l4) (v := (l4 + (1 : Int32))) (L' := [(0, .ref l0), (1, .ref l1), (2, .int l2), (3, .int l3), (4, .int (l4 + (1 : Int32))), (5, .int ((mm.1 l1 l4.toNatClampNeg) - (mm.1 l1 l2.toNatClampNeg)))]) dX8_lightOf_104 rfl rfl (Nat.le_of_ble_eq_true rfl) rfl ?_
          refine g_goto (pc := 107) (tgt := 5) dX8_lightOf_107 (by decide) ?_
          refine g_sub (L' := [(0, .ref l0), (1, .ref l1), (2, .int l2), (3, .int l3), (4, .int (l4 + (1 : Int32)))]) [0, 1, 2, 3, 4] rfl ?_
          exact h
        · have h := h.2 c96
          refine g_iload_n (pc := 99) (x := l3) dX8_lightOf_99 rfl ?_
          refine g_bipush (pc := 100) (v := (-3 : Int32)) dX8_lightOf_100 (by decide) ?_
          refine g_iand (pc := 102) dX8_lightOf_102 ?_
          refine g_istore_n (pc := 103) (L' := [(0, .ref l0), (1, .ref l1), (2, .int l2), (3, .int (l3 &&& (-3 : Int32))), (4, .int l4), (5, .int ((mm.1 l1 l4.toNatClampNeg) - (mm.1 l1 l2.toNatClampNeg)))]) dX8_lightOf_103 (Nat.le_of_ble_eq_true rfl) rfl ?_
          refine g_iinc (pc := 104) (x := l4) (v := (l4 + (1 : Int32))) (L' := [(0, .ref l0), (1, .ref l1), (2, .int l2), (3, .int (l3 &&& (-3 : Int32))), (4, .int (l4 + (1 : Int32))), (5, .int ((mm.1 l1 l4.toNatClampNeg) - (mm.1 l1 l2.toNatClampNeg)))]) dX8_lightOf_104 rfl rfl (Nat.le_of_ble_eq_true rfl) rfl ?_
          refine g_goto (pc := 107) (tgt := 5) dX8_lightOf_107 (by decide) ?_
          refine g_sub (L' := [(0, .ref l0), (1, .ref l1), (2, .int l2), (3, .int (l3 &&& (-3 : Int32))), (4, .int (l4 + (1 : Int32)))]) [0, 1, 2, 3, 4] rfl ?_
          exact h
    · have h := h.2 c37
      refine g_iload (pc := 40) (x := ((mm.1 l1 l4.toNatClampNeg) - (mm.1 l1 l2.toNatClampNeg))) dX8_lightOf_40 rfl ?_
      refine g_aload_n (pc := 42) (x := l0) dX8_lightOf_42 rfl ?_
      refine g_getR (pc := 43) (dd := 1) dX8_lightOf_43 fo_X8_9 (AtTown_0 k0) rfl ?_
      refine g_iload_n (pc := 46) (x := l2) dX8_lightOf_46 rfl ?_
      refine g_iaload (pc := 47) dX8_lightOf_47 (AtTown_1 k0) h.1 ?_
      have h := h.2
      refine g_aload_n (pc := 48) (x := l0) dX8_lightOf_48 rfl ?_
      refine g_getR (pc := 49) (dd := 1) dX8_lightOf_49 fo_X8_9 (AtTown_0 k0) rfl ?_
      refine g_iload (pc := 52) (x := l4) dX8_lightOf_52 rfl ?_
      refine g_iaload (pc := 54) dX8_lightOf_54 (AtTown_1 k0) h.1 ?_
      have h := h.2
      refine g_isub (pc := 55) dX8_lightOf_55 ?_
      refine g_icmp_lt (pc := 56) (tgt := 64) dX8_lightOf_56 (by decide) (fun c56 => ?_) (fun c56 => ?_)
      · have h := h.1 c56
        refine g_aload_n (pc := 64) (x := l0) dX8_lightOf_64 rfl ?_
        refine g_getR (pc := 65) (dd := 1) dX8_lightOf_65 fo_X8_9 (AtTown_0 k0) rfl ?_
        refine g_iload (pc := 68) (x := l4) dX8_lightOf_68 rfl ?_
        refine g_iaload (pc := 70) dX8_lightOf_70 (AtTown_1 k0) h.1 ?_
        have h := h.2
        refine g_aload_n (pc := 71) (x := l0) dX8_lightOf_71 rfl ?_
        refine g_getR (pc := 72) (dd := 1) dX8_lightOf_72 fo_X8_9 (AtTown_0 k0) rfl ?_
        refine g_iload_n (pc := 75) (x := l2) dX8_lightOf_75 rfl ?_
        refine g_iaload (pc := 76) dX8_lightOf_76 (AtTown_1 k0) h.1 ?_
        have h := h.2
        refine g_icmp_le (pc := 77) (tgt := 104) dX8_lightOf_77 (by decide) (fun c77 => ?_) (fun c77 => ?_)
        · have h := h.1 c77
          refine g_iinc (pc := 104) (x := l4) (v := (l4 + (1 : Int32))) (L' := [(0, .ref l0), (1, .ref l1), (2, .int l2), (3, .int l3), (4, .int (l4 + (1 : Int32))), (5, .int ((mm.1 l1 l4.toNatClampNeg) - (mm.1 l1 l2.toNatClampNeg)))]) dX8_lightOf_104 rfl rfl (Nat.le_of_ble_eq_true rfl) rfl ?_
          refine g_goto (pc := 107) (tgt := 5) dX8_lightOf_107 (by decide) ?_
          refine g_sub (L' := [(0, .ref l0), (1, .ref l1), (2, .int l2), (3, .int l3), (4, .int (l4 + (1 : Int32)))]) [0, 1, 2, 3, 4] rfl ?_
          exact h
        · have h := h.2 c77
          refine g_iload (pc := 80) (x := ((mm.1 l1 l4.toNatClampNeg) - (mm.1 l1 l2.toNatClampNeg))) dX8_lightOf_80 rfl ?_
          refine g_aload_n (pc := 82) (x := l0) dX8_lightOf_82 rfl ?_
          refine g_getR (pc := 83) (dd := 1) dX8_lightOf_83 fo_X8_9 (AtTown_0 k0) rfl ?_
          refine g_iload (pc := 86) (x := l4) dX8_lightOf_86 rfl ?_
          refine g_iaload (pc := 88) dX8_lightOf_88 (AtTown_1 k0) h.1 ?_
          have h := h.2
          refine g_aload_n (pc := 89) (x := l0) dX8_lightOf_89 rfl ?_
          refine g_getR (pc := 90) (dd := 1) dX8_lightOf_90 fo_X8_9 (AtTown_0 k0) rfl ?_
          refine g_iload_n (pc := 93) (x := l2) dX8_lightOf_93 rfl ?_
          refine g_iaload (pc := 94) dX8_lightOf_94 (AtTown_1 k0) h.1 ?_
          have h := h.2
          refine g_isub (pc := 95) dX8_lightOf_95 ?_
          refine g_icmp_lt (pc := 96) (tgt := 104) dX8_lightOf_96 (by decide) (fun c96 => ?_) (fun c96 => ?_)
          · have h := h.1 c96
            refine g_iinc (pc := 104) (x := l4) (v := (l4 + (1 : Int32))) (L' := [(0, .ref l0), (1, .ref l1), (2, .int l2), (3, .int l3), (4, .int (l4 + (1 : Int32))), (5, .int ((mm.1 l1 l4.toNatClampNeg) - (mm.1 l1 l2.toNatClampNeg)))]) dX8_lightOf_104 rfl rfl (Nat.le_of_ble_eq_true rfl) rfl ?_
            refine g_goto (pc := 107) (tgt := 5) dX8_lightOf_107 (by decide) ?_
            refine g_sub (L' := [(0, .ref l0), (1, .ref l1), (2, .int l2), (3, .int l3), (4, .int (l4 + (1 : Int32)))]) [0, 1, 2, 3, 4] rfl ?_
            exact h
          · have h := h.2 c96
            refine g_iload_n (pc := 99) (x := l3) dX8_lightOf_99 rfl ?_
            refine g_bipush (pc := 100) (v := (-3 : Int32)) dX8_lightOf_100 (by decide) ?_
            refine g_iand (pc := 102) dX8_lightOf_102 ?_
            refine g_istore_n (pc := 103) (L' := [(0, .ref l0), (1, .ref l1), (2, .int l2), (3, .int (l3 &&& (-3 : Int32))), (4, .int l4), (5, .int ((mm.1 l1 l4.toNatClampNeg) - (mm.1 l1 l2.toNatClampNeg)))]) dX8_lightOf_103 (Nat.le_of_ble_eq_true rfl) rfl ?_
            refine g_iinc (pc := 104) (x := l4) (v := (l4 + (1 : Int32))) (L' := [(0, .ref l0), (1, .ref l1), (2, .int l2), (3, .int (l3 &&& (-3 : Int32))), (4, .int (l4 + (1 : Int32))), (5, .int ((mm.1 l1 l4.toNatClampNeg) - (mm.1 l1 l2.toNatClampNeg)))]) dX8_lightOf_104 rfl rfl (Nat.le_of_ble_eq_true rfl) rfl ?_
            refine g_goto (pc := 107) (tgt := 5) dX8_lightOf_107 (by decide) ?_
            refine g_sub (L' := [(0, .ref l0), (1, .ref l1), (2, .int l2), (3, .int (l3 &&& (-3 : Int32))), (4, .int (l4 + (1 : Int32)))]) [0, 1, 2, 3, 4] rfl ?_
            exact h
      · have h := h.2 c56
        refine g_iload_n (pc := 59) (x := l3) dX8_lightOf_59 rfl ?_
        refine g_bipush (pc := 60) (v := (-2 : Int32)) dX8_lightOf_60 (by decide) ?_
        refine g_iand (pc := 62) dX8_lightOf_62 ?_
        refine g_istore_n (pc := 63) (L' := [(0, .ref l0), (1, .ref l1), (2, .int l2), (3, .int (l3 &&& (-2 : Int32))), (4, .int l4), (5, .int ((mm.1 l1 l4.toNatClampNeg) - (mm.1 l1 l2.toNatClampNeg)))]) dX8_lightOf_63 (Nat.le_of_ble_eq_true rfl) rfl ?_
        refine g_aload_n (pc := 64) (x := l0) dX8_lightOf_64 rfl ?_
        refine g_getR (pc := 65) (dd := 1) dX8_lightOf_65 fo_X8_9 (AtTown_0 k0) rfl ?_
        refine g_iload (pc := 68) (x := l4) dX8_lightOf_68 rfl ?_
        refine g_iaload (pc := 70) dX8_lightOf_70 (AtTown_1 k0) h.1 ?_
        have h := h.2
        refine g_aload_n (pc := 71) (x := l0) dX8_lightOf_71 rfl ?_
        refine g_getR (pc := 72) (dd := 1) dX8_lightOf_72 fo_X8_9 (AtTown_0 k0) rfl ?_
        refine g_iload_n (pc := 75) (x := l2) dX8_lightOf_75 rfl ?_
        refine g_iaload (pc := 76) dX8_lightOf_76 (AtTown_1 k0) h.1 ?_
        have h := h.2
        refine g_icmp_le (pc := 77) (tgt := 104) dX8_lightOf_77 (by decide) (fun c77 => ?_) (fun c77 => ?_)
        · have h := h.1 c77
          refine g_iinc (pc := 104) (x := l4) (v := (l4 + (1 : Int32))) (L' := [(0, .ref l0), (1, .ref l1), (2, .int l2), (3, .int (l3 &&& (-2 : Int32))), (4, .int (l4 + (1 : Int32))), (5, .int ((mm.1 l1 l4.toNatClampNeg) - (mm.1 l1 l2.toNatClampNeg)))]) dX8_lightOf_104 rfl rfl (Nat.le_of_ble_eq_true rfl) rfl ?_
          refine g_goto (pc := 107) (tgt := 5) dX8_lightOf_107 (by decide) ?_
          refine g_sub (L' := [(0, .ref l0), (1, .ref l1), (2, .int l2), (3, .int (l3 &&& (-2 : Int32))), (4, .int (l4 + (1 : Int32)))]) [0, 1, 2, 3, 4] rfl ?_
          exact h
        · have h := h.2 c77
          refine g_iload (pc := 80) (x := ((mm.1 l1 l4.toNatClampNeg) - (mm.1 l1 l2.toNatClampNeg))) dX8_lightOf_80 rfl ?_
          refine g_aload_n (pc := 82) (x := l0) dX8_lightOf_82 rfl ?_
          refine g_getR (pc := 83) (dd := 1) dX8_lightOf_83 fo_X8_9 (AtTown_0 k0) rfl ?_
          refine g_iload (pc := 86) (x := l4) dX8_lightOf_86 rfl ?_
          refine g_iaload (pc := 88) dX8_lightOf_88 (AtTown_1 k0) h.1 ?_
          have h := h.2
          refine g_aload_n (pc := 89) (x := l0) dX8_lightOf_89 rfl ?_
          refine g_getR (pc := 90) (dd := 1) dX8_lightOf_90 fo_X8_9 (AtTown_0 k0) rfl ?_
          refine g_iload_n (pc := 93) (x := l2) dX8_lightOf_93 rfl ?_
          refine g_iaload (pc := 94) dX8_lightOf_94 (AtTown_1 k0) h.1 ?_
          have h := h.2
          refine g_isub (pc := 95) dX8_lightOf_95 ?_
          refine g_icmp_lt (pc := 96) (tgt := 104) dX8_lightOf_96 (by decide) (fun c96 => ?_) (fun c96 => ?_)
          · have h := h.1 c96
            refine g_iinc (pc := 104) (x := l4) (v := (l4 + (1 : Int32))) (L' := [(0, .ref l0), (1, .ref l1), (2, .int l2), (3, .int (l3 &&& (-2 : Int32))), (4, .int (l4 + (1 : Int32))), (5, .int ((mm.1 l1 l4.toNatClampNeg) - (mm.1 l1 l2.toNatClampNeg)))]) dX8_lightOf_104 rfl rfl (Nat.le_of_ble_eq_true rfl) rfl ?_
            refine g_goto (pc := 107) (tgt := 5) dX8_lightOf_107 (by decide) ?_
            refine g_sub (L' := [(0, .ref l0), (1, .ref l1), (2, .int l2), (3, .int (l3 &&& (-2 : Int32))), (4, .int (l4 + (1 : Int32)))]) [0, 1, 2, 3, 4] rfl ?_
            exact h
          · have h := h.2 c96
            refine g_iload_n (pc := 99) (x := (l3 &&& (-2 : Int32))) dX8_lightOf_99 rfl ?_
            refine g_bipush (pc := 100) (v := (-3 : Int32)) dX8_lightOf_100 (by decide) ?_
            refine g_iand (pc := 102) dX8_lightOf_102 ?_
            refine g_istore_n (pc := 103) (L' := [(0, .ref l0), (1, .ref l1), (2, .int l2), (3, .int ((l3 &&& (-2 : Int32)) &&& (-3 : Int32))), (4, .int l4), (5, .int ((mm.1 l1 l4.toNatClampNeg) - (mm.1 l1 l2.toNatClampNeg)))]) dX8_lightOf_103 (Nat.le_of_ble_eq_true rfl) rfl ?_
            refine g_iinc (pc := 104) (x := l4) (v := (l4 + (1 : Int32))) (L' := [(0, .ref l0), (1, .ref l1), (2, .int l2), (3, .int ((l3 &&& (-2 : Int32)) &&& (-3 : Int32))), (4, .int (l4 + (1 : Int32))), (5, .int ((mm.1 l1 l4.toNatClampNeg) - (mm.1 l1 l2.toNatClampNeg)))]) dX8_lightOf_104 rfl rfl (Nat.le_of_ble_eq_true rfl) rfl ?_
            refine g_goto (pc := 107) (tgt := 5) dX8_lightOf_107 (by decide) ?_
            refine g_sub (L' := [(0, .ref l0), (1, .ref l1), (2, .int l2), (3, .int ((l3 &&& (-2 : Int32)) &&& (-3 : Int32))), (4, .int (l4 + (1 : Int32)))]) [0, 1, 2, 3, 4] rfl ?_
            exact h
theorem dX8_neighbours_0 : decode cX8_neighbours 0 = .ok (.iconst 0, 1) := by decide +kernel
theorem dX8_neighbours_1 : decode cX8_neighbours 1 = .ok (.istore_n 2, 1) := by decide +kernel
theorem dX8_neighbours_2 : decode cX8_neighbours 2 = .ok (.iconst 0, 1) := by decide +kernel
theorem dX8_neighbours_3 : decode cX8_neighbours 3 = .ok (.istore_n 3, 1) := by decide +kernel
theorem dX8_neighbours_4 : decode cX8_neighbours 4 = .ok (.iload_n 3, 1) := by decide +kernel
theorem dX8_neighbours_5 : decode cX8_neighbours 5 = .ok (.aload_n 0, 1) := by decide +kernel
theorem dX8_neighbours_6 : decode cX8_neighbours 6 = .ok (.getfield 47, 3) := by decide +kernel
theorem dX8_neighbours_9 : decode cX8_neighbours 9 = .ok (.if_icmp .ge 53, 3) := by decide +kernel
theorem dX8_neighbours_12 : decode cX8_neighbours 12 = .ok (.aload_n 0, 1) := by decide +kernel
theorem dX8_neighbours_13 : decode cX8_neighbours 13 = .ok (.getfield 21, 3) := by decide +kernel
theorem dX8_neighbours_16 : decode cX8_neighbours 16 = .ok (.iload_n 3, 1) := by decide +kernel
theorem dX8_neighbours_17 : decode cX8_neighbours 17 = .ok (.iaload, 1) := by decide +kernel
theorem dX8_neighbours_18 : decode cX8_neighbours 18 = .ok (.iload_n 1, 1) := by decide +kernel
theorem dX8_neighbours_19 : decode cX8_neighbours 19 = .ok (.if_icmp .ne 15, 3) := by decide +kernel
theorem dX8_neighbours_22 : decode cX8_neighbours 22 = .ok (.iload_n 2, 1) := by decide +kernel
theorem dX8_neighbours_23 : decode cX8_neighbours 23 = .ok (.aload_n 0, 1) := by decide +kernel
theorem dX8_neighbours_24 : decode cX8_neighbours 24 = .ok (.getfield 24, 3) := by decide +kernel
theorem dX8_neighbours_27 : decode cX8_neighbours 27 = .ok (.iload_n 3, 1) := by decide +kernel
theorem dX8_neighbours_28 : decode cX8_neighbours 28 = .ok (.iaload, 1) := by decide +kernel
theorem dX8_neighbours_29 : decode cX8_neighbours 29 = .ok (.invokestatic 153, 3) := by decide +kernel
theorem dX8_neighbours_32 : decode cX8_neighbours 32 = .ok (.ior, 1) := by decide +kernel
theorem dX8_neighbours_33 : decode cX8_neighbours 33 = .ok (.istore_n 2, 1) := by decide +kernel
theorem dX8_neighbours_34 : decode cX8_neighbours 34 = .ok (.aload_n 0, 1) := by decide +kernel
theorem dX8_neighbours_35 : decode cX8_neighbours 35 = .ok (.getfield 24, 3) := by decide +kernel
theorem dX8_neighbours_38 : decode cX8_neighbours 38 = .ok (.iload_n 3, 1) := by decide +kernel
theorem dX8_neighbours_39 : decode cX8_neighbours 39 = .ok (.iaload, 1) := by decide +kernel
theorem dX8_neighbours_40 : decode cX8_neighbours 40 = .ok (.iload_n 1, 1) := by decide +kernel
theorem dX8_neighbours_41 : decode cX8_neighbours 41 = .ok (.if_icmp .ne 15, 3) := by decide +kernel
theorem dX8_neighbours_44 : decode cX8_neighbours 44 = .ok (.iload_n 2, 1) := by decide +kernel
theorem dX8_neighbours_45 : decode cX8_neighbours 45 = .ok (.aload_n 0, 1) := by decide +kernel
theorem dX8_neighbours_46 : decode cX8_neighbours 46 = .ok (.getfield 21, 3) := by decide +kernel
theorem dX8_neighbours_49 : decode cX8_neighbours 49 = .ok (.iload_n 3, 1) := by decide +kernel
theorem dX8_neighbours_50 : decode cX8_neighbours 50 = .ok (.iaload, 1) := by decide +kernel
theorem dX8_neighbours_51 : decode cX8_neighbours 51 = .ok (.invokestatic 153, 3) := by decide +kernel
theorem dX8_neighbours_54 : decode cX8_neighbours 54 = .ok (.ior, 1) := by decide +kernel
theorem dX8_neighbours_55 : decode cX8_neighbours 55 = .ok (.istore_n 2, 1) := by decide +kernel
theorem dX8_neighbours_56 : decode cX8_neighbours 56 = .ok (.iinc 3 1, 3) := by decide +kernel
theorem dX8_neighbours_59 : decode cX8_neighbours 59 = .ok (.goto (-55), 3) := by decide +kernel
theorem dX8_neighbours_62 : decode cX8_neighbours 62 = .ok (.iload_n 2, 1) := by decide +kernel
theorem dX8_neighbours_63 : decode cX8_neighbours 63 = .ok (.ireturn, 1) := by decide +kernel
theorem b_X8_neighbours (mm : MM) (Q : Value → MM → Prop) (t0 : Nat) (a1 : Int32) (h0 : AtTown t0) (h : G e_X8_neighbours 4 [(0, .ref t0), (1, .int a1), (2, .int (0 : Int32)), (3, .int (0 : Int32))] [] mm Q) : Runs e_X8_neighbours [.ref t0, .int a1] mm Q := by
  refine runs_of_G (L := [(0, .ref t0), (1, .int a1)]) pl_X8 (Nat.le_of_ble_eq_true rfl) rfl ?_
  refine g_iconst (pc := 0) (v := (0 : Int32)) dX8_neighbours_0 (by decide) ?_
  refine g_istore_n (pc := 1) (L' := [(0, .ref t0), (1, .int a1), (2, .int (0 : Int32))]) dX8_neighbours_1 (Nat.le_of_ble_eq_true rfl) rfl ?_
  refine g_iconst (pc := 2) (v := (0 : Int32)) dX8_neighbours_2 (by decide) ?_
  refine g_istore_n (pc := 3) (L' := [(0, .ref t0), (1, .int a1), (2, .int (0 : Int32)), (3, .int (0 : Int32))]) dX8_neighbours_3 (Nat.le_of_ble_eq_true rfl) rfl ?_
  exact h
theorem b_X8_neighbours_4 (mm : MM) (Q : Value → MM → Prop) (l0 : Nat) (l1 : Int32) (l2 : Int32) (l3 : Int32) (k0 : AtTown l0) (h : ((mm.1 l0 10) ≤ l3 → (Q (.int l2) mm)) ∧ (¬ (mm.1 l0 10) ≤ l3 → (vp_in l3 12 ∧ ((¬ (mm.1 (l0 + 4) l3.toNatClampNeg) = l1 → (vp_in l3 12 ∧ ((¬ (mm.1 (l0 + 5) l3.toNatClampNeg) = l1 → (G e_X8_neighbours 4 [(0, .ref l0), (1, .int l1), (2, .int l2), (3, .int (l3 + (1 : Int32)))] [] mm Q)) ∧ ((mm.1 (l0 + 5) l3.toNatClampNeg) = l1 → (vp_in l3 12 ∧ (G e_X8_neighbours 4 [(0, .ref l0), (1, .int l1), (2, .int (l2 ||| (v_X8_bitOf mm (mm.1 (l0 + 4) l3.toNatClampNeg)))), (3, .int (l3 + (1 : Int32)))] [] mm Q)))))) ∧ ((mm.1 (l0 + 4) l3.toNatClampNeg) = l1 → (vp_in l3 12 ∧ (vp_in l3 12 ∧ ((¬ (mm.1 (l0 + 5) l3.toNatClampNeg) = l1 → (G e_X8_neighbours 4 [(0, .ref l0), (1, .int l1), (2, .int (l2 ||| (v_X8_bitOf mm (mm.1 (l0 + 5) l3.toNatClampNeg)))), (3, .int (l3 + (1 : Int32)))] [] mm Q)) ∧ ((mm.1 (l0 + 5) l3.toNatClampNeg) = l1 → (vp_in l3 12 ∧ (G e_X8_neighbours 4 [(0, .ref l0), (1, .int l1), (2, .int ((l2 ||| (v_X8_bitOf mm (mm.1 (l0 + 5) l3.toNatClampNeg))) ||| (v_X8_bitOf mm (mm.1 (l0 + 4) l3.toNatClampNeg)))), (3, .int (l3 + (1 : Int32)))] [] mm Q))))))))))) : G e_X8_neighbours 4 [(0, .ref l0), (1, .int l1), (2, .int l2), (3, .int l3)] [] mm Q := by
  refine g_iload_n (pc := 4) (x := l3) dX8_neighbours_4 rfl ?_
  refine g_aload_n (pc := 5) (x := l0) dX8_neighbours_5 rfl ?_
  refine g_getI (pc := 6) dX8_neighbours_6 fo_X8_47 (AtTown_0 k0) rfl ?_
  refine g_icmp_ge (pc := 9) (tgt := 62) dX8_neighbours_9 (by decide) (fun c9 => ?_) (fun c9 => ?_)
  · have h := h.1 c9
    refine g_iload_n (pc := 62) (x := l2) dX8_neighbours_62 rfl ?_
    exact g_iret (pc := 63) dX8_neighbours_63 rfl rfl rfl h
  · have h := h.2 c9
    refine g_aload_n (pc := 12) (x := l0) dX8_neighbours_12 rfl ?_
    refine g_getR (pc := 13) (dd := 4) dX8_neighbours_13 fo_X8_21 (AtTown_0 k0) rfl ?_
    refine g_iload_n (pc := 16) (x := l3) dX8_neighbours_16 rfl ?_
    refine g_iaload (pc := 17) dX8_neighbours_17 (AtTown_4 k0) h.1 ?_
    have h := h.2
    refine g_iload_n (pc := 18) (x := l1) dX8_neighbours_18 rfl ?_
    refine g_icmp_ne (pc := 19) (tgt := 34) dX8_neighbours_19 (by decide) (fun c19 => ?_) (fun c19 => ?_)
    · have h := h.1 c19
      refine g_aload_n (pc := 34) (x := l0) dX8_neighbours_34 rfl ?_
      refine g_getR (pc := 35) (dd := 5) dX8_neighbours_35 fo_X8_24 (AtTown_0 k0) rfl ?_
      refine g_iload_n (pc := 38) (x := l3) dX8_neighbours_38 rfl ?_
      refine g_iaload (pc := 39) dX8_neighbours_39 (AtTown_5 k0) h.1 ?_
      have h := h.2
      refine g_iload_n (pc := 40) (x := l1) dX8_neighbours_40 rfl ?_
      refine g_icmp_ne (pc := 41) (tgt := 56) dX8_neighbours_41 (by decide) (fun c41 => ?_) (fun c41 => ?_)
      · have h := h.1 c41
        refine g_iinc (pc := 56) (x := l3) (v := (l3 + (1 : Int32))) (L' := [(0, .ref l0), (1, .int l1), (2, .int l2), (3, .int (l3 + (1 : Int32)))]) dX8_neighbours_56 rfl rfl (Nat.le_of_ble_eq_true rfl) rfl ?_
        refine g_goto (pc := 59) (tgt := 4) dX8_neighbours_59 (by decide) ?_
        exact h
      · have h := h.2 c41
        refine g_iload_n (pc := 44) (x := l2) dX8_neighbours_44 rfl ?_
        refine g_aload_n (pc := 45) (x := l0) dX8_neighbours_45 rfl ?_
        refine g_getR (pc := 46) (dd := 4) dX8_neighbours_46 fo_X8_21 (AtTown_0 k0) rfl ?_
        refine g_iload_n (pc := 49) (x := l3) dX8_neighbours_49 rfl ?_
        refine g_iaload (pc := 50) dX8_neighbours_50 (AtTown_4 k0) h.1 ?_
        have h := h.2
        refine g_callS (pc := 51) (as := [.int (mm.1 (l0 + 4) l3.toNatClampNeg)]) dX8_neighbours_51 cw_X8_153 (by decide) rfl rfl (Nat.le_of_ble_eq_true rfl) (rv_X8_bitOf mm (mm.1 (l0 + 4) l3.toNatClampNeg)) ?_
        rintro r_ m_ hz_ ⟨rfl, rfl⟩
        refine g_ior (pc := 54) dX8_neighbours_54 ?_
        refine g_istore_n (pc := 55) (L' := [(0, .ref l0), (1, .int l1), (2, .int (l2 ||| (v_X8_bitOf mm (mm.1 (l0 + 4) l3.toNatClampNeg)))), (3, .int l3)]) dX8_neighbours_55 (Nat.le_of_ble_eq_true rfl) rfl ?_
        refine g_iinc (pc := 56) (x := l3) (v := (l3 + (1 : Int32))) (L' := [(0, .ref l0), (1, .int l1), (2, .int (l2 ||| (v_X8_bitOf mm (mm.1 (l0 + 4) l3.toNatClampNeg)))), (3, .int (l3 + (1 : Int32)))]) dX8_neighbours_56 rfl rfl (Nat.le_of_ble_eq_true rfl) rfl ?_
        refine g_goto (pc := 59) (tgt := 4) dX8_neighbours_59 (by decide) ?_
        exact h
    · have h := h.2 c19
      refine g_iload_n (pc := 22) (x := l2) dX8_neighbours_22 rfl ?_
      refine g_aload_n (pc := 23) (x := l0) dX8_neighbours_23 rfl ?_
      refine g_getR (pc := 24) (dd := 5) dX8_neighbours_24 fo_X8_24 (AtTown_0 k0) rfl ?_
      refine g_iload_n (pc := 27) (x := l3) dX8_neighbours_27 rfl ?_
      refine g_iaload (pc := 28) dX8_neighbours_28 (AtTown_5 k0) h.1 ?_
      have h := h.2
      refine g_callS (pc := 29) (as := [.int (mm.1 (l0 + 5) l3.toNatClampNeg)]) dX8_neighbours_29 cw_X8_153 (by decide) rfl rfl (Nat.le_of_ble_eq_true rfl) (rv_X8_bitOf mm (mm.1 (l0 + 5) l3.toNatClampNeg)) ?_
      rintro r_ m_ hz_ ⟨rfl, rfl⟩
      refine g_ior (pc := 32) dX8_neighbours_32 ?_
      refine g_istore_n (pc := 33) (L' := [(0, .ref l0), (1, .int l1), (2, .int (l2 ||| (v_X8_bitOf mm (mm.1 (l0 + 5) l3.toNatClampNeg)))), (3, .int l3)]) dX8_neighbours_33 (Nat.le_of_ble_eq_true rfl) rfl ?_
      refine g_aload_n (pc := 34) (x := l0) dX8_neighbours_34 rfl ?_
      refine g_getR (pc := 35) (dd := 5) dX8_neighbours_35 fo_X8_24 (AtTown_0 k0) rfl ?_
      refine g_iload_n (pc := 38) (x := l3) dX8_neighbours_38 rfl ?_
      refine g_iaload (pc := 39) dX8_neighbours_39 (AtTown_5 k0) h.1 ?_
      have h := h.2
      refine g_iload_n (pc := 40) (x := l1) dX8_neighbours_40 rfl ?_
      refine g_icmp_ne (pc := 41) (tgt := 56) dX8_neighbours_41 (by decide) (fun c41 => ?_) (fun c41 => ?_)
      · have h := h.1 c41
        refine g_iinc (pc := 56) (x := l3) (v := (l3 + (1 : Int32))) (L' := [(0, .ref l0), (1, .int l1), (2, .int (l2 ||| (v_X8_bitOf mm (mm.1 (l0 + 5) l3.toNatClampNeg)))), (3, .int (l3 + (1 : Int32)))]) dX8_neighbours_56 rfl rfl (Nat.le_of_ble_eq_true rfl) rfl ?_
        refine g_goto (pc := 59) (tgt := 4) dX8_neighbours_59 (by decide) ?_
        exact h
      · have h := h.2 c41
        refine g_iload_n (pc := 44) (x := (l2 ||| (v_X8_bitOf mm (mm.1 (l0 + 5) l3.toNatClampNeg)))) dX8_neighbours_44 rfl ?_
        refine g_aload_n (pc := 45) (x := l0) dX8_neighbours_45 rfl ?_
        refine g_getR (pc := 46) (dd := 4) dX8_neighbours_46 fo_X8_21 (AtTown_0 k0) rfl ?_
        refine g_iload_n (pc := 49) (x := l3) dX8_neighbours_49 rfl ?_
        refine g_iaload (pc := 50) dX8_neighbours_50 (AtTown_4 k0) h.1 ?_
        have h := h.2
        refine g_callS (pc := 51) (as := [.int (mm.1 (l0 + 4) l3.toNatClampNeg)]) dX8_neighbours_51 cw_X8_153 (by decide) rfl rfl (Nat.le_of_ble_eq_true rfl) (rv_X8_bitOf mm (mm.1 (l0 + 4) l3.toNatClampNeg)) ?_
        rintro r_ m_ hz_ ⟨rfl, rfl⟩
        refine g_ior (pc := 54) dX8_neighbours_54 ?_
        refine g_istore_n (pc := 55) (L' := [(0, .ref l0), (1, .int l1), (2, .int ((l2 ||| (v_X8_bitOf mm (mm.1 (l0 + 5) l3.toNatClampNeg))) ||| (v_X8_bitOf mm (mm.1 (l0 + 4) l3.toNatClampNeg)))), (3, .int l3)]) dX8_neighbours_55 (Nat.le_of_ble_eq_true rfl) rfl ?_
        refine g_iinc (pc := 56) (x := l3) (v := (l3 + (1 : Int32))) (L' := [(0, .ref l0), (1, .int l1), (2, .int ((l2 ||| (v_X8_bitOf mm (mm.1 (l0 + 5) l3.toNatClampNeg))) ||| (v_X8_bitOf mm (mm.1 (l0 + 4) l3.toNatClampNeg)))), (3, .int (l3 + (1 : Int32)))]) dX8_neighbours_56 rfl rfl (Nat.le_of_ble_eq_true rfl) rfl ?_
        refine g_goto (pc := 59) (tgt := 4) dX8_neighbours_59 (by decide) ?_
        exact h
theorem dX9_dropLots_0 : decode cX9_dropLots 0 = .ok (.aload_n 0, 1) := by decide +kernel
theorem dX9_dropLots_1 : decode cX9_dropLots 1 = .ok (.iconst 0, 1) := by decide +kernel
theorem dX9_dropLots_2 : decode cX9_dropLots 2 = .ok (.putfield 26, 3) := by decide +kernel
theorem dX9_dropLots_5 : decode cX9_dropLots 5 = .ok (.return_, 1) := by decide +kernel
theorem b_X9_dropLots (mm : MM) (Q : Value → MM → Prop) (h : Q .null (wI mm 41 4 (0 : Int32))) : Runs e_X9_dropLots [.ref 41] mm Q := by
  refine runs_of_G (L := [(0, .ref 41)]) pl_X9 (Nat.le_of_ble_eq_true rfl) rfl ?_
  refine g_aload_n (pc := 0) (x := 41) dX9_dropLots_0 rfl ?_
  refine g_iconst (pc := 1) (v := (0 : Int32)) dX9_dropLots_1 (by decide) ?_
  refine g_putI (pc := 2) dX9_dropLots_2 fo_X9_26 sh_41 rfl rfl rfl ?_
  exact g_vret (pc := 5) dX9_dropLots_5 rfl rfl h
theorem dX9_verdict_0 : decode cX9_verdict 0 = .ok (.aload_n 2, 1) := by decide +kernel
theorem dX9_verdict_1 : decode cX9_verdict 1 = .ok (.getfield 36, 3) := by decide +kernel
theorem dX9_verdict_4 : decode cX9_verdict 4 = .ok (.iconst 0, 1) := by decide +kernel
theorem dX9_verdict_5 : decode cX9_verdict 5 = .ok (.aload_n 0, 1) := by decide +kernel
theorem dX9_verdict_6 : decode cX9_verdict 6 = .ok (.getfield 9, 3) := by decide +kernel
theorem dX9_verdict_9 : decode cX9_verdict 9 = .ok (.iconst 0, 1) := by decide +kernel
theorem dX9_verdict_10 : decode cX9_verdict 10 = .ok (.bipush 16, 2) := by decide +kernel
theorem dX9_verdict_12 : decode cX9_verdict 12 = .ok (.invokestatic 39, 3) := by decide +kernel
theorem dX9_verdict_15 : decode cX9_verdict 15 = .ok (.aload_n 2, 1) := by decide +kernel
theorem dX9_verdict_16 : decode cX9_verdict 16 = .ok (.getfield 45, 3) := by decide +kernel
theorem dX9_verdict_19 : decode cX9_verdict 19 = .ok (.iconst 0, 1) := by decide +kernel
theorem dX9_verdict_20 : decode cX9_verdict 20 = .ok (.aload_n 0, 1) := by decide +kernel
theorem dX9_verdict_21 : decode cX9_verdict 21 = .ok (.getfield 15, 3) := by decide +kernel
theorem dX9_verdict_24 : decode cX9_verdict 24 = .ok (.iconst 0, 1) := by decide +kernel
theorem dX9_verdict_25 : decode cX9_verdict 25 = .ok (.bipush 8, 2) := by decide +kernel
theorem dX9_verdict_27 : decode cX9_verdict 27 = .ok (.invokestatic 39, 3) := by decide +kernel
theorem dX9_verdict_30 : decode cX9_verdict 30 = .ok (.aload_n 0, 1) := by decide +kernel
theorem dX9_verdict_31 : decode cX9_verdict 31 = .ok (.iconst 0, 1) := by decide +kernel
theorem dX9_verdict_32 : decode cX9_verdict 32 = .ok (.putfield 33, 3) := by decide +kernel
theorem dX9_verdict_35 : decode cX9_verdict 35 = .ok (.aload_n 1, 1) := by decide +kernel
theorem dX9_verdict_36 : decode cX9_verdict 36 = .ok (.aload_n 2, 1) := by decide +kernel
theorem dX9_verdict_37 : decode cX9_verdict 37 = .ok (.bipush 12, 2) := by decide +kernel
theorem dX9_verdict_39 : decode cX9_verdict 39 = .ok (.invokevirtual 46, 3) := by decide +kernel
theorem dX9_verdict_42 : decode cX9_verdict 42 = .ok (.istore 4, 2) := by decide +kernel
theorem dX9_verdict_44 : decode cX9_verdict 44 = .ok (.aload_n 2, 1) := by decide +kernel
theorem dX9_verdict_45 : decode cX9_verdict 45 = .ok (.iconst (-1), 1) := by decide +kernel
theorem dX9_verdict_46 : decode cX9_verdict 46 = .ok (.invokestatic 52, 3) := by decide +kernel
theorem dX9_verdict_49 : decode cX9_verdict 49 = .ok (.istore 5, 2) := by decide +kernel
theorem dX9_verdict_51 : decode cX9_verdict 51 = .ok (.iconst 0, 1) := by decide +kernel
theorem dX9_verdict_52 : decode cX9_verdict 52 = .ok (.istore 6, 2) := by decide +kernel
theorem dX9_verdict_54 : decode cX9_verdict 54 = .ok (.iload 6, 2) := by decide +kernel
theorem dX9_verdict_56 : decode cX9_verdict 56 = .ok (.bipush 40, 2) := by decide +kernel
theorem dX9_verdict_58 : decode cX9_verdict 58 = .ok (.if_icmp .ge 44, 3) := by decide +kernel
theorem dX9_verdict_61 : decode cX9_verdict 61 = .ok (.iload 5, 2) := by decide +kernel
theorem dX9_verdict_63 : decode cX9_verdict 63 = .ok (.iconst (-1), 1) := by decide +kernel
theorem dX9_verdict_64 : decode cX9_verdict 64 = .ok (.if_icmp .eq 38, 3) := by decide +kernel
theorem dX9_verdict_67 : decode cX9_verdict 67 = .ok (.aload_n 0, 1) := by decide +kernel
theorem dX9_verdict_68 : decode cX9_verdict 68 = .ok (.aload_n 1, 1) := by decide +kernel
theorem dX9_verdict_69 : decode cX9_verdict 69 = .ok (.aload_n 2, 1) := by decide +kernel
theorem dX9_verdict_70 : decode cX9_verdict 70 = .ok (.aload_n 3, 1) := by decide +kernel
theorem dX9_verdict_71 : decode cX9_verdict 71 = .ok (.iload 5, 2) := by decide +kernel
theorem dX9_verdict_73 : decode cX9_verdict 73 = .ok (.iload 4, 2) := by decide +kernel
theorem dX9_verdict_75 : decode cX9_verdict 75 = .ok (.invokevirtual 55, 3) := by decide +kernel
theorem dX9_verdict_78 : decode cX9_verdict 78 = .ok (.istore 7, 2) := by decide +kernel
theorem dX9_verdict_80 : decode cX9_verdict 80 = .ok (.iload 7, 2) := by decide +kernel
theorem dX9_verdict_82 : decode cX9_verdict 82 = .ok (.ifCond .eq 6, 3) := by decide +kernel
theorem dX9_verdict_85 : decode cX9_verdict 85 = .ok (.iload 7, 2) := by decide +kernel
theorem dX9_verdict_87 : decode cX9_verdict 87 = .ok (.ireturn, 1) := by decide +kernel
theorem dX9_verdict_88 : decode cX9_verdict 88 = .ok (.aload_n 2, 1) := by decide +kernel
theorem dX9_verdict_89 : decode cX9_verdict 89 = .ok (.iload 5, 2) := by decide +kernel
theorem dX9_verdict_91 : decode cX9_verdict 91 = .ok (.invokestatic 52, 3) := by decide +kernel
theorem dX9_verdict_94 : decode cX9_verdict 94 = .ok (.istore 5, 2) := by decide +kernel
theorem dX9_verdict_96 : decode cX9_verdict 96 = .ok (.iinc 6 1, 3) := by decide +kernel
theorem dX9_verdict_99 : decode cX9_verdict 99 = .ok (.goto (-45), 3) := by decide +kernel
theorem dX9_verdict_102 : decode cX9_verdict 102 = .ok (.iconst 0, 1) := by decide +kernel
theorem dX9_verdict_103 : decode cX9_verdict 103 = .ok (.ireturn, 1) := by decide +kernel
theorem b_X9_verdict (mm : MM) (Q : Value → MM → Prop) (a1 : Nat) (a2 : Nat) (h1 : AtTown a1) (h2 : AtState a2) (h : ∃ Pm1 : Value → MM → Prop, Runs e_X8_tideAt [.ref a1, .ref a2, .int (12 : Int32)] (wI (wR (wR mm 42 (va_cpy (mm.1 (a2 + 1)) (mm.1 42) 0 0 16)) 43 (va_cpy ((wR mm 42 (va_cpy (mm.1 (a2 + 1)) (mm.1 42) 0 0 16)).1 (a2 + 3)) ((wR mm 42 (va_cpy (mm.1 (a2 + 1)) (mm.1 42) 0 0 16)).1 43) 0 0 8)) 41 6 (0 : Int32)) Pm1 ∧ ∀ (r1 : Int32) (m1 : MM), Pm1 (.int r1) m1 → (∃ Pm2 : Value → MM → Prop, Runs e_X9_nightAfter [.ref a2, .int (-1 : Int32)] m1 Pm2 ∧ ∀ (r2 : Int32) (m2 : MM), Pm2 (.int r2) m2 → (G e_X9_verdict 54 [(0, .ref 41), (1, .ref a1), (2, .ref a2), (3, .ref 38), (4, .int r1), (5, .int r2), (6, .int (0 : Int32))] [] m2 Q))) : Runs e_X9_verdict [.ref 41, .ref a1, .ref a2, .ref 38] mm Q := by
  refine runs_of_G (L := [(0, .ref 41), (1, .ref a1), (2, .ref a2), (3, .ref 38)]) pl_X9 (Nat.le_of_ble_eq_true rfl) rfl ?_
  refine g_aload_n (pc := 0) (x := a2) dX9_verdict_0 rfl ?_
  refine g_getR (pc := 1) (dd := 1) dX9_verdict_1 fo_X9_36 (AtState_0 h2) rfl ?_
  refine g_iconst (pc := 4) (v := (0 : Int32)) dX9_verdict_4 (by decide) ?_
  refine g_aload_n (pc := 5) (x := 41) dX9_verdict_5 rfl ?_
  refine g_getR (pc := 6) (dd := 1) dX9_verdict_6 fo_X9_9 sh_41 rfl ?_
  refine g_iconst (pc := 9) (v := (0 : Int32)) dX9_verdict_9 (by decide) ?_
  refine g_bipush (pc := 10) (v := (16 : Int32)) dX9_verdict_10 (by decide) ?_
  refine g_copyI (pc := 12) dX9_verdict_12 cw_X9_39 (by decide) (Nat.le_of_ble_eq_true rfl) (AtState_1 h2) sh_42 (by decide) (by decide) (by decide) (by decide) (by decide) ?_
  refine g_aload_n (pc := 15) (x := a2) dX9_verdict_15 rfl ?_
  refine g_getR (pc := 16) (dd := 3) dX9_verdict_16 fo_X9_45 (AtState_0 h2) rfl ?_
  refine g_iconst (pc := 19) (v := (0 : Int32)) dX9_verdict_19 (by decide) ?_
  refine g_aload_n (pc := 20) (x := 41) dX9_verdict_20 rfl ?_
  refine g_getR (pc := 21) (dd := 2) dX9_verdict_21 fo_X9_15 sh_41 rfl ?_
  refine g_iconst (pc := 24) (v := (0 : Int32)) dX9_verdict_24 (by decide) ?_
  refine g_bipush (pc := 25) (v := (8 : Int32)) dX9_verdict_25 (by decide) ?_
  refine g_copyI (pc := 27) dX9_verdict_27 cw_X9_39 (by decide) (Nat.le_of_ble_eq_true rfl) (AtState_3 h2) sh_43 (by decide) (by decide) (by decide) (by decide) (by decide) ?_
  refine g_aload_n (pc := 30) (x := 41) dX9_verdict_30 rfl ?_
  refine g_iconst (pc := 31) (v := (0 : Int32)) dX9_verdict_31 (by decide) ?_
  refine g_putI (pc := 32) dX9_verdict_32 fo_X9_33 sh_41 rfl rfl rfl ?_
  refine g_aload_n (pc := 35) (x := a1) dX9_verdict_35 rfl ?_
  refine g_aload_n (pc := 36) (x := a2) dX9_verdict_36 rfl ?_
  refine g_bipush (pc := 37) (v := (12 : Int32)) dX9_verdict_37 (by decide) ?_
  obtain ⟨Pm1, hRm1, h⟩ := h
  refine g_callV (pc := 39) (as := [.ref a2, .int (12 : Int32)]) dX9_verdict_39 cw_X9_46 (by decide) rfl rfl (AtTown_0 h1) (Nat.le_of_ble_eq_true rfl) hRm1 ?_
  intro r_ m1 hz_ hp_
  obtain ⟨r1, rfl⟩ := hz_
  have h := h r1 m1 hp_
  refine g_istore (pc := 42) (L' := [(0, .ref 41), (1, .ref a1), (2, .ref a2), (3, .ref 38), (4, .int r1)]) dX9_verdict_42 (Nat.le_of_ble_eq_true rfl) rfl ?_
  refine g_aload_n (pc := 44) (x := a2) dX9_verdict_44 rfl ?_
  refine g_iconst (pc := 45) (v := (-1 : Int32)) dX9_verdict_45 (by decide) ?_
  obtain ⟨Pm2, hRm2, h⟩ := h
  refine g_callS (pc := 46) (as := [.ref a2, .int (-1 : Int32)]) dX9_verdict_46 cw_X9_52 (by decide) rfl rfl (Nat.le_of_ble_eq_true rfl) hRm2 ?_
  intro r_ m2 hz_ hp_
  obtain ⟨r2, rfl⟩ := hz_
  have h := h r2 m2 hp_
  refine g_istore (pc := 49) (L' := [(0, .ref 41), (1, .ref a1), (2, .ref a2), (3, .ref 38), (4, .int r1), (5, .int r2)]) dX9_verdict_49 (Nat.le_of_ble_eq_true rfl) rfl ?_
  refine g_iconst (pc := 51) (v := (0 : Int32)) dX9_verdict_51 (by decide) ?_
  refine g_istore (pc := 52) (L' := [(0, .ref 41), (1, .ref a1), (2, .ref a2), (3, .ref 38), (4, .int r1), (5, .int r2), (6, .int (0 : Int32))]) dX9_verdict_52 (Nat.le_of_ble_eq_true rfl) rfl ?_
  exact h
theorem b_X9_verdict_54 (mm : MM) (Q : Value → MM → Prop) (l1 : Nat) (l2 : Nat) (l4 : Int32) (l5 : Int32) (l6 : Int32) (k1 : AtTown l1) (k2 : AtState l2) (h : ((40 : Int32) ≤ l6 → (Q (.int (0 : Int32)) mm)) ∧ (¬ (40 : Int32) ≤ l6 → ((l5 = (-1 : Int32) → (Q (.int (0 : Int32)) mm)) ∧ (¬ l5 = (-1 : Int32) → (∃ Pm1 : Value → MM → Prop, Runs e_X9_nightVerdict [.ref 41, .ref l1, .ref l2, .ref 38, .int l5, .int l4] mm Pm1 ∧ ∀ (r1 : Int32) (m1 : MM), Pm1 (.int r1) m1 → ((r1 = 0 → (∃ Pm2 : Value → MM → Prop, Runs e_X9_nightAfter [.ref l2, .int l5] m1 Pm2 ∧ ∀ (r2 : Int32) (m2 : MM), Pm2 (.int r2) m2 → (G e_X9_verdict 54 [(0, .ref 41), (1, .ref l1), (2, .ref l2), (3, .ref 38), (4, .int l4), (5, .int r2), (6, .int (l6 + (1 : Int32)))] [] m2 Q))) ∧ (¬ r1 = 0 → (Q (.int r1) m1)))))))) : G e_X9_verdict 54 [(0, .ref 41), (1, .ref l1), (2, .ref l2), (3, .ref 38), (4, .int l4), (5, .int l5), (6, .int l6)] [] mm Q := by
  refine g_iload (pc := 54) (x := l6) dX9_verdict_54 rfl ?_
  refine g_bipush (pc := 56) (v := (40 : Int32)) dX9_verdict_56 (by decide) ?_
  refine g_icmp_ge (pc := 58) (tgt := 102) dX9_verdict_58 (by decide) (fun c58 => ?_) (fun c58 => ?_)
  · have h := h.1 c58
    refine g_iconst (pc := 102) (v := (0 : Int32)) dX9_verdict_102 (by decide) ?_
    exact g_iret (pc := 103) dX9_verdict_103 rfl rfl rfl h
  · have h := h.2 c58
    refine g_iload (pc := 61) (x := l5) dX9_verdict_61 rfl ?_
    refine g_iconst (pc := 63) (v := (-1 : Int32)) dX9_verdict_63 (by decide) ?_
    refine g_icmp_eq (pc := 64) (tgt := 102) dX9_verdict_64 (by decide) (fun c64 => ?_) (fun c64 => ?_)
    · have h := h.1 c64
      refine g_iconst (pc := 102) (v := (0 : Int32)) dX9_verdict_102 (by decide) ?_
      exact g_iret (pc := 103) dX9_verdict_103 rfl rfl rfl h
    · have h := h.2 c64
      refine g_aload_n (pc := 67) (x := 41) dX9_verdict_67 rfl ?_
      refine g_aload_n (pc := 68) (x := l1) dX9_verdict_68 rfl ?_
      refine g_aload_n (pc := 69) (x := l2) dX9_verdict_69 rfl ?_
      refine g_aload_n (pc := 70) (x := 38) dX9_verdict_70 rfl ?_
      refine g_iload (pc := 71) (x := l5) dX9_verdict_71 rfl ?_
      refine g_iload (pc := 73) (x := l4) dX9_verdict_73 rfl ?_
      obtain ⟨Pm1, hRm1, h⟩ := h
      refine g_callV (pc := 75) (as := [.ref l1, .ref l2, .ref 38, .int l5, .int l4]) dX9_verdict_75 cw_X9_55 (by decide) rfl rfl sh_41 (Nat.le_of_ble_eq_true rfl) hRm1 ?_
      intro r_ m1 hz_ hp_
      obtain ⟨r1, rfl⟩ := hz_
      have h := h r1 m1 hp_
      refine g_istore (pc := 78) (L' := [(0, .ref 41), (1, .ref l1), (2, .ref l2), (3, .ref 38), (4, .int l4), (5, .int l5), (6, .int l6), (7, .int r1)]) dX9_verdict_78 (Nat.le_of_ble_eq_true rfl) rfl ?_
      refine g_iload (pc := 80) (x := r1) dX9_verdict_80 rfl ?_
      refine g_if_eq (pc := 82) (tgt := 88) dX9_verdict_82 (by decide) (fun c82 => ?_) (fun c82 => ?_)
      · have h := h.1 c82
        refine g_aload_n (pc := 88) (x := l2) dX9_verdict_88 rfl ?_
        refine g_iload (pc := 89) (x := l5) dX9_verdict_89 rfl ?_
        obtain ⟨Pm2, hRm2, h⟩ := h
        refine g_callS (pc := 91) (as := [.ref l2, .int l5]) dX9_verdict_91 cw_X9_52 (by decide) rfl rfl (Nat.le_of_ble_eq_true rfl) hRm2 ?_
        intro r_ m2 hz_ hp_
        obtain ⟨r2, rfl⟩ := hz_
        have h := h r2 m2 hp_
        refine g_istore (pc := 94) (L' := [(0, .ref 41), (1, .ref l1), (2, .ref l2), (3, .ref 38), (4, .int l4), (5, .int r2), (6, .int l6), (7, .int r1)]) dX9_verdict_94 (Nat.le_of_ble_eq_true rfl) rfl ?_
        refine g_iinc (pc := 96) (x := l6) (v := (l6 + (1 : Int32))) (L' := [(0, .ref 41), (1, .ref l1), (2, .ref l2), (3, .ref 38), (4, .int l4), (5, .int r2), (6, .int (l6 + (1 : Int32))), (7, .int r1)]) dX9_verdict_96 rfl rfl (Nat.le_of_ble_eq_true rfl) rfl ?_
        refine g_goto (pc := 99) (tgt := 54) dX9_verdict_99 (by decide) ?_
        refine g_sub (L' := [(0, .ref 41), (1, .ref l1), (2, .ref l2), (3, .ref 38), (4, .int l4), (5, .int r2), (6, .int (l6 + (1 : Int32)))]) [0, 1, 2, 3, 4, 5, 6] rfl ?_
        exact h
      · have h := h.2 c82
        refine g_iload (pc := 85) (x := r1) dX9_verdict_85 rfl ?_
        exact g_iret (pc := 87) dX9_verdict_87 rfl rfl rfl h
theorem dX9_nightAfter_0 : decode cX9_nightAfter 0 = .ok (.iconst (-1), 1) := by decide +kernel
theorem dX9_nightAfter_1 : decode cX9_nightAfter 1 = .ok (.istore_n 2, 1) := by decide +kernel
theorem dX9_nightAfter_2 : decode cX9_nightAfter 2 = .ok (.iconst 0, 1) := by decide +kernel
theorem dX9_nightAfter_3 : decode cX9_nightAfter 3 = .ok (.istore_n 3, 1) := by decide +kernel
theorem dX9_nightAfter_4 : decode cX9_nightAfter 4 = .ok (.iload_n 3, 1) := by decide +kernel
theorem dX9_nightAfter_5 : decode cX9_nightAfter 5 = .ok (.aload_n 0, 1) := by decide +kernel
theorem dX9_nightAfter_6 : decode cX9_nightAfter 6 = .ok (.getfield 59, 3) := by decide +kernel
theorem dX9_nightAfter_9 : decode cX9_nightAfter 9 = .ok (.if_icmp .ge 37, 3) := by decide +kernel
theorem dX9_nightAfter_12 : decode cX9_nightAfter 12 = .ok (.aload_n 0, 1) := by decide +kernel
theorem dX9_nightAfter_13 : decode cX9_nightAfter 13 = .ok (.getfield 62, 3) := by decide +kernel
theorem dX9_nightAfter_16 : decode cX9_nightAfter 16 = .ok (.iload_n 3, 1) := by decide +kernel
theorem dX9_nightAfter_17 : decode cX9_nightAfter 17 = .ok (.iaload, 1) := by decide +kernel
theorem dX9_nightAfter_18 : decode cX9_nightAfter 18 = .ok (.istore 4, 2) := by decide +kernel
theorem dX9_nightAfter_20 : decode cX9_nightAfter 20 = .ok (.iload 4, 2) := by decide +kernel
theorem dX9_nightAfter_22 : decode cX9_nightAfter 22 = .ok (.iload_n 1, 1) := by decide +kernel
theorem dX9_nightAfter_23 : decode cX9_nightAfter 23 = .ok (.if_icmp .le 17, 3) := by decide +kernel
theorem dX9_nightAfter_26 : decode cX9_nightAfter 26 = .ok (.iload_n 2, 1) := by decide +kernel
theorem dX9_nightAfter_27 : decode cX9_nightAfter 27 = .ok (.iconst (-1), 1) := by decide +kernel
theorem dX9_nightAfter_28 : decode cX9_nightAfter 28 = .ok (.if_icmp .eq 9, 3) := by decide +kernel
theorem dX9_nightAfter_31 : decode cX9_nightAfter 31 = .ok (.iload 4, 2) := by decide +kernel
theorem dX9_nightAfter_33 : decode cX9_nightAfter 33 = .ok (.iload_n 2, 1) := by decide +kernel
theorem dX9_nightAfter_34 : decode cX9_nightAfter 34 = .ok (.if_icmp .ge 6, 3) := by decide +kernel
theorem dX9_nightAfter_37 : decode cX9_nightAfter 37 = .ok (.iload 4, 2) := by decide +kernel
theorem dX9_nightAfter_39 : decode cX9_nightAfter 39 = .ok (.istore_n 2, 1) := by decide +kernel
theorem dX9_nightAfter_40 : decode cX9_nightAfter 40 = .ok (.iinc 3 1, 3) := by decide +kernel
theorem dX9_nightAfter_43 : decode cX9_nightAfter 43 = .ok (.goto (-39), 3) := by decide +kernel
theorem dX9_nightAfter_46 : decode cX9_nightAfter 46 = .ok (.iload_n 2, 1) := by decide +kernel
theorem dX9_nightAfter_47 : decode cX9_nightAfter 47 = .ok (.ireturn, 1) := by decide +kernel
theorem b_X9_nightAfter (mm : MM) (Q : Value → MM → Prop) (a0 : Nat) (a1 : Int32) (h0 : AtState a0) (h : G e_X9_nightAfter 4 [(0, .ref a0), (1, .int a1), (2, .int (-1 : Int32)), (3, .int (0 : Int32))] [] mm Q) : Runs e_X9_nightAfter [.ref a0, .int a1] mm Q := by
  refine runs_of_G (L := [(0, .ref a0), (1, .int a1)]) pl_X9 (Nat.le_of_ble_eq_true rfl) rfl ?_
  refine g_iconst (pc := 0) (v := (-1 : Int32)) dX9_nightAfter_0 (by decide) ?_
  refine g_istore_n (pc := 1) (L' := [(0, .ref a0), (1, .int a1), (2, .int (-1 : Int32))]) dX9_nightAfter_1 (Nat.le_of_ble_eq_true rfl) rfl ?_
  refine g_iconst (pc := 2) (v := (0 : Int32)) dX9_nightAfter_2 (by decide) ?_
  refine g_istore_n (pc := 3) (L' := [(0, .ref a0), (1, .int a1), (2, .int (-1 : Int32)), (3, .int (0 : Int32))]) dX9_nightAfter_3 (Nat.le_of_ble_eq_true rfl) rfl ?_
  exact h
theorem b_X9_nightAfter_4 (mm : MM) (Q : Value → MM → Prop) (l0 : Nat) (l1 : Int32) (l2 : Int32) (l3 : Int32) (k0 : AtState l0) (h : ((mm.1 l0 7) ≤ l3 → (Q (.int l2) mm)) ∧ (¬ (mm.1 l0 7) ≤ l3 → (vp_in l3 40 ∧ (((mm.1 (l0 + 4) l3.toNatClampNeg) ≤ l1 → (G e_X9_nightAfter 4 [(0, .ref l0), (1, .int l1), (2, .int l2), (3, .int (l3 + (1 : Int32)))] [] mm Q)) ∧ (¬ (mm.1 (l0 + 4) l3.toNatClampNeg) ≤ l1 → ((l2 = (-1 : Int32) → (G e_X9_nightAfter 4 [(0, .ref l0), (1, .int l1), (2, .int (mm.1 (l0 + 4) l3.toNatClampNeg)), (3, .int (l3 + (1 : Int32)))] [] mm Q)) ∧ (¬ l2 = (-1 : Int32) → ((l2 ≤ (mm.1 (l0 + 4) l3.toNatClampNeg) → (G e_X9_nightAfter 4 [(0, .ref l0), (1, .int l1), (2, .int l2), (3, .int (l3 + (1 : Int32)))] [] mm Q)) ∧ (¬ l2 ≤ (mm.1 (l0 + 4) l3.toNatClampNeg) → (G e_X9_nightAfter 4 [(0, .ref l0), (1, .int l1), (2, .int (mm.1 (l0 + 4) l3.toNatClampNeg)), (3, .int (l3 + (1 : Int32)))] [] mm Q)))))))))) : G e_X9_nightAfter 4 [(0, .ref l0), (1, .int l1), (2, .int l2), (3, .int l3)] [] mm Q := by
  refine g_iload_n (pc := 4) (x := l3) dX9_nightAfter_4 rfl ?_
  refine g_aload_n (pc := 5) (x := l0) dX9_nightAfter_5 rfl ?_
  refine g_getI (pc := 6) dX9_nightAfter_6 fo_X9_59 (AtState_0 k0) rfl ?_
  refine g_icmp_ge (pc := 9) (tgt := 46) dX9_nightAfter_9 (by decide) (fun c9 => ?_) (fun c9 => ?_)
  · have h := h.1 c9
    refine g_iload_n (pc := 46) (x := l2) dX9_nightAfter_46 rfl ?_
    exact g_iret (pc := 47) dX9_nightAfter_47 rfl rfl rfl h
  · have h := h.2 c9
    refine g_aload_n (pc := 12) (x := l0) dX9_nightAfter_12 rfl ?_
    refine g_getR (pc := 13) (dd := 4) dX9_nightAfter_13 fo_X9_62 (AtState_0 k0) rfl ?_
    refine g_iload_n (pc := 16) (x := l3) dX9_nightAfter_16 rfl ?_
    refine g_iaload (pc := 17) dX9_nightAfter_17 (AtState_4 k0) h.1 ?_
    have h := h.2
    refine g_istore (pc := 18) (L' := [(0, .ref l0), (1, .int l1), (2, .int l2), (3, .int l3), (4, .int (mm.1 (l0 + 4) l3.toNatClampNeg))]) dX9_nightAfter_18 (Nat.le_of_ble_eq_true rfl) rfl ?_
    refine g_iload (pc := 20) (x := (mm.1 (l0 + 4) l3.toNatClampNeg)) dX9_nightAfter_20 rfl ?_
    refine g_iload_n (pc := 22) (x := l1) dX9_nightAfter_22 rfl ?_
    refine g_icmp_le (pc := 23) (tgt := 40) dX9_nightAfter_23 (by decide) (fun c23 => ?_) (fun c23 => ?_)
    · have h := h.1 c23
      refine g_iinc (pc := 40) (x := l3) (v := (l3 + (1 : Int32))) (L' := [(0, .ref l0), (1, .int l1), (2, .int l2), (3, .int (l3 + (1 : Int32))), (4, .int (mm.1 (l0 + 4) l3.toNatClampNeg))]) dX9_nightAfter_40 rfl rfl (Nat.le_of_ble_eq_true rfl) rfl ?_
      refine g_goto (pc := 43) (tgt := 4) dX9_nightAfter_43 (by decide) ?_
      refine g_sub (L' := [(0, .ref l0), (1, .int l1), (2, .int l2), (3, .int (l3 + (1 : Int32)))]) [0, 1, 2, 3] rfl ?_
      exact h
    · have h := h.2 c23
      refine g_iload_n (pc := 26) (x := l2) dX9_nightAfter_26 rfl ?_
      refine g_iconst (pc := 27) (v := (-1 : Int32)) dX9_nightAfter_27 (by decide) ?_
      refine g_icmp_eq (pc := 28) (tgt := 37) dX9_nightAfter_28 (by decide) (fun c28 => ?_) (fun c28 => ?_)
      · have h := h.1 c28
        refine g_iload (pc := 37) (x := (mm.1 (l0 + 4) l3.toNatClampNeg)) dX9_nightAfter_37 rfl ?_
        refine g_istore_n (pc := 39) (L' := [(0, .ref l0), (1, .int l1), (2, .int (mm.1 (l0 + 4) l3.toNatClampNeg)), (3, .int l3), (4, .int (mm.1 (l0 + 4) l3.toNatClampNeg))]) dX9_nightAfter_39 (Nat.le_of_ble_eq_true rfl) rfl ?_
        refine g_iinc (pc := 40) (x := l3) (v := (l3 + (1 : Int32))) (L' := [(0, .ref l0), (1, .int l1), (2, .int (mm.1 (l0 + 4) l3.toNatClampNeg)), (3, .int (l3 + (1 : Int32))), (4, .int (mm.1 (l0 + 4) l3.toNatClampNeg))]) dX9_nightAfter_40 rfl rfl (Nat.le_of_ble_eq_true rfl) rfl ?_
        refine g_goto (pc := 43) (tgt := 4) dX9_nightAfter_43 (by decide) ?_
        refine g_sub (L' := [(0, .ref l0), (1, .int l1), (2, .int (mm.1 (l0 + 4) l3.toNatClampNeg)), (3, .int (l3 + (1 : Int32)))]) [0, 1, 2, 3] rfl ?_
        exact h
      · have h := h.2 c28
        refine g_iload (pc := 31) (x := (mm.1 (l0 + 4) l3.toNatClampNeg)) dX9_nightAfter_31 rfl ?_
        refine g_iload_n (pc := 33) (x := l2) dX9_nightAfter_33 rfl ?_
        refine g_icmp_ge (pc := 34) (tgt := 40) dX9_nightAfter_34 (by decide) (fun c34 => ?_) (fun c34 => ?_)
        · have h := h.1 c34
          refine g_iinc (pc := 40) (x := l3) (v := (l3 + (1 : Int32))) (L' := [(0, .ref l0), (1, .int l1), (2, .int l2), (3, .int (l3 + (1 : Int32))), (4, .int (mm.1 (l0 + 4) l3.toNatClampNeg))]) dX9_nightAfter_40 rfl rfl (Nat.le_of_ble_eq_true rfl) rfl ?_
          refine g_goto (pc := 43) (tgt := 4) dX9_nightAfter_43 (by decide) ?_
          refine g_sub (L' := [(0, .ref l0), (1, .int l1), (2, .int l2), (3, .int (l3 + (1 : Int32)))]) [0, 1, 2, 3] rfl ?_
          exact h
        · have h := h.2 c34
          refine g_iload (pc := 37) (x := (mm.1 (l0 + 4) l3.toNatClampNeg)) dX9_nightAfter_37 rfl ?_
          refine g_istore_n (pc := 39) (L' := [(0, .ref l0), (1, .int l1), (2, .int (mm.1 (l0 + 4) l3.toNatClampNeg)), (3, .int l3), (4, .int (mm.1 (l0 + 4) l3.toNatClampNeg))]) dX9_nightAfter_39 (Nat.le_of_ble_eq_true rfl) rfl ?_
          refine g_iinc (pc := 40) (x := l3) (v := (l3 + (1 : Int32))) (L' := [(0, .ref l0), (1, .int l1), (2, .int (mm.1 (l0 + 4) l3.toNatClampNeg)), (3, .int (l3 + (1 : Int32))), (4, .int (mm.1 (l0 + 4) l3.toNatClampNeg))]) dX9_nightAfter_40 rfl rfl (Nat.le_of_ble_eq_true rfl) rfl ?_
          refine g_goto (pc := 43) (tgt := 4) dX9_nightAfter_43 (by decide) ?_
          refine g_sub (L' := [(0, .ref l0), (1, .int l1), (2, .int (mm.1 (l0 + 4) l3.toNatClampNeg)), (3, .int (l3 + (1 : Int32)))]) [0, 1, 2, 3] rfl ?_
          exact h
theorem dX9_nightVerdict_0 : decode cX9_nightVerdict 0 = .ok (.aload_n 1, 1) := by decide +kernel
theorem dX9_nightVerdict_1 : decode cX9_nightVerdict 1 = .ok (.aload_n 0, 1) := by decide +kernel
theorem dX9_nightVerdict_2 : decode cX9_nightVerdict 2 = .ok (.getfield 9, 3) := by decide +kernel
theorem dX9_nightVerdict_5 : decode cX9_nightVerdict 5 = .ok (.iload 5, 2) := by decide +kernel
theorem dX9_nightVerdict_7 : decode cX9_nightVerdict 7 = .ok (.invokevirtual 65, 3) := by decide +kernel
theorem dX9_nightVerdict_10 : decode cX9_nightVerdict 10 = .ok (.istore 6, 2) := by decide +kernel
theorem dX9_nightVerdict_12 : decode cX9_nightVerdict 12 = .ok (.iconst 0, 1) := by decide +kernel
theorem dX9_nightVerdict_13 : decode cX9_nightVerdict 13 = .ok (.istore 7, 2) := by decide +kernel
theorem dX9_nightVerdict_15 : decode cX9_nightVerdict 15 = .ok (.iconst 0, 1) := by decide +kernel
theorem dX9_nightVerdict_16 : decode cX9_nightVerdict 16 = .ok (.istore 8, 2) := by decide +kernel
theorem dX9_nightVerdict_18 : decode cX9_nightVerdict 18 = .ok (.iconst 0, 1) := by decide +kernel
theorem dX9_nightVerdict_19 : decode cX9_nightVerdict 19 = .ok (.istore 9, 2) := by decide +kernel
theorem dX9_nightVerdict_21 : decode cX9_nightVerdict 21 = .ok (.iload 9, 2) := by decide +kernel
theorem dX9_nightVerdict_23 : decode cX9_nightVerdict 23 = .ok (.aload_n 2, 1) := by decide +kernel
theorem dX9_nightVerdict_24 : decode cX9_nightVerdict 24 = .ok (.getfield 59, 3) := by decide +kernel
theorem dX9_nightVerdict_27 : decode cX9_nightVerdict 27 = .ok (.if_icmp .ge 77, 3) := by decide +kernel
theorem dX9_nightVerdict_30 : decode cX9_nightVerdict 30 = .ok (.aload_n 2, 1) := by decide +kernel
theorem dX9_nightVerdict_31 : decode cX9_nightVerdict 31 = .ok (.getfield 62, 3) := by decide +kernel
theorem dX9_nightVerdict_34 : decode cX9_nightVerdict 34 = .ok (.iload 9, 2) := by decide +kernel
theorem dX9_nightVerdict_36 : decode cX9_nightVerdict 36 = .ok (.iaload, 1) := by decide +kernel
theorem dX9_nightVerdict_37 : decode cX9_nightVerdict 37 = .ok (.iload 4, 2) := by decide +kernel
theorem dX9_nightVerdict_39 : decode cX9_nightVerdict 39 = .ok (.if_icmp .ne 59, 3) := by decide +kernel
theorem dX9_nightVerdict_42 : decode cX9_nightVerdict 42 = .ok (.iload 7, 2) := by decide +kernel
theorem dX9_nightVerdict_44 : decode cX9_nightVerdict 44 = .ok (.aload_n 1, 1) := by decide +kernel
theorem dX9_nightVerdict_45 : decode cX9_nightVerdict 45 = .ok (.getfield 69, 3) := by decide +kernel
theorem dX9_nightVerdict_48 : decode cX9_nightVerdict 48 = .ok (.if_icmp .lt 7, 3) := by decide +kernel
theorem dX9_nightVerdict_51 : decode cX9_nightVerdict 51 = .ok (.iconst 1, 1) := by decide +kernel
theorem dX9_nightVerdict_52 : decode cX9_nightVerdict 52 = .ok (.goto 23, 3) := by decide +kernel
theorem dX9_nightVerdict_55 : decode cX9_nightVerdict 55 = .ok (.aload_n 0, 1) := by decide +kernel
theorem dX9_nightVerdict_56 : decode cX9_nightVerdict 56 = .ok (.aload_n 1, 1) := by decide +kernel
theorem dX9_nightVerdict_57 : decode cX9_nightVerdict 57 = .ok (.aload_n 3, 1) := by decide +kernel
theorem dX9_nightVerdict_58 : decode cX9_nightVerdict 58 = .ok (.aload_n 2, 1) := by decide +kernel
theorem dX9_nightVerdict_59 : decode cX9_nightVerdict 59 = .ok (.getfield 72, 3) := by decide +kernel
theorem dX9_nightVerdict_62 : decode cX9_nightVerdict 62 = .ok (.iload 9, 2) := by decide +kernel
theorem dX9_nightVerdict_64 : decode cX9_nightVerdict 64 = .ok (.iaload, 1) := by decide +kernel
theorem dX9_nightVerdict_65 : decode cX9_nightVerdict 65 = .ok (.aload_n 2, 1) := by decide +kernel
theorem dX9_nightVerdict_66 : decode cX9_nightVerdict 66 = .ok (.getfield 75, 3) := by decide +kernel
theorem dX9_nightVerdict_69 : decode cX9_nightVerdict 69 = .ok (.iload 9, 2) := by decide +kernel
theorem dX9_nightVerdict_71 : decode cX9_nightVerdict 71 = .ok (.iaload, 1) := by decide +kernel
theorem dX9_nightVerdict_72 : decode cX9_nightVerdict 72 = .ok (.invokevirtual 78, 3) := by decide +kernel
theorem dX9_nightVerdict_75 : decode cX9_nightVerdict 75 = .ok (.istore 10, 2) := by decide +kernel
theorem dX9_nightVerdict_77 : decode cX9_nightVerdict 77 = .ok (.iload 10, 2) := by decide +kernel
theorem dX9_nightVerdict_79 : decode cX9_nightVerdict 79 = .ok (.ifCond .eq 12, 3) := by decide +kernel
theorem dX9_nightVerdict_82 : decode cX9_nightVerdict 82 = .ok (.bipush 10, 2) := by decide +kernel
theorem dX9_nightVerdict_84 : decode cX9_nightVerdict 84 = .ok (.iload 9, 2) := by decide +kernel
theorem dX9_nightVerdict_86 : decode cX9_nightVerdict 86 = .ok (.imul, 1) := by decide +kernel
theorem dX9_nightVerdict_87 : decode cX9_nightVerdict 87 = .ok (.iload 10, 2) := by decide +kernel
theorem dX9_nightVerdict_89 : decode cX9_nightVerdict 89 = .ok (.iadd, 1) := by decide +kernel
theorem dX9_nightVerdict_90 : decode cX9_nightVerdict 90 = .ok (.ireturn, 1) := by decide +kernel
theorem dX9_nightVerdict_91 : decode cX9_nightVerdict 91 = .ok (.iinc 7 1, 3) := by decide +kernel
theorem dX9_nightVerdict_94 : decode cX9_nightVerdict 94 = .ok (.iload 9, 2) := by decide +kernel
theorem dX9_nightVerdict_96 : decode cX9_nightVerdict 96 = .ok (.istore 8, 2) := by decide +kernel
theorem dX9_nightVerdict_98 : decode cX9_nightVerdict 98 = .ok (.iinc 9 1, 3) := by decide +kernel
theorem dX9_nightVerdict_101 : decode cX9_nightVerdict 101 = .ok (.goto (-80), 3) := by decide +kernel
theorem dX9_nightVerdict_104 : decode cX9_nightVerdict 104 = .ok (.iload 6, 2) := by decide +kernel
theorem dX9_nightVerdict_106 : decode cX9_nightVerdict 106 = .ok (.aload_n 1, 1) := by decide +kernel
theorem dX9_nightVerdict_107 : decode cX9_nightVerdict 107 = .ok (.aload_n 0, 1) := by decide +kernel
theorem dX9_nightVerdict_108 : decode cX9_nightVerdict 108 = .ok (.getfield 9, 3) := by decide +kernel
theorem dX9_nightVerdict_111 : decode cX9_nightVerdict 111 = .ok (.iload 5, 2) := by decide +kernel
theorem dX9_nightVerdict_113 : decode cX9_nightVerdict 113 = .ok (.invokevirtual 65, 3) := by decide +kernel
theorem dX9_nightVerdict_116 : decode cX9_nightVerdict 116 = .ok (.iconst (-1), 1) := by decide +kernel
theorem dX9_nightVerdict_117 : decode cX9_nightVerdict 117 = .ok (.ixor, 1) := by decide +kernel
theorem dX9_nightVerdict_118 : decode cX9_nightVerdict 118 = .ok (.iand, 1) := by decide +kernel
theorem dX9_nightVerdict_119 : decode cX9_nightVerdict 119 = .ok (.ifCond .eq 7, 3) := by decide +kernel
theorem dX9_nightVerdict_122 : decode cX9_nightVerdict 122 = .ok (.iconst 1, 1) := by decide +kernel
theorem dX9_nightVerdict_123 : decode cX9_nightVerdict 123 = .ok (.goto 4, 3) := by decide +kernel
theorem dX9_nightVerdict_126 : decode cX9_nightVerdict 126 = .ok (.iconst 0, 1) := by decide +kernel
theorem dX9_nightVerdict_127 : decode cX9_nightVerdict 127 = .ok (.istore 9, 2) := by decide +kernel
theorem dX9_nightVerdict_129 : decode cX9_nightVerdict 129 = .ok (.iload 9, 2) := by decide +kernel
theorem dX9_nightVerdict_131 : decode cX9_nightVerdict 131 = .ok (.ifCond .eq 13, 3) := by decide +kernel
theorem dX9_nightVerdict_134 : decode cX9_nightVerdict 134 = .ok (.bipush 10, 2) := by decide +kernel
theorem dX9_nightVerdict_136 : decode cX9_nightVerdict 136 = .ok (.iload 8, 2) := by decide +kernel
theorem dX9_nightVerdict_138 : decode cX9_nightVerdict 138 = .ok (.imul, 1) := by decide +kernel
theorem dX9_nightVerdict_139 : decode cX9_nightVerdict 139 = .ok (.iconst 5, 1) := by decide +kernel
theorem dX9_nightVerdict_140 : decode cX9_nightVerdict 140 = .ok (.iadd, 1) := by decide +kernel
theorem dX9_nightVerdict_141 : decode cX9_nightVerdict 141 = .ok (.goto 4, 3) := by decide +kernel
theorem dX9_nightVerdict_144 : decode cX9_nightVerdict 144 = .ok (.iconst 0, 1) := by decide +kernel
theorem dX9_nightVerdict_145 : decode cX9_nightVerdict 145 = .ok (.ireturn, 1) := by decide +kernel
theorem b_X9_nightVerdict (mm : MM) (Q : Value → MM → Prop) (a1 : Nat) (a2 : Nat) (a4 : Int32) (a5 : Int32) (h1 : AtTown a1) (h2 : AtState a2) (h : ∃ Pm1 : Value → MM → Prop, Runs e_X8_reachedBits [.ref a1, .ref 42, .int a5] mm Pm1 ∧ ∀ (r1 : Int32) (m1 : MM), Pm1 (.int r1) m1 → (G e_X9_nightVerdict 21 [(0, .ref 41), (1, .ref a1), (2, .ref a2), (3, .ref 38), (4, .int a4), (5, .int a5), (6, .int r1), (7, .int (0 : Int32)), (8, .int (0 : Int32)), (9, .int (0 : Int32))] [] m1 Q)) : Runs e_X9_nightVerdict [.ref 41, .ref a1, .ref a2, .ref 38, .int a4, .int a5] mm Q := by
  refine runs_of_G (L := [(0, .ref 41), (1, .ref a1), (2, .ref a2), (3, .ref 38), (4, .int a4), (5, .int a5)]) pl_X9 (Nat.le_of_ble_eq_true rfl) rfl ?_
  refine g_aload_n (pc := 0) (x := a1) dX9_nightVerdict_0 rfl ?_
  refine g_aload_n (pc := 1) (x := 41) dX9_nightVerdict_1 rfl ?_
  refine g_getR (pc := 2) (dd := 1) dX9_nightVerdict_2 fo_X9_9 sh_41 rfl ?_
  refine g_iload (pc := 5) (x := a5) dX9_nightVerdict_5 rfl ?_
  obtain ⟨Pm1, hRm1, h⟩ := h
  refine g_callV (pc := 7) (as := [.ref 42, .int a5]) dX9_nightVerdict_7 cw_X9_65 (by decide) rfl rfl (AtTown_0 h1) (Nat.le_of_ble_eq_true rfl) hRm1 ?_
  intro r_ m1 hz_ hp_
  obtain ⟨r1, rfl⟩ := hz_
  have h := h r1 m1 hp_
  refine g_istore (pc := 10) (L' := [(0, .ref 41), (1, .ref a1), (2, .ref a2), (3, .ref 38), (4, .int a4), (5, .int a5), (6, .int r1)]) dX9_nightVerdict_10 (Nat.le_of_ble_eq_true rfl) rfl ?_
  refine g_iconst (pc := 12) (v := (0 : Int32)) dX9_nightVerdict_12 (by decide) ?_
  refine g_istore (pc := 13) (L' := [(0, .ref 41), (1, .ref a1), (2, .ref a2), (3, .ref 38), (4, .int a4), (5, .int a5), (6, .int r1), (7, .int (0 : Int32))]) dX9_nightVerdict_13 (Nat.le_of_ble_eq_true rfl) rfl ?_
  refine g_iconst (pc := 15) (v := (0 : Int32)) dX9_nightVerdict_15 (by decide) ?_
  refine g_istore (pc := 16) (L' := [(0, .ref 41), (1, .ref a1), (2, .ref a2), (3, .ref 38), (4, .int a4), (5, .int a5), (6, .int r1), (7, .int (0 : Int32)), (8, .int (0 : Int32))]) dX9_nightVerdict_16 (Nat.le_of_ble_eq_true rfl) rfl ?_
  refine g_iconst (pc := 18) (v := (0 : Int32)) dX9_nightVerdict_18 (by decide) ?_
  refine g_istore (pc := 19) (L' := [(0, .ref 41), (1, .ref a1), (2, .ref a2), (3, .ref 38), (4, .int a4), (5, .int a5), (6, .int r1), (7, .int (0 : Int32)), (8, .int (0 : Int32)), (9, .int (0 : Int32))]) dX9_nightVerdict_19 (Nat.le_of_ble_eq_true rfl) rfl ?_
  exact h
theorem b_X9_nightVerdict_21 (mm : MM) (Q : Value → MM → Prop) (l1 : Nat) (l2 : Nat) (l4 : Int32) (l5 : Int32) (l6 : Int32) (l7 : Int32) (l8 : Int32) (l9 : Int32) (k1 : AtTown l1) (k2 : AtState l2) (h : ((mm.1 l2 7) ≤ l9 → (∃ Pm1 : Value → MM → Prop, Runs e_X8_reachedBits [.ref l1, .ref 42, .int l5] mm Pm1 ∧ ∀ (r1 : Int32) (m1 : MM), Pm1 (.int r1) m1 → (((l6 &&& (r1 ^^^ (-1 : Int32))) = 0 → (Q (.int (0 : Int32)) m1)) ∧ (¬ (l6 &&& (r1 ^^^ (-1 : Int32))) = 0 → (Q (.int (((10 : Int32) * l8) + (5 : Int32))) m1))))) ∧ (¬ (mm.1 l2 7) ≤ l9 → (vp_in l9 40 ∧ ((¬ (mm.1 (l2 + 4) l9.toNatClampNeg) = l4 → (G e_X9_nightVerdict 21 [(0, .ref 41), (1, .ref l1), (2, .ref l2), (3, .ref 38), (4, .int l4), (5, .int l5), (6, .int l6), (7, .int l7), (8, .int l8), (9, .int (l9 + (1 : Int32)))] [] mm Q)) ∧ ((mm.1 (l2 + 4) l9.toNatClampNeg) = l4 → ((l7 < (mm.1 l1 14) → (vp_in l9 40 ∧ (vp_in l9 40 ∧ (∃ Pm1 : Value → MM → Prop, Runs e_X9_workReason [.ref 41, .ref l1, .ref 38, .int (mm.1 (l2 + 5) l9.toNatClampNeg), .int (mm.1 (l2 + 6) l9.toNatClampNeg)] mm Pm1 ∧ ∀ (r1 : Int32) (m1 : MM), Pm1 (.int r1) m1 → ((r1 = 0 → (G e_X9_nightVerdict 21 [(0, .ref 41), (1, .ref l1), (2, .ref l2), (3, .ref 38), (4, .int l4), (5, .int l5), (6, .int l6), (7, .int (l7 + (1 : Int32))), (8, .int l9), (9, .int (l9 + (1 : Int32)))] [] m1 Q)) ∧ (¬ r1 = 0 → (Q (.int (((10 : Int32) * l9) + r1)) m1))))))) ∧ (¬ l7 < (mm.1 l1 14) → (Q (.int (((10 : Int32) * l9) + (1 : Int32))) mm)))))))) : G e_X9_nightVerdict 21 [(0, .ref 41), (1, .ref l1), (2, .ref l2), (3, .ref 38), (4, .int l4), (5, .int l5), (6, .int l6), (7, .int l7), (8, .int l8), (9, .int l9)] [] mm Q := by
  refine g_iload (pc := 21) (x := l9) dX9_nightVerdict_21 rfl ?_
  refine g_aload_n (pc := 23) (x := l2) dX9_nightVerdict_23 rfl ?_
  refine g_getI (pc := 24) dX9_nightVerdict_24 fo_X9_59 (AtState_0 k2) rfl ?_
  refine g_icmp_ge (pc := 27) (tgt := 104) dX9_nightVerdict_27 (by decide) (fun c27 => ?_) (fun c27 => ?_)
  · have h := h.1 c27
    refine g_iload (pc := 104) (x := l6) dX9_nightVerdict_104 rfl ?_
    refine g_aload_n (pc := 106) (x := l1) dX9_nightVerdict_106 rfl ?_
    refine g_aload_n (pc := 107) (x := 41) dX9_nightVerdict_107 rfl ?_
    refine g_getR (pc := 108) (dd := 1) dX9_nightVerdict_108 fo_X9_9 sh_41 rfl ?_
    refine g_iload (pc := 111) (x := l5) dX9_nightVerdict_111 rfl ?_
    obtain ⟨Pm1, hRm1, h⟩ := h
    refine g_callV (pc := 113) (as := [.ref 42, .int l5]) dX9_nightVerdict_113 cw_X9_65 (by decide) rfl rfl (AtTown_0 k1) (Nat.le_of_ble_eq_true rfl) hRm1 ?_
    intro r_ m1 hz_ hp_
    obtain ⟨r1, rfl⟩ := hz_
    have h := h r1 m1 hp_
    refine g_iconst (pc := 116) (v := (-1 : Int32)) dX9_nightVerdict_116 (by decide) ?_
    refine g_ixor (pc := 117) dX9_nightVerdict_117 ?_
    refine g_iand (pc := 118) dX9_nightVerdict_118 ?_
    refine g_if_eq (pc := 119) (tgt := 126) dX9_nightVerdict_119 (by decide) (fun c119 => ?_) (fun c119 => ?_)
    · have h := h.1 c119
      refine g_iconst (pc := 126) (v := (0 : Int32)) dX9_nightVerdict_126 (by decide) ?_
      refine g_istore (pc := 127) (L' := [(0, .ref 41), (1, .ref l1), (2, .ref l2), (3, .ref 38), (4, .int l4), (5, .int l5), (6, .int l6), (7, .int l7), (8, .int l8), (9, .int (0 : Int32))]) dX9_nightVerdict_127 (Nat.le_of_ble_eq_true rfl) rfl ?_
      refine g_iload (pc := 129) (x := (0 : Int32)) dX9_nightVerdict_129 rfl ?_
      refine g_if_eq (pc := 131) (tgt := 144) dX9_nightVerdict_131 (by decide) (fun _ => ?_) (fun c131 => absurd c131 (by decide))
      refine g_iconst (pc := 144) (v := (0 : Int32)) dX9_nightVerdict_144 (by decide) ?_
      exact g_iret (pc := 145) dX9_nightVerdict_145 rfl rfl rfl h
    · have h := h.2 c119
      refine g_iconst (pc := 122) (v := (1 : Int32)) dX9_nightVerdict_122 (by decide) ?_
      refine g_goto (pc := 123) (tgt := 127) dX9_nightVerdict_123 (by decide) ?_
      refine g_istore (pc := 127) (L' := [(0, .ref 41), (1, .ref l1), (2, .ref l2), (3, .ref 38), (4, .int l4), (5, .int l5), (6, .int l6), (7, .int l7), (8, .int l8), (9, .int (1 : Int32))]) dX9_nightVerdict_127 (Nat.le_of_ble_eq_true rfl) rfl ?_
      refine g_iload (pc := 129) (x := (1 : Int32)) dX9_nightVerdict_129 rfl ?_
      refine g_if_eq (pc := 131) (tgt := 144) dX9_nightVerdict_131 (by decide) (fun c131 => absurd c131 (by decide)) (fun _ => ?_)
      refine g_bipush (pc := 134) (v := (10 : Int32)) dX9_nightVerdict_134 (by decide) ?_
      refine g_iload (pc := 136) (x := l8) dX9_nightVerdict_136 rfl ?_
      refine g_imul (pc := 138) dX9_nightVerdict_138 ?_
      refine g_iconst (pc := 139) (v := (5 : Int32)) dX9_nightVerdict_139 (by decide) ?_
      refine g_iadd (pc := 140) dX9_nightVerdict_140 ?_
      refine g_goto (pc := 141) (tgt := 145) dX9_nightVerdict_141 (by decide) ?_
      exact g_iret (pc := 145) dX9_nightVerdict_145 rfl rfl rfl h
  · have h := h.2 c27
    refine g_aload_n (pc := 30) (x := l2) dX9_nightVerdict_30 rfl ?_
    refine g_getR (pc := 31) (dd := 4) dX9_nightVerdict_31 fo_X9_62 (AtState_0 k2) rfl ?_
    refine g_iload (pc := 34) (x := l9) dX9_nightVerdict_34 rfl ?_
    refine g_iaload (pc := 36) dX9_nightVerdict_36 (AtState_4 k2) h.1 ?_
    have h := h.2
    refine g_iload (pc := 37) (x := l4) dX9_nightVerdict_37 rfl ?_
    refine g_icmp_ne (pc := 39) (tgt := 98) dX9_nightVerdict_39 (by decide) (fun c39 => ?_) (fun c39 => ?_)
    · have h := h.1 c39
      refine g_iinc (pc := 98) (x := l9) (v := (l9 + (1 : Int32))) (L' := [(0, .ref 41), (1, .ref l1), (2, .ref l2), (3, .ref 38), (4, .int l4), (5, .int l5), (6, .int l6), (7, .int l7), (8, .int l8), (9, .int (l9 + (1 : Int32)))]) dX9_nightVerdict_98 rfl rfl (Nat.le_of_ble_eq_true rfl) rfl ?_
      refine g_goto (pc := 101) (tgt := 21) dX9_nightVerdict_101 (by decide) ?_
      exact h
    · have h := h.2 c39
      refine g_iload (pc := 42) (x := l7) dX9_nightVerdict_42 rfl ?_
      refine g_aload_n (pc := 44) (x := l1) dX9_nightVerdict_44 rfl ?_
      refine g_getI (pc := 45) dX9_nightVerdict_45 fo_X9_69 (AtTown_0 k1) rfl ?_
      refine g_icmp_lt (pc := 48) (tgt := 55) dX9_nightVerdict_48 (by decide) (fun c48 => ?_) (fun c48 => ?_)
      · have h := h.1 c48
        refine g_aload_n (pc := 55) (x := 41) dX9_nightVerdict_55 rfl ?_
        refine g_aload_n (pc := 56) (x := l1) dX9_nightVerdict_56 rfl ?_
        refine g_aload_n (pc := 57) (x := 38) dX9_nightVerdict_57 rfl ?_
        refine g_aload_n (pc := 58) (x := l2) dX9_nightVerdict_58 rfl ?_
        refine g_getR (pc := 59) (dd := 5) dX9_nightVerdict_59 fo_X9_72 (AtState_0 k2) rfl ?_
        refine g_iload (pc := 62) (x := l9) dX9_nightVerdict_62 rfl ?_
        refine g_iaload (pc := 64) dX9_nightVerdict_64 (AtState_5 k2) h.1 ?_
        have h := h.2
        refine g_aload_n (pc := 65) (x := l2) dX9_nightVerdict_65 rfl ?_
        refine g_getR (pc := 66) (dd := 6) dX9_nightVerdict_66 fo_X9_75 (AtState_0 k2) rfl ?_
        refine g_iload (pc := 69) (x := l9) dX9_nightVerdict_69 rfl ?_
        refine g_iaload (pc := 71) dX9_nightVerdict_71 (AtState_6 k2) h.1 ?_
        have h := h.2
        obtain ⟨Pm1, hRm1, h⟩ := h
        refine g_callV (pc := 72) (as := [.ref l1, .ref 38, .int (mm.1 (l2 + 5) l9.toNatClampNeg), .int (mm.1 (l2 + 6) l9.toNatClampNeg)]) dX9_nightVerdict_72 cw_X9_78 (by decide) rfl rfl sh_41 (Nat.le_of_ble_eq_true rfl) hRm1 ?_
        intro r_ m1 hz_ hp_
        obtain ⟨r1, rfl⟩ := hz_
        have h := h r1 m1 hp_
        refine g_istore (pc := 75) (L' := [(0, .ref 41), (1, .ref l1), (2, .ref l2), (3, .ref 38), (4, .int l4), (5, .int l5), (6, .int l6), (7, .int l7), (8, .int l8), (9, .int l9), (10, .int r1)]) dX9_nightVerdict_75 (Nat.le_of_ble_eq_true rfl) rfl ?_
        refine g_iload (pc := 77) (x := r1) dX9_nightVerdict_77 rfl ?_
        refine g_if_eq (pc := 79) (tgt := 91) dX9_nightVerdict_79 (by decide) (fun c79 => ?_) (fun c79 => ?_)
        · have h := h.1 c79
          refine g_iinc (pc := 91) (x := l7) (v := (l7 + (1 : Int32))) (L' := [(0, .ref 41), (1, .ref l1), (2, .ref l2), (3, .ref 38), (4, .int l4), (5, .int l5), (6, .int l6), (7, .int (l7 + (1 : Int32))), (8, .int l8), (9, .int l9), (10, .int r1)]) dX9_nightVerdict_91 rfl rfl (Nat.le_of_ble_eq_true rfl) rfl ?_
          refine g_iload (pc := 94) (x := l9) dX9_nightVerdict_94 rfl ?_
          refine g_istore (pc := 96) (L' := [(0, .ref 41), (1, .ref l1), (2, .ref l2), (3, .ref 38), (4, .int l4), (5, .int l5), (6, .int l6), (7, .int (l7 + (1 : Int32))), (8, .int l9), (9, .int l9), (10, .int r1)]) dX9_nightVerdict_96 (Nat.le_of_ble_eq_true rfl) rfl ?_
          refine g_iinc (pc := 98) (x := l9) (v := (l9 + (1 : Int32))) (L' := [(0, .ref 41), (1, .ref l1), (2, .ref l2), (3, .ref 38), (4, .int l4), (5, .int l5), (6, .int l6), (7, .int (l7 + (1 : Int32))), (8, .int l9), (9, .int (l9 + (1 : Int32))), (10, .int r1)]) dX9_nightVerdict_98 rfl rfl (Nat.le_of_ble_eq_true rfl) rfl ?_
          refine g_goto (pc := 101) (tgt := 21) dX9_nightVerdict_101 (by decide) ?_
          refine g_sub (L' := [(0, .ref 41), (1, .ref l1), (2, .ref l2), (3, .ref 38), (4, .int l4), (5, .int l5), (6, .int l6), (7, .int (l7 + (1 : Int32))), (8, .int l9), (9, .int (l9 + (1 : Int32)))]) [0, 1, 2, 3, 4, 5, 6, 7, 8, 9] rfl ?_
          exact h
        · have h := h.2 c79
          refine g_bipush (pc := 82) (v := (10 : Int32)) dX9_nightVerdict_82 (by decide) ?_
          refine g_iload (pc := 84) (x := l9) dX9_nightVerdict_84 rfl ?_
          refine g_imul (pc := 86) dX9_nightVerdict_86 ?_
          refine g_iload (pc := 87) (x := r1) dX9_nightVerdict_87 rfl ?_
          refine g_iadd (pc := 89) dX9_nightVerdict_89 ?_
          exact g_iret (pc := 90) dX9_nightVerdict_90 rfl rfl rfl h
      · have h := h.2 c48
        refine g_iconst (pc := 51) (v := (1 : Int32)) dX9_nightVerdict_51 (by decide) ?_
        refine g_goto (pc := 52) (tgt := 75) dX9_nightVerdict_52 (by decide) ?_
        refine g_istore (pc := 75) (L' := [(0, .ref 41), (1, .ref l1), (2, .ref l2), (3, .ref 38), (4, .int l4), (5, .int l5), (6, .int l6), (7, .int l7), (8, .int l8), (9, .int l9), (10, .int (1 : Int32))]) dX9_nightVerdict_75 (Nat.le_of_ble_eq_true rfl) rfl ?_
        refine g_iload (pc := 77) (x := (1 : Int32)) dX9_nightVerdict_77 rfl ?_
        refine g_if_eq (pc := 79) (tgt := 91) dX9_nightVerdict_79 (by decide) (fun c79 => absurd c79 (by decide)) (fun _ => ?_)
        refine g_bipush (pc := 82) (v := (10 : Int32)) dX9_nightVerdict_82 (by decide) ?_
        refine g_iload (pc := 84) (x := l9) dX9_nightVerdict_84 rfl ?_
        refine g_imul (pc := 86) dX9_nightVerdict_86 ?_
        refine g_iload (pc := 87) (x := (1 : Int32)) dX9_nightVerdict_87 rfl ?_
        refine g_iadd (pc := 89) dX9_nightVerdict_89 ?_
        exact g_iret (pc := 90) dX9_nightVerdict_90 rfl rfl rfl h
theorem dX9_workReason_0 : decode cX9_workReason 0 = .ok (.iload 4, 2) := by decide +kernel
theorem dX9_workReason_2 : decode cX9_workReason 2 = .ok (.invokestatic 82, 3) := by decide +kernel
theorem dX9_workReason_5 : decode cX9_workReason 5 = .ok (.aload_n 1, 1) := by decide +kernel
theorem dX9_workReason_6 : decode cX9_workReason 6 = .ok (.getfield 88, 3) := by decide +kernel
theorem dX9_workReason_9 : decode cX9_workReason 9 = .ok (.if_icmp .le 5, 3) := by decide +kernel
theorem dX9_workReason_12 : decode cX9_workReason 12 = .ok (.iconst 2, 1) := by decide +kernel
theorem dX9_workReason_13 : decode cX9_workReason 13 = .ok (.ireturn, 1) := by decide +kernel
theorem dX9_workReason_14 : decode cX9_workReason 14 = .ok (.aload_n 0, 1) := by decide +kernel
theorem dX9_workReason_15 : decode cX9_workReason 15 = .ok (.getfield 9, 3) := by decide +kernel
theorem dX9_workReason_18 : decode cX9_workReason 18 = .ok (.iload_n 3, 1) := by decide +kernel
theorem dX9_workReason_19 : decode cX9_workReason 19 = .ok (.iaload, 1) := by decide +kernel
theorem dX9_workReason_20 : decode cX9_workReason 20 = .ok (.iload 4, 2) := by decide +kernel
theorem dX9_workReason_22 : decode cX9_workReason 22 = .ok (.iadd, 1) := by decide +kernel
theorem dX9_workReason_23 : decode cX9_workReason 23 = .ok (.istore 5, 2) := by decide +kernel
theorem dX9_workReason_25 : decode cX9_workReason 25 = .ok (.iload 5, 2) := by decide +kernel
theorem dX9_workReason_27 : decode cX9_workReason 27 = .ok (.iconst 0, 1) := by decide +kernel
theorem dX9_workReason_28 : decode cX9_workReason 28 = .ok (.bipush 99, 2) := by decide +kernel
theorem dX9_workReason_30 : decode cX9_workReason 30 = .ok (.invokestatic 91, 3) := by decide +kernel
theorem dX9_workReason_33 : decode cX9_workReason 33 = .ok (.ifCond .ne 5, 3) := by decide +kernel
theorem dX9_workReason_36 : decode cX9_workReason 36 = .ok (.iconst 3, 1) := by decide +kernel
theorem dX9_workReason_37 : decode cX9_workReason 37 = .ok (.ireturn, 1) := by decide +kernel
theorem dX9_workReason_38 : decode cX9_workReason 38 = .ok (.iload 4, 2) := by decide +kernel
theorem dX9_workReason_40 : decode cX9_workReason 40 = .ok (.ifCond .ge 14, 3) := by decide +kernel
theorem dX9_workReason_43 : decode cX9_workReason 43 = .ok (.aload_n 0, 1) := by decide +kernel
theorem dX9_workReason_44 : decode cX9_workReason 44 = .ok (.aload_n 1, 1) := by decide +kernel
theorem dX9_workReason_45 : decode cX9_workReason 45 = .ok (.iload 4, 2) := by decide +kernel
theorem dX9_workReason_47 : decode cX9_workReason 47 = .ok (.ineg, 1) := by decide +kernel
theorem dX9_workReason_48 : decode cX9_workReason 48 = .ok (.invokevirtual 95, 3) := by decide +kernel
theorem dX9_workReason_51 : decode cX9_workReason 51 = .ok (.goto 28, 3) := by decide +kernel
theorem dX9_workReason_54 : decode cX9_workReason 54 = .ok (.aload_n 2, 1) := by decide +kernel
theorem dX9_workReason_55 : decode cX9_workReason 55 = .ok (.aload_n 1, 1) := by decide +kernel
theorem dX9_workReason_56 : decode cX9_workReason 56 = .ok (.aload_n 0, 1) := by decide +kernel
theorem dX9_workReason_57 : decode cX9_workReason 57 = .ok (.getfield 15, 3) := by decide +kernel
theorem dX9_workReason_60 : decode cX9_workReason 60 = .ok (.iload 4, 2) := by decide +kernel
theorem dX9_workReason_62 : decode cX9_workReason 62 = .ok (.invokevirtual 99, 3) := by decide +kernel
theorem dX9_workReason_65 : decode cX9_workReason 65 = .ok (.ifCond .eq 12, 3) := by decide +kernel
theorem dX9_workReason_68 : decode cX9_workReason 68 = .ok (.aload_n 0, 1) := by decide +kernel
theorem dX9_workReason_69 : decode cX9_workReason 69 = .ok (.aload_n 1, 1) := by decide +kernel
theorem dX9_workReason_70 : decode cX9_workReason 70 = .ok (.aload_n 2, 1) := by decide +kernel
theorem dX9_workReason_71 : decode cX9_workReason 71 = .ok (.invokevirtual 105, 3) := by decide +kernel
theorem dX9_workReason_74 : decode cX9_workReason 74 = .ok (.goto 5, 3) := by decide +kernel
theorem dX9_workReason_77 : decode cX9_workReason 77 = .ok (.iconst 4, 1) := by decide +kernel
theorem dX9_workReason_78 : decode cX9_workReason 78 = .ok (.ireturn, 1) := by decide +kernel
theorem dX9_workReason_79 : decode cX9_workReason 79 = .ok (.aload_n 0, 1) := by decide +kernel
theorem dX9_workReason_80 : decode cX9_workReason 80 = .ok (.getfield 9, 3) := by decide +kernel
theorem dX9_workReason_83 : decode cX9_workReason 83 = .ok (.iload_n 3, 1) := by decide +kernel
theorem dX9_workReason_84 : decode cX9_workReason 84 = .ok (.iload 5, 2) := by decide +kernel
theorem dX9_workReason_86 : decode cX9_workReason 86 = .ok (.iastore, 1) := by decide +kernel
theorem dX9_workReason_87 : decode cX9_workReason 87 = .ok (.iconst 0, 1) := by decide +kernel
theorem dX9_workReason_88 : decode cX9_workReason 88 = .ok (.ireturn, 1) := by decide +kernel
theorem b_X9_workReason (mm : MM) (Q : Value → MM → Prop) (a1 : Nat) (a3 : Int32) (a4 : Int32) (h1 : AtTown a1) (h : ((iabs a4) ≤ (mm.1 a1 15) → (vp_in a3 16 ∧ ((p_X11_within mm ((mm.1 42 a3.toNatClampNeg) + a4) (0 : Int32) (99 : Int32) → ((0 ≤ a4 → (∃ Pm1 : Value → MM → Prop, Runs e_X10_choose [.ref 38, .ref a1, .ref 43, .int a4] mm Pm1 ∧ (∀ r m1, Pm1 r m1 → r = .int 1 ∨ r = .int 0) ∧ (∀ m1, Pm1 (.int 1) m1 → (∃ Pm2 : Value → MM → Prop, Runs e_X9_takePieces [.ref 41, .ref a1, .ref 38] m1 Pm2 ∧ ∀ m2, Pm2 .null m2 → (vp_in a3 16 ∧ (Q (.int (0 : Int32)) (wI m2 42 (a3.toNatClampNeg) ((mm.1 42 a3.toNatClampNeg) + a4)))))) ∧ (∀ m1, Pm1 (.int 0) m1 → (Q (.int (4 : Int32)) m1)))) ∧ (¬ 0 ≤ a4 → (∃ Pm1 : Value → MM → Prop, Runs e_X9_keepPiece [.ref 41, .ref a1, .int (-a4)] mm Pm1 ∧ ∀ m1, Pm1 .null m1 → (vp_in a3 16 ∧ (Q (.int (0 : Int32)) (wI m1 42 (a3.toNatClampNeg) ((mm.1 42 a3.toNatClampNeg) + a4)))))))) ∧ (¬ p_X11_within mm ((mm.1 42 a3.toNatClampNeg) + a4) (0 : Int32) (99 : Int32) → (Q (.int (3 : Int32)) mm))))) ∧ (¬ (iabs a4) ≤ (mm.1 a1 15) → (Q (.int (2 : Int32)) mm))) : Runs e_X9_workReason [.ref 41, .ref a1, .ref 38, .int a3, .int a4] mm Q := by
  refine runs_of_G (L := [(0, .ref 41), (1, .ref a1), (2, .ref 38), (3, .int a3), (4, .int a4)]) pl_X9 (Nat.le_of_ble_eq_true rfl) rfl ?_
  refine g_iload (pc := 0) (x := a4) dX9_workReason_0 rfl ?_
  refine g_mabs (pc := 2) dX9_workReason_2 cw_X9_82 (by decide) (Nat.le_of_ble_eq_true rfl) ?_
  refine g_aload_n (pc := 5) (x := a1) dX9_workReason_5 rfl ?_
  refine g_getI (pc := 6) dX9_workReason_6 fo_X9_88 (AtTown_0 h1) rfl ?_
  refine g_icmp_le (pc := 9) (tgt := 14) dX9_workReason_9 (by decide) (fun c9 => ?_) (fun c9 => ?_)
  · have h := h.1 c9
    refine g_aload_n (pc := 14) (x := 41) dX9_workReason_14 rfl ?_
    refine g_getR (pc := 15) (dd := 1) dX9_workReason_15 fo_X9_9 sh_41 rfl ?_
    refine g_iload_n (pc := 18) (x := a3) dX9_workReason_18 rfl ?_
    refine g_iaload (pc := 19) dX9_workReason_19 sh_42 h.1 ?_
    have h := h.2
    refine g_iload (pc := 20) (x := a4) dX9_workReason_20 rfl ?_
    refine g_iadd (pc := 22) dX9_workReason_22 ?_
    refine g_istore (pc := 23) (L' := [(0, .ref 41), (1, .ref a1), (2, .ref 38), (3, .int a3), (4, .int a4), (5, .int ((mm.1 42 a3.toNatClampNeg) + a4))]) dX9_workReason_23 (Nat.le_of_ble_eq_true rfl) rfl ?_
    refine g_iload (pc := 25) (x := ((mm.1 42 a3.toNatClampNeg) + a4)) dX9_workReason_25 rfl ?_
    refine g_iconst (pc := 27) (v := (0 : Int32)) dX9_workReason_27 (by decide) ?_
    refine g_bipush (pc := 28) (v := (99 : Int32)) dX9_workReason_28 (by decide) ?_
    refine g_callSN (pc := 30) (as := [.int ((mm.1 42 a3.toNatClampNeg) + a4), .int (0 : Int32), .int (99 : Int32)]) dX9_workReason_30 cw_X9_91 (by decide) rfl rfl (Nat.le_of_ble_eq_true rfl) (rv_X11_within mm ((mm.1 42 a3.toNatClampNeg) + a4) (0 : Int32) (99 : Int32)) ?_
    rintro r_ m_ hz_ ⟨⟨p_, rfl⟩ | ⟨p_, rfl⟩, rfl⟩
    · have h := h.1 p_
      refine g_if_ne (pc := 33) (tgt := 38) dX9_workReason_33 (by decide) (fun _ => ?_) (fun c33 => absurd c33 (by decide))
      refine g_iload (pc := 38) (x := a4) dX9_workReason_38 rfl ?_
      refine g_if_ge (pc := 40) (tgt := 54) dX9_workReason_40 (by decide) (fun c40 => ?_) (fun c40 => ?_)
      · have h := h.1 c40
        refine g_aload_n (pc := 54) (x := 38) dX9_workReason_54 rfl ?_
        refine g_aload_n (pc := 55) (x := a1) dX9_workReason_55 rfl ?_
        refine g_aload_n (pc := 56) (x := 41) dX9_workReason_56 rfl ?_
        refine g_getR (pc := 57) (dd := 2) dX9_workReason_57 fo_X9_15 sh_41 rfl ?_
        refine g_iload (pc := 60) (x := a4) dX9_workReason_60 rfl ?_
        obtain ⟨Pm1, hRm1, h⟩ := h
        refine g_callV (pc := 62) (as := [.ref a1, .ref 43, .int a4]) dX9_workReason_62 cw_X9_99 (by decide) rfl rfl sh_38 (Nat.le_of_ble_eq_true rfl) hRm1 ?_
        intro r_ m1 hz_ hp_
        rcases h.1 r_ m1 hp_ with rfl | rfl
        · have h := h.2.1 m1 hp_
          refine g_if_eq (pc := 65) (tgt := 77) dX9_workReason_65 (by decide) (fun c65 => absurd c65 (by decide)) (fun _ => ?_)
          refine g_aload_n (pc := 68) (x := 41) dX9_workReason_68 rfl ?_
          refine g_aload_n (pc := 69) (x := a1) dX9_workReason_69 rfl ?_
          refine g_aload_n (pc := 70) (x := 38) dX9_workReason_70 rfl ?_
          obtain ⟨Pm2, hRm2, h⟩ := h
          refine g_callV (pc := 71) (as := [.ref a1, .ref 38]) dX9_workReason_71 cw_X9_105 (by decide) rfl rfl sh_41 (Nat.le_of_ble_eq_true rfl) hRm2 ?_
          intro r_ m2 hz_ hp_
          obtain rfl := hz_
          have h := h m2 hp_
          refine g_goto (pc := 74) (tgt := 79) dX9_workReason_74 (by decide) ?_
          refine g_aload_n (pc := 79) (x := 41) dX9_workReason_79 rfl ?_
          refine g_getR (pc := 80) (dd := 1) dX9_workReason_80 fo_X9_9 sh_41 rfl ?_
          refine g_iload_n (pc := 83) (x := a3) dX9_workReason_83 rfl ?_
          refine g_iload (pc := 84) (x := ((mm.1 42 a3.toNatClampNeg) + a4)) dX9_workReason_84 rfl ?_
          refine g_iastore (pc := 86) dX9_workReason_86 sh_42 h.1 ?_
          have h := h.2
          refine g_iconst (pc := 87) (v := (0 : Int32)) dX9_workReason_87 (by decide) ?_
          exact g_iret (pc := 88) dX9_workReason_88 rfl rfl rfl h
        · have h := h.2.2 m1 hp_
          refine g_if_eq (pc := 65) (tgt := 77) dX9_workReason_65 (by decide) (fun _ => ?_) (fun c65 => absurd c65 (by decide))
          refine g_iconst (pc := 77) (v := (4 : Int32)) dX9_workReason_77 (by decide) ?_
          exact g_iret (pc := 78) dX9_workReason_78 rfl rfl rfl h
      · have h := h.2 c40
        refine g_aload_n (pc := 43) (x := 41) dX9_workReason_43 rfl ?_
        refine g_aload_n (pc := 44) (x := a1) dX9_workReason_44 rfl ?_
        refine g_iload (pc := 45) (x := a4) dX9_workReason_45 rfl ?_
        refine g_ineg (pc := 47) dX9_workReason_47 ?_
        obtain ⟨Pm1, hRm1, h⟩ := h
        refine g_callV (pc := 48) (as := [.ref a1, .int (-a4)]) dX9_workReason_48 cw_X9_95 (by decide) rfl rfl sh_41 (Nat.le_of_ble_eq_true rfl) hRm1 ?_
        intro r_ m1 hz_ hp_
        obtain rfl := hz_
        have h := h m1 hp_
        refine g_goto (pc := 51) (tgt := 79) dX9_workReason_51 (by decide) ?_
        refine g_aload_n (pc := 79) (x := 41) dX9_workReason_79 rfl ?_
        refine g_getR (pc := 80) (dd := 1) dX9_workReason_80 fo_X9_9 sh_41 rfl ?_
        refine g_iload_n (pc := 83) (x := a3) dX9_workReason_83 rfl ?_
        refine g_iload (pc := 84) (x := ((mm.1 42 a3.toNatClampNeg) + a4)) dX9_workReason_84 rfl ?_
        refine g_iastore (pc := 86) dX9_workReason_86 sh_42 h.1 ?_
        have h := h.2
        refine g_iconst (pc := 87) (v := (0 : Int32)) dX9_workReason_87 (by decide) ?_
        exact g_iret (pc := 88) dX9_workReason_88 rfl rfl rfl h
    · have h := h.2 p_
      refine g_if_ne (pc := 33) (tgt := 38) dX9_workReason_33 (by decide) (fun c33 => absurd c33 (by decide)) (fun _ => ?_)
      refine g_iconst (pc := 36) (v := (3 : Int32)) dX9_workReason_36 (by decide) ?_
      exact g_iret (pc := 37) dX9_workReason_37 rfl rfl rfl h
  · have h := h.2 c9
    refine g_iconst (pc := 12) (v := (2 : Int32)) dX9_workReason_12 (by decide) ?_
    exact g_iret (pc := 13) dX9_workReason_13 rfl rfl rfl h
theorem dX9_keepPiece_0 : decode cX9_keepPiece 0 = .ok (.iconst 0, 1) := by decide +kernel
theorem dX9_keepPiece_1 : decode cX9_keepPiece 1 = .ok (.istore_n 3, 1) := by decide +kernel
theorem dX9_keepPiece_2 : decode cX9_keepPiece 2 = .ok (.iload_n 3, 1) := by decide +kernel
theorem dX9_keepPiece_3 : decode cX9_keepPiece 3 = .ok (.aload_n 1, 1) := by decide +kernel
theorem dX9_keepPiece_4 : decode cX9_keepPiece 4 = .ok (.getfield 109, 3) := by decide +kernel
theorem dX9_keepPiece_7 : decode cX9_keepPiece 7 = .ok (.if_icmp .ge 39, 3) := by decide +kernel
theorem dX9_keepPiece_10 : decode cX9_keepPiece 10 = .ok (.aload_n 1, 1) := by decide +kernel
theorem dX9_keepPiece_11 : decode cX9_keepPiece 11 = .ok (.getfield 112, 3) := by decide +kernel
theorem dX9_keepPiece_14 : decode cX9_keepPiece 14 = .ok (.iload_n 3, 1) := by decide +kernel
theorem dX9_keepPiece_15 : decode cX9_keepPiece 15 = .ok (.iaload, 1) := by decide +kernel
theorem dX9_keepPiece_16 : decode cX9_keepPiece 16 = .ok (.iload_n 2, 1) := by decide +kernel
theorem dX9_keepPiece_17 : decode cX9_keepPiece 17 = .ok (.if_icmp .ne 23, 3) := by decide +kernel
theorem dX9_keepPiece_20 : decode cX9_keepPiece 20 = .ok (.aload_n 0, 1) := by decide +kernel
theorem dX9_keepPiece_21 : decode cX9_keepPiece 21 = .ok (.getfield 15, 3) := by decide +kernel
theorem dX9_keepPiece_24 : decode cX9_keepPiece 24 = .ok (.iload_n 3, 1) := by decide +kernel
theorem dX9_keepPiece_25 : decode cX9_keepPiece 25 = .ok (.bipush 99, 2) := by decide +kernel
theorem dX9_keepPiece_27 : decode cX9_keepPiece 27 = .ok (.aload_n 0, 1) := by decide +kernel
theorem dX9_keepPiece_28 : decode cX9_keepPiece 28 = .ok (.getfield 15, 3) := by decide +kernel
theorem dX9_keepPiece_31 : decode cX9_keepPiece 31 = .ok (.iload_n 3, 1) := by decide +kernel
theorem dX9_keepPiece_32 : decode cX9_keepPiece 32 = .ok (.iaload, 1) := by decide +kernel
theorem dX9_keepPiece_33 : decode cX9_keepPiece 33 = .ok (.iconst 1, 1) := by decide +kernel
theorem dX9_keepPiece_34 : decode cX9_keepPiece 34 = .ok (.iadd, 1) := by decide +kernel
theorem dX9_keepPiece_35 : decode cX9_keepPiece 35 = .ok (.invokestatic 115, 3) := by decide +kernel
theorem dX9_keepPiece_38 : decode cX9_keepPiece 38 = .ok (.iastore, 1) := by decide +kernel
theorem dX9_keepPiece_39 : decode cX9_keepPiece 39 = .ok (.return_, 1) := by decide +kernel
theorem dX9_keepPiece_40 : decode cX9_keepPiece 40 = .ok (.iinc 3 1, 3) := by decide +kernel
theorem dX9_keepPiece_43 : decode cX9_keepPiece 43 = .ok (.goto (-41), 3) := by decide +kernel
theorem dX9_keepPiece_46 : decode cX9_keepPiece 46 = .ok (.return_, 1) := by decide +kernel
theorem b_X9_keepPiece (mm : MM) (Q : Value → MM → Prop) (a1 : Nat) (a2 : Int32) (h1 : AtTown a1) (h : G e_X9_keepPiece 2 [(0, .ref 41), (1, .ref a1), (2, .int a2), (3, .int (0 : Int32))] [] mm Q) : Runs e_X9_keepPiece [.ref 41, .ref a1, .int a2] mm Q := by
  refine runs_of_G (L := [(0, .ref 41), (1, .ref a1), (2, .int a2)]) pl_X9 (Nat.le_of_ble_eq_true rfl) rfl ?_
  refine g_iconst (pc := 0) (v := (0 : Int32)) dX9_keepPiece_0 (by decide) ?_
  refine g_istore_n (pc := 1) (L' := [(0, .ref 41), (1, .ref a1), (2, .int a2), (3, .int (0 : Int32))]) dX9_keepPiece_1 (Nat.le_of_ble_eq_true rfl) rfl ?_
  exact h
theorem b_X9_keepPiece_2 (mm : MM) (Q : Value → MM → Prop) (l1 : Nat) (l2 : Int32) (l3 : Int32) (k1 : AtTown l1) (h : ((mm.1 l1 13) ≤ l3 → (Q .null mm)) ∧ (¬ (mm.1 l1 13) ≤ l3 → (vp_in l3 8 ∧ ((¬ (mm.1 (l1 + 7) l3.toNatClampNeg) = l2 → (G e_X9_keepPiece 2 [(0, .ref 41), (1, .ref l1), (2, .int l2), (3, .int (l3 + (1 : Int32)))] [] mm Q)) ∧ ((mm.1 (l1 + 7) l3.toNatClampNeg) = l2 → (vp_in l3 8 ∧ (vp_in l3 8 ∧ (Q .null (wI mm 43 (l3.toNatClampNeg) (imin (99 : Int32) ((mm.1 43 l3.toNatClampNeg) + (1 : Int32)))))))))))) : G e_X9_keepPiece 2 [(0, .ref 41), (1, .ref l1), (2, .int l2), (3, .int l3)] [] mm Q := by
  refine g_iload_n (pc := 2) (x := l3) dX9_keepPiece_2 rfl ?_
  refine g_aload_n (pc := 3) (x := l1) dX9_keepPiece_3 rfl ?_
  refine g_getI (pc := 4) dX9_keepPiece_4 fo_X9_109 (AtTown_0 k1) rfl ?_
  refine g_icmp_ge (pc := 7) (tgt := 46) dX9_keepPiece_7 (by decide) (fun c7 => ?_) (fun c7 => ?_)
  · have h := h.1 c7
    exact g_vret (pc := 46) dX9_keepPiece_46 rfl rfl h
  · have h := h.2 c7
    refine g_aload_n (pc := 10) (x := l1) dX9_keepPiece_10 rfl ?_
    refine g_getR (pc := 11) (dd := 7) dX9_keepPiece_11 fo_X9_112 (AtTown_0 k1) rfl ?_
    refine g_iload_n (pc := 14) (x := l3) dX9_keepPiece_14 rfl ?_
    refine g_iaload (pc := 15) dX9_keepPiece_15 (AtTown_7 k1) h.1 ?_
    have h := h.2
    refine g_iload_n (pc := 16) (x := l2) dX9_keepPiece_16 rfl ?_
    refine g_icmp_ne (pc := 17) (tgt := 40) dX9_keepPiece_17 (by decide) (fun c17 => ?_) (fun c17 => ?_)
    · have h := h.1 c17
      refine g_iinc (pc := 40) (x := l3) (v := (l3 + (1 : Int32))) (L' := [(0, .ref 41), (1, .ref l1), (2, .int l2), (3, .int (l3 + (1 : Int32)))]) dX9_keepPiece_40 rfl rfl (Nat.le_of_ble_eq_true rfl) rfl ?_
      refine g_goto (pc := 43) (tgt := 2) dX9_keepPiece_43 (by decide) ?_
      exact h
    · have h := h.2 c17
      refine g_aload_n (pc := 20) (x := 41) dX9_keepPiece_20 rfl ?_
      refine g_getR (pc := 21) (dd := 2) dX9_keepPiece_21 fo_X9_15 sh_41 rfl ?_
      refine g_iload_n (pc := 24) (x := l3) dX9_keepPiece_24 rfl ?_
      refine g_bipush (pc := 25) (v := (99 : Int32)) dX9_keepPiece_25 (by decide) ?_
      refine g_aload_n (pc := 27) (x := 41) dX9_keepPiece_27 rfl ?_
      refine g_getR (pc := 28) (dd := 2) dX9_keepPiece_28 fo_X9_15 sh_41 rfl ?_
      refine g_iload_n (pc := 31) (x := l3) dX9_keepPiece_31 rfl ?_
      refine g_iaload (pc := 32) dX9_keepPiece_32 sh_43 h.1 ?_
      have h := h.2
      refine g_iconst (pc := 33) (v := (1 : Int32)) dX9_keepPiece_33 (by decide) ?_
      refine g_iadd (pc := 34) dX9_keepPiece_34 ?_
      refine g_mmin (pc := 35) dX9_keepPiece_35 cw_X9_115 (by decide) (Nat.le_of_ble_eq_true rfl) ?_
      refine g_iastore (pc := 38) dX9_keepPiece_38 sh_43 h.1 ?_
      have h := h.2
      exact g_vret (pc := 39) dX9_keepPiece_39 rfl rfl h

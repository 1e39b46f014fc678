theorem b_X11_straighten_6 (mm : MM) (Q : Value → MM → Prop) (l1 : Int32) (l2 : Int32) (l3 : Int32) (h : AtTown (mm.2.2 0 9) ∧ (((mm.1 (mm.2.2 0 9) 8) ≤ l3 → (Q (.int l2) mm)) ∧ (¬ (mm.1 (mm.2.2 0 9) 8) ≤ l3 → (AtTown (mm.2.2 0 9) ∧ (((mm.1 (mm.2.2 0 9) 14) ≤ l1 → (Q (.int l2) mm)) ∧ (¬ (mm.1 (mm.2.2 0 9) 14) ≤ l1 → (AtTown (mm.2.2 0 9) ∧ (AtState (mm.2.2 0 10) ∧ (∃ Pm5 : Value → MM → Prop, Runs e_X8_dueOf [.ref (mm.2.2 0 9), .ref (mm.2.2 0 10), .int l3] mm Pm5 ∧ ∀ (r5 : Int32) (m5 : MM), Pm5 (.int r5) m5 → (AtState (m5.2.2 0 10) ∧ (vp_in l3 16 ∧ (((r5 - (m5.1 ((m5.2.2 0 10) + 1) l3.toNatClampNeg)) = 0 → (G e_X11_straighten 6 [(0, .ref 0), (1, .int l1), (2, .int l2), (3, .int (l3 + (1 : Int32)))] [] m5 Q)) ∧ (¬ (r5 - (m5.1 ((m5.2.2 0 10) + 1) l3.toNatClampNeg)) = 0 → (AtTown (m5.2.2 0 9) ∧ (AtTown (m5.2.2 0 9) ∧ (AtState (m5.2.2 0 10) ∧ (vp_in l3 16 ∧ (vp_in l3 16 ∧ (G e_X11_straighten 6 [(0, .ref 0), (1, .int (l1 + (1 : Int32))), (2, .int (l2 + (iabs (imax (-(m5.1 (m5.2.2 0 9) 15)) (imin (m5.1 (m5.2.2 0 9) 15) (r5 - (m5.1 ((m5.2.2 0 10) + 1) l3.toNatClampNeg))))))), (3, .int (l3 + (1 : Int32)))] [] (wI m5 ((m5.2.2 0 10) + 1) (l3.toNatClampNeg) ((m5.1 ((m5.2.2 0 10) + 1) l3.toNatClampNeg) + (imax (-(m5.1 (m5.2.2 0 9) 15)) (imin (m5.1 (m5.2.2 0 9) 15) (r5 - (m5.1 ((m5.2.2 0 10) + 1) l3.toNatClampNeg)))))) Q))))))))))))))))))) : G e_X11_straighten 6 [(0, .ref 0), (1, .int l1), (2, .int l2), (3, .int l3)] [] mm Q := by
  refine g_iload_n (pc := 6) (x := l3) dX11_straighten_6 rfl ?_
  refine g_aload_n (pc := 7) (x := 0) dX11_straighten_7 rfl ?_
  refine g_getVt (pc := 8) (t := (mm.2.2 0 9)) dX11_straighten_8 fo_X11_69 sh_0 rfl rfl ?_
  have hr0 := h.1
  have h := h.2
  refine g_getI (pc := 11) dX11_straighten_11 fo_X11_178 (AtTown_0 hr0) rfl ?_
  refine g_icmp_ge (pc := 14) (tgt := 113) dX11_straighten_14 (by decide) (fun c14 => ?_) (fun c14 => ?_)
  · have h := h.1 c14
    refine g_iload_n (pc := 113) (x := l2) dX11_straighten_113 rfl ?_
    exact g_iret (pc := 114) dX11_straighten_114 rfl rfl rfl h
  · have h := h.2 c14
    refine g_iload_n (pc := 17) (x := l1) dX11_straighten_17 rfl ?_
    refine g_aload_n (pc := 18) (x := 0) dX11_straighten_18 rfl ?_
    refine g_getVt (pc := 19) (t := (mm.2.2 0 9)) dX11_straighten_19 fo_X11_69 sh_0 rfl rfl ?_
    have hr1 := h.1
    have h := h.2
    refine g_getI (pc := 22) dX11_straighten_22 fo_X11_233 (AtTown_0 hr1) rfl ?_
    refine g_icmp_ge (pc := 25) (tgt := 113) dX11_straighten_25 (by decide) (fun c25 => ?_) (fun c25 => ?_)
    · have h := h.1 c25
      refine g_iload_n (pc := 113) (x := l2) dX11_straighten_113 rfl ?_
      exact g_iret (pc := 114) dX11_straighten_114 rfl rfl rfl h
    · have h := h.2 c25
      refine g_aload_n (pc := 28) (x := 0) dX11_straighten_28 rfl ?_
      refine g_getVt (pc := 29) (t := (mm.2.2 0 9)) dX11_straighten_29 fo_X11_69 sh_0 rfl rfl ?_
      have hr2 := h.1
      have h := h.2
      refine g_aload_n (pc := 32) (x := 0) dX11_straighten_32 rfl ?_
      refine g_getVt (pc := 33) (t := (mm.2.2 0 10)) dX11_straighten_33 fo_X11_74 sh_0 rfl rfl ?_
      have hr3 := h.1
      have h := h.2
      refine g_iload_n (pc := 36) (x := l3) dX11_straighten_36 rfl ?_
      obtain ⟨Pm5, hRm5, h⟩ := h
      refine g_callV (pc := 37) (as := [.ref (mm.2.2 0 10), .int l3]) dX11_straighten_37 cw_X11_130 (by decide) rfl rfl (AtTown_0 hr2) (Nat.le_of_ble_eq_true rfl) hRm5 ?_
      intro r_ m5 hz_ hp_
      obtain ⟨r5, rfl⟩ := hz_
      have h := h r5 m5 hp_
      refine g_aload_n (pc := 40) (x := 0) dX11_straighten_40 rfl ?_
      refine g_getVt (pc := 41) (t := (m5.2.2 0 10)) dX11_straighten_41 fo_X11_74 sh_0 rfl rfl ?_
      have hr5 := h.1
      have h := h.2
      refine g_getR (pc := 44) (dd := 1) dX11_straighten_44 fo_X11_117 (AtState_0 hr5) rfl ?_
      refine g_iload_n (pc := 47) (x := l3) dX11_straighten_47 rfl ?_
      refine g_iaload (pc := 48) dX11_straighten_48 (AtState_1 hr5) h.1 ?_
      have h := h.2
      refine g_isub (pc := 49) dX11_straighten_49 ?_
      refine g_istore (pc := 50) (L' := [(0, .ref 0), (1, .int l1), (2, .int l2), (3, .int l3), (4, .int (r5 - (m5.1 ((m5.2.2 0 10) + 1) l3.toNatClampNeg)))]) dX11_straighten_50 (Nat.le_of_ble_eq_true rfl) rfl ?_
      refine g_iload (pc := 52) (x := (r5 - (m5.1 ((m5.2.2 0 10) + 1) l3.toNatClampNeg))) dX11_straighten_52 rfl ?_
      refine g_if_eq (pc := 54) (tgt := 107) dX11_straighten_54 (by decide) (fun c54 => ?_) (fun c54 => ?_)
      · have h := h.1 c54
        refine g_iinc (pc := 107) (x := l3) (v := (l3 + (1 : Int32))) (L' := [(0, .ref 0), (1, .int l1), (2, .int l2), (3, .int (l3 + (1 : Int32))), (4, .int (r5 - (m5.1 ((m5.2.2 0 10) + 1) l3.toNatClampNeg)))]) dX11_straighten_107 rfl rfl (Nat.le_of_ble_eq_true rfl) rfl ?_
        refine g_goto (pc := 110) (tgt := 6) dX11_straighten_110 (by decide) ?_
        refine g_sub (L' := [(0, .ref 0), (1, .int l1), (2, .int l2), (3, .int (l3 + (1 : Int32)))]) [0, 1, 2, 3] rfl ?_
        exact h
      · have h := h.2 c54
        refine g_aload_n (pc := 57) (x := 0) dX11_straighten_57 rfl ?_
        refine g_getVt (pc := 58) (t := (m5.2.2 0 9)) dX11_straighten_58 fo_X11_69 sh_0 rfl rfl ?_
        have hr6 := h.1
        have h := h.2
        refine g_getI (pc := 61) dX11_straighten_61 fo_X11_336 (AtTown_0 hr6) rfl ?_
        refine g_ineg (pc := 64) dX11_straighten_64 ?_
        refine g_aload_n (pc := 65) (x := 0) dX11_straighten_65 rfl ?_
        refine g_getVt (pc := 66) (t := (m5.2.2 0 9)) dX11_straighten_66 fo_X11_69 sh_0 rfl rfl ?_
        have hr7 := h.1
        have h := h.2
        refine g_getI (pc := 69) dX11_straighten_69 fo_X11_336 (AtTown_0 hr7) rfl ?_
        refine g_iload (pc := 72) (x := (r5 - (m5.1 ((m5.2.2 0 10) + 1) l3.toNatClampNeg))) dX11_straighten_72 rfl ?_
        refine g_mmin (pc := 74) dX11_straighten_74 cw_X11_339 (by decide) (Nat.le_of_ble_eq_true rfl) ?_
        refine g_mmax (pc := 77) dX11_straighten_77 cw_X11_236 (by decide) (Nat.le_of_ble_eq_true rfl) ?_
        refine g_istore (pc := 80) (L' := [(0, .ref 0), (1, .int l1), (2, .int l2), (3, .int l3), (4, .int (imax (-(m5.1 (m5.2.2 0 9) 15)) (imin (m5.1 (m5.2.2 0 9) 15) (r5 - (m5.1 ((m5.2.2 0 10) + 1) l3.toNatClampNeg)))))]) dX11_straighten_80 (Nat.le_of_ble_eq_true rfl) rfl ?_
        refine g_aload_n (pc := 82) (x := 0) dX11_straighten_82 rfl ?_
        refine g_getVt (pc := 83) (t := (m5.2.2 0 10)) dX11_straighten_83 fo_X11_74 sh_0 rfl rfl ?_
        have hr8 := h.1
        have h := h.2
        refine g_getR (pc := 86) (dd := 1) dX11_straighten_86 fo_X11_117 (AtState_0 hr8) rfl ?_
        refine g_iload_n (pc := 89) (x := l3) dX11_straighten_89 rfl ?_
        refine g_dup2 (pc := 90) dX11_straighten_90 rfl rfl ?_
        refine g_iaload (pc := 91) dX11_straighten_91 (AtState_1 hr8) h.1 ?_
        have h := h.2
        refine g_iload (pc := 92) (x := (imax (-(m5.1 (m5.2.2 0 9) 15)) (imin (m5.1 (m5.2.2 0 9) 15) (r5 - (m5.1 ((m5.2.2 0 10) + 1) l3.toNatClampNeg))))) dX11_straighten_92 rfl ?_
        refine g_iadd (pc := 94) dX11_straighten_94 ?_
        refine g_iastore (pc := 95) dX11_straighten_95 (AtState_1 hr8) h.1 ?_
        have h := h.2
        refine g_iload_n (pc := 96) (x := l2) dX11_straighten_96 rfl ?_
        refine g_iload (pc := 97) (x := (imax (-(m5.1 (m5.2.2 0 9) 15)) (imin (m5.1 (m5.2.2 0 9) 15) (r5 - (m5.1 ((m5.2.2 0 10) + 1) l3.toNatClampNeg))))) dX11_straighten_97 rfl ?_
        refine g_mabs (pc := 99) dX11_straighten_99 cw_X11_342 (by decide) (Nat.le_of_ble_eq_true rfl) ?_
        refine g_iadd (pc := 102) dX11_straighten_102 ?_
        refine g_istore_n (pc := 103) (L' := [(0, .ref 0), (1, .int l1), (2, .int (l2 + (iabs (imax (-(m5.1 (m5.2.2 0 9) 15)) (imin (m5.1 (m5.2.2 0 9) 15) (r5 - (m5.1 ((m5.2.2 0 10) + 1) l3.toNatClampNeg))))))), (3, .int l3), (4, .int (imax (-(m5.1 (m5.2.2 0 9) 15)) (imin (m5.1 (m5.2.2 0 9) 15) (r5 - (m5.1 ((m5.2.2 0 10) + 1) l3.toNatClampNeg)))))]) dX11_straighten_103 (Nat.le_of_ble_eq_true rfl) rfl ?_
        refine g_iinc (pc := 104) (x := l1) (v := (l1 + (1 : Int32))) (L' := [(0, .ref 0), (1, .int (l1 + (1 : Int32))), (2, .int (l2 + (iabs (imax (-(m5.1 (m5.2.2 0 9) 15)) (imin (m5.1 (m5.2.2 0 9) 15) (r5 - (m5.1 ((m5.2.2 0 10) + 1) l3.toNatClampNeg))))))), (3, .int l3), (4, .int (imax (-(m5.1 (m5.2.2 0 9) 15)) (imin (m5.1 (m5.2.2 0 9) 15) (r5 - (m5.1 ((m5.2.2 0 10) + 1) l3.toNatClampNeg)))))]) dX11_straighten_104 rfl rfl (Nat.le_of_ble_eq_true rfl) rfl ?_
        refine g_iinc (pc := 107) (x := l3) (v := (l3 + (1 : Int32))) (L' := [(0, .ref 0), (1, .int (l1 + (1 : Int32))), (2, .int (l2 + (iabs (imax (-(m5.1 (m5.2.2 0 9) 15)) (imin (m5.1 (m5.2.2 0 9) 15) (r5 - (m5.1 ((m5.2.2 0 10) + 1) l3.toNatClampNeg))))))), (3, .int (l3 + (1 : Int32))), (4, .int (imax (-(m5.1 (m5.2.2 0 9) 15)) (imin (m5.1 (m5.2.2 0 9) 15) (r5 - (m5.1 ((m5.2.2 0 10) + 1) l3.toNatClampNeg)))))]) dX11_straighten_107 rfl rfl (Nat.le_of_ble_eq_true rfl) rfl ?_
        refine g_goto (pc := 110) (tgt := 6) dX11_straighten_110 (by decide) ?_
        refine g_sub (L' := [(0, .ref 0), (1, .int (l1 + (1 : Int32))), (2, .int (l2 + (iabs (imax (-(m5.1 (m5.2.2 0 9) 15)) (imin (m5.1 (m5.2.2 0 9) 15) (r5 - (m5.1 ((m5.2.2 0 10) + 1) l3.toNatClampNeg))))))), (3, .int (l3 + (1 : Int32)))]) [0, 1, 2, 3] rfl ?_
        exact h
theorem dX11_hold_0 : decode cX11_hold 0 = .ok (.iload_n 1, 1) := by decide +kernel
theorem dX11_hold_1 : decode cX11_hold 1 = .ok (.iconst 0, 1) := by decide +kernel
theorem dX11_hold_2 : decode cX11_hold 2 = .ok (.iconst 1, 1) := by decide +kernel
theorem dX11_hold_3 : decode cX11_hold 3 = .ok (.invokestatic 144, 3) := by decide +kernel
theorem dX11_hold_6 : decode cX11_hold 6 = .ok (.ifCond .ne 5, 3) := by decide +kernel
theorem dX11_hold_9 : decode cX11_hold 9 = .ok (.iconst 0, 1) := by decide +kernel
theorem dX11_hold_10 : decode cX11_hold 10 = .ok (.ireturn, 1) := by decide +kernel
theorem dX11_hold_11 : decode cX11_hold 11 = .ok (.aload_n 0, 1) := by decide +kernel
theorem dX11_hold_12 : decode cX11_hold 12 = .ok (.getfield 58, 3) := by decide +kernel
theorem dX11_hold_15 : decode cX11_hold 15 = .ok (.iload_n 1, 1) := by decide +kernel
theorem dX11_hold_16 : decode cX11_hold 16 = .ok (.aaload, 1) := by decide +kernel
theorem dX11_hold_17 : decode cX11_hold 17 = .ok (.aload_n 0, 1) := by decide +kernel
theorem dX11_hold_18 : decode cX11_hold 18 = .ok (.getfield 74, 3) := by decide +kernel
theorem dX11_hold_21 : decode cX11_hold 21 = .ok (.invokevirtual 349, 3) := by decide +kernel
theorem dX11_hold_24 : decode cX11_hold 24 = .ok (.aload_n 0, 1) := by decide +kernel
theorem dX11_hold_25 : decode cX11_hold 25 = .ok (.getfield 62, 3) := by decide +kernel
theorem dX11_hold_28 : decode cX11_hold 28 = .ok (.iload_n 1, 1) := by decide +kernel
theorem dX11_hold_29 : decode cX11_hold 29 = .ok (.iconst 1, 1) := by decide +kernel
theorem dX11_hold_30 : decode cX11_hold 30 = .ok (.bastore, 1) := by decide +kernel
theorem dX11_hold_31 : decode cX11_hold 31 = .ok (.iconst 1, 1) := by decide +kernel
theorem dX11_hold_32 : decode cX11_hold 32 = .ok (.ireturn, 1) := by decide +kernel
theorem b_X11_hold (mm : MM) (Q : Value → MM → Prop) (a1 : Int32) (h : (p_X11_within mm a1 (0 : Int32) (1 : Int32) → (vp_in a1 2 ∧ (AtState (98 + 30 + 14 * a1.toNatClampNeg)) ∧ (AtState (mm.2.2 0 10) ∧ (∃ Pm3 : Value → MM → Prop, Runs e_X6_copyFrom [.ref (98 + 30 + 14 * a1.toNatClampNeg), .ref (mm.2.2 0 10)] mm Pm3 ∧ ∀ m3, Pm3 .null m3 → (vp_in a1 2 ∧ (Q (.int (1 : Int32)) (wI m3 99 (a1.toNatClampNeg) (vp_nar .boolean (1 : Int32))))))))) ∧ (¬ p_X11_within mm a1 (0 : Int32) (1 : Int32) → (Q (.int (0 : Int32)) mm))) : Runs e_X11_hold [.ref 0, .int a1] mm Q := by
  refine runs_of_G (L := [(0, .ref 0), (1, .int a1)]) pl_X11 (Nat.le_of_ble_eq_true rfl) rfl ?_
  refine g_iload_n (pc := 0) (x := a1) dX11_hold_0 rfl ?_
  refine g_iconst (pc := 1) (v := (0 : Int32)) dX11_hold_1 (by decide) ?_
  refine g_iconst (pc := 2) (v := (1 : Int32)) dX11_hold_2 (by decide) ?_
  refine g_callS (pc := 3) (as := [.int a1, .int (0 : Int32), .int (1 : Int32)]) dX11_hold_3 cw_X11_144 (by decide) rfl rfl (Nat.le_of_ble_eq_true rfl) (rv_X11_within mm a1 (0 : Int32) (1 : Int32)) ?_
  rintro r_ m_ hz_ ⟨⟨p_, rfl⟩ | ⟨p_, rfl⟩, rfl⟩
  · have h := h.1 p_
    refine g_if_ne (pc := 6) (tgt := 11) dX11_hold_6 (by decide) (fun _ => ?_) (fun c6 => absurd c6 (by decide))
    refine g_aload_n (pc := 11) (x := 0) dX11_hold_11 rfl ?_
    refine g_getR (pc := 12) (dd := 98) dX11_hold_12 fo_X11_58 sh_0 rfl ?_
    refine g_iload_n (pc := 15) (x := a1) dX11_hold_15 rfl ?_
    refine g_aaload (pc := 16) (cn := "") (t := 4) dX11_hold_16 sh_98 h.1 ?_
    have hr0 := h.2.1
    have h := h.2.2
    refine g_aload_n (pc := 17) (x := 0) dX11_hold_17 rfl ?_
    refine g_getVt (pc := 18) (t := (mm.2.2 0 10)) dX11_hold_18 fo_X11_74 sh_0 rfl rfl ?_
    have hr1 := h.1
    have h := h.2
    obtain ⟨Pm3, hRm3, h⟩ := h
    refine g_callV (pc := 21) (as := [.ref (mm.2.2 0 10)]) dX11_hold_21 cw_X11_349 (by decide) rfl rfl (AtState_0 hr0) (Nat.le_of_ble_eq_true rfl) hRm3 ?_
    intro r_ m3 hz_ hp_
    obtain rfl := hz_
    have h := h m3 hp_
    refine g_aload_n (pc := 24) (x := 0) dX11_hold_24 rfl ?_
    refine g_getR (pc := 25) (dd := 99) dX11_hold_25 fo_X11_62 sh_0 rfl ?_
    refine g_iload_n (pc := 28) (x := a1) dX11_hold_28 rfl ?_
    refine g_iconst (pc := 29) (v := (1 : Int32)) dX11_hold_29 (by decide) ?_
    refine g_zastore (pc := 30) dX11_hold_30 sh_99 h.1 ?_
    have h := h.2
    refine g_iconst (pc := 31) (v := (1 : Int32)) dX11_hold_31 (by decide) ?_
    exact g_iret (pc := 32) dX11_hold_32 rfl rfl (nar_B isB1) h
  · have h := h.2 p_
    refine g_if_ne (pc := 6) (tgt := 11) dX11_hold_6 (by decide) (fun c6 => absurd c6 (by decide)) (fun _ => ?_)
    refine g_iconst (pc := 9) (v := (0 : Int32)) dX11_hold_9 (by decide) ?_
    exact g_iret (pc := 10) dX11_hold_10 rfl rfl (nar_B isB0) h
theorem dX11_restore_0 : decode cX11_restore 0 = .ok (.iload_n 1, 1) := by decide +kernel
theorem dX11_restore_1 : decode cX11_restore 1 = .ok (.iconst 0, 1) := by decide +kernel
theorem dX11_restore_2 : decode cX11_restore 2 = .ok (.iconst 1, 1) := by decide +kernel
theorem dX11_restore_3 : decode cX11_restore 3 = .ok (.invokestatic 144, 3) := by decide +kernel
theorem dX11_restore_6 : decode cX11_restore 6 = .ok (.ifCond .eq 12, 3) := by decide +kernel
theorem dX11_restore_9 : decode cX11_restore 9 = .ok (.aload_n 0, 1) := by decide +kernel
theorem dX11_restore_10 : decode cX11_restore 10 = .ok (.getfield 62, 3) := by decide +kernel
theorem dX11_restore_13 : decode cX11_restore 13 = .ok (.iload_n 1, 1) := by decide +kernel
theorem dX11_restore_14 : decode cX11_restore 14 = .ok (.baload, 1) := by decide +kernel
theorem dX11_restore_15 : decode cX11_restore 15 = .ok (.ifCond .ne 5, 3) := by decide +kernel
theorem dX11_restore_18 : decode cX11_restore 18 = .ok (.iconst 0, 1) := by decide +kernel
theorem dX11_restore_19 : decode cX11_restore 19 = .ok (.ireturn, 1) := by decide +kernel
theorem dX11_restore_20 : decode cX11_restore 20 = .ok (.aload_n 0, 1) := by decide +kernel
theorem dX11_restore_21 : decode cX11_restore 21 = .ok (.getfield 74, 3) := by decide +kernel
theorem dX11_restore_24 : decode cX11_restore 24 = .ok (.aload_n 0, 1) := by decide +kernel
theorem dX11_restore_25 : decode cX11_restore 25 = .ok (.getfield 58, 3) := by decide +kernel
theorem dX11_restore_28 : decode cX11_restore 28 = .ok (.iload_n 1, 1) := by decide +kernel
theorem dX11_restore_29 : decode cX11_restore 29 = .ok (.aaload, 1) := by decide +kernel
theorem dX11_restore_30 : decode cX11_restore 30 = .ok (.invokevirtual 349, 3) := by decide +kernel
theorem dX11_restore_33 : decode cX11_restore 33 = .ok (.aload_n 0, 1) := by decide +kernel
theorem dX11_restore_34 : decode cX11_restore 34 = .ok (.getfield 31, 3) := by decide +kernel
theorem dX11_restore_37 : decode cX11_restore 37 = .ok (.invokevirtual 102, 3) := by decide +kernel
theorem dX11_restore_40 : decode cX11_restore 40 = .ok (.iconst 1, 1) := by decide +kernel
theorem dX11_restore_41 : decode cX11_restore 41 = .ok (.ireturn, 1) := by decide +kernel
theorem b_X11_restore (mm : MM) (Q : Value → MM → Prop) (a1 : Int32) (h : (p_X11_within mm a1 (0 : Int32) (1 : Int32) → (vp_in a1 2 ∧ ((¬ (mm.1 99 a1.toNatClampNeg) = 0 → (AtState (mm.2.2 0 10) ∧ (vp_in a1 2 ∧ (AtState (98 + 30 + 14 * a1.toNatClampNeg)) ∧ (∃ Pm3 : Value → MM → Prop, Runs e_X6_copyFrom [.ref (mm.2.2 0 10), .ref (98 + 30 + 14 * a1.toNatClampNeg)] mm Pm3 ∧ ∀ m3, Pm3 .null m3 → (∃ Pm4 : Value → MM → Prop, Runs e_X9_dropLots [.ref 41] m3 Pm4 ∧ ∀ m4, Pm4 .null m4 → (Q (.int (1 : Int32)) m4)))))) ∧ ((mm.1 99 a1.toNatClampNeg) = 0 → (Q (.int (0 : Int32)) mm))))) ∧ (¬ p_X11_within mm a1 (0 : Int32) (1 : Int32) → (Q (.int (0 : Int32)) mm))) : Runs e_X11_restore [.ref 0, .int a1] mm Q := by
  refine runs_of_G (L := [(0, .ref 0), (1, .int a1)]) pl_X11 (Nat.le_of_ble_eq_true rfl) rfl ?_
  refine g_iload_n (pc := 0) (x := a1) dX11_restore_0 rfl ?_
  refine g_iconst (pc := 1) (v := (0 : Int32)) dX11_restore_1 (by decide) ?_
  refine g_iconst (pc := 2) (v := (1 : Int32)) dX11_restore_2 (by decide) ?_
  refine g_callS (pc := 3) (as := [.int a1, .int (0 : Int32), .int (1 : Int32)]) dX11_restore_3 cw_X11_144 (by decide) rfl rfl (Nat.le_of_ble_eq_true rfl) (rv_X11_within mm a1 (0 : Int32) (1 : Int32)) ?_
  rintro r_ m_ hz_ ⟨⟨p_, rfl⟩ | ⟨p_, rfl⟩, rfl⟩
  · have h := h.1 p_
    refine g_if_eq (pc := 6) (tgt := 18) dX11_restore_6 (by decide) (fun c6 => absurd c6 (by decide)) (fun _ => ?_)
    refine g_aload_n (pc := 9) (x := 0) dX11_restore_9 rfl ?_
    refine g_getR (pc := 10) (dd := 99) dX11_restore_10 fo_X11_62 sh_0 rfl ?_
    refine g_iload_n (pc := 13) (x := a1) dX11_restore_13 rfl ?_
    refine g_zaload (pc := 14) dX11_restore_14 sh_99 h.1 ?_
    have h := h.2
    refine g_if_ne (pc := 15) (tgt := 20) dX11_restore_15 (by decide) (fun c15 => ?_) (fun c15 => ?_)
    · have h := h.1 c15
      refine g_aload_n (pc := 20) (x := 0) dX11_restore_20 rfl ?_
      refine g_getVt (pc := 21) (t := (mm.2.2 0 10)) dX11_restore_21 fo_X11_74 sh_0 rfl rfl ?_
      have hr0 := h.1
      have h := h.2
      refine g_aload_n (pc := 24) (x := 0) dX11_restore_24 rfl ?_
      refine g_getR (pc := 25) (dd := 98) dX11_restore_25 fo_X11_58 sh_0 rfl ?_
      refine g_iload_n (pc := 28) (x := a1) dX11_restore_28 rfl ?_
      refine g_aaload (pc := 29) (cn := "") (t := 4) dX11_restore_29 sh_98 h.1 ?_
      have hr1 := h.2.1
      have h := h.2.2
      obtain ⟨Pm3, hRm3, h⟩ := h
      refine g_callV (pc := 30) (as := [.ref (98 + 30 + 14 * a1.toNatClampNeg)]) dX11_restore_30 cw_X11_349 (by decide) rfl rfl (AtState_0 hr0) (Nat.le_of_ble_eq_true rfl) hRm3 ?_
      intro r_ m3 hz_ hp_
      obtain rfl := hz_
      have h := h m3 hp_
      refine g_aload_n (pc := 33) (x := 0) dX11_restore_33 rfl ?_
      refine g_getR (pc := 34) (dd := 41) dX11_restore_34 fo_X11_31 sh_0 rfl ?_
      obtain ⟨Pm4, hRm4, h⟩ := h
      refine g_callV (pc := 37) (as := []) dX11_restore_37 cw_X11_102 (by decide) rfl rfl sh_41 (Nat.le_of_ble_eq_true rfl) hRm4 ?_
      intro r_ m4 hz_ hp_
      obtain rfl := hz_
      have h := h m4 hp_
      refine g_iconst (pc := 40) (v := (1 : Int32)) dX11_restore_40 (by decide) ?_
      exact g_iret (pc := 41) dX11_restore_41 rfl rfl (nar_B isB1) h
    · have h := h.2 c15
      refine g_iconst (pc := 18) (v := (0 : Int32)) dX11_restore_18 (by decide) ?_
      exact g_iret (pc := 19) dX11_restore_19 rfl rfl (nar_B isB0) h
  · have h := h.2 p_
    refine g_if_eq (pc := 6) (tgt := 18) dX11_restore_6 (by decide) (fun _ => ?_) (fun c6 => absurd c6 (by decide))
    refine g_iconst (pc := 18) (v := (0 : Int32)) dX11_restore_18 (by decide) ?_
    exact g_iret (pc := 19) dX11_restore_19 rfl rfl (nar_B isB0) h
theorem dX11_count_0 : decode cX11_count 0 = .ok (.iload_n 1, 1) := by decide +kernel
theorem dX11_count_1 : decode cX11_count 1 = .ok (.tableswitch 238 0 15 #[79, 87, 95, 103, 111, 119, 127, 135, 143, 154, 162, 170, 178, 208, 216, 227], 79) := by decide +kernel
theorem dX11_count_80 : decode cX11_count 80 = .ok (.aload_n 0, 1) := by decide +kernel
theorem dX11_count_81 : decode cX11_count 81 = .ok (.getfield 69, 3) := by decide +kernel
theorem dX11_count_84 : decode cX11_count 84 = .ok (.getfield 178, 3) := by decide +kernel
theorem dX11_count_87 : decode cX11_count 87 = .ok (.ireturn, 1) := by decide +kernel
theorem dX11_count_88 : decode cX11_count 88 = .ok (.aload_n 0, 1) := by decide +kernel
theorem dX11_count_89 : decode cX11_count 89 = .ok (.getfield 69, 3) := by decide +kernel
theorem dX11_count_92 : decode cX11_count 92 = .ok (.getfield 324, 3) := by decide +kernel
theorem dX11_count_95 : decode cX11_count 95 = .ok (.ireturn, 1) := by decide +kernel
theorem dX11_count_96 : decode cX11_count 96 = .ok (.aload_n 0, 1) := by decide +kernel
theorem dX11_count_97 : decode cX11_count 97 = .ok (.getfield 69, 3) := by decide +kernel
theorem dX11_count_100 : decode cX11_count 100 = .ok (.getfield 175, 3) := by decide +kernel
theorem dX11_count_103 : decode cX11_count 103 = .ok (.ireturn, 1) := by decide +kernel
theorem dX11_count_104 : decode cX11_count 104 = .ok (.aload_n 0, 1) := by decide +kernel
theorem dX11_count_105 : decode cX11_count 105 = .ok (.getfield 69, 3) := by decide +kernel
theorem dX11_count_108 : decode cX11_count 108 = .ok (.getfield 352, 3) := by decide +kernel
theorem dX11_count_111 : decode cX11_count 111 = .ok (.ireturn, 1) := by decide +kernel
theorem dX11_count_112 : decode cX11_count 112 = .ok (.aload_n 0, 1) := by decide +kernel
theorem dX11_count_113 : decode cX11_count 113 = .ok (.getfield 69, 3) := by decide +kernel
theorem dX11_count_116 : decode cX11_count 116 = .ok (.getfield 355, 3) := by decide +kernel
theorem dX11_count_119 : decode cX11_count 119 = .ok (.ireturn, 1) := by decide +kernel
theorem dX11_count_120 : decode cX11_count 120 = .ok (.aload_n 0, 1) := by decide +kernel
theorem dX11_count_121 : decode cX11_count 121 = .ok (.getfield 69, 3) := by decide +kernel
theorem dX11_count_124 : decode cX11_count 124 = .ok (.getfield 233, 3) := by decide +kernel
theorem dX11_count_127 : decode cX11_count 127 = .ok (.ireturn, 1) := by decide +kernel
theorem dX11_count_128 : decode cX11_count 128 = .ok (.aload_n 0, 1) := by decide +kernel
theorem dX11_count_129 : decode cX11_count 129 = .ok (.getfield 69, 3) := by decide +kernel
theorem dX11_count_132 : decode cX11_count 132 = .ok (.getfield 336, 3) := by decide +kernel
theorem dX11_count_135 : decode cX11_count 135 = .ok (.ireturn, 1) := by decide +kernel
theorem dX11_count_136 : decode cX11_count 136 = .ok (.aload_n 0, 1) := by decide +kernel
theorem dX11_count_137 : decode cX11_count 137 = .ok (.getfield 74, 3) := by decide +kernel
theorem dX11_count_140 : decode cX11_count 140 = .ok (.getfield 216, 3) := by decide +kernel
theorem dX11_count_143 : decode cX11_count 143 = .ok (.ireturn, 1) := by decide +kernel
theorem dX11_count_144 : decode cX11_count 144 = .ok (.aload_n 0, 1) := by decide +kernel
theorem dX11_count_145 : decode cX11_count 145 = .ok (.getfield 74, 3) := by decide +kernel
theorem dX11_count_148 : decode cX11_count 148 = .ok (.getfield 297, 3) := by decide +kernel
theorem dX11_count_151 : decode cX11_count 151 = .ok (.getfield 358, 3) := by decide +kernel
theorem dX11_count_154 : decode cX11_count 154 = .ok (.ireturn, 1) := by decide +kernel
theorem dX11_count_155 : decode cX11_count 155 = .ok (.aload_n 0, 1) := by decide +kernel
theorem dX11_count_156 : decode cX11_count 156 = .ok (.getfield 74, 3) := by decide +kernel
theorem dX11_count_159 : decode cX11_count 159 = .ok (.getfield 148, 3) := by decide +kernel
theorem dX11_count_162 : decode cX11_count 162 = .ok (.ireturn, 1) := by decide +kernel
theorem dX11_count_163 : decode cX11_count 163 = .ok (.aload_n 0, 1) := by decide +kernel
theorem dX11_count_164 : decode cX11_count 164 = .ok (.getfield 31, 3) := by decide +kernel
theorem dX11_count_167 : decode cX11_count 167 = .ok (.getfield 359, 3) := by decide +kernel
theorem dX11_count_170 : decode cX11_count 170 = .ok (.ireturn, 1) := by decide +kernel
theorem dX11_count_171 : decode cX11_count 171 = .ok (.aload_n 0, 1) := by decide +kernel
theorem dX11_count_172 : decode cX11_count 172 = .ok (.getfield 20, 3) := by decide +kernel
theorem dX11_count_175 : decode cX11_count 175 = .ok (.getfield 78, 3) := by decide +kernel
theorem dX11_count_178 : decode cX11_count 178 = .ok (.ireturn, 1) := by decide +kernel
theorem dX11_count_179 : decode cX11_count 179 = .ok (.aload_n 0, 1) := by decide +kernel
theorem dX11_count_180 : decode cX11_count 180 = .ok (.getfield 62, 3) := by decide +kernel
theorem dX11_count_183 : decode cX11_count 183 = .ok (.iconst 0, 1) := by decide +kernel
theorem dX11_count_184 : decode cX11_count 184 = .ok (.baload, 1) := by decide +kernel
theorem dX11_count_185 : decode cX11_count 185 = .ok (.ifCond .eq 7, 3) := by decide +kernel
theorem dX11_count_188 : decode cX11_count 188 = .ok (.iconst 1, 1) := by decide +kernel
theorem dX11_count_189 : decode cX11_count 189 = .ok (.goto 4, 3) := by decide +kernel
theorem dX11_count_192 : decode cX11_count 192 = .ok (.iconst 0, 1) := by decide +kernel
theorem dX11_count_193 : decode cX11_count 193 = .ok (.aload_n 0, 1) := by decide +kernel
theorem dX11_count_194 : decode cX11_count 194 = .ok (.getfield 62, 3) := by decide +kernel
theorem dX11_count_197 : decode cX11_count 197 = .ok (.iconst 1, 1) := by decide +kernel
theorem dX11_count_198 : decode cX11_count 198 = .ok (.baload, 1) := by decide +kernel
theorem dX11_count_199 : decode cX11_count 199 = .ok (.ifCond .eq 7, 3) := by decide +kernel
theorem dX11_count_202 : decode cX11_count 202 = .ok (.iconst 1, 1) := by decide +kernel
theorem dX11_count_203 : decode cX11_count 203 = .ok (.goto 4, 3) := by decide +kernel
theorem dX11_count_206 : decode cX11_count 206 = .ok (.iconst 0, 1) := by decide +kernel
theorem dX11_count_207 : decode cX11_count 207 = .ok (.iadd, 1) := by decide +kernel
theorem dX11_count_208 : decode cX11_count 208 = .ok (.ireturn, 1) := by decide +kernel
theorem dX11_count_209 : decode cX11_count 209 = .ok (.aload_n 0, 1) := by decide +kernel
theorem dX11_count_210 : decode cX11_count 210 = .ok (.getfield 52, 3) := by decide +kernel
theorem dX11_count_213 : decode cX11_count 213 = .ok (.getfield 105, 3) := by decide +kernel
theorem dX11_count_216 : decode cX11_count 216 = .ok (.ireturn, 1) := by decide +kernel
theorem dX11_count_217 : decode cX11_count 217 = .ok (.aload_n 0, 1) := by decide +kernel
theorem dX11_count_218 : decode cX11_count 218 = .ok (.getfield 69, 3) := by decide +kernel
theorem dX11_count_221 : decode cX11_count 221 = .ok (.getfield 362, 3) := by decide +kernel
theorem dX11_count_224 : decode cX11_count 224 = .ok (.getfield 366, 3) := by decide +kernel
theorem dX11_count_227 : decode cX11_count 227 = .ok (.ireturn, 1) := by decide +kernel
theorem dX11_count_228 : decode cX11_count 228 = .ok (.aload_n 0, 1) := by decide +kernel
theorem dX11_count_229 : decode cX11_count 229 = .ok (.getfield 69, 3) := by decide +kernel
theorem dX11_count_232 : decode cX11_count 232 = .ok (.getfield 362, 3) := by decide +kernel
theorem dX11_count_235 : decode cX11_count 235 = .ok (.getfield 370, 3) := by decide +kernel
theorem dX11_count_238 : decode cX11_count 238 = .ok (.ireturn, 1) := by decide +kernel
theorem dX11_count_239 : decode cX11_count 239 = .ok (.iconst (-1), 1) := by decide +kernel
theorem dX11_count_240 : decode cX11_count 240 = .ok (.ireturn, 1) := by decide +kernel
def o_X11_count (mm : MM) (a1 : Int32) : Prop := (a1 = (0 : Int32) → (AtTown (mm.2.2 0 9) ∧ (True))) ∧ (¬ a1 = (0 : Int32) → ((a1 = (1 : Int32) → (AtTown (mm.2.2 0 9) ∧ (True))) ∧ (¬ a1 = (1 : Int32) → ((a1 = (2 : Int32) → (AtTown (mm.2.2 0 9) ∧ (True))) ∧ (¬ a1 = (2 : Int32) → ((a1 = (3 : Int32) → (AtTown (mm.2.2 0 9) ∧ (True))) ∧ (¬ a1 = (3 : Int32) → ((a1 = (4 : Int32) → (AtTown (mm.2.2 0 9) ∧ (True))) ∧ (¬ a1 = (4 : Int32) → ((a1 = (5 : Int32) → (AtTown (mm.2.2 0 9) ∧ (True))) ∧ (¬ a1 = (5 : Int32) → ((a1 = (6 : Int32) → (AtTown (mm.2.2 0 9) ∧ (True))) ∧ (¬ a1 = (6 : Int32) → ((a1 = (7 : Int32) → (AtState (mm.2.2 0 10) ∧ (True))) ∧ (¬ a1 = (7 : Int32) → ((a1 = (8 : Int32) → (AtState (mm.2.2 0 10) ∧ (True))) ∧ (¬ a1 = (8 : Int32) → ((a1 = (9 : Int32) → (AtState (mm.2.2 0 10) ∧ (True))) ∧ (¬ a1 = (9 : Int32) → ((a1 = (10 : Int32) → (True)) ∧ (¬ a1 = (10 : Int32) → ((a1 = (11 : Int32) → (True)) ∧ (¬ a1 = (11 : Int32) → ((a1 = (12 : Int32) → (((mm.1 99 0) = 0 → (((mm.1 99 1) = 0 → (True)) ∧ (¬ (mm.1 99 1) = 0 → (True)))) ∧ (¬ (mm.1 99 0) = 0 → (((mm.1 99 1) = 0 → (True)) ∧ (¬ (mm.1 99 1) = 0 → (True)))))) ∧ (¬ a1 = (12 : Int32) → ((a1 = (13 : Int32) → (True)) ∧ (¬ a1 = (13 : Int32) → ((a1 = (14 : Int32) → (AtTown (mm.2.2 0 9) ∧ (True))) ∧ (¬ a1 = (14 : Int32) → ((a1 = (15 : Int32) → (AtTown (mm.2.2 0 9) ∧ (True))) ∧ (¬ a1 = (15 : Int32) → (True))))))))))))))))))))))))))))))))
noncomputable def v_X11_count (mm : MM) (a1 : Int32) : Int32 := (cite (a1 = (0 : Int32)) (mm.1 (mm.2.2 0 9) 8) (cite (a1 = (1 : Int32)) (mm.1 (mm.2.2 0 9) 9) (cite (a1 = (2 : Int32)) (mm.1 (mm.2.2 0 9) 10) (cite (a1 = (3 : Int32)) (mm.1 (mm.2.2 0 9) 11) (cite (a1 = (4 : Int32)) (mm.1 (mm.2.2 0 9) 13) (cite (a1 = (5 : Int32)) (mm.1 (mm.2.2 0 9) 14) (cite (a1 = (6 : Int32)) (mm.1 (mm.2.2 0 9) 15) (cite (a1 = (7 : Int32)) (mm.1 (mm.2.2 0 10) 7) (cite (a1 = (8 : Int32)) (mm.1 ((mm.2.2 0 10) + 7) 6) (cite (a1 = (9 : Int32)) (mm.1 (mm.2.2 0 10) 8) (cite (a1 = (10 : Int32)) (mm.1 41 4) (cite (a1 = (11 : Int32)) (mm.1 5 4) (cite (a1 = (12 : Int32)) (cite ((mm.1 99 0) = 0) (cite ((mm.1 99 1) = 0) ((0 : Int32) + (0 : Int32)) ((0 : Int32) + (1 : Int32))) (cite ((mm.1 99 1) = 0) ((1 : Int32) + (0 : Int32)) ((1 : Int32) + (1 : Int32)))) (cite (a1 = (13 : Int32)) (mm.1 95 2) (cite (a1 = (14 : Int32)) (mm.1 ((mm.2.2 0 9) + 8) 11) (cite (a1 = (15 : Int32)) (mm.1 ((mm.2.2 0 9) + 8) 12) (-1 : Int32)))))))))))))))))
theorem rv_X11_count (mm : MM) (a1 : Int32) (h : o_X11_count mm a1) : Runs e_X11_count [.ref 0, .int a1] mm (fun r m_ => r = .int (v_X11_count mm a1) ∧ mm = m_) := by
  refine runs_of_G (L := [(0, .ref 0), (1, .int a1)]) pl_X11 (Nat.le_of_ble_eq_true rfl) rfl ?_
  unfold o_X11_count at h
  refine g_iload_n (pc := 0) (x := a1) dX11_count_0 rfl ?_
  by_cases c1_0 : a1 = (0 : Int32)
  · have c1_0_0 : a1 = (0 : Int32) := c1_0
    have h := h.1 c1_0
    refine g_tsIn (pc := 1) (off := 79) (tgt := 80) dX11_count_1 (by rw [c1_0]; decide) (by rw [c1_0]; decide) (by rw [c1_0]; rfl) (by decide) ?_
    refine g_aload_n (pc := 80) (x := 0) dX11_count_80 rfl ?_
    refine g_getVt (pc := 81) (t := (mm.2.2 0 9)) dX11_count_81 fo_X11_69 sh_0 rfl rfl ?_
    have hr0 := h.1
    have h := h.2
    refine g_getI (pc := 84) dX11_count_84 fo_X11_178 (AtTown_0 hr0) rfl ?_
    exact g_iret (pc := 87) dX11_count_87 rfl rfl rfl ⟨(by unfold v_X11_count; rw [cite_pos c1_0_0] <;> rfl), rfl⟩
  · have c1_0_0 : ¬ a1 = (0 : Int32) := c1_0
    have h := h.2 c1_0
    by_cases c1_1 : a1 = (1 : Int32)
    · have c1_1_1 : a1 = (1 : Int32) := c1_1
      have h := h.1 c1_1
      refine g_tsIn (pc := 1) (off := 87) (tgt := 88) dX11_count_1 (by rw [c1_1]; decide) (by rw [c1_1]; decide) (by rw [c1_1]; rfl) (by decide) ?_
      refine g_aload_n (pc := 88) (x := 0) dX11_count_88 rfl ?_
      refine g_getVt (pc := 89) (t := (mm.2.2 0 9)) dX11_count_89 fo_X11_69 sh_0 rfl rfl ?_
      have hr0 := h.1
      have h := h.2
      refine g_getI (pc := 92) dX11_count_92 fo_X11_324 (AtTown_0 hr0) rfl ?_
      exact g_iret (pc := 95) dX11_count_95 rfl rfl rfl ⟨(by unfold v_X11_count; rw [cite_neg c1_0_0, cite_pos c1_1_1] <;> rfl), rfl⟩
    · have c1_1_1 : ¬ a1 = (1 : Int32) := c1_1
      have h := h.2 c1_1
      by_cases c1_2 : a1 = (2 : Int32)
      · have c1_2_2 : a1 = (2 : Int32) := c1_2
        have h := h.1 c1_2
        refine g_tsIn (pc := 1) (off := 95) (tgt := 96) dX11_count_1 (by rw [c1_2]; decide) (by rw [c1_2]; decide) (by rw [c1_2]; rfl) (by decide) ?_
        refine g_aload_n (pc := 96) (x := 0) dX11_count_96 rfl ?_
        refine g_getVt (pc := 97) (t := (mm.2.2 0 9)) dX11_count_97 fo_X11_69 sh_0 rfl rfl ?_
        have hr0 := h.1
        have h := h.2
        refine g_getI (pc := 100) dX11_count_100 fo_X11_175 (AtTown_0 hr0) rfl ?_
        exact g_iret (pc := 103) dX11_count_103 rfl rfl rfl ⟨(by unfold v_X11_count; rw [cite_neg c1_0_0, cite_neg c1_1_1, cite_pos c1_2_2] <;> rfl), rfl⟩
      · have c1_2_2 : ¬ a1 = (2 : Int32) := c1_2
        have h := h.2 c1_2
        by_cases c1_3 : a1 = (3 : Int32)
        · have c1_3_3 : a1 = (3 : Int32) := c1_3
          have h := h.1 c1_3
          refine g_tsIn (pc := 1) (off := 103) (tgt := 104) dX11_count_1 (by rw [c1_3]; decide) (by rw [c1_3]; decide) (by rw [c1_3]; rfl) (by decide) ?_
          refine g_aload_n (pc := 104) (x := 0) dX11_count_104 rfl ?_
          refine g_getVt (pc := 105) (t := (mm.2.2 0 9)) dX11_count_105 fo_X11_69 sh_0 rfl rfl ?_
          have hr0 := h.1
          have h := h.2
          refine g_getI (pc := 108) dX11_count_108 fo_X11_352 (AtTown_0 hr0) rfl ?_
          exact g_iret (pc := 111) dX11_count_111 rfl rfl rfl ⟨(by unfold v_X11_count; rw [cite_neg c1_0_0, cite_neg c1_1_1, cite_neg c1_2_2, cite_pos c1_3_3] <;> rfl), rfl⟩
        · have c1_3_3 : ¬ a1 = (3 : Int32) := c1_3
          have h := h.2 c1_3
          by_cases c1_4 : a1 = (4 : Int32)
          · have c1_4_4 : a1 = (4 : Int32) := c1_4
            have h := h.1 c1_4
            refine g_tsIn (pc := 1) (off := 111) (tgt := 112) dX11_count_1 (by rw [c1_4]; decide) (by rw [c1_4]; decide) (by rw [c1_4]; rfl) (by decide) ?_
            refine g_aload_n (pc := 112) (x := 0) dX11_count_112 rfl ?_
            refine g_getVt (pc := 113) (t := (mm.2.2 0 9)) dX11_count_113 fo_X11_69 sh_0 rfl rfl ?_
            have hr0 := h.1
            have h := h.2
            refine g_getI (pc := 116) dX11_count_116 fo_X11_355 (AtTown_0 hr0) rfl ?_
            exact g_iret (pc := 119) dX11_count_119 rfl rfl rfl ⟨(by unfold v_X11_count; rw [cite_neg c1_0_0, cite_neg c1_1_1, cite_neg c1_2_2, cite_neg c1_3_3, cite_pos c1_4_4] <;> rfl), rfl⟩
          · have c1_4_4 : ¬ a1 = (4 : Int32) := c1_4
            have h := h.2 c1_4
            by_cases c1_5 : a1 = (5 : Int32)
            · have c1_5_5 : a1 = (5 : Int32) := c1_5
              have h := h.1 c1_5
              refine g_tsIn (pc := 1) (off := 119) (tgt := 120) dX11_count_1 (by rw [c1_5]; decide) (by rw [c1_5]; decide) (by rw [c1_5]; rfl) (by decide) ?_
              refine g_aload_n (pc := 120) (x := 0) dX11_count_120 rfl ?_
              refine g_getVt (pc := 121) (t := (mm.2.2 0 9)) dX11_count_121 fo_X11_69 sh_0 rfl rfl ?_
              have hr0 := h.1
              have h := h.2
              refine g_getI (pc := 124) dX11_count_124 fo_X11_233 (AtTown_0 hr0) rfl ?_
              exact g_iret (pc := 127) dX11_count_127 rfl rfl rfl ⟨(by unfold v_X11_count; rw [cite_neg c1_0_0, cite_neg c1_1_1, cite_neg c1_2_2, cite_neg c1_3_3, cite_neg c1_4_4, cite_pos c1_5_5] <;> rfl), rfl⟩
            · have c1_5_5 : ¬ a1 = (5 : Int32) := c1_5
              have h := h.2 c1_5
              by_cases c1_6 : a1 = (6 : Int32)
              · have c1_6_6 : a1 = (6 : Int32) := c1_6
                have h := h.1 c1_6
                refine g_tsIn (pc := 1) (off := 127) (tgt := 128) dX11_count_1 (by rw [c1_6]; decide) (by rw [c1_6]; decide) (by rw [c1_6]; rfl) (by decide) ?_
                refine g_aload_n (pc := 128) (x := 0) dX11_count_128 rfl ?_
                refine g_getVt (pc := 129) (t := (mm.2.2 0 9)) dX11_count_129 fo_X11_69 sh_0 rfl rfl ?_
                have hr0 := h.1
                have h := h.2
                refine g_getI (pc := 132) dX11_count_132 fo_X11_336 (AtTown_0 hr0) rfl ?_
                exact g_iret (pc := 135) dX11_count_135 rfl rfl rfl ⟨(by unfold v_X11_count; rw [cite_neg c1_0_0, cite_neg c1_1_1, cite_neg c1_2_2, cite_neg c1_3_3, cite_neg c1_4_4, cite_neg c1_5_5, cite_pos c1_6_6] <;> rfl), rfl⟩
              · have c1_6_6 : ¬ a1 = (6 : Int32) := c1_6
                have h := h.2 c1_6
                by_cases c1_7 : a1 = (7 : Int32)
                · have c1_7_7 : a1 = (7 : Int32) := c1_7
                  have h := h.1 c1_7
                  refine g_tsIn (pc := 1) (off := 135) (tgt := 136) dX11_count_1 (by rw [c1_7]; decide) (by rw [c1_7]; decide) (by rw [c1_7]; rfl) (by decide) ?_
                  refine g_aload_n (pc := 136) (x := 0) dX11_count_136 rfl ?_
                  refine g_getVt (pc := 137) (t := (mm.2.2 0 10)) dX11_count_137 fo_X11_74 sh_0 rfl rfl ?_
                  have hr0 := h.1
                  have h := h.2
                  refine g_getI (pc := 140) dX11_count_140 fo_X11_216 (AtState_0 hr0) rfl ?_
                  exact g_iret (pc := 143) dX11_count_143 rfl rfl rfl ⟨(by unfold v_X11_count; rw [cite_neg c1_0_0, cite_neg c1_1_1, cite_neg c1_2_2, cite_neg c1_3_3, cite_neg c1_4_4, cite_neg c1_5_5, cite_neg c1_6_6, cite_pos c1_7_7] <;> rfl), rfl⟩
                · have c1_7_7 : ¬ a1 = (7 : Int32) := c1_7
                  have h := h.2 c1_7
                  by_cases c1_8 : a1 = (8 : Int32)
                  · have c1_8_8 : a1 = (8 : Int32) := c1_8
                    have h := h.1 c1_8
                    refine g_tsIn (pc := 1) (off := 143) (tgt := 144) dX11_count_1 (by rw [c1_8]; decide) (by rw [c1_8]; decide) (by rw [c1_8]; rfl) (by decide) ?_
                    refine g_aload_n (pc := 144) (x := 0) dX11_count_144 rfl ?_
                    refine g_getVt (pc := 145) (t := (mm.2.2 0 10)) dX11_count_145 fo_X11_74 sh_0 rfl rfl ?_
                    have hr0 := h.1
                    have h := h.2
                    refine g_getR (pc := 148) (dd := 7) dX11_count_148 fo_X11_297 (AtState_0 hr0) rfl ?_
                    refine g_getI (pc := 151) dX11_count_151 fo_X11_358 (AtLogs_0 (AtState.logs hr0)) rfl ?_
                    exact g_iret (pc := 154) dX11_count_154 rfl rfl rfl ⟨(by unfold v_X11_count; rw [cite_neg c1_0_0, cite_neg c1_1_1, cite_neg c1_2_2, cite_neg c1_3_3, cite_neg c1_4_4, cite_neg c1_5_5, cite_neg c1_6_6, cite_neg c1_7_7, cite_pos c1_8_8] <;> rfl), rfl⟩
                  · have c1_8_8 : ¬ a1 = (8 : Int32) := c1_8
                    have h := h.2 c1_8
                    by_cases c1_9 : a1 = (9 : Int32)
                    · have c1_9_9 : a1 = (9 : Int32) := c1_9
                      have h := h.1 c1_9
                      refine g_tsIn (pc := 1) (off := 154) (tgt := 155) dX11_count_1 (by rw [c1_9]; decide) (by rw [c1_9]; decide) (by rw [c1_9]; rfl) (by decide) ?_
                      refine g_aload_n (pc := 155) (x := 0) dX11_count_155 rfl ?_
                      refine g_getVt (pc := 156) (t := (mm.2.2 0 10)) dX11_count_156 fo_X11_74 sh_0 rfl rfl ?_
                      have hr0 := h.1
                      have h := h.2
                      refine g_getI (pc := 159) dX11_count_159 fo_X11_148 (AtState_0 hr0) rfl ?_
                      exact g_iret (pc := 162) dX11_count_162 rfl rfl rfl ⟨(by unfold v_X11_count; rw [cite_neg c1_0_0, cite_neg c1_1_1, cite_neg c1_2_2, cite_neg c1_3_3, cite_neg c1_4_4, cite_neg c1_5_5, cite_neg c1_6_6, cite_neg c1_7_7, cite_neg c1_8_8, cite_pos c1_9_9] <;> rfl), rfl⟩
                    · have c1_9_9 : ¬ a1 = (9 : Int32) := c1_9
                      have h := h.2 c1_9
                      by_cases c1_10 : a1 = (10 : Int32)
                      · have c1_10_10 : a1 = (10 : Int32) := c1_10
                        have h := h.1 c1_10
                        refine g_tsIn (pc := 1) (off := 162) (tgt := 163) dX11_count_1 (by rw [c1_10]; decide) (by rw [c1_10]; decide) (by rw [c1_10]; rfl) (by decide) ?_
                        refine g_aload_n (pc := 163) (x := 0) dX11_count_163 rfl ?_
                        refine g_getR (pc := 164) (dd := 41) dX11_count_164 fo_X11_31 sh_0 rfl ?_
                        refine g_getI (pc := 167) dX11_count_167 fo_X11_359 sh_41 rfl ?_
                        exact g_iret (pc := 170) dX11_count_170 rfl rfl rfl ⟨(by unfold v_X11_count; rw [cite_neg c1_0_0, cite_neg c1_1_1, cite_neg c1_2_2, cite_neg c1_3_3, cite_neg c1_4_4, cite_neg c1_5_5, cite_neg c1_6_6, cite_neg c1_7_7, cite_neg c1_8_8, cite_neg c1_9_9, cite_pos c1_10_10] <;> rfl), rfl⟩
                      · have c1_10_10 : ¬ a1 = (10 : Int32) := c1_10
                        have h := h.2 c1_10
                        by_cases c1_11 : a1 = (11 : Int32)
                        · have c1_11_11 : a1 = (11 : Int32) := c1_11
                          have h := h.1 c1_11
                          refine g_tsIn (pc := 1) (off := 170) (tgt := 171) dX11_count_1 (by rw [c1_11]; decide) (by rw [c1_11]; decide) (by rw [c1_11]; rfl) (by decide) ?_
                          refine g_aload_n (pc := 171) (x := 0) dX11_count_171 rfl ?_
                          refine g_getR (pc := 172) (dd := 5) dX11_count_172 fo_X11_20 sh_0 rfl ?_
                          refine g_getI (pc := 175) dX11_count_175 fo_X11_78 sh_5 rfl ?_
                          exact g_iret (pc := 178) dX11_count_178 rfl rfl rfl ⟨(by unfold v_X11_count; rw [cite_neg c1_0_0, cite_neg c1_1_1, cite_neg c1_2_2, cite_neg c1_3_3, cite_neg c1_4_4, cite_neg c1_5_5, cite_neg c1_6_6, cite_neg c1_7_7, cite_neg c1_8_8, cite_neg c1_9_9, cite_neg c1_10_10, cite_pos c1_11_11] <;> rfl), rfl⟩
                        · have c1_11_11 : ¬ a1 = (11 : Int32) := c1_11
                          have h := h.2 c1_11
                          by_cases c1_12 : a1 = (12 : Int32)
                          · have c1_12_12 : a1 = (12 : Int32) := c1_12
                            have h := h.1 c1_12
                            refine g_tsIn (pc := 1) (off := 178) (tgt := 179) dX11_count_1 (by rw [c1_12]; decide) (by rw [c1_12]; decide) (by rw [c1_12]; rfl) (by decide) ?_
                            refine g_aload_n (pc := 179) (x := 0) dX11_count_179 rfl ?_
                            refine g_getR (pc := 180) (dd := 99) dX11_count_180 fo_X11_62 sh_0 rfl ?_
                            refine g_iconst (pc := 183) (v := (0 : Int32)) dX11_count_183 (by decide) ?_
                            refine g_zaload (pc := 184) dX11_count_184 sh_99 (vp_in_nI (n := 0) (N := 2) (by decide) (by decide)) ?_
                            refine g_if_eq (pc := 185) (tgt := 192) dX11_count_185 (by decide) (fun c185 => ?_) (fun c185 => ?_)
                            · have c185_13 : (mm.1 99 0) = 0 := c185
                              refine g_iconst (pc := 192) (v := (0 : Int32)) dX11_count_192 (by decide) ?_
                              refine g_aload_n (pc := 193) (x := 0) dX11_count_193 rfl ?_
                              refine g_getR (pc := 194) (dd := 99) dX11_count_194 fo_X11_62 sh_0 rfl ?_
                              refine g_iconst (pc := 197) (v := (1 : Int32)) dX11_count_197 (by decide) ?_
                              refine g_zaload (pc := 198) dX11_count_198 sh_99 (vp_in_nI (n := 1) (N := 2) (by decide) (by decide)) ?_
                              refine g_if_eq (pc := 199) (tgt := 206) dX11_count_199 (by decide) (fun c199 => ?_) (fun c199 => ?_)
                              · have c199_14 : (mm.1 99 1) = 0 := c199
                                refine g_iconst (pc := 206) (v := (0 : Int32)) dX11_count_206 (by decide) ?_
                                refine g_iadd (pc := 207) dX11_count_207 ?_
                                exact g_iret (pc := 208) dX11_count_208 rfl rfl rfl ⟨(by unfold v_X11_count; rw [cite_neg c1_0_0, cite_neg c1_1_1, cite_neg c1_2_2, cite_neg c1_3_3, cite_neg c1_4_4, cite_neg c1_5_5, cite_neg c1_6_6, cite_neg c1_7_7, cite_neg c1_8_8, cite_neg c1_9_9, cite_neg c1_10_10, cite_neg c1_11_11, cite_pos c1_12_12, cite_pos c185_13, cite_pos c199_14] <;> rfl), rfl⟩
                              · have c199_14 : ¬ (mm.1 99 1) = 0 := c199
                                refine g_iconst (pc := 202) (v := (1 : Int32)) dX11_count_202 (by decide) ?_
                                refine g_goto (pc := 203) (tgt := 207) dX11_count_203 (by decide) ?_
                                refine g_iadd (pc := 207) dX11_count_207 ?_
                                exact g_iret (pc := 208) dX11_count_208 rfl rfl rfl ⟨(by unfold v_X11_count; rw [cite_neg c1_0_0, cite_neg c1_1_1, cite_neg c1_2_2, cite_neg c1_3_3, cite_neg c1_4_4, cite_neg c1_5_5, cite_neg c1_6_6, cite_neg c1_7_7, cite_neg c1_8_8, cite_neg c1_9_9, cite_neg c1_10_10, cite_neg c1_11_11, cite_pos c1_12_12, cite_pos c185_13, cite_neg c199_14] <;> rfl), rfl⟩
                            · have c185_13 : ¬ (mm.1 99 0) = 0 := c185
                              refine g_iconst (pc := 188) (v := (1 : Int32)) dX11_count_188 (by decide) ?_
                              refine g_goto (pc := 189) (tgt := 193) dX11_count_189 (by decide) ?_
                              refine g_aload_n (pc := 193) (x := 0) dX11_count_193 rfl ?_
                              refine g_getR (pc := 194) (dd := 99) dX11_count_194 fo_X11_62 sh_0 rfl ?_
                              refine g_iconst (pc := 197) (v := (1 : Int32)) dX11_count_197 (by decide) ?_
                              refine g_zaload (pc := 198) dX11_count_198 sh_99 (vp_in_nI (n := 1) (N := 2) (by decide) (by decide)) ?_
                              refine g_if_eq (pc := 199) (tgt := 206) dX11_count_199 (by decide) (fun c199 => ?_) (fun c199 => ?_)
                              · have c199_14 : (mm.1 99 1) = 0 := c199
                                refine g_iconst (pc := 206) (v := (0 : Int32)) dX11_count_206 (by decide) ?_
                                refine g_iadd (pc := 207) dX11_count_207 ?_
                                exact g_iret (pc := 208) dX11_count_208 rfl rfl rfl ⟨(by unfold v_X11_count; rw [cite_neg c1_0_0, cite_neg c1_1_1, cite_neg c1_2_2, cite_neg c1_3_3, cite_neg c1_4_4, cite_neg c1_5_5, cite_neg c1_6_6, cite_neg c1_7_7, cite_neg c1_8_8, cite_neg c1_9_9, cite_neg c1_10_10, cite_neg c1_11_11, cite_pos c1_12_12, cite_neg c185_13, cite_pos c199_14] <;> rfl), rfl⟩
                              · have c199_14 : ¬ (mm.1 99 1) = 0 := c199
                                refine g_iconst (pc := 202) (v := (1 : Int32)) dX11_count_202 (by decide) ?_
                                refine g_goto (pc := 203) (tgt := 207) dX11_count_203 (by decide) ?_
                                refine g_iadd (pc := 207) dX11_count_207 ?_
                                exact g_iret (pc := 208) dX11_count_208 rfl rfl rfl ⟨(by unfold v_X11_count; rw [cite_neg c1_0_0, cite_neg c1_1_1, cite_neg c1_2_2, cite_neg c1_3_3, cite_neg c1_4_4, cite_neg c1_5_5, cite_neg c1_6_6, cite_neg c1_7_7, cite_neg c1_8_8, cite_neg c1_9_9, cite_neg c1_10_10, cite_neg c1_11_11, cite_pos c1_12_12, cite_neg c185_13, cite_neg c199_14] <;> rfl), rfl⟩
                          · have c1_12_12 : ¬ a1 = (12 : Int32) := c1_12
                            have h := h.2 c1_12
                            by_cases c1_13 : a1 = (13 : Int32)
                            · have c1_13_13 : a1 = (13 : Int32) := c1_13
                              have h := h.1 c1_13
                              refine g_tsIn (pc := 1) (off := 208) (tgt := 209) dX11_count_1 (by rw [c1_13]; decide) (by rw [c1_13]; decide) (by rw [c1_13]; rfl) (by decide) ?_
                              refine g_aload_n (pc := 209) (x := 0) dX11_count_209 rfl ?_
                              refine g_getR (pc := 210) (dd := 95) dX11_count_210 fo_X11_52 sh_0 rfl ?_
                              refine g_getI (pc := 213) dX11_count_213 fo_X11_105 sh_95 rfl ?_
                              exact g_iret (pc := 216) dX11_count_216 rfl rfl rfl ⟨(by unfold v_X11_count; rw [cite_neg c1_0_0, cite_neg c1_1_1, cite_neg c1_2_2, cite_neg c1_3_3, cite_neg c1_4_4, cite_neg c1_5_5, cite_neg c1_6_6, cite_neg c1_7_7, cite_neg c1_8_8, cite_neg c1_9_9, cite_neg c1_10_10, cite_neg c1_11_11, cite_neg c1_12_12, cite_pos c1_13_13] <;> rfl), rfl⟩
                            · have c1_13_13 : ¬ a1 = (13 : Int32) := c1_13
                              have h := h.2 c1_13
                              by_cases c1_14 : a1 = (14 : Int32)
                              · have c1_14_14 : a1 = (14 : Int32) := c1_14
                                have h := h.1 c1_14
                                refine g_tsIn (pc := 1) (off := 216) (tgt := 217) dX11_count_1 (by rw [c1_14]; decide) (by rw [c1_14]; decide) (by rw [c1_14]; rfl) (by decide) ?_
                                refine g_aload_n (pc := 217) (x := 0) dX11_count_217 rfl ?_
                                refine g_getVt (pc := 218) (t := (mm.2.2 0 9)) dX11_count_218 fo_X11_69 sh_0 rfl rfl ?_
                                have hr0 := h.1
                                have h := h.2
                                refine g_getR (pc := 221) (dd := 8) dX11_count_221 fo_X11_362 (AtTown_0 hr0) rfl ?_
                                refine g_getI (pc := 224) dX11_count_224 fo_X11_366 (AtLaws_0 (AtTown.laws hr0)) rfl ?_
                                exact g_iret (pc := 227) dX11_count_227 rfl rfl rfl ⟨(by unfold v_X11_count; rw [cite_neg c1_0_0, cite_neg c1_1_1, cite_neg c1_2_2, cite_neg c1_3_3, cite_neg c1_4_4, cite_neg c1_5_5, cite_neg c1_6_6, cite_neg c1_7_7, cite_neg c1_8_8, cite_neg c1_9_9, cite_neg c1_10_10, cite_neg c1_11_11, cite_neg c1_12_12, cite_neg c1_13_13, cite_pos c1_14_14] <;> rfl), rfl⟩
                              · have c1_14_14 : ¬ a1 = (14 : Int32) := c1_14
                                have h := h.2 c1_14
                                by_cases c1_15 : a1 = (15 : Int32)
                                · have c1_15_15 : a1 = (15 : Int32) := c1_15
                                  have h := h.1 c1_15
                                  refine g_tsIn (pc := 1) (off := 227) (tgt := 228) dX11_count_1 (by rw [c1_15]; decide) (by rw [c1_15]; decide) (by rw [c1_15]; rfl) (by decide) ?_
                                  refine g_aload_n (pc := 228) (x := 0) dX11_count_228 rfl ?_
                                  refine g_getVt (pc := 229) (t := (mm.2.2 0 9)) dX11_count_229 fo_X11_69 sh_0 rfl rfl ?_
                                  have hr0 := h.1
                                  have h := h.2
                                  refine g_getR (pc := 232) (dd := 8) dX11_count_232 fo_X11_362 (AtTown_0 hr0) rfl ?_
                                  refine g_getI (pc := 235) dX11_count_235 fo_X11_370 (AtLaws_0 (AtTown.laws hr0)) rfl ?_
                                  exact g_iret (pc := 238) dX11_count_238 rfl rfl rfl ⟨(by unfold v_X11_count; rw [cite_neg c1_0_0, cite_neg c1_1_1, cite_neg c1_2_2, cite_neg c1_3_3, cite_neg c1_4_4, cite_neg c1_5_5, cite_neg c1_6_6, cite_neg c1_7_7, cite_neg c1_8_8, cite_neg c1_9_9, cite_neg c1_10_10, cite_neg c1_11_11, cite_neg c1_12_12, cite_neg c1_13_13, cite_neg c1_14_14, cite_pos c1_15_15] <;> rfl), rfl⟩
                                · have c1_15_15 : ¬ a1 = (15 : Int32) := c1_15
                                  have h := h.2 c1_15
                                  refine g_tsOut (pc := 1) (tgt := 239) dX11_count_1 (by have e0_ := ts_ne (k := 0) c1_0 (by decide); have e1_ := ts_ne (k := 1) c1_1 (by decide); have e2_ := ts_ne (k := 2) c1_2 (by decide); have e3_ := ts_ne (k := 3) c1_3 (by decide); have e4_ := ts_ne (k := 4) c1_4 (by decide); have e5_ := ts_ne (k := 5) c1_5 (by decide); have e6_ := ts_ne (k := 6) c1_6 (by decide); have e7_ := ts_ne (k := 7) c1_7 (by decide); have e8_ := ts_ne (k := 8) c1_8 (by decide); have e9_ := ts_ne (k := 9) c1_9 (by decide); have e10_ := ts_ne (k := 10) c1_10 (by decide); have e11_ := ts_ne (k := 11) c1_11 (by decide); have e12_ := ts_ne (k := 12) c1_12 (by decide); have e13_ := ts_ne (k := 13) c1_13 (by decide); have e14_ := ts_ne (k := 14) c1_14 (by decide); have e15_ := ts_ne (k := 15) c1_15 (by decide); omega) (by decide) ?_
                                  refine g_iconst (pc := 239) (v := (-1 : Int32)) dX11_count_239 (by decide) ?_
                                  exact g_iret (pc := 240) dX11_count_240 rfl rfl rfl ⟨(by unfold v_X11_count; rw [cite_neg c1_0_0, cite_neg c1_1_1, cite_neg c1_2_2, cite_neg c1_3_3, cite_neg c1_4_4, cite_neg c1_5_5, cite_neg c1_6_6, cite_neg c1_7_7, cite_neg c1_8_8, cite_neg c1_9_9, cite_neg c1_10_10, cite_neg c1_11_11, cite_neg c1_12_12, cite_neg c1_13_13, cite_neg c1_14_14, cite_neg c1_15_15] <;> rfl), rfl⟩
theorem dX12_feed_0 : decode cX12_feed 0 = .ok (.aload_n 0, 1) := by decide +kernel
theorem dX12_feed_1 : decode cX12_feed 1 = .ok (.getfield 125, 3) := by decide +kernel
theorem dX12_feed_4 : decode cX12_feed 4 = .ok (.bipush 20, 2) := by decide +kernel
theorem dX12_feed_6 : decode cX12_feed 6 = .ok (.iadd, 1) := by decide +kernel
theorem dX12_feed_7 : decode cX12_feed 7 = .ok (.sipush 2000, 3) := by decide +kernel
theorem dX12_feed_10 : decode cX12_feed 10 = .ok (.if_icmp .le 5, 3) := by decide +kernel
theorem dX12_feed_13 : decode cX12_feed 13 = .ok (.iconst (-1), 1) := by decide +kernel
theorem dX12_feed_14 : decode cX12_feed 14 = .ok (.ireturn, 1) := by decide +kernel
theorem dX12_feed_15 : decode cX12_feed 15 = .ok (.aload_n 0, 1) := by decide +kernel
theorem dX12_feed_16 : decode cX12_feed 16 = .ok (.iload_n 1, 1) := by decide +kernel
theorem dX12_feed_17 : decode cX12_feed 17 = .ok (.invokevirtual 128, 3) := by decide +kernel
theorem dX12_feed_20 : decode cX12_feed 20 = .ok (.aload_n 0, 1) := by decide +kernel
theorem dX12_feed_21 : decode cX12_feed 21 = .ok (.iload_n 2, 1) := by decide +kernel
theorem dX12_feed_22 : decode cX12_feed 22 = .ok (.invokevirtual 128, 3) := by decide +kernel
theorem dX12_feed_25 : decode cX12_feed 25 = .ok (.aload_n 0, 1) := by decide +kernel
theorem dX12_feed_26 : decode cX12_feed 26 = .ok (.iload_n 3, 1) := by decide +kernel
theorem dX12_feed_27 : decode cX12_feed 27 = .ok (.invokevirtual 128, 3) := by decide +kernel
theorem dX12_feed_30 : decode cX12_feed 30 = .ok (.aload_n 0, 1) := by decide +kernel
theorem dX12_feed_31 : decode cX12_feed 31 = .ok (.iload 4, 2) := by decide +kernel
theorem dX12_feed_33 : decode cX12_feed 33 = .ok (.invokevirtual 128, 3) := by decide +kernel
theorem dX12_feed_36 : decode cX12_feed 36 = .ok (.aload_n 0, 1) := by decide +kernel
theorem dX12_feed_37 : decode cX12_feed 37 = .ok (.iload 5, 2) := by decide +kernel
theorem dX12_feed_39 : decode cX12_feed 39 = .ok (.invokevirtual 128, 3) := by decide +kernel
theorem dX12_feed_42 : decode cX12_feed 42 = .ok (.aload_n 0, 1) := by decide +kernel
theorem dX12_feed_43 : decode cX12_feed 43 = .ok (.getfield 125, 3) := by decide +kernel
theorem dX12_feed_46 : decode cX12_feed 46 = .ok (.ireturn, 1) := by decide +kernel
theorem b_X12_feed (mm : MM) (Q : Value → MM → Prop) (a1 : Int32) (a2 : Int32) (a3 : Int32) (a4 : Int32) (a5 : Int32) (h : (((mm.1 156 0) + (20 : Int32)) ≤ (2000 : Int32) → (∃ Pm1 : Value → MM → Prop, Runs e_X12_typed [.ref 156, .int a1] mm Pm1 ∧ ∀ m1, Pm1 .null m1 → (∃ Pm2 : Value → MM → Prop, Runs e_X12_typed [.ref 156, .int a2] m1 Pm2 ∧ ∀ m2, Pm2 .null m2 → (∃ Pm3 : Value → MM → Prop, Runs e_X12_typed [.ref 156, .int a3] m2 Pm3 ∧ ∀ m3, Pm3 .null m3 → (∃ Pm4 : Value → MM → Prop, Runs e_X12_typed [.ref 156, .int a4] m3 Pm4 ∧ ∀ m4, Pm4 .null m4 → (∃ Pm5 : Value → MM → Prop, Runs e_X12_typed [.ref 156, .int a5] m4 Pm5 ∧ ∀ m5, Pm5 .null m5 → (Q (.int (m5.1 156 0)) m5))))))) ∧ (¬ ((mm.1 156 0) + (20 : Int32)) ≤ (2000 : Int32) → (Q (.int (-1 : Int32)) mm))) : Runs e_X12_feed [.ref 156, .int a1, .int a2, .int a3, .int a4, .int a5] mm Q := by
  refine runs_of_G (L := [(0, .ref 156), (1, .int a1), (2, .int a2), (3, .int a3), (4, .int a4), (5, .int a5)]) pl_X12 (Nat.le_of_ble_eq_true rfl) rfl ?_
  refine g_aload_n (pc := 0) (x := 156) dX12_feed_0 rfl ?_
  refine g_getI (pc := 1) dX12_feed_1 fo_X12_125 sh_156 rfl ?_
  refine g_bipush (pc := 4) (v := (20 : Int32)) dX12_feed_4 (by decide) ?_
  refine g_iadd (pc := 6) dX12_feed_6 ?_
  refine g_sipush (pc := 7) (v := (2000 : Int32)) dX12_feed_7 (by decide) ?_
  refine g_icmp_le (pc := 10) (tgt := 15) dX12_feed_10 (by decide) (fun c10 => ?_) (fun c10 => ?_)
  · have h := h.1 c10
    refine g_aload_n (pc := 15) (x := 156) dX12_feed_15 rfl ?_
    refine g_iload_n (pc := 16) (x := a1) dX12_feed_16 rfl ?_
    obtain ⟨Pm1, hRm1, h⟩ := h
    refine g_callV (pc := 17) (as := [.int a1]) dX12_feed_17 cw_X12_128 (by decide) rfl rfl sh_156 (Nat.le_of_ble_eq_true rfl) hRm1 ?_
    intro r_ m1 hz_ hp_
    obtain rfl := hz_
    have h := h m1 hp_
    refine g_aload_n (pc := 20) (x := 156) dX12_feed_20 rfl ?_
    refine g_iload_n (pc := 21) (x := a2) dX12_feed_21 rfl ?_
    obtain ⟨Pm2, hRm2, h⟩ := h
    refine g_callV (pc := 22) (as := [.int a2]) dX12_feed_22 cw_X12_128 (by decide) rfl rfl sh_156 (Nat.le_of_ble_eq_true rfl) hRm2 ?_
    intro r_ m2 hz_ hp_
    obtain rfl := hz_
    have h := h m2 hp_
    refine g_aload_n (pc := 25) (x := 156) dX12_feed_25 rfl ?_
    refine g_iload_n (pc := 26) (x := a3) dX12_feed_26 rfl ?_
    obtain ⟨Pm3, hRm3, h⟩ := h
    refine g_callV (pc := 27) (as := [.int a3]) dX12_feed_27 cw_X12_128 (by decide) rfl rfl sh_156 (Nat.le_of_ble_eq_true rfl) hRm3 ?_
    intro r_ m3 hz_ hp_
    obtain rfl := hz_
    have h := h m3 hp_
    refine g_aload_n (pc := 30) (x := 156) dX12_feed_30 rfl ?_
    refine g_iload (pc := 31) (x := a4) dX12_feed_31 rfl ?_
    obtain ⟨Pm4, hRm4, h⟩ := h
    refine g_callV (pc := 33) (as := [.int a4]) dX12_feed_33 cw_X12_128 (by decide) rfl rfl sh_156 (Nat.le_of_ble_eq_true rfl) hRm4 ?_
    intro r_ m4 hz_ hp_
    obtain rfl := hz_
    have h := h m4 hp_
    refine g_aload_n (pc := 36) (x := 156) dX12_feed_36 rfl ?_
    refine g_iload (pc := 37) (x := a5) dX12_feed_37 rfl ?_
    obtain ⟨Pm5, hRm5, h⟩ := h
    refine g_callV (pc := 39) (as := [.int a5]) dX12_feed_39 cw_X12_128 (by decide) rfl rfl sh_156 (Nat.le_of_ble_eq_true rfl) hRm5 ?_
    intro r_ m5 hz_ hp_
    obtain rfl := hz_
    have h := h m5 hp_
    refine g_aload_n (pc := 42) (x := 156) dX12_feed_42 rfl ?_
    refine g_getI (pc := 43) dX12_feed_43 fo_X12_125 sh_156 rfl ?_
    exact g_iret (pc := 46) dX12_feed_46 rfl rfl rfl h
  · have h := h.2 c10
    refine g_iconst (pc := 13) (v := (-1 : Int32)) dX12_feed_13 (by decide) ?_
    exact g_iret (pc := 14) dX12_feed_14 rfl rfl rfl h
theorem dX12_typed_0 : decode cX12_typed 0 = .ok (.iconst 0, 1) := by decide +kernel
theorem dX12_typed_1 : decode cX12_typed 1 = .ok (.istore_n 2, 1) := by decide +kernel
theorem dX12_typed_2 : decode cX12_typed 2 = .ok (.iload_n 2, 1) := by decide +kernel
theorem dX12_typed_3 : decode cX12_typed 3 = .ok (.iconst 4, 1) := by decide +kernel
theorem dX12_typed_4 : decode cX12_typed 4 = .ok (.if_icmp .ge 41, 3) := by decide +kernel
theorem dX12_typed_7 : decode cX12_typed 7 = .ok (.aload_n 0, 1) := by decide +kernel
theorem dX12_typed_8 : decode cX12_typed 8 = .ok (.getfield 7, 3) := by decide +kernel
theorem dX12_typed_11 : decode cX12_typed 11 = .ok (.aload_n 0, 1) := by decide +kernel
theorem dX12_typed_12 : decode cX12_typed 12 = .ok (.getfield 125, 3) := by decide +kernel
theorem dX12_typed_15 : decode cX12_typed 15 = .ok (.iload_n 1, 1) := by decide +kernel
theorem dX12_typed_16 : decode cX12_typed 16 = .ok (.bipush 24, 2) := by decide +kernel
theorem dX12_typed_18 : decode cX12_typed 18 = .ok (.bipush 8, 2) := by decide +kernel
theorem dX12_typed_20 : decode cX12_typed 20 = .ok (.iload_n 2, 1) := by decide +kernel
theorem dX12_typed_21 : decode cX12_typed 21 = .ok (.imul, 1) := by decide +kernel
theorem dX12_typed_22 : decode cX12_typed 22 = .ok (.isub, 1) := by decide +kernel
theorem dX12_typed_23 : decode cX12_typed 23 = .ok (.ishr, 1) := by decide +kernel
theorem dX12_typed_24 : decode cX12_typed 24 = .ok (.sipush 255, 3) := by decide +kernel
theorem dX12_typed_27 : decode cX12_typed 27 = .ok (.iand, 1) := by decide +kernel
theorem dX12_typed_28 : decode cX12_typed 28 = .ok (.iastore, 1) := by decide +kernel
theorem dX12_typed_29 : decode cX12_typed 29 = .ok (.aload_n 0, 1) := by decide +kernel
theorem dX12_typed_30 : decode cX12_typed 30 = .ok (.dup, 1) := by decide +kernel
theorem dX12_typed_31 : decode cX12_typed 31 = .ok (.getfield 125, 3) := by decide +kernel
theorem dX12_typed_34 : decode cX12_typed 34 = .ok (.iconst 1, 1) := by decide +kernel
theorem dX12_typed_35 : decode cX12_typed 35 = .ok (.iadd, 1) := by decide +kernel
theorem dX12_typed_36 : decode cX12_typed 36 = .ok (.putfield 125, 3) := by decide +kernel
theorem dX12_typed_39 : decode cX12_typed 39 = .ok (.iinc 2 1, 3) := by decide +kernel
theorem dX12_typed_42 : decode cX12_typed 42 = .ok (.goto (-40), 3) := by decide +kernel
theorem dX12_typed_45 : decode cX12_typed 45 = .ok (.return_, 1) := by decide +kernel
theorem b_X12_typed (mm : MM) (Q : Value → MM → Prop) (a1 : Int32) (h : G e_X12_typed 2 [(0, .ref 156), (1, .int a1), (2, .int (0 : Int32))] [] mm Q) : Runs e_X12_typed [.ref 156, .int a1] mm Q := by
  refine runs_of_G (L := [(0, .ref 156), (1, .int a1)]) pl_X12 (Nat.le_of_ble_eq_true rfl) rfl ?_
  refine g_iconst (pc := 0) (v := (0 : Int32)) dX12_typed_0 (by decide) ?_
  refine g_istore_n (pc := 1) (L' := [(0, .ref 156), (1, .int a1), (2, .int (0 : Int32))]) dX12_typed_1 (Nat.le_of_ble_eq_true rfl) rfl ?_
  exact h
theorem b_X12_typed_2 (mm : MM) (Q : Value → MM → Prop) (l1 : Int32) (l2 : Int32) (h : ((4 : Int32) ≤ l2 → (Q .null mm)) ∧ (¬ (4 : Int32) ≤ l2 → (vp_in (mm.1 156 0) 2000 ∧ (G e_X12_typed 2 [(0, .ref 156), (1, .int l1), (2, .int (l2 + (1 : Int32)))] [] (wI (wI mm 157 ((mm.1 156 0).toNatClampNeg) ((l1 >>> (((24 : Int32) - ((8 : Int32) * l2)) &&& 31)) &&& (255 : Int32))) 156 0 (((wI mm 157 ((mm.1 156 0).toNatClampNeg) ((l1 >>> (((24 : Int32) - ((8 : Int32) * l2)) &&& 31)) &&& (255 : Int32))).1 156 0) + (1 : Int32))) Q)))) : G e_X12_typed 2 [(0, .ref 156), (1, .int l1), (2, .int l2)] [] mm Q := by
  refine g_iload_n (pc := 2) (x := l2) dX12_typed_2 rfl ?_
  refine g_iconst (pc := 3) (v := (4 : Int32)) dX12_typed_3 (by decide) ?_
  refine g_icmp_ge (pc := 4) (tgt := 45) dX12_typed_4 (by decide) (fun c4 => ?_) (fun c4 => ?_)
  · have h := h.1 c4
    exact g_vret (pc := 45) dX12_typed_45 rfl rfl h
  · have h := h.2 c4
    refine g_aload_n (pc := 7) (x := 156) dX12_typed_7 rfl ?_
    refine g_getR (pc := 8) (dd := 1) dX12_typed_8 fo_X12_7 sh_156 rfl ?_
    refine g_aload_n (pc := 11) (x := 156) dX12_typed_11 rfl ?_
    refine g_getI (pc := 12) dX12_typed_12 fo_X12_125 sh_156 rfl ?_
    refine g_iload_n (pc := 15) (x := l1) dX12_typed_15 rfl ?_
    refine g_bipush (pc := 16) (v := (24 : Int32)) dX12_typed_16 (by decide) ?_
    refine g_bipush (pc := 18) (v := (8 : Int32)) dX12_typed_18 (by decide) ?_
    refine g_iload_n (pc := 20) (x := l2) dX12_typed_20 rfl ?_
    refine g_imul (pc := 21) dX12_typed_21 ?_
    refine g_isub (pc := 22) dX12_typed_22 ?_
    refine g_ishr (pc := 23) dX12_typed_23 ?_
    refine g_sipush (pc := 24) (v := (255 : Int32)) dX12_typed_24 (by decide) ?_
    refine g_iand (pc := 27) dX12_typed_27 ?_
    refine g_iastore (pc := 28) dX12_typed_28 sh_157 h.1 ?_
    have h := h.2
    refine g_aload_n (pc := 29) (x := 156) dX12_typed_29 rfl ?_
    refine g_dup (pc := 30) dX12_typed_30 rfl ?_
    refine g_getI (pc := 31) dX12_typed_31 fo_X12_125 sh_156 rfl ?_
    refine g_iconst (pc := 34) (v := (1 : Int32)) dX12_typed_34 (by decide) ?_
    refine g_iadd (pc := 35) dX12_typed_35 ?_
    refine g_putI (pc := 36) dX12_typed_36 fo_X12_125 sh_156 rfl rfl rfl ?_
    refine g_iinc (pc := 39) (x := l2) (v := (l2 + (1 : Int32))) (L' := [(0, .ref 156), (1, .int l1), (2, .int (l2 + (1 : Int32)))]) dX12_typed_39 rfl rfl (Nat.le_of_ble_eq_true rfl) rfl ?_
    refine g_goto (pc := 42) (tgt := 2) dX12_typed_42 (by decide) ?_
    exact h
theorem dX12_back_0 : decode cX12_back 0 = .ok (.iload_n 1, 1) := by decide +kernel
theorem dX12_back_1 : decode cX12_back 1 = .ok (.ifCond .lt 11, 3) := by decide +kernel
theorem dX12_back_4 : decode cX12_back 4 = .ok (.iload_n 1, 1) := by decide +kernel
theorem dX12_back_5 : decode cX12_back 5 = .ok (.aload_n 0, 1) := by decide +kernel
theorem dX12_back_6 : decode cX12_back 6 = .ok (.getfield 125, 3) := by decide +kernel
theorem dX12_back_9 : decode cX12_back 9 = .ok (.if_icmp .le 5, 3) := by decide +kernel
theorem dX12_back_12 : decode cX12_back 12 = .ok (.iconst (-1), 1) := by decide +kernel
theorem dX12_back_13 : decode cX12_back 13 = .ok (.ireturn, 1) := by decide +kernel
theorem dX12_back_14 : decode cX12_back 14 = .ok (.aload_n 0, 1) := by decide +kernel
theorem dX12_back_15 : decode cX12_back 15 = .ok (.aload_n 0, 1) := by decide +kernel
theorem dX12_back_16 : decode cX12_back 16 = .ok (.getfield 125, 3) := by decide +kernel
theorem dX12_back_19 : decode cX12_back 19 = .ok (.iload_n 1, 1) := by decide +kernel
theorem dX12_back_20 : decode cX12_back 20 = .ok (.isub, 1) := by decide +kernel
theorem dX12_back_21 : decode cX12_back 21 = .ok (.putfield 125, 3) := by decide +kernel
theorem dX12_back_24 : decode cX12_back 24 = .ok (.aload_n 0, 1) := by decide +kernel
theorem dX12_back_25 : decode cX12_back 25 = .ok (.getfield 125, 3) := by decide +kernel
theorem dX12_back_28 : decode cX12_back 28 = .ok (.ireturn, 1) := by decide +kernel
theorem b_X12_back (mm : MM) (Q : Value → MM → Prop) (a1 : Int32) (h : (a1 < 0 → (Q (.int (-1 : Int32)) mm)) ∧ (¬ a1 < 0 → ((a1 ≤ (mm.1 156 0) → (Q (.int ((wI mm 156 0 ((mm.1 156 0) - a1)).1 156 0)) (wI mm 156 0 ((mm.1 156 0) - a1)))) ∧ (¬ a1 ≤ (mm.1 156 0) → (Q (.int (-1 : Int32)) mm))))) : Runs e_X12_back [.ref 156, .int a1] mm Q := by
  refine runs_of_G (L := [(0, .ref 156), (1, .int a1)]) pl_X12 (Nat.le_of_ble_eq_true rfl) rfl ?_
  refine g_iload_n (pc := 0) (x := a1) dX12_back_0 rfl ?_
  refine g_if_lt (pc := 1) (tgt := 12) dX12_back_1 (by decide) (fun c1 => ?_) (fun c1 => ?_)
  · have h := h.1 c1
    refine g_iconst (pc := 12) (v := (-1 : Int32)) dX12_back_12 (by decide) ?_
    exact g_iret (pc := 13) dX12_back_13 rfl rfl rfl h
  · have h := h.2 c1
    refine g_iload_n (pc := 4) (x := a1) dX12_back_4 rfl ?_
    refine g_aload_n (pc := 5) (x := 156) dX12_back_5 rfl ?_
    refine g_getI (pc := 6) dX12_back_6 fo_X12_125 sh_156 rfl ?_
    refine g_icmp_le (pc := 9) (tgt := 14) dX12_back_9 (by decide) (fun c9 => ?_) (fun c9 => ?_)
    · have h := h.1 c9
      refine g_aload_n (pc := 14) (x := 156) dX12_back_14 rfl ?_
      refine g_aload_n (pc := 15) (x := 156) dX12_back_15 rfl ?_
      refine g_getI (pc := 16) dX12_back_16 fo_X12_125 sh_156 rfl ?_
      refine g_iload_n (pc := 19) (x := a1) dX12_back_19 rfl ?_
      refine g_isub (pc := 20) dX12_back_20 ?_
      refine g_putI (pc := 21) dX12_back_21 fo_X12_125 sh_156 rfl rfl rfl ?_
      refine g_aload_n (pc := 24) (x := 156) dX12_back_24 rfl ?_
      refine g_getI (pc := 25) dX12_back_25 fo_X12_125 sh_156 rfl ?_
      exact g_iret (pc := 28) dX12_back_28 rfl rfl rfl h
    · have h := h.2 c9
      refine g_iconst (pc := 12) (v := (-1 : Int32)) dX12_back_12 (by decide) ?_
      exact g_iret (pc := 13) dX12_back_13 rfl rfl rfl h
theorem dX12_byteAt_0 : decode cX12_byteAt 0 = .ok (.iload_n 1, 1) := by decide +kernel
theorem dX12_byteAt_1 : decode cX12_byteAt 1 = .ok (.aload_n 0, 1) := by decide +kernel
theorem dX12_byteAt_2 : decode cX12_byteAt 2 = .ok (.getfield 125, 3) := by decide +kernel
theorem dX12_byteAt_5 : decode cX12_byteAt 5 = .ok (.if_icmp .ge 12, 3) := by decide +kernel
theorem dX12_byteAt_8 : decode cX12_byteAt 8 = .ok (.aload_n 0, 1) := by decide +kernel
theorem dX12_byteAt_9 : decode cX12_byteAt 9 = .ok (.getfield 7, 3) := by decide +kernel
theorem dX12_byteAt_12 : decode cX12_byteAt 12 = .ok (.iload_n 1, 1) := by decide +kernel
theorem dX12_byteAt_13 : decode cX12_byteAt 13 = .ok (.iaload, 1) := by decide +kernel
theorem dX12_byteAt_14 : decode cX12_byteAt 14 = .ok (.goto 4, 3) := by decide +kernel
theorem dX12_byteAt_17 : decode cX12_byteAt 17 = .ok (.iconst 0, 1) := by decide +kernel
theorem dX12_byteAt_18 : decode cX12_byteAt 18 = .ok (.ireturn, 1) := by decide +kernel
def o_X12_byteAt (mm : MM) (a1 : Int32) : Prop := ((mm.1 156 0) ≤ a1 → (True)) ∧ (¬ (mm.1 156 0) ≤ a1 → (vp_in a1 2000 ∧ (True)))
noncomputable def v_X12_byteAt (mm : MM) (a1 : Int32) : Int32 := (cite ((mm.1 156 0) ≤ a1) (0 : Int32) (mm.1 157 a1.toNatClampNeg))
theorem rv_X12_byteAt (mm : MM) (a1 : Int32) (h : o_X12_byteAt mm a1) : Runs e_X12_byteAt [.ref 156, .int a1] mm (fun r m_ => r = .int (v_X12_byteAt mm a1) ∧ mm = m_) := by
  refine runs_of_G (L := [(0, .ref 156), (1, .int a1)]) pl_X12 (Nat.le_of_ble_eq_true rfl) rfl ?_
  unfold o_X12_byteAt at h
  refine g_iload_n (pc := 0) (x := a1) dX12_byteAt_0 rfl ?_
  refine g_aload_n (pc := 1) (x := 156) dX12_byteAt_1 rfl ?_
  refine g_getI (pc := 2) dX12_byteAt_2 fo_X12_125 sh_156 rfl ?_
  refine g_icmp_ge (pc := 5) (tgt := 17) dX12_byteAt_5 (by decide) (fun c5 => ?_) (fun c5 => ?_)
  · have c5_0 : (mm.1 156 0) ≤ a1 := c5
    have h := h.1 c5
    refine g_iconst (pc := 17) (v := (0 : Int32)) dX12_byteAt_17 (by decide) ?_
    exact g_iret (pc := 18) dX12_byteAt_18 rfl rfl rfl ⟨(by unfold v_X12_byteAt; rw [cite_pos c5_0] <;> rfl), rfl⟩
  · have c5_0 : ¬ (mm.1 156 0) ≤ a1 := c5
    have h := h.2 c5
    refine g_aload_n (pc := 8) (x := 156) dX12_byteAt_8 rfl ?_
    refine g_getR (pc := 9) (dd := 1) dX12_byteAt_9 fo_X12_7 sh_156 rfl ?_
    refine g_iload_n (pc := 12) (x := a1) dX12_byteAt_12 rfl ?_
    refine g_iaload (pc := 13) dX12_byteAt_13 sh_157 h.1 ?_
    have h := h.2
    refine g_goto (pc := 14) (tgt := 18) dX12_byteAt_14 (by decide) ?_
    exact g_iret (pc := 18) dX12_byteAt_18 rfl rfl rfl ⟨(by unfold v_X12_byteAt; rw [cite_neg c5_0] <;> rfl), rfl⟩
theorem dX12_isLetter_0 : decode cX12_isLetter 0 = .ok (.aload_n 0, 1) := by decide +kernel
theorem dX12_isLetter_1 : decode cX12_isLetter 1 = .ok (.iload_n 1, 1) := by decide +kernel
theorem dX12_isLetter_2 : decode cX12_isLetter 2 = .ok (.invokevirtual 131, 3) := by decide +kernel
theorem dX12_isLetter_5 : decode cX12_isLetter 5 = .ok (.bipush 97, 2) := by decide +kernel
theorem dX12_isLetter_7 : decode cX12_isLetter 7 = .ok (.if_icmp .lt 17, 3) := by decide +kernel
theorem dX12_isLetter_10 : decode cX12_isLetter 10 = .ok (.aload_n 0, 1) := by decide +kernel
theorem dX12_isLetter_11 : decode cX12_isLetter 11 = .ok (.iload_n 1, 1) := by decide +kernel
theorem dX12_isLetter_12 : decode cX12_isLetter 12 = .ok (.invokevirtual 131, 3) := by decide +kernel
theorem dX12_isLetter_15 : decode cX12_isLetter 15 = .ok (.bipush 122, 2) := by decide +kernel
theorem dX12_isLetter_17 : decode cX12_isLetter 17 = .ok (.if_icmp .gt 7, 3) := by decide +kernel
theorem dX12_isLetter_20 : decode cX12_isLetter 20 = .ok (.iconst 1, 1) := by decide +kernel
theorem dX12_isLetter_21 : decode cX12_isLetter 21 = .ok (.goto 4, 3) := by decide +kernel
theorem dX12_isLetter_24 : decode cX12_isLetter 24 = .ok (.iconst 0, 1) := by decide +kernel
theorem dX12_isLetter_25 : decode cX12_isLetter 25 = .ok (.ireturn, 1) := by decide +kernel
def o_X12_isLetter (mm : MM) (a1 : Int32) : Prop := o_X12_byteAt mm a1 ∧ (((v_X12_byteAt mm a1) < (97 : Int32) → (True)) ∧ (¬ (v_X12_byteAt mm a1) < (97 : Int32) → (o_X12_byteAt mm a1 ∧ (((122 : Int32) < (v_X12_byteAt mm a1) → (True)) ∧ (¬ (122 : Int32) < (v_X12_byteAt mm a1) → (True))))))
def p_X12_isLetter (mm : MM) (a1 : Int32) : Prop := (¬ (v_X12_byteAt mm a1) < (97 : Int32) ∧ ¬ (122 : Int32) < (v_X12_byteAt mm a1))
theorem rv_X12_isLetter (mm : MM) (a1 : Int32) (h : o_X12_isLetter mm a1) : Runs e_X12_isLetter [.ref 156, .int a1] mm (fun r m_ => ((p_X12_isLetter mm a1 ∧ r = .int 1) ∨ (¬ p_X12_isLetter mm a1 ∧ r = .int 0)) ∧ mm = m_) := by
  refine runs_of_G (L := [(0, .ref 156), (1, .int a1)]) pl_X12 (Nat.le_of_ble_eq_true rfl) rfl ?_
  unfold o_X12_isLetter at h
  refine g_aload_n (pc := 0) (x := 156) dX12_isLetter_0 rfl ?_
  refine g_iload_n (pc := 1) (x := a1) dX12_isLetter_1 rfl ?_
  refine g_callV (pc := 2) (as := [.int a1]) dX12_isLetter_2 cw_X12_131 (by decide) rfl rfl sh_156 (Nat.le_of_ble_eq_true rfl) (rv_X12_byteAt mm a1 h.1) ?_
  have h := h.2
  rintro r_ m_ hz_ ⟨rfl, rfl⟩
  refine g_bipush (pc := 5) (v := (97 : Int32)) dX12_isLetter_5 (by decide) ?_
  refine g_icmp_lt (pc := 7) (tgt := 24) dX12_isLetter_7 (by decide) (fun c7 => ?_) (fun c7 => ?_)
  · have c7_0 : (v_X12_byteAt mm a1) < (97 : Int32) := c7
    have h := h.1 c7
    refine g_iconst (pc := 24) (v := (0 : Int32)) dX12_isLetter_24 (by decide) ?_
    exact g_iret (pc := 25) dX12_isLetter_25 rfl rfl (nar_B isB0) ⟨Or.inr ⟨(show ¬ p_X12_isLetter mm a1 from (fun h_ => (h_.1 c7_0))), rfl⟩, rfl⟩
  · have c7_0 : ¬ (v_X12_byteAt mm a1) < (97 : Int32) := c7
    have h := h.2 c7
    refine g_aload_n (pc := 10) (x := 156) dX12_isLetter_10 rfl ?_
    refine g_iload_n (pc := 11) (x := a1) dX12_isLetter_11 rfl ?_
    refine g_callV (pc := 12) (as := [.int a1]) dX12_isLetter_12 cw_X12_131 (by decide) rfl rfl sh_156 (Nat.le_of_ble_eq_true rfl) (rv_X12_byteAt mm a1 h.1) ?_
    have h := h.2
    rintro r_ m_ hz_ ⟨rfl, rfl⟩
    refine g_bipush (pc := 15) (v := (122 : Int32)) dX12_isLetter_15 (by decide) ?_
    refine g_icmp_gt (pc := 17) (tgt := 24) dX12_isLetter_17 (by decide) (fun c17 => ?_) (fun c17 => ?_)
    · have c17_1 : (122 : Int32) < (v_X12_byteAt mm a1) := c17
      refine g_iconst (pc := 24) (v := (0 : Int32)) dX12_isLetter_24 (by decide) ?_
      exact g_iret (pc := 25) dX12_isLetter_25 rfl rfl (nar_B isB0) ⟨Or.inr ⟨(show ¬ p_X12_isLetter mm a1 from (fun h_ => (not_not_intro c17_1) h_.2)), rfl⟩, rfl⟩
    · have c17_1 : ¬ (122 : Int32) < (v_X12_byteAt mm a1) := c17
      refine g_iconst (pc := 20) (v := (1 : Int32)) dX12_isLetter_20 (by decide) ?_
      refine g_goto (pc := 21) (tgt := 25) dX12_isLetter_21 (by decide) ?_
      exact g_iret (pc := 25) dX12_isLetter_25 rfl rfl (nar_B isB1) ⟨Or.inl ⟨(show p_X12_isLetter mm a1 from ⟨c7_0, c17_1⟩), rfl⟩, rfl⟩
theorem dX12_isDigit_0 : decode cX12_isDigit 0 = .ok (.aload_n 0, 1) := by decide +kernel
theorem dX12_isDigit_1 : decode cX12_isDigit 1 = .ok (.iload_n 1, 1) := by decide +kernel
theorem dX12_isDigit_2 : decode cX12_isDigit 2 = .ok (.invokevirtual 131, 3) := by decide +kernel
theorem dX12_isDigit_5 : decode cX12_isDigit 5 = .ok (.bipush 48, 2) := by decide +kernel
theorem dX12_isDigit_7 : decode cX12_isDigit 7 = .ok (.if_icmp .lt 17, 3) := by decide +kernel
theorem dX12_isDigit_10 : decode cX12_isDigit 10 = .ok (.aload_n 0, 1) := by decide +kernel
theorem dX12_isDigit_11 : decode cX12_isDigit 11 = .ok (.iload_n 1, 1) := by decide +kernel
theorem dX12_isDigit_12 : decode cX12_isDigit 12 = .ok (.invokevirtual 131, 3) := by decide +kernel
theorem dX12_isDigit_15 : decode cX12_isDigit 15 = .ok (.bipush 57, 2) := by decide +kernel
theorem dX12_isDigit_17 : decode cX12_isDigit 17 = .ok (.if_icmp .gt 7, 3) := by decide +kernel
theorem dX12_isDigit_20 : decode cX12_isDigit 20 = .ok (.iconst 1, 1) := by decide +kernel
theorem dX12_isDigit_21 : decode cX12_isDigit 21 = .ok (.goto 4, 3) := by decide +kernel
theorem dX12_isDigit_24 : decode cX12_isDigit 24 = .ok (.iconst 0, 1) := by decide +kernel
theorem dX12_isDigit_25 : decode cX12_isDigit 25 = .ok (.ireturn, 1) := by decide +kernel
def o_X12_isDigit (mm : MM) (a1 : Int32) : Prop := o_X12_byteAt mm a1 ∧ (((v_X12_byteAt mm a1) < (48 : Int32) → (True)) ∧ (¬ (v_X12_byteAt mm a1) < (48 : Int32) → (o_X12_byteAt mm a1 ∧ (((57 : Int32) < (v_X12_byteAt mm a1) → (True)) ∧ (¬ (57 : Int32) < (v_X12_byteAt mm a1) → (True))))))
def p_X12_isDigit (mm : MM) (a1 : Int32) : Prop := (¬ (v_X12_byteAt mm a1) < (48 : Int32) ∧ ¬ (57 : Int32) < (v_X12_byteAt mm a1))
theorem rv_X12_isDigit (mm : MM) (a1 : Int32) (h : o_X12_isDigit mm a1) : Runs e_X12_isDigit [.ref 156, .int a1] mm (fun r m_ => ((p_X12_isDigit mm a1 ∧ r = .int 1) ∨ (¬ p_X12_isDigit mm a1 ∧ r = .int 0)) ∧ mm = m_) := by
  refine runs_of_G (L := [(0, .ref 156), (1, .int a1)]) pl_X12 (Nat.le_of_ble_eq_true rfl) rfl ?_
  unfold o_X12_isDigit at h
  refine g_aload_n (pc := 0) (x := 156) dX12_isDigit_0 rfl ?_
  refine g_iload_n (pc := 1) (x := a1) dX12_isDigit_1 rfl ?_
  refine g_callV (pc := 2) (as := [.int a1]) dX12_isDigit_2 cw_X12_131 (by decide) rfl rfl sh_156 (Nat.le_of_ble_eq_true rfl) (rv_X12_byteAt mm a1 h.1) ?_
  have h := h.2
  rintro r_ m_ hz_ ⟨rfl, rfl⟩
  refine g_bipush (pc := 5) (v := (48 : Int32)) dX12_isDigit_5 (by decide) ?_
  refine g_icmp_lt (pc := 7) (tgt := 24) dX12_isDigit_7 (by decide) (fun c7 => ?_) (fun c7 => ?_)
  · have c7_0 : (v_X12_byteAt mm a1) < (48 : Int32) := c7
    have h := h.1 c7
    refine g_iconst (pc := 24) (v := (0 : Int32)) dX12_isDigit_24 (by decide) ?_
    exact g_iret (pc := 25) dX12_isDigit_25 rfl rfl (nar_B isB0) ⟨Or.inr ⟨(show ¬ p_X12_isDigit mm a1 from (fun h_ => (h_.1 c7_0))), rfl⟩, rfl⟩
  · have c7_0 : ¬ (v_X12_byteAt mm a1) < (48 : Int32) := c7
    have h := h.2 c7
    refine g_aload_n (pc := 10) (x := 156) dX12_isDigit_10 rfl ?_
    refine g_iload_n (pc := 11) (x := a1) dX12_isDigit_11 rfl ?_
    refine g_callV (pc := 12) (as := [.int a1]) dX12_isDigit_12 cw_X12_131 (by decide) rfl rfl sh_156 (Nat.le_of_ble_eq_true rfl) (rv_X12_byteAt mm a1 h.1) ?_
    have h := h.2
    rintro r_ m_ hz_ ⟨rfl, rfl⟩
    refine g_bipush (pc := 15) (v := (57 : Int32)) dX12_isDigit_15 (by decide) ?_
    refine g_icmp_gt (pc := 17) (tgt := 24) dX12_isDigit_17 (by decide) (fun c17 => ?_) (fun c17 => ?_)
    · have c17_1 : (57 : Int32) < (v_X12_byteAt mm a1) := c17
      refine g_iconst (pc := 24) (v := (0 : Int32)) dX12_isDigit_24 (by decide) ?_
      exact g_iret (pc := 25) dX12_isDigit_25 rfl rfl (nar_B isB0) ⟨Or.inr ⟨(show ¬ p_X12_isDigit mm a1 from (fun h_ => (not_not_intro c17_1) h_.2)), rfl⟩, rfl⟩
    · have c17_1 : ¬ (57 : Int32) < (v_X12_byteAt mm a1) := c17
      refine g_iconst (pc := 20) (v := (1 : Int32)) dX12_isDigit_20 (by decide) ?_
      refine g_goto (pc := 21) (tgt := 25) dX12_isDigit_21 (by decide) ?_
      exact g_iret (pc := 25) dX12_isDigit_25 rfl rfl (nar_B isB1) ⟨Or.inl ⟨(show p_X12_isDigit mm a1 from ⟨c7_0, c17_1⟩), rfl⟩, rfl⟩
theorem dX12_token_0 : decode cX12_token 0 = .ok (.aload_n 0, 1) := by decide +kernel
theorem dX12_token_1 : decode cX12_token 1 = .ok (.getfield 13, 3) := by decide +kernel
theorem dX12_token_4 : decode cX12_token 4 = .ok (.aload_n 0, 1) := by decide +kernel
theorem dX12_token_5 : decode cX12_token 5 = .ok (.getfield 135, 3) := by decide +kernel
theorem dX12_token_8 : decode cX12_token 8 = .ok (.iload_n 1, 1) := by decide +kernel
theorem dX12_token_9 : decode cX12_token 9 = .ok (.iastore, 1) := by decide +kernel
theorem dX12_token_10 : decode cX12_token 10 = .ok (.aload_n 0, 1) := by decide +kernel
theorem dX12_token_11 : decode cX12_token 11 = .ok (.getfield 16, 3) := by decide +kernel
theorem dX12_token_14 : decode cX12_token 14 = .ok (.aload_n 0, 1) := by decide +kernel
theorem dX12_token_15 : decode cX12_token 15 = .ok (.getfield 135, 3) := by decide +kernel
theorem dX12_token_18 : decode cX12_token 18 = .ok (.iload_n 2, 1) := by decide +kernel
theorem dX12_token_19 : decode cX12_token 19 = .ok (.iastore, 1) := by decide +kernel
theorem dX12_token_20 : decode cX12_token 20 = .ok (.aload_n 0, 1) := by decide +kernel
theorem dX12_token_21 : decode cX12_token 21 = .ok (.getfield 19, 3) := by decide +kernel
theorem dX12_token_24 : decode cX12_token 24 = .ok (.aload_n 0, 1) := by decide +kernel
theorem dX12_token_25 : decode cX12_token 25 = .ok (.getfield 135, 3) := by decide +kernel
theorem dX12_token_28 : decode cX12_token 28 = .ok (.iload_n 3, 1) := by decide +kernel
theorem dX12_token_29 : decode cX12_token 29 = .ok (.iastore, 1) := by decide +kernel
theorem dX12_token_30 : decode cX12_token 30 = .ok (.aload_n 0, 1) := by decide +kernel
theorem dX12_token_31 : decode cX12_token 31 = .ok (.dup, 1) := by decide +kernel
theorem dX12_token_32 : decode cX12_token 32 = .ok (.getfield 135, 3) := by decide +kernel
theorem dX12_token_35 : decode cX12_token 35 = .ok (.iconst 1, 1) := by decide +kernel
theorem dX12_token_36 : decode cX12_token 36 = .ok (.iadd, 1) := by decide +kernel
theorem dX12_token_37 : decode cX12_token 37 = .ok (.putfield 135, 3) := by decide +kernel
theorem dX12_token_40 : decode cX12_token 40 = .ok (.return_, 1) := by decide +kernel
theorem b_X12_token (mm : MM) (Q : Value → MM → Prop) (a1 : Int32) (a2 : Int32) (a3 : Int32) (h : vp_in (mm.1 156 2) 2001 ∧ (vp_in ((wI mm 158 ((mm.1 156 2).toNatClampNeg) a1).1 156 2) 2001 ∧ (vp_in ((wI (wI mm 158 ((mm.1 156 2).toNatClampNeg) a1) 159 (((wI mm 158 ((mm.1 156 2).toNatClampNeg) a1).1 156 2).toNatClampNeg) a2).1 156 2) 2001 ∧ (Q .null (wI (wI (wI (wI mm 158 ((mm.1 156 2).toNatClampNeg) a1) 159 (((wI mm 158 ((mm.1 156 2).toNatClampNeg) a1).1 156 2).toNatClampNeg) a2) 160 (((wI (wI mm 158 ((mm.1 156 2).toNatClampNeg) a1) 159 (((wI mm 158 ((mm.1 156 2).toNatClampNeg) a1).1 156 2).toNatClampNeg) a2).1 156 2).toNatClampNeg) a3) 156 2 (((wI (wI (wI mm 158 ((mm.1 156 2).toNatClampNeg) a1) 159 (((wI mm 158 ((mm.1 156 2).toNatClampNeg) a1).1 156 2).toNatClampNeg) a2) 160 (((wI (wI mm 158 ((mm.1 156 2).toNatClampNeg) a1) 159 (((wI mm 158 ((mm.1 156 2).toNatClampNeg) a1).1 156 2).toNatClampNeg) a2).1 156 2).toNatClampNeg) a3).1 156 2) + (1 : Int32))))))) : Runs e_X12_token [.ref 156, .int a1, .int a2, .int a3] mm Q := by
  refine runs_of_G (L := [(0, .ref 156), (1, .int a1), (2, .int a2), (3, .int a3)]) pl_X12 (Nat.le_of_ble_eq_true rfl) rfl ?_
  refine g_aload_n (pc := 0) (x := 156) dX12_token_0 rfl ?_
  refine g_getR (pc := 1) (dd := 2) dX12_token_1 fo_X12_13 sh_156 rfl ?_
  refine g_aload_n (pc := 4) (x := 156) dX12_token_4 rfl ?_
  refine g_getI (pc := 5) dX12_token_5 fo_X12_135 sh_156 rfl ?_
  refine g_iload_n (pc := 8) (x := a1) dX12_token_8 rfl ?_
  refine g_iastore (pc := 9) dX12_token_9 sh_158 h.1 ?_
  have h := h.2
  refine g_aload_n (pc := 10) (x := 156) dX12_token_10 rfl ?_
  refine g_getR (pc := 11) (dd := 3) dX12_token_11 fo_X12_16 sh_156 rfl ?_
  refine g_aload_n (pc := 14) (x := 156) dX12_token_14 rfl ?_
  refine g_getI (pc := 15) dX12_token_15 fo_X12_135 sh_156 rfl ?_
  refine g_iload_n (pc := 18) (x := a2) dX12_token_18 rfl ?_
  refine g_iastore (pc := 19) dX12_token_19 sh_159 h.1 ?_
  have h := h.2
  refine g_aload_n (pc := 20) (x := 156) dX12_token_20 rfl ?_
  refine g_getR (pc := 21) (dd := 4) dX12_token_21 fo_X12_19 sh_156 rfl ?_
  refine g_aload_n (pc := 24) (x := 156) dX12_token_24 rfl ?_
  refine g_getI (pc := 25) dX12_token_25 fo_X12_135 sh_156 rfl ?_
  refine g_iload_n (pc := 28) (x := a3) dX12_token_28 rfl ?_
  refine g_iastore (pc := 29) dX12_token_29 sh_160 h.1 ?_
  have h := h.2
  refine g_aload_n (pc := 30) (x := 156) dX12_token_30 rfl ?_
  refine g_dup (pc := 31) dX12_token_31 rfl ?_
  refine g_getI (pc := 32) dX12_token_32 fo_X12_135 sh_156 rfl ?_
  refine g_iconst (pc := 35) (v := (1 : Int32)) dX12_token_35 (by decide) ?_
  refine g_iadd (pc := 36) dX12_token_36 ?_
  refine g_putI (pc := 37) dX12_token_37 fo_X12_135 sh_156 rfl rfl rfl ?_
  exact g_vret (pc := 40) dX12_token_40 rfl rfl h
theorem dX12_wordOf_0 : decode cX12_wordOf 0 = .ok (.lload_n 0, 1) := by decide +kernel
theorem dX12_wordOf_1 : decode cX12_wordOf 1 = .ok (.ldc2_w 138, 3) := by decide +kernel
theorem dX12_wordOf_4 : decode cX12_wordOf 4 = .ok (.lcmp, 1) := by decide +kernel
theorem dX12_wordOf_5 : decode cX12_wordOf 5 = .ok (.ifCond .ne 5, 3) := by decide +kernel
theorem dX12_wordOf_8 : decode cX12_wordOf 8 = .ok (.iconst 0, 1) := by decide +kernel
theorem dX12_wordOf_9 : decode cX12_wordOf 9 = .ok (.ireturn, 1) := by decide +kernel
theorem dX12_wordOf_10 : decode cX12_wordOf 10 = .ok (.lload_n 0, 1) := by decide +kernel
theorem dX12_wordOf_11 : decode cX12_wordOf 11 = .ok (.ldc2_w 140, 3) := by decide +kernel
theorem dX12_wordOf_14 : decode cX12_wordOf 14 = .ok (.lcmp, 1) := by decide +kernel
theorem dX12_wordOf_15 : decode cX12_wordOf 15 = .ok (.ifCond .ne 5, 3) := by decide +kernel
theorem dX12_wordOf_18 : decode cX12_wordOf 18 = .ok (.iconst 1, 1) := by decide +kernel
theorem dX12_wordOf_19 : decode cX12_wordOf 19 = .ok (.ireturn, 1) := by decide +kernel
theorem dX12_wordOf_20 : decode cX12_wordOf 20 = .ok (.lload_n 0, 1) := by decide +kernel
theorem dX12_wordOf_21 : decode cX12_wordOf 21 = .ok (.ldc2_w 142, 3) := by decide +kernel
theorem dX12_wordOf_24 : decode cX12_wordOf 24 = .ok (.lcmp, 1) := by decide +kernel
theorem dX12_wordOf_25 : decode cX12_wordOf 25 = .ok (.ifCond .ne 5, 3) := by decide +kernel
theorem dX12_wordOf_28 : decode cX12_wordOf 28 = .ok (.iconst 2, 1) := by decide +kernel
theorem dX12_wordOf_29 : decode cX12_wordOf 29 = .ok (.ireturn, 1) := by decide +kernel
theorem dX12_wordOf_30 : decode cX12_wordOf 30 = .ok (.lload_n 0, 1) := by decide +kernel
theorem dX12_wordOf_31 : decode cX12_wordOf 31 = .ok (.ldc2_w 144, 3) := by decide +kernel
theorem dX12_wordOf_34 : decode cX12_wordOf 34 = .ok (.lcmp, 1) := by decide +kernel
theorem dX12_wordOf_35 : decode cX12_wordOf 35 = .ok (.ifCond .ne 5, 3) := by decide +kernel
theorem dX12_wordOf_38 : decode cX12_wordOf 38 = .ok (.iconst 3, 1) := by decide +kernel
theorem dX12_wordOf_39 : decode cX12_wordOf 39 = .ok (.ireturn, 1) := by decide +kernel
theorem dX12_wordOf_40 : decode cX12_wordOf 40 = .ok (.lload_n 0, 1) := by decide +kernel
theorem dX12_wordOf_41 : decode cX12_wordOf 41 = .ok (.ldc2_w 146, 3) := by decide +kernel
theorem dX12_wordOf_44 : decode cX12_wordOf 44 = .ok (.lcmp, 1) := by decide +kernel
theorem dX12_wordOf_45 : decode cX12_wordOf 45 = .ok (.ifCond .ne 5, 3) := by decide +kernel
theorem dX12_wordOf_48 : decode cX12_wordOf 48 = .ok (.iconst 4, 1) := by decide +kernel
theorem dX12_wordOf_49 : decode cX12_wordOf 49 = .ok (.ireturn, 1) := by decide +kernel
theorem dX12_wordOf_50 : decode cX12_wordOf 50 = .ok (.lload_n 0, 1) := by decide +kernel
theorem dX12_wordOf_51 : decode cX12_wordOf 51 = .ok (.ldc2_w 148, 3) := by decide +kernel
theorem dX12_wordOf_54 : decode cX12_wordOf 54 = .ok (.lcmp, 1) := by decide +kernel
theorem dX12_wordOf_55 : decode cX12_wordOf 55 = .ok (.ifCond .ne 5, 3) := by decide +kernel
theorem dX12_wordOf_58 : decode cX12_wordOf 58 = .ok (.iconst 5, 1) := by decide +kernel
theorem dX12_wordOf_59 : decode cX12_wordOf 59 = .ok (.ireturn, 1) := by decide +kernel
theorem dX12_wordOf_60 : decode cX12_wordOf 60 = .ok (.lload_n 0, 1) := by decide +kernel
theorem dX12_wordOf_61 : decode cX12_wordOf 61 = .ok (.ldc2_w 150, 3) := by decide +kernel
theorem dX12_wordOf_64 : decode cX12_wordOf 64 = .ok (.lcmp, 1) := by decide +kernel
theorem dX12_wordOf_65 : decode cX12_wordOf 65 = .ok (.ifCond .ne 6, 3) := by decide +kernel
theorem dX12_wordOf_68 : decode cX12_wordOf 68 = .ok (.bipush 6, 2) := by decide +kernel
theorem dX12_wordOf_70 : decode cX12_wordOf 70 = .ok (.ireturn, 1) := by decide +kernel
theorem dX12_wordOf_71 : decode cX12_wordOf 71 = .ok (.lload_n 0, 1) := by decide +kernel
theorem dX12_wordOf_72 : decode cX12_wordOf 72 = .ok (.ldc2_w 152, 3) := by decide +kernel
theorem dX12_wordOf_75 : decode cX12_wordOf 75 = .ok (.lcmp, 1) := by decide +kernel
theorem dX12_wordOf_76 : decode cX12_wordOf 76 = .ok (.ifCond .ne 6, 3) := by decide +kernel
theorem dX12_wordOf_79 : decode cX12_wordOf 79 = .ok (.bipush 7, 2) := by decide +kernel
theorem dX12_wordOf_81 : decode cX12_wordOf 81 = .ok (.ireturn, 1) := by decide +kernel
theorem dX12_wordOf_82 : decode cX12_wordOf 82 = .ok (.lload_n 0, 1) := by decide +kernel
theorem dX12_wordOf_83 : decode cX12_wordOf 83 = .ok (.ldc2_w 154, 3) := by decide +kernel
theorem dX12_wordOf_86 : decode cX12_wordOf 86 = .ok (.lcmp, 1) := by decide +kernel
theorem dX12_wordOf_87 : decode cX12_wordOf 87 = .ok (.ifCond .ne 6, 3) := by decide +kernel
theorem dX12_wordOf_90 : decode cX12_wordOf 90 = .ok (.bipush 8, 2) := by decide +kernel
theorem dX12_wordOf_92 : decode cX12_wordOf 92 = .ok (.ireturn, 1) := by decide +kernel
theorem dX12_wordOf_93 : decode cX12_wordOf 93 = .ok (.lload_n 0, 1) := by decide +kernel
theorem dX12_wordOf_94 : decode cX12_wordOf 94 = .ok (.ldc2_w 156, 3) := by decide +kernel
theorem dX12_wordOf_97 : decode cX12_wordOf 97 = .ok (.lcmp, 1) := by decide +kernel
theorem dX12_wordOf_98 : decode cX12_wordOf 98 = .ok (.ifCond .ne 6, 3) := by decide +kernel
theorem dX12_wordOf_101 : decode cX12_wordOf 101 = .ok (.bipush 9, 2) := by decide +kernel
theorem dX12_wordOf_103 : decode cX12_wordOf 103 = .ok (.ireturn, 1) := by decide +kernel
theorem dX12_wordOf_104 : decode cX12_wordOf 104 = .ok (.lload_n 0, 1) := by decide +kernel
theorem dX12_wordOf_105 : decode cX12_wordOf 105 = .ok (.ldc2_w 158, 3) := by decide +kernel
theorem dX12_wordOf_108 : decode cX12_wordOf 108 = .ok (.lcmp, 1) := by decide +kernel
theorem dX12_wordOf_109 : decode cX12_wordOf 109 = .ok (.ifCond .ne 6, 3) := by decide +kernel
theorem dX12_wordOf_112 : decode cX12_wordOf 112 = .ok (.bipush 10, 2) := by decide +kernel
theorem dX12_wordOf_114 : decode cX12_wordOf 114 = .ok (.ireturn, 1) := by decide +kernel
theorem dX12_wordOf_115 : decode cX12_wordOf 115 = .ok (.lload_n 0, 1) := by decide +kernel
theorem dX12_wordOf_116 : decode cX12_wordOf 116 = .ok (.ldc2_w 160, 3) := by decide +kernel
theorem dX12_wordOf_119 : decode cX12_wordOf 119 = .ok (.lcmp, 1) := by decide +kernel
theorem dX12_wordOf_120 : decode cX12_wordOf 120 = .ok (.ifCond .ne 6, 3) := by decide +kernel
theorem dX12_wordOf_123 : decode cX12_wordOf 123 = .ok (.bipush 11, 2) := by decide +kernel
theorem dX12_wordOf_125 : decode cX12_wordOf 125 = .ok (.ireturn, 1) := by decide +kernel
theorem dX12_wordOf_126 : decode cX12_wordOf 126 = .ok (.lload_n 0, 1) := by decide +kernel
theorem dX12_wordOf_127 : decode cX12_wordOf 127 = .ok (.ldc2_w 162, 3) := by decide +kernel
theorem dX12_wordOf_130 : decode cX12_wordOf 130 = .ok (.lcmp, 1) := by decide +kernel
theorem dX12_wordOf_131 : decode cX12_wordOf 131 = .ok (.ifCond .ne 6, 3) := by decide +kernel
theorem dX12_wordOf_134 : decode cX12_wordOf 134 = .ok (.bipush 12, 2) := by decide +kernel
theorem dX12_wordOf_136 : decode cX12_wordOf 136 = .ok (.ireturn, 1) := by decide +kernel
theorem dX12_wordOf_137 : decode cX12_wordOf 137 = .ok (.lload_n 0, 1) := by decide +kernel
theorem dX12_wordOf_138 : decode cX12_wordOf 138 = .ok (.ldc2_w 164, 3) := by decide +kernel
theorem dX12_wordOf_141 : decode cX12_wordOf 141 = .ok (.lcmp, 1) := by decide +kernel
theorem dX12_wordOf_142 : decode cX12_wordOf 142 = .ok (.ifCond .ne 6, 3) := by decide +kernel
theorem dX12_wordOf_145 : decode cX12_wordOf 145 = .ok (.bipush 13, 2) := by decide +kernel
theorem dX12_wordOf_147 : decode cX12_wordOf 147 = .ok (.ireturn, 1) := by decide +kernel
theorem dX12_wordOf_148 : decode cX12_wordOf 148 = .ok (.lload_n 0, 1) := by decide +kernel
theorem dX12_wordOf_149 : decode cX12_wordOf 149 = .ok (.ldc2_w 166, 3) := by decide +kernel
theorem dX12_wordOf_152 : decode cX12_wordOf 152 = .ok (.lcmp, 1) := by decide +kernel
theorem dX12_wordOf_153 : decode cX12_wordOf 153 = .ok (.ifCond .ne 6, 3) := by decide +kernel
theorem dX12_wordOf_156 : decode cX12_wordOf 156 = .ok (.bipush 14, 2) := by decide +kernel
theorem dX12_wordOf_158 : decode cX12_wordOf 158 = .ok (.ireturn, 1) := by decide +kernel
theorem dX12_wordOf_159 : decode cX12_wordOf 159 = .ok (.lload_n 0, 1) := by decide +kernel
theorem dX12_wordOf_160 : decode cX12_wordOf 160 = .ok (.ldc2_w 168, 3) := by decide +kernel
theorem dX12_wordOf_163 : decode cX12_wordOf 163 = .ok (.lcmp, 1) := by decide +kernel
theorem dX12_wordOf_164 : decode cX12_wordOf 164 = .ok (.ifCond .ne 6, 3) := by decide +kernel
theorem dX12_wordOf_167 : decode cX12_wordOf 167 = .ok (.bipush 15, 2) := by decide +kernel
theorem dX12_wordOf_169 : decode cX12_wordOf 169 = .ok (.ireturn, 1) := by decide +kernel
theorem dX12_wordOf_170 : decode cX12_wordOf 170 = .ok (.lload_n 0, 1) := by decide +kernel
theorem dX12_wordOf_171 : decode cX12_wordOf 171 = .ok (.ldc2_w 170, 3) := by decide +kernel
theorem dX12_wordOf_174 : decode cX12_wordOf 174 = .ok (.lcmp, 1) := by decide +kernel
theorem dX12_wordOf_175 : decode cX12_wordOf 175 = .ok (.ifCond .ne 6, 3) := by decide +kernel
theorem dX12_wordOf_178 : decode cX12_wordOf 178 = .ok (.bipush 16, 2) := by decide +kernel
theorem dX12_wordOf_180 : decode cX12_wordOf 180 = .ok (.ireturn, 1) := by decide +kernel
theorem dX12_wordOf_181 : decode cX12_wordOf 181 = .ok (.lload_n 0, 1) := by decide +kernel
theorem dX12_wordOf_182 : decode cX12_wordOf 182 = .ok (.ldc2_w 172, 3) := by decide +kernel
theorem dX12_wordOf_185 : decode cX12_wordOf 185 = .ok (.lcmp, 1) := by decide +kernel
theorem dX12_wordOf_186 : decode cX12_wordOf 186 = .ok (.ifCond .ne 6, 3) := by decide +kernel
theorem dX12_wordOf_189 : decode cX12_wordOf 189 = .ok (.bipush 17, 2) := by decide +kernel
theorem dX12_wordOf_191 : decode cX12_wordOf 191 = .ok (.ireturn, 1) := by decide +kernel
theorem dX12_wordOf_192 : decode cX12_wordOf 192 = .ok (.lload_n 0, 1) := by decide +kernel
theorem dX12_wordOf_193 : decode cX12_wordOf 193 = .ok (.ldc2_w 174, 3) := by decide +kernel
theorem dX12_wordOf_196 : decode cX12_wordOf 196 = .ok (.lcmp, 1) := by decide +kernel
theorem dX12_wordOf_197 : decode cX12_wordOf 197 = .ok (.ifCond .ne 6, 3) := by decide +kernel
theorem dX12_wordOf_200 : decode cX12_wordOf 200 = .ok (.bipush 18, 2) := by decide +kernel
theorem dX12_wordOf_202 : decode cX12_wordOf 202 = .ok (.ireturn, 1) := by decide +kernel
theorem dX12_wordOf_203 : decode cX12_wordOf 203 = .ok (.lload_n 0, 1) := by decide +kernel
theorem dX12_wordOf_204 : decode cX12_wordOf 204 = .ok (.ldc2_w 176, 3) := by decide +kernel
theorem dX12_wordOf_207 : decode cX12_wordOf 207 = .ok (.lcmp, 1) := by decide +kernel
theorem dX12_wordOf_208 : decode cX12_wordOf 208 = .ok (.ifCond .ne 6, 3) := by decide +kernel
theorem dX12_wordOf_211 : decode cX12_wordOf 211 = .ok (.bipush 19, 2) := by decide +kernel
theorem dX12_wordOf_213 : decode cX12_wordOf 213 = .ok (.ireturn, 1) := by decide +kernel
theorem dX12_wordOf_214 : decode cX12_wordOf 214 = .ok (.lload_n 0, 1) := by decide +kernel
theorem dX12_wordOf_215 : decode cX12_wordOf 215 = .ok (.ldc2_w 178, 3) := by decide +kernel
theorem dX12_wordOf_218 : decode cX12_wordOf 218 = .ok (.lcmp, 1) := by decide +kernel
theorem dX12_wordOf_219 : decode cX12_wordOf 219 = .ok (.ifCond .ne 6, 3) := by decide +kernel
theorem dX12_wordOf_222 : decode cX12_wordOf 222 = .ok (.bipush 20, 2) := by decide +kernel
theorem dX12_wordOf_224 : decode cX12_wordOf 224 = .ok (.ireturn, 1) := by decide +kernel
theorem dX12_wordOf_225 : decode cX12_wordOf 225 = .ok (.lload_n 0, 1) := by decide +kernel
theorem dX12_wordOf_226 : decode cX12_wordOf 226 = .ok (.ldc2_w 180, 3) := by decide +kernel
theorem dX12_wordOf_229 : decode cX12_wordOf 229 = .ok (.lcmp, 1) := by decide +kernel
theorem dX12_wordOf_230 : decode cX12_wordOf 230 = .ok (.ifCond .ne 6, 3) := by decide +kernel
theorem dX12_wordOf_233 : decode cX12_wordOf 233 = .ok (.bipush 21, 2) := by decide +kernel
theorem dX12_wordOf_235 : decode cX12_wordOf 235 = .ok (.ireturn, 1) := by decide +kernel
theorem dX12_wordOf_236 : decode cX12_wordOf 236 = .ok (.lload_n 0, 1) := by decide +kernel
theorem dX12_wordOf_237 : decode cX12_wordOf 237 = .ok (.ldc2_w 182, 3) := by decide +kernel
theorem dX12_wordOf_240 : decode cX12_wordOf 240 = .ok (.lcmp, 1) := by decide +kernel
theorem dX12_wordOf_241 : decode cX12_wordOf 241 = .ok (.ifCond .ne 6, 3) := by decide +kernel
theorem dX12_wordOf_244 : decode cX12_wordOf 244 = .ok (.bipush 30, 2) := by decide +kernel
theorem dX12_wordOf_246 : decode cX12_wordOf 246 = .ok (.ireturn, 1) := by decide +kernel
theorem dX12_wordOf_247 : decode cX12_wordOf 247 = .ok (.lload_n 0, 1) := by decide +kernel
theorem dX12_wordOf_248 : decode cX12_wordOf 248 = .ok (.ldc2_w 184, 3) := by decide +kernel
theorem dX12_wordOf_251 : decode cX12_wordOf 251 = .ok (.lcmp, 1) := by decide +kernel
theorem dX12_wordOf_252 : decode cX12_wordOf 252 = .ok (.ifCond .ne 6, 3) := by decide +kernel
theorem dX12_wordOf_255 : decode cX12_wordOf 255 = .ok (.bipush 31, 2) := by decide +kernel
theorem dX12_wordOf_257 : decode cX12_wordOf 257 = .ok (.ireturn, 1) := by decide +kernel
theorem dX12_wordOf_258 : decode cX12_wordOf 258 = .ok (.lload_n 0, 1) := by decide +kernel
theorem dX12_wordOf_259 : decode cX12_wordOf 259 = .ok (.ldc2_w 186, 3) := by decide +kernel
theorem dX12_wordOf_262 : decode cX12_wordOf 262 = .ok (.lcmp, 1) := by decide +kernel
theorem dX12_wordOf_263 : decode cX12_wordOf 263 = .ok (.ifCond .ne 6, 3) := by decide +kernel
theorem dX12_wordOf_266 : decode cX12_wordOf 266 = .ok (.bipush 32, 2) := by decide +kernel
theorem dX12_wordOf_268 : decode cX12_wordOf 268 = .ok (.ireturn, 1) := by decide +kernel
theorem dX12_wordOf_269 : decode cX12_wordOf 269 = .ok (.lload_n 0, 1) := by decide +kernel
theorem dX12_wordOf_270 : decode cX12_wordOf 270 = .ok (.ldc2_w 188, 3) := by decide +kernel
theorem dX12_wordOf_273 : decode cX12_wordOf 273 = .ok (.lcmp, 1) := by decide +kernel
theorem dX12_wordOf_274 : decode cX12_wordOf 274 = .ok (.ifCond .ne 6, 3) := by decide +kernel
theorem dX12_wordOf_277 : decode cX12_wordOf 277 = .ok (.bipush 33, 2) := by decide +kernel
theorem dX12_wordOf_279 : decode cX12_wordOf 279 = .ok (.ireturn, 1) := by decide +kernel
theorem dX12_wordOf_280 : decode cX12_wordOf 280 = .ok (.iconst (-1), 1) := by decide +kernel
theorem dX12_wordOf_281 : decode cX12_wordOf 281 = .ok (.ireturn, 1) := by decide +kernel
noncomputable def v_X12_wordOf (mm : MM) (a0 : Int64) : Int32 := (cite ((lg_cmp a0 (4562600 : Int64)) = 0) (0 : Int32) (cite ((lg_cmp a0 (218546996 : Int64)) = 0) (1 : Int32) (cite ((lg_cmp a0 (257 : Int64)) = 0) (2 : Int32) (cite ((lg_cmp a0 (10492029 : Int64)) = 0) (3 : Int32) (cite ((lg_cmp a0 (110319223 : Int64)) = 0) (4 : Int32) (cite ((lg_cmp a0 (349972 : Int64)) = 0) (5 : Int32) (cite ((lg_cmp a0 (464053 : Int64)) = 0) (6 : Int32) (cite ((lg_cmp a0 (1952902 : Int64)) = 0) (7 : Int32) (cite ((lg_cmp a0 (249 : Int64)) = 0) (8 : Int32) (cite ((lg_cmp a0 (197651 : Int64)) = 0) (9 : Int32) (cite ((lg_cmp a0 (10631 : Int64)) = 0) (10 : Int32) (cite ((lg_cmp a0 (1111 : Int64)) = 0) (11 : Int32) (cite ((lg_cmp a0 (423 : Int64)) = 0) (12 : Int32) (cite ((lg_cmp a0 (117630947 : Int64)) = 0) (13 : Int32) (cite ((lg_cmp a0 (355412 : Int64)) = 0) (14 : Int32) (cite ((lg_cmp a0 (247162 : Int64)) = 0) (15 : Int32) (cite ((lg_cmp a0 (24 : Int64)) = 0) (16 : Int32) (cite ((lg_cmp a0 (168984 : Int64)) = 0) (17 : Int32) (cite ((lg_cmp a0 (7214732 : Int64)) = 0) (18 : Int32) (cite ((lg_cmp a0 (459652 : Int64)) = 0) (19 : Int32) (cite ((lg_cmp a0 (149099 : Int64)) = 0) (20 : Int32) (cite ((lg_cmp a0 (390796 : Int64)) = 0) (21 : Int32) (cite ((lg_cmp a0 (400334 : Int64)) = 0) (30 : Int32) (cite ((lg_cmp a0 (3488 : Int64)) = 0) (31 : Int32) (cite ((lg_cmp a0 (3217420 : Int64)) = 0) (32 : Int32) (cite ((lg_cmp a0 (1489 : Int64)) = 0) (33 : Int32) (-1 : Int32)))))))))))))))))))))))))))
theorem rv_X12_wordOf (mm : MM) (a0 : Int64) : Runs e_X12_wordOf [.long a0] mm (fun r m_ => r = .int (v_X12_wordOf mm a0) ∧ mm = m_) := by
  refine runs_of_G (L := [(0, .long a0)]) pl_X12 (Nat.le_of_ble_eq_true rfl) rfl ?_
  refine g_lload_n (pc := 0) (x := a0) dX12_wordOf_0 rfl ?_
  refine g_ldc2 (pc := 1) (v := (4562600 : Int64)) dX12_wordOf_1 ct_X12_138 ?_
  refine g_lcmp (pc := 4) dX12_wordOf_4 ?_
  refine g_if_ne (pc := 5) (tgt := 10) dX12_wordOf_5 (by decide) (fun c5 => ?_) (fun c5 => ?_)
  · have c5_0 : ¬ (lg_cmp a0 (4562600 : Int64)) = 0 := c5
    refine g_lload_n (pc := 10) (x := a0) dX12_wordOf_10 rfl ?_
    refine g_ldc2 (pc := 11) (v := (218546996 : Int64)) dX12_wordOf_11 ct_X12_140 ?_
    refine g_lcmp (pc := 14) dX12_wordOf_14 ?_
    refine g_if_ne (pc := 15) (tgt := 20) dX12_wordOf_15 (by decide) (fun c15 => ?_) (fun c15 => ?_)
    · have c15_1 : ¬ (lg_cmp a0 (218546996 : Int64)) = 0 := c15
      refine g_lload_n (pc := 20) (x := a0) dX12_wordOf_20 rfl ?_
      refine g_ldc2 (pc := 21) (v := (257 : Int64)) dX12_wordOf_21 ct_X12_142 ?_
      refine g_lcmp (pc := 24) dX12_wordOf_24 ?_
      refine g_if_ne (pc := 25) (tgt := 30) dX12_wordOf_25 (by decide) (fun c25 => ?_) (fun c25 => ?_)
      · have c25_2 : ¬ (lg_cmp a0 (257 : Int64)) = 0 := c25
        refine g_lload_n (pc := 30) (x := a0) dX12_wordOf_30 rfl ?_
        refine g_ldc2 (pc := 31) (v := (10492029 : Int64)) dX12_wordOf_31 ct_X12_144 ?_
        refine g_lcmp (pc := 34) dX12_wordOf_34 ?_
        refine g_if_ne (pc := 35) (tgt := 40) dX12_wordOf_35 (by decide) (fun c35 => ?_) (fun c35 => ?_)
        · have c35_3 : ¬ (lg_cmp a0 (10492029 : Int64)) = 0 := c35
          refine g_lload_n (pc := 40) (x := a0) dX12_wordOf_40 rfl ?_
          refine g_ldc2 (pc := 41) (v := (110319223 : Int64)) dX12_wordOf_41 ct_X12_146 ?_
          refine g_lcmp (pc := 44) dX12_wordOf_44 ?_
          refine g_if_ne (pc := 45) (tgt := 50) dX12_wordOf_45 (by decide) (fun c45 => ?_) (fun c45 => ?_)
          · have c45_4 : ¬ (lg_cmp a0 (110319223 : Int64)) = 0 := c45
            refine g_lload_n (pc := 50) (x := a0) dX12_wordOf_50 rfl ?_
            refine g_ldc2 (pc := 51) (v := (349972 : Int64)) dX12_wordOf_51 ct_X12_148 ?_
            refine g_lcmp (pc := 54) dX12_wordOf_54 ?_
            refine g_if_ne (pc := 55) (tgt := 60) dX12_wordOf_55 (by decide) (fun c55 => ?_) (fun c55 => ?_)
            · have c55_5 : ¬ (lg_cmp a0 (349972 : Int64)) = 0 := c55
              refine g_lload_n (pc := 60) (x := a0) dX12_wordOf_60 rfl ?_
              refine g_ldc2 (pc := 61) (v := (464053 : Int64)) dX12_wordOf_61 ct_X12_150 ?_
              refine g_lcmp (pc := 64) dX12_wordOf_64 ?_
              refine g_if_ne (pc := 65) (tgt := 71) dX12_wordOf_65 (by decide) (fun c65 => ?_) (fun c65 => ?_)
              · have c65_6 : ¬ (lg_cmp a0 (464053 : Int64)) = 0 := c65
                refine g_lload_n (pc := 71) (x := a0) dX12_wordOf_71 rfl ?_
                refine g_ldc2 (pc := 72) (v := (1952902 : Int64)) dX12_wordOf_72 ct_X12_152 ?_
                refine g_lcmp (pc := 75) dX12_wordOf_75 ?_
                refine g_if_ne (pc := 76) (tgt := 82) dX12_wordOf_76 (by decide) (fun c76 => ?_) (fun c76 => ?_)
                · have c76_7 : ¬ (lg_cmp a0 (1952902 : Int64)) = 0 := c76
                  refine g_lload_n (pc := 82) (x := a0) dX12_wordOf_82 rfl ?_
                  refine g_ldc2 (pc := 83) (v := (249 : Int64)) dX12_wordOf_83 ct_X12_154 ?_
                  refine g_lcmp (pc := 86) dX12_wordOf_86 ?_
                  refine g_if_ne (pc := 87) (tgt := 93) dX12_wordOf_87 (by decide) (fun c87 => ?_) (fun c87 => ?_)
                  · have c87_8 : ¬ (lg_cmp a0 (249 : Int64)) = 0 := c87
                    refine g_lload_n (pc := 93) (x := a0) dX12_wordOf_93 rfl ?_
                    refine g_ldc2 (pc := 94) (v := (197651 : Int64)) dX12_wordOf_94 ct_X12_156 ?_
                    refine g_lcmp (pc := 97) dX12_wordOf_97 ?_
                    refine g_if_ne (pc := 98) (tgt := 104) dX12_wordOf_98 (by decide) (fun c98 => ?_) (fun c98 => ?_)
                    · have c98_9 : ¬ (lg_cmp a0 (197651 : Int64)) = 0 := c98
                      refine g_lload_n (pc := 104) (x := a0) dX12_wordOf_104 rfl ?_
                      refine g_ldc2 (pc := 105) (v := (10631 : Int64)) dX12_wordOf_105 ct_X12_158 ?_
                      refine g_lcmp (pc := 108) dX12_wordOf_108 ?_
                      refine g_if_ne (pc := 109) (tgt := 115) dX12_wordOf_109 (by decide) (fun c109 => ?_) (fun c109 => ?_)
                      · have c109_10 : ¬ (lg_cmp a0 (10631 : Int64)) = 0 := c109
                        refine g_lload_n (pc := 115) (x := a0) dX12_wordOf_115 rfl ?_
                        refine g_ldc2 (pc := 116) (v := (1111 : Int64)) dX12_wordOf_116 ct_X12_160 ?_
                        refine g_lcmp (pc := 119) dX12_wordOf_119 ?_
                        refine g_if_ne (pc := 120) (tgt := 126) dX12_wordOf_120 (by decide) (fun c120 => ?_) (fun c120 => ?_)
                        · have c120_11 : ¬ (lg_cmp a0 (1111 : Int64)) = 0 := c120
                          refine g_lload_n (pc := 126) (x := a0) dX12_wordOf_126 rfl ?_
                          refine g_ldc2 (pc := 127) (v := (423 : Int64)) dX12_wordOf_127 ct_X12_162 ?_
                          refine g_lcmp (pc := 130) dX12_wordOf_130 ?_
                          refine g_if_ne (pc := 131) (tgt := 137) dX12_wordOf_131 (by decide) (fun c131 => ?_) (fun c131 => ?_)
                          · have c131_12 : ¬ (lg_cmp a0 (423 : Int64)) = 0 := c131
                            refine g_lload_n (pc := 137) (x := a0) dX12_wordOf_137 rfl ?_
                            refine g_ldc2 (pc := 138) (v := (117630947 : Int64)) dX12_wordOf_138 ct_X12_164 ?_
                            refine g_lcmp (pc := 141) dX12_wordOf_141 ?_
                            refine g_if_ne (pc := 142) (tgt := 148) dX12_wordOf_142 (by decide) (fun c142 => ?_) (fun c142 => ?_)
                            · have c142_13 : ¬ (lg_cmp a0 (117630947 : Int64)) = 0 := c142
                              refine g_lload_n (pc := 148) (x := a0) dX12_wordOf_148 rfl ?_
                              refine g_ldc2 (pc := 149) (v := (355412 : Int64)) dX12_wordOf_149 ct_X12_166 ?_
                              refine g_lcmp (pc := 152) dX12_wordOf_152 ?_
                              refine g_if_ne (pc := 153) (tgt := 159) dX12_wordOf_153 (by decide) (fun c153 => ?_) (fun c153 => ?_)
                              · have c153_14 : ¬ (lg_cmp a0 (355412 : Int64)) = 0 := c153
                                refine g_lload_n (pc := 159) (x := a0) dX12_wordOf_159 rfl ?_
                                refine g_ldc2 (pc := 160) (v := (247162 : Int64)) dX12_wordOf_160 ct_X12_168 ?_
                                refine g_lcmp (pc := 163) dX12_wordOf_163 ?_
                                refine g_if_ne (pc := 164) (tgt := 170) dX12_wordOf_164 (by decide) (fun c164 => ?_) (fun c164 => ?_)
                                · have c164_15 : ¬ (lg_cmp a0 (247162 : Int64)) = 0 := c164
                                  refine g_lload_n (pc := 170) (x := a0) dX12_wordOf_170 rfl ?_
                                  refine g_ldc2 (pc := 171) (v := (24 : Int64)) dX12_wordOf_171 ct_X12_170 ?_
                                  refine g_lcmp (pc := 174) dX12_wordOf_174 ?_
                                  refine g_if_ne (pc := 175) (tgt := 181) dX12_wordOf_175 (by decide) (fun c175 => ?_) (fun c175 => ?_)
                                  · have c175_16 : ¬ (lg_cmp a0 (24 : Int64)) = 0 := c175
                                    refine g_lload_n (pc := 181) (x := a0) dX12_wordOf_181 rfl ?_
                                    refine g_ldc2 (pc := 182) (v := (168984 : Int64)) dX12_wordOf_182 ct_X12_172 ?_
                                    refine g_lcmp (pc := 185) dX12_wordOf_185 ?_
                                    refine g_if_ne (pc := 186) (tgt := 192) dX12_wordOf_186 (by decide) (fun c186 => ?_) (fun c186 => ?_)
                                    · have c186_17 : ¬ (lg_cmp a0 (168984 : Int64)) = 0 := c186
                                      refine g_lload_n (pc := 192) (x := a0) dX12_wordOf_192 rfl ?_
                                      refine g_ldc2 (pc := 193) (v := (7214732 : Int64)) dX12_wordOf_193 ct_X12_174 ?_
                                      refine g_lcmp (pc := 196) dX12_wordOf_196 ?_
                                      refine g_if_ne (pc := 197) (tgt := 203) dX12_wordOf_197 (by decide) (fun c197 => ?_) (fun c197 => ?_)
                                      · have c197_18 : ¬ (lg_cmp a0 (7214732 : Int64)) = 0 := c197
                                        refine g_lload_n (pc := 203) (x := a0) dX12_wordOf_203 rfl ?_
                                        refine g_ldc2 (pc := 204) (v := (459652 : Int64)) dX12_wordOf_204 ct_X12_176 ?_
                                        refine g_lcmp (pc := 207) dX12_wordOf_207 ?_
                                        refine g_if_ne (pc := 208) (tgt := 214) dX12_wordOf_208 (by decide) (fun c208 => ?_) (fun c208 => ?_)
                                        · have c208_19 : ¬ (lg_cmp a0 (459652 : Int64)) = 0 := c208
                                          refine g_lload_n (pc := 214) (x := a0) dX12_wordOf_214 rfl ?_
                                          refine g_ldc2 (pc := 215) (v := (149099 : Int64)) dX12_wordOf_215 ct_X12_178 ?_
                                          refine g_lcmp (pc := 218) dX12_wordOf_218 ?_
                                          refine g_if_ne (pc := 219) (tgt := 225) dX12_wordOf_219 (by decide) (fun c219 => ?_) (fun c219 => ?_)
                                          · have c219_20 : ¬ (lg_cmp a0 (149099 : Int64)) = 0 := c219
                                            refine g_lload_n (pc := 225) (x := a0) dX12_wordOf_225 rfl ?_
                                            refine g_ldc2 (pc := 226) (v := (390796 : Int64)) dX12_wordOf_226 ct_X12_180 ?_
                                            refine g_lcmp (pc := 229) dX12_wordOf_229 ?_
                                            refine g_if_ne (pc := 230) (tgt := 236) dX12_wordOf_230 (by decide) (fun c230 => ?_) (fun c230 => ?_)
                                            · have c230_21 : ¬ (lg_cmp a0 (390796 : Int64)) = 0 := c230
                                              refine g_lload_n (pc := 236) (x := a0) dX12_wordOf_236 rfl ?_
                                              refine g_ldc2 (pc := 237) (v := (400334 : Int64)) dX12_wordOf_237 ct_X12_182 ?_
                                              refine g_lcmp (pc := 240) dX12_wordOf_240 ?_
                                              refine g_if_ne (pc := 241) (tgt := 247) dX12_wordOf_241 (by decide) (fun c241 => ?_) (fun c241 => ?_)
                                              · have c241_22 : ¬ (lg_cmp a0 (400334 : Int64)) = 0 := c241
                                                refine g_lload_n (pc := 247) (x := a0) dX12_wordOf_247 rfl ?_
                                                refine g_ldc2 (pc := 248) (v := (3488 : Int64)) dX12_wordOf_248 ct_X12_184 ?_
                                                refine g_lcmp (pc := 251) dX12_wordOf_251 ?_
                                                refine g_if_ne (pc := 252) (tgt := 258) dX12_wordOf_252 (by decide) (fun c252 => ?_) (fun c252 => ?_)
                                                · have c252_23 : ¬ (lg_cmp a0 (3488 : Int64)) = 0 := c252
                                                  refine g_lload_n (pc := 258) (x := a0) dX12_wordOf_258 rfl ?_
                                                  refine g_ldc2 (pc := 259) (v := (3217420 : Int64)) dX12_wordOf_259 ct_X12_186 ?_
                                                  refine g_lcmp (pc := 262) dX12_wordOf_262 ?_
                                                  refine g_if_ne (pc := 263) (tgt := 269) dX12_wordOf_263 (by decide) (fun c263 => ?_) (fun c263 => ?_)
                                                  · have c263_24 : ¬ (lg_cmp a0 (3217420 : Int64)) = 0 := c263
                                                    refine g_lload_n (pc := 269) (x := a0) dX12_wordOf_269 rfl ?_
                                                    refine g_ldc2 (pc := 270) (v := (1489 : Int64)) dX12_wordOf_270 ct_X12_188 ?_
                                                    refine g_lcmp (pc := 273) dX12_wordOf_273 ?_
                                                    refine g_if_ne (pc := 274) (tgt := 280) dX12_wordOf_274 (by decide) (fun c274 => ?_) (fun c274 => ?_)
                                                    · have c274_25 : ¬ (lg_cmp a0 (1489 : Int64)) = 0 := c274
                                                      refine g_iconst (pc := 280) (v := (-1 : Int32)) dX12_wordOf_280 (by decide) ?_
                                                      exact g_iret (pc := 281) dX12_wordOf_281 rfl rfl rfl ⟨(by unfold v_X12_wordOf; rw [cite_neg c5_0, cite_neg c15_1, cite_neg c25_2, cite_neg c35_3, cite_neg c45_4, cite_neg c55_5, cite_neg c65_6, cite_neg c76_7, cite_neg c87_8, cite_neg c98_9, cite_neg c109_10, cite_neg c120_11, cite_neg c131_12, cite_neg c142_13, cite_neg c153_14, cite_neg c164_15, cite_neg c175_16, cite_neg c186_17, cite_neg c197_18, cite_neg c208_19, cite_neg c219_20, cite_neg c230_21, cite_neg c241_22, cite_neg c252_23, cite_neg c263_24, cite_neg c274_25] <;> rfl), rfl⟩
                                                    · have c274_25 : (lg_cmp a0 (1489 : Int64)) = 0 := c274
                                                      refine g_bipush (pc := 277) (v := (33 : Int32)) dX12_wordOf_277 (by decide) ?_
                                                      exact g_iret (pc := 279) dX12_wordOf_279 rfl rfl rfl ⟨(by unfold v_X12_wordOf; rw [cite_neg c5_0, cite_neg c15_1, cite_neg c25_2, cite_neg c35_3, cite_neg c45_4, cite_neg c55_5, cite_neg c65_6, cite_neg c76_7, cite_neg c87_8, cite_neg c98_9, cite_neg c109_10, cite_neg c120_11, cite_neg c131_12, cite_neg c142_13, cite_neg c153_14, cite_neg c164_15, cite_neg c175_16, cite_neg c186_17, cite_neg c197_18, cite_neg c208_19, cite_neg c219_20, cite_neg c230_21, cite_neg c241_22, cite_neg c252_23, cite_neg c263_24, cite_pos c274_25] <;> rfl), rfl⟩
                                                  · have c263_24 : (lg_cmp a0 (3217420 : Int64)) = 0 := c263
                                                    refine g_bipush (pc := 266) (v := (32 : Int32)) dX12_wordOf_266 (by decide) ?_
                                                    exact g_iret (pc := 268) dX12_wordOf_268 rfl rfl rfl ⟨(by unfold v_X12_wordOf; rw [cite_neg c5_0, cite_neg c15_1, cite_neg c25_2, cite_neg c35_3, cite_neg c45_4, cite_neg c55_5, cite_neg c65_6, cite_neg c76_7, cite_neg c87_8, cite_neg c98_9, cite_neg c109_10, cite_neg c120_11, cite_neg c131_12, cite_neg c142_13, cite_neg c153_14, cite_neg c164_15, cite_neg c175_16, cite_neg c186_17, cite_neg c197_18, cite_neg c208_19, cite_neg c219_20, cite_neg c230_21, cite_neg c241_22, cite_neg c252_23, cite_pos c263_24] <;> rfl), rfl⟩
                                                · have c252_23 : (lg_cmp a0 (3488 : Int64)) = 0 := c252
                                                  refine g_bipush (pc := 255) (v := (31 : Int32)) dX12_wordOf_255 (by decide) ?_
                                                  exact g_iret (pc := 257) dX12_wordOf_257 rfl rfl rfl ⟨(by unfold v_X12_wordOf; rw [cite_neg c5_0, cite_neg c15_1, cite_neg c25_2, cite_neg c35_3, cite_neg c45_4, cite_neg c55_5, cite_neg c65_6, cite_neg c76_7, cite_neg c87_8, cite_neg c98_9, cite_neg c109_10, cite_neg c120_11, cite_neg c131_12, cite_neg c142_13, cite_neg c153_14, cite_neg c164_15, cite_neg c175_16, cite_neg c186_17, cite_neg c197_18, cite_neg c208_19, cite_neg c219_20, cite_neg c230_21, cite_neg c241_22, cite_pos c252_23] <;> rfl), rfl⟩
                                              · have c241_22 : (lg_cmp a0 (400334 : Int64)) = 0 := c241
                                                refine g_bipush (pc := 244) (v := (30 : Int32)) dX12_wordOf_244 (by decide) ?_
                                                exact g_iret (pc := 246) dX12_wordOf_246 rfl rfl rfl ⟨(by unfold v_X12_wordOf; rw [cite_neg c5_0, cite_neg c15_1, cite_neg c25_2, cite_neg c35_3, cite_neg c45_4, cite_neg c55_5, cite_neg c65_6, cite_neg c76_7, cite_neg c87_8, cite_neg c98_9, cite_neg c109_10, cite_neg c120_11, cite_neg c131_12, cite_neg c142_13, cite_neg c153_14, cite_neg c164_15, cite_neg c175_16, cite_neg c186_17, cite_neg c197_18, cite_neg c208_19, cite_neg c219_20, cite_neg c230_21, cite_pos c241_22] <;> rfl), rfl⟩
                                            · have c230_21 : (lg_cmp a0 (390796 : Int64)) = 0 := c230
                                              refine g_bipush (pc := 233) (v := (21 : Int32)) dX12_wordOf_233 (by decide) ?_
                                              exact g_iret (pc := 235) dX12_wordOf_235 rfl rfl rfl ⟨(by unfold v_X12_wordOf; rw [cite_neg c5_0, cite_neg c15_1, cite_neg c25_2, cite_neg c35_3, cite_neg c45_4, cite_neg c55_5, cite_neg c65_6, cite_neg c76_7, cite_neg c87_8, cite_neg c98_9, cite_neg c109_10, cite_neg c120_11, cite_neg c131_12, cite_neg c142_13, cite_neg c153_14, cite_neg c164_15, cite_neg c175_16, cite_neg c186_17, cite_neg c197_18, cite_neg c208_19, cite_neg c219_20, cite_pos c230_21] <;> rfl), rfl⟩
                                          · have c219_20 : (lg_cmp a0 (149099 : Int64)) = 0 := c219
                                            refine g_bipush (pc := 222) (v := (20 : Int32)) dX12_wordOf_222 (by decide) ?_
                                            exact g_iret (pc := 224) dX12_wordOf_224 rfl rfl rfl ⟨(by unfold v_X12_wordOf; rw [cite_neg c5_0, cite_neg c15_1, cite_neg c25_2, cite_neg c35_3, cite_neg c45_4, cite_neg c55_5, cite_neg c65_6, cite_neg c76_7, cite_neg c87_8, cite_neg c98_9, cite_neg c109_10, cite_neg c120_11, cite_neg c131_12, cite_neg c142_13, cite_neg c153_14, cite_neg c164_15, cite_neg c175_16, cite_neg c186_17, cite_neg c197_18, cite_neg c208_19, cite_pos c219_20] <;> rfl), rfl⟩
                                        · have c208_19 : (lg_cmp a0 (459652 : Int64)) = 0 := c208
                                          refine g_bipush (pc := 211) (v := (19 : Int32)) dX12_wordOf_211 (by decide) ?_
                                          exact g_iret (pc := 213) dX12_wordOf_213 rfl rfl rfl ⟨(by unfold v_X12_wordOf; rw [cite_neg c5_0, cite_neg c15_1, cite_neg c25_2, cite_neg c35_3, cite_neg c45_4, cite_neg c55_5, cite_neg c65_6, cite_neg c76_7, cite_neg c87_8, cite_neg c98_9, cite_neg c109_10, cite_neg c120_11, cite_neg c131_12, cite_neg c142_13, cite_neg c153_14, cite_neg c164_15, cite_neg c175_16, cite_neg c186_17, cite_neg c197_18, cite_pos c208_19] <;> rfl), rfl⟩
                                      · have c197_18 : (lg_cmp a0 (7214732 : Int64)) = 0 := c197
                                        refine g_bipush (pc := 200) (v := (18 : Int32)) dX12_wordOf_200 (by decide) ?_
                                        exact g_iret (pc := 202) dX12_wordOf_202 rfl rfl rfl ⟨(by unfold v_X12_wordOf; rw [cite_neg c5_0, cite_neg c15_1, cite_neg c25_2, cite_neg c35_3, cite_neg c45_4, cite_neg c55_5, cite_neg c65_6, cite_neg c76_7, cite_neg c87_8, cite_neg c98_9, cite_neg c109_10, cite_neg c120_11, cite_neg c131_12, cite_neg c142_13, cite_neg c153_14, cite_neg c164_15, cite_neg c175_16, cite_neg c186_17, cite_pos c197_18] <;> rfl), rfl⟩
                                    · have c186_17 : (lg_cmp a0 (168984 : Int64)) = 0 := c186
                                      refine g_bipush (pc := 189) (v := (17 : Int32)) dX12_wordOf_189 (by decide) ?_
                                      exact g_iret (pc := 191) dX12_wordOf_191 rfl rfl rfl ⟨(by unfold v_X12_wordOf; rw [cite_neg c5_0, cite_neg c15_1, cite_neg c25_2, cite_neg c35_3, cite_neg c45_4, cite_neg c55_5, cite_neg c65_6, cite_neg c76_7, cite_neg c87_8, cite_neg c98_9, cite_neg c109_10, cite_neg c120_11, cite_neg c131_12, cite_neg c142_13, cite_neg c153_14, cite_neg c164_15, cite_neg c175_16, cite_pos c186_17] <;> rfl), rfl⟩
                                  · have c175_16 : (lg_cmp a0 (24 : Int64)) = 0 := c175
                                    refine g_bipush (pc := 178) (v := (16 : Int32)) dX12_wordOf_178 (by decide) ?_
                                    exact g_iret (pc := 180) dX12_wordOf_180 rfl rfl rfl ⟨(by unfold v_X12_wordOf; rw [cite_neg c5_0, cite_neg c15_1, cite_neg c25_2, cite_neg c35_3, cite_neg c45_4, cite_neg c55_5, cite_neg c65_6, cite_neg c76_7, cite_neg c87_8, cite_neg c98_9, cite_neg c109_10, cite_neg c120_11, cite_neg c131_12, cite_neg c142_13, cite_neg c153_14, cite_neg c164_15, cite_pos c175_16] <;> rfl), rfl⟩
                                · have c164_15 : (lg_cmp a0 (247162 : Int64)) = 0 := c164
                                  refine g_bipush (pc := 167) (v := (15 : Int32)) dX12_wordOf_167 (by decide) ?_
                                  exact g_iret (pc := 169) dX12_wordOf_169 rfl rfl rfl ⟨(by unfold v_X12_wordOf; rw [cite_neg c5_0, cite_neg c15_1, cite_neg c25_2, cite_neg c35_3, cite_neg c45_4, cite_neg c55_5, cite_neg c65_6, cite_neg c76_7, cite_neg c87_8, cite_neg c98_9, cite_neg c109_10, cite_neg c120_11, cite_neg c131_12, cite_neg c142_13, cite_neg c153_14, cite_pos c164_15] <;> rfl), rfl⟩
                              · have c153_14 : (lg_cmp a0 (355412 : Int64)) = 0 := c153
                                refine g_bipush (pc := 156) (v := (14 : Int32)) dX12_wordOf_156 (by decide) ?_
                                exact g_iret (pc := 158) dX12_wordOf_158 rfl rfl rfl ⟨(by unfold v_X12_wordOf; rw [cite_neg c5_0, cite_neg c15_1, cite_neg c25_2, cite_neg c35_3, cite_neg c45_4, cite_neg c55_5, cite_neg c65_6, cite_neg c76_7, cite_neg c87_8, cite_neg c98_9, cite_neg c109_10, cite_neg c120_11, cite_neg c131_12, cite_neg c142_13, cite_pos c153_14] <;> rfl), rfl⟩
                            · have c142_13 : (lg_cmp a0 (117630947 : Int64)) = 0 := c142
                              refine g_bipush (pc := 145) (v := (13 : Int32)) dX12_wordOf_145 (by decide) ?_
                              exact g_iret (pc := 147) dX12_wordOf_147 rfl rfl rfl ⟨(by unfold v_X12_wordOf; rw [cite_neg c5_0, cite_neg c15_1, cite_neg c25_2, cite_neg c35_3, cite_neg c45_4, cite_neg c55_5, cite_neg c65_6, cite_neg c76_7, cite_neg c87_8, cite_neg c98_9, cite_neg c109_10, cite_neg c120_11, cite_neg c131_12, cite_pos c142_13] <;> rfl), rfl⟩
                          · have c131_12 : (lg_cmp a0 (423 : Int64)) = 0 := c131
                            refine g_bipush (pc := 134) (v := (12 : Int32)) dX12_wordOf_134 (by decide) ?_
                            exact g_iret (pc := 136) dX12_wordOf_136 rfl rfl rfl ⟨(by unfold v_X12_wordOf; rw [cite_neg c5_0, cite_neg c15_1, cite_neg c25_2, cite_neg c35_3, cite_neg c45_4, cite_neg c55_5, cite_neg c65_6, cite_neg c76_7, cite_neg c87_8, cite_neg c98_9, cite_neg c109_10, cite_neg c120_11, cite_pos c131_12] <;> rfl), rfl⟩
                        · have c120_11 : (lg_cmp a0 (1111 : Int64)) = 0 := c120
                          refine g_bipush (pc := 123) (v := (11 : Int32)) dX12_wordOf_123 (by decide) ?_
                          exact g_iret (pc := 125) dX12_wordOf_125 rfl rfl rfl ⟨(by unfold v_X12_wordOf; rw [cite_neg c5_0, cite_neg c15_1, cite_neg c25_2, cite_neg c35_3, cite_neg c45_4, cite_neg c55_5, cite_neg c65_6, cite_neg c76_7, cite_neg c87_8, cite_neg c98_9, cite_neg c109_10, cite_pos c120_11] <;> rfl), rfl⟩
                      · have c109_10 : (lg_cmp a0 (10631 : Int64)) = 0 := c109
                        refine g_bipush (pc := 112) (v := (10 : Int32)) dX12_wordOf_112 (by decide) ?_
                        exact g_iret (pc := 114) dX12_wordOf_114 rfl rfl rfl ⟨(by unfold v_X12_wordOf; rw [cite_neg c5_0, cite_neg c15_1, cite_neg c25_2, cite_neg c35_3, cite_neg c45_4, cite_neg c55_5, cite_neg c65_6, cite_neg c76_7, cite_neg c87_8, cite_neg c98_9, cite_pos c109_10] <;> rfl), rfl⟩
                    · have c98_9 : (lg_cmp a0 (197651 : Int64)) = 0 := c98
                      refine g_bipush (pc := 101) (v := (9 : Int32)) dX12_wordOf_101 (by decide) ?_
                      exact g_iret (pc := 103) dX12_wordOf_103 rfl rfl rfl ⟨(by unfold v_X12_wordOf; rw [cite_neg c5_0, cite_neg c15_1, cite_neg c25_2, cite_neg c35_3, cite_neg c45_4, cite_neg c55_5, cite_neg c65_6, cite_neg c76_7, cite_neg c87_8, cite_pos c98_9] <;> rfl), rfl⟩
                  · have c87_8 : (lg_cmp a0 (249 : Int64)) = 0 := c87
                    refine g_bipush (pc := 90) (v := (8 : Int32)) dX12_wordOf_90 (by decide) ?_
                    exact g_iret (pc := 92) dX12_wordOf_92 rfl rfl rfl ⟨(by unfold v_X12_wordOf; rw [cite_neg c5_0, cite_neg c15_1, cite_neg c25_2, cite_neg c35_3, cite_neg c45_4, cite_neg c55_5, cite_neg c65_6, cite_neg c76_7, cite_pos c87_8] <;> rfl), rfl⟩
                · have c76_7 : (lg_cmp a0 (1952902 : Int64)) = 0 := c76
                  refine g_bipush (pc := 79) (v := (7 : Int32)) dX12_wordOf_79 (by decide) ?_
                  exact g_iret (pc := 81) dX12_wordOf_81 rfl rfl rfl ⟨(by unfold v_X12_wordOf; rw [cite_neg c5_0, cite_neg c15_1, cite_neg c25_2, cite_neg c35_3, cite_neg c45_4, cite_neg c55_5, cite_neg c65_6, cite_pos c76_7] <;> rfl), rfl⟩
              · have c65_6 : (lg_cmp a0 (464053 : Int64)) = 0 := c65
                refine g_bipush (pc := 68) (v := (6 : Int32)) dX12_wordOf_68 (by decide) ?_
                exact g_iret (pc := 70) dX12_wordOf_70 rfl rfl rfl ⟨(by unfold v_X12_wordOf; rw [cite_neg c5_0, cite_neg c15_1, cite_neg c25_2, cite_neg c35_3, cite_neg c45_4, cite_neg c55_5, cite_pos c65_6] <;> rfl), rfl⟩
            · have c55_5 : (lg_cmp a0 (349972 : Int64)) = 0 := c55
              refine g_iconst (pc := 58) (v := (5 : Int32)) dX12_wordOf_58 (by decide) ?_
              exact g_iret (pc := 59) dX12_wordOf_59 rfl rfl rfl ⟨(by unfold v_X12_wordOf; rw [cite_neg c5_0, cite_neg c15_1, cite_neg c25_2, cite_neg c35_3, cite_neg c45_4, cite_pos c55_5] <;> rfl), rfl⟩
          · have c45_4 : (lg_cmp a0 (110319223 : Int64)) = 0 := c45
            refine g_iconst (pc := 48) (v := (4 : Int32)) dX12_wordOf_48 (by decide) ?_
            exact g_iret (pc := 49) dX12_wordOf_49 rfl rfl rfl ⟨(by unfold v_X12_wordOf; rw [cite_neg c5_0, cite_neg c15_1, cite_neg c25_2, cite_neg c35_3, cite_pos c45_4] <;> rfl), rfl⟩
        · have c35_3 : (lg_cmp a0 (10492029 : Int64)) = 0 := c35
          refine g_iconst (pc := 38) (v := (3 : Int32)) dX12_wordOf_38 (by decide) ?_
          exact g_iret (pc := 39) dX12_wordOf_39 rfl rfl rfl ⟨(by unfold v_X12_wordOf; rw [cite_neg c5_0, cite_neg c15_1, cite_neg c25_2, cite_pos c35_3] <;> rfl), rfl⟩
      · have c25_2 : (lg_cmp a0 (257 : Int64)) = 0 := c25
        refine g_iconst (pc := 28) (v := (2 : Int32)) dX12_wordOf_28 (by decide) ?_
        exact g_iret (pc := 29) dX12_wordOf_29 rfl rfl rfl ⟨(by unfold v_X12_wordOf; rw [cite_neg c5_0, cite_neg c15_1, cite_pos c25_2] <;> rfl), rfl⟩
    · have c15_1 : (lg_cmp a0 (218546996 : Int64)) = 0 := c15
      refine g_iconst (pc := 18) (v := (1 : Int32)) dX12_wordOf_18 (by decide) ?_
      exact g_iret (pc := 19) dX12_wordOf_19 rfl rfl rfl ⟨(by unfold v_X12_wordOf; rw [cite_neg c5_0, cite_pos c15_1] <;> rfl), rfl⟩
  · have c5_0 : (lg_cmp a0 (4562600 : Int64)) = 0 := c5
    refine g_iconst (pc := 8) (v := (0 : Int32)) dX12_wordOf_8 (by decide) ?_
    exact g_iret (pc := 9) dX12_wordOf_9 rfl rfl rfl ⟨(by unfold v_X12_wordOf; rw [cite_pos c5_0] <;> rfl), rfl⟩
theorem dX12_signAt_0 : decode cX12_signAt 0 = .ok (.aload_n 0, 1) := by decide +kernel
theorem dX12_signAt_1 : decode cX12_signAt 1 = .ok (.iload_n 1, 1) := by decide +kernel
theorem dX12_signAt_2 : decode cX12_signAt 2 = .ok (.invokevirtual 131, 3) := by decide +kernel
theorem dX12_signAt_5 : decode cX12_signAt 5 = .ok (.istore_n 2, 1) := by decide +kernel
theorem dX12_signAt_6 : decode cX12_signAt 6 = .ok (.aload_n 0, 1) := by decide +kernel
theorem dX12_signAt_7 : decode cX12_signAt 7 = .ok (.iload_n 1, 1) := by decide +kernel
theorem dX12_signAt_8 : decode cX12_signAt 8 = .ok (.iconst 1, 1) := by decide +kernel
theorem dX12_signAt_9 : decode cX12_signAt 9 = .ok (.iadd, 1) := by decide +kernel
theorem dX12_signAt_10 : decode cX12_signAt 10 = .ok (.invokevirtual 131, 3) := by decide +kernel
theorem dX12_signAt_13 : decode cX12_signAt 13 = .ok (.bipush 61, 2) := by decide +kernel
theorem dX12_signAt_15 : decode cX12_signAt 15 = .ok (.if_icmp .ne 7, 3) := by decide +kernel
theorem dX12_signAt_18 : decode cX12_signAt 18 = .ok (.iconst 1, 1) := by decide +kernel
theorem dX12_signAt_19 : decode cX12_signAt 19 = .ok (.goto 4, 3) := by decide +kernel
theorem dX12_signAt_22 : decode cX12_signAt 22 = .ok (.iconst 0, 1) := by decide +kernel
theorem dX12_signAt_23 : decode cX12_signAt 23 = .ok (.istore_n 3, 1) := by decide +kernel
theorem dX12_signAt_24 : decode cX12_signAt 24 = .ok (.iload_n 2, 1) := by decide +kernel
theorem dX12_signAt_25 : decode cX12_signAt 25 = .ok (.bipush 61, 2) := by decide +kernel
theorem dX12_signAt_27 : decode cX12_signAt 27 = .ok (.if_icmp .ne 15, 3) := by decide +kernel
theorem dX12_signAt_30 : decode cX12_signAt 30 = .ok (.iload_n 3, 1) := by decide +kernel
theorem dX12_signAt_31 : decode cX12_signAt 31 = .ok (.ifCond .eq 9, 3) := by decide +kernel
theorem dX12_signAt_34 : decode cX12_signAt 34 = .ok (.sipush 300, 3) := by decide +kernel
theorem dX12_signAt_37 : decode cX12_signAt 37 = .ok (.goto 4, 3) := by decide +kernel
theorem dX12_signAt_40 : decode cX12_signAt 40 = .ok (.iload_n 2, 1) := by decide +kernel
theorem dX12_signAt_41 : decode cX12_signAt 41 = .ok (.ireturn, 1) := by decide +kernel
theorem dX12_signAt_42 : decode cX12_signAt 42 = .ok (.iload_n 2, 1) := by decide +kernel
theorem dX12_signAt_43 : decode cX12_signAt 43 = .ok (.bipush 33, 2) := by decide +kernel
theorem dX12_signAt_45 : decode cX12_signAt 45 = .ok (.if_icmp .ne 15, 3) := by decide +kernel
theorem dX12_signAt_48 : decode cX12_signAt 48 = .ok (.iload_n 3, 1) := by decide +kernel
theorem dX12_signAt_49 : decode cX12_signAt 49 = .ok (.ifCond .eq 9, 3) := by decide +kernel
theorem dX12_signAt_52 : decode cX12_signAt 52 = .ok (.sipush 301, 3) := by decide +kernel
theorem dX12_signAt_55 : decode cX12_signAt 55 = .ok (.goto 4, 3) := by decide +kernel
theorem dX12_signAt_58 : decode cX12_signAt 58 = .ok (.iconst 0, 1) := by decide +kernel
theorem dX12_signAt_59 : decode cX12_signAt 59 = .ok (.ireturn, 1) := by decide +kernel
theorem dX12_signAt_60 : decode cX12_signAt 60 = .ok (.iload_n 2, 1) := by decide +kernel
theorem dX12_signAt_61 : decode cX12_signAt 61 = .ok (.bipush 60, 2) := by decide +kernel
theorem dX12_signAt_63 : decode cX12_signAt 63 = .ok (.if_icmp .ne 15, 3) := by decide +kernel
theorem dX12_signAt_66 : decode cX12_signAt 66 = .ok (.iload_n 3, 1) := by decide +kernel
theorem dX12_signAt_67 : decode cX12_signAt 67 = .ok (.ifCond .eq 9, 3) := by decide +kernel
theorem dX12_signAt_70 : decode cX12_signAt 70 = .ok (.sipush 302, 3) := by decide +kernel
theorem dX12_signAt_73 : decode cX12_signAt 73 = .ok (.goto 4, 3) := by decide +kernel
theorem dX12_signAt_76 : decode cX12_signAt 76 = .ok (.iload_n 2, 1) := by decide +kernel
theorem dX12_signAt_77 : decode cX12_signAt 77 = .ok (.ireturn, 1) := by decide +kernel
theorem dX12_signAt_78 : decode cX12_signAt 78 = .ok (.iload_n 2, 1) := by decide +kernel
theorem dX12_signAt_79 : decode cX12_signAt 79 = .ok (.bipush 59, 2) := by decide +kernel
theorem dX12_signAt_81 : decode cX12_signAt 81 = .ok (.if_icmp .eq 39, 3) := by decide +kernel
theorem dX12_signAt_84 : decode cX12_signAt 84 = .ok (.iload_n 2, 1) := by decide +kernel
theorem dX12_signAt_85 : decode cX12_signAt 85 = .ok (.bipush 43, 2) := by decide +kernel
theorem dX12_signAt_87 : decode cX12_signAt 87 = .ok (.if_icmp .eq 33, 3) := by decide +kernel
theorem dX12_signAt_90 : decode cX12_signAt 90 = .ok (.iload_n 2, 1) := by decide +kernel
theorem dX12_signAt_91 : decode cX12_signAt 91 = .ok (.bipush 45, 2) := by decide +kernel
theorem dX12_signAt_93 : decode cX12_signAt 93 = .ok (.if_icmp .eq 27, 3) := by decide +kernel
theorem dX12_signAt_96 : decode cX12_signAt 96 = .ok (.iload_n 2, 1) := by decide +kernel
theorem dX12_signAt_97 : decode cX12_signAt 97 = .ok (.bipush 42, 2) := by decide +kernel
theorem dX12_signAt_99 : decode cX12_signAt 99 = .ok (.if_icmp .eq 21, 3) := by decide +kernel
theorem dX12_signAt_102 : decode cX12_signAt 102 = .ok (.iload_n 2, 1) := by decide +kernel
theorem dX12_signAt_103 : decode cX12_signAt 103 = .ok (.bipush 47, 2) := by decide +kernel
theorem dX12_signAt_105 : decode cX12_signAt 105 = .ok (.if_icmp .eq 15, 3) := by decide +kernel
theorem dX12_signAt_108 : decode cX12_signAt 108 = .ok (.iload_n 2, 1) := by decide +kernel
theorem dX12_signAt_109 : decode cX12_signAt 109 = .ok (.bipush 40, 2) := by decide +kernel
theorem dX12_signAt_111 : decode cX12_signAt 111 = .ok (.if_icmp .eq 9, 3) := by decide +kernel
theorem dX12_signAt_114 : decode cX12_signAt 114 = .ok (.iload_n 2, 1) := by decide +kernel
theorem dX12_signAt_115 : decode cX12_signAt 115 = .ok (.bipush 41, 2) := by decide +kernel
theorem dX12_signAt_117 : decode cX12_signAt 117 = .ok (.if_icmp .ne 7, 3) := by decide +kernel
theorem dX12_signAt_120 : decode cX12_signAt 120 = .ok (.iload_n 2, 1) := by decide +kernel
theorem dX12_signAt_121 : decode cX12_signAt 121 = .ok (.goto 4, 3) := by decide +kernel
theorem dX12_signAt_124 : decode cX12_signAt 124 = .ok (.iconst 0, 1) := by decide +kernel
theorem dX12_signAt_125 : decode cX12_signAt 125 = .ok (.ireturn, 1) := by decide +kernel
def o_X12_signAt (mm : MM) (a1 : Int32) : Prop := o_X12_byteAt mm a1 ∧ (o_X12_byteAt mm (a1 + (1 : Int32)) ∧ ((¬ (v_X12_byteAt mm (a1 + (1 : Int32))) = (61 : Int32) → ((¬ (v_X12_byteAt mm a1) = (61 : Int32) → ((¬ (v_X12_byteAt mm a1) = (33 : Int32) → ((¬ (v_X12_byteAt mm a1) = (60 : Int32) → (((v_X12_byteAt mm a1) = (59 : Int32) → (True)) ∧ (¬ (v_X12_byteAt mm a1) = (59 : Int32) → (((v_X12_byteAt mm a1) = (43 : Int32) → (True)) ∧ (¬ (v_X12_byteAt mm a1) = (43 : Int32) → (((v_X12_byteAt mm a1) = (45 : Int32) → (True)) ∧ (¬ (v_X12_byteAt mm a1) = (45 : Int32) → (((v_X12_byteAt mm a1) = (42 : Int32) → (True)) ∧ (¬ (v_X12_byteAt mm a1) = (42 : Int32) → (((v_X12_byteAt mm a1) = (47 : Int32) → (True)) ∧ (¬ (v_X12_byteAt mm a1) = (47 : Int32) → (((v_X12_byteAt mm a1) = (40 : Int32) → (True)) ∧ (¬ (v_X12_byteAt mm a1) = (40 : Int32) → ((¬ (v_X12_byteAt mm a1) = (41 : Int32) → (True)) ∧ ((v_X12_byteAt mm a1) = (41 : Int32) → (True)))))))))))))))) ∧ ((v_X12_byteAt mm a1) = (60 : Int32) → (True)))) ∧ ((v_X12_byteAt mm a1) = (33 : Int32) → (True)))) ∧ ((v_X12_byteAt mm a1) = (61 : Int32) → (True)))) ∧ ((v_X12_byteAt mm (a1 + (1 : Int32))) = (61 : Int32) → ((¬ (v_X12_byteAt mm a1) = (61 : Int32) → ((¬ (v_X12_byteAt mm a1) = (33 : Int32) → ((¬ (v_X12_byteAt mm a1) = (60 : Int32) → (((v_X12_byteAt mm a1) = (59 : Int32) → (True)) ∧ (¬ (v_X12_byteAt mm a1) = (59 : Int32) → (((v_X12_byteAt mm a1) = (43 : Int32) → (True)) ∧ (¬ (v_X12_byteAt mm a1) = (43 : Int32) → (((v_X12_byteAt mm a1) = (45 : Int32) → (True)) ∧ (¬ (v_X12_byteAt mm a1) = (45 : Int32) → (((v_X12_byteAt mm a1) = (42 : Int32) → (True)) ∧ (¬ (v_X12_byteAt mm a1) = (42 : Int32) → (((v_X12_byteAt mm a1) = (47 : Int32) → (True)) ∧ (¬ (v_X12_byteAt mm a1) = (47 : Int32) → (((v_X12_byteAt mm a1) = (40 : Int32) → (True)) ∧ (¬ (v_X12_byteAt mm a1) = (40 : Int32) → ((¬ (v_X12_byteAt mm a1) = (41 : Int32) → (True)) ∧ ((v_X12_byteAt mm a1) = (41 : Int32) → (True)))))))))))))))) ∧ ((v_X12_byteAt mm a1) = (60 : Int32) → (True)))) ∧ ((v_X12_byteAt mm a1) = (33 : Int32) → (True)))) ∧ ((v_X12_byteAt mm a1) = (61 : Int32) → (True))))))
noncomputable def v_X12_signAt (mm : MM) (a1 : Int32) : Int32 := (cite ((v_X12_byteAt mm (a1 + (1 : Int32))) = (61 : Int32)) (cite ((v_X12_byteAt mm a1) = (61 : Int32)) (300 : Int32) (cite ((v_X12_byteAt mm a1) = (33 : Int32)) (301 : Int32) (cite ((v_X12_byteAt mm a1) = (60 : Int32)) (302 : Int32) (cite ((v_X12_byteAt mm a1) = (59 : Int32)) (v_X12_byteAt mm a1) (cite ((v_X12_byteAt mm a1) = (43 : Int32)) (v_X12_byteAt mm a1) (cite ((v_X12_byteAt mm a1) = (45 : Int32)) (v_X12_byteAt mm a1) (cite ((v_X12_byteAt mm a1) = (42 : Int32)) (v_X12_byteAt mm a1) (cite ((v_X12_byteAt mm a1) = (47 : Int32)) (v_X12_byteAt mm a1) (cite ((v_X12_byteAt mm a1) = (40 : Int32)) (v_X12_byteAt mm a1) (cite ((v_X12_byteAt mm a1) = (41 : Int32)) (v_X12_byteAt mm a1) (0 : Int32))))))))))) (cite ((v_X12_byteAt mm a1) = (61 : Int32)) (v_X12_byteAt mm a1) (cite ((v_X12_byteAt mm a1) = (33 : Int32)) (0 : Int32) (cite ((v_X12_byteAt mm a1) = (60 : Int32)) (v_X12_byteAt mm a1) (cite ((v_X12_byteAt mm a1) = (59 : Int32)) (v_X12_byteAt mm a1) (cite ((v_X12_byteAt mm a1) = (43 : Int32)) (v_X12_byteAt mm a1) (cite ((v_X12_byteAt mm a1) = (45 : Int32)) (v_X12_byteAt mm a1) (cite ((v_X12_byteAt mm a1) = (42 : Int32)) (v_X12_byteAt mm a1) (cite ((v_X12_byteAt mm a1) = (47 : Int32)) (v_X12_byteAt mm a1) (cite ((v_X12_byteAt mm a1) = (40 : Int32)) (v_X12_byteAt mm a1) (cite ((v_X12_byteAt mm a1) = (41 : Int32)) (v_X12_byteAt mm a1) (0 : Int32))))))))))))
theorem rv_X12_signAt (mm : MM) (a1 : Int32) (h : o_X12_signAt mm a1) : Runs e_X12_signAt [.ref 156, .int a1] mm (fun r m_ => r = .int (v_X12_signAt mm a1) ∧ mm = m_) := by
  refine runs_of_G (L := [(0, .ref 156), (1, .int a1)]) pl_X12 (Nat.le_of_ble_eq_true rfl) rfl ?_
  unfold o_X12_signAt at h
  refine g_aload_n (pc := 0) (x := 156) dX12_signAt_0 rfl ?_
  refine g_iload_n (pc := 1) (x := a1) dX12_signAt_1 rfl ?_
  refine g_callV (pc := 2) (as := [.int a1]) dX12_signAt_2 cw_X12_131 (by decide) rfl rfl sh_156 (Nat.le_of_ble_eq_true rfl) (rv_X12_byteAt mm a1 h.1) ?_
  have h := h.2
  rintro r_ m_ hz_ ⟨rfl, rfl⟩
  refine g_istore_n (pc := 5) (L' := [(0, .ref 156), (1, .int a1), (2, .int (v_X12_byteAt mm a1))]) dX12_signAt_5 (Nat.le_of_ble_eq_true rfl) rfl ?_
  refine g_aload_n (pc := 6) (x := 156) dX12_signAt_6 rfl ?_
  refine g_iload_n (pc := 7) (x := a1) dX12_signAt_7 rfl ?_
  refine g_iconst (pc := 8) (v := (1 : Int32)) dX12_signAt_8 (by decide) ?_
  refine g_iadd (pc := 9) dX12_signAt_9 ?_
  refine g_callV (pc := 10) (as := [.int (a1 + (1 : Int32))]) dX12_signAt_10 cw_X12_131 (by decide) rfl rfl sh_156 (Nat.le_of_ble_eq_true rfl) (rv_X12_byteAt mm (a1 + (1 : Int32)) h.1) ?_
  have h := h.2
  rintro r_ m_ hz_ ⟨rfl, rfl⟩
  refine g_bipush (pc := 13) (v := (61 : Int32)) dX12_signAt_13 (by decide) ?_
  refine g_icmp_ne (pc := 15) (tgt := 22) dX12_signAt_15 (by decide) (fun c15 => ?_) (fun c15 => ?_)
  · have c15_0 : ¬ (v_X12_byteAt mm (a1 + (1 : Int32))) = (61 : Int32) := c15
    refine g_iconst (pc := 22) (v := (0 : Int32)) dX12_signAt_22 (by decide) ?_
    refine g_istore_n (pc := 23) (L' := [(0, .ref 156), (1, .int a1), (2, .int (v_X12_byteAt mm a1)), (3, .int (0 : Int32))]) dX12_signAt_23 (Nat.le_of_ble_eq_true rfl) rfl ?_
    refine g_iload_n (pc := 24) (x := (v_X12_byteAt mm a1)) dX12_signAt_24 rfl ?_
    refine g_bipush (pc := 25) (v := (61 : Int32)) dX12_signAt_25 (by decide) ?_
    refine g_icmp_ne (pc := 27) (tgt := 42) dX12_signAt_27 (by decide) (fun c27 => ?_) (fun c27 => ?_)
    · have c27_1 : ¬ (v_X12_byteAt mm a1) = (61 : Int32) := c27
      refine g_iload_n (pc := 42) (x := (v_X12_byteAt mm a1)) dX12_signAt_42 rfl ?_
      refine g_bipush (pc := 43) (v := (33 : Int32)) dX12_signAt_43 (by decide) ?_
      refine g_icmp_ne (pc := 45) (tgt := 60) dX12_signAt_45 (by decide) (fun c45 => ?_) (fun c45 => ?_)
      · have c45_2 : ¬ (v_X12_byteAt mm a1) = (33 : Int32) := c45
        refine g_iload_n (pc := 60) (x := (v_X12_byteAt mm a1)) dX12_signAt_60 rfl ?_
        refine g_bipush (pc := 61) (v := (60 : Int32)) dX12_signAt_61 (by decide) ?_
        refine g_icmp_ne (pc := 63) (tgt := 78) dX12_signAt_63 (by decide) (fun c63 => ?_) (fun c63 => ?_)
        · have c63_3 : ¬ (v_X12_byteAt mm a1) = (60 : Int32) := c63
          refine g_iload_n (pc := 78) (x := (v_X12_byteAt mm a1)) dX12_signAt_78 rfl ?_
          refine g_bipush (pc := 79) (v := (59 : Int32)) dX12_signAt_79 (by decide) ?_
          refine g_icmp_eq (pc := 81) (tgt := 120) dX12_signAt_81 (by decide) (fun c81 => ?_) (fun c81 => ?_)
          · have c81_4 : (v_X12_byteAt mm a1) = (59 : Int32) := c81
            refine g_iload_n (pc := 120) (x := (v_X12_byteAt mm a1)) dX12_signAt_120 rfl ?_
            refine g_goto (pc := 121) (tgt := 125) dX12_signAt_121 (by decide) ?_
            exact g_iret (pc := 125) dX12_signAt_125 rfl rfl rfl ⟨(by unfold v_X12_signAt; rw [cite_neg c15_0, cite_neg c27_1, cite_neg c45_2, cite_neg c63_3, cite_pos c81_4] <;> rfl), rfl⟩
          · have c81_4 : ¬ (v_X12_byteAt mm a1) = (59 : Int32) := c81
            refine g_iload_n (pc := 84) (x := (v_X12_byteAt mm a1)) dX12_signAt_84 rfl ?_
            refine g_bipush (pc := 85) (v := (43 : Int32)) dX12_signAt_85 (by decide) ?_
            refine g_icmp_eq (pc := 87) (tgt := 120) dX12_signAt_87 (by decide) (fun c87 => ?_) (fun c87 => ?_)
            · have c87_5 : (v_X12_byteAt mm a1) = (43 : Int32) := c87
              refine g_iload_n (pc := 120) (x := (v_X12_byteAt mm a1)) dX12_signAt_120 rfl ?_
              refine g_goto (pc := 121) (tgt := 125) dX12_signAt_121 (by decide) ?_
              exact g_iret (pc := 125) dX12_signAt_125 rfl rfl rfl ⟨(by unfold v_X12_signAt; rw [cite_neg c15_0, cite_neg c27_1, cite_neg c45_2, cite_neg c63_3, cite_neg c81_4, cite_pos c87_5] <;> rfl), rfl⟩
            · have c87_5 : ¬ (v_X12_byteAt mm a1) = (43 : Int32) := c87
              refine g_iload_n (pc := 90) (x := (v_X12_byteAt mm a1)) dX12_signAt_90 rfl ?_
              refine g_bipush (pc := 91) (v := (45 : Int32)) dX12_signAt_91 (by decide) ?_
              refine g_icmp_eq (pc := 93) (tgt := 120) dX12_signAt_93 (by decide) (fun c93 => ?_) (fun c93 => ?_)
              · have c93_6 : (v_X12_byteAt mm a1) = (45 : Int32) := c93
                refine g_iload_n (pc := 120) (x := (v_X12_byteAt mm a1)) dX12_signAt_120 rfl ?_
                refine g_goto (pc := 121) (tgt := 125) dX12_signAt_121 (by decide) ?_
                exact g_iret (pc := 125) dX12_signAt_125 rfl rfl rfl ⟨(by unfold v_X12_signAt; rw [cite_neg c15_0, cite_neg c27_1, cite_neg c45_2, cite_neg c63_3, cite_neg c81_4, cite_neg c87_5, cite_pos c93_6] <;> rfl), rfl⟩
              · have c93_6 : ¬ (v_X12_byteAt mm a1) = (45 : Int32) := c93
                refine g_iload_n (pc := 96) (x := (v_X12_byteAt mm a1)) dX12_signAt_96 rfl ?_
                refine g_bipush (pc := 97) (v := (42 : Int32)) dX12_signAt_97 (by decide) ?_
                refine g_icmp_eq (pc := 99) (tgt := 120) dX12_signAt_99 (by decide) (fun c99 => ?_) (fun c99 => ?_)
                · have c99_7 : (v_X12_byteAt mm a1) = (42 : Int32) := c99
                  refine g_iload_n (pc := 120) (x := (v_X12_byteAt mm a1)) dX12_signAt_120 rfl ?_
                  refine g_goto (pc := 121) (tgt := 125) dX12_signAt_121 (by decide) ?_
                  exact g_iret (pc := 125) dX12_signAt_125 rfl rfl rfl ⟨(by unfold v_X12_signAt; rw [cite_neg c15_0, cite_neg c27_1, cite_neg c45_2, cite_neg c63_3, cite_neg c81_4, cite_neg c87_5, cite_neg c93_6, cite_pos c99_7] <;> rfl), rfl⟩
                · have c99_7 : ¬ (v_X12_byteAt mm a1) = (42 : Int32) := c99
                  refine g_iload_n (pc := 102) (x := (v_X12_byteAt mm a1)) dX12_signAt_102 rfl ?_
                  refine g_bipush (pc := 103) (v := (47 : Int32)) dX12_signAt_103 (by decide) ?_
                  refine g_icmp_eq (pc := 105) (tgt := 120) dX12_signAt_105 (by decide) (fun c105 => ?_) (fun c105 => ?_)
                  · have c105_8 : (v_X12_byteAt mm a1) = (47 : Int32) := c105
                    refine g_iload_n (pc := 120) (x := (v_X12_byteAt mm a1)) dX12_signAt_120 rfl ?_
                    refine g_goto (pc := 121) (tgt := 125) dX12_signAt_121 (by decide) ?_
                    exact g_iret (pc := 125) dX12_signAt_125 rfl rfl rfl ⟨(by unfold v_X12_signAt; rw [cite_neg c15_0, cite_neg c27_1, cite_neg c45_2, cite_neg c63_3, cite_neg c81_4, cite_neg c87_5, cite_neg c93_6, cite_neg c99_7, cite_pos c105_8] <;> rfl), rfl⟩
                  · have c105_8 : ¬ (v_X12_byteAt mm a1) = (47 : Int32) := c105
                    refine g_iload_n (pc := 108) (x := (v_X12_byteAt mm a1)) dX12_signAt_108 rfl ?_
                    refine g_bipush (pc := 109) (v := (40 : Int32)) dX12_signAt_109 (by decide) ?_
                    refine g_icmp_eq (pc := 111) (tgt := 120) dX12_signAt_111 (by decide) (fun c111 => ?_) (fun c111 => ?_)
                    · have c111_9 : (v_X12_byteAt mm a1) = (40 : Int32) := c111
                      refine g_iload_n (pc := 120) (x := (v_X12_byteAt mm a1)) dX12_signAt_120 rfl ?_
                      refine g_goto (pc := 121) (tgt := 125) dX12_signAt_121 (by decide) ?_
                      exact g_iret (pc := 125) dX12_signAt_125 rfl rfl rfl ⟨(by unfold v_X12_signAt; rw [cite_neg c15_0, cite_neg c27_1, cite_neg c45_2, cite_neg c63_3, cite_neg c81_4, cite_neg c87_5, cite_neg c93_6, cite_neg c99_7, cite_neg c105_8, cite_pos c111_9] <;> rfl), rfl⟩
                    · have c111_9 : ¬ (v_X12_byteAt mm a1) = (40 : Int32) := c111
                      refine g_iload_n (pc := 114) (x := (v_X12_byteAt mm a1)) dX12_signAt_114 rfl ?_
                      refine g_bipush (pc := 115) (v := (41 : Int32)) dX12_signAt_115 (by decide) ?_
                      refine g_icmp_ne (pc := 117) (tgt := 124) dX12_signAt_117 (by decide) (fun c117 => ?_) (fun c117 => ?_)
                      · have c117_10 : ¬ (v_X12_byteAt mm a1) = (41 : Int32) := c117
                        refine g_iconst (pc := 124) (v := (0 : Int32)) dX12_signAt_124 (by decide) ?_
                        exact g_iret (pc := 125) dX12_signAt_125 rfl rfl rfl ⟨(by unfold v_X12_signAt; rw [cite_neg c15_0, cite_neg c27_1, cite_neg c45_2, cite_neg c63_3, cite_neg c81_4, cite_neg c87_5, cite_neg c93_6, cite_neg c99_7, cite_neg c105_8, cite_neg c111_9, cite_neg c117_10] <;> rfl), rfl⟩
                      · have c117_10 : (v_X12_byteAt mm a1) = (41 : Int32) := c117
                        refine g_iload_n (pc := 120) (x := (v_X12_byteAt mm a1)) dX12_signAt_120 rfl ?_
                        refine g_goto (pc := 121) (tgt := 125) dX12_signAt_121 (by decide) ?_
                        exact g_iret (pc := 125) dX12_signAt_125 rfl rfl rfl ⟨(by unfold v_X12_signAt; rw [cite_neg c15_0, cite_neg c27_1, cite_neg c45_2, cite_neg c63_3, cite_neg c81_4, cite_neg c87_5, cite_neg c93_6, cite_neg c99_7, cite_neg c105_8, cite_neg c111_9, cite_pos c117_10] <;> rfl), rfl⟩
        · have c63_3 : (v_X12_byteAt mm a1) = (60 : Int32) := c63
          refine g_iload_n (pc := 66) (x := (0 : Int32)) dX12_signAt_66 rfl ?_
          refine g_if_eq (pc := 67) (tgt := 76) dX12_signAt_67 (by decide) (fun _ => ?_) (fun c67 => absurd c67 (by decide))
          refine g_iload_n (pc := 76) (x := (v_X12_byteAt mm a1)) dX12_signAt_76 rfl ?_
          exact g_iret (pc := 77) dX12_signAt_77 rfl rfl rfl ⟨(by unfold v_X12_signAt; rw [cite_neg c15_0, cite_neg c27_1, cite_neg c45_2, cite_pos c63_3] <;> rfl), rfl⟩
      · have c45_2 : (v_X12_byteAt mm a1) = (33 : Int32) := c45
        refine g_iload_n (pc := 48) (x := (0 : Int32)) dX12_signAt_48 rfl ?_
        refine g_if_eq (pc := 49) (tgt := 58) dX12_signAt_49 (by decide) (fun _ => ?_) (fun c49 => absurd c49 (by decide))
        refine g_iconst (pc := 58) (v := (0 : Int32)) dX12_signAt_58 (by decide) ?_
        exact g_iret (pc := 59) dX12_signAt_59 rfl rfl rfl ⟨(by unfold v_X12_signAt; rw [cite_neg c15_0, cite_neg c27_1, cite_pos c45_2] <;> rfl), rfl⟩
    · have c27_1 : (v_X12_byteAt mm a1) = (61 : Int32) := c27
      refine g_iload_n (pc := 30) (x := (0 : Int32)) dX12_signAt_30 rfl ?_
      refine g_if_eq (pc := 31) (tgt := 40) dX12_signAt_31 (by decide) (fun _ => ?_) (fun c31 => absurd c31 (by decide))
      refine g_iload_n (pc := 40) (x := (v_X12_byteAt mm a1)) dX12_signAt_40 rfl ?_
      exact g_iret (pc := 41) dX12_signAt_41 rfl rfl rfl ⟨(by unfold v_X12_signAt; rw [cite_neg c15_0, cite_pos c27_1] <;> rfl), rfl⟩
  · have c15_0 : (v_X12_byteAt mm (a1 + (1 : Int32))) = (61 : Int32) := c15
    refine g_iconst (pc := 18) (v := (1 : Int32)) dX12_signAt_18 (by decide) ?_
    refine g_goto (pc := 19) (tgt := 23) dX12_signAt_19 (by decide) ?_
    refine g_istore_n (pc := 23) (L' := [(0, .ref 156), (1, .int a1), (2, .int (v_X12_byteAt mm a1)), (3, .int (1 : Int32))]) dX12_signAt_23 (Nat.le_of_ble_eq_true rfl) rfl ?_
    refine g_iload_n (pc := 24) (x := (v_X12_byteAt mm a1)) dX12_signAt_24 rfl ?_
    refine g_bipush (pc := 25) (v := (61 : Int32)) dX12_signAt_25 (by decide) ?_
    refine g_icmp_ne (pc := 27) (tgt := 42) dX12_signAt_27 (by decide) (fun c27 => ?_) (fun c27 => ?_)
    · have c27_1 : ¬ (v_X12_byteAt mm a1) = (61 : Int32) := c27
      refine g_iload_n (pc := 42) (x := (v_X12_byteAt mm a1)) dX12_signAt_42 rfl ?_
      refine g_bipush (pc := 43) (v := (33 : Int32)) dX12_signAt_43 (by decide) ?_
      refine g_icmp_ne (pc := 45) (tgt := 60) dX12_signAt_45 (by decide) (fun c45 => ?_) (fun c45 => ?_)
      · have c45_2 : ¬ (v_X12_byteAt mm a1) = (33 : Int32) := c45
        refine g_iload_n (pc := 60) (x := (v_X12_byteAt mm a1)) dX12_signAt_60 rfl ?_
        refine g_bipush (pc := 61) (v := (60 : Int32)) dX12_signAt_61 (by decide) ?_
        refine g_icmp_ne (pc := 63) (tgt := 78) dX12_signAt_63 (by decide) (fun c63 => ?_) (fun c63 => ?_)
        · have c63_3 : ¬ (v_X12_byteAt mm a1) = (60 : Int32) := c63
          refine g_iload_n (pc := 78) (x := (v_X12_byteAt mm a1)) dX12_signAt_78 rfl ?_
          refine g_bipush (pc := 79) (v := (59 : Int32)) dX12_signAt_79 (by decide) ?_
          refine g_icmp_eq (pc := 81) (tgt := 120) dX12_signAt_81 (by decide) (fun c81 => ?_) (fun c81 => ?_)
          · have c81_4 : (v_X12_byteAt mm a1) = (59 : Int32) := c81
            refine g_iload_n (pc := 120) (x := (v_X12_byteAt mm a1)) dX12_signAt_120 rfl ?_
            refine g_goto (pc := 121) (tgt := 125) dX12_signAt_121 (by decide) ?_
            exact g_iret (pc := 125) dX12_signAt_125 rfl rfl rfl ⟨(by unfold v_X12_signAt; rw [cite_pos c15_0, cite_neg c27_1, cite_neg c45_2, cite_neg c63_3, cite_pos c81_4] <;> rfl), rfl⟩
          · have c81_4 : ¬ (v_X12_byteAt mm a1) = (59 : Int32) := c81
            refine g_iload_n (pc := 84) (x := (v_X12_byteAt mm a1)) dX12_signAt_84 rfl ?_
            refine g_bipush (pc := 85) (v := (43 : Int32)) dX12_signAt_85 (by decide) ?_
            refine g_icmp_eq (pc := 87) (tgt := 120) dX12_signAt_87 (by decide) (fun c87 => ?_) (fun c87 => ?_)
            · have c87_5 : (v_X12_byteAt mm a1) = (43 : Int32) := c87
              refine g_iload_n (pc := 120) (x := (v_X12_byteAt mm a1)) dX12_signAt_120 rfl ?_
              refine g_goto (pc := 121) (tgt := 125) dX12_signAt_121 (by decide) ?_
              exact g_iret (pc := 125) dX12_signAt_125 rfl rfl rfl ⟨(by unfold v_X12_signAt; rw [cite_pos c15_0, cite_neg c27_1, cite_neg c45_2, cite_neg c63_3, cite_neg c81_4, cite_pos c87_5] <;> rfl), rfl⟩
            · have c87_5 : ¬ (v_X12_byteAt mm a1) = (43 : Int32) := c87
              refine g_iload_n (pc := 90) (x := (v_X12_byteAt mm a1)) dX12_signAt_90 rfl ?_
              refine g_bipush (pc := 91) (v := (45 : Int32)) dX12_signAt_91 (by decide) ?_
              refine g_icmp_eq (pc := 93) (tgt := 120) dX12_signAt_93 (by decide) (fun c93 => ?_) (fun c93 => ?_)
              · have c93_6 : (v_X12_byteAt mm a1) = (45 : Int32) := c93
                refine g_iload_n (pc := 120) (x := (v_X12_byteAt mm a1)) dX12_signAt_120 rfl ?_
                refine g_goto (pc := 121) (tgt := 125) dX12_signAt_121 (by decide) ?_
                exact g_iret (pc := 125) dX12_signAt_125 rfl rfl rfl ⟨(by unfold v_X12_signAt; rw [cite_pos c15_0, cite_neg c27_1, cite_neg c45_2, cite_neg c63_3, cite_neg c81_4, cite_neg c87_5, cite_pos c93_6] <;> rfl), rfl⟩
              · have c93_6 : ¬ (v_X12_byteAt mm a1) = (45 : Int32) := c93
                refine g_iload_n (pc := 96) (x := (v_X12_byteAt mm a1)) dX12_signAt_96 rfl ?_
                refine g_bipush (pc := 97) (v := (42 : Int32)) dX12_signAt_97 (by decide) ?_
                refine g_icmp_eq (pc := 99) (tgt := 120) dX12_signAt_99 (by decide) (fun c99 => ?_) (fun c99 => ?_)
                · have c99_7 : (v_X12_byteAt mm a1) = (42 : Int32) := c99
                  refine g_iload_n (pc := 120) (x := (v_X12_byteAt mm a1)) dX12_signAt_120 rfl ?_
                  refine g_goto (pc := 121) (tgt := 125) dX12_signAt_121 (by decide) ?_
                  exact g_iret (pc := 125) dX12_signAt_125 rfl rfl rfl ⟨(by unfold v_X12_signAt; rw [cite_pos c15_0, cite_neg c27_1, cite_neg c45_2, cite_neg c63_3, cite_neg c81_4, cite_neg c87_5, cite_neg c93_6, cite_pos c99_7] <;> rfl), rfl⟩
                · have c99_7 : ¬ (v_X12_byteAt mm a1) = (42 : Int32) := c99
                  refine g_iload_n (pc := 102) (x := (v_X12_byteAt mm a1)) dX12_signAt_102 rfl ?_
                  refine g_bipush (pc := 103) (v := (47 : Int32)) dX12_signAt_103 (by decide) ?_
                  refine g_icmp_eq (pc := 105) (tgt := 120) dX12_signAt_105 (by decide) (fun c105 => ?_) (fun c105 => ?_)
                  · have c105_8 : (v_X12_byteAt mm a1) = (47 : Int32) := c105
                    refine g_iload_n (pc := 120) (x := (v_X12_byteAt mm a1)) dX12_signAt_120 rfl ?_
                    refine g_goto (pc := 121) (tgt := 125) dX12_signAt_121 (by decide) ?_
                    exact g_iret (pc := 125) dX12_signAt_125 rfl rfl rfl ⟨(by unfold v_X12_signAt; rw [cite_pos c15_0, cite_neg c27_1, cite_neg c45_2, cite_neg c63_3, cite_neg c81_4, cite_neg c87_5, cite_neg c93_6, cite_neg c99_7, cite_pos c105_8] <;> rfl), rfl⟩
                  · have c105_8 : ¬ (v_X12_byteAt mm a1) = (47 : Int32) := c105
                    refine g_iload_n (pc := 108) (x := (v_X12_byteAt mm a1)) dX12_signAt_108 rfl ?_
                    refine g_bipush (pc := 109) (v := (40 : Int32)) dX12_signAt_109 (by decide) ?_
                    refine g_icmp_eq (pc := 111) (tgt := 120) dX12_signAt_111 (by decide) (fun c111 => ?_) (fun c111 => ?_)
                    · have c111_9 : (v_X12_byteAt mm a1) = (40 : Int32) := c111
                      refine g_iload_n (pc := 120) (x := (v_X12_byteAt mm a1)) dX12_signAt_120 rfl ?_
                      refine g_goto (pc := 121) (tgt := 125) dX12_signAt_121 (by decide) ?_
                      exact g_iret (pc := 125) dX12_signAt_125 rfl rfl rfl ⟨(by unfold v_X12_signAt; rw [cite_pos c15_0, cite_neg c27_1, cite_neg c45_2, cite_neg c63_3, cite_neg c81_4, cite_neg c87_5, cite_neg c93_6, cite_neg c99_7, cite_neg c105_8, cite_pos c111_9] <;> rfl), rfl⟩
                    · have c111_9 : ¬ (v_X12_byteAt mm a1) = (40 : Int32) := c111
                      refine g_iload_n (pc := 114) (x := (v_X12_byteAt mm a1)) dX12_signAt_114 rfl ?_
                      refine g_bipush (pc := 115) (v := (41 : Int32)) dX12_signAt_115 (by decide) ?_
                      refine g_icmp_ne (pc := 117) (tgt := 124) dX12_signAt_117 (by decide) (fun c117 => ?_) (fun c117 => ?_)
                      · have c117_10 : ¬ (v_X12_byteAt mm a1) = (41 : Int32) := c117
                        refine g_iconst (pc := 124) (v := (0 : Int32)) dX12_signAt_124 (by decide) ?_
                        exact g_iret (pc := 125) dX12_signAt_125 rfl rfl rfl ⟨(by unfold v_X12_signAt; rw [cite_pos c15_0, cite_neg c27_1, cite_neg c45_2, cite_neg c63_3, cite_neg c81_4, cite_neg c87_5, cite_neg c93_6, cite_neg c99_7, cite_neg c105_8, cite_neg c111_9, cite_neg c117_10] <;> rfl), rfl⟩
                      · have c117_10 : (v_X12_byteAt mm a1) = (41 : Int32) := c117
                        refine g_iload_n (pc := 120) (x := (v_X12_byteAt mm a1)) dX12_signAt_120 rfl ?_
                        refine g_goto (pc := 121) (tgt := 125) dX12_signAt_121 (by decide) ?_
                        exact g_iret (pc := 125) dX12_signAt_125 rfl rfl rfl ⟨(by unfold v_X12_signAt; rw [cite_pos c15_0, cite_neg c27_1, cite_neg c45_2, cite_neg c63_3, cite_neg c81_4, cite_neg c87_5, cite_neg c93_6, cite_neg c99_7, cite_neg c105_8, cite_neg c111_9, cite_pos c117_10] <;> rfl), rfl⟩
        · have c63_3 : (v_X12_byteAt mm a1) = (60 : Int32) := c63
          refine g_iload_n (pc := 66) (x := (1 : Int32)) dX12_signAt_66 rfl ?_
          refine g_if_eq (pc := 67) (tgt := 76) dX12_signAt_67 (by decide) (fun c67 => absurd c67 (by decide)) (fun _ => ?_)
          refine g_sipush (pc := 70) (v := (302 : Int32)) dX12_signAt_70 (by decide) ?_
          refine g_goto (pc := 73) (tgt := 77) dX12_signAt_73 (by decide) ?_
          exact g_iret (pc := 77) dX12_signAt_77 rfl rfl rfl ⟨(by unfold v_X12_signAt; rw [cite_pos c15_0, cite_neg c27_1, cite_neg c45_2, cite_pos c63_3] <;> rfl), rfl⟩
      · have c45_2 : (v_X12_byteAt mm a1) = (33 : Int32) := c45
        refine g_iload_n (pc := 48) (x := (1 : Int32)) dX12_signAt_48 rfl ?_
        refine g_if_eq (pc := 49) (tgt := 58) dX12_signAt_49 (by decide) (fun c49 => absurd c49 (by decide)) (fun _ => ?_)
        refine g_sipush (pc := 52) (v := (301 : Int32)) dX12_signAt_52 (by decide) ?_
        refine g_goto (pc := 55) (tgt := 59) dX12_signAt_55 (by decide) ?_
        exact g_iret (pc := 59) dX12_signAt_59 rfl rfl rfl ⟨(by unfold v_X12_signAt; rw [cite_pos c15_0, cite_neg c27_1, cite_pos c45_2] <;> rfl), rfl⟩
    · have c27_1 : (v_X12_byteAt mm a1) = (61 : Int32) := c27
      refine g_iload_n (pc := 30) (x := (1 : Int32)) dX12_signAt_30 rfl ?_
      refine g_if_eq (pc := 31) (tgt := 40) dX12_signAt_31 (by decide) (fun c31 => absurd c31 (by decide)) (fun _ => ?_)
      refine g_sipush (pc := 34) (v := (300 : Int32)) dX12_signAt_34 (by decide) ?_
      refine g_goto (pc := 37) (tgt := 41) dX12_signAt_37 (by decide) ?_
      exact g_iret (pc := 41) dX12_signAt_41 rfl rfl rfl ⟨(by unfold v_X12_signAt; rw [cite_pos c15_0, cite_pos c27_1] <;> rfl), rfl⟩
theorem dX12_scan_0 : decode cX12_scan 0 = .ok (.iload_n 1, 1) := by decide +kernel
theorem dX12_scan_1 : decode cX12_scan 1 = .ok (.istore_n 2, 1) := by decide +kernel
theorem dX12_scan_2 : decode cX12_scan 2 = .ok (.aload_n 0, 1) := by decide +kernel
theorem dX12_scan_3 : decode cX12_scan 3 = .ok (.iload_n 1, 1) := by decide +kernel
theorem dX12_scan_4 : decode cX12_scan 4 = .ok (.invokevirtual 190, 3) := by decide +kernel
theorem dX12_scan_7 : decode cX12_scan 7 = .ok (.ifCond .eq 103, 3) := by decide +kernel
theorem dX12_scan_10 : decode cX12_scan 10 = .ok (.lconst 0, 1) := by decide +kernel
theorem dX12_scan_11 : decode cX12_scan 11 = .ok (.lstore_n 3, 1) := by decide +kernel
theorem dX12_scan_12 : decode cX12_scan 12 = .ok (.aload_n 0, 1) := by decide +kernel
theorem dX12_scan_13 : decode cX12_scan 13 = .ok (.iload_n 2, 1) := by decide +kernel
theorem dX12_scan_14 : decode cX12_scan 14 = .ok (.invokevirtual 190, 3) := by decide +kernel
theorem dX12_scan_17 : decode cX12_scan 17 = .ok (.ifCond .eq 34, 3) := by decide +kernel
theorem dX12_scan_20 : decode cX12_scan 20 = .ok (.iload_n 2, 1) := by decide +kernel
theorem dX12_scan_21 : decode cX12_scan 21 = .ok (.iload_n 1, 1) := by decide +kernel
theorem dX12_scan_22 : decode cX12_scan 22 = .ok (.isub, 1) := by decide +kernel
theorem dX12_scan_23 : decode cX12_scan 23 = .ok (.bipush 8, 2) := by decide +kernel
theorem dX12_scan_25 : decode cX12_scan 25 = .ok (.if_icmp .ge 20, 3) := by decide +kernel
theorem dX12_scan_28 : decode cX12_scan 28 = .ok (.lload_n 3, 1) := by decide +kernel
theorem dX12_scan_29 : decode cX12_scan 29 = .ok (.ldc2_w 194, 3) := by decide +kernel
theorem dX12_scan_32 : decode cX12_scan 32 = .ok (.lmul, 1) := by decide +kernel
theorem dX12_scan_33 : decode cX12_scan 33 = .ok (.aload_n 0, 1) := by decide +kernel
theorem dX12_scan_34 : decode cX12_scan 34 = .ok (.iload_n 2, 1) := by decide +kernel
theorem dX12_scan_35 : decode cX12_scan 35 = .ok (.invokevirtual 131, 3) := by decide +kernel
theorem dX12_scan_38 : decode cX12_scan 38 = .ok (.i2l, 1) := by decide +kernel
theorem dX12_scan_39 : decode cX12_scan 39 = .ok (.ladd, 1) := by decide +kernel
theorem dX12_scan_40 : decode cX12_scan 40 = .ok (.ldc2_w 196, 3) := by decide +kernel
theorem dX12_scan_43 : decode cX12_scan 43 = .ok (.lsub, 1) := by decide +kernel
theorem dX12_scan_44 : decode cX12_scan 44 = .ok (.lstore_n 3, 1) := by decide +kernel
theorem dX12_scan_45 : decode cX12_scan 45 = .ok (.iinc 2 1, 3) := by decide +kernel
theorem dX12_scan_48 : decode cX12_scan 48 = .ok (.goto (-36), 3) := by decide +kernel
theorem dX12_scan_51 : decode cX12_scan 51 = .ok (.iload_n 2, 1) := by decide +kernel
theorem dX12_scan_52 : decode cX12_scan 52 = .ok (.iload_n 1, 1) := by decide +kernel
theorem dX12_scan_53 : decode cX12_scan 53 = .ok (.isub, 1) := by decide +kernel
theorem dX12_scan_54 : decode cX12_scan 54 = .ok (.bipush 8, 2) := by decide +kernel
theorem dX12_scan_56 : decode cX12_scan 56 = .ok (.if_icmp .le 7, 3) := by decide +kernel
theorem dX12_scan_59 : decode cX12_scan 59 = .ok (.iconst (-1), 1) := by decide +kernel
theorem dX12_scan_60 : decode cX12_scan 60 = .ok (.goto 7, 3) := by decide +kernel
theorem dX12_scan_63 : decode cX12_scan 63 = .ok (.lload_n 3, 1) := by decide +kernel
theorem dX12_scan_64 : decode cX12_scan 64 = .ok (.invokestatic 198, 3) := by decide +kernel
theorem dX12_scan_67 : decode cX12_scan 67 = .ok (.istore 5, 2) := by decide +kernel
theorem dX12_scan_69 : decode cX12_scan 69 = .ok (.aload_n 0, 1) := by decide +kernel
theorem dX12_scan_70 : decode cX12_scan 70 = .ok (.getfield 22, 3) := by decide +kernel
theorem dX12_scan_73 : decode cX12_scan 73 = .ok (.aload_n 0, 1) := by decide +kernel
theorem dX12_scan_74 : decode cX12_scan 74 = .ok (.getfield 135, 3) := by decide +kernel
theorem dX12_scan_77 : decode cX12_scan 77 = .ok (.lload_n 3, 1) := by decide +kernel
theorem dX12_scan_78 : decode cX12_scan 78 = .ok (.lastore, 1) := by decide +kernel
theorem dX12_scan_79 : decode cX12_scan 79 = .ok (.aload_n 0, 1) := by decide +kernel
theorem dX12_scan_80 : decode cX12_scan 80 = .ok (.iload_n 2, 1) := by decide +kernel
theorem dX12_scan_81 : decode cX12_scan 81 = .ok (.iload_n 1, 1) := by decide +kernel
theorem dX12_scan_82 : decode cX12_scan 82 = .ok (.isub, 1) := by decide +kernel
theorem dX12_scan_83 : decode cX12_scan 83 = .ok (.bipush 8, 2) := by decide +kernel
theorem dX12_scan_85 : decode cX12_scan 85 = .ok (.if_icmp .le 7, 3) := by decide +kernel
theorem dX12_scan_88 : decode cX12_scan 88 = .ok (.iconst 5, 1) := by decide +kernel
theorem dX12_scan_89 : decode cX12_scan 89 = .ok (.goto 13, 3) := by decide +kernel
theorem dX12_scan_92 : decode cX12_scan 92 = .ok (.iload 5, 2) := by decide +kernel
theorem dX12_scan_94 : decode cX12_scan 94 = .ok (.ifCond .lt 7, 3) := by decide +kernel
theorem dX12_scan_97 : decode cX12_scan 97 = .ok (.iconst 3, 1) := by decide +kernel
theorem dX12_scan_98 : decode cX12_scan 98 = .ok (.goto 4, 3) := by decide +kernel
theorem dX12_scan_101 : decode cX12_scan 101 = .ok (.iconst 0, 1) := by decide +kernel
theorem dX12_scan_102 : decode cX12_scan 102 = .ok (.iload_n 1, 1) := by decide +kernel
theorem dX12_scan_103 : decode cX12_scan 103 = .ok (.iload 5, 2) := by decide +kernel
theorem dX12_scan_105 : decode cX12_scan 105 = .ok (.invokevirtual 202, 3) := by decide +kernel
theorem dX12_scan_108 : decode cX12_scan 108 = .ok (.iload_n 2, 1) := by decide +kernel
theorem dX12_scan_109 : decode cX12_scan 109 = .ok (.ireturn, 1) := by decide +kernel
theorem dX12_scan_110 : decode cX12_scan 110 = .ok (.aload_n 0, 1) := by decide +kernel
theorem dX12_scan_111 : decode cX12_scan 111 = .ok (.iload_n 1, 1) := by decide +kernel
theorem dX12_scan_112 : decode cX12_scan 112 = .ok (.invokevirtual 206, 3) := by decide +kernel
theorem dX12_scan_115 : decode cX12_scan 115 = .ok (.ifCond .eq 60, 3) := by decide +kernel
theorem dX12_scan_118 : decode cX12_scan 118 = .ok (.iconst 0, 1) := by decide +kernel
theorem dX12_scan_119 : decode cX12_scan 119 = .ok (.istore_n 3, 1) := by decide +kernel
theorem dX12_scan_120 : decode cX12_scan 120 = .ok (.aload_n 0, 1) := by decide +kernel
theorem dX12_scan_121 : decode cX12_scan 121 = .ok (.iload_n 2, 1) := by decide +kernel
theorem dX12_scan_122 : decode cX12_scan 122 = .ok (.invokevirtual 206, 3) := by decide +kernel
theorem dX12_scan_125 : decode cX12_scan 125 = .ok (.ifCond .eq 30, 3) := by decide +kernel
theorem dX12_scan_128 : decode cX12_scan 128 = .ok (.iload_n 2, 1) := by decide +kernel
theorem dX12_scan_129 : decode cX12_scan 129 = .ok (.iload_n 1, 1) := by decide +kernel
theorem dX12_scan_130 : decode cX12_scan 130 = .ok (.isub, 1) := by decide +kernel
theorem dX12_scan_131 : decode cX12_scan 131 = .ok (.iconst 4, 1) := by decide +kernel
theorem dX12_scan_132 : decode cX12_scan 132 = .ok (.if_icmp .ge 17, 3) := by decide +kernel
theorem dX12_scan_135 : decode cX12_scan 135 = .ok (.bipush 10, 2) := by decide +kernel
theorem dX12_scan_137 : decode cX12_scan 137 = .ok (.iload_n 3, 1) := by decide +kernel
theorem dX12_scan_138 : decode cX12_scan 138 = .ok (.imul, 1) := by decide +kernel
theorem dX12_scan_139 : decode cX12_scan 139 = .ok (.aload_n 0, 1) := by decide +kernel
theorem dX12_scan_140 : decode cX12_scan 140 = .ok (.iload_n 2, 1) := by decide +kernel
theorem dX12_scan_141 : decode cX12_scan 141 = .ok (.invokevirtual 131, 3) := by decide +kernel
theorem dX12_scan_144 : decode cX12_scan 144 = .ok (.iadd, 1) := by decide +kernel
theorem dX12_scan_145 : decode cX12_scan 145 = .ok (.bipush 48, 2) := by decide +kernel
theorem dX12_scan_147 : decode cX12_scan 147 = .ok (.isub, 1) := by decide +kernel
theorem dX12_scan_148 : decode cX12_scan 148 = .ok (.istore_n 3, 1) := by decide +kernel
theorem dX12_scan_149 : decode cX12_scan 149 = .ok (.iinc 2 1, 3) := by decide +kernel
theorem dX12_scan_152 : decode cX12_scan 152 = .ok (.goto (-32), 3) := by decide +kernel
theorem dX12_scan_155 : decode cX12_scan 155 = .ok (.aload_n 0, 1) := by decide +kernel
theorem dX12_scan_156 : decode cX12_scan 156 = .ok (.iload_n 2, 1) := by decide +kernel
theorem dX12_scan_157 : decode cX12_scan 157 = .ok (.iload_n 1, 1) := by decide +kernel
theorem dX12_scan_158 : decode cX12_scan 158 = .ok (.isub, 1) := by decide +kernel
theorem dX12_scan_159 : decode cX12_scan 159 = .ok (.iconst 4, 1) := by decide +kernel
theorem dX12_scan_160 : decode cX12_scan 160 = .ok (.if_icmp .le 7, 3) := by decide +kernel
theorem dX12_scan_163 : decode cX12_scan 163 = .ok (.iconst 5, 1) := by decide +kernel
theorem dX12_scan_164 : decode cX12_scan 164 = .ok (.goto 4, 3) := by decide +kernel
theorem dX12_scan_167 : decode cX12_scan 167 = .ok (.iconst 1, 1) := by decide +kernel
theorem dX12_scan_168 : decode cX12_scan 168 = .ok (.iload_n 1, 1) := by decide +kernel
theorem dX12_scan_169 : decode cX12_scan 169 = .ok (.iload_n 3, 1) := by decide +kernel
theorem dX12_scan_170 : decode cX12_scan 170 = .ok (.invokevirtual 202, 3) := by decide +kernel
theorem dX12_scan_173 : decode cX12_scan 173 = .ok (.iload_n 2, 1) := by decide +kernel
theorem dX12_scan_174 : decode cX12_scan 174 = .ok (.ireturn, 1) := by decide +kernel
theorem dX12_scan_175 : decode cX12_scan 175 = .ok (.aload_n 0, 1) := by decide +kernel
theorem dX12_scan_176 : decode cX12_scan 176 = .ok (.iload_n 1, 1) := by decide +kernel
theorem dX12_scan_177 : decode cX12_scan 177 = .ok (.invokevirtual 209, 3) := by decide +kernel
theorem dX12_scan_180 : decode cX12_scan 180 = .ok (.istore_n 3, 1) := by decide +kernel
theorem dX12_scan_181 : decode cX12_scan 181 = .ok (.aload_n 0, 1) := by decide +kernel
theorem dX12_scan_182 : decode cX12_scan 182 = .ok (.iload_n 3, 1) := by decide +kernel
theorem dX12_scan_183 : decode cX12_scan 183 = .ok (.ifCond .ne 7, 3) := by decide +kernel
theorem dX12_scan_186 : decode cX12_scan 186 = .ok (.iconst 5, 1) := by decide +kernel
theorem dX12_scan_187 : decode cX12_scan 187 = .ok (.goto 4, 3) := by decide +kernel
theorem dX12_scan_190 : decode cX12_scan 190 = .ok (.iconst 2, 1) := by decide +kernel
theorem dX12_scan_191 : decode cX12_scan 191 = .ok (.iload_n 1, 1) := by decide +kernel
theorem dX12_scan_192 : decode cX12_scan 192 = .ok (.iload_n 3, 1) := by decide +kernel
theorem dX12_scan_193 : decode cX12_scan 193 = .ok (.invokevirtual 202, 3) := by decide +kernel
theorem dX12_scan_196 : decode cX12_scan 196 = .ok (.iload_n 1, 1) := by decide +kernel
theorem dX12_scan_197 : decode cX12_scan 197 = .ok (.iload_n 3, 1) := by decide +kernel
theorem dX12_scan_198 : decode cX12_scan 198 = .ok (.sipush 300, 3) := by decide +kernel
theorem dX12_scan_201 : decode cX12_scan 201 = .ok (.if_icmp .lt 7, 3) := by decide +kernel
theorem dX12_scan_204 : decode cX12_scan 204 = .ok (.iconst 2, 1) := by decide +kernel
theorem dX12_scan_205 : decode cX12_scan 205 = .ok (.goto 4, 3) := by decide +kernel
theorem dX12_scan_208 : decode cX12_scan 208 = .ok (.iconst 1, 1) := by decide +kernel
theorem dX12_scan_209 : decode cX12_scan 209 = .ok (.iadd, 1) := by decide +kernel
theorem dX12_scan_210 : decode cX12_scan 210 = .ok (.ireturn, 1) := by decide +kernel
theorem b_X12_scan (mm : MM) (Q : Value → MM → Prop) (a1 : Int32) (h : o_X12_isLetter mm a1 ∧ ((p_X12_isLetter mm a1 → (G e_X12_scan 12 [(0, .ref 156), (1, .int a1), (2, .int a1), (3, .long (0 : Int64))] [] mm Q)) ∧ (¬ p_X12_isLetter mm a1 → (o_X12_isDigit mm a1 ∧ ((p_X12_isDigit mm a1 → (G e_X12_scan 120 [(0, .ref 156), (1, .int a1), (2, .int a1), (3, .int (0 : Int32))] [] mm Q)) ∧ (¬ p_X12_isDigit mm a1 → (o_X12_signAt mm a1 ∧ ((¬ (v_X12_signAt mm a1) = 0 → (∃ Pm1 : Value → MM → Prop, Runs e_X12_token [.ref 156, .int (2 : Int32), .int a1, .int (v_X12_signAt mm a1)] mm Pm1 ∧ ∀ m1, Pm1 .null m1 → (((v_X12_signAt mm a1) < (300 : Int32) → (Q (.int (a1 + (1 : Int32))) m1)) ∧ (¬ (v_X12_signAt mm a1) < (300 : Int32) → (Q (.int (a1 + (2 : Int32))) m1))))) ∧ ((v_X12_signAt mm a1) = 0 → (∃ Pm1 : Value → MM → Prop, Runs e_X12_token [.ref 156, .int (5 : Int32), .int a1, .int (v_X12_signAt mm a1)] mm Pm1 ∧ ∀ m1, Pm1 .null m1 → (((v_X12_signAt mm a1) < (300 : Int32) → (Q (.int (a1 + (1 : Int32))) m1)) ∧ (¬ (v_X12_signAt mm a1) < (300 : Int32) → (Q (.int (a1 + (2 : Int32))) m1))))))))))))) : Runs e_X12_scan [.ref 156, .int a1] mm Q := by
  refine runs_of_G (L := [(0, .ref 156), (1, .int a1)]) pl_X12 (Nat.le_of_ble_eq_true rfl) rfl ?_
  refine g_iload_n (pc := 0) (x := a1) dX12_scan_0 rfl ?_
  refine g_istore_n (pc := 1) (L' := [(0, .ref 156), (1, .int a1), (2, .int a1)]) dX12_scan_1 (Nat.le_of_ble_eq_true rfl) rfl ?_
  refine g_aload_n (pc := 2) (x := 156) dX12_scan_2 rfl ?_
  refine g_iload_n (pc := 3) (x := a1) dX12_scan_3 rfl ?_
  refine g_callV (pc := 4) (as := [.int a1]) dX12_scan_4 cw_X12_190 (by decide) rfl rfl sh_156 (Nat.le_of_ble_eq_true rfl) (rv_X12_isLetter mm a1 h.1) ?_
  have h := h.2
  rintro r_ m_ hz_ ⟨⟨p_, rfl⟩ | ⟨p_, rfl⟩, rfl⟩
  · have h := h.1 p_
    refine g_if_eq (pc := 7) (tgt := 110) dX12_scan_7 (by decide) (fun c7 => absurd c7 (by decide)) (fun _ => ?_)
    refine g_lconst (pc := 10) (v := (0 : Int64)) dX12_scan_10 (by decide) ?_
    refine g_lstore_n (pc := 11) (L' := [(0, .ref 156), (1, .int a1), (2, .int a1), (3, .long (0 : Int64))]) dX12_scan_11 (Nat.le_of_ble_eq_true rfl) rfl ?_
    exact h
  · have h := h.2 p_
    refine g_if_eq (pc := 7) (tgt := 110) dX12_scan_7 (by decide) (fun _ => ?_) (fun c7 => absurd c7 (by decide))
    refine g_aload_n (pc := 110) (x := 156) dX12_scan_110 rfl ?_
    refine g_iload_n (pc := 111) (x := a1) dX12_scan_111 rfl ?_
    refine g_callV (pc := 112) (as := [.int a1]) dX12_scan_112 cw_X12_206 (by decide) rfl rfl sh_156 (Nat.le_of_ble_eq_true rfl) (rv_X12_isDigit mm a1 h.1) ?_
    have h := h.2
    rintro r_ m_ hz_ ⟨⟨p_, rfl⟩ | ⟨p_, rfl⟩, rfl⟩
    · have h := h.1 p_
      refine g_if_eq (pc := 115) (tgt := 175) dX12_scan_115 (by decide) (fun c115 => absurd c115 (by decide)) (fun _ => ?_)
      refine g_iconst (pc := 118) (v := (0 : Int32)) dX12_scan_118 (by decide) ?_
      refine g_istore_n (pc := 119) (L' := [(0, .ref 156), (1, .int a1), (2, .int a1), (3, .int (0 : Int32))]) dX12_scan_119 (Nat.le_of_ble_eq_true rfl) rfl ?_
      exact h
    · have h := h.2 p_
      refine g_if_eq (pc := 115) (tgt := 175) dX12_scan_115 (by decide) (fun _ => ?_) (fun c115 => absurd c115 (by decide))
      refine g_aload_n (pc := 175) (x := 156) dX12_scan_175 rfl ?_
      refine g_iload_n (pc := 176) (x := a1) dX12_scan_176 rfl ?_
      refine g_callV (pc := 177) (as := [.int a1]) dX12_scan_177 cw_X12_209 (by decide) rfl rfl sh_156 (Nat.le_of_ble_eq_true rfl) (rv_X12_signAt mm a1 h.1) ?_
      have h := h.2
      rintro r_ m_ hz_ ⟨rfl, rfl⟩
      refine g_istore_n (pc := 180) (L' := [(0, .ref 156), (1, .int a1), (2, .int a1), (3, .int (v_X12_signAt mm a1))]) dX12_scan_180 (Nat.le_of_ble_eq_true rfl) rfl ?_
      refine g_aload_n (pc := 181) (x := 156) dX12_scan_181 rfl ?_
      refine g_iload_n (pc := 182) (x := (v_X12_signAt mm a1)) dX12_scan_182 rfl ?_
      refine g_if_ne (pc := 183) (tgt := 190) dX12_scan_183 (by decide) (fun c183 => ?_) (fun c183 => ?_)
      · have h := h.1 c183
        refine g_iconst (pc := 190) (v := (2 : Int32)) dX12_scan_190 (by decide) ?_
        refine g_iload_n (pc := 191) (x := a1) dX12_scan_191 rfl ?_
        refine g_iload_n (pc := 192) (x := (v_X12_signAt mm a1)) dX12_scan_192 rfl ?_
        obtain ⟨Pm1, hRm1, h⟩ := h
        refine g_callV (pc := 193) (as := [.int (2 : Int32), .int a1, .int (v_X12_signAt mm a1)]) dX12_scan_193 cw_X12_202 (by decide) rfl rfl sh_156 (Nat.le_of_ble_eq_true rfl) hRm1 ?_
        intro r_ m1 hz_ hp_
        obtain rfl := hz_
        have h := h m1 hp_
        refine g_iload_n (pc := 196) (x := a1) dX12_scan_196 rfl ?_
        refine g_iload_n (pc := 197) (x := (v_X12_signAt mm a1)) dX12_scan_197 rfl ?_
        refine g_sipush (pc := 198) (v := (300 : Int32)) dX12_scan_198 (by decide) ?_
        refine g_icmp_lt (pc := 201) (tgt := 208) dX12_scan_201 (by decide) (fun c201 => ?_) (fun c201 => ?_)
        · have h := h.1 c201
          refine g_iconst (pc := 208) (v := (1 : Int32)) dX12_scan_208 (by decide) ?_
          refine g_iadd (pc := 209) dX12_scan_209 ?_
          exact g_iret (pc := 210) dX12_scan_210 rfl rfl rfl h
        · have h := h.2 c201
          refine g_iconst (pc := 204) (v := (2 : Int32)) dX12_scan_204 (by decide) ?_
          refine g_goto (pc := 205) (tgt := 209) dX12_scan_205 (by decide) ?_
          refine g_iadd (pc := 209) dX12_scan_209 ?_
          exact g_iret (pc := 210) dX12_scan_210 rfl rfl rfl h
      · have h := h.2 c183
        refine g_iconst (pc := 186) (v := (5 : Int32)) dX12_scan_186 (by decide) ?_
        refine g_goto (pc := 187) (tgt := 191) dX12_scan_187 (by decide) ?_
        refine g_iload_n (pc := 191) (x := a1) dX12_scan_191 rfl ?_
        refine g_iload_n (pc := 192) (x := (v_X12_signAt mm a1)) dX12_scan_192 rfl ?_
        obtain ⟨Pm1, hRm1, h⟩ := h
        refine g_callV (pc := 193) (as := [.int (5 : Int32), .int a1, .int (v_X12_signAt mm a1)]) dX12_scan_193 cw_X12_202 (by decide) rfl rfl sh_156 (Nat.le_of_ble_eq_true rfl) hRm1 ?_
        intro r_ m1 hz_ hp_
        obtain rfl := hz_
        have h := h m1 hp_
        refine g_iload_n (pc := 196) (x := a1) dX12_scan_196 rfl ?_
        refine g_iload_n (pc := 197) (x := (v_X12_signAt mm a1)) dX12_scan_197 rfl ?_
        refine g_sipush (pc := 198) (v := (300 : Int32)) dX12_scan_198 (by decide) ?_
        refine g_icmp_lt (pc := 201) (tgt := 208) dX12_scan_201 (by decide) (fun c201 => ?_) (fun c201 => ?_)
        · have h := h.1 c201
          refine g_iconst (pc := 208) (v := (1 : Int32)) dX12_scan_208 (by decide) ?_
          refine g_iadd (pc := 209) dX12_scan_209 ?_
          exact g_iret (pc := 210) dX12_scan_210 rfl rfl rfl h
        · have h := h.2 c201
          refine g_iconst (pc := 204) (v := (2 : Int32)) dX12_scan_204 (by decide) ?_
          refine g_goto (pc := 205) (tgt := 209) dX12_scan_205 (by decide) ?_
          refine g_iadd (pc := 209) dX12_scan_209 ?_
          exact g_iret (pc := 210) dX12_scan_210 rfl rfl rfl h

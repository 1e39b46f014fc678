theorem dX11_house_0 : decode cX11_house 0 = .ok (.aload_n 0, 1) := by decide +kernel
theorem dX11_house_1 : decode cX11_house 1 = .ok (.iload_n 1, 1) := by decide +kernel
theorem dX11_house_2 : decode cX11_house 2 = .ok (.invokevirtual 109, 3) := by decide +kernel
theorem dX11_house_5 : decode cX11_house 5 = .ok (.ifCond .ne 5, 3) := by decide +kernel
theorem dX11_house_8 : decode cX11_house 8 = .ok (.iconst (-1), 1) := by decide +kernel
theorem dX11_house_9 : decode cX11_house 9 = .ok (.ireturn, 1) := by decide +kernel
theorem dX11_house_10 : decode cX11_house 10 = .ok (.iload_n 2, 1) := by decide +kernel
theorem dX11_house_11 : decode cX11_house 11 = .ok (.tableswitch 121 0 5 #[37, 47, 57, 67, 95, 108], 37) := by decide +kernel
theorem dX11_house_48 : decode cX11_house 48 = .ok (.aload_n 0, 1) := by decide +kernel
theorem dX11_house_49 : decode cX11_house 49 = .ok (.getfield 69, 3) := by decide +kernel
theorem dX11_house_52 : decode cX11_house 52 = .ok (.getfield 113, 3) := by decide +kernel
theorem dX11_house_55 : decode cX11_house 55 = .ok (.iload_n 1, 1) := by decide +kernel
theorem dX11_house_56 : decode cX11_house 56 = .ok (.iaload, 1) := by decide +kernel
theorem dX11_house_57 : decode cX11_house 57 = .ok (.ireturn, 1) := by decide +kernel
theorem dX11_house_58 : decode cX11_house 58 = .ok (.aload_n 0, 1) := by decide +kernel
theorem dX11_house_59 : decode cX11_house 59 = .ok (.getfield 74, 3) := by decide +kernel
theorem dX11_house_62 : decode cX11_house 62 = .ok (.getfield 117, 3) := by decide +kernel
theorem dX11_house_65 : decode cX11_house 65 = .ok (.iload_n 1, 1) := by decide +kernel
theorem dX11_house_66 : decode cX11_house 66 = .ok (.iaload, 1) := by decide +kernel
theorem dX11_house_67 : decode cX11_house 67 = .ok (.ireturn, 1) := by decide +kernel
theorem dX11_house_68 : decode cX11_house 68 = .ok (.aload_n 0, 1) := by decide +kernel
theorem dX11_house_69 : decode cX11_house 69 = .ok (.getfield 69, 3) := by decide +kernel
theorem dX11_house_72 : decode cX11_house 72 = .ok (.getfield 120, 3) := by decide +kernel
theorem dX11_house_75 : decode cX11_house 75 = .ok (.iload_n 1, 1) := by decide +kernel
theorem dX11_house_76 : decode cX11_house 76 = .ok (.iaload, 1) := by decide +kernel
theorem dX11_house_77 : decode cX11_house 77 = .ok (.ireturn, 1) := by decide +kernel
theorem dX11_house_78 : decode cX11_house 78 = .ok (.aload_n 0, 1) := by decide +kernel
theorem dX11_house_79 : decode cX11_house 79 = .ok (.getfield 74, 3) := by decide +kernel
theorem dX11_house_82 : decode cX11_house 82 = .ok (.getfield 123, 3) := by decide +kernel
theorem dX11_house_85 : decode cX11_house 85 = .ok (.iload_n 1, 1) := by decide +kernel
theorem dX11_house_86 : decode cX11_house 86 = .ok (.iaload, 1) := by decide +kernel
theorem dX11_house_87 : decode cX11_house 87 = .ok (.iconst (-1), 1) := by decide +kernel
theorem dX11_house_88 : decode cX11_house 88 = .ok (.if_icmp .ne 8, 3) := by decide +kernel
theorem dX11_house_91 : decode cX11_house 91 = .ok (.bipush (-2), 2) := by decide +kernel
theorem dX11_house_93 : decode cX11_house 93 = .ok (.goto 12, 3) := by decide +kernel
theorem dX11_house_96 : decode cX11_house 96 = .ok (.aload_n 0, 1) := by decide +kernel
theorem dX11_house_97 : decode cX11_house 97 = .ok (.getfield 74, 3) := by decide +kernel
theorem dX11_house_100 : decode cX11_house 100 = .ok (.getfield 123, 3) := by decide +kernel
theorem dX11_house_103 : decode cX11_house 103 = .ok (.iload_n 1, 1) := by decide +kernel
theorem dX11_house_104 : decode cX11_house 104 = .ok (.iaload, 1) := by decide +kernel
theorem dX11_house_105 : decode cX11_house 105 = .ok (.ireturn, 1) := by decide +kernel
theorem dX11_house_106 : decode cX11_house 106 = .ok (.aload_n 0, 1) := by decide +kernel
theorem dX11_house_107 : decode cX11_house 107 = .ok (.getfield 69, 3) := by decide +kernel
theorem dX11_house_110 : decode cX11_house 110 = .ok (.aload_n 0, 1) := by decide +kernel
theorem dX11_house_111 : decode cX11_house 111 = .ok (.getfield 74, 3) := by decide +kernel
theorem dX11_house_114 : decode cX11_house 114 = .ok (.iload_n 1, 1) := by decide +kernel
theorem dX11_house_115 : decode cX11_house 115 = .ok (.invokevirtual 126, 3) := by decide +kernel
theorem dX11_house_118 : decode cX11_house 118 = .ok (.ireturn, 1) := by decide +kernel
theorem dX11_house_119 : decode cX11_house 119 = .ok (.aload_n 0, 1) := by decide +kernel
theorem dX11_house_120 : decode cX11_house 120 = .ok (.getfield 69, 3) := by decide +kernel
theorem dX11_house_123 : decode cX11_house 123 = .ok (.aload_n 0, 1) := by decide +kernel
theorem dX11_house_124 : decode cX11_house 124 = .ok (.getfield 74, 3) := by decide +kernel
theorem dX11_house_127 : decode cX11_house 127 = .ok (.iload_n 1, 1) := by decide +kernel
theorem dX11_house_128 : decode cX11_house 128 = .ok (.invokevirtual 130, 3) := by decide +kernel
theorem dX11_house_131 : decode cX11_house 131 = .ok (.ireturn, 1) := by decide +kernel
theorem dX11_house_132 : decode cX11_house 132 = .ok (.iconst (-1), 1) := by decide +kernel
theorem dX11_house_133 : decode cX11_house 133 = .ok (.ireturn, 1) := by decide +kernel
theorem b_X11_house (mm : MM) (Q : Value → MM → Prop) (a1 : Int32) (a2 : Int32) (h : o_X11_isHouse mm a1 ∧ ((p_X11_isHouse mm a1 → ((a2 = (0 : Int32) → (AtTown (mm.2.2 0 9) ∧ (vp_in a1 16 ∧ (Q (.int (mm.1 ((mm.2.2 0 9) + 1) a1.toNatClampNeg)) mm)))) ∧ (¬ a2 = (0 : Int32) → ((a2 = (1 : Int32) → (AtState (mm.2.2 0 10) ∧ (vp_in a1 16 ∧ (Q (.int (mm.1 ((mm.2.2 0 10) + 1) a1.toNatClampNeg)) mm)))) ∧ (¬ a2 = (1 : Int32) → ((a2 = (2 : Int32) → (AtTown (mm.2.2 0 9) ∧ (vp_in a1 16 ∧ (Q (.int (mm.1 ((mm.2.2 0 9) + 2) a1.toNatClampNeg)) mm)))) ∧ (¬ a2 = (2 : Int32) → ((a2 = (3 : Int32) → (AtState (mm.2.2 0 10) ∧ (vp_in a1 16 ∧ ((¬ (mm.1 ((mm.2.2 0 10) + 2) a1.toNatClampNeg) = (-1 : Int32) → (AtState (mm.2.2 0 10) ∧ (vp_in a1 16 ∧ (Q (.int (mm.1 ((mm.2.2 0 10) + 2) a1.toNatClampNeg)) mm)))) ∧ ((mm.1 ((mm.2.2 0 10) + 2) a1.toNatClampNeg) = (-1 : Int32) → (Q (.int (-2 : Int32)) mm)))))) ∧ (¬ a2 = (3 : Int32) → ((a2 = (4 : Int32) → (AtTown (mm.2.2 0 9) ∧ (AtState (mm.2.2 0 10) ∧ (o_X8_rankOf mm (mm.2.2 0 9) (mm.2.2 0 10) a1 ∧ (Q (.int (v_X8_rankOf mm (mm.2.2 0 9) (mm.2.2 0 10) a1)) mm))))) ∧ (¬ a2 = (4 : Int32) → ((a2 = (5 : Int32) → (AtTown (mm.2.2 0 9) ∧ (AtState (mm.2.2 0 10) ∧ (∃ Pm3 : Value → MM → Prop, Runs e_X8_dueOf [.ref (mm.2.2 0 9), .ref (mm.2.2 0 10), .int a1] mm Pm3 ∧ ∀ (r3 : Int32) (m3 : MM), Pm3 (.int r3) m3 → (Q (.int r3) m3))))) ∧ (¬ a2 = (5 : Int32) → (Q (.int (-1 : Int32)) mm)))))))))))))) ∧ (¬ p_X11_isHouse mm a1 → (Q (.int (-1 : Int32)) mm)))) : Runs e_X11_house [.ref 0, .int a1, .int a2] mm Q := by
  refine runs_of_G (L := [(0, .ref 0), (1, .int a1), (2, .int a2)]) pl_X11 (Nat.le_of_ble_eq_true rfl) rfl ?_
  refine g_aload_n (pc := 0) (x := 0) dX11_house_0 rfl ?_
  refine g_iload_n (pc := 1) (x := a1) dX11_house_1 rfl ?_
  refine g_callV (pc := 2) (as := [.int a1]) dX11_house_2 cw_X11_109 (by decide) rfl rfl sh_0 (Nat.le_of_ble_eq_true rfl) (rv_X11_isHouse mm a1 h.1) ?_
  have h := h.2
  rintro r_ m_ hz_ ⟨⟨p_, rfl⟩ | ⟨p_, rfl⟩, rfl⟩
  · have h := h.1 p_
    refine g_if_ne (pc := 5) (tgt := 10) dX11_house_5 (by decide) (fun _ => ?_) (fun c5 => absurd c5 (by decide))
    refine g_iload_n (pc := 10) (x := a2) dX11_house_10 rfl ?_
    by_cases c11_0 : a2 = (0 : Int32)
    · have h := h.1 c11_0
      refine g_tsIn (pc := 11) (off := 37) (tgt := 48) dX11_house_11 (by rw [c11_0]; decide) (by rw [c11_0]; decide) (by rw [c11_0]; rfl) (by decide) ?_
      refine g_aload_n (pc := 48) (x := 0) dX11_house_48 rfl ?_
      refine g_getVt (pc := 49) (t := (mm.2.2 0 9)) dX11_house_49 fo_X11_69 sh_0 rfl rfl ?_
      have hr0 := h.1
      have h := h.2
      refine g_getR (pc := 52) (dd := 1) dX11_house_52 fo_X11_113 (AtTown_0 hr0) rfl ?_
      refine g_iload_n (pc := 55) (x := a1) dX11_house_55 rfl ?_
      refine g_iaload (pc := 56) dX11_house_56 (AtTown_1 hr0) h.1 ?_
      have h := h.2
      exact g_iret (pc := 57) dX11_house_57 rfl rfl rfl h
    · have h := h.2 c11_0
      by_cases c11_1 : a2 = (1 : Int32)
      · have h := h.1 c11_1
        refine g_tsIn (pc := 11) (off := 47) (tgt := 58) dX11_house_11 (by rw [c11_1]; decide) (by rw [c11_1]; decide) (by rw [c11_1]; rfl) (by decide) ?_
        refine g_aload_n (pc := 58) (x := 0) dX11_house_58 rfl ?_
        refine g_getVt (pc := 59) (t := (mm.2.2 0 10)) dX11_house_59 fo_X11_74 sh_0 rfl rfl ?_
        have hr0 := h.1
        have h := h.2
        refine g_getR (pc := 62) (dd := 1) dX11_house_62 fo_X11_117 (AtState_0 hr0) rfl ?_
        refine g_iload_n (pc := 65) (x := a1) dX11_house_65 rfl ?_
        refine g_iaload (pc := 66) dX11_house_66 (AtState_1 hr0) h.1 ?_
        have h := h.2
        exact g_iret (pc := 67) dX11_house_67 rfl rfl rfl h
      · have h := h.2 c11_1
        by_cases c11_2 : a2 = (2 : Int32)
        · have h := h.1 c11_2
          refine g_tsIn (pc := 11) (off := 57) (tgt := 68) dX11_house_11 (by rw [c11_2]; decide) (by rw [c11_2]; decide) (by rw [c11_2]; rfl) (by decide) ?_
          refine g_aload_n (pc := 68) (x := 0) dX11_house_68 rfl ?_
          refine g_getVt (pc := 69) (t := (mm.2.2 0 9)) dX11_house_69 fo_X11_69 sh_0 rfl rfl ?_
          have hr0 := h.1
          have h := h.2
          refine g_getR (pc := 72) (dd := 2) dX11_house_72 fo_X11_120 (AtTown_0 hr0) rfl ?_
          refine g_iload_n (pc := 75) (x := a1) dX11_house_75 rfl ?_
          refine g_iaload (pc := 76) dX11_house_76 (AtTown_2 hr0) h.1 ?_
          have h := h.2
          exact g_iret (pc := 77) dX11_house_77 rfl rfl rfl h
        · have h := h.2 c11_2
          by_cases c11_3 : a2 = (3 : Int32)
          · have h := h.1 c11_3
            refine g_tsIn (pc := 11) (off := 67) (tgt := 78) dX11_house_11 (by rw [c11_3]; decide) (by rw [c11_3]; decide) (by rw [c11_3]; rfl) (by decide) ?_
            refine g_aload_n (pc := 78) (x := 0) dX11_house_78 rfl ?_
            refine g_getVt (pc := 79) (t := (mm.2.2 0 10)) dX11_house_79 fo_X11_74 sh_0 rfl rfl ?_
            have hr0 := h.1
            have h := h.2
            refine g_getR (pc := 82) (dd := 2) dX11_house_82 fo_X11_123 (AtState_0 hr0) rfl ?_
            refine g_iload_n (pc := 85) (x := a1) dX11_house_85 rfl ?_
            refine g_iaload (pc := 86) dX11_house_86 (AtState_2 hr0) h.1 ?_
            have h := h.2
            refine g_iconst (pc := 87) (v := (-1 : Int32)) dX11_house_87 (by decide) ?_
            refine g_icmp_ne (pc := 88) (tgt := 96) dX11_house_88 (by decide) (fun c88 => ?_) (fun c88 => ?_)
            · have h := h.1 c88
              refine g_aload_n (pc := 96) (x := 0) dX11_house_96 rfl ?_
              refine g_getVt (pc := 97) (t := (mm.2.2 0 10)) dX11_house_97 fo_X11_74 sh_0 rfl rfl ?_
              have hr1 := h.1
              have h := h.2
              refine g_getR (pc := 100) (dd := 2) dX11_house_100 fo_X11_123 (AtState_0 hr1) rfl ?_
              refine g_iload_n (pc := 103) (x := a1) dX11_house_103 rfl ?_
              refine g_iaload (pc := 104) dX11_house_104 (AtState_2 hr1) h.1 ?_
              have h := h.2
              exact g_iret (pc := 105) dX11_house_105 rfl rfl rfl h
            · have h := h.2 c88
              refine g_bipush (pc := 91) (v := (-2 : Int32)) dX11_house_91 (by decide) ?_
              refine g_goto (pc := 93) (tgt := 105) dX11_house_93 (by decide) ?_
              exact g_iret (pc := 105) dX11_house_105 rfl rfl rfl h
          · have h := h.2 c11_3
            by_cases c11_4 : a2 = (4 : Int32)
            · have h := h.1 c11_4
              refine g_tsIn (pc := 11) (off := 95) (tgt := 106) dX11_house_11 (by rw [c11_4]; decide) (by rw [c11_4]; decide) (by rw [c11_4]; rfl) (by decide) ?_
              refine g_aload_n (pc := 106) (x := 0) dX11_house_106 rfl ?_
              refine g_getVt (pc := 107) (t := (mm.2.2 0 9)) dX11_house_107 fo_X11_69 sh_0 rfl rfl ?_
              have hr0 := h.1
              have h := h.2
              refine g_aload_n (pc := 110) (x := 0) dX11_house_110 rfl ?_
              refine g_getVt (pc := 111) (t := (mm.2.2 0 10)) dX11_house_111 fo_X11_74 sh_0 rfl rfl ?_
              have hr1 := h.1
              have h := h.2
              refine g_iload_n (pc := 114) (x := a1) dX11_house_114 rfl ?_
              refine g_callV (pc := 115) (as := [.ref (mm.2.2 0 10), .int a1]) dX11_house_115 cw_X11_126 (by decide) rfl rfl (AtTown_0 hr0) (Nat.le_of_ble_eq_true rfl) (rv_X8_rankOf mm (mm.2.2 0 9) (mm.2.2 0 10) a1 hr0 hr1 h.1) ?_
              have h := h.2
              rintro r_ m_ hz_ ⟨rfl, rfl⟩
              exact g_iret (pc := 118) dX11_house_118 rfl rfl rfl h
            · have h := h.2 c11_4
              by_cases c11_5 : a2 = (5 : Int32)
              · have h := h.1 c11_5
                refine g_tsIn (pc := 11) (off := 108) (tgt := 119) dX11_house_11 (by rw [c11_5]; decide) (by rw [c11_5]; decide) (by rw [c11_5]; rfl) (by decide) ?_
                refine g_aload_n (pc := 119) (x := 0) dX11_house_119 rfl ?_
                refine g_getVt (pc := 120) (t := (mm.2.2 0 9)) dX11_house_120 fo_X11_69 sh_0 rfl rfl ?_
                have hr0 := h.1
                have h := h.2
                refine g_aload_n (pc := 123) (x := 0) dX11_house_123 rfl ?_
                refine g_getVt (pc := 124) (t := (mm.2.2 0 10)) dX11_house_124 fo_X11_74 sh_0 rfl rfl ?_
                have hr1 := h.1
                have h := h.2
                refine g_iload_n (pc := 127) (x := a1) dX11_house_127 rfl ?_
                obtain ⟨Pm3, hRm3, h⟩ := h
                refine g_callV (pc := 128) (as := [.ref (mm.2.2 0 10), .int a1]) dX11_house_128 cw_X11_130 (by decide) rfl rfl (AtTown_0 hr0) (Nat.le_of_ble_eq_true rfl) hRm3 ?_
                intro r_ m3 hz_ hp_
                obtain ⟨r3, rfl⟩ := hz_
                have h := h r3 m3 hp_
                exact g_iret (pc := 131) dX11_house_131 rfl rfl rfl h
              · have h := h.2 c11_5
                refine g_tsOut (pc := 11) (tgt := 132) dX11_house_11 (by have e0_ := ts_ne (k := 0) c11_0 (by decide); have e1_ := ts_ne (k := 1) c11_1 (by decide); have e2_ := ts_ne (k := 2) c11_2 (by decide); have e3_ := ts_ne (k := 3) c11_3 (by decide); have e4_ := ts_ne (k := 4) c11_4 (by decide); have e5_ := ts_ne (k := 5) c11_5 (by decide); omega) (by decide) ?_
                refine g_iconst (pc := 132) (v := (-1 : Int32)) dX11_house_132 (by decide) ?_
                exact g_iret (pc := 133) dX11_house_133 rfl rfl rfl h
  · have h := h.2 p_
    refine g_if_ne (pc := 5) (tgt := 10) dX11_house_5 (by decide) (fun c5 => absurd c5 (by decide)) (fun _ => ?_)
    refine g_iconst (pc := 8) (v := (-1 : Int32)) dX11_house_8 (by decide) ?_
    exact g_iret (pc := 9) dX11_house_9 rfl rfl rfl h
theorem dX11_isOffice_0 : decode cX11_isOffice 0 = .ok (.iload_n 1, 1) := by decide +kernel
theorem dX11_isOffice_1 : decode cX11_isOffice 1 = .ok (.ifCond .lt 18, 3) := by decide +kernel
theorem dX11_isOffice_4 : decode cX11_isOffice 4 = .ok (.iload_n 1, 1) := by decide +kernel
theorem dX11_isOffice_5 : decode cX11_isOffice 5 = .ok (.aload_n 0, 1) := by decide +kernel
theorem dX11_isOffice_6 : decode cX11_isOffice 6 = .ok (.getfield 69, 3) := by decide +kernel
theorem dX11_isOffice_9 : decode cX11_isOffice 9 = .ok (.getfield 324, 3) := by decide +kernel
theorem dX11_isOffice_12 : decode cX11_isOffice 12 = .ok (.if_icmp .ge 7, 3) := by decide +kernel
theorem dX11_isOffice_15 : decode cX11_isOffice 15 = .ok (.iconst 1, 1) := by decide +kernel
theorem dX11_isOffice_16 : decode cX11_isOffice 16 = .ok (.goto 4, 3) := by decide +kernel
theorem dX11_isOffice_19 : decode cX11_isOffice 19 = .ok (.iconst 0, 1) := by decide +kernel
theorem dX11_isOffice_20 : decode cX11_isOffice 20 = .ok (.ireturn, 1) := by decide +kernel
def o_X11_isOffice (mm : MM) (a1 : Int32) : Prop := (a1 < 0 → (True)) ∧ (¬ a1 < 0 → (AtTown (mm.2.2 0 9) ∧ (((mm.1 (mm.2.2 0 9) 9) ≤ a1 → (True)) ∧ (¬ (mm.1 (mm.2.2 0 9) 9) ≤ a1 → (True)))))
def p_X11_isOffice (mm : MM) (a1 : Int32) : Prop := (¬ a1 < 0 ∧ ¬ (mm.1 (mm.2.2 0 9) 9) ≤ a1)
theorem rv_X11_isOffice (mm : MM) (a1 : Int32) (h : o_X11_isOffice mm a1) : Runs e_X11_isOffice [.ref 0, .int a1] mm (fun r m_ => ((p_X11_isOffice mm a1 ∧ r = .int 1) ∨ (¬ p_X11_isOffice mm a1 ∧ r = .int 0)) ∧ mm = m_) := by
  refine runs_of_G (L := [(0, .ref 0), (1, .int a1)]) pl_X11 (Nat.le_of_ble_eq_true rfl) rfl ?_
  unfold o_X11_isOffice at h
  refine g_iload_n (pc := 0) (x := a1) dX11_isOffice_0 rfl ?_
  refine g_if_lt (pc := 1) (tgt := 19) dX11_isOffice_1 (by decide) (fun c1 => ?_) (fun c1 => ?_)
  · have c1_0 : a1 < 0 := c1
    have h := h.1 c1
    refine g_iconst (pc := 19) (v := (0 : Int32)) dX11_isOffice_19 (by decide) ?_
    exact g_iret (pc := 20) dX11_isOffice_20 rfl rfl (nar_B isB0) ⟨Or.inr ⟨(show ¬ p_X11_isOffice mm a1 from (fun h_ => (h_.1 c1_0))), rfl⟩, rfl⟩
  · have c1_0 : ¬ a1 < 0 := c1
    have h := h.2 c1
    refine g_iload_n (pc := 4) (x := a1) dX11_isOffice_4 rfl ?_
    refine g_aload_n (pc := 5) (x := 0) dX11_isOffice_5 rfl ?_
    refine g_getVt (pc := 6) (t := (mm.2.2 0 9)) dX11_isOffice_6 fo_X11_69 sh_0 rfl rfl ?_
    have hr0 := h.1
    have h := h.2
    refine g_getI (pc := 9) dX11_isOffice_9 fo_X11_324 (AtTown_0 hr0) rfl ?_
    refine g_icmp_ge (pc := 12) (tgt := 19) dX11_isOffice_12 (by decide) (fun c12 => ?_) (fun c12 => ?_)
    · have c12_1 : (mm.1 (mm.2.2 0 9) 9) ≤ a1 := c12
      refine g_iconst (pc := 19) (v := (0 : Int32)) dX11_isOffice_19 (by decide) ?_
      exact g_iret (pc := 20) dX11_isOffice_20 rfl rfl (nar_B isB0) ⟨Or.inr ⟨(show ¬ p_X11_isOffice mm a1 from (fun h_ => (not_not_intro c12_1) h_.2)), rfl⟩, rfl⟩
    · have c12_1 : ¬ (mm.1 (mm.2.2 0 9) 9) ≤ a1 := c12
      refine g_iconst (pc := 15) (v := (1 : Int32)) dX11_isOffice_15 (by decide) ?_
      refine g_goto (pc := 16) (tgt := 20) dX11_isOffice_16 (by decide) ?_
      exact g_iret (pc := 20) dX11_isOffice_20 rfl rfl (nar_B isB1) ⟨Or.inl ⟨(show p_X11_isOffice mm a1 from ⟨c1_0, c12_1⟩), rfl⟩, rfl⟩
theorem dX11_give_0 : decode cX11_give 0 = .ok (.aload_n 0, 1) := by decide +kernel
theorem dX11_give_1 : decode cX11_give 1 = .ok (.iload_n 1, 1) := by decide +kernel
theorem dX11_give_2 : decode cX11_give 2 = .ok (.invokevirtual 109, 3) := by decide +kernel
theorem dX11_give_5 : decode cX11_give 5 = .ok (.ifCond .eq 16, 3) := by decide +kernel
theorem dX11_give_8 : decode cX11_give 8 = .ok (.iload_n 2, 1) := by decide +kernel
theorem dX11_give_9 : decode cX11_give 9 = .ok (.iconst (-1), 1) := by decide +kernel
theorem dX11_give_10 : decode cX11_give 10 = .ok (.if_icmp .eq 13, 3) := by decide +kernel
theorem dX11_give_13 : decode cX11_give 13 = .ok (.aload_n 0, 1) := by decide +kernel
theorem dX11_give_14 : decode cX11_give 14 = .ok (.iload_n 2, 1) := by decide +kernel
theorem dX11_give_15 : decode cX11_give 15 = .ok (.invokevirtual 133, 3) := by decide +kernel
theorem dX11_give_18 : decode cX11_give 18 = .ok (.ifCond .ne 5, 3) := by decide +kernel
theorem dX11_give_21 : decode cX11_give 21 = .ok (.iconst 0, 1) := by decide +kernel
theorem dX11_give_22 : decode cX11_give 22 = .ok (.ireturn, 1) := by decide +kernel
theorem dX11_give_23 : decode cX11_give 23 = .ok (.aload_n 0, 1) := by decide +kernel
theorem dX11_give_24 : decode cX11_give 24 = .ok (.getfield 74, 3) := by decide +kernel
theorem dX11_give_27 : decode cX11_give 27 = .ok (.iload_n 1, 1) := by decide +kernel
theorem dX11_give_28 : decode cX11_give 28 = .ok (.iload_n 2, 1) := by decide +kernel
theorem dX11_give_29 : decode cX11_give 29 = .ok (.invokevirtual 136, 3) := by decide +kernel
theorem dX11_give_32 : decode cX11_give 32 = .ok (.iconst 1, 1) := by decide +kernel
theorem dX11_give_33 : decode cX11_give 33 = .ok (.ireturn, 1) := by decide +kernel
theorem b_X11_give (mm : MM) (Q : Value → MM → Prop) (a1 : Int32) (a2 : Int32) (h : o_X11_isHouse mm a1 ∧ ((p_X11_isHouse mm a1 → ((a2 = (-1 : Int32) → (AtState (mm.2.2 0 10) ∧ (∃ Pm2 : Value → MM → Prop, Runs e_X6_settle [.ref (mm.2.2 0 10), .int a1, .int a2] mm Pm2 ∧ ∀ m2, Pm2 .null m2 → (Q (.int (1 : Int32)) m2)))) ∧ (¬ a2 = (-1 : Int32) → (o_X11_isOffice mm a2 ∧ ((p_X11_isOffice mm a2 → (AtState (mm.2.2 0 10) ∧ (∃ Pm2 : Value → MM → Prop, Runs e_X6_settle [.ref (mm.2.2 0 10), .int a1, .int a2] mm Pm2 ∧ ∀ m2, Pm2 .null m2 → (Q (.int (1 : Int32)) m2)))) ∧ (¬ p_X11_isOffice mm a2 → (Q (.int (0 : Int32)) mm))))))) ∧ (¬ p_X11_isHouse mm a1 → (Q (.int (0 : Int32)) mm)))) : Runs e_X11_give [.ref 0, .int a1, .int a2] mm Q := by
  refine runs_of_G (L := [(0, .ref 0), (1, .int a1), (2, .int a2)]) pl_X11 (Nat.le_of_ble_eq_true rfl) rfl ?_
  refine g_aload_n (pc := 0) (x := 0) dX11_give_0 rfl ?_
  refine g_iload_n (pc := 1) (x := a1) dX11_give_1 rfl ?_
  refine g_callV (pc := 2) (as := [.int a1]) dX11_give_2 cw_X11_109 (by decide) rfl rfl sh_0 (Nat.le_of_ble_eq_true rfl) (rv_X11_isHouse mm a1 h.1) ?_
  have h := h.2
  rintro r_ m_ hz_ ⟨⟨p_, rfl⟩ | ⟨p_, rfl⟩, rfl⟩
  · have h := h.1 p_
    refine g_if_eq (pc := 5) (tgt := 21) dX11_give_5 (by decide) (fun c5 => absurd c5 (by decide)) (fun _ => ?_)
    refine g_iload_n (pc := 8) (x := a2) dX11_give_8 rfl ?_
    refine g_iconst (pc := 9) (v := (-1 : Int32)) dX11_give_9 (by decide) ?_
    refine g_icmp_eq (pc := 10) (tgt := 23) dX11_give_10 (by decide) (fun c10 => ?_) (fun c10 => ?_)
    · have h := h.1 c10
      refine g_aload_n (pc := 23) (x := 0) dX11_give_23 rfl ?_
      refine g_getVt (pc := 24) (t := (mm.2.2 0 10)) dX11_give_24 fo_X11_74 sh_0 rfl rfl ?_
      have hr0 := h.1
      have h := h.2
      refine g_iload_n (pc := 27) (x := a1) dX11_give_27 rfl ?_
      refine g_iload_n (pc := 28) (x := a2) dX11_give_28 rfl ?_
      obtain ⟨Pm2, hRm2, h⟩ := h
      refine g_callV (pc := 29) (as := [.int a1, .int a2]) dX11_give_29 cw_X11_136 (by decide) rfl rfl (AtState_0 hr0) (Nat.le_of_ble_eq_true rfl) hRm2 ?_
      intro r_ m2 hz_ hp_
      obtain rfl := hz_
      have h := h m2 hp_
      refine g_iconst (pc := 32) (v := (1 : Int32)) dX11_give_32 (by decide) ?_
      exact g_iret (pc := 33) dX11_give_33 rfl rfl (nar_B isB1) h
    · have h := h.2 c10
      refine g_aload_n (pc := 13) (x := 0) dX11_give_13 rfl ?_
      refine g_iload_n (pc := 14) (x := a2) dX11_give_14 rfl ?_
      refine g_callV (pc := 15) (as := [.int a2]) dX11_give_15 cw_X11_133 (by decide) rfl rfl sh_0 (Nat.le_of_ble_eq_true rfl) (rv_X11_isOffice mm a2 h.1) ?_
      have h := h.2
      rintro r_ m_ hz_ ⟨⟨p_, rfl⟩ | ⟨p_, rfl⟩, rfl⟩
      · have h := h.1 p_
        refine g_if_ne (pc := 18) (tgt := 23) dX11_give_18 (by decide) (fun _ => ?_) (fun c18 => absurd c18 (by decide))
        refine g_aload_n (pc := 23) (x := 0) dX11_give_23 rfl ?_
        refine g_getVt (pc := 24) (t := (mm.2.2 0 10)) dX11_give_24 fo_X11_74 sh_0 rfl rfl ?_
        have hr0 := h.1
        have h := h.2
        refine g_iload_n (pc := 27) (x := a1) dX11_give_27 rfl ?_
        refine g_iload_n (pc := 28) (x := a2) dX11_give_28 rfl ?_
        obtain ⟨Pm2, hRm2, h⟩ := h
        refine g_callV (pc := 29) (as := [.int a1, .int a2]) dX11_give_29 cw_X11_136 (by decide) rfl rfl (AtState_0 hr0) (Nat.le_of_ble_eq_true rfl) hRm2 ?_
        intro r_ m2 hz_ hp_
        obtain rfl := hz_
        have h := h m2 hp_
        refine g_iconst (pc := 32) (v := (1 : Int32)) dX11_give_32 (by decide) ?_
        exact g_iret (pc := 33) dX11_give_33 rfl rfl (nar_B isB1) h
      · have h := h.2 p_
        refine g_if_ne (pc := 18) (tgt := 23) dX11_give_18 (by decide) (fun c18 => absurd c18 (by decide)) (fun _ => ?_)
        refine g_iconst (pc := 21) (v := (0 : Int32)) dX11_give_21 (by decide) ?_
        exact g_iret (pc := 22) dX11_give_22 rfl rfl (nar_B isB0) h
  · have h := h.2 p_
    refine g_if_eq (pc := 5) (tgt := 21) dX11_give_5 (by decide) (fun _ => ?_) (fun c5 => absurd c5 (by decide))
    refine g_iconst (pc := 21) (v := (0 : Int32)) dX11_give_21 (by decide) ?_
    exact g_iret (pc := 22) dX11_give_22 rfl rfl (nar_B isB0) h
theorem dX11_holder_0 : decode cX11_holder 0 = .ok (.aload_n 0, 1) := by decide +kernel
theorem dX11_holder_1 : decode cX11_holder 1 = .ok (.iload_n 1, 1) := by decide +kernel
theorem dX11_holder_2 : decode cX11_holder 2 = .ok (.invokevirtual 133, 3) := by decide +kernel
theorem dX11_holder_5 : decode cX11_holder 5 = .ok (.ifCond .eq 14, 3) := by decide +kernel
theorem dX11_holder_8 : decode cX11_holder 8 = .ok (.aload_n 0, 1) := by decide +kernel
theorem dX11_holder_9 : decode cX11_holder 9 = .ok (.getfield 74, 3) := by decide +kernel
theorem dX11_holder_12 : decode cX11_holder 12 = .ok (.iload_n 1, 1) := by decide +kernel
theorem dX11_holder_13 : decode cX11_holder 13 = .ok (.invokevirtual 140, 3) := by decide +kernel
theorem dX11_holder_16 : decode cX11_holder 16 = .ok (.goto 4, 3) := by decide +kernel
theorem dX11_holder_19 : decode cX11_holder 19 = .ok (.iconst (-1), 1) := by decide +kernel
theorem dX11_holder_20 : decode cX11_holder 20 = .ok (.ireturn, 1) := by decide +kernel
theorem b_X11_holder (mm : MM) (Q : Value → MM → Prop) (a1 : Int32) (h : o_X11_isOffice mm a1 ∧ ((p_X11_isOffice mm a1 → (AtState (mm.2.2 0 10) ∧ (∃ Pm2 : Value → MM → Prop, Runs e_X6_whoIsIn [.ref (mm.2.2 0 10), .int a1] mm Pm2 ∧ ∀ (r2 : Int32) (m2 : MM), Pm2 (.int r2) m2 → (Q (.int r2) m2)))) ∧ (¬ p_X11_isOffice mm a1 → (Q (.int (-1 : Int32)) mm)))) : Runs e_X11_holder [.ref 0, .int a1] mm Q := by
  refine runs_of_G (L := [(0, .ref 0), (1, .int a1)]) pl_X11 (Nat.le_of_ble_eq_true rfl) rfl ?_
  refine g_aload_n (pc := 0) (x := 0) dX11_holder_0 rfl ?_
  refine g_iload_n (pc := 1) (x := a1) dX11_holder_1 rfl ?_
  refine g_callV (pc := 2) (as := [.int a1]) dX11_holder_2 cw_X11_133 (by decide) rfl rfl sh_0 (Nat.le_of_ble_eq_true rfl) (rv_X11_isOffice mm a1 h.1) ?_
  have h := h.2
  rintro r_ m_ hz_ ⟨⟨p_, rfl⟩ | ⟨p_, rfl⟩, rfl⟩
  · have h := h.1 p_
    refine g_if_eq (pc := 5) (tgt := 19) dX11_holder_5 (by decide) (fun c5 => absurd c5 (by decide)) (fun _ => ?_)
    refine g_aload_n (pc := 8) (x := 0) dX11_holder_8 rfl ?_
    refine g_getVt (pc := 9) (t := (mm.2.2 0 10)) dX11_holder_9 fo_X11_74 sh_0 rfl rfl ?_
    have hr0 := h.1
    have h := h.2
    refine g_iload_n (pc := 12) (x := a1) dX11_holder_12 rfl ?_
    obtain ⟨Pm2, hRm2, h⟩ := h
    refine g_callV (pc := 13) (as := [.int a1]) dX11_holder_13 cw_X11_140 (by decide) rfl rfl (AtState_0 hr0) (Nat.le_of_ble_eq_true rfl) hRm2 ?_
    intro r_ m2 hz_ hp_
    obtain ⟨r2, rfl⟩ := hz_
    have h := h r2 m2 hp_
    refine g_goto (pc := 16) (tgt := 20) dX11_holder_16 (by decide) ?_
    exact g_iret (pc := 20) dX11_holder_20 rfl rfl rfl h
  · have h := h.2 p_
    refine g_if_eq (pc := 5) (tgt := 19) dX11_holder_5 (by decide) (fun _ => ?_) (fun c5 => absurd c5 (by decide))
    refine g_iconst (pc := 19) (v := (-1 : Int32)) dX11_holder_19 (by decide) ?_
    exact g_iret (pc := 20) dX11_holder_20 rfl rfl rfl h
theorem dX11_months_0 : decode cX11_months 0 = .ok (.iload_n 1, 1) := by decide +kernel
theorem dX11_months_1 : decode cX11_months 1 = .ok (.iconst 0, 1) := by decide +kernel
theorem dX11_months_2 : decode cX11_months 2 = .ok (.sipush 240, 3) := by decide +kernel
theorem dX11_months_5 : decode cX11_months 5 = .ok (.invokestatic 144, 3) := by decide +kernel
theorem dX11_months_8 : decode cX11_months 8 = .ok (.ifCond .ne 5, 3) := by decide +kernel
theorem dX11_months_11 : decode cX11_months 11 = .ok (.iconst (-1), 1) := by decide +kernel
theorem dX11_months_12 : decode cX11_months 12 = .ok (.ireturn, 1) := by decide +kernel
theorem dX11_months_13 : decode cX11_months 13 = .ok (.aload_n 0, 1) := by decide +kernel
theorem dX11_months_14 : decode cX11_months 14 = .ok (.getfield 74, 3) := by decide +kernel
theorem dX11_months_17 : decode cX11_months 17 = .ok (.aload_n 0, 1) := by decide +kernel
theorem dX11_months_18 : decode cX11_months 18 = .ok (.getfield 74, 3) := by decide +kernel
theorem dX11_months_21 : decode cX11_months 21 = .ok (.getfield 148, 3) := by decide +kernel
theorem dX11_months_24 : decode cX11_months 24 = .ok (.iload_n 1, 1) := by decide +kernel
theorem dX11_months_25 : decode cX11_months 25 = .ok (.iadd, 1) := by decide +kernel
theorem dX11_months_26 : decode cX11_months 26 = .ok (.bipush 12, 2) := by decide +kernel
theorem dX11_months_28 : decode cX11_months 28 = .ok (.irem, 1) := by decide +kernel
theorem dX11_months_29 : decode cX11_months 29 = .ok (.putfield 148, 3) := by decide +kernel
theorem dX11_months_32 : decode cX11_months 32 = .ok (.aload_n 0, 1) := by decide +kernel
theorem dX11_months_33 : decode cX11_months 33 = .ok (.getfield 74, 3) := by decide +kernel
theorem dX11_months_36 : decode cX11_months 36 = .ok (.getfield 148, 3) := by decide +kernel
theorem dX11_months_39 : decode cX11_months 39 = .ok (.ireturn, 1) := by decide +kernel
theorem b_X11_months (mm : MM) (Q : Value → MM → Prop) (a1 : Int32) (h : (p_X11_within mm a1 (0 : Int32) (240 : Int32) → (AtState (mm.2.2 0 10) ∧ (AtState (mm.2.2 0 10) ∧ (AtState (mm.2.2 0 10) ∧ (Q (.int ((wI mm (mm.2.2 0 10) 8 (((mm.1 (mm.2.2 0 10) 8) + a1) - ((mm.1 (mm.2.2 0 10) 8) + a1) / (12 : Int32) * (12 : Int32))).1 (mm.2.2 0 10) 8)) (wI mm (mm.2.2 0 10) 8 (((mm.1 (mm.2.2 0 10) 8) + a1) - ((mm.1 (mm.2.2 0 10) 8) + a1) / (12 : Int32) * (12 : Int32)))))))) ∧ (¬ p_X11_within mm a1 (0 : Int32) (240 : Int32) → (Q (.int (-1 : Int32)) mm))) : Runs e_X11_months [.ref 0, .int a1] mm Q := by
  refine runs_of_G (L := [(0, .ref 0), (1, .int a1)]) pl_X11 (Nat.le_of_ble_eq_true rfl) rfl ?_
  refine g_iload_n (pc := 0) (x := a1) dX11_months_0 rfl ?_
  refine g_iconst (pc := 1) (v := (0 : Int32)) dX11_months_1 (by decide) ?_
  refine g_sipush (pc := 2) (v := (240 : Int32)) dX11_months_2 (by decide) ?_
  refine g_callS (pc := 5) (as := [.int a1, .int (0 : Int32), .int (240 : Int32)]) dX11_months_5 cw_X11_144 (by decide) rfl rfl (Nat.le_of_ble_eq_true rfl) (rv_X11_within mm a1 (0 : Int32) (240 : Int32)) ?_
  rintro r_ m_ hz_ ⟨⟨p_, rfl⟩ | ⟨p_, rfl⟩, rfl⟩
  · have h := h.1 p_
    refine g_if_ne (pc := 8) (tgt := 13) dX11_months_8 (by decide) (fun _ => ?_) (fun c8 => absurd c8 (by decide))
    refine g_aload_n (pc := 13) (x := 0) dX11_months_13 rfl ?_
    refine g_getVt (pc := 14) (t := (mm.2.2 0 10)) dX11_months_14 fo_X11_74 sh_0 rfl rfl ?_
    have hr0 := h.1
    have h := h.2
    refine g_aload_n (pc := 17) (x := 0) dX11_months_17 rfl ?_
    refine g_getVt (pc := 18) (t := (mm.2.2 0 10)) dX11_months_18 fo_X11_74 sh_0 rfl rfl ?_
    have hr1 := h.1
    have h := h.2
    refine g_getI (pc := 21) dX11_months_21 fo_X11_148 (AtState_0 hr1) rfl ?_
    refine g_iload_n (pc := 24) (x := a1) dX11_months_24 rfl ?_
    refine g_iadd (pc := 25) dX11_months_25 ?_
    refine g_bipush (pc := 26) (v := (12 : Int32)) dX11_months_26 (by decide) ?_
    refine g_irem (pc := 28) dX11_months_28 (by decide) ?_
    refine g_putI (pc := 29) dX11_months_29 fo_X11_148 (AtState_0 hr0) rfl rfl rfl ?_
    refine g_aload_n (pc := 32) (x := 0) dX11_months_32 rfl ?_
    refine g_getVt (pc := 33) (t := (mm.2.2 0 10)) dX11_months_33 fo_X11_74 sh_0 rfl rfl ?_
    have hr2 := h.1
    have h := h.2
    refine g_getI (pc := 36) dX11_months_36 fo_X11_148 (AtState_0 hr2) rfl ?_
    exact g_iret (pc := 39) dX11_months_39 rfl rfl rfl h
  · have h := h.2 p_
    refine g_if_ne (pc := 8) (tgt := 13) dX11_months_8 (by decide) (fun c8 => absurd c8 (by decide)) (fun _ => ?_)
    refine g_iconst (pc := 11) (v := (-1 : Int32)) dX11_months_11 (by decide) ?_
    exact g_iret (pc := 12) dX11_months_12 rfl rfl rfl h
theorem dX11_isHour_0 : decode cX11_isHour 0 = .ok (.iload_n 0, 1) := by decide +kernel
theorem dX11_isHour_1 : decode cX11_isHour 1 = .ok (.ifCond .lt 13, 3) := by decide +kernel
theorem dX11_isHour_4 : decode cX11_isHour 4 = .ok (.iload_n 0, 1) := by decide +kernel
theorem dX11_isHour_5 : decode cX11_isHour 5 = .ok (.bipush 24, 2) := by decide +kernel
theorem dX11_isHour_7 : decode cX11_isHour 7 = .ok (.if_icmp .ge 7, 3) := by decide +kernel
theorem dX11_isHour_10 : decode cX11_isHour 10 = .ok (.iconst 1, 1) := by decide +kernel
theorem dX11_isHour_11 : decode cX11_isHour 11 = .ok (.goto 4, 3) := by decide +kernel
theorem dX11_isHour_14 : decode cX11_isHour 14 = .ok (.iconst 0, 1) := by decide +kernel
theorem dX11_isHour_15 : decode cX11_isHour 15 = .ok (.ireturn, 1) := by decide +kernel
def p_X11_isHour (mm : MM) (a0 : Int32) : Prop := (¬ a0 < 0 ∧ ¬ (24 : Int32) ≤ a0)
theorem rv_X11_isHour (mm : MM) (a0 : Int32) : Runs e_X11_isHour [.int a0] mm (fun r m_ => ((p_X11_isHour mm a0 ∧ r = .int 1) ∨ (¬ p_X11_isHour mm a0 ∧ r = .int 0)) ∧ mm = m_) := by
  refine runs_of_G (L := [(0, .int a0)]) pl_X11 (Nat.le_of_ble_eq_true rfl) rfl ?_
  refine g_iload_n (pc := 0) (x := a0) dX11_isHour_0 rfl ?_
  refine g_if_lt (pc := 1) (tgt := 14) dX11_isHour_1 (by decide) (fun c1 => ?_) (fun c1 => ?_)
  · have c1_0 : a0 < 0 := c1
    refine g_iconst (pc := 14) (v := (0 : Int32)) dX11_isHour_14 (by decide) ?_
    exact g_iret (pc := 15) dX11_isHour_15 rfl rfl (nar_B isB0) ⟨Or.inr ⟨(show ¬ p_X11_isHour mm a0 from (fun h_ => (h_.1 c1_0))), rfl⟩, rfl⟩
  · have c1_0 : ¬ a0 < 0 := c1
    refine g_iload_n (pc := 4) (x := a0) dX11_isHour_4 rfl ?_
    refine g_bipush (pc := 5) (v := (24 : Int32)) dX11_isHour_5 (by decide) ?_
    refine g_icmp_ge (pc := 7) (tgt := 14) dX11_isHour_7 (by decide) (fun c7 => ?_) (fun c7 => ?_)
    · have c7_1 : (24 : Int32) ≤ a0 := c7
      refine g_iconst (pc := 14) (v := (0 : Int32)) dX11_isHour_14 (by decide) ?_
      exact g_iret (pc := 15) dX11_isHour_15 rfl rfl (nar_B isB0) ⟨Or.inr ⟨(show ¬ p_X11_isHour mm a0 from (fun h_ => (not_not_intro c7_1) h_.2)), rfl⟩, rfl⟩
    · have c7_1 : ¬ (24 : Int32) ≤ a0 := c7
      refine g_iconst (pc := 10) (v := (1 : Int32)) dX11_isHour_10 (by decide) ?_
      refine g_goto (pc := 11) (tgt := 15) dX11_isHour_11 (by decide) ?_
      exact g_iret (pc := 15) dX11_isHour_15 rfl rfl (nar_B isB1) ⟨Or.inl ⟨(show p_X11_isHour mm a0 from ⟨c1_0, c7_1⟩), rfl⟩, rfl⟩
theorem dX11_tide_0 : decode cX11_tide 0 = .ok (.iload_n 1, 1) := by decide +kernel
theorem dX11_tide_1 : decode cX11_tide 1 = .ok (.invokestatic 151, 3) := by decide +kernel
theorem dX11_tide_4 : decode cX11_tide 4 = .ok (.ifCond .eq 18, 3) := by decide +kernel
theorem dX11_tide_7 : decode cX11_tide 7 = .ok (.aload_n 0, 1) := by decide +kernel
theorem dX11_tide_8 : decode cX11_tide 8 = .ok (.getfield 69, 3) := by decide +kernel
theorem dX11_tide_11 : decode cX11_tide 11 = .ok (.aload_n 0, 1) := by decide +kernel
theorem dX11_tide_12 : decode cX11_tide 12 = .ok (.getfield 74, 3) := by decide +kernel
theorem dX11_tide_15 : decode cX11_tide 15 = .ok (.iload_n 1, 1) := by decide +kernel
theorem dX11_tide_16 : decode cX11_tide 16 = .ok (.invokevirtual 154, 3) := by decide +kernel
theorem dX11_tide_19 : decode cX11_tide 19 = .ok (.goto 4, 3) := by decide +kernel
theorem dX11_tide_22 : decode cX11_tide 22 = .ok (.iconst (-1), 1) := by decide +kernel
theorem dX11_tide_23 : decode cX11_tide 23 = .ok (.ireturn, 1) := by decide +kernel
theorem b_X11_tide (mm : MM) (Q : Value → MM → Prop) (a1 : Int32) (h : (p_X11_isHour mm a1 → (AtTown (mm.2.2 0 9) ∧ (AtState (mm.2.2 0 10) ∧ (∃ Pm3 : Value → MM → Prop, Runs e_X8_tideAt [.ref (mm.2.2 0 9), .ref (mm.2.2 0 10), .int a1] mm Pm3 ∧ ∀ (r3 : Int32) (m3 : MM), Pm3 (.int r3) m3 → (Q (.int r3) m3))))) ∧ (¬ p_X11_isHour mm a1 → (Q (.int (-1 : Int32)) mm))) : Runs e_X11_tide [.ref 0, .int a1] mm Q := by
  refine runs_of_G (L := [(0, .ref 0), (1, .int a1)]) pl_X11 (Nat.le_of_ble_eq_true rfl) rfl ?_
  refine g_iload_n (pc := 0) (x := a1) dX11_tide_0 rfl ?_
  refine g_callS (pc := 1) (as := [.int a1]) dX11_tide_1 cw_X11_151 (by decide) rfl rfl (Nat.le_of_ble_eq_true rfl) (rv_X11_isHour mm a1) ?_
  rintro r_ m_ hz_ ⟨⟨p_, rfl⟩ | ⟨p_, rfl⟩, rfl⟩
  · have h := h.1 p_
    refine g_if_eq (pc := 4) (tgt := 22) dX11_tide_4 (by decide) (fun c4 => absurd c4 (by decide)) (fun _ => ?_)
    refine g_aload_n (pc := 7) (x := 0) dX11_tide_7 rfl ?_
    refine g_getVt (pc := 8) (t := (mm.2.2 0 9)) dX11_tide_8 fo_X11_69 sh_0 rfl rfl ?_
    have hr0 := h.1
    have h := h.2
    refine g_aload_n (pc := 11) (x := 0) dX11_tide_11 rfl ?_
    refine g_getVt (pc := 12) (t := (mm.2.2 0 10)) dX11_tide_12 fo_X11_74 sh_0 rfl rfl ?_
    have hr1 := h.1
    have h := h.2
    refine g_iload_n (pc := 15) (x := a1) dX11_tide_15 rfl ?_
    obtain ⟨Pm3, hRm3, h⟩ := h
    refine g_callV (pc := 16) (as := [.ref (mm.2.2 0 10), .int a1]) dX11_tide_16 cw_X11_154 (by decide) rfl rfl (AtTown_0 hr0) (Nat.le_of_ble_eq_true rfl) hRm3 ?_
    intro r_ m3 hz_ hp_
    obtain ⟨r3, rfl⟩ := hz_
    have h := h r3 m3 hp_
    refine g_goto (pc := 19) (tgt := 23) dX11_tide_19 (by decide) ?_
    exact g_iret (pc := 23) dX11_tide_23 rfl rfl rfl h
  · have h := h.2 p_
    refine g_if_eq (pc := 4) (tgt := 22) dX11_tide_4 (by decide) (fun _ => ?_) (fun c4 => absurd c4 (by decide))
    refine g_iconst (pc := 22) (v := (-1 : Int32)) dX11_tide_22 (by decide) ?_
    exact g_iret (pc := 23) dX11_tide_23 rfl rfl rfl h
theorem dX11_wet_0 : decode cX11_wet 0 = .ok (.iload_n 1, 1) := by decide +kernel
theorem dX11_wet_1 : decode cX11_wet 1 = .ok (.invokestatic 151, 3) := by decide +kernel
theorem dX11_wet_4 : decode cX11_wet 4 = .ok (.ifCond .eq 32, 3) := by decide +kernel
theorem dX11_wet_7 : decode cX11_wet 7 = .ok (.aload_n 0, 1) := by decide +kernel
theorem dX11_wet_8 : decode cX11_wet 8 = .ok (.getfield 69, 3) := by decide +kernel
theorem dX11_wet_11 : decode cX11_wet 11 = .ok (.aload_n 0, 1) := by decide +kernel
theorem dX11_wet_12 : decode cX11_wet 12 = .ok (.getfield 74, 3) := by decide +kernel
theorem dX11_wet_15 : decode cX11_wet 15 = .ok (.getfield 117, 3) := by decide +kernel
theorem dX11_wet_18 : decode cX11_wet 18 = .ok (.aload_n 0, 1) := by decide +kernel
theorem dX11_wet_19 : decode cX11_wet 19 = .ok (.getfield 69, 3) := by decide +kernel
theorem dX11_wet_22 : decode cX11_wet 22 = .ok (.aload_n 0, 1) := by decide +kernel
theorem dX11_wet_23 : decode cX11_wet 23 = .ok (.getfield 74, 3) := by decide +kernel
theorem dX11_wet_26 : decode cX11_wet 26 = .ok (.iload_n 1, 1) := by decide +kernel
theorem dX11_wet_27 : decode cX11_wet 27 = .ok (.invokevirtual 154, 3) := by decide +kernel
theorem dX11_wet_30 : decode cX11_wet 30 = .ok (.invokevirtual 157, 3) := by decide +kernel
theorem dX11_wet_33 : decode cX11_wet 33 = .ok (.goto 4, 3) := by decide +kernel
theorem dX11_wet_36 : decode cX11_wet 36 = .ok (.iconst (-1), 1) := by decide +kernel
theorem dX11_wet_37 : decode cX11_wet 37 = .ok (.ireturn, 1) := by decide +kernel
theorem b_X11_wet (mm : MM) (Q : Value → MM → Prop) (a1 : Int32) (h : (p_X11_isHour mm a1 → (AtTown (mm.2.2 0 9) ∧ (AtState (mm.2.2 0 10) ∧ (AtTown (mm.2.2 0 9) ∧ (AtState (mm.2.2 0 10) ∧ (∃ Pm5 : Value → MM → Prop, Runs e_X8_tideAt [.ref (mm.2.2 0 9), .ref (mm.2.2 0 10), .int a1] mm Pm5 ∧ ∀ (r5 : Int32) (m5 : MM), Pm5 (.int r5) m5 → (∃ Pm6 : Value → MM → Prop, Runs e_X8_wetBits [.ref (mm.2.2 0 9), .ref ((mm.2.2 0 10) + 1), .int r5] m5 Pm6 ∧ ∀ (r6 : Int32) (m6 : MM), Pm6 (.int r6) m6 → (Q (.int r6) m6)))))))) ∧ (¬ p_X11_isHour mm a1 → (Q (.int (-1 : Int32)) mm))) : Runs e_X11_wet [.ref 0, .int a1] mm Q := by
  refine runs_of_G (L := [(0, .ref 0), (1, .int a1)]) pl_X11 (Nat.le_of_ble_eq_true rfl) rfl ?_
  refine g_iload_n (pc := 0) (x := a1) dX11_wet_0 rfl ?_
  refine g_callS (pc := 1) (as := [.int a1]) dX11_wet_1 cw_X11_151 (by decide) rfl rfl (Nat.le_of_ble_eq_true rfl) (rv_X11_isHour mm a1) ?_
  rintro r_ m_ hz_ ⟨⟨p_, rfl⟩ | ⟨p_, rfl⟩, rfl⟩
  · have h := h.1 p_
    refine g_if_eq (pc := 4) (tgt := 36) dX11_wet_4 (by decide) (fun c4 => absurd c4 (by decide)) (fun _ => ?_)
    refine g_aload_n (pc := 7) (x := 0) dX11_wet_7 rfl ?_
    refine g_getVt (pc := 8) (t := (mm.2.2 0 9)) dX11_wet_8 fo_X11_69 sh_0 rfl rfl ?_
    have hr0 := h.1
    have h := h.2
    refine g_aload_n (pc := 11) (x := 0) dX11_wet_11 rfl ?_
    refine g_getVt (pc := 12) (t := (mm.2.2 0 10)) dX11_wet_12 fo_X11_74 sh_0 rfl rfl ?_
    have hr1 := h.1
    have h := h.2
    refine g_getR (pc := 15) (dd := 1) dX11_wet_15 fo_X11_117 (AtState_0 hr1) rfl ?_
    refine g_aload_n (pc := 18) (x := 0) dX11_wet_18 rfl ?_
    refine g_getVt (pc := 19) (t := (mm.2.2 0 9)) dX11_wet_19 fo_X11_69 sh_0 rfl rfl ?_
    have hr2 := h.1
    have h := h.2
    refine g_aload_n (pc := 22) (x := 0) dX11_wet_22 rfl ?_
    refine g_getVt (pc := 23) (t := (mm.2.2 0 10)) dX11_wet_23 fo_X11_74 sh_0 rfl rfl ?_
    have hr3 := h.1
    have h := h.2
    refine g_iload_n (pc := 26) (x := a1) dX11_wet_26 rfl ?_
    obtain ⟨Pm5, hRm5, h⟩ := h
    refine g_callV (pc := 27) (as := [.ref (mm.2.2 0 10), .int a1]) dX11_wet_27 cw_X11_154 (by decide) rfl rfl (AtTown_0 hr2) (Nat.le_of_ble_eq_true rfl) hRm5 ?_
    intro r_ m5 hz_ hp_
    obtain ⟨r5, rfl⟩ := hz_
    have h := h r5 m5 hp_
    obtain ⟨Pm6, hRm6, h⟩ := h
    refine g_callV (pc := 30) (as := [.ref ((mm.2.2 0 10) + 1), .int r5]) dX11_wet_30 cw_X11_157 (by decide) rfl rfl (AtTown_0 hr0) (Nat.le_of_ble_eq_true rfl) hRm6 ?_
    intro r_ m6 hz_ hp_
    obtain ⟨r6, rfl⟩ := hz_
    have h := h r6 m6 hp_
    refine g_goto (pc := 33) (tgt := 37) dX11_wet_33 (by decide) ?_
    exact g_iret (pc := 37) dX11_wet_37 rfl rfl rfl h
  · have h := h.2 p_
    refine g_if_eq (pc := 4) (tgt := 36) dX11_wet_4 (by decide) (fun _ => ?_) (fun c4 => absurd c4 (by decide))
    refine g_iconst (pc := 36) (v := (-1 : Int32)) dX11_wet_36 (by decide) ?_
    exact g_iret (pc := 37) dX11_wet_37 rfl rfl rfl h
theorem dX11_reached_0 : decode cX11_reached 0 = .ok (.iload_n 1, 1) := by decide +kernel
theorem dX11_reached_1 : decode cX11_reached 1 = .ok (.invokestatic 151, 3) := by decide +kernel
theorem dX11_reached_4 : decode cX11_reached 4 = .ok (.ifCond .eq 32, 3) := by decide +kernel
theorem dX11_reached_7 : decode cX11_reached 7 = .ok (.aload_n 0, 1) := by decide +kernel
theorem dX11_reached_8 : decode cX11_reached 8 = .ok (.getfield 69, 3) := by decide +kernel
theorem dX11_reached_11 : decode cX11_reached 11 = .ok (.aload_n 0, 1) := by decide +kernel
theorem dX11_reached_12 : decode cX11_reached 12 = .ok (.getfield 74, 3) := by decide +kernel
theorem dX11_reached_15 : decode cX11_reached 15 = .ok (.getfield 117, 3) := by decide +kernel
theorem dX11_reached_18 : decode cX11_reached 18 = .ok (.aload_n 0, 1) := by decide +kernel
theorem dX11_reached_19 : decode cX11_reached 19 = .ok (.getfield 69, 3) := by decide +kernel
theorem dX11_reached_22 : decode cX11_reached 22 = .ok (.aload_n 0, 1) := by decide +kernel
theorem dX11_reached_23 : decode cX11_reached 23 = .ok (.getfield 74, 3) := by decide +kernel
theorem dX11_reached_26 : decode cX11_reached 26 = .ok (.iload_n 1, 1) := by decide +kernel
theorem dX11_reached_27 : decode cX11_reached 27 = .ok (.invokevirtual 154, 3) := by decide +kernel
theorem dX11_reached_30 : decode cX11_reached 30 = .ok (.invokevirtual 161, 3) := by decide +kernel
theorem dX11_reached_33 : decode cX11_reached 33 = .ok (.goto 4, 3) := by decide +kernel
theorem dX11_reached_36 : decode cX11_reached 36 = .ok (.iconst (-1), 1) := by decide +kernel
theorem dX11_reached_37 : decode cX11_reached 37 = .ok (.ireturn, 1) := by decide +kernel
theorem b_X11_reached (mm : MM) (Q : Value → MM → Prop) (a1 : Int32) (h : (p_X11_isHour mm a1 → (AtTown (mm.2.2 0 9) ∧ (AtState (mm.2.2 0 10) ∧ (AtTown (mm.2.2 0 9) ∧ (AtState (mm.2.2 0 10) ∧ (∃ Pm5 : Value → MM → Prop, Runs e_X8_tideAt [.ref (mm.2.2 0 9), .ref (mm.2.2 0 10), .int a1] mm Pm5 ∧ ∀ (r5 : Int32) (m5 : MM), Pm5 (.int r5) m5 → (∃ Pm6 : Value → MM → Prop, Runs e_X8_reachedBits [.ref (mm.2.2 0 9), .ref ((mm.2.2 0 10) + 1), .int r5] m5 Pm6 ∧ ∀ (r6 : Int32) (m6 : MM), Pm6 (.int r6) m6 → (Q (.int r6) m6)))))))) ∧ (¬ p_X11_isHour mm a1 → (Q (.int (-1 : Int32)) mm))) : Runs e_X11_reached [.ref 0, .int a1] mm Q := by
  refine runs_of_G (L := [(0, .ref 0), (1, .int a1)]) pl_X11 (Nat.le_of_ble_eq_true rfl) rfl ?_
  refine g_iload_n (pc := 0) (x := a1) dX11_reached_0 rfl ?_
  refine g_callS (pc := 1) (as := [.int a1]) dX11_reached_1 cw_X11_151 (by decide) rfl rfl (Nat.le_of_ble_eq_true rfl) (rv_X11_isHour mm a1) ?_
  rintro r_ m_ hz_ ⟨⟨p_, rfl⟩ | ⟨p_, rfl⟩, rfl⟩
  · have h := h.1 p_
    refine g_if_eq (pc := 4) (tgt := 36) dX11_reached_4 (by decide) (fun c4 => absurd c4 (by decide)) (fun _ => ?_)
    refine g_aload_n (pc := 7) (x := 0) dX11_reached_7 rfl ?_
    refine g_getVt (pc := 8) (t := (mm.2.2 0 9)) dX11_reached_8 fo_X11_69 sh_0 rfl rfl ?_
    have hr0 := h.1
    have h := h.2
    refine g_aload_n (pc := 11) (x := 0) dX11_reached_11 rfl ?_
    refine g_getVt (pc := 12) (t := (mm.2.2 0 10)) dX11_reached_12 fo_X11_74 sh_0 rfl rfl ?_
    have hr1 := h.1
    have h := h.2
    refine g_getR (pc := 15) (dd := 1) dX11_reached_15 fo_X11_117 (AtState_0 hr1) rfl ?_
    refine g_aload_n (pc := 18) (x := 0) dX11_reached_18 rfl ?_
    refine g_getVt (pc := 19) (t := (mm.2.2 0 9)) dX11_reached_19 fo_X11_69 sh_0 rfl rfl ?_
    have hr2 := h.1
    have h := h.2
    refine g_aload_n (pc := 22) (x := 0) dX11_reached_22 rfl ?_
    refine g_getVt (pc := 23) (t := (mm.2.2 0 10)) dX11_reached_23 fo_X11_74 sh_0 rfl rfl ?_
    have hr3 := h.1
    have h := h.2
    refine g_iload_n (pc := 26) (x := a1) dX11_reached_26 rfl ?_
    obtain ⟨Pm5, hRm5, h⟩ := h
    refine g_callV (pc := 27) (as := [.ref (mm.2.2 0 10), .int a1]) dX11_reached_27 cw_X11_154 (by decide) rfl rfl (AtTown_0 hr2) (Nat.le_of_ble_eq_true rfl) hRm5 ?_
    intro r_ m5 hz_ hp_
    obtain ⟨r5, rfl⟩ := hz_
    have h := h r5 m5 hp_
    obtain ⟨Pm6, hRm6, h⟩ := h
    refine g_callV (pc := 30) (as := [.ref ((mm.2.2 0 10) + 1), .int r5]) dX11_reached_30 cw_X11_161 (by decide) rfl rfl (AtTown_0 hr0) (Nat.le_of_ble_eq_true rfl) hRm6 ?_
    intro r_ m6 hz_ hp_
    obtain ⟨r6, rfl⟩ := hz_
    have h := h r6 m6 hp_
    refine g_goto (pc := 33) (tgt := 37) dX11_reached_33 (by decide) ?_
    exact g_iret (pc := 37) dX11_reached_37 rfl rfl rfl h
  · have h := h.2 p_
    refine g_if_eq (pc := 4) (tgt := 36) dX11_reached_4 (by decide) (fun _ => ?_) (fun c4 => absurd c4 (by decide))
    refine g_iconst (pc := 36) (v := (-1 : Int32)) dX11_reached_36 (by decide) ?_
    exact g_iret (pc := 37) dX11_reached_37 rfl rfl rfl h
theorem dX11_hours_0 : decode cX11_hours 0 = .ok (.aload_n 0, 1) := by decide +kernel
theorem dX11_hours_1 : decode cX11_hours 1 = .ok (.iload_n 1, 1) := by decide +kernel
theorem dX11_hours_2 : decode cX11_hours 2 = .ok (.invokevirtual 109, 3) := by decide +kernel
theorem dX11_hours_5 : decode cX11_hours 5 = .ok (.ifCond .ne 5, 3) := by decide +kernel
theorem dX11_hours_8 : decode cX11_hours 8 = .ok (.iconst (-1), 1) := by decide +kernel
theorem dX11_hours_9 : decode cX11_hours 9 = .ok (.ireturn, 1) := by decide +kernel
theorem dX11_hours_10 : decode cX11_hours 10 = .ok (.iconst 0, 1) := by decide +kernel
theorem dX11_hours_11 : decode cX11_hours 11 = .ok (.istore_n 2, 1) := by decide +kernel
theorem dX11_hours_12 : decode cX11_hours 12 = .ok (.iconst 0, 1) := by decide +kernel
theorem dX11_hours_13 : decode cX11_hours 13 = .ok (.istore_n 3, 1) := by decide +kernel
theorem dX11_hours_14 : decode cX11_hours 14 = .ok (.iload_n 3, 1) := by decide +kernel
theorem dX11_hours_15 : decode cX11_hours 15 = .ok (.bipush 24, 2) := by decide +kernel
theorem dX11_hours_17 : decode cX11_hours 17 = .ok (.if_icmp .ge 42, 3) := by decide +kernel
theorem dX11_hours_20 : decode cX11_hours 20 = .ok (.iload_n 2, 1) := by decide +kernel
theorem dX11_hours_21 : decode cX11_hours 21 = .ok (.aload_n 0, 1) := by decide +kernel
theorem dX11_hours_22 : decode cX11_hours 22 = .ok (.getfield 69, 3) := by decide +kernel
theorem dX11_hours_25 : decode cX11_hours 25 = .ok (.aload_n 0, 1) := by decide +kernel
theorem dX11_hours_26 : decode cX11_hours 26 = .ok (.getfield 74, 3) := by decide +kernel
theorem dX11_hours_29 : decode cX11_hours 29 = .ok (.getfield 117, 3) := by decide +kernel
theorem dX11_hours_32 : decode cX11_hours 32 = .ok (.aload_n 0, 1) := by decide +kernel
theorem dX11_hours_33 : decode cX11_hours 33 = .ok (.getfield 69, 3) := by decide +kernel
theorem dX11_hours_36 : decode cX11_hours 36 = .ok (.aload_n 0, 1) := by decide +kernel
theorem dX11_hours_37 : decode cX11_hours 37 = .ok (.getfield 74, 3) := by decide +kernel
theorem dX11_hours_40 : decode cX11_hours 40 = .ok (.iload_n 3, 1) := by decide +kernel
theorem dX11_hours_41 : decode cX11_hours 41 = .ok (.invokevirtual 154, 3) := by decide +kernel
theorem dX11_hours_44 : decode cX11_hours 44 = .ok (.invokevirtual 161, 3) := by decide +kernel
theorem dX11_hours_47 : decode cX11_hours 47 = .ok (.iload_n 1, 1) := by decide +kernel
theorem dX11_hours_48 : decode cX11_hours 48 = .ok (.ishr, 1) := by decide +kernel
theorem dX11_hours_49 : decode cX11_hours 49 = .ok (.iconst 1, 1) := by decide +kernel
theorem dX11_hours_50 : decode cX11_hours 50 = .ok (.iand, 1) := by decide +kernel
theorem dX11_hours_51 : decode cX11_hours 51 = .ok (.iadd, 1) := by decide +kernel
theorem dX11_hours_52 : decode cX11_hours 52 = .ok (.istore_n 2, 1) := by decide +kernel
theorem dX11_hours_53 : decode cX11_hours 53 = .ok (.iinc 3 1, 3) := by decide +kernel
theorem dX11_hours_56 : decode cX11_hours 56 = .ok (.goto (-42), 3) := by decide +kernel
theorem dX11_hours_59 : decode cX11_hours 59 = .ok (.iload_n 2, 1) := by decide +kernel
theorem dX11_hours_60 : decode cX11_hours 60 = .ok (.ireturn, 1) := by decide +kernel
theorem b_X11_hours (mm : MM) (Q : Value → MM → Prop) (a1 : Int32) (h : o_X11_isHouse mm a1 ∧ ((p_X11_isHouse mm a1 → (G e_X11_hours 14 [(0, .ref 0), (1, .int a1), (2, .int (0 : Int32)), (3, .int (0 : Int32))] [] mm Q)) ∧ (¬ p_X11_isHouse mm a1 → (Q (.int (-1 : Int32)) mm)))) : Runs e_X11_hours [.ref 0, .int a1] mm Q := by
  refine runs_of_G (L := [(0, .ref 0), (1, .int a1)]) pl_X11 (Nat.le_of_ble_eq_true rfl) rfl ?_
  refine g_aload_n (pc := 0) (x := 0) dX11_hours_0 rfl ?_
  refine g_iload_n (pc := 1) (x := a1) dX11_hours_1 rfl ?_
  refine g_callV (pc := 2) (as := [.int a1]) dX11_hours_2 cw_X11_109 (by decide) rfl rfl sh_0 (Nat.le_of_ble_eq_true rfl) (rv_X11_isHouse mm a1 h.1) ?_
  have h := h.2
  rintro r_ m_ hz_ ⟨⟨p_, rfl⟩ | ⟨p_, rfl⟩, rfl⟩
  · have h := h.1 p_
    refine g_if_ne (pc := 5) (tgt := 10) dX11_hours_5 (by decide) (fun _ => ?_) (fun c5 => absurd c5 (by decide))
    refine g_iconst (pc := 10) (v := (0 : Int32)) dX11_hours_10 (by decide) ?_
    refine g_istore_n (pc := 11) (L' := [(0, .ref 0), (1, .int a1), (2, .int (0 : Int32))]) dX11_hours_11 (Nat.le_of_ble_eq_true rfl) rfl ?_
    refine g_iconst (pc := 12) (v := (0 : Int32)) dX11_hours_12 (by decide) ?_
    refine g_istore_n (pc := 13) (L' := [(0, .ref 0), (1, .int a1), (2, .int (0 : Int32)), (3, .int (0 : Int32))]) dX11_hours_13 (Nat.le_of_ble_eq_true rfl) rfl ?_
    exact h
  · have h := h.2 p_
    refine g_if_ne (pc := 5) (tgt := 10) dX11_hours_5 (by decide) (fun c5 => absurd c5 (by decide)) (fun _ => ?_)
    refine g_iconst (pc := 8) (v := (-1 : Int32)) dX11_hours_8 (by decide) ?_
    exact g_iret (pc := 9) dX11_hours_9 rfl rfl rfl h
theorem b_X11_hours_14 (mm : MM) (Q : Value → MM → Prop) (l1 : Int32) (l2 : Int32) (l3 : Int32) (h : ((24 : Int32) ≤ l3 → (Q (.int l2) mm)) ∧ (¬ (24 : Int32) ≤ l3 → (AtTown (mm.2.2 0 9) ∧ (AtState (mm.2.2 0 10) ∧ (AtTown (mm.2.2 0 9) ∧ (AtState (mm.2.2 0 10) ∧ (∃ Pm5 : Value → MM → Prop, Runs e_X8_tideAt [.ref (mm.2.2 0 9), .ref (mm.2.2 0 10), .int l3] mm Pm5 ∧ ∀ (r5 : Int32) (m5 : MM), Pm5 (.int r5) m5 → (∃ Pm6 : Value → MM → Prop, Runs e_X8_reachedBits [.ref (mm.2.2 0 9), .ref ((mm.2.2 0 10) + 1), .int r5] m5 Pm6 ∧ ∀ (r6 : Int32) (m6 : MM), Pm6 (.int r6) m6 → (G e_X11_hours 14 [(0, .ref 0), (1, .int l1), (2, .int (l2 + ((r6 >>> (l1 &&& 31)) &&& (1 : Int32)))), (3, .int (l3 + (1 : Int32)))] [] m6 Q))))))))) : G e_X11_hours 14 [(0, .ref 0), (1, .int l1), (2, .int l2), (3, .int l3)] [] mm Q := by
  refine g_iload_n (pc := 14) (x := l3) dX11_hours_14 rfl ?_
  refine g_bipush (pc := 15) (v := (24 : Int32)) dX11_hours_15 (by decide) ?_
  refine g_icmp_ge (pc := 17) (tgt := 59) dX11_hours_17 (by decide) (fun c17 => ?_) (fun c17 => ?_)
  · have h := h.1 c17
    refine g_iload_n (pc := 59) (x := l2) dX11_hours_59 rfl ?_
    exact g_iret (pc := 60) dX11_hours_60 rfl rfl rfl h
  · have h := h.2 c17
    refine g_iload_n (pc := 20) (x := l2) dX11_hours_20 rfl ?_
    refine g_aload_n (pc := 21) (x := 0) dX11_hours_21 rfl ?_
    refine g_getVt (pc := 22) (t := (mm.2.2 0 9)) dX11_hours_22 fo_X11_69 sh_0 rfl rfl ?_
    have hr0 := h.1
    have h := h.2
    refine g_aload_n (pc := 25) (x := 0) dX11_hours_25 rfl ?_
    refine g_getVt (pc := 26) (t := (mm.2.2 0 10)) dX11_hours_26 fo_X11_74 sh_0 rfl rfl ?_
    have hr1 := h.1
    have h := h.2
    refine g_getR (pc := 29) (dd := 1) dX11_hours_29 fo_X11_117 (AtState_0 hr1) rfl ?_
    refine g_aload_n (pc := 32) (x := 0) dX11_hours_32 rfl ?_
    refine g_getVt (pc := 33) (t := (mm.2.2 0 9)) dX11_hours_33 fo_X11_69 sh_0 rfl rfl ?_
    have hr2 := h.1
    have h := h.2
    refine g_aload_n (pc := 36) (x := 0) dX11_hours_36 rfl ?_
    refine g_getVt (pc := 37) (t := (mm.2.2 0 10)) dX11_hours_37 fo_X11_74 sh_0 rfl rfl ?_
    have hr3 := h.1
    have h := h.2
    refine g_iload_n (pc := 40) (x := l3) dX11_hours_40 rfl ?_
    obtain ⟨Pm5, hRm5, h⟩ := h
    refine g_callV (pc := 41) (as := [.ref (mm.2.2 0 10), .int l3]) dX11_hours_41 cw_X11_154 (by decide) rfl rfl (AtTown_0 hr2) (Nat.le_of_ble_eq_true rfl) hRm5 ?_
    intro r_ m5 hz_ hp_
    obtain ⟨r5, rfl⟩ := hz_
    have h := h r5 m5 hp_
    obtain ⟨Pm6, hRm6, h⟩ := h
    refine g_callV (pc := 44) (as := [.ref ((mm.2.2 0 10) + 1), .int r5]) dX11_hours_44 cw_X11_161 (by decide) rfl rfl (AtTown_0 hr0) (Nat.le_of_ble_eq_true rfl) hRm6 ?_
    intro r_ m6 hz_ hp_
    obtain ⟨r6, rfl⟩ := hz_
    have h := h r6 m6 hp_
    refine g_iload_n (pc := 47) (x := l1) dX11_hours_47 rfl ?_
    refine g_ishr (pc := 48) dX11_hours_48 ?_
    refine g_iconst (pc := 49) (v := (1 : Int32)) dX11_hours_49 (by decide) ?_
    refine g_iand (pc := 50) dX11_hours_50 ?_
    refine g_iadd (pc := 51) dX11_hours_51 ?_
    refine g_istore_n (pc := 52) (L' := [(0, .ref 0), (1, .int l1), (2, .int (l2 + ((r6 >>> (l1 &&& 31)) &&& (1 : Int32)))), (3, .int l3)]) dX11_hours_52 (Nat.le_of_ble_eq_true rfl) rfl ?_
    refine g_iinc (pc := 53) (x := l3) (v := (l3 + (1 : Int32))) (L' := [(0, .ref 0), (1, .int l1), (2, .int (l2 + ((r6 >>> (l1 &&& 31)) &&& (1 : Int32)))), (3, .int (l3 + (1 : Int32)))]) dX11_hours_53 rfl rfl (Nat.le_of_ble_eq_true rfl) rfl ?_
    refine g_goto (pc := 56) (tgt := 14) dX11_hours_56 (by decide) ?_
    exact h
theorem dX11_isStair_0 : decode cX11_isStair 0 = .ok (.iload_n 1, 1) := by decide +kernel
theorem dX11_isStair_1 : decode cX11_isStair 1 = .ok (.ifCond .lt 18, 3) := by decide +kernel
theorem dX11_isStair_4 : decode cX11_isStair 4 = .ok (.iload_n 1, 1) := by decide +kernel
theorem dX11_isStair_5 : decode cX11_isStair 5 = .ok (.aload_n 0, 1) := by decide +kernel
theorem dX11_isStair_6 : decode cX11_isStair 6 = .ok (.getfield 69, 3) := by decide +kernel
theorem dX11_isStair_9 : decode cX11_isStair 9 = .ok (.getfield 175, 3) := by decide +kernel
theorem dX11_isStair_12 : decode cX11_isStair 12 = .ok (.if_icmp .ge 7, 3) := by decide +kernel
theorem dX11_isStair_15 : decode cX11_isStair 15 = .ok (.iconst 1, 1) := by decide +kernel
theorem dX11_isStair_16 : decode cX11_isStair 16 = .ok (.goto 4, 3) := by decide +kernel
theorem dX11_isStair_19 : decode cX11_isStair 19 = .ok (.iconst 0, 1) := by decide +kernel
theorem dX11_isStair_20 : decode cX11_isStair 20 = .ok (.ireturn, 1) := by decide +kernel
def o_X11_isStair (mm : MM) (a1 : Int32) : Prop := (a1 < 0 → (True)) ∧ (¬ a1 < 0 → (AtTown (mm.2.2 0 9) ∧ (((mm.1 (mm.2.2 0 9) 10) ≤ a1 → (True)) ∧ (¬ (mm.1 (mm.2.2 0 9) 10) ≤ a1 → (True)))))
def p_X11_isStair (mm : MM) (a1 : Int32) : Prop := (¬ a1 < 0 ∧ ¬ (mm.1 (mm.2.2 0 9) 10) ≤ a1)
theorem rv_X11_isStair (mm : MM) (a1 : Int32) (h : o_X11_isStair mm a1) : Runs e_X11_isStair [.ref 0, .int a1] mm (fun r m_ => ((p_X11_isStair mm a1 ∧ r = .int 1) ∨ (¬ p_X11_isStair mm a1 ∧ r = .int 0)) ∧ mm = m_) := by
  refine runs_of_G (L := [(0, .ref 0), (1, .int a1)]) pl_X11 (Nat.le_of_ble_eq_true rfl) rfl ?_
  unfold o_X11_isStair at h
  refine g_iload_n (pc := 0) (x := a1) dX11_isStair_0 rfl ?_
  refine g_if_lt (pc := 1) (tgt := 19) dX11_isStair_1 (by decide) (fun c1 => ?_) (fun c1 => ?_)
  · have c1_0 : a1 < 0 := c1
    have h := h.1 c1
    refine g_iconst (pc := 19) (v := (0 : Int32)) dX11_isStair_19 (by decide) ?_
    exact g_iret (pc := 20) dX11_isStair_20 rfl rfl (nar_B isB0) ⟨Or.inr ⟨(show ¬ p_X11_isStair mm a1 from (fun h_ => (h_.1 c1_0))), rfl⟩, rfl⟩
  · have c1_0 : ¬ a1 < 0 := c1
    have h := h.2 c1
    refine g_iload_n (pc := 4) (x := a1) dX11_isStair_4 rfl ?_
    refine g_aload_n (pc := 5) (x := 0) dX11_isStair_5 rfl ?_
    refine g_getVt (pc := 6) (t := (mm.2.2 0 9)) dX11_isStair_6 fo_X11_69 sh_0 rfl rfl ?_
    have hr0 := h.1
    have h := h.2
    refine g_getI (pc := 9) dX11_isStair_9 fo_X11_175 (AtTown_0 hr0) rfl ?_
    refine g_icmp_ge (pc := 12) (tgt := 19) dX11_isStair_12 (by decide) (fun c12 => ?_) (fun c12 => ?_)
    · have c12_1 : (mm.1 (mm.2.2 0 9) 10) ≤ a1 := c12
      refine g_iconst (pc := 19) (v := (0 : Int32)) dX11_isStair_19 (by decide) ?_
      exact g_iret (pc := 20) dX11_isStair_20 rfl rfl (nar_B isB0) ⟨Or.inr ⟨(show ¬ p_X11_isStair mm a1 from (fun h_ => (not_not_intro c12_1) h_.2)), rfl⟩, rfl⟩
    · have c12_1 : ¬ (mm.1 (mm.2.2 0 9) 10) ≤ a1 := c12
      refine g_iconst (pc := 15) (v := (1 : Int32)) dX11_isStair_15 (by decide) ?_
      refine g_goto (pc := 16) (tgt := 20) dX11_isStair_16 (by decide) ?_
      exact g_iret (pc := 20) dX11_isStair_20 rfl rfl (nar_B isB1) ⟨Or.inl ⟨(show p_X11_isStair mm a1 from ⟨c1_0, c12_1⟩), rfl⟩, rfl⟩
theorem dX11_meets_0 : decode cX11_meets 0 = .ok (.aload_n 0, 1) := by decide +kernel
theorem dX11_meets_1 : decode cX11_meets 1 = .ok (.iload_n 1, 1) := by decide +kernel
theorem dX11_meets_2 : decode cX11_meets 2 = .ok (.invokevirtual 164, 3) := by decide +kernel
theorem dX11_meets_5 : decode cX11_meets 5 = .ok (.ifCond .ne 5, 3) := by decide +kernel
theorem dX11_meets_8 : decode cX11_meets 8 = .ok (.iconst (-1), 1) := by decide +kernel
theorem dX11_meets_9 : decode cX11_meets 9 = .ok (.ireturn, 1) := by decide +kernel
theorem dX11_meets_10 : decode cX11_meets 10 = .ok (.aload_n 0, 1) := by decide +kernel
theorem dX11_meets_11 : decode cX11_meets 11 = .ok (.getfield 69, 3) := by decide +kernel
theorem dX11_meets_14 : decode cX11_meets 14 = .ok (.aload_n 0, 1) := by decide +kernel
theorem dX11_meets_15 : decode cX11_meets 15 = .ok (.getfield 74, 3) := by decide +kernel
theorem dX11_meets_18 : decode cX11_meets 18 = .ok (.getfield 117, 3) := by decide +kernel
theorem dX11_meets_21 : decode cX11_meets 21 = .ok (.iload_n 1, 1) := by decide +kernel
theorem dX11_meets_22 : decode cX11_meets 22 = .ok (.invokevirtual 167, 3) := by decide +kernel
theorem dX11_meets_25 : decode cX11_meets 25 = .ok (.ifCond .eq 7, 3) := by decide +kernel
theorem dX11_meets_28 : decode cX11_meets 28 = .ok (.iconst 1, 1) := by decide +kernel
theorem dX11_meets_29 : decode cX11_meets 29 = .ok (.goto 4, 3) := by decide +kernel
theorem dX11_meets_32 : decode cX11_meets 32 = .ok (.iconst 0, 1) := by decide +kernel
theorem dX11_meets_33 : decode cX11_meets 33 = .ok (.ireturn, 1) := by decide +kernel
def o_X11_meets (mm : MM) (a1 : Int32) : Prop := o_X11_isStair mm a1 ∧ ((p_X11_isStair mm a1 → (AtTown (mm.2.2 0 9) ∧ (AtState (mm.2.2 0 10) ∧ (o_X8_stairMeets mm (mm.2.2 0 9) ((mm.2.2 0 10) + 1) a1 ∧ ((p_X8_stairMeets mm (mm.2.2 0 9) ((mm.2.2 0 10) + 1) a1 → (True)) ∧ (¬ p_X8_stairMeets mm (mm.2.2 0 9) ((mm.2.2 0 10) + 1) a1 → (True))))))) ∧ (¬ p_X11_isStair mm a1 → (True)))
noncomputable def v_X11_meets (mm : MM) (a1 : Int32) : Int32 := (cite (p_X11_isStair mm a1) (cite (p_X8_stairMeets mm (mm.2.2 0 9) ((mm.2.2 0 10) + 1) a1) (1 : Int32) (0 : Int32)) (-1 : Int32))
theorem rv_X11_meets (mm : MM) (a1 : Int32) (h : o_X11_meets mm a1) : Runs e_X11_meets [.ref 0, .int a1] mm (fun r m_ => r = .int (v_X11_meets mm a1) ∧ mm = m_) := by
  refine runs_of_G (L := [(0, .ref 0), (1, .int a1)]) pl_X11 (Nat.le_of_ble_eq_true rfl) rfl ?_
  unfold o_X11_meets at h
  refine g_aload_n (pc := 0) (x := 0) dX11_meets_0 rfl ?_
  refine g_iload_n (pc := 1) (x := a1) dX11_meets_1 rfl ?_
  refine g_callV (pc := 2) (as := [.int a1]) dX11_meets_2 cw_X11_164 (by decide) rfl rfl sh_0 (Nat.le_of_ble_eq_true rfl) (rv_X11_isStair mm a1 h.1) ?_
  have h := h.2
  rintro r_ m_ hz_ ⟨⟨p_, rfl⟩ | ⟨p_, rfl⟩, rfl⟩
  · have p__0 : p_X11_isStair mm a1 := p_
    have h := h.1 p_
    refine g_if_ne (pc := 5) (tgt := 10) dX11_meets_5 (by decide) (fun _ => ?_) (fun c5 => absurd c5 (by decide))
    refine g_aload_n (pc := 10) (x := 0) dX11_meets_10 rfl ?_
    refine g_getVt (pc := 11) (t := (mm.2.2 0 9)) dX11_meets_11 fo_X11_69 sh_0 rfl rfl ?_
    have hr0 := h.1
    have h := h.2
    refine g_aload_n (pc := 14) (x := 0) dX11_meets_14 rfl ?_
    refine g_getVt (pc := 15) (t := (mm.2.2 0 10)) dX11_meets_15 fo_X11_74 sh_0 rfl rfl ?_
    have hr1 := h.1
    have h := h.2
    refine g_getR (pc := 18) (dd := 1) dX11_meets_18 fo_X11_117 (AtState_0 hr1) rfl ?_
    refine g_iload_n (pc := 21) (x := a1) dX11_meets_21 rfl ?_
    refine g_callV (pc := 22) (as := [.ref ((mm.2.2 0 10) + 1), .int a1]) dX11_meets_22 cw_X11_167 (by decide) rfl rfl (AtTown_0 hr0) (Nat.le_of_ble_eq_true rfl) (rv_X8_stairMeets mm (mm.2.2 0 9) ((mm.2.2 0 10) + 1) a1 hr0 (AtState_1 hr1) h.1) ?_
    have h := h.2
    rintro r_ m_ hz_ ⟨⟨p_, rfl⟩ | ⟨p_, rfl⟩, rfl⟩
    · have p__1 : p_X8_stairMeets mm (mm.2.2 0 9) ((mm.2.2 0 10) + 1) a1 := p_
      refine g_if_eq (pc := 25) (tgt := 32) dX11_meets_25 (by decide) (fun c25 => absurd c25 (by decide)) (fun _ => ?_)
      refine g_iconst (pc := 28) (v := (1 : Int32)) dX11_meets_28 (by decide) ?_
      refine g_goto (pc := 29) (tgt := 33) dX11_meets_29 (by decide) ?_
      exact g_iret (pc := 33) dX11_meets_33 rfl rfl rfl ⟨(by unfold v_X11_meets; rw [cite_pos p__0, cite_pos p__1] <;> rfl), rfl⟩
    · have p__1 : ¬ p_X8_stairMeets mm (mm.2.2 0 9) ((mm.2.2 0 10) + 1) a1 := p_
      refine g_if_eq (pc := 25) (tgt := 32) dX11_meets_25 (by decide) (fun _ => ?_) (fun c25 => absurd c25 (by decide))
      refine g_iconst (pc := 32) (v := (0 : Int32)) dX11_meets_32 (by decide) ?_
      exact g_iret (pc := 33) dX11_meets_33 rfl rfl rfl ⟨(by unfold v_X11_meets; rw [cite_pos p__0, cite_neg p__1] <;> rfl), rfl⟩
  · have p__0 : ¬ p_X11_isStair mm a1 := p_
    have h := h.2 p_
    refine g_if_ne (pc := 5) (tgt := 10) dX11_meets_5 (by decide) (fun c5 => absurd c5 (by decide)) (fun _ => ?_)
    refine g_iconst (pc := 8) (v := (-1 : Int32)) dX11_meets_8 (by decide) ?_
    exact g_iret (pc := 9) dX11_meets_9 rfl rfl rfl ⟨(by unfold v_X11_meets; rw [cite_neg p__0] <;> rfl), rfl⟩
theorem dX11_cut_0 : decode cX11_cut 0 = .ok (.iload_n 2, 1) := by decide +kernel
theorem dX11_cut_1 : decode cX11_cut 1 = .ok (.ifCond .eq 14, 3) := by decide +kernel
theorem dX11_cut_4 : decode cX11_cut 4 = .ok (.aload_n 0, 1) := by decide +kernel
theorem dX11_cut_5 : decode cX11_cut 5 = .ok (.iload_n 1, 1) := by decide +kernel
theorem dX11_cut_6 : decode cX11_cut 6 = .ok (.invokevirtual 164, 3) := by decide +kernel
theorem dX11_cut_9 : decode cX11_cut 9 = .ok (.ifCond .eq 21, 3) := by decide +kernel
theorem dX11_cut_12 : decode cX11_cut 12 = .ok (.goto 11, 3) := by decide +kernel
theorem dX11_cut_15 : decode cX11_cut 15 = .ok (.aload_n 0, 1) := by decide +kernel
theorem dX11_cut_16 : decode cX11_cut 16 = .ok (.iload_n 1, 1) := by decide +kernel
theorem dX11_cut_17 : decode cX11_cut 17 = .ok (.invokevirtual 109, 3) := by decide +kernel
theorem dX11_cut_20 : decode cX11_cut 20 = .ok (.ifCond .eq 10, 3) := by decide +kernel
theorem dX11_cut_23 : decode cX11_cut 23 = .ok (.iload_n 3, 1) := by decide +kernel
theorem dX11_cut_24 : decode cX11_cut 24 = .ok (.invokestatic 151, 3) := by decide +kernel
theorem dX11_cut_27 : decode cX11_cut 27 = .ok (.ifCond .ne 5, 3) := by decide +kernel
theorem dX11_cut_30 : decode cX11_cut 30 = .ok (.iconst (-1), 1) := by decide +kernel
theorem dX11_cut_31 : decode cX11_cut 31 = .ok (.ireturn, 1) := by decide +kernel
theorem dX11_cut_32 : decode cX11_cut 32 = .ok (.aload_n 0, 1) := by decide +kernel
theorem dX11_cut_33 : decode cX11_cut 33 = .ok (.getfield 69, 3) := by decide +kernel
theorem dX11_cut_36 : decode cX11_cut 36 = .ok (.iload_n 1, 1) := by decide +kernel
theorem dX11_cut_37 : decode cX11_cut 37 = .ok (.iload_n 2, 1) := by decide +kernel
theorem dX11_cut_38 : decode cX11_cut 38 = .ok (.aload_n 0, 1) := by decide +kernel
theorem dX11_cut_39 : decode cX11_cut 39 = .ok (.getfield 74, 3) := by decide +kernel
theorem dX11_cut_42 : decode cX11_cut 42 = .ok (.getfield 117, 3) := by decide +kernel
theorem dX11_cut_45 : decode cX11_cut 45 = .ok (.aload_n 0, 1) := by decide +kernel
theorem dX11_cut_46 : decode cX11_cut 46 = .ok (.getfield 69, 3) := by decide +kernel
theorem dX11_cut_49 : decode cX11_cut 49 = .ok (.aload_n 0, 1) := by decide +kernel
theorem dX11_cut_50 : decode cX11_cut 50 = .ok (.getfield 74, 3) := by decide +kernel
theorem dX11_cut_53 : decode cX11_cut 53 = .ok (.iload_n 3, 1) := by decide +kernel
theorem dX11_cut_54 : decode cX11_cut 54 = .ok (.invokevirtual 154, 3) := by decide +kernel
theorem dX11_cut_57 : decode cX11_cut 57 = .ok (.invokevirtual 171, 3) := by decide +kernel
theorem dX11_cut_60 : decode cX11_cut 60 = .ok (.ireturn, 1) := by decide +kernel
theorem b_X11_cut (mm : MM) (Q : Value → MM → Prop) (a1 : Int32) (a2 : Int32) (a3 : Int32) (h : (a2 = 0 → (o_X11_isHouse mm a1 ∧ ((p_X11_isHouse mm a1 → ((p_X11_isHour mm a3 → (AtTown (mm.2.2 0 9) ∧ (AtState (mm.2.2 0 10) ∧ (AtTown (mm.2.2 0 9) ∧ (AtState (mm.2.2 0 10) ∧ (∃ Pm5 : Value → MM → Prop, Runs e_X8_tideAt [.ref (mm.2.2 0 9), .ref (mm.2.2 0 10), .int a3] mm Pm5 ∧ ∀ (r5 : Int32) (m5 : MM), Pm5 (.int r5) m5 → (∃ Pm6 : Value → MM → Prop, Runs e_X8_cutBy [.ref (mm.2.2 0 9), .int a1, .int a2, .ref ((mm.2.2 0 10) + 1), .int r5] m5 Pm6 ∧ ∀ (r6 : Int32) (m6 : MM), Pm6 (.int r6) m6 → (Q (.int r6) m6)))))))) ∧ (¬ p_X11_isHour mm a3 → (Q (.int (-1 : Int32)) mm)))) ∧ (¬ p_X11_isHouse mm a1 → (Q (.int (-1 : Int32)) mm))))) ∧ (¬ a2 = 0 → (o_X11_isStair mm a1 ∧ ((p_X11_isStair mm a1 → ((p_X11_isHour mm a3 → (AtTown (mm.2.2 0 9) ∧ (AtState (mm.2.2 0 10) ∧ (AtTown (mm.2.2 0 9) ∧ (AtState (mm.2.2 0 10) ∧ (∃ Pm5 : Value → MM → Prop, Runs e_X8_tideAt [.ref (mm.2.2 0 9), .ref (mm.2.2 0 10), .int a3] mm Pm5 ∧ ∀ (r5 : Int32) (m5 : MM), Pm5 (.int r5) m5 → (∃ Pm6 : Value → MM → Prop, Runs e_X8_cutBy [.ref (mm.2.2 0 9), .int a1, .int a2, .ref ((mm.2.2 0 10) + 1), .int r5] m5 Pm6 ∧ ∀ (r6 : Int32) (m6 : MM), Pm6 (.int r6) m6 → (Q (.int r6) m6)))))))) ∧ (¬ p_X11_isHour mm a3 → (Q (.int (-1 : Int32)) mm)))) ∧ (¬ p_X11_isStair mm a1 → (Q (.int (-1 : Int32)) mm)))))) : Runs e_X11_cut [.ref 0, .int a1, .int a2, .int a3] mm Q := by
  refine runs_of_G (L := [(0, .ref 0), (1, .int a1), (2, .int a2), (3, .int a3)]) pl_X11 (Nat.le_of_ble_eq_true rfl) rfl ?_
  refine g_iload_n (pc := 0) (x := a2) dX11_cut_0 rfl ?_
  refine g_if_eq (pc := 1) (tgt := 15) dX11_cut_1 (by decide) (fun c1 => ?_) (fun c1 => ?_)
  · have h := h.1 c1
    refine g_aload_n (pc := 15) (x := 0) dX11_cut_15 rfl ?_
    refine g_iload_n (pc := 16) (x := a1) dX11_cut_16 rfl ?_
    refine g_callV (pc := 17) (as := [.int a1]) dX11_cut_17 cw_X11_109 (by decide) rfl rfl sh_0 (Nat.le_of_ble_eq_true rfl) (rv_X11_isHouse mm a1 h.1) ?_
    have h := h.2
    rintro r_ m_ hz_ ⟨⟨p_, rfl⟩ | ⟨p_, rfl⟩, rfl⟩
    · have h := h.1 p_
      refine g_if_eq (pc := 20) (tgt := 30) dX11_cut_20 (by decide) (fun c20 => absurd c20 (by decide)) (fun _ => ?_)
      refine g_iload_n (pc := 23) (x := a3) dX11_cut_23 rfl ?_
      refine g_callS (pc := 24) (as := [.int a3]) dX11_cut_24 cw_X11_151 (by decide) rfl rfl (Nat.le_of_ble_eq_true rfl) (rv_X11_isHour mm a3) ?_
      rintro r_ m_ hz_ ⟨⟨p_, rfl⟩ | ⟨p_, rfl⟩, rfl⟩
      · have h := h.1 p_
        refine g_if_ne (pc := 27) (tgt := 32) dX11_cut_27 (by decide) (fun _ => ?_) (fun c27 => absurd c27 (by decide))
        refine g_aload_n (pc := 32) (x := 0) dX11_cut_32 rfl ?_
        refine g_getVt (pc := 33) (t := (mm.2.2 0 9)) dX11_cut_33 fo_X11_69 sh_0 rfl rfl ?_
        have hr0 := h.1
        have h := h.2
        refine g_iload_n (pc := 36) (x := a1) dX11_cut_36 rfl ?_
        refine g_iload_n (pc := 37) (x := a2) dX11_cut_37 rfl ?_
        refine g_aload_n (pc := 38) (x := 0) dX11_cut_38 rfl ?_
        refine g_getVt (pc := 39) (t := (mm.2.2 0 10)) dX11_cut_39 fo_X11_74 sh_0 rfl rfl ?_
        have hr1 := h.1
        have h := h.2
        refine g_getR (pc := 42) (dd := 1) dX11_cut_42 fo_X11_117 (AtState_0 hr1) rfl ?_
        refine g_aload_n (pc := 45) (x := 0) dX11_cut_45 rfl ?_
        refine g_getVt (pc := 46) (t := (mm.2.2 0 9)) dX11_cut_46 fo_X11_69 sh_0 rfl rfl ?_
        have hr2 := h.1
        have h := h.2
        refine g_aload_n (pc := 49) (x := 0) dX11_cut_49 rfl ?_
        refine g_getVt (pc := 50) (t := (mm.2.2 0 10)) dX11_cut_50 fo_X11_74 sh_0 rfl rfl ?_
        have hr3 := h.1
        have h := h.2
        refine g_iload_n (pc := 53) (x := a3) dX11_cut_53 rfl ?_
        obtain ⟨Pm5, hRm5, h⟩ := h
        refine g_callV (pc := 54) (as := [.ref (mm.2.2 0 10), .int a3]) dX11_cut_54 cw_X11_154 (by decide) rfl rfl (AtTown_0 hr2) (Nat.le_of_ble_eq_true rfl) hRm5 ?_
        intro r_ m5 hz_ hp_
        obtain ⟨r5, rfl⟩ := hz_
        have h := h r5 m5 hp_
        obtain ⟨Pm6, hRm6, h⟩ := h
        refine g_callV (pc := 57) (as := [.int a1, .int a2, .ref ((mm.2.2 0 10) + 1), .int r5]) dX11_cut_57 cw_X11_171 (by decide) rfl rfl (AtTown_0 hr0) (Nat.le_of_ble_eq_true rfl) hRm6 ?_
        intro r_ m6 hz_ hp_
        obtain ⟨r6, rfl⟩ := hz_
        have h := h r6 m6 hp_
        exact g_iret (pc := 60) dX11_cut_60 rfl rfl rfl h
      · have h := h.2 p_
        refine g_if_ne (pc := 27) (tgt := 32) dX11_cut_27 (by decide) (fun c27 => absurd c27 (by decide)) (fun _ => ?_)
        refine g_iconst (pc := 30) (v := (-1 : Int32)) dX11_cut_30 (by decide) ?_
        exact g_iret (pc := 31) dX11_cut_31 rfl rfl rfl h
    · have h := h.2 p_
      refine g_if_eq (pc := 20) (tgt := 30) dX11_cut_20 (by decide) (fun _ => ?_) (fun c20 => absurd c20 (by decide))
      refine g_iconst (pc := 30) (v := (-1 : Int32)) dX11_cut_30 (by decide) ?_
      exact g_iret (pc := 31) dX11_cut_31 rfl rfl rfl h
  · have h := h.2 c1
    refine g_aload_n (pc := 4) (x := 0) dX11_cut_4 rfl ?_
    refine g_iload_n (pc := 5) (x := a1) dX11_cut_5 rfl ?_
    refine g_callV (pc := 6) (as := [.int a1]) dX11_cut_6 cw_X11_164 (by decide) rfl rfl sh_0 (Nat.le_of_ble_eq_true rfl) (rv_X11_isStair mm a1 h.1) ?_
    have h := h.2
    rintro r_ m_ hz_ ⟨⟨p_, rfl⟩ | ⟨p_, rfl⟩, rfl⟩
    · have h := h.1 p_
      refine g_if_eq (pc := 9) (tgt := 30) dX11_cut_9 (by decide) (fun c9 => absurd c9 (by decide)) (fun _ => ?_)
      refine g_goto (pc := 12) (tgt := 23) dX11_cut_12 (by decide) ?_
      refine g_iload_n (pc := 23) (x := a3) dX11_cut_23 rfl ?_
      refine g_callS (pc := 24) (as := [.int a3]) dX11_cut_24 cw_X11_151 (by decide) rfl rfl (Nat.le_of_ble_eq_true rfl) (rv_X11_isHour mm a3) ?_
      rintro r_ m_ hz_ ⟨⟨p_, rfl⟩ | ⟨p_, rfl⟩, rfl⟩
      · have h := h.1 p_
        refine g_if_ne (pc := 27) (tgt := 32) dX11_cut_27 (by decide) (fun _ => ?_) (fun c27 => absurd c27 (by decide))
        refine g_aload_n (pc := 32) (x := 0) dX11_cut_32 rfl ?_
        refine g_getVt (pc := 33) (t := (mm.2.2 0 9)) dX11_cut_33 fo_X11_69 sh_0 rfl rfl ?_
        have hr0 := h.1
        have h := h.2
        refine g_iload_n (pc := 36) (x := a1) dX11_cut_36 rfl ?_
        refine g_iload_n (pc := 37) (x := a2) dX11_cut_37 rfl ?_
        refine g_aload_n (pc := 38) (x := 0) dX11_cut_38 rfl ?_
        refine g_getVt (pc := 39) (t := (mm.2.2 0 10)) dX11_cut_39 fo_X11_74 sh_0 rfl rfl ?_
        have hr1 := h.1
        have h := h.2
        refine g_getR (pc := 42) (dd := 1) dX11_cut_42 fo_X11_117 (AtState_0 hr1) rfl ?_
        refine g_aload_n (pc := 45) (x := 0) dX11_cut_45 rfl ?_
        refine g_getVt (pc := 46) (t := (mm.2.2 0 9)) dX11_cut_46 fo_X11_69 sh_0 rfl rfl ?_
        have hr2 := h.1
        have h := h.2
        refine g_aload_n (pc := 49) (x := 0) dX11_cut_49 rfl ?_
        refine g_getVt (pc := 50) (t := (mm.2.2 0 10)) dX11_cut_50 fo_X11_74 sh_0 rfl rfl ?_
        have hr3 := h.1
        have h := h.2
        refine g_iload_n (pc := 53) (x := a3) dX11_cut_53 rfl ?_
        obtain ⟨Pm5, hRm5, h⟩ := h
        refine g_callV (pc := 54) (as := [.ref (mm.2.2 0 10), .int a3]) dX11_cut_54 cw_X11_154 (by decide) rfl rfl (AtTown_0 hr2) (Nat.le_of_ble_eq_true rfl) hRm5 ?_
        intro r_ m5 hz_ hp_
        obtain ⟨r5, rfl⟩ := hz_
        have h := h r5 m5 hp_
        obtain ⟨Pm6, hRm6, h⟩ := h
        refine g_callV (pc := 57) (as := [.int a1, .int a2, .ref ((mm.2.2 0 10) + 1), .int r5]) dX11_cut_57 cw_X11_171 (by decide) rfl rfl (AtTown_0 hr0) (Nat.le_of_ble_eq_true rfl) hRm6 ?_
        intro r_ m6 hz_ hp_
        obtain ⟨r6, rfl⟩ := hz_
        have h := h r6 m6 hp_
        exact g_iret (pc := 60) dX11_cut_60 rfl rfl rfl h
      · have h := h.2 p_
        refine g_if_ne (pc := 27) (tgt := 32) dX11_cut_27 (by decide) (fun c27 => absurd c27 (by decide)) (fun _ => ?_)
        refine g_iconst (pc := 30) (v := (-1 : Int32)) dX11_cut_30 (by decide) ?_
        exact g_iret (pc := 31) dX11_cut_31 rfl rfl rfl h
    · have h := h.2 p_
      refine g_if_eq (pc := 9) (tgt := 30) dX11_cut_9 (by decide) (fun _ => ?_) (fun c9 => absurd c9 (by decide))
      refine g_iconst (pc := 30) (v := (-1 : Int32)) dX11_cut_30 (by decide) ?_
      exact g_iret (pc := 31) dX11_cut_31 rfl rfl rfl h
theorem dX11_worst_0 : decode cX11_worst 0 = .ok (.iload_n 2, 1) := by decide +kernel
theorem dX11_worst_1 : decode cX11_worst 1 = .ok (.invokestatic 151, 3) := by decide +kernel
theorem dX11_worst_4 : decode cX11_worst 4 = .ok (.ifCond .ne 5, 3) := by decide +kernel
theorem dX11_worst_7 : decode cX11_worst 7 = .ok (.iconst (-1), 1) := by decide +kernel
theorem dX11_worst_8 : decode cX11_worst 8 = .ok (.ireturn, 1) := by decide +kernel
theorem dX11_worst_9 : decode cX11_worst 9 = .ok (.aload_n 0, 1) := by decide +kernel
theorem dX11_worst_10 : decode cX11_worst 10 = .ok (.getfield 69, 3) := by decide +kernel
theorem dX11_worst_13 : decode cX11_worst 13 = .ok (.aload_n 0, 1) := by decide +kernel
theorem dX11_worst_14 : decode cX11_worst 14 = .ok (.getfield 74, 3) := by decide +kernel
theorem dX11_worst_17 : decode cX11_worst 17 = .ok (.iload_n 2, 1) := by decide +kernel
theorem dX11_worst_18 : decode cX11_worst 18 = .ok (.invokevirtual 154, 3) := by decide +kernel
theorem dX11_worst_21 : decode cX11_worst 21 = .ok (.istore_n 3, 1) := by decide +kernel
theorem dX11_worst_22 : decode cX11_worst 22 = .ok (.iload_n 1, 1) := by decide +kernel
theorem dX11_worst_23 : decode cX11_worst 23 = .ok (.ifCond .eq 13, 3) := by decide +kernel
theorem dX11_worst_26 : decode cX11_worst 26 = .ok (.aload_n 0, 1) := by decide +kernel
theorem dX11_worst_27 : decode cX11_worst 27 = .ok (.getfield 69, 3) := by decide +kernel
theorem dX11_worst_30 : decode cX11_worst 30 = .ok (.getfield 175, 3) := by decide +kernel
theorem dX11_worst_33 : decode cX11_worst 33 = .ok (.goto 10, 3) := by decide +kernel
theorem dX11_worst_36 : decode cX11_worst 36 = .ok (.aload_n 0, 1) := by decide +kernel
theorem dX11_worst_37 : decode cX11_worst 37 = .ok (.getfield 69, 3) := by decide +kernel
theorem dX11_worst_40 : decode cX11_worst 40 = .ok (.getfield 178, 3) := by decide +kernel
theorem dX11_worst_43 : decode cX11_worst 43 = .ok (.istore 4, 2) := by decide +kernel
theorem dX11_worst_45 : decode cX11_worst 45 = .ok (.bipush (-2), 2) := by decide +kernel
theorem dX11_worst_47 : decode cX11_worst 47 = .ok (.istore 5, 2) := by decide +kernel
theorem dX11_worst_49 : decode cX11_worst 49 = .ok (.iconst (-1), 1) := by decide +kernel
theorem dX11_worst_50 : decode cX11_worst 50 = .ok (.istore 6, 2) := by decide +kernel
theorem dX11_worst_52 : decode cX11_worst 52 = .ok (.iconst 0, 1) := by decide +kernel
theorem dX11_worst_53 : decode cX11_worst 53 = .ok (.istore 7, 2) := by decide +kernel
theorem dX11_worst_55 : decode cX11_worst 55 = .ok (.iload 7, 2) := by decide +kernel
theorem dX11_worst_57 : decode cX11_worst 57 = .ok (.iload 4, 2) := by decide +kernel
theorem dX11_worst_59 : decode cX11_worst 59 = .ok (.if_icmp .ge 44, 3) := by decide +kernel
theorem dX11_worst_62 : decode cX11_worst 62 = .ok (.aload_n 0, 1) := by decide +kernel
theorem dX11_worst_63 : decode cX11_worst 63 = .ok (.getfield 69, 3) := by decide +kernel
theorem dX11_worst_66 : decode cX11_worst 66 = .ok (.iload 7, 2) := by decide +kernel
theorem dX11_worst_68 : decode cX11_worst 68 = .ok (.iload_n 1, 1) := by decide +kernel
theorem dX11_worst_69 : decode cX11_worst 69 = .ok (.aload_n 0, 1) := by decide +kernel
theorem dX11_worst_70 : decode cX11_worst 70 = .ok (.getfield 74, 3) := by decide +kernel
theorem dX11_worst_73 : decode cX11_worst 73 = .ok (.getfield 117, 3) := by decide +kernel
theorem dX11_worst_76 : decode cX11_worst 76 = .ok (.iload_n 3, 1) := by decide +kernel
theorem dX11_worst_77 : decode cX11_worst 77 = .ok (.invokevirtual 171, 3) := by decide +kernel
theorem dX11_worst_80 : decode cX11_worst 80 = .ok (.istore 8, 2) := by decide +kernel
theorem dX11_worst_82 : decode cX11_worst 82 = .ok (.iload 8, 2) := by decide +kernel
theorem dX11_worst_84 : decode cX11_worst 84 = .ok (.iload 6, 2) := by decide +kernel
theorem dX11_worst_86 : decode cX11_worst 86 = .ok (.if_icmp .le 11, 3) := by decide +kernel
theorem dX11_worst_89 : decode cX11_worst 89 = .ok (.iload 8, 2) := by decide +kernel
theorem dX11_worst_91 : decode cX11_worst 91 = .ok (.istore 6, 2) := by decide +kernel
theorem dX11_worst_93 : decode cX11_worst 93 = .ok (.iload 7, 2) := by decide +kernel
theorem dX11_worst_95 : decode cX11_worst 95 = .ok (.istore 5, 2) := by decide +kernel
theorem dX11_worst_97 : decode cX11_worst 97 = .ok (.iinc 7 1, 3) := by decide +kernel
theorem dX11_worst_100 : decode cX11_worst 100 = .ok (.goto (-45), 3) := by decide +kernel
theorem dX11_worst_103 : decode cX11_worst 103 = .ok (.iload 5, 2) := by decide +kernel
theorem dX11_worst_105 : decode cX11_worst 105 = .ok (.ireturn, 1) := by decide +kernel
theorem b_X11_worst (mm : MM) (Q : Value → MM → Prop) (a1 : Int32) (a2 : Int32) (h : (p_X11_isHour mm a2 → (AtTown (mm.2.2 0 9) ∧ (AtState (mm.2.2 0 10) ∧ (∃ Pm3 : Value → MM → Prop, Runs e_X8_tideAt [.ref (mm.2.2 0 9), .ref (mm.2.2 0 10), .int a2] mm Pm3 ∧ ∀ (r3 : Int32) (m3 : MM), Pm3 (.int r3) m3 → ((a1 = 0 → (AtTown (m3.2.2 0 9) ∧ (G e_X11_worst 55 [(0, .ref 0), (1, .int a1), (3, .int r3), (4, .int (m3.1 (m3.2.2 0 9) 8)), (5, .int (-2 : Int32)), (6, .int (-1 : Int32)), (7, .int (0 : Int32))] [] m3 Q))) ∧ (¬ a1 = 0 → (AtTown (m3.2.2 0 9) ∧ (G e_X11_worst 55 [(0, .ref 0), (1, .int a1), (3, .int r3), (4, .int (m3.1 (m3.2.2 0 9) 10)), (5, .int (-2 : Int32)), (6, .int (-1 : Int32)), (7, .int (0 : Int32))] [] m3 Q)))))))) ∧ (¬ p_X11_isHour mm a2 → (Q (.int (-1 : Int32)) mm))) : Runs e_X11_worst [.ref 0, .int a1, .int a2] mm Q := by
  refine runs_of_G (L := [(0, .ref 0), (1, .int a1), (2, .int a2)]) pl_X11 (Nat.le_of_ble_eq_true rfl) rfl ?_
  refine g_iload_n (pc := 0) (x := a2) dX11_worst_0 rfl ?_
  refine g_callS (pc := 1) (as := [.int a2]) dX11_worst_1 cw_X11_151 (by decide) rfl rfl (Nat.le_of_ble_eq_true rfl) (rv_X11_isHour mm a2) ?_
  rintro r_ m_ hz_ ⟨⟨p_, rfl⟩ | ⟨p_, rfl⟩, rfl⟩
  · have h := h.1 p_
    refine g_if_ne (pc := 4) (tgt := 9) dX11_worst_4 (by decide) (fun _ => ?_) (fun c4 => absurd c4 (by decide))
    refine g_aload_n (pc := 9) (x := 0) dX11_worst_9 rfl ?_
    refine g_getVt (pc := 10) (t := (mm.2.2 0 9)) dX11_worst_10 fo_X11_69 sh_0 rfl rfl ?_
    have hr0 := h.1
    have h := h.2
    refine g_aload_n (pc := 13) (x := 0) dX11_worst_13 rfl ?_
    refine g_getVt (pc := 14) (t := (mm.2.2 0 10)) dX11_worst_14 fo_X11_74 sh_0 rfl rfl ?_
    have hr1 := h.1
    have h := h.2
    refine g_iload_n (pc := 17) (x := a2) dX11_worst_17 rfl ?_
    obtain ⟨Pm3, hRm3, h⟩ := h
    refine g_callV (pc := 18) (as := [.ref (mm.2.2 0 10), .int a2]) dX11_worst_18 cw_X11_154 (by decide) rfl rfl (AtTown_0 hr0) (Nat.le_of_ble_eq_true rfl) hRm3 ?_
    intro r_ m3 hz_ hp_
    obtain ⟨r3, rfl⟩ := hz_
    have h := h r3 m3 hp_
    refine g_istore_n (pc := 21) (L' := [(0, .ref 0), (1, .int a1), (2, .int a2), (3, .int r3)]) dX11_worst_21 (Nat.le_of_ble_eq_true rfl) rfl ?_
    refine g_iload_n (pc := 22) (x := a1) dX11_worst_22 rfl ?_
    refine g_if_eq (pc := 23) (tgt := 36) dX11_worst_23 (by decide) (fun c23 => ?_) (fun c23 => ?_)
    · have h := h.1 c23
      refine g_aload_n (pc := 36) (x := 0) dX11_worst_36 rfl ?_
      refine g_getVt (pc := 37) (t := (m3.2.2 0 9)) dX11_worst_37 fo_X11_69 sh_0 rfl rfl ?_
      have hr3 := h.1
      have h := h.2
      refine g_getI (pc := 40) dX11_worst_40 fo_X11_178 (AtTown_0 hr3) rfl ?_
      refine g_istore (pc := 43) (L' := [(0, .ref 0), (1, .int a1), (2, .int a2), (3, .int r3), (4, .int (m3.1 (m3.2.2 0 9) 8))]) dX11_worst_43 (Nat.le_of_ble_eq_true rfl) rfl ?_
      refine g_bipush (pc := 45) (v := (-2 : Int32)) dX11_worst_45 (by decide) ?_
      refine g_istore (pc := 47) (L' := [(0, .ref 0), (1, .int a1), (2, .int a2), (3, .int r3), (4, .int (m3.1 (m3.2.2 0 9) 8)), (5, .int (-2 : Int32))]) dX11_worst_47 (Nat.le_of_ble_eq_true rfl) rfl ?_
      refine g_iconst (pc := 49) (v := (-1 : Int32)) dX11_worst_49 (by decide) ?_
      refine g_istore (pc := 50) (L' := [(0, .ref 0), (1, .int a1), (2, .int a2), (3, .int r3), (4, .int (m3.1 (m3.2.2 0 9) 8)), (5, .int (-2 : Int32)), (6, .int (-1 : Int32))]) dX11_worst_50 (Nat.le_of_ble_eq_true rfl) rfl ?_
      refine g_iconst (pc := 52) (v := (0 : Int32)) dX11_worst_52 (by decide) ?_
      refine g_istore (pc := 53) (L' := [(0, .ref 0), (1, .int a1), (2, .int a2), (3, .int r3), (4, .int (m3.1 (m3.2.2 0 9) 8)), (5, .int (-2 : Int32)), (6, .int (-1 : Int32)), (7, .int (0 : Int32))]) dX11_worst_53 (Nat.le_of_ble_eq_true rfl) rfl ?_
      refine g_sub (L' := [(0, .ref 0), (1, .int a1), (3, .int r3), (4, .int (m3.1 (m3.2.2 0 9) 8)), (5, .int (-2 : Int32)), (6, .int (-1 : Int32)), (7, .int (0 : Int32))]) [0, 1, 3, 4, 5, 6, 7] rfl ?_
      exact h
    · have h := h.2 c23
      refine g_aload_n (pc := 26) (x := 0) dX11_worst_26 rfl ?_
      refine g_getVt (pc := 27) (t := (m3.2.2 0 9)) dX11_worst_27 fo_X11_69 sh_0 rfl rfl ?_
      have hr3 := h.1
      have h := h.2
      refine g_getI (pc := 30) dX11_worst_30 fo_X11_175 (AtTown_0 hr3) rfl ?_
      refine g_goto (pc := 33) (tgt := 43) dX11_worst_33 (by decide) ?_
      refine g_istore (pc := 43) (L' := [(0, .ref 0), (1, .int a1), (2, .int a2), (3, .int r3), (4, .int (m3.1 (m3.2.2 0 9) 10))]) dX11_worst_43 (Nat.le_of_ble_eq_true rfl) rfl ?_
      refine g_bipush (pc := 45) (v := (-2 : Int32)) dX11_worst_45 (by decide) ?_
      refine g_istore (pc := 47) (L' := [(0, .ref 0), (1, .int a1), (2, .int a2), (3, .int r3), (4, .int (m3.1 (m3.2.2 0 9) 10)), (5, .int (-2 : Int32))]) dX11_worst_47 (Nat.le_of_ble_eq_true rfl) rfl ?_
      refine g_iconst (pc := 49) (v := (-1 : Int32)) dX11_worst_49 (by decide) ?_
      refine g_istore (pc := 50) (L' := [(0, .ref 0), (1, .int a1), (2, .int a2), (3, .int r3), (4, .int (m3.1 (m3.2.2 0 9) 10)), (5, .int (-2 : Int32)), (6, .int (-1 : Int32))]) dX11_worst_50 (Nat.le_of_ble_eq_true rfl) rfl ?_
      refine g_iconst (pc := 52) (v := (0 : Int32)) dX11_worst_52 (by decide) ?_
      refine g_istore (pc := 53) (L' := [(0, .ref 0), (1, .int a1), (2, .int a2), (3, .int r3), (4, .int (m3.1 (m3.2.2 0 9) 10)), (5, .int (-2 : Int32)), (6, .int (-1 : Int32)), (7, .int (0 : Int32))]) dX11_worst_53 (Nat.le_of_ble_eq_true rfl) rfl ?_
      refine g_sub (L' := [(0, .ref 0), (1, .int a1), (3, .int r3), (4, .int (m3.1 (m3.2.2 0 9) 10)), (5, .int (-2 : Int32)), (6, .int (-1 : Int32)), (7, .int (0 : Int32))]) [0, 1, 3, 4, 5, 6, 7] rfl ?_
      exact h
  · have h := h.2 p_
    refine g_if_ne (pc := 4) (tgt := 9) dX11_worst_4 (by decide) (fun c4 => absurd c4 (by decide)) (fun _ => ?_)
    refine g_iconst (pc := 7) (v := (-1 : Int32)) dX11_worst_7 (by decide) ?_
    exact g_iret (pc := 8) dX11_worst_8 rfl rfl rfl h
theorem b_X11_worst_55 (mm : MM) (Q : Value → MM → Prop) (l1 : Int32) (l3 : Int32) (l4 : Int32) (l5 : Int32) (l6 : Int32) (l7 : Int32) (h : (l4 ≤ l7 → (Q (.int l5) mm)) ∧ (¬ l4 ≤ l7 → (AtTown (mm.2.2 0 9) ∧ (AtState (mm.2.2 0 10) ∧ (∃ Pm3 : Value → MM → Prop, Runs e_X8_cutBy [.ref (mm.2.2 0 9), .int l7, .int l1, .ref ((mm.2.2 0 10) + 1), .int l3] mm Pm3 ∧ ∀ (r3 : Int32) (m3 : MM), Pm3 (.int r3) m3 → ((r3 ≤ l6 → (G e_X11_worst 55 [(0, .ref 0), (1, .int l1), (3, .int l3), (4, .int l4), (5, .int l5), (6, .int l6), (7, .int (l7 + (1 : Int32)))] [] m3 Q)) ∧ (¬ r3 ≤ l6 → (G e_X11_worst 55 [(0, .ref 0), (1, .int l1), (3, .int l3), (4, .int l4), (5, .int l7), (6, .int r3), (7, .int (l7 + (1 : Int32)))] [] m3 Q)))))))) : G e_X11_worst 55 [(0, .ref 0), (1, .int l1), (3, .int l3), (4, .int l4), (5, .int l5), (6, .int l6), (7, .int l7)] [] mm Q := by
  refine g_iload (pc := 55) (x := l7) dX11_worst_55 rfl ?_
  refine g_iload (pc := 57) (x := l4) dX11_worst_57 rfl ?_
  refine g_icmp_ge (pc := 59) (tgt := 103) dX11_worst_59 (by decide) (fun c59 => ?_) (fun c59 => ?_)
  · have h := h.1 c59
    refine g_iload (pc := 103) (x := l5) dX11_worst_103 rfl ?_
    exact g_iret (pc := 105) dX11_worst_105 rfl rfl rfl h
  · have h := h.2 c59
    refine g_aload_n (pc := 62) (x := 0) dX11_worst_62 rfl ?_
    refine g_getVt (pc := 63) (t := (mm.2.2 0 9)) dX11_worst_63 fo_X11_69 sh_0 rfl rfl ?_
    have hr0 := h.1
    have h := h.2
    refine g_iload (pc := 66) (x := l7) dX11_worst_66 rfl ?_
    refine g_iload_n (pc := 68) (x := l1) dX11_worst_68 rfl ?_
    refine g_aload_n (pc := 69) (x := 0) dX11_worst_69 rfl ?_
    refine g_getVt (pc := 70) (t := (mm.2.2 0 10)) dX11_worst_70 fo_X11_74 sh_0 rfl rfl ?_
    have hr1 := h.1
    have h := h.2
    refine g_getR (pc := 73) (dd := 1) dX11_worst_73 fo_X11_117 (AtState_0 hr1) rfl ?_
    refine g_iload_n (pc := 76) (x := l3) dX11_worst_76 rfl ?_
    obtain ⟨Pm3, hRm3, h⟩ := h
    refine g_callV (pc := 77) (as := [.int l7, .int l1, .ref ((mm.2.2 0 10) + 1), .int l3]) dX11_worst_77 cw_X11_171 (by decide) rfl rfl (AtTown_0 hr0) (Nat.le_of_ble_eq_true rfl) hRm3 ?_
    intro r_ m3 hz_ hp_
    obtain ⟨r3, rfl⟩ := hz_
    have h := h r3 m3 hp_
    refine g_istore (pc := 80) (L' := [(0, .ref 0), (1, .int l1), (3, .int l3), (4, .int l4), (5, .int l5), (6, .int l6), (7, .int l7), (8, .int r3)]) dX11_worst_80 (Nat.le_of_ble_eq_true rfl) rfl ?_
    refine g_iload (pc := 82) (x := r3) dX11_worst_82 rfl ?_
    refine g_iload (pc := 84) (x := l6) dX11_worst_84 rfl ?_
    refine g_icmp_le (pc := 86) (tgt := 97) dX11_worst_86 (by decide) (fun c86 => ?_) (fun c86 => ?_)
    · have h := h.1 c86
      refine g_iinc (pc := 97) (x := l7) (v := (l7 + (1 : Int32))) (L' := [(0, .ref 0), (1, .int l1), (3, .int l3), (4, .int l4), (5, .int l5), (6, .int l6), (7, .int (l7 + (1 : Int32))), (8, .int r3)]) dX11_worst_97 rfl rfl (Nat.le_of_ble_eq_true rfl) rfl ?_
      refine g_goto (pc := 100) (tgt := 55) dX11_worst_100 (by decide) ?_
      refine g_sub (L' := [(0, .ref 0), (1, .int l1), (3, .int l3), (4, .int l4), (5, .int l5), (6, .int l6), (7, .int (l7 + (1 : Int32)))]) [0, 1, 2, 3, 4, 5, 6] rfl ?_
      exact h
    · have h := h.2 c86
      refine g_iload (pc := 89) (x := r3) dX11_worst_89 rfl ?_
      refine g_istore (pc := 91) (L' := [(0, .ref 0), (1, .int l1), (3, .int l3), (4, .int l4), (5, .int l5), (6, .int r3), (7, .int l7), (8, .int r3)]) dX11_worst_91 (Nat.le_of_ble_eq_true rfl) rfl ?_
      refine g_iload (pc := 93) (x := l7) dX11_worst_93 rfl ?_
      refine g_istore (pc := 95) (L' := [(0, .ref 0), (1, .int l1), (3, .int l3), (4, .int l4), (5, .int l7), (6, .int r3), (7, .int l7), (8, .int r3)]) dX11_worst_95 (Nat.le_of_ble_eq_true rfl) rfl ?_
      refine g_iinc (pc := 97) (x := l7) (v := (l7 + (1 : Int32))) (L' := [(0, .ref 0), (1, .int l1), (3, .int l3), (4, .int l4), (5, .int l7), (6, .int r3), (7, .int (l7 + (1 : Int32))), (8, .int r3)]) dX11_worst_97 rfl rfl (Nat.le_of_ble_eq_true rfl) rfl ?_
      refine g_goto (pc := 100) (tgt := 55) dX11_worst_100 (by decide) ?_
      refine g_sub (L' := [(0, .ref 0), (1, .int l1), (3, .int l3), (4, .int l4), (5, .int l7), (6, .int r3), (7, .int (l7 + (1 : Int32)))]) [0, 1, 2, 3, 4, 5, 6] rfl ?_
      exact h
theorem dX11_law_0 : decode cX11_law 0 = .ok (.iload_n 1, 1) := by decide +kernel
theorem dX11_law_1 : decode cX11_law 1 = .ok (.tableswitch 101 0 4 #[35, 50, 62, 77, 89], 35) := by decide +kernel
theorem dX11_law_36 : decode cX11_law 36 = .ok (.aload_n 0, 1) := by decide +kernel
theorem dX11_law_37 : decode cX11_law 37 = .ok (.getfield 69, 3) := by decide +kernel
theorem dX11_law_40 : decode cX11_law 40 = .ok (.aload_n 0, 1) := by decide +kernel
theorem dX11_law_41 : decode cX11_law 41 = .ok (.getfield 74, 3) := by decide +kernel
theorem dX11_law_44 : decode cX11_law 44 = .ok (.invokevirtual 181, 3) := by decide +kernel
theorem dX11_law_47 : decode cX11_law 47 = .ok (.invokestatic 185, 3) := by decide +kernel
theorem dX11_law_50 : decode cX11_law 50 = .ok (.ireturn, 1) := by decide +kernel
theorem dX11_law_51 : decode cX11_law 51 = .ok (.aload_n 0, 1) := by decide +kernel
theorem dX11_law_52 : decode cX11_law 52 = .ok (.getfield 69, 3) := by decide +kernel
theorem dX11_law_55 : decode cX11_law 55 = .ok (.aload_n 0, 1) := by decide +kernel
theorem dX11_law_56 : decode cX11_law 56 = .ok (.getfield 74, 3) := by decide +kernel
theorem dX11_law_59 : decode cX11_law 59 = .ok (.invokevirtual 190, 3) := by decide +kernel
theorem dX11_law_62 : decode cX11_law 62 = .ok (.ireturn, 1) := by decide +kernel
theorem dX11_law_63 : decode cX11_law 63 = .ok (.aload_n 0, 1) := by decide +kernel
theorem dX11_law_64 : decode cX11_law 64 = .ok (.getfield 69, 3) := by decide +kernel
theorem dX11_law_67 : decode cX11_law 67 = .ok (.aload_n 0, 1) := by decide +kernel
theorem dX11_law_68 : decode cX11_law 68 = .ok (.getfield 74, 3) := by decide +kernel
theorem dX11_law_71 : decode cX11_law 71 = .ok (.invokevirtual 193, 3) := by decide +kernel
theorem dX11_law_74 : decode cX11_law 74 = .ok (.invokestatic 185, 3) := by decide +kernel
theorem dX11_law_77 : decode cX11_law 77 = .ok (.ireturn, 1) := by decide +kernel
theorem dX11_law_78 : decode cX11_law 78 = .ok (.aload_n 0, 1) := by decide +kernel
theorem dX11_law_79 : decode cX11_law 79 = .ok (.getfield 69, 3) := by decide +kernel
theorem dX11_law_82 : decode cX11_law 82 = .ok (.aload_n 0, 1) := by decide +kernel
theorem dX11_law_83 : decode cX11_law 83 = .ok (.getfield 74, 3) := by decide +kernel
theorem dX11_law_86 : decode cX11_law 86 = .ok (.invokevirtual 181, 3) := by decide +kernel
theorem dX11_law_89 : decode cX11_law 89 = .ok (.ireturn, 1) := by decide +kernel
theorem dX11_law_90 : decode cX11_law 90 = .ok (.aload_n 0, 1) := by decide +kernel
theorem dX11_law_91 : decode cX11_law 91 = .ok (.getfield 69, 3) := by decide +kernel
theorem dX11_law_94 : decode cX11_law 94 = .ok (.aload_n 0, 1) := by decide +kernel
theorem dX11_law_95 : decode cX11_law 95 = .ok (.getfield 74, 3) := by decide +kernel
theorem dX11_law_98 : decode cX11_law 98 = .ok (.invokevirtual 193, 3) := by decide +kernel
theorem dX11_law_101 : decode cX11_law 101 = .ok (.ireturn, 1) := by decide +kernel
theorem dX11_law_102 : decode cX11_law 102 = .ok (.iconst (-1), 1) := by decide +kernel
theorem dX11_law_103 : decode cX11_law 103 = .ok (.ireturn, 1) := by decide +kernel
theorem b_X11_law (mm : MM) (Q : Value → MM → Prop) (a1 : Int32) (h : (a1 = (0 : Int32) → (AtTown (mm.2.2 0 9) ∧ (AtState (mm.2.2 0 10) ∧ (∃ Pm3 : Value → MM → Prop, Runs e_X8_untrueBits [.ref (mm.2.2 0 9), .ref (mm.2.2 0 10)] mm Pm3 ∧ ∀ (r3 : Int32) (m3 : MM), Pm3 (.int r3) m3 → (Q (.int (v_J6_bitCount_0f7a4 m3 r3)) m3))))) ∧ (¬ a1 = (0 : Int32) → ((a1 = (1 : Int32) → (AtTown (mm.2.2 0 9) ∧ (AtState (mm.2.2 0 10) ∧ (∃ Pm3 : Value → MM → Prop, Runs e_X8_turnedPairs [.ref (mm.2.2 0 9), .ref (mm.2.2 0 10)] mm Pm3 ∧ ∀ (r3 : Int32) (m3 : MM), Pm3 (.int r3) m3 → (Q (.int r3) m3))))) ∧ (¬ a1 = (1 : Int32) → ((a1 = (2 : Int32) → (AtTown (mm.2.2 0 9) ∧ (AtState (mm.2.2 0 10) ∧ (∃ Pm3 : Value → MM → Prop, Runs e_X8_badBits [.ref (mm.2.2 0 9), .ref (mm.2.2 0 10)] mm Pm3 ∧ ∀ (r3 : Int32) (m3 : MM), Pm3 (.int r3) m3 → (Q (.int (v_J6_bitCount_0f7a4 m3 r3)) m3))))) ∧ (¬ a1 = (2 : Int32) → ((a1 = (3 : Int32) → (AtTown (mm.2.2 0 9) ∧ (AtState (mm.2.2 0 10) ∧ (∃ Pm3 : Value → MM → Prop, Runs e_X8_untrueBits [.ref (mm.2.2 0 9), .ref (mm.2.2 0 10)] mm Pm3 ∧ ∀ (r3 : Int32) (m3 : MM), Pm3 (.int r3) m3 → (Q (.int r3) m3))))) ∧ (¬ a1 = (3 : Int32) → ((a1 = (4 : Int32) → (AtTown (mm.2.2 0 9) ∧ (AtState (mm.2.2 0 10) ∧ (∃ Pm3 : Value → MM → Prop, Runs e_X8_badBits [.ref (mm.2.2 0 9), .ref (mm.2.2 0 10)] mm Pm3 ∧ ∀ (r3 : Int32) (m3 : MM), Pm3 (.int r3) m3 → (Q (.int r3) m3))))) ∧ (¬ a1 = (4 : Int32) → (Q (.int (-1 : Int32)) mm))))))))))) : Runs e_X11_law [.ref 0, .int a1] mm Q := by
  refine runs_of_G (L := [(0, .ref 0), (1, .int a1)]) pl_X11 (Nat.le_of_ble_eq_true rfl) rfl ?_
  refine g_iload_n (pc := 0) (x := a1) dX11_law_0 rfl ?_
  by_cases c1_0 : a1 = (0 : Int32)
  · have h := h.1 c1_0
    refine g_tsIn (pc := 1) (off := 35) (tgt := 36) dX11_law_1 (by rw [c1_0]; decide) (by rw [c1_0]; decide) (by rw [c1_0]; rfl) (by decide) ?_
    refine g_aload_n (pc := 36) (x := 0) dX11_law_36 rfl ?_
    refine g_getVt (pc := 37) (t := (mm.2.2 0 9)) dX11_law_37 fo_X11_69 sh_0 rfl rfl ?_
    have hr0 := h.1
    have h := h.2
    refine g_aload_n (pc := 40) (x := 0) dX11_law_40 rfl ?_
    refine g_getVt (pc := 41) (t := (mm.2.2 0 10)) dX11_law_41 fo_X11_74 sh_0 rfl rfl ?_
    have hr1 := h.1
    have h := h.2
    obtain ⟨Pm3, hRm3, h⟩ := h
    refine g_callV (pc := 44) (as := [.ref (mm.2.2 0 10)]) dX11_law_44 cw_X11_181 (by decide) rfl rfl (AtTown_0 hr0) (Nat.le_of_ble_eq_true rfl) hRm3 ?_
    intro r_ m3 hz_ hp_
    obtain ⟨r3, rfl⟩ := hz_
    have h := h r3 m3 hp_
    refine g_callS (pc := 47) (as := [.int r3]) dX11_law_47 cw_X11_185 (by decide) rfl rfl (Nat.le_of_ble_eq_true rfl) (rv_J6_bitCount_0f7a4 m3 r3) ?_
    rintro r_ m_ hz_ ⟨rfl, rfl⟩
    exact g_iret (pc := 50) dX11_law_50 rfl rfl rfl h
  · have h := h.2 c1_0
    by_cases c1_1 : a1 = (1 : Int32)
    · have h := h.1 c1_1
      refine g_tsIn (pc := 1) (off := 50) (tgt := 51) dX11_law_1 (by rw [c1_1]; decide) (by rw [c1_1]; decide) (by rw [c1_1]; rfl) (by decide) ?_
      refine g_aload_n (pc := 51) (x := 0) dX11_law_51 rfl ?_
      refine g_getVt (pc := 52) (t := (mm.2.2 0 9)) dX11_law_52 fo_X11_69 sh_0 rfl rfl ?_
      have hr0 := h.1
      have h := h.2
      refine g_aload_n (pc := 55) (x := 0) dX11_law_55 rfl ?_
      refine g_getVt (pc := 56) (t := (mm.2.2 0 10)) dX11_law_56 fo_X11_74 sh_0 rfl rfl ?_
      have hr1 := h.1
      have h := h.2
      obtain ⟨Pm3, hRm3, h⟩ := h
      refine g_callV (pc := 59) (as := [.ref (mm.2.2 0 10)]) dX11_law_59 cw_X11_190 (by decide) rfl rfl (AtTown_0 hr0) (Nat.le_of_ble_eq_true rfl) hRm3 ?_
      intro r_ m3 hz_ hp_
      obtain ⟨r3, rfl⟩ := hz_
      have h := h r3 m3 hp_
      exact g_iret (pc := 62) dX11_law_62 rfl rfl rfl h
    · have h := h.2 c1_1
      by_cases c1_2 : a1 = (2 : Int32)
      · have h := h.1 c1_2
        refine g_tsIn (pc := 1) (off := 62) (tgt := 63) dX11_law_1 (by rw [c1_2]; decide) (by rw [c1_2]; decide) (by rw [c1_2]; rfl) (by decide) ?_
        refine g_aload_n (pc := 63) (x := 0) dX11_law_63 rfl ?_
        refine g_getVt (pc := 64) (t := (mm.2.2 0 9)) dX11_law_64 fo_X11_69 sh_0 rfl rfl ?_
        have hr0 := h.1
        have h := h.2
        refine g_aload_n (pc := 67) (x := 0) dX11_law_67 rfl ?_
        refine g_getVt (pc := 68) (t := (mm.2.2 0 10)) dX11_law_68 fo_X11_74 sh_0 rfl rfl ?_
        have hr1 := h.1
        have h := h.2
        obtain ⟨Pm3, hRm3, h⟩ := h
        refine g_callV (pc := 71) (as := [.ref (mm.2.2 0 10)]) dX11_law_71 cw_X11_193 (by decide) rfl rfl (AtTown_0 hr0) (Nat.le_of_ble_eq_true rfl) hRm3 ?_
        intro r_ m3 hz_ hp_
        obtain ⟨r3, rfl⟩ := hz_
        have h := h r3 m3 hp_
        refine g_callS (pc := 74) (as := [.int r3]) dX11_law_74 cw_X11_185 (by decide) rfl rfl (Nat.le_of_ble_eq_true rfl) (rv_J6_bitCount_0f7a4 m3 r3) ?_
        rintro r_ m_ hz_ ⟨rfl, rfl⟩
        exact g_iret (pc := 77) dX11_law_77 rfl rfl rfl h
      · have h := h.2 c1_2
        by_cases c1_3 : a1 = (3 : Int32)
        · have h := h.1 c1_3
          refine g_tsIn (pc := 1) (off := 77) (tgt := 78) dX11_law_1 (by rw [c1_3]; decide) (by rw [c1_3]; decide) (by rw [c1_3]; rfl) (by decide) ?_
          refine g_aload_n (pc := 78) (x := 0) dX11_law_78 rfl ?_
          refine g_getVt (pc := 79) (t := (mm.2.2 0 9)) dX11_law_79 fo_X11_69 sh_0 rfl rfl ?_
          have hr0 := h.1
          have h := h.2
          refine g_aload_n (pc := 82) (x := 0) dX11_law_82 rfl ?_
          refine g_getVt (pc := 83) (t := (mm.2.2 0 10)) dX11_law_83 fo_X11_74 sh_0 rfl rfl ?_
          have hr1 := h.1
          have h := h.2
          obtain ⟨Pm3, hRm3, h⟩ := h
          refine g_callV (pc := 86) (as := [.ref (mm.2.2 0 10)]) dX11_law_86 cw_X11_181 (by decide) rfl rfl (AtTown_0 hr0) (Nat.le_of_ble_eq_true rfl) hRm3 ?_
          intro r_ m3 hz_ hp_
          obtain ⟨r3, rfl⟩ := hz_
          have h := h r3 m3 hp_
          exact g_iret (pc := 89) dX11_law_89 rfl rfl rfl h
        · have h := h.2 c1_3
          by_cases c1_4 : a1 = (4 : Int32)
          · have h := h.1 c1_4
            refine g_tsIn (pc := 1) (off := 89) (tgt := 90) dX11_law_1 (by rw [c1_4]; decide) (by rw [c1_4]; decide) (by rw [c1_4]; rfl) (by decide) ?_
            refine g_aload_n (pc := 90) (x := 0) dX11_law_90 rfl ?_
            refine g_getVt (pc := 91) (t := (mm.2.2 0 9)) dX11_law_91 fo_X11_69 sh_0 rfl rfl ?_
            have hr0 := h.1
            have h := h.2
            refine g_aload_n (pc := 94) (x := 0) dX11_law_94 rfl ?_
            refine g_getVt (pc := 95) (t := (mm.2.2 0 10)) dX11_law_95 fo_X11_74 sh_0 rfl rfl ?_
            have hr1 := h.1
            have h := h.2
            obtain ⟨Pm3, hRm3, h⟩ := h
            refine g_callV (pc := 98) (as := [.ref (mm.2.2 0 10)]) dX11_law_98 cw_X11_193 (by decide) rfl rfl (AtTown_0 hr0) (Nat.le_of_ble_eq_true rfl) hRm3 ?_
            intro r_ m3 hz_ hp_
            obtain ⟨r3, rfl⟩ := hz_
            have h := h r3 m3 hp_
            exact g_iret (pc := 101) dX11_law_101 rfl rfl rfl h
          · have h := h.2 c1_4
            refine g_tsOut (pc := 1) (tgt := 102) dX11_law_1 (by have e0_ := ts_ne (k := 0) c1_0 (by decide); have e1_ := ts_ne (k := 1) c1_1 (by decide); have e2_ := ts_ne (k := 2) c1_2 (by decide); have e3_ := ts_ne (k := 3) c1_3 (by decide); have e4_ := ts_ne (k := 4) c1_4 (by decide); omega) (by decide) ?_
            refine g_iconst (pc := 102) (v := (-1 : Int32)) dX11_law_102 (by decide) ?_
            exact g_iret (pc := 103) dX11_law_103 rfl rfl rfl h
theorem dX11_isWood_0 : decode cX11_isWood 0 = .ok (.iload_n 1, 1) := by decide +kernel
theorem dX11_isWood_1 : decode cX11_isWood 1 = .ok (.ifCond .lt 18, 3) := by decide +kernel
theorem dX11_isWood_4 : decode cX11_isWood 4 = .ok (.iload_n 1, 1) := by decide +kernel
theorem dX11_isWood_5 : decode cX11_isWood 5 = .ok (.aload_n 0, 1) := by decide +kernel
theorem dX11_isWood_6 : decode cX11_isWood 6 = .ok (.getfield 69, 3) := by decide +kernel
theorem dX11_isWood_9 : decode cX11_isWood 9 = .ok (.getfield 355, 3) := by decide +kernel
theorem dX11_isWood_12 : decode cX11_isWood 12 = .ok (.if_icmp .ge 7, 3) := by decide +kernel
theorem dX11_isWood_15 : decode cX11_isWood 15 = .ok (.iconst 1, 1) := by decide +kernel
theorem dX11_isWood_16 : decode cX11_isWood 16 = .ok (.goto 4, 3) := by decide +kernel
theorem dX11_isWood_19 : decode cX11_isWood 19 = .ok (.iconst 0, 1) := by decide +kernel
theorem dX11_isWood_20 : decode cX11_isWood 20 = .ok (.ireturn, 1) := by decide +kernel
def o_X11_isWood (mm : MM) (a1 : Int32) : Prop := (a1 < 0 → (True)) ∧ (¬ a1 < 0 → (AtTown (mm.2.2 0 9) ∧ (((mm.1 (mm.2.2 0 9) 13) ≤ a1 → (True)) ∧ (¬ (mm.1 (mm.2.2 0 9) 13) ≤ a1 → (True)))))
def p_X11_isWood (mm : MM) (a1 : Int32) : Prop := (¬ a1 < 0 ∧ ¬ (mm.1 (mm.2.2 0 9) 13) ≤ a1)
theorem rv_X11_isWood (mm : MM) (a1 : Int32) (h : o_X11_isWood mm a1) : Runs e_X11_isWood [.ref 0, .int a1] mm (fun r m_ => ((p_X11_isWood mm a1 ∧ r = .int 1) ∨ (¬ p_X11_isWood mm a1 ∧ r = .int 0)) ∧ mm = m_) := by
  refine runs_of_G (L := [(0, .ref 0), (1, .int a1)]) pl_X11 (Nat.le_of_ble_eq_true rfl) rfl ?_
  unfold o_X11_isWood at h
  refine g_iload_n (pc := 0) (x := a1) dX11_isWood_0 rfl ?_
  refine g_if_lt (pc := 1) (tgt := 19) dX11_isWood_1 (by decide) (fun c1 => ?_) (fun c1 => ?_)
  · have c1_0 : a1 < 0 := c1
    have h := h.1 c1
    refine g_iconst (pc := 19) (v := (0 : Int32)) dX11_isWood_19 (by decide) ?_
    exact g_iret (pc := 20) dX11_isWood_20 rfl rfl (nar_B isB0) ⟨Or.inr ⟨(show ¬ p_X11_isWood mm a1 from (fun h_ => (h_.1 c1_0))), rfl⟩, rfl⟩
  · have c1_0 : ¬ a1 < 0 := c1
    have h := h.2 c1
    refine g_iload_n (pc := 4) (x := a1) dX11_isWood_4 rfl ?_
    refine g_aload_n (pc := 5) (x := 0) dX11_isWood_5 rfl ?_
    refine g_getVt (pc := 6) (t := (mm.2.2 0 9)) dX11_isWood_6 fo_X11_69 sh_0 rfl rfl ?_
    have hr0 := h.1
    have h := h.2
    refine g_getI (pc := 9) dX11_isWood_9 fo_X11_355 (AtTown_0 hr0) rfl ?_
    refine g_icmp_ge (pc := 12) (tgt := 19) dX11_isWood_12 (by decide) (fun c12 => ?_) (fun c12 => ?_)
    · have c12_1 : (mm.1 (mm.2.2 0 9) 13) ≤ a1 := c12
      refine g_iconst (pc := 19) (v := (0 : Int32)) dX11_isWood_19 (by decide) ?_
      exact g_iret (pc := 20) dX11_isWood_20 rfl rfl (nar_B isB0) ⟨Or.inr ⟨(show ¬ p_X11_isWood mm a1 from (fun h_ => (not_not_intro c12_1) h_.2)), rfl⟩, rfl⟩
    · have c12_1 : ¬ (mm.1 (mm.2.2 0 9) 13) ≤ a1 := c12
      refine g_iconst (pc := 15) (v := (1 : Int32)) dX11_isWood_15 (by decide) ?_
      refine g_goto (pc := 16) (tgt := 20) dX11_isWood_16 (by decide) ?_
      exact g_iret (pc := 20) dX11_isWood_20 rfl rfl (nar_B isB1) ⟨Or.inl ⟨(show p_X11_isWood mm a1 from ⟨c1_0, c12_1⟩), rfl⟩, rfl⟩
theorem dX11_wood_0 : decode cX11_wood 0 = .ok (.aload_n 0, 1) := by decide +kernel
theorem dX11_wood_1 : decode cX11_wood 1 = .ok (.iload_n 1, 1) := by decide +kernel
theorem dX11_wood_2 : decode cX11_wood 2 = .ok (.invokevirtual 196, 3) := by decide +kernel
theorem dX11_wood_5 : decode cX11_wood 5 = .ok (.ifCond .eq 15, 3) := by decide +kernel
theorem dX11_wood_8 : decode cX11_wood 8 = .ok (.aload_n 0, 1) := by decide +kernel
theorem dX11_wood_9 : decode cX11_wood 9 = .ok (.getfield 74, 3) := by decide +kernel
theorem dX11_wood_12 : decode cX11_wood 12 = .ok (.getfield 199, 3) := by decide +kernel
theorem dX11_wood_15 : decode cX11_wood 15 = .ok (.iload_n 1, 1) := by decide +kernel
theorem dX11_wood_16 : decode cX11_wood 16 = .ok (.iaload, 1) := by decide +kernel
theorem dX11_wood_17 : decode cX11_wood 17 = .ok (.goto 4, 3) := by decide +kernel
theorem dX11_wood_20 : decode cX11_wood 20 = .ok (.iconst (-1), 1) := by decide +kernel
theorem dX11_wood_21 : decode cX11_wood 21 = .ok (.ireturn, 1) := by decide +kernel
def o_X11_wood (mm : MM) (a1 : Int32) : Prop := o_X11_isWood mm a1 ∧ ((p_X11_isWood mm a1 → (AtState (mm.2.2 0 10) ∧ (vp_in a1 8 ∧ (True)))) ∧ (¬ p_X11_isWood mm a1 → (True)))
noncomputable def v_X11_wood (mm : MM) (a1 : Int32) : Int32 := (cite (p_X11_isWood mm a1) (mm.1 ((mm.2.2 0 10) + 3) a1.toNatClampNeg) (-1 : Int32))
theorem rv_X11_wood (mm : MM) (a1 : Int32) (h : o_X11_wood mm a1) : Runs e_X11_wood [.ref 0, .int a1] mm (fun r m_ => r = .int (v_X11_wood mm a1) ∧ mm = m_) := by
  refine runs_of_G (L := [(0, .ref 0), (1, .int a1)]) pl_X11 (Nat.le_of_ble_eq_true rfl) rfl ?_
  unfold o_X11_wood at h
  refine g_aload_n (pc := 0) (x := 0) dX11_wood_0 rfl ?_
  refine g_iload_n (pc := 1) (x := a1) dX11_wood_1 rfl ?_
  refine g_callV (pc := 2) (as := [.int a1]) dX11_wood_2 cw_X11_196 (by decide) rfl rfl sh_0 (Nat.le_of_ble_eq_true rfl) (rv_X11_isWood mm a1 h.1) ?_
  have h := h.2
  rintro r_ m_ hz_ ⟨⟨p_, rfl⟩ | ⟨p_, rfl⟩, rfl⟩
  · have p__0 : p_X11_isWood mm a1 := p_
    have h := h.1 p_
    refine g_if_eq (pc := 5) (tgt := 20) dX11_wood_5 (by decide) (fun c5 => absurd c5 (by decide)) (fun _ => ?_)
    refine g_aload_n (pc := 8) (x := 0) dX11_wood_8 rfl ?_
    refine g_getVt (pc := 9) (t := (mm.2.2 0 10)) dX11_wood_9 fo_X11_74 sh_0 rfl rfl ?_
    have hr0 := h.1
    have h := h.2
    refine g_getR (pc := 12) (dd := 3) dX11_wood_12 fo_X11_199 (AtState_0 hr0) rfl ?_
    refine g_iload_n (pc := 15) (x := a1) dX11_wood_15 rfl ?_
    refine g_iaload (pc := 16) dX11_wood_16 (AtState_3 hr0) h.1 ?_
    have h := h.2
    refine g_goto (pc := 17) (tgt := 21) dX11_wood_17 (by decide) ?_
    exact g_iret (pc := 21) dX11_wood_21 rfl rfl rfl ⟨(by unfold v_X11_wood; rw [cite_pos p__0] <;> rfl), rfl⟩
  · have p__0 : ¬ p_X11_isWood mm a1 := p_
    have h := h.2 p_
    refine g_if_eq (pc := 5) (tgt := 20) dX11_wood_5 (by decide) (fun _ => ?_) (fun c5 => absurd c5 (by decide))
    refine g_iconst (pc := 20) (v := (-1 : Int32)) dX11_wood_20 (by decide) ?_
    exact g_iret (pc := 21) dX11_wood_21 rfl rfl rfl ⟨(by unfold v_X11_wood; rw [cite_neg p__0] <;> rfl), rfl⟩
theorem dX11_jack_0 : decode cX11_jack 0 = .ok (.iload_n 1, 1) := by decide +kernel
theorem dX11_jack_1 : decode cX11_jack 1 = .ok (.iconst 1, 1) := by decide +kernel
theorem dX11_jack_2 : decode cX11_jack 2 = .ok (.bipush 99, 2) := by decide +kernel
theorem dX11_jack_4 : decode cX11_jack 4 = .ok (.invokestatic 144, 3) := by decide +kernel
theorem dX11_jack_7 : decode cX11_jack 7 = .ok (.ifCond .eq 24, 3) := by decide +kernel
theorem dX11_jack_10 : decode cX11_jack 10 = .ok (.iload_n 2, 1) := by decide +kernel
theorem dX11_jack_11 : decode cX11_jack 11 = .ok (.ifCond .eq 22, 3) := by decide +kernel
theorem dX11_jack_14 : decode cX11_jack 14 = .ok (.iload_n 2, 1) := by decide +kernel
theorem dX11_jack_15 : decode cX11_jack 15 = .ok (.bipush 10, 2) := by decide +kernel
theorem dX11_jack_17 : decode cX11_jack 17 = .ok (.if_icmp .lt 14, 3) := by decide +kernel
theorem dX11_jack_20 : decode cX11_jack 20 = .ok (.aload_n 0, 1) := by decide +kernel
theorem dX11_jack_21 : decode cX11_jack 21 = .ok (.iload_n 2, 1) := by decide +kernel
theorem dX11_jack_22 : decode cX11_jack 22 = .ok (.bipush 10, 2) := by decide +kernel
theorem dX11_jack_24 : decode cX11_jack 24 = .ok (.isub, 1) := by decide +kernel
theorem dX11_jack_25 : decode cX11_jack 25 = .ok (.invokevirtual 196, 3) := by decide +kernel
theorem dX11_jack_28 : decode cX11_jack 28 = .ok (.ifCond .ne 5, 3) := by decide +kernel
theorem dX11_jack_31 : decode cX11_jack 31 = .ok (.iconst (-1), 1) := by decide +kernel
theorem dX11_jack_32 : decode cX11_jack 32 = .ok (.ireturn, 1) := by decide +kernel
theorem dX11_jack_33 : decode cX11_jack 33 = .ok (.aload_n 0, 1) := by decide +kernel
theorem dX11_jack_34 : decode cX11_jack 34 = .ok (.getfield 24, 3) := by decide +kernel
theorem dX11_jack_37 : decode cX11_jack 37 = .ok (.aload_n 0, 1) := by decide +kernel
theorem dX11_jack_38 : decode cX11_jack 38 = .ok (.getfield 69, 3) := by decide +kernel
theorem dX11_jack_41 : decode cX11_jack 41 = .ok (.aload_n 0, 1) := by decide +kernel
theorem dX11_jack_42 : decode cX11_jack 42 = .ok (.getfield 74, 3) := by decide +kernel
theorem dX11_jack_45 : decode cX11_jack 45 = .ok (.getfield 199, 3) := by decide +kernel
theorem dX11_jack_48 : decode cX11_jack 48 = .ok (.iload_n 1, 1) := by decide +kernel
theorem dX11_jack_49 : decode cX11_jack 49 = .ok (.invokevirtual 202, 3) := by decide +kernel
theorem dX11_jack_52 : decode cX11_jack 52 = .ok (.ifCond .ne 6, 3) := by decide +kernel
theorem dX11_jack_55 : decode cX11_jack 55 = .ok (.bipush (-2), 2) := by decide +kernel
theorem dX11_jack_57 : decode cX11_jack 57 = .ok (.ireturn, 1) := by decide +kernel
theorem dX11_jack_58 : decode cX11_jack 58 = .ok (.iload_n 2, 1) := by decide +kernel
theorem dX11_jack_59 : decode cX11_jack 59 = .ok (.ifCond .ne 13, 3) := by decide +kernel
theorem dX11_jack_62 : decode cX11_jack 62 = .ok (.aload_n 0, 1) := by decide +kernel
theorem dX11_jack_63 : decode cX11_jack 63 = .ok (.getfield 24, 3) := by decide +kernel
theorem dX11_jack_66 : decode cX11_jack 66 = .ok (.getfield 206, 3) := by decide +kernel
theorem dX11_jack_69 : decode cX11_jack 69 = .ok (.goto 15, 3) := by decide +kernel
theorem dX11_jack_72 : decode cX11_jack 72 = .ok (.aload_n 0, 1) := by decide +kernel
theorem dX11_jack_73 : decode cX11_jack 73 = .ok (.getfield 24, 3) := by decide +kernel
theorem dX11_jack_76 : decode cX11_jack 76 = .ok (.getfield 209, 3) := by decide +kernel
theorem dX11_jack_79 : decode cX11_jack 79 = .ok (.iload_n 2, 1) := by decide +kernel
theorem dX11_jack_80 : decode cX11_jack 80 = .ok (.bipush 10, 2) := by decide +kernel
theorem dX11_jack_82 : decode cX11_jack 82 = .ok (.isub, 1) := by decide +kernel
theorem dX11_jack_83 : decode cX11_jack 83 = .ok (.iaload, 1) := by decide +kernel
theorem dX11_jack_84 : decode cX11_jack 84 = .ok (.ireturn, 1) := by decide +kernel
theorem b_X11_jack (mm : MM) (Q : Value → MM → Prop) (a1 : Int32) (a2 : Int32) (h : (p_X11_within mm a1 (1 : Int32) (99 : Int32) → ((a2 = 0 → (AtTown (mm.2.2 0 9) ∧ (AtState (mm.2.2 0 10) ∧ (∃ Pm3 : Value → MM → Prop, Runs e_X10_choose [.ref 38, .ref (mm.2.2 0 9), .ref ((mm.2.2 0 10) + 3), .int a1] mm Pm3 ∧ (∀ r m3, Pm3 r m3 → r = .int 1 ∨ r = .int 0) ∧ (∀ m3, Pm3 (.int 1) m3 → ((¬ a2 = 0 → (vp_in (a2 - (10 : Int32)) 8 ∧ (Q (.int (m3.1 40 (a2 - (10 : Int32)).toNatClampNeg)) m3))) ∧ (a2 = 0 → (Q (.int (m3.1 38 2)) m3)))) ∧ (∀ m3, Pm3 (.int 0) m3 → (Q (.int (-2 : Int32)) m3)))))) ∧ (¬ a2 = 0 → ((a2 < (10 : Int32) → (Q (.int (-1 : Int32)) mm)) ∧ (¬ a2 < (10 : Int32) → (o_X11_isWood mm (a2 - (10 : Int32)) ∧ ((p_X11_isWood mm (a2 - (10 : Int32)) → (AtTown (mm.2.2 0 9) ∧ (AtState (mm.2.2 0 10) ∧ (∃ Pm3 : Value → MM → Prop, Runs e_X10_choose [.ref 38, .ref (mm.2.2 0 9), .ref ((mm.2.2 0 10) + 3), .int a1] mm Pm3 ∧ (∀ r m3, Pm3 r m3 → r = .int 1 ∨ r = .int 0) ∧ (∀ m3, Pm3 (.int 1) m3 → ((¬ a2 = 0 → (vp_in (a2 - (10 : Int32)) 8 ∧ (Q (.int (m3.1 40 (a2 - (10 : Int32)).toNatClampNeg)) m3))) ∧ (a2 = 0 → (Q (.int (m3.1 38 2)) m3)))) ∧ (∀ m3, Pm3 (.int 0) m3 → (Q (.int (-2 : Int32)) m3)))))) ∧ (¬ p_X11_isWood mm (a2 - (10 : Int32)) → (Q (.int (-1 : Int32)) mm))))))))) ∧ (¬ p_X11_within mm a1 (1 : Int32) (99 : Int32) → (Q (.int (-1 : Int32)) mm))) : Runs e_X11_jack [.ref 0, .int a1, .int a2] mm Q := by
  refine runs_of_G (L := [(0, .ref 0), (1, .int a1), (2, .int a2)]) pl_X11 (Nat.le_of_ble_eq_true rfl) rfl ?_
  refine g_iload_n (pc := 0) (x := a1) dX11_jack_0 rfl ?_
  refine g_iconst (pc := 1) (v := (1 : Int32)) dX11_jack_1 (by decide) ?_
  refine g_bipush (pc := 2) (v := (99 : Int32)) dX11_jack_2 (by decide) ?_
  refine g_callS (pc := 4) (as := [.int a1, .int (1 : Int32), .int (99 : Int32)]) dX11_jack_4 cw_X11_144 (by decide) rfl rfl (Nat.le_of_ble_eq_true rfl) (rv_X11_within mm a1 (1 : Int32) (99 : Int32)) ?_
  rintro r_ m_ hz_ ⟨⟨p_, rfl⟩ | ⟨p_, rfl⟩, rfl⟩
  · have h := h.1 p_
    refine g_if_eq (pc := 7) (tgt := 31) dX11_jack_7 (by decide) (fun c7 => absurd c7 (by decide)) (fun _ => ?_)
    refine g_iload_n (pc := 10) (x := a2) dX11_jack_10 rfl ?_
    refine g_if_eq (pc := 11) (tgt := 33) dX11_jack_11 (by decide) (fun c11 => ?_) (fun c11 => ?_)
    · have h := h.1 c11
      refine g_aload_n (pc := 33) (x := 0) dX11_jack_33 rfl ?_
      refine g_getR (pc := 34) (dd := 38) dX11_jack_34 fo_X11_24 sh_0 rfl ?_
      refine g_aload_n (pc := 37) (x := 0) dX11_jack_37 rfl ?_
      refine g_getVt (pc := 38) (t := (mm.2.2 0 9)) dX11_jack_38 fo_X11_69 sh_0 rfl rfl ?_
      have hr0 := h.1
      have h := h.2
      refine g_aload_n (pc := 41) (x := 0) dX11_jack_41 rfl ?_
      refine g_getVt (pc := 42) (t := (mm.2.2 0 10)) dX11_jack_42 fo_X11_74 sh_0 rfl rfl ?_
      have hr1 := h.1
      have h := h.2
      refine g_getR (pc := 45) (dd := 3) dX11_jack_45 fo_X11_199 (AtState_0 hr1) rfl ?_
      refine g_iload_n (pc := 48) (x := a1) dX11_jack_48 rfl ?_
      obtain ⟨Pm3, hRm3, h⟩ := h
      refine g_callV (pc := 49) (as := [.ref (mm.2.2 0 9), .ref ((mm.2.2 0 10) + 3), .int a1]) dX11_jack_49 cw_X11_202 (by decide) rfl rfl sh_38 (Nat.le_of_ble_eq_true rfl) hRm3 ?_
      intro r_ m3 hz_ hp_
      rcases h.1 r_ m3 hp_ with rfl | rfl
      · have h := h.2.1 m3 hp_
        refine g_if_ne (pc := 52) (tgt := 58) dX11_jack_52 (by decide) (fun _ => ?_) (fun c52 => absurd c52 (by decide))
        refine g_iload_n (pc := 58) (x := a2) dX11_jack_58 rfl ?_
        refine g_if_ne (pc := 59) (tgt := 72) dX11_jack_59 (by decide) (fun c59 => ?_) (fun c59 => ?_)
        · have h := h.1 c59
          refine g_aload_n (pc := 72) (x := 0) dX11_jack_72 rfl ?_
          refine g_getR (pc := 73) (dd := 38) dX11_jack_73 fo_X11_24 sh_0 rfl ?_
          refine g_getR (pc := 76) (dd := 2) dX11_jack_76 fo_X11_209 sh_38 rfl ?_
          refine g_iload_n (pc := 79) (x := a2) dX11_jack_79 rfl ?_
          refine g_bipush (pc := 80) (v := (10 : Int32)) dX11_jack_80 (by decide) ?_
          refine g_isub (pc := 82) dX11_jack_82 ?_
          refine g_iaload (pc := 83) dX11_jack_83 sh_40 h.1 ?_
          have h := h.2
          exact g_iret (pc := 84) dX11_jack_84 rfl rfl rfl h
        · have h := h.2 c59
          refine g_aload_n (pc := 62) (x := 0) dX11_jack_62 rfl ?_
          refine g_getR (pc := 63) (dd := 38) dX11_jack_63 fo_X11_24 sh_0 rfl ?_
          refine g_getI (pc := 66) dX11_jack_66 fo_X11_206 sh_38 rfl ?_
          refine g_goto (pc := 69) (tgt := 84) dX11_jack_69 (by decide) ?_
          exact g_iret (pc := 84) dX11_jack_84 rfl rfl rfl h
      · have h := h.2.2 m3 hp_
        refine g_if_ne (pc := 52) (tgt := 58) dX11_jack_52 (by decide) (fun c52 => absurd c52 (by decide)) (fun _ => ?_)
        refine g_bipush (pc := 55) (v := (-2 : Int32)) dX11_jack_55 (by decide) ?_
        exact g_iret (pc := 57) dX11_jack_57 rfl rfl rfl h
    · have h := h.2 c11
      refine g_iload_n (pc := 14) (x := a2) dX11_jack_14 rfl ?_
      refine g_bipush (pc := 15) (v := (10 : Int32)) dX11_jack_15 (by decide) ?_
      refine g_icmp_lt (pc := 17) (tgt := 31) dX11_jack_17 (by decide) (fun c17 => ?_) (fun c17 => ?_)
      · have h := h.1 c17
        refine g_iconst (pc := 31) (v := (-1 : Int32)) dX11_jack_31 (by decide) ?_
        exact g_iret (pc := 32) dX11_jack_32 rfl rfl rfl h
      · have h := h.2 c17
        refine g_aload_n (pc := 20) (x := 0) dX11_jack_20 rfl ?_
        refine g_iload_n (pc := 21) (x := a2) dX11_jack_21 rfl ?_
        refine g_bipush (pc := 22) (v := (10 : Int32)) dX11_jack_22 (by decide) ?_
        refine g_isub (pc := 24) dX11_jack_24 ?_
        refine g_callV (pc := 25) (as := [.int (a2 - (10 : Int32))]) dX11_jack_25 cw_X11_196 (by decide) rfl rfl sh_0 (Nat.le_of_ble_eq_true rfl) (rv_X11_isWood mm (a2 - (10 : Int32)) h.1) ?_
        have h := h.2
        rintro r_ m_ hz_ ⟨⟨p_, rfl⟩ | ⟨p_, rfl⟩, rfl⟩
        · have h := h.1 p_
          refine g_if_ne (pc := 28) (tgt := 33) dX11_jack_28 (by decide) (fun _ => ?_) (fun c28 => absurd c28 (by decide))
          refine g_aload_n (pc := 33) (x := 0) dX11_jack_33 rfl ?_
          refine g_getR (pc := 34) (dd := 38) dX11_jack_34 fo_X11_24 sh_0 rfl ?_
          refine g_aload_n (pc := 37) (x := 0) dX11_jack_37 rfl ?_
          refine g_getVt (pc := 38) (t := (mm.2.2 0 9)) dX11_jack_38 fo_X11_69 sh_0 rfl rfl ?_
          have hr0 := h.1
          have h := h.2
          refine g_aload_n (pc := 41) (x := 0) dX11_jack_41 rfl ?_
          refine g_getVt (pc := 42) (t := (mm.2.2 0 10)) dX11_jack_42 fo_X11_74 sh_0 rfl rfl ?_
          have hr1 := h.1
          have h := h.2
          refine g_getR (pc := 45) (dd := 3) dX11_jack_45 fo_X11_199 (AtState_0 hr1) rfl ?_
          refine g_iload_n (pc := 48) (x := a1) dX11_jack_48 rfl ?_
          obtain ⟨Pm3, hRm3, h⟩ := h
          refine g_callV (pc := 49) (as := [.ref (mm.2.2 0 9), .ref ((mm.2.2 0 10) + 3), .int a1]) dX11_jack_49 cw_X11_202 (by decide) rfl rfl sh_38 (Nat.le_of_ble_eq_true rfl) hRm3 ?_
          intro r_ m3 hz_ hp_
          rcases h.1 r_ m3 hp_ with rfl | rfl
          · have h := h.2.1 m3 hp_
            refine g_if_ne (pc := 52) (tgt := 58) dX11_jack_52 (by decide) (fun _ => ?_) (fun c52 => absurd c52 (by decide))
            refine g_iload_n (pc := 58) (x := a2) dX11_jack_58 rfl ?_
            refine g_if_ne (pc := 59) (tgt := 72) dX11_jack_59 (by decide) (fun c59 => ?_) (fun c59 => ?_)
            · have h := h.1 c59
              refine g_aload_n (pc := 72) (x := 0) dX11_jack_72 rfl ?_
              refine g_getR (pc := 73) (dd := 38) dX11_jack_73 fo_X11_24 sh_0 rfl ?_
              refine g_getR (pc := 76) (dd := 2) dX11_jack_76 fo_X11_209 sh_38 rfl ?_
              refine g_iload_n (pc := 79) (x := a2) dX11_jack_79 rfl ?_
              refine g_bipush (pc := 80) (v := (10 : Int32)) dX11_jack_80 (by decide) ?_
              refine g_isub (pc := 82) dX11_jack_82 ?_
              refine g_iaload (pc := 83) dX11_jack_83 sh_40 h.1 ?_
              have h := h.2
              exact g_iret (pc := 84) dX11_jack_84 rfl rfl rfl h
            · have h := h.2 c59
              refine g_aload_n (pc := 62) (x := 0) dX11_jack_62 rfl ?_
              refine g_getR (pc := 63) (dd := 38) dX11_jack_63 fo_X11_24 sh_0 rfl ?_
              refine g_getI (pc := 66) dX11_jack_66 fo_X11_206 sh_38 rfl ?_
              refine g_goto (pc := 69) (tgt := 84) dX11_jack_69 (by decide) ?_
              exact g_iret (pc := 84) dX11_jack_84 rfl rfl rfl h
          · have h := h.2.2 m3 hp_
            refine g_if_ne (pc := 52) (tgt := 58) dX11_jack_52 (by decide) (fun c52 => absurd c52 (by decide)) (fun _ => ?_)
            refine g_bipush (pc := 55) (v := (-2 : Int32)) dX11_jack_55 (by decide) ?_
            exact g_iret (pc := 57) dX11_jack_57 rfl rfl rfl h
        · have h := h.2 p_
          refine g_if_ne (pc := 28) (tgt := 33) dX11_jack_28 (by decide) (fun c28 => absurd c28 (by decide)) (fun _ => ?_)
          refine g_iconst (pc := 31) (v := (-1 : Int32)) dX11_jack_31 (by decide) ?_
          exact g_iret (pc := 32) dX11_jack_32 rfl rfl rfl h
  · have h := h.2 p_
    refine g_if_eq (pc := 7) (tgt := 31) dX11_jack_7 (by decide) (fun _ => ?_) (fun c7 => absurd c7 (by decide))
    refine g_iconst (pc := 31) (v := (-1 : Int32)) dX11_jack_31 (by decide) ?_
    exact g_iret (pc := 32) dX11_jack_32 rfl rfl rfl h
theorem dX11_work_0 : decode cX11_work 0 = .ok (.iload_n 1, 1) := by decide +kernel
theorem dX11_work_1 : decode cX11_work 1 = .ok (.iconst 0, 1) := by decide +kernel
theorem dX11_work_2 : decode cX11_work 2 = .ok (.bipush 99, 2) := by decide +kernel
theorem dX11_work_4 : decode cX11_work 4 = .ok (.invokestatic 144, 3) := by decide +kernel
theorem dX11_work_7 : decode cX11_work 7 = .ok (.ifCond .eq 26, 3) := by decide +kernel
theorem dX11_work_10 : decode cX11_work 10 = .ok (.aload_n 0, 1) := by decide +kernel
theorem dX11_work_11 : decode cX11_work 11 = .ok (.iload_n 2, 1) := by decide +kernel
theorem dX11_work_12 : decode cX11_work 12 = .ok (.invokevirtual 109, 3) := by decide +kernel
theorem dX11_work_15 : decode cX11_work 15 = .ok (.ifCond .eq 18, 3) := by decide +kernel
theorem dX11_work_18 : decode cX11_work 18 = .ok (.iload_n 3, 1) := by decide +kernel
theorem dX11_work_19 : decode cX11_work 19 = .ok (.ifCond .eq 14, 3) := by decide +kernel
theorem dX11_work_22 : decode cX11_work 22 = .ok (.iload_n 3, 1) := by decide +kernel
theorem dX11_work_23 : decode cX11_work 23 = .ok (.bipush (-99), 2) := by decide +kernel
theorem dX11_work_25 : decode cX11_work 25 = .ok (.bipush 99, 2) := by decide +kernel
theorem dX11_work_27 : decode cX11_work 27 = .ok (.invokestatic 144, 3) := by decide +kernel
theorem dX11_work_30 : decode cX11_work 30 = .ok (.ifCond .ne 5, 3) := by decide +kernel
theorem dX11_work_33 : decode cX11_work 33 = .ok (.iconst (-1), 1) := by decide +kernel
theorem dX11_work_34 : decode cX11_work 34 = .ok (.ireturn, 1) := by decide +kernel
theorem dX11_work_35 : decode cX11_work 35 = .ok (.aload_n 0, 1) := by decide +kernel
theorem dX11_work_36 : decode cX11_work 36 = .ok (.getfield 74, 3) := by decide +kernel
theorem dX11_work_39 : decode cX11_work 39 = .ok (.iload_n 1, 1) := by decide +kernel
theorem dX11_work_40 : decode cX11_work 40 = .ok (.iload_n 2, 1) := by decide +kernel
theorem dX11_work_41 : decode cX11_work 41 = .ok (.iload_n 3, 1) := by decide +kernel
theorem dX11_work_42 : decode cX11_work 42 = .ok (.invokevirtual 212, 3) := by decide +kernel
theorem dX11_work_45 : decode cX11_work 45 = .ok (.ireturn, 1) := by decide +kernel
theorem b_X11_work (mm : MM) (Q : Value → MM → Prop) (a1 : Int32) (a2 : Int32) (a3 : Int32) (h : (p_X11_within mm a1 (0 : Int32) (99 : Int32) → (o_X11_isHouse mm a2 ∧ ((p_X11_isHouse mm a2 → ((a3 = 0 → (Q (.int (-1 : Int32)) mm)) ∧ (¬ a3 = 0 → ((p_X11_within mm a3 (-99 : Int32) (99 : Int32) → (AtState (mm.2.2 0 10) ∧ (∃ Pm2 : Value → MM → Prop, Runs e_X6_tellWork [.ref (mm.2.2 0 10), .int a1, .int a2, .int a3] mm Pm2 ∧ ∀ (r2 : Int32) (m2 : MM), Pm2 (.int r2) m2 → (Q (.int r2) m2)))) ∧ (¬ p_X11_within mm a3 (-99 : Int32) (99 : Int32) → (Q (.int (-1 : Int32)) mm)))))) ∧ (¬ p_X11_isHouse mm a2 → (Q (.int (-1 : Int32)) mm))))) ∧ (¬ p_X11_within mm a1 (0 : Int32) (99 : Int32) → (Q (.int (-1 : Int32)) mm))) : Runs e_X11_work [.ref 0, .int a1, .int a2, .int a3] mm Q := by
  refine runs_of_G (L := [(0, .ref 0), (1, .int a1), (2, .int a2), (3, .int a3)]) pl_X11 (Nat.le_of_ble_eq_true rfl) rfl ?_
  refine g_iload_n (pc := 0) (x := a1) dX11_work_0 rfl ?_
  refine g_iconst (pc := 1) (v := (0 : Int32)) dX11_work_1 (by decide) ?_
  refine g_bipush (pc := 2) (v := (99 : Int32)) dX11_work_2 (by decide) ?_
  refine g_callS (pc := 4) (as := [.int a1, .int (0 : Int32), .int (99 : Int32)]) dX11_work_4 cw_X11_144 (by decide) rfl rfl (Nat.le_of_ble_eq_true rfl) (rv_X11_within mm a1 (0 : Int32) (99 : Int32)) ?_
  rintro r_ m_ hz_ ⟨⟨p_, rfl⟩ | ⟨p_, rfl⟩, rfl⟩
  · have h := h.1 p_
    refine g_if_eq (pc := 7) (tgt := 33) dX11_work_7 (by decide) (fun c7 => absurd c7 (by decide)) (fun _ => ?_)
    refine g_aload_n (pc := 10) (x := 0) dX11_work_10 rfl ?_
    refine g_iload_n (pc := 11) (x := a2) dX11_work_11 rfl ?_
    refine g_callV (pc := 12) (as := [.int a2]) dX11_work_12 cw_X11_109 (by decide) rfl rfl sh_0 (Nat.le_of_ble_eq_true rfl) (rv_X11_isHouse mm a2 h.1) ?_
    have h := h.2
    rintro r_ m_ hz_ ⟨⟨p_, rfl⟩ | ⟨p_, rfl⟩, rfl⟩
    · have h := h.1 p_
      refine g_if_eq (pc := 15) (tgt := 33) dX11_work_15 (by decide) (fun c15 => absurd c15 (by decide)) (fun _ => ?_)
      refine g_iload_n (pc := 18) (x := a3) dX11_work_18 rfl ?_
      refine g_if_eq (pc := 19) (tgt := 33) dX11_work_19 (by decide) (fun c19 => ?_) (fun c19 => ?_)
      · have h := h.1 c19
        refine g_iconst (pc := 33) (v := (-1 : Int32)) dX11_work_33 (by decide) ?_
        exact g_iret (pc := 34) dX11_work_34 rfl rfl rfl h
      · have h := h.2 c19
        refine g_iload_n (pc := 22) (x := a3) dX11_work_22 rfl ?_
        refine g_bipush (pc := 23) (v := (-99 : Int32)) dX11_work_23 (by decide) ?_
        refine g_bipush (pc := 25) (v := (99 : Int32)) dX11_work_25 (by decide) ?_
        refine g_callS (pc := 27) (as := [.int a3, .int (-99 : Int32), .int (99 : Int32)]) dX11_work_27 cw_X11_144 (by decide) rfl rfl (Nat.le_of_ble_eq_true rfl) (rv_X11_within mm a3 (-99 : Int32) (99 : Int32)) ?_
        rintro r_ m_ hz_ ⟨⟨p_, rfl⟩ | ⟨p_, rfl⟩, rfl⟩
        · have h := h.1 p_
          refine g_if_ne (pc := 30) (tgt := 35) dX11_work_30 (by decide) (fun _ => ?_) (fun c30 => absurd c30 (by decide))
          refine g_aload_n (pc := 35) (x := 0) dX11_work_35 rfl ?_
          refine g_getVt (pc := 36) (t := (mm.2.2 0 10)) dX11_work_36 fo_X11_74 sh_0 rfl rfl ?_
          have hr0 := h.1
          have h := h.2
          refine g_iload_n (pc := 39) (x := a1) dX11_work_39 rfl ?_
          refine g_iload_n (pc := 40) (x := a2) dX11_work_40 rfl ?_
          refine g_iload_n (pc := 41) (x := a3) dX11_work_41 rfl ?_
          obtain ⟨Pm2, hRm2, h⟩ := h
          refine g_callV (pc := 42) (as := [.int a1, .int a2, .int a3]) dX11_work_42 cw_X11_212 (by decide) rfl rfl (AtState_0 hr0) (Nat.le_of_ble_eq_true rfl) hRm2 ?_
          intro r_ m2 hz_ hp_
          obtain ⟨r2, rfl⟩ := hz_
          have h := h r2 m2 hp_
          exact g_iret (pc := 45) dX11_work_45 rfl rfl rfl h
        · have h := h.2 p_
          refine g_if_ne (pc := 30) (tgt := 35) dX11_work_30 (by decide) (fun c30 => absurd c30 (by decide)) (fun _ => ?_)
          refine g_iconst (pc := 33) (v := (-1 : Int32)) dX11_work_33 (by decide) ?_
          exact g_iret (pc := 34) dX11_work_34 rfl rfl rfl h
    · have h := h.2 p_
      refine g_if_eq (pc := 15) (tgt := 33) dX11_work_15 (by decide) (fun _ => ?_) (fun c15 => absurd c15 (by decide))
      refine g_iconst (pc := 33) (v := (-1 : Int32)) dX11_work_33 (by decide) ?_
      exact g_iret (pc := 34) dX11_work_34 rfl rfl rfl h
  · have h := h.2 p_
    refine g_if_eq (pc := 7) (tgt := 33) dX11_work_7 (by decide) (fun _ => ?_) (fun c7 => absurd c7 (by decide))
    refine g_iconst (pc := 33) (v := (-1 : Int32)) dX11_work_33 (by decide) ?_
    exact g_iret (pc := 34) dX11_work_34 rfl rfl rfl h
theorem dX11_forget_0 : decode cX11_forget 0 = .ok (.aload_n 0, 1) := by decide +kernel
theorem dX11_forget_1 : decode cX11_forget 1 = .ok (.getfield 74, 3) := by decide +kernel
theorem dX11_forget_4 : decode cX11_forget 4 = .ok (.getfield 216, 3) := by decide +kernel
theorem dX11_forget_7 : decode cX11_forget 7 = .ok (.istore_n 1, 1) := by decide +kernel
theorem dX11_forget_8 : decode cX11_forget 8 = .ok (.aload_n 0, 1) := by decide +kernel
theorem dX11_forget_9 : decode cX11_forget 9 = .ok (.getfield 74, 3) := by decide +kernel
theorem dX11_forget_12 : decode cX11_forget 12 = .ok (.iconst 0, 1) := by decide +kernel
theorem dX11_forget_13 : decode cX11_forget 13 = .ok (.putfield 216, 3) := by decide +kernel
theorem dX11_forget_16 : decode cX11_forget 16 = .ok (.iload_n 1, 1) := by decide +kernel
theorem dX11_forget_17 : decode cX11_forget 17 = .ok (.ireturn, 1) := by decide +kernel
theorem b_X11_forget (mm : MM) (Q : Value → MM → Prop) (h : AtState (mm.2.2 0 10) ∧ (AtState (mm.2.2 0 10) ∧ (Q (.int (mm.1 (mm.2.2 0 10) 7)) (wI mm (mm.2.2 0 10) 7 (0 : Int32))))) : Runs e_X11_forget [.ref 0] mm Q := by
  refine runs_of_G (L := [(0, .ref 0)]) pl_X11 (Nat.le_of_ble_eq_true rfl) rfl ?_
  refine g_aload_n (pc := 0) (x := 0) dX11_forget_0 rfl ?_
  refine g_getVt (pc := 1) (t := (mm.2.2 0 10)) dX11_forget_1 fo_X11_74 sh_0 rfl rfl ?_
  have hr0 := h.1
  have h := h.2
  refine g_getI (pc := 4) dX11_forget_4 fo_X11_216 (AtState_0 hr0) rfl ?_
  refine g_istore_n (pc := 7) (L' := [(0, .ref 0), (1, .int (mm.1 (mm.2.2 0 10) 7))]) dX11_forget_7 (Nat.le_of_ble_eq_true rfl) rfl ?_
  refine g_aload_n (pc := 8) (x := 0) dX11_forget_8 rfl ?_
  refine g_getVt (pc := 9) (t := (mm.2.2 0 10)) dX11_forget_9 fo_X11_74 sh_0 rfl rfl ?_
  have hr1 := h.1
  have h := h.2
  refine g_iconst (pc := 12) (v := (0 : Int32)) dX11_forget_12 (by decide) ?_
  refine g_putI (pc := 13) dX11_forget_13 fo_X11_216 (AtState_0 hr1) rfl rfl rfl ?_
  refine g_iload_n (pc := 16) (x := (mm.1 (mm.2.2 0 10) 7)) dX11_forget_16 rfl ?_
  exact g_iret (pc := 17) dX11_forget_17 rfl rfl rfl h
theorem dX11_judge_0 : decode cX11_judge 0 = .ok (.aload_n 0, 1) := by decide +kernel
theorem dX11_judge_1 : decode cX11_judge 1 = .ok (.getfield 31, 3) := by decide +kernel
theorem dX11_judge_4 : decode cX11_judge 4 = .ok (.aload_n 0, 1) := by decide +kernel
theorem dX11_judge_5 : decode cX11_judge 5 = .ok (.getfield 69, 3) := by decide +kernel
theorem dX11_judge_8 : decode cX11_judge 8 = .ok (.aload_n 0, 1) := by decide +kernel
theorem dX11_judge_9 : decode cX11_judge 9 = .ok (.getfield 74, 3) := by decide +kernel
theorem dX11_judge_12 : decode cX11_judge 12 = .ok (.aload_n 0, 1) := by decide +kernel
theorem dX11_judge_13 : decode cX11_judge 13 = .ok (.getfield 24, 3) := by decide +kernel
theorem dX11_judge_16 : decode cX11_judge 16 = .ok (.invokevirtual 218, 3) := by decide +kernel
theorem dX11_judge_19 : decode cX11_judge 19 = .ok (.ireturn, 1) := by decide +kernel
theorem b_X11_judge (mm : MM) (Q : Value → MM → Prop) (h : AtTown (mm.2.2 0 9) ∧ (AtState (mm.2.2 0 10) ∧ (∃ Pm3 : Value → MM → Prop, Runs e_X9_verdict [.ref 41, .ref (mm.2.2 0 9), .ref (mm.2.2 0 10), .ref 38] mm Pm3 ∧ ∀ (r3 : Int32) (m3 : MM), Pm3 (.int r3) m3 → (Q (.int r3) m3)))) : Runs e_X11_judge [.ref 0] mm Q := by
  refine runs_of_G (L := [(0, .ref 0)]) pl_X11 (Nat.le_of_ble_eq_true rfl) rfl ?_
  refine g_aload_n (pc := 0) (x := 0) dX11_judge_0 rfl ?_
  refine g_getR (pc := 1) (dd := 41) dX11_judge_1 fo_X11_31 sh_0 rfl ?_
  refine g_aload_n (pc := 4) (x := 0) dX11_judge_4 rfl ?_
  refine g_getVt (pc := 5) (t := (mm.2.2 0 9)) dX11_judge_5 fo_X11_69 sh_0 rfl rfl ?_
  have hr0 := h.1
  have h := h.2
  refine g_aload_n (pc := 8) (x := 0) dX11_judge_8 rfl ?_
  refine g_getVt (pc := 9) (t := (mm.2.2 0 10)) dX11_judge_9 fo_X11_74 sh_0 rfl rfl ?_
  have hr1 := h.1
  have h := h.2
  refine g_aload_n (pc := 12) (x := 0) dX11_judge_12 rfl ?_
  refine g_getR (pc := 13) (dd := 38) dX11_judge_13 fo_X11_24 sh_0 rfl ?_
  obtain ⟨Pm3, hRm3, h⟩ := h
  refine g_callV (pc := 16) (as := [.ref (mm.2.2 0 9), .ref (mm.2.2 0 10), .ref 38]) dX11_judge_16 cw_X11_218 (by decide) rfl rfl sh_41 (Nat.le_of_ble_eq_true rfl) hRm3 ?_
  intro r_ m3 hz_ hp_
  obtain ⟨r3, rfl⟩ := hz_
  have h := h r3 m3 hp_
  exact g_iret (pc := 19) dX11_judge_19 rfl rfl rfl h
theorem dX11_done_0 : decode cX11_done 0 = .ok (.aload_n 0, 1) := by decide +kernel
theorem dX11_done_1 : decode cX11_done 1 = .ok (.getfield 74, 3) := by decide +kernel
theorem dX11_done_4 : decode cX11_done 4 = .ok (.getfield 216, 3) := by decide +kernel
theorem dX11_done_7 : decode cX11_done 7 = .ok (.ifCond .ne 5, 3) := by decide +kernel
theorem dX11_done_10 : decode cX11_done 10 = .ok (.iconst 0, 1) := by decide +kernel
theorem dX11_done_11 : decode cX11_done 11 = .ok (.ireturn, 1) := by decide +kernel
theorem dX11_done_12 : decode cX11_done 12 = .ok (.aload_n 0, 1) := by decide +kernel
theorem dX11_done_13 : decode cX11_done 13 = .ok (.getfield 31, 3) := by decide +kernel
theorem dX11_done_16 : decode cX11_done 16 = .ok (.aload_n 0, 1) := by decide +kernel
theorem dX11_done_17 : decode cX11_done 17 = .ok (.getfield 69, 3) := by decide +kernel
theorem dX11_done_20 : decode cX11_done 20 = .ok (.aload_n 0, 1) := by decide +kernel
theorem dX11_done_21 : decode cX11_done 21 = .ok (.getfield 74, 3) := by decide +kernel
theorem dX11_done_24 : decode cX11_done 24 = .ok (.aload_n 0, 1) := by decide +kernel
theorem dX11_done_25 : decode cX11_done 25 = .ok (.getfield 24, 3) := by decide +kernel
theorem dX11_done_28 : decode cX11_done 28 = .ok (.invokevirtual 218, 3) := by decide +kernel
theorem dX11_done_31 : decode cX11_done 31 = .ok (.ifCond .eq 6, 3) := by decide +kernel
theorem dX11_done_34 : decode cX11_done 34 = .ok (.bipush (-2), 2) := by decide +kernel
theorem dX11_done_36 : decode cX11_done 36 = .ok (.ireturn, 1) := by decide +kernel
theorem dX11_done_37 : decode cX11_done 37 = .ok (.aload_n 0, 1) := by decide +kernel
theorem dX11_done_38 : decode cX11_done 38 = .ok (.getfield 31, 3) := by decide +kernel
theorem dX11_done_41 : decode cX11_done 41 = .ok (.aload_n 0, 1) := by decide +kernel
theorem dX11_done_42 : decode cX11_done 42 = .ok (.getfield 74, 3) := by decide +kernel
theorem dX11_done_45 : decode cX11_done 45 = .ok (.invokevirtual 222, 3) := by decide +kernel
theorem dX11_done_48 : decode cX11_done 48 = .ok (.aload_n 0, 1) := by decide +kernel
theorem dX11_done_49 : decode cX11_done 49 = .ok (.getfield 31, 3) := by decide +kernel
theorem dX11_done_52 : decode cX11_done 52 = .ok (.getfield 226, 3) := by decide +kernel
theorem dX11_done_55 : decode cX11_done 55 = .ok (.ireturn, 1) := by decide +kernel
theorem b_X11_done (mm : MM) (Q : Value → MM → Prop) (h : AtState (mm.2.2 0 10) ∧ ((¬ (mm.1 (mm.2.2 0 10) 7) = 0 → (AtTown (mm.2.2 0 9) ∧ (AtState (mm.2.2 0 10) ∧ (∃ Pm4 : Value → MM → Prop, Runs e_X9_verdict [.ref 41, .ref (mm.2.2 0 9), .ref (mm.2.2 0 10), .ref 38] mm Pm4 ∧ ∀ (r4 : Int32) (m4 : MM), Pm4 (.int r4) m4 → ((r4 = 0 → (AtState (m4.2.2 0 10) ∧ (∃ Pm6 : Value → MM → Prop, Runs e_X9_carryOut [.ref 41, .ref (m4.2.2 0 10)] m4 Pm6 ∧ ∀ m6, Pm6 .null m6 → (Q (.int (m6.1 41 6)) m6)))) ∧ (¬ r4 = 0 → (Q (.int (-2 : Int32)) m4))))))) ∧ ((mm.1 (mm.2.2 0 10) 7) = 0 → (Q (.int (0 : Int32)) mm)))) : Runs e_X11_done [.ref 0] mm Q := by
  refine runs_of_G (L := [(0, .ref 0)]) pl_X11 (Nat.le_of_ble_eq_true rfl) rfl ?_
  refine g_aload_n (pc := 0) (x := 0) dX11_done_0 rfl ?_
  refine g_getVt (pc := 1) (t := (mm.2.2 0 10)) dX11_done_1 fo_X11_74 sh_0 rfl rfl ?_
  have hr0 := h.1
  have h := h.2
  refine g_getI (pc := 4) dX11_done_4 fo_X11_216 (AtState_0 hr0) rfl ?_
  refine g_if_ne (pc := 7) (tgt := 12) dX11_done_7 (by decide) (fun c7 => ?_) (fun c7 => ?_)
  · have h := h.1 c7
    refine g_aload_n (pc := 12) (x := 0) dX11_done_12 rfl ?_
    refine g_getR (pc := 13) (dd := 41) dX11_done_13 fo_X11_31 sh_0 rfl ?_
    refine g_aload_n (pc := 16) (x := 0) dX11_done_16 rfl ?_
    refine g_getVt (pc := 17) (t := (mm.2.2 0 9)) dX11_done_17 fo_X11_69 sh_0 rfl rfl ?_
    have hr1 := h.1
    have h := h.2
    refine g_aload_n (pc := 20) (x := 0) dX11_done_20 rfl ?_
    refine g_getVt (pc := 21) (t := (mm.2.2 0 10)) dX11_done_21 fo_X11_74 sh_0 rfl rfl ?_
    have hr2 := h.1
    have h := h.2
    refine g_aload_n (pc := 24) (x := 0) dX11_done_24 rfl ?_
    refine g_getR (pc := 25) (dd := 38) dX11_done_25 fo_X11_24 sh_0 rfl ?_
    obtain ⟨Pm4, hRm4, h⟩ := h
    refine g_callV (pc := 28) (as := [.ref (mm.2.2 0 9), .ref (mm.2.2 0 10), .ref 38]) dX11_done_28 cw_X11_218 (by decide) rfl rfl sh_41 (Nat.le_of_ble_eq_true rfl) hRm4 ?_
    intro r_ m4 hz_ hp_
    obtain ⟨r4, rfl⟩ := hz_
    have h := h r4 m4 hp_
    refine g_if_eq (pc := 31) (tgt := 37) dX11_done_31 (by decide) (fun c31 => ?_) (fun c31 => ?_)
    · have h := h.1 c31
      refine g_aload_n (pc := 37) (x := 0) dX11_done_37 rfl ?_
      refine g_getR (pc := 38) (dd := 41) dX11_done_38 fo_X11_31 sh_0 rfl ?_
      refine g_aload_n (pc := 41) (x := 0) dX11_done_41 rfl ?_
      refine g_getVt (pc := 42) (t := (m4.2.2 0 10)) dX11_done_42 fo_X11_74 sh_0 rfl rfl ?_
      have hr4 := h.1
      have h := h.2
      obtain ⟨Pm6, hRm6, h⟩ := h
      refine g_callV (pc := 45) (as := [.ref (m4.2.2 0 10)]) dX11_done_45 cw_X11_222 (by decide) rfl rfl sh_41 (Nat.le_of_ble_eq_true rfl) hRm6 ?_
      intro r_ m6 hz_ hp_
      obtain rfl := hz_
      have h := h m6 hp_
      refine g_aload_n (pc := 48) (x := 0) dX11_done_48 rfl ?_
      refine g_getR (pc := 49) (dd := 41) dX11_done_49 fo_X11_31 sh_0 rfl ?_
      refine g_getI (pc := 52) dX11_done_52 fo_X11_226 sh_41 rfl ?_
      exact g_iret (pc := 55) dX11_done_55 rfl rfl rfl h
    · have h := h.2 c31
      refine g_bipush (pc := 34) (v := (-2 : Int32)) dX11_done_34 (by decide) ?_
      exact g_iret (pc := 36) dX11_done_36 rfl rfl rfl h
  · have h := h.2 c7
    refine g_iconst (pc := 10) (v := (0 : Int32)) dX11_done_10 (by decide) ?_
    exact g_iret (pc := 11) dX11_done_11 rfl rfl rfl h
theorem dX11_undo_0 : decode cX11_undo 0 = .ok (.aload_n 0, 1) := by decide +kernel
theorem dX11_undo_1 : decode cX11_undo 1 = .ok (.getfield 31, 3) := by decide +kernel
theorem dX11_undo_4 : decode cX11_undo 4 = .ok (.aload_n 0, 1) := by decide +kernel
theorem dX11_undo_5 : decode cX11_undo 5 = .ok (.getfield 74, 3) := by decide +kernel
theorem dX11_undo_8 : decode cX11_undo 8 = .ok (.invokevirtual 229, 3) := by decide +kernel
theorem dX11_undo_11 : decode cX11_undo 11 = .ok (.ireturn, 1) := by decide +kernel
theorem b_X11_undo (mm : MM) (Q : Value → MM → Prop) (h : AtState (mm.2.2 0 10) ∧ (∃ Pm2 : Value → MM → Prop, Runs e_X9_takeBack [.ref 41, .ref (mm.2.2 0 10)] mm Pm2 ∧ (∀ r m2, Pm2 r m2 → r = .int 1 ∨ r = .int 0) ∧ (∀ m2, Pm2 (.int 1) m2 → (Q (.int (1 : Int32)) m2)) ∧ (∀ m2, Pm2 (.int 0) m2 → (Q (.int (0 : Int32)) m2)))) : Runs e_X11_undo [.ref 0] mm Q := by
  refine runs_of_G (L := [(0, .ref 0)]) pl_X11 (Nat.le_of_ble_eq_true rfl) rfl ?_
  refine g_aload_n (pc := 0) (x := 0) dX11_undo_0 rfl ?_
  refine g_getR (pc := 1) (dd := 41) dX11_undo_1 fo_X11_31 sh_0 rfl ?_
  refine g_aload_n (pc := 4) (x := 0) dX11_undo_4 rfl ?_
  refine g_getVt (pc := 5) (t := (mm.2.2 0 10)) dX11_undo_5 fo_X11_74 sh_0 rfl rfl ?_
  have hr0 := h.1
  have h := h.2
  obtain ⟨Pm2, hRm2, h⟩ := h
  refine g_callV (pc := 8) (as := [.ref (mm.2.2 0 10)]) dX11_undo_8 cw_X11_229 (by decide) rfl rfl sh_41 (Nat.le_of_ble_eq_true rfl) hRm2 ?_
  intro r_ m2 hz_ hp_
  rcases h.1 r_ m2 hp_ with rfl | rfl
  · have h := h.2.1 m2 hp_
    exact g_iret (pc := 11) dX11_undo_11 rfl rfl (nar_B isB1) h
  · have h := h.2.2 m2 hp_
    exact g_iret (pc := 11) dX11_undo_11 rfl rfl (nar_B isB0) h
theorem dX11_nights_0 : decode cX11_nights 0 = .ok (.iload_n 1, 1) := by decide +kernel
theorem dX11_nights_1 : decode cX11_nights 1 = .ok (.iconst 0, 1) := by decide +kernel
theorem dX11_nights_2 : decode cX11_nights 2 = .ok (.iconst 2, 1) := by decide +kernel
theorem dX11_nights_3 : decode cX11_nights 3 = .ok (.invokestatic 144, 3) := by decide +kernel
theorem dX11_nights_6 : decode cX11_nights 6 = .ok (.ifCond .ne 5, 3) := by decide +kernel
theorem dX11_nights_9 : decode cX11_nights 9 = .ok (.iconst (-1), 1) := by decide +kernel
theorem dX11_nights_10 : decode cX11_nights 10 = .ok (.ireturn, 1) := by decide +kernel
theorem dX11_nights_11 : decode cX11_nights 11 = .ok (.aload_n 0, 1) := by decide +kernel
theorem dX11_nights_12 : decode cX11_nights 12 = .ok (.getfield 69, 3) := by decide +kernel
theorem dX11_nights_15 : decode cX11_nights 15 = .ok (.aload_n 0, 1) := by decide +kernel
theorem dX11_nights_16 : decode cX11_nights 16 = .ok (.getfield 74, 3) := by decide +kernel
theorem dX11_nights_19 : decode cX11_nights 19 = .ok (.invokevirtual 181, 3) := by decide +kernel
theorem dX11_nights_22 : decode cX11_nights 22 = .ok (.istore_n 2, 1) := by decide +kernel
theorem dX11_nights_23 : decode cX11_nights 23 = .ok (.iload_n 1, 1) := by decide +kernel
theorem dX11_nights_24 : decode cX11_nights 24 = .ok (.iconst 2, 1) := by decide +kernel
theorem dX11_nights_25 : decode cX11_nights 25 = .ok (.if_icmp .ne 30, 3) := by decide +kernel
theorem dX11_nights_28 : decode cX11_nights 28 = .ok (.iload_n 2, 1) := by decide +kernel
theorem dX11_nights_29 : decode cX11_nights 29 = .ok (.invokestatic 185, 3) := by decide +kernel
theorem dX11_nights_32 : decode cX11_nights 32 = .ok (.aload_n 0, 1) := by decide +kernel
theorem dX11_nights_33 : decode cX11_nights 33 = .ok (.getfield 69, 3) := by decide +kernel
theorem dX11_nights_36 : decode cX11_nights 36 = .ok (.getfield 233, 3) := by decide +kernel
theorem dX11_nights_39 : decode cX11_nights 39 = .ok (.iadd, 1) := by decide +kernel
theorem dX11_nights_40 : decode cX11_nights 40 = .ok (.iconst 1, 1) := by decide +kernel
theorem dX11_nights_41 : decode cX11_nights 41 = .ok (.isub, 1) := by decide +kernel
theorem dX11_nights_42 : decode cX11_nights 42 = .ok (.iconst 1, 1) := by decide +kernel
theorem dX11_nights_43 : decode cX11_nights 43 = .ok (.aload_n 0, 1) := by decide +kernel
theorem dX11_nights_44 : decode cX11_nights 44 = .ok (.getfield 69, 3) := by decide +kernel
theorem dX11_nights_47 : decode cX11_nights 47 = .ok (.getfield 233, 3) := by decide +kernel
theorem dX11_nights_50 : decode cX11_nights 50 = .ok (.invokestatic 236, 3) := by decide +kernel
theorem dX11_nights_53 : decode cX11_nights 53 = .ok (.idiv, 1) := by decide +kernel
theorem dX11_nights_54 : decode cX11_nights 54 = .ok (.ireturn, 1) := by decide +kernel
theorem dX11_nights_55 : decode cX11_nights 55 = .ok (.iload_n 2, 1) := by decide +kernel
theorem dX11_nights_56 : decode cX11_nights 56 = .ok (.invokestatic 185, 3) := by decide +kernel
theorem dX11_nights_59 : decode cX11_nights 59 = .ok (.bipush 8, 2) := by decide +kernel
theorem dX11_nights_61 : decode cX11_nights 61 = .ok (.if_icmp .le 6, 3) := by decide +kernel
theorem dX11_nights_64 : decode cX11_nights 64 = .ok (.bipush (-2), 2) := by decide +kernel
theorem dX11_nights_66 : decode cX11_nights 66 = .ok (.ireturn, 1) := by decide +kernel
theorem dX11_nights_67 : decode cX11_nights 67 = .ok (.iload_n 2, 1) := by decide +kernel
theorem dX11_nights_68 : decode cX11_nights 68 = .ok (.ifCond .ne 5, 3) := by decide +kernel
theorem dX11_nights_71 : decode cX11_nights 71 = .ok (.iconst 0, 1) := by decide +kernel
theorem dX11_nights_72 : decode cX11_nights 72 = .ok (.ireturn, 1) := by decide +kernel
theorem dX11_nights_73 : decode cX11_nights 73 = .ok (.aload_n 0, 1) := by decide +kernel
theorem dX11_nights_74 : decode cX11_nights 74 = .ok (.getfield 38, 3) := by decide +kernel
theorem dX11_nights_77 : decode cX11_nights 77 = .ok (.aload_n 0, 1) := by decide +kernel
theorem dX11_nights_78 : decode cX11_nights 78 = .ok (.getfield 69, 3) := by decide +kernel
theorem dX11_nights_81 : decode cX11_nights 81 = .ok (.aload_n 0, 1) := by decide +kernel
theorem dX11_nights_82 : decode cX11_nights 82 = .ok (.getfield 74, 3) := by decide +kernel
theorem dX11_nights_85 : decode cX11_nights 85 = .ok (.iload_n 2, 1) := by decide +kernel
theorem dX11_nights_86 : decode cX11_nights 86 = .ok (.invokevirtual 242, 3) := by decide +kernel
theorem dX11_nights_89 : decode cX11_nights 89 = .ok (.aload_n 0, 1) := by decide +kernel
theorem dX11_nights_90 : decode cX11_nights 90 = .ok (.getfield 38, 3) := by decide +kernel
theorem dX11_nights_93 : decode cX11_nights 93 = .ok (.invokevirtual 246, 3) := by decide +kernel
theorem dX11_nights_96 : decode cX11_nights 96 = .ok (.bipush (-2), 2) := by decide +kernel
theorem dX11_nights_98 : decode cX11_nights 98 = .ok (.if_icmp .ne 6, 3) := by decide +kernel
theorem dX11_nights_101 : decode cX11_nights 101 = .ok (.bipush (-2), 2) := by decide +kernel
theorem dX11_nights_103 : decode cX11_nights 103 = .ok (.ireturn, 1) := by decide +kernel
theorem dX11_nights_104 : decode cX11_nights 104 = .ok (.iload_n 1, 1) := by decide +kernel
theorem dX11_nights_105 : decode cX11_nights 105 = .ok (.ifCond .ne 13, 3) := by decide +kernel
theorem dX11_nights_108 : decode cX11_nights 108 = .ok (.aload_n 0, 1) := by decide +kernel
theorem dX11_nights_109 : decode cX11_nights 109 = .ok (.getfield 38, 3) := by decide +kernel
theorem dX11_nights_112 : decode cX11_nights 112 = .ok (.invokevirtual 246, 3) := by decide +kernel
theorem dX11_nights_115 : decode cX11_nights 115 = .ok (.goto 17, 3) := by decide +kernel
theorem dX11_nights_118 : decode cX11_nights 118 = .ok (.aload_n 0, 1) := by decide +kernel
theorem dX11_nights_119 : decode cX11_nights 119 = .ok (.getfield 38, 3) := by decide +kernel
theorem dX11_nights_122 : decode cX11_nights 122 = .ok (.aload_n 0, 1) := by decide +kernel
theorem dX11_nights_123 : decode cX11_nights 123 = .ok (.getfield 69, 3) := by decide +kernel
theorem dX11_nights_126 : decode cX11_nights 126 = .ok (.getfield 233, 3) := by decide +kernel
theorem dX11_nights_129 : decode cX11_nights 129 = .ok (.invokevirtual 249, 3) := by decide +kernel
theorem dX11_nights_132 : decode cX11_nights 132 = .ok (.ireturn, 1) := by decide +kernel
theorem b_X11_nights (mm : MM) (Q : Value → MM → Prop) (a1 : Int32) (h : (p_X11_within mm a1 (0 : Int32) (2 : Int32) → (AtTown (mm.2.2 0 9) ∧ (AtState (mm.2.2 0 10) ∧ (∃ Pm3 : Value → MM → Prop, Runs e_X8_untrueBits [.ref (mm.2.2 0 9), .ref (mm.2.2 0 10)] mm Pm3 ∧ ∀ (r3 : Int32) (m3 : MM), Pm3 (.int r3) m3 → ((¬ a1 = (2 : Int32) → (((v_J6_bitCount_0f7a4 m3 r3) ≤ (8 : Int32) → ((¬ r3 = 0 → (AtTown (m3.2.2 0 9) ∧ (AtState (m3.2.2 0 10) ∧ (∃ Pm6 : Value → MM → Prop, Runs e_X3_search [.ref 86, .ref (m3.2.2 0 9), .ref (m3.2.2 0 10), .int r3] m3 Pm6 ∧ ∀ m6, Pm6 .null m6 → ((¬ (v_X3_fewest m6) = (-2 : Int32) → ((¬ a1 = 0 → (AtTown (m6.2.2 0 9) ∧ (∃ Pm8 : Value → MM → Prop, Runs e_X3_firstNight [.ref 86, .int (m6.1 (m6.2.2 0 9) 14)] m6 Pm8 ∧ ∀ (r8 : Int32) (m8 : MM), Pm8 (.int r8) m8 → (Q (.int r8) m8)))) ∧ (a1 = 0 → (Q (.int (v_X3_fewest m6)) m6)))) ∧ ((v_X3_fewest m6) = (-2 : Int32) → (Q (.int (-2 : Int32)) m6))))))) ∧ (r3 = 0 → (Q (.int (0 : Int32)) m3)))) ∧ (¬ (v_J6_bitCount_0f7a4 m3 r3) ≤ (8 : Int32) → (Q (.int (-2 : Int32)) m3)))) ∧ (a1 = (2 : Int32) → (AtTown (m3.2.2 0 9) ∧ (AtTown (m3.2.2 0 9) ∧ (¬ (imax (1 : Int32) (m3.1 (m3.2.2 0 9) 14)) = 0 ∧ (Q (.int ((((v_J6_bitCount_0f7a4 m3 r3) + (m3.1 (m3.2.2 0 9) 14)) - (1 : Int32)) / (imax (1 : Int32) (m3.1 (m3.2.2 0 9) 14)))) m3)))))))))) ∧ (¬ p_X11_within mm a1 (0 : Int32) (2 : Int32) → (Q (.int (-1 : Int32)) mm))) : Runs e_X11_nights [.ref 0, .int a1] mm Q := by
  refine runs_of_G (L := [(0, .ref 0), (1, .int a1)]) pl_X11 (Nat.le_of_ble_eq_true rfl) rfl ?_
  refine g_iload_n (pc := 0) (x := a1) dX11_nights_0 rfl ?_
  refine g_iconst (pc := 1) (v := (0 : Int32)) dX11_nights_1 (by decide) ?_
  refine g_iconst (pc := 2) (v := (2 : Int32)) dX11_nights_2 (by decide) ?_
  refine g_callS (pc := 3) (as := [.int a1, .int (0 : Int32), .int (2 : Int32)]) dX11_nights_3 cw_X11_144 (by decide) rfl rfl (Nat.le_of_ble_eq_true rfl) (rv_X11_within mm a1 (0 : Int32) (2 : Int32)) ?_
  rintro r_ m_ hz_ ⟨⟨p_, rfl⟩ | ⟨p_, rfl⟩, rfl⟩
  · have h := h.1 p_
    refine g_if_ne (pc := 6) (tgt := 11) dX11_nights_6 (by decide) (fun _ => ?_) (fun c6 => absurd c6 (by decide))
    refine g_aload_n (pc := 11) (x := 0) dX11_nights_11 rfl ?_
    refine g_getVt (pc := 12) (t := (mm.2.2 0 9)) dX11_nights_12 fo_X11_69 sh_0 rfl rfl ?_
    have hr0 := h.1
    have h := h.2
    refine g_aload_n (pc := 15) (x := 0) dX11_nights_15 rfl ?_
    refine g_getVt (pc := 16) (t := (mm.2.2 0 10)) dX11_nights_16 fo_X11_74 sh_0 rfl rfl ?_
    have hr1 := h.1
    have h := h.2
    obtain ⟨Pm3, hRm3, h⟩ := h
    refine g_callV (pc := 19) (as := [.ref (mm.2.2 0 10)]) dX11_nights_19 cw_X11_181 (by decide) rfl rfl (AtTown_0 hr0) (Nat.le_of_ble_eq_true rfl) hRm3 ?_
    intro r_ m3 hz_ hp_
    obtain ⟨r3, rfl⟩ := hz_
    have h := h r3 m3 hp_
    refine g_istore_n (pc := 22) (L' := [(0, .ref 0), (1, .int a1), (2, .int r3)]) dX11_nights_22 (Nat.le_of_ble_eq_true rfl) rfl ?_
    refine g_iload_n (pc := 23) (x := a1) dX11_nights_23 rfl ?_
    refine g_iconst (pc := 24) (v := (2 : Int32)) dX11_nights_24 (by decide) ?_
    refine g_icmp_ne (pc := 25) (tgt := 55) dX11_nights_25 (by decide) (fun c25 => ?_) (fun c25 => ?_)
    · have h := h.1 c25
      refine g_iload_n (pc := 55) (x := r3) dX11_nights_55 rfl ?_
      refine g_callS (pc := 56) (as := [.int r3]) dX11_nights_56 cw_X11_185 (by decide) rfl rfl (Nat.le_of_ble_eq_true rfl) (rv_J6_bitCount_0f7a4 m3 r3) ?_
      rintro r_ m_ hz_ ⟨rfl, rfl⟩
      refine g_bipush (pc := 59) (v := (8 : Int32)) dX11_nights_59 (by decide) ?_
      refine g_icmp_le (pc := 61) (tgt := 67) dX11_nights_61 (by decide) (fun c61 => ?_) (fun c61 => ?_)
      · have h := h.1 c61
        refine g_iload_n (pc := 67) (x := r3) dX11_nights_67 rfl ?_
        refine g_if_ne (pc := 68) (tgt := 73) dX11_nights_68 (by decide) (fun c68 => ?_) (fun c68 => ?_)
        · have h := h.1 c68
          refine g_aload_n (pc := 73) (x := 0) dX11_nights_73 rfl ?_
          refine g_getR (pc := 74) (dd := 86) dX11_nights_74 fo_X11_38 sh_0 rfl ?_
          refine g_aload_n (pc := 77) (x := 0) dX11_nights_77 rfl ?_
          refine g_getVt (pc := 78) (t := (m3.2.2 0 9)) dX11_nights_78 fo_X11_69 sh_0 rfl rfl ?_
          have hr3 := h.1
          have h := h.2
          refine g_aload_n (pc := 81) (x := 0) dX11_nights_81 rfl ?_
          refine g_getVt (pc := 82) (t := (m3.2.2 0 10)) dX11_nights_82 fo_X11_74 sh_0 rfl rfl ?_
          have hr4 := h.1
          have h := h.2
          refine g_iload_n (pc := 85) (x := r3) dX11_nights_85 rfl ?_
          obtain ⟨Pm6, hRm6, h⟩ := h
          refine g_callV (pc := 86) (as := [.ref (m3.2.2 0 9), .ref (m3.2.2 0 10), .int r3]) dX11_nights_86 cw_X11_242 (by decide) rfl rfl sh_86 (Nat.le_of_ble_eq_true rfl) hRm6 ?_
          intro r_ m6 hz_ hp_
          obtain rfl := hz_
          have h := h m6 hp_
          refine g_aload_n (pc := 89) (x := 0) dX11_nights_89 rfl ?_
          refine g_getR (pc := 90) (dd := 86) dX11_nights_90 fo_X11_38 sh_0 rfl ?_
          refine g_callV (pc := 93) (as := []) dX11_nights_93 cw_X11_246 (by decide) rfl rfl sh_86 (Nat.le_of_ble_eq_true rfl) (rv_X3_fewest m6) ?_
          rintro r_ m_ hz_ ⟨rfl, rfl⟩
          refine g_bipush (pc := 96) (v := (-2 : Int32)) dX11_nights_96 (by decide) ?_
          refine g_icmp_ne (pc := 98) (tgt := 104) dX11_nights_98 (by decide) (fun c98 => ?_) (fun c98 => ?_)
          · have h := h.1 c98
            refine g_iload_n (pc := 104) (x := a1) dX11_nights_104 rfl ?_
            refine g_if_ne (pc := 105) (tgt := 118) dX11_nights_105 (by decide) (fun c105 => ?_) (fun c105 => ?_)
            · have h := h.1 c105
              refine g_aload_n (pc := 118) (x := 0) dX11_nights_118 rfl ?_
              refine g_getR (pc := 119) (dd := 86) dX11_nights_119 fo_X11_38 sh_0 rfl ?_
              refine g_aload_n (pc := 122) (x := 0) dX11_nights_122 rfl ?_
              refine g_getVt (pc := 123) (t := (m6.2.2 0 9)) dX11_nights_123 fo_X11_69 sh_0 rfl rfl ?_
              have hr6 := h.1
              have h := h.2
              refine g_getI (pc := 126) dX11_nights_126 fo_X11_233 (AtTown_0 hr6) rfl ?_
              obtain ⟨Pm8, hRm8, h⟩ := h
              refine g_callV (pc := 129) (as := [.int (m6.1 (m6.2.2 0 9) 14)]) dX11_nights_129 cw_X11_249 (by decide) rfl rfl sh_86 (Nat.le_of_ble_eq_true rfl) hRm8 ?_
              intro r_ m8 hz_ hp_
              obtain ⟨r8, rfl⟩ := hz_
              have h := h r8 m8 hp_
              exact g_iret (pc := 132) dX11_nights_132 rfl rfl rfl h
            · have h := h.2 c105
              refine g_aload_n (pc := 108) (x := 0) dX11_nights_108 rfl ?_
              refine g_getR (pc := 109) (dd := 86) dX11_nights_109 fo_X11_38 sh_0 rfl ?_
              refine g_callV (pc := 112) (as := []) dX11_nights_112 cw_X11_246 (by decide) rfl rfl sh_86 (Nat.le_of_ble_eq_true rfl) (rv_X3_fewest m6) ?_
              rintro r_ m_ hz_ ⟨rfl, rfl⟩
              refine g_goto (pc := 115) (tgt := 132) dX11_nights_115 (by decide) ?_
              exact g_iret (pc := 132) dX11_nights_132 rfl rfl rfl h
          · have h := h.2 c98
            refine g_bipush (pc := 101) (v := (-2 : Int32)) dX11_nights_101 (by decide) ?_
            exact g_iret (pc := 103) dX11_nights_103 rfl rfl rfl h
        · have h := h.2 c68
          refine g_iconst (pc := 71) (v := (0 : Int32)) dX11_nights_71 (by decide) ?_
          exact g_iret (pc := 72) dX11_nights_72 rfl rfl rfl h
      · have h := h.2 c61
        refine g_bipush (pc := 64) (v := (-2 : Int32)) dX11_nights_64 (by decide) ?_
        exact g_iret (pc := 66) dX11_nights_66 rfl rfl rfl h
    · have h := h.2 c25
      refine g_iload_n (pc := 28) (x := r3) dX11_nights_28 rfl ?_
      refine g_callS (pc := 29) (as := [.int r3]) dX11_nights_29 cw_X11_185 (by decide) rfl rfl (Nat.le_of_ble_eq_true rfl) (rv_J6_bitCount_0f7a4 m3 r3) ?_
      rintro r_ m_ hz_ ⟨rfl, rfl⟩
      refine g_aload_n (pc := 32) (x := 0) dX11_nights_32 rfl ?_
      refine g_getVt (pc := 33) (t := (m3.2.2 0 9)) dX11_nights_33 fo_X11_69 sh_0 rfl rfl ?_
      have hr3 := h.1
      have h := h.2
      refine g_getI (pc := 36) dX11_nights_36 fo_X11_233 (AtTown_0 hr3) rfl ?_
      refine g_iadd (pc := 39) dX11_nights_39 ?_
      refine g_iconst (pc := 40) (v := (1 : Int32)) dX11_nights_40 (by decide) ?_
      refine g_isub (pc := 41) dX11_nights_41 ?_
      refine g_iconst (pc := 42) (v := (1 : Int32)) dX11_nights_42 (by decide) ?_
      refine g_aload_n (pc := 43) (x := 0) dX11_nights_43 rfl ?_
      refine g_getVt (pc := 44) (t := (m3.2.2 0 9)) dX11_nights_44 fo_X11_69 sh_0 rfl rfl ?_
      have hr4 := h.1
      have h := h.2
      refine g_getI (pc := 47) dX11_nights_47 fo_X11_233 (AtTown_0 hr4) rfl ?_
      refine g_mmax (pc := 50) dX11_nights_50 cw_X11_236 (by decide) (Nat.le_of_ble_eq_true rfl) ?_
      refine g_idiv (pc := 53) dX11_nights_53 h.1 ?_
      have h := h.2
      exact g_iret (pc := 54) dX11_nights_54 rfl rfl rfl h
  · have h := h.2 p_
    refine g_if_ne (pc := 6) (tgt := 11) dX11_nights_6 (by decide) (fun c6 => absurd c6 (by decide)) (fun _ => ?_)
    refine g_iconst (pc := 9) (v := (-1 : Int32)) dX11_nights_9 (by decide) ?_
    exact g_iret (pc := 10) dX11_nights_10 rfl rfl rfl h
theorem dX11_looks_0 : decode cX11_looks 0 = .ok (.aload_n 0, 1) := by decide +kernel
theorem dX11_looks_1 : decode cX11_looks 1 = .ok (.iload_n 1, 1) := by decide +kernel
theorem dX11_looks_2 : decode cX11_looks 2 = .ok (.invokevirtual 109, 3) := by decide +kernel
theorem dX11_looks_5 : decode cX11_looks 5 = .ok (.ifCond .eq 16, 3) := by decide +kernel
theorem dX11_looks_8 : decode cX11_looks 8 = .ok (.aload_n 0, 1) := by decide +kernel
theorem dX11_looks_9 : decode cX11_looks 9 = .ok (.iload_n 2, 1) := by decide +kernel
theorem dX11_looks_10 : decode cX11_looks 10 = .ok (.invokevirtual 109, 3) := by decide +kernel
theorem dX11_looks_13 : decode cX11_looks 13 = .ok (.ifCond .eq 8, 3) := by decide +kernel
theorem dX11_looks_16 : decode cX11_looks 16 = .ok (.iload_n 1, 1) := by decide +kernel
theorem dX11_looks_17 : decode cX11_looks 17 = .ok (.iload_n 2, 1) := by decide +kernel
theorem dX11_looks_18 : decode cX11_looks 18 = .ok (.if_icmp .ne 5, 3) := by decide +kernel
theorem dX11_looks_21 : decode cX11_looks 21 = .ok (.iconst (-1), 1) := by decide +kernel
theorem dX11_looks_22 : decode cX11_looks 22 = .ok (.ireturn, 1) := by decide +kernel
theorem dX11_looks_23 : decode cX11_looks 23 = .ok (.aload_n 0, 1) := by decide +kernel
theorem dX11_looks_24 : decode cX11_looks 24 = .ok (.getfield 69, 3) := by decide +kernel
theorem dX11_looks_27 : decode cX11_looks 27 = .ok (.aload_n 0, 1) := by decide +kernel
theorem dX11_looks_28 : decode cX11_looks 28 = .ok (.getfield 74, 3) := by decide +kernel
theorem dX11_looks_31 : decode cX11_looks 31 = .ok (.getfield 117, 3) := by decide +kernel
theorem dX11_looks_34 : decode cX11_looks 34 = .ok (.iload_n 1, 1) := by decide +kernel
theorem dX11_looks_35 : decode cX11_looks 35 = .ok (.iload_n 2, 1) := by decide +kernel
theorem dX11_looks_36 : decode cX11_looks 36 = .ok (.invokevirtual 252, 3) := by decide +kernel
theorem dX11_looks_39 : decode cX11_looks 39 = .ok (.ifCond .eq 7, 3) := by decide +kernel
theorem dX11_looks_42 : decode cX11_looks 42 = .ok (.iconst 1, 1) := by decide +kernel
theorem dX11_looks_43 : decode cX11_looks 43 = .ok (.goto 4, 3) := by decide +kernel
theorem dX11_looks_46 : decode cX11_looks 46 = .ok (.iconst 0, 1) := by decide +kernel
theorem dX11_looks_47 : decode cX11_looks 47 = .ok (.ireturn, 1) := by decide +kernel
theorem b_X11_looks (mm : MM) (Q : Value → MM → Prop) (a1 : Int32) (a2 : Int32) (h : o_X11_isHouse mm a1 ∧ ((p_X11_isHouse mm a1 → (o_X11_isHouse mm a2 ∧ ((p_X11_isHouse mm a2 → ((¬ a1 = a2 → (AtTown (mm.2.2 0 9) ∧ (AtState (mm.2.2 0 10) ∧ (∃ Pm3 : Value → MM → Prop, Runs e_X8_seesInto [.ref (mm.2.2 0 9), .ref ((mm.2.2 0 10) + 1), .int a1, .int a2] mm Pm3 ∧ (∀ r m3, Pm3 r m3 → r = .int 1 ∨ r = .int 0) ∧ (∀ m3, Pm3 (.int 1) m3 → (Q (.int (1 : Int32)) m3)) ∧ (∀ m3, Pm3 (.int 0) m3 → (Q (.int (0 : Int32)) m3)))))) ∧ (a1 = a2 → (Q (.int (-1 : Int32)) mm)))) ∧ (¬ p_X11_isHouse mm a2 → (Q (.int (-1 : Int32)) mm))))) ∧ (¬ p_X11_isHouse mm a1 → (Q (.int (-1 : Int32)) mm)))) : Runs e_X11_looks [.ref 0, .int a1, .int a2] mm Q := by
  refine runs_of_G (L := [(0, .ref 0), (1, .int a1), (2, .int a2)]) pl_X11 (Nat.le_of_ble_eq_true rfl) rfl ?_
  refine g_aload_n (pc := 0) (x := 0) dX11_looks_0 rfl ?_
  refine g_iload_n (pc := 1) (x := a1) dX11_looks_1 rfl ?_
  refine g_callV (pc := 2) (as := [.int a1]) dX11_looks_2 cw_X11_109 (by decide) rfl rfl sh_0 (Nat.le_of_ble_eq_true rfl) (rv_X11_isHouse mm a1 h.1) ?_
  have h := h.2
  rintro r_ m_ hz_ ⟨⟨p_, rfl⟩ | ⟨p_, rfl⟩, rfl⟩
  · have h := h.1 p_
    refine g_if_eq (pc := 5) (tgt := 21) dX11_looks_5 (by decide) (fun c5 => absurd c5 (by decide)) (fun _ => ?_)
    refine g_aload_n (pc := 8) (x := 0) dX11_looks_8 rfl ?_
    refine g_iload_n (pc := 9) (x := a2) dX11_looks_9 rfl ?_
    refine g_callV (pc := 10) (as := [.int a2]) dX11_looks_10 cw_X11_109 (by decide) rfl rfl sh_0 (Nat.le_of_ble_eq_true rfl) (rv_X11_isHouse mm a2 h.1) ?_
    have h := h.2
    rintro r_ m_ hz_ ⟨⟨p_, rfl⟩ | ⟨p_, rfl⟩, rfl⟩
    · have h := h.1 p_
      refine g_if_eq (pc := 13) (tgt := 21) dX11_looks_13 (by decide) (fun c13 => absurd c13 (by decide)) (fun _ => ?_)
      refine g_iload_n (pc := 16) (x := a1) dX11_looks_16 rfl ?_
      refine g_iload_n (pc := 17) (x := a2) dX11_looks_17 rfl ?_
      refine g_icmp_ne (pc := 18) (tgt := 23) dX11_looks_18 (by decide) (fun c18 => ?_) (fun c18 => ?_)
      · have h := h.1 c18
        refine g_aload_n (pc := 23) (x := 0) dX11_looks_23 rfl ?_
        refine g_getVt (pc := 24) (t := (mm.2.2 0 9)) dX11_looks_24 fo_X11_69 sh_0 rfl rfl ?_
        have hr0 := h.1
        have h := h.2
        refine g_aload_n (pc := 27) (x := 0) dX11_looks_27 rfl ?_
        refine g_getVt (pc := 28) (t := (mm.2.2 0 10)) dX11_looks_28 fo_X11_74 sh_0 rfl rfl ?_
        have hr1 := h.1
        have h := h.2
        refine g_getR (pc := 31) (dd := 1) dX11_looks_31 fo_X11_117 (AtState_0 hr1) rfl ?_
        refine g_iload_n (pc := 34) (x := a1) dX11_looks_34 rfl ?_
        refine g_iload_n (pc := 35) (x := a2) dX11_looks_35 rfl ?_
        obtain ⟨Pm3, hRm3, h⟩ := h
        refine g_callV (pc := 36) (as := [.ref ((mm.2.2 0 10) + 1), .int a1, .int a2]) dX11_looks_36 cw_X11_252 (by decide) rfl rfl (AtTown_0 hr0) (Nat.le_of_ble_eq_true rfl) hRm3 ?_
        intro r_ m3 hz_ hp_
        rcases h.1 r_ m3 hp_ with rfl | rfl
        · have h := h.2.1 m3 hp_
          refine g_if_eq (pc := 39) (tgt := 46) dX11_looks_39 (by decide) (fun c39 => absurd c39 (by decide)) (fun _ => ?_)
          refine g_iconst (pc := 42) (v := (1 : Int32)) dX11_looks_42 (by decide) ?_
          refine g_goto (pc := 43) (tgt := 47) dX11_looks_43 (by decide) ?_
          exact g_iret (pc := 47) dX11_looks_47 rfl rfl rfl h
        · have h := h.2.2 m3 hp_
          refine g_if_eq (pc := 39) (tgt := 46) dX11_looks_39 (by decide) (fun _ => ?_) (fun c39 => absurd c39 (by decide))
          refine g_iconst (pc := 46) (v := (0 : Int32)) dX11_looks_46 (by decide) ?_
          exact g_iret (pc := 47) dX11_looks_47 rfl rfl rfl h
      · have h := h.2 c18
        refine g_iconst (pc := 21) (v := (-1 : Int32)) dX11_looks_21 (by decide) ?_
        exact g_iret (pc := 22) dX11_looks_22 rfl rfl rfl h
    · have h := h.2 p_
      refine g_if_eq (pc := 13) (tgt := 21) dX11_looks_13 (by decide) (fun _ => ?_) (fun c13 => absurd c13 (by decide))
      refine g_iconst (pc := 21) (v := (-1 : Int32)) dX11_looks_21 (by decide) ?_
      exact g_iret (pc := 22) dX11_looks_22 rfl rfl rfl h
  · have h := h.2 p_
    refine g_if_eq (pc := 5) (tgt := 21) dX11_looks_5 (by decide) (fun _ => ?_) (fun c5 => absurd c5 (by decide))
    refine g_iconst (pc := 21) (v := (-1 : Int32)) dX11_looks_21 (by decide) ?_
    exact g_iret (pc := 22) dX11_looks_22 rfl rfl rfl h
theorem dX11_light_0 : decode cX11_light 0 = .ok (.aload_n 0, 1) := by decide +kernel
theorem dX11_light_1 : decode cX11_light 1 = .ok (.iload_n 1, 1) := by decide +kernel
theorem dX11_light_2 : decode cX11_light 2 = .ok (.invokevirtual 109, 3) := by decide +kernel
theorem dX11_light_5 : decode cX11_light 5 = .ok (.ifCond .eq 21, 3) := by decide +kernel
theorem dX11_light_8 : decode cX11_light 8 = .ok (.aload_n 0, 1) := by decide +kernel
theorem dX11_light_9 : decode cX11_light 9 = .ok (.getfield 69, 3) := by decide +kernel
theorem dX11_light_12 : decode cX11_light 12 = .ok (.aload_n 0, 1) := by decide +kernel
theorem dX11_light_13 : decode cX11_light 13 = .ok (.getfield 74, 3) := by decide +kernel
theorem dX11_light_16 : decode cX11_light 16 = .ok (.getfield 117, 3) := by decide +kernel
theorem dX11_light_19 : decode cX11_light 19 = .ok (.iload_n 1, 1) := by decide +kernel
theorem dX11_light_20 : decode cX11_light 20 = .ok (.invokevirtual 256, 3) := by decide +kernel
theorem dX11_light_23 : decode cX11_light 23 = .ok (.goto 4, 3) := by decide +kernel
theorem dX11_light_26 : decode cX11_light 26 = .ok (.iconst (-1), 1) := by decide +kernel
theorem dX11_light_27 : decode cX11_light 27 = .ok (.ireturn, 1) := by decide +kernel
theorem b_X11_light (mm : MM) (Q : Value → MM → Prop) (a1 : Int32) (h : o_X11_isHouse mm a1 ∧ ((p_X11_isHouse mm a1 → (AtTown (mm.2.2 0 9) ∧ (AtState (mm.2.2 0 10) ∧ (∃ Pm3 : Value → MM → Prop, Runs e_X8_lightOf [.ref (mm.2.2 0 9), .ref ((mm.2.2 0 10) + 1), .int a1] mm Pm3 ∧ ∀ (r3 : Int32) (m3 : MM), Pm3 (.int r3) m3 → (Q (.int r3) m3))))) ∧ (¬ p_X11_isHouse mm a1 → (Q (.int (-1 : Int32)) mm)))) : Runs e_X11_light [.ref 0, .int a1] mm Q := by
  refine runs_of_G (L := [(0, .ref 0), (1, .int a1)]) pl_X11 (Nat.le_of_ble_eq_true rfl) rfl ?_
  refine g_aload_n (pc := 0) (x := 0) dX11_light_0 rfl ?_
  refine g_iload_n (pc := 1) (x := a1) dX11_light_1 rfl ?_
  refine g_callV (pc := 2) (as := [.int a1]) dX11_light_2 cw_X11_109 (by decide) rfl rfl sh_0 (Nat.le_of_ble_eq_true rfl) (rv_X11_isHouse mm a1 h.1) ?_
  have h := h.2
  rintro r_ m_ hz_ ⟨⟨p_, rfl⟩ | ⟨p_, rfl⟩, rfl⟩
  · have h := h.1 p_
    refine g_if_eq (pc := 5) (tgt := 26) dX11_light_5 (by decide) (fun c5 => absurd c5 (by decide)) (fun _ => ?_)
    refine g_aload_n (pc := 8) (x := 0) dX11_light_8 rfl ?_
    refine g_getVt (pc := 9) (t := (mm.2.2 0 9)) dX11_light_9 fo_X11_69 sh_0 rfl rfl ?_
    have hr0 := h.1
    have h := h.2
    refine g_aload_n (pc := 12) (x := 0) dX11_light_12 rfl ?_
    refine g_getVt (pc := 13) (t := (mm.2.2 0 10)) dX11_light_13 fo_X11_74 sh_0 rfl rfl ?_
    have hr1 := h.1
    have h := h.2
    refine g_getR (pc := 16) (dd := 1) dX11_light_16 fo_X11_117 (AtState_0 hr1) rfl ?_
    refine g_iload_n (pc := 19) (x := a1) dX11_light_19 rfl ?_
    obtain ⟨Pm3, hRm3, h⟩ := h
    refine g_callV (pc := 20) (as := [.ref ((mm.2.2 0 10) + 1), .int a1]) dX11_light_20 cw_X11_256 (by decide) rfl rfl (AtTown_0 hr0) (Nat.le_of_ble_eq_true rfl) hRm3 ?_
    intro r_ m3 hz_ hp_
    obtain ⟨r3, rfl⟩ := hz_
    have h := h r3 m3 hp_
    refine g_goto (pc := 23) (tgt := 27) dX11_light_23 (by decide) ?_
    exact g_iret (pc := 27) dX11_light_27 rfl rfl rfl h
  · have h := h.2 p_
    refine g_if_eq (pc := 5) (tgt := 26) dX11_light_5 (by decide) (fun _ => ?_) (fun c5 => absurd c5 (by decide))
    refine g_iconst (pc := 26) (v := (-1 : Int32)) dX11_light_26 (by decide) ?_
    exact g_iret (pc := 27) dX11_light_27 rfl rfl rfl h
theorem dX11_isWind_0 : decode cX11_isWind 0 = .ok (.iload_n 0, 1) := by decide +kernel
theorem dX11_isWind_1 : decode cX11_isWind 1 = .ok (.iconst 0, 1) := by decide +kernel
theorem dX11_isWind_2 : decode cX11_isWind 2 = .ok (.bipush 99, 2) := by decide +kernel
theorem dX11_isWind_4 : decode cX11_isWind 4 = .ok (.invokestatic 144, 3) := by decide +kernel
theorem dX11_isWind_7 : decode cX11_isWind 7 = .ok (.ireturn, 1) := by decide +kernel
def p_X11_isWind (mm : MM) (a0 : Int32) : Prop := p_X11_within mm a0 (0 : Int32) (99 : Int32)
theorem rv_X11_isWind (mm : MM) (a0 : Int32) : Runs e_X11_isWind [.int a0] mm (fun r m_ => ((p_X11_isWind mm a0 ∧ r = .int 1) ∨ (¬ p_X11_isWind mm a0 ∧ r = .int 0)) ∧ mm = m_) := by
  refine runs_of_G (L := [(0, .int a0)]) pl_X11 (Nat.le_of_ble_eq_true rfl) rfl ?_
  refine g_iload_n (pc := 0) (x := a0) dX11_isWind_0 rfl ?_
  refine g_iconst (pc := 1) (v := (0 : Int32)) dX11_isWind_1 (by decide) ?_
  refine g_bipush (pc := 2) (v := (99 : Int32)) dX11_isWind_2 (by decide) ?_
  refine g_callS (pc := 4) (as := [.int a0, .int (0 : Int32), .int (99 : Int32)]) dX11_isWind_4 cw_X11_144 (by decide) rfl rfl (Nat.le_of_ble_eq_true rfl) (rv_X11_within mm a0 (0 : Int32) (99 : Int32)) ?_
  rintro r_ m_ hz_ ⟨⟨p_, rfl⟩ | ⟨p_, rfl⟩, rfl⟩
  · have p__0 : p_X11_within mm a0 (0 : Int32) (99 : Int32) := p_
    exact g_iret (pc := 7) dX11_isWind_7 rfl rfl (nar_B isB1) ⟨Or.inl ⟨(show p_X11_isWind mm a0 from p__0), rfl⟩, rfl⟩
  · have p__0 : ¬ p_X11_within mm a0 (0 : Int32) (99 : Int32) := p_
    exact g_iret (pc := 7) dX11_isWind_7 rfl rfl (nar_B isB0) ⟨Or.inr ⟨(show ¬ p_X11_isWind mm a0 from p__0), rfl⟩, rfl⟩
theorem dX11_sway_0 : decode cX11_sway 0 = .ok (.aload_n 0, 1) := by decide +kernel
theorem dX11_sway_1 : decode cX11_sway 1 = .ok (.iload_n 1, 1) := by decide +kernel
theorem dX11_sway_2 : decode cX11_sway 2 = .ok (.invokevirtual 109, 3) := by decide +kernel
theorem dX11_sway_5 : decode cX11_sway 5 = .ok (.ifCond .eq 26, 3) := by decide +kernel
theorem dX11_sway_8 : decode cX11_sway 8 = .ok (.iload_n 2, 1) := by decide +kernel
theorem dX11_sway_9 : decode cX11_sway 9 = .ok (.invokestatic 259, 3) := by decide +kernel
theorem dX11_sway_12 : decode cX11_sway 12 = .ok (.ifCond .eq 19, 3) := by decide +kernel
theorem dX11_sway_15 : decode cX11_sway 15 = .ok (.aload_n 0, 1) := by decide +kernel
theorem dX11_sway_16 : decode cX11_sway 16 = .ok (.getfield 69, 3) := by decide +kernel
theorem dX11_sway_19 : decode cX11_sway 19 = .ok (.aload_n 0, 1) := by decide +kernel
theorem dX11_sway_20 : decode cX11_sway 20 = .ok (.getfield 74, 3) := by decide +kernel
theorem dX11_sway_23 : decode cX11_sway 23 = .ok (.iload_n 1, 1) := by decide +kernel
theorem dX11_sway_24 : decode cX11_sway 24 = .ok (.iload_n 2, 1) := by decide +kernel
theorem dX11_sway_25 : decode cX11_sway 25 = .ok (.invokevirtual 262, 3) := by decide +kernel
theorem dX11_sway_28 : decode cX11_sway 28 = .ok (.goto 4, 3) := by decide +kernel
theorem dX11_sway_31 : decode cX11_sway 31 = .ok (.iconst (-1), 1) := by decide +kernel
theorem dX11_sway_32 : decode cX11_sway 32 = .ok (.ireturn, 1) := by decide +kernel
theorem b_X11_sway (mm : MM) (Q : Value → MM → Prop) (a1 : Int32) (a2 : Int32) (h : o_X11_isHouse mm a1 ∧ ((p_X11_isHouse mm a1 → ((p_X11_isWind mm a2 → (AtTown (mm.2.2 0 9) ∧ (AtState (mm.2.2 0 10) ∧ (∃ Pm3 : Value → MM → Prop, Runs e_X8_swayOf [.ref (mm.2.2 0 9), .ref (mm.2.2 0 10), .int a1, .int a2] mm Pm3 ∧ ∀ (r3 : Int32) (m3 : MM), Pm3 (.int r3) m3 → (Q (.int r3) m3))))) ∧ (¬ p_X11_isWind mm a2 → (Q (.int (-1 : Int32)) mm)))) ∧ (¬ p_X11_isHouse mm a1 → (Q (.int (-1 : Int32)) mm)))) : Runs e_X11_sway [.ref 0, .int a1, .int a2] mm Q := by
  refine runs_of_G (L := [(0, .ref 0), (1, .int a1), (2, .int a2)]) pl_X11 (Nat.le_of_ble_eq_true rfl) rfl ?_
  refine g_aload_n (pc := 0) (x := 0) dX11_sway_0 rfl ?_
  refine g_iload_n (pc := 1) (x := a1) dX11_sway_1 rfl ?_
  refine g_callV (pc := 2) (as := [.int a1]) dX11_sway_2 cw_X11_109 (by decide) rfl rfl sh_0 (Nat.le_of_ble_eq_true rfl) (rv_X11_isHouse mm a1 h.1) ?_
  have h := h.2
  rintro r_ m_ hz_ ⟨⟨p_, rfl⟩ | ⟨p_, rfl⟩, rfl⟩
  · have h := h.1 p_
    refine g_if_eq (pc := 5) (tgt := 31) dX11_sway_5 (by decide) (fun c5 => absurd c5 (by decide)) (fun _ => ?_)
    refine g_iload_n (pc := 8) (x := a2) dX11_sway_8 rfl ?_
    refine g_callS (pc := 9) (as := [.int a2]) dX11_sway_9 cw_X11_259 (by decide) rfl rfl (Nat.le_of_ble_eq_true rfl) (rv_X11_isWind mm a2) ?_
    rintro r_ m_ hz_ ⟨⟨p_, rfl⟩ | ⟨p_, rfl⟩, rfl⟩
    · have h := h.1 p_
      refine g_if_eq (pc := 12) (tgt := 31) dX11_sway_12 (by decide) (fun c12 => absurd c12 (by decide)) (fun _ => ?_)
      refine g_aload_n (pc := 15) (x := 0) dX11_sway_15 rfl ?_
      refine g_getVt (pc := 16) (t := (mm.2.2 0 9)) dX11_sway_16 fo_X11_69 sh_0 rfl rfl ?_
      have hr0 := h.1
      have h := h.2
      refine g_aload_n (pc := 19) (x := 0) dX11_sway_19 rfl ?_
      refine g_getVt (pc := 20) (t := (mm.2.2 0 10)) dX11_sway_20 fo_X11_74 sh_0 rfl rfl ?_
      have hr1 := h.1
      have h := h.2
      refine g_iload_n (pc := 23) (x := a1) dX11_sway_23 rfl ?_
      refine g_iload_n (pc := 24) (x := a2) dX11_sway_24 rfl ?_
      obtain ⟨Pm3, hRm3, h⟩ := h
      refine g_callV (pc := 25) (as := [.ref (mm.2.2 0 10), .int a1, .int a2]) dX11_sway_25 cw_X11_262 (by decide) rfl rfl (AtTown_0 hr0) (Nat.le_of_ble_eq_true rfl) hRm3 ?_
      intro r_ m3 hz_ hp_
      obtain ⟨r3, rfl⟩ := hz_
      have h := h r3 m3 hp_
      refine g_goto (pc := 28) (tgt := 32) dX11_sway_28 (by decide) ?_
      exact g_iret (pc := 32) dX11_sway_32 rfl rfl rfl h
    · have h := h.2 p_
      refine g_if_eq (pc := 12) (tgt := 31) dX11_sway_12 (by decide) (fun _ => ?_) (fun c12 => absurd c12 (by decide))
      refine g_iconst (pc := 31) (v := (-1 : Int32)) dX11_sway_31 (by decide) ?_
      exact g_iret (pc := 32) dX11_sway_32 rfl rfl rfl h
  · have h := h.2 p_
    refine g_if_eq (pc := 5) (tgt := 31) dX11_sway_5 (by decide) (fun _ => ?_) (fun c5 => absurd c5 (by decide))
    refine g_iconst (pc := 31) (v := (-1 : Int32)) dX11_sway_31 (by decide) ?_
    exact g_iret (pc := 32) dX11_sway_32 rfl rfl rfl h

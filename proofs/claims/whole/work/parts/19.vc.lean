theorem dX11_chain_0 : decode cX11_chain 0 = .ok (.iload_n 3, 1) := by decide +kernel
theorem dX11_chain_1 : decode cX11_chain 1 = .ok (.bipush 10, 2) := by decide +kernel
theorem dX11_chain_3 : decode cX11_chain 3 = .ok (.if_icmp .lt 18, 3) := by decide +kernel
theorem dX11_chain_6 : decode cX11_chain 6 = .ok (.aload_n 0, 1) := by decide +kernel
theorem dX11_chain_7 : decode cX11_chain 7 = .ok (.iload_n 3, 1) := by decide +kernel
theorem dX11_chain_8 : decode cX11_chain 8 = .ok (.bipush 10, 2) := by decide +kernel
theorem dX11_chain_10 : decode cX11_chain 10 = .ok (.isub, 1) := by decide +kernel
theorem dX11_chain_11 : decode cX11_chain 11 = .ok (.invokevirtual 109, 3) := by decide +kernel
theorem dX11_chain_14 : decode cX11_chain 14 = .ok (.ifCond .eq 7, 3) := by decide +kernel
theorem dX11_chain_17 : decode cX11_chain 17 = .ok (.iconst 1, 1) := by decide +kernel
theorem dX11_chain_18 : decode cX11_chain 18 = .ok (.goto 4, 3) := by decide +kernel
theorem dX11_chain_21 : decode cX11_chain 21 = .ok (.iconst 0, 1) := by decide +kernel
theorem dX11_chain_22 : decode cX11_chain 22 = .ok (.istore 4, 2) := by decide +kernel
theorem dX11_chain_24 : decode cX11_chain 24 = .ok (.aload_n 0, 1) := by decide +kernel
theorem dX11_chain_25 : decode cX11_chain 25 = .ok (.iload_n 1, 1) := by decide +kernel
theorem dX11_chain_26 : decode cX11_chain 26 = .ok (.invokevirtual 109, 3) := by decide +kernel
theorem dX11_chain_29 : decode cX11_chain 29 = .ok (.ifCond .eq 24, 3) := by decide +kernel
theorem dX11_chain_32 : decode cX11_chain 32 = .ok (.iload_n 2, 1) := by decide +kernel
theorem dX11_chain_33 : decode cX11_chain 33 = .ok (.invokestatic 259, 3) := by decide +kernel
theorem dX11_chain_36 : decode cX11_chain 36 = .ok (.ifCond .eq 17, 3) := by decide +kernel
theorem dX11_chain_39 : decode cX11_chain 39 = .ok (.iload_n 3, 1) := by decide +kernel
theorem dX11_chain_40 : decode cX11_chain 40 = .ok (.ifCond .eq 15, 3) := by decide +kernel
theorem dX11_chain_43 : decode cX11_chain 43 = .ok (.iload_n 3, 1) := by decide +kernel
theorem dX11_chain_44 : decode cX11_chain 44 = .ok (.iconst 1, 1) := by decide +kernel
theorem dX11_chain_45 : decode cX11_chain 45 = .ok (.if_icmp .eq 10, 3) := by decide +kernel
theorem dX11_chain_48 : decode cX11_chain 48 = .ok (.iload 4, 2) := by decide +kernel
theorem dX11_chain_50 : decode cX11_chain 50 = .ok (.ifCond .ne 5, 3) := by decide +kernel
theorem dX11_chain_53 : decode cX11_chain 53 = .ok (.iconst (-1), 1) := by decide +kernel
theorem dX11_chain_54 : decode cX11_chain 54 = .ok (.ireturn, 1) := by decide +kernel
theorem dX11_chain_55 : decode cX11_chain 55 = .ok (.aload_n 0, 1) := by decide +kernel
theorem dX11_chain_56 : decode cX11_chain 56 = .ok (.getfield 45, 3) := by decide +kernel
theorem dX11_chain_59 : decode cX11_chain 59 = .ok (.aload_n 0, 1) := by decide +kernel
theorem dX11_chain_60 : decode cX11_chain 60 = .ok (.getfield 69, 3) := by decide +kernel
theorem dX11_chain_63 : decode cX11_chain 63 = .ok (.invokevirtual 266, 3) := by decide +kernel
theorem dX11_chain_66 : decode cX11_chain 66 = .ok (.aload_n 0, 1) := by decide +kernel
theorem dX11_chain_67 : decode cX11_chain 67 = .ok (.getfield 45, 3) := by decide +kernel
theorem dX11_chain_70 : decode cX11_chain 70 = .ok (.aload_n 0, 1) := by decide +kernel
theorem dX11_chain_71 : decode cX11_chain 71 = .ok (.getfield 69, 3) := by decide +kernel
theorem dX11_chain_74 : decode cX11_chain 74 = .ok (.aload_n 0, 1) := by decide +kernel
theorem dX11_chain_75 : decode cX11_chain 75 = .ok (.getfield 74, 3) := by decide +kernel
theorem dX11_chain_78 : decode cX11_chain 78 = .ok (.iload_n 1, 1) := by decide +kernel
theorem dX11_chain_79 : decode cX11_chain 79 = .ok (.iload_n 2, 1) := by decide +kernel
theorem dX11_chain_80 : decode cX11_chain 80 = .ok (.invokevirtual 270, 3) := by decide +kernel
theorem dX11_chain_83 : decode cX11_chain 83 = .ok (.istore 5, 2) := by decide +kernel
theorem dX11_chain_85 : decode cX11_chain 85 = .ok (.iload 4, 2) := by decide +kernel
theorem dX11_chain_87 : decode cX11_chain 87 = .ok (.ifCond .eq 16, 3) := by decide +kernel
theorem dX11_chain_90 : decode cX11_chain 90 = .ok (.aload_n 0, 1) := by decide +kernel
theorem dX11_chain_91 : decode cX11_chain 91 = .ok (.getfield 45, 3) := by decide +kernel
theorem dX11_chain_94 : decode cX11_chain 94 = .ok (.getfield 274, 3) := by decide +kernel
theorem dX11_chain_97 : decode cX11_chain 97 = .ok (.iload_n 3, 1) := by decide +kernel
theorem dX11_chain_98 : decode cX11_chain 98 = .ok (.bipush 10, 2) := by decide +kernel
theorem dX11_chain_100 : decode cX11_chain 100 = .ok (.isub, 1) := by decide +kernel
theorem dX11_chain_101 : decode cX11_chain 101 = .ok (.iaload, 1) := by decide +kernel
theorem dX11_chain_102 : decode cX11_chain 102 = .ok (.ireturn, 1) := by decide +kernel
theorem dX11_chain_103 : decode cX11_chain 103 = .ok (.iload_n 3, 1) := by decide +kernel
theorem dX11_chain_104 : decode cX11_chain 104 = .ok (.ifCond .ne 8, 3) := by decide +kernel
theorem dX11_chain_107 : decode cX11_chain 107 = .ok (.iload 5, 2) := by decide +kernel
theorem dX11_chain_109 : decode cX11_chain 109 = .ok (.goto 10, 3) := by decide +kernel
theorem dX11_chain_112 : decode cX11_chain 112 = .ok (.aload_n 0, 1) := by decide +kernel
theorem dX11_chain_113 : decode cX11_chain 113 = .ok (.getfield 45, 3) := by decide +kernel
theorem dX11_chain_116 : decode cX11_chain 116 = .ok (.getfield 277, 3) := by decide +kernel
theorem dX11_chain_119 : decode cX11_chain 119 = .ok (.ireturn, 1) := by decide +kernel
theorem b_X11_chain (mm : MM) (Q : Value → MM → Prop) (a1 : Int32) (a2 : Int32) (a3 : Int32) (h : (a3 < (10 : Int32) → (o_X11_isHouse mm a1 ∧ ((p_X11_isHouse mm a1 → ((p_X11_isWind mm a2 → ((a3 = 0 → (AtTown (mm.2.2 0 9) ∧ (∃ Pm2 : Value → MM → Prop, Runs e_X0_prepare [.ref 91, .ref (mm.2.2 0 9)] mm Pm2 ∧ ∀ m2, Pm2 .null m2 → (AtTown (m2.2.2 0 9) ∧ (AtState (m2.2.2 0 10) ∧ (∃ Pm5 : Value → MM → Prop, Runs e_X0_startAt [.ref 91, .ref (m2.2.2 0 9), .ref (m2.2.2 0 10), .int a1, .int a2] m2 Pm5 ∧ ∀ (r5 : Int32) (m5 : MM), Pm5 (.int r5) m5 → ((¬ a3 = 0 → (Q (.int (m5.1 91 3)) m5)) ∧ (a3 = 0 → (Q (.int r5) m5))))))))) ∧ (¬ a3 = 0 → ((a3 = (1 : Int32) → (AtTown (mm.2.2 0 9) ∧ (∃ Pm2 : Value → MM → Prop, Runs e_X0_prepare [.ref 91, .ref (mm.2.2 0 9)] mm Pm2 ∧ ∀ m2, Pm2 .null m2 → (AtTown (m2.2.2 0 9) ∧ (AtState (m2.2.2 0 10) ∧ (∃ Pm5 : Value → MM → Prop, Runs e_X0_startAt [.ref 91, .ref (m2.2.2 0 9), .ref (m2.2.2 0 10), .int a1, .int a2] m2 Pm5 ∧ ∀ (r5 : Int32) (m5 : MM), Pm5 (.int r5) m5 → ((¬ a3 = 0 → (Q (.int (m5.1 91 3)) m5)) ∧ (a3 = 0 → (Q (.int r5) m5))))))))) ∧ (¬ a3 = (1 : Int32) → (Q (.int (-1 : Int32)) mm)))))) ∧ (¬ p_X11_isWind mm a2 → (Q (.int (-1 : Int32)) mm)))) ∧ (¬ p_X11_isHouse mm a1 → (Q (.int (-1 : Int32)) mm))))) ∧ (¬ a3 < (10 : Int32) → (o_X11_isHouse mm (a3 - (10 : Int32)) ∧ ((p_X11_isHouse mm (a3 - (10 : Int32)) → (o_X11_isHouse mm a1 ∧ ((p_X11_isHouse mm a1 → ((p_X11_isWind mm a2 → ((a3 = 0 → (AtTown (mm.2.2 0 9) ∧ (∃ Pm2 : Value → MM → Prop, Runs e_X0_prepare [.ref 91, .ref (mm.2.2 0 9)] mm Pm2 ∧ ∀ m2, Pm2 .null m2 → (AtTown (m2.2.2 0 9) ∧ (AtState (m2.2.2 0 10) ∧ (∃ Pm5 : Value → MM → Prop, Runs e_X0_startAt [.ref 91, .ref (m2.2.2 0 9), .ref (m2.2.2 0 10), .int a1, .int a2] m2 Pm5 ∧ ∀ (r5 : Int32) (m5 : MM), Pm5 (.int r5) m5 → (vp_in (a3 - (10 : Int32)) 16 ∧ (Q (.int (m5.1 92 (a3 - (10 : Int32)).toNatClampNeg)) m5)))))))) ∧ (¬ a3 = 0 → ((a3 = (1 : Int32) → (AtTown (mm.2.2 0 9) ∧ (∃ Pm2 : Value → MM → Prop, Runs e_X0_prepare [.ref 91, .ref (mm.2.2 0 9)] mm Pm2 ∧ ∀ m2, Pm2 .null m2 → (AtTown (m2.2.2 0 9) ∧ (AtState (m2.2.2 0 10) ∧ (∃ Pm5 : Value → MM → Prop, Runs e_X0_startAt [.ref 91, .ref (m2.2.2 0 9), .ref (m2.2.2 0 10), .int a1, .int a2] m2 Pm5 ∧ ∀ (r5 : Int32) (m5 : MM), Pm5 (.int r5) m5 → (vp_in (a3 - (10 : Int32)) 16 ∧ (Q (.int (m5.1 92 (a3 - (10 : Int32)).toNatClampNeg)) m5)))))))) ∧ (¬ a3 = (1 : Int32) → (AtTown (mm.2.2 0 9) ∧ (∃ Pm2 : Value → MM → Prop, Runs e_X0_prepare [.ref 91, .ref (mm.2.2 0 9)] mm Pm2 ∧ ∀ m2, Pm2 .null m2 → (AtTown (m2.2.2 0 9) ∧ (AtState (m2.2.2 0 10) ∧ (∃ Pm5 : Value → MM → Prop, Runs e_X0_startAt [.ref 91, .ref (m2.2.2 0 9), .ref (m2.2.2 0 10), .int a1, .int a2] m2 Pm5 ∧ ∀ (r5 : Int32) (m5 : MM), Pm5 (.int r5) m5 → (vp_in (a3 - (10 : Int32)) 16 ∧ (Q (.int (m5.1 92 (a3 - (10 : Int32)).toNatClampNeg)) m5)))))))))))) ∧ (¬ p_X11_isWind mm a2 → (Q (.int (-1 : Int32)) mm)))) ∧ (¬ p_X11_isHouse mm a1 → (Q (.int (-1 : Int32)) mm))))) ∧ (¬ p_X11_isHouse mm (a3 - (10 : Int32)) → (o_X11_isHouse mm a1 ∧ ((p_X11_isHouse mm a1 → ((p_X11_isWind mm a2 → ((a3 = 0 → (AtTown (mm.2.2 0 9) ∧ (∃ Pm2 : Value → MM → Prop, Runs e_X0_prepare [.ref 91, .ref (mm.2.2 0 9)] mm Pm2 ∧ ∀ m2, Pm2 .null m2 → (AtTown (m2.2.2 0 9) ∧ (AtState (m2.2.2 0 10) ∧ (∃ Pm5 : Value → MM → Prop, Runs e_X0_startAt [.ref 91, .ref (m2.2.2 0 9), .ref (m2.2.2 0 10), .int a1, .int a2] m2 Pm5 ∧ ∀ (r5 : Int32) (m5 : MM), Pm5 (.int r5) m5 → ((¬ a3 = 0 → (Q (.int (m5.1 91 3)) m5)) ∧ (a3 = 0 → (Q (.int r5) m5))))))))) ∧ (¬ a3 = 0 → ((a3 = (1 : Int32) → (AtTown (mm.2.2 0 9) ∧ (∃ Pm2 : Value → MM → Prop, Runs e_X0_prepare [.ref 91, .ref (mm.2.2 0 9)] mm Pm2 ∧ ∀ m2, Pm2 .null m2 → (AtTown (m2.2.2 0 9) ∧ (AtState (m2.2.2 0 10) ∧ (∃ Pm5 : Value → MM → Prop, Runs e_X0_startAt [.ref 91, .ref (m2.2.2 0 9), .ref (m2.2.2 0 10), .int a1, .int a2] m2 Pm5 ∧ ∀ (r5 : Int32) (m5 : MM), Pm5 (.int r5) m5 → ((¬ a3 = 0 → (Q (.int (m5.1 91 3)) m5)) ∧ (a3 = 0 → (Q (.int r5) m5))))))))) ∧ (¬ a3 = (1 : Int32) → (Q (.int (-1 : Int32)) mm)))))) ∧ (¬ p_X11_isWind mm a2 → (Q (.int (-1 : Int32)) mm)))) ∧ (¬ p_X11_isHouse mm a1 → (Q (.int (-1 : Int32)) mm))))))))) : Runs e_X11_chain [.ref 0, .int a1, .int a2, .int a3] mm Q := by
  refine runs_of_G (L := [(0, .ref 0), (1, .int a1), (2, .int a2), (3, .int a3)]) pl_X11 (Nat.le_of_ble_eq_true rfl) rfl ?_
  refine g_iload_n (pc := 0) (x := a3) dX11_chain_0 rfl ?_
  refine g_bipush (pc := 1) (v := (10 : Int32)) dX11_chain_1 (by decide) ?_
  refine g_icmp_lt (pc := 3) (tgt := 21) dX11_chain_3 (by decide) (fun c3 => ?_) (fun c3 => ?_)
  · have h := h.1 c3
    refine g_iconst (pc := 21) (v := (0 : Int32)) dX11_chain_21 (by decide) ?_
    refine g_istore (pc := 22) (L' := [(0, .ref 0), (1, .int a1), (2, .int a2), (3, .int a3), (4, .int (0 : Int32))]) dX11_chain_22 (Nat.le_of_ble_eq_true rfl) rfl ?_
    refine g_aload_n (pc := 24) (x := 0) dX11_chain_24 rfl ?_
    refine g_iload_n (pc := 25) (x := a1) dX11_chain_25 rfl ?_
    refine g_callV (pc := 26) (as := [.int a1]) dX11_chain_26 cw_X11_109 (by decide) rfl rfl sh_0 (Nat.le_of_ble_eq_true rfl) (rv_X11_isHouse mm a1 h.1) ?_
    have h := h.2
    rintro r_ m_ hz_ ⟨⟨p_, rfl⟩ | ⟨p_, rfl⟩, rfl⟩
    · have h := h.1 p_
      refine g_if_eq (pc := 29) (tgt := 53) dX11_chain_29 (by decide) (fun c29 => absurd c29 (by decide)) (fun _ => ?_)
      refine g_iload_n (pc := 32) (x := a2) dX11_chain_32 rfl ?_
      refine g_callS (pc := 33) (as := [.int a2]) dX11_chain_33 cw_X11_259 (by decide) rfl rfl (Nat.le_of_ble_eq_true rfl) (rv_X11_isWind mm a2) ?_
      rintro r_ m_ hz_ ⟨⟨p_, rfl⟩ | ⟨p_, rfl⟩, rfl⟩
      · have h := h.1 p_
        refine g_if_eq (pc := 36) (tgt := 53) dX11_chain_36 (by decide) (fun c36 => absurd c36 (by decide)) (fun _ => ?_)
        refine g_iload_n (pc := 39) (x := a3) dX11_chain_39 rfl ?_
        refine g_if_eq (pc := 40) (tgt := 55) dX11_chain_40 (by decide) (fun c40 => ?_) (fun c40 => ?_)
        · have h := h.1 c40
          refine g_aload_n (pc := 55) (x := 0) dX11_chain_55 rfl ?_
          refine g_getR (pc := 56) (dd := 91) dX11_chain_56 fo_X11_45 sh_0 rfl ?_
          refine g_aload_n (pc := 59) (x := 0) dX11_chain_59 rfl ?_
          refine g_getVt (pc := 60) (t := (mm.2.2 0 9)) dX11_chain_60 fo_X11_69 sh_0 rfl rfl ?_
          have hr0 := h.1
          have h := h.2
          obtain ⟨Pm2, hRm2, h⟩ := h
          refine g_callV (pc := 63) (as := [.ref (mm.2.2 0 9)]) dX11_chain_63 cw_X11_266 (by decide) rfl rfl sh_91 (Nat.le_of_ble_eq_true rfl) hRm2 ?_
          intro r_ m2 hz_ hp_
          obtain rfl := hz_
          have h := h m2 hp_
          refine g_aload_n (pc := 66) (x := 0) dX11_chain_66 rfl ?_
          refine g_getR (pc := 67) (dd := 91) dX11_chain_67 fo_X11_45 sh_0 rfl ?_
          refine g_aload_n (pc := 70) (x := 0) dX11_chain_70 rfl ?_
          refine g_getVt (pc := 71) (t := (m2.2.2 0 9)) dX11_chain_71 fo_X11_69 sh_0 rfl rfl ?_
          have hr2 := h.1
          have h := h.2
          refine g_aload_n (pc := 74) (x := 0) dX11_chain_74 rfl ?_
          refine g_getVt (pc := 75) (t := (m2.2.2 0 10)) dX11_chain_75 fo_X11_74 sh_0 rfl rfl ?_
          have hr3 := h.1
          have h := h.2
          refine g_iload_n (pc := 78) (x := a1) dX11_chain_78 rfl ?_
          refine g_iload_n (pc := 79) (x := a2) dX11_chain_79 rfl ?_
          obtain ⟨Pm5, hRm5, h⟩ := h
          refine g_callV (pc := 80) (as := [.ref (m2.2.2 0 9), .ref (m2.2.2 0 10), .int a1, .int a2]) dX11_chain_80 cw_X11_270 (by decide) rfl rfl sh_91 (Nat.le_of_ble_eq_true rfl) hRm5 ?_
          intro r_ m5 hz_ hp_
          obtain ⟨r5, rfl⟩ := hz_
          have h := h r5 m5 hp_
          refine g_istore (pc := 83) (L' := [(0, .ref 0), (1, .int a1), (2, .int a2), (3, .int a3), (4, .int (0 : Int32)), (5, .int r5)]) dX11_chain_83 (Nat.le_of_ble_eq_true rfl) rfl ?_
          refine g_iload (pc := 85) (x := (0 : Int32)) dX11_chain_85 rfl ?_
          refine g_if_eq (pc := 87) (tgt := 103) dX11_chain_87 (by decide) (fun _ => ?_) (fun c87 => absurd c87 (by decide))
          refine g_iload_n (pc := 103) (x := a3) dX11_chain_103 rfl ?_
          refine g_if_ne (pc := 104) (tgt := 112) dX11_chain_104 (by decide) (fun c104 => ?_) (fun c104 => ?_)
          · have h := h.1 c104
            refine g_aload_n (pc := 112) (x := 0) dX11_chain_112 rfl ?_
            refine g_getR (pc := 113) (dd := 91) dX11_chain_113 fo_X11_45 sh_0 rfl ?_
            refine g_getI (pc := 116) dX11_chain_116 fo_X11_277 sh_91 rfl ?_
            exact g_iret (pc := 119) dX11_chain_119 rfl rfl rfl h
          · have h := h.2 c104
            refine g_iload (pc := 107) (x := r5) dX11_chain_107 rfl ?_
            refine g_goto (pc := 109) (tgt := 119) dX11_chain_109 (by decide) ?_
            exact g_iret (pc := 119) dX11_chain_119 rfl rfl rfl h
        · have h := h.2 c40
          refine g_iload_n (pc := 43) (x := a3) dX11_chain_43 rfl ?_
          refine g_iconst (pc := 44) (v := (1 : Int32)) dX11_chain_44 (by decide) ?_
          refine g_icmp_eq (pc := 45) (tgt := 55) dX11_chain_45 (by decide) (fun c45 => ?_) (fun c45 => ?_)
          · have h := h.1 c45
            refine g_aload_n (pc := 55) (x := 0) dX11_chain_55 rfl ?_
            refine g_getR (pc := 56) (dd := 91) dX11_chain_56 fo_X11_45 sh_0 rfl ?_
            refine g_aload_n (pc := 59) (x := 0) dX11_chain_59 rfl ?_
            refine g_getVt (pc := 60) (t := (mm.2.2 0 9)) dX11_chain_60 fo_X11_69 sh_0 rfl rfl ?_
            have hr0 := h.1
            have h := h.2
            obtain ⟨Pm2, hRm2, h⟩ := h
            refine g_callV (pc := 63) (as := [.ref (mm.2.2 0 9)]) dX11_chain_63 cw_X11_266 (by decide) rfl rfl sh_91 (Nat.le_of_ble_eq_true rfl) hRm2 ?_
            intro r_ m2 hz_ hp_
            obtain rfl := hz_
            have h := h m2 hp_
            refine g_aload_n (pc := 66) (x := 0) dX11_chain_66 rfl ?_
            refine g_getR (pc := 67) (dd := 91) dX11_chain_67 fo_X11_45 sh_0 rfl ?_
            refine g_aload_n (pc := 70) (x := 0) dX11_chain_70 rfl ?_
            refine g_getVt (pc := 71) (t := (m2.2.2 0 9)) dX11_chain_71 fo_X11_69 sh_0 rfl rfl ?_
            have hr2 := h.1
            have h := h.2
            refine g_aload_n (pc := 74) (x := 0) dX11_chain_74 rfl ?_
            refine g_getVt (pc := 75) (t := (m2.2.2 0 10)) dX11_chain_75 fo_X11_74 sh_0 rfl rfl ?_
            have hr3 := h.1
            have h := h.2
            refine g_iload_n (pc := 78) (x := a1) dX11_chain_78 rfl ?_
            refine g_iload_n (pc := 79) (x := a2) dX11_chain_79 rfl ?_
            obtain ⟨Pm5, hRm5, h⟩ := h
            refine g_callV (pc := 80) (as := [.ref (m2.2.2 0 9), .ref (m2.2.2 0 10), .int a1, .int a2]) dX11_chain_80 cw_X11_270 (by decide) rfl rfl sh_91 (Nat.le_of_ble_eq_true rfl) hRm5 ?_
            intro r_ m5 hz_ hp_
            obtain ⟨r5, rfl⟩ := hz_
            have h := h r5 m5 hp_
            refine g_istore (pc := 83) (L' := [(0, .ref 0), (1, .int a1), (2, .int a2), (3, .int a3), (4, .int (0 : Int32)), (5, .int r5)]) dX11_chain_83 (Nat.le_of_ble_eq_true rfl) rfl ?_
            refine g_iload (pc := 85) (x := (0 : Int32)) dX11_chain_85 rfl ?_
            refine g_if_eq (pc := 87) (tgt := 103) dX11_chain_87 (by decide) (fun _ => ?_) (fun c87 => absurd c87 (by decide))
            refine g_iload_n (pc := 103) (x := a3) dX11_chain_103 rfl ?_
            refine g_if_ne (pc := 104) (tgt := 112) dX11_chain_104 (by decide) (fun c104 => ?_) (fun c104 => ?_)
            · have h := h.1 c104
              refine g_aload_n (pc := 112) (x := 0) dX11_chain_112 rfl ?_
              refine g_getR (pc := 113) (dd := 91) dX11_chain_113 fo_X11_45 sh_0 rfl ?_
              refine g_getI (pc := 116) dX11_chain_116 fo_X11_277 sh_91 rfl ?_
              exact g_iret (pc := 119) dX11_chain_119 rfl rfl rfl h
            · have h := h.2 c104
              refine g_iload (pc := 107) (x := r5) dX11_chain_107 rfl ?_
              refine g_goto (pc := 109) (tgt := 119) dX11_chain_109 (by decide) ?_
              exact g_iret (pc := 119) dX11_chain_119 rfl rfl rfl h
          · have h := h.2 c45
            refine g_iload (pc := 48) (x := (0 : Int32)) dX11_chain_48 rfl ?_
            refine g_if_ne (pc := 50) (tgt := 55) dX11_chain_50 (by decide) (fun c50 => absurd c50 (by decide)) (fun _ => ?_)
            refine g_iconst (pc := 53) (v := (-1 : Int32)) dX11_chain_53 (by decide) ?_
            exact g_iret (pc := 54) dX11_chain_54 rfl rfl rfl h
      · have h := h.2 p_
        refine g_if_eq (pc := 36) (tgt := 53) dX11_chain_36 (by decide) (fun _ => ?_) (fun c36 => absurd c36 (by decide))
        refine g_iconst (pc := 53) (v := (-1 : Int32)) dX11_chain_53 (by decide) ?_
        exact g_iret (pc := 54) dX11_chain_54 rfl rfl rfl h
    · have h := h.2 p_
      refine g_if_eq (pc := 29) (tgt := 53) dX11_chain_29 (by decide) (fun _ => ?_) (fun c29 => absurd c29 (by decide))
      refine g_iconst (pc := 53) (v := (-1 : Int32)) dX11_chain_53 (by decide) ?_
      exact g_iret (pc := 54) dX11_chain_54 rfl rfl rfl h
  · have h := h.2 c3
    refine g_aload_n (pc := 6) (x := 0) dX11_chain_6 rfl ?_
    refine g_iload_n (pc := 7) (x := a3) dX11_chain_7 rfl ?_
    refine g_bipush (pc := 8) (v := (10 : Int32)) dX11_chain_8 (by decide) ?_
    refine g_isub (pc := 10) dX11_chain_10 ?_
    refine g_callV (pc := 11) (as := [.int (a3 - (10 : Int32))]) dX11_chain_11 cw_X11_109 (by decide) rfl rfl sh_0 (Nat.le_of_ble_eq_true rfl) (rv_X11_isHouse mm (a3 - (10 : Int32)) h.1) ?_
    have h := h.2
    rintro r_ m_ hz_ ⟨⟨p_, rfl⟩ | ⟨p_, rfl⟩, rfl⟩
    · have h := h.1 p_
      refine g_if_eq (pc := 14) (tgt := 21) dX11_chain_14 (by decide) (fun c14 => absurd c14 (by decide)) (fun _ => ?_)
      refine g_iconst (pc := 17) (v := (1 : Int32)) dX11_chain_17 (by decide) ?_
      refine g_goto (pc := 18) (tgt := 22) dX11_chain_18 (by decide) ?_
      refine g_istore (pc := 22) (L' := [(0, .ref 0), (1, .int a1), (2, .int a2), (3, .int a3), (4, .int (1 : Int32))]) dX11_chain_22 (Nat.le_of_ble_eq_true rfl) rfl ?_
      refine g_aload_n (pc := 24) (x := 0) dX11_chain_24 rfl ?_
      refine g_iload_n (pc := 25) (x := a1) dX11_chain_25 rfl ?_
      refine g_callV (pc := 26) (as := [.int a1]) dX11_chain_26 cw_X11_109 (by decide) rfl rfl sh_0 (Nat.le_of_ble_eq_true rfl) (rv_X11_isHouse mm a1 h.1) ?_
      have h := h.2
      rintro r_ m_ hz_ ⟨⟨p_, rfl⟩ | ⟨p_, rfl⟩, rfl⟩
      · have h := h.1 p_
        refine g_if_eq (pc := 29) (tgt := 53) dX11_chain_29 (by decide) (fun c29 => absurd c29 (by decide)) (fun _ => ?_)
        refine g_iload_n (pc := 32) (x := a2) dX11_chain_32 rfl ?_
        refine g_callS (pc := 33) (as := [.int a2]) dX11_chain_33 cw_X11_259 (by decide) rfl rfl (Nat.le_of_ble_eq_true rfl) (rv_X11_isWind mm a2) ?_
        rintro r_ m_ hz_ ⟨⟨p_, rfl⟩ | ⟨p_, rfl⟩, rfl⟩
        · have h := h.1 p_
          refine g_if_eq (pc := 36) (tgt := 53) dX11_chain_36 (by decide) (fun c36 => absurd c36 (by decide)) (fun _ => ?_)
          refine g_iload_n (pc := 39) (x := a3) dX11_chain_39 rfl ?_
          refine g_if_eq (pc := 40) (tgt := 55) dX11_chain_40 (by decide) (fun c40 => ?_) (fun c40 => ?_)
          · have h := h.1 c40
            refine g_aload_n (pc := 55) (x := 0) dX11_chain_55 rfl ?_
            refine g_getR (pc := 56) (dd := 91) dX11_chain_56 fo_X11_45 sh_0 rfl ?_
            refine g_aload_n (pc := 59) (x := 0) dX11_chain_59 rfl ?_
            refine g_getVt (pc := 60) (t := (mm.2.2 0 9)) dX11_chain_60 fo_X11_69 sh_0 rfl rfl ?_
            have hr0 := h.1
            have h := h.2
            obtain ⟨Pm2, hRm2, h⟩ := h
            refine g_callV (pc := 63) (as := [.ref (mm.2.2 0 9)]) dX11_chain_63 cw_X11_266 (by decide) rfl rfl sh_91 (Nat.le_of_ble_eq_true rfl) hRm2 ?_
            intro r_ m2 hz_ hp_
            obtain rfl := hz_
            have h := h m2 hp_
            refine g_aload_n (pc := 66) (x := 0) dX11_chain_66 rfl ?_
            refine g_getR (pc := 67) (dd := 91) dX11_chain_67 fo_X11_45 sh_0 rfl ?_
            refine g_aload_n (pc := 70) (x := 0) dX11_chain_70 rfl ?_
            refine g_getVt (pc := 71) (t := (m2.2.2 0 9)) dX11_chain_71 fo_X11_69 sh_0 rfl rfl ?_
            have hr2 := h.1
            have h := h.2
            refine g_aload_n (pc := 74) (x := 0) dX11_chain_74 rfl ?_
            refine g_getVt (pc := 75) (t := (m2.2.2 0 10)) dX11_chain_75 fo_X11_74 sh_0 rfl rfl ?_
            have hr3 := h.1
            have h := h.2
            refine g_iload_n (pc := 78) (x := a1) dX11_chain_78 rfl ?_
            refine g_iload_n (pc := 79) (x := a2) dX11_chain_79 rfl ?_
            obtain ⟨Pm5, hRm5, h⟩ := h
            refine g_callV (pc := 80) (as := [.ref (m2.2.2 0 9), .ref (m2.2.2 0 10), .int a1, .int a2]) dX11_chain_80 cw_X11_270 (by decide) rfl rfl sh_91 (Nat.le_of_ble_eq_true rfl) hRm5 ?_
            intro r_ m5 hz_ hp_
            obtain ⟨r5, rfl⟩ := hz_
            have h := h r5 m5 hp_
            refine g_istore (pc := 83) (L' := [(0, .ref 0), (1, .int a1), (2, .int a2), (3, .int a3), (4, .int (1 : Int32)), (5, .int r5)]) dX11_chain_83 (Nat.le_of_ble_eq_true rfl) rfl ?_
            refine g_iload (pc := 85) (x := (1 : Int32)) dX11_chain_85 rfl ?_
            refine g_if_eq (pc := 87) (tgt := 103) dX11_chain_87 (by decide) (fun c87 => absurd c87 (by decide)) (fun _ => ?_)
            refine g_aload_n (pc := 90) (x := 0) dX11_chain_90 rfl ?_
            refine g_getR (pc := 91) (dd := 91) dX11_chain_91 fo_X11_45 sh_0 rfl ?_
            refine g_getR (pc := 94) (dd := 1) dX11_chain_94 fo_X11_274 sh_91 rfl ?_
            refine g_iload_n (pc := 97) (x := a3) dX11_chain_97 rfl ?_
            refine g_bipush (pc := 98) (v := (10 : Int32)) dX11_chain_98 (by decide) ?_
            refine g_isub (pc := 100) dX11_chain_100 ?_
            refine g_iaload (pc := 101) dX11_chain_101 sh_92 h.1 ?_
            have h := h.2
            exact g_iret (pc := 102) dX11_chain_102 rfl rfl rfl h
          · have h := h.2 c40
            refine g_iload_n (pc := 43) (x := a3) dX11_chain_43 rfl ?_
            refine g_iconst (pc := 44) (v := (1 : Int32)) dX11_chain_44 (by decide) ?_
            refine g_icmp_eq (pc := 45) (tgt := 55) dX11_chain_45 (by decide) (fun c45 => ?_) (fun c45 => ?_)
            · have h := h.1 c45
              refine g_aload_n (pc := 55) (x := 0) dX11_chain_55 rfl ?_
              refine g_getR (pc := 56) (dd := 91) dX11_chain_56 fo_X11_45 sh_0 rfl ?_
              refine g_aload_n (pc := 59) (x := 0) dX11_chain_59 rfl ?_
              refine g_getVt (pc := 60) (t := (mm.2.2 0 9)) dX11_chain_60 fo_X11_69 sh_0 rfl rfl ?_
              have hr0 := h.1
              have h := h.2
              obtain ⟨Pm2, hRm2, h⟩ := h
              refine g_callV (pc := 63) (as := [.ref (mm.2.2 0 9)]) dX11_chain_63 cw_X11_266 (by decide) rfl rfl sh_91 (Nat.le_of_ble_eq_true rfl) hRm2 ?_
              intro r_ m2 hz_ hp_
              obtain rfl := hz_
              have h := h m2 hp_
              refine g_aload_n (pc := 66) (x := 0) dX11_chain_66 rfl ?_
              refine g_getR (pc := 67) (dd := 91) dX11_chain_67 fo_X11_45 sh_0 rfl ?_
              refine g_aload_n (pc := 70) (x := 0) dX11_chain_70 rfl ?_
              refine g_getVt (pc := 71) (t := (m2.2.2 0 9)) dX11_chain_71 fo_X11_69 sh_0 rfl rfl ?_
              have hr2 := h.1
              have h := h.2
              refine g_aload_n (pc := 74) (x := 0) dX11_chain_74 rfl ?_
              refine g_getVt (pc := 75) (t := (m2.2.2 0 10)) dX11_chain_75 fo_X11_74 sh_0 rfl rfl ?_
              have hr3 := h.1
              have h := h.2
              refine g_iload_n (pc := 78) (x := a1) dX11_chain_78 rfl ?_
              refine g_iload_n (pc := 79) (x := a2) dX11_chain_79 rfl ?_
              obtain ⟨Pm5, hRm5, h⟩ := h
              refine g_callV (pc := 80) (as := [.ref (m2.2.2 0 9), .ref (m2.2.2 0 10), .int a1, .int a2]) dX11_chain_80 cw_X11_270 (by decide) rfl rfl sh_91 (Nat.le_of_ble_eq_true rfl) hRm5 ?_
              intro r_ m5 hz_ hp_
              obtain ⟨r5, rfl⟩ := hz_
              have h := h r5 m5 hp_
              refine g_istore (pc := 83) (L' := [(0, .ref 0), (1, .int a1), (2, .int a2), (3, .int a3), (4, .int (1 : Int32)), (5, .int r5)]) dX11_chain_83 (Nat.le_of_ble_eq_true rfl) rfl ?_
              refine g_iload (pc := 85) (x := (1 : Int32)) dX11_chain_85 rfl ?_
              refine g_if_eq (pc := 87) (tgt := 103) dX11_chain_87 (by decide) (fun c87 => absurd c87 (by decide)) (fun _ => ?_)
              refine g_aload_n (pc := 90) (x := 0) dX11_chain_90 rfl ?_
              refine g_getR (pc := 91) (dd := 91) dX11_chain_91 fo_X11_45 sh_0 rfl ?_
              refine g_getR (pc := 94) (dd := 1) dX11_chain_94 fo_X11_274 sh_91 rfl ?_
              refine g_iload_n (pc := 97) (x := a3) dX11_chain_97 rfl ?_
              refine g_bipush (pc := 98) (v := (10 : Int32)) dX11_chain_98 (by decide) ?_
              refine g_isub (pc := 100) dX11_chain_100 ?_
              refine g_iaload (pc := 101) dX11_chain_101 sh_92 h.1 ?_
              have h := h.2
              exact g_iret (pc := 102) dX11_chain_102 rfl rfl rfl h
            · have h := h.2 c45
              refine g_iload (pc := 48) (x := (1 : Int32)) dX11_chain_48 rfl ?_
              refine g_if_ne (pc := 50) (tgt := 55) dX11_chain_50 (by decide) (fun _ => ?_) (fun c50 => absurd c50 (by decide))
              refine g_aload_n (pc := 55) (x := 0) dX11_chain_55 rfl ?_
              refine g_getR (pc := 56) (dd := 91) dX11_chain_56 fo_X11_45 sh_0 rfl ?_
              refine g_aload_n (pc := 59) (x := 0) dX11_chain_59 rfl ?_
              refine g_getVt (pc := 60) (t := (mm.2.2 0 9)) dX11_chain_60 fo_X11_69 sh_0 rfl rfl ?_
              have hr0 := h.1
              have h := h.2
              obtain ⟨Pm2, hRm2, h⟩ := h
              refine g_callV (pc := 63) (as := [.ref (mm.2.2 0 9)]) dX11_chain_63 cw_X11_266 (by decide) rfl rfl sh_91 (Nat.le_of_ble_eq_true rfl) hRm2 ?_
              intro r_ m2 hz_ hp_
              obtain rfl := hz_
              have h := h m2 hp_
              refine g_aload_n (pc := 66) (x := 0) dX11_chain_66 rfl ?_
              refine g_getR (pc := 67) (dd := 91) dX11_chain_67 fo_X11_45 sh_0 rfl ?_
              refine g_aload_n (pc := 70) (x := 0) dX11_chain_70 rfl ?_
              refine g_getVt (pc := 71) (t := (m2.2.2 0 9)) dX11_chain_71 fo_X11_69 sh_0 rfl rfl ?_
              have hr2 := h.1
              have h := h.2
              refine g_aload_n (pc := 74) (x := 0) dX11_chain_74 rfl ?_
              refine g_getVt (pc := 75) (t := (m2.2.2 0 10)) dX11_chain_75 fo_X11_74 sh_0 rfl rfl ?_
              have hr3 := h.1
              have h := h.2
              refine g_iload_n (pc := 78) (x := a1) dX11_chain_78 rfl ?_
              refine g_iload_n (pc := 79) (x := a2) dX11_chain_79 rfl ?_
              obtain ⟨Pm5, hRm5, h⟩ := h
              refine g_callV (pc := 80) (as := [.ref (m2.2.2 0 9), .ref (m2.2.2 0 10), .int a1, .int a2]) dX11_chain_80 cw_X11_270 (by decide) rfl rfl sh_91 (Nat.le_of_ble_eq_true rfl) hRm5 ?_
              intro r_ m5 hz_ hp_
              obtain ⟨r5, rfl⟩ := hz_
              have h := h r5 m5 hp_
              refine g_istore (pc := 83) (L' := [(0, .ref 0), (1, .int a1), (2, .int a2), (3, .int a3), (4, .int (1 : Int32)), (5, .int r5)]) dX11_chain_83 (Nat.le_of_ble_eq_true rfl) rfl ?_
              refine g_iload (pc := 85) (x := (1 : Int32)) dX11_chain_85 rfl ?_
              refine g_if_eq (pc := 87) (tgt := 103) dX11_chain_87 (by decide) (fun c87 => absurd c87 (by decide)) (fun _ => ?_)
              refine g_aload_n (pc := 90) (x := 0) dX11_chain_90 rfl ?_
              refine g_getR (pc := 91) (dd := 91) dX11_chain_91 fo_X11_45 sh_0 rfl ?_
              refine g_getR (pc := 94) (dd := 1) dX11_chain_94 fo_X11_274 sh_91 rfl ?_
              refine g_iload_n (pc := 97) (x := a3) dX11_chain_97 rfl ?_
              refine g_bipush (pc := 98) (v := (10 : Int32)) dX11_chain_98 (by decide) ?_
              refine g_isub (pc := 100) dX11_chain_100 ?_
              refine g_iaload (pc := 101) dX11_chain_101 sh_92 h.1 ?_
              have h := h.2
              exact g_iret (pc := 102) dX11_chain_102 rfl rfl rfl h
        · have h := h.2 p_
          refine g_if_eq (pc := 36) (tgt := 53) dX11_chain_36 (by decide) (fun _ => ?_) (fun c36 => absurd c36 (by decide))
          refine g_iconst (pc := 53) (v := (-1 : Int32)) dX11_chain_53 (by decide) ?_
          exact g_iret (pc := 54) dX11_chain_54 rfl rfl rfl h
      · have h := h.2 p_
        refine g_if_eq (pc := 29) (tgt := 53) dX11_chain_29 (by decide) (fun _ => ?_) (fun c29 => absurd c29 (by decide))
        refine g_iconst (pc := 53) (v := (-1 : Int32)) dX11_chain_53 (by decide) ?_
        exact g_iret (pc := 54) dX11_chain_54 rfl rfl rfl h
    · have h := h.2 p_
      refine g_if_eq (pc := 14) (tgt := 21) dX11_chain_14 (by decide) (fun _ => ?_) (fun c14 => absurd c14 (by decide))
      refine g_iconst (pc := 21) (v := (0 : Int32)) dX11_chain_21 (by decide) ?_
      refine g_istore (pc := 22) (L' := [(0, .ref 0), (1, .int a1), (2, .int a2), (3, .int a3), (4, .int (0 : Int32))]) dX11_chain_22 (Nat.le_of_ble_eq_true rfl) rfl ?_
      refine g_aload_n (pc := 24) (x := 0) dX11_chain_24 rfl ?_
      refine g_iload_n (pc := 25) (x := a1) dX11_chain_25 rfl ?_
      refine g_callV (pc := 26) (as := [.int a1]) dX11_chain_26 cw_X11_109 (by decide) rfl rfl sh_0 (Nat.le_of_ble_eq_true rfl) (rv_X11_isHouse mm a1 h.1) ?_
      have h := h.2
      rintro r_ m_ hz_ ⟨⟨p_, rfl⟩ | ⟨p_, rfl⟩, rfl⟩
      · have h := h.1 p_
        refine g_if_eq (pc := 29) (tgt := 53) dX11_chain_29 (by decide) (fun c29 => absurd c29 (by decide)) (fun _ => ?_)
        refine g_iload_n (pc := 32) (x := a2) dX11_chain_32 rfl ?_
        refine g_callS (pc := 33) (as := [.int a2]) dX11_chain_33 cw_X11_259 (by decide) rfl rfl (Nat.le_of_ble_eq_true rfl) (rv_X11_isWind mm a2) ?_
        rintro r_ m_ hz_ ⟨⟨p_, rfl⟩ | ⟨p_, rfl⟩, rfl⟩
        · have h := h.1 p_
          refine g_if_eq (pc := 36) (tgt := 53) dX11_chain_36 (by decide) (fun c36 => absurd c36 (by decide)) (fun _ => ?_)
          refine g_iload_n (pc := 39) (x := a3) dX11_chain_39 rfl ?_
          refine g_if_eq (pc := 40) (tgt := 55) dX11_chain_40 (by decide) (fun c40 => ?_) (fun c40 => ?_)
          · have h := h.1 c40
            refine g_aload_n (pc := 55) (x := 0) dX11_chain_55 rfl ?_
            refine g_getR (pc := 56) (dd := 91) dX11_chain_56 fo_X11_45 sh_0 rfl ?_
            refine g_aload_n (pc := 59) (x := 0) dX11_chain_59 rfl ?_
            refine g_getVt (pc := 60) (t := (mm.2.2 0 9)) dX11_chain_60 fo_X11_69 sh_0 rfl rfl ?_
            have hr0 := h.1
            have h := h.2
            obtain ⟨Pm2, hRm2, h⟩ := h
            refine g_callV (pc := 63) (as := [.ref (mm.2.2 0 9)]) dX11_chain_63 cw_X11_266 (by decide) rfl rfl sh_91 (Nat.le_of_ble_eq_true rfl) hRm2 ?_
            intro r_ m2 hz_ hp_
            obtain rfl := hz_
            have h := h m2 hp_
            refine g_aload_n (pc := 66) (x := 0) dX11_chain_66 rfl ?_
            refine g_getR (pc := 67) (dd := 91) dX11_chain_67 fo_X11_45 sh_0 rfl ?_
            refine g_aload_n (pc := 70) (x := 0) dX11_chain_70 rfl ?_
            refine g_getVt (pc := 71) (t := (m2.2.2 0 9)) dX11_chain_71 fo_X11_69 sh_0 rfl rfl ?_
            have hr2 := h.1
            have h := h.2
            refine g_aload_n (pc := 74) (x := 0) dX11_chain_74 rfl ?_
            refine g_getVt (pc := 75) (t := (m2.2.2 0 10)) dX11_chain_75 fo_X11_74 sh_0 rfl rfl ?_
            have hr3 := h.1
            have h := h.2
            refine g_iload_n (pc := 78) (x := a1) dX11_chain_78 rfl ?_
            refine g_iload_n (pc := 79) (x := a2) dX11_chain_79 rfl ?_
            obtain ⟨Pm5, hRm5, h⟩ := h
            refine g_callV (pc := 80) (as := [.ref (m2.2.2 0 9), .ref (m2.2.2 0 10), .int a1, .int a2]) dX11_chain_80 cw_X11_270 (by decide) rfl rfl sh_91 (Nat.le_of_ble_eq_true rfl) hRm5 ?_
            intro r_ m5 hz_ hp_
            obtain ⟨r5, rfl⟩ := hz_
            have h := h r5 m5 hp_
            refine g_istore (pc := 83) (L' := [(0, .ref 0), (1, .int a1), (2, .int a2), (3, .int a3), (4, .int (0 : Int32)), (5, .int r5)]) dX11_chain_83 (Nat.le_of_ble_eq_true rfl) rfl ?_
            refine g_iload (pc := 85) (x := (0 : Int32)) dX11_chain_85 rfl ?_
            refine g_if_eq (pc := 87) (tgt := 103) dX11_chain_87 (by decide) (fun _ => ?_) (fun c87 => absurd c87 (by decide))
            refine g_iload_n (pc := 103) (x := a3) dX11_chain_103 rfl ?_
            refine g_if_ne (pc := 104) (tgt := 112) dX11_chain_104 (by decide) (fun c104 => ?_) (fun c104 => ?_)
            · have h := h.1 c104
              refine g_aload_n (pc := 112) (x := 0) dX11_chain_112 rfl ?_
              refine g_getR (pc := 113) (dd := 91) dX11_chain_113 fo_X11_45 sh_0 rfl ?_
              refine g_getI (pc := 116) dX11_chain_116 fo_X11_277 sh_91 rfl ?_
              exact g_iret (pc := 119) dX11_chain_119 rfl rfl rfl h
            · have h := h.2 c104
              refine g_iload (pc := 107) (x := r5) dX11_chain_107 rfl ?_
              refine g_goto (pc := 109) (tgt := 119) dX11_chain_109 (by decide) ?_
              exact g_iret (pc := 119) dX11_chain_119 rfl rfl rfl h
          · have h := h.2 c40
            refine g_iload_n (pc := 43) (x := a3) dX11_chain_43 rfl ?_
            refine g_iconst (pc := 44) (v := (1 : Int32)) dX11_chain_44 (by decide) ?_
            refine g_icmp_eq (pc := 45) (tgt := 55) dX11_chain_45 (by decide) (fun c45 => ?_) (fun c45 => ?_)
            · have h := h.1 c45
              refine g_aload_n (pc := 55) (x := 0) dX11_chain_55 rfl ?_
              refine g_getR (pc := 56) (dd := 91) dX11_chain_56 fo_X11_45 sh_0 rfl ?_
              refine g_aload_n (pc := 59) (x := 0) dX11_chain_59 rfl ?_
              refine g_getVt (pc := 60) (t := (mm.2.2 0 9)) dX11_chain_60 fo_X11_69 sh_0 rfl rfl ?_
              have hr0 := h.1
              have h := h.2
              obtain ⟨Pm2, hRm2, h⟩ := h
              refine g_callV (pc := 63) (as := [.ref (mm.2.2 0 9)]) dX11_chain_63 cw_X11_266 (by decide) rfl rfl sh_91 (Nat.le_of_ble_eq_true rfl) hRm2 ?_
              intro r_ m2 hz_ hp_
              obtain rfl := hz_
              have h := h m2 hp_
              refine g_aload_n (pc := 66) (x := 0) dX11_chain_66 rfl ?_
              refine g_getR (pc := 67) (dd := 91) dX11_chain_67 fo_X11_45 sh_0 rfl ?_
              refine g_aload_n (pc := 70) (x := 0) dX11_chain_70 rfl ?_
              refine g_getVt (pc := 71) (t := (m2.2.2 0 9)) dX11_chain_71 fo_X11_69 sh_0 rfl rfl ?_
              have hr2 := h.1
              have h := h.2
              refine g_aload_n (pc := 74) (x := 0) dX11_chain_74 rfl ?_
              refine g_getVt (pc := 75) (t := (m2.2.2 0 10)) dX11_chain_75 fo_X11_74 sh_0 rfl rfl ?_
              have hr3 := h.1
              have h := h.2
              refine g_iload_n (pc := 78) (x := a1) dX11_chain_78 rfl ?_
              refine g_iload_n (pc := 79) (x := a2) dX11_chain_79 rfl ?_
              obtain ⟨Pm5, hRm5, h⟩ := h
              refine g_callV (pc := 80) (as := [.ref (m2.2.2 0 9), .ref (m2.2.2 0 10), .int a1, .int a2]) dX11_chain_80 cw_X11_270 (by decide) rfl rfl sh_91 (Nat.le_of_ble_eq_true rfl) hRm5 ?_
              intro r_ m5 hz_ hp_
              obtain ⟨r5, rfl⟩ := hz_
              have h := h r5 m5 hp_
              refine g_istore (pc := 83) (L' := [(0, .ref 0), (1, .int a1), (2, .int a2), (3, .int a3), (4, .int (0 : Int32)), (5, .int r5)]) dX11_chain_83 (Nat.le_of_ble_eq_true rfl) rfl ?_
              refine g_iload (pc := 85) (x := (0 : Int32)) dX11_chain_85 rfl ?_
              refine g_if_eq (pc := 87) (tgt := 103) dX11_chain_87 (by decide) (fun _ => ?_) (fun c87 => absurd c87 (by decide))
              refine g_iload_n (pc := 103) (x := a3) dX11_chain_103 rfl ?_
              refine g_if_ne (pc := 104) (tgt := 112) dX11_chain_104 (by decide) (fun c104 => ?_) (fun c104 => ?_)
              · have h := h.1 c104
                refine g_aload_n (pc := 112) (x := 0) dX11_chain_112 rfl ?_
                refine g_getR (pc := 113) (dd := 91) dX11_chain_113 fo_X11_45 sh_0 rfl ?_
                refine g_getI (pc := 116) dX11_chain_116 fo_X11_277 sh_91 rfl ?_
                exact g_iret (pc := 119) dX11_chain_119 rfl rfl rfl h
              · have h := h.2 c104
                refine g_iload (pc := 107) (x := r5) dX11_chain_107 rfl ?_
                refine g_goto (pc := 109) (tgt := 119) dX11_chain_109 (by decide) ?_
                exact g_iret (pc := 119) dX11_chain_119 rfl rfl rfl h
            · have h := h.2 c45
              refine g_iload (pc := 48) (x := (0 : Int32)) dX11_chain_48 rfl ?_
              refine g_if_ne (pc := 50) (tgt := 55) dX11_chain_50 (by decide) (fun c50 => absurd c50 (by decide)) (fun _ => ?_)
              refine g_iconst (pc := 53) (v := (-1 : Int32)) dX11_chain_53 (by decide) ?_
              exact g_iret (pc := 54) dX11_chain_54 rfl rfl rfl h
        · have h := h.2 p_
          refine g_if_eq (pc := 36) (tgt := 53) dX11_chain_36 (by decide) (fun _ => ?_) (fun c36 => absurd c36 (by decide))
          refine g_iconst (pc := 53) (v := (-1 : Int32)) dX11_chain_53 (by decide) ?_
          exact g_iret (pc := 54) dX11_chain_54 rfl rfl rfl h
      · have h := h.2 p_
        refine g_if_eq (pc := 29) (tgt := 53) dX11_chain_29 (by decide) (fun _ => ?_) (fun c29 => absurd c29 (by decide))
        refine g_iconst (pc := 53) (v := (-1 : Int32)) dX11_chain_53 (by decide) ?_
        exact g_iret (pc := 54) dX11_chain_54 rfl rfl rfl h
theorem dX11_dread_0 : decode cX11_dread 0 = .ok (.iload_n 1, 1) := by decide +kernel
theorem dX11_dread_1 : decode cX11_dread 1 = .ok (.invokestatic 259, 3) := by decide +kernel
theorem dX11_dread_4 : decode cX11_dread 4 = .ok (.ifCond .ne 5, 3) := by decide +kernel
theorem dX11_dread_7 : decode cX11_dread 7 = .ok (.iconst (-1), 1) := by decide +kernel
theorem dX11_dread_8 : decode cX11_dread 8 = .ok (.ireturn, 1) := by decide +kernel
theorem dX11_dread_9 : decode cX11_dread 9 = .ok (.aload_n 0, 1) := by decide +kernel
theorem dX11_dread_10 : decode cX11_dread 10 = .ok (.getfield 45, 3) := by decide +kernel
theorem dX11_dread_13 : decode cX11_dread 13 = .ok (.aload_n 0, 1) := by decide +kernel
theorem dX11_dread_14 : decode cX11_dread 14 = .ok (.getfield 69, 3) := by decide +kernel
theorem dX11_dread_17 : decode cX11_dread 17 = .ok (.invokevirtual 266, 3) := by decide +kernel
theorem dX11_dread_20 : decode cX11_dread 20 = .ok (.bipush (-2), 2) := by decide +kernel
theorem dX11_dread_22 : decode cX11_dread 22 = .ok (.istore_n 2, 1) := by decide +kernel
theorem dX11_dread_23 : decode cX11_dread 23 = .ok (.iconst 0, 1) := by decide +kernel
theorem dX11_dread_24 : decode cX11_dread 24 = .ok (.istore_n 3, 1) := by decide +kernel
theorem dX11_dread_25 : decode cX11_dread 25 = .ok (.iconst 0, 1) := by decide +kernel
theorem dX11_dread_26 : decode cX11_dread 26 = .ok (.istore 4, 2) := by decide +kernel
theorem dX11_dread_28 : decode cX11_dread 28 = .ok (.iload 4, 2) := by decide +kernel
theorem dX11_dread_30 : decode cX11_dread 30 = .ok (.aload_n 0, 1) := by decide +kernel
theorem dX11_dread_31 : decode cX11_dread 31 = .ok (.getfield 69, 3) := by decide +kernel
theorem dX11_dread_34 : decode cX11_dread 34 = .ok (.getfield 178, 3) := by decide +kernel
theorem dX11_dread_37 : decode cX11_dread 37 = .ok (.if_icmp .ge 41, 3) := by decide +kernel
theorem dX11_dread_40 : decode cX11_dread 40 = .ok (.aload_n 0, 1) := by decide +kernel
theorem dX11_dread_41 : decode cX11_dread 41 = .ok (.getfield 45, 3) := by decide +kernel
theorem dX11_dread_44 : decode cX11_dread 44 = .ok (.aload_n 0, 1) := by decide +kernel
theorem dX11_dread_45 : decode cX11_dread 45 = .ok (.getfield 69, 3) := by decide +kernel
theorem dX11_dread_48 : decode cX11_dread 48 = .ok (.aload_n 0, 1) := by decide +kernel
theorem dX11_dread_49 : decode cX11_dread 49 = .ok (.getfield 74, 3) := by decide +kernel
theorem dX11_dread_52 : decode cX11_dread 52 = .ok (.iload 4, 2) := by decide +kernel
theorem dX11_dread_54 : decode cX11_dread 54 = .ok (.iload_n 1, 1) := by decide +kernel
theorem dX11_dread_55 : decode cX11_dread 55 = .ok (.invokevirtual 270, 3) := by decide +kernel
theorem dX11_dread_58 : decode cX11_dread 58 = .ok (.istore 5, 2) := by decide +kernel
theorem dX11_dread_60 : decode cX11_dread 60 = .ok (.iload 5, 2) := by decide +kernel
theorem dX11_dread_62 : decode cX11_dread 62 = .ok (.iload_n 3, 1) := by decide +kernel
theorem dX11_dread_63 : decode cX11_dread 63 = .ok (.if_icmp .le 9, 3) := by decide +kernel
theorem dX11_dread_66 : decode cX11_dread 66 = .ok (.iload 5, 2) := by decide +kernel
theorem dX11_dread_68 : decode cX11_dread 68 = .ok (.istore_n 3, 1) := by decide +kernel
theorem dX11_dread_69 : decode cX11_dread 69 = .ok (.iload 4, 2) := by decide +kernel
theorem dX11_dread_71 : decode cX11_dread 71 = .ok (.istore_n 2, 1) := by decide +kernel
theorem dX11_dread_72 : decode cX11_dread 72 = .ok (.iinc 4 1, 3) := by decide +kernel
theorem dX11_dread_75 : decode cX11_dread 75 = .ok (.goto (-47), 3) := by decide +kernel
theorem dX11_dread_78 : decode cX11_dread 78 = .ok (.iload_n 2, 1) := by decide +kernel
theorem dX11_dread_79 : decode cX11_dread 79 = .ok (.ireturn, 1) := by decide +kernel
theorem b_X11_dread (mm : MM) (Q : Value → MM → Prop) (a1 : Int32) (h : (p_X11_isWind mm a1 → (AtTown (mm.2.2 0 9) ∧ (∃ Pm2 : Value → MM → Prop, Runs e_X0_prepare [.ref 91, .ref (mm.2.2 0 9)] mm Pm2 ∧ ∀ m2, Pm2 .null m2 → (G e_X11_dread 28 [(0, .ref 0), (1, .int a1), (2, .int (-2 : Int32)), (3, .int (0 : Int32)), (4, .int (0 : Int32))] [] m2 Q)))) ∧ (¬ p_X11_isWind mm a1 → (Q (.int (-1 : Int32)) mm))) : Runs e_X11_dread [.ref 0, .int a1] mm Q := by
  refine runs_of_G (L := [(0, .ref 0), (1, .int a1)]) pl_X11 (Nat.le_of_ble_eq_true rfl) rfl ?_
  refine g_iload_n (pc := 0) (x := a1) dX11_dread_0 rfl ?_
  refine g_callS (pc := 1) (as := [.int a1]) dX11_dread_1 cw_X11_259 (by decide) rfl rfl (Nat.le_of_ble_eq_true rfl) (rv_X11_isWind mm a1) ?_
  rintro r_ m_ hz_ ⟨⟨p_, rfl⟩ | ⟨p_, rfl⟩, rfl⟩
  · have h := h.1 p_
    refine g_if_ne (pc := 4) (tgt := 9) dX11_dread_4 (by decide) (fun _ => ?_) (fun c4 => absurd c4 (by decide))
    refine g_aload_n (pc := 9) (x := 0) dX11_dread_9 rfl ?_
    refine g_getR (pc := 10) (dd := 91) dX11_dread_10 fo_X11_45 sh_0 rfl ?_
    refine g_aload_n (pc := 13) (x := 0) dX11_dread_13 rfl ?_
    refine g_getVt (pc := 14) (t := (mm.2.2 0 9)) dX11_dread_14 fo_X11_69 sh_0 rfl rfl ?_
    have hr0 := h.1
    have h := h.2
    obtain ⟨Pm2, hRm2, h⟩ := h
    refine g_callV (pc := 17) (as := [.ref (mm.2.2 0 9)]) dX11_dread_17 cw_X11_266 (by decide) rfl rfl sh_91 (Nat.le_of_ble_eq_true rfl) hRm2 ?_
    intro r_ m2 hz_ hp_
    obtain rfl := hz_
    have h := h m2 hp_
    refine g_bipush (pc := 20) (v := (-2 : Int32)) dX11_dread_20 (by decide) ?_
    refine g_istore_n (pc := 22) (L' := [(0, .ref 0), (1, .int a1), (2, .int (-2 : Int32))]) dX11_dread_22 (Nat.le_of_ble_eq_true rfl) rfl ?_
    refine g_iconst (pc := 23) (v := (0 : Int32)) dX11_dread_23 (by decide) ?_
    refine g_istore_n (pc := 24) (L' := [(0, .ref 0), (1, .int a1), (2, .int (-2 : Int32)), (3, .int (0 : Int32))]) dX11_dread_24 (Nat.le_of_ble_eq_true rfl) rfl ?_
    refine g_iconst (pc := 25) (v := (0 : Int32)) dX11_dread_25 (by decide) ?_
    refine g_istore (pc := 26) (L' := [(0, .ref 0), (1, .int a1), (2, .int (-2 : Int32)), (3, .int (0 : Int32)), (4, .int (0 : Int32))]) dX11_dread_26 (Nat.le_of_ble_eq_true rfl) rfl ?_
    exact h
  · have h := h.2 p_
    refine g_if_ne (pc := 4) (tgt := 9) dX11_dread_4 (by decide) (fun c4 => absurd c4 (by decide)) (fun _ => ?_)
    refine g_iconst (pc := 7) (v := (-1 : Int32)) dX11_dread_7 (by decide) ?_
    exact g_iret (pc := 8) dX11_dread_8 rfl rfl rfl h
theorem b_X11_dread_28 (mm : MM) (Q : Value → MM → Prop) (l1 : Int32) (l2 : Int32) (l3 : Int32) (l4 : Int32) (h : AtTown (mm.2.2 0 9) ∧ (((mm.1 (mm.2.2 0 9) 8) ≤ l4 → (Q (.int l2) mm)) ∧ (¬ (mm.1 (mm.2.2 0 9) 8) ≤ l4 → (AtTown (mm.2.2 0 9) ∧ (AtState (mm.2.2 0 10) ∧ (∃ Pm4 : Value → MM → Prop, Runs e_X0_startAt [.ref 91, .ref (mm.2.2 0 9), .ref (mm.2.2 0 10), .int l4, .int l1] mm Pm4 ∧ ∀ (r4 : Int32) (m4 : MM), Pm4 (.int r4) m4 → ((r4 ≤ l3 → (G e_X11_dread 28 [(0, .ref 0), (1, .int l1), (2, .int l2), (3, .int l3), (4, .int (l4 + (1 : Int32)))] [] m4 Q)) ∧ (¬ r4 ≤ l3 → (G e_X11_dread 28 [(0, .ref 0), (1, .int l1), (2, .int l4), (3, .int r4), (4, .int (l4 + (1 : Int32)))] [] m4 Q))))))))) : G e_X11_dread 28 [(0, .ref 0), (1, .int l1), (2, .int l2), (3, .int l3), (4, .int l4)] [] mm Q := by
  refine g_iload (pc := 28) (x := l4) dX11_dread_28 rfl ?_
  refine g_aload_n (pc := 30) (x := 0) dX11_dread_30 rfl ?_
  refine g_getVt (pc := 31) (t := (mm.2.2 0 9)) dX11_dread_31 fo_X11_69 sh_0 rfl rfl ?_
  have hr0 := h.1
  have h := h.2
  refine g_getI (pc := 34) dX11_dread_34 fo_X11_178 (AtTown_0 hr0) rfl ?_
  refine g_icmp_ge (pc := 37) (tgt := 78) dX11_dread_37 (by decide) (fun c37 => ?_) (fun c37 => ?_)
  · have h := h.1 c37
    refine g_iload_n (pc := 78) (x := l2) dX11_dread_78 rfl ?_
    exact g_iret (pc := 79) dX11_dread_79 rfl rfl rfl h
  · have h := h.2 c37
    refine g_aload_n (pc := 40) (x := 0) dX11_dread_40 rfl ?_
    refine g_getR (pc := 41) (dd := 91) dX11_dread_41 fo_X11_45 sh_0 rfl ?_
    refine g_aload_n (pc := 44) (x := 0) dX11_dread_44 rfl ?_
    refine g_getVt (pc := 45) (t := (mm.2.2 0 9)) dX11_dread_45 fo_X11_69 sh_0 rfl rfl ?_
    have hr1 := h.1
    have h := h.2
    refine g_aload_n (pc := 48) (x := 0) dX11_dread_48 rfl ?_
    refine g_getVt (pc := 49) (t := (mm.2.2 0 10)) dX11_dread_49 fo_X11_74 sh_0 rfl rfl ?_
    have hr2 := h.1
    have h := h.2
    refine g_iload (pc := 52) (x := l4) dX11_dread_52 rfl ?_
    refine g_iload_n (pc := 54) (x := l1) dX11_dread_54 rfl ?_
    obtain ⟨Pm4, hRm4, h⟩ := h
    refine g_callV (pc := 55) (as := [.ref (mm.2.2 0 9), .ref (mm.2.2 0 10), .int l4, .int l1]) dX11_dread_55 cw_X11_270 (by decide) rfl rfl sh_91 (Nat.le_of_ble_eq_true rfl) hRm4 ?_
    intro r_ m4 hz_ hp_
    obtain ⟨r4, rfl⟩ := hz_
    have h := h r4 m4 hp_
    refine g_istore (pc := 58) (L' := [(0, .ref 0), (1, .int l1), (2, .int l2), (3, .int l3), (4, .int l4), (5, .int r4)]) dX11_dread_58 (Nat.le_of_ble_eq_true rfl) rfl ?_
    refine g_iload (pc := 60) (x := r4) dX11_dread_60 rfl ?_
    refine g_iload_n (pc := 62) (x := l3) dX11_dread_62 rfl ?_
    refine g_icmp_le (pc := 63) (tgt := 72) dX11_dread_63 (by decide) (fun c63 => ?_) (fun c63 => ?_)
    · have h := h.1 c63
      refine g_iinc (pc := 72) (x := l4) (v := (l4 + (1 : Int32))) (L' := [(0, .ref 0), (1, .int l1), (2, .int l2), (3, .int l3), (4, .int (l4 + (1 : Int32))), (5, .int r4)]) dX11_dread_72 rfl rfl (Nat.le_of_ble_eq_true rfl) rfl ?_
      refine g_goto (pc := 75) (tgt := 28) dX11_dread_75 (by decide) ?_
      refine g_sub (L' := [(0, .ref 0), (1, .int l1), (2, .int l2), (3, .int l3), (4, .int (l4 + (1 : Int32)))]) [0, 1, 2, 3, 4] rfl ?_
      exact h
    · have h := h.2 c63
      refine g_iload (pc := 66) (x := r4) dX11_dread_66 rfl ?_
      refine g_istore_n (pc := 68) (L' := [(0, .ref 0), (1, .int l1), (2, .int l2), (3, .int r4), (4, .int l4), (5, .int r4)]) dX11_dread_68 (Nat.le_of_ble_eq_true rfl) rfl ?_
      refine g_iload (pc := 69) (x := l4) dX11_dread_69 rfl ?_
      refine g_istore_n (pc := 71) (L' := [(0, .ref 0), (1, .int l1), (2, .int l4), (3, .int r4), (4, .int l4), (5, .int r4)]) dX11_dread_71 (Nat.le_of_ble_eq_true rfl) rfl ?_
      refine g_iinc (pc := 72) (x := l4) (v := (l4 + (1 : Int32))) (L' := [(0, .ref 0), (1, .int l1), (2, .int l4), (3, .int r4), (4, .int (l4 + (1 : Int32))), (5, .int r4)]) dX11_dread_72 rfl rfl (Nat.le_of_ble_eq_true rfl) rfl ?_
      refine g_goto (pc := 75) (tgt := 28) dX11_dread_75 (by decide) ?_
      refine g_sub (L' := [(0, .ref 0), (1, .int l1), (2, .int l4), (3, .int r4), (4, .int (l4 + (1 : Int32)))]) [0, 1, 2, 3, 4] rfl ?_
      exact h
theorem dX11_year_0 : decode cX11_year 0 = .ok (.iload_n 1, 1) := by decide +kernel
theorem dX11_year_1 : decode cX11_year 1 = .ok (.iconst 0, 1) := by decide +kernel
theorem dX11_year_2 : decode cX11_year 2 = .ok (.bipush 99, 2) := by decide +kernel
theorem dX11_year_4 : decode cX11_year 4 = .ok (.invokestatic 144, 3) := by decide +kernel
theorem dX11_year_7 : decode cX11_year 7 = .ok (.ifCond .eq 14, 3) := by decide +kernel
theorem dX11_year_10 : decode cX11_year 10 = .ok (.aload_n 0, 1) := by decide +kernel
theorem dX11_year_11 : decode cX11_year 11 = .ok (.getfield 52, 3) := by decide +kernel
theorem dX11_year_14 : decode cX11_year 14 = .ok (.iload_n 1, 1) := by decide +kernel
theorem dX11_year_15 : decode cX11_year 15 = .ok (.invokevirtual 280, 3) := by decide +kernel
theorem dX11_year_18 : decode cX11_year 18 = .ok (.goto 4, 3) := by decide +kernel
theorem dX11_year_21 : decode cX11_year 21 = .ok (.iconst (-1), 1) := by decide +kernel
theorem dX11_year_22 : decode cX11_year 22 = .ok (.ireturn, 1) := by decide +kernel
theorem b_X11_year (mm : MM) (Q : Value → MM → Prop) (a1 : Int32) (h : (p_X11_within mm a1 (0 : Int32) (99 : Int32) → (∃ Pm1 : Value → MM → Prop, Runs e_X5_add [.ref 95, .int a1] mm Pm1 ∧ ∀ (r1 : Int32) (m1 : MM), Pm1 (.int r1) m1 → (Q (.int r1) m1))) ∧ (¬ p_X11_within mm a1 (0 : Int32) (99 : Int32) → (Q (.int (-1 : Int32)) mm))) : Runs e_X11_year [.ref 0, .int a1] mm Q := by
  refine runs_of_G (L := [(0, .ref 0), (1, .int a1)]) pl_X11 (Nat.le_of_ble_eq_true rfl) rfl ?_
  refine g_iload_n (pc := 0) (x := a1) dX11_year_0 rfl ?_
  refine g_iconst (pc := 1) (v := (0 : Int32)) dX11_year_1 (by decide) ?_
  refine g_bipush (pc := 2) (v := (99 : Int32)) dX11_year_2 (by decide) ?_
  refine g_callS (pc := 4) (as := [.int a1, .int (0 : Int32), .int (99 : Int32)]) dX11_year_4 cw_X11_144 (by decide) rfl rfl (Nat.le_of_ble_eq_true rfl) (rv_X11_within mm a1 (0 : Int32) (99 : Int32)) ?_
  rintro r_ m_ hz_ ⟨⟨p_, rfl⟩ | ⟨p_, rfl⟩, rfl⟩
  · have h := h.1 p_
    refine g_if_eq (pc := 7) (tgt := 21) dX11_year_7 (by decide) (fun c7 => absurd c7 (by decide)) (fun _ => ?_)
    refine g_aload_n (pc := 10) (x := 0) dX11_year_10 rfl ?_
    refine g_getR (pc := 11) (dd := 95) dX11_year_11 fo_X11_52 sh_0 rfl ?_
    refine g_iload_n (pc := 14) (x := a1) dX11_year_14 rfl ?_
    obtain ⟨Pm1, hRm1, h⟩ := h
    refine g_callV (pc := 15) (as := [.int a1]) dX11_year_15 cw_X11_280 (by decide) rfl rfl sh_95 (Nat.le_of_ble_eq_true rfl) hRm1 ?_
    intro r_ m1 hz_ hp_
    obtain ⟨r1, rfl⟩ := hz_
    have h := h r1 m1 hp_
    refine g_goto (pc := 18) (tgt := 22) dX11_year_18 (by decide) ?_
    exact g_iret (pc := 22) dX11_year_22 rfl rfl rfl h
  · have h := h.2 p_
    refine g_if_eq (pc := 7) (tgt := 21) dX11_year_7 (by decide) (fun _ => ?_) (fun c7 => absurd c7 (by decide))
    refine g_iconst (pc := 21) (v := (-1 : Int32)) dX11_year_21 (by decide) ?_
    exact g_iret (pc := 22) dX11_year_22 rfl rfl rfl h
theorem dX11_clear_0 : decode cX11_clear 0 = .ok (.aload_n 0, 1) := by decide +kernel
theorem dX11_clear_1 : decode cX11_clear 1 = .ok (.getfield 52, 3) := by decide +kernel
theorem dX11_clear_4 : decode cX11_clear 4 = .ok (.getfield 105, 3) := by decide +kernel
theorem dX11_clear_7 : decode cX11_clear 7 = .ok (.istore_n 1, 1) := by decide +kernel
theorem dX11_clear_8 : decode cX11_clear 8 = .ok (.aload_n 0, 1) := by decide +kernel
theorem dX11_clear_9 : decode cX11_clear 9 = .ok (.getfield 52, 3) := by decide +kernel
theorem dX11_clear_12 : decode cX11_clear 12 = .ok (.iconst 0, 1) := by decide +kernel
theorem dX11_clear_13 : decode cX11_clear 13 = .ok (.putfield 105, 3) := by decide +kernel
theorem dX11_clear_16 : decode cX11_clear 16 = .ok (.iload_n 1, 1) := by decide +kernel
theorem dX11_clear_17 : decode cX11_clear 17 = .ok (.ireturn, 1) := by decide +kernel
theorem b_X11_clear (mm : MM) (Q : Value → MM → Prop) (h : Q (.int (mm.1 95 2)) (wI mm 95 2 (0 : Int32))) : Runs e_X11_clear [.ref 0] mm Q := by
  refine runs_of_G (L := [(0, .ref 0)]) pl_X11 (Nat.le_of_ble_eq_true rfl) rfl ?_
  refine g_aload_n (pc := 0) (x := 0) dX11_clear_0 rfl ?_
  refine g_getR (pc := 1) (dd := 95) dX11_clear_1 fo_X11_52 sh_0 rfl ?_
  refine g_getI (pc := 4) dX11_clear_4 fo_X11_105 sh_95 rfl ?_
  refine g_istore_n (pc := 7) (L' := [(0, .ref 0), (1, .int (mm.1 95 2))]) dX11_clear_7 (Nat.le_of_ble_eq_true rfl) rfl ?_
  refine g_aload_n (pc := 8) (x := 0) dX11_clear_8 rfl ?_
  refine g_getR (pc := 9) (dd := 95) dX11_clear_9 fo_X11_52 sh_0 rfl ?_
  refine g_iconst (pc := 12) (v := (0 : Int32)) dX11_clear_12 (by decide) ?_
  refine g_putI (pc := 13) dX11_clear_13 fo_X11_105 sh_95 rfl rfl rfl ?_
  refine g_iload_n (pc := 16) (x := (mm.1 95 2)) dX11_clear_16 rfl ?_
  exact g_iret (pc := 17) dX11_clear_17 rfl rfl rfl h
theorem dX11_arePosts_0 : decode cX11_arePosts 0 = .ok (.iload_n 0, 1) := by decide +kernel
theorem dX11_arePosts_1 : decode cX11_arePosts 1 = .ok (.iconst 0, 1) := by decide +kernel
theorem dX11_arePosts_2 : decode cX11_arePosts 2 = .ok (.bipush 99, 2) := by decide +kernel
theorem dX11_arePosts_4 : decode cX11_arePosts 4 = .ok (.invokestatic 144, 3) := by decide +kernel
theorem dX11_arePosts_7 : decode cX11_arePosts 7 = .ok (.ifCond .eq 48, 3) := by decide +kernel
theorem dX11_arePosts_10 : decode cX11_arePosts 10 = .ok (.iload_n 1, 1) := by decide +kernel
theorem dX11_arePosts_11 : decode cX11_arePosts 11 = .ok (.iconst 0, 1) := by decide +kernel
theorem dX11_arePosts_12 : decode cX11_arePosts 12 = .ok (.bipush 99, 2) := by decide +kernel
theorem dX11_arePosts_14 : decode cX11_arePosts 14 = .ok (.invokestatic 144, 3) := by decide +kernel
theorem dX11_arePosts_17 : decode cX11_arePosts 17 = .ok (.ifCond .eq 38, 3) := by decide +kernel
theorem dX11_arePosts_20 : decode cX11_arePosts 20 = .ok (.iload_n 2, 1) := by decide +kernel
theorem dX11_arePosts_21 : decode cX11_arePosts 21 = .ok (.iconst 0, 1) := by decide +kernel
theorem dX11_arePosts_22 : decode cX11_arePosts 22 = .ok (.bipush 99, 2) := by decide +kernel
theorem dX11_arePosts_24 : decode cX11_arePosts 24 = .ok (.invokestatic 144, 3) := by decide +kernel
theorem dX11_arePosts_27 : decode cX11_arePosts 27 = .ok (.ifCond .eq 28, 3) := by decide +kernel
theorem dX11_arePosts_30 : decode cX11_arePosts 30 = .ok (.iload_n 3, 1) := by decide +kernel
theorem dX11_arePosts_31 : decode cX11_arePosts 31 = .ok (.iconst 0, 1) := by decide +kernel
theorem dX11_arePosts_32 : decode cX11_arePosts 32 = .ok (.bipush 99, 2) := by decide +kernel
theorem dX11_arePosts_34 : decode cX11_arePosts 34 = .ok (.invokestatic 144, 3) := by decide +kernel
theorem dX11_arePosts_37 : decode cX11_arePosts 37 = .ok (.ifCond .eq 18, 3) := by decide +kernel
theorem dX11_arePosts_40 : decode cX11_arePosts 40 = .ok (.iload 4, 2) := by decide +kernel
theorem dX11_arePosts_42 : decode cX11_arePosts 42 = .ok (.iconst 0, 1) := by decide +kernel
theorem dX11_arePosts_43 : decode cX11_arePosts 43 = .ok (.bipush 99, 2) := by decide +kernel
theorem dX11_arePosts_45 : decode cX11_arePosts 45 = .ok (.invokestatic 144, 3) := by decide +kernel
theorem dX11_arePosts_48 : decode cX11_arePosts 48 = .ok (.ifCond .eq 7, 3) := by decide +kernel
theorem dX11_arePosts_51 : decode cX11_arePosts 51 = .ok (.iconst 1, 1) := by decide +kernel
theorem dX11_arePosts_52 : decode cX11_arePosts 52 = .ok (.goto 4, 3) := by decide +kernel
theorem dX11_arePosts_55 : decode cX11_arePosts 55 = .ok (.iconst 0, 1) := by decide +kernel
theorem dX11_arePosts_56 : decode cX11_arePosts 56 = .ok (.ireturn, 1) := by decide +kernel
def p_X11_arePosts (mm : MM) (a0 : Int32) (a1 : Int32) (a2 : Int32) (a3 : Int32) (a4 : Int32) : Prop := (p_X11_within mm a0 (0 : Int32) (99 : Int32) ∧ (p_X11_within mm a1 (0 : Int32) (99 : Int32) ∧ (p_X11_within mm a2 (0 : Int32) (99 : Int32) ∧ (p_X11_within mm a3 (0 : Int32) (99 : Int32) ∧ p_X11_within mm a4 (0 : Int32) (99 : Int32)))))
theorem rv_X11_arePosts (mm : MM) (a0 : Int32) (a1 : Int32) (a2 : Int32) (a3 : Int32) (a4 : Int32) : Runs e_X11_arePosts [.int a0, .int a1, .int a2, .int a3, .int a4] mm (fun r m_ => ((p_X11_arePosts mm a0 a1 a2 a3 a4 ∧ r = .int 1) ∨ (¬ p_X11_arePosts mm a0 a1 a2 a3 a4 ∧ r = .int 0)) ∧ mm = m_) := by
  refine runs_of_G (L := [(0, .int a0), (1, .int a1), (2, .int a2), (3, .int a3), (4, .int a4)]) pl_X11 (Nat.le_of_ble_eq_true rfl) rfl ?_
  refine g_iload_n (pc := 0) (x := a0) dX11_arePosts_0 rfl ?_
  refine g_iconst (pc := 1) (v := (0 : Int32)) dX11_arePosts_1 (by decide) ?_
  refine g_bipush (pc := 2) (v := (99 : Int32)) dX11_arePosts_2 (by decide) ?_
  refine g_callS (pc := 4) (as := [.int a0, .int (0 : Int32), .int (99 : Int32)]) dX11_arePosts_4 cw_X11_144 (by decide) rfl rfl (Nat.le_of_ble_eq_true rfl) (rv_X11_within mm a0 (0 : Int32) (99 : Int32)) ?_
  rintro r_ m_ hz_ ⟨⟨p_, rfl⟩ | ⟨p_, rfl⟩, rfl⟩
  · have p__0 : p_X11_within mm a0 (0 : Int32) (99 : Int32) := p_
    refine g_if_eq (pc := 7) (tgt := 55) dX11_arePosts_7 (by decide) (fun c7 => absurd c7 (by decide)) (fun _ => ?_)
    refine g_iload_n (pc := 10) (x := a1) dX11_arePosts_10 rfl ?_
    refine g_iconst (pc := 11) (v := (0 : Int32)) dX11_arePosts_11 (by decide) ?_
    refine g_bipush (pc := 12) (v := (99 : Int32)) dX11_arePosts_12 (by decide) ?_
    refine g_callS (pc := 14) (as := [.int a1, .int (0 : Int32), .int (99 : Int32)]) dX11_arePosts_14 cw_X11_144 (by decide) rfl rfl (Nat.le_of_ble_eq_true rfl) (rv_X11_within mm a1 (0 : Int32) (99 : Int32)) ?_
    rintro r_ m_ hz_ ⟨⟨p_, rfl⟩ | ⟨p_, rfl⟩, rfl⟩
    · have p__1 : p_X11_within mm a1 (0 : Int32) (99 : Int32) := p_
      refine g_if_eq (pc := 17) (tgt := 55) dX11_arePosts_17 (by decide) (fun c17 => absurd c17 (by decide)) (fun _ => ?_)
      refine g_iload_n (pc := 20) (x := a2) dX11_arePosts_20 rfl ?_
      refine g_iconst (pc := 21) (v := (0 : Int32)) dX11_arePosts_21 (by decide) ?_
      refine g_bipush (pc := 22) (v := (99 : Int32)) dX11_arePosts_22 (by decide) ?_
      refine g_callS (pc := 24) (as := [.int a2, .int (0 : Int32), .int (99 : Int32)]) dX11_arePosts_24 cw_X11_144 (by decide) rfl rfl (Nat.le_of_ble_eq_true rfl) (rv_X11_within mm a2 (0 : Int32) (99 : Int32)) ?_
      rintro r_ m_ hz_ ⟨⟨p_, rfl⟩ | ⟨p_, rfl⟩, rfl⟩
      · have p__2 : p_X11_within mm a2 (0 : Int32) (99 : Int32) := p_
        refine g_if_eq (pc := 27) (tgt := 55) dX11_arePosts_27 (by decide) (fun c27 => absurd c27 (by decide)) (fun _ => ?_)
        refine g_iload_n (pc := 30) (x := a3) dX11_arePosts_30 rfl ?_
        refine g_iconst (pc := 31) (v := (0 : Int32)) dX11_arePosts_31 (by decide) ?_
        refine g_bipush (pc := 32) (v := (99 : Int32)) dX11_arePosts_32 (by decide) ?_
        refine g_callS (pc := 34) (as := [.int a3, .int (0 : Int32), .int (99 : Int32)]) dX11_arePosts_34 cw_X11_144 (by decide) rfl rfl (Nat.le_of_ble_eq_true rfl) (rv_X11_within mm a3 (0 : Int32) (99 : Int32)) ?_
        rintro r_ m_ hz_ ⟨⟨p_, rfl⟩ | ⟨p_, rfl⟩, rfl⟩
        · have p__3 : p_X11_within mm a3 (0 : Int32) (99 : Int32) := p_
          refine g_if_eq (pc := 37) (tgt := 55) dX11_arePosts_37 (by decide) (fun c37 => absurd c37 (by decide)) (fun _ => ?_)
          refine g_iload (pc := 40) (x := a4) dX11_arePosts_40 rfl ?_
          refine g_iconst (pc := 42) (v := (0 : Int32)) dX11_arePosts_42 (by decide) ?_
          refine g_bipush (pc := 43) (v := (99 : Int32)) dX11_arePosts_43 (by decide) ?_
          refine g_callS (pc := 45) (as := [.int a4, .int (0 : Int32), .int (99 : Int32)]) dX11_arePosts_45 cw_X11_144 (by decide) rfl rfl (Nat.le_of_ble_eq_true rfl) (rv_X11_within mm a4 (0 : Int32) (99 : Int32)) ?_
          rintro r_ m_ hz_ ⟨⟨p_, rfl⟩ | ⟨p_, rfl⟩, rfl⟩
          · have p__4 : p_X11_within mm a4 (0 : Int32) (99 : Int32) := p_
            refine g_if_eq (pc := 48) (tgt := 55) dX11_arePosts_48 (by decide) (fun c48 => absurd c48 (by decide)) (fun _ => ?_)
            refine g_iconst (pc := 51) (v := (1 : Int32)) dX11_arePosts_51 (by decide) ?_
            refine g_goto (pc := 52) (tgt := 56) dX11_arePosts_52 (by decide) ?_
            exact g_iret (pc := 56) dX11_arePosts_56 rfl rfl (nar_B isB1) ⟨Or.inl ⟨(show p_X11_arePosts mm a0 a1 a2 a3 a4 from ⟨p__0, ⟨p__1, ⟨p__2, ⟨p__3, p__4⟩⟩⟩⟩), rfl⟩, rfl⟩
          · have p__4 : ¬ p_X11_within mm a4 (0 : Int32) (99 : Int32) := p_
            refine g_if_eq (pc := 48) (tgt := 55) dX11_arePosts_48 (by decide) (fun _ => ?_) (fun c48 => absurd c48 (by decide))
            refine g_iconst (pc := 55) (v := (0 : Int32)) dX11_arePosts_55 (by decide) ?_
            exact g_iret (pc := 56) dX11_arePosts_56 rfl rfl (nar_B isB0) ⟨Or.inr ⟨(show ¬ p_X11_arePosts mm a0 a1 a2 a3 a4 from (fun h_ => (fun h_ => (fun h_ => (fun h_ => p__4 h_.2) h_.2) h_.2) h_.2)), rfl⟩, rfl⟩
        · have p__3 : ¬ p_X11_within mm a3 (0 : Int32) (99 : Int32) := p_
          refine g_if_eq (pc := 37) (tgt := 55) dX11_arePosts_37 (by decide) (fun _ => ?_) (fun c37 => absurd c37 (by decide))
          refine g_iconst (pc := 55) (v := (0 : Int32)) dX11_arePosts_55 (by decide) ?_
          exact g_iret (pc := 56) dX11_arePosts_56 rfl rfl (nar_B isB0) ⟨Or.inr ⟨(show ¬ p_X11_arePosts mm a0 a1 a2 a3 a4 from (fun h_ => (fun h_ => (fun h_ => (fun h_ => (p__3 h_.1)) h_.2) h_.2) h_.2)), rfl⟩, rfl⟩
      · have p__2 : ¬ p_X11_within mm a2 (0 : Int32) (99 : Int32) := p_
        refine g_if_eq (pc := 27) (tgt := 55) dX11_arePosts_27 (by decide) (fun _ => ?_) (fun c27 => absurd c27 (by decide))
        refine g_iconst (pc := 55) (v := (0 : Int32)) dX11_arePosts_55 (by decide) ?_
        exact g_iret (pc := 56) dX11_arePosts_56 rfl rfl (nar_B isB0) ⟨Or.inr ⟨(show ¬ p_X11_arePosts mm a0 a1 a2 a3 a4 from (fun h_ => (fun h_ => (fun h_ => (p__2 h_.1)) h_.2) h_.2)), rfl⟩, rfl⟩
    · have p__1 : ¬ p_X11_within mm a1 (0 : Int32) (99 : Int32) := p_
      refine g_if_eq (pc := 17) (tgt := 55) dX11_arePosts_17 (by decide) (fun _ => ?_) (fun c17 => absurd c17 (by decide))
      refine g_iconst (pc := 55) (v := (0 : Int32)) dX11_arePosts_55 (by decide) ?_
      exact g_iret (pc := 56) dX11_arePosts_56 rfl rfl (nar_B isB0) ⟨Or.inr ⟨(show ¬ p_X11_arePosts mm a0 a1 a2 a3 a4 from (fun h_ => (fun h_ => (p__1 h_.1)) h_.2)), rfl⟩, rfl⟩
  · have p__0 : ¬ p_X11_within mm a0 (0 : Int32) (99 : Int32) := p_
    refine g_if_eq (pc := 7) (tgt := 55) dX11_arePosts_7 (by decide) (fun _ => ?_) (fun c7 => absurd c7 (by decide))
    refine g_iconst (pc := 55) (v := (0 : Int32)) dX11_arePosts_55 (by decide) ?_
    exact g_iret (pc := 56) dX11_arePosts_56 rfl rfl (nar_B isB0) ⟨Or.inr ⟨(show ¬ p_X11_arePosts mm a0 a1 a2 a3 a4 from (fun h_ => (p__0 h_.1))), rfl⟩, rfl⟩
theorem dX11_posts_0 : decode cX11_posts 0 = .ok (.iload_n 1, 1) := by decide +kernel
theorem dX11_posts_1 : decode cX11_posts 1 = .ok (.iload_n 2, 1) := by decide +kernel
theorem dX11_posts_2 : decode cX11_posts 2 = .ok (.iload_n 3, 1) := by decide +kernel
theorem dX11_posts_3 : decode cX11_posts 3 = .ok (.iload 4, 2) := by decide +kernel
theorem dX11_posts_5 : decode cX11_posts 5 = .ok (.iload 5, 2) := by decide +kernel
theorem dX11_posts_7 : decode cX11_posts 7 = .ok (.invokestatic 283, 3) := by decide +kernel
theorem dX11_posts_10 : decode cX11_posts 10 = .ok (.ifCond .ne 5, 3) := by decide +kernel
theorem dX11_posts_13 : decode cX11_posts 13 = .ok (.iconst (-1), 1) := by decide +kernel
theorem dX11_posts_14 : decode cX11_posts 14 = .ok (.ireturn, 1) := by decide +kernel
theorem dX11_posts_15 : decode cX11_posts 15 = .ok (.aload_n 0, 1) := by decide +kernel
theorem dX11_posts_16 : decode cX11_posts 16 = .ok (.getfield 52, 3) := by decide +kernel
theorem dX11_posts_19 : decode cX11_posts 19 = .ok (.iload_n 2, 1) := by decide +kernel
theorem dX11_posts_20 : decode cX11_posts 20 = .ok (.iload_n 3, 1) := by decide +kernel
theorem dX11_posts_21 : decode cX11_posts 21 = .ok (.iload 4, 2) := by decide +kernel
theorem dX11_posts_23 : decode cX11_posts 23 = .ok (.iload 5, 2) := by decide +kernel
theorem dX11_posts_25 : decode cX11_posts 25 = .ok (.invokevirtual 287, 3) := by decide +kernel
theorem dX11_posts_28 : decode cX11_posts 28 = .ok (.aload_n 0, 1) := by decide +kernel
theorem dX11_posts_29 : decode cX11_posts 29 = .ok (.getfield 52, 3) := by decide +kernel
theorem dX11_posts_32 : decode cX11_posts 32 = .ok (.iload_n 1, 1) := by decide +kernel
theorem dX11_posts_33 : decode cX11_posts 33 = .ok (.invokevirtual 291, 3) := by decide +kernel
theorem dX11_posts_36 : decode cX11_posts 36 = .ok (.ireturn, 1) := by decide +kernel
theorem b_X11_posts (mm : MM) (Q : Value → MM → Prop) (a1 : Int32) (a2 : Int32) (a3 : Int32) (a4 : Int32) (a5 : Int32) (h : (p_X11_arePosts mm a1 a2 a3 a4 a5 → (∃ Pm1 : Value → MM → Prop, Runs e_X5_prices [.ref 95, .int a2, .int a3, .int a4, .int a5] mm Pm1 ∧ ∀ m1, Pm1 .null m1 → (∃ Pm2 : Value → MM → Prop, Runs e_X5_fill [.ref 95, .int a1] m1 Pm2 ∧ ∀ (r2 : Int32) (m2 : MM), Pm2 (.int r2) m2 → (Q (.int r2) m2)))) ∧ (¬ p_X11_arePosts mm a1 a2 a3 a4 a5 → (Q (.int (-1 : Int32)) mm))) : Runs e_X11_posts [.ref 0, .int a1, .int a2, .int a3, .int a4, .int a5] mm Q := by
  refine runs_of_G (L := [(0, .ref 0), (1, .int a1), (2, .int a2), (3, .int a3), (4, .int a4), (5, .int a5)]) pl_X11 (Nat.le_of_ble_eq_true rfl) rfl ?_
  refine g_iload_n (pc := 0) (x := a1) dX11_posts_0 rfl ?_
  refine g_iload_n (pc := 1) (x := a2) dX11_posts_1 rfl ?_
  refine g_iload_n (pc := 2) (x := a3) dX11_posts_2 rfl ?_
  refine g_iload (pc := 3) (x := a4) dX11_posts_3 rfl ?_
  refine g_iload (pc := 5) (x := a5) dX11_posts_5 rfl ?_
  refine g_callS (pc := 7) (as := [.int a1, .int a2, .int a3, .int a4, .int a5]) dX11_posts_7 cw_X11_283 (by decide) rfl rfl (Nat.le_of_ble_eq_true rfl) (rv_X11_arePosts mm a1 a2 a3 a4 a5) ?_
  rintro r_ m_ hz_ ⟨⟨p_, rfl⟩ | ⟨p_, rfl⟩, rfl⟩
  · have h := h.1 p_
    refine g_if_ne (pc := 10) (tgt := 15) dX11_posts_10 (by decide) (fun _ => ?_) (fun c10 => absurd c10 (by decide))
    refine g_aload_n (pc := 15) (x := 0) dX11_posts_15 rfl ?_
    refine g_getR (pc := 16) (dd := 95) dX11_posts_16 fo_X11_52 sh_0 rfl ?_
    refine g_iload_n (pc := 19) (x := a2) dX11_posts_19 rfl ?_
    refine g_iload_n (pc := 20) (x := a3) dX11_posts_20 rfl ?_
    refine g_iload (pc := 21) (x := a4) dX11_posts_21 rfl ?_
    refine g_iload (pc := 23) (x := a5) dX11_posts_23 rfl ?_
    obtain ⟨Pm1, hRm1, h⟩ := h
    refine g_callV (pc := 25) (as := [.int a2, .int a3, .int a4, .int a5]) dX11_posts_25 cw_X11_287 (by decide) rfl rfl sh_95 (Nat.le_of_ble_eq_true rfl) hRm1 ?_
    intro r_ m1 hz_ hp_
    obtain rfl := hz_
    have h := h m1 hp_
    refine g_aload_n (pc := 28) (x := 0) dX11_posts_28 rfl ?_
    refine g_getR (pc := 29) (dd := 95) dX11_posts_29 fo_X11_52 sh_0 rfl ?_
    refine g_iload_n (pc := 32) (x := a1) dX11_posts_32 rfl ?_
    obtain ⟨Pm2, hRm2, h⟩ := h
    refine g_callV (pc := 33) (as := [.int a1]) dX11_posts_33 cw_X11_291 (by decide) rfl rfl sh_95 (Nat.le_of_ble_eq_true rfl) hRm2 ?_
    intro r_ m2 hz_ hp_
    obtain ⟨r2, rfl⟩ := hz_
    have h := h r2 m2 hp_
    exact g_iret (pc := 36) dX11_posts_36 rfl rfl rfl h
  · have h := h.2 p_
    refine g_if_ne (pc := 10) (tgt := 15) dX11_posts_10 (by decide) (fun c10 => absurd c10 (by decide)) (fun _ => ?_)
    refine g_iconst (pc := 13) (v := (-1 : Int32)) dX11_posts_13 (by decide) ?_
    exact g_iret (pc := 14) dX11_posts_14 rfl rfl rfl h
theorem dX11_postAt_0 : decode cX11_postAt 0 = .ok (.iload_n 1, 1) := by decide +kernel
theorem dX11_postAt_1 : decode cX11_postAt 1 = .ok (.iload_n 2, 1) := by decide +kernel
theorem dX11_postAt_2 : decode cX11_postAt 2 = .ok (.iload_n 3, 1) := by decide +kernel
theorem dX11_postAt_3 : decode cX11_postAt 3 = .ok (.iload 4, 2) := by decide +kernel
theorem dX11_postAt_5 : decode cX11_postAt 5 = .ok (.iload 5, 2) := by decide +kernel
theorem dX11_postAt_7 : decode cX11_postAt 7 = .ok (.invokestatic 283, 3) := by decide +kernel
theorem dX11_postAt_10 : decode cX11_postAt 10 = .ok (.ifCond .eq 21, 3) := by decide +kernel
theorem dX11_postAt_13 : decode cX11_postAt 13 = .ok (.iload 6, 2) := by decide +kernel
theorem dX11_postAt_15 : decode cX11_postAt 15 = .ok (.iconst 0, 1) := by decide +kernel
theorem dX11_postAt_16 : decode cX11_postAt 16 = .ok (.aload_n 0, 1) := by decide +kernel
theorem dX11_postAt_17 : decode cX11_postAt 17 = .ok (.getfield 52, 3) := by decide +kernel
theorem dX11_postAt_20 : decode cX11_postAt 20 = .ok (.getfield 105, 3) := by decide +kernel
theorem dX11_postAt_23 : decode cX11_postAt 23 = .ok (.iconst 1, 1) := by decide +kernel
theorem dX11_postAt_24 : decode cX11_postAt 24 = .ok (.isub, 1) := by decide +kernel
theorem dX11_postAt_25 : decode cX11_postAt 25 = .ok (.invokestatic 144, 3) := by decide +kernel
theorem dX11_postAt_28 : decode cX11_postAt 28 = .ok (.ifCond .ne 5, 3) := by decide +kernel
theorem dX11_postAt_31 : decode cX11_postAt 31 = .ok (.iconst (-1), 1) := by decide +kernel
theorem dX11_postAt_32 : decode cX11_postAt 32 = .ok (.ireturn, 1) := by decide +kernel
theorem dX11_postAt_33 : decode cX11_postAt 33 = .ok (.aload_n 0, 1) := by decide +kernel
theorem dX11_postAt_34 : decode cX11_postAt 34 = .ok (.getfield 52, 3) := by decide +kernel
theorem dX11_postAt_37 : decode cX11_postAt 37 = .ok (.iload_n 2, 1) := by decide +kernel
theorem dX11_postAt_38 : decode cX11_postAt 38 = .ok (.iload_n 3, 1) := by decide +kernel
theorem dX11_postAt_39 : decode cX11_postAt 39 = .ok (.iload 4, 2) := by decide +kernel
theorem dX11_postAt_41 : decode cX11_postAt 41 = .ok (.iload 5, 2) := by decide +kernel
theorem dX11_postAt_43 : decode cX11_postAt 43 = .ok (.invokevirtual 287, 3) := by decide +kernel
theorem dX11_postAt_46 : decode cX11_postAt 46 = .ok (.aload_n 0, 1) := by decide +kernel
theorem dX11_postAt_47 : decode cX11_postAt 47 = .ok (.getfield 52, 3) := by decide +kernel
theorem dX11_postAt_50 : decode cX11_postAt 50 = .ok (.iload_n 1, 1) := by decide +kernel
theorem dX11_postAt_51 : decode cX11_postAt 51 = .ok (.invokevirtual 291, 3) := by decide +kernel
theorem dX11_postAt_54 : decode cX11_postAt 54 = .ok (.pop, 1) := by decide +kernel
theorem dX11_postAt_55 : decode cX11_postAt 55 = .ok (.aload_n 0, 1) := by decide +kernel
theorem dX11_postAt_56 : decode cX11_postAt 56 = .ok (.getfield 52, 3) := by decide +kernel
theorem dX11_postAt_59 : decode cX11_postAt 59 = .ok (.iload_n 1, 1) := by decide +kernel
theorem dX11_postAt_60 : decode cX11_postAt 60 = .ok (.iload 6, 2) := by decide +kernel
theorem dX11_postAt_62 : decode cX11_postAt 62 = .ok (.invokevirtual 294, 3) := by decide +kernel
theorem dX11_postAt_65 : decode cX11_postAt 65 = .ok (.ireturn, 1) := by decide +kernel
theorem b_X11_postAt (mm : MM) (Q : Value → MM → Prop) (a1 : Int32) (a2 : Int32) (a3 : Int32) (a4 : Int32) (a5 : Int32) (a6 : Int32) (h : (p_X11_arePosts mm a1 a2 a3 a4 a5 → ((p_X11_within mm a6 (0 : Int32) ((mm.1 95 2) - (1 : Int32)) → (∃ Pm1 : Value → MM → Prop, Runs e_X5_prices [.ref 95, .int a2, .int a3, .int a4, .int a5] mm Pm1 ∧ ∀ m1, Pm1 .null m1 → (∃ Pm2 : Value → MM → Prop, Runs e_X5_fill [.ref 95, .int a1] m1 Pm2 ∧ ∀ (r2 : Int32) (m2 : MM), Pm2 (.int r2) m2 → (∃ Pm3 : Value → MM → Prop, Runs e_X5_heightIn [.ref 95, .int a1, .int a6] m2 Pm3 ∧ ∀ (r3 : Int32) (m3 : MM), Pm3 (.int r3) m3 → (Q (.int r3) m3))))) ∧ (¬ p_X11_within mm a6 (0 : Int32) ((mm.1 95 2) - (1 : Int32)) → (Q (.int (-1 : Int32)) mm)))) ∧ (¬ p_X11_arePosts mm a1 a2 a3 a4 a5 → (Q (.int (-1 : Int32)) mm))) : Runs e_X11_postAt [.ref 0, .int a1, .int a2, .int a3, .int a4, .int a5, .int a6] mm Q := by
  refine runs_of_G (L := [(0, .ref 0), (1, .int a1), (2, .int a2), (3, .int a3), (4, .int a4), (5, .int a5), (6, .int a6)]) pl_X11 (Nat.le_of_ble_eq_true rfl) rfl ?_
  refine g_iload_n (pc := 0) (x := a1) dX11_postAt_0 rfl ?_
  refine g_iload_n (pc := 1) (x := a2) dX11_postAt_1 rfl ?_
  refine g_iload_n (pc := 2) (x := a3) dX11_postAt_2 rfl ?_
  refine g_iload (pc := 3) (x := a4) dX11_postAt_3 rfl ?_
  refine g_iload (pc := 5) (x := a5) dX11_postAt_5 rfl ?_
  refine g_callS (pc := 7) (as := [.int a1, .int a2, .int a3, .int a4, .int a5]) dX11_postAt_7 cw_X11_283 (by decide) rfl rfl (Nat.le_of_ble_eq_true rfl) (rv_X11_arePosts mm a1 a2 a3 a4 a5) ?_
  rintro r_ m_ hz_ ⟨⟨p_, rfl⟩ | ⟨p_, rfl⟩, rfl⟩
  · have h := h.1 p_
    refine g_if_eq (pc := 10) (tgt := 31) dX11_postAt_10 (by decide) (fun c10 => absurd c10 (by decide)) (fun _ => ?_)
    refine g_iload (pc := 13) (x := a6) dX11_postAt_13 rfl ?_
    refine g_iconst (pc := 15) (v := (0 : Int32)) dX11_postAt_15 (by decide) ?_
    refine g_aload_n (pc := 16) (x := 0) dX11_postAt_16 rfl ?_
    refine g_getR (pc := 17) (dd := 95) dX11_postAt_17 fo_X11_52 sh_0 rfl ?_
    refine g_getI (pc := 20) dX11_postAt_20 fo_X11_105 sh_95 rfl ?_
    refine g_iconst (pc := 23) (v := (1 : Int32)) dX11_postAt_23 (by decide) ?_
    refine g_isub (pc := 24) dX11_postAt_24 ?_
    refine g_callS (pc := 25) (as := [.int a6, .int (0 : Int32), .int ((mm.1 95 2) - (1 : Int32))]) dX11_postAt_25 cw_X11_144 (by decide) rfl rfl (Nat.le_of_ble_eq_true rfl) (rv_X11_within mm a6 (0 : Int32) ((mm.1 95 2) - (1 : Int32))) ?_
    rintro r_ m_ hz_ ⟨⟨p_, rfl⟩ | ⟨p_, rfl⟩, rfl⟩
    · have h := h.1 p_
      refine g_if_ne (pc := 28) (tgt := 33) dX11_postAt_28 (by decide) (fun _ => ?_) (fun c28 => absurd c28 (by decide))
      refine g_aload_n (pc := 33) (x := 0) dX11_postAt_33 rfl ?_
      refine g_getR (pc := 34) (dd := 95) dX11_postAt_34 fo_X11_52 sh_0 rfl ?_
      refine g_iload_n (pc := 37) (x := a2) dX11_postAt_37 rfl ?_
      refine g_iload_n (pc := 38) (x := a3) dX11_postAt_38 rfl ?_
      refine g_iload (pc := 39) (x := a4) dX11_postAt_39 rfl ?_
      refine g_iload (pc := 41) (x := a5) dX11_postAt_41 rfl ?_
      obtain ⟨Pm1, hRm1, h⟩ := h
      refine g_callV (pc := 43) (as := [.int a2, .int a3, .int a4, .int a5]) dX11_postAt_43 cw_X11_287 (by decide) rfl rfl sh_95 (Nat.le_of_ble_eq_true rfl) hRm1 ?_
      intro r_ m1 hz_ hp_
      obtain rfl := hz_
      have h := h m1 hp_
      refine g_aload_n (pc := 46) (x := 0) dX11_postAt_46 rfl ?_
      refine g_getR (pc := 47) (dd := 95) dX11_postAt_47 fo_X11_52 sh_0 rfl ?_
      refine g_iload_n (pc := 50) (x := a1) dX11_postAt_50 rfl ?_
      obtain ⟨Pm2, hRm2, h⟩ := h
      refine g_callV (pc := 51) (as := [.int a1]) dX11_postAt_51 cw_X11_291 (by decide) rfl rfl sh_95 (Nat.le_of_ble_eq_true rfl) hRm2 ?_
      intro r_ m2 hz_ hp_
      obtain ⟨r2, rfl⟩ := hz_
      have h := h r2 m2 hp_
      refine g_pop (pc := 54) dX11_postAt_54 rfl ?_
      refine g_aload_n (pc := 55) (x := 0) dX11_postAt_55 rfl ?_
      refine g_getR (pc := 56) (dd := 95) dX11_postAt_56 fo_X11_52 sh_0 rfl ?_
      refine g_iload_n (pc := 59) (x := a1) dX11_postAt_59 rfl ?_
      refine g_iload (pc := 60) (x := a6) dX11_postAt_60 rfl ?_
      obtain ⟨Pm3, hRm3, h⟩ := h
      refine g_callV (pc := 62) (as := [.int a1, .int a6]) dX11_postAt_62 cw_X11_294 (by decide) rfl rfl sh_95 (Nat.le_of_ble_eq_true rfl) hRm3 ?_
      intro r_ m3 hz_ hp_
      obtain ⟨r3, rfl⟩ := hz_
      have h := h r3 m3 hp_
      exact g_iret (pc := 65) dX11_postAt_65 rfl rfl rfl h
    · have h := h.2 p_
      refine g_if_ne (pc := 28) (tgt := 33) dX11_postAt_28 (by decide) (fun c28 => absurd c28 (by decide)) (fun _ => ?_)
      refine g_iconst (pc := 31) (v := (-1 : Int32)) dX11_postAt_31 (by decide) ?_
      exact g_iret (pc := 32) dX11_postAt_32 rfl rfl rfl h
  · have h := h.2 p_
    refine g_if_eq (pc := 10) (tgt := 31) dX11_postAt_10 (by decide) (fun _ => ?_) (fun c10 => absurd c10 (by decide))
    refine g_iconst (pc := 31) (v := (-1 : Int32)) dX11_postAt_31 (by decide) ?_
    exact g_iret (pc := 32) dX11_postAt_32 rfl rfl rfl h
theorem dX11_vote_0 : decode cX11_vote 0 = .ok (.aload_n 0, 1) := by decide +kernel
theorem dX11_vote_1 : decode cX11_vote 1 = .ok (.iload_n 1, 1) := by decide +kernel
theorem dX11_vote_2 : decode cX11_vote 2 = .ok (.invokevirtual 109, 3) := by decide +kernel
theorem dX11_vote_5 : decode cX11_vote 5 = .ok (.ifCond .eq 19, 3) := by decide +kernel
theorem dX11_vote_8 : decode cX11_vote 8 = .ok (.aload_n 0, 1) := by decide +kernel
theorem dX11_vote_9 : decode cX11_vote 9 = .ok (.iload_n 2, 1) := by decide +kernel
theorem dX11_vote_10 : decode cX11_vote 10 = .ok (.invokevirtual 133, 3) := by decide +kernel
theorem dX11_vote_13 : decode cX11_vote 13 = .ok (.ifCond .eq 11, 3) := by decide +kernel
theorem dX11_vote_16 : decode cX11_vote 16 = .ok (.aload_n 0, 1) := by decide +kernel
theorem dX11_vote_17 : decode cX11_vote 17 = .ok (.iload_n 3, 1) := by decide +kernel
theorem dX11_vote_18 : decode cX11_vote 18 = .ok (.invokevirtual 109, 3) := by decide +kernel
theorem dX11_vote_21 : decode cX11_vote 21 = .ok (.ifCond .ne 5, 3) := by decide +kernel
theorem dX11_vote_24 : decode cX11_vote 24 = .ok (.iconst (-1), 1) := by decide +kernel
theorem dX11_vote_25 : decode cX11_vote 25 = .ok (.ireturn, 1) := by decide +kernel
theorem dX11_vote_26 : decode cX11_vote 26 = .ok (.aload_n 0, 1) := by decide +kernel
theorem dX11_vote_27 : decode cX11_vote 27 = .ok (.getfield 74, 3) := by decide +kernel
theorem dX11_vote_30 : decode cX11_vote 30 = .ok (.getfield 297, 3) := by decide +kernel
theorem dX11_vote_33 : decode cX11_vote 33 = .ok (.iconst 0, 1) := by decide +kernel
theorem dX11_vote_34 : decode cX11_vote 34 = .ok (.iload_n 1, 1) := by decide +kernel
theorem dX11_vote_35 : decode cX11_vote 35 = .ok (.iload_n 2, 1) := by decide +kernel
theorem dX11_vote_36 : decode cX11_vote 36 = .ok (.iload_n 3, 1) := by decide +kernel
theorem dX11_vote_37 : decode cX11_vote 37 = .ok (.invokevirtual 303, 3) := by decide +kernel
theorem dX11_vote_40 : decode cX11_vote 40 = .ok (.ireturn, 1) := by decide +kernel
theorem b_X11_vote (mm : MM) (Q : Value → MM → Prop) (a1 : Int32) (a2 : Int32) (a3 : Int32) (h : o_X11_isHouse mm a1 ∧ ((p_X11_isHouse mm a1 → (o_X11_isOffice mm a2 ∧ ((p_X11_isOffice mm a2 → (o_X11_isHouse mm a3 ∧ ((p_X11_isHouse mm a3 → (AtState (mm.2.2 0 10) ∧ (∃ Pm2 : Value → MM → Prop, Runs e_X2_add [.ref ((mm.2.2 0 10) + 7), .int (0 : Int32), .int a1, .int a2, .int a3] mm Pm2 ∧ ∀ (r2 : Int32) (m2 : MM), Pm2 (.int r2) m2 → (Q (.int r2) m2)))) ∧ (¬ p_X11_isHouse mm a3 → (Q (.int (-1 : Int32)) mm))))) ∧ (¬ p_X11_isOffice mm a2 → (Q (.int (-1 : Int32)) mm))))) ∧ (¬ p_X11_isHouse mm a1 → (Q (.int (-1 : Int32)) mm)))) : Runs e_X11_vote [.ref 0, .int a1, .int a2, .int a3] mm Q := by
  refine runs_of_G (L := [(0, .ref 0), (1, .int a1), (2, .int a2), (3, .int a3)]) pl_X11 (Nat.le_of_ble_eq_true rfl) rfl ?_
  refine g_aload_n (pc := 0) (x := 0) dX11_vote_0 rfl ?_
  refine g_iload_n (pc := 1) (x := a1) dX11_vote_1 rfl ?_
  refine g_callV (pc := 2) (as := [.int a1]) dX11_vote_2 cw_X11_109 (by decide) rfl rfl sh_0 (Nat.le_of_ble_eq_true rfl) (rv_X11_isHouse mm a1 h.1) ?_
  have h := h.2
  rintro r_ m_ hz_ ⟨⟨p_, rfl⟩ | ⟨p_, rfl⟩, rfl⟩
  · have h := h.1 p_
    refine g_if_eq (pc := 5) (tgt := 24) dX11_vote_5 (by decide) (fun c5 => absurd c5 (by decide)) (fun _ => ?_)
    refine g_aload_n (pc := 8) (x := 0) dX11_vote_8 rfl ?_
    refine g_iload_n (pc := 9) (x := a2) dX11_vote_9 rfl ?_
    refine g_callV (pc := 10) (as := [.int a2]) dX11_vote_10 cw_X11_133 (by decide) rfl rfl sh_0 (Nat.le_of_ble_eq_true rfl) (rv_X11_isOffice mm a2 h.1) ?_
    have h := h.2
    rintro r_ m_ hz_ ⟨⟨p_, rfl⟩ | ⟨p_, rfl⟩, rfl⟩
    · have h := h.1 p_
      refine g_if_eq (pc := 13) (tgt := 24) dX11_vote_13 (by decide) (fun c13 => absurd c13 (by decide)) (fun _ => ?_)
      refine g_aload_n (pc := 16) (x := 0) dX11_vote_16 rfl ?_
      refine g_iload_n (pc := 17) (x := a3) dX11_vote_17 rfl ?_
      refine g_callV (pc := 18) (as := [.int a3]) dX11_vote_18 cw_X11_109 (by decide) rfl rfl sh_0 (Nat.le_of_ble_eq_true rfl) (rv_X11_isHouse mm a3 h.1) ?_
      have h := h.2
      rintro r_ m_ hz_ ⟨⟨p_, rfl⟩ | ⟨p_, rfl⟩, rfl⟩
      · have h := h.1 p_
        refine g_if_ne (pc := 21) (tgt := 26) dX11_vote_21 (by decide) (fun _ => ?_) (fun c21 => absurd c21 (by decide))
        refine g_aload_n (pc := 26) (x := 0) dX11_vote_26 rfl ?_
        refine g_getVt (pc := 27) (t := (mm.2.2 0 10)) dX11_vote_27 fo_X11_74 sh_0 rfl rfl ?_
        have hr0 := h.1
        have h := h.2
        refine g_getR (pc := 30) (dd := 7) dX11_vote_30 fo_X11_297 (AtState_0 hr0) rfl ?_
        refine g_iconst (pc := 33) (v := (0 : Int32)) dX11_vote_33 (by decide) ?_
        refine g_iload_n (pc := 34) (x := a1) dX11_vote_34 rfl ?_
        refine g_iload_n (pc := 35) (x := a2) dX11_vote_35 rfl ?_
        refine g_iload_n (pc := 36) (x := a3) dX11_vote_36 rfl ?_
        obtain ⟨Pm2, hRm2, h⟩ := h
        refine g_callV (pc := 37) (as := [.int (0 : Int32), .int a1, .int a2, .int a3]) dX11_vote_37 cw_X11_303 (by decide) rfl rfl (AtLogs_0 (AtState.logs hr0)) (Nat.le_of_ble_eq_true rfl) hRm2 ?_
        intro r_ m2 hz_ hp_
        obtain ⟨r2, rfl⟩ := hz_
        have h := h r2 m2 hp_
        exact g_iret (pc := 40) dX11_vote_40 rfl rfl rfl h
      · have h := h.2 p_
        refine g_if_ne (pc := 21) (tgt := 26) dX11_vote_21 (by decide) (fun c21 => absurd c21 (by decide)) (fun _ => ?_)
        refine g_iconst (pc := 24) (v := (-1 : Int32)) dX11_vote_24 (by decide) ?_
        exact g_iret (pc := 25) dX11_vote_25 rfl rfl rfl h
    · have h := h.2 p_
      refine g_if_eq (pc := 13) (tgt := 24) dX11_vote_13 (by decide) (fun _ => ?_) (fun c13 => absurd c13 (by decide))
      refine g_iconst (pc := 24) (v := (-1 : Int32)) dX11_vote_24 (by decide) ?_
      exact g_iret (pc := 25) dX11_vote_25 rfl rfl rfl h
  · have h := h.2 p_
    refine g_if_eq (pc := 5) (tgt := 24) dX11_vote_5 (by decide) (fun _ => ?_) (fun c5 => absurd c5 (by decide))
    refine g_iconst (pc := 24) (v := (-1 : Int32)) dX11_vote_24 (by decide) ?_
    exact g_iret (pc := 25) dX11_vote_25 rfl rfl rfl h
theorem dX11_mark_0 : decode cX11_mark 0 = .ok (.aload_n 0, 1) := by decide +kernel
theorem dX11_mark_1 : decode cX11_mark 1 = .ok (.iload_n 1, 1) := by decide +kernel
theorem dX11_mark_2 : decode cX11_mark 2 = .ok (.invokevirtual 109, 3) := by decide +kernel
theorem dX11_mark_5 : decode cX11_mark 5 = .ok (.ifCond .eq 23, 3) := by decide +kernel
theorem dX11_mark_8 : decode cX11_mark 8 = .ok (.iload_n 2, 1) := by decide +kernel
theorem dX11_mark_9 : decode cX11_mark 9 = .ok (.iconst 0, 1) := by decide +kernel
theorem dX11_mark_10 : decode cX11_mark 10 = .ok (.bipush 99, 2) := by decide +kernel
theorem dX11_mark_12 : decode cX11_mark 12 = .ok (.invokestatic 144, 3) := by decide +kernel
theorem dX11_mark_15 : decode cX11_mark 15 = .ok (.ifCond .eq 13, 3) := by decide +kernel
theorem dX11_mark_18 : decode cX11_mark 18 = .ok (.iload_n 3, 1) := by decide +kernel
theorem dX11_mark_19 : decode cX11_mark 19 = .ok (.iconst 0, 1) := by decide +kernel
theorem dX11_mark_20 : decode cX11_mark 20 = .ok (.bipush 99, 2) := by decide +kernel
theorem dX11_mark_22 : decode cX11_mark 22 = .ok (.invokestatic 144, 3) := by decide +kernel
theorem dX11_mark_25 : decode cX11_mark 25 = .ok (.ifCond .ne 5, 3) := by decide +kernel
theorem dX11_mark_28 : decode cX11_mark 28 = .ok (.iconst (-1), 1) := by decide +kernel
theorem dX11_mark_29 : decode cX11_mark 29 = .ok (.ireturn, 1) := by decide +kernel
theorem dX11_mark_30 : decode cX11_mark 30 = .ok (.aload_n 0, 1) := by decide +kernel
theorem dX11_mark_31 : decode cX11_mark 31 = .ok (.getfield 74, 3) := by decide +kernel
theorem dX11_mark_34 : decode cX11_mark 34 = .ok (.getfield 297, 3) := by decide +kernel
theorem dX11_mark_37 : decode cX11_mark 37 = .ok (.iconst 1, 1) := by decide +kernel
theorem dX11_mark_38 : decode cX11_mark 38 = .ok (.iload_n 1, 1) := by decide +kernel
theorem dX11_mark_39 : decode cX11_mark 39 = .ok (.iload_n 2, 1) := by decide +kernel
theorem dX11_mark_40 : decode cX11_mark 40 = .ok (.iload_n 3, 1) := by decide +kernel
theorem dX11_mark_41 : decode cX11_mark 41 = .ok (.invokevirtual 303, 3) := by decide +kernel
theorem dX11_mark_44 : decode cX11_mark 44 = .ok (.ireturn, 1) := by decide +kernel
theorem b_X11_mark (mm : MM) (Q : Value → MM → Prop) (a1 : Int32) (a2 : Int32) (a3 : Int32) (h : o_X11_isHouse mm a1 ∧ ((p_X11_isHouse mm a1 → ((p_X11_within mm a2 (0 : Int32) (99 : Int32) → ((p_X11_within mm a3 (0 : Int32) (99 : Int32) → (AtState (mm.2.2 0 10) ∧ (∃ Pm2 : Value → MM → Prop, Runs e_X2_add [.ref ((mm.2.2 0 10) + 7), .int (1 : Int32), .int a1, .int a2, .int a3] mm Pm2 ∧ ∀ (r2 : Int32) (m2 : MM), Pm2 (.int r2) m2 → (Q (.int r2) m2)))) ∧ (¬ p_X11_within mm a3 (0 : Int32) (99 : Int32) → (Q (.int (-1 : Int32)) mm)))) ∧ (¬ p_X11_within mm a2 (0 : Int32) (99 : Int32) → (Q (.int (-1 : Int32)) mm)))) ∧ (¬ p_X11_isHouse mm a1 → (Q (.int (-1 : Int32)) mm)))) : Runs e_X11_mark [.ref 0, .int a1, .int a2, .int a3] mm Q := by
  refine runs_of_G (L := [(0, .ref 0), (1, .int a1), (2, .int a2), (3, .int a3)]) pl_X11 (Nat.le_of_ble_eq_true rfl) rfl ?_
  refine g_aload_n (pc := 0) (x := 0) dX11_mark_0 rfl ?_
  refine g_iload_n (pc := 1) (x := a1) dX11_mark_1 rfl ?_
  refine g_callV (pc := 2) (as := [.int a1]) dX11_mark_2 cw_X11_109 (by decide) rfl rfl sh_0 (Nat.le_of_ble_eq_true rfl) (rv_X11_isHouse mm a1 h.1) ?_
  have h := h.2
  rintro r_ m_ hz_ ⟨⟨p_, rfl⟩ | ⟨p_, rfl⟩, rfl⟩
  · have h := h.1 p_
    refine g_if_eq (pc := 5) (tgt := 28) dX11_mark_5 (by decide) (fun c5 => absurd c5 (by decide)) (fun _ => ?_)
    refine g_iload_n (pc := 8) (x := a2) dX11_mark_8 rfl ?_
    refine g_iconst (pc := 9) (v := (0 : Int32)) dX11_mark_9 (by decide) ?_
    refine g_bipush (pc := 10) (v := (99 : Int32)) dX11_mark_10 (by decide) ?_
    refine g_callS (pc := 12) (as := [.int a2, .int (0 : Int32), .int (99 : Int32)]) dX11_mark_12 cw_X11_144 (by decide) rfl rfl (Nat.le_of_ble_eq_true rfl) (rv_X11_within mm a2 (0 : Int32) (99 : Int32)) ?_
    rintro r_ m_ hz_ ⟨⟨p_, rfl⟩ | ⟨p_, rfl⟩, rfl⟩
    · have h := h.1 p_
      refine g_if_eq (pc := 15) (tgt := 28) dX11_mark_15 (by decide) (fun c15 => absurd c15 (by decide)) (fun _ => ?_)
      refine g_iload_n (pc := 18) (x := a3) dX11_mark_18 rfl ?_
      refine g_iconst (pc := 19) (v := (0 : Int32)) dX11_mark_19 (by decide) ?_
      refine g_bipush (pc := 20) (v := (99 : Int32)) dX11_mark_20 (by decide) ?_
      refine g_callS (pc := 22) (as := [.int a3, .int (0 : Int32), .int (99 : Int32)]) dX11_mark_22 cw_X11_144 (by decide) rfl rfl (Nat.le_of_ble_eq_true rfl) (rv_X11_within mm a3 (0 : Int32) (99 : Int32)) ?_
      rintro r_ m_ hz_ ⟨⟨p_, rfl⟩ | ⟨p_, rfl⟩, rfl⟩
      · have h := h.1 p_
        refine g_if_ne (pc := 25) (tgt := 30) dX11_mark_25 (by decide) (fun _ => ?_) (fun c25 => absurd c25 (by decide))
        refine g_aload_n (pc := 30) (x := 0) dX11_mark_30 rfl ?_
        refine g_getVt (pc := 31) (t := (mm.2.2 0 10)) dX11_mark_31 fo_X11_74 sh_0 rfl rfl ?_
        have hr0 := h.1
        have h := h.2
        refine g_getR (pc := 34) (dd := 7) dX11_mark_34 fo_X11_297 (AtState_0 hr0) rfl ?_
        refine g_iconst (pc := 37) (v := (1 : Int32)) dX11_mark_37 (by decide) ?_
        refine g_iload_n (pc := 38) (x := a1) dX11_mark_38 rfl ?_
        refine g_iload_n (pc := 39) (x := a2) dX11_mark_39 rfl ?_
        refine g_iload_n (pc := 40) (x := a3) dX11_mark_40 rfl ?_
        obtain ⟨Pm2, hRm2, h⟩ := h
        refine g_callV (pc := 41) (as := [.int (1 : Int32), .int a1, .int a2, .int a3]) dX11_mark_41 cw_X11_303 (by decide) rfl rfl (AtLogs_0 (AtState.logs hr0)) (Nat.le_of_ble_eq_true rfl) hRm2 ?_
        intro r_ m2 hz_ hp_
        obtain ⟨r2, rfl⟩ := hz_
        have h := h r2 m2 hp_
        exact g_iret (pc := 44) dX11_mark_44 rfl rfl rfl h
      · have h := h.2 p_
        refine g_if_ne (pc := 25) (tgt := 30) dX11_mark_25 (by decide) (fun c25 => absurd c25 (by decide)) (fun _ => ?_)
        refine g_iconst (pc := 28) (v := (-1 : Int32)) dX11_mark_28 (by decide) ?_
        exact g_iret (pc := 29) dX11_mark_29 rfl rfl rfl h
    · have h := h.2 p_
      refine g_if_eq (pc := 15) (tgt := 28) dX11_mark_15 (by decide) (fun _ => ?_) (fun c15 => absurd c15 (by decide))
      refine g_iconst (pc := 28) (v := (-1 : Int32)) dX11_mark_28 (by decide) ?_
      exact g_iret (pc := 29) dX11_mark_29 rfl rfl rfl h
  · have h := h.2 p_
    refine g_if_eq (pc := 5) (tgt := 28) dX11_mark_5 (by decide) (fun _ => ?_) (fun c5 => absurd c5 (by decide))
    refine g_iconst (pc := 28) (v := (-1 : Int32)) dX11_mark_28 (by decide) ?_
    exact g_iret (pc := 29) dX11_mark_29 rfl rfl rfl h
theorem dX11_annul_0 : decode cX11_annul 0 = .ok (.aload_n 0, 1) := by decide +kernel
theorem dX11_annul_1 : decode cX11_annul 1 = .ok (.getfield 74, 3) := by decide +kernel
theorem dX11_annul_4 : decode cX11_annul 4 = .ok (.getfield 297, 3) := by decide +kernel
theorem dX11_annul_7 : decode cX11_annul 7 = .ok (.iload_n 1, 1) := by decide +kernel
theorem dX11_annul_8 : decode cX11_annul 8 = .ok (.invokevirtual 306, 3) := by decide +kernel
theorem dX11_annul_11 : decode cX11_annul 11 = .ok (.ifCond .eq 20, 3) := by decide +kernel
theorem dX11_annul_14 : decode cX11_annul 14 = .ok (.aload_n 0, 1) := by decide +kernel
theorem dX11_annul_15 : decode cX11_annul 15 = .ok (.getfield 74, 3) := by decide +kernel
theorem dX11_annul_18 : decode cX11_annul 18 = .ok (.getfield 297, 3) := by decide +kernel
theorem dX11_annul_21 : decode cX11_annul 21 = .ok (.iconst 2, 1) := by decide +kernel
theorem dX11_annul_22 : decode cX11_annul 22 = .ok (.iload_n 1, 1) := by decide +kernel
theorem dX11_annul_23 : decode cX11_annul 23 = .ok (.iconst 0, 1) := by decide +kernel
theorem dX11_annul_24 : decode cX11_annul 24 = .ok (.iconst 0, 1) := by decide +kernel
theorem dX11_annul_25 : decode cX11_annul 25 = .ok (.invokevirtual 303, 3) := by decide +kernel
theorem dX11_annul_28 : decode cX11_annul 28 = .ok (.goto 4, 3) := by decide +kernel
theorem dX11_annul_31 : decode cX11_annul 31 = .ok (.iconst (-1), 1) := by decide +kernel
theorem dX11_annul_32 : decode cX11_annul 32 = .ok (.ireturn, 1) := by decide +kernel
theorem b_X11_annul (mm : MM) (Q : Value → MM → Prop) (a1 : Int32) (h : AtState (mm.2.2 0 10) ∧ (o_X2_canBeVoid mm ((mm.2.2 0 10) + 7) a1 ∧ ((p_X2_canBeVoid mm ((mm.2.2 0 10) + 7) a1 → (AtState (mm.2.2 0 10) ∧ (∃ Pm3 : Value → MM → Prop, Runs e_X2_add [.ref ((mm.2.2 0 10) + 7), .int (2 : Int32), .int a1, .int (0 : Int32), .int (0 : Int32)] mm Pm3 ∧ ∀ (r3 : Int32) (m3 : MM), Pm3 (.int r3) m3 → (Q (.int r3) m3)))) ∧ (¬ p_X2_canBeVoid mm ((mm.2.2 0 10) + 7) a1 → (Q (.int (-1 : Int32)) mm))))) : Runs e_X11_annul [.ref 0, .int a1] mm Q := by
  refine runs_of_G (L := [(0, .ref 0), (1, .int a1)]) pl_X11 (Nat.le_of_ble_eq_true rfl) rfl ?_
  refine g_aload_n (pc := 0) (x := 0) dX11_annul_0 rfl ?_
  refine g_getVt (pc := 1) (t := (mm.2.2 0 10)) dX11_annul_1 fo_X11_74 sh_0 rfl rfl ?_
  have hr0 := h.1
  have h := h.2
  refine g_getR (pc := 4) (dd := 7) dX11_annul_4 fo_X11_297 (AtState_0 hr0) rfl ?_
  refine g_iload_n (pc := 7) (x := a1) dX11_annul_7 rfl ?_
  refine g_callV (pc := 8) (as := [.int a1]) dX11_annul_8 cw_X11_306 (by decide) rfl rfl (AtLogs_0 (AtState.logs hr0)) (Nat.le_of_ble_eq_true rfl) (rv_X2_canBeVoid mm ((mm.2.2 0 10) + 7) a1 (AtState.logs hr0) h.1) ?_
  have h := h.2
  rintro r_ m_ hz_ ⟨⟨p_, rfl⟩ | ⟨p_, rfl⟩, rfl⟩
  · have h := h.1 p_
    refine g_if_eq (pc := 11) (tgt := 31) dX11_annul_11 (by decide) (fun c11 => absurd c11 (by decide)) (fun _ => ?_)
    refine g_aload_n (pc := 14) (x := 0) dX11_annul_14 rfl ?_
    refine g_getVt (pc := 15) (t := (mm.2.2 0 10)) dX11_annul_15 fo_X11_74 sh_0 rfl rfl ?_
    have hr1 := h.1
    have h := h.2
    refine g_getR (pc := 18) (dd := 7) dX11_annul_18 fo_X11_297 (AtState_0 hr1) rfl ?_
    refine g_iconst (pc := 21) (v := (2 : Int32)) dX11_annul_21 (by decide) ?_
    refine g_iload_n (pc := 22) (x := a1) dX11_annul_22 rfl ?_
    refine g_iconst (pc := 23) (v := (0 : Int32)) dX11_annul_23 (by decide) ?_
    refine g_iconst (pc := 24) (v := (0 : Int32)) dX11_annul_24 (by decide) ?_
    obtain ⟨Pm3, hRm3, h⟩ := h
    refine g_callV (pc := 25) (as := [.int (2 : Int32), .int a1, .int (0 : Int32), .int (0 : Int32)]) dX11_annul_25 cw_X11_303 (by decide) rfl rfl (AtLogs_0 (AtState.logs hr1)) (Nat.le_of_ble_eq_true rfl) hRm3 ?_
    intro r_ m3 hz_ hp_
    obtain ⟨r3, rfl⟩ := hz_
    have h := h r3 m3 hp_
    refine g_goto (pc := 28) (tgt := 32) dX11_annul_28 (by decide) ?_
    exact g_iret (pc := 32) dX11_annul_32 rfl rfl rfl h
  · have h := h.2 p_
    refine g_if_eq (pc := 11) (tgt := 31) dX11_annul_11 (by decide) (fun _ => ?_) (fun c11 => absurd c11 (by decide))
    refine g_iconst (pc := 31) (v := (-1 : Int32)) dX11_annul_31 (by decide) ?_
    exact g_iret (pc := 32) dX11_annul_32 rfl rfl rfl h
theorem dX11_isKnown_0 : decode cX11_isKnown 0 = .ok (.iload_n 1, 1) := by decide +kernel
theorem dX11_isKnown_1 : decode cX11_isKnown 1 = .ok (.ifCond .lt 21, 3) := by decide +kernel
theorem dX11_isKnown_4 : decode cX11_isKnown 4 = .ok (.iload_n 1, 1) := by decide +kernel
theorem dX11_isKnown_5 : decode cX11_isKnown 5 = .ok (.aload_n 0, 1) := by decide +kernel
theorem dX11_isKnown_6 : decode cX11_isKnown 6 = .ok (.getfield 74, 3) := by decide +kernel
theorem dX11_isKnown_9 : decode cX11_isKnown 9 = .ok (.getfield 297, 3) := by decide +kernel
theorem dX11_isKnown_12 : decode cX11_isKnown 12 = .ok (.getfield 358, 3) := by decide +kernel
theorem dX11_isKnown_15 : decode cX11_isKnown 15 = .ok (.if_icmp .gt 7, 3) := by decide +kernel
theorem dX11_isKnown_18 : decode cX11_isKnown 18 = .ok (.iconst 1, 1) := by decide +kernel
theorem dX11_isKnown_19 : decode cX11_isKnown 19 = .ok (.goto 4, 3) := by decide +kernel
theorem dX11_isKnown_22 : decode cX11_isKnown 22 = .ok (.iconst 0, 1) := by decide +kernel
theorem dX11_isKnown_23 : decode cX11_isKnown 23 = .ok (.ireturn, 1) := by decide +kernel
def o_X11_isKnown (mm : MM) (a1 : Int32) : Prop := (a1 < 0 → (True)) ∧ (¬ a1 < 0 → (AtState (mm.2.2 0 10) ∧ (((mm.1 ((mm.2.2 0 10) + 7) 6) < a1 → (True)) ∧ (¬ (mm.1 ((mm.2.2 0 10) + 7) 6) < a1 → (True)))))
def p_X11_isKnown (mm : MM) (a1 : Int32) : Prop := (¬ a1 < 0 ∧ ¬ (mm.1 ((mm.2.2 0 10) + 7) 6) < a1)
theorem rv_X11_isKnown (mm : MM) (a1 : Int32) (h : o_X11_isKnown mm a1) : Runs e_X11_isKnown [.ref 0, .int a1] mm (fun r m_ => ((p_X11_isKnown mm a1 ∧ r = .int 1) ∨ (¬ p_X11_isKnown mm a1 ∧ r = .int 0)) ∧ mm = m_) := by
  refine runs_of_G (L := [(0, .ref 0), (1, .int a1)]) pl_X11 (Nat.le_of_ble_eq_true rfl) rfl ?_
  unfold o_X11_isKnown at h
  refine g_iload_n (pc := 0) (x := a1) dX11_isKnown_0 rfl ?_
  refine g_if_lt (pc := 1) (tgt := 22) dX11_isKnown_1 (by decide) (fun c1 => ?_) (fun c1 => ?_)
  · have c1_0 : a1 < 0 := c1
    have h := h.1 c1
    refine g_iconst (pc := 22) (v := (0 : Int32)) dX11_isKnown_22 (by decide) ?_
    exact g_iret (pc := 23) dX11_isKnown_23 rfl rfl (nar_B isB0) ⟨Or.inr ⟨(show ¬ p_X11_isKnown mm a1 from (fun h_ => (h_.1 c1_0))), rfl⟩, rfl⟩
  · have c1_0 : ¬ a1 < 0 := c1
    have h := h.2 c1
    refine g_iload_n (pc := 4) (x := a1) dX11_isKnown_4 rfl ?_
    refine g_aload_n (pc := 5) (x := 0) dX11_isKnown_5 rfl ?_
    refine g_getVt (pc := 6) (t := (mm.2.2 0 10)) dX11_isKnown_6 fo_X11_74 sh_0 rfl rfl ?_
    have hr0 := h.1
    have h := h.2
    refine g_getR (pc := 9) (dd := 7) dX11_isKnown_9 fo_X11_297 (AtState_0 hr0) rfl ?_
    refine g_getI (pc := 12) dX11_isKnown_12 fo_X11_358 (AtLogs_0 (AtState.logs hr0)) rfl ?_
    refine g_icmp_gt (pc := 15) (tgt := 22) dX11_isKnown_15 (by decide) (fun c15 => ?_) (fun c15 => ?_)
    · have c15_1 : (mm.1 ((mm.2.2 0 10) + 7) 6) < a1 := c15
      refine g_iconst (pc := 22) (v := (0 : Int32)) dX11_isKnown_22 (by decide) ?_
      exact g_iret (pc := 23) dX11_isKnown_23 rfl rfl (nar_B isB0) ⟨Or.inr ⟨(show ¬ p_X11_isKnown mm a1 from (fun h_ => (not_not_intro c15_1) h_.2)), rfl⟩, rfl⟩
    · have c15_1 : ¬ (mm.1 ((mm.2.2 0 10) + 7) 6) < a1 := c15
      refine g_iconst (pc := 18) (v := (1 : Int32)) dX11_isKnown_18 (by decide) ?_
      refine g_goto (pc := 19) (tgt := 23) dX11_isKnown_19 (by decide) ?_
      exact g_iret (pc := 23) dX11_isKnown_23 rfl rfl (nar_B isB1) ⟨Or.inl ⟨(show p_X11_isKnown mm a1 from ⟨c1_0, c15_1⟩), rfl⟩, rfl⟩
theorem dX11_votes_0 : decode cX11_votes 0 = .ok (.aload_n 0, 1) := by decide +kernel
theorem dX11_votes_1 : decode cX11_votes 1 = .ok (.iload_n 1, 1) := by decide +kernel
theorem dX11_votes_2 : decode cX11_votes 2 = .ok (.invokevirtual 133, 3) := by decide +kernel
theorem dX11_votes_5 : decode cX11_votes 5 = .ok (.ifCond .eq 19, 3) := by decide +kernel
theorem dX11_votes_8 : decode cX11_votes 8 = .ok (.aload_n 0, 1) := by decide +kernel
theorem dX11_votes_9 : decode cX11_votes 9 = .ok (.iload_n 2, 1) := by decide +kernel
theorem dX11_votes_10 : decode cX11_votes 10 = .ok (.invokevirtual 109, 3) := by decide +kernel
theorem dX11_votes_13 : decode cX11_votes 13 = .ok (.ifCond .eq 11, 3) := by decide +kernel
theorem dX11_votes_16 : decode cX11_votes 16 = .ok (.aload_n 0, 1) := by decide +kernel
theorem dX11_votes_17 : decode cX11_votes 17 = .ok (.iload_n 3, 1) := by decide +kernel
theorem dX11_votes_18 : decode cX11_votes 18 = .ok (.invokevirtual 309, 3) := by decide +kernel
theorem dX11_votes_21 : decode cX11_votes 21 = .ok (.ifCond .ne 5, 3) := by decide +kernel
theorem dX11_votes_24 : decode cX11_votes 24 = .ok (.iconst (-1), 1) := by decide +kernel
theorem dX11_votes_25 : decode cX11_votes 25 = .ok (.ireturn, 1) := by decide +kernel
theorem dX11_votes_26 : decode cX11_votes 26 = .ok (.aload_n 0, 1) := by decide +kernel
theorem dX11_votes_27 : decode cX11_votes 27 = .ok (.getfield 74, 3) := by decide +kernel
theorem dX11_votes_30 : decode cX11_votes 30 = .ok (.getfield 297, 3) := by decide +kernel
theorem dX11_votes_33 : decode cX11_votes 33 = .ok (.iload_n 1, 1) := by decide +kernel
theorem dX11_votes_34 : decode cX11_votes 34 = .ok (.iload_n 3, 1) := by decide +kernel
theorem dX11_votes_35 : decode cX11_votes 35 = .ok (.invokevirtual 312, 3) := by decide +kernel
theorem dX11_votes_38 : decode cX11_votes 38 = .ok (.aload_n 0, 1) := by decide +kernel
theorem dX11_votes_39 : decode cX11_votes 39 = .ok (.getfield 74, 3) := by decide +kernel
theorem dX11_votes_42 : decode cX11_votes 42 = .ok (.getfield 297, 3) := by decide +kernel
theorem dX11_votes_45 : decode cX11_votes 45 = .ok (.getfield 315, 3) := by decide +kernel
theorem dX11_votes_48 : decode cX11_votes 48 = .ok (.iload_n 2, 1) := by decide +kernel
theorem dX11_votes_49 : decode cX11_votes 49 = .ok (.iaload, 1) := by decide +kernel
theorem dX11_votes_50 : decode cX11_votes 50 = .ok (.ireturn, 1) := by decide +kernel
theorem b_X11_votes (mm : MM) (Q : Value → MM → Prop) (a1 : Int32) (a2 : Int32) (a3 : Int32) (h : o_X11_isOffice mm a1 ∧ ((p_X11_isOffice mm a1 → (o_X11_isHouse mm a2 ∧ ((p_X11_isHouse mm a2 → (o_X11_isKnown mm a3 ∧ ((p_X11_isKnown mm a3 → (AtState (mm.2.2 0 10) ∧ (∃ Pm2 : Value → MM → Prop, Runs e_X2_tally [.ref ((mm.2.2 0 10) + 7), .int a1, .int a3] mm Pm2 ∧ ∀ m2, Pm2 .null m2 → (AtState (m2.2.2 0 10) ∧ (vp_in a2 16 ∧ (Q (.int (m2.1 (((m2.2.2 0 10) + 7) + 6) a2.toNatClampNeg)) m2)))))) ∧ (¬ p_X11_isKnown mm a3 → (Q (.int (-1 : Int32)) mm))))) ∧ (¬ p_X11_isHouse mm a2 → (Q (.int (-1 : Int32)) mm))))) ∧ (¬ p_X11_isOffice mm a1 → (Q (.int (-1 : Int32)) mm)))) : Runs e_X11_votes [.ref 0, .int a1, .int a2, .int a3] mm Q := by
  refine runs_of_G (L := [(0, .ref 0), (1, .int a1), (2, .int a2), (3, .int a3)]) pl_X11 (Nat.le_of_ble_eq_true rfl) rfl ?_
  refine g_aload_n (pc := 0) (x := 0) dX11_votes_0 rfl ?_
  refine g_iload_n (pc := 1) (x := a1) dX11_votes_1 rfl ?_
  refine g_callV (pc := 2) (as := [.int a1]) dX11_votes_2 cw_X11_133 (by decide) rfl rfl sh_0 (Nat.le_of_ble_eq_true rfl) (rv_X11_isOffice mm a1 h.1) ?_
  have h := h.2
  rintro r_ m_ hz_ ⟨⟨p_, rfl⟩ | ⟨p_, rfl⟩, rfl⟩
  · have h := h.1 p_
    refine g_if_eq (pc := 5) (tgt := 24) dX11_votes_5 (by decide) (fun c5 => absurd c5 (by decide)) (fun _ => ?_)
    refine g_aload_n (pc := 8) (x := 0) dX11_votes_8 rfl ?_
    refine g_iload_n (pc := 9) (x := a2) dX11_votes_9 rfl ?_
    refine g_callV (pc := 10) (as := [.int a2]) dX11_votes_10 cw_X11_109 (by decide) rfl rfl sh_0 (Nat.le_of_ble_eq_true rfl) (rv_X11_isHouse mm a2 h.1) ?_
    have h := h.2
    rintro r_ m_ hz_ ⟨⟨p_, rfl⟩ | ⟨p_, rfl⟩, rfl⟩
    · have h := h.1 p_
      refine g_if_eq (pc := 13) (tgt := 24) dX11_votes_13 (by decide) (fun c13 => absurd c13 (by decide)) (fun _ => ?_)
      refine g_aload_n (pc := 16) (x := 0) dX11_votes_16 rfl ?_
      refine g_iload_n (pc := 17) (x := a3) dX11_votes_17 rfl ?_
      refine g_callV (pc := 18) (as := [.int a3]) dX11_votes_18 cw_X11_309 (by decide) rfl rfl sh_0 (Nat.le_of_ble_eq_true rfl) (rv_X11_isKnown mm a3 h.1) ?_
      have h := h.2
      rintro r_ m_ hz_ ⟨⟨p_, rfl⟩ | ⟨p_, rfl⟩, rfl⟩
      · have h := h.1 p_
        refine g_if_ne (pc := 21) (tgt := 26) dX11_votes_21 (by decide) (fun _ => ?_) (fun c21 => absurd c21 (by decide))
        refine g_aload_n (pc := 26) (x := 0) dX11_votes_26 rfl ?_
        refine g_getVt (pc := 27) (t := (mm.2.2 0 10)) dX11_votes_27 fo_X11_74 sh_0 rfl rfl ?_
        have hr0 := h.1
        have h := h.2
        refine g_getR (pc := 30) (dd := 7) dX11_votes_30 fo_X11_297 (AtState_0 hr0) rfl ?_
        refine g_iload_n (pc := 33) (x := a1) dX11_votes_33 rfl ?_
        refine g_iload_n (pc := 34) (x := a3) dX11_votes_34 rfl ?_
        obtain ⟨Pm2, hRm2, h⟩ := h
        refine g_callV (pc := 35) (as := [.int a1, .int a3]) dX11_votes_35 cw_X11_312 (by decide) rfl rfl (AtLogs_0 (AtState.logs hr0)) (Nat.le_of_ble_eq_true rfl) hRm2 ?_
        intro r_ m2 hz_ hp_
        obtain rfl := hz_
        have h := h m2 hp_
        refine g_aload_n (pc := 38) (x := 0) dX11_votes_38 rfl ?_
        refine g_getVt (pc := 39) (t := (m2.2.2 0 10)) dX11_votes_39 fo_X11_74 sh_0 rfl rfl ?_
        have hr2 := h.1
        have h := h.2
        refine g_getR (pc := 42) (dd := 7) dX11_votes_42 fo_X11_297 (AtState_0 hr2) rfl ?_
        refine g_getR (pc := 45) (dd := 6) dX11_votes_45 fo_X11_315 (AtLogs_0 (AtState.logs hr2)) rfl ?_
        refine g_iload_n (pc := 48) (x := a2) dX11_votes_48 rfl ?_
        refine g_iaload (pc := 49) dX11_votes_49 (AtLogs_6 (AtState.logs hr2)) h.1 ?_
        have h := h.2
        exact g_iret (pc := 50) dX11_votes_50 rfl rfl rfl h
      · have h := h.2 p_
        refine g_if_ne (pc := 21) (tgt := 26) dX11_votes_21 (by decide) (fun c21 => absurd c21 (by decide)) (fun _ => ?_)
        refine g_iconst (pc := 24) (v := (-1 : Int32)) dX11_votes_24 (by decide) ?_
        exact g_iret (pc := 25) dX11_votes_25 rfl rfl rfl h
    · have h := h.2 p_
      refine g_if_eq (pc := 13) (tgt := 24) dX11_votes_13 (by decide) (fun _ => ?_) (fun c13 => absurd c13 (by decide))
      refine g_iconst (pc := 24) (v := (-1 : Int32)) dX11_votes_24 (by decide) ?_
      exact g_iret (pc := 25) dX11_votes_25 rfl rfl rfl h
  · have h := h.2 p_
    refine g_if_eq (pc := 5) (tgt := 24) dX11_votes_5 (by decide) (fun _ => ?_) (fun c5 => absurd c5 (by decide))
    refine g_iconst (pc := 24) (v := (-1 : Int32)) dX11_votes_24 (by decide) ?_
    exact g_iret (pc := 25) dX11_votes_25 rfl rfl rfl h
theorem dX11_winner_0 : decode cX11_winner 0 = .ok (.aload_n 0, 1) := by decide +kernel
theorem dX11_winner_1 : decode cX11_winner 1 = .ok (.iload_n 1, 1) := by decide +kernel
theorem dX11_winner_2 : decode cX11_winner 2 = .ok (.invokevirtual 133, 3) := by decide +kernel
theorem dX11_winner_5 : decode cX11_winner 5 = .ok (.ifCond .eq 11, 3) := by decide +kernel
theorem dX11_winner_8 : decode cX11_winner 8 = .ok (.aload_n 0, 1) := by decide +kernel
theorem dX11_winner_9 : decode cX11_winner 9 = .ok (.iload_n 2, 1) := by decide +kernel
theorem dX11_winner_10 : decode cX11_winner 10 = .ok (.invokevirtual 309, 3) := by decide +kernel
theorem dX11_winner_13 : decode cX11_winner 13 = .ok (.ifCond .ne 5, 3) := by decide +kernel
theorem dX11_winner_16 : decode cX11_winner 16 = .ok (.iconst (-1), 1) := by decide +kernel
theorem dX11_winner_17 : decode cX11_winner 17 = .ok (.ireturn, 1) := by decide +kernel
theorem dX11_winner_18 : decode cX11_winner 18 = .ok (.aload_n 0, 1) := by decide +kernel
theorem dX11_winner_19 : decode cX11_winner 19 = .ok (.getfield 74, 3) := by decide +kernel
theorem dX11_winner_22 : decode cX11_winner 22 = .ok (.getfield 297, 3) := by decide +kernel
theorem dX11_winner_25 : decode cX11_winner 25 = .ok (.iload_n 1, 1) := by decide +kernel
theorem dX11_winner_26 : decode cX11_winner 26 = .ok (.iload_n 2, 1) := by decide +kernel
theorem dX11_winner_27 : decode cX11_winner 27 = .ok (.invokevirtual 312, 3) := by decide +kernel
theorem dX11_winner_30 : decode cX11_winner 30 = .ok (.aload_n 0, 1) := by decide +kernel
theorem dX11_winner_31 : decode cX11_winner 31 = .ok (.getfield 74, 3) := by decide +kernel
theorem dX11_winner_34 : decode cX11_winner 34 = .ok (.getfield 297, 3) := by decide +kernel
theorem dX11_winner_37 : decode cX11_winner 37 = .ok (.getfield 315, 3) := by decide +kernel
theorem dX11_winner_40 : decode cX11_winner 40 = .ok (.astore_n 3, 1) := by decide +kernel
theorem dX11_winner_41 : decode cX11_winner 41 = .ok (.bipush (-2), 2) := by decide +kernel
theorem dX11_winner_43 : decode cX11_winner 43 = .ok (.istore 4, 2) := by decide +kernel
theorem dX11_winner_45 : decode cX11_winner 45 = .ok (.iconst 0, 1) := by decide +kernel
theorem dX11_winner_46 : decode cX11_winner 46 = .ok (.istore 5, 2) := by decide +kernel
theorem dX11_winner_48 : decode cX11_winner 48 = .ok (.iload 5, 2) := by decide +kernel
theorem dX11_winner_50 : decode cX11_winner 50 = .ok (.aload_n 0, 1) := by decide +kernel
theorem dX11_winner_51 : decode cX11_winner 51 = .ok (.getfield 69, 3) := by decide +kernel
theorem dX11_winner_54 : decode cX11_winner 54 = .ok (.getfield 178, 3) := by decide +kernel
theorem dX11_winner_57 : decode cX11_winner 57 = .ok (.if_icmp .ge 56, 3) := by decide +kernel
theorem dX11_winner_60 : decode cX11_winner 60 = .ok (.iload 4, 2) := by decide +kernel
theorem dX11_winner_62 : decode cX11_winner 62 = .ok (.bipush (-2), 2) := by decide +kernel
theorem dX11_winner_64 : decode cX11_winner 64 = .ok (.if_icmp .ne 14, 3) := by decide +kernel
theorem dX11_winner_67 : decode cX11_winner 67 = .ok (.aload_n 3, 1) := by decide +kernel
theorem dX11_winner_68 : decode cX11_winner 68 = .ok (.iload 5, 2) := by decide +kernel
theorem dX11_winner_70 : decode cX11_winner 70 = .ok (.iaload, 1) := by decide +kernel
theorem dX11_winner_71 : decode cX11_winner 71 = .ok (.ifCond .le 7, 3) := by decide +kernel
theorem dX11_winner_74 : decode cX11_winner 74 = .ok (.iconst 1, 1) := by decide +kernel
theorem dX11_winner_75 : decode cX11_winner 75 = .ok (.goto 4, 3) := by decide +kernel
theorem dX11_winner_78 : decode cX11_winner 78 = .ok (.iconst 0, 1) := by decide +kernel
theorem dX11_winner_79 : decode cX11_winner 79 = .ok (.istore 6, 2) := by decide +kernel
theorem dX11_winner_81 : decode cX11_winner 81 = .ok (.iload 6, 2) := by decide +kernel
theorem dX11_winner_83 : decode cX11_winner 83 = .ok (.ifCond .ne 20, 3) := by decide +kernel
theorem dX11_winner_86 : decode cX11_winner 86 = .ok (.iload 4, 2) := by decide +kernel
theorem dX11_winner_88 : decode cX11_winner 88 = .ok (.ifCond .lt 19, 3) := by decide +kernel
theorem dX11_winner_91 : decode cX11_winner 91 = .ok (.aload_n 0, 1) := by decide +kernel
theorem dX11_winner_92 : decode cX11_winner 92 = .ok (.aload_n 3, 1) := by decide +kernel
theorem dX11_winner_93 : decode cX11_winner 93 = .ok (.iload 5, 2) := by decide +kernel
theorem dX11_winner_95 : decode cX11_winner 95 = .ok (.iload 4, 2) := by decide +kernel
theorem dX11_winner_97 : decode cX11_winner 97 = .ok (.invokevirtual 318, 3) := by decide +kernel
theorem dX11_winner_100 : decode cX11_winner 100 = .ok (.ifCond .eq 7, 3) := by decide +kernel
theorem dX11_winner_103 : decode cX11_winner 103 = .ok (.iload 5, 2) := by decide +kernel
theorem dX11_winner_105 : decode cX11_winner 105 = .ok (.istore 4, 2) := by decide +kernel
theorem dX11_winner_107 : decode cX11_winner 107 = .ok (.iinc 5 1, 3) := by decide +kernel
theorem dX11_winner_110 : decode cX11_winner 110 = .ok (.goto (-62), 3) := by decide +kernel
theorem dX11_winner_113 : decode cX11_winner 113 = .ok (.iload 4, 2) := by decide +kernel
theorem dX11_winner_115 : decode cX11_winner 115 = .ok (.ireturn, 1) := by decide +kernel
theorem b_X11_winner (mm : MM) (Q : Value → MM → Prop) (a1 : Int32) (a2 : Int32) (h : o_X11_isOffice mm a1 ∧ ((p_X11_isOffice mm a1 → (o_X11_isKnown mm a2 ∧ ((p_X11_isKnown mm a2 → (AtState (mm.2.2 0 10) ∧ (∃ Pm2 : Value → MM → Prop, Runs e_X2_tally [.ref ((mm.2.2 0 10) + 7), .int a1, .int a2] mm Pm2 ∧ ∀ m2, Pm2 .null m2 → (AtState (m2.2.2 0 10) ∧ (G e_X11_winner 48 [(0, .ref 0), (3, .ref (((m2.2.2 0 10) + 7) + 6)), (4, .int (-2 : Int32)), (5, .int (0 : Int32))] [] m2 Q))))) ∧ (¬ p_X11_isKnown mm a2 → (Q (.int (-1 : Int32)) mm))))) ∧ (¬ p_X11_isOffice mm a1 → (Q (.int (-1 : Int32)) mm)))) : Runs e_X11_winner [.ref 0, .int a1, .int a2] mm Q := by
  refine runs_of_G (L := [(0, .ref 0), (1, .int a1), (2, .int a2)]) pl_X11 (Nat.le_of_ble_eq_true rfl) rfl ?_
  refine g_aload_n (pc := 0) (x := 0) dX11_winner_0 rfl ?_
  refine g_iload_n (pc := 1) (x := a1) dX11_winner_1 rfl ?_
  refine g_callV (pc := 2) (as := [.int a1]) dX11_winner_2 cw_X11_133 (by decide) rfl rfl sh_0 (Nat.le_of_ble_eq_true rfl) (rv_X11_isOffice mm a1 h.1) ?_
  have h := h.2
  rintro r_ m_ hz_ ⟨⟨p_, rfl⟩ | ⟨p_, rfl⟩, rfl⟩
  · have h := h.1 p_
    refine g_if_eq (pc := 5) (tgt := 16) dX11_winner_5 (by decide) (fun c5 => absurd c5 (by decide)) (fun _ => ?_)
    refine g_aload_n (pc := 8) (x := 0) dX11_winner_8 rfl ?_
    refine g_iload_n (pc := 9) (x := a2) dX11_winner_9 rfl ?_
    refine g_callV (pc := 10) (as := [.int a2]) dX11_winner_10 cw_X11_309 (by decide) rfl rfl sh_0 (Nat.le_of_ble_eq_true rfl) (rv_X11_isKnown mm a2 h.1) ?_
    have h := h.2
    rintro r_ m_ hz_ ⟨⟨p_, rfl⟩ | ⟨p_, rfl⟩, rfl⟩
    · have h := h.1 p_
      refine g_if_ne (pc := 13) (tgt := 18) dX11_winner_13 (by decide) (fun _ => ?_) (fun c13 => absurd c13 (by decide))
      refine g_aload_n (pc := 18) (x := 0) dX11_winner_18 rfl ?_
      refine g_getVt (pc := 19) (t := (mm.2.2 0 10)) dX11_winner_19 fo_X11_74 sh_0 rfl rfl ?_
      have hr0 := h.1
      have h := h.2
      refine g_getR (pc := 22) (dd := 7) dX11_winner_22 fo_X11_297 (AtState_0 hr0) rfl ?_
      refine g_iload_n (pc := 25) (x := a1) dX11_winner_25 rfl ?_
      refine g_iload_n (pc := 26) (x := a2) dX11_winner_26 rfl ?_
      obtain ⟨Pm2, hRm2, h⟩ := h
      refine g_callV (pc := 27) (as := [.int a1, .int a2]) dX11_winner_27 cw_X11_312 (by decide) rfl rfl (AtLogs_0 (AtState.logs hr0)) (Nat.le_of_ble_eq_true rfl) hRm2 ?_
      intro r_ m2 hz_ hp_
      obtain rfl := hz_
      have h := h m2 hp_
      refine g_aload_n (pc := 30) (x := 0) dX11_winner_30 rfl ?_
      refine g_getVt (pc := 31) (t := (m2.2.2 0 10)) dX11_winner_31 fo_X11_74 sh_0 rfl rfl ?_
      have hr2 := h.1
      have h := h.2
      refine g_getR (pc := 34) (dd := 7) dX11_winner_34 fo_X11_297 (AtState_0 hr2) rfl ?_
      refine g_getR (pc := 37) (dd := 6) dX11_winner_37 fo_X11_315 (AtLogs_0 (AtState.logs hr2)) rfl ?_
      refine g_astore_n (pc := 40) (L' := [(0, .ref 0), (1, .int a1), (2, .int a2), (3, .ref (((m2.2.2 0 10) + 7) + 6))]) dX11_winner_40 (Nat.le_of_ble_eq_true rfl) rfl ?_
      refine g_bipush (pc := 41) (v := (-2 : Int32)) dX11_winner_41 (by decide) ?_
      refine g_istore (pc := 43) (L' := [(0, .ref 0), (1, .int a1), (2, .int a2), (3, .ref (((m2.2.2 0 10) + 7) + 6)), (4, .int (-2 : Int32))]) dX11_winner_43 (Nat.le_of_ble_eq_true rfl) rfl ?_
      refine g_iconst (pc := 45) (v := (0 : Int32)) dX11_winner_45 (by decide) ?_
      refine g_istore (pc := 46) (L' := [(0, .ref 0), (1, .int a1), (2, .int a2), (3, .ref (((m2.2.2 0 10) + 7) + 6)), (4, .int (-2 : Int32)), (5, .int (0 : Int32))]) dX11_winner_46 (Nat.le_of_ble_eq_true rfl) rfl ?_
      refine g_sub (L' := [(0, .ref 0), (3, .ref (((m2.2.2 0 10) + 7) + 6)), (4, .int (-2 : Int32)), (5, .int (0 : Int32))]) [0, 3, 4, 5] rfl ?_
      exact h
    · have h := h.2 p_
      refine g_if_ne (pc := 13) (tgt := 18) dX11_winner_13 (by decide) (fun c13 => absurd c13 (by decide)) (fun _ => ?_)
      refine g_iconst (pc := 16) (v := (-1 : Int32)) dX11_winner_16 (by decide) ?_
      exact g_iret (pc := 17) dX11_winner_17 rfl rfl rfl h
  · have h := h.2 p_
    refine g_if_eq (pc := 5) (tgt := 16) dX11_winner_5 (by decide) (fun _ => ?_) (fun c5 => absurd c5 (by decide))
    refine g_iconst (pc := 16) (v := (-1 : Int32)) dX11_winner_16 (by decide) ?_
    exact g_iret (pc := 17) dX11_winner_17 rfl rfl rfl h
theorem dX11_beats_0 : decode cX11_beats 0 = .ok (.aload_n 1, 1) := by decide +kernel
theorem dX11_beats_1 : decode cX11_beats 1 = .ok (.iload_n 2, 1) := by decide +kernel
theorem dX11_beats_2 : decode cX11_beats 2 = .ok (.iaload, 1) := by decide +kernel
theorem dX11_beats_3 : decode cX11_beats 3 = .ok (.aload_n 1, 1) := by decide +kernel
theorem dX11_beats_4 : decode cX11_beats 4 = .ok (.iload_n 3, 1) := by decide +kernel
theorem dX11_beats_5 : decode cX11_beats 5 = .ok (.iaload, 1) := by decide +kernel
theorem dX11_beats_6 : decode cX11_beats 6 = .ok (.if_icmp .gt 33, 3) := by decide +kernel
theorem dX11_beats_9 : decode cX11_beats 9 = .ok (.aload_n 1, 1) := by decide +kernel
theorem dX11_beats_10 : decode cX11_beats 10 = .ok (.iload_n 2, 1) := by decide +kernel
theorem dX11_beats_11 : decode cX11_beats 11 = .ok (.iaload, 1) := by decide +kernel
theorem dX11_beats_12 : decode cX11_beats 12 = .ok (.aload_n 1, 1) := by decide +kernel
theorem dX11_beats_13 : decode cX11_beats 13 = .ok (.iload_n 3, 1) := by decide +kernel
theorem dX11_beats_14 : decode cX11_beats 14 = .ok (.iaload, 1) := by decide +kernel
theorem dX11_beats_15 : decode cX11_beats 15 = .ok (.if_icmp .ne 28, 3) := by decide +kernel
theorem dX11_beats_18 : decode cX11_beats 18 = .ok (.aload_n 0, 1) := by decide +kernel
theorem dX11_beats_19 : decode cX11_beats 19 = .ok (.getfield 74, 3) := by decide +kernel
theorem dX11_beats_22 : decode cX11_beats 22 = .ok (.getfield 117, 3) := by decide +kernel
theorem dX11_beats_25 : decode cX11_beats 25 = .ok (.iload_n 2, 1) := by decide +kernel
theorem dX11_beats_26 : decode cX11_beats 26 = .ok (.iaload, 1) := by decide +kernel
theorem dX11_beats_27 : decode cX11_beats 27 = .ok (.aload_n 0, 1) := by decide +kernel
theorem dX11_beats_28 : decode cX11_beats 28 = .ok (.getfield 74, 3) := by decide +kernel
theorem dX11_beats_31 : decode cX11_beats 31 = .ok (.getfield 117, 3) := by decide +kernel
theorem dX11_beats_34 : decode cX11_beats 34 = .ok (.iload_n 3, 1) := by decide +kernel
theorem dX11_beats_35 : decode cX11_beats 35 = .ok (.iaload, 1) := by decide +kernel
theorem dX11_beats_36 : decode cX11_beats 36 = .ok (.if_icmp .le 7, 3) := by decide +kernel
theorem dX11_beats_39 : decode cX11_beats 39 = .ok (.iconst 1, 1) := by decide +kernel
theorem dX11_beats_40 : decode cX11_beats 40 = .ok (.goto 4, 3) := by decide +kernel
theorem dX11_beats_43 : decode cX11_beats 43 = .ok (.iconst 0, 1) := by decide +kernel
theorem dX11_beats_44 : decode cX11_beats 44 = .ok (.ireturn, 1) := by decide +kernel
def o_X11_beats (mm : MM) (a1 : Nat) (a2 : Int32) (a3 : Int32) : Prop := vp_in a2 16 ∧ (vp_in a3 16 ∧ (((mm.1 a1 a3.toNatClampNeg) < (mm.1 a1 a2.toNatClampNeg) → (True)) ∧ (¬ (mm.1 a1 a3.toNatClampNeg) < (mm.1 a1 a2.toNatClampNeg) → (vp_in a2 16 ∧ (vp_in a3 16 ∧ ((¬ (mm.1 a1 a2.toNatClampNeg) = (mm.1 a1 a3.toNatClampNeg) → (True)) ∧ ((mm.1 a1 a2.toNatClampNeg) = (mm.1 a1 a3.toNatClampNeg) → (AtState (mm.2.2 0 10) ∧ (vp_in a2 16 ∧ (AtState (mm.2.2 0 10) ∧ (vp_in a3 16 ∧ (((mm.1 ((mm.2.2 0 10) + 1) a2.toNatClampNeg) ≤ (mm.1 ((mm.2.2 0 10) + 1) a3.toNatClampNeg) → (True)) ∧ (¬ (mm.1 ((mm.2.2 0 10) + 1) a2.toNatClampNeg) ≤ (mm.1 ((mm.2.2 0 10) + 1) a3.toNatClampNeg) → (True))))))))))))))
def p_X11_beats (mm : MM) (a1 : Nat) (a2 : Int32) (a3 : Int32) : Prop := ((mm.1 a1 a3.toNatClampNeg) < (mm.1 a1 a2.toNatClampNeg) ∨ ((mm.1 a1 a2.toNatClampNeg) = (mm.1 a1 a3.toNatClampNeg) ∧ ¬ (mm.1 ((mm.2.2 0 10) + 1) a2.toNatClampNeg) ≤ (mm.1 ((mm.2.2 0 10) + 1) a3.toNatClampNeg)))
theorem rv_X11_beats (mm : MM) (a1 : Nat) (a2 : Int32) (a3 : Int32) (h1 : SHL[a1]? = some (.inl (0, 16, 0, 0))) (h : o_X11_beats mm a1 a2 a3) : Runs e_X11_beats [.ref 0, .ref a1, .int a2, .int a3] mm (fun r m_ => ((p_X11_beats mm a1 a2 a3 ∧ r = .int 1) ∨ (¬ p_X11_beats mm a1 a2 a3 ∧ r = .int 0)) ∧ mm = m_) := by
  refine runs_of_G (L := [(0, .ref 0), (1, .ref a1), (2, .int a2), (3, .int a3)]) pl_X11 (Nat.le_of_ble_eq_true rfl) rfl ?_
  unfold o_X11_beats at h
  refine g_aload_n (pc := 0) (x := a1) dX11_beats_0 rfl ?_
  refine g_iload_n (pc := 1) (x := a2) dX11_beats_1 rfl ?_
  refine g_iaload (pc := 2) dX11_beats_2 h1 h.1 ?_
  have h := h.2
  refine g_aload_n (pc := 3) (x := a1) dX11_beats_3 rfl ?_
  refine g_iload_n (pc := 4) (x := a3) dX11_beats_4 rfl ?_
  refine g_iaload (pc := 5) dX11_beats_5 h1 h.1 ?_
  have h := h.2
  refine g_icmp_gt (pc := 6) (tgt := 39) dX11_beats_6 (by decide) (fun c6 => ?_) (fun c6 => ?_)
  · have c6_0 : (mm.1 a1 a3.toNatClampNeg) < (mm.1 a1 a2.toNatClampNeg) := c6
    have h := h.1 c6
    refine g_iconst (pc := 39) (v := (1 : Int32)) dX11_beats_39 (by decide) ?_
    refine g_goto (pc := 40) (tgt := 44) dX11_beats_40 (by decide) ?_
    exact g_iret (pc := 44) dX11_beats_44 rfl rfl (nar_B isB1) ⟨Or.inl ⟨(show p_X11_beats mm a1 a2 a3 from (Or.inl c6_0)), rfl⟩, rfl⟩
  · have c6_0 : ¬ (mm.1 a1 a3.toNatClampNeg) < (mm.1 a1 a2.toNatClampNeg) := c6
    have h := h.2 c6
    refine g_aload_n (pc := 9) (x := a1) dX11_beats_9 rfl ?_
    refine g_iload_n (pc := 10) (x := a2) dX11_beats_10 rfl ?_
    refine g_iaload (pc := 11) dX11_beats_11 h1 h.1 ?_
    have h := h.2
    refine g_aload_n (pc := 12) (x := a1) dX11_beats_12 rfl ?_
    refine g_iload_n (pc := 13) (x := a3) dX11_beats_13 rfl ?_
    refine g_iaload (pc := 14) dX11_beats_14 h1 h.1 ?_
    have h := h.2
    refine g_icmp_ne (pc := 15) (tgt := 43) dX11_beats_15 (by decide) (fun c15 => ?_) (fun c15 => ?_)
    · have c15_1 : ¬ (mm.1 a1 a2.toNatClampNeg) = (mm.1 a1 a3.toNatClampNeg) := c15
      have h := h.1 c15
      refine g_iconst (pc := 43) (v := (0 : Int32)) dX11_beats_43 (by decide) ?_
      exact g_iret (pc := 44) dX11_beats_44 rfl rfl (nar_B isB0) ⟨Or.inr ⟨(show ¬ p_X11_beats mm a1 a2 a3 from (fun h_ => h_.elim (fun z_ => (c6_0 z_)) (fun h_ => (c15_1 h_.1)))), rfl⟩, rfl⟩
    · have c15_1 : (mm.1 a1 a2.toNatClampNeg) = (mm.1 a1 a3.toNatClampNeg) := c15
      have h := h.2 c15
      refine g_aload_n (pc := 18) (x := 0) dX11_beats_18 rfl ?_
      refine g_getVt (pc := 19) (t := (mm.2.2 0 10)) dX11_beats_19 fo_X11_74 sh_0 rfl rfl ?_
      have hr0 := h.1
      have h := h.2
      refine g_getR (pc := 22) (dd := 1) dX11_beats_22 fo_X11_117 (AtState_0 hr0) rfl ?_
      refine g_iload_n (pc := 25) (x := a2) dX11_beats_25 rfl ?_
      refine g_iaload (pc := 26) dX11_beats_26 (AtState_1 hr0) h.1 ?_
      have h := h.2
      refine g_aload_n (pc := 27) (x := 0) dX11_beats_27 rfl ?_
      refine g_getVt (pc := 28) (t := (mm.2.2 0 10)) dX11_beats_28 fo_X11_74 sh_0 rfl rfl ?_
      have hr1 := h.1
      have h := h.2
      refine g_getR (pc := 31) (dd := 1) dX11_beats_31 fo_X11_117 (AtState_0 hr1) rfl ?_
      refine g_iload_n (pc := 34) (x := a3) dX11_beats_34 rfl ?_
      refine g_iaload (pc := 35) dX11_beats_35 (AtState_1 hr1) h.1 ?_
      have h := h.2
      refine g_icmp_le (pc := 36) (tgt := 43) dX11_beats_36 (by decide) (fun c36 => ?_) (fun c36 => ?_)
      · have c36_2 : (mm.1 ((mm.2.2 0 10) + 1) a2.toNatClampNeg) ≤ (mm.1 ((mm.2.2 0 10) + 1) a3.toNatClampNeg) := c36
        refine g_iconst (pc := 43) (v := (0 : Int32)) dX11_beats_43 (by decide) ?_
        exact g_iret (pc := 44) dX11_beats_44 rfl rfl (nar_B isB0) ⟨Or.inr ⟨(show ¬ p_X11_beats mm a1 a2 a3 from (fun h_ => h_.elim (fun z_ => (c6_0 z_)) (fun h_ => (not_not_intro c36_2) h_.2))), rfl⟩, rfl⟩
      · have c36_2 : ¬ (mm.1 ((mm.2.2 0 10) + 1) a2.toNatClampNeg) ≤ (mm.1 ((mm.2.2 0 10) + 1) a3.toNatClampNeg) := c36
        refine g_iconst (pc := 39) (v := (1 : Int32)) dX11_beats_39 (by decide) ?_
        refine g_goto (pc := 40) (tgt := 44) dX11_beats_40 (by decide) ?_
        exact g_iret (pc := 44) dX11_beats_44 rfl rfl (nar_B isB1) ⟨Or.inl ⟨(show p_X11_beats mm a1 a2 a3 from (Or.inr ⟨c15_1, c36_2⟩)), rfl⟩, rfl⟩
theorem b_X11_winner_48 (mm : MM) (Q : Value → MM → Prop) (l3 : Nat) (l4 : Int32) (l5 : Int32) (k3 : SHL[l3]? = some (.inl (0, 16, 0, 0))) (h : AtTown (mm.2.2 0 9) ∧ (((mm.1 (mm.2.2 0 9) 8) ≤ l5 → (Q (.int l4) mm)) ∧ (¬ (mm.1 (mm.2.2 0 9) 8) ≤ l5 → ((¬ l4 = (-2 : Int32) → ((l4 < 0 → (G e_X11_winner 48 [(0, .ref 0), (3, .ref l3), (4, .int l4), (5, .int (l5 + (1 : Int32)))] [] mm Q)) ∧ (¬ l4 < 0 → (o_X11_beats mm l3 l5 l4 ∧ ((p_X11_beats mm l3 l5 l4 → (G e_X11_winner 48 [(0, .ref 0), (3, .ref l3), (4, .int l5), (5, .int (l5 + (1 : Int32)))] [] mm Q)) ∧ (¬ p_X11_beats mm l3 l5 l4 → (G e_X11_winner 48 [(0, .ref 0), (3, .ref l3), (4, .int l4), (5, .int (l5 + (1 : Int32)))] [] mm Q))))))) ∧ (l4 = (-2 : Int32) → (vp_in l5 16 ∧ (((mm.1 l3 l5.toNatClampNeg) ≤ 0 → ((l4 < 0 → (G e_X11_winner 48 [(0, .ref 0), (3, .ref l3), (4, .int l4), (5, .int (l5 + (1 : Int32)))] [] mm Q)) ∧ (¬ l4 < 0 → (o_X11_beats mm l3 l5 l4 ∧ ((p_X11_beats mm l3 l5 l4 → (G e_X11_winner 48 [(0, .ref 0), (3, .ref l3), (4, .int l5), (5, .int (l5 + (1 : Int32)))] [] mm Q)) ∧ (¬ p_X11_beats mm l3 l5 l4 → (G e_X11_winner 48 [(0, .ref 0), (3, .ref l3), (4, .int l4), (5, .int (l5 + (1 : Int32)))] [] mm Q))))))) ∧ (¬ (mm.1 l3 l5.toNatClampNeg) ≤ 0 → (G e_X11_winner 48 [(0, .ref 0), (3, .ref l3), (4, .int l5), (5, .int (l5 + (1 : Int32)))] [] mm Q))))))))) : G e_X11_winner 48 [(0, .ref 0), (3, .ref l3), (4, .int l4), (5, .int l5)] [] mm Q := by
  refine g_iload (pc := 48) (x := l5) dX11_winner_48 rfl ?_
  refine g_aload_n (pc := 50) (x := 0) dX11_winner_50 rfl ?_
  refine g_getVt (pc := 51) (t := (mm.2.2 0 9)) dX11_winner_51 fo_X11_69 sh_0 rfl rfl ?_
  have hr0 := h.1
  have h := h.2
  refine g_getI (pc := 54) dX11_winner_54 fo_X11_178 (AtTown_0 hr0) rfl ?_
  refine g_icmp_ge (pc := 57) (tgt := 113) dX11_winner_57 (by decide) (fun c57 => ?_) (fun c57 => ?_)
  · have h := h.1 c57
    refine g_iload (pc := 113) (x := l4) dX11_winner_113 rfl ?_
    exact g_iret (pc := 115) dX11_winner_115 rfl rfl rfl h
  · have h := h.2 c57
    refine g_iload (pc := 60) (x := l4) dX11_winner_60 rfl ?_
    refine g_bipush (pc := 62) (v := (-2 : Int32)) dX11_winner_62 (by decide) ?_
    refine g_icmp_ne (pc := 64) (tgt := 78) dX11_winner_64 (by decide) (fun c64 => ?_) (fun c64 => ?_)
    · have h := h.1 c64
      refine g_iconst (pc := 78) (v := (0 : Int32)) dX11_winner_78 (by decide) ?_
      refine g_istore (pc := 79) (L' := [(0, .ref 0), (3, .ref l3), (4, .int l4), (5, .int l5), (6, .int (0 : Int32))]) dX11_winner_79 (Nat.le_of_ble_eq_true rfl) rfl ?_
      refine g_iload (pc := 81) (x := (0 : Int32)) dX11_winner_81 rfl ?_
      refine g_if_ne (pc := 83) (tgt := 103) dX11_winner_83 (by decide) (fun c83 => absurd c83 (by decide)) (fun _ => ?_)
      refine g_iload (pc := 86) (x := l4) dX11_winner_86 rfl ?_
      refine g_if_lt (pc := 88) (tgt := 107) dX11_winner_88 (by decide) (fun c88 => ?_) (fun c88 => ?_)
      · have h := h.1 c88
        refine g_iinc (pc := 107) (x := l5) (v := (l5 + (1 : Int32))) (L' := [(0, .ref 0), (3, .ref l3), (4, .int l4), (5, .int (l5 + (1 : Int32))), (6, .int (0 : Int32))]) dX11_winner_107 rfl rfl (Nat.le_of_ble_eq_true rfl) rfl ?_
        refine g_goto (pc := 110) (tgt := 48) dX11_winner_110 (by decide) ?_
        refine g_sub (L' := [(0, .ref 0), (3, .ref l3), (4, .int l4), (5, .int (l5 + (1 : Int32)))]) [0, 1, 2, 3] rfl ?_
        exact h
      · have h := h.2 c88
        refine g_aload_n (pc := 91) (x := 0) dX11_winner_91 rfl ?_
        refine g_aload_n (pc := 92) (x := l3) dX11_winner_92 rfl ?_
        refine g_iload (pc := 93) (x := l5) dX11_winner_93 rfl ?_
        refine g_iload (pc := 95) (x := l4) dX11_winner_95 rfl ?_
        refine g_callV (pc := 97) (as := [.ref l3, .int l5, .int l4]) dX11_winner_97 cw_X11_318 (by decide) rfl rfl sh_0 (Nat.le_of_ble_eq_true rfl) (rv_X11_beats mm l3 l5 l4 k3 h.1) ?_
        have h := h.2
        rintro r_ m_ hz_ ⟨⟨p_, rfl⟩ | ⟨p_, rfl⟩, rfl⟩
        · have h := h.1 p_
          refine g_if_eq (pc := 100) (tgt := 107) dX11_winner_100 (by decide) (fun c100 => absurd c100 (by decide)) (fun _ => ?_)
          refine g_iload (pc := 103) (x := l5) dX11_winner_103 rfl ?_
          refine g_istore (pc := 105) (L' := [(0, .ref 0), (3, .ref l3), (4, .int l5), (5, .int l5), (6, .int (0 : Int32))]) dX11_winner_105 (Nat.le_of_ble_eq_true rfl) rfl ?_
          refine g_iinc (pc := 107) (x := l5) (v := (l5 + (1 : Int32))) (L' := [(0, .ref 0), (3, .ref l3), (4, .int l5), (5, .int (l5 + (1 : Int32))), (6, .int (0 : Int32))]) dX11_winner_107 rfl rfl (Nat.le_of_ble_eq_true rfl) rfl ?_
          refine g_goto (pc := 110) (tgt := 48) dX11_winner_110 (by decide) ?_
          refine g_sub (L' := [(0, .ref 0), (3, .ref l3), (4, .int l5), (5, .int (l5 + (1 : Int32)))]) [0, 1, 2, 3] rfl ?_
          exact h
        · have h := h.2 p_
          refine g_if_eq (pc := 100) (tgt := 107) dX11_winner_100 (by decide) (fun _ => ?_) (fun c100 => absurd c100 (by decide))
          refine g_iinc (pc := 107) (x := l5) (v := (l5 + (1 : Int32))) (L' := [(0, .ref 0), (3, .ref l3), (4, .int l4), (5, .int (l5 + (1 : Int32))), (6, .int (0 : Int32))]) dX11_winner_107 rfl rfl (Nat.le_of_ble_eq_true rfl) rfl ?_
          refine g_goto (pc := 110) (tgt := 48) dX11_winner_110 (by decide) ?_
          refine g_sub (L' := [(0, .ref 0), (3, .ref l3), (4, .int l4), (5, .int (l5 + (1 : Int32)))]) [0, 1, 2, 3] rfl ?_
          exact h
    · have h := h.2 c64
      refine g_aload_n (pc := 67) (x := l3) dX11_winner_67 rfl ?_
      refine g_iload (pc := 68) (x := l5) dX11_winner_68 rfl ?_
      refine g_iaload (pc := 70) dX11_winner_70 k3 h.1 ?_
      have h := h.2
      refine g_if_le (pc := 71) (tgt := 78) dX11_winner_71 (by decide) (fun c71 => ?_) (fun c71 => ?_)
      · have h := h.1 c71
        refine g_iconst (pc := 78) (v := (0 : Int32)) dX11_winner_78 (by decide) ?_
        refine g_istore (pc := 79) (L' := [(0, .ref 0), (3, .ref l3), (4, .int l4), (5, .int l5), (6, .int (0 : Int32))]) dX11_winner_79 (Nat.le_of_ble_eq_true rfl) rfl ?_
        refine g_iload (pc := 81) (x := (0 : Int32)) dX11_winner_81 rfl ?_
        refine g_if_ne (pc := 83) (tgt := 103) dX11_winner_83 (by decide) (fun c83 => absurd c83 (by decide)) (fun _ => ?_)
        refine g_iload (pc := 86) (x := l4) dX11_winner_86 rfl ?_
        refine g_if_lt (pc := 88) (tgt := 107) dX11_winner_88 (by decide) (fun c88 => ?_) (fun c88 => ?_)
        · have h := h.1 c88
          refine g_iinc (pc := 107) (x := l5) (v := (l5 + (1 : Int32))) (L' := [(0, .ref 0), (3, .ref l3), (4, .int l4), (5, .int (l5 + (1 : Int32))), (6, .int (0 : Int32))]) dX11_winner_107 rfl rfl (Nat.le_of_ble_eq_true rfl) rfl ?_
          refine g_goto (pc := 110) (tgt := 48) dX11_winner_110 (by decide) ?_
          refine g_sub (L' := [(0, .ref 0), (3, .ref l3), (4, .int l4), (5, .int (l5 + (1 : Int32)))]) [0, 1, 2, 3] rfl ?_
          exact h
        · have h := h.2 c88
          refine g_aload_n (pc := 91) (x := 0) dX11_winner_91 rfl ?_
          refine g_aload_n (pc := 92) (x := l3) dX11_winner_92 rfl ?_
          refine g_iload (pc := 93) (x := l5) dX11_winner_93 rfl ?_
          refine g_iload (pc := 95) (x := l4) dX11_winner_95 rfl ?_
          refine g_callV (pc := 97) (as := [.ref l3, .int l5, .int l4]) dX11_winner_97 cw_X11_318 (by decide) rfl rfl sh_0 (Nat.le_of_ble_eq_true rfl) (rv_X11_beats mm l3 l5 l4 k3 h.1) ?_
          have h := h.2
          rintro r_ m_ hz_ ⟨⟨p_, rfl⟩ | ⟨p_, rfl⟩, rfl⟩
          · have h := h.1 p_
            refine g_if_eq (pc := 100) (tgt := 107) dX11_winner_100 (by decide) (fun c100 => absurd c100 (by decide)) (fun _ => ?_)
            refine g_iload (pc := 103) (x := l5) dX11_winner_103 rfl ?_
            refine g_istore (pc := 105) (L' := [(0, .ref 0), (3, .ref l3), (4, .int l5), (5, .int l5), (6, .int (0 : Int32))]) dX11_winner_105 (Nat.le_of_ble_eq_true rfl) rfl ?_
            refine g_iinc (pc := 107) (x := l5) (v := (l5 + (1 : Int32))) (L' := [(0, .ref 0), (3, .ref l3), (4, .int l5), (5, .int (l5 + (1 : Int32))), (6, .int (0 : Int32))]) dX11_winner_107 rfl rfl (Nat.le_of_ble_eq_true rfl) rfl ?_
            refine g_goto (pc := 110) (tgt := 48) dX11_winner_110 (by decide) ?_
            refine g_sub (L' := [(0, .ref 0), (3, .ref l3), (4, .int l5), (5, .int (l5 + (1 : Int32)))]) [0, 1, 2, 3] rfl ?_
            exact h
          · have h := h.2 p_
            refine g_if_eq (pc := 100) (tgt := 107) dX11_winner_100 (by decide) (fun _ => ?_) (fun c100 => absurd c100 (by decide))
            refine g_iinc (pc := 107) (x := l5) (v := (l5 + (1 : Int32))) (L' := [(0, .ref 0), (3, .ref l3), (4, .int l4), (5, .int (l5 + (1 : Int32))), (6, .int (0 : Int32))]) dX11_winner_107 rfl rfl (Nat.le_of_ble_eq_true rfl) rfl ?_
            refine g_goto (pc := 110) (tgt := 48) dX11_winner_110 (by decide) ?_
            refine g_sub (L' := [(0, .ref 0), (3, .ref l3), (4, .int l4), (5, .int (l5 + (1 : Int32)))]) [0, 1, 2, 3] rfl ?_
            exact h
      · have h := h.2 c71
        refine g_iconst (pc := 74) (v := (1 : Int32)) dX11_winner_74 (by decide) ?_
        refine g_goto (pc := 75) (tgt := 79) dX11_winner_75 (by decide) ?_
        refine g_istore (pc := 79) (L' := [(0, .ref 0), (3, .ref l3), (4, .int l4), (5, .int l5), (6, .int (1 : Int32))]) dX11_winner_79 (Nat.le_of_ble_eq_true rfl) rfl ?_
        refine g_iload (pc := 81) (x := (1 : Int32)) dX11_winner_81 rfl ?_
        refine g_if_ne (pc := 83) (tgt := 103) dX11_winner_83 (by decide) (fun _ => ?_) (fun c83 => absurd c83 (by decide))
        refine g_iload (pc := 103) (x := l5) dX11_winner_103 rfl ?_
        refine g_istore (pc := 105) (L' := [(0, .ref 0), (3, .ref l3), (4, .int l5), (5, .int l5), (6, .int (1 : Int32))]) dX11_winner_105 (Nat.le_of_ble_eq_true rfl) rfl ?_
        refine g_iinc (pc := 107) (x := l5) (v := (l5 + (1 : Int32))) (L' := [(0, .ref 0), (3, .ref l3), (4, .int l5), (5, .int (l5 + (1 : Int32))), (6, .int (1 : Int32))]) dX11_winner_107 rfl rfl (Nat.le_of_ble_eq_true rfl) rfl ?_
        refine g_goto (pc := 110) (tgt := 48) dX11_winner_110 (by decide) ?_
        refine g_sub (L' := [(0, .ref 0), (3, .ref l3), (4, .int l5), (5, .int (l5 + (1 : Int32)))]) [0, 1, 2, 3] rfl ?_
        exact h
theorem dX11_ends_0 : decode cX11_ends 0 = .ok (.aload_n 0, 1) := by decide +kernel
theorem dX11_ends_1 : decode cX11_ends 1 = .ok (.iload_n 1, 1) := by decide +kernel
theorem dX11_ends_2 : decode cX11_ends 2 = .ok (.invokevirtual 109, 3) := by decide +kernel
theorem dX11_ends_5 : decode cX11_ends 5 = .ok (.ifCond .eq 32, 3) := by decide +kernel
theorem dX11_ends_8 : decode cX11_ends 8 = .ok (.iload_n 2, 1) := by decide +kernel
theorem dX11_ends_9 : decode cX11_ends 9 = .ok (.iconst 0, 1) := by decide +kernel
theorem dX11_ends_10 : decode cX11_ends 10 = .ok (.bipush 99, 2) := by decide +kernel
theorem dX11_ends_12 : decode cX11_ends 12 = .ok (.invokestatic 144, 3) := by decide +kernel
theorem dX11_ends_15 : decode cX11_ends 15 = .ok (.ifCond .eq 22, 3) := by decide +kernel
theorem dX11_ends_18 : decode cX11_ends 18 = .ok (.iload_n 3, 1) := by decide +kernel
theorem dX11_ends_19 : decode cX11_ends 19 = .ok (.iconst 0, 1) := by decide +kernel
theorem dX11_ends_20 : decode cX11_ends 20 = .ok (.bipush 99, 2) := by decide +kernel
theorem dX11_ends_22 : decode cX11_ends 22 = .ok (.invokestatic 144, 3) := by decide +kernel
theorem dX11_ends_25 : decode cX11_ends 25 = .ok (.ifCond .eq 12, 3) := by decide +kernel
theorem dX11_ends_28 : decode cX11_ends 28 = .ok (.aload_n 0, 1) := by decide +kernel
theorem dX11_ends_29 : decode cX11_ends 29 = .ok (.iload 4, 2) := by decide +kernel
theorem dX11_ends_31 : decode cX11_ends 31 = .ok (.invokevirtual 309, 3) := by decide +kernel
theorem dX11_ends_34 : decode cX11_ends 34 = .ok (.ifCond .ne 5, 3) := by decide +kernel
theorem dX11_ends_37 : decode cX11_ends 37 = .ok (.iconst (-1), 1) := by decide +kernel
theorem dX11_ends_38 : decode cX11_ends 38 = .ok (.ireturn, 1) := by decide +kernel
theorem dX11_ends_39 : decode cX11_ends 39 = .ok (.aload_n 0, 1) := by decide +kernel
theorem dX11_ends_40 : decode cX11_ends 40 = .ok (.getfield 74, 3) := by decide +kernel
theorem dX11_ends_43 : decode cX11_ends 43 = .ok (.getfield 297, 3) := by decide +kernel
theorem dX11_ends_46 : decode cX11_ends 46 = .ok (.iload_n 1, 1) := by decide +kernel
theorem dX11_ends_47 : decode cX11_ends 47 = .ok (.iload_n 2, 1) := by decide +kernel
theorem dX11_ends_48 : decode cX11_ends 48 = .ok (.iload_n 3, 1) := by decide +kernel
theorem dX11_ends_49 : decode cX11_ends 49 = .ok (.iload 4, 2) := by decide +kernel
theorem dX11_ends_51 : decode cX11_ends 51 = .ok (.invokevirtual 321, 3) := by decide +kernel
theorem dX11_ends_54 : decode cX11_ends 54 = .ok (.ireturn, 1) := by decide +kernel
theorem b_X11_ends (mm : MM) (Q : Value → MM → Prop) (a1 : Int32) (a2 : Int32) (a3 : Int32) (a4 : Int32) (h : o_X11_isHouse mm a1 ∧ ((p_X11_isHouse mm a1 → ((p_X11_within mm a2 (0 : Int32) (99 : Int32) → ((p_X11_within mm a3 (0 : Int32) (99 : Int32) → (o_X11_isKnown mm a4 ∧ ((p_X11_isKnown mm a4 → (AtState (mm.2.2 0 10) ∧ (∃ Pm2 : Value → MM → Prop, Runs e_X2_endsOf [.ref ((mm.2.2 0 10) + 7), .int a1, .int a2, .int a3, .int a4] mm Pm2 ∧ ∀ (r2 : Int32) (m2 : MM), Pm2 (.int r2) m2 → (Q (.int r2) m2)))) ∧ (¬ p_X11_isKnown mm a4 → (Q (.int (-1 : Int32)) mm))))) ∧ (¬ p_X11_within mm a3 (0 : Int32) (99 : Int32) → (Q (.int (-1 : Int32)) mm)))) ∧ (¬ p_X11_within mm a2 (0 : Int32) (99 : Int32) → (Q (.int (-1 : Int32)) mm)))) ∧ (¬ p_X11_isHouse mm a1 → (Q (.int (-1 : Int32)) mm)))) : Runs e_X11_ends [.ref 0, .int a1, .int a2, .int a3, .int a4] mm Q := by
  refine runs_of_G (L := [(0, .ref 0), (1, .int a1), (2, .int a2), (3, .int a3), (4, .int a4)]) pl_X11 (Nat.le_of_ble_eq_true rfl) rfl ?_
  refine g_aload_n (pc := 0) (x := 0) dX11_ends_0 rfl ?_
  refine g_iload_n (pc := 1) (x := a1) dX11_ends_1 rfl ?_
  refine g_callV (pc := 2) (as := [.int a1]) dX11_ends_2 cw_X11_109 (by decide) rfl rfl sh_0 (Nat.le_of_ble_eq_true rfl) (rv_X11_isHouse mm a1 h.1) ?_
  have h := h.2
  rintro r_ m_ hz_ ⟨⟨p_, rfl⟩ | ⟨p_, rfl⟩, rfl⟩
  · have h := h.1 p_
    refine g_if_eq (pc := 5) (tgt := 37) dX11_ends_5 (by decide) (fun c5 => absurd c5 (by decide)) (fun _ => ?_)
    refine g_iload_n (pc := 8) (x := a2) dX11_ends_8 rfl ?_
    refine g_iconst (pc := 9) (v := (0 : Int32)) dX11_ends_9 (by decide) ?_
    refine g_bipush (pc := 10) (v := (99 : Int32)) dX11_ends_10 (by decide) ?_
    refine g_callS (pc := 12) (as := [.int a2, .int (0 : Int32), .int (99 : Int32)]) dX11_ends_12 cw_X11_144 (by decide) rfl rfl (Nat.le_of_ble_eq_true rfl) (rv_X11_within mm a2 (0 : Int32) (99 : Int32)) ?_
    rintro r_ m_ hz_ ⟨⟨p_, rfl⟩ | ⟨p_, rfl⟩, rfl⟩
    · have h := h.1 p_
      refine g_if_eq (pc := 15) (tgt := 37) dX11_ends_15 (by decide) (fun c15 => absurd c15 (by decide)) (fun _ => ?_)
      refine g_iload_n (pc := 18) (x := a3) dX11_ends_18 rfl ?_
      refine g_iconst (pc := 19) (v := (0 : Int32)) dX11_ends_19 (by decide) ?_
      refine g_bipush (pc := 20) (v := (99 : Int32)) dX11_ends_20 (by decide) ?_
      refine g_callS (pc := 22) (as := [.int a3, .int (0 : Int32), .int (99 : Int32)]) dX11_ends_22 cw_X11_144 (by decide) rfl rfl (Nat.le_of_ble_eq_true rfl) (rv_X11_within mm a3 (0 : Int32) (99 : Int32)) ?_
      rintro r_ m_ hz_ ⟨⟨p_, rfl⟩ | ⟨p_, rfl⟩, rfl⟩
      · have h := h.1 p_
        refine g_if_eq (pc := 25) (tgt := 37) dX11_ends_25 (by decide) (fun c25 => absurd c25 (by decide)) (fun _ => ?_)
        refine g_aload_n (pc := 28) (x := 0) dX11_ends_28 rfl ?_
        refine g_iload (pc := 29) (x := a4) dX11_ends_29 rfl ?_
        refine g_callV (pc := 31) (as := [.int a4]) dX11_ends_31 cw_X11_309 (by decide) rfl rfl sh_0 (Nat.le_of_ble_eq_true rfl) (rv_X11_isKnown mm a4 h.1) ?_
        have h := h.2
        rintro r_ m_ hz_ ⟨⟨p_, rfl⟩ | ⟨p_, rfl⟩, rfl⟩
        · have h := h.1 p_
          refine g_if_ne (pc := 34) (tgt := 39) dX11_ends_34 (by decide) (fun _ => ?_) (fun c34 => absurd c34 (by decide))
          refine g_aload_n (pc := 39) (x := 0) dX11_ends_39 rfl ?_
          refine g_getVt (pc := 40) (t := (mm.2.2 0 10)) dX11_ends_40 fo_X11_74 sh_0 rfl rfl ?_
          have hr0 := h.1
          have h := h.2
          refine g_getR (pc := 43) (dd := 7) dX11_ends_43 fo_X11_297 (AtState_0 hr0) rfl ?_
          refine g_iload_n (pc := 46) (x := a1) dX11_ends_46 rfl ?_
          refine g_iload_n (pc := 47) (x := a2) dX11_ends_47 rfl ?_
          refine g_iload_n (pc := 48) (x := a3) dX11_ends_48 rfl ?_
          refine g_iload (pc := 49) (x := a4) dX11_ends_49 rfl ?_
          obtain ⟨Pm2, hRm2, h⟩ := h
          refine g_callV (pc := 51) (as := [.int a1, .int a2, .int a3, .int a4]) dX11_ends_51 cw_X11_321 (by decide) rfl rfl (AtLogs_0 (AtState.logs hr0)) (Nat.le_of_ble_eq_true rfl) hRm2 ?_
          intro r_ m2 hz_ hp_
          obtain ⟨r2, rfl⟩ := hz_
          have h := h r2 m2 hp_
          exact g_iret (pc := 54) dX11_ends_54 rfl rfl rfl h
        · have h := h.2 p_
          refine g_if_ne (pc := 34) (tgt := 39) dX11_ends_34 (by decide) (fun c34 => absurd c34 (by decide)) (fun _ => ?_)
          refine g_iconst (pc := 37) (v := (-1 : Int32)) dX11_ends_37 (by decide) ?_
          exact g_iret (pc := 38) dX11_ends_38 rfl rfl rfl h
      · have h := h.2 p_
        refine g_if_eq (pc := 25) (tgt := 37) dX11_ends_25 (by decide) (fun _ => ?_) (fun c25 => absurd c25 (by decide))
        refine g_iconst (pc := 37) (v := (-1 : Int32)) dX11_ends_37 (by decide) ?_
        exact g_iret (pc := 38) dX11_ends_38 rfl rfl rfl h
    · have h := h.2 p_
      refine g_if_eq (pc := 15) (tgt := 37) dX11_ends_15 (by decide) (fun _ => ?_) (fun c15 => absurd c15 (by decide))
      refine g_iconst (pc := 37) (v := (-1 : Int32)) dX11_ends_37 (by decide) ?_
      exact g_iret (pc := 38) dX11_ends_38 rfl rfl rfl h
  · have h := h.2 p_
    refine g_if_eq (pc := 5) (tgt := 37) dX11_ends_5 (by decide) (fun _ => ?_) (fun c5 => absurd c5 (by decide))
    refine g_iconst (pc := 37) (v := (-1 : Int32)) dX11_ends_37 (by decide) ?_
    exact g_iret (pc := 38) dX11_ends_38 rfl rfl rfl h
theorem dX11_years_0 : decode cX11_years 0 = .ok (.iload_n 2, 1) := by decide +kernel
theorem dX11_years_1 : decode cX11_years 1 = .ok (.iconst 1, 1) := by decide +kernel
theorem dX11_years_2 : decode cX11_years 2 = .ok (.bipush 40, 2) := by decide +kernel
theorem dX11_years_4 : decode cX11_years 4 = .ok (.invokestatic 144, 3) := by decide +kernel
theorem dX11_years_7 : decode cX11_years 7 = .ok (.ifCond .ne 5, 3) := by decide +kernel
theorem dX11_years_10 : decode cX11_years 10 = .ok (.iconst (-1), 1) := by decide +kernel
theorem dX11_years_11 : decode cX11_years 11 = .ok (.ireturn, 1) := by decide +kernel
theorem dX11_years_12 : decode cX11_years 12 = .ok (.aload_n 0, 1) := by decide +kernel
theorem dX11_years_13 : decode cX11_years 13 = .ok (.getfield 31, 3) := by decide +kernel
theorem dX11_years_16 : decode cX11_years 16 = .ok (.invokevirtual 102, 3) := by decide +kernel
theorem dX11_years_19 : decode cX11_years 19 = .ok (.aload_n 0, 1) := by decide +kernel
theorem dX11_years_20 : decode cX11_years 20 = .ok (.getfield 69, 3) := by decide +kernel
theorem dX11_years_23 : decode cX11_years 23 = .ok (.getfield 178, 3) := by decide +kernel
theorem dX11_years_26 : decode cX11_years 26 = .ok (.ifCond .eq 13, 3) := by decide +kernel
theorem dX11_years_29 : decode cX11_years 29 = .ok (.aload_n 0, 1) := by decide +kernel
theorem dX11_years_30 : decode cX11_years 30 = .ok (.getfield 69, 3) := by decide +kernel
theorem dX11_years_33 : decode cX11_years 33 = .ok (.getfield 324, 3) := by decide +kernel
theorem dX11_years_36 : decode cX11_years 36 = .ok (.ifCond .ne 5, 3) := by decide +kernel
theorem dX11_years_39 : decode cX11_years 39 = .ok (.iconst 0, 1) := by decide +kernel
theorem dX11_years_40 : decode cX11_years 40 = .ok (.ireturn, 1) := by decide +kernel
theorem dX11_years_41 : decode cX11_years 41 = .ok (.iconst 0, 1) := by decide +kernel
theorem dX11_years_42 : decode cX11_years 42 = .ok (.istore_n 3, 1) := by decide +kernel
theorem dX11_years_43 : decode cX11_years 43 = .ok (.iconst 0, 1) := by decide +kernel
theorem dX11_years_44 : decode cX11_years 44 = .ok (.istore 4, 2) := by decide +kernel
theorem dX11_years_46 : decode cX11_years 46 = .ok (.iload 4, 2) := by decide +kernel
theorem dX11_years_48 : decode cX11_years 48 = .ok (.iload_n 2, 1) := by decide +kernel
theorem dX11_years_49 : decode cX11_years 49 = .ok (.if_icmp .ge 26, 3) := by decide +kernel
theorem dX11_years_52 : decode cX11_years 52 = .ok (.aload_n 0, 1) := by decide +kernel
theorem dX11_years_53 : decode cX11_years 53 = .ok (.iload_n 1, 1) := by decide +kernel
theorem dX11_years_54 : decode cX11_years 54 = .ok (.bipush 10, 2) := by decide +kernel
theorem dX11_years_56 : decode cX11_years 56 = .ok (.iload 4, 2) := by decide +kernel
theorem dX11_years_58 : decode cX11_years 58 = .ok (.imul, 1) := by decide +kernel
theorem dX11_years_59 : decode cX11_years 59 = .ok (.invokevirtual 327, 3) := by decide +kernel
theorem dX11_years_62 : decode cX11_years 62 = .ok (.iload_n 3, 1) := by decide +kernel
theorem dX11_years_63 : decode cX11_years 63 = .ok (.aload_n 0, 1) := by decide +kernel
theorem dX11_years_64 : decode cX11_years 64 = .ok (.invokevirtual 330, 3) := by decide +kernel
theorem dX11_years_67 : decode cX11_years 67 = .ok (.iadd, 1) := by decide +kernel
theorem dX11_years_68 : decode cX11_years 68 = .ok (.istore_n 3, 1) := by decide +kernel
theorem dX11_years_69 : decode cX11_years 69 = .ok (.iinc 4 1, 3) := by decide +kernel
theorem dX11_years_72 : decode cX11_years 72 = .ok (.goto (-26), 3) := by decide +kernel
theorem dX11_years_75 : decode cX11_years 75 = .ok (.iload_n 3, 1) := by decide +kernel
theorem dX11_years_76 : decode cX11_years 76 = .ok (.ireturn, 1) := by decide +kernel
theorem b_X11_years (mm : MM) (Q : Value → MM → Prop) (a1 : Int32) (a2 : Int32) (h : (p_X11_within mm a2 (1 : Int32) (40 : Int32) → (∃ Pm1 : Value → MM → Prop, Runs e_X9_dropLots [.ref 41] mm Pm1 ∧ ∀ m1, Pm1 .null m1 → (AtTown (m1.2.2 0 9) ∧ (((m1.1 (m1.2.2 0 9) 8) = 0 → (Q (.int (0 : Int32)) m1)) ∧ (¬ (m1.1 (m1.2.2 0 9) 8) = 0 → (AtTown (m1.2.2 0 9) ∧ ((¬ (m1.1 (m1.2.2 0 9) 9) = 0 → (G e_X11_years 46 [(0, .ref 0), (1, .int a1), (2, .int a2), (3, .int (0 : Int32)), (4, .int (0 : Int32))] [] m1 Q)) ∧ ((m1.1 (m1.2.2 0 9) 9) = 0 → (Q (.int (0 : Int32)) m1))))))))) ∧ (¬ p_X11_within mm a2 (1 : Int32) (40 : Int32) → (Q (.int (-1 : Int32)) mm))) : Runs e_X11_years [.ref 0, .int a1, .int a2] mm Q := by
  refine runs_of_G (L := [(0, .ref 0), (1, .int a1), (2, .int a2)]) pl_X11 (Nat.le_of_ble_eq_true rfl) rfl ?_
  refine g_iload_n (pc := 0) (x := a2) dX11_years_0 rfl ?_
  refine g_iconst (pc := 1) (v := (1 : Int32)) dX11_years_1 (by decide) ?_
  refine g_bipush (pc := 2) (v := (40 : Int32)) dX11_years_2 (by decide) ?_
  refine g_callS (pc := 4) (as := [.int a2, .int (1 : Int32), .int (40 : Int32)]) dX11_years_4 cw_X11_144 (by decide) rfl rfl (Nat.le_of_ble_eq_true rfl) (rv_X11_within mm a2 (1 : Int32) (40 : Int32)) ?_
  rintro r_ m_ hz_ ⟨⟨p_, rfl⟩ | ⟨p_, rfl⟩, rfl⟩
  · have h := h.1 p_
    refine g_if_ne (pc := 7) (tgt := 12) dX11_years_7 (by decide) (fun _ => ?_) (fun c7 => absurd c7 (by decide))
    refine g_aload_n (pc := 12) (x := 0) dX11_years_12 rfl ?_
    refine g_getR (pc := 13) (dd := 41) dX11_years_13 fo_X11_31 sh_0 rfl ?_
    obtain ⟨Pm1, hRm1, h⟩ := h
    refine g_callV (pc := 16) (as := []) dX11_years_16 cw_X11_102 (by decide) rfl rfl sh_41 (Nat.le_of_ble_eq_true rfl) hRm1 ?_
    intro r_ m1 hz_ hp_
    obtain rfl := hz_
    have h := h m1 hp_
    refine g_aload_n (pc := 19) (x := 0) dX11_years_19 rfl ?_
    refine g_getVt (pc := 20) (t := (m1.2.2 0 9)) dX11_years_20 fo_X11_69 sh_0 rfl rfl ?_
    have hr1 := h.1
    have h := h.2
    refine g_getI (pc := 23) dX11_years_23 fo_X11_178 (AtTown_0 hr1) rfl ?_
    refine g_if_eq (pc := 26) (tgt := 39) dX11_years_26 (by decide) (fun c26 => ?_) (fun c26 => ?_)
    · have h := h.1 c26
      refine g_iconst (pc := 39) (v := (0 : Int32)) dX11_years_39 (by decide) ?_
      exact g_iret (pc := 40) dX11_years_40 rfl rfl rfl h
    · have h := h.2 c26
      refine g_aload_n (pc := 29) (x := 0) dX11_years_29 rfl ?_
      refine g_getVt (pc := 30) (t := (m1.2.2 0 9)) dX11_years_30 fo_X11_69 sh_0 rfl rfl ?_
      have hr2 := h.1
      have h := h.2
      refine g_getI (pc := 33) dX11_years_33 fo_X11_324 (AtTown_0 hr2) rfl ?_
      refine g_if_ne (pc := 36) (tgt := 41) dX11_years_36 (by decide) (fun c36 => ?_) (fun c36 => ?_)
      · have h := h.1 c36
        refine g_iconst (pc := 41) (v := (0 : Int32)) dX11_years_41 (by decide) ?_
        refine g_istore_n (pc := 42) (L' := [(0, .ref 0), (1, .int a1), (2, .int a2), (3, .int (0 : Int32))]) dX11_years_42 (Nat.le_of_ble_eq_true rfl) rfl ?_
        refine g_iconst (pc := 43) (v := (0 : Int32)) dX11_years_43 (by decide) ?_
        refine g_istore (pc := 44) (L' := [(0, .ref 0), (1, .int a1), (2, .int a2), (3, .int (0 : Int32)), (4, .int (0 : Int32))]) dX11_years_44 (Nat.le_of_ble_eq_true rfl) rfl ?_
        exact h
      · have h := h.2 c36
        refine g_iconst (pc := 39) (v := (0 : Int32)) dX11_years_39 (by decide) ?_
        exact g_iret (pc := 40) dX11_years_40 rfl rfl rfl h
  · have h := h.2 p_
    refine g_if_ne (pc := 7) (tgt := 12) dX11_years_7 (by decide) (fun c7 => absurd c7 (by decide)) (fun _ => ?_)
    refine g_iconst (pc := 10) (v := (-1 : Int32)) dX11_years_10 (by decide) ?_
    exact g_iret (pc := 11) dX11_years_11 rfl rfl rfl h
theorem b_X11_years_46 (mm : MM) (Q : Value → MM → Prop) (l1 : Int32) (l2 : Int32) (l3 : Int32) (l4 : Int32) (h : (l2 ≤ l4 → (Q (.int l3) mm)) ∧ (¬ l2 ≤ l4 → (∃ Pm1 : Value → MM → Prop, Runs e_X11_castLots [.ref 0, .int l1, .int ((10 : Int32) * l4)] mm Pm1 ∧ ∀ m1, Pm1 .null m1 → (∃ Pm2 : Value → MM → Prop, Runs e_X11_straighten [.ref 0] m1 Pm2 ∧ ∀ (r2 : Int32) (m2 : MM), Pm2 (.int r2) m2 → (G e_X11_years 46 [(0, .ref 0), (1, .int l1), (2, .int l2), (3, .int (l3 + r2)), (4, .int (l4 + (1 : Int32)))] [] m2 Q))))) : G e_X11_years 46 [(0, .ref 0), (1, .int l1), (2, .int l2), (3, .int l3), (4, .int l4)] [] mm Q := by
  refine g_iload (pc := 46) (x := l4) dX11_years_46 rfl ?_
  refine g_iload_n (pc := 48) (x := l2) dX11_years_48 rfl ?_
  refine g_icmp_ge (pc := 49) (tgt := 75) dX11_years_49 (by decide) (fun c49 => ?_) (fun c49 => ?_)
  · have h := h.1 c49
    refine g_iload_n (pc := 75) (x := l3) dX11_years_75 rfl ?_
    exact g_iret (pc := 76) dX11_years_76 rfl rfl rfl h
  · have h := h.2 c49
    refine g_aload_n (pc := 52) (x := 0) dX11_years_52 rfl ?_
    refine g_iload_n (pc := 53) (x := l1) dX11_years_53 rfl ?_
    refine g_bipush (pc := 54) (v := (10 : Int32)) dX11_years_54 (by decide) ?_
    refine g_iload (pc := 56) (x := l4) dX11_years_56 rfl ?_
    refine g_imul (pc := 58) dX11_years_58 ?_
    obtain ⟨Pm1, hRm1, h⟩ := h
    refine g_callV (pc := 59) (as := [.int l1, .int ((10 : Int32) * l4)]) dX11_years_59 cw_X11_327 (by decide) rfl rfl sh_0 (Nat.le_of_ble_eq_true rfl) hRm1 ?_
    intro r_ m1 hz_ hp_
    obtain rfl := hz_
    have h := h m1 hp_
    refine g_iload_n (pc := 62) (x := l3) dX11_years_62 rfl ?_
    refine g_aload_n (pc := 63) (x := 0) dX11_years_63 rfl ?_
    obtain ⟨Pm2, hRm2, h⟩ := h
    refine g_callV (pc := 64) (as := []) dX11_years_64 cw_X11_330 (by decide) rfl rfl sh_0 (Nat.le_of_ble_eq_true rfl) hRm2 ?_
    intro r_ m2 hz_ hp_
    obtain ⟨r2, rfl⟩ := hz_
    have h := h r2 m2 hp_
    refine g_iadd (pc := 67) dX11_years_67 ?_
    refine g_istore_n (pc := 68) (L' := [(0, .ref 0), (1, .int l1), (2, .int l2), (3, .int (l3 + r2)), (4, .int l4)]) dX11_years_68 (Nat.le_of_ble_eq_true rfl) rfl ?_
    refine g_iinc (pc := 69) (x := l4) (v := (l4 + (1 : Int32))) (L' := [(0, .ref 0), (1, .int l1), (2, .int l2), (3, .int (l3 + r2)), (4, .int (l4 + (1 : Int32)))]) dX11_years_69 rfl rfl (Nat.le_of_ble_eq_true rfl) rfl ?_
    refine g_goto (pc := 72) (tgt := 46) dX11_years_72 (by decide) ?_
    exact h
theorem dX11_stir_0 : decode cX11_stir 0 = .ok (.iload_n 0, 1) := by decide +kernel
theorem dX11_stir_1 : decode cX11_stir 1 = .ok (.iload_n 1, 1) := by decide +kernel
theorem dX11_stir_2 : decode cX11_stir 2 = .ok (.ixor, 1) := by decide +kernel
theorem dX11_stir_3 : decode cX11_stir 3 = .ok (.ldc_w 348, 3) := by decide +kernel
theorem dX11_stir_6 : decode cX11_stir 6 = .ok (.imul, 1) := by decide +kernel
theorem dX11_stir_7 : decode cX11_stir 7 = .ok (.sipush 12345, 3) := by decide +kernel
theorem dX11_stir_10 : decode cX11_stir 10 = .ok (.iadd, 1) := by decide +kernel
theorem dX11_stir_11 : decode cX11_stir 11 = .ok (.istore_n 2, 1) := by decide +kernel
theorem dX11_stir_12 : decode cX11_stir 12 = .ok (.iload_n 2, 1) := by decide +kernel
theorem dX11_stir_13 : decode cX11_stir 13 = .ok (.iload_n 2, 1) := by decide +kernel
theorem dX11_stir_14 : decode cX11_stir 14 = .ok (.bipush 15, 2) := by decide +kernel
theorem dX11_stir_16 : decode cX11_stir 16 = .ok (.iushr, 1) := by decide +kernel
theorem dX11_stir_17 : decode cX11_stir 17 = .ok (.ixor, 1) := by decide +kernel
theorem dX11_stir_18 : decode cX11_stir 18 = .ok (.ireturn, 1) := by decide +kernel
noncomputable def v_X11_stir (mm : MM) (a0 : Int32) (a1 : Int32) : Int32 := ((((a0 ^^^ a1) * (1103515245 : Int32)) + (12345 : Int32)) ^^^ (ushr (((a0 ^^^ a1) * (1103515245 : Int32)) + (12345 : Int32)) (15 : Int32)))
theorem rv_X11_stir (mm : MM) (a0 : Int32) (a1 : Int32) : Runs e_X11_stir [.int a0, .int a1] mm (fun r m_ => r = .int (v_X11_stir mm a0 a1) ∧ mm = m_) := by
  refine runs_of_G (L := [(0, .int a0), (1, .int a1)]) pl_X11 (Nat.le_of_ble_eq_true rfl) rfl ?_
  refine g_iload_n (pc := 0) (x := a0) dX11_stir_0 rfl ?_
  refine g_iload_n (pc := 1) (x := a1) dX11_stir_1 rfl ?_
  refine g_ixor (pc := 2) dX11_stir_2 ?_
  refine g_ldcw (pc := 3) (v := (1103515245 : Int32)) dX11_stir_3 ct_X11_348 ?_
  refine g_imul (pc := 6) dX11_stir_6 ?_
  refine g_sipush (pc := 7) (v := (12345 : Int32)) dX11_stir_7 (by decide) ?_
  refine g_iadd (pc := 10) dX11_stir_10 ?_
  refine g_istore_n (pc := 11) (L' := [(0, .int a0), (1, .int a1), (2, .int (((a0 ^^^ a1) * (1103515245 : Int32)) + (12345 : Int32)))]) dX11_stir_11 (Nat.le_of_ble_eq_true rfl) rfl ?_
  refine g_iload_n (pc := 12) (x := (((a0 ^^^ a1) * (1103515245 : Int32)) + (12345 : Int32))) dX11_stir_12 rfl ?_
  refine g_iload_n (pc := 13) (x := (((a0 ^^^ a1) * (1103515245 : Int32)) + (12345 : Int32))) dX11_stir_13 rfl ?_
  refine g_bipush (pc := 14) (v := (15 : Int32)) dX11_stir_14 (by decide) ?_
  refine g_iushr (pc := 16) dX11_stir_16 ?_
  refine g_ixor (pc := 17) dX11_stir_17 ?_
  exact g_iret (pc := 18) dX11_stir_18 rfl rfl rfl ⟨rfl, rfl⟩
theorem dX11_lot_0 : decode cX11_lot 0 = .ok (.iload_n 0, 1) := by decide +kernel
theorem dX11_lot_1 : decode cX11_lot 1 = .ok (.bipush 18, 2) := by decide +kernel
theorem dX11_lot_3 : decode cX11_lot 3 = .ok (.invokestatic 345, 3) := by decide +kernel
theorem dX11_lot_6 : decode cX11_lot 6 = .ok (.iload_n 1, 1) := by decide +kernel
theorem dX11_lot_7 : decode cX11_lot 7 = .ok (.invokestatic 345, 3) := by decide +kernel
theorem dX11_lot_10 : decode cX11_lot 10 = .ok (.istore_n 3, 1) := by decide +kernel
theorem dX11_lot_11 : decode cX11_lot 11 = .ok (.iload_n 2, 1) := by decide +kernel
theorem dX11_lot_12 : decode cX11_lot 12 = .ok (.ifCond .gt 7, 3) := by decide +kernel
theorem dX11_lot_15 : decode cX11_lot 15 = .ok (.iconst 0, 1) := by decide +kernel
theorem dX11_lot_16 : decode cX11_lot 16 = .ok (.goto 8, 3) := by decide +kernel
theorem dX11_lot_19 : decode cX11_lot 19 = .ok (.iload_n 3, 1) := by decide +kernel
theorem dX11_lot_20 : decode cX11_lot 20 = .ok (.iconst 1, 1) := by decide +kernel
theorem dX11_lot_21 : decode cX11_lot 21 = .ok (.iushr, 1) := by decide +kernel
theorem dX11_lot_22 : decode cX11_lot 22 = .ok (.iload_n 2, 1) := by decide +kernel
theorem dX11_lot_23 : decode cX11_lot 23 = .ok (.irem, 1) := by decide +kernel
theorem dX11_lot_24 : decode cX11_lot 24 = .ok (.ireturn, 1) := by decide +kernel
def o_X11_lot (mm : MM) (a0 : Int32) (a1 : Int32) (a2 : Int32) : Prop := (0 < a2 → (¬ a2 = 0 ∧ (True))) ∧ (¬ 0 < a2 → (True))
noncomputable def v_X11_lot (mm : MM) (a0 : Int32) (a1 : Int32) (a2 : Int32) : Int32 := (cite (0 < a2) ((ushr (v_X11_stir mm (v_X11_stir mm a0 (18 : Int32)) a1) (1 : Int32)) - (ushr (v_X11_stir mm (v_X11_stir mm a0 (18 : Int32)) a1) (1 : Int32)) / a2 * a2) (0 : Int32))
theorem rv_X11_lot (mm : MM) (a0 : Int32) (a1 : Int32) (a2 : Int32) (h : o_X11_lot mm a0 a1 a2) : Runs e_X11_lot [.int a0, .int a1, .int a2] mm (fun r m_ => r = .int (v_X11_lot mm a0 a1 a2) ∧ mm = m_) := by
  refine runs_of_G (L := [(0, .int a0), (1, .int a1), (2, .int a2)]) pl_X11 (Nat.le_of_ble_eq_true rfl) rfl ?_
  unfold o_X11_lot at h
  refine g_iload_n (pc := 0) (x := a0) dX11_lot_0 rfl ?_
  refine g_bipush (pc := 1) (v := (18 : Int32)) dX11_lot_1 (by decide) ?_
  refine g_callS (pc := 3) (as := [.int a0, .int (18 : Int32)]) dX11_lot_3 cw_X11_345 (by decide) rfl rfl (Nat.le_of_ble_eq_true rfl) (rv_X11_stir mm a0 (18 : Int32)) ?_
  rintro r_ m_ hz_ ⟨rfl, rfl⟩
  refine g_iload_n (pc := 6) (x := a1) dX11_lot_6 rfl ?_
  refine g_callS (pc := 7) (as := [.int (v_X11_stir mm a0 (18 : Int32)), .int a1]) dX11_lot_7 cw_X11_345 (by decide) rfl rfl (Nat.le_of_ble_eq_true rfl) (rv_X11_stir mm (v_X11_stir mm a0 (18 : Int32)) a1) ?_
  rintro r_ m_ hz_ ⟨rfl, rfl⟩
  refine g_istore_n (pc := 10) (L' := [(0, .int a0), (1, .int a1), (2, .int a2), (3, .int (v_X11_stir mm (v_X11_stir mm a0 (18 : Int32)) a1))]) dX11_lot_10 (Nat.le_of_ble_eq_true rfl) rfl ?_
  refine g_iload_n (pc := 11) (x := a2) dX11_lot_11 rfl ?_
  refine g_if_gt (pc := 12) (tgt := 19) dX11_lot_12 (by decide) (fun c12 => ?_) (fun c12 => ?_)
  · have c12_0 : 0 < a2 := c12
    have h := h.1 c12
    refine g_iload_n (pc := 19) (x := (v_X11_stir mm (v_X11_stir mm a0 (18 : Int32)) a1)) dX11_lot_19 rfl ?_
    refine g_iconst (pc := 20) (v := (1 : Int32)) dX11_lot_20 (by decide) ?_
    refine g_iushr (pc := 21) dX11_lot_21 ?_
    refine g_iload_n (pc := 22) (x := a2) dX11_lot_22 rfl ?_
    refine g_irem (pc := 23) dX11_lot_23 h.1 ?_
    have h := h.2
    exact g_iret (pc := 24) dX11_lot_24 rfl rfl rfl ⟨(by unfold v_X11_lot; rw [cite_pos c12_0] <;> rfl), rfl⟩
  · have c12_0 : ¬ 0 < a2 := c12
    have h := h.2 c12
    refine g_iconst (pc := 15) (v := (0 : Int32)) dX11_lot_15 (by decide) ?_
    refine g_goto (pc := 16) (tgt := 24) dX11_lot_16 (by decide) ?_
    exact g_iret (pc := 24) dX11_lot_24 rfl rfl rfl ⟨(by unfold v_X11_lot; rw [cite_neg c12_0] <;> rfl), rfl⟩
theorem dX11_castLots_0 : decode cX11_castLots 0 = .ok (.aload_n 0, 1) := by decide +kernel
theorem dX11_castLots_1 : decode cX11_castLots 1 = .ok (.getfield 74, 3) := by decide +kernel
theorem dX11_castLots_4 : decode cX11_castLots 4 = .ok (.iload_n 1, 1) := by decide +kernel
theorem dX11_castLots_5 : decode cX11_castLots 5 = .ok (.iload_n 2, 1) := by decide +kernel
theorem dX11_castLots_6 : decode cX11_castLots 6 = .ok (.aload_n 0, 1) := by decide +kernel
theorem dX11_castLots_7 : decode cX11_castLots 7 = .ok (.getfield 69, 3) := by decide +kernel
theorem dX11_castLots_10 : decode cX11_castLots 10 = .ok (.getfield 178, 3) := by decide +kernel
theorem dX11_castLots_13 : decode cX11_castLots 13 = .ok (.invokestatic 333, 3) := by decide +kernel
theorem dX11_castLots_16 : decode cX11_castLots 16 = .ok (.iconst (-1), 1) := by decide +kernel
theorem dX11_castLots_17 : decode cX11_castLots 17 = .ok (.invokevirtual 136, 3) := by decide +kernel
theorem dX11_castLots_20 : decode cX11_castLots 20 = .ok (.iload_n 1, 1) := by decide +kernel
theorem dX11_castLots_21 : decode cX11_castLots 21 = .ok (.iload_n 2, 1) := by decide +kernel
theorem dX11_castLots_22 : decode cX11_castLots 22 = .ok (.iconst 1, 1) := by decide +kernel
theorem dX11_castLots_23 : decode cX11_castLots 23 = .ok (.iadd, 1) := by decide +kernel
theorem dX11_castLots_24 : decode cX11_castLots 24 = .ok (.aload_n 0, 1) := by decide +kernel
theorem dX11_castLots_25 : decode cX11_castLots 25 = .ok (.getfield 69, 3) := by decide +kernel
theorem dX11_castLots_28 : decode cX11_castLots 28 = .ok (.getfield 324, 3) := by decide +kernel
theorem dX11_castLots_31 : decode cX11_castLots 31 = .ok (.invokestatic 333, 3) := by decide +kernel
theorem dX11_castLots_34 : decode cX11_castLots 34 = .ok (.istore_n 3, 1) := by decide +kernel
theorem dX11_castLots_35 : decode cX11_castLots 35 = .ok (.iload_n 1, 1) := by decide +kernel
theorem dX11_castLots_36 : decode cX11_castLots 36 = .ok (.iload_n 2, 1) := by decide +kernel
theorem dX11_castLots_37 : decode cX11_castLots 37 = .ok (.iconst 2, 1) := by decide +kernel
theorem dX11_castLots_38 : decode cX11_castLots 38 = .ok (.iadd, 1) := by decide +kernel
theorem dX11_castLots_39 : decode cX11_castLots 39 = .ok (.aload_n 0, 1) := by decide +kernel
theorem dX11_castLots_40 : decode cX11_castLots 40 = .ok (.getfield 69, 3) := by decide +kernel
theorem dX11_castLots_43 : decode cX11_castLots 43 = .ok (.getfield 178, 3) := by decide +kernel
theorem dX11_castLots_46 : decode cX11_castLots 46 = .ok (.invokestatic 333, 3) := by decide +kernel
theorem dX11_castLots_49 : decode cX11_castLots 49 = .ok (.istore 4, 2) := by decide +kernel
theorem dX11_castLots_51 : decode cX11_castLots 51 = .ok (.aload_n 0, 1) := by decide +kernel
theorem dX11_castLots_52 : decode cX11_castLots 52 = .ok (.getfield 74, 3) := by decide +kernel
theorem dX11_castLots_55 : decode cX11_castLots 55 = .ok (.iload_n 3, 1) := by decide +kernel
theorem dX11_castLots_56 : decode cX11_castLots 56 = .ok (.invokevirtual 140, 3) := by decide +kernel
theorem dX11_castLots_59 : decode cX11_castLots 59 = .ok (.bipush (-2), 2) := by decide +kernel
theorem dX11_castLots_61 : decode cX11_castLots 61 = .ok (.if_icmp .ne 13, 3) := by decide +kernel
theorem dX11_castLots_64 : decode cX11_castLots 64 = .ok (.aload_n 0, 1) := by decide +kernel
theorem dX11_castLots_65 : decode cX11_castLots 65 = .ok (.getfield 74, 3) := by decide +kernel
theorem dX11_castLots_68 : decode cX11_castLots 68 = .ok (.iload 4, 2) := by decide +kernel
theorem dX11_castLots_70 : decode cX11_castLots 70 = .ok (.iload_n 3, 1) := by decide +kernel
theorem dX11_castLots_71 : decode cX11_castLots 71 = .ok (.invokevirtual 136, 3) := by decide +kernel
theorem dX11_castLots_74 : decode cX11_castLots 74 = .ok (.return_, 1) := by decide +kernel
theorem b_X11_castLots (mm : MM) (Q : Value → MM → Prop) (a1 : Int32) (a2 : Int32) (h : AtState (mm.2.2 0 10) ∧ (AtTown (mm.2.2 0 9) ∧ (o_X11_lot mm a1 a2 (mm.1 (mm.2.2 0 9) 8) ∧ (∃ Pm3 : Value → MM → Prop, Runs e_X6_settle [.ref (mm.2.2 0 10), .int (v_X11_lot mm a1 a2 (mm.1 (mm.2.2 0 9) 8)), .int (-1 : Int32)] mm Pm3 ∧ ∀ m3, Pm3 .null m3 → (AtTown (m3.2.2 0 9) ∧ (o_X11_lot m3 a1 (a2 + (1 : Int32)) (m3.1 (m3.2.2 0 9) 9) ∧ (AtTown (m3.2.2 0 9) ∧ (o_X11_lot m3 a1 (a2 + (2 : Int32)) (m3.1 (m3.2.2 0 9) 8) ∧ (AtState (m3.2.2 0 10) ∧ (∃ Pm7 : Value → MM → Prop, Runs e_X6_whoIsIn [.ref (m3.2.2 0 10), .int (v_X11_lot m3 a1 (a2 + (1 : Int32)) (m3.1 (m3.2.2 0 9) 9))] m3 Pm7 ∧ ∀ (r7 : Int32) (m7 : MM), Pm7 (.int r7) m7 → ((¬ r7 = (-2 : Int32) → (Q .null m7)) ∧ (r7 = (-2 : Int32) → (AtState (m7.2.2 0 10) ∧ (∃ Pm9 : Value → MM → Prop, Runs e_X6_settle [.ref (m7.2.2 0 10), .int (v_X11_lot m3 a1 (a2 + (2 : Int32)) (m3.1 (m3.2.2 0 9) 8)), .int (v_X11_lot m3 a1 (a2 + (1 : Int32)) (m3.1 (m3.2.2 0 9) 9))] m7 Pm9 ∧ ∀ m9, Pm9 .null m9 → (Q .null m9))))))))))))))) : Runs e_X11_castLots [.ref 0, .int a1, .int a2] mm Q := by
  refine runs_of_G (L := [(0, .ref 0), (1, .int a1), (2, .int a2)]) pl_X11 (Nat.le_of_ble_eq_true rfl) rfl ?_
  refine g_aload_n (pc := 0) (x := 0) dX11_castLots_0 rfl ?_
  refine g_getVt (pc := 1) (t := (mm.2.2 0 10)) dX11_castLots_1 fo_X11_74 sh_0 rfl rfl ?_
  have hr0 := h.1
  have h := h.2
  refine g_iload_n (pc := 4) (x := a1) dX11_castLots_4 rfl ?_
  refine g_iload_n (pc := 5) (x := a2) dX11_castLots_5 rfl ?_
  refine g_aload_n (pc := 6) (x := 0) dX11_castLots_6 rfl ?_
  refine g_getVt (pc := 7) (t := (mm.2.2 0 9)) dX11_castLots_7 fo_X11_69 sh_0 rfl rfl ?_
  have hr1 := h.1
  have h := h.2
  refine g_getI (pc := 10) dX11_castLots_10 fo_X11_178 (AtTown_0 hr1) rfl ?_
  refine g_callS (pc := 13) (as := [.int a1, .int a2, .int (mm.1 (mm.2.2 0 9) 8)]) dX11_castLots_13 cw_X11_333 (by decide) rfl rfl (Nat.le_of_ble_eq_true rfl) (rv_X11_lot mm a1 a2 (mm.1 (mm.2.2 0 9) 8) h.1) ?_
  have h := h.2
  rintro r_ m_ hz_ ⟨rfl, rfl⟩
  refine g_iconst (pc := 16) (v := (-1 : Int32)) dX11_castLots_16 (by decide) ?_
  obtain ⟨Pm3, hRm3, h⟩ := h
  refine g_callV (pc := 17) (as := [.int (v_X11_lot mm a1 a2 (mm.1 (mm.2.2 0 9) 8)), .int (-1 : Int32)]) dX11_castLots_17 cw_X11_136 (by decide) rfl rfl (AtState_0 hr0) (Nat.le_of_ble_eq_true rfl) hRm3 ?_
  intro r_ m3 hz_ hp_
  obtain rfl := hz_
  have h := h m3 hp_
  refine g_iload_n (pc := 20) (x := a1) dX11_castLots_20 rfl ?_
  refine g_iload_n (pc := 21) (x := a2) dX11_castLots_21 rfl ?_
  refine g_iconst (pc := 22) (v := (1 : Int32)) dX11_castLots_22 (by decide) ?_
  refine g_iadd (pc := 23) dX11_castLots_23 ?_
  refine g_aload_n (pc := 24) (x := 0) dX11_castLots_24 rfl ?_
  refine g_getVt (pc := 25) (t := (m3.2.2 0 9)) dX11_castLots_25 fo_X11_69 sh_0 rfl rfl ?_
  have hr3 := h.1
  have h := h.2
  refine g_getI (pc := 28) dX11_castLots_28 fo_X11_324 (AtTown_0 hr3) rfl ?_
  refine g_callS (pc := 31) (as := [.int a1, .int (a2 + (1 : Int32)), .int (m3.1 (m3.2.2 0 9) 9)]) dX11_castLots_31 cw_X11_333 (by decide) rfl rfl (Nat.le_of_ble_eq_true rfl) (rv_X11_lot m3 a1 (a2 + (1 : Int32)) (m3.1 (m3.2.2 0 9) 9) h.1) ?_
  have h := h.2
  rintro r_ m_ hz_ ⟨rfl, rfl⟩
  refine g_istore_n (pc := 34) (L' := [(0, .ref 0), (1, .int a1), (2, .int a2), (3, .int (v_X11_lot m3 a1 (a2 + (1 : Int32)) (m3.1 (m3.2.2 0 9) 9)))]) dX11_castLots_34 (Nat.le_of_ble_eq_true rfl) rfl ?_
  refine g_iload_n (pc := 35) (x := a1) dX11_castLots_35 rfl ?_
  refine g_iload_n (pc := 36) (x := a2) dX11_castLots_36 rfl ?_
  refine g_iconst (pc := 37) (v := (2 : Int32)) dX11_castLots_37 (by decide) ?_
  refine g_iadd (pc := 38) dX11_castLots_38 ?_
  refine g_aload_n (pc := 39) (x := 0) dX11_castLots_39 rfl ?_
  refine g_getVt (pc := 40) (t := (m3.2.2 0 9)) dX11_castLots_40 fo_X11_69 sh_0 rfl rfl ?_
  have hr4 := h.1
  have h := h.2
  refine g_getI (pc := 43) dX11_castLots_43 fo_X11_178 (AtTown_0 hr4) rfl ?_
  refine g_callS (pc := 46) (as := [.int a1, .int (a2 + (2 : Int32)), .int (m3.1 (m3.2.2 0 9) 8)]) dX11_castLots_46 cw_X11_333 (by decide) rfl rfl (Nat.le_of_ble_eq_true rfl) (rv_X11_lot m3 a1 (a2 + (2 : Int32)) (m3.1 (m3.2.2 0 9) 8) h.1) ?_
  have h := h.2
  rintro r_ m_ hz_ ⟨rfl, rfl⟩
  refine g_istore (pc := 49) (L' := [(0, .ref 0), (1, .int a1), (2, .int a2), (3, .int (v_X11_lot m3 a1 (a2 + (1 : Int32)) (m3.1 (m3.2.2 0 9) 9))), (4, .int (v_X11_lot m3 a1 (a2 + (2 : Int32)) (m3.1 (m3.2.2 0 9) 8)))]) dX11_castLots_49 (Nat.le_of_ble_eq_true rfl) rfl ?_
  refine g_aload_n (pc := 51) (x := 0) dX11_castLots_51 rfl ?_
  refine g_getVt (pc := 52) (t := (m3.2.2 0 10)) dX11_castLots_52 fo_X11_74 sh_0 rfl rfl ?_
  have hr5 := h.1
  have h := h.2
  refine g_iload_n (pc := 55) (x := (v_X11_lot m3 a1 (a2 + (1 : Int32)) (m3.1 (m3.2.2 0 9) 9))) dX11_castLots_55 rfl ?_
  obtain ⟨Pm7, hRm7, h⟩ := h
  refine g_callV (pc := 56) (as := [.int (v_X11_lot m3 a1 (a2 + (1 : Int32)) (m3.1 (m3.2.2 0 9) 9))]) dX11_castLots_56 cw_X11_140 (by decide) rfl rfl (AtState_0 hr5) (Nat.le_of_ble_eq_true rfl) hRm7 ?_
  intro r_ m7 hz_ hp_
  obtain ⟨r7, rfl⟩ := hz_
  have h := h r7 m7 hp_
  refine g_bipush (pc := 59) (v := (-2 : Int32)) dX11_castLots_59 (by decide) ?_
  refine g_icmp_ne (pc := 61) (tgt := 74) dX11_castLots_61 (by decide) (fun c61 => ?_) (fun c61 => ?_)
  · have h := h.1 c61
    exact g_vret (pc := 74) dX11_castLots_74 rfl rfl h
  · have h := h.2 c61
    refine g_aload_n (pc := 64) (x := 0) dX11_castLots_64 rfl ?_
    refine g_getVt (pc := 65) (t := (m7.2.2 0 10)) dX11_castLots_65 fo_X11_74 sh_0 rfl rfl ?_
    have hr7 := h.1
    have h := h.2
    refine g_iload (pc := 68) (x := (v_X11_lot m3 a1 (a2 + (2 : Int32)) (m3.1 (m3.2.2 0 9) 8))) dX11_castLots_68 rfl ?_
    refine g_iload_n (pc := 70) (x := (v_X11_lot m3 a1 (a2 + (1 : Int32)) (m3.1 (m3.2.2 0 9) 9))) dX11_castLots_70 rfl ?_
    obtain ⟨Pm9, hRm9, h⟩ := h
    refine g_callV (pc := 71) (as := [.int (v_X11_lot m3 a1 (a2 + (2 : Int32)) (m3.1 (m3.2.2 0 9) 8)), .int (v_X11_lot m3 a1 (a2 + (1 : Int32)) (m3.1 (m3.2.2 0 9) 9))]) dX11_castLots_71 cw_X11_136 (by decide) rfl rfl (AtState_0 hr7) (Nat.le_of_ble_eq_true rfl) hRm9 ?_
    intro r_ m9 hz_ hp_
    obtain rfl := hz_
    have h := h m9 hp_
    exact g_vret (pc := 74) dX11_castLots_74 rfl rfl h
theorem dX11_straighten_0 : decode cX11_straighten 0 = .ok (.iconst 0, 1) := by decide +kernel
theorem dX11_straighten_1 : decode cX11_straighten 1 = .ok (.istore_n 1, 1) := by decide +kernel
theorem dX11_straighten_2 : decode cX11_straighten 2 = .ok (.iconst 0, 1) := by decide +kernel
theorem dX11_straighten_3 : decode cX11_straighten 3 = .ok (.istore_n 2, 1) := by decide +kernel
theorem dX11_straighten_4 : decode cX11_straighten 4 = .ok (.iconst 0, 1) := by decide +kernel
theorem dX11_straighten_5 : decode cX11_straighten 5 = .ok (.istore_n 3, 1) := by decide +kernel
theorem dX11_straighten_6 : decode cX11_straighten 6 = .ok (.iload_n 3, 1) := by decide +kernel
theorem dX11_straighten_7 : decode cX11_straighten 7 = .ok (.aload_n 0, 1) := by decide +kernel
theorem dX11_straighten_8 : decode cX11_straighten 8 = .ok (.getfield 69, 3) := by decide +kernel
theorem dX11_straighten_11 : decode cX11_straighten 11 = .ok (.getfield 178, 3) := by decide +kernel
theorem dX11_straighten_14 : decode cX11_straighten 14 = .ok (.if_icmp .ge 99, 3) := by decide +kernel
theorem dX11_straighten_17 : decode cX11_straighten 17 = .ok (.iload_n 1, 1) := by decide +kernel
theorem dX11_straighten_18 : decode cX11_straighten 18 = .ok (.aload_n 0, 1) := by decide +kernel
theorem dX11_straighten_19 : decode cX11_straighten 19 = .ok (.getfield 69, 3) := by decide +kernel
theorem dX11_straighten_22 : decode cX11_straighten 22 = .ok (.getfield 233, 3) := by decide +kernel
theorem dX11_straighten_25 : decode cX11_straighten 25 = .ok (.if_icmp .ge 88, 3) := by decide +kernel
theorem dX11_straighten_28 : decode cX11_straighten 28 = .ok (.aload_n 0, 1) := by decide +kernel
theorem dX11_straighten_29 : decode cX11_straighten 29 = .ok (.getfield 69, 3) := by decide +kernel
theorem dX11_straighten_32 : decode cX11_straighten 32 = .ok (.aload_n 0, 1) := by decide +kernel
theorem dX11_straighten_33 : decode cX11_straighten 33 = .ok (.getfield 74, 3) := by decide +kernel
theorem dX11_straighten_36 : decode cX11_straighten 36 = .ok (.iload_n 3, 1) := by decide +kernel
theorem dX11_straighten_37 : decode cX11_straighten 37 = .ok (.invokevirtual 130, 3) := by decide +kernel
theorem dX11_straighten_40 : decode cX11_straighten 40 = .ok (.aload_n 0, 1) := by decide +kernel
theorem dX11_straighten_41 : decode cX11_straighten 41 = .ok (.getfield 74, 3) := by decide +kernel
theorem dX11_straighten_44 : decode cX11_straighten 44 = .ok (.getfield 117, 3) := by decide +kernel
theorem dX11_straighten_47 : decode cX11_straighten 47 = .ok (.iload_n 3, 1) := by decide +kernel
theorem dX11_straighten_48 : decode cX11_straighten 48 = .ok (.iaload, 1) := by decide +kernel
theorem dX11_straighten_49 : decode cX11_straighten 49 = .ok (.isub, 1) := by decide +kernel
theorem dX11_straighten_50 : decode cX11_straighten 50 = .ok (.istore 4, 2) := by decide +kernel
theorem dX11_straighten_52 : decode cX11_straighten 52 = .ok (.iload 4, 2) := by decide +kernel
theorem dX11_straighten_54 : decode cX11_straighten 54 = .ok (.ifCond .eq 53, 3) := by decide +kernel
theorem dX11_straighten_57 : decode cX11_straighten 57 = .ok (.aload_n 0, 1) := by decide +kernel
theorem dX11_straighten_58 : decode cX11_straighten 58 = .ok (.getfield 69, 3) := by decide +kernel
theorem dX11_straighten_61 : decode cX11_straighten 61 = .ok (.getfield 336, 3) := by decide +kernel
theorem dX11_straighten_64 : decode cX11_straighten 64 = .ok (.ineg, 1) := by decide +kernel
theorem dX11_straighten_65 : decode cX11_straighten 65 = .ok (.aload_n 0, 1) := by decide +kernel
theorem dX11_straighten_66 : decode cX11_straighten 66 = .ok (.getfield 69, 3) := by decide +kernel
theorem dX11_straighten_69 : decode cX11_straighten 69 = .ok (.getfield 336, 3) := by decide +kernel
theorem dX11_straighten_72 : decode cX11_straighten 72 = .ok (.iload 4, 2) := by decide +kernel
theorem dX11_straighten_74 : decode cX11_straighten 74 = .ok (.invokestatic 339, 3) := by decide +kernel
theorem dX11_straighten_77 : decode cX11_straighten 77 = .ok (.invokestatic 236, 3) := by decide +kernel
theorem dX11_straighten_80 : decode cX11_straighten 80 = .ok (.istore 4, 2) := by decide +kernel
theorem dX11_straighten_82 : decode cX11_straighten 82 = .ok (.aload_n 0, 1) := by decide +kernel
theorem dX11_straighten_83 : decode cX11_straighten 83 = .ok (.getfield 74, 3) := by decide +kernel
theorem dX11_straighten_86 : decode cX11_straighten 86 = .ok (.getfield 117, 3) := by decide +kernel
theorem dX11_straighten_89 : decode cX11_straighten 89 = .ok (.iload_n 3, 1) := by decide +kernel
theorem dX11_straighten_90 : decode cX11_straighten 90 = .ok (.dup2, 1) := by decide +kernel
theorem dX11_straighten_91 : decode cX11_straighten 91 = .ok (.iaload, 1) := by decide +kernel
theorem dX11_straighten_92 : decode cX11_straighten 92 = .ok (.iload 4, 2) := by decide +kernel
theorem dX11_straighten_94 : decode cX11_straighten 94 = .ok (.iadd, 1) := by decide +kernel
theorem dX11_straighten_95 : decode cX11_straighten 95 = .ok (.iastore, 1) := by decide +kernel
theorem dX11_straighten_96 : decode cX11_straighten 96 = .ok (.iload_n 2, 1) := by decide +kernel
theorem dX11_straighten_97 : decode cX11_straighten 97 = .ok (.iload 4, 2) := by decide +kernel
theorem dX11_straighten_99 : decode cX11_straighten 99 = .ok (.invokestatic 342, 3) := by decide +kernel
theorem dX11_straighten_102 : decode cX11_straighten 102 = .ok (.iadd, 1) := by decide +kernel
theorem dX11_straighten_103 : decode cX11_straighten 103 = .ok (.istore_n 2, 1) := by decide +kernel
theorem dX11_straighten_104 : decode cX11_straighten 104 = .ok (.iinc 1 1, 3) := by decide +kernel
theorem dX11_straighten_107 : decode cX11_straighten 107 = .ok (.iinc 3 1, 3) := by decide +kernel
theorem dX11_straighten_110 : decode cX11_straighten 110 = .ok (.goto (-104), 3) := by decide +kernel
theorem dX11_straighten_113 : decode cX11_straighten 113 = .ok (.iload_n 2, 1) := by decide +kernel
theorem dX11_straighten_114 : decode cX11_straighten 114 = .ok (.ireturn, 1) := by decide +kernel
theorem b_X11_straighten (mm : MM) (Q : Value → MM → Prop) (h : G e_X11_straighten 6 [(0, .ref 0), (1, .int (0 : Int32)), (2, .int (0 : Int32)), (3, .int (0 : Int32))] [] mm Q) : Runs e_X11_straighten [.ref 0] mm Q := by
  refine runs_of_G (L := [(0, .ref 0)]) pl_X11 (Nat.le_of_ble_eq_true rfl) rfl ?_
  refine g_iconst (pc := 0) (v := (0 : Int32)) dX11_straighten_0 (by decide) ?_
  refine g_istore_n (pc := 1) (L' := [(0, .ref 0), (1, .int (0 : Int32))]) dX11_straighten_1 (Nat.le_of_ble_eq_true rfl) rfl ?_
  refine g_iconst (pc := 2) (v := (0 : Int32)) dX11_straighten_2 (by decide) ?_
  refine g_istore_n (pc := 3) (L' := [(0, .ref 0), (1, .int (0 : Int32)), (2, .int (0 : Int32))]) dX11_straighten_3 (Nat.le_of_ble_eq_true rfl) rfl ?_
  refine g_iconst (pc := 4) (v := (0 : Int32)) dX11_straighten_4 (by decide) ?_
  refine g_istore_n (pc := 5) (L' := [(0, .ref 0), (1, .int (0 : Int32)), (2, .int (0 : Int32)), (3, .int (0 : Int32))]) dX11_straighten_5 (Nat.le_of_ble_eq_true rfl) rfl ?_
  exact h

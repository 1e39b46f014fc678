theorem dX12_tellRule_0 : decode cX12_tellRule 0 = .ok (.aload_n 0, 1) := by decide +kernel
theorem dX12_tellRule_1 : decode cX12_tellRule 1 = .ok (.iload_n 1, 1) := by decide +kernel
theorem dX12_tellRule_2 : decode cX12_tellRule 2 = .ok (.iconst 4, 1) := by decide +kernel
theorem dX12_tellRule_3 : decode cX12_tellRule 3 = .ok (.iload_n 2, 1) := by decide +kernel
theorem dX12_tellRule_4 : decode cX12_tellRule 4 = .ok (.iconst 2, 1) := by decide +kernel
theorem dX12_tellRule_5 : decode cX12_tellRule 5 = .ok (.invokevirtual 295, 3) := by decide +kernel
theorem dX12_tellRule_8 : decode cX12_tellRule 8 = .ok (.istore_n 3, 1) := by decide +kernel
theorem dX12_tellRule_9 : decode cX12_tellRule 9 = .ok (.iload_n 3, 1) := by decide +kernel
theorem dX12_tellRule_10 : decode cX12_tellRule 10 = .ok (.ifCond .ge 9, 3) := by decide +kernel
theorem dX12_tellRule_13 : decode cX12_tellRule 13 = .ok (.aload_n 0, 1) := by decide +kernel
theorem dX12_tellRule_14 : decode cX12_tellRule 14 = .ok (.iconst 2, 1) := by decide +kernel
theorem dX12_tellRule_15 : decode cX12_tellRule 15 = .ok (.invokevirtual 227, 3) := by decide +kernel
theorem dX12_tellRule_18 : decode cX12_tellRule 18 = .ok (.ireturn, 1) := by decide +kernel
theorem dX12_tellRule_19 : decode cX12_tellRule 19 = .ok (.aload_n 0, 1) := by decide +kernel
theorem dX12_tellRule_20 : decode cX12_tellRule 20 = .ok (.invokevirtual 230, 3) := by decide +kernel
theorem dX12_tellRule_23 : decode cX12_tellRule 23 = .ok (.ifCond .ne 5, 3) := by decide +kernel
theorem dX12_tellRule_26 : decode cX12_tellRule 26 = .ok (.iconst 0, 1) := by decide +kernel
theorem dX12_tellRule_27 : decode cX12_tellRule 27 = .ok (.ireturn, 1) := by decide +kernel
theorem dX12_tellRule_28 : decode cX12_tellRule 28 = .ok (.aload_n 0, 1) := by decide +kernel
theorem dX12_tellRule_29 : decode cX12_tellRule 29 = .ok (.bipush 8, 2) := by decide +kernel
theorem dX12_tellRule_31 : decode cX12_tellRule 31 = .ok (.invokevirtual 271, 3) := by decide +kernel
theorem dX12_tellRule_34 : decode cX12_tellRule 34 = .ok (.ifCond .ne 9, 3) := by decide +kernel
theorem dX12_tellRule_37 : decode cX12_tellRule 37 = .ok (.aload_n 0, 1) := by decide +kernel
theorem dX12_tellRule_38 : decode cX12_tellRule 38 = .ok (.iconst 1, 1) := by decide +kernel
theorem dX12_tellRule_39 : decode cX12_tellRule 39 = .ok (.invokevirtual 227, 3) := by decide +kernel
theorem dX12_tellRule_42 : decode cX12_tellRule 42 = .ok (.ireturn, 1) := by decide +kernel
theorem dX12_tellRule_43 : decode cX12_tellRule 43 = .ok (.aload_n 0, 1) := by decide +kernel
theorem dX12_tellRule_44 : decode cX12_tellRule 44 = .ok (.invokevirtual 230, 3) := by decide +kernel
theorem dX12_tellRule_47 : decode cX12_tellRule 47 = .ok (.ifCond .eq 10, 3) := by decide +kernel
theorem dX12_tellRule_50 : decode cX12_tellRule 50 = .ok (.aload_n 0, 1) := by decide +kernel
theorem dX12_tellRule_51 : decode cX12_tellRule 51 = .ok (.invokevirtual 308, 3) := by decide +kernel
theorem dX12_tellRule_54 : decode cX12_tellRule 54 = .ok (.ifCond .ne 5, 3) := by decide +kernel
theorem dX12_tellRule_57 : decode cX12_tellRule 57 = .ok (.iconst 0, 1) := by decide +kernel
theorem dX12_tellRule_58 : decode cX12_tellRule 58 = .ok (.ireturn, 1) := by decide +kernel
theorem dX12_tellRule_59 : decode cX12_tellRule 59 = .ok (.aload_n 0, 1) := by decide +kernel
theorem dX12_tellRule_60 : decode cX12_tellRule 60 = .ok (.iload_n 3, 1) := by decide +kernel
theorem dX12_tellRule_61 : decode cX12_tellRule 61 = .ok (.aload_n 0, 1) := by decide +kernel
theorem dX12_tellRule_62 : decode cX12_tellRule 62 = .ok (.getfield 268, 3) := by decide +kernel
theorem dX12_tellRule_65 : decode cX12_tellRule 65 = .ok (.invokevirtual 292, 3) := by decide +kernel
theorem dX12_tellRule_68 : decode cX12_tellRule 68 = .ok (.aload_n 0, 1) := by decide +kernel
theorem dX12_tellRule_69 : decode cX12_tellRule 69 = .ok (.iload_n 3, 1) := by decide +kernel
theorem dX12_tellRule_70 : decode cX12_tellRule 70 = .ok (.iconst 1, 1) := by decide +kernel
theorem dX12_tellRule_71 : decode cX12_tellRule 71 = .ok (.iadd, 1) := by decide +kernel
theorem dX12_tellRule_72 : decode cX12_tellRule 72 = .ok (.aload_n 0, 1) := by decide +kernel
theorem dX12_tellRule_73 : decode cX12_tellRule 73 = .ok (.getfield 45, 3) := by decide +kernel
theorem dX12_tellRule_76 : decode cX12_tellRule 76 = .ok (.iconst 1, 1) := by decide +kernel
theorem dX12_tellRule_77 : decode cX12_tellRule 77 = .ok (.iaload, 1) := by decide +kernel
theorem dX12_tellRule_78 : decode cX12_tellRule 78 = .ok (.invokevirtual 292, 3) := by decide +kernel
theorem dX12_tellRule_81 : decode cX12_tellRule 81 = .ok (.iconst 1, 1) := by decide +kernel
theorem dX12_tellRule_82 : decode cX12_tellRule 82 = .ok (.ireturn, 1) := by decide +kernel
theorem b_X12_tellRule (mm : MM) (Q : Value → MM → Prop) (a1 : Int32) (a2 : Int32) (h : ∃ Pm1 : Value → MM → Prop, Runs e_X12_next [.ref 156, .int a1, .int (4 : Int32), .int a2, .int (2 : Int32)] mm Pm1 ∧ ∀ (r1 : Int32) (m1 : MM), Pm1 (.int r1) m1 → ((0 ≤ r1 → (∃ Pm2 : Value → MM → Prop, Runs e_X12_pass [.ref 156] m1 Pm2 ∧ (∀ r m2, Pm2 r m2 → r = .int 1 ∨ r = .int 0) ∧ (∀ m2, Pm2 (.int 1) m2 → (o_X12_isWord m2 (8 : Int32) ∧ ((p_X12_isWord m2 (8 : Int32) → (∃ Pm3 : Value → MM → Prop, Runs e_X12_pass [.ref 156] m2 Pm3 ∧ (∀ r m3, Pm3 r m3 → r = .int 1 ∨ r = .int 0) ∧ (∀ m3, Pm3 (.int 1) m3 → (∃ Pm4 : Value → MM → Prop, Runs e_X12_cond [.ref 156] m3 Pm4 ∧ (∀ r m4, Pm4 r m4 → r = .int 1 ∨ r = .int 0) ∧ (∀ m4, Pm4 (.int 1) m4 → (∃ Pm5 : Value → MM → Prop, Runs e_X12_tell [.ref 156, .int r1, .int (m4.1 156 33)] m4 Pm5 ∧ ∀ m5, Pm5 .null m5 → (∃ Pm6 : Value → MM → Prop, Runs e_X12_tell [.ref 156, .int (r1 + (1 : Int32)), .int (m5.1 167 1)] m5 Pm6 ∧ ∀ m6, Pm6 .null m6 → (Q (.int (1 : Int32)) m6)))) ∧ (∀ m4, Pm4 (.int 0) m4 → (Q (.int (0 : Int32)) m4)))) ∧ (∀ m3, Pm3 (.int 0) m3 → (Q (.int (0 : Int32)) m3)))) ∧ (¬ p_X12_isWord m2 (8 : Int32) → (∃ Pm3 : Value → MM → Prop, Runs e_X12_wrong [.ref 156, .int (1 : Int32)] m2 Pm3 ∧ (∀ r m3, Pm3 r m3 → r = .int 1 ∨ r = .int 0) ∧ (∀ m3, Pm3 (.int 1) m3 → (Q (.int (1 : Int32)) m3)) ∧ (∀ m3, Pm3 (.int 0) m3 → (Q (.int (0 : Int32)) m3))))))) ∧ (∀ m2, Pm2 (.int 0) m2 → (Q (.int (0 : Int32)) m2)))) ∧ (¬ 0 ≤ r1 → (∃ Pm2 : Value → MM → Prop, Runs e_X12_wrong [.ref 156, .int (2 : Int32)] m1 Pm2 ∧ (∀ r m2, Pm2 r m2 → r = .int 1 ∨ r = .int 0) ∧ (∀ m2, Pm2 (.int 1) m2 → (Q (.int (1 : Int32)) m2)) ∧ (∀ m2, Pm2 (.int 0) m2 → (Q (.int (0 : Int32)) m2)))))) : Runs e_X12_tellRule [.ref 156, .int a1, .int a2] mm Q := by
  refine runs_of_G (L := [(0, .ref 156), (1, .int a1), (2, .int a2)]) pl_X12 (Nat.le_of_ble_eq_true rfl) rfl ?_
  refine g_aload_n (pc := 0) (x := 156) dX12_tellRule_0 rfl ?_
  refine g_iload_n (pc := 1) (x := a1) dX12_tellRule_1 rfl ?_
  refine g_iconst (pc := 2) (v := (4 : Int32)) dX12_tellRule_2 (by decide) ?_
  refine g_iload_n (pc := 3) (x := a2) dX12_tellRule_3 rfl ?_
  refine g_iconst (pc := 4) (v := (2 : Int32)) dX12_tellRule_4 (by decide) ?_
  obtain ⟨Pm1, hRm1, h⟩ := h
  refine g_callV (pc := 5) (as := [.int a1, .int (4 : Int32), .int a2, .int (2 : Int32)]) dX12_tellRule_5 cw_X12_295 (by decide) rfl rfl sh_156 (Nat.le_of_ble_eq_true rfl) hRm1 ?_
  intro r_ m1 hz_ hp_
  obtain ⟨r1, rfl⟩ := hz_
  have h := h r1 m1 hp_
  refine g_istore_n (pc := 8) (L' := [(0, .ref 156), (1, .int a1), (2, .int a2), (3, .int r1)]) dX12_tellRule_8 (Nat.le_of_ble_eq_true rfl) rfl ?_
  refine g_iload_n (pc := 9) (x := r1) dX12_tellRule_9 rfl ?_
  refine g_if_ge (pc := 10) (tgt := 19) dX12_tellRule_10 (by decide) (fun c10 => ?_) (fun c10 => ?_)
  · have h := h.1 c10
    refine g_aload_n (pc := 19) (x := 156) dX12_tellRule_19 rfl ?_
    obtain ⟨Pm2, hRm2, h⟩ := h
    refine g_callV (pc := 20) (as := []) dX12_tellRule_20 cw_X12_230 (by decide) rfl rfl sh_156 (Nat.le_of_ble_eq_true rfl) hRm2 ?_
    intro r_ m2 hz_ hp_
    rcases h.1 r_ m2 hp_ with rfl | rfl
    · have h := h.2.1 m2 hp_
      refine g_if_ne (pc := 23) (tgt := 28) dX12_tellRule_23 (by decide) (fun _ => ?_) (fun c23 => absurd c23 (by decide))
      refine g_aload_n (pc := 28) (x := 156) dX12_tellRule_28 rfl ?_
      refine g_bipush (pc := 29) (v := (8 : Int32)) dX12_tellRule_29 (by decide) ?_
      refine g_callV (pc := 31) (as := [.int (8 : Int32)]) dX12_tellRule_31 cw_X12_271 (by decide) rfl rfl sh_156 (Nat.le_of_ble_eq_true rfl) (rv_X12_isWord m2 (8 : Int32) h.1) ?_
      have h := h.2
      rintro r_ m_ hz_ ⟨⟨p_, rfl⟩ | ⟨p_, rfl⟩, rfl⟩
      · have h := h.1 p_
        refine g_if_ne (pc := 34) (tgt := 43) dX12_tellRule_34 (by decide) (fun _ => ?_) (fun c34 => absurd c34 (by decide))
        refine g_aload_n (pc := 43) (x := 156) dX12_tellRule_43 rfl ?_
        obtain ⟨Pm3, hRm3, h⟩ := h
        refine g_callV (pc := 44) (as := []) dX12_tellRule_44 cw_X12_230 (by decide) rfl rfl sh_156 (Nat.le_of_ble_eq_true rfl) hRm3 ?_
        intro r_ m3 hz_ hp_
        rcases h.1 r_ m3 hp_ with rfl | rfl
        · have h := h.2.1 m3 hp_
          refine g_if_eq (pc := 47) (tgt := 57) dX12_tellRule_47 (by decide) (fun c47 => absurd c47 (by decide)) (fun _ => ?_)
          refine g_aload_n (pc := 50) (x := 156) dX12_tellRule_50 rfl ?_
          obtain ⟨Pm4, hRm4, h⟩ := h
          refine g_callV (pc := 51) (as := []) dX12_tellRule_51 cw_X12_308 (by decide) rfl rfl sh_156 (Nat.le_of_ble_eq_true rfl) hRm4 ?_
          intro r_ m4 hz_ hp_
          rcases h.1 r_ m4 hp_ with rfl | rfl
          · have h := h.2.1 m4 hp_
            refine g_if_ne (pc := 54) (tgt := 59) dX12_tellRule_54 (by decide) (fun _ => ?_) (fun c54 => absurd c54 (by decide))
            refine g_aload_n (pc := 59) (x := 156) dX12_tellRule_59 rfl ?_
            refine g_iload_n (pc := 60) (x := r1) dX12_tellRule_60 rfl ?_
            refine g_aload_n (pc := 61) (x := 156) dX12_tellRule_61 rfl ?_
            refine g_getI (pc := 62) dX12_tellRule_62 fo_X12_268 sh_156 rfl ?_
            obtain ⟨Pm5, hRm5, h⟩ := h
            refine g_callV (pc := 65) (as := [.int r1, .int (m4.1 156 33)]) dX12_tellRule_65 cw_X12_292 (by decide) rfl rfl sh_156 (Nat.le_of_ble_eq_true rfl) hRm5 ?_
            intro r_ m5 hz_ hp_
            obtain rfl := hz_
            have h := h m5 hp_
            refine g_aload_n (pc := 68) (x := 156) dX12_tellRule_68 rfl ?_
            refine g_iload_n (pc := 69) (x := r1) dX12_tellRule_69 rfl ?_
            refine g_iconst (pc := 70) (v := (1 : Int32)) dX12_tellRule_70 (by decide) ?_
            refine g_iadd (pc := 71) dX12_tellRule_71 ?_
            refine g_aload_n (pc := 72) (x := 156) dX12_tellRule_72 rfl ?_
            refine g_getR (pc := 73) (dd := 11) dX12_tellRule_73 fo_X12_45 sh_156 rfl ?_
            refine g_iconst (pc := 76) (v := (1 : Int32)) dX12_tellRule_76 (by decide) ?_
            refine g_iaload (pc := 77) dX12_tellRule_77 sh_167 (vp_in_nI (n := 1) (N := 2) (by decide) (by decide)) ?_
            obtain ⟨Pm6, hRm6, h⟩ := h
            refine g_callV (pc := 78) (as := [.int (r1 + (1 : Int32)), .int (m5.1 167 1)]) dX12_tellRule_78 cw_X12_292 (by decide) rfl rfl sh_156 (Nat.le_of_ble_eq_true rfl) hRm6 ?_
            intro r_ m6 hz_ hp_
            obtain rfl := hz_
            have h := h m6 hp_
            refine g_iconst (pc := 81) (v := (1 : Int32)) dX12_tellRule_81 (by decide) ?_
            exact g_iret (pc := 82) dX12_tellRule_82 rfl rfl (nar_B isB1) h
          · have h := h.2.2 m4 hp_
            refine g_if_ne (pc := 54) (tgt := 59) dX12_tellRule_54 (by decide) (fun c54 => absurd c54 (by decide)) (fun _ => ?_)
            refine g_iconst (pc := 57) (v := (0 : Int32)) dX12_tellRule_57 (by decide) ?_
            exact g_iret (pc := 58) dX12_tellRule_58 rfl rfl (nar_B isB0) h
        · have h := h.2.2 m3 hp_
          refine g_if_eq (pc := 47) (tgt := 57) dX12_tellRule_47 (by decide) (fun _ => ?_) (fun c47 => absurd c47 (by decide))
          refine g_iconst (pc := 57) (v := (0 : Int32)) dX12_tellRule_57 (by decide) ?_
          exact g_iret (pc := 58) dX12_tellRule_58 rfl rfl (nar_B isB0) h
      · have h := h.2 p_
        refine g_if_ne (pc := 34) (tgt := 43) dX12_tellRule_34 (by decide) (fun c34 => absurd c34 (by decide)) (fun _ => ?_)
        refine g_aload_n (pc := 37) (x := 156) dX12_tellRule_37 rfl ?_
        refine g_iconst (pc := 38) (v := (1 : Int32)) dX12_tellRule_38 (by decide) ?_
        obtain ⟨Pm3, hRm3, h⟩ := h
        refine g_callV (pc := 39) (as := [.int (1 : Int32)]) dX12_tellRule_39 cw_X12_227 (by decide) rfl rfl sh_156 (Nat.le_of_ble_eq_true rfl) hRm3 ?_
        intro r_ m3 hz_ hp_
        rcases h.1 r_ m3 hp_ with rfl | rfl
        · have h := h.2.1 m3 hp_
          exact g_iret (pc := 42) dX12_tellRule_42 rfl rfl (nar_B isB1) h
        · have h := h.2.2 m3 hp_
          exact g_iret (pc := 42) dX12_tellRule_42 rfl rfl (nar_B isB0) h
    · have h := h.2.2 m2 hp_
      refine g_if_ne (pc := 23) (tgt := 28) dX12_tellRule_23 (by decide) (fun c23 => absurd c23 (by decide)) (fun _ => ?_)
      refine g_iconst (pc := 26) (v := (0 : Int32)) dX12_tellRule_26 (by decide) ?_
      exact g_iret (pc := 27) dX12_tellRule_27 rfl rfl (nar_B isB0) h
  · have h := h.2 c10
    refine g_aload_n (pc := 13) (x := 156) dX12_tellRule_13 rfl ?_
    refine g_iconst (pc := 14) (v := (2 : Int32)) dX12_tellRule_14 (by decide) ?_
    obtain ⟨Pm2, hRm2, h⟩ := h
    refine g_callV (pc := 15) (as := [.int (2 : Int32)]) dX12_tellRule_15 cw_X12_227 (by decide) rfl rfl sh_156 (Nat.le_of_ble_eq_true rfl) hRm2 ?_
    intro r_ m2 hz_ hp_
    rcases h.1 r_ m2 hp_ with rfl | rfl
    · have h := h.2.1 m2 hp_
      exact g_iret (pc := 18) dX12_tellRule_18 rfl rfl (nar_B isB1) h
    · have h := h.2.2 m2 hp_
      exact g_iret (pc := 18) dX12_tellRule_18 rfl rfl (nar_B isB0) h
theorem dX12_tellOne_0 : decode cX12_tellOne 0 = .ok (.aload_n 0, 1) := by decide +kernel
theorem dX12_tellOne_1 : decode cX12_tellOne 1 = .ok (.getfield 13, 3) := by decide +kernel
theorem dX12_tellOne_4 : decode cX12_tellOne 4 = .ok (.aload_n 0, 1) := by decide +kernel
theorem dX12_tellOne_5 : decode cX12_tellOne 5 = .ok (.getfield 218, 3) := by decide +kernel
theorem dX12_tellOne_8 : decode cX12_tellOne 8 = .ok (.iaload, 1) := by decide +kernel
theorem dX12_tellOne_9 : decode cX12_tellOne 9 = .ok (.iconst 3, 1) := by decide +kernel
theorem dX12_tellOne_10 : decode cX12_tellOne 10 = .ok (.if_icmp .ne 15, 3) := by decide +kernel
theorem dX12_tellOne_13 : decode cX12_tellOne 13 = .ok (.aload_n 0, 1) := by decide +kernel
theorem dX12_tellOne_14 : decode cX12_tellOne 14 = .ok (.getfield 19, 3) := by decide +kernel
theorem dX12_tellOne_17 : decode cX12_tellOne 17 = .ok (.aload_n 0, 1) := by decide +kernel
theorem dX12_tellOne_18 : decode cX12_tellOne 18 = .ok (.getfield 218, 3) := by decide +kernel
theorem dX12_tellOne_21 : decode cX12_tellOne 21 = .ok (.iaload, 1) := by decide +kernel
theorem dX12_tellOne_22 : decode cX12_tellOne 22 = .ok (.goto 4, 3) := by decide +kernel
theorem dX12_tellOne_25 : decode cX12_tellOne 25 = .ok (.iconst (-1), 1) := by decide +kernel
theorem dX12_tellOne_26 : decode cX12_tellOne 26 = .ok (.istore_n 1, 1) := by decide +kernel
theorem dX12_tellOne_27 : decode cX12_tellOne 27 = .ok (.iload_n 1, 1) := by decide +kernel
theorem dX12_tellOne_28 : decode cX12_tellOne 28 = .ok (.ifCond .ne 8, 3) := by decide +kernel
theorem dX12_tellOne_31 : decode cX12_tellOne 31 = .ok (.aload_n 0, 1) := by decide +kernel
theorem dX12_tellOne_32 : decode cX12_tellOne 32 = .ok (.invokevirtual 311, 3) := by decide +kernel
theorem dX12_tellOne_35 : decode cX12_tellOne 35 = .ok (.ireturn, 1) := by decide +kernel
theorem dX12_tellOne_36 : decode cX12_tellOne 36 = .ok (.iload_n 1, 1) := by decide +kernel
theorem dX12_tellOne_37 : decode cX12_tellOne 37 = .ok (.iconst 1, 1) := by decide +kernel
theorem dX12_tellOne_38 : decode cX12_tellOne 38 = .ok (.if_icmp .ne 8, 3) := by decide +kernel
theorem dX12_tellOne_41 : decode cX12_tellOne 41 = .ok (.aload_n 0, 1) := by decide +kernel
theorem dX12_tellOne_42 : decode cX12_tellOne 42 = .ok (.invokevirtual 314, 3) := by decide +kernel
theorem dX12_tellOne_45 : decode cX12_tellOne 45 = .ok (.ireturn, 1) := by decide +kernel
theorem dX12_tellOne_46 : decode cX12_tellOne 46 = .ok (.iload_n 1, 1) := by decide +kernel
theorem dX12_tellOne_47 : decode cX12_tellOne 47 = .ok (.iconst 2, 1) := by decide +kernel
theorem dX12_tellOne_48 : decode cX12_tellOne 48 = .ok (.if_icmp .ne 8, 3) := by decide +kernel
theorem dX12_tellOne_51 : decode cX12_tellOne 51 = .ok (.aload_n 0, 1) := by decide +kernel
theorem dX12_tellOne_52 : decode cX12_tellOne 52 = .ok (.invokevirtual 317, 3) := by decide +kernel
theorem dX12_tellOne_55 : decode cX12_tellOne 55 = .ok (.ireturn, 1) := by decide +kernel
theorem dX12_tellOne_56 : decode cX12_tellOne 56 = .ok (.iload_n 1, 1) := by decide +kernel
theorem dX12_tellOne_57 : decode cX12_tellOne 57 = .ok (.iconst 3, 1) := by decide +kernel
theorem dX12_tellOne_58 : decode cX12_tellOne 58 = .ok (.if_icmp .ne 8, 3) := by decide +kernel
theorem dX12_tellOne_61 : decode cX12_tellOne 61 = .ok (.aload_n 0, 1) := by decide +kernel
theorem dX12_tellOne_62 : decode cX12_tellOne 62 = .ok (.invokevirtual 320, 3) := by decide +kernel
theorem dX12_tellOne_65 : decode cX12_tellOne 65 = .ok (.ireturn, 1) := by decide +kernel
theorem dX12_tellOne_66 : decode cX12_tellOne 66 = .ok (.iload_n 1, 1) := by decide +kernel
theorem dX12_tellOne_67 : decode cX12_tellOne 67 = .ok (.iconst 5, 1) := by decide +kernel
theorem dX12_tellOne_68 : decode cX12_tellOne 68 = .ok (.if_icmp .ne 8, 3) := by decide +kernel
theorem dX12_tellOne_71 : decode cX12_tellOne 71 = .ok (.aload_n 0, 1) := by decide +kernel
theorem dX12_tellOne_72 : decode cX12_tellOne 72 = .ok (.invokevirtual 323, 3) := by decide +kernel
theorem dX12_tellOne_75 : decode cX12_tellOne 75 = .ok (.ireturn, 1) := by decide +kernel
theorem dX12_tellOne_76 : decode cX12_tellOne 76 = .ok (.iload_n 1, 1) := by decide +kernel
theorem dX12_tellOne_77 : decode cX12_tellOne 77 = .ok (.bipush 6, 2) := by decide +kernel
theorem dX12_tellOne_79 : decode cX12_tellOne 79 = .ok (.if_icmp .ne 8, 3) := by decide +kernel
theorem dX12_tellOne_82 : decode cX12_tellOne 82 = .ok (.aload_n 0, 1) := by decide +kernel
theorem dX12_tellOne_83 : decode cX12_tellOne 83 = .ok (.invokevirtual 326, 3) := by decide +kernel
theorem dX12_tellOne_86 : decode cX12_tellOne 86 = .ok (.ireturn, 1) := by decide +kernel
theorem dX12_tellOne_87 : decode cX12_tellOne 87 = .ok (.iload_n 1, 1) := by decide +kernel
theorem dX12_tellOne_88 : decode cX12_tellOne 88 = .ok (.bipush 7, 2) := by decide +kernel
theorem dX12_tellOne_90 : decode cX12_tellOne 90 = .ok (.if_icmp .ne 12, 3) := by decide +kernel
theorem dX12_tellOne_93 : decode cX12_tellOne 93 = .ok (.aload_n 0, 1) := by decide +kernel
theorem dX12_tellOne_94 : decode cX12_tellOne 94 = .ok (.bipush 6, 2) := by decide +kernel
theorem dX12_tellOne_96 : decode cX12_tellOne 96 = .ok (.bipush 9, 2) := by decide +kernel
theorem dX12_tellOne_98 : decode cX12_tellOne 98 = .ok (.invokevirtual 329, 3) := by decide +kernel
theorem dX12_tellOne_101 : decode cX12_tellOne 101 = .ok (.ireturn, 1) := by decide +kernel
theorem dX12_tellOne_102 : decode cX12_tellOne 102 = .ok (.iload_n 1, 1) := by decide +kernel
theorem dX12_tellOne_103 : decode cX12_tellOne 103 = .ok (.bipush 9, 2) := by decide +kernel
theorem dX12_tellOne_105 : decode cX12_tellOne 105 = .ok (.if_icmp .ne 12, 3) := by decide +kernel
theorem dX12_tellOne_108 : decode cX12_tellOne 108 = .ok (.aload_n 0, 1) := by decide +kernel
theorem dX12_tellOne_109 : decode cX12_tellOne 109 = .ok (.bipush 7, 2) := by decide +kernel
theorem dX12_tellOne_111 : decode cX12_tellOne 111 = .ok (.bipush 99, 2) := by decide +kernel
theorem dX12_tellOne_113 : decode cX12_tellOne 113 = .ok (.invokevirtual 329, 3) := by decide +kernel
theorem dX12_tellOne_116 : decode cX12_tellOne 116 = .ok (.ireturn, 1) := by decide +kernel
theorem dX12_tellOne_117 : decode cX12_tellOne 117 = .ok (.iload_n 1, 1) := by decide +kernel
theorem dX12_tellOne_118 : decode cX12_tellOne 118 = .ok (.bipush 30, 2) := by decide +kernel
theorem dX12_tellOne_120 : decode cX12_tellOne 120 = .ok (.if_icmp .eq 9, 3) := by decide +kernel
theorem dX12_tellOne_123 : decode cX12_tellOne 123 = .ok (.iload_n 1, 1) := by decide +kernel
theorem dX12_tellOne_124 : decode cX12_tellOne 124 = .ok (.bipush 31, 2) := by decide +kernel
theorem dX12_tellOne_126 : decode cX12_tellOne 126 = .ok (.if_icmp .ne 12, 3) := by decide +kernel
theorem dX12_tellOne_129 : decode cX12_tellOne 129 = .ok (.aload_n 0, 1) := by decide +kernel
theorem dX12_tellOne_130 : decode cX12_tellOne 130 = .ok (.iload_n 1, 1) := by decide +kernel
theorem dX12_tellOne_131 : decode cX12_tellOne 131 = .ok (.bipush 30, 2) := by decide +kernel
theorem dX12_tellOne_133 : decode cX12_tellOne 133 = .ok (.isub, 1) := by decide +kernel
theorem dX12_tellOne_134 : decode cX12_tellOne 134 = .ok (.invokevirtual 332, 3) := by decide +kernel
theorem dX12_tellOne_137 : decode cX12_tellOne 137 = .ok (.ireturn, 1) := by decide +kernel
theorem dX12_tellOne_138 : decode cX12_tellOne 138 = .ok (.iload_n 1, 1) := by decide +kernel
theorem dX12_tellOne_139 : decode cX12_tellOne 139 = .ok (.bipush 21, 2) := by decide +kernel
theorem dX12_tellOne_141 : decode cX12_tellOne 141 = .ok (.if_icmp .ne 9, 3) := by decide +kernel
theorem dX12_tellOne_144 : decode cX12_tellOne 144 = .ok (.aload_n 0, 1) := by decide +kernel
theorem dX12_tellOne_145 : decode cX12_tellOne 145 = .ok (.iconst 2, 1) := by decide +kernel
theorem dX12_tellOne_146 : decode cX12_tellOne 146 = .ok (.invokevirtual 332, 3) := by decide +kernel
theorem dX12_tellOne_149 : decode cX12_tellOne 149 = .ok (.ireturn, 1) := by decide +kernel
theorem dX12_tellOne_150 : decode cX12_tellOne 150 = .ok (.iload_n 1, 1) := by decide +kernel
theorem dX12_tellOne_151 : decode cX12_tellOne 151 = .ok (.bipush 32, 2) := by decide +kernel
theorem dX12_tellOne_153 : decode cX12_tellOne 153 = .ok (.if_icmp .ne 13, 3) := by decide +kernel
theorem dX12_tellOne_156 : decode cX12_tellOne 156 = .ok (.aload_n 0, 1) := by decide +kernel
theorem dX12_tellOne_157 : decode cX12_tellOne 157 = .ok (.bipush 8, 2) := by decide +kernel
theorem dX12_tellOne_159 : decode cX12_tellOne 159 = .ok (.sipush 190, 3) := by decide +kernel
theorem dX12_tellOne_162 : decode cX12_tellOne 162 = .ok (.invokevirtual 335, 3) := by decide +kernel
theorem dX12_tellOne_165 : decode cX12_tellOne 165 = .ok (.ireturn, 1) := by decide +kernel
theorem dX12_tellOne_166 : decode cX12_tellOne 166 = .ok (.iload_n 1, 1) := by decide +kernel
theorem dX12_tellOne_167 : decode cX12_tellOne 167 = .ok (.bipush 33, 2) := by decide +kernel
theorem dX12_tellOne_169 : decode cX12_tellOne 169 = .ok (.if_icmp .ne 15, 3) := by decide +kernel
theorem dX12_tellOne_172 : decode cX12_tellOne 172 = .ok (.aload_n 0, 1) := by decide +kernel
theorem dX12_tellOne_173 : decode cX12_tellOne 173 = .ok (.bipush 9, 2) := by decide +kernel
theorem dX12_tellOne_175 : decode cX12_tellOne 175 = .ok (.sipush 200, 3) := by decide +kernel
theorem dX12_tellOne_178 : decode cX12_tellOne 178 = .ok (.invokevirtual 335, 3) := by decide +kernel
theorem dX12_tellOne_181 : decode cX12_tellOne 181 = .ok (.goto 8, 3) := by decide +kernel
theorem dX12_tellOne_184 : decode cX12_tellOne 184 = .ok (.aload_n 0, 1) := by decide +kernel
theorem dX12_tellOne_185 : decode cX12_tellOne 185 = .ok (.iconst 1, 1) := by decide +kernel
theorem dX12_tellOne_186 : decode cX12_tellOne 186 = .ok (.invokevirtual 227, 3) := by decide +kernel
theorem dX12_tellOne_189 : decode cX12_tellOne 189 = .ok (.ireturn, 1) := by decide +kernel
theorem b_X12_tellOne (mm : MM) (Q : Value → MM → Prop) (h : vp_in (mm.1 156 7) 2001 ∧ ((¬ (mm.1 158 (mm.1 156 7).toNatClampNeg) = (3 : Int32) → (∃ Pm1 : Value → MM → Prop, Runs e_X12_wrong [.ref 156, .int (1 : Int32)] mm Pm1 ∧ (∀ r m1, Pm1 r m1 → r = .int 1 ∨ r = .int 0) ∧ (∀ m1, Pm1 (.int 1) m1 → (Q (.int (1 : Int32)) m1)) ∧ (∀ m1, Pm1 (.int 0) m1 → (Q (.int (0 : Int32)) m1)))) ∧ ((mm.1 158 (mm.1 156 7).toNatClampNeg) = (3 : Int32) → (vp_in (mm.1 156 7) 2001 ∧ ((¬ (mm.1 160 (mm.1 156 7).toNatClampNeg) = 0 → ((¬ (mm.1 160 (mm.1 156 7).toNatClampNeg) = (1 : Int32) → ((¬ (mm.1 160 (mm.1 156 7).toNatClampNeg) = (2 : Int32) → ((¬ (mm.1 160 (mm.1 156 7).toNatClampNeg) = (3 : Int32) → ((¬ (mm.1 160 (mm.1 156 7).toNatClampNeg) = (5 : Int32) → ((¬ (mm.1 160 (mm.1 156 7).toNatClampNeg) = (6 : Int32) → ((¬ (mm.1 160 (mm.1 156 7).toNatClampNeg) = (7 : Int32) → ((¬ (mm.1 160 (mm.1 156 7).toNatClampNeg) = (9 : Int32) → (((mm.1 160 (mm.1 156 7).toNatClampNeg) = (30 : Int32) → (∃ Pm1 : Value → MM → Prop, Runs e_X12_tellLaw [.ref 156, .int ((mm.1 160 (mm.1 156 7).toNatClampNeg) - (30 : Int32))] mm Pm1 ∧ (∀ r m1, Pm1 r m1 → r = .int 1 ∨ r = .int 0) ∧ (∀ m1, Pm1 (.int 1) m1 → (Q (.int (1 : Int32)) m1)) ∧ (∀ m1, Pm1 (.int 0) m1 → (Q (.int (0 : Int32)) m1)))) ∧ (¬ (mm.1 160 (mm.1 156 7).toNatClampNeg) = (30 : Int32) → ((¬ (mm.1 160 (mm.1 156 7).toNatClampNeg) = (31 : Int32) → ((¬ (mm.1 160 (mm.1 156 7).toNatClampNeg) = (21 : Int32) → ((¬ (mm.1 160 (mm.1 156 7).toNatClampNeg) = (32 : Int32) → ((¬ (mm.1 160 (mm.1 156 7).toNatClampNeg) = (33 : Int32) → (∃ Pm1 : Value → MM → Prop, Runs e_X12_wrong [.ref 156, .int (1 : Int32)] mm Pm1 ∧ (∀ r m1, Pm1 r m1 → r = .int 1 ∨ r = .int 0) ∧ (∀ m1, Pm1 (.int 1) m1 → (Q (.int (1 : Int32)) m1)) ∧ (∀ m1, Pm1 (.int 0) m1 → (Q (.int (0 : Int32)) m1)))) ∧ ((mm.1 160 (mm.1 156 7).toNatClampNeg) = (33 : Int32) → (∃ Pm1 : Value → MM → Prop, Runs e_X12_tellRule [.ref 156, .int (9 : Int32), .int (200 : Int32)] mm Pm1 ∧ (∀ r m1, Pm1 r m1 → r = .int 1 ∨ r = .int 0) ∧ (∀ m1, Pm1 (.int 1) m1 → (Q (.int (1 : Int32)) m1)) ∧ (∀ m1, Pm1 (.int 0) m1 → (Q (.int (0 : Int32)) m1)))))) ∧ ((mm.1 160 (mm.1 156 7).toNatClampNeg) = (32 : Int32) → (∃ Pm1 : Value → MM → Prop, Runs e_X12_tellRule [.ref 156, .int (8 : Int32), .int (190 : Int32)] mm Pm1 ∧ (∀ r m1, Pm1 r m1 → r = .int 1 ∨ r = .int 0) ∧ (∀ m1, Pm1 (.int 1) m1 → (Q (.int (1 : Int32)) m1)) ∧ (∀ m1, Pm1 (.int 0) m1 → (Q (.int (0 : Int32)) m1)))))) ∧ ((mm.1 160 (mm.1 156 7).toNatClampNeg) = (21 : Int32) → (∃ Pm1 : Value → MM → Prop, Runs e_X12_tellLaw [.ref 156, .int (2 : Int32)] mm Pm1 ∧ (∀ r m1, Pm1 r m1 → r = .int 1 ∨ r = .int 0) ∧ (∀ m1, Pm1 (.int 1) m1 → (Q (.int (1 : Int32)) m1)) ∧ (∀ m1, Pm1 (.int 0) m1 → (Q (.int (0 : Int32)) m1)))))) ∧ ((mm.1 160 (mm.1 156 7).toNatClampNeg) = (31 : Int32) → (∃ Pm1 : Value → MM → Prop, Runs e_X12_tellLaw [.ref 156, .int ((mm.1 160 (mm.1 156 7).toNatClampNeg) - (30 : Int32))] mm Pm1 ∧ (∀ r m1, Pm1 r m1 → r = .int 1 ∨ r = .int 0) ∧ (∀ m1, Pm1 (.int 1) m1 → (Q (.int (1 : Int32)) m1)) ∧ (∀ m1, Pm1 (.int 0) m1 → (Q (.int (0 : Int32)) m1)))))))) ∧ ((mm.1 160 (mm.1 156 7).toNatClampNeg) = (9 : Int32) → (∃ Pm1 : Value → MM → Prop, Runs e_X12_tellNumber [.ref 156, .int (7 : Int32), .int (99 : Int32)] mm Pm1 ∧ (∀ r m1, Pm1 r m1 → r = .int 1 ∨ r = .int 0) ∧ (∀ m1, Pm1 (.int 1) m1 → (Q (.int (1 : Int32)) m1)) ∧ (∀ m1, Pm1 (.int 0) m1 → (Q (.int (0 : Int32)) m1)))))) ∧ ((mm.1 160 (mm.1 156 7).toNatClampNeg) = (7 : Int32) → (∃ Pm1 : Value → MM → Prop, Runs e_X12_tellNumber [.ref 156, .int (6 : Int32), .int (9 : Int32)] mm Pm1 ∧ (∀ r m1, Pm1 r m1 → r = .int 1 ∨ r = .int 0) ∧ (∀ m1, Pm1 (.int 1) m1 → (Q (.int (1 : Int32)) m1)) ∧ (∀ m1, Pm1 (.int 0) m1 → (Q (.int (0 : Int32)) m1)))))) ∧ ((mm.1 160 (mm.1 156 7).toNatClampNeg) = (6 : Int32) → (∃ Pm1 : Value → MM → Prop, Runs e_X12_tellWood [.ref 156] mm Pm1 ∧ (∀ r m1, Pm1 r m1 → r = .int 1 ∨ r = .int 0) ∧ (∀ m1, Pm1 (.int 1) m1 → (Q (.int (1 : Int32)) m1)) ∧ (∀ m1, Pm1 (.int 0) m1 → (Q (.int (0 : Int32)) m1)))))) ∧ ((mm.1 160 (mm.1 156 7).toNatClampNeg) = (5 : Int32) → (∃ Pm1 : Value → MM → Prop, Runs e_X12_tellQuay [.ref 156] mm Pm1 ∧ (∀ r m1, Pm1 r m1 → r = .int 1 ∨ r = .int 0) ∧ (∀ m1, Pm1 (.int 1) m1 → (Q (.int (1 : Int32)) m1)) ∧ (∀ m1, Pm1 (.int 0) m1 → (Q (.int (0 : Int32)) m1)))))) ∧ ((mm.1 160 (mm.1 156 7).toNatClampNeg) = (3 : Int32) → (∃ Pm1 : Value → MM → Prop, Runs e_X12_tellStair [.ref 156] mm Pm1 ∧ (∀ r m1, Pm1 r m1 → r = .int 1 ∨ r = .int 0) ∧ (∀ m1, Pm1 (.int 1) m1 → (Q (.int (1 : Int32)) m1)) ∧ (∀ m1, Pm1 (.int 0) m1 → (Q (.int (0 : Int32)) m1)))))) ∧ ((mm.1 160 (mm.1 156 7).toNatClampNeg) = (2 : Int32) → (∃ Pm1 : Value → MM → Prop, Runs e_X12_tellIn [.ref 156] mm Pm1 ∧ (∀ r m1, Pm1 r m1 → r = .int 1 ∨ r = .int 0) ∧ (∀ m1, Pm1 (.int 1) m1 → (Q (.int (1 : Int32)) m1)) ∧ (∀ m1, Pm1 (.int 0) m1 → (Q (.int (0 : Int32)) m1)))))) ∧ ((mm.1 160 (mm.1 156 7).toNatClampNeg) = (1 : Int32) → (∃ Pm1 : Value → MM → Prop, Runs e_X12_tellOffice [.ref 156] mm Pm1 ∧ (∀ r m1, Pm1 r m1 → r = .int 1 ∨ r = .int 0) ∧ (∀ m1, Pm1 (.int 1) m1 → (Q (.int (1 : Int32)) m1)) ∧ (∀ m1, Pm1 (.int 0) m1 → (Q (.int (0 : Int32)) m1)))))) ∧ ((mm.1 160 (mm.1 156 7).toNatClampNeg) = 0 → (∃ Pm1 : Value → MM → Prop, Runs e_X12_tellHouse [.ref 156] mm Pm1 ∧ (∀ r m1, Pm1 r m1 → r = .int 1 ∨ r = .int 0) ∧ (∀ m1, Pm1 (.int 1) m1 → (Q (.int (1 : Int32)) m1)) ∧ (∀ m1, Pm1 (.int 0) m1 → (Q (.int (0 : Int32)) m1))))))))) : Runs e_X12_tellOne [.ref 156] mm Q := by
  refine runs_of_G (L := [(0, .ref 156)]) pl_X12 (Nat.le_of_ble_eq_true rfl) rfl ?_
  refine g_aload_n (pc := 0) (x := 156) dX12_tellOne_0 rfl ?_
  refine g_getR (pc := 1) (dd := 2) dX12_tellOne_1 fo_X12_13 sh_156 rfl ?_
  refine g_aload_n (pc := 4) (x := 156) dX12_tellOne_4 rfl ?_
  refine g_getI (pc := 5) dX12_tellOne_5 fo_X12_218 sh_156 rfl ?_
  refine g_iaload (pc := 8) dX12_tellOne_8 sh_158 h.1 ?_
  have h := h.2
  refine g_iconst (pc := 9) (v := (3 : Int32)) dX12_tellOne_9 (by decide) ?_
  refine g_icmp_ne (pc := 10) (tgt := 25) dX12_tellOne_10 (by decide) (fun c10 => ?_) (fun c10 => ?_)
  · have h := h.1 c10
    refine g_iconst (pc := 25) (v := (-1 : Int32)) dX12_tellOne_25 (by decide) ?_
    refine g_istore_n (pc := 26) (L' := [(0, .ref 156), (1, .int (-1 : Int32))]) dX12_tellOne_26 (Nat.le_of_ble_eq_true rfl) rfl ?_
    refine g_iload_n (pc := 27) (x := (-1 : Int32)) dX12_tellOne_27 rfl ?_
    refine g_if_ne (pc := 28) (tgt := 36) dX12_tellOne_28 (by decide) (fun _ => ?_) (fun c28 => absurd c28 (by decide))
    refine g_iload_n (pc := 36) (x := (-1 : Int32)) dX12_tellOne_36 rfl ?_
    refine g_iconst (pc := 37) (v := (1 : Int32)) dX12_tellOne_37 (by decide) ?_
    refine g_icmp_ne (pc := 38) (tgt := 46) dX12_tellOne_38 (by decide) (fun _ => ?_) (fun c38 => absurd c38 (by decide))
    refine g_iload_n (pc := 46) (x := (-1 : Int32)) dX12_tellOne_46 rfl ?_
    refine g_iconst (pc := 47) (v := (2 : Int32)) dX12_tellOne_47 (by decide) ?_
    refine g_icmp_ne (pc := 48) (tgt := 56) dX12_tellOne_48 (by decide) (fun _ => ?_) (fun c48 => absurd c48 (by decide))
    refine g_iload_n (pc := 56) (x := (-1 : Int32)) dX12_tellOne_56 rfl ?_
    refine g_iconst (pc := 57) (v := (3 : Int32)) dX12_tellOne_57 (by decide) ?_
    refine g_icmp_ne (pc := 58) (tgt := 66) dX12_tellOne_58 (by decide) (fun _ => ?_) (fun c58 => absurd c58 (by decide))
    refine g_iload_n (pc := 66) (x := (-1 : Int32)) dX12_tellOne_66 rfl ?_
    refine g_iconst (pc := 67) (v := (5 : Int32)) dX12_tellOne_67 (by decide) ?_
    refine g_icmp_ne (pc := 68) (tgt := 76) dX12_tellOne_68 (by decide) (fun _ => ?_) (fun c68 => absurd c68 (by decide))
    refine g_iload_n (pc := 76) (x := (-1 : Int32)) dX12_tellOne_76 rfl ?_
    refine g_bipush (pc := 77) (v := (6 : Int32)) dX12_tellOne_77 (by decide) ?_
    refine g_icmp_ne (pc := 79) (tgt := 87) dX12_tellOne_79 (by decide) (fun _ => ?_) (fun c79 => absurd c79 (by decide))
    refine g_iload_n (pc := 87) (x := (-1 : Int32)) dX12_tellOne_87 rfl ?_
    refine g_bipush (pc := 88) (v := (7 : Int32)) dX12_tellOne_88 (by decide) ?_
    refine g_icmp_ne (pc := 90) (tgt := 102) dX12_tellOne_90 (by decide) (fun _ => ?_) (fun c90 => absurd c90 (by decide))
    refine g_iload_n (pc := 102) (x := (-1 : Int32)) dX12_tellOne_102 rfl ?_
    refine g_bipush (pc := 103) (v := (9 : Int32)) dX12_tellOne_103 (by decide) ?_
    refine g_icmp_ne (pc := 105) (tgt := 117) dX12_tellOne_105 (by decide) (fun _ => ?_) (fun c105 => absurd c105 (by decide))
    refine g_iload_n (pc := 117) (x := (-1 : Int32)) dX12_tellOne_117 rfl ?_
    refine g_bipush (pc := 118) (v := (30 : Int32)) dX12_tellOne_118 (by decide) ?_
    refine g_icmp_eq (pc := 120) (tgt := 129) dX12_tellOne_120 (by decide) (fun c120 => absurd c120 (by decide)) (fun _ => ?_)
    refine g_iload_n (pc := 123) (x := (-1 : Int32)) dX12_tellOne_123 rfl ?_
    refine g_bipush (pc := 124) (v := (31 : Int32)) dX12_tellOne_124 (by decide) ?_
    refine g_icmp_ne (pc := 126) (tgt := 138) dX12_tellOne_126 (by decide) (fun _ => ?_) (fun c126 => absurd c126 (by decide))
    refine g_iload_n (pc := 138) (x := (-1 : Int32)) dX12_tellOne_138 rfl ?_
    refine g_bipush (pc := 139) (v := (21 : Int32)) dX12_tellOne_139 (by decide) ?_
    refine g_icmp_ne (pc := 141) (tgt := 150) dX12_tellOne_141 (by decide) (fun _ => ?_) (fun c141 => absurd c141 (by decide))
    refine g_iload_n (pc := 150) (x := (-1 : Int32)) dX12_tellOne_150 rfl ?_
    refine g_bipush (pc := 151) (v := (32 : Int32)) dX12_tellOne_151 (by decide) ?_
    refine g_icmp_ne (pc := 153) (tgt := 166) dX12_tellOne_153 (by decide) (fun _ => ?_) (fun c153 => absurd c153 (by decide))
    refine g_iload_n (pc := 166) (x := (-1 : Int32)) dX12_tellOne_166 rfl ?_
    refine g_bipush (pc := 167) (v := (33 : Int32)) dX12_tellOne_167 (by decide) ?_
    refine g_icmp_ne (pc := 169) (tgt := 184) dX12_tellOne_169 (by decide) (fun _ => ?_) (fun c169 => absurd c169 (by decide))
    refine g_aload_n (pc := 184) (x := 156) dX12_tellOne_184 rfl ?_
    refine g_iconst (pc := 185) (v := (1 : Int32)) dX12_tellOne_185 (by decide) ?_
    obtain ⟨Pm1, hRm1, h⟩ := h
    refine g_callV (pc := 186) (as := [.int (1 : Int32)]) dX12_tellOne_186 cw_X12_227 (by decide) rfl rfl sh_156 (Nat.le_of_ble_eq_true rfl) hRm1 ?_
    intro r_ m1 hz_ hp_
    rcases h.1 r_ m1 hp_ with rfl | rfl
    · have h := h.2.1 m1 hp_
      exact g_iret (pc := 189) dX12_tellOne_189 rfl rfl (nar_B isB1) h
    · have h := h.2.2 m1 hp_
      exact g_iret (pc := 189) dX12_tellOne_189 rfl rfl (nar_B isB0) h
  · have h := h.2 c10
    refine g_aload_n (pc := 13) (x := 156) dX12_tellOne_13 rfl ?_
    refine g_getR (pc := 14) (dd := 4) dX12_tellOne_14 fo_X12_19 sh_156 rfl ?_
    refine g_aload_n (pc := 17) (x := 156) dX12_tellOne_17 rfl ?_
    refine g_getI (pc := 18) dX12_tellOne_18 fo_X12_218 sh_156 rfl ?_
    refine g_iaload (pc := 21) dX12_tellOne_21 sh_160 h.1 ?_
    have h := h.2
    refine g_goto (pc := 22) (tgt := 26) dX12_tellOne_22 (by decide) ?_
    refine g_istore_n (pc := 26) (L' := [(0, .ref 156), (1, .int (mm.1 160 (mm.1 156 7).toNatClampNeg))]) dX12_tellOne_26 (Nat.le_of_ble_eq_true rfl) rfl ?_
    refine g_iload_n (pc := 27) (x := (mm.1 160 (mm.1 156 7).toNatClampNeg)) dX12_tellOne_27 rfl ?_
    refine g_if_ne (pc := 28) (tgt := 36) dX12_tellOne_28 (by decide) (fun c28 => ?_) (fun c28 => ?_)
    · have h := h.1 c28
      refine g_iload_n (pc := 36) (x := (mm.1 160 (mm.1 156 7).toNatClampNeg)) dX12_tellOne_36 rfl ?_
      refine g_iconst (pc := 37) (v := (1 : Int32)) dX12_tellOne_37 (by decide) ?_
      refine g_icmp_ne (pc := 38) (tgt := 46) dX12_tellOne_38 (by decide) (fun c38 => ?_) (fun c38 => ?_)
      · have h := h.1 c38
        refine g_iload_n (pc := 46) (x := (mm.1 160 (mm.1 156 7).toNatClampNeg)) dX12_tellOne_46 rfl ?_
        refine g_iconst (pc := 47) (v := (2 : Int32)) dX12_tellOne_47 (by decide) ?_
        refine g_icmp_ne (pc := 48) (tgt := 56) dX12_tellOne_48 (by decide) (fun c48 => ?_) (fun c48 => ?_)
        · have h := h.1 c48
          refine g_iload_n (pc := 56) (x := (mm.1 160 (mm.1 156 7).toNatClampNeg)) dX12_tellOne_56 rfl ?_
          refine g_iconst (pc := 57) (v := (3 : Int32)) dX12_tellOne_57 (by decide) ?_
          refine g_icmp_ne (pc := 58) (tgt := 66) dX12_tellOne_58 (by decide) (fun c58 => ?_) (fun c58 => ?_)
          · have h := h.1 c58
            refine g_iload_n (pc := 66) (x := (mm.1 160 (mm.1 156 7).toNatClampNeg)) dX12_tellOne_66 rfl ?_
            refine g_iconst (pc := 67) (v := (5 : Int32)) dX12_tellOne_67 (by decide) ?_
            refine g_icmp_ne (pc := 68) (tgt := 76) dX12_tellOne_68 (by decide) (fun c68 => ?_) (fun c68 => ?_)
            · have h := h.1 c68
              refine g_iload_n (pc := 76) (x := (mm.1 160 (mm.1 156 7).toNatClampNeg)) dX12_tellOne_76 rfl ?_
              refine g_bipush (pc := 77) (v := (6 : Int32)) dX12_tellOne_77 (by decide) ?_
              refine g_icmp_ne (pc := 79) (tgt := 87) dX12_tellOne_79 (by decide) (fun c79 => ?_) (fun c79 => ?_)
              · have h := h.1 c79
                refine g_iload_n (pc := 87) (x := (mm.1 160 (mm.1 156 7).toNatClampNeg)) dX12_tellOne_87 rfl ?_
                refine g_bipush (pc := 88) (v := (7 : Int32)) dX12_tellOne_88 (by decide) ?_
                refine g_icmp_ne (pc := 90) (tgt := 102) dX12_tellOne_90 (by decide) (fun c90 => ?_) (fun c90 => ?_)
                · have h := h.1 c90
                  refine g_iload_n (pc := 102) (x := (mm.1 160 (mm.1 156 7).toNatClampNeg)) dX12_tellOne_102 rfl ?_
                  refine g_bipush (pc := 103) (v := (9 : Int32)) dX12_tellOne_103 (by decide) ?_
                  refine g_icmp_ne (pc := 105) (tgt := 117) dX12_tellOne_105 (by decide) (fun c105 => ?_) (fun c105 => ?_)
                  · have h := h.1 c105
                    refine g_iload_n (pc := 117) (x := (mm.1 160 (mm.1 156 7).toNatClampNeg)) dX12_tellOne_117 rfl ?_
                    refine g_bipush (pc := 118) (v := (30 : Int32)) dX12_tellOne_118 (by decide) ?_
                    refine g_icmp_eq (pc := 120) (tgt := 129) dX12_tellOne_120 (by decide) (fun c120 => ?_) (fun c120 => ?_)
                    · have h := h.1 c120
                      refine g_aload_n (pc := 129) (x := 156) dX12_tellOne_129 rfl ?_
                      refine g_iload_n (pc := 130) (x := (mm.1 160 (mm.1 156 7).toNatClampNeg)) dX12_tellOne_130 rfl ?_
                      refine g_bipush (pc := 131) (v := (30 : Int32)) dX12_tellOne_131 (by decide) ?_
                      refine g_isub (pc := 133) dX12_tellOne_133 ?_
                      obtain ⟨Pm1, hRm1, h⟩ := h
                      refine g_callV (pc := 134) (as := [.int ((mm.1 160 (mm.1 156 7).toNatClampNeg) - (30 : Int32))]) dX12_tellOne_134 cw_X12_332 (by decide) rfl rfl sh_156 (Nat.le_of_ble_eq_true rfl) hRm1 ?_
                      intro r_ m1 hz_ hp_
                      rcases h.1 r_ m1 hp_ with rfl | rfl
                      · have h := h.2.1 m1 hp_
                        exact g_iret (pc := 137) dX12_tellOne_137 rfl rfl (nar_B isB1) h
                      · have h := h.2.2 m1 hp_
                        exact g_iret (pc := 137) dX12_tellOne_137 rfl rfl (nar_B isB0) h
                    · have h := h.2 c120
                      refine g_iload_n (pc := 123) (x := (mm.1 160 (mm.1 156 7).toNatClampNeg)) dX12_tellOne_123 rfl ?_
                      refine g_bipush (pc := 124) (v := (31 : Int32)) dX12_tellOne_124 (by decide) ?_
                      refine g_icmp_ne (pc := 126) (tgt := 138) dX12_tellOne_126 (by decide) (fun c126 => ?_) (fun c126 => ?_)
                      · have h := h.1 c126
                        refine g_iload_n (pc := 138) (x := (mm.1 160 (mm.1 156 7).toNatClampNeg)) dX12_tellOne_138 rfl ?_
                        refine g_bipush (pc := 139) (v := (21 : Int32)) dX12_tellOne_139 (by decide) ?_
                        refine g_icmp_ne (pc := 141) (tgt := 150) dX12_tellOne_141 (by decide) (fun c141 => ?_) (fun c141 => ?_)
                        · have h := h.1 c141
                          refine g_iload_n (pc := 150) (x := (mm.1 160 (mm.1 156 7).toNatClampNeg)) dX12_tellOne_150 rfl ?_
                          refine g_bipush (pc := 151) (v := (32 : Int32)) dX12_tellOne_151 (by decide) ?_
                          refine g_icmp_ne (pc := 153) (tgt := 166) dX12_tellOne_153 (by decide) (fun c153 => ?_) (fun c153 => ?_)
                          · have h := h.1 c153
                            refine g_iload_n (pc := 166) (x := (mm.1 160 (mm.1 156 7).toNatClampNeg)) dX12_tellOne_166 rfl ?_
                            refine g_bipush (pc := 167) (v := (33 : Int32)) dX12_tellOne_167 (by decide) ?_
                            refine g_icmp_ne (pc := 169) (tgt := 184) dX12_tellOne_169 (by decide) (fun c169 => ?_) (fun c169 => ?_)
                            · have h := h.1 c169
                              refine g_aload_n (pc := 184) (x := 156) dX12_tellOne_184 rfl ?_
                              refine g_iconst (pc := 185) (v := (1 : Int32)) dX12_tellOne_185 (by decide) ?_
                              obtain ⟨Pm1, hRm1, h⟩ := h
                              refine g_callV (pc := 186) (as := [.int (1 : Int32)]) dX12_tellOne_186 cw_X12_227 (by decide) rfl rfl sh_156 (Nat.le_of_ble_eq_true rfl) hRm1 ?_
                              intro r_ m1 hz_ hp_
                              rcases h.1 r_ m1 hp_ with rfl | rfl
                              · have h := h.2.1 m1 hp_
                                exact g_iret (pc := 189) dX12_tellOne_189 rfl rfl (nar_B isB1) h
                              · have h := h.2.2 m1 hp_
                                exact g_iret (pc := 189) dX12_tellOne_189 rfl rfl (nar_B isB0) h
                            · have h := h.2 c169
                              refine g_aload_n (pc := 172) (x := 156) dX12_tellOne_172 rfl ?_
                              refine g_bipush (pc := 173) (v := (9 : Int32)) dX12_tellOne_173 (by decide) ?_
                              refine g_sipush (pc := 175) (v := (200 : Int32)) dX12_tellOne_175 (by decide) ?_
                              obtain ⟨Pm1, hRm1, h⟩ := h
                              refine g_callV (pc := 178) (as := [.int (9 : Int32), .int (200 : Int32)]) dX12_tellOne_178 cw_X12_335 (by decide) rfl rfl sh_156 (Nat.le_of_ble_eq_true rfl) hRm1 ?_
                              intro r_ m1 hz_ hp_
                              rcases h.1 r_ m1 hp_ with rfl | rfl
                              · have h := h.2.1 m1 hp_
                                refine g_goto (pc := 181) (tgt := 189) dX12_tellOne_181 (by decide) ?_
                                exact g_iret (pc := 189) dX12_tellOne_189 rfl rfl (nar_B isB1) h
                              · have h := h.2.2 m1 hp_
                                refine g_goto (pc := 181) (tgt := 189) dX12_tellOne_181 (by decide) ?_
                                exact g_iret (pc := 189) dX12_tellOne_189 rfl rfl (nar_B isB0) h
                          · have h := h.2 c153
                            refine g_aload_n (pc := 156) (x := 156) dX12_tellOne_156 rfl ?_
                            refine g_bipush (pc := 157) (v := (8 : Int32)) dX12_tellOne_157 (by decide) ?_
                            refine g_sipush (pc := 159) (v := (190 : Int32)) dX12_tellOne_159 (by decide) ?_
                            obtain ⟨Pm1, hRm1, h⟩ := h
                            refine g_callV (pc := 162) (as := [.int (8 : Int32), .int (190 : Int32)]) dX12_tellOne_162 cw_X12_335 (by decide) rfl rfl sh_156 (Nat.le_of_ble_eq_true rfl) hRm1 ?_
                            intro r_ m1 hz_ hp_
                            rcases h.1 r_ m1 hp_ with rfl | rfl
                            · have h := h.2.1 m1 hp_
                              exact g_iret (pc := 165) dX12_tellOne_165 rfl rfl (nar_B isB1) h
                            · have h := h.2.2 m1 hp_
                              exact g_iret (pc := 165) dX12_tellOne_165 rfl rfl (nar_B isB0) h
                        · have h := h.2 c141
                          refine g_aload_n (pc := 144) (x := 156) dX12_tellOne_144 rfl ?_
                          refine g_iconst (pc := 145) (v := (2 : Int32)) dX12_tellOne_145 (by decide) ?_
                          obtain ⟨Pm1, hRm1, h⟩ := h
                          refine g_callV (pc := 146) (as := [.int (2 : Int32)]) dX12_tellOne_146 cw_X12_332 (by decide) rfl rfl sh_156 (Nat.le_of_ble_eq_true rfl) hRm1 ?_
                          intro r_ m1 hz_ hp_
                          rcases h.1 r_ m1 hp_ with rfl | rfl
                          · have h := h.2.1 m1 hp_
                            exact g_iret (pc := 149) dX12_tellOne_149 rfl rfl (nar_B isB1) h
                          · have h := h.2.2 m1 hp_
                            exact g_iret (pc := 149) dX12_tellOne_149 rfl rfl (nar_B isB0) h
                      · have h := h.2 c126
                        refine g_aload_n (pc := 129) (x := 156) dX12_tellOne_129 rfl ?_
                        refine g_iload_n (pc := 130) (x := (mm.1 160 (mm.1 156 7).toNatClampNeg)) dX12_tellOne_130 rfl ?_
                        refine g_bipush (pc := 131) (v := (30 : Int32)) dX12_tellOne_131 (by decide) ?_
                        refine g_isub (pc := 133) dX12_tellOne_133 ?_
                        obtain ⟨Pm1, hRm1, h⟩ := h
                        refine g_callV (pc := 134) (as := [.int ((mm.1 160 (mm.1 156 7).toNatClampNeg) - (30 : Int32))]) dX12_tellOne_134 cw_X12_332 (by decide) rfl rfl sh_156 (Nat.le_of_ble_eq_true rfl) hRm1 ?_
                        intro r_ m1 hz_ hp_
                        rcases h.1 r_ m1 hp_ with rfl | rfl
                        · have h := h.2.1 m1 hp_
                          exact g_iret (pc := 137) dX12_tellOne_137 rfl rfl (nar_B isB1) h
                        · have h := h.2.2 m1 hp_
                          exact g_iret (pc := 137) dX12_tellOne_137 rfl rfl (nar_B isB0) h
                  · have h := h.2 c105
                    refine g_aload_n (pc := 108) (x := 156) dX12_tellOne_108 rfl ?_
                    refine g_bipush (pc := 109) (v := (7 : Int32)) dX12_tellOne_109 (by decide) ?_
                    refine g_bipush (pc := 111) (v := (99 : Int32)) dX12_tellOne_111 (by decide) ?_
                    obtain ⟨Pm1, hRm1, h⟩ := h
                    refine g_callV (pc := 113) (as := [.int (7 : Int32), .int (99 : Int32)]) dX12_tellOne_113 cw_X12_329 (by decide) rfl rfl sh_156 (Nat.le_of_ble_eq_true rfl) hRm1 ?_
                    intro r_ m1 hz_ hp_
                    rcases h.1 r_ m1 hp_ with rfl | rfl
                    · have h := h.2.1 m1 hp_
                      exact g_iret (pc := 116) dX12_tellOne_116 rfl rfl (nar_B isB1) h
                    · have h := h.2.2 m1 hp_
                      exact g_iret (pc := 116) dX12_tellOne_116 rfl rfl (nar_B isB0) h
                · have h := h.2 c90
                  refine g_aload_n (pc := 93) (x := 156) dX12_tellOne_93 rfl ?_
                  refine g_bipush (pc := 94) (v := (6 : Int32)) dX12_tellOne_94 (by decide) ?_
                  refine g_bipush (pc := 96) (v := (9 : Int32)) dX12_tellOne_96 (by decide) ?_
                  obtain ⟨Pm1, hRm1, h⟩ := h
                  refine g_callV (pc := 98) (as := [.int (6 : Int32), .int (9 : Int32)]) dX12_tellOne_98 cw_X12_329 (by decide) rfl rfl sh_156 (Nat.le_of_ble_eq_true rfl) hRm1 ?_
                  intro r_ m1 hz_ hp_
                  rcases h.1 r_ m1 hp_ with rfl | rfl
                  · have h := h.2.1 m1 hp_
                    exact g_iret (pc := 101) dX12_tellOne_101 rfl rfl (nar_B isB1) h
                  · have h := h.2.2 m1 hp_
                    exact g_iret (pc := 101) dX12_tellOne_101 rfl rfl (nar_B isB0) h
              · have h := h.2 c79
                refine g_aload_n (pc := 82) (x := 156) dX12_tellOne_82 rfl ?_
                obtain ⟨Pm1, hRm1, h⟩ := h
                refine g_callV (pc := 83) (as := []) dX12_tellOne_83 cw_X12_326 (by decide) rfl rfl sh_156 (Nat.le_of_ble_eq_true rfl) hRm1 ?_
                intro r_ m1 hz_ hp_
                rcases h.1 r_ m1 hp_ with rfl | rfl
                · have h := h.2.1 m1 hp_
                  exact g_iret (pc := 86) dX12_tellOne_86 rfl rfl (nar_B isB1) h
                · have h := h.2.2 m1 hp_
                  exact g_iret (pc := 86) dX12_tellOne_86 rfl rfl (nar_B isB0) h
            · have h := h.2 c68
              refine g_aload_n (pc := 71) (x := 156) dX12_tellOne_71 rfl ?_
              obtain ⟨Pm1, hRm1, h⟩ := h
              refine g_callV (pc := 72) (as := []) dX12_tellOne_72 cw_X12_323 (by decide) rfl rfl sh_156 (Nat.le_of_ble_eq_true rfl) hRm1 ?_
              intro r_ m1 hz_ hp_
              rcases h.1 r_ m1 hp_ with rfl | rfl
              · have h := h.2.1 m1 hp_
                exact g_iret (pc := 75) dX12_tellOne_75 rfl rfl (nar_B isB1) h
              · have h := h.2.2 m1 hp_
                exact g_iret (pc := 75) dX12_tellOne_75 rfl rfl (nar_B isB0) h
          · have h := h.2 c58
            refine g_aload_n (pc := 61) (x := 156) dX12_tellOne_61 rfl ?_
            obtain ⟨Pm1, hRm1, h⟩ := h
            refine g_callV (pc := 62) (as := []) dX12_tellOne_62 cw_X12_320 (by decide) rfl rfl sh_156 (Nat.le_of_ble_eq_true rfl) hRm1 ?_
            intro r_ m1 hz_ hp_
            rcases h.1 r_ m1 hp_ with rfl | rfl
            · have h := h.2.1 m1 hp_
              exact g_iret (pc := 65) dX12_tellOne_65 rfl rfl (nar_B isB1) h
            · have h := h.2.2 m1 hp_
              exact g_iret (pc := 65) dX12_tellOne_65 rfl rfl (nar_B isB0) h
        · have h := h.2 c48
          refine g_aload_n (pc := 51) (x := 156) dX12_tellOne_51 rfl ?_
          obtain ⟨Pm1, hRm1, h⟩ := h
          refine g_callV (pc := 52) (as := []) dX12_tellOne_52 cw_X12_317 (by decide) rfl rfl sh_156 (Nat.le_of_ble_eq_true rfl) hRm1 ?_
          intro r_ m1 hz_ hp_
          rcases h.1 r_ m1 hp_ with rfl | rfl
          · have h := h.2.1 m1 hp_
            exact g_iret (pc := 55) dX12_tellOne_55 rfl rfl (nar_B isB1) h
          · have h := h.2.2 m1 hp_
            exact g_iret (pc := 55) dX12_tellOne_55 rfl rfl (nar_B isB0) h
      · have h := h.2 c38
        refine g_aload_n (pc := 41) (x := 156) dX12_tellOne_41 rfl ?_
        obtain ⟨Pm1, hRm1, h⟩ := h
        refine g_callV (pc := 42) (as := []) dX12_tellOne_42 cw_X12_314 (by decide) rfl rfl sh_156 (Nat.le_of_ble_eq_true rfl) hRm1 ?_
        intro r_ m1 hz_ hp_
        rcases h.1 r_ m1 hp_ with rfl | rfl
        · have h := h.2.1 m1 hp_
          exact g_iret (pc := 45) dX12_tellOne_45 rfl rfl (nar_B isB1) h
        · have h := h.2.2 m1 hp_
          exact g_iret (pc := 45) dX12_tellOne_45 rfl rfl (nar_B isB0) h
    · have h := h.2 c28
      refine g_aload_n (pc := 31) (x := 156) dX12_tellOne_31 rfl ?_
      obtain ⟨Pm1, hRm1, h⟩ := h
      refine g_callV (pc := 32) (as := []) dX12_tellOne_32 cw_X12_311 (by decide) rfl rfl sh_156 (Nat.le_of_ble_eq_true rfl) hRm1 ?_
      intro r_ m1 hz_ hp_
      rcases h.1 r_ m1 hp_ with rfl | rfl
      · have h := h.2.1 m1 hp_
        exact g_iret (pc := 35) dX12_tellOne_35 rfl rfl (nar_B isB1) h
      · have h := h.2.2 m1 hp_
        exact g_iret (pc := 35) dX12_tellOne_35 rfl rfl (nar_B isB0) h
theorem dX12_parses_0 : decode cX12_parses 0 = .ok (.aload_n 0, 1) := by decide +kernel
theorem dX12_parses_1 : decode cX12_parses 1 = .ok (.iconst 0, 1) := by decide +kernel
theorem dX12_parses_2 : decode cX12_parses 2 = .ok (.putfield 218, 3) := by decide +kernel
theorem dX12_parses_5 : decode cX12_parses 5 = .ok (.aload_n 0, 1) := by decide +kernel
theorem dX12_parses_6 : decode cX12_parses 6 = .ok (.iconst 0, 1) := by decide +kernel
theorem dX12_parses_7 : decode cX12_parses 7 = .ok (.putfield 286, 3) := by decide +kernel
theorem dX12_parses_10 : decode cX12_parses 10 = .ok (.aload_n 0, 1) := by decide +kernel
theorem dX12_parses_11 : decode cX12_parses 11 = .ok (.getfield 13, 3) := by decide +kernel
theorem dX12_parses_14 : decode cX12_parses 14 = .ok (.aload_n 0, 1) := by decide +kernel
theorem dX12_parses_15 : decode cX12_parses 15 = .ok (.getfield 218, 3) := by decide +kernel
theorem dX12_parses_18 : decode cX12_parses 18 = .ok (.iaload, 1) := by decide +kernel
theorem dX12_parses_19 : decode cX12_parses 19 = .ok (.iconst 4, 1) := by decide +kernel
theorem dX12_parses_20 : decode cX12_parses 20 = .ok (.if_icmp .eq 36, 3) := by decide +kernel
theorem dX12_parses_23 : decode cX12_parses 23 = .ok (.aload_n 0, 1) := by decide +kernel
theorem dX12_parses_24 : decode cX12_parses 24 = .ok (.invokevirtual 338, 3) := by decide +kernel
theorem dX12_parses_27 : decode cX12_parses 27 = .ok (.ifCond .ne 5, 3) := by decide +kernel
theorem dX12_parses_30 : decode cX12_parses 30 = .ok (.iconst 0, 1) := by decide +kernel
theorem dX12_parses_31 : decode cX12_parses 31 = .ok (.ireturn, 1) := by decide +kernel
theorem dX12_parses_32 : decode cX12_parses 32 = .ok (.aload_n 0, 1) := by decide +kernel
theorem dX12_parses_33 : decode cX12_parses 33 = .ok (.bipush 59, 2) := by decide +kernel
theorem dX12_parses_35 : decode cX12_parses 35 = .ok (.invokevirtual 256, 3) := by decide +kernel
theorem dX12_parses_38 : decode cX12_parses 38 = .ok (.ifCond .ne 9, 3) := by decide +kernel
theorem dX12_parses_41 : decode cX12_parses 41 = .ok (.aload_n 0, 1) := by decide +kernel
theorem dX12_parses_42 : decode cX12_parses 42 = .ok (.iconst 1, 1) := by decide +kernel
theorem dX12_parses_43 : decode cX12_parses 43 = .ok (.invokevirtual 227, 3) := by decide +kernel
theorem dX12_parses_46 : decode cX12_parses 46 = .ok (.ireturn, 1) := by decide +kernel
theorem dX12_parses_47 : decode cX12_parses 47 = .ok (.aload_n 0, 1) := by decide +kernel
theorem dX12_parses_48 : decode cX12_parses 48 = .ok (.invokevirtual 230, 3) := by decide +kernel
theorem dX12_parses_51 : decode cX12_parses 51 = .ok (.ifCond .ne (-41), 3) := by decide +kernel
theorem dX12_parses_54 : decode cX12_parses 54 = .ok (.iconst 0, 1) := by decide +kernel
theorem dX12_parses_55 : decode cX12_parses 55 = .ok (.ireturn, 1) := by decide +kernel
theorem dX12_parses_56 : decode cX12_parses 56 = .ok (.iconst 1, 1) := by decide +kernel
theorem dX12_parses_57 : decode cX12_parses 57 = .ok (.ireturn, 1) := by decide +kernel
theorem b_X12_parses (mm : MM) (Q : Value → MM → Prop) (h : G e_X12_parses 10 [(0, .ref 156)] [] (wI (wI mm 156 7 (0 : Int32)) 156 25 (0 : Int32)) Q) : Runs e_X12_parses [.ref 156] mm Q := by
  refine runs_of_G (L := [(0, .ref 156)]) pl_X12 (Nat.le_of_ble_eq_true rfl) rfl ?_
  refine g_aload_n (pc := 0) (x := 156) dX12_parses_0 rfl ?_
  refine g_iconst (pc := 1) (v := (0 : Int32)) dX12_parses_1 (by decide) ?_
  refine g_putI (pc := 2) dX12_parses_2 fo_X12_218 sh_156 rfl rfl rfl ?_
  refine g_aload_n (pc := 5) (x := 156) dX12_parses_5 rfl ?_
  refine g_iconst (pc := 6) (v := (0 : Int32)) dX12_parses_6 (by decide) ?_
  refine g_putI (pc := 7) dX12_parses_7 fo_X12_286 sh_156 rfl rfl rfl ?_
  exact h
theorem b_X12_parses_10 (mm : MM) (Q : Value → MM → Prop) (h : vp_in (mm.1 156 7) 2001 ∧ (((mm.1 158 (mm.1 156 7).toNatClampNeg) = (4 : Int32) → (Q (.int (1 : Int32)) mm)) ∧ (¬ (mm.1 158 (mm.1 156 7).toNatClampNeg) = (4 : Int32) → (∃ Pm1 : Value → MM → Prop, Runs e_X12_tellOne [.ref 156] mm Pm1 ∧ (∀ r m1, Pm1 r m1 → r = .int 1 ∨ r = .int 0) ∧ (∀ m1, Pm1 (.int 1) m1 → (o_X12_isSign m1 (59 : Int32) ∧ ((p_X12_isSign m1 (59 : Int32) → (∃ Pm2 : Value → MM → Prop, Runs e_X12_pass [.ref 156] m1 Pm2 ∧ (∀ r m2, Pm2 r m2 → r = .int 1 ∨ r = .int 0) ∧ (∀ m2, Pm2 (.int 1) m2 → (G e_X12_parses 10 [(0, .ref 156)] [] m2 Q)) ∧ (∀ m2, Pm2 (.int 0) m2 → (Q (.int (0 : Int32)) m2)))) ∧ (¬ p_X12_isSign m1 (59 : Int32) → (∃ Pm2 : Value → MM → Prop, Runs e_X12_wrong [.ref 156, .int (1 : Int32)] m1 Pm2 ∧ (∀ r m2, Pm2 r m2 → r = .int 1 ∨ r = .int 0) ∧ (∀ m2, Pm2 (.int 1) m2 → (Q (.int (1 : Int32)) m2)) ∧ (∀ m2, Pm2 (.int 0) m2 → (Q (.int (0 : Int32)) m2))))))) ∧ (∀ m1, Pm1 (.int 0) m1 → (Q (.int (0 : Int32)) m1)))))) : G e_X12_parses 10 [(0, .ref 156)] [] mm Q := by
  refine g_aload_n (pc := 10) (x := 156) dX12_parses_10 rfl ?_
  refine g_getR (pc := 11) (dd := 2) dX12_parses_11 fo_X12_13 sh_156 rfl ?_
  refine g_aload_n (pc := 14) (x := 156) dX12_parses_14 rfl ?_
  refine g_getI (pc := 15) dX12_parses_15 fo_X12_218 sh_156 rfl ?_
  refine g_iaload (pc := 18) dX12_parses_18 sh_158 h.1 ?_
  have h := h.2
  refine g_iconst (pc := 19) (v := (4 : Int32)) dX12_parses_19 (by decide) ?_
  refine g_icmp_eq (pc := 20) (tgt := 56) dX12_parses_20 (by decide) (fun c20 => ?_) (fun c20 => ?_)
  · have h := h.1 c20
    refine g_iconst (pc := 56) (v := (1 : Int32)) dX12_parses_56 (by decide) ?_
    exact g_iret (pc := 57) dX12_parses_57 rfl rfl (nar_B isB1) h
  · have h := h.2 c20
    refine g_aload_n (pc := 23) (x := 156) dX12_parses_23 rfl ?_
    obtain ⟨Pm1, hRm1, h⟩ := h
    refine g_callV (pc := 24) (as := []) dX12_parses_24 cw_X12_338 (by decide) rfl rfl sh_156 (Nat.le_of_ble_eq_true rfl) hRm1 ?_
    intro r_ m1 hz_ hp_
    rcases h.1 r_ m1 hp_ with rfl | rfl
    · have h := h.2.1 m1 hp_
      refine g_if_ne (pc := 27) (tgt := 32) dX12_parses_27 (by decide) (fun _ => ?_) (fun c27 => absurd c27 (by decide))
      refine g_aload_n (pc := 32) (x := 156) dX12_parses_32 rfl ?_
      refine g_bipush (pc := 33) (v := (59 : Int32)) dX12_parses_33 (by decide) ?_
      refine g_callV (pc := 35) (as := [.int (59 : Int32)]) dX12_parses_35 cw_X12_256 (by decide) rfl rfl sh_156 (Nat.le_of_ble_eq_true rfl) (rv_X12_isSign m1 (59 : Int32) h.1) ?_
      have h := h.2
      rintro r_ m_ hz_ ⟨⟨p_, rfl⟩ | ⟨p_, rfl⟩, rfl⟩
      · have h := h.1 p_
        refine g_if_ne (pc := 38) (tgt := 47) dX12_parses_38 (by decide) (fun _ => ?_) (fun c38 => absurd c38 (by decide))
        refine g_aload_n (pc := 47) (x := 156) dX12_parses_47 rfl ?_
        obtain ⟨Pm2, hRm2, h⟩ := h
        refine g_callV (pc := 48) (as := []) dX12_parses_48 cw_X12_230 (by decide) rfl rfl sh_156 (Nat.le_of_ble_eq_true rfl) hRm2 ?_
        intro r_ m2 hz_ hp_
        rcases h.1 r_ m2 hp_ with rfl | rfl
        · have h := h.2.1 m2 hp_
          refine g_if_ne (pc := 51) (tgt := 10) dX12_parses_51 (by decide) (fun _ => ?_) (fun c51 => absurd c51 (by decide))
          exact h
        · have h := h.2.2 m2 hp_
          refine g_if_ne (pc := 51) (tgt := 10) dX12_parses_51 (by decide) (fun c51 => absurd c51 (by decide)) (fun _ => ?_)
          refine g_iconst (pc := 54) (v := (0 : Int32)) dX12_parses_54 (by decide) ?_
          exact g_iret (pc := 55) dX12_parses_55 rfl rfl (nar_B isB0) h
      · have h := h.2 p_
        refine g_if_ne (pc := 38) (tgt := 47) dX12_parses_38 (by decide) (fun c38 => absurd c38 (by decide)) (fun _ => ?_)
        refine g_aload_n (pc := 41) (x := 156) dX12_parses_41 rfl ?_
        refine g_iconst (pc := 42) (v := (1 : Int32)) dX12_parses_42 (by decide) ?_
        obtain ⟨Pm2, hRm2, h⟩ := h
        refine g_callV (pc := 43) (as := [.int (1 : Int32)]) dX12_parses_43 cw_X12_227 (by decide) rfl rfl sh_156 (Nat.le_of_ble_eq_true rfl) hRm2 ?_
        intro r_ m2 hz_ hp_
        rcases h.1 r_ m2 hp_ with rfl | rfl
        · have h := h.2.1 m2 hp_
          exact g_iret (pc := 46) dX12_parses_46 rfl rfl (nar_B isB1) h
        · have h := h.2.2 m2 hp_
          exact g_iret (pc := 46) dX12_parses_46 rfl rfl (nar_B isB0) h
    · have h := h.2.2 m1 hp_
      refine g_if_ne (pc := 27) (tgt := 32) dX12_parses_27 (by decide) (fun c27 => absurd c27 (by decide)) (fun _ => ?_)
      refine g_iconst (pc := 30) (v := (0 : Int32)) dX12_parses_30 (by decide) ?_
      exact g_iret (pc := 31) dX12_parses_31 rfl rfl (nar_B isB0) h
theorem dX12_read_0 : decode cX12_read 0 = .ok (.aload_n 0, 1) := by decide +kernel
theorem dX12_read_1 : decode cX12_read 1 = .ok (.invokevirtual 341, 3) := by decide +kernel
theorem dX12_read_4 : decode cX12_read 4 = .ok (.aload_n 0, 1) := by decide +kernel
theorem dX12_read_5 : decode cX12_read 5 = .ok (.iconst 0, 1) := by decide +kernel
theorem dX12_read_6 : decode cX12_read 6 = .ok (.putfield 215, 3) := by decide +kernel
theorem dX12_read_9 : decode cX12_read 9 = .ok (.aload_n 0, 1) := by decide +kernel
theorem dX12_read_10 : decode cX12_read 10 = .ok (.iconst (-1), 1) := by decide +kernel
theorem dX12_read_11 : decode cX12_read 11 = .ok (.putfield 26, 3) := by decide +kernel
theorem dX12_read_14 : decode cX12_read 14 = .ok (.aload_n 0, 1) := by decide +kernel
theorem dX12_read_15 : decode cX12_read 15 = .ok (.iconst 0, 1) := by decide +kernel
theorem dX12_read_16 : decode cX12_read 16 = .ok (.putfield 221, 3) := by decide +kernel
theorem dX12_read_19 : decode cX12_read 19 = .ok (.aload_n 0, 1) := by decide +kernel
theorem dX12_read_20 : decode cX12_read 20 = .ok (.iconst 1, 1) := by decide +kernel
theorem dX12_read_21 : decode cX12_read 21 = .ok (.invokevirtual 118, 3) := by decide +kernel
theorem dX12_read_24 : decode cX12_read 24 = .ok (.aload_n 0, 1) := by decide +kernel
theorem dX12_read_25 : decode cX12_read 25 = .ok (.invokevirtual 344, 3) := by decide +kernel
theorem dX12_read_28 : decode cX12_read 28 = .ok (.ifCond .eq 26, 3) := by decide +kernel
theorem dX12_read_31 : decode cX12_read 31 = .ok (.aload_n 0, 1) := by decide +kernel
theorem dX12_read_32 : decode cX12_read 32 = .ok (.getfield 221, 3) := by decide +kernel
theorem dX12_read_35 : decode cX12_read 35 = .ok (.ifCond .eq 19, 3) := by decide +kernel
theorem dX12_read_38 : decode cX12_read 38 = .ok (.aload_n 0, 1) := by decide +kernel
theorem dX12_read_39 : decode cX12_read 39 = .ok (.aload_n 0, 1) := by decide +kernel
theorem dX12_read_40 : decode cX12_read 40 = .ok (.getfield 221, 3) := by decide +kernel
theorem dX12_read_43 : decode cX12_read 43 = .ok (.putfield 215, 3) := by decide +kernel
theorem dX12_read_46 : decode cX12_read 46 = .ok (.aload_n 0, 1) := by decide +kernel
theorem dX12_read_47 : decode cX12_read 47 = .ok (.aload_n 0, 1) := by decide +kernel
theorem dX12_read_48 : decode cX12_read 48 = .ok (.getfield 224, 3) := by decide +kernel
theorem dX12_read_51 : decode cX12_read 51 = .ok (.putfield 26, 3) := by decide +kernel
theorem dX12_read_54 : decode cX12_read 54 = .ok (.aload_n 0, 1) := by decide +kernel
theorem dX12_read_55 : decode cX12_read 55 = .ok (.iconst 0, 1) := by decide +kernel
theorem dX12_read_56 : decode cX12_read 56 = .ok (.putfield 125, 3) := by decide +kernel
theorem dX12_read_59 : decode cX12_read 59 = .ok (.aload_n 0, 1) := by decide +kernel
theorem dX12_read_60 : decode cX12_read 60 = .ok (.getfield 215, 3) := by decide +kernel
theorem dX12_read_63 : decode cX12_read 63 = .ok (.ifCond .ne 7, 3) := by decide +kernel
theorem dX12_read_66 : decode cX12_read 66 = .ok (.aload_n 0, 1) := by decide +kernel
theorem dX12_read_67 : decode cX12_read 67 = .ok (.invokevirtual 347, 3) := by decide +kernel
theorem dX12_read_70 : decode cX12_read 70 = .ok (.aload_n 0, 1) := by decide +kernel
theorem dX12_read_71 : decode cX12_read 71 = .ok (.getfield 215, 3) := by decide +kernel
theorem dX12_read_74 : decode cX12_read 74 = .ok (.ireturn, 1) := by decide +kernel
theorem b_X12_read (mm : MM) (Q : Value → MM → Prop) (h : ∃ Pm1 : Value → MM → Prop, Runs e_X12_scanAll [.ref 156] mm Pm1 ∧ ∀ m1, Pm1 .null m1 → (∃ Pm2 : Value → MM → Prop, Runs e_X12_begin [.ref 156, .int (1 : Int32)] (wI (wI (wI m1 156 8 (0 : Int32)) 156 9 (-1 : Int32)) 156 10 (0 : Int32)) Pm2 ∧ ∀ m2, Pm2 .null m2 → (∃ Pm3 : Value → MM → Prop, Runs e_X12_parses [.ref 156] m2 Pm3 ∧ (∀ r m3, Pm3 r m3 → r = .int 1 ∨ r = .int 0) ∧ (∀ m3, Pm3 (.int 1) m3 → (((m3.1 156 10) = 0 → ((¬ ((wI m3 156 0 (0 : Int32)).1 156 8) = 0 → (Q (.int ((wI m3 156 0 (0 : Int32)).1 156 8)) (wI m3 156 0 (0 : Int32)))) ∧ (((wI m3 156 0 (0 : Int32)).1 156 8) = 0 → (∃ Pm4 : Value → MM → Prop, Runs e_X12_takesHold [.ref 156] (wI m3 156 0 (0 : Int32)) Pm4 ∧ ∀ m4, Pm4 .null m4 → (Q (.int (m4.1 156 8)) m4))))) ∧ (¬ (m3.1 156 10) = 0 → ((¬ ((wI (wI (wI m3 156 8 (m3.1 156 10)) 156 9 ((wI m3 156 8 (m3.1 156 10)).1 156 11)) 156 0 (0 : Int32)).1 156 8) = 0 → (Q (.int ((wI (wI (wI m3 156 8 (m3.1 156 10)) 156 9 ((wI m3 156 8 (m3.1 156 10)).1 156 11)) 156 0 (0 : Int32)).1 156 8)) (wI (wI (wI m3 156 8 (m3.1 156 10)) 156 9 ((wI m3 156 8 (m3.1 156 10)).1 156 11)) 156 0 (0 : Int32)))) ∧ (((wI (wI (wI m3 156 8 (m3.1 156 10)) 156 9 ((wI m3 156 8 (m3.1 156 10)).1 156 11)) 156 0 (0 : Int32)).1 156 8) = 0 → (∃ Pm4 : Value → MM → Prop, Runs e_X12_takesHold [.ref 156] (wI (wI (wI m3 156 8 (m3.1 156 10)) 156 9 ((wI m3 156 8 (m3.1 156 10)).1 156 11)) 156 0 (0 : Int32)) Pm4 ∧ ∀ m4, Pm4 .null m4 → (Q (.int (m4.1 156 8)) m4))))))) ∧ (∀ m3, Pm3 (.int 0) m3 → ((¬ ((wI m3 156 0 (0 : Int32)).1 156 8) = 0 → (Q (.int ((wI m3 156 0 (0 : Int32)).1 156 8)) (wI m3 156 0 (0 : Int32)))) ∧ (((wI m3 156 0 (0 : Int32)).1 156 8) = 0 → (∃ Pm4 : Value → MM → Prop, Runs e_X12_takesHold [.ref 156] (wI m3 156 0 (0 : Int32)) Pm4 ∧ ∀ m4, Pm4 .null m4 → (Q (.int (m4.1 156 8)) m4)))))))) : Runs e_X12_read [.ref 156] mm Q := by
  refine runs_of_G (L := [(0, .ref 156)]) pl_X12 (Nat.le_of_ble_eq_true rfl) rfl ?_
  refine g_aload_n (pc := 0) (x := 156) dX12_read_0 rfl ?_
  obtain ⟨Pm1, hRm1, h⟩ := h
  refine g_callV (pc := 1) (as := []) dX12_read_1 cw_X12_341 (by decide) rfl rfl sh_156 (Nat.le_of_ble_eq_true rfl) hRm1 ?_
  intro r_ m1 hz_ hp_
  obtain rfl := hz_
  have h := h m1 hp_
  refine g_aload_n (pc := 4) (x := 156) dX12_read_4 rfl ?_
  refine g_iconst (pc := 5) (v := (0 : Int32)) dX12_read_5 (by decide) ?_
  refine g_putI (pc := 6) dX12_read_6 fo_X12_215 sh_156 rfl rfl rfl ?_
  refine g_aload_n (pc := 9) (x := 156) dX12_read_9 rfl ?_
  refine g_iconst (pc := 10) (v := (-1 : Int32)) dX12_read_10 (by decide) ?_
  refine g_putI (pc := 11) dX12_read_11 fo_X12_26 sh_156 rfl rfl rfl ?_
  refine g_aload_n (pc := 14) (x := 156) dX12_read_14 rfl ?_
  refine g_iconst (pc := 15) (v := (0 : Int32)) dX12_read_15 (by decide) ?_
  refine g_putI (pc := 16) dX12_read_16 fo_X12_221 sh_156 rfl rfl rfl ?_
  refine g_aload_n (pc := 19) (x := 156) dX12_read_19 rfl ?_
  refine g_iconst (pc := 20) (v := (1 : Int32)) dX12_read_20 (by decide) ?_
  obtain ⟨Pm2, hRm2, h⟩ := h
  refine g_callV (pc := 21) (as := [.int (1 : Int32)]) dX12_read_21 cw_X12_118 (by decide) rfl rfl sh_156 (Nat.le_of_ble_eq_true rfl) hRm2 ?_
  intro r_ m2 hz_ hp_
  obtain rfl := hz_
  have h := h m2 hp_
  refine g_aload_n (pc := 24) (x := 156) dX12_read_24 rfl ?_
  obtain ⟨Pm3, hRm3, h⟩ := h
  refine g_callV (pc := 25) (as := []) dX12_read_25 cw_X12_344 (by decide) rfl rfl sh_156 (Nat.le_of_ble_eq_true rfl) hRm3 ?_
  intro r_ m3 hz_ hp_
  rcases h.1 r_ m3 hp_ with rfl | rfl
  · have h := h.2.1 m3 hp_
    refine g_if_eq (pc := 28) (tgt := 54) dX12_read_28 (by decide) (fun c28 => absurd c28 (by decide)) (fun _ => ?_)
    refine g_aload_n (pc := 31) (x := 156) dX12_read_31 rfl ?_
    refine g_getI (pc := 32) dX12_read_32 fo_X12_221 sh_156 rfl ?_
    refine g_if_eq (pc := 35) (tgt := 54) dX12_read_35 (by decide) (fun c35 => ?_) (fun c35 => ?_)
    · have h := h.1 c35
      refine g_aload_n (pc := 54) (x := 156) dX12_read_54 rfl ?_
      refine g_iconst (pc := 55) (v := (0 : Int32)) dX12_read_55 (by decide) ?_
      refine g_putI (pc := 56) dX12_read_56 fo_X12_125 sh_156 rfl rfl rfl ?_
      refine g_aload_n (pc := 59) (x := 156) dX12_read_59 rfl ?_
      refine g_getI (pc := 60) dX12_read_60 fo_X12_215 sh_156 rfl ?_
      refine g_if_ne (pc := 63) (tgt := 70) dX12_read_63 (by decide) (fun c63 => ?_) (fun c63 => ?_)
      · have h := h.1 c63
        refine g_aload_n (pc := 70) (x := 156) dX12_read_70 rfl ?_
        refine g_getI (pc := 71) dX12_read_71 fo_X12_215 sh_156 rfl ?_
        exact g_iret (pc := 74) dX12_read_74 rfl rfl rfl h
      · have h := h.2 c63
        refine g_aload_n (pc := 66) (x := 156) dX12_read_66 rfl ?_
        obtain ⟨Pm4, hRm4, h⟩ := h
        refine g_callV (pc := 67) (as := []) dX12_read_67 cw_X12_347 (by decide) rfl rfl sh_156 (Nat.le_of_ble_eq_true rfl) hRm4 ?_
        intro r_ m4 hz_ hp_
        obtain rfl := hz_
        have h := h m4 hp_
        refine g_aload_n (pc := 70) (x := 156) dX12_read_70 rfl ?_
        refine g_getI (pc := 71) dX12_read_71 fo_X12_215 sh_156 rfl ?_
        exact g_iret (pc := 74) dX12_read_74 rfl rfl rfl h
    · have h := h.2 c35
      refine g_aload_n (pc := 38) (x := 156) dX12_read_38 rfl ?_
      refine g_aload_n (pc := 39) (x := 156) dX12_read_39 rfl ?_
      refine g_getI (pc := 40) dX12_read_40 fo_X12_221 sh_156 rfl ?_
      refine g_putI (pc := 43) dX12_read_43 fo_X12_215 sh_156 rfl rfl rfl ?_
      refine g_aload_n (pc := 46) (x := 156) dX12_read_46 rfl ?_
      refine g_aload_n (pc := 47) (x := 156) dX12_read_47 rfl ?_
      refine g_getI (pc := 48) dX12_read_48 fo_X12_224 sh_156 rfl ?_
      refine g_putI (pc := 51) dX12_read_51 fo_X12_26 sh_156 rfl rfl rfl ?_
      refine g_aload_n (pc := 54) (x := 156) dX12_read_54 rfl ?_
      refine g_iconst (pc := 55) (v := (0 : Int32)) dX12_read_55 (by decide) ?_
      refine g_putI (pc := 56) dX12_read_56 fo_X12_125 sh_156 rfl rfl rfl ?_
      refine g_aload_n (pc := 59) (x := 156) dX12_read_59 rfl ?_
      refine g_getI (pc := 60) dX12_read_60 fo_X12_215 sh_156 rfl ?_
      refine g_if_ne (pc := 63) (tgt := 70) dX12_read_63 (by decide) (fun c63 => ?_) (fun c63 => ?_)
      · have h := h.1 c63
        refine g_aload_n (pc := 70) (x := 156) dX12_read_70 rfl ?_
        refine g_getI (pc := 71) dX12_read_71 fo_X12_215 sh_156 rfl ?_
        exact g_iret (pc := 74) dX12_read_74 rfl rfl rfl h
      · have h := h.2 c63
        refine g_aload_n (pc := 66) (x := 156) dX12_read_66 rfl ?_
        obtain ⟨Pm4, hRm4, h⟩ := h
        refine g_callV (pc := 67) (as := []) dX12_read_67 cw_X12_347 (by decide) rfl rfl sh_156 (Nat.le_of_ble_eq_true rfl) hRm4 ?_
        intro r_ m4 hz_ hp_
        obtain rfl := hz_
        have h := h m4 hp_
        refine g_aload_n (pc := 70) (x := 156) dX12_read_70 rfl ?_
        refine g_getI (pc := 71) dX12_read_71 fo_X12_215 sh_156 rfl ?_
        exact g_iret (pc := 74) dX12_read_74 rfl rfl rfl h
  · have h := h.2.2 m3 hp_
    refine g_if_eq (pc := 28) (tgt := 54) dX12_read_28 (by decide) (fun _ => ?_) (fun c28 => absurd c28 (by decide))
    refine g_aload_n (pc := 54) (x := 156) dX12_read_54 rfl ?_
    refine g_iconst (pc := 55) (v := (0 : Int32)) dX12_read_55 (by decide) ?_
    refine g_putI (pc := 56) dX12_read_56 fo_X12_125 sh_156 rfl rfl rfl ?_
    refine g_aload_n (pc := 59) (x := 156) dX12_read_59 rfl ?_
    refine g_getI (pc := 60) dX12_read_60 fo_X12_215 sh_156 rfl ?_
    refine g_if_ne (pc := 63) (tgt := 70) dX12_read_63 (by decide) (fun c63 => ?_) (fun c63 => ?_)
    · have h := h.1 c63
      refine g_aload_n (pc := 70) (x := 156) dX12_read_70 rfl ?_
      refine g_getI (pc := 71) dX12_read_71 fo_X12_215 sh_156 rfl ?_
      exact g_iret (pc := 74) dX12_read_74 rfl rfl rfl h
    · have h := h.2 c63
      refine g_aload_n (pc := 66) (x := 156) dX12_read_66 rfl ?_
      obtain ⟨Pm4, hRm4, h⟩ := h
      refine g_callV (pc := 67) (as := []) dX12_read_67 cw_X12_347 (by decide) rfl rfl sh_156 (Nat.le_of_ble_eq_true rfl) hRm4 ?_
      intro r_ m4 hz_ hp_
      obtain rfl := hz_
      have h := h m4 hp_
      refine g_aload_n (pc := 70) (x := 156) dX12_read_70 rfl ?_
      refine g_getI (pc := 71) dX12_read_71 fo_X12_215 sh_156 rfl ?_
      exact g_iret (pc := 74) dX12_read_74 rfl rfl rfl h
theorem dX12_place_0 : decode cX12_place 0 = .ok (.aload_n 0, 1) := by decide +kernel
theorem dX12_place_1 : decode cX12_place 1 = .ok (.getfield 26, 3) := by decide +kernel
theorem dX12_place_4 : decode cX12_place 4 = .ok (.ireturn, 1) := by decide +kernel
noncomputable def v_X12_place (mm : MM) : Int32 := (mm.1 156 9)
theorem rv_X12_place (mm : MM) : Runs e_X12_place [.ref 156] mm (fun r m_ => r = .int (v_X12_place mm) ∧ mm = m_) := by
  refine runs_of_G (L := [(0, .ref 156)]) pl_X12 (Nat.le_of_ble_eq_true rfl) rfl ?_
  refine g_aload_n (pc := 0) (x := 156) dX12_place_0 rfl ?_
  refine g_getI (pc := 1) dX12_place_1 fo_X12_26 sh_156 rfl ?_
  exact g_iret (pc := 4) dX12_place_4 rfl rfl rfl ⟨rfl, rfl⟩
theorem dX12_sum_0 : decode cX12_sum 0 = .ok (.iconst 0, 1) := by decide +kernel
theorem dX12_sum_1 : decode cX12_sum 1 = .ok (.istore_n 3, 1) := by decide +kernel
theorem dX12_sum_2 : decode cX12_sum 2 = .ok (.aload_n 0, 1) := by decide +kernel
theorem dX12_sum_3 : decode cX12_sum 3 = .ok (.iconst 0, 1) := by decide +kernel
theorem dX12_sum_4 : decode cX12_sum 4 = .ok (.putfield 350, 3) := by decide +kernel
theorem dX12_sum_7 : decode cX12_sum 7 = .ok (.iload_n 1, 1) := by decide +kernel
theorem dX12_sum_8 : decode cX12_sum 8 = .ok (.istore 4, 2) := by decide +kernel
theorem dX12_sum_10 : decode cX12_sum 10 = .ok (.iload 4, 2) := by decide +kernel
theorem dX12_sum_12 : decode cX12_sum 12 = .ok (.iload_n 2, 1) := by decide +kernel
theorem dX12_sum_13 : decode cX12_sum 13 = .ok (.if_icmp .ge 159, 3) := by decide +kernel
theorem dX12_sum_16 : decode cX12_sum 16 = .ok (.aload_n 0, 1) := by decide +kernel
theorem dX12_sum_17 : decode cX12_sum 17 = .ok (.getfield 39, 3) := by decide +kernel
theorem dX12_sum_20 : decode cX12_sum 20 = .ok (.iload 4, 2) := by decide +kernel
theorem dX12_sum_22 : decode cX12_sum 22 = .ok (.iaload, 1) := by decide +kernel
theorem dX12_sum_23 : decode cX12_sum 23 = .ok (.istore 5, 2) := by decide +kernel
theorem dX12_sum_25 : decode cX12_sum 25 = .ok (.iload 5, 2) := by decide +kernel
theorem dX12_sum_27 : decode cX12_sum 27 = .ok (.iconst 2, 1) := by decide +kernel
theorem dX12_sum_28 : decode cX12_sum 28 = .ok (.if_icmp .ge 42, 3) := by decide +kernel
theorem dX12_sum_31 : decode cX12_sum 31 = .ok (.aload_n 0, 1) := by decide +kernel
theorem dX12_sum_32 : decode cX12_sum 32 = .ok (.getfield 85, 3) := by decide +kernel
theorem dX12_sum_35 : decode cX12_sum 35 = .ok (.iload_n 3, 1) := by decide +kernel
theorem dX12_sum_36 : decode cX12_sum 36 = .ok (.iload 5, 2) := by decide +kernel
theorem dX12_sum_38 : decode cX12_sum 38 = .ok (.ifCond .ne 13, 3) := by decide +kernel
theorem dX12_sum_41 : decode cX12_sum 41 = .ok (.aload_n 0, 1) := by decide +kernel
theorem dX12_sum_42 : decode cX12_sum 42 = .ok (.getfield 42, 3) := by decide +kernel
theorem dX12_sum_45 : decode cX12_sum 45 = .ok (.iload 4, 2) := by decide +kernel
theorem dX12_sum_47 : decode cX12_sum 47 = .ok (.iaload, 1) := by decide +kernel
theorem dX12_sum_48 : decode cX12_sum 48 = .ok (.goto 15, 3) := by decide +kernel
theorem dX12_sum_51 : decode cX12_sum 51 = .ok (.aload_n 0, 1) := by decide +kernel
theorem dX12_sum_52 : decode cX12_sum 52 = .ok (.getfield 82, 3) := by decide +kernel
theorem dX12_sum_55 : decode cX12_sum 55 = .ok (.aload_n 0, 1) := by decide +kernel
theorem dX12_sum_56 : decode cX12_sum 56 = .ok (.getfield 42, 3) := by decide +kernel
theorem dX12_sum_59 : decode cX12_sum 59 = .ok (.iload 4, 2) := by decide +kernel
theorem dX12_sum_61 : decode cX12_sum 61 = .ok (.iaload, 1) := by decide +kernel
theorem dX12_sum_62 : decode cX12_sum 62 = .ok (.iaload, 1) := by decide +kernel
theorem dX12_sum_63 : decode cX12_sum 63 = .ok (.iastore, 1) := by decide +kernel
theorem dX12_sum_64 : decode cX12_sum 64 = .ok (.iinc 3 1, 3) := by decide +kernel
theorem dX12_sum_67 : decode cX12_sum 67 = .ok (.goto 99, 3) := by decide +kernel
theorem dX12_sum_70 : decode cX12_sum 70 = .ok (.aload_n 0, 1) := by decide +kernel
theorem dX12_sum_71 : decode cX12_sum 71 = .ok (.getfield 85, 3) := by decide +kernel
theorem dX12_sum_74 : decode cX12_sum 74 = .ok (.iload_n 3, 1) := by decide +kernel
theorem dX12_sum_75 : decode cX12_sum 75 = .ok (.iconst 1, 1) := by decide +kernel
theorem dX12_sum_76 : decode cX12_sum 76 = .ok (.isub, 1) := by decide +kernel
theorem dX12_sum_77 : decode cX12_sum 77 = .ok (.iaload, 1) := by decide +kernel
theorem dX12_sum_78 : decode cX12_sum 78 = .ok (.istore 6, 2) := by decide +kernel
theorem dX12_sum_80 : decode cX12_sum 80 = .ok (.aload_n 0, 1) := by decide +kernel
theorem dX12_sum_81 : decode cX12_sum 81 = .ok (.getfield 85, 3) := by decide +kernel
theorem dX12_sum_84 : decode cX12_sum 84 = .ok (.iload_n 3, 1) := by decide +kernel
theorem dX12_sum_85 : decode cX12_sum 85 = .ok (.iconst 2, 1) := by decide +kernel
theorem dX12_sum_86 : decode cX12_sum 86 = .ok (.isub, 1) := by decide +kernel
theorem dX12_sum_87 : decode cX12_sum 87 = .ok (.iaload, 1) := by decide +kernel
theorem dX12_sum_88 : decode cX12_sum 88 = .ok (.istore 7, 2) := by decide +kernel
theorem dX12_sum_90 : decode cX12_sum 90 = .ok (.iinc 3 (-1), 3) := by decide +kernel
theorem dX12_sum_93 : decode cX12_sum 93 = .ok (.iload 5, 2) := by decide +kernel
theorem dX12_sum_95 : decode cX12_sum 95 = .ok (.iconst 5, 1) := by decide +kernel
theorem dX12_sum_96 : decode cX12_sum 96 = .ok (.if_icmp .ne 15, 3) := by decide +kernel
theorem dX12_sum_99 : decode cX12_sum 99 = .ok (.iload 6, 2) := by decide +kernel
theorem dX12_sum_101 : decode cX12_sum 101 = .ok (.ifCond .ne 10, 3) := by decide +kernel
theorem dX12_sum_104 : decode cX12_sum 104 = .ok (.aload_n 0, 1) := by decide +kernel
theorem dX12_sum_105 : decode cX12_sum 105 = .ok (.iconst 1, 1) := by decide +kernel
theorem dX12_sum_106 : decode cX12_sum 106 = .ok (.putfield 350, 3) := by decide +kernel
theorem dX12_sum_109 : decode cX12_sum 109 = .ok (.iconst 0, 1) := by decide +kernel
theorem dX12_sum_110 : decode cX12_sum 110 = .ok (.ireturn, 1) := by decide +kernel
theorem dX12_sum_111 : decode cX12_sum 111 = .ok (.aload_n 0, 1) := by decide +kernel
theorem dX12_sum_112 : decode cX12_sum 112 = .ok (.getfield 85, 3) := by decide +kernel
theorem dX12_sum_115 : decode cX12_sum 115 = .ok (.iload_n 3, 1) := by decide +kernel
theorem dX12_sum_116 : decode cX12_sum 116 = .ok (.iconst 1, 1) := by decide +kernel
theorem dX12_sum_117 : decode cX12_sum 117 = .ok (.isub, 1) := by decide +kernel
theorem dX12_sum_118 : decode cX12_sum 118 = .ok (.iload 5, 2) := by decide +kernel
theorem dX12_sum_120 : decode cX12_sum 120 = .ok (.iconst 2, 1) := by decide +kernel
theorem dX12_sum_121 : decode cX12_sum 121 = .ok (.if_icmp .ne 11, 3) := by decide +kernel
theorem dX12_sum_124 : decode cX12_sum 124 = .ok (.iload 7, 2) := by decide +kernel
theorem dX12_sum_126 : decode cX12_sum 126 = .ok (.iload 6, 2) := by decide +kernel
theorem dX12_sum_128 : decode cX12_sum 128 = .ok (.iadd, 1) := by decide +kernel
theorem dX12_sum_129 : decode cX12_sum 129 = .ok (.goto 36, 3) := by decide +kernel
theorem dX12_sum_132 : decode cX12_sum 132 = .ok (.iload 5, 2) := by decide +kernel
theorem dX12_sum_134 : decode cX12_sum 134 = .ok (.iconst 3, 1) := by decide +kernel
theorem dX12_sum_135 : decode cX12_sum 135 = .ok (.if_icmp .ne 11, 3) := by decide +kernel
theorem dX12_sum_138 : decode cX12_sum 138 = .ok (.iload 7, 2) := by decide +kernel
theorem dX12_sum_140 : decode cX12_sum 140 = .ok (.iload 6, 2) := by decide +kernel
theorem dX12_sum_142 : decode cX12_sum 142 = .ok (.isub, 1) := by decide +kernel
theorem dX12_sum_143 : decode cX12_sum 143 = .ok (.goto 22, 3) := by decide +kernel
theorem dX12_sum_146 : decode cX12_sum 146 = .ok (.iload 5, 2) := by decide +kernel
theorem dX12_sum_148 : decode cX12_sum 148 = .ok (.iconst 4, 1) := by decide +kernel
theorem dX12_sum_149 : decode cX12_sum 149 = .ok (.if_icmp .ne 11, 3) := by decide +kernel
theorem dX12_sum_152 : decode cX12_sum 152 = .ok (.iload 7, 2) := by decide +kernel
theorem dX12_sum_154 : decode cX12_sum 154 = .ok (.iload 6, 2) := by decide +kernel
theorem dX12_sum_156 : decode cX12_sum 156 = .ok (.imul, 1) := by decide +kernel
theorem dX12_sum_157 : decode cX12_sum 157 = .ok (.goto 8, 3) := by decide +kernel
theorem dX12_sum_160 : decode cX12_sum 160 = .ok (.iload 7, 2) := by decide +kernel
theorem dX12_sum_162 : decode cX12_sum 162 = .ok (.iload 6, 2) := by decide +kernel
theorem dX12_sum_164 : decode cX12_sum 164 = .ok (.idiv, 1) := by decide +kernel
theorem dX12_sum_165 : decode cX12_sum 165 = .ok (.iastore, 1) := by decide +kernel
theorem dX12_sum_166 : decode cX12_sum 166 = .ok (.iinc 4 1, 3) := by decide +kernel
theorem dX12_sum_169 : decode cX12_sum 169 = .ok (.goto (-159), 3) := by decide +kernel
theorem dX12_sum_172 : decode cX12_sum 172 = .ok (.aload_n 0, 1) := by decide +kernel
theorem dX12_sum_173 : decode cX12_sum 173 = .ok (.getfield 85, 3) := by decide +kernel
theorem dX12_sum_176 : decode cX12_sum 176 = .ok (.iconst 0, 1) := by decide +kernel
theorem dX12_sum_177 : decode cX12_sum 177 = .ok (.iaload, 1) := by decide +kernel
theorem dX12_sum_178 : decode cX12_sum 178 = .ok (.ireturn, 1) := by decide +kernel
theorem b_X12_sum (mm : MM) (Q : Value → MM → Prop) (a1 : Int32) (a2 : Int32) (h : G e_X12_sum 10 [(0, .ref 156), (2, .int a2), (3, .int (0 : Int32)), (4, .int a1)] [] (wI mm 156 35 (0 : Int32)) Q) : Runs e_X12_sum [.ref 156, .int a1, .int a2] mm Q := by
  refine runs_of_G (L := [(0, .ref 156), (1, .int a1), (2, .int a2)]) pl_X12 (Nat.le_of_ble_eq_true rfl) rfl ?_
  refine g_iconst (pc := 0) (v := (0 : Int32)) dX12_sum_0 (by decide) ?_
  refine g_istore_n (pc := 1) (L' := [(0, .ref 156), (1, .int a1), (2, .int a2), (3, .int (0 : Int32))]) dX12_sum_1 (Nat.le_of_ble_eq_true rfl) rfl ?_
  refine g_aload_n (pc := 2) (x := 156) dX12_sum_2 rfl ?_
  refine g_iconst (pc := 3) (v := (0 : Int32)) dX12_sum_3 (by decide) ?_
  refine g_putI (pc := 4) dX12_sum_4 fo_X12_350 sh_156 rfl (nar_B isB0) (fit_B isB0) ?_
  refine g_iload_n (pc := 7) (x := a1) dX12_sum_7 rfl ?_
  refine g_istore (pc := 8) (L' := [(0, .ref 156), (1, .int a1), (2, .int a2), (3, .int (0 : Int32)), (4, .int a1)]) dX12_sum_8 (Nat.le_of_ble_eq_true rfl) rfl ?_
  refine g_sub (L' := [(0, .ref 156), (2, .int a2), (3, .int (0 : Int32)), (4, .int a1)]) [0, 2, 3, 4] rfl ?_
  exact h
theorem b_X12_sum_10 (mm : MM) (Q : Value → MM → Prop) (l2 : Int32) (l3 : Int32) (l4 : Int32) (h : (l2 ≤ l4 → (Q (.int (mm.1 180 0)) mm)) ∧ (¬ l2 ≤ l4 → (vp_in l4 1000 ∧ (((2 : Int32) ≤ (mm.1 165 l4.toNatClampNeg) → (vp_in (l3 - (1 : Int32)) 500 ∧ (vp_in (l3 - (2 : Int32)) 500 ∧ ((¬ (mm.1 165 l4.toNatClampNeg) = (5 : Int32) → ((¬ (mm.1 165 l4.toNatClampNeg) = (2 : Int32) → ((¬ (mm.1 165 l4.toNatClampNeg) = (3 : Int32) → ((¬ (mm.1 165 l4.toNatClampNeg) = (4 : Int32) → (¬ (mm.1 180 (l3 - (1 : Int32)).toNatClampNeg) = 0 ∧ (vp_in ((l3 + (-1 : Int32)) - (1 : Int32)) 500 ∧ (G e_X12_sum 10 [(0, .ref 156), (2, .int l2), (3, .int (l3 + (-1 : Int32))), (4, .int (l4 + (1 : Int32)))] [] (wI mm 180 (((l3 + (-1 : Int32)) - (1 : Int32)).toNatClampNeg) ((mm.1 180 (l3 - (2 : Int32)).toNatClampNeg) / (mm.1 180 (l3 - (1 : Int32)).toNatClampNeg))) Q)))) ∧ ((mm.1 165 l4.toNatClampNeg) = (4 : Int32) → (vp_in ((l3 + (-1 : Int32)) - (1 : Int32)) 500 ∧ (G e_X12_sum 10 [(0, .ref 156), (2, .int l2), (3, .int (l3 + (-1 : Int32))), (4, .int (l4 + (1 : Int32)))] [] (wI mm 180 (((l3 + (-1 : Int32)) - (1 : Int32)).toNatClampNeg) ((mm.1 180 (l3 - (2 : Int32)).toNatClampNeg) * (mm.1 180 (l3 - (1 : Int32)).toNatClampNeg))) Q))))) ∧ ((mm.1 165 l4.toNatClampNeg) = (3 : Int32) → (vp_in ((l3 + (-1 : Int32)) - (1 : Int32)) 500 ∧ (G e_X12_sum 10 [(0, .ref 156), (2, .int l2), (3, .int (l3 + (-1 : Int32))), (4, .int (l4 + (1 : Int32)))] [] (wI mm 180 (((l3 + (-1 : Int32)) - (1 : Int32)).toNatClampNeg) ((mm.1 180 (l3 - (2 : Int32)).toNatClampNeg) - (mm.1 180 (l3 - (1 : Int32)).toNatClampNeg))) Q))))) ∧ ((mm.1 165 l4.toNatClampNeg) = (2 : Int32) → (vp_in ((l3 + (-1 : Int32)) - (1 : Int32)) 500 ∧ (G e_X12_sum 10 [(0, .ref 156), (2, .int l2), (3, .int (l3 + (-1 : Int32))), (4, .int (l4 + (1 : Int32)))] [] (wI mm 180 (((l3 + (-1 : Int32)) - (1 : Int32)).toNatClampNeg) ((mm.1 180 (l3 - (2 : Int32)).toNatClampNeg) + (mm.1 180 (l3 - (1 : Int32)).toNatClampNeg))) Q))))) ∧ ((mm.1 165 l4.toNatClampNeg) = (5 : Int32) → ((¬ (mm.1 180 (l3 - (1 : Int32)).toNatClampNeg) = 0 → ((¬ (mm.1 165 l4.toNatClampNeg) = (2 : Int32) → ((¬ (mm.1 165 l4.toNatClampNeg) = (3 : Int32) → ((¬ (mm.1 165 l4.toNatClampNeg) = (4 : Int32) → (¬ (mm.1 180 (l3 - (1 : Int32)).toNatClampNeg) = 0 ∧ (vp_in ((l3 + (-1 : Int32)) - (1 : Int32)) 500 ∧ (G e_X12_sum 10 [(0, .ref 156), (2, .int l2), (3, .int (l3 + (-1 : Int32))), (4, .int (l4 + (1 : Int32)))] [] (wI mm 180 (((l3 + (-1 : Int32)) - (1 : Int32)).toNatClampNeg) ((mm.1 180 (l3 - (2 : Int32)).toNatClampNeg) / (mm.1 180 (l3 - (1 : Int32)).toNatClampNeg))) Q)))) ∧ ((mm.1 165 l4.toNatClampNeg) = (4 : Int32) → (vp_in ((l3 + (-1 : Int32)) - (1 : Int32)) 500 ∧ (G e_X12_sum 10 [(0, .ref 156), (2, .int l2), (3, .int (l3 + (-1 : Int32))), (4, .int (l4 + (1 : Int32)))] [] (wI mm 180 (((l3 + (-1 : Int32)) - (1 : Int32)).toNatClampNeg) ((mm.1 180 (l3 - (2 : Int32)).toNatClampNeg) * (mm.1 180 (l3 - (1 : Int32)).toNatClampNeg))) Q))))) ∧ ((mm.1 165 l4.toNatClampNeg) = (3 : Int32) → (vp_in ((l3 + (-1 : Int32)) - (1 : Int32)) 500 ∧ (G e_X12_sum 10 [(0, .ref 156), (2, .int l2), (3, .int (l3 + (-1 : Int32))), (4, .int (l4 + (1 : Int32)))] [] (wI mm 180 (((l3 + (-1 : Int32)) - (1 : Int32)).toNatClampNeg) ((mm.1 180 (l3 - (2 : Int32)).toNatClampNeg) - (mm.1 180 (l3 - (1 : Int32)).toNatClampNeg))) Q))))) ∧ ((mm.1 165 l4.toNatClampNeg) = (2 : Int32) → (vp_in ((l3 + (-1 : Int32)) - (1 : Int32)) 500 ∧ (G e_X12_sum 10 [(0, .ref 156), (2, .int l2), (3, .int (l3 + (-1 : Int32))), (4, .int (l4 + (1 : Int32)))] [] (wI mm 180 (((l3 + (-1 : Int32)) - (1 : Int32)).toNatClampNeg) ((mm.1 180 (l3 - (2 : Int32)).toNatClampNeg) + (mm.1 180 (l3 - (1 : Int32)).toNatClampNeg))) Q))))) ∧ ((mm.1 180 (l3 - (1 : Int32)).toNatClampNeg) = 0 → (Q (.int (0 : Int32)) (wI mm 156 35 (1 : Int32)))))))))) ∧ (¬ (2 : Int32) ≤ (mm.1 165 l4.toNatClampNeg) → ((¬ (mm.1 165 l4.toNatClampNeg) = 0 → (vp_in l4 1000 ∧ (vp_in (mm.1 166 l4.toNatClampNeg) 9 ∧ (vp_in l3 500 ∧ (G e_X12_sum 10 [(0, .ref 156), (2, .int l2), (3, .int (l3 + (1 : Int32))), (4, .int (l4 + (1 : Int32)))] [] (wI mm 180 (l3.toNatClampNeg) (mm.1 179 (mm.1 166 l4.toNatClampNeg).toNatClampNeg)) Q))))) ∧ ((mm.1 165 l4.toNatClampNeg) = 0 → (vp_in l4 1000 ∧ (vp_in l3 500 ∧ (G e_X12_sum 10 [(0, .ref 156), (2, .int l2), (3, .int (l3 + (1 : Int32))), (4, .int (l4 + (1 : Int32)))] [] (wI mm 180 (l3.toNatClampNeg) (mm.1 166 l4.toNatClampNeg)) Q)))))))))) : G e_X12_sum 10 [(0, .ref 156), (2, .int l2), (3, .int l3), (4, .int l4)] [] mm Q := by
  refine g_iload (pc := 10) (x := l4) dX12_sum_10 rfl ?_
  refine g_iload_n (pc := 12) (x := l2) dX12_sum_12 rfl ?_
  refine g_icmp_ge (pc := 13) (tgt := 172) dX12_sum_13 (by decide) (fun c13 => ?_) (fun c13 => ?_)
  · have h := h.1 c13
    refine g_aload_n (pc := 172) (x := 156) dX12_sum_172 rfl ?_
    refine g_getR (pc := 173) (dd := 24) dX12_sum_173 fo_X12_85 sh_156 rfl ?_
    refine g_iconst (pc := 176) (v := (0 : Int32)) dX12_sum_176 (by decide) ?_
    refine g_iaload (pc := 177) dX12_sum_177 sh_180 (vp_in_nI (n := 0) (N := 500) (by decide) (by decide)) ?_
    exact g_iret (pc := 178) dX12_sum_178 rfl rfl rfl h
  · have h := h.2 c13
    refine g_aload_n (pc := 16) (x := 156) dX12_sum_16 rfl ?_
    refine g_getR (pc := 17) (dd := 9) dX12_sum_17 fo_X12_39 sh_156 rfl ?_
    refine g_iload (pc := 20) (x := l4) dX12_sum_20 rfl ?_
    refine g_iaload (pc := 22) dX12_sum_22 sh_165 h.1 ?_
    have h := h.2
    refine g_istore (pc := 23) (L' := [(0, .ref 156), (2, .int l2), (3, .int l3), (4, .int l4), (5, .int (mm.1 165 l4.toNatClampNeg))]) dX12_sum_23 (Nat.le_of_ble_eq_true rfl) rfl ?_
    refine g_iload (pc := 25) (x := (mm.1 165 l4.toNatClampNeg)) dX12_sum_25 rfl ?_
    refine g_iconst (pc := 27) (v := (2 : Int32)) dX12_sum_27 (by decide) ?_
    refine g_icmp_ge (pc := 28) (tgt := 70) dX12_sum_28 (by decide) (fun c28 => ?_) (fun c28 => ?_)
    · have h := h.1 c28
      refine g_aload_n (pc := 70) (x := 156) dX12_sum_70 rfl ?_
      refine g_getR (pc := 71) (dd := 24) dX12_sum_71 fo_X12_85 sh_156 rfl ?_
      refine g_iload_n (pc := 74) (x := l3) dX12_sum_74 rfl ?_
      refine g_iconst (pc := 75) (v := (1 : Int32)) dX12_sum_75 (by decide) ?_
      refine g_isub (pc := 76) dX12_sum_76 ?_
      refine g_iaload (pc := 77) dX12_sum_77 sh_180 h.1 ?_
      have h := h.2
      refine g_istore (pc := 78) (L' := [(0, .ref 156), (2, .int l2), (3, .int l3), (4, .int l4), (5, .int (mm.1 165 l4.toNatClampNeg)), (6, .int (mm.1 180 (l3 - (1 : Int32)).toNatClampNeg))]) dX12_sum_78 (Nat.le_of_ble_eq_true rfl) rfl ?_
      refine g_aload_n (pc := 80) (x := 156) dX12_sum_80 rfl ?_
      refine g_getR (pc := 81) (dd := 24) dX12_sum_81 fo_X12_85 sh_156 rfl ?_
      refine g_iload_n (pc := 84) (x := l3) dX12_sum_84 rfl ?_
      refine g_iconst (pc := 85) (v := (2 : Int32)) dX12_sum_85 (by decide) ?_
      refine g_isub (pc := 86) dX12_sum_86 ?_
      refine g_iaload (pc := 87) dX12_sum_87 sh_180 h.1 ?_
      have h := h.2
      refine g_istore (pc := 88) (L' := [(0, .ref 156), (2, .int l2), (3, .int l3), (4, .int l4), (5, .int (mm.1 165 l4.toNatClampNeg)), (6, .int (mm.1 180 (l3 - (1 : Int32)).toNatClampNeg)), (7, .int (mm.1 180 (l3 - (2 : Int32)).toNatClampNeg))]) dX12_sum_88 (Nat.le_of_ble_eq_true rfl) rfl ?_
      refine g_iinc (pc := 90) (x := l3) (v := (l3 + (-1 : Int32))) (L' := [(0, .ref 156), (2, .int l2), (3, .int (l3 + (-1 : Int32))), (4, .int l4), (5, .int (mm.1 165 l4.toNatClampNeg)), (6, .int (mm.1 180 (l3 - (1 : Int32)).toNatClampNeg)), (7, .int (mm.1 180 (l3 - (2 : Int32)).toNatClampNeg))]) dX12_sum_90 rfl rfl (Nat.le_of_ble_eq_true rfl) rfl ?_
      refine g_iload (pc := 93) (x := (mm.1 165 l4.toNatClampNeg)) dX12_sum_93 rfl ?_
      refine g_iconst (pc := 95) (v := (5 : Int32)) dX12_sum_95 (by decide) ?_
      refine g_icmp_ne (pc := 96) (tgt := 111) dX12_sum_96 (by decide) (fun c96 => ?_) (fun c96 => ?_)
      · have h := h.1 c96
        refine g_aload_n (pc := 111) (x := 156) dX12_sum_111 rfl ?_
        refine g_getR (pc := 112) (dd := 24) dX12_sum_112 fo_X12_85 sh_156 rfl ?_
        refine g_iload_n (pc := 115) (x := (l3 + (-1 : Int32))) dX12_sum_115 rfl ?_
        refine g_iconst (pc := 116) (v := (1 : Int32)) dX12_sum_116 (by decide) ?_
        refine g_isub (pc := 117) dX12_sum_117 ?_
        refine g_iload (pc := 118) (x := (mm.1 165 l4.toNatClampNeg)) dX12_sum_118 rfl ?_
        refine g_iconst (pc := 120) (v := (2 : Int32)) dX12_sum_120 (by decide) ?_
        refine g_icmp_ne (pc := 121) (tgt := 132) dX12_sum_121 (by decide) (fun c121 => ?_) (fun c121 => ?_)
        · have h := h.1 c121
          refine g_iload (pc := 132) (x := (mm.1 165 l4.toNatClampNeg)) dX12_sum_132 rfl ?_
          refine g_iconst (pc := 134) (v := (3 : Int32)) dX12_sum_134 (by decide) ?_
          refine g_icmp_ne (pc := 135) (tgt := 146) dX12_sum_135 (by decide) (fun c135 => ?_) (fun c135 => ?_)
          · have h := h.1 c135
            refine g_iload (pc := 146) (x := (mm.1 165 l4.toNatClampNeg)) dX12_sum_146 rfl ?_
            refine g_iconst (pc := 148) (v := (4 : Int32)) dX12_sum_148 (by decide) ?_
            refine g_icmp_ne (pc := 149) (tgt := 160) dX12_sum_149 (by decide) (fun c149 => ?_) (fun c149 => ?_)
            · have h := h.1 c149
              refine g_iload (pc := 160) (x := (mm.1 180 (l3 - (2 : Int32)).toNatClampNeg)) dX12_sum_160 rfl ?_
              refine g_iload (pc := 162) (x := (mm.1 180 (l3 - (1 : Int32)).toNatClampNeg)) dX12_sum_162 rfl ?_
              refine g_idiv (pc := 164) dX12_sum_164 h.1 ?_
              have h := h.2
              refine g_iastore (pc := 165) dX12_sum_165 sh_180 h.1 ?_
              have h := h.2
              refine g_iinc (pc := 166) (x := l4) (v := (l4 + (1 : Int32))) (L' := [(0, .ref 156), (2, .int l2), (3, .int (l3 + (-1 : Int32))), (4, .int (l4 + (1 : Int32))), (5, .int (mm.1 165 l4.toNatClampNeg)), (6, .int (mm.1 180 (l3 - (1 : Int32)).toNatClampNeg)), (7, .int (mm.1 180 (l3 - (2 : Int32)).toNatClampNeg))]) dX12_sum_166 rfl rfl (Nat.le_of_ble_eq_true rfl) rfl ?_
              refine g_goto (pc := 169) (tgt := 10) dX12_sum_169 (by decide) ?_
              refine g_sub (L' := [(0, .ref 156), (2, .int l2), (3, .int (l3 + (-1 : Int32))), (4, .int (l4 + (1 : Int32)))]) [0, 1, 2, 3] rfl ?_
              exact h
            · have h := h.2 c149
              refine g_iload (pc := 152) (x := (mm.1 180 (l3 - (2 : Int32)).toNatClampNeg)) dX12_sum_152 rfl ?_
              refine g_iload (pc := 154) (x := (mm.1 180 (l3 - (1 : Int32)).toNatClampNeg)) dX12_sum_154 rfl ?_
              refine g_imul (pc := 156) dX12_sum_156 ?_
              refine g_goto (pc := 157) (tgt := 165) dX12_sum_157 (by decide) ?_
              refine g_iastore (pc := 165) dX12_sum_165 sh_180 h.1 ?_
              have h := h.2
              refine g_iinc (pc := 166) (x := l4) (v := (l4 + (1 : Int32))) (L' := [(0, .ref 156), (2, .int l2), (3, .int (l3 + (-1 : Int32))), (4, .int (l4 + (1 : Int32))), (5, .int (mm.1 165 l4.toNatClampNeg)), (6, .int (mm.1 180 (l3 - (1 : Int32)).toNatClampNeg)), (7, .int (mm.1 180 (l3 - (2 : Int32)).toNatClampNeg))]) dX12_sum_166 rfl rfl (Nat.le_of_ble_eq_true rfl) rfl ?_
              refine g_goto (pc := 169) (tgt := 10) dX12_sum_169 (by decide) ?_
              refine g_sub (L' := [(0, .ref 156), (2, .int l2), (3, .int (l3 + (-1 : Int32))), (4, .int (l4 + (1 : Int32)))]) [0, 1, 2, 3] rfl ?_
              exact h
          · have h := h.2 c135
            refine g_iload (pc := 138) (x := (mm.1 180 (l3 - (2 : Int32)).toNatClampNeg)) dX12_sum_138 rfl ?_
            refine g_iload (pc := 140) (x := (mm.1 180 (l3 - (1 : Int32)).toNatClampNeg)) dX12_sum_140 rfl ?_
            refine g_isub (pc := 142) dX12_sum_142 ?_
            refine g_goto (pc := 143) (tgt := 165) dX12_sum_143 (by decide) ?_
            refine g_iastore (pc := 165) dX12_sum_165 sh_180 h.1 ?_
            have h := h.2
            refine g_iinc (pc := 166) (x := l4) (v := (l4 + (1 : Int32))) (L' := [(0, .ref 156), (2, .int l2), (3, .int (l3 + (-1 : Int32))), (4, .int (l4 + (1 : Int32))), (5, .int (mm.1 165 l4.toNatClampNeg)), (6, .int (mm.1 180 (l3 - (1 : Int32)).toNatClampNeg)), (7, .int (mm.1 180 (l3 - (2 : Int32)).toNatClampNeg))]) dX12_sum_166 rfl rfl (Nat.le_of_ble_eq_true rfl) rfl ?_
            refine g_goto (pc := 169) (tgt := 10) dX12_sum_169 (by decide) ?_
            refine g_sub (L' := [(0, .ref 156), (2, .int l2), (3, .int (l3 + (-1 : Int32))), (4, .int (l4 + (1 : Int32)))]) [0, 1, 2, 3] rfl ?_
            exact h
        · have h := h.2 c121
          refine g_iload (pc := 124) (x := (mm.1 180 (l3 - (2 : Int32)).toNatClampNeg)) dX12_sum_124 rfl ?_
          refine g_iload (pc := 126) (x := (mm.1 180 (l3 - (1 : Int32)).toNatClampNeg)) dX12_sum_126 rfl ?_
          refine g_iadd (pc := 128) dX12_sum_128 ?_
          refine g_goto (pc := 129) (tgt := 165) dX12_sum_129 (by decide) ?_
          refine g_iastore (pc := 165) dX12_sum_165 sh_180 h.1 ?_
          have h := h.2
          refine g_iinc (pc := 166) (x := l4) (v := (l4 + (1 : Int32))) (L' := [(0, .ref 156), (2, .int l2), (3, .int (l3 + (-1 : Int32))), (4, .int (l4 + (1 : Int32))), (5, .int (mm.1 165 l4.toNatClampNeg)), (6, .int (mm.1 180 (l3 - (1 : Int32)).toNatClampNeg)), (7, .int (mm.1 180 (l3 - (2 : Int32)).toNatClampNeg))]) dX12_sum_166 rfl rfl (Nat.le_of_ble_eq_true rfl) rfl ?_
          refine g_goto (pc := 169) (tgt := 10) dX12_sum_169 (by decide) ?_
          refine g_sub (L' := [(0, .ref 156), (2, .int l2), (3, .int (l3 + (-1 : Int32))), (4, .int (l4 + (1 : Int32)))]) [0, 1, 2, 3] rfl ?_
          exact h
      · have h := h.2 c96
        refine g_iload (pc := 99) (x := (mm.1 180 (l3 - (1 : Int32)).toNatClampNeg)) dX12_sum_99 rfl ?_
        refine g_if_ne (pc := 101) (tgt := 111) dX12_sum_101 (by decide) (fun c101 => ?_) (fun c101 => ?_)
        · have h := h.1 c101
          refine g_aload_n (pc := 111) (x := 156) dX12_sum_111 rfl ?_
          refine g_getR (pc := 112) (dd := 24) dX12_sum_112 fo_X12_85 sh_156 rfl ?_
          refine g_iload_n (pc := 115) (x := (l3 + (-1 : Int32))) dX12_sum_115 rfl ?_
          refine g_iconst (pc := 116) (v := (1 : Int32)) dX12_sum_116 (by decide) ?_
          refine g_isub (pc := 117) dX12_sum_117 ?_
          refine g_iload (pc := 118) (x := (mm.1 165 l4.toNatClampNeg)) dX12_sum_118 rfl ?_
          refine g_iconst (pc := 120) (v := (2 : Int32)) dX12_sum_120 (by decide) ?_
          refine g_icmp_ne (pc := 121) (tgt := 132) dX12_sum_121 (by decide) (fun c121 => ?_) (fun c121 => ?_)
          · have h := h.1 c121
            refine g_iload (pc := 132) (x := (mm.1 165 l4.toNatClampNeg)) dX12_sum_132 rfl ?_
            refine g_iconst (pc := 134) (v := (3 : Int32)) dX12_sum_134 (by decide) ?_
            refine g_icmp_ne (pc := 135) (tgt := 146) dX12_sum_135 (by decide) (fun c135 => ?_) (fun c135 => ?_)
            · have h := h.1 c135
              refine g_iload (pc := 146) (x := (mm.1 165 l4.toNatClampNeg)) dX12_sum_146 rfl ?_
              refine g_iconst (pc := 148) (v := (4 : Int32)) dX12_sum_148 (by decide) ?_
              refine g_icmp_ne (pc := 149) (tgt := 160) dX12_sum_149 (by decide) (fun c149 => ?_) (fun c149 => ?_)
              · have h := h.1 c149
                refine g_iload (pc := 160) (x := (mm.1 180 (l3 - (2 : Int32)).toNatClampNeg)) dX12_sum_160 rfl ?_
                refine g_iload (pc := 162) (x := (mm.1 180 (l3 - (1 : Int32)).toNatClampNeg)) dX12_sum_162 rfl ?_
                refine g_idiv (pc := 164) dX12_sum_164 h.1 ?_
                have h := h.2
                refine g_iastore (pc := 165) dX12_sum_165 sh_180 h.1 ?_
                have h := h.2
                refine g_iinc (pc := 166) (x := l4) (v := (l4 + (1 : Int32))) (L' := [(0, .ref 156), (2, .int l2), (3, .int (l3 + (-1 : Int32))), (4, .int (l4 + (1 : Int32))), (5, .int (mm.1 165 l4.toNatClampNeg)), (6, .int (mm.1 180 (l3 - (1 : Int32)).toNatClampNeg)), (7, .int (mm.1 180 (l3 - (2 : Int32)).toNatClampNeg))]) dX12_sum_166 rfl rfl (Nat.le_of_ble_eq_true rfl) rfl ?_
                refine g_goto (pc := 169) (tgt := 10) dX12_sum_169 (by decide) ?_
                refine g_sub (L' := [(0, .ref 156), (2, .int l2), (3, .int (l3 + (-1 : Int32))), (4, .int (l4 + (1 : Int32)))]) [0, 1, 2, 3] rfl ?_
                exact h
              · have h := h.2 c149
                refine g_iload (pc := 152) (x := (mm.1 180 (l3 - (2 : Int32)).toNatClampNeg)) dX12_sum_152 rfl ?_
                refine g_iload (pc := 154) (x := (mm.1 180 (l3 - (1 : Int32)).toNatClampNeg)) dX12_sum_154 rfl ?_
                refine g_imul (pc := 156) dX12_sum_156 ?_
                refine g_goto (pc := 157) (tgt := 165) dX12_sum_157 (by decide) ?_
                refine g_iastore (pc := 165) dX12_sum_165 sh_180 h.1 ?_
                have h := h.2
                refine g_iinc (pc := 166) (x := l4) (v := (l4 + (1 : Int32))) (L' := [(0, .ref 156), (2, .int l2), (3, .int (l3 + (-1 : Int32))), (4, .int (l4 + (1 : Int32))), (5, .int (mm.1 165 l4.toNatClampNeg)), (6, .int (mm.1 180 (l3 - (1 : Int32)).toNatClampNeg)), (7, .int (mm.1 180 (l3 - (2 : Int32)).toNatClampNeg))]) dX12_sum_166 rfl rfl (Nat.le_of_ble_eq_true rfl) rfl ?_
                refine g_goto (pc := 169) (tgt := 10) dX12_sum_169 (by decide) ?_
                refine g_sub (L' := [(0, .ref 156), (2, .int l2), (3, .int (l3 + (-1 : Int32))), (4, .int (l4 + (1 : Int32)))]) [0, 1, 2, 3] rfl ?_
                exact h
            · have h := h.2 c135
              refine g_iload (pc := 138) (x := (mm.1 180 (l3 - (2 : Int32)).toNatClampNeg)) dX12_sum_138 rfl ?_
              refine g_iload (pc := 140) (x := (mm.1 180 (l3 - (1 : Int32)).toNatClampNeg)) dX12_sum_140 rfl ?_
              refine g_isub (pc := 142) dX12_sum_142 ?_
              refine g_goto (pc := 143) (tgt := 165) dX12_sum_143 (by decide) ?_
              refine g_iastore (pc := 165) dX12_sum_165 sh_180 h.1 ?_
              have h := h.2
              refine g_iinc (pc := 166) (x := l4) (v := (l4 + (1 : Int32))) (L' := [(0, .ref 156), (2, .int l2), (3, .int (l3 + (-1 : Int32))), (4, .int (l4 + (1 : Int32))), (5, .int (mm.1 165 l4.toNatClampNeg)), (6, .int (mm.1 180 (l3 - (1 : Int32)).toNatClampNeg)), (7, .int (mm.1 180 (l3 - (2 : Int32)).toNatClampNeg))]) dX12_sum_166 rfl rfl (Nat.le_of_ble_eq_true rfl) rfl ?_
              refine g_goto (pc := 169) (tgt := 10) dX12_sum_169 (by decide) ?_
              refine g_sub (L' := [(0, .ref 156), (2, .int l2), (3, .int (l3 + (-1 : Int32))), (4, .int (l4 + (1 : Int32)))]) [0, 1, 2, 3] rfl ?_
              exact h
          · have h := h.2 c121
            refine g_iload (pc := 124) (x := (mm.1 180 (l3 - (2 : Int32)).toNatClampNeg)) dX12_sum_124 rfl ?_
            refine g_iload (pc := 126) (x := (mm.1 180 (l3 - (1 : Int32)).toNatClampNeg)) dX12_sum_126 rfl ?_
            refine g_iadd (pc := 128) dX12_sum_128 ?_
            refine g_goto (pc := 129) (tgt := 165) dX12_sum_129 (by decide) ?_
            refine g_iastore (pc := 165) dX12_sum_165 sh_180 h.1 ?_
            have h := h.2
            refine g_iinc (pc := 166) (x := l4) (v := (l4 + (1 : Int32))) (L' := [(0, .ref 156), (2, .int l2), (3, .int (l3 + (-1 : Int32))), (4, .int (l4 + (1 : Int32))), (5, .int (mm.1 165 l4.toNatClampNeg)), (6, .int (mm.1 180 (l3 - (1 : Int32)).toNatClampNeg)), (7, .int (mm.1 180 (l3 - (2 : Int32)).toNatClampNeg))]) dX12_sum_166 rfl rfl (Nat.le_of_ble_eq_true rfl) rfl ?_
            refine g_goto (pc := 169) (tgt := 10) dX12_sum_169 (by decide) ?_
            refine g_sub (L' := [(0, .ref 156), (2, .int l2), (3, .int (l3 + (-1 : Int32))), (4, .int (l4 + (1 : Int32)))]) [0, 1, 2, 3] rfl ?_
            exact h
        · have h := h.2 c101
          refine g_aload_n (pc := 104) (x := 156) dX12_sum_104 rfl ?_
          refine g_iconst (pc := 105) (v := (1 : Int32)) dX12_sum_105 (by decide) ?_
          refine g_putI (pc := 106) dX12_sum_106 fo_X12_350 sh_156 rfl (nar_B isB1) (fit_B isB1) ?_
          refine g_iconst (pc := 109) (v := (0 : Int32)) dX12_sum_109 (by decide) ?_
          exact g_iret (pc := 110) dX12_sum_110 rfl rfl rfl h
    · have h := h.2 c28
      refine g_aload_n (pc := 31) (x := 156) dX12_sum_31 rfl ?_
      refine g_getR (pc := 32) (dd := 24) dX12_sum_32 fo_X12_85 sh_156 rfl ?_
      refine g_iload_n (pc := 35) (x := l3) dX12_sum_35 rfl ?_
      refine g_iload (pc := 36) (x := (mm.1 165 l4.toNatClampNeg)) dX12_sum_36 rfl ?_
      refine g_if_ne (pc := 38) (tgt := 51) dX12_sum_38 (by decide) (fun c38 => ?_) (fun c38 => ?_)
      · have h := h.1 c38
        refine g_aload_n (pc := 51) (x := 156) dX12_sum_51 rfl ?_
        refine g_getR (pc := 52) (dd := 23) dX12_sum_52 fo_X12_82 sh_156 rfl ?_
        refine g_aload_n (pc := 55) (x := 156) dX12_sum_55 rfl ?_
        refine g_getR (pc := 56) (dd := 10) dX12_sum_56 fo_X12_42 sh_156 rfl ?_
        refine g_iload (pc := 59) (x := l4) dX12_sum_59 rfl ?_
        refine g_iaload (pc := 61) dX12_sum_61 sh_166 h.1 ?_
        have h := h.2
        refine g_iaload (pc := 62) dX12_sum_62 sh_179 h.1 ?_
        have h := h.2
        refine g_iastore (pc := 63) dX12_sum_63 sh_180 h.1 ?_
        have h := h.2
        refine g_iinc (pc := 64) (x := l3) (v := (l3 + (1 : Int32))) (L' := [(0, .ref 156), (2, .int l2), (3, .int (l3 + (1 : Int32))), (4, .int l4), (5, .int (mm.1 165 l4.toNatClampNeg))]) dX12_sum_64 rfl rfl (Nat.le_of_ble_eq_true rfl) rfl ?_
        refine g_goto (pc := 67) (tgt := 166) dX12_sum_67 (by decide) ?_
        refine g_iinc (pc := 166) (x := l4) (v := (l4 + (1 : Int32))) (L' := [(0, .ref 156), (2, .int l2), (3, .int (l3 + (1 : Int32))), (4, .int (l4 + (1 : Int32))), (5, .int (mm.1 165 l4.toNatClampNeg))]) dX12_sum_166 rfl rfl (Nat.le_of_ble_eq_true rfl) rfl ?_
        refine g_goto (pc := 169) (tgt := 10) dX12_sum_169 (by decide) ?_
        refine g_sub (L' := [(0, .ref 156), (2, .int l2), (3, .int (l3 + (1 : Int32))), (4, .int (l4 + (1 : Int32)))]) [0, 1, 2, 3] rfl ?_
        exact h
      · have h := h.2 c38
        refine g_aload_n (pc := 41) (x := 156) dX12_sum_41 rfl ?_
        refine g_getR (pc := 42) (dd := 10) dX12_sum_42 fo_X12_42 sh_156 rfl ?_
        refine g_iload (pc := 45) (x := l4) dX12_sum_45 rfl ?_
        refine g_iaload (pc := 47) dX12_sum_47 sh_166 h.1 ?_
        have h := h.2
        refine g_goto (pc := 48) (tgt := 63) dX12_sum_48 (by decide) ?_
        refine g_iastore (pc := 63) dX12_sum_63 sh_180 h.1 ?_
        have h := h.2
        refine g_iinc (pc := 64) (x := l3) (v := (l3 + (1 : Int32))) (L' := [(0, .ref 156), (2, .int l2), (3, .int (l3 + (1 : Int32))), (4, .int l4), (5, .int (mm.1 165 l4.toNatClampNeg))]) dX12_sum_64 rfl rfl (Nat.le_of_ble_eq_true rfl) rfl ?_
        refine g_goto (pc := 67) (tgt := 166) dX12_sum_67 (by decide) ?_
        refine g_iinc (pc := 166) (x := l4) (v := (l4 + (1 : Int32))) (L' := [(0, .ref 156), (2, .int l2), (3, .int (l3 + (1 : Int32))), (4, .int (l4 + (1 : Int32))), (5, .int (mm.1 165 l4.toNatClampNeg))]) dX12_sum_166 rfl rfl (Nat.le_of_ble_eq_true rfl) rfl ?_
        refine g_goto (pc := 169) (tgt := 10) dX12_sum_169 (by decide) ?_
        refine g_sub (L' := [(0, .ref 156), (2, .int l2), (3, .int (l3 + (1 : Int32))), (4, .int (l4 + (1 : Int32)))]) [0, 1, 2, 3] rfl ?_
        exact h
theorem dX12_isLit_0 : decode cX12_isLit 0 = .ok (.aload_n 0, 1) := by decide +kernel
theorem dX12_isLit_1 : decode cX12_isLit 1 = .ok (.aload_n 0, 1) := by decide +kernel
theorem dX12_isLit_2 : decode cX12_isLit 2 = .ok (.getfield 55, 3) := by decide +kernel
theorem dX12_isLit_5 : decode cX12_isLit 5 = .ok (.iload_n 1, 1) := by decide +kernel
theorem dX12_isLit_6 : decode cX12_isLit 6 = .ok (.iaload, 1) := by decide +kernel
theorem dX12_isLit_7 : decode cX12_isLit 7 = .ok (.aload_n 0, 1) := by decide +kernel
theorem dX12_isLit_8 : decode cX12_isLit 8 = .ok (.getfield 58, 3) := by decide +kernel
theorem dX12_isLit_11 : decode cX12_isLit 11 = .ok (.iload_n 1, 1) := by decide +kernel
theorem dX12_isLit_12 : decode cX12_isLit 12 = .ok (.iaload, 1) := by decide +kernel
theorem dX12_isLit_13 : decode cX12_isLit 13 = .ok (.invokevirtual 354, 3) := by decide +kernel
theorem dX12_isLit_16 : decode cX12_isLit 16 = .ok (.istore_n 2, 1) := by decide +kernel
theorem dX12_isLit_17 : decode cX12_isLit 17 = .ok (.aload_n 0, 1) := by decide +kernel
theorem dX12_isLit_18 : decode cX12_isLit 18 = .ok (.getfield 350, 3) := by decide +kernel
theorem dX12_isLit_21 : decode cX12_isLit 21 = .ok (.ifCond .eq 10, 3) := by decide +kernel
theorem dX12_isLit_24 : decode cX12_isLit 24 = .ok (.aload_n 0, 1) := by decide +kernel
theorem dX12_isLit_25 : decode cX12_isLit 25 = .ok (.getfield 48, 3) := by decide +kernel
theorem dX12_isLit_28 : decode cX12_isLit 28 = .ok (.iload_n 1, 1) := by decide +kernel
theorem dX12_isLit_29 : decode cX12_isLit 29 = .ok (.baload, 1) := by decide +kernel
theorem dX12_isLit_30 : decode cX12_isLit 30 = .ok (.ireturn, 1) := by decide +kernel
theorem dX12_isLit_31 : decode cX12_isLit 31 = .ok (.aload_n 0, 1) := by decide +kernel
theorem dX12_isLit_32 : decode cX12_isLit 32 = .ok (.aload_n 0, 1) := by decide +kernel
theorem dX12_isLit_33 : decode cX12_isLit 33 = .ok (.getfield 58, 3) := by decide +kernel
theorem dX12_isLit_36 : decode cX12_isLit 36 = .ok (.iload_n 1, 1) := by decide +kernel
theorem dX12_isLit_37 : decode cX12_isLit 37 = .ok (.iaload, 1) := by decide +kernel
theorem dX12_isLit_38 : decode cX12_isLit 38 = .ok (.aload_n 0, 1) := by decide +kernel
theorem dX12_isLit_39 : decode cX12_isLit 39 = .ok (.getfield 61, 3) := by decide +kernel
theorem dX12_isLit_42 : decode cX12_isLit 42 = .ok (.iload_n 1, 1) := by decide +kernel
theorem dX12_isLit_43 : decode cX12_isLit 43 = .ok (.iaload, 1) := by decide +kernel
theorem dX12_isLit_44 : decode cX12_isLit 44 = .ok (.invokevirtual 354, 3) := by decide +kernel
theorem dX12_isLit_47 : decode cX12_isLit 47 = .ok (.istore_n 3, 1) := by decide +kernel
theorem dX12_isLit_48 : decode cX12_isLit 48 = .ok (.aload_n 0, 1) := by decide +kernel
theorem dX12_isLit_49 : decode cX12_isLit 49 = .ok (.getfield 350, 3) := by decide +kernel
theorem dX12_isLit_52 : decode cX12_isLit 52 = .ok (.ifCond .eq 10, 3) := by decide +kernel
theorem dX12_isLit_55 : decode cX12_isLit 55 = .ok (.aload_n 0, 1) := by decide +kernel
theorem dX12_isLit_56 : decode cX12_isLit 56 = .ok (.getfield 48, 3) := by decide +kernel
theorem dX12_isLit_59 : decode cX12_isLit 59 = .ok (.iload_n 1, 1) := by decide +kernel
theorem dX12_isLit_60 : decode cX12_isLit 60 = .ok (.baload, 1) := by decide +kernel
theorem dX12_isLit_61 : decode cX12_isLit 61 = .ok (.ireturn, 1) := by decide +kernel
theorem dX12_isLit_62 : decode cX12_isLit 62 = .ok (.aload_n 0, 1) := by decide +kernel
theorem dX12_isLit_63 : decode cX12_isLit 63 = .ok (.getfield 52, 3) := by decide +kernel
theorem dX12_isLit_66 : decode cX12_isLit 66 = .ok (.iload_n 1, 1) := by decide +kernel
theorem dX12_isLit_67 : decode cX12_isLit 67 = .ok (.iaload, 1) := by decide +kernel
theorem dX12_isLit_68 : decode cX12_isLit 68 = .ok (.sipush 300, 3) := by decide +kernel
theorem dX12_isLit_71 : decode cX12_isLit 71 = .ok (.if_icmp .ne 16, 3) := by decide +kernel
theorem dX12_isLit_74 : decode cX12_isLit 74 = .ok (.iload_n 2, 1) := by decide +kernel
theorem dX12_isLit_75 : decode cX12_isLit 75 = .ok (.iload_n 3, 1) := by decide +kernel
theorem dX12_isLit_76 : decode cX12_isLit 76 = .ok (.if_icmp .ne 7, 3) := by decide +kernel
theorem dX12_isLit_79 : decode cX12_isLit 79 = .ok (.iconst 1, 1) := by decide +kernel
theorem dX12_isLit_80 : decode cX12_isLit 80 = .ok (.goto 67, 3) := by decide +kernel
theorem dX12_isLit_83 : decode cX12_isLit 83 = .ok (.iconst 0, 1) := by decide +kernel
theorem dX12_isLit_84 : decode cX12_isLit 84 = .ok (.goto 63, 3) := by decide +kernel
theorem dX12_isLit_87 : decode cX12_isLit 87 = .ok (.aload_n 0, 1) := by decide +kernel
theorem dX12_isLit_88 : decode cX12_isLit 88 = .ok (.getfield 52, 3) := by decide +kernel
theorem dX12_isLit_91 : decode cX12_isLit 91 = .ok (.iload_n 1, 1) := by decide +kernel
theorem dX12_isLit_92 : decode cX12_isLit 92 = .ok (.iaload, 1) := by decide +kernel
theorem dX12_isLit_93 : decode cX12_isLit 93 = .ok (.sipush 301, 3) := by decide +kernel
theorem dX12_isLit_96 : decode cX12_isLit 96 = .ok (.if_icmp .ne 16, 3) := by decide +kernel
theorem dX12_isLit_99 : decode cX12_isLit 99 = .ok (.iload_n 2, 1) := by decide +kernel
theorem dX12_isLit_100 : decode cX12_isLit 100 = .ok (.iload_n 3, 1) := by decide +kernel
theorem dX12_isLit_101 : decode cX12_isLit 101 = .ok (.if_icmp .eq 7, 3) := by decide +kernel
theorem dX12_isLit_104 : decode cX12_isLit 104 = .ok (.iconst 1, 1) := by decide +kernel
theorem dX12_isLit_105 : decode cX12_isLit 105 = .ok (.goto 42, 3) := by decide +kernel
theorem dX12_isLit_108 : decode cX12_isLit 108 = .ok (.iconst 0, 1) := by decide +kernel
theorem dX12_isLit_109 : decode cX12_isLit 109 = .ok (.goto 38, 3) := by decide +kernel
theorem dX12_isLit_112 : decode cX12_isLit 112 = .ok (.aload_n 0, 1) := by decide +kernel
theorem dX12_isLit_113 : decode cX12_isLit 113 = .ok (.getfield 52, 3) := by decide +kernel
theorem dX12_isLit_116 : decode cX12_isLit 116 = .ok (.iload_n 1, 1) := by decide +kernel
theorem dX12_isLit_117 : decode cX12_isLit 117 = .ok (.iaload, 1) := by decide +kernel
theorem dX12_isLit_118 : decode cX12_isLit 118 = .ok (.sipush 302, 3) := by decide +kernel
theorem dX12_isLit_121 : decode cX12_isLit 121 = .ok (.if_icmp .ne 16, 3) := by decide +kernel
theorem dX12_isLit_124 : decode cX12_isLit 124 = .ok (.iload_n 2, 1) := by decide +kernel
theorem dX12_isLit_125 : decode cX12_isLit 125 = .ok (.iload_n 3, 1) := by decide +kernel
theorem dX12_isLit_126 : decode cX12_isLit 126 = .ok (.if_icmp .gt 7, 3) := by decide +kernel
theorem dX12_isLit_129 : decode cX12_isLit 129 = .ok (.iconst 1, 1) := by decide +kernel
theorem dX12_isLit_130 : decode cX12_isLit 130 = .ok (.goto 17, 3) := by decide +kernel
theorem dX12_isLit_133 : decode cX12_isLit 133 = .ok (.iconst 0, 1) := by decide +kernel
theorem dX12_isLit_134 : decode cX12_isLit 134 = .ok (.goto 13, 3) := by decide +kernel
theorem dX12_isLit_137 : decode cX12_isLit 137 = .ok (.iload_n 2, 1) := by decide +kernel
theorem dX12_isLit_138 : decode cX12_isLit 138 = .ok (.iload_n 3, 1) := by decide +kernel
theorem dX12_isLit_139 : decode cX12_isLit 139 = .ok (.if_icmp .ge 7, 3) := by decide +kernel
theorem dX12_isLit_142 : decode cX12_isLit 142 = .ok (.iconst 1, 1) := by decide +kernel
theorem dX12_isLit_143 : decode cX12_isLit 143 = .ok (.goto 4, 3) := by decide +kernel
theorem dX12_isLit_146 : decode cX12_isLit 146 = .ok (.iconst 0, 1) := by decide +kernel
theorem dX12_isLit_147 : decode cX12_isLit 147 = .ok (.istore 4, 2) := by decide +kernel
theorem dX12_isLit_149 : decode cX12_isLit 149 = .ok (.iload 4, 2) := by decide +kernel
theorem dX12_isLit_151 : decode cX12_isLit 151 = .ok (.aload_n 0, 1) := by decide +kernel
theorem dX12_isLit_152 : decode cX12_isLit 152 = .ok (.getfield 48, 3) := by decide +kernel
theorem dX12_isLit_155 : decode cX12_isLit 155 = .ok (.iload_n 1, 1) := by decide +kernel
theorem dX12_isLit_156 : decode cX12_isLit 156 = .ok (.baload, 1) := by decide +kernel
theorem dX12_isLit_157 : decode cX12_isLit 157 = .ok (.if_icmp .eq 7, 3) := by decide +kernel
theorem dX12_isLit_160 : decode cX12_isLit 160 = .ok (.iconst 1, 1) := by decide +kernel
theorem dX12_isLit_161 : decode cX12_isLit 161 = .ok (.goto 4, 3) := by decide +kernel
theorem dX12_isLit_164 : decode cX12_isLit 164 = .ok (.iconst 0, 1) := by decide +kernel
theorem dX12_isLit_165 : decode cX12_isLit 165 = .ok (.ireturn, 1) := by decide +kernel
theorem b_X12_isLit (mm : MM) (Q : Value → MM → Prop) (a1 : Int32) (h : vp_in a1 400 ∧ (vp_in a1 400 ∧ (∃ Pm1 : Value → MM → Prop, Runs e_X12_sum [.ref 156, .int (mm.1 170 a1.toNatClampNeg), .int (mm.1 171 a1.toNatClampNeg)] mm Pm1 ∧ ∀ (r1 : Int32) (m1 : MM), Pm1 (.int r1) m1 → (((m1.1 156 35) = 0 → (vp_in a1 400 ∧ (vp_in a1 400 ∧ (∃ Pm2 : Value → MM → Prop, Runs e_X12_sum [.ref 156, .int (m1.1 171 a1.toNatClampNeg), .int (m1.1 172 a1.toNatClampNeg)] m1 Pm2 ∧ ∀ (r2 : Int32) (m2 : MM), Pm2 (.int r2) m2 → (((m2.1 156 35) = 0 → (vp_in a1 400 ∧ ((¬ (m2.1 169 a1.toNatClampNeg) = (300 : Int32) → (vp_in a1 400 ∧ ((¬ (m2.1 169 a1.toNatClampNeg) = (301 : Int32) → (vp_in a1 400 ∧ ((¬ (m2.1 169 a1.toNatClampNeg) = (302 : Int32) → ((r2 ≤ r1 → (vp_in a1 400 ∧ (((0 : Int32) = (m2.1 168 a1.toNatClampNeg) → (Q (.int (0 : Int32)) m2)) ∧ (¬ (0 : Int32) = (m2.1 168 a1.toNatClampNeg) → (Q (.int (1 : Int32)) m2))))) ∧ (¬ r2 ≤ r1 → (vp_in a1 400 ∧ (((1 : Int32) = (m2.1 168 a1.toNatClampNeg) → (Q (.int (0 : Int32)) m2)) ∧ (¬ (1 : Int32) = (m2.1 168 a1.toNatClampNeg) → (Q (.int (1 : Int32)) m2))))))) ∧ ((m2.1 169 a1.toNatClampNeg) = (302 : Int32) → ((r2 < r1 → (vp_in a1 400 ∧ (((0 : Int32) = (m2.1 168 a1.toNatClampNeg) → (Q (.int (0 : Int32)) m2)) ∧ (¬ (0 : Int32) = (m2.1 168 a1.toNatClampNeg) → (Q (.int (1 : Int32)) m2))))) ∧ (¬ r2 < r1 → (vp_in a1 400 ∧ (((1 : Int32) = (m2.1 168 a1.toNatClampNeg) → (Q (.int (0 : Int32)) m2)) ∧ (¬ (1 : Int32) = (m2.1 168 a1.toNatClampNeg) → (Q (.int (1 : Int32)) m2)))))))))) ∧ ((m2.1 169 a1.toNatClampNeg) = (301 : Int32) → ((r1 = r2 → (vp_in a1 400 ∧ (((0 : Int32) = (m2.1 168 a1.toNatClampNeg) → (Q (.int (0 : Int32)) m2)) ∧ (¬ (0 : Int32) = (m2.1 168 a1.toNatClampNeg) → (Q (.int (1 : Int32)) m2))))) ∧ (¬ r1 = r2 → (vp_in a1 400 ∧ (((1 : Int32) = (m2.1 168 a1.toNatClampNeg) → (Q (.int (0 : Int32)) m2)) ∧ (¬ (1 : Int32) = (m2.1 168 a1.toNatClampNeg) → (Q (.int (1 : Int32)) m2)))))))))) ∧ ((m2.1 169 a1.toNatClampNeg) = (300 : Int32) → ((¬ r1 = r2 → (vp_in a1 400 ∧ (((0 : Int32) = (m2.1 168 a1.toNatClampNeg) → (Q (.int (0 : Int32)) m2)) ∧ (¬ (0 : Int32) = (m2.1 168 a1.toNatClampNeg) → (Q (.int (1 : Int32)) m2))))) ∧ (r1 = r2 → (vp_in a1 400 ∧ (((1 : Int32) = (m2.1 168 a1.toNatClampNeg) → (Q (.int (0 : Int32)) m2)) ∧ (¬ (1 : Int32) = (m2.1 168 a1.toNatClampNeg) → (Q (.int (1 : Int32)) m2)))))))))) ∧ (¬ (m2.1 156 35) = 0 → (vp_in a1 400 ∧ (isB (m2.1 168 a1.toNatClampNeg) ∧ Q (.int (m2.1 168 a1.toNatClampNeg)) m2)))))))) ∧ (¬ (m1.1 156 35) = 0 → (vp_in a1 400 ∧ (isB (m1.1 168 a1.toNatClampNeg) ∧ Q (.int (m1.1 168 a1.toNatClampNeg)) m1))))))) : Runs e_X12_isLit [.ref 156, .int a1] mm Q := by
  refine runs_of_G (L := [(0, .ref 156), (1, .int a1)]) pl_X12 (Nat.le_of_ble_eq_true rfl) rfl ?_
  refine g_aload_n (pc := 0) (x := 156) dX12_isLit_0 rfl ?_
  refine g_aload_n (pc := 1) (x := 156) dX12_isLit_1 rfl ?_
  refine g_getR (pc := 2) (dd := 14) dX12_isLit_2 fo_X12_55 sh_156 rfl ?_
  refine g_iload_n (pc := 5) (x := a1) dX12_isLit_5 rfl ?_
  refine g_iaload (pc := 6) dX12_isLit_6 sh_170 h.1 ?_
  have h := h.2
  refine g_aload_n (pc := 7) (x := 156) dX12_isLit_7 rfl ?_
  refine g_getR (pc := 8) (dd := 15) dX12_isLit_8 fo_X12_58 sh_156 rfl ?_
  refine g_iload_n (pc := 11) (x := a1) dX12_isLit_11 rfl ?_
  refine g_iaload (pc := 12) dX12_isLit_12 sh_171 h.1 ?_
  have h := h.2
  obtain ⟨Pm1, hRm1, h⟩ := h
  refine g_callV (pc := 13) (as := [.int (mm.1 170 a1.toNatClampNeg), .int (mm.1 171 a1.toNatClampNeg)]) dX12_isLit_13 cw_X12_354 (by decide) rfl rfl sh_156 (Nat.le_of_ble_eq_true rfl) hRm1 ?_
  intro r_ m1 hz_ hp_
  obtain ⟨r1, rfl⟩ := hz_
  have h := h r1 m1 hp_
  refine g_istore_n (pc := 16) (L' := [(0, .ref 156), (1, .int a1), (2, .int r1)]) dX12_isLit_16 (Nat.le_of_ble_eq_true rfl) rfl ?_
  refine g_aload_n (pc := 17) (x := 156) dX12_isLit_17 rfl ?_
  refine g_getI (pc := 18) dX12_isLit_18 fo_X12_350 sh_156 rfl ?_
  refine g_if_eq (pc := 21) (tgt := 31) dX12_isLit_21 (by decide) (fun c21 => ?_) (fun c21 => ?_)
  · have h := h.1 c21
    refine g_aload_n (pc := 31) (x := 156) dX12_isLit_31 rfl ?_
    refine g_aload_n (pc := 32) (x := 156) dX12_isLit_32 rfl ?_
    refine g_getR (pc := 33) (dd := 15) dX12_isLit_33 fo_X12_58 sh_156 rfl ?_
    refine g_iload_n (pc := 36) (x := a1) dX12_isLit_36 rfl ?_
    refine g_iaload (pc := 37) dX12_isLit_37 sh_171 h.1 ?_
    have h := h.2
    refine g_aload_n (pc := 38) (x := 156) dX12_isLit_38 rfl ?_
    refine g_getR (pc := 39) (dd := 16) dX12_isLit_39 fo_X12_61 sh_156 rfl ?_
    refine g_iload_n (pc := 42) (x := a1) dX12_isLit_42 rfl ?_
    refine g_iaload (pc := 43) dX12_isLit_43 sh_172 h.1 ?_
    have h := h.2
    obtain ⟨Pm2, hRm2, h⟩ := h
    refine g_callV (pc := 44) (as := [.int (m1.1 171 a1.toNatClampNeg), .int (m1.1 172 a1.toNatClampNeg)]) dX12_isLit_44 cw_X12_354 (by decide) rfl rfl sh_156 (Nat.le_of_ble_eq_true rfl) hRm2 ?_
    intro r_ m2 hz_ hp_
    obtain ⟨r2, rfl⟩ := hz_
    have h := h r2 m2 hp_
    refine g_istore_n (pc := 47) (L' := [(0, .ref 156), (1, .int a1), (2, .int r1), (3, .int r2)]) dX12_isLit_47 (Nat.le_of_ble_eq_true rfl) rfl ?_
    refine g_aload_n (pc := 48) (x := 156) dX12_isLit_48 rfl ?_
    refine g_getI (pc := 49) dX12_isLit_49 fo_X12_350 sh_156 rfl ?_
    refine g_if_eq (pc := 52) (tgt := 62) dX12_isLit_52 (by decide) (fun c52 => ?_) (fun c52 => ?_)
    · have h := h.1 c52
      refine g_aload_n (pc := 62) (x := 156) dX12_isLit_62 rfl ?_
      refine g_getR (pc := 63) (dd := 13) dX12_isLit_63 fo_X12_52 sh_156 rfl ?_
      refine g_iload_n (pc := 66) (x := a1) dX12_isLit_66 rfl ?_
      refine g_iaload (pc := 67) dX12_isLit_67 sh_169 h.1 ?_
      have h := h.2
      refine g_sipush (pc := 68) (v := (300 : Int32)) dX12_isLit_68 (by decide) ?_
      refine g_icmp_ne (pc := 71) (tgt := 87) dX12_isLit_71 (by decide) (fun c71 => ?_) (fun c71 => ?_)
      · have h := h.1 c71
        refine g_aload_n (pc := 87) (x := 156) dX12_isLit_87 rfl ?_
        refine g_getR (pc := 88) (dd := 13) dX12_isLit_88 fo_X12_52 sh_156 rfl ?_
        refine g_iload_n (pc := 91) (x := a1) dX12_isLit_91 rfl ?_
        refine g_iaload (pc := 92) dX12_isLit_92 sh_169 h.1 ?_
        have h := h.2
        refine g_sipush (pc := 93) (v := (301 : Int32)) dX12_isLit_93 (by decide) ?_
        refine g_icmp_ne (pc := 96) (tgt := 112) dX12_isLit_96 (by decide) (fun c96 => ?_) (fun c96 => ?_)
        · have h := h.1 c96
          refine g_aload_n (pc := 112) (x := 156) dX12_isLit_112 rfl ?_
          refine g_getR (pc := 113) (dd := 13) dX12_isLit_113 fo_X12_52 sh_156 rfl ?_
          refine g_iload_n (pc := 116) (x := a1) dX12_isLit_116 rfl ?_
          refine g_iaload (pc := 117) dX12_isLit_117 sh_169 h.1 ?_
          have h := h.2
          refine g_sipush (pc := 118) (v := (302 : Int32)) dX12_isLit_118 (by decide) ?_
          refine g_icmp_ne (pc := 121) (tgt := 137) dX12_isLit_121 (by decide) (fun c121 => ?_) (fun c121 => ?_)
          · have h := h.1 c121
            refine g_iload_n (pc := 137) (x := r1) dX12_isLit_137 rfl ?_
            refine g_iload_n (pc := 138) (x := r2) dX12_isLit_138 rfl ?_
            refine g_icmp_ge (pc := 139) (tgt := 146) dX12_isLit_139 (by decide) (fun c139 => ?_) (fun c139 => ?_)
            · have h := h.1 c139
              refine g_iconst (pc := 146) (v := (0 : Int32)) dX12_isLit_146 (by decide) ?_
              refine g_istore (pc := 147) (L' := [(0, .ref 156), (1, .int a1), (2, .int r1), (3, .int r2), (4, .int (0 : Int32))]) dX12_isLit_147 (Nat.le_of_ble_eq_true rfl) rfl ?_
              refine g_iload (pc := 149) (x := (0 : Int32)) dX12_isLit_149 rfl ?_
              refine g_aload_n (pc := 151) (x := 156) dX12_isLit_151 rfl ?_
              refine g_getR (pc := 152) (dd := 12) dX12_isLit_152 fo_X12_48 sh_156 rfl ?_
              refine g_iload_n (pc := 155) (x := a1) dX12_isLit_155 rfl ?_
              refine g_zaload (pc := 156) dX12_isLit_156 sh_168 h.1 ?_
              have h := h.2
              refine g_icmp_eq (pc := 157) (tgt := 164) dX12_isLit_157 (by decide) (fun c157 => ?_) (fun c157 => ?_)
              · have h := h.1 c157
                refine g_iconst (pc := 164) (v := (0 : Int32)) dX12_isLit_164 (by decide) ?_
                exact g_iret (pc := 165) dX12_isLit_165 rfl rfl (nar_B isB0) h
              · have h := h.2 c157
                refine g_iconst (pc := 160) (v := (1 : Int32)) dX12_isLit_160 (by decide) ?_
                refine g_goto (pc := 161) (tgt := 165) dX12_isLit_161 (by decide) ?_
                exact g_iret (pc := 165) dX12_isLit_165 rfl rfl (nar_B isB1) h
            · have h := h.2 c139
              refine g_iconst (pc := 142) (v := (1 : Int32)) dX12_isLit_142 (by decide) ?_
              refine g_goto (pc := 143) (tgt := 147) dX12_isLit_143 (by decide) ?_
              refine g_istore (pc := 147) (L' := [(0, .ref 156), (1, .int a1), (2, .int r1), (3, .int r2), (4, .int (1 : Int32))]) dX12_isLit_147 (Nat.le_of_ble_eq_true rfl) rfl ?_
              refine g_iload (pc := 149) (x := (1 : Int32)) dX12_isLit_149 rfl ?_
              refine g_aload_n (pc := 151) (x := 156) dX12_isLit_151 rfl ?_
              refine g_getR (pc := 152) (dd := 12) dX12_isLit_152 fo_X12_48 sh_156 rfl ?_
              refine g_iload_n (pc := 155) (x := a1) dX12_isLit_155 rfl ?_
              refine g_zaload (pc := 156) dX12_isLit_156 sh_168 h.1 ?_
              have h := h.2
              refine g_icmp_eq (pc := 157) (tgt := 164) dX12_isLit_157 (by decide) (fun c157 => ?_) (fun c157 => ?_)
              · have h := h.1 c157
                refine g_iconst (pc := 164) (v := (0 : Int32)) dX12_isLit_164 (by decide) ?_
                exact g_iret (pc := 165) dX12_isLit_165 rfl rfl (nar_B isB0) h
              · have h := h.2 c157
                refine g_iconst (pc := 160) (v := (1 : Int32)) dX12_isLit_160 (by decide) ?_
                refine g_goto (pc := 161) (tgt := 165) dX12_isLit_161 (by decide) ?_
                exact g_iret (pc := 165) dX12_isLit_165 rfl rfl (nar_B isB1) h
          · have h := h.2 c121
            refine g_iload_n (pc := 124) (x := r1) dX12_isLit_124 rfl ?_
            refine g_iload_n (pc := 125) (x := r2) dX12_isLit_125 rfl ?_
            refine g_icmp_gt (pc := 126) (tgt := 133) dX12_isLit_126 (by decide) (fun c126 => ?_) (fun c126 => ?_)
            · have h := h.1 c126
              refine g_iconst (pc := 133) (v := (0 : Int32)) dX12_isLit_133 (by decide) ?_
              refine g_goto (pc := 134) (tgt := 147) dX12_isLit_134 (by decide) ?_
              refine g_istore (pc := 147) (L' := [(0, .ref 156), (1, .int a1), (2, .int r1), (3, .int r2), (4, .int (0 : Int32))]) dX12_isLit_147 (Nat.le_of_ble_eq_true rfl) rfl ?_
              refine g_iload (pc := 149) (x := (0 : Int32)) dX12_isLit_149 rfl ?_
              refine g_aload_n (pc := 151) (x := 156) dX12_isLit_151 rfl ?_
              refine g_getR (pc := 152) (dd := 12) dX12_isLit_152 fo_X12_48 sh_156 rfl ?_
              refine g_iload_n (pc := 155) (x := a1) dX12_isLit_155 rfl ?_
              refine g_zaload (pc := 156) dX12_isLit_156 sh_168 h.1 ?_
              have h := h.2
              refine g_icmp_eq (pc := 157) (tgt := 164) dX12_isLit_157 (by decide) (fun c157 => ?_) (fun c157 => ?_)
              · have h := h.1 c157
                refine g_iconst (pc := 164) (v := (0 : Int32)) dX12_isLit_164 (by decide) ?_
                exact g_iret (pc := 165) dX12_isLit_165 rfl rfl (nar_B isB0) h
              · have h := h.2 c157
                refine g_iconst (pc := 160) (v := (1 : Int32)) dX12_isLit_160 (by decide) ?_
                refine g_goto (pc := 161) (tgt := 165) dX12_isLit_161 (by decide) ?_
                exact g_iret (pc := 165) dX12_isLit_165 rfl rfl (nar_B isB1) h
            · have h := h.2 c126
              refine g_iconst (pc := 129) (v := (1 : Int32)) dX12_isLit_129 (by decide) ?_
              refine g_goto (pc := 130) (tgt := 147) dX12_isLit_130 (by decide) ?_
              refine g_istore (pc := 147) (L' := [(0, .ref 156), (1, .int a1), (2, .int r1), (3, .int r2), (4, .int (1 : Int32))]) dX12_isLit_147 (Nat.le_of_ble_eq_true rfl) rfl ?_
              refine g_iload (pc := 149) (x := (1 : Int32)) dX12_isLit_149 rfl ?_
              refine g_aload_n (pc := 151) (x := 156) dX12_isLit_151 rfl ?_
              refine g_getR (pc := 152) (dd := 12) dX12_isLit_152 fo_X12_48 sh_156 rfl ?_
              refine g_iload_n (pc := 155) (x := a1) dX12_isLit_155 rfl ?_
              refine g_zaload (pc := 156) dX12_isLit_156 sh_168 h.1 ?_
              have h := h.2
              refine g_icmp_eq (pc := 157) (tgt := 164) dX12_isLit_157 (by decide) (fun c157 => ?_) (fun c157 => ?_)
              · have h := h.1 c157
                refine g_iconst (pc := 164) (v := (0 : Int32)) dX12_isLit_164 (by decide) ?_
                exact g_iret (pc := 165) dX12_isLit_165 rfl rfl (nar_B isB0) h
              · have h := h.2 c157
                refine g_iconst (pc := 160) (v := (1 : Int32)) dX12_isLit_160 (by decide) ?_
                refine g_goto (pc := 161) (tgt := 165) dX12_isLit_161 (by decide) ?_
                exact g_iret (pc := 165) dX12_isLit_165 rfl rfl (nar_B isB1) h
        · have h := h.2 c96
          refine g_iload_n (pc := 99) (x := r1) dX12_isLit_99 rfl ?_
          refine g_iload_n (pc := 100) (x := r2) dX12_isLit_100 rfl ?_
          refine g_icmp_eq (pc := 101) (tgt := 108) dX12_isLit_101 (by decide) (fun c101 => ?_) (fun c101 => ?_)
          · have h := h.1 c101
            refine g_iconst (pc := 108) (v := (0 : Int32)) dX12_isLit_108 (by decide) ?_
            refine g_goto (pc := 109) (tgt := 147) dX12_isLit_109 (by decide) ?_
            refine g_istore (pc := 147) (L' := [(0, .ref 156), (1, .int a1), (2, .int r1), (3, .int r2), (4, .int (0 : Int32))]) dX12_isLit_147 (Nat.le_of_ble_eq_true rfl) rfl ?_
            refine g_iload (pc := 149) (x := (0 : Int32)) dX12_isLit_149 rfl ?_
            refine g_aload_n (pc := 151) (x := 156) dX12_isLit_151 rfl ?_
            refine g_getR (pc := 152) (dd := 12) dX12_isLit_152 fo_X12_48 sh_156 rfl ?_
            refine g_iload_n (pc := 155) (x := a1) dX12_isLit_155 rfl ?_
            refine g_zaload (pc := 156) dX12_isLit_156 sh_168 h.1 ?_
            have h := h.2
            refine g_icmp_eq (pc := 157) (tgt := 164) dX12_isLit_157 (by decide) (fun c157 => ?_) (fun c157 => ?_)
            · have h := h.1 c157
              refine g_iconst (pc := 164) (v := (0 : Int32)) dX12_isLit_164 (by decide) ?_
              exact g_iret (pc := 165) dX12_isLit_165 rfl rfl (nar_B isB0) h
            · have h := h.2 c157
              refine g_iconst (pc := 160) (v := (1 : Int32)) dX12_isLit_160 (by decide) ?_
              refine g_goto (pc := 161) (tgt := 165) dX12_isLit_161 (by decide) ?_
              exact g_iret (pc := 165) dX12_isLit_165 rfl rfl (nar_B isB1) h
          · have h := h.2 c101
            refine g_iconst (pc := 104) (v := (1 : Int32)) dX12_isLit_104 (by decide) ?_
            refine g_goto (pc := 105) (tgt := 147) dX12_isLit_105 (by decide) ?_
            refine g_istore (pc := 147) (L' := [(0, .ref 156), (1, .int a1), (2, .int r1), (3, .int r2), (4, .int (1 : Int32))]) dX12_isLit_147 (Nat.le_of_ble_eq_true rfl) rfl ?_
            refine g_iload (pc := 149) (x := (1 : Int32)) dX12_isLit_149 rfl ?_
            refine g_aload_n (pc := 151) (x := 156) dX12_isLit_151 rfl ?_
            refine g_getR (pc := 152) (dd := 12) dX12_isLit_152 fo_X12_48 sh_156 rfl ?_
            refine g_iload_n (pc := 155) (x := a1) dX12_isLit_155 rfl ?_
            refine g_zaload (pc := 156) dX12_isLit_156 sh_168 h.1 ?_
            have h := h.2
            refine g_icmp_eq (pc := 157) (tgt := 164) dX12_isLit_157 (by decide) (fun c157 => ?_) (fun c157 => ?_)
            · have h := h.1 c157
              refine g_iconst (pc := 164) (v := (0 : Int32)) dX12_isLit_164 (by decide) ?_
              exact g_iret (pc := 165) dX12_isLit_165 rfl rfl (nar_B isB0) h
            · have h := h.2 c157
              refine g_iconst (pc := 160) (v := (1 : Int32)) dX12_isLit_160 (by decide) ?_
              refine g_goto (pc := 161) (tgt := 165) dX12_isLit_161 (by decide) ?_
              exact g_iret (pc := 165) dX12_isLit_165 rfl rfl (nar_B isB1) h
      · have h := h.2 c71
        refine g_iload_n (pc := 74) (x := r1) dX12_isLit_74 rfl ?_
        refine g_iload_n (pc := 75) (x := r2) dX12_isLit_75 rfl ?_
        refine g_icmp_ne (pc := 76) (tgt := 83) dX12_isLit_76 (by decide) (fun c76 => ?_) (fun c76 => ?_)
        · have h := h.1 c76
          refine g_iconst (pc := 83) (v := (0 : Int32)) dX12_isLit_83 (by decide) ?_
          refine g_goto (pc := 84) (tgt := 147) dX12_isLit_84 (by decide) ?_
          refine g_istore (pc := 147) (L' := [(0, .ref 156), (1, .int a1), (2, .int r1), (3, .int r2), (4, .int (0 : Int32))]) dX12_isLit_147 (Nat.le_of_ble_eq_true rfl) rfl ?_
          refine g_iload (pc := 149) (x := (0 : Int32)) dX12_isLit_149 rfl ?_
          refine g_aload_n (pc := 151) (x := 156) dX12_isLit_151 rfl ?_
          refine g_getR (pc := 152) (dd := 12) dX12_isLit_152 fo_X12_48 sh_156 rfl ?_
          refine g_iload_n (pc := 155) (x := a1) dX12_isLit_155 rfl ?_
          refine g_zaload (pc := 156) dX12_isLit_156 sh_168 h.1 ?_
          have h := h.2
          refine g_icmp_eq (pc := 157) (tgt := 164) dX12_isLit_157 (by decide) (fun c157 => ?_) (fun c157 => ?_)
          · have h := h.1 c157
            refine g_iconst (pc := 164) (v := (0 : Int32)) dX12_isLit_164 (by decide) ?_
            exact g_iret (pc := 165) dX12_isLit_165 rfl rfl (nar_B isB0) h
          · have h := h.2 c157
            refine g_iconst (pc := 160) (v := (1 : Int32)) dX12_isLit_160 (by decide) ?_
            refine g_goto (pc := 161) (tgt := 165) dX12_isLit_161 (by decide) ?_
            exact g_iret (pc := 165) dX12_isLit_165 rfl rfl (nar_B isB1) h
        · have h := h.2 c76
          refine g_iconst (pc := 79) (v := (1 : Int32)) dX12_isLit_79 (by decide) ?_
          refine g_goto (pc := 80) (tgt := 147) dX12_isLit_80 (by decide) ?_
          refine g_istore (pc := 147) (L' := [(0, .ref 156), (1, .int a1), (2, .int r1), (3, .int r2), (4, .int (1 : Int32))]) dX12_isLit_147 (Nat.le_of_ble_eq_true rfl) rfl ?_
          refine g_iload (pc := 149) (x := (1 : Int32)) dX12_isLit_149 rfl ?_
          refine g_aload_n (pc := 151) (x := 156) dX12_isLit_151 rfl ?_
          refine g_getR (pc := 152) (dd := 12) dX12_isLit_152 fo_X12_48 sh_156 rfl ?_
          refine g_iload_n (pc := 155) (x := a1) dX12_isLit_155 rfl ?_
          refine g_zaload (pc := 156) dX12_isLit_156 sh_168 h.1 ?_
          have h := h.2
          refine g_icmp_eq (pc := 157) (tgt := 164) dX12_isLit_157 (by decide) (fun c157 => ?_) (fun c157 => ?_)
          · have h := h.1 c157
            refine g_iconst (pc := 164) (v := (0 : Int32)) dX12_isLit_164 (by decide) ?_
            exact g_iret (pc := 165) dX12_isLit_165 rfl rfl (nar_B isB0) h
          · have h := h.2 c157
            refine g_iconst (pc := 160) (v := (1 : Int32)) dX12_isLit_160 (by decide) ?_
            refine g_goto (pc := 161) (tgt := 165) dX12_isLit_161 (by decide) ?_
            exact g_iret (pc := 165) dX12_isLit_165 rfl rfl (nar_B isB1) h
    · have h := h.2 c52
      refine g_aload_n (pc := 55) (x := 156) dX12_isLit_55 rfl ?_
      refine g_getR (pc := 56) (dd := 12) dX12_isLit_56 fo_X12_48 sh_156 rfl ?_
      refine g_iload_n (pc := 59) (x := a1) dX12_isLit_59 rfl ?_
      refine g_zaload (pc := 60) dX12_isLit_60 sh_168 h.1 ?_
      have h := h.2
      exact g_iret (pc := 61) dX12_isLit_61 rfl rfl (nar_B h.1) h.2
  · have h := h.2 c21
    refine g_aload_n (pc := 24) (x := 156) dX12_isLit_24 rfl ?_
    refine g_getR (pc := 25) (dd := 12) dX12_isLit_25 fo_X12_48 sh_156 rfl ?_
    refine g_iload_n (pc := 28) (x := a1) dX12_isLit_28 rfl ?_
    refine g_zaload (pc := 29) dX12_isLit_29 sh_168 h.1 ?_
    have h := h.2
    exact g_iret (pc := 30) dX12_isLit_30 rfl rfl (nar_B h.1) h.2
theorem dX12_isHeld_0 : decode cX12_isHeld 0 = .ok (.iload_n 1, 1) := by decide +kernel
theorem dX12_isHeld_1 : decode cX12_isHeld 1 = .ok (.istore_n 3, 1) := by decide +kernel
theorem dX12_isHeld_2 : decode cX12_isHeld 2 = .ok (.iload_n 3, 1) := by decide +kernel
theorem dX12_isHeld_3 : decode cX12_isHeld 3 = .ok (.iload_n 2, 1) := by decide +kernel
theorem dX12_isHeld_4 : decode cX12_isHeld 4 = .ok (.if_icmp .ge 58, 3) := by decide +kernel
theorem dX12_isHeld_7 : decode cX12_isHeld 7 = .ok (.aload_n 0, 1) := by decide +kernel
theorem dX12_isHeld_8 : decode cX12_isHeld 8 = .ok (.getfield 64, 3) := by decide +kernel
theorem dX12_isHeld_11 : decode cX12_isHeld 11 = .ok (.iload_n 3, 1) := by decide +kernel
theorem dX12_isHeld_12 : decode cX12_isHeld 12 = .ok (.iaload, 1) := by decide +kernel
theorem dX12_isHeld_13 : decode cX12_isHeld 13 = .ok (.istore 4, 2) := by decide +kernel
theorem dX12_isHeld_15 : decode cX12_isHeld 15 = .ok (.iconst 1, 1) := by decide +kernel
theorem dX12_isHeld_16 : decode cX12_isHeld 16 = .ok (.istore 5, 2) := by decide +kernel
theorem dX12_isHeld_18 : decode cX12_isHeld 18 = .ok (.iload_n 3, 1) := by decide +kernel
theorem dX12_isHeld_19 : decode cX12_isHeld 19 = .ok (.iload_n 2, 1) := by decide +kernel
theorem dX12_isHeld_20 : decode cX12_isHeld 20 = .ok (.if_icmp .ge 32, 3) := by decide +kernel
theorem dX12_isHeld_23 : decode cX12_isHeld 23 = .ok (.aload_n 0, 1) := by decide +kernel
theorem dX12_isHeld_24 : decode cX12_isHeld 24 = .ok (.getfield 64, 3) := by decide +kernel
theorem dX12_isHeld_27 : decode cX12_isHeld 27 = .ok (.iload_n 3, 1) := by decide +kernel
theorem dX12_isHeld_28 : decode cX12_isHeld 28 = .ok (.iaload, 1) := by decide +kernel
theorem dX12_isHeld_29 : decode cX12_isHeld 29 = .ok (.iload 4, 2) := by decide +kernel
theorem dX12_isHeld_31 : decode cX12_isHeld 31 = .ok (.if_icmp .ne 21, 3) := by decide +kernel
theorem dX12_isHeld_34 : decode cX12_isHeld 34 = .ok (.iload 5, 2) := by decide +kernel
theorem dX12_isHeld_36 : decode cX12_isHeld 36 = .ok (.ifCond .eq 10, 3) := by decide +kernel
theorem dX12_isHeld_39 : decode cX12_isHeld 39 = .ok (.aload_n 0, 1) := by decide +kernel
theorem dX12_isHeld_40 : decode cX12_isHeld 40 = .ok (.iload_n 3, 1) := by decide +kernel
theorem dX12_isHeld_41 : decode cX12_isHeld 41 = .ok (.invokevirtual 358, 3) := by decide +kernel
theorem dX12_isHeld_44 : decode cX12_isHeld 44 = .ok (.istore 5, 2) := by decide +kernel
theorem dX12_isHeld_46 : decode cX12_isHeld 46 = .ok (.iinc 3 1, 3) := by decide +kernel
theorem dX12_isHeld_49 : decode cX12_isHeld 49 = .ok (.goto (-31), 3) := by decide +kernel
theorem dX12_isHeld_52 : decode cX12_isHeld 52 = .ok (.iload 5, 2) := by decide +kernel
theorem dX12_isHeld_54 : decode cX12_isHeld 54 = .ok (.ifCond .eq 5, 3) := by decide +kernel
theorem dX12_isHeld_57 : decode cX12_isHeld 57 = .ok (.iconst 1, 1) := by decide +kernel
theorem dX12_isHeld_58 : decode cX12_isHeld 58 = .ok (.ireturn, 1) := by decide +kernel
theorem dX12_isHeld_59 : decode cX12_isHeld 59 = .ok (.goto (-57), 3) := by decide +kernel
theorem dX12_isHeld_62 : decode cX12_isHeld 62 = .ok (.iconst 0, 1) := by decide +kernel
theorem dX12_isHeld_63 : decode cX12_isHeld 63 = .ok (.ireturn, 1) := by decide +kernel
theorem b_X12_isHeld (mm : MM) (Q : Value → MM → Prop) (a1 : Int32) (a2 : Int32) (h : G e_X12_isHeld 2 [(0, .ref 156), (2, .int a2), (3, .int a1)] [] mm Q) : Runs e_X12_isHeld [.ref 156, .int a1, .int a2] mm Q := by
  refine runs_of_G (L := [(0, .ref 156), (1, .int a1), (2, .int a2)]) pl_X12 (Nat.le_of_ble_eq_true rfl) rfl ?_
  refine g_iload_n (pc := 0) (x := a1) dX12_isHeld_0 rfl ?_
  refine g_istore_n (pc := 1) (L' := [(0, .ref 156), (1, .int a1), (2, .int a2), (3, .int a1)]) dX12_isHeld_1 (Nat.le_of_ble_eq_true rfl) rfl ?_
  refine g_sub (L' := [(0, .ref 156), (2, .int a2), (3, .int a1)]) [0, 2, 3] rfl ?_
  exact h
theorem b_X12_isHeld_2 (mm : MM) (Q : Value → MM → Prop) (l2 : Int32) (l3 : Int32) (h : (l2 ≤ l3 → (Q (.int (0 : Int32)) mm)) ∧ (¬ l2 ≤ l3 → (vp_in l3 400 ∧ (G e_X12_isHeld 18 [(0, .ref 156), (2, .int l2), (3, .int l3), (4, .int (mm.1 173 l3.toNatClampNeg)), (5, .int (1 : Int32))] [] mm Q)))) : G e_X12_isHeld 2 [(0, .ref 156), (2, .int l2), (3, .int l3)] [] mm Q := by
  refine g_iload_n (pc := 2) (x := l3) dX12_isHeld_2 rfl ?_
  refine g_iload_n (pc := 3) (x := l2) dX12_isHeld_3 rfl ?_
  refine g_icmp_ge (pc := 4) (tgt := 62) dX12_isHeld_4 (by decide) (fun c4 => ?_) (fun c4 => ?_)
  · have h := h.1 c4
    refine g_iconst (pc := 62) (v := (0 : Int32)) dX12_isHeld_62 (by decide) ?_
    exact g_iret (pc := 63) dX12_isHeld_63 rfl rfl (nar_B isB0) h
  · have h := h.2 c4
    refine g_aload_n (pc := 7) (x := 156) dX12_isHeld_7 rfl ?_
    refine g_getR (pc := 8) (dd := 17) dX12_isHeld_8 fo_X12_64 sh_156 rfl ?_
    refine g_iload_n (pc := 11) (x := l3) dX12_isHeld_11 rfl ?_
    refine g_iaload (pc := 12) dX12_isHeld_12 sh_173 h.1 ?_
    have h := h.2
    refine g_istore (pc := 13) (L' := [(0, .ref 156), (2, .int l2), (3, .int l3), (4, .int (mm.1 173 l3.toNatClampNeg))]) dX12_isHeld_13 (Nat.le_of_ble_eq_true rfl) rfl ?_
    refine g_iconst (pc := 15) (v := (1 : Int32)) dX12_isHeld_15 (by decide) ?_
    refine g_istore (pc := 16) (L' := [(0, .ref 156), (2, .int l2), (3, .int l3), (4, .int (mm.1 173 l3.toNatClampNeg)), (5, .int (1 : Int32))]) dX12_isHeld_16 (Nat.le_of_ble_eq_true rfl) rfl ?_
    exact h
theorem b_X12_isHeld_18 (mm : MM) (Q : Value → MM → Prop) (l2 : Int32) (l3 : Int32) (l4 : Int32) (l5 : Int32) (h : (l2 ≤ l3 → ((l5 = 0 → (G e_X12_isHeld 2 [(0, .ref 156), (2, .int l2), (3, .int l3)] [] mm Q)) ∧ (¬ l5 = 0 → (Q (.int (1 : Int32)) mm)))) ∧ (¬ l2 ≤ l3 → (vp_in l3 400 ∧ ((¬ (mm.1 173 l3.toNatClampNeg) = l4 → ((l5 = 0 → (G e_X12_isHeld 2 [(0, .ref 156), (2, .int l2), (3, .int l3)] [] mm Q)) ∧ (¬ l5 = 0 → (Q (.int (1 : Int32)) mm)))) ∧ ((mm.1 173 l3.toNatClampNeg) = l4 → ((l5 = 0 → (G e_X12_isHeld 18 [(0, .ref 156), (2, .int l2), (3, .int (l3 + (1 : Int32))), (4, .int l4), (5, .int l5)] [] mm Q)) ∧ (¬ l5 = 0 → (∃ Pm1 : Value → MM → Prop, Runs e_X12_isLit [.ref 156, .int l3] mm Pm1 ∧ (∀ r m1, Pm1 r m1 → r = .int 1 ∨ r = .int 0) ∧ (∀ m1, Pm1 (.int 1) m1 → (G e_X12_isHeld 18 [(0, .ref 156), (2, .int l2), (3, .int (l3 + (1 : Int32))), (4, .int l4), (5, .int (1 : Int32))] [] m1 Q)) ∧ (∀ m1, Pm1 (.int 0) m1 → (G e_X12_isHeld 18 [(0, .ref 156), (2, .int l2), (3, .int (l3 + (1 : Int32))), (4, .int l4), (5, .int (0 : Int32))] [] m1 Q)))))))))) : G e_X12_isHeld 18 [(0, .ref 156), (2, .int l2), (3, .int l3), (4, .int l4), (5, .int l5)] [] mm Q := by
  refine g_iload_n (pc := 18) (x := l3) dX12_isHeld_18 rfl ?_
  refine g_iload_n (pc := 19) (x := l2) dX12_isHeld_19 rfl ?_
  refine g_icmp_ge (pc := 20) (tgt := 52) dX12_isHeld_20 (by decide) (fun c20 => ?_) (fun c20 => ?_)
  · have h := h.1 c20
    refine g_iload (pc := 52) (x := l5) dX12_isHeld_52 rfl ?_
    refine g_if_eq (pc := 54) (tgt := 59) dX12_isHeld_54 (by decide) (fun c54 => ?_) (fun c54 => ?_)
    · have h := h.1 c54
      refine g_goto (pc := 59) (tgt := 2) dX12_isHeld_59 (by decide) ?_
      refine g_sub (L' := [(0, .ref 156), (2, .int l2), (3, .int l3)]) [0, 1, 2] rfl ?_
      exact h
    · have h := h.2 c54
      refine g_iconst (pc := 57) (v := (1 : Int32)) dX12_isHeld_57 (by decide) ?_
      exact g_iret (pc := 58) dX12_isHeld_58 rfl rfl (nar_B isB1) h
  · have h := h.2 c20
    refine g_aload_n (pc := 23) (x := 156) dX12_isHeld_23 rfl ?_
    refine g_getR (pc := 24) (dd := 17) dX12_isHeld_24 fo_X12_64 sh_156 rfl ?_
    refine g_iload_n (pc := 27) (x := l3) dX12_isHeld_27 rfl ?_
    refine g_iaload (pc := 28) dX12_isHeld_28 sh_173 h.1 ?_
    have h := h.2
    refine g_iload (pc := 29) (x := l4) dX12_isHeld_29 rfl ?_
    refine g_icmp_ne (pc := 31) (tgt := 52) dX12_isHeld_31 (by decide) (fun c31 => ?_) (fun c31 => ?_)
    · have h := h.1 c31
      refine g_iload (pc := 52) (x := l5) dX12_isHeld_52 rfl ?_
      refine g_if_eq (pc := 54) (tgt := 59) dX12_isHeld_54 (by decide) (fun c54 => ?_) (fun c54 => ?_)
      · have h := h.1 c54
        refine g_goto (pc := 59) (tgt := 2) dX12_isHeld_59 (by decide) ?_
        refine g_sub (L' := [(0, .ref 156), (2, .int l2), (3, .int l3)]) [0, 1, 2] rfl ?_
        exact h
      · have h := h.2 c54
        refine g_iconst (pc := 57) (v := (1 : Int32)) dX12_isHeld_57 (by decide) ?_
        exact g_iret (pc := 58) dX12_isHeld_58 rfl rfl (nar_B isB1) h
    · have h := h.2 c31
      refine g_iload (pc := 34) (x := l5) dX12_isHeld_34 rfl ?_
      refine g_if_eq (pc := 36) (tgt := 46) dX12_isHeld_36 (by decide) (fun c36 => ?_) (fun c36 => ?_)
      · have h := h.1 c36
        refine g_iinc (pc := 46) (x := l3) (v := (l3 + (1 : Int32))) (L' := [(0, .ref 156), (2, .int l2), (3, .int (l3 + (1 : Int32))), (4, .int l4), (5, .int l5)]) dX12_isHeld_46 rfl rfl (Nat.le_of_ble_eq_true rfl) rfl ?_
        refine g_goto (pc := 49) (tgt := 18) dX12_isHeld_49 (by decide) ?_
        exact h
      · have h := h.2 c36
        refine g_aload_n (pc := 39) (x := 156) dX12_isHeld_39 rfl ?_
        refine g_iload_n (pc := 40) (x := l3) dX12_isHeld_40 rfl ?_
        obtain ⟨Pm1, hRm1, h⟩ := h
        refine g_callV (pc := 41) (as := [.int l3]) dX12_isHeld_41 cw_X12_358 (by decide) rfl rfl sh_156 (Nat.le_of_ble_eq_true rfl) hRm1 ?_
        intro r_ m1 hz_ hp_
        rcases h.1 r_ m1 hp_ with rfl | rfl
        · have h := h.2.1 m1 hp_
          refine g_istore (pc := 44) (L' := [(0, .ref 156), (2, .int l2), (3, .int l3), (4, .int l4), (5, .int (1 : Int32))]) dX12_isHeld_44 (Nat.le_of_ble_eq_true rfl) rfl ?_
          refine g_iinc (pc := 46) (x := l3) (v := (l3 + (1 : Int32))) (L' := [(0, .ref 156), (2, .int l2), (3, .int (l3 + (1 : Int32))), (4, .int l4), (5, .int (1 : Int32))]) dX12_isHeld_46 rfl rfl (Nat.le_of_ble_eq_true rfl) rfl ?_
          refine g_goto (pc := 49) (tgt := 18) dX12_isHeld_49 (by decide) ?_
          exact h
        · have h := h.2.2 m1 hp_
          refine g_istore (pc := 44) (L' := [(0, .ref 156), (2, .int l2), (3, .int l3), (4, .int l4), (5, .int (0 : Int32))]) dX12_isHeld_44 (Nat.le_of_ble_eq_true rfl) rfl ?_
          refine g_iinc (pc := 46) (x := l3) (v := (l3 + (1 : Int32))) (L' := [(0, .ref 156), (2, .int l2), (3, .int (l3 + (1 : Int32))), (4, .int l4), (5, .int (0 : Int32))]) dX12_isHeld_46 rfl rfl (Nat.le_of_ble_eq_true rfl) rfl ?_
          refine g_goto (pc := 49) (tgt := 18) dX12_isHeld_49 (by decide) ?_
          exact h
theorem dX12_within_0 : decode cX12_within 0 = .ok (.iload_n 0, 1) := by decide +kernel
theorem dX12_within_1 : decode cX12_within 1 = .ok (.iload_n 1, 1) := by decide +kernel
theorem dX12_within_2 : decode cX12_within 2 = .ok (.if_icmp .ge 7, 3) := by decide +kernel
theorem dX12_within_5 : decode cX12_within 5 = .ok (.iload_n 1, 1) := by decide +kernel
theorem dX12_within_6 : decode cX12_within 6 = .ok (.goto 13, 3) := by decide +kernel
theorem dX12_within_9 : decode cX12_within 9 = .ok (.iload_n 0, 1) := by decide +kernel
theorem dX12_within_10 : decode cX12_within 10 = .ok (.iload_n 2, 1) := by decide +kernel
theorem dX12_within_11 : decode cX12_within 11 = .ok (.if_icmp .le 7, 3) := by decide +kernel
theorem dX12_within_14 : decode cX12_within 14 = .ok (.iload_n 2, 1) := by decide +kernel
theorem dX12_within_15 : decode cX12_within 15 = .ok (.goto 4, 3) := by decide +kernel
theorem dX12_within_18 : decode cX12_within 18 = .ok (.iload_n 0, 1) := by decide +kernel
theorem dX12_within_19 : decode cX12_within 19 = .ok (.ireturn, 1) := by decide +kernel
noncomputable def v_X12_within (mm : MM) (a0 : Int32) (a1 : Int32) (a2 : Int32) : Int32 := (cite (a1 ≤ a0) (cite (a0 ≤ a2) a0 a2) a1)
theorem rv_X12_within (mm : MM) (a0 : Int32) (a1 : Int32) (a2 : Int32) : Runs e_X12_within [.int a0, .int a1, .int a2] mm (fun r m_ => r = .int (v_X12_within mm a0 a1 a2) ∧ mm = m_) := by
  refine runs_of_G (L := [(0, .int a0), (1, .int a1), (2, .int a2)]) pl_X12 (Nat.le_of_ble_eq_true rfl) rfl ?_
  refine g_iload_n (pc := 0) (x := a0) dX12_within_0 rfl ?_
  refine g_iload_n (pc := 1) (x := a1) dX12_within_1 rfl ?_
  refine g_icmp_ge (pc := 2) (tgt := 9) dX12_within_2 (by decide) (fun c2 => ?_) (fun c2 => ?_)
  · have c2_0 : a1 ≤ a0 := c2
    refine g_iload_n (pc := 9) (x := a0) dX12_within_9 rfl ?_
    refine g_iload_n (pc := 10) (x := a2) dX12_within_10 rfl ?_
    refine g_icmp_le (pc := 11) (tgt := 18) dX12_within_11 (by decide) (fun c11 => ?_) (fun c11 => ?_)
    · have c11_1 : a0 ≤ a2 := c11
      refine g_iload_n (pc := 18) (x := a0) dX12_within_18 rfl ?_
      exact g_iret (pc := 19) dX12_within_19 rfl rfl rfl ⟨(by unfold v_X12_within; rw [cite_pos c2_0, cite_pos c11_1] <;> rfl), rfl⟩
    · have c11_1 : ¬ a0 ≤ a2 := c11
      refine g_iload_n (pc := 14) (x := a2) dX12_within_14 rfl ?_
      refine g_goto (pc := 15) (tgt := 19) dX12_within_15 (by decide) ?_
      exact g_iret (pc := 19) dX12_within_19 rfl rfl rfl ⟨(by unfold v_X12_within; rw [cite_pos c2_0, cite_neg c11_1] <;> rfl), rfl⟩
  · have c2_0 : ¬ a1 ≤ a0 := c2
    refine g_iload_n (pc := 5) (x := a1) dX12_within_5 rfl ?_
    refine g_goto (pc := 6) (tgt := 19) dX12_within_6 (by decide) ?_
    exact g_iret (pc := 19) dX12_within_19 rfl rfl rfl ⟨(by unfold v_X12_within; rw [cite_neg c2_0] <;> rfl), rfl⟩
theorem dX12_says_0 : decode cX12_says 0 = .ok (.aload_n 0, 1) := by decide +kernel
theorem dX12_says_1 : decode cX12_says 1 = .ok (.getfield 30, 3) := by decide +kernel
theorem dX12_says_4 : decode cX12_says 4 = .ok (.bipush 10, 2) := by decide +kernel
theorem dX12_says_6 : decode cX12_says 6 = .ok (.iconst 2, 1) := by decide +kernel
theorem dX12_says_7 : decode cX12_says 7 = .ok (.iload_n 1, 1) := by decide +kernel
theorem dX12_says_8 : decode cX12_says 8 = .ok (.imul, 1) := by decide +kernel
theorem dX12_says_9 : decode cX12_says 9 = .ok (.iadd, 1) := by decide +kernel
theorem dX12_says_10 : decode cX12_says 10 = .ok (.iaload, 1) := by decide +kernel
theorem dX12_says_11 : decode cX12_says 11 = .ok (.ifCond .ge 7, 3) := by decide +kernel
theorem dX12_says_14 : decode cX12_says 14 = .ok (.iload_n 2, 1) := by decide +kernel
theorem dX12_says_15 : decode cX12_says 15 = .ok (.goto 31, 3) := by decide +kernel
theorem dX12_says_18 : decode cX12_says 18 = .ok (.aload_n 0, 1) := by decide +kernel
theorem dX12_says_19 : decode cX12_says 19 = .ok (.aload_n 0, 1) := by decide +kernel
theorem dX12_says_20 : decode cX12_says 20 = .ok (.getfield 30, 3) := by decide +kernel
theorem dX12_says_23 : decode cX12_says 23 = .ok (.bipush 10, 2) := by decide +kernel
theorem dX12_says_25 : decode cX12_says 25 = .ok (.iconst 2, 1) := by decide +kernel
theorem dX12_says_26 : decode cX12_says 26 = .ok (.iload_n 1, 1) := by decide +kernel
theorem dX12_says_27 : decode cX12_says 27 = .ok (.imul, 1) := by decide +kernel
theorem dX12_says_28 : decode cX12_says 28 = .ok (.iadd, 1) := by decide +kernel
theorem dX12_says_29 : decode cX12_says 29 = .ok (.iaload, 1) := by decide +kernel
theorem dX12_says_30 : decode cX12_says 30 = .ok (.aload_n 0, 1) := by decide +kernel
theorem dX12_says_31 : decode cX12_says 31 = .ok (.getfield 30, 3) := by decide +kernel
theorem dX12_says_34 : decode cX12_says 34 = .ok (.bipush 10, 2) := by decide +kernel
theorem dX12_says_36 : decode cX12_says 36 = .ok (.iconst 2, 1) := by decide +kernel
theorem dX12_says_37 : decode cX12_says 37 = .ok (.iload_n 1, 1) := by decide +kernel
theorem dX12_says_38 : decode cX12_says 38 = .ok (.imul, 1) := by decide +kernel
theorem dX12_says_39 : decode cX12_says 39 = .ok (.iadd, 1) := by decide +kernel
theorem dX12_says_40 : decode cX12_says 40 = .ok (.iconst 1, 1) := by decide +kernel
theorem dX12_says_41 : decode cX12_says 41 = .ok (.iadd, 1) := by decide +kernel
theorem dX12_says_42 : decode cX12_says 42 = .ok (.iaload, 1) := by decide +kernel
theorem dX12_says_43 : decode cX12_says 43 = .ok (.invokevirtual 354, 3) := by decide +kernel
theorem dX12_says_46 : decode cX12_says 46 = .ok (.iconst 0, 1) := by decide +kernel
theorem dX12_says_47 : decode cX12_says 47 = .ok (.bipush 99, 2) := by decide +kernel
theorem dX12_says_49 : decode cX12_says 49 = .ok (.invokestatic 361, 3) := by decide +kernel
theorem dX12_says_52 : decode cX12_says 52 = .ok (.ireturn, 1) := by decide +kernel
theorem b_X12_says (mm : MM) (Q : Value → MM → Prop) (a1 : Int32) (a2 : Int32) (h : vp_in ((10 : Int32) + ((2 : Int32) * a1)) 420 ∧ ((0 ≤ (mm.1 162 ((10 : Int32) + ((2 : Int32) * a1)).toNatClampNeg) → (vp_in ((10 : Int32) + ((2 : Int32) * a1)) 420 ∧ (vp_in (((10 : Int32) + ((2 : Int32) * a1)) + (1 : Int32)) 420 ∧ (∃ Pm1 : Value → MM → Prop, Runs e_X12_sum [.ref 156, .int (mm.1 162 ((10 : Int32) + ((2 : Int32) * a1)).toNatClampNeg), .int (mm.1 162 (((10 : Int32) + ((2 : Int32) * a1)) + (1 : Int32)).toNatClampNeg)] mm Pm1 ∧ ∀ (r1 : Int32) (m1 : MM), Pm1 (.int r1) m1 → (Q (.int (v_X12_within m1 r1 (0 : Int32) (99 : Int32))) m1))))) ∧ (¬ 0 ≤ (mm.1 162 ((10 : Int32) + ((2 : Int32) * a1)).toNatClampNeg) → (Q (.int (v_X12_within mm a2 (0 : Int32) (99 : Int32))) mm)))) : Runs e_X12_says [.ref 156, .int a1, .int a2] mm Q := by
  refine runs_of_G (L := [(0, .ref 156), (1, .int a1), (2, .int a2)]) pl_X12 (Nat.le_of_ble_eq_true rfl) rfl ?_
  refine g_aload_n (pc := 0) (x := 156) dX12_says_0 rfl ?_
  refine g_getR (pc := 1) (dd := 6) dX12_says_1 fo_X12_30 sh_156 rfl ?_
  refine g_bipush (pc := 4) (v := (10 : Int32)) dX12_says_4 (by decide) ?_
  refine g_iconst (pc := 6) (v := (2 : Int32)) dX12_says_6 (by decide) ?_
  refine g_iload_n (pc := 7) (x := a1) dX12_says_7 rfl ?_
  refine g_imul (pc := 8) dX12_says_8 ?_
  refine g_iadd (pc := 9) dX12_says_9 ?_
  refine g_iaload (pc := 10) dX12_says_10 sh_162 h.1 ?_
  have h := h.2
  refine g_if_ge (pc := 11) (tgt := 18) dX12_says_11 (by decide) (fun c11 => ?_) (fun c11 => ?_)
  · have h := h.1 c11
    refine g_aload_n (pc := 18) (x := 156) dX12_says_18 rfl ?_
    refine g_aload_n (pc := 19) (x := 156) dX12_says_19 rfl ?_
    refine g_getR (pc := 20) (dd := 6) dX12_says_20 fo_X12_30 sh_156 rfl ?_
    refine g_bipush (pc := 23) (v := (10 : Int32)) dX12_says_23 (by decide) ?_
    refine g_iconst (pc := 25) (v := (2 : Int32)) dX12_says_25 (by decide) ?_
    refine g_iload_n (pc := 26) (x := a1) dX12_says_26 rfl ?_
    refine g_imul (pc := 27) dX12_says_27 ?_
    refine g_iadd (pc := 28) dX12_says_28 ?_
    refine g_iaload (pc := 29) dX12_says_29 sh_162 h.1 ?_
    have h := h.2
    refine g_aload_n (pc := 30) (x := 156) dX12_says_30 rfl ?_
    refine g_getR (pc := 31) (dd := 6) dX12_says_31 fo_X12_30 sh_156 rfl ?_
    refine g_bipush (pc := 34) (v := (10 : Int32)) dX12_says_34 (by decide) ?_
    refine g_iconst (pc := 36) (v := (2 : Int32)) dX12_says_36 (by decide) ?_
    refine g_iload_n (pc := 37) (x := a1) dX12_says_37 rfl ?_
    refine g_imul (pc := 38) dX12_says_38 ?_
    refine g_iadd (pc := 39) dX12_says_39 ?_
    refine g_iconst (pc := 40) (v := (1 : Int32)) dX12_says_40 (by decide) ?_
    refine g_iadd (pc := 41) dX12_says_41 ?_
    refine g_iaload (pc := 42) dX12_says_42 sh_162 h.1 ?_
    have h := h.2
    obtain ⟨Pm1, hRm1, h⟩ := h
    refine g_callV (pc := 43) (as := [.int (mm.1 162 ((10 : Int32) + ((2 : Int32) * a1)).toNatClampNeg), .int (mm.1 162 (((10 : Int32) + ((2 : Int32) * a1)) + (1 : Int32)).toNatClampNeg)]) dX12_says_43 cw_X12_354 (by decide) rfl rfl sh_156 (Nat.le_of_ble_eq_true rfl) hRm1 ?_
    intro r_ m1 hz_ hp_
    obtain ⟨r1, rfl⟩ := hz_
    have h := h r1 m1 hp_
    refine g_iconst (pc := 46) (v := (0 : Int32)) dX12_says_46 (by decide) ?_
    refine g_bipush (pc := 47) (v := (99 : Int32)) dX12_says_47 (by decide) ?_
    refine g_callS (pc := 49) (as := [.int r1, .int (0 : Int32), .int (99 : Int32)]) dX12_says_49 cw_X12_361 (by decide) rfl rfl (Nat.le_of_ble_eq_true rfl) (rv_X12_within m1 r1 (0 : Int32) (99 : Int32)) ?_
    rintro r_ m_ hz_ ⟨rfl, rfl⟩
    exact g_iret (pc := 52) dX12_says_52 rfl rfl rfl h
  · have h := h.2 c11
    refine g_iload_n (pc := 14) (x := a2) dX12_says_14 rfl ?_
    refine g_goto (pc := 15) (tgt := 46) dX12_says_15 (by decide) ?_
    refine g_iconst (pc := 46) (v := (0 : Int32)) dX12_says_46 (by decide) ?_
    refine g_bipush (pc := 47) (v := (99 : Int32)) dX12_says_47 (by decide) ?_
    refine g_callS (pc := 49) (as := [.int a2, .int (0 : Int32), .int (99 : Int32)]) dX12_says_49 cw_X12_361 (by decide) rfl rfl (Nat.le_of_ble_eq_true rfl) (rv_X12_within mm a2 (0 : Int32) (99 : Int32)) ?_
    rintro r_ m_ hz_ ⟨rfl, rfl⟩
    exact g_iret (pc := 52) dX12_says_52 rfl rfl rfl h
theorem dX12_askNone_0 : decode cX12_askNone 0 = .ok (.iconst 0, 1) := by decide +kernel
theorem dX12_askNone_1 : decode cX12_askNone 1 = .ok (.istore_n 1, 1) := by decide +kernel
theorem dX12_askNone_2 : decode cX12_askNone 2 = .ok (.iload_n 1, 1) := by decide +kernel
theorem dX12_askNone_3 : decode cX12_askNone 3 = .ok (.bipush 9, 2) := by decide +kernel
theorem dX12_askNone_5 : decode cX12_askNone 5 = .ok (.if_icmp .ge 16, 3) := by decide +kernel
theorem dX12_askNone_8 : decode cX12_askNone 8 = .ok (.aload_n 0, 1) := by decide +kernel
theorem dX12_askNone_9 : decode cX12_askNone 9 = .ok (.getfield 82, 3) := by decide +kernel
theorem dX12_askNone_12 : decode cX12_askNone 12 = .ok (.iload_n 1, 1) := by decide +kernel
theorem dX12_askNone_13 : decode cX12_askNone 13 = .ok (.iconst 0, 1) := by decide +kernel
theorem dX12_askNone_14 : decode cX12_askNone 14 = .ok (.iastore, 1) := by decide +kernel
theorem dX12_askNone_15 : decode cX12_askNone 15 = .ok (.iinc 1 1, 3) := by decide +kernel
theorem dX12_askNone_18 : decode cX12_askNone 18 = .ok (.goto (-16), 3) := by decide +kernel
theorem dX12_askNone_21 : decode cX12_askNone 21 = .ok (.return_, 1) := by decide +kernel
theorem b_X12_askNone (mm : MM) (Q : Value → MM → Prop) (h : G e_X12_askNone 2 [(0, .ref 156), (1, .int (0 : Int32))] [] mm Q) : Runs e_X12_askNone [.ref 156] mm Q := by
  refine runs_of_G (L := [(0, .ref 156)]) pl_X12 (Nat.le_of_ble_eq_true rfl) rfl ?_
  refine g_iconst (pc := 0) (v := (0 : Int32)) dX12_askNone_0 (by decide) ?_
  refine g_istore_n (pc := 1) (L' := [(0, .ref 156), (1, .int (0 : Int32))]) dX12_askNone_1 (Nat.le_of_ble_eq_true rfl) rfl ?_
  exact h
theorem b_X12_askNone_2 (mm : MM) (Q : Value → MM → Prop) (l1 : Int32) (h : ((9 : Int32) ≤ l1 → (Q .null mm)) ∧ (¬ (9 : Int32) ≤ l1 → (vp_in l1 9 ∧ (G e_X12_askNone 2 [(0, .ref 156), (1, .int (l1 + (1 : Int32)))] [] (wI mm 179 (l1.toNatClampNeg) (0 : Int32)) Q)))) : G e_X12_askNone 2 [(0, .ref 156), (1, .int l1)] [] mm Q := by
  refine g_iload_n (pc := 2) (x := l1) dX12_askNone_2 rfl ?_
  refine g_bipush (pc := 3) (v := (9 : Int32)) dX12_askNone_3 (by decide) ?_
  refine g_icmp_ge (pc := 5) (tgt := 21) dX12_askNone_5 (by decide) (fun c5 => ?_) (fun c5 => ?_)
  · have h := h.1 c5
    exact g_vret (pc := 21) dX12_askNone_21 rfl rfl h
  · have h := h.2 c5
    refine g_aload_n (pc := 8) (x := 156) dX12_askNone_8 rfl ?_
    refine g_getR (pc := 9) (dd := 23) dX12_askNone_9 fo_X12_82 sh_156 rfl ?_
    refine g_iload_n (pc := 12) (x := l1) dX12_askNone_12 rfl ?_
    refine g_iconst (pc := 13) (v := (0 : Int32)) dX12_askNone_13 (by decide) ?_
    refine g_iastore (pc := 14) dX12_askNone_14 sh_179 h.1 ?_
    have h := h.2
    refine g_iinc (pc := 15) (x := l1) (v := (l1 + (1 : Int32))) (L' := [(0, .ref 156), (1, .int (l1 + (1 : Int32)))]) dX12_askNone_15 rfl rfl (Nat.le_of_ble_eq_true rfl) rfl ?_
    refine g_goto (pc := 18) (tgt := 2) dX12_askNone_18 (by decide) ?_
    exact h
theorem dX12_isIn_0 : decode cX12_isIn 0 = .ok (.iload_n 0, 1) := by decide +kernel
theorem dX12_isIn_1 : decode cX12_isIn 1 = .ok (.iload_n 1, 1) := by decide +kernel
theorem dX12_isIn_2 : decode cX12_isIn 2 = .ok (.if_icmp .lt 12, 3) := by decide +kernel
theorem dX12_isIn_5 : decode cX12_isIn 5 = .ok (.iload_n 0, 1) := by decide +kernel
theorem dX12_isIn_6 : decode cX12_isIn 6 = .ok (.iload_n 2, 1) := by decide +kernel
theorem dX12_isIn_7 : decode cX12_isIn 7 = .ok (.if_icmp .gt 7, 3) := by decide +kernel
theorem dX12_isIn_10 : decode cX12_isIn 10 = .ok (.iconst 1, 1) := by decide +kernel
theorem dX12_isIn_11 : decode cX12_isIn 11 = .ok (.goto 4, 3) := by decide +kernel
theorem dX12_isIn_14 : decode cX12_isIn 14 = .ok (.iconst 0, 1) := by decide +kernel
theorem dX12_isIn_15 : decode cX12_isIn 15 = .ok (.ireturn, 1) := by decide +kernel
def p_X12_isIn (mm : MM) (a0 : Int32) (a1 : Int32) (a2 : Int32) : Prop := (¬ a0 < a1 ∧ ¬ a2 < a0)
theorem rv_X12_isIn (mm : MM) (a0 : Int32) (a1 : Int32) (a2 : Int32) : Runs e_X12_isIn [.int a0, .int a1, .int a2] mm (fun r m_ => ((p_X12_isIn mm a0 a1 a2 ∧ r = .int 1) ∨ (¬ p_X12_isIn mm a0 a1 a2 ∧ r = .int 0)) ∧ mm = m_) := by
  refine runs_of_G (L := [(0, .int a0), (1, .int a1), (2, .int a2)]) pl_X12 (Nat.le_of_ble_eq_true rfl) rfl ?_
  refine g_iload_n (pc := 0) (x := a0) dX12_isIn_0 rfl ?_
  refine g_iload_n (pc := 1) (x := a1) dX12_isIn_1 rfl ?_
  refine g_icmp_lt (pc := 2) (tgt := 14) dX12_isIn_2 (by decide) (fun c2 => ?_) (fun c2 => ?_)
  · have c2_0 : a0 < a1 := c2
    refine g_iconst (pc := 14) (v := (0 : Int32)) dX12_isIn_14 (by decide) ?_
    exact g_iret (pc := 15) dX12_isIn_15 rfl rfl (nar_B isB0) ⟨Or.inr ⟨(show ¬ p_X12_isIn mm a0 a1 a2 from (fun h_ => (h_.1 c2_0))), rfl⟩, rfl⟩
  · have c2_0 : ¬ a0 < a1 := c2
    refine g_iload_n (pc := 5) (x := a0) dX12_isIn_5 rfl ?_
    refine g_iload_n (pc := 6) (x := a2) dX12_isIn_6 rfl ?_
    refine g_icmp_gt (pc := 7) (tgt := 14) dX12_isIn_7 (by decide) (fun c7 => ?_) (fun c7 => ?_)
    · have c7_1 : a2 < a0 := c7
      refine g_iconst (pc := 14) (v := (0 : Int32)) dX12_isIn_14 (by decide) ?_
      exact g_iret (pc := 15) dX12_isIn_15 rfl rfl (nar_B isB0) ⟨Or.inr ⟨(show ¬ p_X12_isIn mm a0 a1 a2 from (fun h_ => (not_not_intro c7_1) h_.2)), rfl⟩, rfl⟩
    · have c7_1 : ¬ a2 < a0 := c7
      refine g_iconst (pc := 10) (v := (1 : Int32)) dX12_isIn_10 (by decide) ?_
      refine g_goto (pc := 11) (tgt := 15) dX12_isIn_11 (by decide) ?_
      exact g_iret (pc := 15) dX12_isIn_15 rfl rfl (nar_B isB1) ⟨Or.inl ⟨(show p_X12_isIn mm a0 a1 a2 from ⟨c2_0, c7_1⟩), rfl⟩, rfl⟩
theorem dX12_isHouse_0 : decode cX12_isHouse 0 = .ok (.iload_n 1, 1) := by decide +kernel
theorem dX12_isHouse_1 : decode cX12_isHouse 1 = .ok (.ifCond .lt 17, 3) := by decide +kernel
theorem dX12_isHouse_4 : decode cX12_isHouse 4 = .ok (.iload_n 1, 1) := by decide +kernel
theorem dX12_isHouse_5 : decode cX12_isHouse 5 = .ok (.aload_n 0, 1) := by decide +kernel
theorem dX12_isHouse_6 : decode cX12_isHouse 6 = .ok (.getfield 30, 3) := by decide +kernel
theorem dX12_isHouse_9 : decode cX12_isHouse 9 = .ok (.iconst 0, 1) := by decide +kernel
theorem dX12_isHouse_10 : decode cX12_isHouse 10 = .ok (.iaload, 1) := by decide +kernel
theorem dX12_isHouse_11 : decode cX12_isHouse 11 = .ok (.if_icmp .ge 7, 3) := by decide +kernel
theorem dX12_isHouse_14 : decode cX12_isHouse 14 = .ok (.iconst 1, 1) := by decide +kernel
theorem dX12_isHouse_15 : decode cX12_isHouse 15 = .ok (.goto 4, 3) := by decide +kernel
theorem dX12_isHouse_18 : decode cX12_isHouse 18 = .ok (.iconst 0, 1) := by decide +kernel
theorem dX12_isHouse_19 : decode cX12_isHouse 19 = .ok (.ireturn, 1) := by decide +kernel
def p_X12_isHouse (mm : MM) (a1 : Int32) : Prop := (¬ a1 < 0 ∧ ¬ (mm.1 162 0) ≤ a1)
theorem rv_X12_isHouse (mm : MM) (a1 : Int32) : Runs e_X12_isHouse [.ref 156, .int a1] mm (fun r m_ => ((p_X12_isHouse mm a1 ∧ r = .int 1) ∨ (¬ p_X12_isHouse mm a1 ∧ r = .int 0)) ∧ mm = m_) := by
  refine runs_of_G (L := [(0, .ref 156), (1, .int a1)]) pl_X12 (Nat.le_of_ble_eq_true rfl) rfl ?_
  refine g_iload_n (pc := 0) (x := a1) dX12_isHouse_0 rfl ?_
  refine g_if_lt (pc := 1) (tgt := 18) dX12_isHouse_1 (by decide) (fun c1 => ?_) (fun c1 => ?_)
  · have c1_0 : a1 < 0 := c1
    refine g_iconst (pc := 18) (v := (0 : Int32)) dX12_isHouse_18 (by decide) ?_
    exact g_iret (pc := 19) dX12_isHouse_19 rfl rfl (nar_B isB0) ⟨Or.inr ⟨(show ¬ p_X12_isHouse mm a1 from (fun h_ => (h_.1 c1_0))), rfl⟩, rfl⟩
  · have c1_0 : ¬ a1 < 0 := c1
    refine g_iload_n (pc := 4) (x := a1) dX12_isHouse_4 rfl ?_
    refine g_aload_n (pc := 5) (x := 156) dX12_isHouse_5 rfl ?_
    refine g_getR (pc := 6) (dd := 6) dX12_isHouse_6 fo_X12_30 sh_156 rfl ?_
    refine g_iconst (pc := 9) (v := (0 : Int32)) dX12_isHouse_9 (by decide) ?_
    refine g_iaload (pc := 10) dX12_isHouse_10 sh_162 (vp_in_nI (n := 0) (N := 420) (by decide) (by decide)) ?_
    refine g_icmp_ge (pc := 11) (tgt := 18) dX12_isHouse_11 (by decide) (fun c11 => ?_) (fun c11 => ?_)
    · have c11_1 : (mm.1 162 0) ≤ a1 := c11
      refine g_iconst (pc := 18) (v := (0 : Int32)) dX12_isHouse_18 (by decide) ?_
      exact g_iret (pc := 19) dX12_isHouse_19 rfl rfl (nar_B isB0) ⟨Or.inr ⟨(show ¬ p_X12_isHouse mm a1 from (fun h_ => (not_not_intro c11_1) h_.2)), rfl⟩, rfl⟩
    · have c11_1 : ¬ (mm.1 162 0) ≤ a1 := c11
      refine g_iconst (pc := 14) (v := (1 : Int32)) dX12_isHouse_14 (by decide) ?_
      refine g_goto (pc := 15) (tgt := 19) dX12_isHouse_15 (by decide) ?_
      exact g_iret (pc := 19) dX12_isHouse_19 rfl rfl (nar_B isB1) ⟨Or.inl ⟨(show p_X12_isHouse mm a1 from ⟨c1_0, c11_1⟩), rfl⟩, rfl⟩
theorem dX12_isOffice_0 : decode cX12_isOffice 0 = .ok (.iload_n 1, 1) := by decide +kernel
theorem dX12_isOffice_1 : decode cX12_isOffice 1 = .ok (.ifCond .lt 17, 3) := by decide +kernel
theorem dX12_isOffice_4 : decode cX12_isOffice 4 = .ok (.iload_n 1, 1) := by decide +kernel
theorem dX12_isOffice_5 : decode cX12_isOffice 5 = .ok (.aload_n 0, 1) := by decide +kernel
theorem dX12_isOffice_6 : decode cX12_isOffice 6 = .ok (.getfield 30, 3) := by decide +kernel
theorem dX12_isOffice_9 : decode cX12_isOffice 9 = .ok (.iconst 1, 1) := by decide +kernel
theorem dX12_isOffice_10 : decode cX12_isOffice 10 = .ok (.iaload, 1) := by decide +kernel
theorem dX12_isOffice_11 : decode cX12_isOffice 11 = .ok (.if_icmp .ge 7, 3) := by decide +kernel
theorem dX12_isOffice_14 : decode cX12_isOffice 14 = .ok (.iconst 1, 1) := by decide +kernel
theorem dX12_isOffice_15 : decode cX12_isOffice 15 = .ok (.goto 4, 3) := by decide +kernel
theorem dX12_isOffice_18 : decode cX12_isOffice 18 = .ok (.iconst 0, 1) := by decide +kernel
theorem dX12_isOffice_19 : decode cX12_isOffice 19 = .ok (.ireturn, 1) := by decide +kernel
def p_X12_isOffice (mm : MM) (a1 : Int32) : Prop := (¬ a1 < 0 ∧ ¬ (mm.1 162 1) ≤ a1)
theorem rv_X12_isOffice (mm : MM) (a1 : Int32) : Runs e_X12_isOffice [.ref 156, .int a1] mm (fun r m_ => ((p_X12_isOffice mm a1 ∧ r = .int 1) ∨ (¬ p_X12_isOffice mm a1 ∧ r = .int 0)) ∧ mm = m_) := by
  refine runs_of_G (L := [(0, .ref 156), (1, .int a1)]) pl_X12 (Nat.le_of_ble_eq_true rfl) rfl ?_
  refine g_iload_n (pc := 0) (x := a1) dX12_isOffice_0 rfl ?_
  refine g_if_lt (pc := 1) (tgt := 18) dX12_isOffice_1 (by decide) (fun c1 => ?_) (fun c1 => ?_)
  · have c1_0 : a1 < 0 := c1
    refine g_iconst (pc := 18) (v := (0 : Int32)) dX12_isOffice_18 (by decide) ?_
    exact g_iret (pc := 19) dX12_isOffice_19 rfl rfl (nar_B isB0) ⟨Or.inr ⟨(show ¬ p_X12_isOffice mm a1 from (fun h_ => (h_.1 c1_0))), rfl⟩, rfl⟩
  · have c1_0 : ¬ a1 < 0 := c1
    refine g_iload_n (pc := 4) (x := a1) dX12_isOffice_4 rfl ?_
    refine g_aload_n (pc := 5) (x := 156) dX12_isOffice_5 rfl ?_
    refine g_getR (pc := 6) (dd := 6) dX12_isOffice_6 fo_X12_30 sh_156 rfl ?_
    refine g_iconst (pc := 9) (v := (1 : Int32)) dX12_isOffice_9 (by decide) ?_
    refine g_iaload (pc := 10) dX12_isOffice_10 sh_162 (vp_in_nI (n := 1) (N := 420) (by decide) (by decide)) ?_
    refine g_icmp_ge (pc := 11) (tgt := 18) dX12_isOffice_11 (by decide) (fun c11 => ?_) (fun c11 => ?_)
    · have c11_1 : (mm.1 162 1) ≤ a1 := c11
      refine g_iconst (pc := 18) (v := (0 : Int32)) dX12_isOffice_18 (by decide) ?_
      exact g_iret (pc := 19) dX12_isOffice_19 rfl rfl (nar_B isB0) ⟨Or.inr ⟨(show ¬ p_X12_isOffice mm a1 from (fun h_ => (not_not_intro c11_1) h_.2)), rfl⟩, rfl⟩
    · have c11_1 : ¬ (mm.1 162 1) ≤ a1 := c11
      refine g_iconst (pc := 14) (v := (1 : Int32)) dX12_isOffice_14 (by decide) ?_
      refine g_goto (pc := 15) (tgt := 19) dX12_isOffice_15 (by decide) ?_
      exact g_iret (pc := 19) dX12_isOffice_19 rfl rfl (nar_B isB1) ⟨Or.inl ⟨(show p_X12_isOffice mm a1 from ⟨c1_0, c11_1⟩), rfl⟩, rfl⟩
theorem dX12_xOf_0 : decode cX12_xOf 0 = .ok (.aload_n 0, 1) := by decide +kernel
theorem dX12_xOf_1 : decode cX12_xOf 1 = .ok (.getfield 30, 3) := by decide +kernel
theorem dX12_xOf_4 : decode cX12_xOf 4 = .ok (.bipush 20, 2) := by decide +kernel
theorem dX12_xOf_6 : decode cX12_xOf 6 = .ok (.iconst 3, 1) := by decide +kernel
theorem dX12_xOf_7 : decode cX12_xOf 7 = .ok (.iload_n 1, 1) := by decide +kernel
theorem dX12_xOf_8 : decode cX12_xOf 8 = .ok (.imul, 1) := by decide +kernel
theorem dX12_xOf_9 : decode cX12_xOf 9 = .ok (.iadd, 1) := by decide +kernel
theorem dX12_xOf_10 : decode cX12_xOf 10 = .ok (.iaload, 1) := by decide +kernel
theorem dX12_xOf_11 : decode cX12_xOf 11 = .ok (.ireturn, 1) := by decide +kernel
def o_X12_xOf (mm : MM) (a1 : Int32) : Prop := vp_in ((20 : Int32) + ((3 : Int32) * a1)) 420 ∧ (True)
noncomputable def v_X12_xOf (mm : MM) (a1 : Int32) : Int32 := (mm.1 162 ((20 : Int32) + ((3 : Int32) * a1)).toNatClampNeg)
theorem rv_X12_xOf (mm : MM) (a1 : Int32) (h : o_X12_xOf mm a1) : Runs e_X12_xOf [.ref 156, .int a1] mm (fun r m_ => r = .int (v_X12_xOf mm a1) ∧ mm = m_) := by
  refine runs_of_G (L := [(0, .ref 156), (1, .int a1)]) pl_X12 (Nat.le_of_ble_eq_true rfl) rfl ?_
  unfold o_X12_xOf at h
  refine g_aload_n (pc := 0) (x := 156) dX12_xOf_0 rfl ?_
  refine g_getR (pc := 1) (dd := 6) dX12_xOf_1 fo_X12_30 sh_156 rfl ?_
  refine g_bipush (pc := 4) (v := (20 : Int32)) dX12_xOf_4 (by decide) ?_
  refine g_iconst (pc := 6) (v := (3 : Int32)) dX12_xOf_6 (by decide) ?_
  refine g_iload_n (pc := 7) (x := a1) dX12_xOf_7 rfl ?_
  refine g_imul (pc := 8) dX12_xOf_8 ?_
  refine g_iadd (pc := 9) dX12_xOf_9 ?_
  refine g_iaload (pc := 10) dX12_xOf_10 sh_162 h.1 ?_
  have h := h.2
  exact g_iret (pc := 11) dX12_xOf_11 rfl rfl rfl ⟨rfl, rfl⟩
theorem dX12_heightOf_0 : decode cX12_heightOf 0 = .ok (.aload_n 0, 1) := by decide +kernel
theorem dX12_heightOf_1 : decode cX12_heightOf 1 = .ok (.getfield 33, 3) := by decide +kernel
theorem dX12_heightOf_4 : decode cX12_heightOf 4 = .ok (.bipush 10, 2) := by decide +kernel
theorem dX12_heightOf_6 : decode cX12_heightOf 6 = .ok (.iload_n 1, 1) := by decide +kernel
theorem dX12_heightOf_7 : decode cX12_heightOf 7 = .ok (.iadd, 1) := by decide +kernel
theorem dX12_heightOf_8 : decode cX12_heightOf 8 = .ok (.iaload, 1) := by decide +kernel
theorem dX12_heightOf_9 : decode cX12_heightOf 9 = .ok (.ireturn, 1) := by decide +kernel
def o_X12_heightOf (mm : MM) (a1 : Int32) : Prop := vp_in ((10 : Int32) + a1) 1260 ∧ (True)
noncomputable def v_X12_heightOf (mm : MM) (a1 : Int32) : Int32 := (mm.1 163 ((10 : Int32) + a1).toNatClampNeg)
theorem rv_X12_heightOf (mm : MM) (a1 : Int32) (h : o_X12_heightOf mm a1) : Runs e_X12_heightOf [.ref 156, .int a1] mm (fun r m_ => r = .int (v_X12_heightOf mm a1) ∧ mm = m_) := by
  refine runs_of_G (L := [(0, .ref 156), (1, .int a1)]) pl_X12 (Nat.le_of_ble_eq_true rfl) rfl ?_
  unfold o_X12_heightOf at h
  refine g_aload_n (pc := 0) (x := 156) dX12_heightOf_0 rfl ?_
  refine g_getR (pc := 1) (dd := 7) dX12_heightOf_1 fo_X12_33 sh_156 rfl ?_
  refine g_bipush (pc := 4) (v := (10 : Int32)) dX12_heightOf_4 (by decide) ?_
  refine g_iload_n (pc := 6) (x := a1) dX12_heightOf_6 rfl ?_
  refine g_iadd (pc := 7) dX12_heightOf_7 ?_
  refine g_iaload (pc := 8) dX12_heightOf_8 sh_163 h.1 ?_
  have h := h.2
  exact g_iret (pc := 9) dX12_heightOf_9 rfl rfl rfl ⟨rfl, rfl⟩
theorem dX12_rankOf_0 : decode cX12_rankOf 0 = .ok (.aload_n 0, 1) := by decide +kernel
theorem dX12_rankOf_1 : decode cX12_rankOf 1 = .ok (.getfield 33, 3) := by decide +kernel
theorem dX12_rankOf_4 : decode cX12_rankOf 4 = .ok (.bipush 30, 2) := by decide +kernel
theorem dX12_rankOf_6 : decode cX12_rankOf 6 = .ok (.iload_n 1, 1) := by decide +kernel
theorem dX12_rankOf_7 : decode cX12_rankOf 7 = .ok (.iadd, 1) := by decide +kernel
theorem dX12_rankOf_8 : decode cX12_rankOf 8 = .ok (.iaload, 1) := by decide +kernel
theorem dX12_rankOf_9 : decode cX12_rankOf 9 = .ok (.istore_n 2, 1) := by decide +kernel
theorem dX12_rankOf_10 : decode cX12_rankOf 10 = .ok (.iload_n 2, 1) := by decide +kernel
theorem dX12_rankOf_11 : decode cX12_rankOf 11 = .ok (.ifCond .ge 7, 3) := by decide +kernel
theorem dX12_rankOf_14 : decode cX12_rankOf 14 = .ok (.iconst 0, 1) := by decide +kernel
theorem dX12_rankOf_15 : decode cX12_rankOf 15 = .ok (.goto 12, 3) := by decide +kernel
theorem dX12_rankOf_18 : decode cX12_rankOf 18 = .ok (.aload_n 0, 1) := by decide +kernel
theorem dX12_rankOf_19 : decode cX12_rankOf 19 = .ok (.getfield 30, 3) := by decide +kernel
theorem dX12_rankOf_22 : decode cX12_rankOf 22 = .ok (.bipush 70, 2) := by decide +kernel
theorem dX12_rankOf_24 : decode cX12_rankOf 24 = .ok (.iload_n 2, 1) := by decide +kernel
theorem dX12_rankOf_25 : decode cX12_rankOf 25 = .ok (.iadd, 1) := by decide +kernel
theorem dX12_rankOf_26 : decode cX12_rankOf 26 = .ok (.iaload, 1) := by decide +kernel
theorem dX12_rankOf_27 : decode cX12_rankOf 27 = .ok (.ireturn, 1) := by decide +kernel
def o_X12_rankOf (mm : MM) (a1 : Int32) : Prop := vp_in ((30 : Int32) + a1) 1260 ∧ ((0 ≤ (mm.1 163 ((30 : Int32) + a1).toNatClampNeg) → (vp_in ((70 : Int32) + (mm.1 163 ((30 : Int32) + a1).toNatClampNeg)) 420 ∧ (True))) ∧ (¬ 0 ≤ (mm.1 163 ((30 : Int32) + a1).toNatClampNeg) → (True)))
noncomputable def v_X12_rankOf (mm : MM) (a1 : Int32) : Int32 := (cite (0 ≤ (mm.1 163 ((30 : Int32) + a1).toNatClampNeg)) (mm.1 162 ((70 : Int32) + (mm.1 163 ((30 : Int32) + a1).toNatClampNeg)).toNatClampNeg) (0 : Int32))
theorem rv_X12_rankOf (mm : MM) (a1 : Int32) (h : o_X12_rankOf mm a1) : Runs e_X12_rankOf [.ref 156, .int a1] mm (fun r m_ => r = .int (v_X12_rankOf mm a1) ∧ mm = m_) := by
  refine runs_of_G (L := [(0, .ref 156), (1, .int a1)]) pl_X12 (Nat.le_of_ble_eq_true rfl) rfl ?_
  unfold o_X12_rankOf at h
  refine g_aload_n (pc := 0) (x := 156) dX12_rankOf_0 rfl ?_
  refine g_getR (pc := 1) (dd := 7) dX12_rankOf_1 fo_X12_33 sh_156 rfl ?_
  refine g_bipush (pc := 4) (v := (30 : Int32)) dX12_rankOf_4 (by decide) ?_
  refine g_iload_n (pc := 6) (x := a1) dX12_rankOf_6 rfl ?_
  refine g_iadd (pc := 7) dX12_rankOf_7 ?_
  refine g_iaload (pc := 8) dX12_rankOf_8 sh_163 h.1 ?_
  have h := h.2
  refine g_istore_n (pc := 9) (L' := [(0, .ref 156), (1, .int a1), (2, .int (mm.1 163 ((30 : Int32) + a1).toNatClampNeg))]) dX12_rankOf_9 (Nat.le_of_ble_eq_true rfl) rfl ?_
  refine g_iload_n (pc := 10) (x := (mm.1 163 ((30 : Int32) + a1).toNatClampNeg)) dX12_rankOf_10 rfl ?_
  refine g_if_ge (pc := 11) (tgt := 18) dX12_rankOf_11 (by decide) (fun c11 => ?_) (fun c11 => ?_)
  · have c11_0 : 0 ≤ (mm.1 163 ((30 : Int32) + a1).toNatClampNeg) := c11
    have h := h.1 c11
    refine g_aload_n (pc := 18) (x := 156) dX12_rankOf_18 rfl ?_
    refine g_getR (pc := 19) (dd := 6) dX12_rankOf_19 fo_X12_30 sh_156 rfl ?_
    refine g_bipush (pc := 22) (v := (70 : Int32)) dX12_rankOf_22 (by decide) ?_
    refine g_iload_n (pc := 24) (x := (mm.1 163 ((30 : Int32) + a1).toNatClampNeg)) dX12_rankOf_24 rfl ?_
    refine g_iadd (pc := 25) dX12_rankOf_25 ?_
    refine g_iaload (pc := 26) dX12_rankOf_26 sh_162 h.1 ?_
    have h := h.2
    exact g_iret (pc := 27) dX12_rankOf_27 rfl rfl rfl ⟨(by unfold v_X12_rankOf; rw [cite_pos c11_0] <;> rfl), rfl⟩
  · have c11_0 : ¬ 0 ≤ (mm.1 163 ((30 : Int32) + a1).toNatClampNeg) := c11
    have h := h.2 c11
    refine g_iconst (pc := 14) (v := (0 : Int32)) dX12_rankOf_14 (by decide) ?_
    refine g_goto (pc := 15) (tgt := 27) dX12_rankOf_15 (by decide) ?_
    exact g_iret (pc := 27) dX12_rankOf_27 rfl rfl rfl ⟨(by unfold v_X12_rankOf; rw [cite_neg c11_0] <;> rfl), rfl⟩

theorem dX4_takeFirst_0 : decode cX4_takeFirst 0 = .ok (.iload_n 2, 1) := by decide +kernel
theorem dX4_takeFirst_1 : decode cX4_takeFirst 1 = .ok (.ifCond .lt 8, 3) := by decide +kernel
theorem dX4_takeFirst_4 : decode cX4_takeFirst 4 = .ok (.iload_n 2, 1) := by decide +kernel
theorem dX4_takeFirst_5 : decode cX4_takeFirst 5 = .ok (.iload_n 3, 1) := by decide +kernel
theorem dX4_takeFirst_6 : decode cX4_takeFirst 6 = .ok (.if_icmp .lt 10, 3) := by decide +kernel
theorem dX4_takeFirst_9 : decode cX4_takeFirst 9 = .ok (.aload_n 0, 1) := by decide +kernel
theorem dX4_takeFirst_10 : decode cX4_takeFirst 10 = .ok (.iconst 2, 1) := by decide +kernel
theorem dX4_takeFirst_11 : decode cX4_takeFirst 11 = .ok (.invokevirtual 140, 3) := by decide +kernel
theorem dX4_takeFirst_14 : decode cX4_takeFirst 14 = .ok (.iconst 0, 1) := by decide +kernel
theorem dX4_takeFirst_15 : decode cX4_takeFirst 15 = .ok (.ireturn, 1) := by decide +kernel
theorem dX4_takeFirst_16 : decode cX4_takeFirst 16 = .ok (.aload_n 0, 1) := by decide +kernel
theorem dX4_takeFirst_17 : decode cX4_takeFirst 17 = .ok (.iload_n 1, 1) := by decide +kernel
theorem dX4_takeFirst_18 : decode cX4_takeFirst 18 = .ok (.invokevirtual 143, 3) := by decide +kernel
theorem dX4_takeFirst_21 : decode cX4_takeFirst 21 = .ok (.ireturn, 1) := by decide +kernel
theorem b_X4_takeFirst (mm : MM) (Q : Value → MM → Prop) (a1 : Int32) (a2 : Int32) (a3 : Int32) (h : (a2 < 0 → (∃ Pm1 : Value → MM → Prop, Runs e_X4_fail [.ref 1, .int (2 : Int32)] mm Pm1 ∧ ∀ m1, Pm1 .null m1 → (Q (.int (0 : Int32)) m1))) ∧ (¬ a2 < 0 → ((a2 < a3 → (∃ Pm1 : Value → MM → Prop, Runs e_X4_take [.ref 1, .int a1] mm Pm1 ∧ (∀ r m1, Pm1 r m1 → r = .int 1 ∨ r = .int 0) ∧ (∀ m1, Pm1 (.int 1) m1 → (Q (.int (1 : Int32)) m1)) ∧ (∀ m1, Pm1 (.int 0) m1 → (Q (.int (0 : Int32)) m1)))) ∧ (¬ a2 < a3 → (∃ Pm1 : Value → MM → Prop, Runs e_X4_fail [.ref 1, .int (2 : Int32)] mm Pm1 ∧ ∀ m1, Pm1 .null m1 → (Q (.int (0 : Int32)) m1)))))) : Runs e_X4_takeFirst [.ref 1, .int a1, .int a2, .int a3] mm Q := by
  refine runs_of_G (L := [(0, .ref 1), (1, .int a1), (2, .int a2), (3, .int a3)]) pl_X4 (Nat.le_of_ble_eq_true rfl) rfl ?_
  refine g_iload_n (pc := 0) (x := a2) dX4_takeFirst_0 rfl ?_
  refine g_if_lt (pc := 1) (tgt := 9) dX4_takeFirst_1 (by decide) (fun c1 => ?_) (fun c1 => ?_)
  · have h := h.1 c1
    refine g_aload_n (pc := 9) (x := 1) dX4_takeFirst_9 rfl ?_
    refine g_iconst (pc := 10) (v := (2 : Int32)) dX4_takeFirst_10 (by decide) ?_
    obtain ⟨Pm1, hRm1, h⟩ := h
    refine g_callV (pc := 11) (as := [.int (2 : Int32)]) dX4_takeFirst_11 cw_X4_140 (by decide) rfl rfl sh_1 (Nat.le_of_ble_eq_true rfl) hRm1 ?_
    intro r_ m1 hz_ hp_
    obtain rfl := hz_
    have h := h m1 hp_
    refine g_iconst (pc := 14) (v := (0 : Int32)) dX4_takeFirst_14 (by decide) ?_
    exact g_iret (pc := 15) dX4_takeFirst_15 rfl rfl (nar_B isB0) h
  · have h := h.2 c1
    refine g_iload_n (pc := 4) (x := a2) dX4_takeFirst_4 rfl ?_
    refine g_iload_n (pc := 5) (x := a3) dX4_takeFirst_5 rfl ?_
    refine g_icmp_lt (pc := 6) (tgt := 16) dX4_takeFirst_6 (by decide) (fun c6 => ?_) (fun c6 => ?_)
    · have h := h.1 c6
      refine g_aload_n (pc := 16) (x := 1) dX4_takeFirst_16 rfl ?_
      refine g_iload_n (pc := 17) (x := a1) dX4_takeFirst_17 rfl ?_
      obtain ⟨Pm1, hRm1, h⟩ := h
      refine g_callV (pc := 18) (as := [.int a1]) dX4_takeFirst_18 cw_X4_143 (by decide) rfl rfl sh_1 (Nat.le_of_ble_eq_true rfl) hRm1 ?_
      intro r_ m1 hz_ hp_
      rcases h.1 r_ m1 hp_ with rfl | rfl
      · have h := h.2.1 m1 hp_
        exact g_iret (pc := 21) dX4_takeFirst_21 rfl rfl (nar_B isB1) h
      · have h := h.2.2 m1 hp_
        exact g_iret (pc := 21) dX4_takeFirst_21 rfl rfl (nar_B isB0) h
    · have h := h.2 c6
      refine g_aload_n (pc := 9) (x := 1) dX4_takeFirst_9 rfl ?_
      refine g_iconst (pc := 10) (v := (2 : Int32)) dX4_takeFirst_10 (by decide) ?_
      obtain ⟨Pm1, hRm1, h⟩ := h
      refine g_callV (pc := 11) (as := [.int (2 : Int32)]) dX4_takeFirst_11 cw_X4_140 (by decide) rfl rfl sh_1 (Nat.le_of_ble_eq_true rfl) hRm1 ?_
      intro r_ m1 hz_ hp_
      obtain rfl := hz_
      have h := h m1 hp_
      refine g_iconst (pc := 14) (v := (0 : Int32)) dX4_takeFirst_14 (by decide) ?_
      exact g_iret (pc := 15) dX4_takeFirst_15 rfl rfl (nar_B isB0) h
theorem dX4_take_0 : decode cX4_take 0 = .ok (.aload_n 0, 1) := by decide +kernel
theorem dX4_take_1 : decode cX4_take 1 = .ok (.getfield 47, 3) := by decide +kernel
theorem dX4_take_4 : decode cX4_take 4 = .ok (.ifCond .ne 16, 3) := by decide +kernel
theorem dX4_take_7 : decode cX4_take 7 = .ok (.aload_n 0, 1) := by decide +kernel
theorem dX4_take_8 : decode cX4_take 8 = .ok (.invokevirtual 88, 3) := by decide +kernel
theorem dX4_take_11 : decode cX4_take 11 = .ok (.iload_n 1, 1) := by decide +kernel
theorem dX4_take_12 : decode cX4_take 12 = .ok (.if_icmp .eq 8, 3) := by decide +kernel
theorem dX4_take_15 : decode cX4_take 15 = .ok (.aload_n 0, 1) := by decide +kernel
theorem dX4_take_16 : decode cX4_take 16 = .ok (.iconst 1, 1) := by decide +kernel
theorem dX4_take_17 : decode cX4_take 17 = .ok (.invokevirtual 140, 3) := by decide +kernel
theorem dX4_take_20 : decode cX4_take 20 = .ok (.aload_n 0, 1) := by decide +kernel
theorem dX4_take_21 : decode cX4_take 21 = .ok (.getfield 47, 3) := by decide +kernel
theorem dX4_take_24 : decode cX4_take 24 = .ok (.ifCond .ne 18, 3) := by decide +kernel
theorem dX4_take_27 : decode cX4_take 27 = .ok (.aload_n 0, 1) := by decide +kernel
theorem dX4_take_28 : decode cX4_take 28 = .ok (.getfield 43, 3) := by decide +kernel
theorem dX4_take_31 : decode cX4_take 31 = .ok (.sipush 400, 3) := by decide +kernel
theorem dX4_take_34 : decode cX4_take 34 = .ok (.if_icmp .lt 8, 3) := by decide +kernel
theorem dX4_take_37 : decode cX4_take 37 = .ok (.aload_n 0, 1) := by decide +kernel
theorem dX4_take_38 : decode cX4_take 38 = .ok (.iconst 2, 1) := by decide +kernel
theorem dX4_take_39 : decode cX4_take 39 = .ok (.invokevirtual 140, 3) := by decide +kernel
theorem dX4_take_42 : decode cX4_take 42 = .ok (.aload_n 0, 1) := by decide +kernel
theorem dX4_take_43 : decode cX4_take 43 = .ok (.getfield 47, 3) := by decide +kernel
theorem dX4_take_46 : decode cX4_take 46 = .ok (.ifCond .eq 5, 3) := by decide +kernel
theorem dX4_take_49 : decode cX4_take 49 = .ok (.iconst 0, 1) := by decide +kernel
theorem dX4_take_50 : decode cX4_take 50 = .ok (.ireturn, 1) := by decide +kernel
theorem dX4_take_51 : decode cX4_take 51 = .ok (.aload_n 0, 1) := by decide +kernel
theorem dX4_take_52 : decode cX4_take 52 = .ok (.dup, 1) := by decide +kernel
theorem dX4_take_53 : decode cX4_take 53 = .ok (.getfield 43, 3) := by decide +kernel
theorem dX4_take_56 : decode cX4_take 56 = .ok (.iconst 1, 1) := by decide +kernel
theorem dX4_take_57 : decode cX4_take 57 = .ok (.iadd, 1) := by decide +kernel
theorem dX4_take_58 : decode cX4_take 58 = .ok (.putfield 43, 3) := by decide +kernel
theorem dX4_take_61 : decode cX4_take 61 = .ok (.iconst 1, 1) := by decide +kernel
theorem dX4_take_62 : decode cX4_take 62 = .ok (.ireturn, 1) := by decide +kernel
theorem b_X4_take (mm : MM) (Q : Value → MM → Prop) (a1 : Int32) (h : (¬ (mm.1 1 7) = 0 → ((¬ (mm.1 1 7) = 0 → (((mm.1 1 7) = 0 → (Q (.int (1 : Int32)) (wI mm 1 6 ((mm.1 1 6) + (1 : Int32))))) ∧ (¬ (mm.1 1 7) = 0 → (Q (.int (0 : Int32)) mm)))) ∧ ((mm.1 1 7) = 0 → (((mm.1 1 6) < (400 : Int32) → (((mm.1 1 7) = 0 → (Q (.int (1 : Int32)) (wI mm 1 6 ((mm.1 1 6) + (1 : Int32))))) ∧ (¬ (mm.1 1 7) = 0 → (Q (.int (0 : Int32)) mm)))) ∧ (¬ (mm.1 1 6) < (400 : Int32) → (∃ Pm1 : Value → MM → Prop, Runs e_X4_fail [.ref 1, .int (2 : Int32)] mm Pm1 ∧ ∀ m1, Pm1 .null m1 → (((m1.1 1 7) = 0 → (Q (.int (1 : Int32)) (wI m1 1 6 ((m1.1 1 6) + (1 : Int32))))) ∧ (¬ (m1.1 1 7) = 0 → (Q (.int (0 : Int32)) m1))))))))) ∧ ((mm.1 1 7) = 0 → (o_X4_kind mm ∧ (((v_X4_kind mm) = a1 → ((¬ (mm.1 1 7) = 0 → (((mm.1 1 7) = 0 → (Q (.int (1 : Int32)) (wI mm 1 6 ((mm.1 1 6) + (1 : Int32))))) ∧ (¬ (mm.1 1 7) = 0 → (Q (.int (0 : Int32)) mm)))) ∧ ((mm.1 1 7) = 0 → (((mm.1 1 6) < (400 : Int32) → (((mm.1 1 7) = 0 → (Q (.int (1 : Int32)) (wI mm 1 6 ((mm.1 1 6) + (1 : Int32))))) ∧ (¬ (mm.1 1 7) = 0 → (Q (.int (0 : Int32)) mm)))) ∧ (¬ (mm.1 1 6) < (400 : Int32) → (∃ Pm1 : Value → MM → Prop, Runs e_X4_fail [.ref 1, .int (2 : Int32)] mm Pm1 ∧ ∀ m1, Pm1 .null m1 → (((m1.1 1 7) = 0 → (Q (.int (1 : Int32)) (wI m1 1 6 ((m1.1 1 6) + (1 : Int32))))) ∧ (¬ (m1.1 1 7) = 0 → (Q (.int (0 : Int32)) m1))))))))) ∧ (¬ (v_X4_kind mm) = a1 → (∃ Pm1 : Value → MM → Prop, Runs e_X4_fail [.ref 1, .int (1 : Int32)] mm Pm1 ∧ ∀ m1, Pm1 .null m1 → ((¬ (m1.1 1 7) = 0 → (((m1.1 1 7) = 0 → (Q (.int (1 : Int32)) (wI m1 1 6 ((m1.1 1 6) + (1 : Int32))))) ∧ (¬ (m1.1 1 7) = 0 → (Q (.int (0 : Int32)) m1)))) ∧ ((m1.1 1 7) = 0 → (((m1.1 1 6) < (400 : Int32) → (((m1.1 1 7) = 0 → (Q (.int (1 : Int32)) (wI m1 1 6 ((m1.1 1 6) + (1 : Int32))))) ∧ (¬ (m1.1 1 7) = 0 → (Q (.int (0 : Int32)) m1)))) ∧ (¬ (m1.1 1 6) < (400 : Int32) → (∃ Pm2 : Value → MM → Prop, Runs e_X4_fail [.ref 1, .int (2 : Int32)] m1 Pm2 ∧ ∀ m2, Pm2 .null m2 → (((m2.1 1 7) = 0 → (Q (.int (1 : Int32)) (wI m2 1 6 ((m2.1 1 6) + (1 : Int32))))) ∧ (¬ (m2.1 1 7) = 0 → (Q (.int (0 : Int32)) m2)))))))))))))) : Runs e_X4_take [.ref 1, .int a1] mm Q := by
  refine runs_of_G (L := [(0, .ref 1), (1, .int a1)]) pl_X4 (Nat.le_of_ble_eq_true rfl) rfl ?_
  refine g_aload_n (pc := 0) (x := 1) dX4_take_0 rfl ?_
  refine g_getI (pc := 1) dX4_take_1 fo_X4_47 sh_1 rfl ?_
  refine g_if_ne (pc := 4) (tgt := 20) dX4_take_4 (by decide) (fun c4 => ?_) (fun c4 => ?_)
  · have h := h.1 c4
    refine g_aload_n (pc := 20) (x := 1) dX4_take_20 rfl ?_
    refine g_getI (pc := 21) dX4_take_21 fo_X4_47 sh_1 rfl ?_
    refine g_if_ne (pc := 24) (tgt := 42) dX4_take_24 (by decide) (fun c24 => ?_) (fun c24 => ?_)
    · have h := h.1 c24
      refine g_aload_n (pc := 42) (x := 1) dX4_take_42 rfl ?_
      refine g_getI (pc := 43) dX4_take_43 fo_X4_47 sh_1 rfl ?_
      refine g_if_eq (pc := 46) (tgt := 51) dX4_take_46 (by decide) (fun c46 => ?_) (fun c46 => ?_)
      · have h := h.1 c46
        refine g_aload_n (pc := 51) (x := 1) dX4_take_51 rfl ?_
        refine g_dup (pc := 52) dX4_take_52 rfl ?_
        refine g_getI (pc := 53) dX4_take_53 fo_X4_43 sh_1 rfl ?_
        refine g_iconst (pc := 56) (v := (1 : Int32)) dX4_take_56 (by decide) ?_
        refine g_iadd (pc := 57) dX4_take_57 ?_
        refine g_putI (pc := 58) dX4_take_58 fo_X4_43 sh_1 rfl rfl rfl ?_
        refine g_iconst (pc := 61) (v := (1 : Int32)) dX4_take_61 (by decide) ?_
        exact g_iret (pc := 62) dX4_take_62 rfl rfl (nar_B isB1) h
      · have h := h.2 c46
        refine g_iconst (pc := 49) (v := (0 : Int32)) dX4_take_49 (by decide) ?_
        exact g_iret (pc := 50) dX4_take_50 rfl rfl (nar_B isB0) h
    · have h := h.2 c24
      refine g_aload_n (pc := 27) (x := 1) dX4_take_27 rfl ?_
      refine g_getI (pc := 28) dX4_take_28 fo_X4_43 sh_1 rfl ?_
      refine g_sipush (pc := 31) (v := (400 : Int32)) dX4_take_31 (by decide) ?_
      refine g_icmp_lt (pc := 34) (tgt := 42) dX4_take_34 (by decide) (fun c34 => ?_) (fun c34 => ?_)
      · have h := h.1 c34
        refine g_aload_n (pc := 42) (x := 1) dX4_take_42 rfl ?_
        refine g_getI (pc := 43) dX4_take_43 fo_X4_47 sh_1 rfl ?_
        refine g_if_eq (pc := 46) (tgt := 51) dX4_take_46 (by decide) (fun c46 => ?_) (fun c46 => ?_)
        · have h := h.1 c46
          refine g_aload_n (pc := 51) (x := 1) dX4_take_51 rfl ?_
          refine g_dup (pc := 52) dX4_take_52 rfl ?_
          refine g_getI (pc := 53) dX4_take_53 fo_X4_43 sh_1 rfl ?_
          refine g_iconst (pc := 56) (v := (1 : Int32)) dX4_take_56 (by decide) ?_
          refine g_iadd (pc := 57) dX4_take_57 ?_
          refine g_putI (pc := 58) dX4_take_58 fo_X4_43 sh_1 rfl rfl rfl ?_
          refine g_iconst (pc := 61) (v := (1 : Int32)) dX4_take_61 (by decide) ?_
          exact g_iret (pc := 62) dX4_take_62 rfl rfl (nar_B isB1) h
        · have h := h.2 c46
          refine g_iconst (pc := 49) (v := (0 : Int32)) dX4_take_49 (by decide) ?_
          exact g_iret (pc := 50) dX4_take_50 rfl rfl (nar_B isB0) h
      · have h := h.2 c34
        refine g_aload_n (pc := 37) (x := 1) dX4_take_37 rfl ?_
        refine g_iconst (pc := 38) (v := (2 : Int32)) dX4_take_38 (by decide) ?_
        obtain ⟨Pm1, hRm1, h⟩ := h
        refine g_callV (pc := 39) (as := [.int (2 : Int32)]) dX4_take_39 cw_X4_140 (by decide) rfl rfl sh_1 (Nat.le_of_ble_eq_true rfl) hRm1 ?_
        intro r_ m1 hz_ hp_
        obtain rfl := hz_
        have h := h m1 hp_
        refine g_aload_n (pc := 42) (x := 1) dX4_take_42 rfl ?_
        refine g_getI (pc := 43) dX4_take_43 fo_X4_47 sh_1 rfl ?_
        refine g_if_eq (pc := 46) (tgt := 51) dX4_take_46 (by decide) (fun c46 => ?_) (fun c46 => ?_)
        · have h := h.1 c46
          refine g_aload_n (pc := 51) (x := 1) dX4_take_51 rfl ?_
          refine g_dup (pc := 52) dX4_take_52 rfl ?_
          refine g_getI (pc := 53) dX4_take_53 fo_X4_43 sh_1 rfl ?_
          refine g_iconst (pc := 56) (v := (1 : Int32)) dX4_take_56 (by decide) ?_
          refine g_iadd (pc := 57) dX4_take_57 ?_
          refine g_putI (pc := 58) dX4_take_58 fo_X4_43 sh_1 rfl rfl rfl ?_
          refine g_iconst (pc := 61) (v := (1 : Int32)) dX4_take_61 (by decide) ?_
          exact g_iret (pc := 62) dX4_take_62 rfl rfl (nar_B isB1) h
        · have h := h.2 c46
          refine g_iconst (pc := 49) (v := (0 : Int32)) dX4_take_49 (by decide) ?_
          exact g_iret (pc := 50) dX4_take_50 rfl rfl (nar_B isB0) h
  · have h := h.2 c4
    refine g_aload_n (pc := 7) (x := 1) dX4_take_7 rfl ?_
    refine g_callV (pc := 8) (as := []) dX4_take_8 cw_X4_88 (by decide) rfl rfl sh_1 (Nat.le_of_ble_eq_true rfl) (rv_X4_kind mm h.1) ?_
    have h := h.2
    rintro r_ m_ hz_ ⟨rfl, rfl⟩
    refine g_iload_n (pc := 11) (x := a1) dX4_take_11 rfl ?_
    refine g_icmp_eq (pc := 12) (tgt := 20) dX4_take_12 (by decide) (fun c12 => ?_) (fun c12 => ?_)
    · have h := h.1 c12
      refine g_aload_n (pc := 20) (x := 1) dX4_take_20 rfl ?_
      refine g_getI (pc := 21) dX4_take_21 fo_X4_47 sh_1 rfl ?_
      refine g_if_ne (pc := 24) (tgt := 42) dX4_take_24 (by decide) (fun c24 => ?_) (fun c24 => ?_)
      · have h := h.1 c24
        refine g_aload_n (pc := 42) (x := 1) dX4_take_42 rfl ?_
        refine g_getI (pc := 43) dX4_take_43 fo_X4_47 sh_1 rfl ?_
        refine g_if_eq (pc := 46) (tgt := 51) dX4_take_46 (by decide) (fun c46 => ?_) (fun c46 => ?_)
        · have h := h.1 c46
          refine g_aload_n (pc := 51) (x := 1) dX4_take_51 rfl ?_
          refine g_dup (pc := 52) dX4_take_52 rfl ?_
          refine g_getI (pc := 53) dX4_take_53 fo_X4_43 sh_1 rfl ?_
          refine g_iconst (pc := 56) (v := (1 : Int32)) dX4_take_56 (by decide) ?_
          refine g_iadd (pc := 57) dX4_take_57 ?_
          refine g_putI (pc := 58) dX4_take_58 fo_X4_43 sh_1 rfl rfl rfl ?_
          refine g_iconst (pc := 61) (v := (1 : Int32)) dX4_take_61 (by decide) ?_
          exact g_iret (pc := 62) dX4_take_62 rfl rfl (nar_B isB1) h
        · have h := h.2 c46
          refine g_iconst (pc := 49) (v := (0 : Int32)) dX4_take_49 (by decide) ?_
          exact g_iret (pc := 50) dX4_take_50 rfl rfl (nar_B isB0) h
      · have h := h.2 c24
        refine g_aload_n (pc := 27) (x := 1) dX4_take_27 rfl ?_
        refine g_getI (pc := 28) dX4_take_28 fo_X4_43 sh_1 rfl ?_
        refine g_sipush (pc := 31) (v := (400 : Int32)) dX4_take_31 (by decide) ?_
        refine g_icmp_lt (pc := 34) (tgt := 42) dX4_take_34 (by decide) (fun c34 => ?_) (fun c34 => ?_)
        · have h := h.1 c34
          refine g_aload_n (pc := 42) (x := 1) dX4_take_42 rfl ?_
          refine g_getI (pc := 43) dX4_take_43 fo_X4_47 sh_1 rfl ?_
          refine g_if_eq (pc := 46) (tgt := 51) dX4_take_46 (by decide) (fun c46 => ?_) (fun c46 => ?_)
          · have h := h.1 c46
            refine g_aload_n (pc := 51) (x := 1) dX4_take_51 rfl ?_
            refine g_dup (pc := 52) dX4_take_52 rfl ?_
            refine g_getI (pc := 53) dX4_take_53 fo_X4_43 sh_1 rfl ?_
            refine g_iconst (pc := 56) (v := (1 : Int32)) dX4_take_56 (by decide) ?_
            refine g_iadd (pc := 57) dX4_take_57 ?_
            refine g_putI (pc := 58) dX4_take_58 fo_X4_43 sh_1 rfl rfl rfl ?_
            refine g_iconst (pc := 61) (v := (1 : Int32)) dX4_take_61 (by decide) ?_
            exact g_iret (pc := 62) dX4_take_62 rfl rfl (nar_B isB1) h
          · have h := h.2 c46
            refine g_iconst (pc := 49) (v := (0 : Int32)) dX4_take_49 (by decide) ?_
            exact g_iret (pc := 50) dX4_take_50 rfl rfl (nar_B isB0) h
        · have h := h.2 c34
          refine g_aload_n (pc := 37) (x := 1) dX4_take_37 rfl ?_
          refine g_iconst (pc := 38) (v := (2 : Int32)) dX4_take_38 (by decide) ?_
          obtain ⟨Pm1, hRm1, h⟩ := h
          refine g_callV (pc := 39) (as := [.int (2 : Int32)]) dX4_take_39 cw_X4_140 (by decide) rfl rfl sh_1 (Nat.le_of_ble_eq_true rfl) hRm1 ?_
          intro r_ m1 hz_ hp_
          obtain rfl := hz_
          have h := h m1 hp_
          refine g_aload_n (pc := 42) (x := 1) dX4_take_42 rfl ?_
          refine g_getI (pc := 43) dX4_take_43 fo_X4_47 sh_1 rfl ?_
          refine g_if_eq (pc := 46) (tgt := 51) dX4_take_46 (by decide) (fun c46 => ?_) (fun c46 => ?_)
          · have h := h.1 c46
            refine g_aload_n (pc := 51) (x := 1) dX4_take_51 rfl ?_
            refine g_dup (pc := 52) dX4_take_52 rfl ?_
            refine g_getI (pc := 53) dX4_take_53 fo_X4_43 sh_1 rfl ?_
            refine g_iconst (pc := 56) (v := (1 : Int32)) dX4_take_56 (by decide) ?_
            refine g_iadd (pc := 57) dX4_take_57 ?_
            refine g_putI (pc := 58) dX4_take_58 fo_X4_43 sh_1 rfl rfl rfl ?_
            refine g_iconst (pc := 61) (v := (1 : Int32)) dX4_take_61 (by decide) ?_
            exact g_iret (pc := 62) dX4_take_62 rfl rfl (nar_B isB1) h
          · have h := h.2 c46
            refine g_iconst (pc := 49) (v := (0 : Int32)) dX4_take_49 (by decide) ?_
            exact g_iret (pc := 50) dX4_take_50 rfl rfl (nar_B isB0) h
    · have h := h.2 c12
      refine g_aload_n (pc := 15) (x := 1) dX4_take_15 rfl ?_
      refine g_iconst (pc := 16) (v := (1 : Int32)) dX4_take_16 (by decide) ?_
      obtain ⟨Pm1, hRm1, h⟩ := h
      refine g_callV (pc := 17) (as := [.int (1 : Int32)]) dX4_take_17 cw_X4_140 (by decide) rfl rfl sh_1 (Nat.le_of_ble_eq_true rfl) hRm1 ?_
      intro r_ m1 hz_ hp_
      obtain rfl := hz_
      have h := h m1 hp_
      refine g_aload_n (pc := 20) (x := 1) dX4_take_20 rfl ?_
      refine g_getI (pc := 21) dX4_take_21 fo_X4_47 sh_1 rfl ?_
      refine g_if_ne (pc := 24) (tgt := 42) dX4_take_24 (by decide) (fun c24 => ?_) (fun c24 => ?_)
      · have h := h.1 c24
        refine g_aload_n (pc := 42) (x := 1) dX4_take_42 rfl ?_
        refine g_getI (pc := 43) dX4_take_43 fo_X4_47 sh_1 rfl ?_
        refine g_if_eq (pc := 46) (tgt := 51) dX4_take_46 (by decide) (fun c46 => ?_) (fun c46 => ?_)
        · have h := h.1 c46
          refine g_aload_n (pc := 51) (x := 1) dX4_take_51 rfl ?_
          refine g_dup (pc := 52) dX4_take_52 rfl ?_
          refine g_getI (pc := 53) dX4_take_53 fo_X4_43 sh_1 rfl ?_
          refine g_iconst (pc := 56) (v := (1 : Int32)) dX4_take_56 (by decide) ?_
          refine g_iadd (pc := 57) dX4_take_57 ?_
          refine g_putI (pc := 58) dX4_take_58 fo_X4_43 sh_1 rfl rfl rfl ?_
          refine g_iconst (pc := 61) (v := (1 : Int32)) dX4_take_61 (by decide) ?_
          exact g_iret (pc := 62) dX4_take_62 rfl rfl (nar_B isB1) h
        · have h := h.2 c46
          refine g_iconst (pc := 49) (v := (0 : Int32)) dX4_take_49 (by decide) ?_
          exact g_iret (pc := 50) dX4_take_50 rfl rfl (nar_B isB0) h
      · have h := h.2 c24
        refine g_aload_n (pc := 27) (x := 1) dX4_take_27 rfl ?_
        refine g_getI (pc := 28) dX4_take_28 fo_X4_43 sh_1 rfl ?_
        refine g_sipush (pc := 31) (v := (400 : Int32)) dX4_take_31 (by decide) ?_
        refine g_icmp_lt (pc := 34) (tgt := 42) dX4_take_34 (by decide) (fun c34 => ?_) (fun c34 => ?_)
        · have h := h.1 c34
          refine g_aload_n (pc := 42) (x := 1) dX4_take_42 rfl ?_
          refine g_getI (pc := 43) dX4_take_43 fo_X4_47 sh_1 rfl ?_
          refine g_if_eq (pc := 46) (tgt := 51) dX4_take_46 (by decide) (fun c46 => ?_) (fun c46 => ?_)
          · have h := h.1 c46
            refine g_aload_n (pc := 51) (x := 1) dX4_take_51 rfl ?_
            refine g_dup (pc := 52) dX4_take_52 rfl ?_
            refine g_getI (pc := 53) dX4_take_53 fo_X4_43 sh_1 rfl ?_
            refine g_iconst (pc := 56) (v := (1 : Int32)) dX4_take_56 (by decide) ?_
            refine g_iadd (pc := 57) dX4_take_57 ?_
            refine g_putI (pc := 58) dX4_take_58 fo_X4_43 sh_1 rfl rfl rfl ?_
            refine g_iconst (pc := 61) (v := (1 : Int32)) dX4_take_61 (by decide) ?_
            exact g_iret (pc := 62) dX4_take_62 rfl rfl (nar_B isB1) h
          · have h := h.2 c46
            refine g_iconst (pc := 49) (v := (0 : Int32)) dX4_take_49 (by decide) ?_
            exact g_iret (pc := 50) dX4_take_50 rfl rfl (nar_B isB0) h
        · have h := h.2 c34
          refine g_aload_n (pc := 37) (x := 1) dX4_take_37 rfl ?_
          refine g_iconst (pc := 38) (v := (2 : Int32)) dX4_take_38 (by decide) ?_
          obtain ⟨Pm2, hRm2, h⟩ := h
          refine g_callV (pc := 39) (as := [.int (2 : Int32)]) dX4_take_39 cw_X4_140 (by decide) rfl rfl sh_1 (Nat.le_of_ble_eq_true rfl) hRm2 ?_
          intro r_ m2 hz_ hp_
          obtain rfl := hz_
          have h := h m2 hp_
          refine g_aload_n (pc := 42) (x := 1) dX4_take_42 rfl ?_
          refine g_getI (pc := 43) dX4_take_43 fo_X4_47 sh_1 rfl ?_
          refine g_if_eq (pc := 46) (tgt := 51) dX4_take_46 (by decide) (fun c46 => ?_) (fun c46 => ?_)
          · have h := h.1 c46
            refine g_aload_n (pc := 51) (x := 1) dX4_take_51 rfl ?_
            refine g_dup (pc := 52) dX4_take_52 rfl ?_
            refine g_getI (pc := 53) dX4_take_53 fo_X4_43 sh_1 rfl ?_
            refine g_iconst (pc := 56) (v := (1 : Int32)) dX4_take_56 (by decide) ?_
            refine g_iadd (pc := 57) dX4_take_57 ?_
            refine g_putI (pc := 58) dX4_take_58 fo_X4_43 sh_1 rfl rfl rfl ?_
            refine g_iconst (pc := 61) (v := (1 : Int32)) dX4_take_61 (by decide) ?_
            exact g_iret (pc := 62) dX4_take_62 rfl rfl (nar_B isB1) h
          · have h := h.2 c46
            refine g_iconst (pc := 49) (v := (0 : Int32)) dX4_take_49 (by decide) ?_
            exact g_iret (pc := 50) dX4_take_50 rfl rfl (nar_B isB0) h
theorem dX4_fail_0 : decode cX4_fail 0 = .ok (.aload_n 0, 1) := by decide +kernel
theorem dX4_fail_1 : decode cX4_fail 1 = .ok (.getfield 47, 3) := by decide +kernel
theorem dX4_fail_4 : decode cX4_fail 4 = .ok (.ifCond .ne 49, 3) := by decide +kernel
theorem dX4_fail_7 : decode cX4_fail 7 = .ok (.aload_n 0, 1) := by decide +kernel
theorem dX4_fail_8 : decode cX4_fail 8 = .ok (.iload_n 1, 1) := by decide +kernel
theorem dX4_fail_9 : decode cX4_fail 9 = .ok (.putfield 47, 3) := by decide +kernel
theorem dX4_fail_12 : decode cX4_fail 12 = .ok (.aload_n 0, 1) := by decide +kernel
theorem dX4_fail_13 : decode cX4_fail 13 = .ok (.aload_n 0, 1) := by decide +kernel
theorem dX4_fail_14 : decode cX4_fail 14 = .ok (.getfield 43, 3) := by decide +kernel
theorem dX4_fail_17 : decode cX4_fail 17 = .ok (.ifCond .lt 32, 3) := by decide +kernel
theorem dX4_fail_20 : decode cX4_fail 20 = .ok (.aload_n 0, 1) := by decide +kernel
theorem dX4_fail_21 : decode cX4_fail 21 = .ok (.getfield 43, 3) := by decide +kernel
theorem dX4_fail_24 : decode cX4_fail 24 = .ok (.aload_n 0, 1) := by decide +kernel
theorem dX4_fail_25 : decode cX4_fail 25 = .ok (.getfield 25, 3) := by decide +kernel
theorem dX4_fail_28 : decode cX4_fail 28 = .ok (.getfield 283, 3) := by decide +kernel
theorem dX4_fail_31 : decode cX4_fail 31 = .ok (.if_icmp .ge 18, 3) := by decide +kernel
theorem dX4_fail_34 : decode cX4_fail 34 = .ok (.aload_n 0, 1) := by decide +kernel
theorem dX4_fail_35 : decode cX4_fail 35 = .ok (.getfield 25, 3) := by decide +kernel
theorem dX4_fail_38 : decode cX4_fail 38 = .ok (.getfield 286, 3) := by decide +kernel
theorem dX4_fail_41 : decode cX4_fail 41 = .ok (.aload_n 0, 1) := by decide +kernel
theorem dX4_fail_42 : decode cX4_fail 42 = .ok (.getfield 43, 3) := by decide +kernel
theorem dX4_fail_45 : decode cX4_fail 45 = .ok (.iaload, 1) := by decide +kernel
theorem dX4_fail_46 : decode cX4_fail 46 = .ok (.goto 4, 3) := by decide +kernel
theorem dX4_fail_49 : decode cX4_fail 49 = .ok (.iconst (-1), 1) := by decide +kernel
theorem dX4_fail_50 : decode cX4_fail 50 = .ok (.putfield 50, 3) := by decide +kernel
theorem dX4_fail_53 : decode cX4_fail 53 = .ok (.return_, 1) := by decide +kernel
theorem b_X4_fail (mm : MM) (Q : Value → MM → Prop) (a1 : Int32) (h : (¬ (mm.1 1 7) = 0 → (Q .null mm)) ∧ ((mm.1 1 7) = 0 → ((((wI mm 1 7 a1).1 1 6) < 0 → (Q .null (wI (wI mm 1 7 a1) 1 8 (-1 : Int32)))) ∧ (¬ ((wI mm 1 7 a1).1 1 6) < 0 → ((((wI mm 1 7 a1).1 5 5) ≤ ((wI mm 1 7 a1).1 1 6) → (Q .null (wI (wI mm 1 7 a1) 1 8 (-1 : Int32)))) ∧ (¬ ((wI mm 1 7 a1).1 5 5) ≤ ((wI mm 1 7 a1).1 1 6) → (vp_in ((wI mm 1 7 a1).1 1 6) 401 ∧ (Q .null (wI (wI mm 1 7 a1) 1 8 ((wI mm 1 7 a1).1 8 ((wI mm 1 7 a1).1 1 6).toNatClampNeg)))))))))) : Runs e_X4_fail [.ref 1, .int a1] mm Q := by
  refine runs_of_G (L := [(0, .ref 1), (1, .int a1)]) pl_X4 (Nat.le_of_ble_eq_true rfl) rfl ?_
  refine g_aload_n (pc := 0) (x := 1) dX4_fail_0 rfl ?_
  refine g_getI (pc := 1) dX4_fail_1 fo_X4_47 sh_1 rfl ?_
  refine g_if_ne (pc := 4) (tgt := 53) dX4_fail_4 (by decide) (fun c4 => ?_) (fun c4 => ?_)
  · have h := h.1 c4
    exact g_vret (pc := 53) dX4_fail_53 rfl rfl h
  · have h := h.2 c4
    refine g_aload_n (pc := 7) (x := 1) dX4_fail_7 rfl ?_
    refine g_iload_n (pc := 8) (x := a1) dX4_fail_8 rfl ?_
    refine g_putI (pc := 9) dX4_fail_9 fo_X4_47 sh_1 rfl rfl rfl ?_
    refine g_aload_n (pc := 12) (x := 1) dX4_fail_12 rfl ?_
    refine g_aload_n (pc := 13) (x := 1) dX4_fail_13 rfl ?_
    refine g_getI (pc := 14) dX4_fail_14 fo_X4_43 sh_1 rfl ?_
    refine g_if_lt (pc := 17) (tgt := 49) dX4_fail_17 (by decide) (fun c17 => ?_) (fun c17 => ?_)
    · have h := h.1 c17
      refine g_iconst (pc := 49) (v := (-1 : Int32)) dX4_fail_49 (by decide) ?_
      refine g_putI (pc := 50) dX4_fail_50 fo_X4_50 sh_1 rfl rfl rfl ?_
      exact g_vret (pc := 53) dX4_fail_53 rfl rfl h
    · have h := h.2 c17
      refine g_aload_n (pc := 20) (x := 1) dX4_fail_20 rfl ?_
      refine g_getI (pc := 21) dX4_fail_21 fo_X4_43 sh_1 rfl ?_
      refine g_aload_n (pc := 24) (x := 1) dX4_fail_24 rfl ?_
      refine g_getR (pc := 25) (dd := 4) dX4_fail_25 fo_X4_25 sh_1 rfl ?_
      refine g_getI (pc := 28) dX4_fail_28 fo_X4_283 sh_5 rfl ?_
      refine g_icmp_ge (pc := 31) (tgt := 49) dX4_fail_31 (by decide) (fun c31 => ?_) (fun c31 => ?_)
      · have h := h.1 c31
        refine g_iconst (pc := 49) (v := (-1 : Int32)) dX4_fail_49 (by decide) ?_
        refine g_putI (pc := 50) dX4_fail_50 fo_X4_50 sh_1 rfl rfl rfl ?_
        exact g_vret (pc := 53) dX4_fail_53 rfl rfl h
      · have h := h.2 c31
        refine g_aload_n (pc := 34) (x := 1) dX4_fail_34 rfl ?_
        refine g_getR (pc := 35) (dd := 4) dX4_fail_35 fo_X4_25 sh_1 rfl ?_
        refine g_getR (pc := 38) (dd := 3) dX4_fail_38 fo_X4_286 sh_5 rfl ?_
        refine g_aload_n (pc := 41) (x := 1) dX4_fail_41 rfl ?_
        refine g_getI (pc := 42) dX4_fail_42 fo_X4_43 sh_1 rfl ?_
        refine g_iaload (pc := 45) dX4_fail_45 sh_8 h.1 ?_
        have h := h.2
        refine g_goto (pc := 46) (tgt := 50) dX4_fail_46 (by decide) ?_
        refine g_putI (pc := 50) dX4_fail_50 fo_X4_50 sh_1 rfl rfl rfl ?_
        exact g_vret (pc := 53) dX4_fail_53 rfl rfl h
theorem dX4_failLate_0 : decode cX4_failLate 0 = .ok (.aload_n 0, 1) := by decide +kernel
theorem dX4_failLate_1 : decode cX4_failLate 1 = .ok (.getfield 53, 3) := by decide +kernel
theorem dX4_failLate_4 : decode cX4_failLate 4 = .ok (.ifCond .ne 13, 3) := by decide +kernel
theorem dX4_failLate_7 : decode cX4_failLate 7 = .ok (.aload_n 0, 1) := by decide +kernel
theorem dX4_failLate_8 : decode cX4_failLate 8 = .ok (.iload_n 1, 1) := by decide +kernel
theorem dX4_failLate_9 : decode cX4_failLate 9 = .ok (.putfield 53, 3) := by decide +kernel
theorem dX4_failLate_12 : decode cX4_failLate 12 = .ok (.aload_n 0, 1) := by decide +kernel
theorem dX4_failLate_13 : decode cX4_failLate 13 = .ok (.iload_n 2, 1) := by decide +kernel
theorem dX4_failLate_14 : decode cX4_failLate 14 = .ok (.putfield 56, 3) := by decide +kernel
theorem dX4_failLate_17 : decode cX4_failLate 17 = .ok (.return_, 1) := by decide +kernel
theorem b_X4_failLate (mm : MM) (Q : Value → MM → Prop) (a1 : Int32) (a2 : Int32) (h : (¬ (mm.1 1 9) = 0 → (Q .null mm)) ∧ ((mm.1 1 9) = 0 → (Q .null (wI (wI mm 1 9 a1) 1 10 a2)))) : Runs e_X4_failLate [.ref 1, .int a1, .int a2] mm Q := by
  refine runs_of_G (L := [(0, .ref 1), (1, .int a1), (2, .int a2)]) pl_X4 (Nat.le_of_ble_eq_true rfl) rfl ?_
  refine g_aload_n (pc := 0) (x := 1) dX4_failLate_0 rfl ?_
  refine g_getI (pc := 1) dX4_failLate_1 fo_X4_53 sh_1 rfl ?_
  refine g_if_ne (pc := 4) (tgt := 17) dX4_failLate_4 (by decide) (fun c4 => ?_) (fun c4 => ?_)
  · have h := h.1 c4
    exact g_vret (pc := 17) dX4_failLate_17 rfl rfl h
  · have h := h.2 c4
    refine g_aload_n (pc := 7) (x := 1) dX4_failLate_7 rfl ?_
    refine g_iload_n (pc := 8) (x := a1) dX4_failLate_8 rfl ?_
    refine g_putI (pc := 9) dX4_failLate_9 fo_X4_53 sh_1 rfl rfl rfl ?_
    refine g_aload_n (pc := 12) (x := 1) dX4_failLate_12 rfl ?_
    refine g_iload_n (pc := 13) (x := a2) dX4_failLate_13 rfl ?_
    refine g_putI (pc := 14) dX4_failLate_14 fo_X4_56 sh_1 rfl rfl rfl ?_
    exact g_vret (pc := 17) dX4_failLate_17 rfl rfl h
theorem dX5_add_0 : decode cX5_add 0 = .ok (.aload_n 0, 1) := by decide +kernel
theorem dX5_add_1 : decode cX5_add 1 = .ok (.getfield 18, 3) := by decide +kernel
theorem dX5_add_4 : decode cX5_add 4 = .ok (.ifCond .lt 12, 3) := by decide +kernel
theorem dX5_add_7 : decode cX5_add 7 = .ok (.aload_n 0, 1) := by decide +kernel
theorem dX5_add_8 : decode cX5_add 8 = .ok (.getfield 18, 3) := by decide +kernel
theorem dX5_add_11 : decode cX5_add 11 = .ok (.bipush 12, 2) := by decide +kernel
theorem dX5_add_13 : decode cX5_add 13 = .ok (.if_icmp .lt 5, 3) := by decide +kernel
theorem dX5_add_16 : decode cX5_add 16 = .ok (.iconst (-1), 1) := by decide +kernel
theorem dX5_add_17 : decode cX5_add 17 = .ok (.ireturn, 1) := by decide +kernel
theorem dX5_add_18 : decode cX5_add 18 = .ok (.aload_n 0, 1) := by decide +kernel
theorem dX5_add_19 : decode cX5_add 19 = .ok (.getfield 9, 3) := by decide +kernel
theorem dX5_add_22 : decode cX5_add 22 = .ok (.aload_n 0, 1) := by decide +kernel
theorem dX5_add_23 : decode cX5_add 23 = .ok (.getfield 18, 3) := by decide +kernel
theorem dX5_add_26 : decode cX5_add 26 = .ok (.iload_n 1, 1) := by decide +kernel
theorem dX5_add_27 : decode cX5_add 27 = .ok (.iastore, 1) := by decide +kernel
theorem dX5_add_28 : decode cX5_add 28 = .ok (.aload_n 0, 1) := by decide +kernel
theorem dX5_add_29 : decode cX5_add 29 = .ok (.dup, 1) := by decide +kernel
theorem dX5_add_30 : decode cX5_add 30 = .ok (.getfield 18, 3) := by decide +kernel
theorem dX5_add_33 : decode cX5_add 33 = .ok (.iconst 1, 1) := by decide +kernel
theorem dX5_add_34 : decode cX5_add 34 = .ok (.iadd, 1) := by decide +kernel
theorem dX5_add_35 : decode cX5_add 35 = .ok (.putfield 18, 3) := by decide +kernel
theorem dX5_add_38 : decode cX5_add 38 = .ok (.aload_n 0, 1) := by decide +kernel
theorem dX5_add_39 : decode cX5_add 39 = .ok (.getfield 18, 3) := by decide +kernel
theorem dX5_add_42 : decode cX5_add 42 = .ok (.ireturn, 1) := by decide +kernel
theorem b_X5_add (mm : MM) (Q : Value → MM → Prop) (a1 : Int32) (h : ((mm.1 95 2) < 0 → (Q (.int (-1 : Int32)) mm)) ∧ (¬ (mm.1 95 2) < 0 → (((mm.1 95 2) < (12 : Int32) → (vp_in (mm.1 95 2) 12 ∧ (Q (.int ((wI (wI mm 96 ((mm.1 95 2).toNatClampNeg) a1) 95 2 (((wI mm 96 ((mm.1 95 2).toNatClampNeg) a1).1 95 2) + (1 : Int32))).1 95 2)) (wI (wI mm 96 ((mm.1 95 2).toNatClampNeg) a1) 95 2 (((wI mm 96 ((mm.1 95 2).toNatClampNeg) a1).1 95 2) + (1 : Int32)))))) ∧ (¬ (mm.1 95 2) < (12 : Int32) → (Q (.int (-1 : Int32)) mm))))) : Runs e_X5_add [.ref 95, .int a1] mm Q := by
  refine runs_of_G (L := [(0, .ref 95), (1, .int a1)]) pl_X5 (Nat.le_of_ble_eq_true rfl) rfl ?_
  refine g_aload_n (pc := 0) (x := 95) dX5_add_0 rfl ?_
  refine g_getI (pc := 1) dX5_add_1 fo_X5_18 sh_95 rfl ?_
  refine g_if_lt (pc := 4) (tgt := 16) dX5_add_4 (by decide) (fun c4 => ?_) (fun c4 => ?_)
  · have h := h.1 c4
    refine g_iconst (pc := 16) (v := (-1 : Int32)) dX5_add_16 (by decide) ?_
    exact g_iret (pc := 17) dX5_add_17 rfl rfl rfl h
  · have h := h.2 c4
    refine g_aload_n (pc := 7) (x := 95) dX5_add_7 rfl ?_
    refine g_getI (pc := 8) dX5_add_8 fo_X5_18 sh_95 rfl ?_
    refine g_bipush (pc := 11) (v := (12 : Int32)) dX5_add_11 (by decide) ?_
    refine g_icmp_lt (pc := 13) (tgt := 18) dX5_add_13 (by decide) (fun c13 => ?_) (fun c13 => ?_)
    · have h := h.1 c13
      refine g_aload_n (pc := 18) (x := 95) dX5_add_18 rfl ?_
      refine g_getR (pc := 19) (dd := 1) dX5_add_19 fo_X5_9 sh_95 rfl ?_
      refine g_aload_n (pc := 22) (x := 95) dX5_add_22 rfl ?_
      refine g_getI (pc := 23) dX5_add_23 fo_X5_18 sh_95 rfl ?_
      refine g_iload_n (pc := 26) (x := a1) dX5_add_26 rfl ?_
      refine g_iastore (pc := 27) dX5_add_27 sh_96 h.1 ?_
      have h := h.2
      refine g_aload_n (pc := 28) (x := 95) dX5_add_28 rfl ?_
      refine g_dup (pc := 29) dX5_add_29 rfl ?_
      refine g_getI (pc := 30) dX5_add_30 fo_X5_18 sh_95 rfl ?_
      refine g_iconst (pc := 33) (v := (1 : Int32)) dX5_add_33 (by decide) ?_
      refine g_iadd (pc := 34) dX5_add_34 ?_
      refine g_putI (pc := 35) dX5_add_35 fo_X5_18 sh_95 rfl rfl rfl ?_
      refine g_aload_n (pc := 38) (x := 95) dX5_add_38 rfl ?_
      refine g_getI (pc := 39) dX5_add_39 fo_X5_18 sh_95 rfl ?_
      exact g_iret (pc := 42) dX5_add_42 rfl rfl rfl h
    · have h := h.2 c13
      refine g_iconst (pc := 16) (v := (-1 : Int32)) dX5_add_16 (by decide) ?_
      exact g_iret (pc := 17) dX5_add_17 rfl rfl rfl h
theorem dX5_prices_0 : decode cX5_prices 0 = .ok (.aload_n 0, 1) := by decide +kernel
theorem dX5_prices_1 : decode cX5_prices 1 = .ok (.iload_n 1, 1) := by decide +kernel
theorem dX5_prices_2 : decode cX5_prices 2 = .ok (.putfield 22, 3) := by decide +kernel
theorem dX5_prices_5 : decode cX5_prices 5 = .ok (.aload_n 0, 1) := by decide +kernel
theorem dX5_prices_6 : decode cX5_prices 6 = .ok (.iload_n 2, 1) := by decide +kernel
theorem dX5_prices_7 : decode cX5_prices 7 = .ok (.putfield 25, 3) := by decide +kernel
theorem dX5_prices_10 : decode cX5_prices 10 = .ok (.aload_n 0, 1) := by decide +kernel
theorem dX5_prices_11 : decode cX5_prices 11 = .ok (.iload_n 3, 1) := by decide +kernel
theorem dX5_prices_12 : decode cX5_prices 12 = .ok (.putfield 28, 3) := by decide +kernel
theorem dX5_prices_15 : decode cX5_prices 15 = .ok (.aload_n 0, 1) := by decide +kernel
theorem dX5_prices_16 : decode cX5_prices 16 = .ok (.iload 4, 2) := by decide +kernel
theorem dX5_prices_18 : decode cX5_prices 18 = .ok (.putfield 31, 3) := by decide +kernel
theorem dX5_prices_21 : decode cX5_prices 21 = .ok (.return_, 1) := by decide +kernel
theorem b_X5_prices (mm : MM) (Q : Value → MM → Prop) (a1 : Int32) (a2 : Int32) (a3 : Int32) (a4 : Int32) (h : Q .null (wI (wI (wI (wI mm 95 3 a1) 95 4 a2) 95 5 a3) 95 6 a4)) : Runs e_X5_prices [.ref 95, .int a1, .int a2, .int a3, .int a4] mm Q := by
  refine runs_of_G (L := [(0, .ref 95), (1, .int a1), (2, .int a2), (3, .int a3), (4, .int a4)]) pl_X5 (Nat.le_of_ble_eq_true rfl) rfl ?_
  refine g_aload_n (pc := 0) (x := 95) dX5_prices_0 rfl ?_
  refine g_iload_n (pc := 1) (x := a1) dX5_prices_1 rfl ?_
  refine g_putI (pc := 2) dX5_prices_2 fo_X5_22 sh_95 rfl rfl rfl ?_
  refine g_aload_n (pc := 5) (x := 95) dX5_prices_5 rfl ?_
  refine g_iload_n (pc := 6) (x := a2) dX5_prices_6 rfl ?_
  refine g_putI (pc := 7) dX5_prices_7 fo_X5_25 sh_95 rfl rfl rfl ?_
  refine g_aload_n (pc := 10) (x := 95) dX5_prices_10 rfl ?_
  refine g_iload_n (pc := 11) (x := a3) dX5_prices_11 rfl ?_
  refine g_putI (pc := 12) dX5_prices_12 fo_X5_28 sh_95 rfl rfl rfl ?_
  refine g_aload_n (pc := 15) (x := 95) dX5_prices_15 rfl ?_
  refine g_iload (pc := 16) (x := a4) dX5_prices_16 rfl ?_
  refine g_putI (pc := 18) dX5_prices_18 fo_X5_31 sh_95 rfl rfl rfl ?_
  exact g_vret (pc := 21) dX5_prices_21 rfl rfl h
theorem dX5_fill_0 : decode cX5_fill 0 = .ok (.iconst 0, 1) := by decide +kernel
theorem dX5_fill_1 : decode cX5_fill 1 = .ok (.istore_n 2, 1) := by decide +kernel
theorem dX5_fill_2 : decode cX5_fill 2 = .ok (.iload_n 2, 1) := by decide +kernel
theorem dX5_fill_3 : decode cX5_fill 3 = .ok (.bipush 100, 2) := by decide +kernel
theorem dX5_fill_5 : decode cX5_fill 5 = .ok (.if_icmp .ge 24, 3) := by decide +kernel
theorem dX5_fill_8 : decode cX5_fill 8 = .ok (.aload_n 0, 1) := by decide +kernel
theorem dX5_fill_9 : decode cX5_fill 9 = .ok (.getfield 15, 3) := by decide +kernel
theorem dX5_fill_12 : decode cX5_fill 12 = .ok (.aload_n 0, 1) := by decide +kernel
theorem dX5_fill_13 : decode cX5_fill 13 = .ok (.getfield 18, 3) := by decide +kernel
theorem dX5_fill_16 : decode cX5_fill 16 = .ok (.bipush 100, 2) := by decide +kernel
theorem dX5_fill_18 : decode cX5_fill 18 = .ok (.imul, 1) := by decide +kernel
theorem dX5_fill_19 : decode cX5_fill 19 = .ok (.iload_n 2, 1) := by decide +kernel
theorem dX5_fill_20 : decode cX5_fill 20 = .ok (.iadd, 1) := by decide +kernel
theorem dX5_fill_21 : decode cX5_fill 21 = .ok (.iconst 0, 1) := by decide +kernel
theorem dX5_fill_22 : decode cX5_fill 22 = .ok (.iastore, 1) := by decide +kernel
theorem dX5_fill_23 : decode cX5_fill 23 = .ok (.iinc 2 1, 3) := by decide +kernel
theorem dX5_fill_26 : decode cX5_fill 26 = .ok (.goto (-24), 3) := by decide +kernel
theorem dX5_fill_29 : decode cX5_fill 29 = .ok (.aload_n 0, 1) := by decide +kernel
theorem dX5_fill_30 : decode cX5_fill 30 = .ok (.getfield 18, 3) := by decide +kernel
theorem dX5_fill_33 : decode cX5_fill 33 = .ok (.iconst 1, 1) := by decide +kernel
theorem dX5_fill_34 : decode cX5_fill 34 = .ok (.isub, 1) := by decide +kernel
theorem dX5_fill_35 : decode cX5_fill 35 = .ok (.istore_n 2, 1) := by decide +kernel
theorem dX5_fill_36 : decode cX5_fill 36 = .ok (.iload_n 2, 1) := by decide +kernel
theorem dX5_fill_37 : decode cX5_fill 37 = .ok (.ifCond .lt 24, 3) := by decide +kernel
theorem dX5_fill_40 : decode cX5_fill 40 = .ok (.aload_n 0, 1) := by decide +kernel
theorem dX5_fill_41 : decode cX5_fill 41 = .ok (.iload_n 2, 1) := by decide +kernel
theorem dX5_fill_42 : decode cX5_fill 42 = .ok (.invokevirtual 34, 3) := by decide +kernel
theorem dX5_fill_45 : decode cX5_fill 45 = .ok (.aload_n 0, 1) := by decide +kernel
theorem dX5_fill_46 : decode cX5_fill 46 = .ok (.iload_n 2, 1) := by decide +kernel
theorem dX5_fill_47 : decode cX5_fill 47 = .ok (.invokevirtual 38, 3) := by decide +kernel
theorem dX5_fill_50 : decode cX5_fill 50 = .ok (.aload_n 0, 1) := by decide +kernel
theorem dX5_fill_51 : decode cX5_fill 51 = .ok (.iload_n 2, 1) := by decide +kernel
theorem dX5_fill_52 : decode cX5_fill 52 = .ok (.invokevirtual 41, 3) := by decide +kernel
theorem dX5_fill_55 : decode cX5_fill 55 = .ok (.iinc 2 (-1), 3) := by decide +kernel
theorem dX5_fill_58 : decode cX5_fill 58 = .ok (.goto (-22), 3) := by decide +kernel
theorem dX5_fill_61 : decode cX5_fill 61 = .ok (.iload_n 1, 1) := by decide +kernel
theorem dX5_fill_62 : decode cX5_fill 62 = .ok (.iconst 0, 1) := by decide +kernel
theorem dX5_fill_63 : decode cX5_fill 63 = .ok (.bipush 99, 2) := by decide +kernel
theorem dX5_fill_65 : decode cX5_fill 65 = .ok (.invokestatic 44, 3) := by decide +kernel
theorem dX5_fill_68 : decode cX5_fill 68 = .ok (.ifCond .eq 12, 3) := by decide +kernel
theorem dX5_fill_71 : decode cX5_fill 71 = .ok (.aload_n 0, 1) := by decide +kernel
theorem dX5_fill_72 : decode cX5_fill 72 = .ok (.getfield 15, 3) := by decide +kernel
theorem dX5_fill_75 : decode cX5_fill 75 = .ok (.iload_n 1, 1) := by decide +kernel
theorem dX5_fill_76 : decode cX5_fill 76 = .ok (.iaload, 1) := by decide +kernel
theorem dX5_fill_77 : decode cX5_fill 77 = .ok (.goto 4, 3) := by decide +kernel
theorem dX5_fill_80 : decode cX5_fill 80 = .ok (.iconst (-1), 1) := by decide +kernel
theorem dX5_fill_81 : decode cX5_fill 81 = .ok (.ireturn, 1) := by decide +kernel
theorem b_X5_fill (mm : MM) (Q : Value → MM → Prop) (a1 : Int32) (h : G e_X5_fill 2 [(0, .ref 95), (1, .int a1), (2, .int (0 : Int32))] [] mm Q) : Runs e_X5_fill [.ref 95, .int a1] mm Q := by
  refine runs_of_G (L := [(0, .ref 95), (1, .int a1)]) pl_X5 (Nat.le_of_ble_eq_true rfl) rfl ?_
  refine g_iconst (pc := 0) (v := (0 : Int32)) dX5_fill_0 (by decide) ?_
  refine g_istore_n (pc := 1) (L' := [(0, .ref 95), (1, .int a1), (2, .int (0 : Int32))]) dX5_fill_1 (Nat.le_of_ble_eq_true rfl) rfl ?_
  exact h
theorem b_X5_fill_2 (mm : MM) (Q : Value → MM → Prop) (l1 : Int32) (l2 : Int32) (h : ((100 : Int32) ≤ l2 → (G e_X5_fill 36 [(0, .ref 95), (1, .int l1), (2, .int ((mm.1 95 2) - (1 : Int32)))] [] mm Q)) ∧ (¬ (100 : Int32) ≤ l2 → (vp_in (((mm.1 95 2) * (100 : Int32)) + l2) 1300 ∧ (G e_X5_fill 2 [(0, .ref 95), (1, .int l1), (2, .int (l2 + (1 : Int32)))] [] (wI mm 97 ((((mm.1 95 2) * (100 : Int32)) + l2).toNatClampNeg) (0 : Int32)) Q)))) : G e_X5_fill 2 [(0, .ref 95), (1, .int l1), (2, .int l2)] [] mm Q := by
  refine g_iload_n (pc := 2) (x := l2) dX5_fill_2 rfl ?_
  refine g_bipush (pc := 3) (v := (100 : Int32)) dX5_fill_3 (by decide) ?_
  refine g_icmp_ge (pc := 5) (tgt := 29) dX5_fill_5 (by decide) (fun c5 => ?_) (fun c5 => ?_)
  · have h := h.1 c5
    refine g_aload_n (pc := 29) (x := 95) dX5_fill_29 rfl ?_
    refine g_getI (pc := 30) dX5_fill_30 fo_X5_18 sh_95 rfl ?_
    refine g_iconst (pc := 33) (v := (1 : Int32)) dX5_fill_33 (by decide) ?_
    refine g_isub (pc := 34) dX5_fill_34 ?_
    refine g_istore_n (pc := 35) (L' := [(0, .ref 95), (1, .int l1), (2, .int ((mm.1 95 2) - (1 : Int32)))]) dX5_fill_35 (Nat.le_of_ble_eq_true rfl) rfl ?_
    exact h
  · have h := h.2 c5
    refine g_aload_n (pc := 8) (x := 95) dX5_fill_8 rfl ?_
    refine g_getR (pc := 9) (dd := 2) dX5_fill_9 fo_X5_15 sh_95 rfl ?_
    refine g_aload_n (pc := 12) (x := 95) dX5_fill_12 rfl ?_
    refine g_getI (pc := 13) dX5_fill_13 fo_X5_18 sh_95 rfl ?_
    refine g_bipush (pc := 16) (v := (100 : Int32)) dX5_fill_16 (by decide) ?_
    refine g_imul (pc := 18) dX5_fill_18 ?_
    refine g_iload_n (pc := 19) (x := l2) dX5_fill_19 rfl ?_
    refine g_iadd (pc := 20) dX5_fill_20 ?_
    refine g_iconst (pc := 21) (v := (0 : Int32)) dX5_fill_21 (by decide) ?_
    refine g_iastore (pc := 22) dX5_fill_22 sh_97 h.1 ?_
    have h := h.2
    refine g_iinc (pc := 23) (x := l2) (v := (l2 + (1 : Int32))) (L' := [(0, .ref 95), (1, .int l1), (2, .int (l2 + (1 : Int32)))]) dX5_fill_23 rfl rfl (Nat.le_of_ble_eq_true rfl) rfl ?_
    refine g_goto (pc := 26) (tgt := 2) dX5_fill_26 (by decide) ?_
    exact h
theorem b_X5_fill_36 (mm : MM) (Q : Value → MM → Prop) (l1 : Int32) (l2 : Int32) (h : (l2 < 0 → ((p_X11_within mm l1 (0 : Int32) (99 : Int32) → (vp_in l1 1300 ∧ (Q (.int (mm.1 97 l1.toNatClampNeg)) mm))) ∧ (¬ p_X11_within mm l1 (0 : Int32) (99 : Int32) → (Q (.int (-1 : Int32)) mm)))) ∧ (¬ l2 < 0 → (∃ Pm1 : Value → MM → Prop, Runs e_X5_fillLevel [.ref 95, .int l2] mm Pm1 ∧ ∀ m1, Pm1 .null m1 → (∃ Pm2 : Value → MM → Prop, Runs e_X5_fillUp [.ref 95, .int l2] m1 Pm2 ∧ ∀ m2, Pm2 .null m2 → (∃ Pm3 : Value → MM → Prop, Runs e_X5_fillDown [.ref 95, .int l2] m2 Pm3 ∧ ∀ m3, Pm3 .null m3 → (G e_X5_fill 36 [(0, .ref 95), (1, .int l1), (2, .int (l2 + (-1 : Int32)))] [] m3 Q)))))) : G e_X5_fill 36 [(0, .ref 95), (1, .int l1), (2, .int l2)] [] mm Q := by
  refine g_iload_n (pc := 36) (x := l2) dX5_fill_36 rfl ?_
  refine g_if_lt (pc := 37) (tgt := 61) dX5_fill_37 (by decide) (fun c37 => ?_) (fun c37 => ?_)
  · have h := h.1 c37
    refine g_iload_n (pc := 61) (x := l1) dX5_fill_61 rfl ?_
    refine g_iconst (pc := 62) (v := (0 : Int32)) dX5_fill_62 (by decide) ?_
    refine g_bipush (pc := 63) (v := (99 : Int32)) dX5_fill_63 (by decide) ?_
    refine g_callSN (pc := 65) (as := [.int l1, .int (0 : Int32), .int (99 : Int32)]) dX5_fill_65 cw_X5_44 (by decide) rfl rfl (Nat.le_of_ble_eq_true rfl) (rv_X11_within mm l1 (0 : Int32) (99 : Int32)) ?_
    rintro r_ m_ hz_ ⟨⟨p_, rfl⟩ | ⟨p_, rfl⟩, rfl⟩
    · have h := h.1 p_
      refine g_if_eq (pc := 68) (tgt := 80) dX5_fill_68 (by decide) (fun c68 => absurd c68 (by decide)) (fun _ => ?_)
      refine g_aload_n (pc := 71) (x := 95) dX5_fill_71 rfl ?_
      refine g_getR (pc := 72) (dd := 2) dX5_fill_72 fo_X5_15 sh_95 rfl ?_
      refine g_iload_n (pc := 75) (x := l1) dX5_fill_75 rfl ?_
      refine g_iaload (pc := 76) dX5_fill_76 sh_97 h.1 ?_
      have h := h.2
      refine g_goto (pc := 77) (tgt := 81) dX5_fill_77 (by decide) ?_
      exact g_iret (pc := 81) dX5_fill_81 rfl rfl rfl h
    · have h := h.2 p_
      refine g_if_eq (pc := 68) (tgt := 80) dX5_fill_68 (by decide) (fun _ => ?_) (fun c68 => absurd c68 (by decide))
      refine g_iconst (pc := 80) (v := (-1 : Int32)) dX5_fill_80 (by decide) ?_
      exact g_iret (pc := 81) dX5_fill_81 rfl rfl rfl h
  · have h := h.2 c37
    refine g_aload_n (pc := 40) (x := 95) dX5_fill_40 rfl ?_
    refine g_iload_n (pc := 41) (x := l2) dX5_fill_41 rfl ?_
    obtain ⟨Pm1, hRm1, h⟩ := h
    refine g_callV (pc := 42) (as := [.int l2]) dX5_fill_42 cw_X5_34 (by decide) rfl rfl sh_95 (Nat.le_of_ble_eq_true rfl) hRm1 ?_
    intro r_ m1 hz_ hp_
    obtain rfl := hz_
    have h := h m1 hp_
    refine g_aload_n (pc := 45) (x := 95) dX5_fill_45 rfl ?_
    refine g_iload_n (pc := 46) (x := l2) dX5_fill_46 rfl ?_
    obtain ⟨Pm2, hRm2, h⟩ := h
    refine g_callV (pc := 47) (as := [.int l2]) dX5_fill_47 cw_X5_38 (by decide) rfl rfl sh_95 (Nat.le_of_ble_eq_true rfl) hRm2 ?_
    intro r_ m2 hz_ hp_
    obtain rfl := hz_
    have h := h m2 hp_
    refine g_aload_n (pc := 50) (x := 95) dX5_fill_50 rfl ?_
    refine g_iload_n (pc := 51) (x := l2) dX5_fill_51 rfl ?_
    obtain ⟨Pm3, hRm3, h⟩ := h
    refine g_callV (pc := 52) (as := [.int l2]) dX5_fill_52 cw_X5_41 (by decide) rfl rfl sh_95 (Nat.le_of_ble_eq_true rfl) hRm3 ?_
    intro r_ m3 hz_ hp_
    obtain rfl := hz_
    have h := h m3 hp_
    refine g_iinc (pc := 55) (x := l2) (v := (l2 + (-1 : Int32))) (L' := [(0, .ref 95), (1, .int l1), (2, .int (l2 + (-1 : Int32)))]) dX5_fill_55 rfl rfl (Nat.le_of_ble_eq_true rfl) rfl ?_
    refine g_goto (pc := 58) (tgt := 36) dX5_fill_58 (by decide) ?_
    exact h
theorem dX5_canBe_0 : decode cX5_canBe 0 = .ok (.iload_n 2, 1) := by decide +kernel
theorem dX5_canBe_1 : decode cX5_canBe 1 = .ok (.aload_n 0, 1) := by decide +kernel
theorem dX5_canBe_2 : decode cX5_canBe 2 = .ok (.getfield 9, 3) := by decide +kernel
theorem dX5_canBe_5 : decode cX5_canBe 5 = .ok (.iload_n 1, 1) := by decide +kernel
theorem dX5_canBe_6 : decode cX5_canBe 6 = .ok (.iaload, 1) := by decide +kernel
theorem dX5_canBe_7 : decode cX5_canBe 7 = .ok (.bipush 99, 2) := by decide +kernel
theorem dX5_canBe_9 : decode cX5_canBe 9 = .ok (.aload_n 0, 1) := by decide +kernel
theorem dX5_canBe_10 : decode cX5_canBe 10 = .ok (.getfield 9, 3) := by decide +kernel
theorem dX5_canBe_13 : decode cX5_canBe 13 = .ok (.iload_n 1, 1) := by decide +kernel
theorem dX5_canBe_14 : decode cX5_canBe 14 = .ok (.iaload, 1) := by decide +kernel
theorem dX5_canBe_15 : decode cX5_canBe 15 = .ok (.aload_n 0, 1) := by decide +kernel
theorem dX5_canBe_16 : decode cX5_canBe 16 = .ok (.getfield 22, 3) := by decide +kernel
theorem dX5_canBe_19 : decode cX5_canBe 19 = .ok (.iadd, 1) := by decide +kernel
theorem dX5_canBe_20 : decode cX5_canBe 20 = .ok (.invokestatic 48, 3) := by decide +kernel
theorem dX5_canBe_23 : decode cX5_canBe 23 = .ok (.invokestatic 44, 3) := by decide +kernel
theorem dX5_canBe_26 : decode cX5_canBe 26 = .ok (.ireturn, 1) := by decide +kernel
def o_X5_canBe (mm : MM) (a1 : Int32) (a2 : Int32) : Prop := vp_in a1 12 ∧ (vp_in a1 12 ∧ ((p_X11_within mm a2 (mm.1 96 a1.toNatClampNeg) (imin (99 : Int32) ((mm.1 96 a1.toNatClampNeg) + (mm.1 95 3))) → (True)) ∧ (¬ p_X11_within mm a2 (mm.1 96 a1.toNatClampNeg) (imin (99 : Int32) ((mm.1 96 a1.toNatClampNeg) + (mm.1 95 3))) → (True))))
def p_X5_canBe (mm : MM) (a1 : Int32) (a2 : Int32) : Prop := p_X11_within mm a2 (mm.1 96 a1.toNatClampNeg) (imin (99 : Int32) ((mm.1 96 a1.toNatClampNeg) + (mm.1 95 3)))
theorem rv_X5_canBe (mm : MM) (a1 : Int32) (a2 : Int32) (h : o_X5_canBe mm a1 a2) : Runs e_X5_canBe [.ref 95, .int a1, .int a2] mm (fun r m_ => ((p_X5_canBe mm a1 a2 ∧ r = .int 1) ∨ (¬ p_X5_canBe mm a1 a2 ∧ r = .int 0)) ∧ mm = m_) := by
  refine runs_of_G (L := [(0, .ref 95), (1, .int a1), (2, .int a2)]) pl_X5 (Nat.le_of_ble_eq_true rfl) rfl ?_
  unfold o_X5_canBe at h
  refine g_iload_n (pc := 0) (x := a2) dX5_canBe_0 rfl ?_
  refine g_aload_n (pc := 1) (x := 95) dX5_canBe_1 rfl ?_
  refine g_getR (pc := 2) (dd := 1) dX5_canBe_2 fo_X5_9 sh_95 rfl ?_
  refine g_iload_n (pc := 5) (x := a1) dX5_canBe_5 rfl ?_
  refine g_iaload (pc := 6) dX5_canBe_6 sh_96 h.1 ?_
  have h := h.2
  refine g_bipush (pc := 7) (v := (99 : Int32)) dX5_canBe_7 (by decide) ?_
  refine g_aload_n (pc := 9) (x := 95) dX5_canBe_9 rfl ?_
  refine g_getR (pc := 10) (dd := 1) dX5_canBe_10 fo_X5_9 sh_95 rfl ?_
  refine g_iload_n (pc := 13) (x := a1) dX5_canBe_13 rfl ?_
  refine g_iaload (pc := 14) dX5_canBe_14 sh_96 h.1 ?_
  have h := h.2
  refine g_aload_n (pc := 15) (x := 95) dX5_canBe_15 rfl ?_
  refine g_getI (pc := 16) dX5_canBe_16 fo_X5_22 sh_95 rfl ?_
  refine g_iadd (pc := 19) dX5_canBe_19 ?_
  refine g_mmin (pc := 20) dX5_canBe_20 cw_X5_48 (by decide) (Nat.le_of_ble_eq_true rfl) ?_
  refine g_callSN (pc := 23) (as := [.int a2, .int (mm.1 96 a1.toNatClampNeg), .int (imin (99 : Int32) ((mm.1 96 a1.toNatClampNeg) + (mm.1 95 3)))]) dX5_canBe_23 cw_X5_44 (by decide) rfl rfl (Nat.le_of_ble_eq_true rfl) (rv_X11_within mm a2 (mm.1 96 a1.toNatClampNeg) (imin (99 : Int32) ((mm.1 96 a1.toNatClampNeg) + (mm.1 95 3)))) ?_
  rintro r_ m_ hz_ ⟨⟨p_, rfl⟩ | ⟨p_, rfl⟩, rfl⟩
  · have p__0 : p_X11_within mm a2 (mm.1 96 a1.toNatClampNeg) (imin (99 : Int32) ((mm.1 96 a1.toNatClampNeg) + (mm.1 95 3))) := p_
    exact g_iret (pc := 26) dX5_canBe_26 rfl rfl (nar_B isB1) ⟨Or.inl ⟨(show p_X5_canBe mm a1 a2 from p__0), rfl⟩, rfl⟩
  · have p__0 : ¬ p_X11_within mm a2 (mm.1 96 a1.toNatClampNeg) (imin (99 : Int32) ((mm.1 96 a1.toNatClampNeg) + (mm.1 95 3))) := p_
    exact g_iret (pc := 26) dX5_canBe_26 rfl rfl (nar_B isB0) ⟨Or.inr ⟨(show ¬ p_X5_canBe mm a1 a2 from p__0), rfl⟩, rfl⟩
theorem dX5_behind_0 : decode cX5_behind 0 = .ok (.aload_n 0, 1) := by decide +kernel
theorem dX5_behind_1 : decode cX5_behind 1 = .ok (.iload_n 1, 1) := by decide +kernel
theorem dX5_behind_2 : decode cX5_behind 2 = .ok (.iload_n 2, 1) := by decide +kernel
theorem dX5_behind_3 : decode cX5_behind 3 = .ok (.invokevirtual 54, 3) := by decide +kernel
theorem dX5_behind_6 : decode cX5_behind 6 = .ok (.ifCond .eq 19, 3) := by decide +kernel
theorem dX5_behind_9 : decode cX5_behind 9 = .ok (.aload_n 0, 1) := by decide +kernel
theorem dX5_behind_10 : decode cX5_behind 10 = .ok (.getfield 15, 3) := by decide +kernel
theorem dX5_behind_13 : decode cX5_behind 13 = .ok (.iload_n 1, 1) := by decide +kernel
theorem dX5_behind_14 : decode cX5_behind 14 = .ok (.iconst 1, 1) := by decide +kernel
theorem dX5_behind_15 : decode cX5_behind 15 = .ok (.iadd, 1) := by decide +kernel
theorem dX5_behind_16 : decode cX5_behind 16 = .ok (.bipush 100, 2) := by decide +kernel
theorem dX5_behind_18 : decode cX5_behind 18 = .ok (.imul, 1) := by decide +kernel
theorem dX5_behind_19 : decode cX5_behind 19 = .ok (.iload_n 2, 1) := by decide +kernel
theorem dX5_behind_20 : decode cX5_behind 20 = .ok (.iadd, 1) := by decide +kernel
theorem dX5_behind_21 : decode cX5_behind 21 = .ok (.iaload, 1) := by decide +kernel
theorem dX5_behind_22 : decode cX5_behind 22 = .ok (.goto 5, 3) := by decide +kernel
theorem dX5_behind_25 : decode cX5_behind 25 = .ok (.ldc 58, 2) := by decide +kernel
theorem dX5_behind_27 : decode cX5_behind 27 = .ok (.ireturn, 1) := by decide +kernel
def o_X5_behind (mm : MM) (a1 : Int32) (a2 : Int32) : Prop := o_X5_canBe mm a1 a2 ∧ ((p_X5_canBe mm a1 a2 → (vp_in (((a1 + (1 : Int32)) * (100 : Int32)) + a2) 1300 ∧ (True))) ∧ (¬ p_X5_canBe mm a1 a2 → (True)))
noncomputable def v_X5_behind (mm : MM) (a1 : Int32) (a2 : Int32) : Int32 := (cite (p_X5_canBe mm a1 a2) (mm.1 97 (((a1 + (1 : Int32)) * (100 : Int32)) + a2).toNatClampNeg) (10000000 : Int32))
theorem rv_X5_behind (mm : MM) (a1 : Int32) (a2 : Int32) (h : o_X5_behind mm a1 a2) : Runs e_X5_behind [.ref 95, .int a1, .int a2] mm (fun r m_ => r = .int (v_X5_behind mm a1 a2) ∧ mm = m_) := by
  refine runs_of_G (L := [(0, .ref 95), (1, .int a1), (2, .int a2)]) pl_X5 (Nat.le_of_ble_eq_true rfl) rfl ?_
  unfold o_X5_behind at h
  refine g_aload_n (pc := 0) (x := 95) dX5_behind_0 rfl ?_
  refine g_iload_n (pc := 1) (x := a1) dX5_behind_1 rfl ?_
  refine g_iload_n (pc := 2) (x := a2) dX5_behind_2 rfl ?_
  refine g_callV (pc := 3) (as := [.int a1, .int a2]) dX5_behind_3 cw_X5_54 (by decide) rfl rfl sh_95 (Nat.le_of_ble_eq_true rfl) (rv_X5_canBe mm a1 a2 h.1) ?_
  have h := h.2
  rintro r_ m_ hz_ ⟨⟨p_, rfl⟩ | ⟨p_, rfl⟩, rfl⟩
  · have p__0 : p_X5_canBe mm a1 a2 := p_
    have h := h.1 p_
    refine g_if_eq (pc := 6) (tgt := 25) dX5_behind_6 (by decide) (fun c6 => absurd c6 (by decide)) (fun _ => ?_)
    refine g_aload_n (pc := 9) (x := 95) dX5_behind_9 rfl ?_
    refine g_getR (pc := 10) (dd := 2) dX5_behind_10 fo_X5_15 sh_95 rfl ?_
    refine g_iload_n (pc := 13) (x := a1) dX5_behind_13 rfl ?_
    refine g_iconst (pc := 14) (v := (1 : Int32)) dX5_behind_14 (by decide) ?_
    refine g_iadd (pc := 15) dX5_behind_15 ?_
    refine g_bipush (pc := 16) (v := (100 : Int32)) dX5_behind_16 (by decide) ?_
    refine g_imul (pc := 18) dX5_behind_18 ?_
    refine g_iload_n (pc := 19) (x := a2) dX5_behind_19 rfl ?_
    refine g_iadd (pc := 20) dX5_behind_20 ?_
    refine g_iaload (pc := 21) dX5_behind_21 sh_97 h.1 ?_
    have h := h.2
    refine g_goto (pc := 22) (tgt := 27) dX5_behind_22 (by decide) ?_
    exact g_iret (pc := 27) dX5_behind_27 rfl rfl rfl ⟨(by unfold v_X5_behind; rw [cite_pos p__0] <;> rfl), rfl⟩
  · have p__0 : ¬ p_X5_canBe mm a1 a2 := p_
    have h := h.2 p_
    refine g_if_eq (pc := 6) (tgt := 25) dX5_behind_6 (by decide) (fun _ => ?_) (fun c6 => absurd c6 (by decide))
    refine g_ldc (pc := 25) (v := (10000000 : Int32)) dX5_behind_25 ct_X5_58 ?_
    exact g_iret (pc := 27) dX5_behind_27 rfl rfl rfl ⟨(by unfold v_X5_behind; rw [cite_neg p__0] <;> rfl), rfl⟩
theorem dX5_fillLevel_0 : decode cX5_fillLevel 0 = .ok (.iconst 0, 1) := by decide +kernel
theorem dX5_fillLevel_1 : decode cX5_fillLevel 1 = .ok (.istore_n 2, 1) := by decide +kernel
theorem dX5_fillLevel_2 : decode cX5_fillLevel 2 = .ok (.iload_n 2, 1) := by decide +kernel
theorem dX5_fillLevel_3 : decode cX5_fillLevel 3 = .ok (.bipush 100, 2) := by decide +kernel
theorem dX5_fillLevel_5 : decode cX5_fillLevel 5 = .ok (.if_icmp .ge 26, 3) := by decide +kernel
theorem dX5_fillLevel_8 : decode cX5_fillLevel 8 = .ok (.aload_n 0, 1) := by decide +kernel
theorem dX5_fillLevel_9 : decode cX5_fillLevel 9 = .ok (.getfield 15, 3) := by decide +kernel
theorem dX5_fillLevel_12 : decode cX5_fillLevel 12 = .ok (.iload_n 1, 1) := by decide +kernel
theorem dX5_fillLevel_13 : decode cX5_fillLevel 13 = .ok (.bipush 100, 2) := by decide +kernel
theorem dX5_fillLevel_15 : decode cX5_fillLevel 15 = .ok (.imul, 1) := by decide +kernel
theorem dX5_fillLevel_16 : decode cX5_fillLevel 16 = .ok (.iload_n 2, 1) := by decide +kernel
theorem dX5_fillLevel_17 : decode cX5_fillLevel 17 = .ok (.iadd, 1) := by decide +kernel
theorem dX5_fillLevel_18 : decode cX5_fillLevel 18 = .ok (.aload_n 0, 1) := by decide +kernel
theorem dX5_fillLevel_19 : decode cX5_fillLevel 19 = .ok (.iload_n 1, 1) := by decide +kernel
theorem dX5_fillLevel_20 : decode cX5_fillLevel 20 = .ok (.iload_n 2, 1) := by decide +kernel
theorem dX5_fillLevel_21 : decode cX5_fillLevel 21 = .ok (.invokevirtual 59, 3) := by decide +kernel
theorem dX5_fillLevel_24 : decode cX5_fillLevel 24 = .ok (.iastore, 1) := by decide +kernel
theorem dX5_fillLevel_25 : decode cX5_fillLevel 25 = .ok (.iinc 2 1, 3) := by decide +kernel
theorem dX5_fillLevel_28 : decode cX5_fillLevel 28 = .ok (.goto (-26), 3) := by decide +kernel
theorem dX5_fillLevel_31 : decode cX5_fillLevel 31 = .ok (.return_, 1) := by decide +kernel
theorem b_X5_fillLevel (mm : MM) (Q : Value → MM → Prop) (a1 : Int32) (h : G e_X5_fillLevel 2 [(0, .ref 95), (1, .int a1), (2, .int (0 : Int32))] [] mm Q) : Runs e_X5_fillLevel [.ref 95, .int a1] mm Q := by
  refine runs_of_G (L := [(0, .ref 95), (1, .int a1)]) pl_X5 (Nat.le_of_ble_eq_true rfl) rfl ?_
  refine g_iconst (pc := 0) (v := (0 : Int32)) dX5_fillLevel_0 (by decide) ?_
  refine g_istore_n (pc := 1) (L' := [(0, .ref 95), (1, .int a1), (2, .int (0 : Int32))]) dX5_fillLevel_1 (Nat.le_of_ble_eq_true rfl) rfl ?_
  exact h
theorem b_X5_fillLevel_2 (mm : MM) (Q : Value → MM → Prop) (l1 : Int32) (l2 : Int32) (h : ((100 : Int32) ≤ l2 → (Q .null mm)) ∧ (¬ (100 : Int32) ≤ l2 → (o_X5_behind mm l1 l2 ∧ (vp_in ((l1 * (100 : Int32)) + l2) 1300 ∧ (G e_X5_fillLevel 2 [(0, .ref 95), (1, .int l1), (2, .int (l2 + (1 : Int32)))] [] (wI mm 97 (((l1 * (100 : Int32)) + l2).toNatClampNeg) (v_X5_behind mm l1 l2)) Q))))) : G e_X5_fillLevel 2 [(0, .ref 95), (1, .int l1), (2, .int l2)] [] mm Q := by
  refine g_iload_n (pc := 2) (x := l2) dX5_fillLevel_2 rfl ?_
  refine g_bipush (pc := 3) (v := (100 : Int32)) dX5_fillLevel_3 (by decide) ?_
  refine g_icmp_ge (pc := 5) (tgt := 31) dX5_fillLevel_5 (by decide) (fun c5 => ?_) (fun c5 => ?_)
  · have h := h.1 c5
    exact g_vret (pc := 31) dX5_fillLevel_31 rfl rfl h
  · have h := h.2 c5
    refine g_aload_n (pc := 8) (x := 95) dX5_fillLevel_8 rfl ?_
    refine g_getR (pc := 9) (dd := 2) dX5_fillLevel_9 fo_X5_15 sh_95 rfl ?_
    refine g_iload_n (pc := 12) (x := l1) dX5_fillLevel_12 rfl ?_
    refine g_bipush (pc := 13) (v := (100 : Int32)) dX5_fillLevel_13 (by decide) ?_
    refine g_imul (pc := 15) dX5_fillLevel_15 ?_
    refine g_iload_n (pc := 16) (x := l2) dX5_fillLevel_16 rfl ?_
    refine g_iadd (pc := 17) dX5_fillLevel_17 ?_
    refine g_aload_n (pc := 18) (x := 95) dX5_fillLevel_18 rfl ?_
    refine g_iload_n (pc := 19) (x := l1) dX5_fillLevel_19 rfl ?_
    refine g_iload_n (pc := 20) (x := l2) dX5_fillLevel_20 rfl ?_
    refine g_callV (pc := 21) (as := [.int l1, .int l2]) dX5_fillLevel_21 cw_X5_59 (by decide) rfl rfl sh_95 (Nat.le_of_ble_eq_true rfl) (rv_X5_behind mm l1 l2 h.1) ?_
    have h := h.2
    rintro r_ m_ hz_ ⟨rfl, rfl⟩
    refine g_iastore (pc := 24) dX5_fillLevel_24 sh_97 h.1 ?_
    have h := h.2
    refine g_iinc (pc := 25) (x := l2) (v := (l2 + (1 : Int32))) (L' := [(0, .ref 95), (1, .int l1), (2, .int (l2 + (1 : Int32)))]) dX5_fillLevel_25 rfl rfl (Nat.le_of_ble_eq_true rfl) rfl ?_
    refine g_goto (pc := 28) (tgt := 2) dX5_fillLevel_28 (by decide) ?_
    exact h
theorem dX5_fillUp_0 : decode cX5_fillUp 0 = .ok (.ldc 58, 2) := by decide +kernel
theorem dX5_fillUp_2 : decode cX5_fillUp 2 = .ok (.istore_n 2, 1) := by decide +kernel
theorem dX5_fillUp_3 : decode cX5_fillUp 3 = .ok (.bipush 98, 2) := by decide +kernel
theorem dX5_fillUp_5 : decode cX5_fillUp 5 = .ok (.istore_n 3, 1) := by decide +kernel
theorem dX5_fillUp_6 : decode cX5_fillUp 6 = .ok (.iload_n 3, 1) := by decide +kernel
theorem dX5_fillUp_7 : decode cX5_fillUp 7 = .ok (.ifCond .lt 58, 3) := by decide +kernel
theorem dX5_fillUp_10 : decode cX5_fillUp 10 = .ok (.iload_n 2, 1) := by decide +kernel
theorem dX5_fillUp_11 : decode cX5_fillUp 11 = .ok (.aload_n 0, 1) := by decide +kernel
theorem dX5_fillUp_12 : decode cX5_fillUp 12 = .ok (.iload_n 1, 1) := by decide +kernel
theorem dX5_fillUp_13 : decode cX5_fillUp 13 = .ok (.iload_n 3, 1) := by decide +kernel
theorem dX5_fillUp_14 : decode cX5_fillUp 14 = .ok (.iconst 1, 1) := by decide +kernel
theorem dX5_fillUp_15 : decode cX5_fillUp 15 = .ok (.iadd, 1) := by decide +kernel
theorem dX5_fillUp_16 : decode cX5_fillUp 16 = .ok (.invokevirtual 59, 3) := by decide +kernel
theorem dX5_fillUp_19 : decode cX5_fillUp 19 = .ok (.invokestatic 48, 3) := by decide +kernel
theorem dX5_fillUp_22 : decode cX5_fillUp 22 = .ok (.aload_n 0, 1) := by decide +kernel
theorem dX5_fillUp_23 : decode cX5_fillUp 23 = .ok (.getfield 25, 3) := by decide +kernel
theorem dX5_fillUp_26 : decode cX5_fillUp 26 = .ok (.iadd, 1) := by decide +kernel
theorem dX5_fillUp_27 : decode cX5_fillUp 27 = .ok (.istore_n 2, 1) := by decide +kernel
theorem dX5_fillUp_28 : decode cX5_fillUp 28 = .ok (.aload_n 0, 1) := by decide +kernel
theorem dX5_fillUp_29 : decode cX5_fillUp 29 = .ok (.getfield 15, 3) := by decide +kernel
theorem dX5_fillUp_32 : decode cX5_fillUp 32 = .ok (.iload_n 1, 1) := by decide +kernel
theorem dX5_fillUp_33 : decode cX5_fillUp 33 = .ok (.bipush 100, 2) := by decide +kernel
theorem dX5_fillUp_35 : decode cX5_fillUp 35 = .ok (.imul, 1) := by decide +kernel
theorem dX5_fillUp_36 : decode cX5_fillUp 36 = .ok (.iload_n 3, 1) := by decide +kernel
theorem dX5_fillUp_37 : decode cX5_fillUp 37 = .ok (.iadd, 1) := by decide +kernel
theorem dX5_fillUp_38 : decode cX5_fillUp 38 = .ok (.aload_n 0, 1) := by decide +kernel
theorem dX5_fillUp_39 : decode cX5_fillUp 39 = .ok (.getfield 15, 3) := by decide +kernel
theorem dX5_fillUp_42 : decode cX5_fillUp 42 = .ok (.iload_n 1, 1) := by decide +kernel
theorem dX5_fillUp_43 : decode cX5_fillUp 43 = .ok (.bipush 100, 2) := by decide +kernel
theorem dX5_fillUp_45 : decode cX5_fillUp 45 = .ok (.imul, 1) := by decide +kernel
theorem dX5_fillUp_46 : decode cX5_fillUp 46 = .ok (.iload_n 3, 1) := by decide +kernel
theorem dX5_fillUp_47 : decode cX5_fillUp 47 = .ok (.iadd, 1) := by decide +kernel
theorem dX5_fillUp_48 : decode cX5_fillUp 48 = .ok (.iaload, 1) := by decide +kernel
theorem dX5_fillUp_49 : decode cX5_fillUp 49 = .ok (.iload_n 2, 1) := by decide +kernel
theorem dX5_fillUp_50 : decode cX5_fillUp 50 = .ok (.aload_n 0, 1) := by decide +kernel
theorem dX5_fillUp_51 : decode cX5_fillUp 51 = .ok (.getfield 31, 3) := by decide +kernel
theorem dX5_fillUp_54 : decode cX5_fillUp 54 = .ok (.iadd, 1) := by decide +kernel
theorem dX5_fillUp_55 : decode cX5_fillUp 55 = .ok (.invokestatic 48, 3) := by decide +kernel
theorem dX5_fillUp_58 : decode cX5_fillUp 58 = .ok (.iastore, 1) := by decide +kernel
theorem dX5_fillUp_59 : decode cX5_fillUp 59 = .ok (.iinc 3 (-1), 3) := by decide +kernel
theorem dX5_fillUp_62 : decode cX5_fillUp 62 = .ok (.goto (-56), 3) := by decide +kernel
theorem dX5_fillUp_65 : decode cX5_fillUp 65 = .ok (.return_, 1) := by decide +kernel
theorem b_X5_fillUp (mm : MM) (Q : Value → MM → Prop) (a1 : Int32) (h : G e_X5_fillUp 6 [(0, .ref 95), (1, .int a1), (2, .int (10000000 : Int32)), (3, .int (98 : Int32))] [] mm Q) : Runs e_X5_fillUp [.ref 95, .int a1] mm Q := by
  refine runs_of_G (L := [(0, .ref 95), (1, .int a1)]) pl_X5 (Nat.le_of_ble_eq_true rfl) rfl ?_
  refine g_ldc (pc := 0) (v := (10000000 : Int32)) dX5_fillUp_0 ct_X5_58 ?_
  refine g_istore_n (pc := 2) (L' := [(0, .ref 95), (1, .int a1), (2, .int (10000000 : Int32))]) dX5_fillUp_2 (Nat.le_of_ble_eq_true rfl) rfl ?_
  refine g_bipush (pc := 3) (v := (98 : Int32)) dX5_fillUp_3 (by decide) ?_
  refine g_istore_n (pc := 5) (L' := [(0, .ref 95), (1, .int a1), (2, .int (10000000 : Int32)), (3, .int (98 : Int32))]) dX5_fillUp_5 (Nat.le_of_ble_eq_true rfl) rfl ?_
  exact h
theorem b_X5_fillUp_6 (mm : MM) (Q : Value → MM → Prop) (l1 : Int32) (l2 : Int32) (l3 : Int32) (h : (l3 < 0 → (Q .null mm)) ∧ (¬ l3 < 0 → (o_X5_behind mm l1 (l3 + (1 : Int32)) ∧ (vp_in ((l1 * (100 : Int32)) + l3) 1300 ∧ (vp_in ((l1 * (100 : Int32)) + l3) 1300 ∧ (G e_X5_fillUp 6 [(0, .ref 95), (1, .int l1), (2, .int ((imin l2 (v_X5_behind mm l1 (l3 + (1 : Int32)))) + (mm.1 95 4))), (3, .int (l3 + (-1 : Int32)))] [] (wI mm 97 (((l1 * (100 : Int32)) + l3).toNatClampNeg) (imin (mm.1 97 ((l1 * (100 : Int32)) + l3).toNatClampNeg) (((imin l2 (v_X5_behind mm l1 (l3 + (1 : Int32)))) + (mm.1 95 4)) + (mm.1 95 6)))) Q)))))) : G e_X5_fillUp 6 [(0, .ref 95), (1, .int l1), (2, .int l2), (3, .int l3)] [] mm Q := by
  refine g_iload_n (pc := 6) (x := l3) dX5_fillUp_6 rfl ?_
  refine g_if_lt (pc := 7) (tgt := 65) dX5_fillUp_7 (by decide) (fun c7 => ?_) (fun c7 => ?_)
  · have h := h.1 c7
    exact g_vret (pc := 65) dX5_fillUp_65 rfl rfl h
  · have h := h.2 c7
    refine g_iload_n (pc := 10) (x := l2) dX5_fillUp_10 rfl ?_
    refine g_aload_n (pc := 11) (x := 95) dX5_fillUp_11 rfl ?_
    refine g_iload_n (pc := 12) (x := l1) dX5_fillUp_12 rfl ?_
    refine g_iload_n (pc := 13) (x := l3) dX5_fillUp_13 rfl ?_
    refine g_iconst (pc := 14) (v := (1 : Int32)) dX5_fillUp_14 (by decide) ?_
    refine g_iadd (pc := 15) dX5_fillUp_15 ?_
    refine g_callV (pc := 16) (as := [.int l1, .int (l3 + (1 : Int32))]) dX5_fillUp_16 cw_X5_59 (by decide) rfl rfl sh_95 (Nat.le_of_ble_eq_true rfl) (rv_X5_behind mm l1 (l3 + (1 : Int32)) h.1) ?_
    have h := h.2
    rintro r_ m_ hz_ ⟨rfl, rfl⟩
    refine g_mmin (pc := 19) dX5_fillUp_19 cw_X5_48 (by decide) (Nat.le_of_ble_eq_true rfl) ?_
    refine g_aload_n (pc := 22) (x := 95) dX5_fillUp_22 rfl ?_
    refine g_getI (pc := 23) dX5_fillUp_23 fo_X5_25 sh_95 rfl ?_
    refine g_iadd (pc := 26) dX5_fillUp_26 ?_
    refine g_istore_n (pc := 27) (L' := [(0, .ref 95), (1, .int l1), (2, .int ((imin l2 (v_X5_behind mm l1 (l3 + (1 : Int32)))) + (mm.1 95 4))), (3, .int l3)]) dX5_fillUp_27 (Nat.le_of_ble_eq_true rfl) rfl ?_
    refine g_aload_n (pc := 28) (x := 95) dX5_fillUp_28 rfl ?_
    refine g_getR (pc := 29) (dd := 2) dX5_fillUp_29 fo_X5_15 sh_95 rfl ?_
    refine g_iload_n (pc := 32) (x := l1) dX5_fillUp_32 rfl ?_
    refine g_bipush (pc := 33) (v := (100 : Int32)) dX5_fillUp_33 (by decide) ?_
    refine g_imul (pc := 35) dX5_fillUp_35 ?_
    refine g_iload_n (pc := 36) (x := l3) dX5_fillUp_36 rfl ?_
    refine g_iadd (pc := 37) dX5_fillUp_37 ?_
    refine g_aload_n (pc := 38) (x := 95) dX5_fillUp_38 rfl ?_
    refine g_getR (pc := 39) (dd := 2) dX5_fillUp_39 fo_X5_15 sh_95 rfl ?_
    refine g_iload_n (pc := 42) (x := l1) dX5_fillUp_42 rfl ?_
    refine g_bipush (pc := 43) (v := (100 : Int32)) dX5_fillUp_43 (by decide) ?_
    refine g_imul (pc := 45) dX5_fillUp_45 ?_
    refine g_iload_n (pc := 46) (x := l3) dX5_fillUp_46 rfl ?_
    refine g_iadd (pc := 47) dX5_fillUp_47 ?_
    refine g_iaload (pc := 48) dX5_fillUp_48 sh_97 h.1 ?_
    have h := h.2
    refine g_iload_n (pc := 49) (x := ((imin l2 (v_X5_behind mm l1 (l3 + (1 : Int32)))) + (mm.1 95 4))) dX5_fillUp_49 rfl ?_
    refine g_aload_n (pc := 50) (x := 95) dX5_fillUp_50 rfl ?_
    refine g_getI (pc := 51) dX5_fillUp_51 fo_X5_31 sh_95 rfl ?_
    refine g_iadd (pc := 54) dX5_fillUp_54 ?_
    refine g_mmin (pc := 55) dX5_fillUp_55 cw_X5_48 (by decide) (Nat.le_of_ble_eq_true rfl) ?_
    refine g_iastore (pc := 58) dX5_fillUp_58 sh_97 h.1 ?_
    have h := h.2
    refine g_iinc (pc := 59) (x := l3) (v := (l3 + (-1 : Int32))) (L' := [(0, .ref 95), (1, .int l1), (2, .int ((imin l2 (v_X5_behind mm l1 (l3 + (1 : Int32)))) + (mm.1 95 4))), (3, .int (l3 + (-1 : Int32)))]) dX5_fillUp_59 rfl rfl (Nat.le_of_ble_eq_true rfl) rfl ?_
    refine g_goto (pc := 62) (tgt := 6) dX5_fillUp_62 (by decide) ?_
    exact h
theorem dX5_fillDown_0 : decode cX5_fillDown 0 = .ok (.ldc 58, 2) := by decide +kernel
theorem dX5_fillDown_2 : decode cX5_fillDown 2 = .ok (.istore_n 2, 1) := by decide +kernel
theorem dX5_fillDown_3 : decode cX5_fillDown 3 = .ok (.iconst 1, 1) := by decide +kernel
theorem dX5_fillDown_4 : decode cX5_fillDown 4 = .ok (.istore_n 3, 1) := by decide +kernel
theorem dX5_fillDown_5 : decode cX5_fillDown 5 = .ok (.iload_n 3, 1) := by decide +kernel
theorem dX5_fillDown_6 : decode cX5_fillDown 6 = .ok (.bipush 99, 2) := by decide +kernel
theorem dX5_fillDown_8 : decode cX5_fillDown 8 = .ok (.if_icmp .gt 58, 3) := by decide +kernel
theorem dX5_fillDown_11 : decode cX5_fillDown 11 = .ok (.iload_n 2, 1) := by decide +kernel
theorem dX5_fillDown_12 : decode cX5_fillDown 12 = .ok (.aload_n 0, 1) := by decide +kernel
theorem dX5_fillDown_13 : decode cX5_fillDown 13 = .ok (.iload_n 1, 1) := by decide +kernel
theorem dX5_fillDown_14 : decode cX5_fillDown 14 = .ok (.iload_n 3, 1) := by decide +kernel
theorem dX5_fillDown_15 : decode cX5_fillDown 15 = .ok (.iconst 1, 1) := by decide +kernel
theorem dX5_fillDown_16 : decode cX5_fillDown 16 = .ok (.isub, 1) := by decide +kernel
theorem dX5_fillDown_17 : decode cX5_fillDown 17 = .ok (.invokevirtual 59, 3) := by decide +kernel
theorem dX5_fillDown_20 : decode cX5_fillDown 20 = .ok (.invokestatic 48, 3) := by decide +kernel
theorem dX5_fillDown_23 : decode cX5_fillDown 23 = .ok (.aload_n 0, 1) := by decide +kernel
theorem dX5_fillDown_24 : decode cX5_fillDown 24 = .ok (.getfield 28, 3) := by decide +kernel
theorem dX5_fillDown_27 : decode cX5_fillDown 27 = .ok (.iadd, 1) := by decide +kernel
theorem dX5_fillDown_28 : decode cX5_fillDown 28 = .ok (.istore_n 2, 1) := by decide +kernel
theorem dX5_fillDown_29 : decode cX5_fillDown 29 = .ok (.aload_n 0, 1) := by decide +kernel
theorem dX5_fillDown_30 : decode cX5_fillDown 30 = .ok (.getfield 15, 3) := by decide +kernel
theorem dX5_fillDown_33 : decode cX5_fillDown 33 = .ok (.iload_n 1, 1) := by decide +kernel
theorem dX5_fillDown_34 : decode cX5_fillDown 34 = .ok (.bipush 100, 2) := by decide +kernel
theorem dX5_fillDown_36 : decode cX5_fillDown 36 = .ok (.imul, 1) := by decide +kernel
theorem dX5_fillDown_37 : decode cX5_fillDown 37 = .ok (.iload_n 3, 1) := by decide +kernel
theorem dX5_fillDown_38 : decode cX5_fillDown 38 = .ok (.iadd, 1) := by decide +kernel
theorem dX5_fillDown_39 : decode cX5_fillDown 39 = .ok (.aload_n 0, 1) := by decide +kernel
theorem dX5_fillDown_40 : decode cX5_fillDown 40 = .ok (.getfield 15, 3) := by decide +kernel
theorem dX5_fillDown_43 : decode cX5_fillDown 43 = .ok (.iload_n 1, 1) := by decide +kernel
theorem dX5_fillDown_44 : decode cX5_fillDown 44 = .ok (.bipush 100, 2) := by decide +kernel
theorem dX5_fillDown_46 : decode cX5_fillDown 46 = .ok (.imul, 1) := by decide +kernel
theorem dX5_fillDown_47 : decode cX5_fillDown 47 = .ok (.iload_n 3, 1) := by decide +kernel
theorem dX5_fillDown_48 : decode cX5_fillDown 48 = .ok (.iadd, 1) := by decide +kernel
theorem dX5_fillDown_49 : decode cX5_fillDown 49 = .ok (.iaload, 1) := by decide +kernel
theorem dX5_fillDown_50 : decode cX5_fillDown 50 = .ok (.iload_n 2, 1) := by decide +kernel
theorem dX5_fillDown_51 : decode cX5_fillDown 51 = .ok (.aload_n 0, 1) := by decide +kernel
theorem dX5_fillDown_52 : decode cX5_fillDown 52 = .ok (.getfield 31, 3) := by decide +kernel
theorem dX5_fillDown_55 : decode cX5_fillDown 55 = .ok (.iadd, 1) := by decide +kernel
theorem dX5_fillDown_56 : decode cX5_fillDown 56 = .ok (.invokestatic 48, 3) := by decide +kernel
theorem dX5_fillDown_59 : decode cX5_fillDown 59 = .ok (.iastore, 1) := by decide +kernel
theorem dX5_fillDown_60 : decode cX5_fillDown 60 = .ok (.iinc 3 1, 3) := by decide +kernel
theorem dX5_fillDown_63 : decode cX5_fillDown 63 = .ok (.goto (-58), 3) := by decide +kernel
theorem dX5_fillDown_66 : decode cX5_fillDown 66 = .ok (.return_, 1) := by decide +kernel
theorem b_X5_fillDown (mm : MM) (Q : Value → MM → Prop) (a1 : Int32) (h : G e_X5_fillDown 5 [(0, .ref 95), (1, .int a1), (2, .int (10000000 : Int32)), (3, .int (1 : Int32))] [] mm Q) : Runs e_X5_fillDown [.ref 95, .int a1] mm Q := by
  refine runs_of_G (L := [(0, .ref 95), (1, .int a1)]) pl_X5 (Nat.le_of_ble_eq_true rfl) rfl ?_
  refine g_ldc (pc := 0) (v := (10000000 : Int32)) dX5_fillDown_0 ct_X5_58 ?_
  refine g_istore_n (pc := 2) (L' := [(0, .ref 95), (1, .int a1), (2, .int (10000000 : Int32))]) dX5_fillDown_2 (Nat.le_of_ble_eq_true rfl) rfl ?_
  refine g_iconst (pc := 3) (v := (1 : Int32)) dX5_fillDown_3 (by decide) ?_
  refine g_istore_n (pc := 4) (L' := [(0, .ref 95), (1, .int a1), (2, .int (10000000 : Int32)), (3, .int (1 : Int32))]) dX5_fillDown_4 (Nat.le_of_ble_eq_true rfl) rfl ?_
  exact h
theorem b_X5_fillDown_5 (mm : MM) (Q : Value → MM → Prop) (l1 : Int32) (l2 : Int32) (l3 : Int32) (h : ((99 : Int32) < l3 → (Q .null mm)) ∧ (¬ (99 : Int32) < l3 → (o_X5_behind mm l1 (l3 - (1 : Int32)) ∧ (vp_in ((l1 * (100 : Int32)) + l3) 1300 ∧ (vp_in ((l1 * (100 : Int32)) + l3) 1300 ∧ (G e_X5_fillDown 5 [(0, .ref 95), (1, .int l1), (2, .int ((imin l2 (v_X5_behind mm l1 (l3 - (1 : Int32)))) + (mm.1 95 5))), (3, .int (l3 + (1 : Int32)))] [] (wI mm 97 (((l1 * (100 : Int32)) + l3).toNatClampNeg) (imin (mm.1 97 ((l1 * (100 : Int32)) + l3).toNatClampNeg) (((imin l2 (v_X5_behind mm l1 (l3 - (1 : Int32)))) + (mm.1 95 5)) + (mm.1 95 6)))) Q)))))) : G e_X5_fillDown 5 [(0, .ref 95), (1, .int l1), (2, .int l2), (3, .int l3)] [] mm Q := by
  refine g_iload_n (pc := 5) (x := l3) dX5_fillDown_5 rfl ?_
  refine g_bipush (pc := 6) (v := (99 : Int32)) dX5_fillDown_6 (by decide) ?_
  refine g_icmp_gt (pc := 8) (tgt := 66) dX5_fillDown_8 (by decide) (fun c8 => ?_) (fun c8 => ?_)
  · have h := h.1 c8
    exact g_vret (pc := 66) dX5_fillDown_66 rfl rfl h
  · have h := h.2 c8
    refine g_iload_n (pc := 11) (x := l2) dX5_fillDown_11 rfl ?_
    refine g_aload_n (pc := 12) (x := 95) dX5_fillDown_12 rfl ?_
    refine g_iload_n (pc := 13) (x := l1) dX5_fillDown_13 rfl ?_
    refine g_iload_n (pc := 14) (x := l3) dX5_fillDown_14 rfl ?_
    refine g_iconst (pc := 15) (v := (1 : Int32)) dX5_fillDown_15 (by decide) ?_
    refine g_isub (pc := 16) dX5_fillDown_16 ?_
    refine g_callV (pc := 17) (as := [.int l1, .int (l3 - (1 : Int32))]) dX5_fillDown_17 cw_X5_59 (by decide) rfl rfl sh_95 (Nat.le_of_ble_eq_true rfl) (rv_X5_behind mm l1 (l3 - (1 : Int32)) h.1) ?_
    have h := h.2
    rintro r_ m_ hz_ ⟨rfl, rfl⟩
    refine g_mmin (pc := 20) dX5_fillDown_20 cw_X5_48 (by decide) (Nat.le_of_ble_eq_true rfl) ?_
    refine g_aload_n (pc := 23) (x := 95) dX5_fillDown_23 rfl ?_
    refine g_getI (pc := 24) dX5_fillDown_24 fo_X5_28 sh_95 rfl ?_
    refine g_iadd (pc := 27) dX5_fillDown_27 ?_
    refine g_istore_n (pc := 28) (L' := [(0, .ref 95), (1, .int l1), (2, .int ((imin l2 (v_X5_behind mm l1 (l3 - (1 : Int32)))) + (mm.1 95 5))), (3, .int l3)]) dX5_fillDown_28 (Nat.le_of_ble_eq_true rfl) rfl ?_
    refine g_aload_n (pc := 29) (x := 95) dX5_fillDown_29 rfl ?_
    refine g_getR (pc := 30) (dd := 2) dX5_fillDown_30 fo_X5_15 sh_95 rfl ?_
    refine g_iload_n (pc := 33) (x := l1) dX5_fillDown_33 rfl ?_
    refine g_bipush (pc := 34) (v := (100 : Int32)) dX5_fillDown_34 (by decide) ?_
    refine g_imul (pc := 36) dX5_fillDown_36 ?_
    refine g_iload_n (pc := 37) (x := l3) dX5_fillDown_37 rfl ?_
    refine g_iadd (pc := 38) dX5_fillDown_38 ?_
    refine g_aload_n (pc := 39) (x := 95) dX5_fillDown_39 rfl ?_
    refine g_getR (pc := 40) (dd := 2) dX5_fillDown_40 fo_X5_15 sh_95 rfl ?_
    refine g_iload_n (pc := 43) (x := l1) dX5_fillDown_43 rfl ?_
    refine g_bipush (pc := 44) (v := (100 : Int32)) dX5_fillDown_44 (by decide) ?_
    refine g_imul (pc := 46) dX5_fillDown_46 ?_
    refine g_iload_n (pc := 47) (x := l3) dX5_fillDown_47 rfl ?_
    refine g_iadd (pc := 48) dX5_fillDown_48 ?_
    refine g_iaload (pc := 49) dX5_fillDown_49 sh_97 h.1 ?_
    have h := h.2
    refine g_iload_n (pc := 50) (x := ((imin l2 (v_X5_behind mm l1 (l3 - (1 : Int32)))) + (mm.1 95 5))) dX5_fillDown_50 rfl ?_
    refine g_aload_n (pc := 51) (x := 95) dX5_fillDown_51 rfl ?_
    refine g_getI (pc := 52) dX5_fillDown_52 fo_X5_31 sh_95 rfl ?_
    refine g_iadd (pc := 55) dX5_fillDown_55 ?_
    refine g_mmin (pc := 56) dX5_fillDown_56 cw_X5_48 (by decide) (Nat.le_of_ble_eq_true rfl) ?_
    refine g_iastore (pc := 59) dX5_fillDown_59 sh_97 h.1 ?_
    have h := h.2
    refine g_iinc (pc := 60) (x := l3) (v := (l3 + (1 : Int32))) (L' := [(0, .ref 95), (1, .int l1), (2, .int ((imin l2 (v_X5_behind mm l1 (l3 - (1 : Int32)))) + (mm.1 95 5))), (3, .int (l3 + (1 : Int32)))]) dX5_fillDown_60 rfl rfl (Nat.le_of_ble_eq_true rfl) rfl ?_
    refine g_goto (pc := 63) (tgt := 5) dX5_fillDown_63 (by decide) ?_
    exact h
theorem dX5_heightIn_0 : decode cX5_heightIn 0 = .ok (.iload_n 1, 1) := by decide +kernel
theorem dX5_heightIn_1 : decode cX5_heightIn 1 = .ok (.istore_n 3, 1) := by decide +kernel
theorem dX5_heightIn_2 : decode cX5_heightIn 2 = .ok (.iconst 0, 1) := by decide +kernel
theorem dX5_heightIn_3 : decode cX5_heightIn 3 = .ok (.istore 4, 2) := by decide +kernel
theorem dX5_heightIn_5 : decode cX5_heightIn 5 = .ok (.iload 4, 2) := by decide +kernel
theorem dX5_heightIn_7 : decode cX5_heightIn 7 = .ok (.iload_n 2, 1) := by decide +kernel
theorem dX5_heightIn_8 : decode cX5_heightIn 8 = .ok (.if_icmp .gt 26, 3) := by decide +kernel
theorem dX5_heightIn_11 : decode cX5_heightIn 11 = .ok (.iload 4, 2) := by decide +kernel
theorem dX5_heightIn_13 : decode cX5_heightIn 13 = .ok (.aload_n 0, 1) := by decide +kernel
theorem dX5_heightIn_14 : decode cX5_heightIn 14 = .ok (.getfield 18, 3) := by decide +kernel
theorem dX5_heightIn_17 : decode cX5_heightIn 17 = .ok (.if_icmp .ge 17, 3) := by decide +kernel
theorem dX5_heightIn_20 : decode cX5_heightIn 20 = .ok (.aload_n 0, 1) := by decide +kernel
theorem dX5_heightIn_21 : decode cX5_heightIn 21 = .ok (.iload 4, 2) := by decide +kernel
theorem dX5_heightIn_23 : decode cX5_heightIn 23 = .ok (.iload_n 3, 1) := by decide +kernel
theorem dX5_heightIn_24 : decode cX5_heightIn 24 = .ok (.invokevirtual 62, 3) := by decide +kernel
theorem dX5_heightIn_27 : decode cX5_heightIn 27 = .ok (.istore_n 3, 1) := by decide +kernel
theorem dX5_heightIn_28 : decode cX5_heightIn 28 = .ok (.iinc 4 1, 3) := by decide +kernel
theorem dX5_heightIn_31 : decode cX5_heightIn 31 = .ok (.goto (-26), 3) := by decide +kernel
theorem dX5_heightIn_34 : decode cX5_heightIn 34 = .ok (.iload_n 3, 1) := by decide +kernel
theorem dX5_heightIn_35 : decode cX5_heightIn 35 = .ok (.ireturn, 1) := by decide +kernel
theorem b_X5_heightIn (mm : MM) (Q : Value → MM → Prop) (a1 : Int32) (a2 : Int32) (h : G e_X5_heightIn 5 [(0, .ref 95), (2, .int a2), (3, .int a1), (4, .int (0 : Int32))] [] mm Q) : Runs e_X5_heightIn [.ref 95, .int a1, .int a2] mm Q := by
  refine runs_of_G (L := [(0, .ref 95), (1, .int a1), (2, .int a2)]) pl_X5 (Nat.le_of_ble_eq_true rfl) rfl ?_
  refine g_iload_n (pc := 0) (x := a1) dX5_heightIn_0 rfl ?_
  refine g_istore_n (pc := 1) (L' := [(0, .ref 95), (1, .int a1), (2, .int a2), (3, .int a1)]) dX5_heightIn_1 (Nat.le_of_ble_eq_true rfl) rfl ?_
  refine g_iconst (pc := 2) (v := (0 : Int32)) dX5_heightIn_2 (by decide) ?_
  refine g_istore (pc := 3) (L' := [(0, .ref 95), (1, .int a1), (2, .int a2), (3, .int a1), (4, .int (0 : Int32))]) dX5_heightIn_3 (Nat.le_of_ble_eq_true rfl) rfl ?_
  refine g_sub (L' := [(0, .ref 95), (2, .int a2), (3, .int a1), (4, .int (0 : Int32))]) [0, 2, 3, 4] rfl ?_
  exact h
theorem b_X5_heightIn_5 (mm : MM) (Q : Value → MM → Prop) (l2 : Int32) (l3 : Int32) (l4 : Int32) (h : (l2 < l4 → (Q (.int l3) mm)) ∧ (¬ l2 < l4 → (((mm.1 95 2) ≤ l4 → (Q (.int l3) mm)) ∧ (¬ (mm.1 95 2) ≤ l4 → (∃ Pm1 : Value → MM → Prop, Runs e_X5_nextHeight [.ref 95, .int l4, .int l3] mm Pm1 ∧ ∀ (r1 : Int32) (m1 : MM), Pm1 (.int r1) m1 → (G e_X5_heightIn 5 [(0, .ref 95), (2, .int l2), (3, .int r1), (4, .int (l4 + (1 : Int32)))] [] m1 Q)))))) : G e_X5_heightIn 5 [(0, .ref 95), (2, .int l2), (3, .int l3), (4, .int l4)] [] mm Q := by
  refine g_iload (pc := 5) (x := l4) dX5_heightIn_5 rfl ?_
  refine g_iload_n (pc := 7) (x := l2) dX5_heightIn_7 rfl ?_
  refine g_icmp_gt (pc := 8) (tgt := 34) dX5_heightIn_8 (by decide) (fun c8 => ?_) (fun c8 => ?_)
  · have h := h.1 c8
    refine g_iload_n (pc := 34) (x := l3) dX5_heightIn_34 rfl ?_
    exact g_iret (pc := 35) dX5_heightIn_35 rfl rfl rfl h
  · have h := h.2 c8
    refine g_iload (pc := 11) (x := l4) dX5_heightIn_11 rfl ?_
    refine g_aload_n (pc := 13) (x := 95) dX5_heightIn_13 rfl ?_
    refine g_getI (pc := 14) dX5_heightIn_14 fo_X5_18 sh_95 rfl ?_
    refine g_icmp_ge (pc := 17) (tgt := 34) dX5_heightIn_17 (by decide) (fun c17 => ?_) (fun c17 => ?_)
    · have h := h.1 c17
      refine g_iload_n (pc := 34) (x := l3) dX5_heightIn_34 rfl ?_
      exact g_iret (pc := 35) dX5_heightIn_35 rfl rfl rfl h
    · have h := h.2 c17
      refine g_aload_n (pc := 20) (x := 95) dX5_heightIn_20 rfl ?_
      refine g_iload (pc := 21) (x := l4) dX5_heightIn_21 rfl ?_
      refine g_iload_n (pc := 23) (x := l3) dX5_heightIn_23 rfl ?_
      obtain ⟨Pm1, hRm1, h⟩ := h
      refine g_callV (pc := 24) (as := [.int l4, .int l3]) dX5_heightIn_24 cw_X5_62 (by decide) rfl rfl sh_95 (Nat.le_of_ble_eq_true rfl) hRm1 ?_
      intro r_ m1 hz_ hp_
      obtain ⟨r1, rfl⟩ := hz_
      have h := h r1 m1 hp_
      refine g_istore_n (pc := 27) (L' := [(0, .ref 95), (2, .int l2), (3, .int r1), (4, .int l4)]) dX5_heightIn_27 (Nat.le_of_ble_eq_true rfl) rfl ?_
      refine g_iinc (pc := 28) (x := l4) (v := (l4 + (1 : Int32))) (L' := [(0, .ref 95), (2, .int l2), (3, .int r1), (4, .int (l4 + (1 : Int32)))]) dX5_heightIn_28 rfl rfl (Nat.le_of_ble_eq_true rfl) rfl ?_
      refine g_goto (pc := 31) (tgt := 5) dX5_heightIn_31 (by decide) ?_
      exact h
theorem dX5_nextHeight_0 : decode cX5_nextHeight 0 = .ok (.aload_n 0, 1) := by decide +kernel
theorem dX5_nextHeight_1 : decode cX5_nextHeight 1 = .ok (.getfield 9, 3) := by decide +kernel
theorem dX5_nextHeight_4 : decode cX5_nextHeight 4 = .ok (.iload_n 1, 1) := by decide +kernel
theorem dX5_nextHeight_5 : decode cX5_nextHeight 5 = .ok (.iaload, 1) := by decide +kernel
theorem dX5_nextHeight_6 : decode cX5_nextHeight 6 = .ok (.istore_n 3, 1) := by decide +kernel
theorem dX5_nextHeight_7 : decode cX5_nextHeight 7 = .ok (.iload_n 3, 1) := by decide +kernel
theorem dX5_nextHeight_8 : decode cX5_nextHeight 8 = .ok (.bipush 99, 2) := by decide +kernel
theorem dX5_nextHeight_10 : decode cX5_nextHeight 10 = .ok (.if_icmp .gt 47, 3) := by decide +kernel
theorem dX5_nextHeight_13 : decode cX5_nextHeight 13 = .ok (.aload_n 0, 1) := by decide +kernel
theorem dX5_nextHeight_14 : decode cX5_nextHeight 14 = .ok (.iload_n 1, 1) := by decide +kernel
theorem dX5_nextHeight_15 : decode cX5_nextHeight 15 = .ok (.iload_n 3, 1) := by decide +kernel
theorem dX5_nextHeight_16 : decode cX5_nextHeight 16 = .ok (.invokevirtual 54, 3) := by decide +kernel
theorem dX5_nextHeight_19 : decode cX5_nextHeight 19 = .ok (.ifCond .eq 32, 3) := by decide +kernel
theorem dX5_nextHeight_22 : decode cX5_nextHeight 22 = .ok (.aload_n 0, 1) := by decide +kernel
theorem dX5_nextHeight_23 : decode cX5_nextHeight 23 = .ok (.iload_n 2, 1) := by decide +kernel
theorem dX5_nextHeight_24 : decode cX5_nextHeight 24 = .ok (.iload_n 3, 1) := by decide +kernel
theorem dX5_nextHeight_25 : decode cX5_nextHeight 25 = .ok (.invokevirtual 65, 3) := by decide +kernel
theorem dX5_nextHeight_28 : decode cX5_nextHeight 28 = .ok (.aload_n 0, 1) := by decide +kernel
theorem dX5_nextHeight_29 : decode cX5_nextHeight 29 = .ok (.iload_n 1, 1) := by decide +kernel
theorem dX5_nextHeight_30 : decode cX5_nextHeight 30 = .ok (.iload_n 3, 1) := by decide +kernel
theorem dX5_nextHeight_31 : decode cX5_nextHeight 31 = .ok (.invokevirtual 59, 3) := by decide +kernel
theorem dX5_nextHeight_34 : decode cX5_nextHeight 34 = .ok (.iadd, 1) := by decide +kernel
theorem dX5_nextHeight_35 : decode cX5_nextHeight 35 = .ok (.aload_n 0, 1) := by decide +kernel
theorem dX5_nextHeight_36 : decode cX5_nextHeight 36 = .ok (.getfield 15, 3) := by decide +kernel
theorem dX5_nextHeight_39 : decode cX5_nextHeight 39 = .ok (.iload_n 1, 1) := by decide +kernel
theorem dX5_nextHeight_40 : decode cX5_nextHeight 40 = .ok (.bipush 100, 2) := by decide +kernel
theorem dX5_nextHeight_42 : decode cX5_nextHeight 42 = .ok (.imul, 1) := by decide +kernel
theorem dX5_nextHeight_43 : decode cX5_nextHeight 43 = .ok (.iload_n 2, 1) := by decide +kernel
theorem dX5_nextHeight_44 : decode cX5_nextHeight 44 = .ok (.iadd, 1) := by decide +kernel
theorem dX5_nextHeight_45 : decode cX5_nextHeight 45 = .ok (.iaload, 1) := by decide +kernel
theorem dX5_nextHeight_46 : decode cX5_nextHeight 46 = .ok (.if_icmp .ne 5, 3) := by decide +kernel
theorem dX5_nextHeight_49 : decode cX5_nextHeight 49 = .ok (.iload_n 3, 1) := by decide +kernel
theorem dX5_nextHeight_50 : decode cX5_nextHeight 50 = .ok (.ireturn, 1) := by decide +kernel
theorem dX5_nextHeight_51 : decode cX5_nextHeight 51 = .ok (.iinc 3 1, 3) := by decide +kernel
theorem dX5_nextHeight_54 : decode cX5_nextHeight 54 = .ok (.goto (-47), 3) := by decide +kernel
theorem dX5_nextHeight_57 : decode cX5_nextHeight 57 = .ok (.iload_n 2, 1) := by decide +kernel
theorem dX5_nextHeight_58 : decode cX5_nextHeight 58 = .ok (.ireturn, 1) := by decide +kernel
theorem b_X5_nextHeight (mm : MM) (Q : Value → MM → Prop) (a1 : Int32) (a2 : Int32) (h : vp_in a1 12 ∧ (G e_X5_nextHeight 7 [(0, .ref 95), (1, .int a1), (2, .int a2), (3, .int (mm.1 96 a1.toNatClampNeg))] [] mm Q)) : Runs e_X5_nextHeight [.ref 95, .int a1, .int a2] mm Q := by
  refine runs_of_G (L := [(0, .ref 95), (1, .int a1), (2, .int a2)]) pl_X5 (Nat.le_of_ble_eq_true rfl) rfl ?_
  refine g_aload_n (pc := 0) (x := 95) dX5_nextHeight_0 rfl ?_
  refine g_getR (pc := 1) (dd := 1) dX5_nextHeight_1 fo_X5_9 sh_95 rfl ?_
  refine g_iload_n (pc := 4) (x := a1) dX5_nextHeight_4 rfl ?_
  refine g_iaload (pc := 5) dX5_nextHeight_5 sh_96 h.1 ?_
  have h := h.2
  refine g_istore_n (pc := 6) (L' := [(0, .ref 95), (1, .int a1), (2, .int a2), (3, .int (mm.1 96 a1.toNatClampNeg))]) dX5_nextHeight_6 (Nat.le_of_ble_eq_true rfl) rfl ?_
  exact h
theorem dX5_stepCost_0 : decode cX5_stepCost 0 = .ok (.iload_n 2, 1) := by decide +kernel
theorem dX5_stepCost_1 : decode cX5_stepCost 1 = .ok (.iload_n 1, 1) := by decide +kernel
theorem dX5_stepCost_2 : decode cX5_stepCost 2 = .ok (.if_icmp .ne 5, 3) := by decide +kernel
theorem dX5_stepCost_5 : decode cX5_stepCost 5 = .ok (.iconst 0, 1) := by decide +kernel
theorem dX5_stepCost_6 : decode cX5_stepCost 6 = .ok (.ireturn, 1) := by decide +kernel
theorem dX5_stepCost_7 : decode cX5_stepCost 7 = .ok (.aload_n 0, 1) := by decide +kernel
theorem dX5_stepCost_8 : decode cX5_stepCost 8 = .ok (.getfield 31, 3) := by decide +kernel
theorem dX5_stepCost_11 : decode cX5_stepCost 11 = .ok (.iload_n 2, 1) := by decide +kernel
theorem dX5_stepCost_12 : decode cX5_stepCost 12 = .ok (.iload_n 1, 1) := by decide +kernel
theorem dX5_stepCost_13 : decode cX5_stepCost 13 = .ok (.if_icmp .le 14, 3) := by decide +kernel
theorem dX5_stepCost_16 : decode cX5_stepCost 16 = .ok (.aload_n 0, 1) := by decide +kernel
theorem dX5_stepCost_17 : decode cX5_stepCost 17 = .ok (.getfield 25, 3) := by decide +kernel
theorem dX5_stepCost_20 : decode cX5_stepCost 20 = .ok (.iload_n 2, 1) := by decide +kernel
theorem dX5_stepCost_21 : decode cX5_stepCost 21 = .ok (.iload_n 1, 1) := by decide +kernel
theorem dX5_stepCost_22 : decode cX5_stepCost 22 = .ok (.isub, 1) := by decide +kernel
theorem dX5_stepCost_23 : decode cX5_stepCost 23 = .ok (.imul, 1) := by decide +kernel
theorem dX5_stepCost_24 : decode cX5_stepCost 24 = .ok (.goto 11, 3) := by decide +kernel
theorem dX5_stepCost_27 : decode cX5_stepCost 27 = .ok (.aload_n 0, 1) := by decide +kernel
theorem dX5_stepCost_28 : decode cX5_stepCost 28 = .ok (.getfield 28, 3) := by decide +kernel
theorem dX5_stepCost_31 : decode cX5_stepCost 31 = .ok (.iload_n 1, 1) := by decide +kernel
theorem dX5_stepCost_32 : decode cX5_stepCost 32 = .ok (.iload_n 2, 1) := by decide +kernel
theorem dX5_stepCost_33 : decode cX5_stepCost 33 = .ok (.isub, 1) := by decide +kernel
theorem dX5_stepCost_34 : decode cX5_stepCost 34 = .ok (.imul, 1) := by decide +kernel
theorem dX5_stepCost_35 : decode cX5_stepCost 35 = .ok (.iadd, 1) := by decide +kernel
theorem dX5_stepCost_36 : decode cX5_stepCost 36 = .ok (.ireturn, 1) := by decide +kernel
noncomputable def v_X5_stepCost (mm : MM) (a1 : Int32) (a2 : Int32) : Int32 := (cite (a2 = a1) (0 : Int32) (cite (a2 ≤ a1) ((mm.1 95 6) + ((mm.1 95 5) * (a1 - a2))) ((mm.1 95 6) + ((mm.1 95 4) * (a2 - a1)))))
theorem rv_X5_stepCost (mm : MM) (a1 : Int32) (a2 : Int32) : Runs e_X5_stepCost [.ref 95, .int a1, .int a2] mm (fun r m_ => r = .int (v_X5_stepCost mm a1 a2) ∧ mm = m_) := by
  refine runs_of_G (L := [(0, .ref 95), (1, .int a1), (2, .int a2)]) pl_X5 (Nat.le_of_ble_eq_true rfl) rfl ?_
  refine g_iload_n (pc := 0) (x := a2) dX5_stepCost_0 rfl ?_
  refine g_iload_n (pc := 1) (x := a1) dX5_stepCost_1 rfl ?_
  refine g_icmp_ne (pc := 2) (tgt := 7) dX5_stepCost_2 (by decide) (fun c2 => ?_) (fun c2 => ?_)
  · have c2_0 : ¬ a2 = a1 := c2
    refine g_aload_n (pc := 7) (x := 95) dX5_stepCost_7 rfl ?_
    refine g_getI (pc := 8) dX5_stepCost_8 fo_X5_31 sh_95 rfl ?_
    refine g_iload_n (pc := 11) (x := a2) dX5_stepCost_11 rfl ?_
    refine g_iload_n (pc := 12) (x := a1) dX5_stepCost_12 rfl ?_
    refine g_icmp_le (pc := 13) (tgt := 27) dX5_stepCost_13 (by decide) (fun c13 => ?_) (fun c13 => ?_)
    · have c13_1 : a2 ≤ a1 := c13
      refine g_aload_n (pc := 27) (x := 95) dX5_stepCost_27 rfl ?_
      refine g_getI (pc := 28) dX5_stepCost_28 fo_X5_28 sh_95 rfl ?_
      refine g_iload_n (pc := 31) (x := a1) dX5_stepCost_31 rfl ?_
      refine g_iload_n (pc := 32) (x := a2) dX5_stepCost_32 rfl ?_
      refine g_isub (pc := 33) dX5_stepCost_33 ?_
      refine g_imul (pc := 34) dX5_stepCost_34 ?_
      refine g_iadd (pc := 35) dX5_stepCost_35 ?_
      exact g_iret (pc := 36) dX5_stepCost_36 rfl rfl rfl ⟨(by unfold v_X5_stepCost; rw [cite_neg c2_0, cite_pos c13_1] <;> rfl), rfl⟩
    · have c13_1 : ¬ a2 ≤ a1 := c13
      refine g_aload_n (pc := 16) (x := 95) dX5_stepCost_16 rfl ?_
      refine g_getI (pc := 17) dX5_stepCost_17 fo_X5_25 sh_95 rfl ?_
      refine g_iload_n (pc := 20) (x := a2) dX5_stepCost_20 rfl ?_
      refine g_iload_n (pc := 21) (x := a1) dX5_stepCost_21 rfl ?_
      refine g_isub (pc := 22) dX5_stepCost_22 ?_
      refine g_imul (pc := 23) dX5_stepCost_23 ?_
      refine g_goto (pc := 24) (tgt := 35) dX5_stepCost_24 (by decide) ?_
      refine g_iadd (pc := 35) dX5_stepCost_35 ?_
      exact g_iret (pc := 36) dX5_stepCost_36 rfl rfl rfl ⟨(by unfold v_X5_stepCost; rw [cite_neg c2_0, cite_neg c13_1] <;> rfl), rfl⟩
  · have c2_0 : a2 = a1 := c2
    refine g_iconst (pc := 5) (v := (0 : Int32)) dX5_stepCost_5 (by decide) ?_
    exact g_iret (pc := 6) dX5_stepCost_6 rfl rfl rfl ⟨(by unfold v_X5_stepCost; rw [cite_pos c2_0] <;> rfl), rfl⟩
theorem b_X5_nextHeight_7 (mm : MM) (Q : Value → MM → Prop) (l1 : Int32) (l2 : Int32) (l3 : Int32) (h : ((99 : Int32) < l3 → (Q (.int l2) mm)) ∧ (¬ (99 : Int32) < l3 → (o_X5_canBe mm l1 l3 ∧ ((p_X5_canBe mm l1 l3 → (o_X5_behind mm l1 l3 ∧ (vp_in ((l1 * (100 : Int32)) + l2) 1300 ∧ ((¬ ((v_X5_stepCost mm l2 l3) + (v_X5_behind mm l1 l3)) = (mm.1 97 ((l1 * (100 : Int32)) + l2).toNatClampNeg) → (G e_X5_nextHeight 7 [(0, .ref 95), (1, .int l1), (2, .int l2), (3, .int (l3 + (1 : Int32)))] [] mm Q)) ∧ (((v_X5_stepCost mm l2 l3) + (v_X5_behind mm l1 l3)) = (mm.1 97 ((l1 * (100 : Int32)) + l2).toNatClampNeg) → (Q (.int l3) mm)))))) ∧ (¬ p_X5_canBe mm l1 l3 → (G e_X5_nextHeight 7 [(0, .ref 95), (1, .int l1), (2, .int l2), (3, .int (l3 + (1 : Int32)))] [] mm Q)))))) : G e_X5_nextHeight 7 [(0, .ref 95), (1, .int l1), (2, .int l2), (3, .int l3)] [] mm Q := by
  refine g_iload_n (pc := 7) (x := l3) dX5_nextHeight_7 rfl ?_
  refine g_bipush (pc := 8) (v := (99 : Int32)) dX5_nextHeight_8 (by decide) ?_
  refine g_icmp_gt (pc := 10) (tgt := 57) dX5_nextHeight_10 (by decide) (fun c10 => ?_) (fun c10 => ?_)
  · have h := h.1 c10
    refine g_iload_n (pc := 57) (x := l2) dX5_nextHeight_57 rfl ?_
    exact g_iret (pc := 58) dX5_nextHeight_58 rfl rfl rfl h
  · have h := h.2 c10
    refine g_aload_n (pc := 13) (x := 95) dX5_nextHeight_13 rfl ?_
    refine g_iload_n (pc := 14) (x := l1) dX5_nextHeight_14 rfl ?_
    refine g_iload_n (pc := 15) (x := l3) dX5_nextHeight_15 rfl ?_
    refine g_callV (pc := 16) (as := [.int l1, .int l3]) dX5_nextHeight_16 cw_X5_54 (by decide) rfl rfl sh_95 (Nat.le_of_ble_eq_true rfl) (rv_X5_canBe mm l1 l3 h.1) ?_
    have h := h.2
    rintro r_ m_ hz_ ⟨⟨p_, rfl⟩ | ⟨p_, rfl⟩, rfl⟩
    · have h := h.1 p_
      refine g_if_eq (pc := 19) (tgt := 51) dX5_nextHeight_19 (by decide) (fun c19 => absurd c19 (by decide)) (fun _ => ?_)
      refine g_aload_n (pc := 22) (x := 95) dX5_nextHeight_22 rfl ?_
      refine g_iload_n (pc := 23) (x := l2) dX5_nextHeight_23 rfl ?_
      refine g_iload_n (pc := 24) (x := l3) dX5_nextHeight_24 rfl ?_
      refine g_callV (pc := 25) (as := [.int l2, .int l3]) dX5_nextHeight_25 cw_X5_65 (by decide) rfl rfl sh_95 (Nat.le_of_ble_eq_true rfl) (rv_X5_stepCost mm l2 l3) ?_
      rintro r_ m_ hz_ ⟨rfl, rfl⟩
      refine g_aload_n (pc := 28) (x := 95) dX5_nextHeight_28 rfl ?_
      refine g_iload_n (pc := 29) (x := l1) dX5_nextHeight_29 rfl ?_
      refine g_iload_n (pc := 30) (x := l3) dX5_nextHeight_30 rfl ?_
      refine g_callV (pc := 31) (as := [.int l1, .int l3]) dX5_nextHeight_31 cw_X5_59 (by decide) rfl rfl sh_95 (Nat.le_of_ble_eq_true rfl) (rv_X5_behind mm l1 l3 h.1) ?_
      have h := h.2
      rintro r_ m_ hz_ ⟨rfl, rfl⟩
      refine g_iadd (pc := 34) dX5_nextHeight_34 ?_
      refine g_aload_n (pc := 35) (x := 95) dX5_nextHeight_35 rfl ?_
      refine g_getR (pc := 36) (dd := 2) dX5_nextHeight_36 fo_X5_15 sh_95 rfl ?_
      refine g_iload_n (pc := 39) (x := l1) dX5_nextHeight_39 rfl ?_
      refine g_bipush (pc := 40) (v := (100 : Int32)) dX5_nextHeight_40 (by decide) ?_
      refine g_imul (pc := 42) dX5_nextHeight_42 ?_
      refine g_iload_n (pc := 43) (x := l2) dX5_nextHeight_43 rfl ?_
      refine g_iadd (pc := 44) dX5_nextHeight_44 ?_
      refine g_iaload (pc := 45) dX5_nextHeight_45 sh_97 h.1 ?_
      have h := h.2
      refine g_icmp_ne (pc := 46) (tgt := 51) dX5_nextHeight_46 (by decide) (fun c46 => ?_) (fun c46 => ?_)
      · have h := h.1 c46
        refine g_iinc (pc := 51) (x := l3) (v := (l3 + (1 : Int32))) (L' := [(0, .ref 95), (1, .int l1), (2, .int l2), (3, .int (l3 + (1 : Int32)))]) dX5_nextHeight_51 rfl rfl (Nat.le_of_ble_eq_true rfl) rfl ?_
        refine g_goto (pc := 54) (tgt := 7) dX5_nextHeight_54 (by decide) ?_
        exact h
      · have h := h.2 c46
        refine g_iload_n (pc := 49) (x := l3) dX5_nextHeight_49 rfl ?_
        exact g_iret (pc := 50) dX5_nextHeight_50 rfl rfl rfl h
    · have h := h.2 p_
      refine g_if_eq (pc := 19) (tgt := 51) dX5_nextHeight_19 (by decide) (fun _ => ?_) (fun c19 => absurd c19 (by decide))
      refine g_iinc (pc := 51) (x := l3) (v := (l3 + (1 : Int32))) (L' := [(0, .ref 95), (1, .int l1), (2, .int l2), (3, .int (l3 + (1 : Int32)))]) dX5_nextHeight_51 rfl rfl (Nat.le_of_ble_eq_true rfl) rfl ?_
      refine g_goto (pc := 54) (tgt := 7) dX5_nextHeight_54 (by decide) ?_
      exact h
theorem dX6_empty_0 : decode cX6_empty 0 = .ok (.iconst 0, 1) := by decide +kernel
theorem dX6_empty_1 : decode cX6_empty 1 = .ok (.istore_n 1, 1) := by decide +kernel
theorem dX6_empty_2 : decode cX6_empty 2 = .ok (.iload_n 1, 1) := by decide +kernel
theorem dX6_empty_3 : decode cX6_empty 3 = .ok (.bipush 16, 2) := by decide +kernel
theorem dX6_empty_5 : decode cX6_empty 5 = .ok (.if_icmp .ge 23, 3) := by decide +kernel
theorem dX6_empty_8 : decode cX6_empty 8 = .ok (.aload_n 0, 1) := by decide +kernel
theorem dX6_empty_9 : decode cX6_empty 9 = .ok (.getfield 9, 3) := by decide +kernel
theorem dX6_empty_12 : decode cX6_empty 12 = .ok (.iload_n 1, 1) := by decide +kernel
theorem dX6_empty_13 : decode cX6_empty 13 = .ok (.iconst 0, 1) := by decide +kernel
theorem dX6_empty_14 : decode cX6_empty 14 = .ok (.iastore, 1) := by decide +kernel
theorem dX6_empty_15 : decode cX6_empty 15 = .ok (.aload_n 0, 1) := by decide +kernel
theorem dX6_empty_16 : decode cX6_empty 16 = .ok (.getfield 15, 3) := by decide +kernel
theorem dX6_empty_19 : decode cX6_empty 19 = .ok (.iload_n 1, 1) := by decide +kernel
theorem dX6_empty_20 : decode cX6_empty 20 = .ok (.iconst (-1), 1) := by decide +kernel
theorem dX6_empty_21 : decode cX6_empty 21 = .ok (.iastore, 1) := by decide +kernel
theorem dX6_empty_22 : decode cX6_empty 22 = .ok (.iinc 1 1, 3) := by decide +kernel
theorem dX6_empty_25 : decode cX6_empty 25 = .ok (.goto (-23), 3) := by decide +kernel
theorem dX6_empty_28 : decode cX6_empty 28 = .ok (.aload_n 0, 1) := by decide +kernel
theorem dX6_empty_29 : decode cX6_empty 29 = .ok (.iconst 0, 1) := by decide +kernel
theorem dX6_empty_30 : decode cX6_empty 30 = .ok (.putfield 37, 3) := by decide +kernel
theorem dX6_empty_33 : decode cX6_empty 33 = .ok (.aload_n 0, 1) := by decide +kernel
theorem dX6_empty_34 : decode cX6_empty 34 = .ok (.iconst 0, 1) := by decide +kernel
theorem dX6_empty_35 : decode cX6_empty 35 = .ok (.putfield 41, 3) := by decide +kernel
theorem dX6_empty_38 : decode cX6_empty 38 = .ok (.aload_n 0, 1) := by decide +kernel
theorem dX6_empty_39 : decode cX6_empty 39 = .ok (.getfield 33, 3) := by decide +kernel
theorem dX6_empty_42 : decode cX6_empty 42 = .ok (.iconst 0, 1) := by decide +kernel
theorem dX6_empty_43 : decode cX6_empty 43 = .ok (.putfield 44, 3) := by decide +kernel
theorem dX6_empty_46 : decode cX6_empty 46 = .ok (.return_, 1) := by decide +kernel
theorem b_X6_empty (mm : MM) (Q : Value → MM → Prop) (t0 : Nat) (h0 : AtState t0) (h : G e_X6_empty 2 [(0, .ref t0), (1, .int (0 : Int32))] [] mm Q) : Runs e_X6_empty [.ref t0] mm Q := by
  refine runs_of_G (L := [(0, .ref t0)]) pl_X6 (Nat.le_of_ble_eq_true rfl) rfl ?_
  refine g_iconst (pc := 0) (v := (0 : Int32)) dX6_empty_0 (by decide) ?_
  refine g_istore_n (pc := 1) (L' := [(0, .ref t0), (1, .int (0 : Int32))]) dX6_empty_1 (Nat.le_of_ble_eq_true rfl) rfl ?_
  exact h
theorem b_X6_empty_2 (mm : MM) (Q : Value → MM → Prop) (l0 : Nat) (l1 : Int32) (k0 : AtState l0) (h : ((16 : Int32) ≤ l1 → (Q .null (wI (wI (wI mm l0 7 (0 : Int32)) l0 8 (0 : Int32)) (l0 + 7) 6 (0 : Int32)))) ∧ (¬ (16 : Int32) ≤ l1 → (vp_in l1 16 ∧ (vp_in l1 16 ∧ (G e_X6_empty 2 [(0, .ref l0), (1, .int (l1 + (1 : Int32)))] [] (wI (wI mm (l0 + 1) (l1.toNatClampNeg) (0 : Int32)) (l0 + 2) (l1.toNatClampNeg) (-1 : Int32)) Q))))) : G e_X6_empty 2 [(0, .ref l0), (1, .int l1)] [] mm Q := by
  refine g_iload_n (pc := 2) (x := l1) dX6_empty_2 rfl ?_
  refine g_bipush (pc := 3) (v := (16 : Int32)) dX6_empty_3 (by decide) ?_
  refine g_icmp_ge (pc := 5) (tgt := 28) dX6_empty_5 (by decide) (fun c5 => ?_) (fun c5 => ?_)
  · have h := h.1 c5
    refine g_aload_n (pc := 28) (x := l0) dX6_empty_28 rfl ?_
    refine g_iconst (pc := 29) (v := (0 : Int32)) dX6_empty_29 (by decide) ?_
    refine g_putI (pc := 30) dX6_empty_30 fo_X6_37 (AtState_0 k0) rfl rfl rfl ?_
    refine g_aload_n (pc := 33) (x := l0) dX6_empty_33 rfl ?_
    refine g_iconst (pc := 34) (v := (0 : Int32)) dX6_empty_34 (by decide) ?_
    refine g_putI (pc := 35) dX6_empty_35 fo_X6_41 (AtState_0 k0) rfl rfl rfl ?_
    refine g_aload_n (pc := 38) (x := l0) dX6_empty_38 rfl ?_
    refine g_getR (pc := 39) (dd := 7) dX6_empty_39 fo_X6_33 (AtState_0 k0) rfl ?_
    refine g_iconst (pc := 42) (v := (0 : Int32)) dX6_empty_42 (by decide) ?_
    refine g_putI (pc := 43) dX6_empty_43 fo_X6_44 (AtLogs_0 (AtState.logs k0)) rfl rfl rfl ?_
    exact g_vret (pc := 46) dX6_empty_46 rfl rfl h
  · have h := h.2 c5
    refine g_aload_n (pc := 8) (x := l0) dX6_empty_8 rfl ?_
    refine g_getR (pc := 9) (dd := 1) dX6_empty_9 fo_X6_9 (AtState_0 k0) rfl ?_
    refine g_iload_n (pc := 12) (x := l1) dX6_empty_12 rfl ?_
    refine g_iconst (pc := 13) (v := (0 : Int32)) dX6_empty_13 (by decide) ?_
    refine g_iastore (pc := 14) dX6_empty_14 (AtState_1 k0) h.1 ?_
    have h := h.2
    refine g_aload_n (pc := 15) (x := l0) dX6_empty_15 rfl ?_
    refine g_getR (pc := 16) (dd := 2) dX6_empty_16 fo_X6_15 (AtState_0 k0) rfl ?_
    refine g_iload_n (pc := 19) (x := l1) dX6_empty_19 rfl ?_
    refine g_iconst (pc := 20) (v := (-1 : Int32)) dX6_empty_20 (by decide) ?_
    refine g_iastore (pc := 21) dX6_empty_21 (AtState_2 k0) h.1 ?_
    have h := h.2
    refine g_iinc (pc := 22) (x := l1) (v := (l1 + (1 : Int32))) (L' := [(0, .ref l0), (1, .int (l1 + (1 : Int32)))]) dX6_empty_22 rfl rfl (Nat.le_of_ble_eq_true rfl) rfl ?_
    refine g_goto (pc := 25) (tgt := 2) dX6_empty_25 (by decide) ?_
    exact h
theorem dX6_copyFrom_0 : decode cX6_copyFrom 0 = .ok (.aload_n 1, 1) := by decide +kernel
theorem dX6_copyFrom_1 : decode cX6_copyFrom 1 = .ok (.getfield 9, 3) := by decide +kernel
theorem dX6_copyFrom_4 : decode cX6_copyFrom 4 = .ok (.iconst 0, 1) := by decide +kernel
theorem dX6_copyFrom_5 : decode cX6_copyFrom 5 = .ok (.aload_n 0, 1) := by decide +kernel
theorem dX6_copyFrom_6 : decode cX6_copyFrom 6 = .ok (.getfield 9, 3) := by decide +kernel
theorem dX6_copyFrom_9 : decode cX6_copyFrom 9 = .ok (.iconst 0, 1) := by decide +kernel
theorem dX6_copyFrom_10 : decode cX6_copyFrom 10 = .ok (.bipush 16, 2) := by decide +kernel
theorem dX6_copyFrom_12 : decode cX6_copyFrom 12 = .ok (.invokestatic 47, 3) := by decide +kernel
theorem dX6_copyFrom_15 : decode cX6_copyFrom 15 = .ok (.aload_n 1, 1) := by decide +kernel
theorem dX6_copyFrom_16 : decode cX6_copyFrom 16 = .ok (.getfield 15, 3) := by decide +kernel
theorem dX6_copyFrom_19 : decode cX6_copyFrom 19 = .ok (.iconst 0, 1) := by decide +kernel
theorem dX6_copyFrom_20 : decode cX6_copyFrom 20 = .ok (.aload_n 0, 1) := by decide +kernel
theorem dX6_copyFrom_21 : decode cX6_copyFrom 21 = .ok (.getfield 15, 3) := by decide +kernel
theorem dX6_copyFrom_24 : decode cX6_copyFrom 24 = .ok (.iconst 0, 1) := by decide +kernel
theorem dX6_copyFrom_25 : decode cX6_copyFrom 25 = .ok (.bipush 16, 2) := by decide +kernel
theorem dX6_copyFrom_27 : decode cX6_copyFrom 27 = .ok (.invokestatic 47, 3) := by decide +kernel
theorem dX6_copyFrom_30 : decode cX6_copyFrom 30 = .ok (.aload_n 1, 1) := by decide +kernel
theorem dX6_copyFrom_31 : decode cX6_copyFrom 31 = .ok (.getfield 18, 3) := by decide +kernel
theorem dX6_copyFrom_34 : decode cX6_copyFrom 34 = .ok (.iconst 0, 1) := by decide +kernel
theorem dX6_copyFrom_35 : decode cX6_copyFrom 35 = .ok (.aload_n 0, 1) := by decide +kernel
theorem dX6_copyFrom_36 : decode cX6_copyFrom 36 = .ok (.getfield 18, 3) := by decide +kernel
theorem dX6_copyFrom_39 : decode cX6_copyFrom 39 = .ok (.iconst 0, 1) := by decide +kernel
theorem dX6_copyFrom_40 : decode cX6_copyFrom 40 = .ok (.bipush 8, 2) := by decide +kernel
theorem dX6_copyFrom_42 : decode cX6_copyFrom 42 = .ok (.invokestatic 47, 3) := by decide +kernel
theorem dX6_copyFrom_45 : decode cX6_copyFrom 45 = .ok (.aload_n 1, 1) := by decide +kernel
theorem dX6_copyFrom_46 : decode cX6_copyFrom 46 = .ok (.getfield 21, 3) := by decide +kernel
theorem dX6_copyFrom_49 : decode cX6_copyFrom 49 = .ok (.iconst 0, 1) := by decide +kernel
theorem dX6_copyFrom_50 : decode cX6_copyFrom 50 = .ok (.aload_n 0, 1) := by decide +kernel
theorem dX6_copyFrom_51 : decode cX6_copyFrom 51 = .ok (.getfield 21, 3) := by decide +kernel
theorem dX6_copyFrom_54 : decode cX6_copyFrom 54 = .ok (.iconst 0, 1) := by decide +kernel
theorem dX6_copyFrom_55 : decode cX6_copyFrom 55 = .ok (.bipush 40, 2) := by decide +kernel
theorem dX6_copyFrom_57 : decode cX6_copyFrom 57 = .ok (.invokestatic 47, 3) := by decide +kernel
theorem dX6_copyFrom_60 : decode cX6_copyFrom 60 = .ok (.aload_n 1, 1) := by decide +kernel
theorem dX6_copyFrom_61 : decode cX6_copyFrom 61 = .ok (.getfield 24, 3) := by decide +kernel
theorem dX6_copyFrom_64 : decode cX6_copyFrom 64 = .ok (.iconst 0, 1) := by decide +kernel
theorem dX6_copyFrom_65 : decode cX6_copyFrom 65 = .ok (.aload_n 0, 1) := by decide +kernel
theorem dX6_copyFrom_66 : decode cX6_copyFrom 66 = .ok (.getfield 24, 3) := by decide +kernel
theorem dX6_copyFrom_69 : decode cX6_copyFrom 69 = .ok (.iconst 0, 1) := by decide +kernel
theorem dX6_copyFrom_70 : decode cX6_copyFrom 70 = .ok (.bipush 40, 2) := by decide +kernel
theorem dX6_copyFrom_72 : decode cX6_copyFrom 72 = .ok (.invokestatic 47, 3) := by decide +kernel
theorem dX6_copyFrom_75 : decode cX6_copyFrom 75 = .ok (.aload_n 1, 1) := by decide +kernel
theorem dX6_copyFrom_76 : decode cX6_copyFrom 76 = .ok (.getfield 27, 3) := by decide +kernel
theorem dX6_copyFrom_79 : decode cX6_copyFrom 79 = .ok (.iconst 0, 1) := by decide +kernel
theorem dX6_copyFrom_80 : decode cX6_copyFrom 80 = .ok (.aload_n 0, 1) := by decide +kernel
theorem dX6_copyFrom_81 : decode cX6_copyFrom 81 = .ok (.getfield 27, 3) := by decide +kernel
theorem dX6_copyFrom_84 : decode cX6_copyFrom 84 = .ok (.iconst 0, 1) := by decide +kernel
theorem dX6_copyFrom_85 : decode cX6_copyFrom 85 = .ok (.bipush 40, 2) := by decide +kernel
theorem dX6_copyFrom_87 : decode cX6_copyFrom 87 = .ok (.invokestatic 47, 3) := by decide +kernel
theorem dX6_copyFrom_90 : decode cX6_copyFrom 90 = .ok (.aload_n 0, 1) := by decide +kernel
theorem dX6_copyFrom_91 : decode cX6_copyFrom 91 = .ok (.getfield 33, 3) := by decide +kernel
theorem dX6_copyFrom_94 : decode cX6_copyFrom 94 = .ok (.aload_n 1, 1) := by decide +kernel
theorem dX6_copyFrom_95 : decode cX6_copyFrom 95 = .ok (.getfield 33, 3) := by decide +kernel
theorem dX6_copyFrom_98 : decode cX6_copyFrom 98 = .ok (.invokevirtual 53, 3) := by decide +kernel
theorem dX6_copyFrom_101 : decode cX6_copyFrom 101 = .ok (.aload_n 0, 1) := by decide +kernel
theorem dX6_copyFrom_102 : decode cX6_copyFrom 102 = .ok (.aload_n 1, 1) := by decide +kernel
theorem dX6_copyFrom_103 : decode cX6_copyFrom 103 = .ok (.getfield 37, 3) := by decide +kernel
theorem dX6_copyFrom_106 : decode cX6_copyFrom 106 = .ok (.putfield 37, 3) := by decide +kernel
theorem dX6_copyFrom_109 : decode cX6_copyFrom 109 = .ok (.aload_n 0, 1) := by decide +kernel
theorem dX6_copyFrom_110 : decode cX6_copyFrom 110 = .ok (.aload_n 1, 1) := by decide +kernel
theorem dX6_copyFrom_111 : decode cX6_copyFrom 111 = .ok (.getfield 41, 3) := by decide +kernel
theorem dX6_copyFrom_114 : decode cX6_copyFrom 114 = .ok (.putfield 41, 3) := by decide +kernel
theorem dX6_copyFrom_117 : decode cX6_copyFrom 117 = .ok (.return_, 1) := by decide +kernel
theorem b_X6_copyFrom (mm : MM) (Q : Value → MM → Prop) (t0 : Nat) (a1 : Nat) (h0 : AtState t0) (h1 : AtState a1) (h : ∃ Pm1 : Value → MM → Prop, Runs e_X2_copyFrom [.ref (t0 + 7), .ref (a1 + 7)] (wR (wR (wR (wR (wR (wR mm (t0 + 1) (va_cpy (mm.1 (a1 + 1)) (mm.1 (t0 + 1)) 0 0 16)) (t0 + 2) (va_cpy ((wR mm (t0 + 1) (va_cpy (mm.1 (a1 + 1)) (mm.1 (t0 + 1)) 0 0 16)).1 (a1 + 2)) ((wR mm (t0 + 1) (va_cpy (mm.1 (a1 + 1)) (mm.1 (t0 + 1)) 0 0 16)).1 (t0 + 2)) 0 0 16)) (t0 + 3) (va_cpy ((wR (wR mm (t0 + 1) (va_cpy (mm.1 (a1 + 1)) (mm.1 (t0 + 1)) 0 0 16)) (t0 + 2) (va_cpy ((wR mm (t0 + 1) (va_cpy (mm.1 (a1 + 1)) (mm.1 (t0 + 1)) 0 0 16)).1 (a1 + 2)) ((wR mm (t0 + 1) (va_cpy (mm.1 (a1 + 1)) (mm.1 (t0 + 1)) 0 0 16)).1 (t0 + 2)) 0 0 16)).1 (a1 + 3)) ((wR (wR mm (t0 + 1) (va_cpy (mm.1 (a1 + 1)) (mm.1 (t0 + 1)) 0 0 16)) (t0 + 2) (va_cpy ((wR mm (t0 + 1) (va_cpy (mm.1 (a1 + 1)) (mm.1 (t0 + 1)) 0 0 16)).1 (a1 + 2)) ((wR mm (t0 + 1) (va_cpy (mm.1 (a1 + 1)) (mm.1 (t0 + 1)) 0 0 16)).1 (t0 + 2)) 0 0 16)).1 (t0 + 3)) 0 0 8)) (t0 + 4) (va_cpy ((wR (wR (wR mm (t0 + 1) (va_cpy (mm.1 (a1 + 1)) (mm.1 (t0 + 1)) 0 0 16)) (t0 + 2) (va_cpy ((wR mm (t0 + 1) (va_cpy (mm.1 (a1 + 1)) (mm.1 (t0 + 1)) 0 0 16)).1 (a1 + 2)) ((wR mm (t0 + 1) (va_cpy (mm.1 (a1 + 1)) (mm.1 (t0 + 1)) 0 0 16)).1 (t0 + 2)) 0 0 16)) (t0 + 3) (va_cpy ((wR (wR mm (t0 + 1) (va_cpy (mm.1 (a1 + 1)) (mm.1 (t0 + 1)) 0 0 16)) (t0 + 2) (va_cpy ((wR mm (t0 + 1) (va_cpy (mm.1 (a1 + 1)) (mm.1 (t0 + 1)) 0 0 16)).1 (a1 + 2)) ((wR mm (t0 + 1) (va_cpy (mm.1 (a1 + 1)) (mm.1 (t0 + 1)) 0 0 16)).1 (t0 + 2)) 0 0 16)).1 (a1 + 3)) ((wR (wR mm (t0 + 1) (va_cpy (mm.1 (a1 + 1)) (mm.1 (t0 + 1)) 0 0 16)) (t0 + 2) (va_cpy ((wR mm (t0 + 1) (va_cpy (mm.1 (a1 + 1)) (mm.1 (t0 + 1)) 0 0 16)).1 (a1 + 2)) ((wR mm (t0 + 1) (va_cpy (mm.1 (a1 + 1)) (mm.1 (t0 + 1)) 0 0 16)).1 (t0 + 2)) 0 0 16)).1 (t0 + 3)) 0 0 8)).1 (a1 + 4)) ((wR (wR (wR mm (t0 + 1) (va_cpy (mm.1 (a1 + 1)) (mm.1 (t0 + 1)) 0 0 16)) (t0 + 2) (va_cpy ((wR mm (t0 + 1) (va_cpy (mm.1 (a1 + 1)) (mm.1 (t0 + 1)) 0 0 16)).1 (a1 + 2)) ((wR mm (t0 + 1) (va_cpy (mm.1 (a1 + 1)) (mm.1 (t0 + 1)) 0 0 16)).1 (t0 + 2)) 0 0 16)) (t0 + 3) (va_cpy ((wR (wR mm (t0 + 1) (va_cpy (mm.1 (a1 + 1)) (mm.1 (t0 + 1)) 0 0 16)) (t0 + 2) (va_cpy ((wR mm (t0 + 1) (va_cpy (mm.1 (a1 + 1)) (mm.1 (t0 + 1)) 0 0 16)).1 (a1 + 2)) ((wR mm (t0 + 1) (va_cpy (mm.1 (a1 + 1)) (mm.1 (t0 + 1)) 0 0 16)).1 (t0 + 2)) 0 0 16)).1 (a1 + 3)) ((wR (wR mm (t0 + 1) (va_cpy (mm.1 (a1 + 1)) (mm.1 (t0 + 1)) 0 0 16)) (t0 + 2) (va_cpy ((wR mm (t0 + 1) (va_cpy (mm.1 (a1 + 1)) (mm.1 (t0 + 1)) 0 0 16)).1 (a1 + 2)) ((wR mm (t0 + 1) (va_cpy (mm.1 (a1 + 1)) (mm.1 (t0 + 1)) 0 0 16)).1 (t0 + 2)) 0 0 16)).1 (t0 + 3)) 0 0 8)).1 (t0 + 4)) 0 0 40)) (t0 + 5) (va_cpy ((wR (wR (wR (wR mm (t0 + 1) (va_cpy (mm.1 (a1 + 1)) (mm.1 (t0 + 1)) 0 0 16)) (t0 + 2) (va_cpy ((wR mm (t0 + 1) (va_cpy (mm.1 (a1 + 1)) (mm.1 (t0 + 1)) 0 0 16)).1 (a1 + 2)) ((wR mm (t0 + 1) (va_cpy (mm.1 (a1 + 1)) (mm.1 (t0 + 1)) 0 0 16)).1 (t0 + 2)) 0 0 16)) (t0 + 3) (va_cpy ((wR (wR mm (t0 + 1) (va_cpy (mm.1 (a1 + 1)) (mm.1 (t0 + 1)) 0 0 16)) (t0 + 2) (va_cpy ((wR mm (t0 + 1) (va_cpy (mm.1 (a1 + 1)) (mm.1 (t0 + 1)) 0 0 16)).1 (a1 + 2)) ((wR mm (t0 + 1) (va_cpy (mm.1 (a1 + 1)) (mm.1 (t0 + 1)) 0 0 16)).1 (t0 + 2)) 0 0 16)).1 (a1 + 3)) ((wR (wR mm (t0 + 1) (va_cpy (mm.1 (a1 + 1)) (mm.1 (t0 + 1)) 0 0 16)) (t0 + 2) (va_cpy ((wR mm (t0 + 1) (va_cpy (mm.1 (a1 + 1)) (mm.1 (t0 + 1)) 0 0 16)).1 (a1 + 2)) ((wR mm (t0 + 1) (va_cpy (mm.1 (a1 + 1)) (mm.1 (t0 + 1)) 0 0 16)).1 (t0 + 2)) 0 0 16)).1 (t0 + 3)) 0 0 8)) (t0 + 4) (va_cpy ((wR (wR (wR mm (t0 + 1) (va_cpy (mm.1 (a1 + 1)) (mm.1 (t0 + 1)) 0 0 16)) (t0 + 2) (va_cpy ((wR mm (t0 + 1) (va_cpy (mm.1 (a1 + 1)) (mm.1 (t0 + 1)) 0 0 16)).1 (a1 + 2)) ((wR mm (t0 + 1) (va_cpy (mm.1 (a1 + 1)) (mm.1 (t0 + 1)) 0 0 16)).1 (t0 + 2)) 0 0 16)) (t0 + 3) (va_cpy ((wR (wR mm (t0 + 1) (va_cpy (mm.1 (a1 + 1)) (mm.1 (t0 + 1)) 0 0 16)) (t0 + 2) (va_cpy ((wR mm (t0 + 1) (va_cpy (mm.1 (a1 + 1)) (mm.1 (t0 + 1)) 0 0 16)).1 (a1 + 2)) ((wR mm (t0 + 1) (va_cpy (mm.1 (a1 + 1)) (mm.1 (t0 + 1)) 0 0 16)).1 (t0 + 2)) 0 0 16)).1 (a1 + 3)) ((wR (wR mm (t0 + 1) (va_cpy (mm.1 (a1 + 1)) (mm.1 (t0 + 1)) 0 0 16)) (t0 + 2) (va_cpy ((wR mm (t0 + 1) (va_cpy (mm.1 (a1 + 1)) (mm.1 (t0 + 1)) 0 0 16)).1 (a1 + 2)) ((wR mm (t0 + 1) (va_cpy (mm.1 (a1 + 1)) (mm.1 (t0 + 1)) 0 0 16)).1 (t0 + 2)) 0 0 16)).1 (t0 + 3)) 0 0 8)).1 (a1 + 4)) ((wR (wR (wR mm (t0 + 1) (va_cpy (mm.1 (a1 + 1)) (mm.1 (t0 + 1)) 0 0 16)) (t0 + 2) (va_cpy ((wR mm (t0 + 1) (va_cpy (mm.1 (a1 + 1)) (mm.1 (t0 + 1)) 0 0 16)).1 (a1 + 2)) ((wR mm (t0 + 1) (va_cpy (mm.1 (a1 + 1)) (mm.1 (t0 + 1)) 0 0 16)).1 (t0 + 2)) 0 0 16)) (t0 + 3) (va_cpy ((wR (wR mm (t0 + 1) (va_cpy (mm.1 (a1 + 1)) (mm.1 (t0 + 1)) 0 0 16)) (t0 + 2) (va_cpy ((wR mm (t0 + 1) (va_cpy (mm.1 (a1 + 1)) (mm.1 (t0 + 1)) 0 0 16)).1 (a1 + 2)) ((wR mm (t0 + 1) (va_cpy (mm.1 (a1 + 1)) (mm.1 (t0 + 1)) 0 0 16)).1 (t0 + 2)) 0 0 16)).1 (a1 + 3)) ((wR (wR mm (t0 + 1) (va_cpy (mm.1 (a1 + 1)) (mm.1 (t0 + 1)) 0 0 16)) (t0 + 2) (va_cpy ((wR mm (t0 + 1) (va_cpy (mm.1 (a1 + 1)) (mm.1 (t0 + 1)) 0 0 16)).1 (a1 + 2)) ((wR mm (t0 + 1) (va_cpy (mm.1 (a1 + 1)) (mm.1 (t0 + 1)) 0 0 16)).1 (t0 + 2)) 0 0 16)).1 (t0 + 3)) 0 0 8)).1 (t0 + 4)) 0 0 40)).1 (a1 + 5)) ((wR (wR (wR (wR mm (t0 + 1) (va_cpy (mm.1 (a1 + 1)) (mm.1 (t0 + 1)) 0 0 16)) (t0 + 2) (va_cpy ((wR mm (t0 + 1) (va_cpy (mm.1 (a1 + 1)) (mm.1 (t0 + 1)) 0 0 16)).1 (a1 + 2)) ((wR mm (t0 + 1) (va_cpy (mm.1 (a1 + 1)) (mm.1 (t0 + 1)) 0 0 16)).1 (t0 + 2)) 0 0 16)) (t0 + 3) (va_cpy ((wR (wR mm (t0 + 1) (va_cpy (mm.1 (a1 + 1)) (mm.1 (t0 + 1)) 0 0 16)) (t0 + 2) (va_cpy ((wR mm (t0 + 1) (va_cpy (mm.1 (a1 + 1)) (mm.1 (t0 + 1)) 0 0 16)).1 (a1 + 2)) ((wR mm (t0 + 1) (va_cpy (mm.1 (a1 + 1)) (mm.1 (t0 + 1)) 0 0 16)).1 (t0 + 2)) 0 0 16)).1 (a1 + 3)) ((wR (wR mm (t0 + 1) (va_cpy (mm.1 (a1 + 1)) (mm.1 (t0 + 1)) 0 0 16)) (t0 + 2) (va_cpy ((wR mm (t0 + 1) (va_cpy (mm.1 (a1 + 1)) (mm.1 (t0 + 1)) 0 0 16)).1 (a1 + 2)) ((wR mm (t0 + 1) (va_cpy (mm.1 (a1 + 1)) (mm.1 (t0 + 1)) 0 0 16)).1 (t0 + 2)) 0 0 16)).1 (t0 + 3)) 0 0 8)) (t0 + 4) (va_cpy ((wR (wR (wR mm (t0 + 1) (va_cpy (mm.1 (a1 + 1)) (mm.1 (t0 + 1)) 0 0 16)) (t0 + 2) (va_cpy ((wR mm (t0 + 1) (va_cpy (mm.1 (a1 + 1)) (mm.1 (t0 + 1)) 0 0 16)).1 (a1 + 2)) ((wR mm (t0 + 1) (va_cpy (mm.1 (a1 + 1)) (mm.1 (t0 + 1)) 0 0 16)).1 (t0 + 2)) 0 0 16)) (t0 + 3) (va_cpy ((wR (wR mm (t0 + 1) (va_cpy (mm.1 (a1 + 1)) (mm.1 (t0 + 1)) 0 0 16)) (t0 + 2) (va_cpy ((wR mm (t0 + 1) (va_cpy (mm.1 (a1 + 1)) (mm.1 (t0 + 1)) 0 0 16)).1 (a1 + 2)) ((wR mm (t0 + 1) (va_cpy (mm.1 (a1 + 1)) (mm.1 (t0 + 1)) 0 0 16)).1 (t0 + 2)) 0 0 16)).1 (a1 + 3)) ((wR (wR mm (t0 + 1) (va_cpy (mm.1 (a1 + 1)) (mm.1 (t0 + 1)) 0 0 16)) (t0 + 2) (va_cpy ((wR mm (t0 + 1) (va_cpy (mm.1 (a1 + 1)) (mm.1 (t0 + 1)) 0 0 16)).1 (a1 + 2)) ((wR mm (t0 + 1) (va_cpy (mm.1 (a1 + 1)) (mm.1 (t0 + 1)) 0 0 16)).1 (t0 + 2)) 0 0 16)).1 (t0 + 3)) 0 0 8)).1 (a1 + 4)) ((wR (wR (wR mm (t0 + 1) (va_cpy (mm.1 (a1 + 1)) (mm.1 (t0 + 1)) 0 0 16)) (t0 + 2) (va_cpy ((wR mm (t0 + 1) (va_cpy (mm.1 (a1 + 1)) (mm.1 (t0 + 1)) 0 0 16)).1 (a1 + 2)) ((wR mm (t0 + 1) (va_cpy (mm.1 (a1 + 1)) (mm.1 (t0 + 1)) 0 0 16)).1 (t0 + 2)) 0 0 16)) (t0 + 3) (va_cpy ((wR (wR mm (t0 + 1) (va_cpy (mm.1 (a1 + 1)) (mm.1 (t0 + 1)) 0 0 16)) (t0 + 2) (va_cpy ((wR mm (t0 + 1) (va_cpy (mm.1 (a1 + 1)) (mm.1 (t0 + 1)) 0 0 16)).1 (a1 + 2)) ((wR mm (t0 + 1) (va_cpy (mm.1 (a1 + 1)) (mm.1 (t0 + 1)) 0 0 16)).1 (t0 + 2)) 0 0 16)).1 (a1 + 3)) ((wR (wR mm (t0 + 1) (va_cpy (mm.1 (a1 + 1)) (mm.1 (t0 + 1)) 0 0 16)) (t0 + 2) (va_cpy ((wR mm (t0 + 1) (va_cpy (mm.1 (a1 + 1)) (mm.1 (t0 + 1)) 0 0 16)).1 (a1 + 2)) ((wR mm (t0 + 1) (va_cpy (mm.1 (a1 + 1)) (mm.1 (t0 + 1)) 0 0 16)).1 (t0 + 2)) 0 0 16)).1 (t0 + 3)) 0 0 8)).1 (t0 + 4)) 0 0 40)).1 (t0 + 5)) 0 0 40)) (t0 + 6) (va_cpy ((wR (wR (wR (wR (wR mm (t0 + 1) (va_cpy (mm.1 (a1 + 1)) (mm.1 (t0 + 1)) 0 0 16)) (t0 + 2) (va_cpy ((wR mm (t0 + 1) (va_cpy (mm.1 (a1 + 1)) (mm.1 (t0 + 1)) 0 0 16)).1 (a1 + 2)) ((wR mm (t0 + 1) (va_cpy (mm.1 (a1 + 1)) (mm.1 (t0 + 1)) 0 0 16)).1 (t0 + 2)) 0 0 16)) (t0 + 3) (va_cpy ((wR (wR mm (t0 + 1) (va_cpy (mm.1 (a1 + 1)) (mm.1 (t0 + 1)) 0 0 16)) (t0 + 2) (va_cpy ((wR mm (t0 + 1) (va_cpy (mm.1 (a1 + 1)) (mm.1 (t0 + 1)) 0 0 16)).1 (a1 + 2)) ((wR mm (t0 + 1) (va_cpy (mm.1 (a1 + 1)) (mm.1 (t0 + 1)) 0 0 16)).1 (t0 + 2)) 0 0 16)).1 (a1 + 3)) ((wR (wR mm (t0 + 1) (va_cpy (mm.1 (a1 + 1)) (mm.1 (t0 + 1)) 0 0 16)) (t0 + 2) (va_cpy ((wR mm (t0 + 1) (va_cpy (mm.1 (a1 + 1)) (mm.1 (t0 + 1)) 0 0 16)).1 (a1 + 2)) ((wR mm (t0 + 1) (va_cpy (mm.1 (a1 + 1)) (mm.1 (t0 + 1)) 0 0 16)).1 (t0 + 2)) 0 0 16)).1 (t0 + 3)) 0 0 8)) (t0 + 4) (va_cpy ((wR (wR (wR mm (t0 + 1) (va_cpy (mm.1 (a1 + 1)) (mm.1 (t0 + 1)) 0 0 16)) (t0 + 2) (va_cpy ((wR mm (t0 + 1) (va_cpy (mm.1 (a1 + 1)) (mm.1 (t0 + 1)) 0 0 16)).1 (a1 + 2)) ((wR mm (t0 + 1) (va_cpy (mm.1 (a1 + 1)) (mm.1 (t0 + 1)) 0 0 16)).1 (t0 + 2)) 0 0 16)) (t0 + 3) (va_cpy ((wR (wR mm (t0 + 1) (va_cpy (mm.1 (a1 + 1)) (mm.1 (t0 + 1)) 0 0 16)) (t0 + 2) (va_cpy ((wR mm (t0 + 1) (va_cpy (mm.1 (a1 + 1)) (mm.1 (t0 + 1)) 0 0 16)).1 (a1 + 2)) ((wR mm (t0 + 1) (va_cpy (mm.1 (a1 + 1)) (mm.1 (t0 + 1)) 0 0 16)).1 (t0 + 2)) 0 0 16)).1 (a1 + 3)) ((wR (wR mm (t0 + 1) (va_cpy (mm.1 (a1 + 1)) (mm.1 (t0 + 1)) 0 0 16)) (t0 + 2) (va_cpy ((wR mm (t0 + 1) (va_cpy (mm.1 (a1 + 1)) (mm.1 (t0 + 1)) 0 0 16)).1 (a1 + 2)) ((wR mm (t0 + 1) (va_cpy (mm.1 (a1 + 1)) (mm.1 (t0 + 1)) 0 0 16)).1 (t0 + 2)) 0 0 16)).1 (t0 + 3)) 0 0 8)).1 (a1 + 4)) ((wR (wR (wR mm (t0 + 1) (va_cpy (mm.1 (a1 + 1)) (mm.1 (t0 + 1)) 0 0 16)) (t0 + 2) (va_cpy ((wR mm (t0 + 1) (va_cpy (mm.1 (a1 + 1)) (mm.1 (t0 + 1)) 0 0 16)).1 (a1 + 2)) ((wR mm (t0 + 1) (va_cpy (mm.1 (a1 + 1)) (mm.1 (t0 + 1)) 0 0 16)).1 (t0 + 2)) 0 0 16)) (t0 + 3) (va_cpy ((wR (wR mm (t0 + 1) (va_cpy (mm.1 (a1 + 1)) (mm.1 (t0 + 1)) 0 0 16)) (t0 + 2) (va_cpy ((wR mm (t0 + 1) (va_cpy (mm.1 (a1 + 1)) (mm.1 (t0 + 1)) 0 0 16)).1 (a1 + 2)) ((wR mm (t0 + 1) (va_cpy (mm.1 (a1 + 1)) (mm.1 (t0 + 1)) 0 0 16)).1 (t0 + 2)) 0 0 16)).1 (a1 + 3)) ((wR (wR mm (t0 + 1) (va_cpy (mm.1 (a1 + 1)) (mm.1 (t0 + 1)) 0 0 16)) (t0 + 2) (va_cpy ((wR mm (t0 + 1) (va_cpy (mm.1 (a1 + 1)) (mm.1 (t0 + 1)) 0 0 16)).1 (a1 + 2)) ((wR mm (t0 + 1) (va_cpy (mm.1 (a1 + 1)) (mm.1 (t0 + 1)) 0 0 16)).1 (t0 + 2)) 0 0 16)).1 (t0 + 3)) 0 0 8)).1 (t0 + 4)) 0 0 40)) (t0 + 5) (va_cpy ((wR (wR (wR (wR mm (t0 + 1) (va_cpy (mm.1 (a1 + 1)) (mm.1 (t0 + 1)) 0 0 16)) (t0 + 2) (va_cpy ((wR mm (t0 + 1) (va_cpy (mm.1 (a1 + 1)) (mm.1 (t0 + 1)) 0 0 16)).1 (a1 + 2)) ((wR mm (t0 + 1) (va_cpy (mm.1 (a1 + 1)) (mm.1 (t0 + 1)) 0 0 16)).1 (t0 + 2)) 0 0 16)) (t0 + 3) (va_cpy ((wR (wR mm (t0 + 1) (va_cpy (mm.1 (a1 + 1)) (mm.1 (t0 + 1)) 0 0 16)) (t0 + 2) (va_cpy ((wR mm (t0 + 1) (va_cpy (mm.1 (a1 + 1)) (mm.1 (t0 + 1)) 0 0 16)).1 (a1 + 2)) ((wR mm (t0 + 1) (va_cpy (mm.1 (a1 + 1)) (mm.1 (t0 + 1)) 0 0 16)).1 (t0 + 2)) 0 0 16)).1 (a1 + 3)) ((wR (wR mm (t0 + 1) (va_cpy (mm.1 (a1 + 1)) (mm.1 (t0 + 1)) 0 0 16)) (t0 + 2) (va_cpy ((wR mm (t0 + 1) (va_cpy (mm.1 (a1 + 1)) (mm.1 (t0 + 1)) 0 0 16)).1 (a1 + 2)) ((wR mm (t0 + 1) (va_cpy (mm.1 (a1 + 1)) (mm.1 (t0 + 1)) 0 0 16)).1 (t0 + 2)) 0 0 16)).1 (t0 + 3)) 0 0 8)) (t0 + 4) (va_cpy ((wR (wR (wR mm (t0 + 1) (va_cpy (mm.1 (a1 + 1)) (mm.1 (t0 + 1)) 0 0 16)) (t0 + 2) (va_cpy ((wR mm (t0 + 1) (va_cpy (mm.1 (a1 + 1)) (mm.1 (t0 + 1)) 0 0 16)).1 (a1 + 2)) ((wR mm (t0 + 1) (va_cpy (mm.1 (a1 + 1)) (mm.1 (t0 + 1)) 0 0 16)).1 (t0 + 2)) 0 0 16)) (t0 + 3) (va_cpy ((wR (wR mm (t0 + 1) (va_cpy (mm.1 (a1 + 1)) (mm.1 (t0 + 1)) 0 0 16)) (t0 + 2) (va_cpy ((wR mm (t0 + 1) (va_cpy (mm.1 (a1 + 1)) (mm.1 (t0 + 1)) 0 0 16)).1 (a1 + 2)) ((wR mm (t0 + 1) (va_cpy (mm.1 (a1 + 1)) (mm.1 (t0 + 1)) 0 0 16)).1 (t0 + 2)) 0 0 16)).1 (a1 + 3)) ((wR (wR mm (t0 + 1) (va_cpy (mm.1 (a1 + 1)) (mm.1 (t0 + 1)) 0 0 16)) (t0 + 2) (va_cpy ((wR mm (t0 + 1) (va_cpy (mm.1 (a1 + 1)) (mm.1 (t0 + 1)) 0 0 16)).1 (a1 + 2)) ((wR mm (t0 + 1) (va_cpy (mm.1 (a1 + 1)) (mm.1 (t0 + 1)) 0 0 16)).1 (t0 + 2)) 0 0 16)).1 (t0 + 3)) 0 0 8)).1 (a1 + 4)) ((wR (wR (wR mm (t0 + 1) (va_cpy (mm.1 (a1 + 1)) (mm.1 (t0 + 1)) 0 0 16)) (t0 + 2) (va_cpy ((wR mm (t0 + 1) (va_cpy (mm.1 (a1 + 1)) (mm.1 (t0 + 1)) 0 0 16)).1 (a1 + 2)) ((wR mm (t0 + 1) (va_cpy (mm.1 (a1 + 1)) (mm.1 (t0 + 1)) 0 0 16)).1 (t0 + 2)) 0 0 16)) (t0 + 3) (va_cpy ((wR (wR mm (t0 + 1) (va_cpy (mm.1 (a1 + 1)) (mm.1 (t0 + 1)) 0 0 16)) (t0 + 2) (va_cpy ((wR mm (t0 + 1) (va_cpy (mm.1 (a1 + 1)) (mm.1 (t0 + 1)) 0 0 16)).1 (a1 + 2)) ((wR mm (t0 + 1) (va_cpy (mm.1 (a1 + 1)) (mm.1 (t0 + 1)) 0 0 16)).1 (t0 + 2)) 0 0 16)).1 (a1 + 3)) ((wR (wR mm (t0 + 1) (va_cpy (mm.1 (a1 + 1)) (mm.1 (t0 + 1)) 0 0 16)) (t0 + 2) (va_cpy ((wR mm (t0 + 1) (va_cpy (mm.1 (a1 + 1)) (mm.1 (t0 + 1)) 0 0 16)).1 (a1 + 2)) ((wR mm (t0 + 1) (va_cpy (mm.1 (a1 + 1)) (mm.1 (t0 + 1)) 0 0 16)).1 (t0 + 2)) 0 0 16)).1 (t0 + 3)) 0 0 8)).1 (t0 + 4)) 0 0 40)).1 (a1 + 5)) ((wR (wR (wR (wR mm (t0 + 1) (va_cpy (mm.1 (a1 + 1)) (mm.1 (t0 + 1)) 0 0 16)) (t0 + 2) (va_cpy ((wR mm (t0 + 1) (va_cpy (mm.1 (a1 + 1)) (mm.1 (t0 + 1)) 0 0 16)).1 (a1 + 2)) ((wR mm (t0 + 1) (va_cpy (mm.1 (a1 + 1)) (mm.1 (t0 + 1)) 0 0 16)).1 (t0 + 2)) 0 0 16)) (t0 + 3) (va_cpy ((wR (wR mm (t0 + 1) (va_cpy (mm.1 (a1 + 1)) (mm.1 (t0 + 1)) 0 0 16)) (t0 + 2) (va_cpy ((wR mm (t0 + 1) (va_cpy (mm.1 (a1 + 1)) (mm.1 (t0 + 1)) 0 0 16)).1 (a1 + 2)) ((wR mm (t0 + 1) (va_cpy (mm.1 (a1 + 1)) (mm.1 (t0 + 1)) 0 0 16)).1 (t0 + 2)) 0 0 16)).1 (a1 + 3)) ((wR (wR mm (t0 + 1) (va_cpy (mm.1 (a1 + 1)) (mm.1 (t0 + 1)) 0 0 16)) (t0 + 2) (va_cpy ((wR mm (t0 + 1) (va_cpy (mm.1 (a1 + 1)) (mm.1 (t0 + 1)) 0 0 16)).1 (a1 + 2)) ((wR mm (t0 + 1) (va_cpy (mm.1 (a1 + 1)) (mm.1 (t0 + 1)) 0 0 16)).1 (t0 + 2)) 0 0 16)).1 (t0 + 3)) 0 0 8)) (t0 + 4) (va_cpy ((wR (wR (wR mm (t0 + 1) (va_cpy (mm.1 (a1 + 1)) (mm.1 (t0 + 1)) 0 0 16)) (t0 + 2) (va_cpy ((wR mm (t0 + 1) (va_cpy (mm.1 (a1 + 1)) (mm.1 (t0 + 1)) 0 0 16)).1 (a1 + 2)) ((wR mm (t0 + 1) (va_cpy (mm.1 (a1 + 1)) (mm.1 (t0 + 1)) 0 0 16)).1 (t0 + 2)) 0 0 16)) (t0 + 3) (va_cpy ((wR (wR mm (t0 + 1) (va_cpy (mm.1 (a1 + 1)) (mm.1 (t0 + 1)) 0 0 16)) (t0 + 2) (va_cpy ((wR mm (t0 + 1) (va_cpy (mm.1 (a1 + 1)) (mm.1 (t0 + 1)) 0 0 16)).1 (a1 + 2)) ((wR mm (t0 + 1) (va_cpy (mm.1 (a1 + 1)) (mm.1 (t0 + 1)) 0 0 16)).1 (t0 + 2)) 0 0 16)).1 (a1 + 3)) ((wR (wR mm (t0 + 1) (va_cpy (mm.1 (a1 + 1)) (mm.1 (t0 + 1)) 0 0 16)) (t0 + 2) (va_cpy ((wR mm (t0 + 1) (va_cpy (mm.1 (a1 + 1)) (mm.1 (t0 + 1)) 0 0 16)).1 (a1 + 2)) ((wR mm (t0 + 1) (va_cpy (mm.1 (a1 + 1)) (mm.1 (t0 + 1)) 0 0 16)).1 (t0 + 2)) 0 0 16)).1 (t0 + 3)) 0 0 8)).1 (a1 + 4)) ((wR (wR (wR mm (t0 + 1) (va_cpy (mm.1 (a1 + 1)) (mm.1 (t0 + 1)) 0 0 16)) (t0 + 2) (va_cpy ((wR mm (t0 + 1) (va_cpy (mm.1 (a1 + 1)) (mm.1 (t0 + 1)) 0 0 16)).1 (a1 + 2)) ((wR mm (t0 + 1) (va_cpy (mm.1 (a1 + 1)) (mm.1 (t0 + 1)) 0 0 16)).1 (t0 + 2)) 0 0 16)) (t0 + 3) (va_cpy ((wR (wR mm (t0 + 1) (va_cpy (mm.1 (a1 + 1)) (mm.1 (t0 + 1)) 0 0 16)) (t0 + 2) (va_cpy ((wR mm (t0 + 1) (va_cpy (mm.1 (a1 + 1)) (mm.1 (t0 + 1)) 0 0 16)).1 (a1 + 2)) ((wR mm (t0 + 1) (va_cpy (mm.1 (a1 + 1)) (mm.1 (t0 + 1)) 0 0 16)).1 (t0 + 2)) 0 0 16)).1 (a1 + 3)) ((wR (wR mm (t0 + 1) (va_cpy (mm.1 (a1 + 1)) (mm.1 (t0 + 1)) 0 0 16)) (t0 + 2) (va_cpy ((wR mm (t0 + 1) (va_cpy (mm.1 (a1 + 1)) (mm.1 (t0 + 1)) 0 0 16)).1 (a1 + 2)) ((wR mm (t0 + 1) (va_cpy (mm.1 (a1 + 1)) (mm.1 (t0 + 1)) 0 0 16)).1 (t0 + 2)) 0 0 16)).1 (t0 + 3)) 0 0 8)).1 (t0 + 4)) 0 0 40)).1 (t0 + 5)) 0 0 40)).1 (a1 + 6)) ((wR (wR (wR (wR (wR mm (t0 + 1) (va_cpy (mm.1 (a1 + 1)) (mm.1 (t0 + 1)) 0 0 16)) (t0 + 2) (va_cpy ((wR mm (t0 + 1) (va_cpy (mm.1 (a1 + 1)) (mm.1 (t0 + 1)) 0 0 16)).1 (a1 + 2)) ((wR mm (t0 + 1) (va_cpy (mm.1 (a1 + 1)) (mm.1 (t0 + 1)) 0 0 16)).1 (t0 + 2)) 0 0 16)) (t0 + 3) (va_cpy ((wR (wR mm (t0 + 1) (va_cpy (mm.1 (a1 + 1)) (mm.1 (t0 + 1)) 0 0 16)) (t0 + 2) (va_cpy ((wR mm (t0 + 1) (va_cpy (mm.1 (a1 + 1)) (mm.1 (t0 + 1)) 0 0 16)).1 (a1 + 2)) ((wR mm (t0 + 1) (va_cpy (mm.1 (a1 + 1)) (mm.1 (t0 + 1)) 0 0 16)).1 (t0 + 2)) 0 0 16)).1 (a1 + 3)) ((wR (wR mm (t0 + 1) (va_cpy (mm.1 (a1 + 1)) (mm.1 (t0 + 1)) 0 0 16)) (t0 + 2) (va_cpy ((wR mm (t0 + 1) (va_cpy (mm.1 (a1 + 1)) (mm.1 (t0 + 1)) 0 0 16)).1 (a1 + 2)) ((wR mm (t0 + 1) (va_cpy (mm.1 (a1 + 1)) (mm.1 (t0 + 1)) 0 0 16)).1 (t0 + 2)) 0 0 16)).1 (t0 + 3)) 0 0 8)) (t0 + 4) (va_cpy ((wR (wR (wR mm (t0 + 1) (va_cpy (mm.1 (a1 + 1)) (mm.1 (t0 + 1)) 0 0 16)) (t0 + 2) (va_cpy ((wR mm (t0 + 1) (va_cpy (mm.1 (a1 + 1)) (mm.1 (t0 + 1)) 0 0 16)).1 (a1 + 2)) ((wR mm (t0 + 1) (va_cpy (mm.1 (a1 + 1)) (mm.1 (t0 + 1)) 0 0 16)).1 (t0 + 2)) 0 0 16)) (t0 + 3) (va_cpy ((wR (wR mm (t0 + 1) (va_cpy (mm.1 (a1 + 1)) (mm.1 (t0 + 1)) 0 0 16)) (t0 + 2) (va_cpy ((wR mm (t0 + 1) (va_cpy (mm.1 (a1 + 1)) (mm.1 (t0 + 1)) 0 0 16)).1 (a1 + 2)) ((wR mm (t0 + 1) (va_cpy (mm.1 (a1 + 1)) (mm.1 (t0 + 1)) 0 0 16)).1 (t0 + 2)) 0 0 16)).1 (a1 + 3)) ((wR (wR mm (t0 + 1) (va_cpy (mm.1 (a1 + 1)) (mm.1 (t0 + 1)) 0 0 16)) (t0 + 2) (va_cpy ((wR mm (t0 + 1) (va_cpy (mm.1 (a1 + 1)) (mm.1 (t0 + 1)) 0 0 16)).1 (a1 + 2)) ((wR mm (t0 + 1) (va_cpy (mm.1 (a1 + 1)) (mm.1 (t0 + 1)) 0 0 16)).1 (t0 + 2)) 0 0 16)).1 (t0 + 3)) 0 0 8)).1 (a1 + 4)) ((wR (wR (wR mm (t0 + 1) (va_cpy (mm.1 (a1 + 1)) (mm.1 (t0 + 1)) 0 0 16)) (t0 + 2) (va_cpy ((wR mm (t0 + 1) (va_cpy (mm.1 (a1 + 1)) (mm.1 (t0 + 1)) 0 0 16)).1 (a1 + 2)) ((wR mm (t0 + 1) (va_cpy (mm.1 (a1 + 1)) (mm.1 (t0 + 1)) 0 0 16)).1 (t0 + 2)) 0 0 16)) (t0 + 3) (va_cpy ((wR (wR mm (t0 + 1) (va_cpy (mm.1 (a1 + 1)) (mm.1 (t0 + 1)) 0 0 16)) (t0 + 2) (va_cpy ((wR mm (t0 + 1) (va_cpy (mm.1 (a1 + 1)) (mm.1 (t0 + 1)) 0 0 16)).1 (a1 + 2)) ((wR mm (t0 + 1) (va_cpy (mm.1 (a1 + 1)) (mm.1 (t0 + 1)) 0 0 16)).1 (t0 + 2)) 0 0 16)).1 (a1 + 3)) ((wR (wR mm (t0 + 1) (va_cpy (mm.1 (a1 + 1)) (mm.1 (t0 + 1)) 0 0 16)) (t0 + 2) (va_cpy ((wR mm (t0 + 1) (va_cpy (mm.1 (a1 + 1)) (mm.1 (t0 + 1)) 0 0 16)).1 (a1 + 2)) ((wR mm (t0 + 1) (va_cpy (mm.1 (a1 + 1)) (mm.1 (t0 + 1)) 0 0 16)).1 (t0 + 2)) 0 0 16)).1 (t0 + 3)) 0 0 8)).1 (t0 + 4)) 0 0 40)) (t0 + 5) (va_cpy ((wR (wR (wR (wR mm (t0 + 1) (va_cpy (mm.1 (a1 + 1)) (mm.1 (t0 + 1)) 0 0 16)) (t0 + 2) (va_cpy ((wR mm (t0 + 1) (va_cpy (mm.1 (a1 + 1)) (mm.1 (t0 + 1)) 0 0 16)).1 (a1 + 2)) ((wR mm (t0 + 1) (va_cpy (mm.1 (a1 + 1)) (mm.1 (t0 + 1)) 0 0 16)).1 (t0 + 2)) 0 0 16)) (t0 + 3) (va_cpy ((wR (wR mm (t0 + 1) (va_cpy (mm.1 (a1 + 1)) (mm.1 (t0 + 1)) 0 0 16)) (t0 + 2) (va_cpy ((wR mm (t0 + 1) (va_cpy (mm.1 (a1 + 1)) (mm.1 (t0 + 1)) 0 0 16)).1 (a1 + 2)) ((wR mm (t0 + 1) (va_cpy (mm.1 (a1 + 1)) (mm.1 (t0 + 1)) 0 0 16)).1 (t0 + 2)) 0 0 16)).1 (a1 + 3)) ((wR (wR mm (t0 + 1) (va_cpy (mm.1 (a1 + 1)) (mm.1 (t0 + 1)) 0 0 16)) (t0 + 2) (va_cpy ((wR mm (t0 + 1) (va_cpy (mm.1 (a1 + 1)) (mm.1 (t0 + 1)) 0 0 16)).1 (a1 + 2)) ((wR mm (t0 + 1) (va_cpy (mm.1 (a1 + 1)) (mm.1 (t0 + 1)) 0 0 16)).1 (t0 + 2)) 0 0 16)).1 (t0 + 3)) 0 0 8)) (t0 + 4) (va_cpy ((wR (wR (wR mm (t0 + 1) (va_cpy (mm.1 (a1 + 1)) (mm.1 (t0 + 1)) 0 0 16)) (t0 + 2) (va_cpy ((wR mm (t0 + 1) (va_cpy (mm.1 (a1 + 1)) (mm.1 (t0 + 1)) 0 0 16)).1 (a1 + 2)) ((wR mm (t0 + 1) (va_cpy (mm.1 (a1 + 1)) (mm.1 (t0 + 1)) 0 0 16)).1 (t0 + 2)) 0 0 16)) (t0 + 3) (va_cpy ((wR (wR mm (t0 + 1) (va_cpy (mm.1 (a1 + 1)) (mm.1 (t0 + 1)) 0 0 16)) (t0 + 2) (va_cpy ((wR mm (t0 + 1) (va_cpy (mm.1 (a1 + 1)) (mm.1 (t0 + 1)) 0 0 16)).1 (a1 + 2)) ((wR mm (t0 + 1) (va_cpy (mm.1 (a1 + 1)) (mm.1 (t0 + 1)) 0 0 16)).1 (t0 + 2)) 0 0 16)).1 (a1 + 3)) ((wR (wR mm (t0 + 1) (va_cpy (mm.1 (a1 + 1)) (mm.1 (t0 + 1)) 0 0 16)) (t0 + 2) (va_cpy ((wR mm (t0 + 1) (va_cpy (mm.1 (a1 + 1)) (mm.1 (t0 + 1)) 0 0 16)).1 (a1 + 2)) ((wR mm (t0 + 1) (va_cpy (mm.1 (a1 + 1)) (mm.1 (t0 + 1)) 0 0 16)).1 (t0 + 2)) 0 0 16)).1 (t0 + 3)) 0 0 8)).1 (a1 + 4)) ((wR (wR (wR mm (t0 + 1) (va_cpy (mm.1 (a1 + 1)) (mm.1 (t0 + 1)) 0 0 16)) (t0 + 2) (va_cpy ((wR mm (t0 + 1) (va_cpy (mm.1 (a1 + 1)) (mm.1 (t0 + 1)) 0 0 16)).1 (a1 + 2)) ((wR mm (t0 + 1) (va_cpy (mm.1 (a1 + 1)) (mm.1 (t0 + 1)) 0 0 16)).1 (t0 + 2)) 0 0 16)) (t0 + 3) (va_cpy ((wR (wR mm (t0 + 1) (va_cpy (mm.1 (a1 + 1)) (mm.1 (t0 + 1)) 0 0 16)) (t0 + 2) (va_cpy ((wR mm (t0 + 1) (va_cpy (mm.1 (a1 + 1)) (mm.1 (t0 + 1)) 0 0 16)).1 (a1 + 2)) ((wR mm (t0 + 1) (va_cpy (mm.1 (a1 + 1)) (mm.1 (t0 + 1)) 0 0 16)).1 (t0 + 2)) 0 0 16)).1 (a1 + 3)) ((wR (wR mm (t0 + 1) (va_cpy (mm.1 (a1 + 1)) (mm.1 (t0 + 1)) 0 0 16)) (t0 + 2) (va_cpy ((wR mm (t0 + 1) (va_cpy (mm.1 (a1 + 1)) (mm.1 (t0 + 1)) 0 0 16)).1 (a1 + 2)) ((wR mm (t0 + 1) (va_cpy (mm.1 (a1 + 1)) (mm.1 (t0 + 1)) 0 0 16)).1 (t0 + 2)) 0 0 16)).1 (t0 + 3)) 0 0 8)).1 (t0 + 4)) 0 0 40)).1 (a1 + 5)) ((wR (wR (wR (wR mm (t0 + 1) (va_cpy (mm.1 (a1 + 1)) (mm.1 (t0 + 1)) 0 0 16)) (t0 + 2) (va_cpy ((wR mm (t0 + 1) (va_cpy (mm.1 (a1 + 1)) (mm.1 (t0 + 1)) 0 0 16)).1 (a1 + 2)) ((wR mm (t0 + 1) (va_cpy (mm.1 (a1 + 1)) (mm.1 (t0 + 1)) 0 0 16)).1 (t0 + 2)) 0 0 16)) (t0 + 3) (va_cpy ((wR (wR mm (t0 + 1) (va_cpy (mm.1 (a1 + 1)) (mm.1 (t0 + 1)) 0 0 16)) (t0 + 2) (va_cpy ((wR mm (t0 + 1) (va_cpy (mm.1 (a1 + 1)) (mm.1 (t0 + 1)) 0 0 16)).1 (a1 + 2)) ((wR mm (t0 + 1) (va_cpy (mm.1 (a1 + 1)) (mm.1 (t0 + 1)) 0 0 16)).1 (t0 + 2)) 0 0 16)).1 (a1 + 3)) ((wR (wR mm (t0 + 1) (va_cpy (mm.1 (a1 + 1)) (mm.1 (t0 + 1)) 0 0 16)) (t0 + 2) (va_cpy ((wR mm (t0 + 1) (va_cpy (mm.1 (a1 + 1)) (mm.1 (t0 + 1)) 0 0 16)).1 (a1 + 2)) ((wR mm (t0 + 1) (va_cpy (mm.1 (a1 + 1)) (mm.1 (t0 + 1)) 0 0 16)).1 (t0 + 2)) 0 0 16)).1 (t0 + 3)) 0 0 8)) (t0 + 4) (va_cpy ((wR (wR (wR mm (t0 + 1) (va_cpy (mm.1 (a1 + 1)) (mm.1 (t0 + 1)) 0 0 16)) (t0 + 2) (va_cpy ((wR mm (t0 + 1) (va_cpy (mm.1 (a1 + 1)) (mm.1 (t0 + 1)) 0 0 16)).1 (a1 + 2)) ((wR mm (t0 + 1) (va_cpy (mm.1 (a1 + 1)) (mm.1 (t0 + 1)) 0 0 16)).1 (t0 + 2)) 0 0 16)) (t0 + 3) (va_cpy ((wR (wR mm (t0 + 1) (va_cpy (mm.1 (a1 + 1)) (mm.1 (t0 + 1)) 0 0 16)) (t0 + 2) (va_cpy ((wR mm (t0 + 1) (va_cpy (mm.1 (a1 + 1)) (mm.1 (t0 + 1)) 0 0 16)).1 (a1 + 2)) ((wR mm (t0 + 1) (va_cpy (mm.1 (a1 + 1)) (mm.1 (t0 + 1)) 0 0 16)).1 (t0 + 2)) 0 0 16)).1 (a1 + 3)) ((wR (wR mm (t0 + 1) (va_cpy (mm.1 (a1 + 1)) (mm.1 (t0 + 1)) 0 0 16)) (t0 + 2) (va_cpy ((wR mm (t0 + 1) (va_cpy (mm.1 (a1 + 1)) (mm.1 (t0 + 1)) 0 0 16)).1 (a1 + 2)) ((wR mm (t0 + 1) (va_cpy (mm.1 (a1 + 1)) (mm.1 (t0 + 1)) 0 0 16)).1 (t0 + 2)) 0 0 16)).1 (t0 + 3)) 0 0 8)).1 (a1 + 4)) ((wR (wR (wR mm (t0 + 1) (va_cpy (mm.1 (a1 + 1)) (mm.1 (t0 + 1)) 0 0 16)) (t0 + 2) (va_cpy ((wR mm (t0 + 1) (va_cpy (mm.1 (a1 + 1)) (mm.1 (t0 + 1)) 0 0 16)).1 (a1 + 2)) ((wR mm (t0 + 1) (va_cpy (mm.1 (a1 + 1)) (mm.1 (t0 + 1)) 0 0 16)).1 (t0 + 2)) 0 0 16)) (t0 + 3) (va_cpy ((wR (wR mm (t0 + 1) (va_cpy (mm.1 (a1 + 1)) (mm.1 (t0 + 1)) 0 0 16)) (t0 + 2) (va_cpy ((wR mm (t0 + 1) (va_cpy (mm.1 (a1 + 1)) (mm.1 (t0 + 1)) 0 0 16)).1 (a1 + 2)) ((wR mm (t0 + 1) (va_cpy (mm.1 (a1 + 1)) (mm.1 (t0 + 1)) 0 0 16)).1 (t0 + 2)) 0 0 16)).1 (a1 + 3)) ((wR (wR mm (t0 + 1) (va_cpy (mm.1 (a1 + 1)) (mm.1 (t0 + 1)) 0 0 16)) (t0 + 2) (va_cpy ((wR mm (t0 + 1) (va_cpy (mm.1 (a1 + 1)) (mm.1 (t0 + 1)) 0 0 16)).1 (a1 + 2)) ((wR mm (t0 + 1) (va_cpy (mm.1 (a1 + 1)) (mm.1 (t0 + 1)) 0 0 16)).1 (t0 + 2)) 0 0 16)).1 (t0 + 3)) 0 0 8)).1 (t0 + 4)) 0 0 40)).1 (t0 + 5)) 0 0 40)).1 (t0 + 6)) 0 0 40)) Pm1 ∧ ∀ m1, Pm1 .null m1 → (Q .null (wI (wI m1 t0 7 (m1.1 a1 7)) t0 8 ((wI m1 t0 7 (m1.1 a1 7)).1 a1 8)))) : Runs e_X6_copyFrom [.ref t0, .ref a1] mm Q := by
  refine runs_of_G (L := [(0, .ref t0), (1, .ref a1)]) pl_X6 (Nat.le_of_ble_eq_true rfl) rfl ?_
  refine g_aload_n (pc := 0) (x := a1) dX6_copyFrom_0 rfl ?_
  refine g_getR (pc := 1) (dd := 1) dX6_copyFrom_1 fo_X6_9 (AtState_0 h1) rfl ?_
  refine g_iconst (pc := 4) (v := (0 : Int32)) dX6_copyFrom_4 (by decide) ?_
  refine g_aload_n (pc := 5) (x := t0) dX6_copyFrom_5 rfl ?_
  refine g_getR (pc := 6) (dd := 1) dX6_copyFrom_6 fo_X6_9 (AtState_0 h0) rfl ?_
  refine g_iconst (pc := 9) (v := (0 : Int32)) dX6_copyFrom_9 (by decide) ?_
  refine g_bipush (pc := 10) (v := (16 : Int32)) dX6_copyFrom_10 (by decide) ?_
  refine g_copyI (pc := 12) dX6_copyFrom_12 cw_X6_47 (by decide) (Nat.le_of_ble_eq_true rfl) (AtState_1 h1) (AtState_1 h0) (by decide) (by decide) (by decide) (by decide) (by decide) ?_
  refine g_aload_n (pc := 15) (x := a1) dX6_copyFrom_15 rfl ?_
  refine g_getR (pc := 16) (dd := 2) dX6_copyFrom_16 fo_X6_15 (AtState_0 h1) rfl ?_
  refine g_iconst (pc := 19) (v := (0 : Int32)) dX6_copyFrom_19 (by decide) ?_
  refine g_aload_n (pc := 20) (x := t0) dX6_copyFrom_20 rfl ?_
  refine g_getR (pc := 21) (dd := 2) dX6_copyFrom_21 fo_X6_15 (AtState_0 h0) rfl ?_
  refine g_iconst (pc := 24) (v := (0 : Int32)) dX6_copyFrom_24 (by decide) ?_
  refine g_bipush (pc := 25) (v := (16 : Int32)) dX6_copyFrom_25 (by decide) ?_
  refine g_copyI (pc := 27) dX6_copyFrom_27 cw_X6_47 (by decide) (Nat.le_of_ble_eq_true rfl) (AtState_2 h1) (AtState_2 h0) (by decide) (by decide) (by decide) (by decide) (by decide) ?_
  refine g_aload_n (pc := 30) (x := a1) dX6_copyFrom_30 rfl ?_
  refine g_getR (pc := 31) (dd := 3) dX6_copyFrom_31 fo_X6_18 (AtState_0 h1) rfl ?_
  refine g_iconst (pc := 34) (v := (0 : Int32)) dX6_copyFrom_34 (by decide) ?_
  refine g_aload_n (pc := 35) (x := t0) dX6_copyFrom_35 rfl ?_
  refine g_getR (pc := 36) (dd := 3) dX6_copyFrom_36 fo_X6_18 (AtState_0 h0) rfl ?_
  refine g_iconst (pc := 39) (v := (0 : Int32)) dX6_copyFrom_39 (by decide) ?_
  refine g_bipush (pc := 40) (v := (8 : Int32)) dX6_copyFrom_40 (by decide) ?_
  refine g_copyI (pc := 42) dX6_copyFrom_42 cw_X6_47 (by decide) (Nat.le_of_ble_eq_true rfl) (AtState_3 h1) (AtState_3 h0) (by decide) (by decide) (by decide) (by decide) (by decide) ?_
  refine g_aload_n (pc := 45) (x := a1) dX6_copyFrom_45 rfl ?_
  refine g_getR (pc := 46) (dd := 4) dX6_copyFrom_46 fo_X6_21 (AtState_0 h1) rfl ?_
  refine g_iconst (pc := 49) (v := (0 : Int32)) dX6_copyFrom_49 (by decide) ?_
  refine g_aload_n (pc := 50) (x := t0) dX6_copyFrom_50 rfl ?_
  refine g_getR (pc := 51) (dd := 4) dX6_copyFrom_51 fo_X6_21 (AtState_0 h0) rfl ?_
  refine g_iconst (pc := 54) (v := (0 : Int32)) dX6_copyFrom_54 (by decide) ?_
  refine g_bipush (pc := 55) (v := (40 : Int32)) dX6_copyFrom_55 (by decide) ?_
  refine g_copyI (pc := 57) dX6_copyFrom_57 cw_X6_47 (by decide) (Nat.le_of_ble_eq_true rfl) (AtState_4 h1) (AtState_4 h0) (by decide) (by decide) (by decide) (by decide) (by decide) ?_
  refine g_aload_n (pc := 60) (x := a1) dX6_copyFrom_60 rfl ?_
  refine g_getR (pc := 61) (dd := 5) dX6_copyFrom_61 fo_X6_24 (AtState_0 h1) rfl ?_
  refine g_iconst (pc := 64) (v := (0 : Int32)) dX6_copyFrom_64 (by decide) ?_
  refine g_aload_n (pc := 65) (x := t0) dX6_copyFrom_65 rfl ?_
  refine g_getR (pc := 66) (dd := 5) dX6_copyFrom_66 fo_X6_24 (AtState_0 h0) rfl ?_
  refine g_iconst (pc := 69) (v := (0 : Int32)) dX6_copyFrom_69 (by decide) ?_
  refine g_bipush (pc := 70) (v := (40 : Int32)) dX6_copyFrom_70 (by decide) ?_
  refine g_copyI (pc := 72) dX6_copyFrom_72 cw_X6_47 (by decide) (Nat.le_of_ble_eq_true rfl) (AtState_5 h1) (AtState_5 h0) (by decide) (by decide) (by decide) (by decide) (by decide) ?_
  refine g_aload_n (pc := 75) (x := a1) dX6_copyFrom_75 rfl ?_
  refine g_getR (pc := 76) (dd := 6) dX6_copyFrom_76 fo_X6_27 (AtState_0 h1) rfl ?_
  refine g_iconst (pc := 79) (v := (0 : Int32)) dX6_copyFrom_79 (by decide) ?_
  refine g_aload_n (pc := 80) (x := t0) dX6_copyFrom_80 rfl ?_
  refine g_getR (pc := 81) (dd := 6) dX6_copyFrom_81 fo_X6_27 (AtState_0 h0) rfl ?_
  refine g_iconst (pc := 84) (v := (0 : Int32)) dX6_copyFrom_84 (by decide) ?_
  refine g_bipush (pc := 85) (v := (40 : Int32)) dX6_copyFrom_85 (by decide) ?_
  refine g_copyI (pc := 87) dX6_copyFrom_87 cw_X6_47 (by decide) (Nat.le_of_ble_eq_true rfl) (AtState_6 h1) (AtState_6 h0) (by decide) (by decide) (by decide) (by decide) (by decide) ?_
  refine g_aload_n (pc := 90) (x := t0) dX6_copyFrom_90 rfl ?_
  refine g_getR (pc := 91) (dd := 7) dX6_copyFrom_91 fo_X6_33 (AtState_0 h0) rfl ?_
  refine g_aload_n (pc := 94) (x := a1) dX6_copyFrom_94 rfl ?_
  refine g_getR (pc := 95) (dd := 7) dX6_copyFrom_95 fo_X6_33 (AtState_0 h1) rfl ?_
  obtain ⟨Pm1, hRm1, h⟩ := h
  refine g_callV (pc := 98) (as := [.ref (a1 + 7)]) dX6_copyFrom_98 cw_X6_53 (by decide) rfl rfl (AtLogs_0 (AtState.logs h0)) (Nat.le_of_ble_eq_true rfl) hRm1 ?_
  intro r_ m1 hz_ hp_
  obtain rfl := hz_
  have h := h m1 hp_
  refine g_aload_n (pc := 101) (x := t0) dX6_copyFrom_101 rfl ?_
  refine g_aload_n (pc := 102) (x := a1) dX6_copyFrom_102 rfl ?_
  refine g_getI (pc := 103) dX6_copyFrom_103 fo_X6_37 (AtState_0 h1) rfl ?_
  refine g_putI (pc := 106) dX6_copyFrom_106 fo_X6_37 (AtState_0 h0) rfl rfl rfl ?_
  refine g_aload_n (pc := 109) (x := t0) dX6_copyFrom_109 rfl ?_
  refine g_aload_n (pc := 110) (x := a1) dX6_copyFrom_110 rfl ?_
  refine g_getI (pc := 111) dX6_copyFrom_111 fo_X6_41 (AtState_0 h1) rfl ?_
  refine g_putI (pc := 114) dX6_copyFrom_114 fo_X6_41 (AtState_0 h0) rfl rfl rfl ?_
  exact g_vret (pc := 117) dX6_copyFrom_117 rfl rfl h
theorem dX6_settle_0 : decode cX6_settle 0 = .ok (.iconst 0, 1) := by decide +kernel
theorem dX6_settle_1 : decode cX6_settle 1 = .ok (.istore_n 3, 1) := by decide +kernel
theorem dX6_settle_2 : decode cX6_settle 2 = .ok (.iload_n 3, 1) := by decide +kernel
theorem dX6_settle_3 : decode cX6_settle 3 = .ok (.bipush 16, 2) := by decide +kernel
theorem dX6_settle_5 : decode cX6_settle 5 = .ok (.if_icmp .ge 41, 3) := by decide +kernel
theorem dX6_settle_8 : decode cX6_settle 8 = .ok (.iload_n 3, 1) := by decide +kernel
theorem dX6_settle_9 : decode cX6_settle 9 = .ok (.iload_n 1, 1) := by decide +kernel
theorem dX6_settle_10 : decode cX6_settle 10 = .ok (.if_icmp .ne 13, 3) := by decide +kernel
theorem dX6_settle_13 : decode cX6_settle 13 = .ok (.aload_n 0, 1) := by decide +kernel
theorem dX6_settle_14 : decode cX6_settle 14 = .ok (.getfield 15, 3) := by decide +kernel
theorem dX6_settle_17 : decode cX6_settle 17 = .ok (.iload_n 3, 1) := by decide +kernel
theorem dX6_settle_18 : decode cX6_settle 18 = .ok (.iload_n 2, 1) := by decide +kernel
theorem dX6_settle_19 : decode cX6_settle 19 = .ok (.iastore, 1) := by decide +kernel
theorem dX6_settle_20 : decode cX6_settle 20 = .ok (.goto 20, 3) := by decide +kernel
theorem dX6_settle_23 : decode cX6_settle 23 = .ok (.aload_n 0, 1) := by decide +kernel
theorem dX6_settle_24 : decode cX6_settle 24 = .ok (.getfield 15, 3) := by decide +kernel
theorem dX6_settle_27 : decode cX6_settle 27 = .ok (.iload_n 3, 1) := by decide +kernel
theorem dX6_settle_28 : decode cX6_settle 28 = .ok (.iaload, 1) := by decide +kernel
theorem dX6_settle_29 : decode cX6_settle 29 = .ok (.iload_n 2, 1) := by decide +kernel
theorem dX6_settle_30 : decode cX6_settle 30 = .ok (.if_icmp .ne 10, 3) := by decide +kernel
theorem dX6_settle_33 : decode cX6_settle 33 = .ok (.aload_n 0, 1) := by decide +kernel
theorem dX6_settle_34 : decode cX6_settle 34 = .ok (.getfield 15, 3) := by decide +kernel
theorem dX6_settle_37 : decode cX6_settle 37 = .ok (.iload_n 3, 1) := by decide +kernel
theorem dX6_settle_38 : decode cX6_settle 38 = .ok (.iconst (-1), 1) := by decide +kernel
theorem dX6_settle_39 : decode cX6_settle 39 = .ok (.iastore, 1) := by decide +kernel
theorem dX6_settle_40 : decode cX6_settle 40 = .ok (.iinc 3 1, 3) := by decide +kernel
theorem dX6_settle_43 : decode cX6_settle 43 = .ok (.goto (-41), 3) := by decide +kernel
theorem dX6_settle_46 : decode cX6_settle 46 = .ok (.return_, 1) := by decide +kernel
theorem b_X6_settle (mm : MM) (Q : Value → MM → Prop) (t0 : Nat) (a1 : Int32) (a2 : Int32) (h0 : AtState t0) (h : G e_X6_settle 2 [(0, .ref t0), (1, .int a1), (2, .int a2), (3, .int (0 : Int32))] [] mm Q) : Runs e_X6_settle [.ref t0, .int a1, .int a2] mm Q := by
  refine runs_of_G (L := [(0, .ref t0), (1, .int a1), (2, .int a2)]) pl_X6 (Nat.le_of_ble_eq_true rfl) rfl ?_
  refine g_iconst (pc := 0) (v := (0 : Int32)) dX6_settle_0 (by decide) ?_
  refine g_istore_n (pc := 1) (L' := [(0, .ref t0), (1, .int a1), (2, .int a2), (3, .int (0 : Int32))]) dX6_settle_1 (Nat.le_of_ble_eq_true rfl) rfl ?_
  exact h
theorem b_X6_settle_2 (mm : MM) (Q : Value → MM → Prop) (l0 : Nat) (l1 : Int32) (l2 : Int32) (l3 : Int32) (k0 : AtState l0) (h : ((16 : Int32) ≤ l3 → (Q .null mm)) ∧ (¬ (16 : Int32) ≤ l3 → ((¬ l3 = l1 → (vp_in l3 16 ∧ ((¬ (mm.1 (l0 + 2) l3.toNatClampNeg) = l2 → (G e_X6_settle 2 [(0, .ref l0), (1, .int l1), (2, .int l2), (3, .int (l3 + (1 : Int32)))] [] mm Q)) ∧ ((mm.1 (l0 + 2) l3.toNatClampNeg) = l2 → (vp_in l3 16 ∧ (G e_X6_settle 2 [(0, .ref l0), (1, .int l1), (2, .int l2), (3, .int (l3 + (1 : Int32)))] [] (wI mm (l0 + 2) (l3.toNatClampNeg) (-1 : Int32)) Q)))))) ∧ (l3 = l1 → (vp_in l3 16 ∧ (G e_X6_settle 2 [(0, .ref l0), (1, .int l1), (2, .int l2), (3, .int (l3 + (1 : Int32)))] [] (wI mm (l0 + 2) (l3.toNatClampNeg) l2) Q)))))) : G e_X6_settle 2 [(0, .ref l0), (1, .int l1), (2, .int l2), (3, .int l3)] [] mm Q := by
  refine g_iload_n (pc := 2) (x := l3) dX6_settle_2 rfl ?_
  refine g_bipush (pc := 3) (v := (16 : Int32)) dX6_settle_3 (by decide) ?_
  refine g_icmp_ge (pc := 5) (tgt := 46) dX6_settle_5 (by decide) (fun c5 => ?_) (fun c5 => ?_)
  · have h := h.1 c5
    exact g_vret (pc := 46) dX6_settle_46 rfl rfl h
  · have h := h.2 c5
    refine g_iload_n (pc := 8) (x := l3) dX6_settle_8 rfl ?_
    refine g_iload_n (pc := 9) (x := l1) dX6_settle_9 rfl ?_
    refine g_icmp_ne (pc := 10) (tgt := 23) dX6_settle_10 (by decide) (fun c10 => ?_) (fun c10 => ?_)
    · have h := h.1 c10
      refine g_aload_n (pc := 23) (x := l0) dX6_settle_23 rfl ?_
      refine g_getR (pc := 24) (dd := 2) dX6_settle_24 fo_X6_15 (AtState_0 k0) rfl ?_
      refine g_iload_n (pc := 27) (x := l3) dX6_settle_27 rfl ?_
      refine g_iaload (pc := 28) dX6_settle_28 (AtState_2 k0) h.1 ?_
      have h := h.2
      refine g_iload_n (pc := 29) (x := l2) dX6_settle_29 rfl ?_
      refine g_icmp_ne (pc := 30) (tgt := 40) dX6_settle_30 (by decide) (fun c30 => ?_) (fun c30 => ?_)
      · have h := h.1 c30
        refine g_iinc (pc := 40) (x := l3) (v := (l3 + (1 : Int32))) (L' := [(0, .ref l0), (1, .int l1), (2, .int l2), (3, .int (l3 + (1 : Int32)))]) dX6_settle_40 rfl rfl (Nat.le_of_ble_eq_true rfl) rfl ?_
        refine g_goto (pc := 43) (tgt := 2) dX6_settle_43 (by decide) ?_
        exact h
      · have h := h.2 c30
        refine g_aload_n (pc := 33) (x := l0) dX6_settle_33 rfl ?_
        refine g_getR (pc := 34) (dd := 2) dX6_settle_34 fo_X6_15 (AtState_0 k0) rfl ?_
        refine g_iload_n (pc := 37) (x := l3) dX6_settle_37 rfl ?_
        refine g_iconst (pc := 38) (v := (-1 : Int32)) dX6_settle_38 (by decide) ?_
        refine g_iastore (pc := 39) dX6_settle_39 (AtState_2 k0) h.1 ?_
        have h := h.2
        refine g_iinc (pc := 40) (x := l3) (v := (l3 + (1 : Int32))) (L' := [(0, .ref l0), (1, .int l1), (2, .int l2), (3, .int (l3 + (1 : Int32)))]) dX6_settle_40 rfl rfl (Nat.le_of_ble_eq_true rfl) rfl ?_
        refine g_goto (pc := 43) (tgt := 2) dX6_settle_43 (by decide) ?_
        exact h
    · have h := h.2 c10
      refine g_aload_n (pc := 13) (x := l0) dX6_settle_13 rfl ?_
      refine g_getR (pc := 14) (dd := 2) dX6_settle_14 fo_X6_15 (AtState_0 k0) rfl ?_
      refine g_iload_n (pc := 17) (x := l3) dX6_settle_17 rfl ?_
      refine g_iload_n (pc := 18) (x := l2) dX6_settle_18 rfl ?_
      refine g_iastore (pc := 19) dX6_settle_19 (AtState_2 k0) h.1 ?_
      have h := h.2
      refine g_goto (pc := 20) (tgt := 40) dX6_settle_20 (by decide) ?_
      refine g_iinc (pc := 40) (x := l3) (v := (l3 + (1 : Int32))) (L' := [(0, .ref l0), (1, .int l1), (2, .int l2), (3, .int (l3 + (1 : Int32)))]) dX6_settle_40 rfl rfl (Nat.le_of_ble_eq_true rfl) rfl ?_
      refine g_goto (pc := 43) (tgt := 2) dX6_settle_43 (by decide) ?_
      exact h
theorem dX6_whoIsIn_0 : decode cX6_whoIsIn 0 = .ok (.iconst 0, 1) := by decide +kernel
theorem dX6_whoIsIn_1 : decode cX6_whoIsIn 1 = .ok (.istore_n 2, 1) := by decide +kernel
theorem dX6_whoIsIn_2 : decode cX6_whoIsIn 2 = .ok (.iload_n 2, 1) := by decide +kernel
theorem dX6_whoIsIn_3 : decode cX6_whoIsIn 3 = .ok (.bipush 16, 2) := by decide +kernel
theorem dX6_whoIsIn_5 : decode cX6_whoIsIn 5 = .ok (.if_icmp .ge 21, 3) := by decide +kernel
theorem dX6_whoIsIn_8 : decode cX6_whoIsIn 8 = .ok (.aload_n 0, 1) := by decide +kernel
theorem dX6_whoIsIn_9 : decode cX6_whoIsIn 9 = .ok (.getfield 15, 3) := by decide +kernel
theorem dX6_whoIsIn_12 : decode cX6_whoIsIn 12 = .ok (.iload_n 2, 1) := by decide +kernel
theorem dX6_whoIsIn_13 : decode cX6_whoIsIn 13 = .ok (.iaload, 1) := by decide +kernel
theorem dX6_whoIsIn_14 : decode cX6_whoIsIn 14 = .ok (.iload_n 1, 1) := by decide +kernel
theorem dX6_whoIsIn_15 : decode cX6_whoIsIn 15 = .ok (.if_icmp .ne 5, 3) := by decide +kernel
theorem dX6_whoIsIn_18 : decode cX6_whoIsIn 18 = .ok (.iload_n 2, 1) := by decide +kernel
theorem dX6_whoIsIn_19 : decode cX6_whoIsIn 19 = .ok (.ireturn, 1) := by decide +kernel
theorem dX6_whoIsIn_20 : decode cX6_whoIsIn 20 = .ok (.iinc 2 1, 3) := by decide +kernel
theorem dX6_whoIsIn_23 : decode cX6_whoIsIn 23 = .ok (.goto (-21), 3) := by decide +kernel
theorem dX6_whoIsIn_26 : decode cX6_whoIsIn 26 = .ok (.bipush (-2), 2) := by decide +kernel
theorem dX6_whoIsIn_28 : decode cX6_whoIsIn 28 = .ok (.ireturn, 1) := by decide +kernel
theorem b_X6_whoIsIn (mm : MM) (Q : Value → MM → Prop) (t0 : Nat) (a1 : Int32) (h0 : AtState t0) (h : G e_X6_whoIsIn 2 [(0, .ref t0), (1, .int a1), (2, .int (0 : Int32))] [] mm Q) : Runs e_X6_whoIsIn [.ref t0, .int a1] mm Q := by
  refine runs_of_G (L := [(0, .ref t0), (1, .int a1)]) pl_X6 (Nat.le_of_ble_eq_true rfl) rfl ?_
  refine g_iconst (pc := 0) (v := (0 : Int32)) dX6_whoIsIn_0 (by decide) ?_
  refine g_istore_n (pc := 1) (L' := [(0, .ref t0), (1, .int a1), (2, .int (0 : Int32))]) dX6_whoIsIn_1 (Nat.le_of_ble_eq_true rfl) rfl ?_
  exact h
theorem b_X6_whoIsIn_2 (mm : MM) (Q : Value → MM → Prop) (l0 : Nat) (l1 : Int32) (l2 : Int32) (k0 : AtState l0) (h : ((16 : Int32) ≤ l2 → (Q (.int (-2 : Int32)) mm)) ∧ (¬ (16 : Int32) ≤ l2 → (vp_in l2 16 ∧ ((¬ (mm.1 (l0 + 2) l2.toNatClampNeg) = l1 → (G e_X6_whoIsIn 2 [(0, .ref l0), (1, .int l1), (2, .int (l2 + (1 : Int32)))] [] mm Q)) ∧ ((mm.1 (l0 + 2) l2.toNatClampNeg) = l1 → (Q (.int l2) mm)))))) : G e_X6_whoIsIn 2 [(0, .ref l0), (1, .int l1), (2, .int l2)] [] mm Q := by
  refine g_iload_n (pc := 2) (x := l2) dX6_whoIsIn_2 rfl ?_
  refine g_bipush (pc := 3) (v := (16 : Int32)) dX6_whoIsIn_3 (by decide) ?_
  refine g_icmp_ge (pc := 5) (tgt := 26) dX6_whoIsIn_5 (by decide) (fun c5 => ?_) (fun c5 => ?_)
  · have h := h.1 c5
    refine g_bipush (pc := 26) (v := (-2 : Int32)) dX6_whoIsIn_26 (by decide) ?_
    exact g_iret (pc := 28) dX6_whoIsIn_28 rfl rfl rfl h
  · have h := h.2 c5
    refine g_aload_n (pc := 8) (x := l0) dX6_whoIsIn_8 rfl ?_
    refine g_getR (pc := 9) (dd := 2) dX6_whoIsIn_9 fo_X6_15 (AtState_0 k0) rfl ?_
    refine g_iload_n (pc := 12) (x := l2) dX6_whoIsIn_12 rfl ?_
    refine g_iaload (pc := 13) dX6_whoIsIn_13 (AtState_2 k0) h.1 ?_
    have h := h.2
    refine g_iload_n (pc := 14) (x := l1) dX6_whoIsIn_14 rfl ?_
    refine g_icmp_ne (pc := 15) (tgt := 20) dX6_whoIsIn_15 (by decide) (fun c15 => ?_) (fun c15 => ?_)
    · have h := h.1 c15
      refine g_iinc (pc := 20) (x := l2) (v := (l2 + (1 : Int32))) (L' := [(0, .ref l0), (1, .int l1), (2, .int (l2 + (1 : Int32)))]) dX6_whoIsIn_20 rfl rfl (Nat.le_of_ble_eq_true rfl) rfl ?_
      refine g_goto (pc := 23) (tgt := 2) dX6_whoIsIn_23 (by decide) ?_
      exact h
    · have h := h.2 c15
      refine g_iload_n (pc := 18) (x := l2) dX6_whoIsIn_18 rfl ?_
      exact g_iret (pc := 19) dX6_whoIsIn_19 rfl rfl rfl h
theorem dX6_tellWork_0 : decode cX6_tellWork 0 = .ok (.aload_n 0, 1) := by decide +kernel
theorem dX6_tellWork_1 : decode cX6_tellWork 1 = .ok (.getfield 37, 3) := by decide +kernel
theorem dX6_tellWork_4 : decode cX6_tellWork 4 = .ok (.ifCond .lt 12, 3) := by decide +kernel
theorem dX6_tellWork_7 : decode cX6_tellWork 7 = .ok (.aload_n 0, 1) := by decide +kernel
theorem dX6_tellWork_8 : decode cX6_tellWork 8 = .ok (.getfield 37, 3) := by decide +kernel
theorem dX6_tellWork_11 : decode cX6_tellWork 11 = .ok (.bipush 40, 2) := by decide +kernel
theorem dX6_tellWork_13 : decode cX6_tellWork 13 = .ok (.if_icmp .lt 5, 3) := by decide +kernel
theorem dX6_tellWork_16 : decode cX6_tellWork 16 = .ok (.iconst (-1), 1) := by decide +kernel
theorem dX6_tellWork_17 : decode cX6_tellWork 17 = .ok (.ireturn, 1) := by decide +kernel
theorem dX6_tellWork_18 : decode cX6_tellWork 18 = .ok (.aload_n 0, 1) := by decide +kernel
theorem dX6_tellWork_19 : decode cX6_tellWork 19 = .ok (.getfield 21, 3) := by decide +kernel
theorem dX6_tellWork_22 : decode cX6_tellWork 22 = .ok (.aload_n 0, 1) := by decide +kernel
theorem dX6_tellWork_23 : decode cX6_tellWork 23 = .ok (.getfield 37, 3) := by decide +kernel
theorem dX6_tellWork_26 : decode cX6_tellWork 26 = .ok (.iload_n 1, 1) := by decide +kernel
theorem dX6_tellWork_27 : decode cX6_tellWork 27 = .ok (.iastore, 1) := by decide +kernel
theorem dX6_tellWork_28 : decode cX6_tellWork 28 = .ok (.aload_n 0, 1) := by decide +kernel
theorem dX6_tellWork_29 : decode cX6_tellWork 29 = .ok (.getfield 24, 3) := by decide +kernel
theorem dX6_tellWork_32 : decode cX6_tellWork 32 = .ok (.aload_n 0, 1) := by decide +kernel
theorem dX6_tellWork_33 : decode cX6_tellWork 33 = .ok (.getfield 37, 3) := by decide +kernel
theorem dX6_tellWork_36 : decode cX6_tellWork 36 = .ok (.iload_n 2, 1) := by decide +kernel
theorem dX6_tellWork_37 : decode cX6_tellWork 37 = .ok (.iastore, 1) := by decide +kernel
theorem dX6_tellWork_38 : decode cX6_tellWork 38 = .ok (.aload_n 0, 1) := by decide +kernel
theorem dX6_tellWork_39 : decode cX6_tellWork 39 = .ok (.getfield 27, 3) := by decide +kernel
theorem dX6_tellWork_42 : decode cX6_tellWork 42 = .ok (.aload_n 0, 1) := by decide +kernel
theorem dX6_tellWork_43 : decode cX6_tellWork 43 = .ok (.getfield 37, 3) := by decide +kernel
theorem dX6_tellWork_46 : decode cX6_tellWork 46 = .ok (.iload_n 3, 1) := by decide +kernel
theorem dX6_tellWork_47 : decode cX6_tellWork 47 = .ok (.iastore, 1) := by decide +kernel
theorem dX6_tellWork_48 : decode cX6_tellWork 48 = .ok (.aload_n 0, 1) := by decide +kernel
theorem dX6_tellWork_49 : decode cX6_tellWork 49 = .ok (.dup, 1) := by decide +kernel
theorem dX6_tellWork_50 : decode cX6_tellWork 50 = .ok (.getfield 37, 3) := by decide +kernel
theorem dX6_tellWork_53 : decode cX6_tellWork 53 = .ok (.iconst 1, 1) := by decide +kernel
theorem dX6_tellWork_54 : decode cX6_tellWork 54 = .ok (.iadd, 1) := by decide +kernel
theorem dX6_tellWork_55 : decode cX6_tellWork 55 = .ok (.putfield 37, 3) := by decide +kernel
theorem dX6_tellWork_58 : decode cX6_tellWork 58 = .ok (.aload_n 0, 1) := by decide +kernel
theorem dX6_tellWork_59 : decode cX6_tellWork 59 = .ok (.getfield 37, 3) := by decide +kernel
theorem dX6_tellWork_62 : decode cX6_tellWork 62 = .ok (.iconst 1, 1) := by decide +kernel
theorem dX6_tellWork_63 : decode cX6_tellWork 63 = .ok (.isub, 1) := by decide +kernel
theorem dX6_tellWork_64 : decode cX6_tellWork 64 = .ok (.ireturn, 1) := by decide +kernel
theorem b_X6_tellWork (mm : MM) (Q : Value → MM → Prop) (t0 : Nat) (a1 : Int32) (a2 : Int32) (a3 : Int32) (h0 : AtState t0) (h : ((mm.1 t0 7) < 0 → (Q (.int (-1 : Int32)) mm)) ∧ (¬ (mm.1 t0 7) < 0 → (((mm.1 t0 7) < (40 : Int32) → (vp_in (mm.1 t0 7) 40 ∧ (vp_in ((wI mm (t0 + 4) ((mm.1 t0 7).toNatClampNeg) a1).1 t0 7) 40 ∧ (vp_in ((wI (wI mm (t0 + 4) ((mm.1 t0 7).toNatClampNeg) a1) (t0 + 5) (((wI mm (t0 + 4) ((mm.1 t0 7).toNatClampNeg) a1).1 t0 7).toNatClampNeg) a2).1 t0 7) 40 ∧ (Q (.int (((wI (wI (wI (wI mm (t0 + 4) ((mm.1 t0 7).toNatClampNeg) a1) (t0 + 5) (((wI mm (t0 + 4) ((mm.1 t0 7).toNatClampNeg) a1).1 t0 7).toNatClampNeg) a2) (t0 + 6) (((wI (wI mm (t0 + 4) ((mm.1 t0 7).toNatClampNeg) a1) (t0 + 5) (((wI mm (t0 + 4) ((mm.1 t0 7).toNatClampNeg) a1).1 t0 7).toNatClampNeg) a2).1 t0 7).toNatClampNeg) a3) t0 7 (((wI (wI (wI mm (t0 + 4) ((mm.1 t0 7).toNatClampNeg) a1) (t0 + 5) (((wI mm (t0 + 4) ((mm.1 t0 7).toNatClampNeg) a1).1 t0 7).toNatClampNeg) a2) (t0 + 6) (((wI (wI mm (t0 + 4) ((mm.1 t0 7).toNatClampNeg) a1) (t0 + 5) (((wI mm (t0 + 4) ((mm.1 t0 7).toNatClampNeg) a1).1 t0 7).toNatClampNeg) a2).1 t0 7).toNatClampNeg) a3).1 t0 7) + (1 : Int32))).1 t0 7) - (1 : Int32))) (wI (wI (wI (wI mm (t0 + 4) ((mm.1 t0 7).toNatClampNeg) a1) (t0 + 5) (((wI mm (t0 + 4) ((mm.1 t0 7).toNatClampNeg) a1).1 t0 7).toNatClampNeg) a2) (t0 + 6) (((wI (wI mm (t0 + 4) ((mm.1 t0 7).toNatClampNeg) a1) (t0 + 5) (((wI mm (t0 + 4) ((mm.1 t0 7).toNatClampNeg) a1).1 t0 7).toNatClampNeg) a2).1 t0 7).toNatClampNeg) a3) t0 7 (((wI (wI (wI mm (t0 + 4) ((mm.1 t0 7).toNatClampNeg) a1) (t0 + 5) (((wI mm (t0 + 4) ((mm.1 t0 7).toNatClampNeg) a1).1 t0 7).toNatClampNeg) a2) (t0 + 6) (((wI (wI mm (t0 + 4) ((mm.1 t0 7).toNatClampNeg) a1) (t0 + 5) (((wI mm (t0 + 4) ((mm.1 t0 7).toNatClampNeg) a1).1 t0 7).toNatClampNeg) a2).1 t0 7).toNatClampNeg) a3).1 t0 7) + (1 : Int32)))))))) ∧ (¬ (mm.1 t0 7) < (40 : Int32) → (Q (.int (-1 : Int32)) mm))))) : Runs e_X6_tellWork [.ref t0, .int a1, .int a2, .int a3] mm Q := by
  refine runs_of_G (L := [(0, .ref t0), (1, .int a1), (2, .int a2), (3, .int a3)]) pl_X6 (Nat.le_of_ble_eq_true rfl) rfl ?_
  refine g_aload_n (pc := 0) (x := t0) dX6_tellWork_0 rfl ?_
  refine g_getI (pc := 1) dX6_tellWork_1 fo_X6_37 (AtState_0 h0) rfl ?_
  refine g_if_lt (pc := 4) (tgt := 16) dX6_tellWork_4 (by decide) (fun c4 => ?_) (fun c4 => ?_)
  · have h := h.1 c4
    refine g_iconst (pc := 16) (v := (-1 : Int32)) dX6_tellWork_16 (by decide) ?_
    exact g_iret (pc := 17) dX6_tellWork_17 rfl rfl rfl h
  · have h := h.2 c4
    refine g_aload_n (pc := 7) (x := t0) dX6_tellWork_7 rfl ?_
    refine g_getI (pc := 8) dX6_tellWork_8 fo_X6_37 (AtState_0 h0) rfl ?_
    refine g_bipush (pc := 11) (v := (40 : Int32)) dX6_tellWork_11 (by decide) ?_
    refine g_icmp_lt (pc := 13) (tgt := 18) dX6_tellWork_13 (by decide) (fun c13 => ?_) (fun c13 => ?_)
    · have h := h.1 c13
      refine g_aload_n (pc := 18) (x := t0) dX6_tellWork_18 rfl ?_
      refine g_getR (pc := 19) (dd := 4) dX6_tellWork_19 fo_X6_21 (AtState_0 h0) rfl ?_
      refine g_aload_n (pc := 22) (x := t0) dX6_tellWork_22 rfl ?_
      refine g_getI (pc := 23) dX6_tellWork_23 fo_X6_37 (AtState_0 h0) rfl ?_
      refine g_iload_n (pc := 26) (x := a1) dX6_tellWork_26 rfl ?_
      refine g_iastore (pc := 27) dX6_tellWork_27 (AtState_4 h0) h.1 ?_
      have h := h.2
      refine g_aload_n (pc := 28) (x := t0) dX6_tellWork_28 rfl ?_
      refine g_getR (pc := 29) (dd := 5) dX6_tellWork_29 fo_X6_24 (AtState_0 h0) rfl ?_
      refine g_aload_n (pc := 32) (x := t0) dX6_tellWork_32 rfl ?_
      refine g_getI (pc := 33) dX6_tellWork_33 fo_X6_37 (AtState_0 h0) rfl ?_
      refine g_iload_n (pc := 36) (x := a2) dX6_tellWork_36 rfl ?_
      refine g_iastore (pc := 37) dX6_tellWork_37 (AtState_5 h0) h.1 ?_
      have h := h.2
      refine g_aload_n (pc := 38) (x := t0) dX6_tellWork_38 rfl ?_
      refine g_getR (pc := 39) (dd := 6) dX6_tellWork_39 fo_X6_27 (AtState_0 h0) rfl ?_
      refine g_aload_n (pc := 42) (x := t0) dX6_tellWork_42 rfl ?_
      refine g_getI (pc := 43) dX6_tellWork_43 fo_X6_37 (AtState_0 h0) rfl ?_
      refine g_iload_n (pc := 46) (x := a3) dX6_tellWork_46 rfl ?_
      refine g_iastore (pc := 47) dX6_tellWork_47 (AtState_6 h0) h.1 ?_
      have h := h.2
      refine g_aload_n (pc := 48) (x := t0) dX6_tellWork_48 rfl ?_
      refine g_dup (pc := 49) dX6_tellWork_49 rfl ?_
      refine g_getI (pc := 50) dX6_tellWork_50 fo_X6_37 (AtState_0 h0) rfl ?_
      refine g_iconst (pc := 53) (v := (1 : Int32)) dX6_tellWork_53 (by decide) ?_
      refine g_iadd (pc := 54) dX6_tellWork_54 ?_
      refine g_putI (pc := 55) dX6_tellWork_55 fo_X6_37 (AtState_0 h0) rfl rfl rfl ?_
      refine g_aload_n (pc := 58) (x := t0) dX6_tellWork_58 rfl ?_
      refine g_getI (pc := 59) dX6_tellWork_59 fo_X6_37 (AtState_0 h0) rfl ?_
      refine g_iconst (pc := 62) (v := (1 : Int32)) dX6_tellWork_62 (by decide) ?_
      refine g_isub (pc := 63) dX6_tellWork_63 ?_
      exact g_iret (pc := 64) dX6_tellWork_64 rfl rfl rfl h
    · have h := h.2 c13
      refine g_iconst (pc := 16) (v := (-1 : Int32)) dX6_tellWork_16 (by decide) ?_
      exact g_iret (pc := 17) dX6_tellWork_17 rfl rfl rfl h
theorem dX7_append_0 : decode cX7_append 0 = .ok (.bipush 24, 2) := by decide +kernel
theorem dX7_append_2 : decode cX7_append 2 = .ok (.istore_n 2, 1) := by decide +kernel
theorem dX7_append_3 : decode cX7_append 3 = .ok (.iload_n 2, 1) := by decide +kernel
theorem dX7_append_4 : decode cX7_append 4 = .ok (.ifCond .lt 49, 3) := by decide +kernel
theorem dX7_append_7 : decode cX7_append 7 = .ok (.aload_n 0, 1) := by decide +kernel
theorem dX7_append_8 : decode cX7_append 8 = .ok (.getfield 26, 3) := by decide +kernel
theorem dX7_append_11 : decode cX7_append 11 = .ok (.ifCond .lt 36, 3) := by decide +kernel
theorem dX7_append_14 : decode cX7_append 14 = .ok (.aload_n 0, 1) := by decide +kernel
theorem dX7_append_15 : decode cX7_append 15 = .ok (.getfield 26, 3) := by decide +kernel
theorem dX7_append_18 : decode cX7_append 18 = .ok (.sipush 2000, 3) := by decide +kernel
theorem dX7_append_21 : decode cX7_append 21 = .ok (.if_icmp .ge 26, 3) := by decide +kernel
theorem dX7_append_24 : decode cX7_append 24 = .ok (.aload_n 0, 1) := by decide +kernel
theorem dX7_append_25 : decode cX7_append 25 = .ok (.getfield 9, 3) := by decide +kernel
theorem dX7_append_28 : decode cX7_append 28 = .ok (.aload_n 0, 1) := by decide +kernel
theorem dX7_append_29 : decode cX7_append 29 = .ok (.getfield 26, 3) := by decide +kernel
theorem dX7_append_32 : decode cX7_append 32 = .ok (.iload_n 1, 1) := by decide +kernel
theorem dX7_append_33 : decode cX7_append 33 = .ok (.iload_n 2, 1) := by decide +kernel
theorem dX7_append_34 : decode cX7_append 34 = .ok (.iushr, 1) := by decide +kernel
theorem dX7_append_35 : decode cX7_append 35 = .ok (.i2b, 1) := by decide +kernel
theorem dX7_append_36 : decode cX7_append 36 = .ok (.bastore, 1) := by decide +kernel
theorem dX7_append_37 : decode cX7_append 37 = .ok (.aload_n 0, 1) := by decide +kernel
theorem dX7_append_38 : decode cX7_append 38 = .ok (.dup, 1) := by decide +kernel
theorem dX7_append_39 : decode cX7_append 39 = .ok (.getfield 26, 3) := by decide +kernel
theorem dX7_append_42 : decode cX7_append 42 = .ok (.iconst 1, 1) := by decide +kernel
theorem dX7_append_43 : decode cX7_append 43 = .ok (.iadd, 1) := by decide +kernel
theorem dX7_append_44 : decode cX7_append 44 = .ok (.putfield 26, 3) := by decide +kernel
theorem dX7_append_47 : decode cX7_append 47 = .ok (.iinc 2 (-8), 3) := by decide +kernel
theorem dX7_append_50 : decode cX7_append 50 = .ok (.goto (-47), 3) := by decide +kernel
theorem dX7_append_53 : decode cX7_append 53 = .ok (.return_, 1) := by decide +kernel
theorem b_X7_append (mm : MM) (Q : Value → MM → Prop) (a1 : Int32) (h : G e_X7_append 3 [(0, .ref 5), (1, .int a1), (2, .int (24 : Int32))] [] mm Q) : Runs e_X7_append [.ref 5, .int a1] mm Q := by
  refine runs_of_G (L := [(0, .ref 5), (1, .int a1)]) pl_X7 (Nat.le_of_ble_eq_true rfl) rfl ?_
  refine g_bipush (pc := 0) (v := (24 : Int32)) dX7_append_0 (by decide) ?_
  refine g_istore_n (pc := 2) (L' := [(0, .ref 5), (1, .int a1), (2, .int (24 : Int32))]) dX7_append_2 (Nat.le_of_ble_eq_true rfl) rfl ?_
  exact h
theorem b_X7_append_3 (mm : MM) (Q : Value → MM → Prop) (l1 : Int32) (l2 : Int32) (h : (l2 < 0 → (Q .null mm)) ∧ (¬ l2 < 0 → (((mm.1 5 4) < 0 → (G e_X7_append 3 [(0, .ref 5), (1, .int l1), (2, .int (l2 + (-8 : Int32)))] [] mm Q)) ∧ (¬ (mm.1 5 4) < 0 → (((2000 : Int32) ≤ (mm.1 5 4) → (G e_X7_append 3 [(0, .ref 5), (1, .int l1), (2, .int (l2 + (-8 : Int32)))] [] mm Q)) ∧ (¬ (2000 : Int32) ≤ (mm.1 5 4) → (vp_in (mm.1 5 4) 2000 ∧ (G e_X7_append 3 [(0, .ref 5), (1, .int l1), (2, .int (l2 + (-8 : Int32)))] [] (wI (wI mm 6 ((mm.1 5 4).toNatClampNeg) (vp_nar .byte (ushr l1 l2).toInt8.toInt32)) 5 4 (((wI mm 6 ((mm.1 5 4).toNatClampNeg) (vp_nar .byte (ushr l1 l2).toInt8.toInt32)).1 5 4) + (1 : Int32))) Q)))))))) : G e_X7_append 3 [(0, .ref 5), (1, .int l1), (2, .int l2)] [] mm Q := by
  refine g_iload_n (pc := 3) (x := l2) dX7_append_3 rfl ?_
  refine g_if_lt (pc := 4) (tgt := 53) dX7_append_4 (by decide) (fun c4 => ?_) (fun c4 => ?_)
  · have h := h.1 c4
    exact g_vret (pc := 53) dX7_append_53 rfl rfl h
  · have h := h.2 c4
    refine g_aload_n (pc := 7) (x := 5) dX7_append_7 rfl ?_
    refine g_getI (pc := 8) dX7_append_8 fo_X7_26 sh_5 rfl ?_
    refine g_if_lt (pc := 11) (tgt := 47) dX7_append_11 (by decide) (fun c11 => ?_) (fun c11 => ?_)
    · have h := h.1 c11
      refine g_iinc (pc := 47) (x := l2) (v := (l2 + (-8 : Int32))) (L' := [(0, .ref 5), (1, .int l1), (2, .int (l2 + (-8 : Int32)))]) dX7_append_47 rfl rfl (Nat.le_of_ble_eq_true rfl) rfl ?_
      refine g_goto (pc := 50) (tgt := 3) dX7_append_50 (by decide) ?_
      exact h
    · have h := h.2 c11
      refine g_aload_n (pc := 14) (x := 5) dX7_append_14 rfl ?_
      refine g_getI (pc := 15) dX7_append_15 fo_X7_26 sh_5 rfl ?_
      refine g_sipush (pc := 18) (v := (2000 : Int32)) dX7_append_18 (by decide) ?_
      refine g_icmp_ge (pc := 21) (tgt := 47) dX7_append_21 (by decide) (fun c21 => ?_) (fun c21 => ?_)
      · have h := h.1 c21
        refine g_iinc (pc := 47) (x := l2) (v := (l2 + (-8 : Int32))) (L' := [(0, .ref 5), (1, .int l1), (2, .int (l2 + (-8 : Int32)))]) dX7_append_47 rfl rfl (Nat.le_of_ble_eq_true rfl) rfl ?_
        refine g_goto (pc := 50) (tgt := 3) dX7_append_50 (by decide) ?_
        exact h
      · have h := h.2 c21
        refine g_aload_n (pc := 24) (x := 5) dX7_append_24 rfl ?_
        refine g_getR (pc := 25) (dd := 1) dX7_append_25 fo_X7_9 sh_5 rfl ?_
        refine g_aload_n (pc := 28) (x := 5) dX7_append_28 rfl ?_
        refine g_getI (pc := 29) dX7_append_29 fo_X7_26 sh_5 rfl ?_
        refine g_iload_n (pc := 32) (x := l1) dX7_append_32 rfl ?_
        refine g_iload_n (pc := 33) (x := l2) dX7_append_33 rfl ?_
        refine g_iushr (pc := 34) dX7_append_34 ?_
        refine g_i2b (pc := 35) dX7_append_35 ?_
        refine g_bastore (pc := 36) dX7_append_36 sh_6 h.1 ?_
        have h := h.2
        refine g_aload_n (pc := 37) (x := 5) dX7_append_37 rfl ?_
        refine g_dup (pc := 38) dX7_append_38 rfl ?_
        refine g_getI (pc := 39) dX7_append_39 fo_X7_26 sh_5 rfl ?_
        refine g_iconst (pc := 42) (v := (1 : Int32)) dX7_append_42 (by decide) ?_
        refine g_iadd (pc := 43) dX7_append_43 ?_
        refine g_putI (pc := 44) dX7_append_44 fo_X7_26 sh_5 rfl rfl rfl ?_
        refine g_iinc (pc := 47) (x := l2) (v := (l2 + (-8 : Int32))) (L' := [(0, .ref 5), (1, .int l1), (2, .int (l2 + (-8 : Int32)))]) dX7_append_47 rfl rfl (Nat.le_of_ble_eq_true rfl) rfl ?_
        refine g_goto (pc := 50) (tgt := 3) dX7_append_50 (by decide) ?_
        exact h
theorem dX7_byteAt_0 : decode cX7_byteAt 0 = .ok (.iload_n 1, 1) := by decide +kernel
theorem dX7_byteAt_1 : decode cX7_byteAt 1 = .ok (.ifCond .lt 24, 3) := by decide +kernel
theorem dX7_byteAt_4 : decode cX7_byteAt 4 = .ok (.iload_n 1, 1) := by decide +kernel
theorem dX7_byteAt_5 : decode cX7_byteAt 5 = .ok (.aload_n 0, 1) := by decide +kernel
theorem dX7_byteAt_6 : decode cX7_byteAt 6 = .ok (.getfield 26, 3) := by decide +kernel
theorem dX7_byteAt_9 : decode cX7_byteAt 9 = .ok (.if_icmp .ge 16, 3) := by decide +kernel
theorem dX7_byteAt_12 : decode cX7_byteAt 12 = .ok (.aload_n 0, 1) := by decide +kernel
theorem dX7_byteAt_13 : decode cX7_byteAt 13 = .ok (.getfield 9, 3) := by decide +kernel
theorem dX7_byteAt_16 : decode cX7_byteAt 16 = .ok (.iload_n 1, 1) := by decide +kernel
theorem dX7_byteAt_17 : decode cX7_byteAt 17 = .ok (.baload, 1) := by decide +kernel
theorem dX7_byteAt_18 : decode cX7_byteAt 18 = .ok (.sipush 255, 3) := by decide +kernel
theorem dX7_byteAt_21 : decode cX7_byteAt 21 = .ok (.iand, 1) := by decide +kernel
theorem dX7_byteAt_22 : decode cX7_byteAt 22 = .ok (.goto 4, 3) := by decide +kernel
theorem dX7_byteAt_25 : decode cX7_byteAt 25 = .ok (.iconst (-1), 1) := by decide +kernel
theorem dX7_byteAt_26 : decode cX7_byteAt 26 = .ok (.ireturn, 1) := by decide +kernel
def o_X7_byteAt (mm : MM) (a1 : Int32) : Prop := (a1 < 0 → (True)) ∧ (¬ a1 < 0 → (((mm.1 5 4) ≤ a1 → (True)) ∧ (¬ (mm.1 5 4) ≤ a1 → (vp_in a1 2000 ∧ (True)))))
noncomputable def v_X7_byteAt (mm : MM) (a1 : Int32) : Int32 := (cite (a1 < 0) (-1 : Int32) (cite ((mm.1 5 4) ≤ a1) (-1 : Int32) ((mm.1 6 a1.toNatClampNeg) &&& (255 : Int32))))
theorem rv_X7_byteAt (mm : MM) (a1 : Int32) (h : o_X7_byteAt mm a1) : Runs e_X7_byteAt [.ref 5, .int a1] mm (fun r m_ => r = .int (v_X7_byteAt mm a1) ∧ mm = m_) := by
  refine runs_of_G (L := [(0, .ref 5), (1, .int a1)]) pl_X7 (Nat.le_of_ble_eq_true rfl) rfl ?_
  unfold o_X7_byteAt at h
  refine g_iload_n (pc := 0) (x := a1) dX7_byteAt_0 rfl ?_
  refine g_if_lt (pc := 1) (tgt := 25) dX7_byteAt_1 (by decide) (fun c1 => ?_) (fun c1 => ?_)
  · have c1_0 : a1 < 0 := c1
    have h := h.1 c1
    refine g_iconst (pc := 25) (v := (-1 : Int32)) dX7_byteAt_25 (by decide) ?_
    exact g_iret (pc := 26) dX7_byteAt_26 rfl rfl rfl ⟨(by unfold v_X7_byteAt; rw [cite_pos c1_0] <;> rfl), rfl⟩
  · have c1_0 : ¬ a1 < 0 := c1
    have h := h.2 c1
    refine g_iload_n (pc := 4) (x := a1) dX7_byteAt_4 rfl ?_
    refine g_aload_n (pc := 5) (x := 5) dX7_byteAt_5 rfl ?_
    refine g_getI (pc := 6) dX7_byteAt_6 fo_X7_26 sh_5 rfl ?_
    refine g_icmp_ge (pc := 9) (tgt := 25) dX7_byteAt_9 (by decide) (fun c9 => ?_) (fun c9 => ?_)
    · have c9_1 : (mm.1 5 4) ≤ a1 := c9
      have h := h.1 c9
      refine g_iconst (pc := 25) (v := (-1 : Int32)) dX7_byteAt_25 (by decide) ?_
      exact g_iret (pc := 26) dX7_byteAt_26 rfl rfl rfl ⟨(by unfold v_X7_byteAt; rw [cite_neg c1_0, cite_pos c9_1] <;> rfl), rfl⟩
    · have c9_1 : ¬ (mm.1 5 4) ≤ a1 := c9
      have h := h.2 c9
      refine g_aload_n (pc := 12) (x := 5) dX7_byteAt_12 rfl ?_
      refine g_getR (pc := 13) (dd := 1) dX7_byteAt_13 fo_X7_9 sh_5 rfl ?_
      refine g_iload_n (pc := 16) (x := a1) dX7_byteAt_16 rfl ?_
      refine g_baload (pc := 17) dX7_byteAt_17 sh_6 h.1 ?_
      have h := h.2
      refine g_sipush (pc := 18) (v := (255 : Int32)) dX7_byteAt_18 (by decide) ?_
      refine g_iand (pc := 21) dX7_byteAt_21 ?_
      refine g_goto (pc := 22) (tgt := 26) dX7_byteAt_22 (by decide) ?_
      exact g_iret (pc := 26) dX7_byteAt_26 rfl rfl rfl ⟨(by unfold v_X7_byteAt; rw [cite_neg c1_0, cite_neg c9_1] <;> rfl), rfl⟩
theorem dX7_scan_0 : decode cX7_scan 0 = .ok (.aload_n 0, 1) := by decide +kernel
theorem dX7_scan_1 : decode cX7_scan 1 = .ok (.iconst 0, 1) := by decide +kernel
theorem dX7_scan_2 : decode cX7_scan 2 = .ok (.putfield 30, 3) := by decide +kernel
theorem dX7_scan_5 : decode cX7_scan 5 = .ok (.iconst 0, 1) := by decide +kernel
theorem dX7_scan_6 : decode cX7_scan 6 = .ok (.istore_n 1, 1) := by decide +kernel
theorem dX7_scan_7 : decode cX7_scan 7 = .ok (.iconst 0, 1) := by decide +kernel
theorem dX7_scan_8 : decode cX7_scan 8 = .ok (.istore_n 2, 1) := by decide +kernel
theorem dX7_scan_9 : decode cX7_scan 9 = .ok (.iload_n 2, 1) := by decide +kernel
theorem dX7_scan_10 : decode cX7_scan 10 = .ok (.sipush 400, 3) := by decide +kernel
theorem dX7_scan_13 : decode cX7_scan 13 = .ok (.if_icmp .gt 67, 3) := by decide +kernel
theorem dX7_scan_16 : decode cX7_scan 16 = .ok (.aload_n 0, 1) := by decide +kernel
theorem dX7_scan_17 : decode cX7_scan 17 = .ok (.getfield 19, 3) := by decide +kernel
theorem dX7_scan_20 : decode cX7_scan 20 = .ok (.iload_n 2, 1) := by decide +kernel
theorem dX7_scan_21 : decode cX7_scan 21 = .ok (.aload_n 0, 1) := by decide +kernel
theorem dX7_scan_22 : decode cX7_scan 22 = .ok (.iload_n 1, 1) := by decide +kernel
theorem dX7_scan_23 : decode cX7_scan 23 = .ok (.invokevirtual 33, 3) := by decide +kernel
theorem dX7_scan_26 : decode cX7_scan 26 = .ok (.iastore, 1) := by decide +kernel
theorem dX7_scan_27 : decode cX7_scan 27 = .ok (.aload_n 0, 1) := by decide +kernel
theorem dX7_scan_28 : decode cX7_scan 28 = .ok (.iload_n 2, 1) := by decide +kernel
theorem dX7_scan_29 : decode cX7_scan 29 = .ok (.aload_n 0, 1) := by decide +kernel
theorem dX7_scan_30 : decode cX7_scan 30 = .ok (.getfield 19, 3) := by decide +kernel
theorem dX7_scan_33 : decode cX7_scan 33 = .ok (.iload_n 2, 1) := by decide +kernel
theorem dX7_scan_34 : decode cX7_scan 34 = .ok (.iaload, 1) := by decide +kernel
theorem dX7_scan_35 : decode cX7_scan 35 = .ok (.invokevirtual 37, 3) := by decide +kernel
theorem dX7_scan_38 : decode cX7_scan 38 = .ok (.istore_n 1, 1) := by decide +kernel
theorem dX7_scan_39 : decode cX7_scan 39 = .ok (.aload_n 0, 1) := by decide +kernel
theorem dX7_scan_40 : decode cX7_scan 40 = .ok (.dup, 1) := by decide +kernel
theorem dX7_scan_41 : decode cX7_scan 41 = .ok (.getfield 30, 3) := by decide +kernel
theorem dX7_scan_44 : decode cX7_scan 44 = .ok (.iconst 1, 1) := by decide +kernel
theorem dX7_scan_45 : decode cX7_scan 45 = .ok (.iadd, 1) := by decide +kernel
theorem dX7_scan_46 : decode cX7_scan 46 = .ok (.putfield 30, 3) := by decide +kernel
theorem dX7_scan_49 : decode cX7_scan 49 = .ok (.aload_n 0, 1) := by decide +kernel
theorem dX7_scan_50 : decode cX7_scan 50 = .ok (.getfield 15, 3) := by decide +kernel
theorem dX7_scan_53 : decode cX7_scan 53 = .ok (.iload_n 2, 1) := by decide +kernel
theorem dX7_scan_54 : decode cX7_scan 54 = .ok (.iaload, 1) := by decide +kernel
theorem dX7_scan_55 : decode cX7_scan 55 = .ok (.bipush 40, 2) := by decide +kernel
theorem dX7_scan_57 : decode cX7_scan 57 = .ok (.if_icmp .eq 23, 3) := by decide +kernel
theorem dX7_scan_60 : decode cX7_scan 60 = .ok (.aload_n 0, 1) := by decide +kernel
theorem dX7_scan_61 : decode cX7_scan 61 = .ok (.getfield 15, 3) := by decide +kernel
theorem dX7_scan_64 : decode cX7_scan 64 = .ok (.iload_n 2, 1) := by decide +kernel
theorem dX7_scan_65 : decode cX7_scan 65 = .ok (.iaload, 1) := by decide +kernel
theorem dX7_scan_66 : decode cX7_scan 66 = .ok (.bipush 41, 2) := by decide +kernel
theorem dX7_scan_68 : decode cX7_scan 68 = .ok (.if_icmp .ne 6, 3) := by decide +kernel
theorem dX7_scan_71 : decode cX7_scan 71 = .ok (.goto 9, 3) := by decide +kernel
theorem dX7_scan_74 : decode cX7_scan 74 = .ok (.iinc 2 1, 3) := by decide +kernel
theorem dX7_scan_77 : decode cX7_scan 77 = .ok (.goto (-68), 3) := by decide +kernel
theorem dX7_scan_80 : decode cX7_scan 80 = .ok (.return_, 1) := by decide +kernel
theorem b_X7_scan (mm : MM) (Q : Value → MM → Prop) (h : G e_X7_scan 9 [(0, .ref 5), (1, .int (0 : Int32)), (2, .int (0 : Int32))] [] (wI mm 5 5 (0 : Int32)) Q) : Runs e_X7_scan [.ref 5] mm Q := by
  refine runs_of_G (L := [(0, .ref 5)]) pl_X7 (Nat.le_of_ble_eq_true rfl) rfl ?_
  refine g_aload_n (pc := 0) (x := 5) dX7_scan_0 rfl ?_
  refine g_iconst (pc := 1) (v := (0 : Int32)) dX7_scan_1 (by decide) ?_
  refine g_putI (pc := 2) dX7_scan_2 fo_X7_30 sh_5 rfl rfl rfl ?_
  refine g_iconst (pc := 5) (v := (0 : Int32)) dX7_scan_5 (by decide) ?_
  refine g_istore_n (pc := 6) (L' := [(0, .ref 5), (1, .int (0 : Int32))]) dX7_scan_6 (Nat.le_of_ble_eq_true rfl) rfl ?_
  refine g_iconst (pc := 7) (v := (0 : Int32)) dX7_scan_7 (by decide) ?_
  refine g_istore_n (pc := 8) (L' := [(0, .ref 5), (1, .int (0 : Int32)), (2, .int (0 : Int32))]) dX7_scan_8 (Nat.le_of_ble_eq_true rfl) rfl ?_
  exact h
theorem b_X7_scan_9 (mm : MM) (Q : Value → MM → Prop) (l1 : Int32) (l2 : Int32) (h : ((400 : Int32) < l2 → (Q .null mm)) ∧ (¬ (400 : Int32) < l2 → (∃ Pm1 : Value → MM → Prop, Runs e_X7_pastBlanks [.ref 5, .int l1] mm Pm1 ∧ ∀ (r1 : Int32) (m1 : MM), Pm1 (.int r1) m1 → (vp_in l2 401 ∧ (vp_in l2 401 ∧ (∃ Pm2 : Value → MM → Prop, Runs e_X7_scanToken [.ref 5, .int l2, .int ((wI m1 8 (l2.toNatClampNeg) r1).1 8 l2.toNatClampNeg)] (wI m1 8 (l2.toNatClampNeg) r1) Pm2 ∧ ∀ (r2 : Int32) (m2 : MM), Pm2 (.int r2) m2 → (vp_in l2 401 ∧ ((((wI m2 5 5 ((m2.1 5 5) + (1 : Int32))).1 7 l2.toNatClampNeg) = (40 : Int32) → (Q .null (wI m2 5 5 ((m2.1 5 5) + (1 : Int32))))) ∧ (¬ ((wI m2 5 5 ((m2.1 5 5) + (1 : Int32))).1 7 l2.toNatClampNeg) = (40 : Int32) → (vp_in l2 401 ∧ ((¬ ((wI m2 5 5 ((m2.1 5 5) + (1 : Int32))).1 7 l2.toNatClampNeg) = (41 : Int32) → (G e_X7_scan 9 [(0, .ref 5), (1, .int r2), (2, .int (l2 + (1 : Int32)))] [] (wI m2 5 5 ((m2.1 5 5) + (1 : Int32))) Q)) ∧ (((wI m2 5 5 ((m2.1 5 5) + (1 : Int32))).1 7 l2.toNatClampNeg) = (41 : Int32) → (Q .null (wI m2 5 5 ((m2.1 5 5) + (1 : Int32)))))))))))))))) : G e_X7_scan 9 [(0, .ref 5), (1, .int l1), (2, .int l2)] [] mm Q := by
  refine g_iload_n (pc := 9) (x := l2) dX7_scan_9 rfl ?_
  refine g_sipush (pc := 10) (v := (400 : Int32)) dX7_scan_10 (by decide) ?_
  refine g_icmp_gt (pc := 13) (tgt := 80) dX7_scan_13 (by decide) (fun c13 => ?_) (fun c13 => ?_)
  · have h := h.1 c13
    exact g_vret (pc := 80) dX7_scan_80 rfl rfl h
  · have h := h.2 c13
    refine g_aload_n (pc := 16) (x := 5) dX7_scan_16 rfl ?_
    refine g_getR (pc := 17) (dd := 3) dX7_scan_17 fo_X7_19 sh_5 rfl ?_
    refine g_iload_n (pc := 20) (x := l2) dX7_scan_20 rfl ?_
    refine g_aload_n (pc := 21) (x := 5) dX7_scan_21 rfl ?_
    refine g_iload_n (pc := 22) (x := l1) dX7_scan_22 rfl ?_
    obtain ⟨Pm1, hRm1, h⟩ := h
    refine g_callV (pc := 23) (as := [.int l1]) dX7_scan_23 cw_X7_33 (by decide) rfl rfl sh_5 (Nat.le_of_ble_eq_true rfl) hRm1 ?_
    intro r_ m1 hz_ hp_
    obtain ⟨r1, rfl⟩ := hz_
    have h := h r1 m1 hp_
    refine g_iastore (pc := 26) dX7_scan_26 sh_8 h.1 ?_
    have h := h.2
    refine g_aload_n (pc := 27) (x := 5) dX7_scan_27 rfl ?_
    refine g_iload_n (pc := 28) (x := l2) dX7_scan_28 rfl ?_
    refine g_aload_n (pc := 29) (x := 5) dX7_scan_29 rfl ?_
    refine g_getR (pc := 30) (dd := 3) dX7_scan_30 fo_X7_19 sh_5 rfl ?_
    refine g_iload_n (pc := 33) (x := l2) dX7_scan_33 rfl ?_
    refine g_iaload (pc := 34) dX7_scan_34 sh_8 h.1 ?_
    have h := h.2
    obtain ⟨Pm2, hRm2, h⟩ := h
    refine g_callV (pc := 35) (as := [.int l2, .int ((wI m1 8 (l2.toNatClampNeg) r1).1 8 l2.toNatClampNeg)]) dX7_scan_35 cw_X7_37 (by decide) rfl rfl sh_5 (Nat.le_of_ble_eq_true rfl) hRm2 ?_
    intro r_ m2 hz_ hp_
    obtain ⟨r2, rfl⟩ := hz_
    have h := h r2 m2 hp_
    refine g_istore_n (pc := 38) (L' := [(0, .ref 5), (1, .int r2), (2, .int l2)]) dX7_scan_38 (Nat.le_of_ble_eq_true rfl) rfl ?_
    refine g_aload_n (pc := 39) (x := 5) dX7_scan_39 rfl ?_
    refine g_dup (pc := 40) dX7_scan_40 rfl ?_
    refine g_getI (pc := 41) dX7_scan_41 fo_X7_30 sh_5 rfl ?_
    refine g_iconst (pc := 44) (v := (1 : Int32)) dX7_scan_44 (by decide) ?_
    refine g_iadd (pc := 45) dX7_scan_45 ?_
    refine g_putI (pc := 46) dX7_scan_46 fo_X7_30 sh_5 rfl rfl rfl ?_
    refine g_aload_n (pc := 49) (x := 5) dX7_scan_49 rfl ?_
    refine g_getR (pc := 50) (dd := 2) dX7_scan_50 fo_X7_15 sh_5 rfl ?_
    refine g_iload_n (pc := 53) (x := l2) dX7_scan_53 rfl ?_
    refine g_iaload (pc := 54) dX7_scan_54 sh_7 h.1 ?_
    have h := h.2
    refine g_bipush (pc := 55) (v := (40 : Int32)) dX7_scan_55 (by decide) ?_
    refine g_icmp_eq (pc := 57) (tgt := 80) dX7_scan_57 (by decide) (fun c57 => ?_) (fun c57 => ?_)
    · have h := h.1 c57
      exact g_vret (pc := 80) dX7_scan_80 rfl rfl h
    · have h := h.2 c57
      refine g_aload_n (pc := 60) (x := 5) dX7_scan_60 rfl ?_
      refine g_getR (pc := 61) (dd := 2) dX7_scan_61 fo_X7_15 sh_5 rfl ?_
      refine g_iload_n (pc := 64) (x := l2) dX7_scan_64 rfl ?_
      refine g_iaload (pc := 65) dX7_scan_65 sh_7 h.1 ?_
      have h := h.2
      refine g_bipush (pc := 66) (v := (41 : Int32)) dX7_scan_66 (by decide) ?_
      refine g_icmp_ne (pc := 68) (tgt := 74) dX7_scan_68 (by decide) (fun c68 => ?_) (fun c68 => ?_)
      · have h := h.1 c68
        refine g_iinc (pc := 74) (x := l2) (v := (l2 + (1 : Int32))) (L' := [(0, .ref 5), (1, .int r2), (2, .int (l2 + (1 : Int32)))]) dX7_scan_74 rfl rfl (Nat.le_of_ble_eq_true rfl) rfl ?_
        refine g_goto (pc := 77) (tgt := 9) dX7_scan_77 (by decide) ?_
        exact h
      · have h := h.2 c68
        refine g_goto (pc := 71) (tgt := 80) dX7_scan_71 (by decide) ?_
        exact g_vret (pc := 80) dX7_scan_80 rfl rfl h
theorem dX7_pastBlanks_0 : decode cX7_pastBlanks 0 = .ok (.iload_n 1, 1) := by decide +kernel
theorem dX7_pastBlanks_1 : decode cX7_pastBlanks 1 = .ok (.istore_n 2, 1) := by decide +kernel
theorem dX7_pastBlanks_2 : decode cX7_pastBlanks 2 = .ok (.iload_n 2, 1) := by decide +kernel
theorem dX7_pastBlanks_3 : decode cX7_pastBlanks 3 = .ok (.aload_n 0, 1) := by decide +kernel
theorem dX7_pastBlanks_4 : decode cX7_pastBlanks 4 = .ok (.getfield 26, 3) := by decide +kernel
theorem dX7_pastBlanks_7 : decode cX7_pastBlanks 7 = .ok (.if_icmp .ge 20, 3) := by decide +kernel
theorem dX7_pastBlanks_10 : decode cX7_pastBlanks 10 = .ok (.aload_n 0, 1) := by decide +kernel
theorem dX7_pastBlanks_11 : decode cX7_pastBlanks 11 = .ok (.iload_n 2, 1) := by decide +kernel
theorem dX7_pastBlanks_12 : decode cX7_pastBlanks 12 = .ok (.invokevirtual 41, 3) := by decide +kernel
theorem dX7_pastBlanks_15 : decode cX7_pastBlanks 15 = .ok (.invokestatic 44, 3) := by decide +kernel
theorem dX7_pastBlanks_18 : decode cX7_pastBlanks 18 = .ok (.ifCond .eq 9, 3) := by decide +kernel
theorem dX7_pastBlanks_21 : decode cX7_pastBlanks 21 = .ok (.iinc 2 1, 3) := by decide +kernel
theorem dX7_pastBlanks_24 : decode cX7_pastBlanks 24 = .ok (.goto (-22), 3) := by decide +kernel
theorem dX7_pastBlanks_27 : decode cX7_pastBlanks 27 = .ok (.iload_n 2, 1) := by decide +kernel
theorem dX7_pastBlanks_28 : decode cX7_pastBlanks 28 = .ok (.ireturn, 1) := by decide +kernel
theorem b_X7_pastBlanks (mm : MM) (Q : Value → MM → Prop) (a1 : Int32) (h : G e_X7_pastBlanks 2 [(0, .ref 5), (2, .int a1)] [] mm Q) : Runs e_X7_pastBlanks [.ref 5, .int a1] mm Q := by
  refine runs_of_G (L := [(0, .ref 5), (1, .int a1)]) pl_X7 (Nat.le_of_ble_eq_true rfl) rfl ?_
  refine g_iload_n (pc := 0) (x := a1) dX7_pastBlanks_0 rfl ?_
  refine g_istore_n (pc := 1) (L' := [(0, .ref 5), (1, .int a1), (2, .int a1)]) dX7_pastBlanks_1 (Nat.le_of_ble_eq_true rfl) rfl ?_
  refine g_sub (L' := [(0, .ref 5), (2, .int a1)]) [0, 2] rfl ?_
  exact h

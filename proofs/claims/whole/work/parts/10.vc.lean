theorem dX2_copyFrom_0 : decode cX2_copyFrom 0 = .ok (.aload_n 1, 1) := by decide +kernel
theorem dX2_copyFrom_1 : decode cX2_copyFrom 1 = .ok (.getfield 9, 3) := by decide +kernel
theorem dX2_copyFrom_4 : decode cX2_copyFrom 4 = .ok (.iconst 0, 1) := by decide +kernel
theorem dX2_copyFrom_5 : decode cX2_copyFrom 5 = .ok (.aload_n 0, 1) := by decide +kernel
theorem dX2_copyFrom_6 : decode cX2_copyFrom 6 = .ok (.getfield 9, 3) := by decide +kernel
theorem dX2_copyFrom_9 : decode cX2_copyFrom 9 = .ok (.iconst 0, 1) := by decide +kernel
theorem dX2_copyFrom_10 : decode cX2_copyFrom 10 = .ok (.bipush 60, 2) := by decide +kernel
theorem dX2_copyFrom_12 : decode cX2_copyFrom 12 = .ok (.invokestatic 35, 3) := by decide +kernel
theorem dX2_copyFrom_15 : decode cX2_copyFrom 15 = .ok (.aload_n 1, 1) := by decide +kernel
theorem dX2_copyFrom_16 : decode cX2_copyFrom 16 = .ok (.getfield 15, 3) := by decide +kernel
theorem dX2_copyFrom_19 : decode cX2_copyFrom 19 = .ok (.iconst 0, 1) := by decide +kernel
theorem dX2_copyFrom_20 : decode cX2_copyFrom 20 = .ok (.aload_n 0, 1) := by decide +kernel
theorem dX2_copyFrom_21 : decode cX2_copyFrom 21 = .ok (.getfield 15, 3) := by decide +kernel
theorem dX2_copyFrom_24 : decode cX2_copyFrom 24 = .ok (.iconst 0, 1) := by decide +kernel
theorem dX2_copyFrom_25 : decode cX2_copyFrom 25 = .ok (.bipush 60, 2) := by decide +kernel
theorem dX2_copyFrom_27 : decode cX2_copyFrom 27 = .ok (.invokestatic 35, 3) := by decide +kernel
theorem dX2_copyFrom_30 : decode cX2_copyFrom 30 = .ok (.aload_n 1, 1) := by decide +kernel
theorem dX2_copyFrom_31 : decode cX2_copyFrom 31 = .ok (.getfield 18, 3) := by decide +kernel
theorem dX2_copyFrom_34 : decode cX2_copyFrom 34 = .ok (.iconst 0, 1) := by decide +kernel
theorem dX2_copyFrom_35 : decode cX2_copyFrom 35 = .ok (.aload_n 0, 1) := by decide +kernel
theorem dX2_copyFrom_36 : decode cX2_copyFrom 36 = .ok (.getfield 18, 3) := by decide +kernel
theorem dX2_copyFrom_39 : decode cX2_copyFrom 39 = .ok (.iconst 0, 1) := by decide +kernel
theorem dX2_copyFrom_40 : decode cX2_copyFrom 40 = .ok (.bipush 60, 2) := by decide +kernel
theorem dX2_copyFrom_42 : decode cX2_copyFrom 42 = .ok (.invokestatic 35, 3) := by decide +kernel
theorem dX2_copyFrom_45 : decode cX2_copyFrom 45 = .ok (.aload_n 1, 1) := by decide +kernel
theorem dX2_copyFrom_46 : decode cX2_copyFrom 46 = .ok (.getfield 21, 3) := by decide +kernel
theorem dX2_copyFrom_49 : decode cX2_copyFrom 49 = .ok (.iconst 0, 1) := by decide +kernel
theorem dX2_copyFrom_50 : decode cX2_copyFrom 50 = .ok (.aload_n 0, 1) := by decide +kernel
theorem dX2_copyFrom_51 : decode cX2_copyFrom 51 = .ok (.getfield 21, 3) := by decide +kernel
theorem dX2_copyFrom_54 : decode cX2_copyFrom 54 = .ok (.iconst 0, 1) := by decide +kernel
theorem dX2_copyFrom_55 : decode cX2_copyFrom 55 = .ok (.bipush 60, 2) := by decide +kernel
theorem dX2_copyFrom_57 : decode cX2_copyFrom 57 = .ok (.invokestatic 35, 3) := by decide +kernel
theorem dX2_copyFrom_60 : decode cX2_copyFrom 60 = .ok (.aload_n 0, 1) := by decide +kernel
theorem dX2_copyFrom_61 : decode cX2_copyFrom 61 = .ok (.aload_n 1, 1) := by decide +kernel
theorem dX2_copyFrom_62 : decode cX2_copyFrom 62 = .ok (.getfield 31, 3) := by decide +kernel
theorem dX2_copyFrom_65 : decode cX2_copyFrom 65 = .ok (.putfield 31, 3) := by decide +kernel
theorem dX2_copyFrom_68 : decode cX2_copyFrom 68 = .ok (.return_, 1) := by decide +kernel
theorem b_X2_copyFrom (mm : MM) (Q : Value → MM → Prop) (t0 : Nat) (a1 : Nat) (h0 : AtLogs t0) (h1 : AtLogs a1) (h : Q .null (wI (wR (wR (wR (wR mm (t0 + 1) (va_cpy (mm.1 (a1 + 1)) (mm.1 (t0 + 1)) 0 0 60)) (t0 + 2) (va_cpy ((wR mm (t0 + 1) (va_cpy (mm.1 (a1 + 1)) (mm.1 (t0 + 1)) 0 0 60)).1 (a1 + 2)) ((wR mm (t0 + 1) (va_cpy (mm.1 (a1 + 1)) (mm.1 (t0 + 1)) 0 0 60)).1 (t0 + 2)) 0 0 60)) (t0 + 3) (va_cpy ((wR (wR mm (t0 + 1) (va_cpy (mm.1 (a1 + 1)) (mm.1 (t0 + 1)) 0 0 60)) (t0 + 2) (va_cpy ((wR mm (t0 + 1) (va_cpy (mm.1 (a1 + 1)) (mm.1 (t0 + 1)) 0 0 60)).1 (a1 + 2)) ((wR mm (t0 + 1) (va_cpy (mm.1 (a1 + 1)) (mm.1 (t0 + 1)) 0 0 60)).1 (t0 + 2)) 0 0 60)).1 (a1 + 3)) ((wR (wR mm (t0 + 1) (va_cpy (mm.1 (a1 + 1)) (mm.1 (t0 + 1)) 0 0 60)) (t0 + 2) (va_cpy ((wR mm (t0 + 1) (va_cpy (mm.1 (a1 + 1)) (mm.1 (t0 + 1)) 0 0 60)).1 (a1 + 2)) ((wR mm (t0 + 1) (va_cpy (mm.1 (a1 + 1)) (mm.1 (t0 + 1)) 0 0 60)).1 (t0 + 2)) 0 0 60)).1 (t0 + 3)) 0 0 60)) (t0 + 4) (va_cpy ((wR (wR (wR mm (t0 + 1) (va_cpy (mm.1 (a1 + 1)) (mm.1 (t0 + 1)) 0 0 60)) (t0 + 2) (va_cpy ((wR mm (t0 + 1) (va_cpy (mm.1 (a1 + 1)) (mm.1 (t0 + 1)) 0 0 60)).1 (a1 + 2)) ((wR mm (t0 + 1) (va_cpy (mm.1 (a1 + 1)) (mm.1 (t0 + 1)) 0 0 60)).1 (t0 + 2)) 0 0 60)) (t0 + 3) (va_cpy ((wR (wR mm (t0 + 1) (va_cpy (mm.1 (a1 + 1)) (mm.1 (t0 + 1)) 0 0 60)) (t0 + 2) (va_cpy ((wR mm (t0 + 1) (va_cpy (mm.1 (a1 + 1)) (mm.1 (t0 + 1)) 0 0 60)).1 (a1 + 2)) ((wR mm (t0 + 1) (va_cpy (mm.1 (a1 + 1)) (mm.1 (t0 + 1)) 0 0 60)).1 (t0 + 2)) 0 0 60)).1 (a1 + 3)) ((wR (wR mm (t0 + 1) (va_cpy (mm.1 (a1 + 1)) (mm.1 (t0 + 1)) 0 0 60)) (t0 + 2) (va_cpy ((wR mm (t0 + 1) (va_cpy (mm.1 (a1 + 1)) (mm.1 (t0 + 1)) 0 0 60)).1 (a1 + 2)) ((wR mm (t0 + 1) (va_cpy (mm.1 (a1 + 1)) (mm.1 (t0 + 1)) 0 0 60)).1 (t0 + 2)) 0 0 60)).1 (t0 + 3)) 0 0 60)).1 (a1 + 4)) ((wR (wR (wR mm (t0 + 1) (va_cpy (mm.1 (a1 + 1)) (mm.1 (t0 + 1)) 0 0 60)) (t0 + 2) (va_cpy ((wR mm (t0 + 1) (va_cpy (mm.1 (a1 + 1)) (mm.1 (t0 + 1)) 0 0 60)).1 (a1 + 2)) ((wR mm (t0 + 1) (va_cpy (mm.1 (a1 + 1)) (mm.1 (t0 + 1)) 0 0 60)).1 (t0 + 2)) 0 0 60)) (t0 + 3) (va_cpy ((wR (wR mm (t0 + 1) (va_cpy (mm.1 (a1 + 1)) (mm.1 (t0 + 1)) 0 0 60)) (t0 + 2) (va_cpy ((wR mm (t0 + 1) (va_cpy (mm.1 (a1 + 1)) (mm.1 (t0 + 1)) 0 0 60)).1 (a1 + 2)) ((wR mm (t0 + 1) (va_cpy (mm.1 (a1 + 1)) (mm.1 (t0 + 1)) 0 0 60)).1 (t0 + 2)) 0 0 60)).1 (a1 + 3)) ((wR (wR mm (t0 + 1) (va_cpy (mm.1 (a1 + 1)) (mm.1 (t0 + 1)) 0 0 60)) (t0 + 2) (va_cpy ((wR mm (t0 + 1) (va_cpy (mm.1 (a1 + 1)) (mm.1 (t0 + 1)) 0 0 60)).1 (a1 + 2)) ((wR mm (t0 + 1) (va_cpy (mm.1 (a1 + 1)) (mm.1 (t0 + 1)) 0 0 60)).1 (t0 + 2)) 0 0 60)).1 (t0 + 3)) 0 0 60)).1 (t0 + 4)) 0 0 60)) t0 6 ((wR (wR (wR (wR mm (t0 + 1) (va_cpy (mm.1 (a1 + 1)) (mm.1 (t0 + 1)) 0 0 60)) (t0 + 2) (va_cpy ((wR mm (t0 + 1) (va_cpy (mm.1 (a1 + 1)) (mm.1 (t0 + 1)) 0 0 60)).1 (a1 + 2)) ((wR mm (t0 + 1) (va_cpy (mm.1 (a1 + 1)) (mm.1 (t0 + 1)) 0 0 60)).1 (t0 + 2)) 0 0 60)) (t0 + 3) (va_cpy ((wR (wR mm (t0 + 1) (va_cpy (mm.1 (a1 + 1)) (mm.1 (t0 + 1)) 0 0 60)) (t0 + 2) (va_cpy ((wR mm (t0 + 1) (va_cpy (mm.1 (a1 + 1)) (mm.1 (t0 + 1)) 0 0 60)).1 (a1 + 2)) ((wR mm (t0 + 1) (va_cpy (mm.1 (a1 + 1)) (mm.1 (t0 + 1)) 0 0 60)).1 (t0 + 2)) 0 0 60)).1 (a1 + 3)) ((wR (wR mm (t0 + 1) (va_cpy (mm.1 (a1 + 1)) (mm.1 (t0 + 1)) 0 0 60)) (t0 + 2) (va_cpy ((wR mm (t0 + 1) (va_cpy (mm.1 (a1 + 1)) (mm.1 (t0 + 1)) 0 0 60)).1 (a1 + 2)) ((wR mm (t0 + 1) (va_cpy (mm.1 (a1 + 1)) (mm.1 (t0 + 1)) 0 0 60)).1 (t0 + 2)) 0 0 60)).1 (t0 + 3)) 0 0 60)) (t0 + 4) (va_cpy ((wR (wR (wR mm (t0 + 1) (va_cpy (mm.1 (a1 + 1)) (mm.1 (t0 + 1)) 0 0 60)) (t0 + 2) (va_cpy ((wR mm (t0 + 1) (va_cpy (mm.1 (a1 + 1)) (mm.1 (t0 + 1)) 0 0 60)).1 (a1 + 2)) ((wR mm (t0 + 1) (va_cpy (mm.1 (a1 + 1)) (mm.1 (t0 + 1)) 0 0 60)).1 (t0 + 2)) 0 0 60)) (t0 + 3) (va_cpy ((wR (wR mm (t0 + 1) (va_cpy (mm.1 (a1 + 1)) (mm.1 (t0 + 1)) 0 0 60)) (t0 + 2) (va_cpy ((wR mm (t0 + 1) (va_cpy (mm.1 (a1 + 1)) (mm.1 (t0 + 1)) 0 0 60)).1 (a1 + 2)) ((wR mm (t0 + 1) (va_cpy (mm.1 (a1 + 1)) (mm.1 (t0 + 1)) 0 0 60)).1 (t0 + 2)) 0 0 60)).1 (a1 + 3)) ((wR (wR mm (t0 + 1) (va_cpy (mm.1 (a1 + 1)) (mm.1 (t0 + 1)) 0 0 60)) (t0 + 2) (va_cpy ((wR mm (t0 + 1) (va_cpy (mm.1 (a1 + 1)) (mm.1 (t0 + 1)) 0 0 60)).1 (a1 + 2)) ((wR mm (t0 + 1) (va_cpy (mm.1 (a1 + 1)) (mm.1 (t0 + 1)) 0 0 60)).1 (t0 + 2)) 0 0 60)).1 (t0 + 3)) 0 0 60)).1 (a1 + 4)) ((wR (wR (wR mm (t0 + 1) (va_cpy (mm.1 (a1 + 1)) (mm.1 (t0 + 1)) 0 0 60)) (t0 + 2) (va_cpy ((wR mm (t0 + 1) (va_cpy (mm.1 (a1 + 1)) (mm.1 (t0 + 1)) 0 0 60)).1 (a1 + 2)) ((wR mm (t0 + 1) (va_cpy (mm.1 (a1 + 1)) (mm.1 (t0 + 1)) 0 0 60)).1 (t0 + 2)) 0 0 60)) (t0 + 3) (va_cpy ((wR (wR mm (t0 + 1) (va_cpy (mm.1 (a1 + 1)) (mm.1 (t0 + 1)) 0 0 60)) (t0 + 2) (va_cpy ((wR mm (t0 + 1) (va_cpy (mm.1 (a1 + 1)) (mm.1 (t0 + 1)) 0 0 60)).1 (a1 + 2)) ((wR mm (t0 + 1) (va_cpy (mm.1 (a1 + 1)) (mm.1 (t0 + 1)) 0 0 60)).1 (t0 + 2)) 0 0 60)).1 (a1 + 3)) ((wR (wR mm (t0 + 1) (va_cpy (mm.1 (a1 + 1)) (mm.1 (t0 + 1)) 0 0 60)) (t0 + 2) (va_cpy ((wR mm (t0 + 1) (va_cpy (mm.1 (a1 + 1)) (mm.1 (t0 + 1)) 0 0 60)).1 (a1 + 2)) ((wR mm (t0 + 1) (va_cpy (mm.1 (a1 + 1)) (mm.1 (t0 + 1)) 0 0 60)).1 (t0 + 2)) 0 0 60)).1 (t0 + 3)) 0 0 60)).1 (t0 + 4)) 0 0 60)).1 a1 6))) : Runs e_X2_copyFrom [.ref t0, .ref a1] mm Q := by
  refine runs_of_G (L := [(0, .ref t0), (1, .ref a1)]) pl_X2 (Nat.le_of_ble_eq_true rfl) rfl ?_
  refine g_aload_n (pc := 0) (x := a1) dX2_copyFrom_0 rfl ?_
  refine g_getR (pc := 1) (dd := 1) dX2_copyFrom_1 fo_X2_9 (AtLogs_0 h1) rfl ?_
  refine g_iconst (pc := 4) (v := (0 : Int32)) dX2_copyFrom_4 (by decide) ?_
  refine g_aload_n (pc := 5) (x := t0) dX2_copyFrom_5 rfl ?_
  refine g_getR (pc := 6) (dd := 1) dX2_copyFrom_6 fo_X2_9 (AtLogs_0 h0) rfl ?_
  refine g_iconst (pc := 9) (v := (0 : Int32)) dX2_copyFrom_9 (by decide) ?_
  refine g_bipush (pc := 10) (v := (60 : Int32)) dX2_copyFrom_10 (by decide) ?_
  refine g_copyI (pc := 12) dX2_copyFrom_12 cw_X2_35 (by decide) (Nat.le_of_ble_eq_true rfl) (AtLogs_1 h1) (AtLogs_1 h0) (by decide) (by decide) (by decide) (by decide) (by decide) ?_
  refine g_aload_n (pc := 15) (x := a1) dX2_copyFrom_15 rfl ?_
  refine g_getR (pc := 16) (dd := 2) dX2_copyFrom_16 fo_X2_15 (AtLogs_0 h1) rfl ?_
  refine g_iconst (pc := 19) (v := (0 : Int32)) dX2_copyFrom_19 (by decide) ?_
  refine g_aload_n (pc := 20) (x := t0) dX2_copyFrom_20 rfl ?_
  refine g_getR (pc := 21) (dd := 2) dX2_copyFrom_21 fo_X2_15 (AtLogs_0 h0) rfl ?_
  refine g_iconst (pc := 24) (v := (0 : Int32)) dX2_copyFrom_24 (by decide) ?_
  refine g_bipush (pc := 25) (v := (60 : Int32)) dX2_copyFrom_25 (by decide) ?_
  refine g_copyI (pc := 27) dX2_copyFrom_27 cw_X2_35 (by decide) (Nat.le_of_ble_eq_true rfl) (AtLogs_2 h1) (AtLogs_2 h0) (by decide) (by decide) (by decide) (by decide) (by decide) ?_
  refine g_aload_n (pc := 30) (x := a1) dX2_copyFrom_30 rfl ?_
  refine g_getR (pc := 31) (dd := 3) dX2_copyFrom_31 fo_X2_18 (AtLogs_0 h1) rfl ?_
  refine g_iconst (pc := 34) (v := (0 : Int32)) dX2_copyFrom_34 (by decide) ?_
  refine g_aload_n (pc := 35) (x := t0) dX2_copyFrom_35 rfl ?_
  refine g_getR (pc := 36) (dd := 3) dX2_copyFrom_36 fo_X2_18 (AtLogs_0 h0) rfl ?_
  refine g_iconst (pc := 39) (v := (0 : Int32)) dX2_copyFrom_39 (by decide) ?_
  refine g_bipush (pc := 40) (v := (60 : Int32)) dX2_copyFrom_40 (by decide) ?_
  refine g_copyI (pc := 42) dX2_copyFrom_42 cw_X2_35 (by decide) (Nat.le_of_ble_eq_true rfl) (AtLogs_3 h1) (AtLogs_3 h0) (by decide) (by decide) (by decide) (by decide) (by decide) ?_
  refine g_aload_n (pc := 45) (x := a1) dX2_copyFrom_45 rfl ?_
  refine g_getR (pc := 46) (dd := 4) dX2_copyFrom_46 fo_X2_21 (AtLogs_0 h1) rfl ?_
  refine g_iconst (pc := 49) (v := (0 : Int32)) dX2_copyFrom_49 (by decide) ?_
  refine g_aload_n (pc := 50) (x := t0) dX2_copyFrom_50 rfl ?_
  refine g_getR (pc := 51) (dd := 4) dX2_copyFrom_51 fo_X2_21 (AtLogs_0 h0) rfl ?_
  refine g_iconst (pc := 54) (v := (0 : Int32)) dX2_copyFrom_54 (by decide) ?_
  refine g_bipush (pc := 55) (v := (60 : Int32)) dX2_copyFrom_55 (by decide) ?_
  refine g_copyI (pc := 57) dX2_copyFrom_57 cw_X2_35 (by decide) (Nat.le_of_ble_eq_true rfl) (AtLogs_4 h1) (AtLogs_4 h0) (by decide) (by decide) (by decide) (by decide) (by decide) ?_
  refine g_aload_n (pc := 60) (x := t0) dX2_copyFrom_60 rfl ?_
  refine g_aload_n (pc := 61) (x := a1) dX2_copyFrom_61 rfl ?_
  refine g_getI (pc := 62) dX2_copyFrom_62 fo_X2_31 (AtLogs_0 h1) rfl ?_
  refine g_putI (pc := 65) dX2_copyFrom_65 fo_X2_31 (AtLogs_0 h0) rfl rfl rfl ?_
  exact g_vret (pc := 68) dX2_copyFrom_68 rfl rfl h
theorem dX2_add_0 : decode cX2_add 0 = .ok (.aload_n 0, 1) := by decide +kernel
theorem dX2_add_1 : decode cX2_add 1 = .ok (.getfield 31, 3) := by decide +kernel
theorem dX2_add_4 : decode cX2_add 4 = .ok (.ifCond .lt 12, 3) := by decide +kernel
theorem dX2_add_7 : decode cX2_add 7 = .ok (.aload_n 0, 1) := by decide +kernel
theorem dX2_add_8 : decode cX2_add 8 = .ok (.getfield 31, 3) := by decide +kernel
theorem dX2_add_11 : decode cX2_add 11 = .ok (.bipush 60, 2) := by decide +kernel
theorem dX2_add_13 : decode cX2_add 13 = .ok (.if_icmp .lt 5, 3) := by decide +kernel
theorem dX2_add_16 : decode cX2_add 16 = .ok (.iconst (-1), 1) := by decide +kernel
theorem dX2_add_17 : decode cX2_add 17 = .ok (.ireturn, 1) := by decide +kernel
theorem dX2_add_18 : decode cX2_add 18 = .ok (.aload_n 0, 1) := by decide +kernel
theorem dX2_add_19 : decode cX2_add 19 = .ok (.getfield 9, 3) := by decide +kernel
theorem dX2_add_22 : decode cX2_add 22 = .ok (.aload_n 0, 1) := by decide +kernel
theorem dX2_add_23 : decode cX2_add 23 = .ok (.getfield 31, 3) := by decide +kernel
theorem dX2_add_26 : decode cX2_add 26 = .ok (.iload_n 1, 1) := by decide +kernel
theorem dX2_add_27 : decode cX2_add 27 = .ok (.iastore, 1) := by decide +kernel
theorem dX2_add_28 : decode cX2_add 28 = .ok (.aload_n 0, 1) := by decide +kernel
theorem dX2_add_29 : decode cX2_add 29 = .ok (.getfield 15, 3) := by decide +kernel
theorem dX2_add_32 : decode cX2_add 32 = .ok (.aload_n 0, 1) := by decide +kernel
theorem dX2_add_33 : decode cX2_add 33 = .ok (.getfield 31, 3) := by decide +kernel
theorem dX2_add_36 : decode cX2_add 36 = .ok (.iload_n 2, 1) := by decide +kernel
theorem dX2_add_37 : decode cX2_add 37 = .ok (.iastore, 1) := by decide +kernel
theorem dX2_add_38 : decode cX2_add 38 = .ok (.aload_n 0, 1) := by decide +kernel
theorem dX2_add_39 : decode cX2_add 39 = .ok (.getfield 18, 3) := by decide +kernel
theorem dX2_add_42 : decode cX2_add 42 = .ok (.aload_n 0, 1) := by decide +kernel
theorem dX2_add_43 : decode cX2_add 43 = .ok (.getfield 31, 3) := by decide +kernel
theorem dX2_add_46 : decode cX2_add 46 = .ok (.iload_n 3, 1) := by decide +kernel
theorem dX2_add_47 : decode cX2_add 47 = .ok (.iastore, 1) := by decide +kernel
theorem dX2_add_48 : decode cX2_add 48 = .ok (.aload_n 0, 1) := by decide +kernel
theorem dX2_add_49 : decode cX2_add 49 = .ok (.getfield 21, 3) := by decide +kernel
theorem dX2_add_52 : decode cX2_add 52 = .ok (.aload_n 0, 1) := by decide +kernel
theorem dX2_add_53 : decode cX2_add 53 = .ok (.getfield 31, 3) := by decide +kernel
theorem dX2_add_56 : decode cX2_add 56 = .ok (.iload 4, 2) := by decide +kernel
theorem dX2_add_58 : decode cX2_add 58 = .ok (.iastore, 1) := by decide +kernel
theorem dX2_add_59 : decode cX2_add 59 = .ok (.aload_n 0, 1) := by decide +kernel
theorem dX2_add_60 : decode cX2_add 60 = .ok (.dup, 1) := by decide +kernel
theorem dX2_add_61 : decode cX2_add 61 = .ok (.getfield 31, 3) := by decide +kernel
theorem dX2_add_64 : decode cX2_add 64 = .ok (.iconst 1, 1) := by decide +kernel
theorem dX2_add_65 : decode cX2_add 65 = .ok (.iadd, 1) := by decide +kernel
theorem dX2_add_66 : decode cX2_add 66 = .ok (.putfield 31, 3) := by decide +kernel
theorem dX2_add_69 : decode cX2_add 69 = .ok (.aload_n 0, 1) := by decide +kernel
theorem dX2_add_70 : decode cX2_add 70 = .ok (.getfield 31, 3) := by decide +kernel
theorem dX2_add_73 : decode cX2_add 73 = .ok (.iconst 1, 1) := by decide +kernel
theorem dX2_add_74 : decode cX2_add 74 = .ok (.isub, 1) := by decide +kernel
theorem dX2_add_75 : decode cX2_add 75 = .ok (.ireturn, 1) := by decide +kernel
theorem b_X2_add (mm : MM) (Q : Value → MM → Prop) (t0 : Nat) (a1 : Int32) (a2 : Int32) (a3 : Int32) (a4 : Int32) (h0 : AtLogs t0) (h : ((mm.1 t0 6) < 0 → (Q (.int (-1 : Int32)) mm)) ∧ (¬ (mm.1 t0 6) < 0 → (((mm.1 t0 6) < (60 : Int32) → (vp_in (mm.1 t0 6) 60 ∧ (vp_in ((wI mm (t0 + 1) ((mm.1 t0 6).toNatClampNeg) a1).1 t0 6) 60 ∧ (vp_in ((wI (wI mm (t0 + 1) ((mm.1 t0 6).toNatClampNeg) a1) (t0 + 2) (((wI mm (t0 + 1) ((mm.1 t0 6).toNatClampNeg) a1).1 t0 6).toNatClampNeg) a2).1 t0 6) 60 ∧ (vp_in ((wI (wI (wI mm (t0 + 1) ((mm.1 t0 6).toNatClampNeg) a1) (t0 + 2) (((wI mm (t0 + 1) ((mm.1 t0 6).toNatClampNeg) a1).1 t0 6).toNatClampNeg) a2) (t0 + 3) (((wI (wI mm (t0 + 1) ((mm.1 t0 6).toNatClampNeg) a1) (t0 + 2) (((wI mm (t0 + 1) ((mm.1 t0 6).toNatClampNeg) a1).1 t0 6).toNatClampNeg) a2).1 t0 6).toNatClampNeg) a3).1 t0 6) 60 ∧ (Q (.int (((wI (wI (wI (wI (wI mm (t0 + 1) ((mm.1 t0 6).toNatClampNeg) a1) (t0 + 2) (((wI mm (t0 + 1) ((mm.1 t0 6).toNatClampNeg) a1).1 t0 6).toNatClampNeg) a2) (t0 + 3) (((wI (wI mm (t0 + 1) ((mm.1 t0 6).toNatClampNeg) a1) (t0 + 2) (((wI mm (t0 + 1) ((mm.1 t0 6).toNatClampNeg) a1).1 t0 6).toNatClampNeg) a2).1 t0 6).toNatClampNeg) a3) (t0 + 4) (((wI (wI (wI mm (t0 + 1) ((mm.1 t0 6).toNatClampNeg) a1) (t0 + 2) (((wI mm (t0 + 1) ((mm.1 t0 6).toNatClampNeg) a1).1 t0 6).toNatClampNeg) a2) (t0 + 3) (((wI (wI mm (t0 + 1) ((mm.1 t0 6).toNatClampNeg) a1) (t0 + 2) (((wI mm (t0 + 1) ((mm.1 t0 6).toNatClampNeg) a1).1 t0 6).toNatClampNeg) a2).1 t0 6).toNatClampNeg) a3).1 t0 6).toNatClampNeg) a4) t0 6 (((wI (wI (wI (wI mm (t0 + 1) ((mm.1 t0 6).toNatClampNeg) a1) (t0 + 2) (((wI mm (t0 + 1) ((mm.1 t0 6).toNatClampNeg) a1).1 t0 6).toNatClampNeg) a2) (t0 + 3) (((wI (wI mm (t0 + 1) ((mm.1 t0 6).toNatClampNeg) a1) (t0 + 2) (((wI mm (t0 + 1) ((mm.1 t0 6).toNatClampNeg) a1).1 t0 6).toNatClampNeg) a2).1 t0 6).toNatClampNeg) a3) (t0 + 4) (((wI (wI (wI mm (t0 + 1) ((mm.1 t0 6).toNatClampNeg) a1) (t0 + 2) (((wI mm (t0 + 1) ((mm.1 t0 6).toNatClampNeg) a1).1 t0 6).toNatClampNeg) a2) (t0 + 3) (((wI (wI mm (t0 + 1) ((mm.1 t0 6).toNatClampNeg) a1) (t0 + 2) (((wI mm (t0 + 1) ((mm.1 t0 6).toNatClampNeg) a1).1 t0 6).toNatClampNeg) a2).1 t0 6).toNatClampNeg) a3).1 t0 6).toNatClampNeg) a4).1 t0 6) + (1 : Int32))).1 t0 6) - (1 : Int32))) (wI (wI (wI (wI (wI mm (t0 + 1) ((mm.1 t0 6).toNatClampNeg) a1) (t0 + 2) (((wI mm (t0 + 1) ((mm.1 t0 6).toNatClampNeg) a1).1 t0 6).toNatClampNeg) a2) (t0 + 3) (((wI (wI mm (t0 + 1) ((mm.1 t0 6).toNatClampNeg) a1) (t0 + 2) (((wI mm (t0 + 1) ((mm.1 t0 6).toNatClampNeg) a1).1 t0 6).toNatClampNeg) a2).1 t0 6).toNatClampNeg) a3) (t0 + 4) (((wI (wI (wI mm (t0 + 1) ((mm.1 t0 6).toNatClampNeg) a1) (t0 + 2) (((wI mm (t0 + 1) ((mm.1 t0 6).toNatClampNeg) a1).1 t0 6).toNatClampNeg) a2) (t0 + 3) (((wI (wI mm (t0 + 1) ((mm.1 t0 6).toNatClampNeg) a1) (t0 + 2) (((wI mm (t0 + 1) ((mm.1 t0 6).toNatClampNeg) a1).1 t0 6).toNatClampNeg) a2).1 t0 6).toNatClampNeg) a3).1 t0 6).toNatClampNeg) a4) t0 6 (((wI (wI (wI (wI mm (t0 + 1) ((mm.1 t0 6).toNatClampNeg) a1) (t0 + 2) (((wI mm (t0 + 1) ((mm.1 t0 6).toNatClampNeg) a1).1 t0 6).toNatClampNeg) a2) (t0 + 3) (((wI (wI mm (t0 + 1) ((mm.1 t0 6).toNatClampNeg) a1) (t0 + 2) (((wI mm (t0 + 1) ((mm.1 t0 6).toNatClampNeg) a1).1 t0 6).toNatClampNeg) a2).1 t0 6).toNatClampNeg) a3) (t0 + 4) (((wI (wI (wI mm (t0 + 1) ((mm.1 t0 6).toNatClampNeg) a1) (t0 + 2) (((wI mm (t0 + 1) ((mm.1 t0 6).toNatClampNeg) a1).1 t0 6).toNatClampNeg) a2) (t0 + 3) (((wI (wI mm (t0 + 1) ((mm.1 t0 6).toNatClampNeg) a1) (t0 + 2) (((wI mm (t0 + 1) ((mm.1 t0 6).toNatClampNeg) a1).1 t0 6).toNatClampNeg) a2).1 t0 6).toNatClampNeg) a3).1 t0 6).toNatClampNeg) a4).1 t0 6) + (1 : Int32))))))))) ∧ (¬ (mm.1 t0 6) < (60 : Int32) → (Q (.int (-1 : Int32)) mm))))) : Runs e_X2_add [.ref t0, .int a1, .int a2, .int a3, .int a4] mm Q := by
  refine runs_of_G (L := [(0, .ref t0), (1, .int a1), (2, .int a2), (3, .int a3), (4, .int a4)]) pl_X2 (Nat.le_of_ble_eq_true rfl) rfl ?_
  refine g_aload_n (pc := 0) (x := t0) dX2_add_0 rfl ?_
  refine g_getI (pc := 1) dX2_add_1 fo_X2_31 (AtLogs_0 h0) rfl ?_
  refine g_if_lt (pc := 4) (tgt := 16) dX2_add_4 (by decide) (fun c4 => ?_) (fun c4 => ?_)
  · have h := h.1 c4
    refine g_iconst (pc := 16) (v := (-1 : Int32)) dX2_add_16 (by decide) ?_
    exact g_iret (pc := 17) dX2_add_17 rfl rfl rfl h
  · have h := h.2 c4
    refine g_aload_n (pc := 7) (x := t0) dX2_add_7 rfl ?_
    refine g_getI (pc := 8) dX2_add_8 fo_X2_31 (AtLogs_0 h0) rfl ?_
    refine g_bipush (pc := 11) (v := (60 : Int32)) dX2_add_11 (by decide) ?_
    refine g_icmp_lt (pc := 13) (tgt := 18) dX2_add_13 (by decide) (fun c13 => ?_) (fun c13 => ?_)
    · have h := h.1 c13
      refine g_aload_n (pc := 18) (x := t0) dX2_add_18 rfl ?_
      refine g_getR (pc := 19) (dd := 1) dX2_add_19 fo_X2_9 (AtLogs_0 h0) rfl ?_
      refine g_aload_n (pc := 22) (x := t0) dX2_add_22 rfl ?_
      refine g_getI (pc := 23) dX2_add_23 fo_X2_31 (AtLogs_0 h0) rfl ?_
      refine g_iload_n (pc := 26) (x := a1) dX2_add_26 rfl ?_
      refine g_iastore (pc := 27) dX2_add_27 (AtLogs_1 h0) h.1 ?_
      have h := h.2
      refine g_aload_n (pc := 28) (x := t0) dX2_add_28 rfl ?_
      refine g_getR (pc := 29) (dd := 2) dX2_add_29 fo_X2_15 (AtLogs_0 h0) rfl ?_
      refine g_aload_n (pc := 32) (x := t0) dX2_add_32 rfl ?_
      refine g_getI (pc := 33) dX2_add_33 fo_X2_31 (AtLogs_0 h0) rfl ?_
      refine g_iload_n (pc := 36) (x := a2) dX2_add_36 rfl ?_
      refine g_iastore (pc := 37) dX2_add_37 (AtLogs_2 h0) h.1 ?_
      have h := h.2
      refine g_aload_n (pc := 38) (x := t0) dX2_add_38 rfl ?_
      refine g_getR (pc := 39) (dd := 3) dX2_add_39 fo_X2_18 (AtLogs_0 h0) rfl ?_
      refine g_aload_n (pc := 42) (x := t0) dX2_add_42 rfl ?_
      refine g_getI (pc := 43) dX2_add_43 fo_X2_31 (AtLogs_0 h0) rfl ?_
      refine g_iload_n (pc := 46) (x := a3) dX2_add_46 rfl ?_
      refine g_iastore (pc := 47) dX2_add_47 (AtLogs_3 h0) h.1 ?_
      have h := h.2
      refine g_aload_n (pc := 48) (x := t0) dX2_add_48 rfl ?_
      refine g_getR (pc := 49) (dd := 4) dX2_add_49 fo_X2_21 (AtLogs_0 h0) rfl ?_
      refine g_aload_n (pc := 52) (x := t0) dX2_add_52 rfl ?_
      refine g_getI (pc := 53) dX2_add_53 fo_X2_31 (AtLogs_0 h0) rfl ?_
      refine g_iload (pc := 56) (x := a4) dX2_add_56 rfl ?_
      refine g_iastore (pc := 58) dX2_add_58 (AtLogs_4 h0) h.1 ?_
      have h := h.2
      refine g_aload_n (pc := 59) (x := t0) dX2_add_59 rfl ?_
      refine g_dup (pc := 60) dX2_add_60 rfl ?_
      refine g_getI (pc := 61) dX2_add_61 fo_X2_31 (AtLogs_0 h0) rfl ?_
      refine g_iconst (pc := 64) (v := (1 : Int32)) dX2_add_64 (by decide) ?_
      refine g_iadd (pc := 65) dX2_add_65 ?_
      refine g_putI (pc := 66) dX2_add_66 fo_X2_31 (AtLogs_0 h0) rfl rfl rfl ?_
      refine g_aload_n (pc := 69) (x := t0) dX2_add_69 rfl ?_
      refine g_getI (pc := 70) dX2_add_70 fo_X2_31 (AtLogs_0 h0) rfl ?_
      refine g_iconst (pc := 73) (v := (1 : Int32)) dX2_add_73 (by decide) ?_
      refine g_isub (pc := 74) dX2_add_74 ?_
      exact g_iret (pc := 75) dX2_add_75 rfl rfl rfl h
    · have h := h.2 c13
      refine g_iconst (pc := 16) (v := (-1 : Int32)) dX2_add_16 (by decide) ?_
      exact g_iret (pc := 17) dX2_add_17 rfl rfl rfl h
theorem dX2_canBeVoid_0 : decode cX2_canBeVoid 0 = .ok (.iload_n 1, 1) := by decide +kernel
theorem dX2_canBeVoid_1 : decode cX2_canBeVoid 1 = .ok (.ifCond .lt 25, 3) := by decide +kernel
theorem dX2_canBeVoid_4 : decode cX2_canBeVoid 4 = .ok (.iload_n 1, 1) := by decide +kernel
theorem dX2_canBeVoid_5 : decode cX2_canBeVoid 5 = .ok (.aload_n 0, 1) := by decide +kernel
theorem dX2_canBeVoid_6 : decode cX2_canBeVoid 6 = .ok (.getfield 31, 3) := by decide +kernel
theorem dX2_canBeVoid_9 : decode cX2_canBeVoid 9 = .ok (.if_icmp .ge 17, 3) := by decide +kernel
theorem dX2_canBeVoid_12 : decode cX2_canBeVoid 12 = .ok (.aload_n 0, 1) := by decide +kernel
theorem dX2_canBeVoid_13 : decode cX2_canBeVoid 13 = .ok (.getfield 9, 3) := by decide +kernel
theorem dX2_canBeVoid_16 : decode cX2_canBeVoid 16 = .ok (.iload_n 1, 1) := by decide +kernel
theorem dX2_canBeVoid_17 : decode cX2_canBeVoid 17 = .ok (.iaload, 1) := by decide +kernel
theorem dX2_canBeVoid_18 : decode cX2_canBeVoid 18 = .ok (.iconst 2, 1) := by decide +kernel
theorem dX2_canBeVoid_19 : decode cX2_canBeVoid 19 = .ok (.if_icmp .eq 7, 3) := by decide +kernel
theorem dX2_canBeVoid_22 : decode cX2_canBeVoid 22 = .ok (.iconst 1, 1) := by decide +kernel
theorem dX2_canBeVoid_23 : decode cX2_canBeVoid 23 = .ok (.goto 4, 3) := by decide +kernel
theorem dX2_canBeVoid_26 : decode cX2_canBeVoid 26 = .ok (.iconst 0, 1) := by decide +kernel
theorem dX2_canBeVoid_27 : decode cX2_canBeVoid 27 = .ok (.ireturn, 1) := by decide +kernel
def o_X2_canBeVoid (mm : MM) (t0 : Nat) (a1 : Int32) : Prop := (a1 < 0 → (True)) ∧ (¬ a1 < 0 → (((mm.1 t0 6) ≤ a1 → (True)) ∧ (¬ (mm.1 t0 6) ≤ a1 → (vp_in a1 60 ∧ (((mm.1 (t0 + 1) a1.toNatClampNeg) = (2 : Int32) → (True)) ∧ (¬ (mm.1 (t0 + 1) a1.toNatClampNeg) = (2 : Int32) → (True)))))))
def p_X2_canBeVoid (mm : MM) (t0 : Nat) (a1 : Int32) : Prop := (¬ a1 < 0 ∧ (¬ (mm.1 t0 6) ≤ a1 ∧ ¬ (mm.1 (t0 + 1) a1.toNatClampNeg) = (2 : Int32)))
theorem rv_X2_canBeVoid (mm : MM) (t0 : Nat) (a1 : Int32) (h0 : AtLogs t0) (h : o_X2_canBeVoid mm t0 a1) : Runs e_X2_canBeVoid [.ref t0, .int a1] mm (fun r m_ => ((p_X2_canBeVoid mm t0 a1 ∧ r = .int 1) ∨ (¬ p_X2_canBeVoid mm t0 a1 ∧ r = .int 0)) ∧ mm = m_) := by
  refine runs_of_G (L := [(0, .ref t0), (1, .int a1)]) pl_X2 (Nat.le_of_ble_eq_true rfl) rfl ?_
  unfold o_X2_canBeVoid at h
  refine g_iload_n (pc := 0) (x := a1) dX2_canBeVoid_0 rfl ?_
  refine g_if_lt (pc := 1) (tgt := 26) dX2_canBeVoid_1 (by decide) (fun c1 => ?_) (fun c1 => ?_)
  · have c1_0 := c1
    have h := h.1 c1
    refine g_iconst (pc := 26) (v := (0 : Int32)) dX2_canBeVoid_26 (by decide) ?_
    exact g_iret (pc := 27) dX2_canBeVoid_27 rfl rfl (nar_B isB0) ⟨Or.inr ⟨(by unfold p_X2_canBeVoid; simp only [c1_0, true_and, and_true, false_and, and_false, true_or, or_true, false_or, or_false, not_true_eq_false, not_false_eq_true]), rfl⟩, rfl⟩
  · have c1_0 := c1
    have h := h.2 c1
    refine g_iload_n (pc := 4) (x := a1) dX2_canBeVoid_4 rfl ?_
    refine g_aload_n (pc := 5) (x := t0) dX2_canBeVoid_5 rfl ?_
    refine g_getI (pc := 6) dX2_canBeVoid_6 fo_X2_31 (AtLogs_0 h0) rfl ?_
    refine g_icmp_ge (pc := 9) (tgt := 26) dX2_canBeVoid_9 (by decide) (fun c9 => ?_) (fun c9 => ?_)
    · have c9_1 := c9
      have h := h.1 c9
      refine g_iconst (pc := 26) (v := (0 : Int32)) dX2_canBeVoid_26 (by decide) ?_
      exact g_iret (pc := 27) dX2_canBeVoid_27 rfl rfl (nar_B isB0) ⟨Or.inr ⟨(by unfold p_X2_canBeVoid; simp only [c1_0, c9_1, true_and, and_true, false_and, and_false, true_or, or_true, false_or, or_false, not_true_eq_false, not_false_eq_true]), rfl⟩, rfl⟩
    · have c9_1 := c9
      have h := h.2 c9
      refine g_aload_n (pc := 12) (x := t0) dX2_canBeVoid_12 rfl ?_
      refine g_getR (pc := 13) (dd := 1) dX2_canBeVoid_13 fo_X2_9 (AtLogs_0 h0) rfl ?_
      refine g_iload_n (pc := 16) (x := a1) dX2_canBeVoid_16 rfl ?_
      refine g_iaload (pc := 17) dX2_canBeVoid_17 (AtLogs_1 h0) h.1 ?_
      have h := h.2
      refine g_iconst (pc := 18) (v := (2 : Int32)) dX2_canBeVoid_18 (by decide) ?_
      refine g_icmp_eq (pc := 19) (tgt := 26) dX2_canBeVoid_19 (by decide) (fun c19 => ?_) (fun c19 => ?_)
      · have c19_2 := c19
        refine g_iconst (pc := 26) (v := (0 : Int32)) dX2_canBeVoid_26 (by decide) ?_
        exact g_iret (pc := 27) dX2_canBeVoid_27 rfl rfl (nar_B isB0) ⟨Or.inr ⟨(by unfold p_X2_canBeVoid; simp only [c1_0, c9_1, c19_2, true_and, and_true, false_and, and_false, true_or, or_true, false_or, or_false, not_true_eq_false, not_false_eq_true]), rfl⟩, rfl⟩
      · have c19_2 := c19
        refine g_iconst (pc := 22) (v := (1 : Int32)) dX2_canBeVoid_22 (by decide) ?_
        refine g_goto (pc := 23) (tgt := 27) dX2_canBeVoid_23 (by decide) ?_
        exact g_iret (pc := 27) dX2_canBeVoid_27 rfl rfl (nar_B isB1) ⟨Or.inl ⟨(by unfold p_X2_canBeVoid; simp only [c1_0, c9_1, c19_2, true_and, and_true, false_and, and_false, true_or, or_true, false_or, or_false, not_true_eq_false, not_false_eq_true]), rfl⟩, rfl⟩
theorem dX2_strike_0 : decode cX2_strike 0 = .ok (.iconst 0, 1) := by decide +kernel
theorem dX2_strike_1 : decode cX2_strike 1 = .ok (.istore_n 2, 1) := by decide +kernel
theorem dX2_strike_2 : decode cX2_strike 2 = .ok (.iload_n 2, 1) := by decide +kernel
theorem dX2_strike_3 : decode cX2_strike 3 = .ok (.bipush 60, 2) := by decide +kernel
theorem dX2_strike_5 : decode cX2_strike 5 = .ok (.if_icmp .ge 16, 3) := by decide +kernel
theorem dX2_strike_8 : decode cX2_strike 8 = .ok (.aload_n 0, 1) := by decide +kernel
theorem dX2_strike_9 : decode cX2_strike 9 = .ok (.getfield 24, 3) := by decide +kernel
theorem dX2_strike_12 : decode cX2_strike 12 = .ok (.iload_n 2, 1) := by decide +kernel
theorem dX2_strike_13 : decode cX2_strike 13 = .ok (.iconst 0, 1) := by decide +kernel
theorem dX2_strike_14 : decode cX2_strike 14 = .ok (.bastore, 1) := by decide +kernel
theorem dX2_strike_15 : decode cX2_strike 15 = .ok (.iinc 2 1, 3) := by decide +kernel
theorem dX2_strike_18 : decode cX2_strike 18 = .ok (.goto (-16), 3) := by decide +kernel
theorem dX2_strike_21 : decode cX2_strike 21 = .ok (.iconst 0, 1) := by decide +kernel
theorem dX2_strike_22 : decode cX2_strike 22 = .ok (.istore_n 2, 1) := by decide +kernel
theorem dX2_strike_23 : decode cX2_strike 23 = .ok (.iload_n 2, 1) := by decide +kernel
theorem dX2_strike_24 : decode cX2_strike 24 = .ok (.iload_n 1, 1) := by decide +kernel
theorem dX2_strike_25 : decode cX2_strike 25 = .ok (.if_icmp .ge 59, 3) := by decide +kernel
theorem dX2_strike_28 : decode cX2_strike 28 = .ok (.iload_n 2, 1) := by decide +kernel
theorem dX2_strike_29 : decode cX2_strike 29 = .ok (.aload_n 0, 1) := by decide +kernel
theorem dX2_strike_30 : decode cX2_strike 30 = .ok (.getfield 31, 3) := by decide +kernel
theorem dX2_strike_33 : decode cX2_strike 33 = .ok (.if_icmp .ge 51, 3) := by decide +kernel
theorem dX2_strike_36 : decode cX2_strike 36 = .ok (.aload_n 0, 1) := by decide +kernel
theorem dX2_strike_37 : decode cX2_strike 37 = .ok (.getfield 9, 3) := by decide +kernel
theorem dX2_strike_40 : decode cX2_strike 40 = .ok (.iload_n 2, 1) := by decide +kernel
theorem dX2_strike_41 : decode cX2_strike 41 = .ok (.iaload, 1) := by decide +kernel
theorem dX2_strike_42 : decode cX2_strike 42 = .ok (.iconst 2, 1) := by decide +kernel
theorem dX2_strike_43 : decode cX2_strike 43 = .ok (.if_icmp .ne 35, 3) := by decide +kernel
theorem dX2_strike_46 : decode cX2_strike 46 = .ok (.aload_n 0, 1) := by decide +kernel
theorem dX2_strike_47 : decode cX2_strike 47 = .ok (.getfield 15, 3) := by decide +kernel
theorem dX2_strike_50 : decode cX2_strike 50 = .ok (.iload_n 2, 1) := by decide +kernel
theorem dX2_strike_51 : decode cX2_strike 51 = .ok (.iaload, 1) := by decide +kernel
theorem dX2_strike_52 : decode cX2_strike 52 = .ok (.ifCond .lt 26, 3) := by decide +kernel
theorem dX2_strike_55 : decode cX2_strike 55 = .ok (.aload_n 0, 1) := by decide +kernel
theorem dX2_strike_56 : decode cX2_strike 56 = .ok (.getfield 15, 3) := by decide +kernel
theorem dX2_strike_59 : decode cX2_strike 59 = .ok (.iload_n 2, 1) := by decide +kernel
theorem dX2_strike_60 : decode cX2_strike 60 = .ok (.iaload, 1) := by decide +kernel
theorem dX2_strike_61 : decode cX2_strike 61 = .ok (.bipush 60, 2) := by decide +kernel
theorem dX2_strike_63 : decode cX2_strike 63 = .ok (.if_icmp .ge 15, 3) := by decide +kernel
theorem dX2_strike_66 : decode cX2_strike 66 = .ok (.aload_n 0, 1) := by decide +kernel
theorem dX2_strike_67 : decode cX2_strike 67 = .ok (.getfield 24, 3) := by decide +kernel
theorem dX2_strike_70 : decode cX2_strike 70 = .ok (.aload_n 0, 1) := by decide +kernel
theorem dX2_strike_71 : decode cX2_strike 71 = .ok (.getfield 15, 3) := by decide +kernel
theorem dX2_strike_74 : decode cX2_strike 74 = .ok (.iload_n 2, 1) := by decide +kernel
theorem dX2_strike_75 : decode cX2_strike 75 = .ok (.iaload, 1) := by decide +kernel
theorem dX2_strike_76 : decode cX2_strike 76 = .ok (.iconst 1, 1) := by decide +kernel
theorem dX2_strike_77 : decode cX2_strike 77 = .ok (.bastore, 1) := by decide +kernel
theorem dX2_strike_78 : decode cX2_strike 78 = .ok (.iinc 2 1, 3) := by decide +kernel
theorem dX2_strike_81 : decode cX2_strike 81 = .ok (.goto (-58), 3) := by decide +kernel
theorem dX2_strike_84 : decode cX2_strike 84 = .ok (.return_, 1) := by decide +kernel
theorem b_X2_strike (mm : MM) (Q : Value → MM → Prop) (t0 : Nat) (a1 : Int32) (h0 : AtLogs t0) (h : G e_X2_strike 2 [(0, .ref t0), (1, .int a1), (2, .int (0 : Int32))] [] mm Q) : Runs e_X2_strike [.ref t0, .int a1] mm Q := by
  refine runs_of_G (L := [(0, .ref t0), (1, .int a1)]) pl_X2 (Nat.le_of_ble_eq_true rfl) rfl ?_
  refine g_iconst (pc := 0) (v := (0 : Int32)) dX2_strike_0 (by decide) ?_
  refine g_istore_n (pc := 1) (L' := [(0, .ref t0), (1, .int a1), (2, .int (0 : Int32))]) dX2_strike_1 (Nat.le_of_ble_eq_true rfl) rfl ?_
  exact h
theorem b_X2_strike_2 (mm : MM) (Q : Value → MM → Prop) (l0 : Nat) (l1 : Int32) (l2 : Int32) (k0 : AtLogs l0) (h : ((60 : Int32) ≤ l2 → (G e_X2_strike 23 [(0, .ref l0), (1, .int l1), (2, .int (0 : Int32))] [] mm Q)) ∧ (¬ (60 : Int32) ≤ l2 → (vp_in l2 60 ∧ (G e_X2_strike 2 [(0, .ref l0), (1, .int l1), (2, .int (l2 + (1 : Int32)))] [] (wI mm (l0 + 5) (l2.toNatClampNeg) (vp_nar .boolean (0 : Int32))) Q)))) : G e_X2_strike 2 [(0, .ref l0), (1, .int l1), (2, .int l2)] [] mm Q := by
  refine g_iload_n (pc := 2) (x := l2) dX2_strike_2 rfl ?_
  refine g_bipush (pc := 3) (v := (60 : Int32)) dX2_strike_3 (by decide) ?_
  refine g_icmp_ge (pc := 5) (tgt := 21) dX2_strike_5 (by decide) (fun c5 => ?_) (fun c5 => ?_)
  · have h := h.1 c5
    refine g_iconst (pc := 21) (v := (0 : Int32)) dX2_strike_21 (by decide) ?_
    refine g_istore_n (pc := 22) (L' := [(0, .ref l0), (1, .int l1), (2, .int (0 : Int32))]) dX2_strike_22 (Nat.le_of_ble_eq_true rfl) rfl ?_
    exact h
  · have h := h.2 c5
    refine g_aload_n (pc := 8) (x := l0) dX2_strike_8 rfl ?_
    refine g_getR (pc := 9) (dd := 5) dX2_strike_9 fo_X2_24 (AtLogs_0 k0) rfl ?_
    refine g_iload_n (pc := 12) (x := l2) dX2_strike_12 rfl ?_
    refine g_iconst (pc := 13) (v := (0 : Int32)) dX2_strike_13 (by decide) ?_
    refine g_zastore (pc := 14) dX2_strike_14 (AtLogs_5 k0) h.1 ?_
    have h := h.2
    refine g_iinc (pc := 15) (x := l2) (v := (l2 + (1 : Int32))) (L' := [(0, .ref l0), (1, .int l1), (2, .int (l2 + (1 : Int32)))]) dX2_strike_15 rfl rfl (Nat.le_of_ble_eq_true rfl) rfl ?_
    refine g_goto (pc := 18) (tgt := 2) dX2_strike_18 (by decide) ?_
    exact h
theorem b_X2_strike_23 (mm : MM) (Q : Value → MM → Prop) (l0 : Nat) (l1 : Int32) (l2 : Int32) (k0 : AtLogs l0) (h : (l1 ≤ l2 → (Q .null mm)) ∧ (¬ l1 ≤ l2 → (((mm.1 l0 6) ≤ l2 → (Q .null mm)) ∧ (¬ (mm.1 l0 6) ≤ l2 → (vp_in l2 60 ∧ ((¬ (mm.1 (l0 + 1) l2.toNatClampNeg) = (2 : Int32) → (G e_X2_strike 23 [(0, .ref l0), (1, .int l1), (2, .int (l2 + (1 : Int32)))] [] mm Q)) ∧ ((mm.1 (l0 + 1) l2.toNatClampNeg) = (2 : Int32) → (vp_in l2 60 ∧ (((mm.1 (l0 + 2) l2.toNatClampNeg) < 0 → (G e_X2_strike 23 [(0, .ref l0), (1, .int l1), (2, .int (l2 + (1 : Int32)))] [] mm Q)) ∧ (¬ (mm.1 (l0 + 2) l2.toNatClampNeg) < 0 → (vp_in l2 60 ∧ (((60 : Int32) ≤ (mm.1 (l0 + 2) l2.toNatClampNeg) → (G e_X2_strike 23 [(0, .ref l0), (1, .int l1), (2, .int (l2 + (1 : Int32)))] [] mm Q)) ∧ (¬ (60 : Int32) ≤ (mm.1 (l0 + 2) l2.toNatClampNeg) → (vp_in l2 60 ∧ (vp_in (mm.1 (l0 + 2) l2.toNatClampNeg) 60 ∧ (G e_X2_strike 23 [(0, .ref l0), (1, .int l1), (2, .int (l2 + (1 : Int32)))] [] (wI mm (l0 + 5) ((mm.1 (l0 + 2) l2.toNatClampNeg).toNatClampNeg) (vp_nar .boolean (1 : Int32))) Q)))))))))))))))) : G e_X2_strike 23 [(0, .ref l0), (1, .int l1), (2, .int l2)] [] mm Q := by
  refine g_iload_n (pc := 23) (x := l2) dX2_strike_23 rfl ?_
  refine g_iload_n (pc := 24) (x := l1) dX2_strike_24 rfl ?_
  refine g_icmp_ge (pc := 25) (tgt := 84) dX2_strike_25 (by decide) (fun c25 => ?_) (fun c25 => ?_)
  · have h := h.1 c25
    exact g_vret (pc := 84) dX2_strike_84 rfl rfl h
  · have h := h.2 c25
    refine g_iload_n (pc := 28) (x := l2) dX2_strike_28 rfl ?_
    refine g_aload_n (pc := 29) (x := l0) dX2_strike_29 rfl ?_
    refine g_getI (pc := 30) dX2_strike_30 fo_X2_31 (AtLogs_0 k0) rfl ?_
    refine g_icmp_ge (pc := 33) (tgt := 84) dX2_strike_33 (by decide) (fun c33 => ?_) (fun c33 => ?_)
    · have h := h.1 c33
      exact g_vret (pc := 84) dX2_strike_84 rfl rfl h
    · have h := h.2 c33
      refine g_aload_n (pc := 36) (x := l0) dX2_strike_36 rfl ?_
      refine g_getR (pc := 37) (dd := 1) dX2_strike_37 fo_X2_9 (AtLogs_0 k0) rfl ?_
      refine g_iload_n (pc := 40) (x := l2) dX2_strike_40 rfl ?_
      refine g_iaload (pc := 41) dX2_strike_41 (AtLogs_1 k0) h.1 ?_
      have h := h.2
      refine g_iconst (pc := 42) (v := (2 : Int32)) dX2_strike_42 (by decide) ?_
      refine g_icmp_ne (pc := 43) (tgt := 78) dX2_strike_43 (by decide) (fun c43 => ?_) (fun c43 => ?_)
      · have h := h.1 c43
        refine g_iinc (pc := 78) (x := l2) (v := (l2 + (1 : Int32))) (L' := [(0, .ref l0), (1, .int l1), (2, .int (l2 + (1 : Int32)))]) dX2_strike_78 rfl rfl (Nat.le_of_ble_eq_true rfl) rfl ?_
        refine g_goto (pc := 81) (tgt := 23) dX2_strike_81 (by decide) ?_
        exact h
      · have h := h.2 c43
        refine g_aload_n (pc := 46) (x := l0) dX2_strike_46 rfl ?_
        refine g_getR (pc := 47) (dd := 2) dX2_strike_47 fo_X2_15 (AtLogs_0 k0) rfl ?_
        refine g_iload_n (pc := 50) (x := l2) dX2_strike_50 rfl ?_
        refine g_iaload (pc := 51) dX2_strike_51 (AtLogs_2 k0) h.1 ?_
        have h := h.2
        refine g_if_lt (pc := 52) (tgt := 78) dX2_strike_52 (by decide) (fun c52 => ?_) (fun c52 => ?_)
        · have h := h.1 c52
          refine g_iinc (pc := 78) (x := l2) (v := (l2 + (1 : Int32))) (L' := [(0, .ref l0), (1, .int l1), (2, .int (l2 + (1 : Int32)))]) dX2_strike_78 rfl rfl (Nat.le_of_ble_eq_true rfl) rfl ?_
          refine g_goto (pc := 81) (tgt := 23) dX2_strike_81 (by decide) ?_
          exact h
        · have h := h.2 c52
          refine g_aload_n (pc := 55) (x := l0) dX2_strike_55 rfl ?_
          refine g_getR (pc := 56) (dd := 2) dX2_strike_56 fo_X2_15 (AtLogs_0 k0) rfl ?_
          refine g_iload_n (pc := 59) (x := l2) dX2_strike_59 rfl ?_
          refine g_iaload (pc := 60) dX2_strike_60 (AtLogs_2 k0) h.1 ?_
          have h := h.2
          refine g_bipush (pc := 61) (v := (60 : Int32)) dX2_strike_61 (by decide) ?_
          refine g_icmp_ge (pc := 63) (tgt := 78) dX2_strike_63 (by decide) (fun c63 => ?_) (fun c63 => ?_)
          · have h := h.1 c63
            refine g_iinc (pc := 78) (x := l2) (v := (l2 + (1 : Int32))) (L' := [(0, .ref l0), (1, .int l1), (2, .int (l2 + (1 : Int32)))]) dX2_strike_78 rfl rfl (Nat.le_of_ble_eq_true rfl) rfl ?_
            refine g_goto (pc := 81) (tgt := 23) dX2_strike_81 (by decide) ?_
            exact h
          · have h := h.2 c63
            refine g_aload_n (pc := 66) (x := l0) dX2_strike_66 rfl ?_
            refine g_getR (pc := 67) (dd := 5) dX2_strike_67 fo_X2_24 (AtLogs_0 k0) rfl ?_
            refine g_aload_n (pc := 70) (x := l0) dX2_strike_70 rfl ?_
            refine g_getR (pc := 71) (dd := 2) dX2_strike_71 fo_X2_15 (AtLogs_0 k0) rfl ?_
            refine g_iload_n (pc := 74) (x := l2) dX2_strike_74 rfl ?_
            refine g_iaload (pc := 75) dX2_strike_75 (AtLogs_2 k0) h.1 ?_
            have h := h.2
            refine g_iconst (pc := 76) (v := (1 : Int32)) dX2_strike_76 (by decide) ?_
            refine g_zastore (pc := 77) dX2_strike_77 (AtLogs_5 k0) h.1 ?_
            have h := h.2
            refine g_iinc (pc := 78) (x := l2) (v := (l2 + (1 : Int32))) (L' := [(0, .ref l0), (1, .int l1), (2, .int (l2 + (1 : Int32)))]) dX2_strike_78 rfl rfl (Nat.le_of_ble_eq_true rfl) rfl ?_
            refine g_goto (pc := 81) (tgt := 23) dX2_strike_81 (by decide) ?_
            exact h
theorem dX2_tally_0 : decode cX2_tally 0 = .ok (.aload_n 0, 1) := by decide +kernel
theorem dX2_tally_1 : decode cX2_tally 1 = .ok (.iload_n 2, 1) := by decide +kernel
theorem dX2_tally_2 : decode cX2_tally 2 = .ok (.invokevirtual 41, 3) := by decide +kernel
theorem dX2_tally_5 : decode cX2_tally 5 = .ok (.iconst 0, 1) := by decide +kernel
theorem dX2_tally_6 : decode cX2_tally 6 = .ok (.istore_n 3, 1) := by decide +kernel
theorem dX2_tally_7 : decode cX2_tally 7 = .ok (.iload_n 3, 1) := by decide +kernel
theorem dX2_tally_8 : decode cX2_tally 8 = .ok (.bipush 16, 2) := by decide +kernel
theorem dX2_tally_10 : decode cX2_tally 10 = .ok (.if_icmp .ge 16, 3) := by decide +kernel
theorem dX2_tally_13 : decode cX2_tally 13 = .ok (.aload_n 0, 1) := by decide +kernel
theorem dX2_tally_14 : decode cX2_tally 14 = .ok (.getfield 28, 3) := by decide +kernel
theorem dX2_tally_17 : decode cX2_tally 17 = .ok (.iload_n 3, 1) := by decide +kernel
theorem dX2_tally_18 : decode cX2_tally 18 = .ok (.iconst 0, 1) := by decide +kernel
theorem dX2_tally_19 : decode cX2_tally 19 = .ok (.iastore, 1) := by decide +kernel
theorem dX2_tally_20 : decode cX2_tally 20 = .ok (.iinc 3 1, 3) := by decide +kernel
theorem dX2_tally_23 : decode cX2_tally 23 = .ok (.goto (-16), 3) := by decide +kernel
theorem dX2_tally_26 : decode cX2_tally 26 = .ok (.iconst 0, 1) := by decide +kernel
theorem dX2_tally_27 : decode cX2_tally 27 = .ok (.istore_n 3, 1) := by decide +kernel
theorem dX2_tally_28 : decode cX2_tally 28 = .ok (.iload_n 3, 1) := by decide +kernel
theorem dX2_tally_29 : decode cX2_tally 29 = .ok (.bipush 16, 2) := by decide +kernel
theorem dX2_tally_31 : decode cX2_tally 31 = .ok (.if_icmp .ge 41, 3) := by decide +kernel
theorem dX2_tally_34 : decode cX2_tally 34 = .ok (.aload_n 0, 1) := by decide +kernel
theorem dX2_tally_35 : decode cX2_tally 35 = .ok (.iload_n 3, 1) := by decide +kernel
theorem dX2_tally_36 : decode cX2_tally 36 = .ok (.iload_n 1, 1) := by decide +kernel
theorem dX2_tally_37 : decode cX2_tally 37 = .ok (.iload_n 2, 1) := by decide +kernel
theorem dX2_tally_38 : decode cX2_tally 38 = .ok (.invokevirtual 45, 3) := by decide +kernel
theorem dX2_tally_41 : decode cX2_tally 41 = .ok (.istore 4, 2) := by decide +kernel
theorem dX2_tally_43 : decode cX2_tally 43 = .ok (.iload 4, 2) := by decide +kernel
theorem dX2_tally_45 : decode cX2_tally 45 = .ok (.ifCond .lt 21, 3) := by decide +kernel
theorem dX2_tally_48 : decode cX2_tally 48 = .ok (.iload 4, 2) := by decide +kernel
theorem dX2_tally_50 : decode cX2_tally 50 = .ok (.bipush 16, 2) := by decide +kernel
theorem dX2_tally_52 : decode cX2_tally 52 = .ok (.if_icmp .ge 14, 3) := by decide +kernel
theorem dX2_tally_55 : decode cX2_tally 55 = .ok (.aload_n 0, 1) := by decide +kernel
theorem dX2_tally_56 : decode cX2_tally 56 = .ok (.getfield 28, 3) := by decide +kernel
theorem dX2_tally_59 : decode cX2_tally 59 = .ok (.iload 4, 2) := by decide +kernel
theorem dX2_tally_61 : decode cX2_tally 61 = .ok (.dup2, 1) := by decide +kernel
theorem dX2_tally_62 : decode cX2_tally 62 = .ok (.iaload, 1) := by decide +kernel
theorem dX2_tally_63 : decode cX2_tally 63 = .ok (.iconst 1, 1) := by decide +kernel
theorem dX2_tally_64 : decode cX2_tally 64 = .ok (.iadd, 1) := by decide +kernel
theorem dX2_tally_65 : decode cX2_tally 65 = .ok (.iastore, 1) := by decide +kernel
theorem dX2_tally_66 : decode cX2_tally 66 = .ok (.iinc 3 1, 3) := by decide +kernel
theorem dX2_tally_69 : decode cX2_tally 69 = .ok (.goto (-41), 3) := by decide +kernel
theorem dX2_tally_72 : decode cX2_tally 72 = .ok (.return_, 1) := by decide +kernel
theorem b_X2_tally (mm : MM) (Q : Value → MM → Prop) (t0 : Nat) (a1 : Int32) (a2 : Int32) (h0 : AtLogs t0) (h : ∃ Pm1 : Value → MM → Prop, Runs e_X2_strike [.ref t0, .int a2] mm Pm1 ∧ ∀ m1, Pm1 .null m1 → (G e_X2_tally 7 [(0, .ref t0), (1, .int a1), (2, .int a2), (3, .int (0 : Int32))] [] m1 Q)) : Runs e_X2_tally [.ref t0, .int a1, .int a2] mm Q := by
  refine runs_of_G (L := [(0, .ref t0), (1, .int a1), (2, .int a2)]) pl_X2 (Nat.le_of_ble_eq_true rfl) rfl ?_
  refine g_aload_n (pc := 0) (x := t0) dX2_tally_0 rfl ?_
  refine g_iload_n (pc := 1) (x := a2) dX2_tally_1 rfl ?_
  obtain ⟨Pm1, hRm1, h⟩ := h
  refine g_callV (pc := 2) (as := [.int a2]) dX2_tally_2 cw_X2_41 (by decide) rfl rfl (AtLogs_0 h0) (Nat.le_of_ble_eq_true rfl) hRm1 ?_
  intro r_ m1 hz_ hp_
  obtain rfl := hz_
  have h := h m1 hp_
  refine g_iconst (pc := 5) (v := (0 : Int32)) dX2_tally_5 (by decide) ?_
  refine g_istore_n (pc := 6) (L' := [(0, .ref t0), (1, .int a1), (2, .int a2), (3, .int (0 : Int32))]) dX2_tally_6 (Nat.le_of_ble_eq_true rfl) rfl ?_
  exact h
theorem b_X2_tally_7 (mm : MM) (Q : Value → MM → Prop) (l0 : Nat) (l1 : Int32) (l2 : Int32) (l3 : Int32) (k0 : AtLogs l0) (h : ((16 : Int32) ≤ l3 → (G e_X2_tally 28 [(0, .ref l0), (1, .int l1), (2, .int l2), (3, .int (0 : Int32))] [] mm Q)) ∧ (¬ (16 : Int32) ≤ l3 → (vp_in l3 16 ∧ (G e_X2_tally 7 [(0, .ref l0), (1, .int l1), (2, .int l2), (3, .int (l3 + (1 : Int32)))] [] (wI mm (l0 + 6) (l3.toNatClampNeg) (0 : Int32)) Q)))) : G e_X2_tally 7 [(0, .ref l0), (1, .int l1), (2, .int l2), (3, .int l3)] [] mm Q := by
  refine g_iload_n (pc := 7) (x := l3) dX2_tally_7 rfl ?_
  refine g_bipush (pc := 8) (v := (16 : Int32)) dX2_tally_8 (by decide) ?_
  refine g_icmp_ge (pc := 10) (tgt := 26) dX2_tally_10 (by decide) (fun c10 => ?_) (fun c10 => ?_)
  · have h := h.1 c10
    refine g_iconst (pc := 26) (v := (0 : Int32)) dX2_tally_26 (by decide) ?_
    refine g_istore_n (pc := 27) (L' := [(0, .ref l0), (1, .int l1), (2, .int l2), (3, .int (0 : Int32))]) dX2_tally_27 (Nat.le_of_ble_eq_true rfl) rfl ?_
    exact h
  · have h := h.2 c10
    refine g_aload_n (pc := 13) (x := l0) dX2_tally_13 rfl ?_
    refine g_getR (pc := 14) (dd := 6) dX2_tally_14 fo_X2_28 (AtLogs_0 k0) rfl ?_
    refine g_iload_n (pc := 17) (x := l3) dX2_tally_17 rfl ?_
    refine g_iconst (pc := 18) (v := (0 : Int32)) dX2_tally_18 (by decide) ?_
    refine g_iastore (pc := 19) dX2_tally_19 (AtLogs_6 k0) h.1 ?_
    have h := h.2
    refine g_iinc (pc := 20) (x := l3) (v := (l3 + (1 : Int32))) (L' := [(0, .ref l0), (1, .int l1), (2, .int l2), (3, .int (l3 + (1 : Int32)))]) dX2_tally_20 rfl rfl (Nat.le_of_ble_eq_true rfl) rfl ?_
    refine g_goto (pc := 23) (tgt := 7) dX2_tally_23 (by decide) ?_
    exact h
theorem b_X2_tally_28 (mm : MM) (Q : Value → MM → Prop) (l0 : Nat) (l1 : Int32) (l2 : Int32) (l3 : Int32) (k0 : AtLogs l0) (h : ((16 : Int32) ≤ l3 → (Q .null mm)) ∧ (¬ (16 : Int32) ≤ l3 → (∃ Pm1 : Value → MM → Prop, Runs e_X2_lastChoice [.ref l0, .int l3, .int l1, .int l2] mm Pm1 ∧ ∀ (r1 : Int32) (m1 : MM), Pm1 (.int r1) m1 → ((r1 < 0 → (G e_X2_tally 28 [(0, .ref l0), (1, .int l1), (2, .int l2), (3, .int (l3 + (1 : Int32)))] [] m1 Q)) ∧ (¬ r1 < 0 → (((16 : Int32) ≤ r1 → (G e_X2_tally 28 [(0, .ref l0), (1, .int l1), (2, .int l2), (3, .int (l3 + (1 : Int32)))] [] m1 Q)) ∧ (¬ (16 : Int32) ≤ r1 → (vp_in r1 16 ∧ (vp_in r1 16 ∧ (G e_X2_tally 28 [(0, .ref l0), (1, .int l1), (2, .int l2), (3, .int (l3 + (1 : Int32)))] [] (wI m1 (l0 + 6) (r1.toNatClampNeg) ((m1.1 (l0 + 6) r1.toNatClampNeg) + (1 : Int32))) Q)))))))))) : G e_X2_tally 28 [(0, .ref l0), (1, .int l1), (2, .int l2), (3, .int l3)] [] mm Q := by
  refine g_iload_n (pc := 28) (x := l3) dX2_tally_28 rfl ?_
  refine g_bipush (pc := 29) (v := (16 : Int32)) dX2_tally_29 (by decide) ?_
  refine g_icmp_ge (pc := 31) (tgt := 72) dX2_tally_31 (by decide) (fun c31 => ?_) (fun c31 => ?_)
  · have h := h.1 c31
    exact g_vret (pc := 72) dX2_tally_72 rfl rfl h
  · have h := h.2 c31
    refine g_aload_n (pc := 34) (x := l0) dX2_tally_34 rfl ?_
    refine g_iload_n (pc := 35) (x := l3) dX2_tally_35 rfl ?_
    refine g_iload_n (pc := 36) (x := l1) dX2_tally_36 rfl ?_
    refine g_iload_n (pc := 37) (x := l2) dX2_tally_37 rfl ?_
    obtain ⟨Pm1, hRm1, h⟩ := h
    refine g_callV (pc := 38) (as := [.int l3, .int l1, .int l2]) dX2_tally_38 cw_X2_45 (by decide) rfl rfl (AtLogs_0 k0) (Nat.le_of_ble_eq_true rfl) hRm1 ?_
    intro r_ m1 hz_ hp_
    obtain ⟨r1, rfl⟩ := hz_
    have h := h r1 m1 hp_
    refine g_istore (pc := 41) (L' := [(0, .ref l0), (1, .int l1), (2, .int l2), (3, .int l3), (4, .int r1)]) dX2_tally_41 (Nat.le_of_ble_eq_true rfl) rfl ?_
    refine g_iload (pc := 43) (x := r1) dX2_tally_43 rfl ?_
    refine g_if_lt (pc := 45) (tgt := 66) dX2_tally_45 (by decide) (fun c45 => ?_) (fun c45 => ?_)
    · have h := h.1 c45
      refine g_iinc (pc := 66) (x := l3) (v := (l3 + (1 : Int32))) (L' := [(0, .ref l0), (1, .int l1), (2, .int l2), (3, .int (l3 + (1 : Int32))), (4, .int r1)]) dX2_tally_66 rfl rfl (Nat.le_of_ble_eq_true rfl) rfl ?_
      refine g_goto (pc := 69) (tgt := 28) dX2_tally_69 (by decide) ?_
      refine g_sub (L' := [(0, .ref l0), (1, .int l1), (2, .int l2), (3, .int (l3 + (1 : Int32)))]) [0, 1, 2, 3] rfl ?_
      exact h
    · have h := h.2 c45
      refine g_iload (pc := 48) (x := r1) dX2_tally_48 rfl ?_
      refine g_bipush (pc := 50) (v := (16 : Int32)) dX2_tally_50 (by decide) ?_
      refine g_icmp_ge (pc := 52) (tgt := 66) dX2_tally_52 (by decide) (fun c52 => ?_) (fun c52 => ?_)
      · have h := h.1 c52
        refine g_iinc (pc := 66) (x := l3) (v := (l3 + (1 : Int32))) (L' := [(0, .ref l0), (1, .int l1), (2, .int l2), (3, .int (l3 + (1 : Int32))), (4, .int r1)]) dX2_tally_66 rfl rfl (Nat.le_of_ble_eq_true rfl) rfl ?_
        refine g_goto (pc := 69) (tgt := 28) dX2_tally_69 (by decide) ?_
        refine g_sub (L' := [(0, .ref l0), (1, .int l1), (2, .int l2), (3, .int (l3 + (1 : Int32)))]) [0, 1, 2, 3] rfl ?_
        exact h
      · have h := h.2 c52
        refine g_aload_n (pc := 55) (x := l0) dX2_tally_55 rfl ?_
        refine g_getR (pc := 56) (dd := 6) dX2_tally_56 fo_X2_28 (AtLogs_0 k0) rfl ?_
        refine g_iload (pc := 59) (x := r1) dX2_tally_59 rfl ?_
        refine g_dup2 (pc := 61) dX2_tally_61 rfl rfl ?_
        refine g_iaload (pc := 62) dX2_tally_62 (AtLogs_6 k0) h.1 ?_
        have h := h.2
        refine g_iconst (pc := 63) (v := (1 : Int32)) dX2_tally_63 (by decide) ?_
        refine g_iadd (pc := 64) dX2_tally_64 ?_
        refine g_iastore (pc := 65) dX2_tally_65 (AtLogs_6 k0) h.1 ?_
        have h := h.2
        refine g_iinc (pc := 66) (x := l3) (v := (l3 + (1 : Int32))) (L' := [(0, .ref l0), (1, .int l1), (2, .int l2), (3, .int (l3 + (1 : Int32))), (4, .int r1)]) dX2_tally_66 rfl rfl (Nat.le_of_ble_eq_true rfl) rfl ?_
        refine g_goto (pc := 69) (tgt := 28) dX2_tally_69 (by decide) ?_
        refine g_sub (L' := [(0, .ref l0), (1, .int l1), (2, .int l2), (3, .int (l3 + (1 : Int32)))]) [0, 1, 2, 3] rfl ?_
        exact h
theorem dX2_lastChoice_0 : decode cX2_lastChoice 0 = .ok (.iconst (-1), 1) := by decide +kernel
theorem dX2_lastChoice_1 : decode cX2_lastChoice 1 = .ok (.istore 4, 2) := by decide +kernel
theorem dX2_lastChoice_3 : decode cX2_lastChoice 3 = .ok (.iconst 0, 1) := by decide +kernel
theorem dX2_lastChoice_4 : decode cX2_lastChoice 4 = .ok (.istore 5, 2) := by decide +kernel
theorem dX2_lastChoice_6 : decode cX2_lastChoice 6 = .ok (.iload 5, 2) := by decide +kernel
theorem dX2_lastChoice_8 : decode cX2_lastChoice 8 = .ok (.iload_n 3, 1) := by decide +kernel
theorem dX2_lastChoice_9 : decode cX2_lastChoice 9 = .ok (.if_icmp .ge 69, 3) := by decide +kernel
theorem dX2_lastChoice_12 : decode cX2_lastChoice 12 = .ok (.iload 5, 2) := by decide +kernel
theorem dX2_lastChoice_14 : decode cX2_lastChoice 14 = .ok (.aload_n 0, 1) := by decide +kernel
theorem dX2_lastChoice_15 : decode cX2_lastChoice 15 = .ok (.getfield 31, 3) := by decide +kernel
theorem dX2_lastChoice_18 : decode cX2_lastChoice 18 = .ok (.if_icmp .ge 60, 3) := by decide +kernel
theorem dX2_lastChoice_21 : decode cX2_lastChoice 21 = .ok (.aload_n 0, 1) := by decide +kernel
theorem dX2_lastChoice_22 : decode cX2_lastChoice 22 = .ok (.getfield 9, 3) := by decide +kernel
theorem dX2_lastChoice_25 : decode cX2_lastChoice 25 = .ok (.iload 5, 2) := by decide +kernel
theorem dX2_lastChoice_27 : decode cX2_lastChoice 27 = .ok (.iaload, 1) := by decide +kernel
theorem dX2_lastChoice_28 : decode cX2_lastChoice 28 = .ok (.ifCond .ne 44, 3) := by decide +kernel
theorem dX2_lastChoice_31 : decode cX2_lastChoice 31 = .ok (.aload_n 0, 1) := by decide +kernel
theorem dX2_lastChoice_32 : decode cX2_lastChoice 32 = .ok (.getfield 24, 3) := by decide +kernel
theorem dX2_lastChoice_35 : decode cX2_lastChoice 35 = .ok (.iload 5, 2) := by decide +kernel
theorem dX2_lastChoice_37 : decode cX2_lastChoice 37 = .ok (.baload, 1) := by decide +kernel
theorem dX2_lastChoice_38 : decode cX2_lastChoice 38 = .ok (.ifCond .ne 34, 3) := by decide +kernel
theorem dX2_lastChoice_41 : decode cX2_lastChoice 41 = .ok (.aload_n 0, 1) := by decide +kernel
theorem dX2_lastChoice_42 : decode cX2_lastChoice 42 = .ok (.getfield 15, 3) := by decide +kernel
theorem dX2_lastChoice_45 : decode cX2_lastChoice 45 = .ok (.iload 5, 2) := by decide +kernel
theorem dX2_lastChoice_47 : decode cX2_lastChoice 47 = .ok (.iaload, 1) := by decide +kernel
theorem dX2_lastChoice_48 : decode cX2_lastChoice 48 = .ok (.iload_n 1, 1) := by decide +kernel
theorem dX2_lastChoice_49 : decode cX2_lastChoice 49 = .ok (.if_icmp .ne 23, 3) := by decide +kernel
theorem dX2_lastChoice_52 : decode cX2_lastChoice 52 = .ok (.aload_n 0, 1) := by decide +kernel
theorem dX2_lastChoice_53 : decode cX2_lastChoice 53 = .ok (.getfield 18, 3) := by decide +kernel
theorem dX2_lastChoice_56 : decode cX2_lastChoice 56 = .ok (.iload 5, 2) := by decide +kernel
theorem dX2_lastChoice_58 : decode cX2_lastChoice 58 = .ok (.iaload, 1) := by decide +kernel
theorem dX2_lastChoice_59 : decode cX2_lastChoice 59 = .ok (.iload_n 2, 1) := by decide +kernel
theorem dX2_lastChoice_60 : decode cX2_lastChoice 60 = .ok (.if_icmp .ne 12, 3) := by decide +kernel
theorem dX2_lastChoice_63 : decode cX2_lastChoice 63 = .ok (.aload_n 0, 1) := by decide +kernel
theorem dX2_lastChoice_64 : decode cX2_lastChoice 64 = .ok (.getfield 21, 3) := by decide +kernel
theorem dX2_lastChoice_67 : decode cX2_lastChoice 67 = .ok (.iload 5, 2) := by decide +kernel
theorem dX2_lastChoice_69 : decode cX2_lastChoice 69 = .ok (.iaload, 1) := by decide +kernel
theorem dX2_lastChoice_70 : decode cX2_lastChoice 70 = .ok (.istore 4, 2) := by decide +kernel
theorem dX2_lastChoice_72 : decode cX2_lastChoice 72 = .ok (.iinc 5 1, 3) := by decide +kernel
theorem dX2_lastChoice_75 : decode cX2_lastChoice 75 = .ok (.goto (-69), 3) := by decide +kernel
theorem dX2_lastChoice_78 : decode cX2_lastChoice 78 = .ok (.iload 4, 2) := by decide +kernel
theorem dX2_lastChoice_80 : decode cX2_lastChoice 80 = .ok (.ireturn, 1) := by decide +kernel
theorem b_X2_lastChoice (mm : MM) (Q : Value → MM → Prop) (t0 : Nat) (a1 : Int32) (a2 : Int32) (a3 : Int32) (h0 : AtLogs t0) (h : G e_X2_lastChoice 6 [(0, .ref t0), (1, .int a1), (2, .int a2), (3, .int a3), (4, .int (-1 : Int32)), (5, .int (0 : Int32))] [] mm Q) : Runs e_X2_lastChoice [.ref t0, .int a1, .int a2, .int a3] mm Q := by
  refine runs_of_G (L := [(0, .ref t0), (1, .int a1), (2, .int a2), (3, .int a3)]) pl_X2 (Nat.le_of_ble_eq_true rfl) rfl ?_
  refine g_iconst (pc := 0) (v := (-1 : Int32)) dX2_lastChoice_0 (by decide) ?_
  refine g_istore (pc := 1) (L' := [(0, .ref t0), (1, .int a1), (2, .int a2), (3, .int a3), (4, .int (-1 : Int32))]) dX2_lastChoice_1 (Nat.le_of_ble_eq_true rfl) rfl ?_
  refine g_iconst (pc := 3) (v := (0 : Int32)) dX2_lastChoice_3 (by decide) ?_
  refine g_istore (pc := 4) (L' := [(0, .ref t0), (1, .int a1), (2, .int a2), (3, .int a3), (4, .int (-1 : Int32)), (5, .int (0 : Int32))]) dX2_lastChoice_4 (Nat.le_of_ble_eq_true rfl) rfl ?_
  exact h
theorem b_X2_lastChoice_6 (mm : MM) (Q : Value → MM → Prop) (l0 : Nat) (l1 : Int32) (l2 : Int32) (l3 : Int32) (l4 : Int32) (l5 : Int32) (k0 : AtLogs l0) (h : (l3 ≤ l5 → (Q (.int l4) mm)) ∧ (¬ l3 ≤ l5 → (((mm.1 l0 6) ≤ l5 → (Q (.int l4) mm)) ∧ (¬ (mm.1 l0 6) ≤ l5 → (vp_in l5 60 ∧ ((¬ (mm.1 (l0 + 1) l5.toNatClampNeg) = 0 → (G e_X2_lastChoice 6 [(0, .ref l0), (1, .int l1), (2, .int l2), (3, .int l3), (4, .int l4), (5, .int (l5 + (1 : Int32)))] [] mm Q)) ∧ ((mm.1 (l0 + 1) l5.toNatClampNeg) = 0 → (vp_in l5 60 ∧ ((¬ (mm.1 (l0 + 5) l5.toNatClampNeg) = 0 → (G e_X2_lastChoice 6 [(0, .ref l0), (1, .int l1), (2, .int l2), (3, .int l3), (4, .int l4), (5, .int (l5 + (1 : Int32)))] [] mm Q)) ∧ ((mm.1 (l0 + 5) l5.toNatClampNeg) = 0 → (vp_in l5 60 ∧ ((¬ (mm.1 (l0 + 2) l5.toNatClampNeg) = l1 → (G e_X2_lastChoice 6 [(0, .ref l0), (1, .int l1), (2, .int l2), (3, .int l3), (4, .int l4), (5, .int (l5 + (1 : Int32)))] [] mm Q)) ∧ ((mm.1 (l0 + 2) l5.toNatClampNeg) = l1 → (vp_in l5 60 ∧ ((¬ (mm.1 (l0 + 3) l5.toNatClampNeg) = l2 → (G e_X2_lastChoice 6 [(0, .ref l0), (1, .int l1), (2, .int l2), (3, .int l3), (4, .int l4), (5, .int (l5 + (1 : Int32)))] [] mm Q)) ∧ ((mm.1 (l0 + 3) l5.toNatClampNeg) = l2 → (vp_in l5 60 ∧ (G e_X2_lastChoice 6 [(0, .ref l0), (1, .int l1), (2, .int l2), (3, .int l3), (4, .int (mm.1 (l0 + 4) l5.toNatClampNeg)), (5, .int (l5 + (1 : Int32)))] [] mm Q)))))))))))))))))) : G e_X2_lastChoice 6 [(0, .ref l0), (1, .int l1), (2, .int l2), (3, .int l3), (4, .int l4), (5, .int l5)] [] mm Q := by
  refine g_iload (pc := 6) (x := l5) dX2_lastChoice_6 rfl ?_
  refine g_iload_n (pc := 8) (x := l3) dX2_lastChoice_8 rfl ?_
  refine g_icmp_ge (pc := 9) (tgt := 78) dX2_lastChoice_9 (by decide) (fun c9 => ?_) (fun c9 => ?_)
  · have h := h.1 c9
    refine g_iload (pc := 78) (x := l4) dX2_lastChoice_78 rfl ?_
    exact g_iret (pc := 80) dX2_lastChoice_80 rfl rfl rfl h
  · have h := h.2 c9
    refine g_iload (pc := 12) (x := l5) dX2_lastChoice_12 rfl ?_
    refine g_aload_n (pc := 14) (x := l0) dX2_lastChoice_14 rfl ?_
    refine g_getI (pc := 15) dX2_lastChoice_15 fo_X2_31 (AtLogs_0 k0) rfl ?_
    refine g_icmp_ge (pc := 18) (tgt := 78) dX2_lastChoice_18 (by decide) (fun c18 => ?_) (fun c18 => ?_)
    · have h := h.1 c18
      refine g_iload (pc := 78) (x := l4) dX2_lastChoice_78 rfl ?_
      exact g_iret (pc := 80) dX2_lastChoice_80 rfl rfl rfl h
    · have h := h.2 c18
      refine g_aload_n (pc := 21) (x := l0) dX2_lastChoice_21 rfl ?_
      refine g_getR (pc := 22) (dd := 1) dX2_lastChoice_22 fo_X2_9 (AtLogs_0 k0) rfl ?_
      refine g_iload (pc := 25) (x := l5) dX2_lastChoice_25 rfl ?_
      refine g_iaload (pc := 27) dX2_lastChoice_27 (AtLogs_1 k0) h.1 ?_
      have h := h.2
      refine g_if_ne (pc := 28) (tgt := 72) dX2_lastChoice_28 (by decide) (fun c28 => ?_) (fun c28 => ?_)
      · have h := h.1 c28
        refine g_iinc (pc := 72) (x := l5) (v := (l5 + (1 : Int32))) (L' := [(0, .ref l0), (1, .int l1), (2, .int l2), (3, .int l3), (4, .int l4), (5, .int (l5 + (1 : Int32)))]) dX2_lastChoice_72 rfl rfl (Nat.le_of_ble_eq_true rfl) rfl ?_
        refine g_goto (pc := 75) (tgt := 6) dX2_lastChoice_75 (by decide) ?_
        exact h
      · have h := h.2 c28
        refine g_aload_n (pc := 31) (x := l0) dX2_lastChoice_31 rfl ?_
        refine g_getR (pc := 32) (dd := 5) dX2_lastChoice_32 fo_X2_24 (AtLogs_0 k0) rfl ?_
        refine g_iload (pc := 35) (x := l5) dX2_lastChoice_35 rfl ?_
        refine g_zaload (pc := 37) dX2_lastChoice_37 (AtLogs_5 k0) h.1 ?_
        have h := h.2
        refine g_if_ne (pc := 38) (tgt := 72) dX2_lastChoice_38 (by decide) (fun c38 => ?_) (fun c38 => ?_)
        · have h := h.1 c38
          refine g_iinc (pc := 72) (x := l5) (v := (l5 + (1 : Int32))) (L' := [(0, .ref l0), (1, .int l1), (2, .int l2), (3, .int l3), (4, .int l4), (5, .int (l5 + (1 : Int32)))]) dX2_lastChoice_72 rfl rfl (Nat.le_of_ble_eq_true rfl) rfl ?_
          refine g_goto (pc := 75) (tgt := 6) dX2_lastChoice_75 (by decide) ?_
          exact h
        · have h := h.2 c38
          refine g_aload_n (pc := 41) (x := l0) dX2_lastChoice_41 rfl ?_
          refine g_getR (pc := 42) (dd := 2) dX2_lastChoice_42 fo_X2_15 (AtLogs_0 k0) rfl ?_
          refine g_iload (pc := 45) (x := l5) dX2_lastChoice_45 rfl ?_
          refine g_iaload (pc := 47) dX2_lastChoice_47 (AtLogs_2 k0) h.1 ?_
          have h := h.2
          refine g_iload_n (pc := 48) (x := l1) dX2_lastChoice_48 rfl ?_
          refine g_icmp_ne (pc := 49) (tgt := 72) dX2_lastChoice_49 (by decide) (fun c49 => ?_) (fun c49 => ?_)
          · have h := h.1 c49
            refine g_iinc (pc := 72) (x := l5) (v := (l5 + (1 : Int32))) (L' := [(0, .ref l0), (1, .int l1), (2, .int l2), (3, .int l3), (4, .int l4), (5, .int (l5 + (1 : Int32)))]) dX2_lastChoice_72 rfl rfl (Nat.le_of_ble_eq_true rfl) rfl ?_
            refine g_goto (pc := 75) (tgt := 6) dX2_lastChoice_75 (by decide) ?_
            exact h
          · have h := h.2 c49
            refine g_aload_n (pc := 52) (x := l0) dX2_lastChoice_52 rfl ?_
            refine g_getR (pc := 53) (dd := 3) dX2_lastChoice_53 fo_X2_18 (AtLogs_0 k0) rfl ?_
            refine g_iload (pc := 56) (x := l5) dX2_lastChoice_56 rfl ?_
            refine g_iaload (pc := 58) dX2_lastChoice_58 (AtLogs_3 k0) h.1 ?_
            have h := h.2
            refine g_iload_n (pc := 59) (x := l2) dX2_lastChoice_59 rfl ?_
            refine g_icmp_ne (pc := 60) (tgt := 72) dX2_lastChoice_60 (by decide) (fun c60 => ?_) (fun c60 => ?_)
            · have h := h.1 c60
              refine g_iinc (pc := 72) (x := l5) (v := (l5 + (1 : Int32))) (L' := [(0, .ref l0), (1, .int l1), (2, .int l2), (3, .int l3), (4, .int l4), (5, .int (l5 + (1 : Int32)))]) dX2_lastChoice_72 rfl rfl (Nat.le_of_ble_eq_true rfl) rfl ?_
              refine g_goto (pc := 75) (tgt := 6) dX2_lastChoice_75 (by decide) ?_
              exact h
            · have h := h.2 c60
              refine g_aload_n (pc := 63) (x := l0) dX2_lastChoice_63 rfl ?_
              refine g_getR (pc := 64) (dd := 4) dX2_lastChoice_64 fo_X2_21 (AtLogs_0 k0) rfl ?_
              refine g_iload (pc := 67) (x := l5) dX2_lastChoice_67 rfl ?_
              refine g_iaload (pc := 69) dX2_lastChoice_69 (AtLogs_4 k0) h.1 ?_
              have h := h.2
              refine g_istore (pc := 70) (L' := [(0, .ref l0), (1, .int l1), (2, .int l2), (3, .int l3), (4, .int (mm.1 (l0 + 4) l5.toNatClampNeg)), (5, .int l5)]) dX2_lastChoice_70 (Nat.le_of_ble_eq_true rfl) rfl ?_
              refine g_iinc (pc := 72) (x := l5) (v := (l5 + (1 : Int32))) (L' := [(0, .ref l0), (1, .int l1), (2, .int l2), (3, .int l3), (4, .int (mm.1 (l0 + 4) l5.toNatClampNeg)), (5, .int (l5 + (1 : Int32)))]) dX2_lastChoice_72 rfl rfl (Nat.le_of_ble_eq_true rfl) rfl ?_
              refine g_goto (pc := 75) (tgt := 6) dX2_lastChoice_75 (by decide) ?_
              exact h
theorem dX2_endsOf_0 : decode cX2_endsOf 0 = .ok (.aload_n 0, 1) := by decide +kernel
theorem dX2_endsOf_1 : decode cX2_endsOf 1 = .ok (.iload 4, 2) := by decide +kernel
theorem dX2_endsOf_3 : decode cX2_endsOf 3 = .ok (.invokevirtual 41, 3) := by decide +kernel
theorem dX2_endsOf_6 : decode cX2_endsOf 6 = .ok (.iconst 0, 1) := by decide +kernel
theorem dX2_endsOf_7 : decode cX2_endsOf 7 = .ok (.istore 5, 2) := by decide +kernel
theorem dX2_endsOf_9 : decode cX2_endsOf 9 = .ok (.bipush 99, 2) := by decide +kernel
theorem dX2_endsOf_11 : decode cX2_endsOf 11 = .ok (.istore 6, 2) := by decide +kernel
theorem dX2_endsOf_13 : decode cX2_endsOf 13 = .ok (.iconst 0, 1) := by decide +kernel
theorem dX2_endsOf_14 : decode cX2_endsOf 14 = .ok (.istore 7, 2) := by decide +kernel
theorem dX2_endsOf_16 : decode cX2_endsOf 16 = .ok (.iload 7, 2) := by decide +kernel
theorem dX2_endsOf_18 : decode cX2_endsOf 18 = .ok (.iload 4, 2) := by decide +kernel
theorem dX2_endsOf_20 : decode cX2_endsOf 20 = .ok (.if_icmp .ge 91, 3) := by decide +kernel
theorem dX2_endsOf_23 : decode cX2_endsOf 23 = .ok (.iload 7, 2) := by decide +kernel
theorem dX2_endsOf_25 : decode cX2_endsOf 25 = .ok (.aload_n 0, 1) := by decide +kernel
theorem dX2_endsOf_26 : decode cX2_endsOf 26 = .ok (.getfield 31, 3) := by decide +kernel
theorem dX2_endsOf_29 : decode cX2_endsOf 29 = .ok (.if_icmp .ge 82, 3) := by decide +kernel
theorem dX2_endsOf_32 : decode cX2_endsOf 32 = .ok (.aload_n 0, 1) := by decide +kernel
theorem dX2_endsOf_33 : decode cX2_endsOf 33 = .ok (.iload 7, 2) := by decide +kernel
theorem dX2_endsOf_35 : decode cX2_endsOf 35 = .ok (.iload_n 1, 1) := by decide +kernel
theorem dX2_endsOf_36 : decode cX2_endsOf 36 = .ok (.invokevirtual 49, 3) := by decide +kernel
theorem dX2_endsOf_39 : decode cX2_endsOf 39 = .ok (.ifCond .eq 66, 3) := by decide +kernel
theorem dX2_endsOf_42 : decode cX2_endsOf 42 = .ok (.aload_n 0, 1) := by decide +kernel
theorem dX2_endsOf_43 : decode cX2_endsOf 43 = .ok (.iload 7, 2) := by decide +kernel
theorem dX2_endsOf_45 : decode cX2_endsOf 45 = .ok (.iload_n 3, 1) := by decide +kernel
theorem dX2_endsOf_46 : decode cX2_endsOf 46 = .ok (.invokevirtual 53, 3) := by decide +kernel
theorem dX2_endsOf_49 : decode cX2_endsOf 49 = .ok (.ifCond .eq 6, 3) := by decide +kernel
theorem dX2_endsOf_52 : decode cX2_endsOf 52 = .ok (.bipush (-2), 2) := by decide +kernel
theorem dX2_endsOf_54 : decode cX2_endsOf 54 = .ok (.ireturn, 1) := by decide +kernel
theorem dX2_endsOf_55 : decode cX2_endsOf 55 = .ok (.iload_n 3, 1) := by decide +kernel
theorem dX2_endsOf_56 : decode cX2_endsOf 56 = .ok (.iload_n 2, 1) := by decide +kernel
theorem dX2_endsOf_57 : decode cX2_endsOf 57 = .ok (.aload_n 0, 1) := by decide +kernel
theorem dX2_endsOf_58 : decode cX2_endsOf 58 = .ok (.getfield 18, 3) := by decide +kernel
theorem dX2_endsOf_61 : decode cX2_endsOf 61 = .ok (.iload 7, 2) := by decide +kernel
theorem dX2_endsOf_63 : decode cX2_endsOf 63 = .ok (.iaload, 1) := by decide +kernel
theorem dX2_endsOf_64 : decode cX2_endsOf 64 = .ok (.isub, 1) := by decide +kernel
theorem dX2_endsOf_65 : decode cX2_endsOf 65 = .ok (.invokestatic 56, 3) := by decide +kernel
theorem dX2_endsOf_68 : decode cX2_endsOf 68 = .ok (.imul, 1) := by decide +kernel
theorem dX2_endsOf_69 : decode cX2_endsOf 69 = .ok (.istore 8, 2) := by decide +kernel
theorem dX2_endsOf_71 : decode cX2_endsOf 71 = .ok (.iload 5, 2) := by decide +kernel
theorem dX2_endsOf_73 : decode cX2_endsOf 73 = .ok (.aload_n 0, 1) := by decide +kernel
theorem dX2_endsOf_74 : decode cX2_endsOf 74 = .ok (.getfield 21, 3) := by decide +kernel
theorem dX2_endsOf_77 : decode cX2_endsOf 77 = .ok (.iload 7, 2) := by decide +kernel
theorem dX2_endsOf_79 : decode cX2_endsOf 79 = .ok (.iaload, 1) := by decide +kernel
theorem dX2_endsOf_80 : decode cX2_endsOf 80 = .ok (.iload 8, 2) := by decide +kernel
theorem dX2_endsOf_82 : decode cX2_endsOf 82 = .ok (.isub, 1) := by decide +kernel
theorem dX2_endsOf_83 : decode cX2_endsOf 83 = .ok (.invokestatic 62, 3) := by decide +kernel
theorem dX2_endsOf_86 : decode cX2_endsOf 86 = .ok (.istore 5, 2) := by decide +kernel
theorem dX2_endsOf_88 : decode cX2_endsOf 88 = .ok (.iload 6, 2) := by decide +kernel
theorem dX2_endsOf_90 : decode cX2_endsOf 90 = .ok (.aload_n 0, 1) := by decide +kernel
theorem dX2_endsOf_91 : decode cX2_endsOf 91 = .ok (.getfield 21, 3) := by decide +kernel
theorem dX2_endsOf_94 : decode cX2_endsOf 94 = .ok (.iload 7, 2) := by decide +kernel
theorem dX2_endsOf_96 : decode cX2_endsOf 96 = .ok (.iaload, 1) := by decide +kernel
theorem dX2_endsOf_97 : decode cX2_endsOf 97 = .ok (.iload 8, 2) := by decide +kernel
theorem dX2_endsOf_99 : decode cX2_endsOf 99 = .ok (.iadd, 1) := by decide +kernel
theorem dX2_endsOf_100 : decode cX2_endsOf 100 = .ok (.invokestatic 66, 3) := by decide +kernel
theorem dX2_endsOf_103 : decode cX2_endsOf 103 = .ok (.istore 6, 2) := by decide +kernel
theorem dX2_endsOf_105 : decode cX2_endsOf 105 = .ok (.iinc 7 1, 3) := by decide +kernel
theorem dX2_endsOf_108 : decode cX2_endsOf 108 = .ok (.goto (-92), 3) := by decide +kernel
theorem dX2_endsOf_111 : decode cX2_endsOf 111 = .ok (.iload 5, 2) := by decide +kernel
theorem dX2_endsOf_113 : decode cX2_endsOf 113 = .ok (.iload 6, 2) := by decide +kernel
theorem dX2_endsOf_115 : decode cX2_endsOf 115 = .ok (.if_icmp .le 8, 3) := by decide +kernel
theorem dX2_endsOf_118 : decode cX2_endsOf 118 = .ok (.bipush (-2), 2) := by decide +kernel
theorem dX2_endsOf_120 : decode cX2_endsOf 120 = .ok (.goto 11, 3) := by decide +kernel
theorem dX2_endsOf_123 : decode cX2_endsOf 123 = .ok (.bipush 100, 2) := by decide +kernel
theorem dX2_endsOf_125 : decode cX2_endsOf 125 = .ok (.iload 5, 2) := by decide +kernel
theorem dX2_endsOf_127 : decode cX2_endsOf 127 = .ok (.imul, 1) := by decide +kernel
theorem dX2_endsOf_128 : decode cX2_endsOf 128 = .ok (.iload 6, 2) := by decide +kernel
theorem dX2_endsOf_130 : decode cX2_endsOf 130 = .ok (.iadd, 1) := by decide +kernel
theorem dX2_endsOf_131 : decode cX2_endsOf 131 = .ok (.ireturn, 1) := by decide +kernel
theorem b_X2_endsOf (mm : MM) (Q : Value → MM → Prop) (t0 : Nat) (a1 : Int32) (a2 : Int32) (a3 : Int32) (a4 : Int32) (h0 : AtLogs t0) (h : ∃ Pm1 : Value → MM → Prop, Runs e_X2_strike [.ref t0, .int a4] mm Pm1 ∧ ∀ m1, Pm1 .null m1 → (G e_X2_endsOf 16 [(0, .ref t0), (1, .int a1), (2, .int a2), (3, .int a3), (4, .int a4), (5, .int (0 : Int32)), (6, .int (99 : Int32)), (7, .int (0 : Int32))] [] m1 Q)) : Runs e_X2_endsOf [.ref t0, .int a1, .int a2, .int a3, .int a4] mm Q := by
  refine runs_of_G (L := [(0, .ref t0), (1, .int a1), (2, .int a2), (3, .int a3), (4, .int a4)]) pl_X2 (Nat.le_of_ble_eq_true rfl) rfl ?_
  refine g_aload_n (pc := 0) (x := t0) dX2_endsOf_0 rfl ?_
  refine g_iload (pc := 1) (x := a4) dX2_endsOf_1 rfl ?_
  obtain ⟨Pm1, hRm1, h⟩ := h
  refine g_callV (pc := 3) (as := [.int a4]) dX2_endsOf_3 cw_X2_41 (by decide) rfl rfl (AtLogs_0 h0) (Nat.le_of_ble_eq_true rfl) hRm1 ?_
  intro r_ m1 hz_ hp_
  obtain rfl := hz_
  have h := h m1 hp_
  refine g_iconst (pc := 6) (v := (0 : Int32)) dX2_endsOf_6 (by decide) ?_
  refine g_istore (pc := 7) (L' := [(0, .ref t0), (1, .int a1), (2, .int a2), (3, .int a3), (4, .int a4), (5, .int (0 : Int32))]) dX2_endsOf_7 (Nat.le_of_ble_eq_true rfl) rfl ?_
  refine g_bipush (pc := 9) (v := (99 : Int32)) dX2_endsOf_9 (by decide) ?_
  refine g_istore (pc := 11) (L' := [(0, .ref t0), (1, .int a1), (2, .int a2), (3, .int a3), (4, .int a4), (5, .int (0 : Int32)), (6, .int (99 : Int32))]) dX2_endsOf_11 (Nat.le_of_ble_eq_true rfl) rfl ?_
  refine g_iconst (pc := 13) (v := (0 : Int32)) dX2_endsOf_13 (by decide) ?_
  refine g_istore (pc := 14) (L' := [(0, .ref t0), (1, .int a1), (2, .int a2), (3, .int a3), (4, .int a4), (5, .int (0 : Int32)), (6, .int (99 : Int32)), (7, .int (0 : Int32))]) dX2_endsOf_14 (Nat.le_of_ble_eq_true rfl) rfl ?_
  exact h
theorem dX2_isMarkOf_0 : decode cX2_isMarkOf 0 = .ok (.aload_n 0, 1) := by decide +kernel
theorem dX2_isMarkOf_1 : decode cX2_isMarkOf 1 = .ok (.getfield 9, 3) := by decide +kernel
theorem dX2_isMarkOf_4 : decode cX2_isMarkOf 4 = .ok (.iload_n 1, 1) := by decide +kernel
theorem dX2_isMarkOf_5 : decode cX2_isMarkOf 5 = .ok (.iaload, 1) := by decide +kernel
theorem dX2_isMarkOf_6 : decode cX2_isMarkOf 6 = .ok (.iconst 1, 1) := by decide +kernel
theorem dX2_isMarkOf_7 : decode cX2_isMarkOf 7 = .ok (.if_icmp .ne 26, 3) := by decide +kernel
theorem dX2_isMarkOf_10 : decode cX2_isMarkOf 10 = .ok (.aload_n 0, 1) := by decide +kernel
theorem dX2_isMarkOf_11 : decode cX2_isMarkOf 11 = .ok (.getfield 24, 3) := by decide +kernel
theorem dX2_isMarkOf_14 : decode cX2_isMarkOf 14 = .ok (.iload_n 1, 1) := by decide +kernel
theorem dX2_isMarkOf_15 : decode cX2_isMarkOf 15 = .ok (.baload, 1) := by decide +kernel
theorem dX2_isMarkOf_16 : decode cX2_isMarkOf 16 = .ok (.ifCond .ne 17, 3) := by decide +kernel
theorem dX2_isMarkOf_19 : decode cX2_isMarkOf 19 = .ok (.aload_n 0, 1) := by decide +kernel
theorem dX2_isMarkOf_20 : decode cX2_isMarkOf 20 = .ok (.getfield 15, 3) := by decide +kernel
theorem dX2_isMarkOf_23 : decode cX2_isMarkOf 23 = .ok (.iload_n 1, 1) := by decide +kernel
theorem dX2_isMarkOf_24 : decode cX2_isMarkOf 24 = .ok (.iaload, 1) := by decide +kernel
theorem dX2_isMarkOf_25 : decode cX2_isMarkOf 25 = .ok (.iload_n 2, 1) := by decide +kernel
theorem dX2_isMarkOf_26 : decode cX2_isMarkOf 26 = .ok (.if_icmp .ne 7, 3) := by decide +kernel
theorem dX2_isMarkOf_29 : decode cX2_isMarkOf 29 = .ok (.iconst 1, 1) := by decide +kernel
theorem dX2_isMarkOf_30 : decode cX2_isMarkOf 30 = .ok (.goto 4, 3) := by decide +kernel
theorem dX2_isMarkOf_33 : decode cX2_isMarkOf 33 = .ok (.iconst 0, 1) := by decide +kernel
theorem dX2_isMarkOf_34 : decode cX2_isMarkOf 34 = .ok (.ireturn, 1) := by decide +kernel
def o_X2_isMarkOf (mm : MM) (t0 : Nat) (a1 : Int32) (a2 : Int32) : Prop := vp_in a1 60 ∧ ((¬ (mm.1 (t0 + 1) a1.toNatClampNeg) = (1 : Int32) → (True)) ∧ ((mm.1 (t0 + 1) a1.toNatClampNeg) = (1 : Int32) → (vp_in a1 60 ∧ ((¬ (mm.1 (t0 + 5) a1.toNatClampNeg) = 0 → (True)) ∧ ((mm.1 (t0 + 5) a1.toNatClampNeg) = 0 → (vp_in a1 60 ∧ ((¬ (mm.1 (t0 + 2) a1.toNatClampNeg) = a2 → (True)) ∧ ((mm.1 (t0 + 2) a1.toNatClampNeg) = a2 → (True)))))))))
def p_X2_isMarkOf (mm : MM) (t0 : Nat) (a1 : Int32) (a2 : Int32) : Prop := ((mm.1 (t0 + 1) a1.toNatClampNeg) = (1 : Int32) ∧ ((mm.1 (t0 + 5) a1.toNatClampNeg) = 0 ∧ (mm.1 (t0 + 2) a1.toNatClampNeg) = a2))
theorem rv_X2_isMarkOf (mm : MM) (t0 : Nat) (a1 : Int32) (a2 : Int32) (h0 : AtLogs t0) (h : o_X2_isMarkOf mm t0 a1 a2) : Runs e_X2_isMarkOf [.ref t0, .int a1, .int a2] mm (fun r m_ => ((p_X2_isMarkOf mm t0 a1 a2 ∧ r = .int 1) ∨ (¬ p_X2_isMarkOf mm t0 a1 a2 ∧ r = .int 0)) ∧ mm = m_) := by
  refine runs_of_G (L := [(0, .ref t0), (1, .int a1), (2, .int a2)]) pl_X2 (Nat.le_of_ble_eq_true rfl) rfl ?_
  unfold o_X2_isMarkOf at h
  refine g_aload_n (pc := 0) (x := t0) dX2_isMarkOf_0 rfl ?_
  refine g_getR (pc := 1) (dd := 1) dX2_isMarkOf_1 fo_X2_9 (AtLogs_0 h0) rfl ?_
  refine g_iload_n (pc := 4) (x := a1) dX2_isMarkOf_4 rfl ?_
  refine g_iaload (pc := 5) dX2_isMarkOf_5 (AtLogs_1 h0) h.1 ?_
  have h := h.2
  refine g_iconst (pc := 6) (v := (1 : Int32)) dX2_isMarkOf_6 (by decide) ?_
  refine g_icmp_ne (pc := 7) (tgt := 33) dX2_isMarkOf_7 (by decide) (fun c7 => ?_) (fun c7 => ?_)
  · have c7_0 := c7
    have h := h.1 c7
    refine g_iconst (pc := 33) (v := (0 : Int32)) dX2_isMarkOf_33 (by decide) ?_
    exact g_iret (pc := 34) dX2_isMarkOf_34 rfl rfl (nar_B isB0) ⟨Or.inr ⟨(by unfold p_X2_isMarkOf; simp only [c7_0, true_and, and_true, false_and, and_false, true_or, or_true, false_or, or_false, not_true_eq_false, not_false_eq_true]), rfl⟩, rfl⟩
  · have c7_0 := c7
    have h := h.2 c7
    refine g_aload_n (pc := 10) (x := t0) dX2_isMarkOf_10 rfl ?_
    refine g_getR (pc := 11) (dd := 5) dX2_isMarkOf_11 fo_X2_24 (AtLogs_0 h0) rfl ?_
    refine g_iload_n (pc := 14) (x := a1) dX2_isMarkOf_14 rfl ?_
    refine g_zaload (pc := 15) dX2_isMarkOf_15 (AtLogs_5 h0) h.1 ?_
    have h := h.2
    refine g_if_ne (pc := 16) (tgt := 33) dX2_isMarkOf_16 (by decide) (fun c16 => ?_) (fun c16 => ?_)
    · have c16_1 := c16
      have h := h.1 c16
      refine g_iconst (pc := 33) (v := (0 : Int32)) dX2_isMarkOf_33 (by decide) ?_
      exact g_iret (pc := 34) dX2_isMarkOf_34 rfl rfl (nar_B isB0) ⟨Or.inr ⟨(by unfold p_X2_isMarkOf; simp only [c7_0, c16_1, true_and, and_true, false_and, and_false, true_or, or_true, false_or, or_false, not_true_eq_false, not_false_eq_true]), rfl⟩, rfl⟩
    · have c16_1 := c16
      have h := h.2 c16
      refine g_aload_n (pc := 19) (x := t0) dX2_isMarkOf_19 rfl ?_
      refine g_getR (pc := 20) (dd := 2) dX2_isMarkOf_20 fo_X2_15 (AtLogs_0 h0) rfl ?_
      refine g_iload_n (pc := 23) (x := a1) dX2_isMarkOf_23 rfl ?_
      refine g_iaload (pc := 24) dX2_isMarkOf_24 (AtLogs_2 h0) h.1 ?_
      have h := h.2
      refine g_iload_n (pc := 25) (x := a2) dX2_isMarkOf_25 rfl ?_
      refine g_icmp_ne (pc := 26) (tgt := 33) dX2_isMarkOf_26 (by decide) (fun c26 => ?_) (fun c26 => ?_)
      · have c26_2 := c26
        refine g_iconst (pc := 33) (v := (0 : Int32)) dX2_isMarkOf_33 (by decide) ?_
        exact g_iret (pc := 34) dX2_isMarkOf_34 rfl rfl (nar_B isB0) ⟨Or.inr ⟨(by unfold p_X2_isMarkOf; simp only [c7_0, c16_1, c26_2, true_and, and_true, false_and, and_false, true_or, or_true, false_or, or_false, not_true_eq_false, not_false_eq_true]), rfl⟩, rfl⟩
      · have c26_2 := c26
        refine g_iconst (pc := 29) (v := (1 : Int32)) dX2_isMarkOf_29 (by decide) ?_
        refine g_goto (pc := 30) (tgt := 34) dX2_isMarkOf_30 (by decide) ?_
        exact g_iret (pc := 34) dX2_isMarkOf_34 rfl rfl (nar_B isB1) ⟨Or.inl ⟨(by unfold p_X2_isMarkOf; simp only [c7_0, c16_1, c26_2, true_and, and_true, false_and, and_false, true_or, or_true, false_or, or_false, not_true_eq_false, not_false_eq_true]), rfl⟩, rfl⟩
theorem b_X2_endsOf_16 (mm : MM) (Q : Value → MM → Prop) (l0 : Nat) (l1 : Int32) (l2 : Int32) (l3 : Int32) (l4 : Int32) (l5 : Int32) (l6 : Int32) (l7 : Int32) (k0 : AtLogs l0) (h : (l4 ≤ l7 → ((l5 ≤ l6 → (Q (.int (((100 : Int32) * l5) + l6)) mm)) ∧ (¬ l5 ≤ l6 → (Q (.int (-2 : Int32)) mm)))) ∧ (¬ l4 ≤ l7 → (((mm.1 l0 6) ≤ l7 → ((l5 ≤ l6 → (Q (.int (((100 : Int32) * l5) + l6)) mm)) ∧ (¬ l5 ≤ l6 → (Q (.int (-2 : Int32)) mm)))) ∧ (¬ (mm.1 l0 6) ≤ l7 → (o_X2_isMarkOf mm l0 l7 l1 ∧ ((p_X2_isMarkOf mm l0 l7 l1 → (∃ Pm1 : Value → MM → Prop, Runs e_X2_contradicted [.ref l0, .int l7, .int l3] mm Pm1 ∧ (∀ r m1, Pm1 r m1 → r = .int 1 ∨ r = .int 0) ∧ (∀ m1, Pm1 (.int 1) m1 → (Q (.int (-2 : Int32)) m1)) ∧ (∀ m1, Pm1 (.int 0) m1 → (vp_in l7 60 ∧ (vp_in l7 60 ∧ (vp_in l7 60 ∧ (G e_X2_endsOf 16 [(0, .ref l0), (1, .int l1), (2, .int l2), (3, .int l3), (4, .int l4), (5, .int (imax l5 ((m1.1 (l0 + 4) l7.toNatClampNeg) - (l3 * (iabs (l2 - (m1.1 (l0 + 3) l7.toNatClampNeg))))))), (6, .int (imin l6 ((m1.1 (l0 + 4) l7.toNatClampNeg) + (l3 * (iabs (l2 - (m1.1 (l0 + 3) l7.toNatClampNeg))))))), (7, .int (l7 + (1 : Int32)))] [] m1 Q))))))) ∧ (¬ p_X2_isMarkOf mm l0 l7 l1 → (G e_X2_endsOf 16 [(0, .ref l0), (1, .int l1), (2, .int l2), (3, .int l3), (4, .int l4), (5, .int l5), (6, .int l6), (7, .int (l7 + (1 : Int32)))] [] mm Q)))))))) : G e_X2_endsOf 16 [(0, .ref l0), (1, .int l1), (2, .int l2), (3, .int l3), (4, .int l4), (5, .int l5), (6, .int l6), (7, .int l7)] [] mm Q := by
  refine g_iload (pc := 16) (x := l7) dX2_endsOf_16 rfl ?_
  refine g_iload (pc := 18) (x := l4) dX2_endsOf_18 rfl ?_
  refine g_icmp_ge (pc := 20) (tgt := 111) dX2_endsOf_20 (by decide) (fun c20 => ?_) (fun c20 => ?_)
  · have h := h.1 c20
    refine g_iload (pc := 111) (x := l5) dX2_endsOf_111 rfl ?_
    refine g_iload (pc := 113) (x := l6) dX2_endsOf_113 rfl ?_
    refine g_icmp_le (pc := 115) (tgt := 123) dX2_endsOf_115 (by decide) (fun c115 => ?_) (fun c115 => ?_)
    · have h := h.1 c115
      refine g_bipush (pc := 123) (v := (100 : Int32)) dX2_endsOf_123 (by decide) ?_
      refine g_iload (pc := 125) (x := l5) dX2_endsOf_125 rfl ?_
      refine g_imul (pc := 127) dX2_endsOf_127 ?_
      refine g_iload (pc := 128) (x := l6) dX2_endsOf_128 rfl ?_
      refine g_iadd (pc := 130) dX2_endsOf_130 ?_
      exact g_iret (pc := 131) dX2_endsOf_131 rfl rfl rfl h
    · have h := h.2 c115
      refine g_bipush (pc := 118) (v := (-2 : Int32)) dX2_endsOf_118 (by decide) ?_
      refine g_goto (pc := 120) (tgt := 131) dX2_endsOf_120 (by decide) ?_
      exact g_iret (pc := 131) dX2_endsOf_131 rfl rfl rfl h
  · have h := h.2 c20
    refine g_iload (pc := 23) (x := l7) dX2_endsOf_23 rfl ?_
    refine g_aload_n (pc := 25) (x := l0) dX2_endsOf_25 rfl ?_
    refine g_getI (pc := 26) dX2_endsOf_26 fo_X2_31 (AtLogs_0 k0) rfl ?_
    refine g_icmp_ge (pc := 29) (tgt := 111) dX2_endsOf_29 (by decide) (fun c29 => ?_) (fun c29 => ?_)
    · have h := h.1 c29
      refine g_iload (pc := 111) (x := l5) dX2_endsOf_111 rfl ?_
      refine g_iload (pc := 113) (x := l6) dX2_endsOf_113 rfl ?_
      refine g_icmp_le (pc := 115) (tgt := 123) dX2_endsOf_115 (by decide) (fun c115 => ?_) (fun c115 => ?_)
      · have h := h.1 c115
        refine g_bipush (pc := 123) (v := (100 : Int32)) dX2_endsOf_123 (by decide) ?_
        refine g_iload (pc := 125) (x := l5) dX2_endsOf_125 rfl ?_
        refine g_imul (pc := 127) dX2_endsOf_127 ?_
        refine g_iload (pc := 128) (x := l6) dX2_endsOf_128 rfl ?_
        refine g_iadd (pc := 130) dX2_endsOf_130 ?_
        exact g_iret (pc := 131) dX2_endsOf_131 rfl rfl rfl h
      · have h := h.2 c115
        refine g_bipush (pc := 118) (v := (-2 : Int32)) dX2_endsOf_118 (by decide) ?_
        refine g_goto (pc := 120) (tgt := 131) dX2_endsOf_120 (by decide) ?_
        exact g_iret (pc := 131) dX2_endsOf_131 rfl rfl rfl h
    · have h := h.2 c29
      refine g_aload_n (pc := 32) (x := l0) dX2_endsOf_32 rfl ?_
      refine g_iload (pc := 33) (x := l7) dX2_endsOf_33 rfl ?_
      refine g_iload_n (pc := 35) (x := l1) dX2_endsOf_35 rfl ?_
      refine g_callV (pc := 36) (as := [.int l7, .int l1]) dX2_endsOf_36 cw_X2_49 (by decide) rfl rfl (AtLogs_0 k0) (Nat.le_of_ble_eq_true rfl) (rv_X2_isMarkOf mm l0 l7 l1 k0 h.1) ?_
      have h := h.2
      rintro r_ m_ hz_ ⟨⟨p_, rfl⟩ | ⟨p_, rfl⟩, rfl⟩
      · have h := h.1 p_
        refine g_if_eq (pc := 39) (tgt := 105) dX2_endsOf_39 (by decide) (fun c39 => absurd c39 (by decide)) (fun _ => ?_)
        refine g_aload_n (pc := 42) (x := l0) dX2_endsOf_42 rfl ?_
        refine g_iload (pc := 43) (x := l7) dX2_endsOf_43 rfl ?_
        refine g_iload_n (pc := 45) (x := l3) dX2_endsOf_45 rfl ?_
        obtain ⟨Pm1, hRm1, h⟩ := h
        refine g_callV (pc := 46) (as := [.int l7, .int l3]) dX2_endsOf_46 cw_X2_53 (by decide) rfl rfl (AtLogs_0 k0) (Nat.le_of_ble_eq_true rfl) hRm1 ?_
        intro r_ m1 hz_ hp_
        rcases h.1 r_ m1 hp_ with rfl | rfl
        · have h := h.2.1 m1 hp_
          refine g_if_eq (pc := 49) (tgt := 55) dX2_endsOf_49 (by decide) (fun c49 => absurd c49 (by decide)) (fun _ => ?_)
          refine g_bipush (pc := 52) (v := (-2 : Int32)) dX2_endsOf_52 (by decide) ?_
          exact g_iret (pc := 54) dX2_endsOf_54 rfl rfl rfl h
        · have h := h.2.2 m1 hp_
          refine g_if_eq (pc := 49) (tgt := 55) dX2_endsOf_49 (by decide) (fun _ => ?_) (fun c49 => absurd c49 (by decide))
          refine g_iload_n (pc := 55) (x := l3) dX2_endsOf_55 rfl ?_
          refine g_iload_n (pc := 56) (x := l2) dX2_endsOf_56 rfl ?_
          refine g_aload_n (pc := 57) (x := l0) dX2_endsOf_57 rfl ?_
          refine g_getR (pc := 58) (dd := 3) dX2_endsOf_58 fo_X2_18 (AtLogs_0 k0) rfl ?_
          refine g_iload (pc := 61) (x := l7) dX2_endsOf_61 rfl ?_
          refine g_iaload (pc := 63) dX2_endsOf_63 (AtLogs_3 k0) h.1 ?_
          have h := h.2
          refine g_isub (pc := 64) dX2_endsOf_64 ?_
          refine g_mabs (pc := 65) dX2_endsOf_65 cw_X2_56 (by decide) (Nat.le_of_ble_eq_true rfl) ?_
          refine g_imul (pc := 68) dX2_endsOf_68 ?_
          refine g_istore (pc := 69) (L' := [(0, .ref l0), (1, .int l1), (2, .int l2), (3, .int l3), (4, .int l4), (5, .int l5), (6, .int l6), (7, .int l7), (8, .int (l3 * (iabs (l2 - (m1.1 (l0 + 3) l7.toNatClampNeg)))))]) dX2_endsOf_69 (Nat.le_of_ble_eq_true rfl) rfl ?_
          refine g_iload (pc := 71) (x := l5) dX2_endsOf_71 rfl ?_
          refine g_aload_n (pc := 73) (x := l0) dX2_endsOf_73 rfl ?_
          refine g_getR (pc := 74) (dd := 4) dX2_endsOf_74 fo_X2_21 (AtLogs_0 k0) rfl ?_
          refine g_iload (pc := 77) (x := l7) dX2_endsOf_77 rfl ?_
          refine g_iaload (pc := 79) dX2_endsOf_79 (AtLogs_4 k0) h.1 ?_
          have h := h.2
          refine g_iload (pc := 80) (x := (l3 * (iabs (l2 - (m1.1 (l0 + 3) l7.toNatClampNeg))))) dX2_endsOf_80 rfl ?_
          refine g_isub (pc := 82) dX2_endsOf_82 ?_
          refine g_mmax (pc := 83) dX2_endsOf_83 cw_X2_62 (by decide) (Nat.le_of_ble_eq_true rfl) ?_
          refine g_istore (pc := 86) (L' := [(0, .ref l0), (1, .int l1), (2, .int l2), (3, .int l3), (4, .int l4), (5, .int (imax l5 ((m1.1 (l0 + 4) l7.toNatClampNeg) - (l3 * (iabs (l2 - (m1.1 (l0 + 3) l7.toNatClampNeg))))))), (6, .int l6), (7, .int l7), (8, .int (l3 * (iabs (l2 - (m1.1 (l0 + 3) l7.toNatClampNeg)))))]) dX2_endsOf_86 (Nat.le_of_ble_eq_true rfl) rfl ?_
          refine g_iload (pc := 88) (x := l6) dX2_endsOf_88 rfl ?_
          refine g_aload_n (pc := 90) (x := l0) dX2_endsOf_90 rfl ?_
          refine g_getR (pc := 91) (dd := 4) dX2_endsOf_91 fo_X2_21 (AtLogs_0 k0) rfl ?_
          refine g_iload (pc := 94) (x := l7) dX2_endsOf_94 rfl ?_
          refine g_iaload (pc := 96) dX2_endsOf_96 (AtLogs_4 k0) h.1 ?_
          have h := h.2
          refine g_iload (pc := 97) (x := (l3 * (iabs (l2 - (m1.1 (l0 + 3) l7.toNatClampNeg))))) dX2_endsOf_97 rfl ?_
          refine g_iadd (pc := 99) dX2_endsOf_99 ?_
          refine g_mmin (pc := 100) dX2_endsOf_100 cw_X2_66 (by decide) (Nat.le_of_ble_eq_true rfl) ?_
          refine g_istore (pc := 103) (L' := [(0, .ref l0), (1, .int l1), (2, .int l2), (3, .int l3), (4, .int l4), (5, .int (imax l5 ((m1.1 (l0 + 4) l7.toNatClampNeg) - (l3 * (iabs (l2 - (m1.1 (l0 + 3) l7.toNatClampNeg))))))), (6, .int (imin l6 ((m1.1 (l0 + 4) l7.toNatClampNeg) + (l3 * (iabs (l2 - (m1.1 (l0 + 3) l7.toNatClampNeg))))))), (7, .int l7), (8, .int (l3 * (iabs (l2 - (m1.1 (l0 + 3) l7.toNatClampNeg)))))]) dX2_endsOf_103 (Nat.le_of_ble_eq_true rfl) rfl ?_
          refine g_iinc (pc := 105) (x := l7) (v := (l7 + (1 : Int32))) (L' := [(0, .ref l0), (1, .int l1), (2, .int l2), (3, .int l3), (4, .int l4), (5, .int (imax l5 ((m1.1 (l0 + 4) l7.toNatClampNeg) - (l3 * (iabs (l2 - (m1.1 (l0 + 3) l7.toNatClampNeg))))))), (6, .int (imin l6 ((m1.1 (l0 + 4) l7.toNatClampNeg) + (l3 * (iabs (l2 - (m1.1 (l0 + 3) l7.toNatClampNeg))))))), (7, .int (l7 + (1 : Int32))), (8, .int (l3 * (iabs (l2 - (m1.1 (l0 + 3) l7.toNatClampNeg)))))]) dX2_endsOf_105 rfl rfl (Nat.le_of_ble_eq_true rfl) rfl ?_
          refine g_goto (pc := 108) (tgt := 16) dX2_endsOf_108 (by decide) ?_
          refine g_sub (L' := [(0, .ref l0), (1, .int l1), (2, .int l2), (3, .int l3), (4, .int l4), (5, .int (imax l5 ((m1.1 (l0 + 4) l7.toNatClampNeg) - (l3 * (iabs (l2 - (m1.1 (l0 + 3) l7.toNatClampNeg))))))), (6, .int (imin l6 ((m1.1 (l0 + 4) l7.toNatClampNeg) + (l3 * (iabs (l2 - (m1.1 (l0 + 3) l7.toNatClampNeg))))))), (7, .int (l7 + (1 : Int32)))]) [0, 1, 2, 3, 4, 5, 6, 7] rfl ?_
          exact h
      · have h := h.2 p_
        refine g_if_eq (pc := 39) (tgt := 105) dX2_endsOf_39 (by decide) (fun _ => ?_) (fun c39 => absurd c39 (by decide))
        refine g_iinc (pc := 105) (x := l7) (v := (l7 + (1 : Int32))) (L' := [(0, .ref l0), (1, .int l1), (2, .int l2), (3, .int l3), (4, .int l4), (5, .int l5), (6, .int l6), (7, .int (l7 + (1 : Int32)))]) dX2_endsOf_105 rfl rfl (Nat.le_of_ble_eq_true rfl) rfl ?_
        refine g_goto (pc := 108) (tgt := 16) dX2_endsOf_108 (by decide) ?_
        exact h
theorem dX2_contradicted_0 : decode cX2_contradicted 0 = .ok (.iconst 0, 1) := by decide +kernel
theorem dX2_contradicted_1 : decode cX2_contradicted 1 = .ok (.istore_n 3, 1) := by decide +kernel
theorem dX2_contradicted_2 : decode cX2_contradicted 2 = .ok (.iload_n 3, 1) := by decide +kernel
theorem dX2_contradicted_3 : decode cX2_contradicted 3 = .ok (.iload_n 1, 1) := by decide +kernel
theorem dX2_contradicted_4 : decode cX2_contradicted 4 = .ok (.if_icmp .ge 62, 3) := by decide +kernel
theorem dX2_contradicted_7 : decode cX2_contradicted 7 = .ok (.aload_n 0, 1) := by decide +kernel
theorem dX2_contradicted_8 : decode cX2_contradicted 8 = .ok (.iload_n 3, 1) := by decide +kernel
theorem dX2_contradicted_9 : decode cX2_contradicted 9 = .ok (.aload_n 0, 1) := by decide +kernel
theorem dX2_contradicted_10 : decode cX2_contradicted 10 = .ok (.getfield 15, 3) := by decide +kernel
theorem dX2_contradicted_13 : decode cX2_contradicted 13 = .ok (.iload_n 1, 1) := by decide +kernel
theorem dX2_contradicted_14 : decode cX2_contradicted 14 = .ok (.iaload, 1) := by decide +kernel
theorem dX2_contradicted_15 : decode cX2_contradicted 15 = .ok (.invokevirtual 49, 3) := by decide +kernel
theorem dX2_contradicted_18 : decode cX2_contradicted 18 = .ok (.ifCond .eq 42, 3) := by decide +kernel
theorem dX2_contradicted_21 : decode cX2_contradicted 21 = .ok (.aload_n 0, 1) := by decide +kernel
theorem dX2_contradicted_22 : decode cX2_contradicted 22 = .ok (.getfield 21, 3) := by decide +kernel
theorem dX2_contradicted_25 : decode cX2_contradicted 25 = .ok (.iload_n 3, 1) := by decide +kernel
theorem dX2_contradicted_26 : decode cX2_contradicted 26 = .ok (.iaload, 1) := by decide +kernel
theorem dX2_contradicted_27 : decode cX2_contradicted 27 = .ok (.aload_n 0, 1) := by decide +kernel
theorem dX2_contradicted_28 : decode cX2_contradicted 28 = .ok (.getfield 21, 3) := by decide +kernel
theorem dX2_contradicted_31 : decode cX2_contradicted 31 = .ok (.iload_n 1, 1) := by decide +kernel
theorem dX2_contradicted_32 : decode cX2_contradicted 32 = .ok (.iaload, 1) := by decide +kernel
theorem dX2_contradicted_33 : decode cX2_contradicted 33 = .ok (.isub, 1) := by decide +kernel
theorem dX2_contradicted_34 : decode cX2_contradicted 34 = .ok (.invokestatic 56, 3) := by decide +kernel
theorem dX2_contradicted_37 : decode cX2_contradicted 37 = .ok (.iload_n 2, 1) := by decide +kernel
theorem dX2_contradicted_38 : decode cX2_contradicted 38 = .ok (.aload_n 0, 1) := by decide +kernel
theorem dX2_contradicted_39 : decode cX2_contradicted 39 = .ok (.getfield 18, 3) := by decide +kernel
theorem dX2_contradicted_42 : decode cX2_contradicted 42 = .ok (.iload_n 3, 1) := by decide +kernel
theorem dX2_contradicted_43 : decode cX2_contradicted 43 = .ok (.iaload, 1) := by decide +kernel
theorem dX2_contradicted_44 : decode cX2_contradicted 44 = .ok (.aload_n 0, 1) := by decide +kernel
theorem dX2_contradicted_45 : decode cX2_contradicted 45 = .ok (.getfield 18, 3) := by decide +kernel
theorem dX2_contradicted_48 : decode cX2_contradicted 48 = .ok (.iload_n 1, 1) := by decide +kernel
theorem dX2_contradicted_49 : decode cX2_contradicted 49 = .ok (.iaload, 1) := by decide +kernel
theorem dX2_contradicted_50 : decode cX2_contradicted 50 = .ok (.isub, 1) := by decide +kernel
theorem dX2_contradicted_51 : decode cX2_contradicted 51 = .ok (.invokestatic 56, 3) := by decide +kernel
theorem dX2_contradicted_54 : decode cX2_contradicted 54 = .ok (.imul, 1) := by decide +kernel
theorem dX2_contradicted_55 : decode cX2_contradicted 55 = .ok (.if_icmp .le 5, 3) := by decide +kernel
theorem dX2_contradicted_58 : decode cX2_contradicted 58 = .ok (.iconst 1, 1) := by decide +kernel
theorem dX2_contradicted_59 : decode cX2_contradicted 59 = .ok (.ireturn, 1) := by decide +kernel
theorem dX2_contradicted_60 : decode cX2_contradicted 60 = .ok (.iinc 3 1, 3) := by decide +kernel
theorem dX2_contradicted_63 : decode cX2_contradicted 63 = .ok (.goto (-61), 3) := by decide +kernel
theorem dX2_contradicted_66 : decode cX2_contradicted 66 = .ok (.iconst 0, 1) := by decide +kernel
theorem dX2_contradicted_67 : decode cX2_contradicted 67 = .ok (.ireturn, 1) := by decide +kernel
theorem b_X2_contradicted (mm : MM) (Q : Value → MM → Prop) (t0 : Nat) (a1 : Int32) (a2 : Int32) (h0 : AtLogs t0) (h : G e_X2_contradicted 2 [(0, .ref t0), (1, .int a1), (2, .int a2), (3, .int (0 : Int32))] [] mm Q) : Runs e_X2_contradicted [.ref t0, .int a1, .int a2] mm Q := by
  refine runs_of_G (L := [(0, .ref t0), (1, .int a1), (2, .int a2)]) pl_X2 (Nat.le_of_ble_eq_true rfl) rfl ?_
  refine g_iconst (pc := 0) (v := (0 : Int32)) dX2_contradicted_0 (by decide) ?_
  refine g_istore_n (pc := 1) (L' := [(0, .ref t0), (1, .int a1), (2, .int a2), (3, .int (0 : Int32))]) dX2_contradicted_1 (Nat.le_of_ble_eq_true rfl) rfl ?_
  exact h
theorem b_X2_contradicted_2 (mm : MM) (Q : Value → MM → Prop) (l0 : Nat) (l1 : Int32) (l2 : Int32) (l3 : Int32) (k0 : AtLogs l0) (h : (l1 ≤ l3 → (Q (.int (0 : Int32)) mm)) ∧ (¬ l1 ≤ l3 → (vp_in l1 60 ∧ (o_X2_isMarkOf mm l0 l3 (mm.1 (l0 + 2) l1.toNatClampNeg) ∧ ((p_X2_isMarkOf mm l0 l3 (mm.1 (l0 + 2) l1.toNatClampNeg) → (vp_in l3 60 ∧ (vp_in l1 60 ∧ (vp_in l3 60 ∧ (vp_in l1 60 ∧ (((iabs ((mm.1 (l0 + 4) l3.toNatClampNeg) - (mm.1 (l0 + 4) l1.toNatClampNeg))) ≤ (l2 * (iabs ((mm.1 (l0 + 3) l3.toNatClampNeg) - (mm.1 (l0 + 3) l1.toNatClampNeg)))) → (G e_X2_contradicted 2 [(0, .ref l0), (1, .int l1), (2, .int l2), (3, .int (l3 + (1 : Int32)))] [] mm Q)) ∧ (¬ (iabs ((mm.1 (l0 + 4) l3.toNatClampNeg) - (mm.1 (l0 + 4) l1.toNatClampNeg))) ≤ (l2 * (iabs ((mm.1 (l0 + 3) l3.toNatClampNeg) - (mm.1 (l0 + 3) l1.toNatClampNeg)))) → (Q (.int (1 : Int32)) mm)))))))) ∧ (¬ p_X2_isMarkOf mm l0 l3 (mm.1 (l0 + 2) l1.toNatClampNeg) → (G e_X2_contradicted 2 [(0, .ref l0), (1, .int l1), (2, .int l2), (3, .int (l3 + (1 : Int32)))] [] mm Q))))))) : G e_X2_contradicted 2 [(0, .ref l0), (1, .int l1), (2, .int l2), (3, .int l3)] [] mm Q := by
  refine g_iload_n (pc := 2) (x := l3) dX2_contradicted_2 rfl ?_
  refine g_iload_n (pc := 3) (x := l1) dX2_contradicted_3 rfl ?_
  refine g_icmp_ge (pc := 4) (tgt := 66) dX2_contradicted_4 (by decide) (fun c4 => ?_) (fun c4 => ?_)
  · have h := h.1 c4
    refine g_iconst (pc := 66) (v := (0 : Int32)) dX2_contradicted_66 (by decide) ?_
    exact g_iret (pc := 67) dX2_contradicted_67 rfl rfl (nar_B isB0) h
  · have h := h.2 c4
    refine g_aload_n (pc := 7) (x := l0) dX2_contradicted_7 rfl ?_
    refine g_iload_n (pc := 8) (x := l3) dX2_contradicted_8 rfl ?_
    refine g_aload_n (pc := 9) (x := l0) dX2_contradicted_9 rfl ?_
    refine g_getR (pc := 10) (dd := 2) dX2_contradicted_10 fo_X2_15 (AtLogs_0 k0) rfl ?_
    refine g_iload_n (pc := 13) (x := l1) dX2_contradicted_13 rfl ?_
    refine g_iaload (pc := 14) dX2_contradicted_14 (AtLogs_2 k0) h.1 ?_
    have h := h.2
    refine g_callV (pc := 15) (as := [.int l3, .int (mm.1 (l0 + 2) l1.toNatClampNeg)]) dX2_contradicted_15 cw_X2_49 (by decide) rfl rfl (AtLogs_0 k0) (Nat.le_of_ble_eq_true rfl) (rv_X2_isMarkOf mm l0 l3 (mm.1 (l0 + 2) l1.toNatClampNeg) k0 h.1) ?_
    have h := h.2
    rintro r_ m_ hz_ ⟨⟨p_, rfl⟩ | ⟨p_, rfl⟩, rfl⟩
    · have h := h.1 p_
      refine g_if_eq (pc := 18) (tgt := 60) dX2_contradicted_18 (by decide) (fun c18 => absurd c18 (by decide)) (fun _ => ?_)
      refine g_aload_n (pc := 21) (x := l0) dX2_contradicted_21 rfl ?_
      refine g_getR (pc := 22) (dd := 4) dX2_contradicted_22 fo_X2_21 (AtLogs_0 k0) rfl ?_
      refine g_iload_n (pc := 25) (x := l3) dX2_contradicted_25 rfl ?_
      refine g_iaload (pc := 26) dX2_contradicted_26 (AtLogs_4 k0) h.1 ?_
      have h := h.2
      refine g_aload_n (pc := 27) (x := l0) dX2_contradicted_27 rfl ?_
      refine g_getR (pc := 28) (dd := 4) dX2_contradicted_28 fo_X2_21 (AtLogs_0 k0) rfl ?_
      refine g_iload_n (pc := 31) (x := l1) dX2_contradicted_31 rfl ?_
      refine g_iaload (pc := 32) dX2_contradicted_32 (AtLogs_4 k0) h.1 ?_
      have h := h.2
      refine g_isub (pc := 33) dX2_contradicted_33 ?_
      refine g_mabs (pc := 34) dX2_contradicted_34 cw_X2_56 (by decide) (Nat.le_of_ble_eq_true rfl) ?_
      refine g_iload_n (pc := 37) (x := l2) dX2_contradicted_37 rfl ?_
      refine g_aload_n (pc := 38) (x := l0) dX2_contradicted_38 rfl ?_
      refine g_getR (pc := 39) (dd := 3) dX2_contradicted_39 fo_X2_18 (AtLogs_0 k0) rfl ?_
      refine g_iload_n (pc := 42) (x := l3) dX2_contradicted_42 rfl ?_
      refine g_iaload (pc := 43) dX2_contradicted_43 (AtLogs_3 k0) h.1 ?_
      have h := h.2
      refine g_aload_n (pc := 44) (x := l0) dX2_contradicted_44 rfl ?_
      refine g_getR (pc := 45) (dd := 3) dX2_contradicted_45 fo_X2_18 (AtLogs_0 k0) rfl ?_
      refine g_iload_n (pc := 48) (x := l1) dX2_contradicted_48 rfl ?_
      refine g_iaload (pc := 49) dX2_contradicted_49 (AtLogs_3 k0) h.1 ?_
      have h := h.2
      refine g_isub (pc := 50) dX2_contradicted_50 ?_
      refine g_mabs (pc := 51) dX2_contradicted_51 cw_X2_56 (by decide) (Nat.le_of_ble_eq_true rfl) ?_
      refine g_imul (pc := 54) dX2_contradicted_54 ?_
      refine g_icmp_le (pc := 55) (tgt := 60) dX2_contradicted_55 (by decide) (fun c55 => ?_) (fun c55 => ?_)
      · have h := h.1 c55
        refine g_iinc (pc := 60) (x := l3) (v := (l3 + (1 : Int32))) (L' := [(0, .ref l0), (1, .int l1), (2, .int l2), (3, .int (l3 + (1 : Int32)))]) dX2_contradicted_60 rfl rfl (Nat.le_of_ble_eq_true rfl) rfl ?_
        refine g_goto (pc := 63) (tgt := 2) dX2_contradicted_63 (by decide) ?_
        exact h
      · have h := h.2 c55
        refine g_iconst (pc := 58) (v := (1 : Int32)) dX2_contradicted_58 (by decide) ?_
        exact g_iret (pc := 59) dX2_contradicted_59 rfl rfl (nar_B isB1) h
    · have h := h.2 p_
      refine g_if_eq (pc := 18) (tgt := 60) dX2_contradicted_18 (by decide) (fun _ => ?_) (fun c18 => absurd c18 (by decide))
      refine g_iinc (pc := 60) (x := l3) (v := (l3 + (1 : Int32))) (L' := [(0, .ref l0), (1, .int l1), (2, .int l2), (3, .int (l3 + (1 : Int32)))]) dX2_contradicted_60 rfl rfl (Nat.le_of_ble_eq_true rfl) rfl ?_
      refine g_goto (pc := 63) (tgt := 2) dX2_contradicted_63 (by decide) ?_
      exact h
theorem dX8_empty_0 : decode cX8_empty 0 = .ok (.aload_n 0, 1) := by decide +kernel
theorem dX8_empty_1 : decode cX8_empty 1 = .ok (.iconst 0, 1) := by decide +kernel
theorem dX8_empty_2 : decode cX8_empty 2 = .ok (.putfield 40, 3) := by decide +kernel
theorem dX8_empty_5 : decode cX8_empty 5 = .ok (.aload_n 0, 1) := by decide +kernel
theorem dX8_empty_6 : decode cX8_empty 6 = .ok (.iconst 0, 1) := by decide +kernel
theorem dX8_empty_7 : decode cX8_empty 7 = .ok (.putfield 44, 3) := by decide +kernel
theorem dX8_empty_10 : decode cX8_empty 10 = .ok (.aload_n 0, 1) := by decide +kernel
theorem dX8_empty_11 : decode cX8_empty 11 = .ok (.iconst 0, 1) := by decide +kernel
theorem dX8_empty_12 : decode cX8_empty 12 = .ok (.putfield 47, 3) := by decide +kernel
theorem dX8_empty_15 : decode cX8_empty 15 = .ok (.aload_n 0, 1) := by decide +kernel
theorem dX8_empty_16 : decode cX8_empty 16 = .ok (.iconst 0, 1) := by decide +kernel
theorem dX8_empty_17 : decode cX8_empty 17 = .ok (.putfield 50, 3) := by decide +kernel
theorem dX8_empty_20 : decode cX8_empty 20 = .ok (.aload_n 0, 1) := by decide +kernel
theorem dX8_empty_21 : decode cX8_empty 21 = .ok (.iconst 0, 1) := by decide +kernel
theorem dX8_empty_22 : decode cX8_empty 22 = .ok (.putfield 53, 3) := by decide +kernel
theorem dX8_empty_25 : decode cX8_empty 25 = .ok (.aload_n 0, 1) := by decide +kernel
theorem dX8_empty_26 : decode cX8_empty 26 = .ok (.iconst 0, 1) := by decide +kernel
theorem dX8_empty_27 : decode cX8_empty 27 = .ok (.putfield 56, 3) := by decide +kernel
theorem dX8_empty_30 : decode cX8_empty 30 = .ok (.aload_n 0, 1) := by decide +kernel
theorem dX8_empty_31 : decode cX8_empty 31 = .ok (.iconst 2, 1) := by decide +kernel
theorem dX8_empty_32 : decode cX8_empty 32 = .ok (.putfield 59, 3) := by decide +kernel
theorem dX8_empty_35 : decode cX8_empty 35 = .ok (.aload_n 0, 1) := by decide +kernel
theorem dX8_empty_36 : decode cX8_empty 36 = .ok (.bipush 10, 2) := by decide +kernel
theorem dX8_empty_38 : decode cX8_empty 38 = .ok (.putfield 62, 3) := by decide +kernel
theorem dX8_empty_41 : decode cX8_empty 41 = .ok (.aload_n 0, 1) := by decide +kernel
theorem dX8_empty_42 : decode cX8_empty 42 = .ok (.getfield 36, 3) := by decide +kernel
theorem dX8_empty_45 : decode cX8_empty 45 = .ok (.invokevirtual 65, 3) := by decide +kernel
theorem dX8_empty_48 : decode cX8_empty 48 = .ok (.return_, 1) := by decide +kernel
theorem b_X8_empty (mm : MM) (Q : Value → MM → Prop) (t0 : Nat) (h0 : AtTown t0) (h : ∃ Pm1 : Value → MM → Prop, Runs e_X1_empty [.ref (t0 + 8)] (wI (wI (wI (wI (wI (wI (wI (wI mm t0 8 (0 : Int32)) t0 9 (0 : Int32)) t0 10 (0 : Int32)) t0 11 (0 : Int32)) t0 12 (0 : Int32)) t0 13 (0 : Int32)) t0 14 (2 : Int32)) t0 15 (10 : Int32)) Pm1 ∧ ∀ m1, Pm1 .null m1 → (Q .null m1)) : Runs e_X8_empty [.ref t0] mm Q := by
  refine runs_of_G (L := [(0, .ref t0)]) pl_X8 (Nat.le_of_ble_eq_true rfl) rfl ?_
  refine g_aload_n (pc := 0) (x := t0) dX8_empty_0 rfl ?_
  refine g_iconst (pc := 1) (v := (0 : Int32)) dX8_empty_1 (by decide) ?_
  refine g_putI (pc := 2) dX8_empty_2 fo_X8_40 (AtTown_0 h0) rfl rfl rfl ?_
  refine g_aload_n (pc := 5) (x := t0) dX8_empty_5 rfl ?_
  refine g_iconst (pc := 6) (v := (0 : Int32)) dX8_empty_6 (by decide) ?_
  refine g_putI (pc := 7) dX8_empty_7 fo_X8_44 (AtTown_0 h0) rfl rfl rfl ?_
  refine g_aload_n (pc := 10) (x := t0) dX8_empty_10 rfl ?_
  refine g_iconst (pc := 11) (v := (0 : Int32)) dX8_empty_11 (by decide) ?_
  refine g_putI (pc := 12) dX8_empty_12 fo_X8_47 (AtTown_0 h0) rfl rfl rfl ?_
  refine g_aload_n (pc := 15) (x := t0) dX8_empty_15 rfl ?_
  refine g_iconst (pc := 16) (v := (0 : Int32)) dX8_empty_16 (by decide) ?_
  refine g_putI (pc := 17) dX8_empty_17 fo_X8_50 (AtTown_0 h0) rfl rfl rfl ?_
  refine g_aload_n (pc := 20) (x := t0) dX8_empty_20 rfl ?_
  refine g_iconst (pc := 21) (v := (0 : Int32)) dX8_empty_21 (by decide) ?_
  refine g_putI (pc := 22) dX8_empty_22 fo_X8_53 (AtTown_0 h0) rfl rfl rfl ?_
  refine g_aload_n (pc := 25) (x := t0) dX8_empty_25 rfl ?_
  refine g_iconst (pc := 26) (v := (0 : Int32)) dX8_empty_26 (by decide) ?_
  refine g_putI (pc := 27) dX8_empty_27 fo_X8_56 (AtTown_0 h0) rfl rfl rfl ?_
  refine g_aload_n (pc := 30) (x := t0) dX8_empty_30 rfl ?_
  refine g_iconst (pc := 31) (v := (2 : Int32)) dX8_empty_31 (by decide) ?_
  refine g_putI (pc := 32) dX8_empty_32 fo_X8_59 (AtTown_0 h0) rfl rfl rfl ?_
  refine g_aload_n (pc := 35) (x := t0) dX8_empty_35 rfl ?_
  refine g_bipush (pc := 36) (v := (10 : Int32)) dX8_empty_36 (by decide) ?_
  refine g_putI (pc := 38) dX8_empty_38 fo_X8_62 (AtTown_0 h0) rfl rfl rfl ?_
  refine g_aload_n (pc := 41) (x := t0) dX8_empty_41 rfl ?_
  refine g_getR (pc := 42) (dd := 8) dX8_empty_42 fo_X8_36 (AtTown_0 h0) rfl ?_
  obtain ⟨Pm1, hRm1, h⟩ := h
  refine g_callV (pc := 45) (as := []) dX8_empty_45 cw_X8_65 (by decide) rfl rfl (AtLaws_0 (AtTown.laws h0)) (Nat.le_of_ble_eq_true rfl) hRm1 ?_
  intro r_ m1 hz_ hp_
  obtain rfl := hz_
  have h := h m1 hp_
  exact g_vret (pc := 48) dX8_empty_48 rfl rfl h
theorem dX8_rankOf_0 : decode cX8_rankOf 0 = .ok (.aload_n 1, 1) := by decide +kernel
theorem dX8_rankOf_1 : decode cX8_rankOf 1 = .ok (.getfield 68, 3) := by decide +kernel
theorem dX8_rankOf_4 : decode cX8_rankOf 4 = .ok (.iload_n 2, 1) := by decide +kernel
theorem dX8_rankOf_5 : decode cX8_rankOf 5 = .ok (.iaload, 1) := by decide +kernel
theorem dX8_rankOf_6 : decode cX8_rankOf 6 = .ok (.istore_n 3, 1) := by decide +kernel
theorem dX8_rankOf_7 : decode cX8_rankOf 7 = .ok (.iload_n 3, 1) := by decide +kernel
theorem dX8_rankOf_8 : decode cX8_rankOf 8 = .ok (.ifCond .lt 20, 3) := by decide +kernel
theorem dX8_rankOf_11 : decode cX8_rankOf 11 = .ok (.iload_n 3, 1) := by decide +kernel
theorem dX8_rankOf_12 : decode cX8_rankOf 12 = .ok (.aload_n 0, 1) := by decide +kernel
theorem dX8_rankOf_13 : decode cX8_rankOf 13 = .ok (.getfield 44, 3) := by decide +kernel
theorem dX8_rankOf_16 : decode cX8_rankOf 16 = .ok (.if_icmp .ge 12, 3) := by decide +kernel
theorem dX8_rankOf_19 : decode cX8_rankOf 19 = .ok (.aload_n 0, 1) := by decide +kernel
theorem dX8_rankOf_20 : decode cX8_rankOf 20 = .ok (.getfield 18, 3) := by decide +kernel
theorem dX8_rankOf_23 : decode cX8_rankOf 23 = .ok (.iload_n 3, 1) := by decide +kernel
theorem dX8_rankOf_24 : decode cX8_rankOf 24 = .ok (.iaload, 1) := by decide +kernel
theorem dX8_rankOf_25 : decode cX8_rankOf 25 = .ok (.goto 4, 3) := by decide +kernel
theorem dX8_rankOf_28 : decode cX8_rankOf 28 = .ok (.iconst 0, 1) := by decide +kernel
theorem dX8_rankOf_29 : decode cX8_rankOf 29 = .ok (.ireturn, 1) := by decide +kernel
def o_X8_rankOf (mm : MM) (t0 : Nat) (a1 : Nat) (a2 : Int32) : Prop := vp_in a2 16 ∧ (((mm.1 (a1 + 2) a2.toNatClampNeg) < 0 → (True)) ∧ (¬ (mm.1 (a1 + 2) a2.toNatClampNeg) < 0 → (((mm.1 t0 9) ≤ (mm.1 (a1 + 2) a2.toNatClampNeg) → (True)) ∧ (¬ (mm.1 t0 9) ≤ (mm.1 (a1 + 2) a2.toNatClampNeg) → (vp_in (mm.1 (a1 + 2) a2.toNatClampNeg) 12 ∧ (True))))))
noncomputable def v_X8_rankOf (mm : MM) (t0 : Nat) (a1 : Nat) (a2 : Int32) : Int32 := (cite ((mm.1 (a1 + 2) a2.toNatClampNeg) < 0) (0 : Int32) (cite ((mm.1 t0 9) ≤ (mm.1 (a1 + 2) a2.toNatClampNeg)) (0 : Int32) (mm.1 (t0 + 3) (mm.1 (a1 + 2) a2.toNatClampNeg).toNatClampNeg)))
theorem rv_X8_rankOf (mm : MM) (t0 : Nat) (a1 : Nat) (a2 : Int32) (h0 : AtTown t0) (h1 : AtState a1) (h : o_X8_rankOf mm t0 a1 a2) : Runs e_X8_rankOf [.ref t0, .ref a1, .int a2] mm (fun r m_ => r = .int (v_X8_rankOf mm t0 a1 a2) ∧ mm = m_) := by
  refine runs_of_G (L := [(0, .ref t0), (1, .ref a1), (2, .int a2)]) pl_X8 (Nat.le_of_ble_eq_true rfl) rfl ?_
  unfold o_X8_rankOf at h
  refine g_aload_n (pc := 0) (x := a1) dX8_rankOf_0 rfl ?_
  refine g_getR (pc := 1) (dd := 2) dX8_rankOf_1 fo_X8_68 (AtState_0 h1) rfl ?_
  refine g_iload_n (pc := 4) (x := a2) dX8_rankOf_4 rfl ?_
  refine g_iaload (pc := 5) dX8_rankOf_5 (AtState_2 h1) h.1 ?_
  have h := h.2
  refine g_istore_n (pc := 6) (L' := [(0, .ref t0), (1, .ref a1), (2, .int a2), (3, .int (mm.1 (a1 + 2) a2.toNatClampNeg))]) dX8_rankOf_6 (Nat.le_of_ble_eq_true rfl) rfl ?_
  refine g_iload_n (pc := 7) (x := (mm.1 (a1 + 2) a2.toNatClampNeg)) dX8_rankOf_7 rfl ?_
  refine g_if_lt (pc := 8) (tgt := 28) dX8_rankOf_8 (by decide) (fun c8 => ?_) (fun c8 => ?_)
  · have c8_0 := c8
    have h := h.1 c8
    refine g_iconst (pc := 28) (v := (0 : Int32)) dX8_rankOf_28 (by decide) ?_
    exact g_iret (pc := 29) dX8_rankOf_29 rfl rfl rfl ⟨(by unfold v_X8_rankOf; rw [cite_pos c8_0]), rfl⟩
  · have c8_0 := c8
    have h := h.2 c8
    refine g_iload_n (pc := 11) (x := (mm.1 (a1 + 2) a2.toNatClampNeg)) dX8_rankOf_11 rfl ?_
    refine g_aload_n (pc := 12) (x := t0) dX8_rankOf_12 rfl ?_
    refine g_getI (pc := 13) dX8_rankOf_13 fo_X8_44 (AtTown_0 h0) rfl ?_
    refine g_icmp_ge (pc := 16) (tgt := 28) dX8_rankOf_16 (by decide) (fun c16 => ?_) (fun c16 => ?_)
    · have c16_1 := c16
      have h := h.1 c16
      refine g_iconst (pc := 28) (v := (0 : Int32)) dX8_rankOf_28 (by decide) ?_
      exact g_iret (pc := 29) dX8_rankOf_29 rfl rfl rfl ⟨(by unfold v_X8_rankOf; rw [cite_neg c8_0, cite_pos c16_1]), rfl⟩
    · have c16_1 := c16
      have h := h.2 c16
      refine g_aload_n (pc := 19) (x := t0) dX8_rankOf_19 rfl ?_
      refine g_getR (pc := 20) (dd := 3) dX8_rankOf_20 fo_X8_18 (AtTown_0 h0) rfl ?_
      refine g_iload_n (pc := 23) (x := (mm.1 (a1 + 2) a2.toNatClampNeg)) dX8_rankOf_23 rfl ?_
      refine g_iaload (pc := 24) dX8_rankOf_24 (AtTown_3 h0) h.1 ?_
      have h := h.2
      refine g_goto (pc := 25) (tgt := 29) dX8_rankOf_25 (by decide) ?_
      exact g_iret (pc := 29) dX8_rankOf_29 rfl rfl rfl ⟨(by unfold v_X8_rankOf; rw [cite_neg c8_0, cite_neg c16_1]), rfl⟩
theorem dX11_heldTo99_0 : decode cX11_heldTo99 0 = .ok (.iconst 0, 1) := by decide +kernel
theorem dX11_heldTo99_1 : decode cX11_heldTo99 1 = .ok (.bipush 99, 2) := by decide +kernel
theorem dX11_heldTo99_3 : decode cX11_heldTo99 3 = .ok (.iload_n 0, 1) := by decide +kernel
theorem dX11_heldTo99_4 : decode cX11_heldTo99 4 = .ok (.invokestatic 339, 3) := by decide +kernel
theorem dX11_heldTo99_7 : decode cX11_heldTo99 7 = .ok (.invokestatic 236, 3) := by decide +kernel
theorem dX11_heldTo99_10 : decode cX11_heldTo99 10 = .ok (.ireturn, 1) := by decide +kernel
noncomputable def v_X11_heldTo99 (mm : MM) (a0 : Int32) : Int32 := (imax (0 : Int32) (imin (99 : Int32) a0))
theorem rv_X11_heldTo99 (mm : MM) (a0 : Int32) : Runs e_X11_heldTo99 [.int a0] mm (fun r m_ => r = .int (v_X11_heldTo99 mm a0) ∧ mm = m_) := by
  refine runs_of_G (L := [(0, .int a0)]) pl_X11 (Nat.le_of_ble_eq_true rfl) rfl ?_
  refine g_iconst (pc := 0) (v := (0 : Int32)) dX11_heldTo99_0 (by decide) ?_
  refine g_bipush (pc := 1) (v := (99 : Int32)) dX11_heldTo99_1 (by decide) ?_
  refine g_iload_n (pc := 3) (x := a0) dX11_heldTo99_3 rfl ?_
  refine g_mmin (pc := 4) dX11_heldTo99_4 cw_X11_339 (by decide) (Nat.le_of_ble_eq_true rfl) ?_
  refine g_mmax (pc := 7) dX11_heldTo99_7 cw_X11_236 (by decide) (Nat.le_of_ble_eq_true rfl) ?_
  exact g_iret (pc := 10) dX11_heldTo99_10 rfl rfl rfl ⟨rfl, rfl⟩
theorem dX8_tideAt_0 : decode cX8_tideAt 0 = .ok (.aload_n 0, 1) := by decide +kernel
theorem dX8_tideAt_1 : decode cX8_tideAt 1 = .ok (.getfield 36, 3) := by decide +kernel
theorem dX8_tideAt_4 : decode cX8_tideAt 4 = .ok (.invokevirtual 73, 3) := by decide +kernel
theorem dX8_tideAt_7 : decode cX8_tideAt 7 = .ok (.aload_n 0, 1) := by decide +kernel
theorem dX8_tideAt_8 : decode cX8_tideAt 8 = .ok (.getfield 36, 3) := by decide +kernel
theorem dX8_tideAt_11 : decode cX8_tideAt 11 = .ok (.bipush 17, 2) := by decide +kernel
theorem dX8_tideAt_13 : decode cX8_tideAt 13 = .ok (.iload_n 2, 1) := by decide +kernel
theorem dX8_tideAt_14 : decode cX8_tideAt 14 = .ok (.invokevirtual 76, 3) := by decide +kernel
theorem dX8_tideAt_17 : decode cX8_tideAt 17 = .ok (.aload_n 0, 1) := by decide +kernel
theorem dX8_tideAt_18 : decode cX8_tideAt 18 = .ok (.getfield 36, 3) := by decide +kernel
theorem dX8_tideAt_21 : decode cX8_tideAt 21 = .ok (.bipush 18, 2) := by decide +kernel
theorem dX8_tideAt_23 : decode cX8_tideAt 23 = .ok (.aload_n 1, 1) := by decide +kernel
theorem dX8_tideAt_24 : decode cX8_tideAt 24 = .ok (.getfield 80, 3) := by decide +kernel
theorem dX8_tideAt_27 : decode cX8_tideAt 27 = .ok (.invokevirtual 76, 3) := by decide +kernel
theorem dX8_tideAt_30 : decode cX8_tideAt 30 = .ok (.aload_n 0, 1) := by decide +kernel
theorem dX8_tideAt_31 : decode cX8_tideAt 31 = .ok (.getfield 36, 3) := by decide +kernel
theorem dX8_tideAt_34 : decode cX8_tideAt 34 = .ok (.aload_n 0, 1) := by decide +kernel
theorem dX8_tideAt_35 : decode cX8_tideAt 35 = .ok (.getfield 36, 3) := by decide +kernel
theorem dX8_tideAt_38 : decode cX8_tideAt 38 = .ok (.getfield 83, 3) := by decide +kernel
theorem dX8_tideAt_41 : decode cX8_tideAt 41 = .ok (.invokevirtual 86, 3) := by decide +kernel
theorem dX8_tideAt_44 : decode cX8_tideAt 44 = .ok (.invokestatic 90, 3) := by decide +kernel
theorem dX8_tideAt_47 : decode cX8_tideAt 47 = .ok (.ireturn, 1) := by decide +kernel
theorem b_X8_tideAt (mm : MM) (Q : Value → MM → Prop) (t0 : Nat) (a1 : Nat) (a2 : Int32) (h0 : AtTown t0) (h1 : AtState a1) (h : ∃ Pm1 : Value → MM → Prop, Runs e_X1_wipeVars [.ref (t0 + 8)] mm Pm1 ∧ ∀ m1, Pm1 .null m1 → (∃ Pm2 : Value → MM → Prop, Runs e_X1_put [.ref (t0 + 8), .int (17 : Int32), .int a2] m1 Pm2 ∧ ∀ m2, Pm2 .null m2 → (∃ Pm3 : Value → MM → Prop, Runs e_X1_put [.ref (t0 + 8), .int (18 : Int32), .int (m2.1 a1 8)] m2 Pm3 ∧ ∀ m3, Pm3 .null m3 → (∃ Pm4 : Value → MM → Prop, Runs e_X1_value [.ref (t0 + 8), .int (m3.1 (t0 + 8) 8)] m3 Pm4 ∧ ∀ (r4 : Int32) (m4 : MM), Pm4 (.int r4) m4 → (Q (.int (v_X11_heldTo99 m4 r4)) m4))))) : Runs e_X8_tideAt [.ref t0, .ref a1, .int a2] mm Q := by
  refine runs_of_G (L := [(0, .ref t0), (1, .ref a1), (2, .int a2)]) pl_X8 (Nat.le_of_ble_eq_true rfl) rfl ?_
  refine g_aload_n (pc := 0) (x := t0) dX8_tideAt_0 rfl ?_
  refine g_getR (pc := 1) (dd := 8) dX8_tideAt_1 fo_X8_36 (AtTown_0 h0) rfl ?_
  obtain ⟨Pm1, hRm1, h⟩ := h
  refine g_callV (pc := 4) (as := []) dX8_tideAt_4 cw_X8_73 (by decide) rfl rfl (AtLaws_0 (AtTown.laws h0)) (Nat.le_of_ble_eq_true rfl) hRm1 ?_
  intro r_ m1 hz_ hp_
  obtain rfl := hz_
  have h := h m1 hp_
  refine g_aload_n (pc := 7) (x := t0) dX8_tideAt_7 rfl ?_
  refine g_getR (pc := 8) (dd := 8) dX8_tideAt_8 fo_X8_36 (AtTown_0 h0) rfl ?_
  refine g_bipush (pc := 11) (v := (17 : Int32)) dX8_tideAt_11 (by decide) ?_
  refine g_iload_n (pc := 13) (x := a2) dX8_tideAt_13 rfl ?_
  obtain ⟨Pm2, hRm2, h⟩ := h
  refine g_callV (pc := 14) (as := [.int (17 : Int32), .int a2]) dX8_tideAt_14 cw_X8_76 (by decide) rfl rfl (AtLaws_0 (AtTown.laws h0)) (Nat.le_of_ble_eq_true rfl) hRm2 ?_
  intro r_ m2 hz_ hp_
  obtain rfl := hz_
  have h := h m2 hp_
  refine g_aload_n (pc := 17) (x := t0) dX8_tideAt_17 rfl ?_
  refine g_getR (pc := 18) (dd := 8) dX8_tideAt_18 fo_X8_36 (AtTown_0 h0) rfl ?_
  refine g_bipush (pc := 21) (v := (18 : Int32)) dX8_tideAt_21 (by decide) ?_
  refine g_aload_n (pc := 23) (x := a1) dX8_tideAt_23 rfl ?_
  refine g_getI (pc := 24) dX8_tideAt_24 fo_X8_80 (AtState_0 h1) rfl ?_
  obtain ⟨Pm3, hRm3, h⟩ := h
  refine g_callV (pc := 27) (as := [.int (18 : Int32), .int (m2.1 a1 8)]) dX8_tideAt_27 cw_X8_76 (by decide) rfl rfl (AtLaws_0 (AtTown.laws h0)) (Nat.le_of_ble_eq_true rfl) hRm3 ?_
  intro r_ m3 hz_ hp_
  obtain rfl := hz_
  have h := h m3 hp_
  refine g_aload_n (pc := 30) (x := t0) dX8_tideAt_30 rfl ?_
  refine g_getR (pc := 31) (dd := 8) dX8_tideAt_31 fo_X8_36 (AtTown_0 h0) rfl ?_
  refine g_aload_n (pc := 34) (x := t0) dX8_tideAt_34 rfl ?_
  refine g_getR (pc := 35) (dd := 8) dX8_tideAt_35 fo_X8_36 (AtTown_0 h0) rfl ?_
  refine g_getI (pc := 38) dX8_tideAt_38 fo_X8_83 (AtLaws_0 (AtTown.laws h0)) rfl ?_
  obtain ⟨Pm4, hRm4, h⟩ := h
  refine g_callV (pc := 41) (as := [.int (m3.1 (t0 + 8) 8)]) dX8_tideAt_41 cw_X8_86 (by decide) rfl rfl (AtLaws_0 (AtTown.laws h0)) (Nat.le_of_ble_eq_true rfl) hRm4 ?_
  intro r_ m4 hz_ hp_
  obtain ⟨r4, rfl⟩ := hz_
  have h := h r4 m4 hp_
  refine g_callSN (pc := 44) (as := [.int r4]) dX8_tideAt_44 cw_X8_90 (by decide) rfl rfl (Nat.le_of_ble_eq_true rfl) (rv_X11_heldTo99 m4 r4) ?_
  rintro r_ m_ hz_ ⟨rfl, rfl⟩
  exact g_iret (pc := 47) dX8_tideAt_47 rfl rfl rfl h
theorem dX8_dueOf_0 : decode cX8_dueOf 0 = .ok (.aload_n 0, 1) := by decide +kernel
theorem dX8_dueOf_1 : decode cX8_dueOf 1 = .ok (.getfield 36, 3) := by decide +kernel
theorem dX8_dueOf_4 : decode cX8_dueOf 4 = .ok (.getfield 93, 3) := by decide +kernel
theorem dX8_dueOf_7 : decode cX8_dueOf 7 = .ok (.iconst (-1), 1) := by decide +kernel
theorem dX8_dueOf_8 : decode cX8_dueOf 8 = .ok (.if_icmp .ne 10, 3) := by decide +kernel
theorem dX8_dueOf_11 : decode cX8_dueOf 11 = .ok (.aload_n 0, 1) := by decide +kernel
theorem dX8_dueOf_12 : decode cX8_dueOf 12 = .ok (.aload_n 1, 1) := by decide +kernel
theorem dX8_dueOf_13 : decode cX8_dueOf 13 = .ok (.iload_n 2, 1) := by decide +kernel
theorem dX8_dueOf_14 : decode cX8_dueOf 14 = .ok (.invokevirtual 96, 3) := by decide +kernel
theorem dX8_dueOf_17 : decode cX8_dueOf 17 = .ok (.ireturn, 1) := by decide +kernel
theorem dX8_dueOf_18 : decode cX8_dueOf 18 = .ok (.aload_n 0, 1) := by decide +kernel
theorem dX8_dueOf_19 : decode cX8_dueOf 19 = .ok (.aload_n 1, 1) := by decide +kernel
theorem dX8_dueOf_20 : decode cX8_dueOf 20 = .ok (.iload_n 2, 1) := by decide +kernel
theorem dX8_dueOf_21 : decode cX8_dueOf 21 = .ok (.invokevirtual 100, 3) := by decide +kernel
theorem dX8_dueOf_24 : decode cX8_dueOf 24 = .ok (.aload_n 0, 1) := by decide +kernel
theorem dX8_dueOf_25 : decode cX8_dueOf 25 = .ok (.getfield 36, 3) := by decide +kernel
theorem dX8_dueOf_28 : decode cX8_dueOf 28 = .ok (.bipush 13, 2) := by decide +kernel
theorem dX8_dueOf_30 : decode cX8_dueOf 30 = .ok (.iconst 0, 1) := by decide +kernel
theorem dX8_dueOf_31 : decode cX8_dueOf 31 = .ok (.invokevirtual 76, 3) := by decide +kernel
theorem dX8_dueOf_34 : decode cX8_dueOf 34 = .ok (.aload_n 0, 1) := by decide +kernel
theorem dX8_dueOf_35 : decode cX8_dueOf 35 = .ok (.getfield 36, 3) := by decide +kernel
theorem dX8_dueOf_38 : decode cX8_dueOf 38 = .ok (.aload_n 0, 1) := by decide +kernel
theorem dX8_dueOf_39 : decode cX8_dueOf 39 = .ok (.getfield 36, 3) := by decide +kernel
theorem dX8_dueOf_42 : decode cX8_dueOf 42 = .ok (.getfield 93, 3) := by decide +kernel
theorem dX8_dueOf_45 : decode cX8_dueOf 45 = .ok (.invokevirtual 86, 3) := by decide +kernel
theorem dX8_dueOf_48 : decode cX8_dueOf 48 = .ok (.invokestatic 90, 3) := by decide +kernel
theorem dX8_dueOf_51 : decode cX8_dueOf 51 = .ok (.ireturn, 1) := by decide +kernel
theorem b_X8_dueOf (mm : MM) (Q : Value → MM → Prop) (t0 : Nat) (a1 : Nat) (a2 : Int32) (h0 : AtTown t0) (h1 : AtState a1) (h : (¬ (mm.1 (t0 + 8) 9) = (-1 : Int32) → (∃ Pm1 : Value → MM → Prop, Runs e_X8_putVars [.ref t0, .ref a1, .int a2] mm Pm1 ∧ ∀ m1, Pm1 .null m1 → (∃ Pm2 : Value → MM → Prop, Runs e_X1_put [.ref (t0 + 8), .int (13 : Int32), .int (0 : Int32)] m1 Pm2 ∧ ∀ m2, Pm2 .null m2 → (∃ Pm3 : Value → MM → Prop, Runs e_X1_value [.ref (t0 + 8), .int (m2.1 (t0 + 8) 9)] m2 Pm3 ∧ ∀ (r3 : Int32) (m3 : MM), Pm3 (.int r3) m3 → (Q (.int (v_X11_heldTo99 m3 r3)) m3))))) ∧ ((mm.1 (t0 + 8) 9) = (-1 : Int32) → (o_X8_rankOf mm t0 a1 a2 ∧ (Q (.int (v_X8_rankOf mm t0 a1 a2)) mm)))) : Runs e_X8_dueOf [.ref t0, .ref a1, .int a2] mm Q := by
  refine runs_of_G (L := [(0, .ref t0), (1, .ref a1), (2, .int a2)]) pl_X8 (Nat.le_of_ble_eq_true rfl) rfl ?_
  refine g_aload_n (pc := 0) (x := t0) dX8_dueOf_0 rfl ?_
  refine g_getR (pc := 1) (dd := 8) dX8_dueOf_1 fo_X8_36 (AtTown_0 h0) rfl ?_
  refine g_getI (pc := 4) dX8_dueOf_4 fo_X8_93 (AtLaws_0 (AtTown.laws h0)) rfl ?_
  refine g_iconst (pc := 7) (v := (-1 : Int32)) dX8_dueOf_7 (by decide) ?_
  refine g_icmp_ne (pc := 8) (tgt := 18) dX8_dueOf_8 (by decide) (fun c8 => ?_) (fun c8 => ?_)
  · have h := h.1 c8
    refine g_aload_n (pc := 18) (x := t0) dX8_dueOf_18 rfl ?_
    refine g_aload_n (pc := 19) (x := a1) dX8_dueOf_19 rfl ?_
    refine g_iload_n (pc := 20) (x := a2) dX8_dueOf_20 rfl ?_
    obtain ⟨Pm1, hRm1, h⟩ := h
    refine g_callV (pc := 21) (as := [.ref a1, .int a2]) dX8_dueOf_21 cw_X8_100 (by decide) rfl rfl (AtTown_0 h0) (Nat.le_of_ble_eq_true rfl) hRm1 ?_
    intro r_ m1 hz_ hp_
    obtain rfl := hz_
    have h := h m1 hp_
    refine g_aload_n (pc := 24) (x := t0) dX8_dueOf_24 rfl ?_
    refine g_getR (pc := 25) (dd := 8) dX8_dueOf_25 fo_X8_36 (AtTown_0 h0) rfl ?_
    refine g_bipush (pc := 28) (v := (13 : Int32)) dX8_dueOf_28 (by decide) ?_
    refine g_iconst (pc := 30) (v := (0 : Int32)) dX8_dueOf_30 (by decide) ?_
    obtain ⟨Pm2, hRm2, h⟩ := h
    refine g_callV (pc := 31) (as := [.int (13 : Int32), .int (0 : Int32)]) dX8_dueOf_31 cw_X8_76 (by decide) rfl rfl (AtLaws_0 (AtTown.laws h0)) (Nat.le_of_ble_eq_true rfl) hRm2 ?_
    intro r_ m2 hz_ hp_
    obtain rfl := hz_
    have h := h m2 hp_
    refine g_aload_n (pc := 34) (x := t0) dX8_dueOf_34 rfl ?_
    refine g_getR (pc := 35) (dd := 8) dX8_dueOf_35 fo_X8_36 (AtTown_0 h0) rfl ?_
    refine g_aload_n (pc := 38) (x := t0) dX8_dueOf_38 rfl ?_
    refine g_getR (pc := 39) (dd := 8) dX8_dueOf_39 fo_X8_36 (AtTown_0 h0) rfl ?_
    refine g_getI (pc := 42) dX8_dueOf_42 fo_X8_93 (AtLaws_0 (AtTown.laws h0)) rfl ?_
    obtain ⟨Pm3, hRm3, h⟩ := h
    refine g_callV (pc := 45) (as := [.int (m2.1 (t0 + 8) 9)]) dX8_dueOf_45 cw_X8_86 (by decide) rfl rfl (AtLaws_0 (AtTown.laws h0)) (Nat.le_of_ble_eq_true rfl) hRm3 ?_
    intro r_ m3 hz_ hp_
    obtain ⟨r3, rfl⟩ := hz_
    have h := h r3 m3 hp_
    refine g_callSN (pc := 48) (as := [.int r3]) dX8_dueOf_48 cw_X8_90 (by decide) rfl rfl (Nat.le_of_ble_eq_true rfl) (rv_X11_heldTo99 m3 r3) ?_
    rintro r_ m_ hz_ ⟨rfl, rfl⟩
    exact g_iret (pc := 51) dX8_dueOf_51 rfl rfl rfl h
  · have h := h.2 c8
    refine g_aload_n (pc := 11) (x := t0) dX8_dueOf_11 rfl ?_
    refine g_aload_n (pc := 12) (x := a1) dX8_dueOf_12 rfl ?_
    refine g_iload_n (pc := 13) (x := a2) dX8_dueOf_13 rfl ?_
    refine g_callV (pc := 14) (as := [.ref a1, .int a2]) dX8_dueOf_14 cw_X8_96 (by decide) rfl rfl (AtTown_0 h0) (Nat.le_of_ble_eq_true rfl) (rv_X8_rankOf mm t0 a1 a2 h0 h1 h.1) ?_
    have h := h.2
    rintro r_ m_ hz_ ⟨rfl, rfl⟩
    exact g_iret (pc := 17) dX8_dueOf_17 rfl rfl rfl h
theorem dX8_swayOf_0 : decode cX8_swayOf 0 = .ok (.aload_n 0, 1) := by decide +kernel
theorem dX8_swayOf_1 : decode cX8_swayOf 1 = .ok (.aload_n 1, 1) := by decide +kernel
theorem dX8_swayOf_2 : decode cX8_swayOf 2 = .ok (.iload_n 2, 1) := by decide +kernel
theorem dX8_swayOf_3 : decode cX8_swayOf 3 = .ok (.invokevirtual 100, 3) := by decide +kernel
theorem dX8_swayOf_6 : decode cX8_swayOf 6 = .ok (.aload_n 0, 1) := by decide +kernel
theorem dX8_swayOf_7 : decode cX8_swayOf 7 = .ok (.getfield 36, 3) := by decide +kernel
theorem dX8_swayOf_10 : decode cX8_swayOf 10 = .ok (.bipush 18, 2) := by decide +kernel
theorem dX8_swayOf_12 : decode cX8_swayOf 12 = .ok (.aload_n 1, 1) := by decide +kernel
theorem dX8_swayOf_13 : decode cX8_swayOf 13 = .ok (.getfield 80, 3) := by decide +kernel
theorem dX8_swayOf_16 : decode cX8_swayOf 16 = .ok (.invokevirtual 76, 3) := by decide +kernel
theorem dX8_swayOf_19 : decode cX8_swayOf 19 = .ok (.aload_n 0, 1) := by decide +kernel
theorem dX8_swayOf_20 : decode cX8_swayOf 20 = .ok (.getfield 36, 3) := by decide +kernel
theorem dX8_swayOf_23 : decode cX8_swayOf 23 = .ok (.bipush 19, 2) := by decide +kernel
theorem dX8_swayOf_25 : decode cX8_swayOf 25 = .ok (.iload_n 3, 1) := by decide +kernel
theorem dX8_swayOf_26 : decode cX8_swayOf 26 = .ok (.invokevirtual 76, 3) := by decide +kernel
theorem dX8_swayOf_29 : decode cX8_swayOf 29 = .ok (.aload_n 0, 1) := by decide +kernel
theorem dX8_swayOf_30 : decode cX8_swayOf 30 = .ok (.getfield 36, 3) := by decide +kernel
theorem dX8_swayOf_33 : decode cX8_swayOf 33 = .ok (.aload_n 0, 1) := by decide +kernel
theorem dX8_swayOf_34 : decode cX8_swayOf 34 = .ok (.getfield 36, 3) := by decide +kernel
theorem dX8_swayOf_37 : decode cX8_swayOf 37 = .ok (.getfield 104, 3) := by decide +kernel
theorem dX8_swayOf_40 : decode cX8_swayOf 40 = .ok (.invokevirtual 86, 3) := by decide +kernel
theorem dX8_swayOf_43 : decode cX8_swayOf 43 = .ok (.invokestatic 90, 3) := by decide +kernel
theorem dX8_swayOf_46 : decode cX8_swayOf 46 = .ok (.ireturn, 1) := by decide +kernel
theorem b_X8_swayOf (mm : MM) (Q : Value → MM → Prop) (t0 : Nat) (a1 : Nat) (a2 : Int32) (a3 : Int32) (h0 : AtTown t0) (h1 : AtState a1) (h : ∃ Pm1 : Value → MM → Prop, Runs e_X8_putVars [.ref t0, .ref a1, .int a2] mm Pm1 ∧ ∀ m1, Pm1 .null m1 → (∃ Pm2 : Value → MM → Prop, Runs e_X1_put [.ref (t0 + 8), .int (18 : Int32), .int (m1.1 a1 8)] m1 Pm2 ∧ ∀ m2, Pm2 .null m2 → (∃ Pm3 : Value → MM → Prop, Runs e_X1_put [.ref (t0 + 8), .int (19 : Int32), .int a3] m2 Pm3 ∧ ∀ m3, Pm3 .null m3 → (∃ Pm4 : Value → MM → Prop, Runs e_X1_value [.ref (t0 + 8), .int (m3.1 (t0 + 8) 10)] m3 Pm4 ∧ ∀ (r4 : Int32) (m4 : MM), Pm4 (.int r4) m4 → (Q (.int (v_X11_heldTo99 m4 r4)) m4))))) : Runs e_X8_swayOf [.ref t0, .ref a1, .int a2, .int a3] mm Q := by
  refine runs_of_G (L := [(0, .ref t0), (1, .ref a1), (2, .int a2), (3, .int a3)]) pl_X8 (Nat.le_of_ble_eq_true rfl) rfl ?_
  refine g_aload_n (pc := 0) (x := t0) dX8_swayOf_0 rfl ?_
  refine g_aload_n (pc := 1) (x := a1) dX8_swayOf_1 rfl ?_
  refine g_iload_n (pc := 2) (x := a2) dX8_swayOf_2 rfl ?_
  obtain ⟨Pm1, hRm1, h⟩ := h
  refine g_callV (pc := 3) (as := [.ref a1, .int a2]) dX8_swayOf_3 cw_X8_100 (by decide) rfl rfl (AtTown_0 h0) (Nat.le_of_ble_eq_true rfl) hRm1 ?_
  intro r_ m1 hz_ hp_
  obtain rfl := hz_
  have h := h m1 hp_
  refine g_aload_n (pc := 6) (x := t0) dX8_swayOf_6 rfl ?_
  refine g_getR (pc := 7) (dd := 8) dX8_swayOf_7 fo_X8_36 (AtTown_0 h0) rfl ?_
  refine g_bipush (pc := 10) (v := (18 : Int32)) dX8_swayOf_10 (by decide) ?_
  refine g_aload_n (pc := 12) (x := a1) dX8_swayOf_12 rfl ?_
  refine g_getI (pc := 13) dX8_swayOf_13 fo_X8_80 (AtState_0 h1) rfl ?_
  obtain ⟨Pm2, hRm2, h⟩ := h
  refine g_callV (pc := 16) (as := [.int (18 : Int32), .int (m1.1 a1 8)]) dX8_swayOf_16 cw_X8_76 (by decide) rfl rfl (AtLaws_0 (AtTown.laws h0)) (Nat.le_of_ble_eq_true rfl) hRm2 ?_
  intro r_ m2 hz_ hp_
  obtain rfl := hz_
  have h := h m2 hp_
  refine g_aload_n (pc := 19) (x := t0) dX8_swayOf_19 rfl ?_
  refine g_getR (pc := 20) (dd := 8) dX8_swayOf_20 fo_X8_36 (AtTown_0 h0) rfl ?_
  refine g_bipush (pc := 23) (v := (19 : Int32)) dX8_swayOf_23 (by decide) ?_
  refine g_iload_n (pc := 25) (x := a3) dX8_swayOf_25 rfl ?_
  obtain ⟨Pm3, hRm3, h⟩ := h
  refine g_callV (pc := 26) (as := [.int (19 : Int32), .int a3]) dX8_swayOf_26 cw_X8_76 (by decide) rfl rfl (AtLaws_0 (AtTown.laws h0)) (Nat.le_of_ble_eq_true rfl) hRm3 ?_
  intro r_ m3 hz_ hp_
  obtain rfl := hz_
  have h := h m3 hp_
  refine g_aload_n (pc := 29) (x := t0) dX8_swayOf_29 rfl ?_
  refine g_getR (pc := 30) (dd := 8) dX8_swayOf_30 fo_X8_36 (AtTown_0 h0) rfl ?_
  refine g_aload_n (pc := 33) (x := t0) dX8_swayOf_33 rfl ?_
  refine g_getR (pc := 34) (dd := 8) dX8_swayOf_34 fo_X8_36 (AtTown_0 h0) rfl ?_
  refine g_getI (pc := 37) dX8_swayOf_37 fo_X8_104 (AtLaws_0 (AtTown.laws h0)) rfl ?_
  obtain ⟨Pm4, hRm4, h⟩ := h
  refine g_callV (pc := 40) (as := [.int (m3.1 (t0 + 8) 10)]) dX8_swayOf_40 cw_X8_86 (by decide) rfl rfl (AtLaws_0 (AtTown.laws h0)) (Nat.le_of_ble_eq_true rfl) hRm4 ?_
  intro r_ m4 hz_ hp_
  obtain ⟨r4, rfl⟩ := hz_
  have h := h r4 m4 hp_
  refine g_callSN (pc := 43) (as := [.int r4]) dX8_swayOf_43 cw_X8_90 (by decide) rfl rfl (Nat.le_of_ble_eq_true rfl) (rv_X11_heldTo99 m4 r4) ?_
  rintro r_ m_ hz_ ⟨rfl, rfl⟩
  exact g_iret (pc := 46) dX8_swayOf_46 rfl rfl rfl h
theorem dX8_isBad_0 : decode cX8_isBad 0 = .ok (.aload_n 0, 1) := by decide +kernel
theorem dX8_isBad_1 : decode cX8_isBad 1 = .ok (.aload_n 1, 1) := by decide +kernel
theorem dX8_isBad_2 : decode cX8_isBad 2 = .ok (.iload_n 2, 1) := by decide +kernel
theorem dX8_isBad_3 : decode cX8_isBad 3 = .ok (.iconst 0, 1) := by decide +kernel
theorem dX8_isBad_4 : decode cX8_isBad 4 = .ok (.invokevirtual 107, 3) := by decide +kernel
theorem dX8_isBad_7 : decode cX8_isBad 7 = .ok (.istore_n 3, 1) := by decide +kernel
theorem dX8_isBad_8 : decode cX8_isBad 8 = .ok (.aload_n 0, 1) := by decide +kernel
theorem dX8_isBad_9 : decode cX8_isBad 9 = .ok (.getfield 36, 3) := by decide +kernel
theorem dX8_isBad_12 : decode cX8_isBad 12 = .ok (.bipush 12, 2) := by decide +kernel
theorem dX8_isBad_14 : decode cX8_isBad 14 = .ok (.iload_n 3, 1) := by decide +kernel
theorem dX8_isBad_15 : decode cX8_isBad 15 = .ok (.invokevirtual 76, 3) := by decide +kernel
theorem dX8_isBad_18 : decode cX8_isBad 18 = .ok (.aload_n 0, 1) := by decide +kernel
theorem dX8_isBad_19 : decode cX8_isBad 19 = .ok (.getfield 36, 3) := by decide +kernel
theorem dX8_isBad_22 : decode cX8_isBad 22 = .ok (.aload_n 0, 1) := by decide +kernel
theorem dX8_isBad_23 : decode cX8_isBad 23 = .ok (.getfield 36, 3) := by decide +kernel
theorem dX8_isBad_26 : decode cX8_isBad 26 = .ok (.getfield 111, 3) := by decide +kernel
theorem dX8_isBad_29 : decode cX8_isBad 29 = .ok (.aload_n 0, 1) := by decide +kernel
theorem dX8_isBad_30 : decode cX8_isBad 30 = .ok (.getfield 36, 3) := by decide +kernel
theorem dX8_isBad_33 : decode cX8_isBad 33 = .ok (.getfield 114, 3) := by decide +kernel
theorem dX8_isBad_36 : decode cX8_isBad 36 = .ok (.invokevirtual 117, 3) := by decide +kernel
theorem dX8_isBad_39 : decode cX8_isBad 39 = .ok (.ireturn, 1) := by decide +kernel
theorem b_X8_isBad (mm : MM) (Q : Value → MM → Prop) (t0 : Nat) (a1 : Nat) (a2 : Int32) (h0 : AtTown t0) (h1 : AtState a1) (h : ∃ Pm1 : Value → MM → Prop, Runs e_X8_swayOf [.ref t0, .ref a1, .int a2, .int (0 : Int32)] mm Pm1 ∧ ∀ (r1 : Int32) (m1 : MM), Pm1 (.int r1) m1 → (∃ Pm2 : Value → MM → Prop, Runs e_X1_put [.ref (t0 + 8), .int (12 : Int32), .int r1] m1 Pm2 ∧ ∀ m2, Pm2 .null m2 → (∃ Pm3 : Value → MM → Prop, Runs e_X1_someHolds [.ref (t0 + 8), .ref ((t0 + 8) + 3), .int (m2.1 (t0 + 8) 12)] m2 Pm3 ∧ (∀ r m3, Pm3 r m3 → r = .int 1 ∨ r = .int 0) ∧ (∀ m3, Pm3 (.int 1) m3 → (Q (.int (1 : Int32)) m3)) ∧ (∀ m3, Pm3 (.int 0) m3 → (Q (.int (0 : Int32)) m3))))) : Runs e_X8_isBad [.ref t0, .ref a1, .int a2] mm Q := by
  refine runs_of_G (L := [(0, .ref t0), (1, .ref a1), (2, .int a2)]) pl_X8 (Nat.le_of_ble_eq_true rfl) rfl ?_
  refine g_aload_n (pc := 0) (x := t0) dX8_isBad_0 rfl ?_
  refine g_aload_n (pc := 1) (x := a1) dX8_isBad_1 rfl ?_
  refine g_iload_n (pc := 2) (x := a2) dX8_isBad_2 rfl ?_
  refine g_iconst (pc := 3) (v := (0 : Int32)) dX8_isBad_3 (by decide) ?_
  obtain ⟨Pm1, hRm1, h⟩ := h
  refine g_callV (pc := 4) (as := [.ref a1, .int a2, .int (0 : Int32)]) dX8_isBad_4 cw_X8_107 (by decide) rfl rfl (AtTown_0 h0) (Nat.le_of_ble_eq_true rfl) hRm1 ?_
  intro r_ m1 hz_ hp_
  obtain ⟨r1, rfl⟩ := hz_
  have h := h r1 m1 hp_
  refine g_istore_n (pc := 7) (L' := [(0, .ref t0), (1, .ref a1), (2, .int a2), (3, .int r1)]) dX8_isBad_7 (Nat.le_of_ble_eq_true rfl) rfl ?_
  refine g_aload_n (pc := 8) (x := t0) dX8_isBad_8 rfl ?_
  refine g_getR (pc := 9) (dd := 8) dX8_isBad_9 fo_X8_36 (AtTown_0 h0) rfl ?_
  refine g_bipush (pc := 12) (v := (12 : Int32)) dX8_isBad_12 (by decide) ?_
  refine g_iload_n (pc := 14) (x := r1) dX8_isBad_14 rfl ?_
  obtain ⟨Pm2, hRm2, h⟩ := h
  refine g_callV (pc := 15) (as := [.int (12 : Int32), .int r1]) dX8_isBad_15 cw_X8_76 (by decide) rfl rfl (AtLaws_0 (AtTown.laws h0)) (Nat.le_of_ble_eq_true rfl) hRm2 ?_
  intro r_ m2 hz_ hp_
  obtain rfl := hz_
  have h := h m2 hp_
  refine g_aload_n (pc := 18) (x := t0) dX8_isBad_18 rfl ?_
  refine g_getR (pc := 19) (dd := 8) dX8_isBad_19 fo_X8_36 (AtTown_0 h0) rfl ?_
  refine g_aload_n (pc := 22) (x := t0) dX8_isBad_22 rfl ?_
  refine g_getR (pc := 23) (dd := 8) dX8_isBad_23 fo_X8_36 (AtTown_0 h0) rfl ?_
  refine g_getR (pc := 26) (dd := 3) dX8_isBad_26 fo_X8_111 (AtLaws_0 (AtTown.laws h0)) rfl ?_
  refine g_aload_n (pc := 29) (x := t0) dX8_isBad_29 rfl ?_
  refine g_getR (pc := 30) (dd := 8) dX8_isBad_30 fo_X8_36 (AtTown_0 h0) rfl ?_
  refine g_getI (pc := 33) dX8_isBad_33 fo_X8_114 (AtLaws_0 (AtTown.laws h0)) rfl ?_
  obtain ⟨Pm3, hRm3, h⟩ := h
  refine g_callV (pc := 36) (as := [.ref ((t0 + 8) + 3), .int (m2.1 (t0 + 8) 12)]) dX8_isBad_36 cw_X8_117 (by decide) rfl rfl (AtLaws_0 (AtTown.laws h0)) (Nat.le_of_ble_eq_true rfl) hRm3 ?_
  intro r_ m3 hz_ hp_
  rcases h.1 r_ m3 hp_ with rfl | rfl
  · have h := h.2.1 m3 hp_
    exact g_iret (pc := 39) dX8_isBad_39 rfl rfl (nar_B isB1) h
  · have h := h.2.2 m3 hp_
    exact g_iret (pc := 39) dX8_isBad_39 rfl rfl (nar_B isB0) h
theorem dX8_hasToFall_0 : decode cX8_hasToFall 0 = .ok (.aload_n 0, 1) := by decide +kernel
theorem dX8_hasToFall_1 : decode cX8_hasToFall 1 = .ok (.aload_n 1, 1) := by decide +kernel
theorem dX8_hasToFall_2 : decode cX8_hasToFall 2 = .ok (.iload_n 2, 1) := by decide +kernel
theorem dX8_hasToFall_3 : decode cX8_hasToFall 3 = .ok (.iload_n 3, 1) := by decide +kernel
theorem dX8_hasToFall_4 : decode cX8_hasToFall 4 = .ok (.invokevirtual 107, 3) := by decide +kernel
theorem dX8_hasToFall_7 : decode cX8_hasToFall 7 = .ok (.istore 5, 2) := by decide +kernel
theorem dX8_hasToFall_9 : decode cX8_hasToFall 9 = .ok (.aload_n 0, 1) := by decide +kernel
theorem dX8_hasToFall_10 : decode cX8_hasToFall 10 = .ok (.getfield 36, 3) := by decide +kernel
theorem dX8_hasToFall_13 : decode cX8_hasToFall 13 = .ok (.bipush 12, 2) := by decide +kernel
theorem dX8_hasToFall_15 : decode cX8_hasToFall 15 = .ok (.iload 5, 2) := by decide +kernel
theorem dX8_hasToFall_17 : decode cX8_hasToFall 17 = .ok (.invokevirtual 76, 3) := by decide +kernel
theorem dX8_hasToFall_20 : decode cX8_hasToFall 20 = .ok (.aload_n 0, 1) := by decide +kernel
theorem dX8_hasToFall_21 : decode cX8_hasToFall 21 = .ok (.getfield 36, 3) := by decide +kernel
theorem dX8_hasToFall_24 : decode cX8_hasToFall 24 = .ok (.bipush 20, 2) := by decide +kernel
theorem dX8_hasToFall_26 : decode cX8_hasToFall 26 = .ok (.iload 4, 2) := by decide +kernel
theorem dX8_hasToFall_28 : decode cX8_hasToFall 28 = .ok (.invokevirtual 76, 3) := by decide +kernel
theorem dX8_hasToFall_31 : decode cX8_hasToFall 31 = .ok (.aload_n 0, 1) := by decide +kernel
theorem dX8_hasToFall_32 : decode cX8_hasToFall 32 = .ok (.getfield 36, 3) := by decide +kernel
theorem dX8_hasToFall_35 : decode cX8_hasToFall 35 = .ok (.aload_n 0, 1) := by decide +kernel
theorem dX8_hasToFall_36 : decode cX8_hasToFall 36 = .ok (.getfield 36, 3) := by decide +kernel
theorem dX8_hasToFall_39 : decode cX8_hasToFall 39 = .ok (.getfield 121, 3) := by decide +kernel
theorem dX8_hasToFall_42 : decode cX8_hasToFall 42 = .ok (.aload_n 0, 1) := by decide +kernel
theorem dX8_hasToFall_43 : decode cX8_hasToFall 43 = .ok (.getfield 36, 3) := by decide +kernel
theorem dX8_hasToFall_46 : decode cX8_hasToFall 46 = .ok (.getfield 124, 3) := by decide +kernel
theorem dX8_hasToFall_49 : decode cX8_hasToFall 49 = .ok (.invokevirtual 117, 3) := by decide +kernel
theorem dX8_hasToFall_52 : decode cX8_hasToFall 52 = .ok (.ireturn, 1) := by decide +kernel
theorem b_X8_hasToFall (mm : MM) (Q : Value → MM → Prop) (t0 : Nat) (a1 : Nat) (a2 : Int32) (a3 : Int32) (a4 : Int32) (h0 : AtTown t0) (h1 : AtState a1) (h : ∃ Pm1 : Value → MM → Prop, Runs e_X8_swayOf [.ref t0, .ref a1, .int a2, .int a3] mm Pm1 ∧ ∀ (r1 : Int32) (m1 : MM), Pm1 (.int r1) m1 → (∃ Pm2 : Value → MM → Prop, Runs e_X1_put [.ref (t0 + 8), .int (12 : Int32), .int r1] m1 Pm2 ∧ ∀ m2, Pm2 .null m2 → (∃ Pm3 : Value → MM → Prop, Runs e_X1_put [.ref (t0 + 8), .int (20 : Int32), .int a4] m2 Pm3 ∧ ∀ m3, Pm3 .null m3 → (∃ Pm4 : Value → MM → Prop, Runs e_X1_someHolds [.ref (t0 + 8), .ref ((t0 + 8) + 2), .int (m3.1 (t0 + 8) 11)] m3 Pm4 ∧ (∀ r m4, Pm4 r m4 → r = .int 1 ∨ r = .int 0) ∧ (∀ m4, Pm4 (.int 1) m4 → (Q (.int (1 : Int32)) m4)) ∧ (∀ m4, Pm4 (.int 0) m4 → (Q (.int (0 : Int32)) m4)))))) : Runs e_X8_hasToFall [.ref t0, .ref a1, .int a2, .int a3, .int a4] mm Q := by
  refine runs_of_G (L := [(0, .ref t0), (1, .ref a1), (2, .int a2), (3, .int a3), (4, .int a4)]) pl_X8 (Nat.le_of_ble_eq_true rfl) rfl ?_
  refine g_aload_n (pc := 0) (x := t0) dX8_hasToFall_0 rfl ?_
  refine g_aload_n (pc := 1) (x := a1) dX8_hasToFall_1 rfl ?_
  refine g_iload_n (pc := 2) (x := a2) dX8_hasToFall_2 rfl ?_
  refine g_iload_n (pc := 3) (x := a3) dX8_hasToFall_3 rfl ?_
  obtain ⟨Pm1, hRm1, h⟩ := h
  refine g_callV (pc := 4) (as := [.ref a1, .int a2, .int a3]) dX8_hasToFall_4 cw_X8_107 (by decide) rfl rfl (AtTown_0 h0) (Nat.le_of_ble_eq_true rfl) hRm1 ?_
  intro r_ m1 hz_ hp_
  obtain ⟨r1, rfl⟩ := hz_
  have h := h r1 m1 hp_
  refine g_istore (pc := 7) (L' := [(0, .ref t0), (1, .ref a1), (2, .int a2), (3, .int a3), (4, .int a4), (5, .int r1)]) dX8_hasToFall_7 (Nat.le_of_ble_eq_true rfl) rfl ?_
  refine g_aload_n (pc := 9) (x := t0) dX8_hasToFall_9 rfl ?_
  refine g_getR (pc := 10) (dd := 8) dX8_hasToFall_10 fo_X8_36 (AtTown_0 h0) rfl ?_
  refine g_bipush (pc := 13) (v := (12 : Int32)) dX8_hasToFall_13 (by decide) ?_
  refine g_iload (pc := 15) (x := r1) dX8_hasToFall_15 rfl ?_
  obtain ⟨Pm2, hRm2, h⟩ := h
  refine g_callV (pc := 17) (as := [.int (12 : Int32), .int r1]) dX8_hasToFall_17 cw_X8_76 (by decide) rfl rfl (AtLaws_0 (AtTown.laws h0)) (Nat.le_of_ble_eq_true rfl) hRm2 ?_
  intro r_ m2 hz_ hp_
  obtain rfl := hz_
  have h := h m2 hp_
  refine g_aload_n (pc := 20) (x := t0) dX8_hasToFall_20 rfl ?_
  refine g_getR (pc := 21) (dd := 8) dX8_hasToFall_21 fo_X8_36 (AtTown_0 h0) rfl ?_
  refine g_bipush (pc := 24) (v := (20 : Int32)) dX8_hasToFall_24 (by decide) ?_
  refine g_iload (pc := 26) (x := a4) dX8_hasToFall_26 rfl ?_
  obtain ⟨Pm3, hRm3, h⟩ := h
  refine g_callV (pc := 28) (as := [.int (20 : Int32), .int a4]) dX8_hasToFall_28 cw_X8_76 (by decide) rfl rfl (AtLaws_0 (AtTown.laws h0)) (Nat.le_of_ble_eq_true rfl) hRm3 ?_
  intro r_ m3 hz_ hp_
  obtain rfl := hz_
  have h := h m3 hp_
  refine g_aload_n (pc := 31) (x := t0) dX8_hasToFall_31 rfl ?_
  refine g_getR (pc := 32) (dd := 8) dX8_hasToFall_32 fo_X8_36 (AtTown_0 h0) rfl ?_
  refine g_aload_n (pc := 35) (x := t0) dX8_hasToFall_35 rfl ?_
  refine g_getR (pc := 36) (dd := 8) dX8_hasToFall_36 fo_X8_36 (AtTown_0 h0) rfl ?_
  refine g_getR (pc := 39) (dd := 2) dX8_hasToFall_39 fo_X8_121 (AtLaws_0 (AtTown.laws h0)) rfl ?_
  refine g_aload_n (pc := 42) (x := t0) dX8_hasToFall_42 rfl ?_
  refine g_getR (pc := 43) (dd := 8) dX8_hasToFall_43 fo_X8_36 (AtTown_0 h0) rfl ?_
  refine g_getI (pc := 46) dX8_hasToFall_46 fo_X8_124 (AtLaws_0 (AtTown.laws h0)) rfl ?_
  obtain ⟨Pm4, hRm4, h⟩ := h
  refine g_callV (pc := 49) (as := [.ref ((t0 + 8) + 2), .int (m3.1 (t0 + 8) 11)]) dX8_hasToFall_49 cw_X8_117 (by decide) rfl rfl (AtLaws_0 (AtTown.laws h0)) (Nat.le_of_ble_eq_true rfl) hRm4 ?_
  intro r_ m4 hz_ hp_
  rcases h.1 r_ m4 hp_ with rfl | rfl
  · have h := h.2.1 m4 hp_
    exact g_iret (pc := 52) dX8_hasToFall_52 rfl rfl (nar_B isB1) h
  · have h := h.2.2 m4 hp_
    exact g_iret (pc := 52) dX8_hasToFall_52 rfl rfl (nar_B isB0) h
theorem dX8_putVars_0 : decode cX8_putVars 0 = .ok (.aload_n 0, 1) := by decide +kernel
theorem dX8_putVars_1 : decode cX8_putVars 1 = .ok (.getfield 36, 3) := by decide +kernel
theorem dX8_putVars_4 : decode cX8_putVars 4 = .ok (.invokevirtual 73, 3) := by decide +kernel
theorem dX8_putVars_7 : decode cX8_putVars 7 = .ok (.aload_n 0, 1) := by decide +kernel
theorem dX8_putVars_8 : decode cX8_putVars 8 = .ok (.getfield 36, 3) := by decide +kernel
theorem dX8_putVars_11 : decode cX8_putVars 11 = .ok (.bipush 13, 2) := by decide +kernel
theorem dX8_putVars_13 : decode cX8_putVars 13 = .ok (.aload_n 1, 1) := by decide +kernel
theorem dX8_putVars_14 : decode cX8_putVars 14 = .ok (.getfield 127, 3) := by decide +kernel
theorem dX8_putVars_17 : decode cX8_putVars 17 = .ok (.iload_n 2, 1) := by decide +kernel
theorem dX8_putVars_18 : decode cX8_putVars 18 = .ok (.iaload, 1) := by decide +kernel
theorem dX8_putVars_19 : decode cX8_putVars 19 = .ok (.invokevirtual 76, 3) := by decide +kernel
theorem dX8_putVars_22 : decode cX8_putVars 22 = .ok (.aload_n 0, 1) := by decide +kernel
theorem dX8_putVars_23 : decode cX8_putVars 23 = .ok (.getfield 36, 3) := by decide +kernel
theorem dX8_putVars_26 : decode cX8_putVars 26 = .ok (.bipush 14, 2) := by decide +kernel
theorem dX8_putVars_28 : decode cX8_putVars 28 = .ok (.aload_n 0, 1) := by decide +kernel
theorem dX8_putVars_29 : decode cX8_putVars 29 = .ok (.aload_n 1, 1) := by decide +kernel
theorem dX8_putVars_30 : decode cX8_putVars 30 = .ok (.iload_n 2, 1) := by decide +kernel
theorem dX8_putVars_31 : decode cX8_putVars 31 = .ok (.invokevirtual 96, 3) := by decide +kernel
theorem dX8_putVars_34 : decode cX8_putVars 34 = .ok (.invokevirtual 76, 3) := by decide +kernel
theorem dX8_putVars_37 : decode cX8_putVars 37 = .ok (.aload_n 0, 1) := by decide +kernel
theorem dX8_putVars_38 : decode cX8_putVars 38 = .ok (.getfield 36, 3) := by decide +kernel
theorem dX8_putVars_41 : decode cX8_putVars 41 = .ok (.bipush 15, 2) := by decide +kernel
theorem dX8_putVars_43 : decode cX8_putVars 43 = .ok (.aload_n 0, 1) := by decide +kernel
theorem dX8_putVars_44 : decode cX8_putVars 44 = .ok (.getfield 15, 3) := by decide +kernel
theorem dX8_putVars_47 : decode cX8_putVars 47 = .ok (.iload_n 2, 1) := by decide +kernel
theorem dX8_putVars_48 : decode cX8_putVars 48 = .ok (.iaload, 1) := by decide +kernel
theorem dX8_putVars_49 : decode cX8_putVars 49 = .ok (.invokevirtual 76, 3) := by decide +kernel
theorem dX8_putVars_52 : decode cX8_putVars 52 = .ok (.aload_n 0, 1) := by decide +kernel
theorem dX8_putVars_53 : decode cX8_putVars 53 = .ok (.getfield 36, 3) := by decide +kernel
theorem dX8_putVars_56 : decode cX8_putVars 56 = .ok (.bipush 16, 2) := by decide +kernel
theorem dX8_putVars_58 : decode cX8_putVars 58 = .ok (.aload_n 0, 1) := by decide +kernel
theorem dX8_putVars_59 : decode cX8_putVars 59 = .ok (.getfield 9, 3) := by decide +kernel
theorem dX8_putVars_62 : decode cX8_putVars 62 = .ok (.iload_n 2, 1) := by decide +kernel
theorem dX8_putVars_63 : decode cX8_putVars 63 = .ok (.iaload, 1) := by decide +kernel
theorem dX8_putVars_64 : decode cX8_putVars 64 = .ok (.invokevirtual 76, 3) := by decide +kernel
theorem dX8_putVars_67 : decode cX8_putVars 67 = .ok (.return_, 1) := by decide +kernel
theorem b_X8_putVars (mm : MM) (Q : Value → MM → Prop) (t0 : Nat) (a1 : Nat) (a2 : Int32) (h0 : AtTown t0) (h1 : AtState a1) (h : ∃ Pm1 : Value → MM → Prop, Runs e_X1_wipeVars [.ref (t0 + 8)] mm Pm1 ∧ ∀ m1, Pm1 .null m1 → (vp_in a2 16 ∧ (∃ Pm2 : Value → MM → Prop, Runs e_X1_put [.ref (t0 + 8), .int (13 : Int32), .int (m1.1 (a1 + 1) a2.toNatClampNeg)] m1 Pm2 ∧ ∀ m2, Pm2 .null m2 → (o_X8_rankOf m2 t0 a1 a2 ∧ (∃ Pm3 : Value → MM → Prop, Runs e_X1_put [.ref (t0 + 8), .int (14 : Int32), .int (v_X8_rankOf m2 t0 a1 a2)] m2 Pm3 ∧ ∀ m3, Pm3 .null m3 → (vp_in a2 16 ∧ (∃ Pm4 : Value → MM → Prop, Runs e_X1_put [.ref (t0 + 8), .int (15 : Int32), .int (m3.1 (t0 + 2) a2.toNatClampNeg)] m3 Pm4 ∧ ∀ m4, Pm4 .null m4 → (vp_in a2 16 ∧ (∃ Pm5 : Value → MM → Prop, Runs e_X1_put [.ref (t0 + 8), .int (16 : Int32), .int (m4.1 (t0 + 1) a2.toNatClampNeg)] m4 Pm5 ∧ ∀ m5, Pm5 .null m5 → (Q .null m5)))))))))) : Runs e_X8_putVars [.ref t0, .ref a1, .int a2] mm Q := by
  refine runs_of_G (L := [(0, .ref t0), (1, .ref a1), (2, .int a2)]) pl_X8 (Nat.le_of_ble_eq_true rfl) rfl ?_
  refine g_aload_n (pc := 0) (x := t0) dX8_putVars_0 rfl ?_
  refine g_getR (pc := 1) (dd := 8) dX8_putVars_1 fo_X8_36 (AtTown_0 h0) rfl ?_
  obtain ⟨Pm1, hRm1, h⟩ := h
  refine g_callV (pc := 4) (as := []) dX8_putVars_4 cw_X8_73 (by decide) rfl rfl (AtLaws_0 (AtTown.laws h0)) (Nat.le_of_ble_eq_true rfl) hRm1 ?_
  intro r_ m1 hz_ hp_
  obtain rfl := hz_
  have h := h m1 hp_
  refine g_aload_n (pc := 7) (x := t0) dX8_putVars_7 rfl ?_
  refine g_getR (pc := 8) (dd := 8) dX8_putVars_8 fo_X8_36 (AtTown_0 h0) rfl ?_
  refine g_bipush (pc := 11) (v := (13 : Int32)) dX8_putVars_11 (by decide) ?_
  refine g_aload_n (pc := 13) (x := a1) dX8_putVars_13 rfl ?_
  refine g_getR (pc := 14) (dd := 1) dX8_putVars_14 fo_X8_127 (AtState_0 h1) rfl ?_
  refine g_iload_n (pc := 17) (x := a2) dX8_putVars_17 rfl ?_
  refine g_iaload (pc := 18) dX8_putVars_18 (AtState_1 h1) h.1 ?_
  have h := h.2
  obtain ⟨Pm2, hRm2, h⟩ := h
  refine g_callV (pc := 19) (as := [.int (13 : Int32), .int (m1.1 (a1 + 1) a2.toNatClampNeg)]) dX8_putVars_19 cw_X8_76 (by decide) rfl rfl (AtLaws_0 (AtTown.laws h0)) (Nat.le_of_ble_eq_true rfl) hRm2 ?_
  intro r_ m2 hz_ hp_
  obtain rfl := hz_
  have h := h m2 hp_
  refine g_aload_n (pc := 22) (x := t0) dX8_putVars_22 rfl ?_
  refine g_getR (pc := 23) (dd := 8) dX8_putVars_23 fo_X8_36 (AtTown_0 h0) rfl ?_
  refine g_bipush (pc := 26) (v := (14 : Int32)) dX8_putVars_26 (by decide) ?_
  refine g_aload_n (pc := 28) (x := t0) dX8_putVars_28 rfl ?_
  refine g_aload_n (pc := 29) (x := a1) dX8_putVars_29 rfl ?_
  refine g_iload_n (pc := 30) (x := a2) dX8_putVars_30 rfl ?_
  refine g_callV (pc := 31) (as := [.ref a1, .int a2]) dX8_putVars_31 cw_X8_96 (by decide) rfl rfl (AtTown_0 h0) (Nat.le_of_ble_eq_true rfl) (rv_X8_rankOf m2 t0 a1 a2 h0 h1 h.1) ?_
  have h := h.2
  rintro r_ m_ hz_ ⟨rfl, rfl⟩
  obtain ⟨Pm3, hRm3, h⟩ := h
  refine g_callV (pc := 34) (as := [.int (14 : Int32), .int (v_X8_rankOf m2 t0 a1 a2)]) dX8_putVars_34 cw_X8_76 (by decide) rfl rfl (AtLaws_0 (AtTown.laws h0)) (Nat.le_of_ble_eq_true rfl) hRm3 ?_
  intro r_ m3 hz_ hp_
  obtain rfl := hz_
  have h := h m3 hp_
  refine g_aload_n (pc := 37) (x := t0) dX8_putVars_37 rfl ?_
  refine g_getR (pc := 38) (dd := 8) dX8_putVars_38 fo_X8_36 (AtTown_0 h0) rfl ?_
  refine g_bipush (pc := 41) (v := (15 : Int32)) dX8_putVars_41 (by decide) ?_
  refine g_aload_n (pc := 43) (x := t0) dX8_putVars_43 rfl ?_
  refine g_getR (pc := 44) (dd := 2) dX8_putVars_44 fo_X8_15 (AtTown_0 h0) rfl ?_
  refine g_iload_n (pc := 47) (x := a2) dX8_putVars_47 rfl ?_
  refine g_iaload (pc := 48) dX8_putVars_48 (AtTown_2 h0) h.1 ?_
  have h := h.2
  obtain ⟨Pm4, hRm4, h⟩ := h
  refine g_callV (pc := 49) (as := [.int (15 : Int32), .int (m3.1 (t0 + 2) a2.toNatClampNeg)]) dX8_putVars_49 cw_X8_76 (by decide) rfl rfl (AtLaws_0 (AtTown.laws h0)) (Nat.le_of_ble_eq_true rfl) hRm4 ?_
  intro r_ m4 hz_ hp_
  obtain rfl := hz_
  have h := h m4 hp_
  refine g_aload_n (pc := 52) (x := t0) dX8_putVars_52 rfl ?_
  refine g_getR (pc := 53) (dd := 8) dX8_putVars_53 fo_X8_36 (AtTown_0 h0) rfl ?_
  refine g_bipush (pc := 56) (v := (16 : Int32)) dX8_putVars_56 (by decide) ?_
  refine g_aload_n (pc := 58) (x := t0) dX8_putVars_58 rfl ?_
  refine g_getR (pc := 59) (dd := 1) dX8_putVars_59 fo_X8_9 (AtTown_0 h0) rfl ?_
  refine g_iload_n (pc := 62) (x := a2) dX8_putVars_62 rfl ?_
  refine g_iaload (pc := 63) dX8_putVars_63 (AtTown_1 h0) h.1 ?_
  have h := h.2
  obtain ⟨Pm5, hRm5, h⟩ := h
  refine g_callV (pc := 64) (as := [.int (16 : Int32), .int (m4.1 (t0 + 1) a2.toNatClampNeg)]) dX8_putVars_64 cw_X8_76 (by decide) rfl rfl (AtLaws_0 (AtTown.laws h0)) (Nat.le_of_ble_eq_true rfl) hRm5 ?_
  intro r_ m5 hz_ hp_
  obtain rfl := hz_
  have h := h m5 hp_
  exact g_vret (pc := 67) dX8_putVars_67 rfl rfl h
theorem dX8_untrueBits_0 : decode cX8_untrueBits 0 = .ok (.iconst 0, 1) := by decide +kernel
theorem dX8_untrueBits_1 : decode cX8_untrueBits 1 = .ok (.istore_n 2, 1) := by decide +kernel
theorem dX8_untrueBits_2 : decode cX8_untrueBits 2 = .ok (.iconst 0, 1) := by decide +kernel
theorem dX8_untrueBits_3 : decode cX8_untrueBits 3 = .ok (.istore_n 3, 1) := by decide +kernel
theorem dX8_untrueBits_4 : decode cX8_untrueBits 4 = .ok (.iload_n 3, 1) := by decide +kernel
theorem dX8_untrueBits_5 : decode cX8_untrueBits 5 = .ok (.aload_n 0, 1) := by decide +kernel
theorem dX8_untrueBits_6 : decode cX8_untrueBits 6 = .ok (.getfield 40, 3) := by decide +kernel
theorem dX8_untrueBits_9 : decode cX8_untrueBits 9 = .ok (.if_icmp .ge 30, 3) := by decide +kernel
theorem dX8_untrueBits_12 : decode cX8_untrueBits 12 = .ok (.aload_n 1, 1) := by decide +kernel
theorem dX8_untrueBits_13 : decode cX8_untrueBits 13 = .ok (.getfield 127, 3) := by decide +kernel
theorem dX8_untrueBits_16 : decode cX8_untrueBits 16 = .ok (.iload_n 3, 1) := by decide +kernel
theorem dX8_untrueBits_17 : decode cX8_untrueBits 17 = .ok (.iaload, 1) := by decide +kernel
theorem dX8_untrueBits_18 : decode cX8_untrueBits 18 = .ok (.aload_n 0, 1) := by decide +kernel
theorem dX8_untrueBits_19 : decode cX8_untrueBits 19 = .ok (.aload_n 1, 1) := by decide +kernel
theorem dX8_untrueBits_20 : decode cX8_untrueBits 20 = .ok (.iload_n 3, 1) := by decide +kernel
theorem dX8_untrueBits_21 : decode cX8_untrueBits 21 = .ok (.invokevirtual 130, 3) := by decide +kernel
theorem dX8_untrueBits_24 : decode cX8_untrueBits 24 = .ok (.if_icmp .eq 9, 3) := by decide +kernel
theorem dX8_untrueBits_27 : decode cX8_untrueBits 27 = .ok (.iload_n 2, 1) := by decide +kernel
theorem dX8_untrueBits_28 : decode cX8_untrueBits 28 = .ok (.iconst 1, 1) := by decide +kernel
theorem dX8_untrueBits_29 : decode cX8_untrueBits 29 = .ok (.iload_n 3, 1) := by decide +kernel
theorem dX8_untrueBits_30 : decode cX8_untrueBits 30 = .ok (.ishl, 1) := by decide +kernel
theorem dX8_untrueBits_31 : decode cX8_untrueBits 31 = .ok (.ior, 1) := by decide +kernel
theorem dX8_untrueBits_32 : decode cX8_untrueBits 32 = .ok (.istore_n 2, 1) := by decide +kernel
theorem dX8_untrueBits_33 : decode cX8_untrueBits 33 = .ok (.iinc 3 1, 3) := by decide +kernel
theorem dX8_untrueBits_36 : decode cX8_untrueBits 36 = .ok (.goto (-32), 3) := by decide +kernel
theorem dX8_untrueBits_39 : decode cX8_untrueBits 39 = .ok (.iload_n 2, 1) := by decide +kernel
theorem dX8_untrueBits_40 : decode cX8_untrueBits 40 = .ok (.ireturn, 1) := by decide +kernel
theorem b_X8_untrueBits (mm : MM) (Q : Value → MM → Prop) (t0 : Nat) (a1 : Nat) (h0 : AtTown t0) (h1 : AtState a1) (h : G e_X8_untrueBits 4 [(0, .ref t0), (1, .ref a1), (2, .int (0 : Int32)), (3, .int (0 : Int32))] [] mm Q) : Runs e_X8_untrueBits [.ref t0, .ref a1] mm Q := by
  refine runs_of_G (L := [(0, .ref t0), (1, .ref a1)]) pl_X8 (Nat.le_of_ble_eq_true rfl) rfl ?_
  refine g_iconst (pc := 0) (v := (0 : Int32)) dX8_untrueBits_0 (by decide) ?_
  refine g_istore_n (pc := 1) (L' := [(0, .ref t0), (1, .ref a1), (2, .int (0 : Int32))]) dX8_untrueBits_1 (Nat.le_of_ble_eq_true rfl) rfl ?_
  refine g_iconst (pc := 2) (v := (0 : Int32)) dX8_untrueBits_2 (by decide) ?_
  refine g_istore_n (pc := 3) (L' := [(0, .ref t0), (1, .ref a1), (2, .int (0 : Int32)), (3, .int (0 : Int32))]) dX8_untrueBits_3 (Nat.le_of_ble_eq_true rfl) rfl ?_
  exact h
theorem b_X8_untrueBits_4 (mm : MM) (Q : Value → MM → Prop) (l0 : Nat) (l1 : Nat) (l2 : Int32) (l3 : Int32) (k0 : AtTown l0) (k1 : AtState l1) (h : ((mm.1 l0 8) ≤ l3 → (Q (.int l2) mm)) ∧ (¬ (mm.1 l0 8) ≤ l3 → (vp_in l3 16 ∧ (∃ Pm1 : Value → MM → Prop, Runs e_X8_dueOf [.ref l0, .ref l1, .int l3] mm Pm1 ∧ ∀ (r1 : Int32) (m1 : MM), Pm1 (.int r1) m1 → (((mm.1 (l1 + 1) l3.toNatClampNeg) = r1 → (G e_X8_untrueBits 4 [(0, .ref l0), (1, .ref l1), (2, .int l2), (3, .int (l3 + (1 : Int32)))] [] m1 Q)) ∧ (¬ (mm.1 (l1 + 1) l3.toNatClampNeg) = r1 → (G e_X8_untrueBits 4 [(0, .ref l0), (1, .ref l1), (2, .int (l2 ||| ((1 : Int32) <<< (l3 &&& 31)))), (3, .int (l3 + (1 : Int32)))] [] m1 Q))))))) : G e_X8_untrueBits 4 [(0, .ref l0), (1, .ref l1), (2, .int l2), (3, .int l3)] [] mm Q := by
  refine g_iload_n (pc := 4) (x := l3) dX8_untrueBits_4 rfl ?_
  refine g_aload_n (pc := 5) (x := l0) dX8_untrueBits_5 rfl ?_
  refine g_getI (pc := 6) dX8_untrueBits_6 fo_X8_40 (AtTown_0 k0) rfl ?_
  refine g_icmp_ge (pc := 9) (tgt := 39) dX8_untrueBits_9 (by decide) (fun c9 => ?_) (fun c9 => ?_)
  · have h := h.1 c9
    refine g_iload_n (pc := 39) (x := l2) dX8_untrueBits_39 rfl ?_
    exact g_iret (pc := 40) dX8_untrueBits_40 rfl rfl rfl h
  · have h := h.2 c9
    refine g_aload_n (pc := 12) (x := l1) dX8_untrueBits_12 rfl ?_
    refine g_getR (pc := 13) (dd := 1) dX8_untrueBits_13 fo_X8_127 (AtState_0 k1) rfl ?_
    refine g_iload_n (pc := 16) (x := l3) dX8_untrueBits_16 rfl ?_
    refine g_iaload (pc := 17) dX8_untrueBits_17 (AtState_1 k1) h.1 ?_
    have h := h.2
    refine g_aload_n (pc := 18) (x := l0) dX8_untrueBits_18 rfl ?_
    refine g_aload_n (pc := 19) (x := l1) dX8_untrueBits_19 rfl ?_
    refine g_iload_n (pc := 20) (x := l3) dX8_untrueBits_20 rfl ?_
    obtain ⟨Pm1, hRm1, h⟩ := h
    refine g_callV (pc := 21) (as := [.ref l1, .int l3]) dX8_untrueBits_21 cw_X8_130 (by decide) rfl rfl (AtTown_0 k0) (Nat.le_of_ble_eq_true rfl) hRm1 ?_
    intro r_ m1 hz_ hp_
    obtain ⟨r1, rfl⟩ := hz_
    have h := h r1 m1 hp_
    refine g_icmp_eq (pc := 24) (tgt := 33) dX8_untrueBits_24 (by decide) (fun c24 => ?_) (fun c24 => ?_)
    · have h := h.1 c24
      refine g_iinc (pc := 33) (x := l3) (v := (l3 + (1 : Int32))) (L' := [(0, .ref l0), (1, .ref l1), (2, .int l2), (3, .int (l3 + (1 : Int32)))]) dX8_untrueBits_33 rfl rfl (Nat.le_of_ble_eq_true rfl) rfl ?_
      refine g_goto (pc := 36) (tgt := 4) dX8_untrueBits_36 (by decide) ?_
      exact h
    · have h := h.2 c24
      refine g_iload_n (pc := 27) (x := l2) dX8_untrueBits_27 rfl ?_
      refine g_iconst (pc := 28) (v := (1 : Int32)) dX8_untrueBits_28 (by decide) ?_
      refine g_iload_n (pc := 29) (x := l3) dX8_untrueBits_29 rfl ?_
      refine g_ishl (pc := 30) dX8_untrueBits_30 ?_
      refine g_ior (pc := 31) dX8_untrueBits_31 ?_
      refine g_istore_n (pc := 32) (L' := [(0, .ref l0), (1, .ref l1), (2, .int (l2 ||| ((1 : Int32) <<< (l3 &&& 31)))), (3, .int l3)]) dX8_untrueBits_32 (Nat.le_of_ble_eq_true rfl) rfl ?_
      refine g_iinc (pc := 33) (x := l3) (v := (l3 + (1 : Int32))) (L' := [(0, .ref l0), (1, .ref l1), (2, .int (l2 ||| ((1 : Int32) <<< (l3 &&& 31)))), (3, .int (l3 + (1 : Int32)))]) dX8_untrueBits_33 rfl rfl (Nat.le_of_ble_eq_true rfl) rfl ?_
      refine g_goto (pc := 36) (tgt := 4) dX8_untrueBits_36 (by decide) ?_
      exact h
theorem dX8_badBits_0 : decode cX8_badBits 0 = .ok (.iconst 0, 1) := by decide +kernel
theorem dX8_badBits_1 : decode cX8_badBits 1 = .ok (.istore_n 2, 1) := by decide +kernel
theorem dX8_badBits_2 : decode cX8_badBits 2 = .ok (.iconst 0, 1) := by decide +kernel
theorem dX8_badBits_3 : decode cX8_badBits 3 = .ok (.istore_n 3, 1) := by decide +kernel
theorem dX8_badBits_4 : decode cX8_badBits 4 = .ok (.iload_n 3, 1) := by decide +kernel
theorem dX8_badBits_5 : decode cX8_badBits 5 = .ok (.aload_n 0, 1) := by decide +kernel
theorem dX8_badBits_6 : decode cX8_badBits 6 = .ok (.getfield 40, 3) := by decide +kernel
theorem dX8_badBits_9 : decode cX8_badBits 9 = .ok (.if_icmp .ge 24, 3) := by decide +kernel
theorem dX8_badBits_12 : decode cX8_badBits 12 = .ok (.aload_n 0, 1) := by decide +kernel
theorem dX8_badBits_13 : decode cX8_badBits 13 = .ok (.aload_n 1, 1) := by decide +kernel
theorem dX8_badBits_14 : decode cX8_badBits 14 = .ok (.iload_n 3, 1) := by decide +kernel
theorem dX8_badBits_15 : decode cX8_badBits 15 = .ok (.invokevirtual 133, 3) := by decide +kernel
theorem dX8_badBits_18 : decode cX8_badBits 18 = .ok (.ifCond .eq 9, 3) := by decide +kernel
theorem dX8_badBits_21 : decode cX8_badBits 21 = .ok (.iload_n 2, 1) := by decide +kernel
theorem dX8_badBits_22 : decode cX8_badBits 22 = .ok (.iconst 1, 1) := by decide +kernel
theorem dX8_badBits_23 : decode cX8_badBits 23 = .ok (.iload_n 3, 1) := by decide +kernel
theorem dX8_badBits_24 : decode cX8_badBits 24 = .ok (.ishl, 1) := by decide +kernel
theorem dX8_badBits_25 : decode cX8_badBits 25 = .ok (.ior, 1) := by decide +kernel
theorem dX8_badBits_26 : decode cX8_badBits 26 = .ok (.istore_n 2, 1) := by decide +kernel
theorem dX8_badBits_27 : decode cX8_badBits 27 = .ok (.iinc 3 1, 3) := by decide +kernel
theorem dX8_badBits_30 : decode cX8_badBits 30 = .ok (.goto (-26), 3) := by decide +kernel
theorem dX8_badBits_33 : decode cX8_badBits 33 = .ok (.iload_n 2, 1) := by decide +kernel
theorem dX8_badBits_34 : decode cX8_badBits 34 = .ok (.ireturn, 1) := by decide +kernel
theorem b_X8_badBits (mm : MM) (Q : Value → MM → Prop) (t0 : Nat) (a1 : Nat) (h0 : AtTown t0) (h1 : AtState a1) (h : G e_X8_badBits 4 [(0, .ref t0), (1, .ref a1), (2, .int (0 : Int32)), (3, .int (0 : Int32))] [] mm Q) : Runs e_X8_badBits [.ref t0, .ref a1] mm Q := by
  refine runs_of_G (L := [(0, .ref t0), (1, .ref a1)]) pl_X8 (Nat.le_of_ble_eq_true rfl) rfl ?_
  refine g_iconst (pc := 0) (v := (0 : Int32)) dX8_badBits_0 (by decide) ?_
  refine g_istore_n (pc := 1) (L' := [(0, .ref t0), (1, .ref a1), (2, .int (0 : Int32))]) dX8_badBits_1 (Nat.le_of_ble_eq_true rfl) rfl ?_
  refine g_iconst (pc := 2) (v := (0 : Int32)) dX8_badBits_2 (by decide) ?_
  refine g_istore_n (pc := 3) (L' := [(0, .ref t0), (1, .ref a1), (2, .int (0 : Int32)), (3, .int (0 : Int32))]) dX8_badBits_3 (Nat.le_of_ble_eq_true rfl) rfl ?_
  exact h
theorem b_X8_badBits_4 (mm : MM) (Q : Value → MM → Prop) (l0 : Nat) (l1 : Nat) (l2 : Int32) (l3 : Int32) (k0 : AtTown l0) (k1 : AtState l1) (h : ((mm.1 l0 8) ≤ l3 → (Q (.int l2) mm)) ∧ (¬ (mm.1 l0 8) ≤ l3 → (∃ Pm1 : Value → MM → Prop, Runs e_X8_isBad [.ref l0, .ref l1, .int l3] mm Pm1 ∧ (∀ r m1, Pm1 r m1 → r = .int 1 ∨ r = .int 0) ∧ (∀ m1, Pm1 (.int 1) m1 → (G e_X8_badBits 4 [(0, .ref l0), (1, .ref l1), (2, .int (l2 ||| ((1 : Int32) <<< (l3 &&& 31)))), (3, .int (l3 + (1 : Int32)))] [] m1 Q)) ∧ (∀ m1, Pm1 (.int 0) m1 → (G e_X8_badBits 4 [(0, .ref l0), (1, .ref l1), (2, .int l2), (3, .int (l3 + (1 : Int32)))] [] m1 Q))))) : G e_X8_badBits 4 [(0, .ref l0), (1, .ref l1), (2, .int l2), (3, .int l3)] [] mm Q := by
  refine g_iload_n (pc := 4) (x := l3) dX8_badBits_4 rfl ?_
  refine g_aload_n (pc := 5) (x := l0) dX8_badBits_5 rfl ?_
  refine g_getI (pc := 6) dX8_badBits_6 fo_X8_40 (AtTown_0 k0) rfl ?_
  refine g_icmp_ge (pc := 9) (tgt := 33) dX8_badBits_9 (by decide) (fun c9 => ?_) (fun c9 => ?_)
  · have h := h.1 c9
    refine g_iload_n (pc := 33) (x := l2) dX8_badBits_33 rfl ?_
    exact g_iret (pc := 34) dX8_badBits_34 rfl rfl rfl h
  · have h := h.2 c9
    refine g_aload_n (pc := 12) (x := l0) dX8_badBits_12 rfl ?_
    refine g_aload_n (pc := 13) (x := l1) dX8_badBits_13 rfl ?_
    refine g_iload_n (pc := 14) (x := l3) dX8_badBits_14 rfl ?_
    obtain ⟨Pm1, hRm1, h⟩ := h
    refine g_callV (pc := 15) (as := [.ref l1, .int l3]) dX8_badBits_15 cw_X8_133 (by decide) rfl rfl (AtTown_0 k0) (Nat.le_of_ble_eq_true rfl) hRm1 ?_
    intro r_ m1 hz_ hp_
    rcases h.1 r_ m1 hp_ with rfl | rfl
    · have h := h.2.1 m1 hp_
      refine g_if_eq (pc := 18) (tgt := 27) dX8_badBits_18 (by decide) (fun c18 => absurd c18 (by decide)) (fun _ => ?_)
      refine g_iload_n (pc := 21) (x := l2) dX8_badBits_21 rfl ?_
      refine g_iconst (pc := 22) (v := (1 : Int32)) dX8_badBits_22 (by decide) ?_
      refine g_iload_n (pc := 23) (x := l3) dX8_badBits_23 rfl ?_
      refine g_ishl (pc := 24) dX8_badBits_24 ?_
      refine g_ior (pc := 25) dX8_badBits_25 ?_
      refine g_istore_n (pc := 26) (L' := [(0, .ref l0), (1, .ref l1), (2, .int (l2 ||| ((1 : Int32) <<< (l3 &&& 31)))), (3, .int l3)]) dX8_badBits_26 (Nat.le_of_ble_eq_true rfl) rfl ?_
      refine g_iinc (pc := 27) (x := l3) (v := (l3 + (1 : Int32))) (L' := [(0, .ref l0), (1, .ref l1), (2, .int (l2 ||| ((1 : Int32) <<< (l3 &&& 31)))), (3, .int (l3 + (1 : Int32)))]) dX8_badBits_27 rfl rfl (Nat.le_of_ble_eq_true rfl) rfl ?_
      refine g_goto (pc := 30) (tgt := 4) dX8_badBits_30 (by decide) ?_
      exact h
    · have h := h.2.2 m1 hp_
      refine g_if_eq (pc := 18) (tgt := 27) dX8_badBits_18 (by decide) (fun _ => ?_) (fun c18 => absurd c18 (by decide))
      refine g_iinc (pc := 27) (x := l3) (v := (l3 + (1 : Int32))) (L' := [(0, .ref l0), (1, .ref l1), (2, .int l2), (3, .int (l3 + (1 : Int32)))]) dX8_badBits_27 rfl rfl (Nat.le_of_ble_eq_true rfl) rfl ?_
      refine g_goto (pc := 30) (tgt := 4) dX8_badBits_30 (by decide) ?_
      exact h
theorem dX8_turnedPairs_0 : decode cX8_turnedPairs 0 = .ok (.iconst 0, 1) := by decide +kernel
theorem dX8_turnedPairs_1 : decode cX8_turnedPairs 1 = .ok (.istore_n 2, 1) := by decide +kernel
theorem dX8_turnedPairs_2 : decode cX8_turnedPairs 2 = .ok (.iconst 0, 1) := by decide +kernel
theorem dX8_turnedPairs_3 : decode cX8_turnedPairs 3 = .ok (.istore_n 3, 1) := by decide +kernel
theorem dX8_turnedPairs_4 : decode cX8_turnedPairs 4 = .ok (.iload_n 3, 1) := by decide +kernel
theorem dX8_turnedPairs_5 : decode cX8_turnedPairs 5 = .ok (.aload_n 0, 1) := by decide +kernel
theorem dX8_turnedPairs_6 : decode cX8_turnedPairs 6 = .ok (.getfield 40, 3) := by decide +kernel
theorem dX8_turnedPairs_9 : decode cX8_turnedPairs 9 = .ok (.if_icmp .ge 62, 3) := by decide +kernel
theorem dX8_turnedPairs_12 : decode cX8_turnedPairs 12 = .ok (.iconst 0, 1) := by decide +kernel
theorem dX8_turnedPairs_13 : decode cX8_turnedPairs 13 = .ok (.istore 4, 2) := by decide +kernel
theorem dX8_turnedPairs_15 : decode cX8_turnedPairs 15 = .ok (.iload 4, 2) := by decide +kernel
theorem dX8_turnedPairs_17 : decode cX8_turnedPairs 17 = .ok (.aload_n 0, 1) := by decide +kernel
theorem dX8_turnedPairs_18 : decode cX8_turnedPairs 18 = .ok (.getfield 40, 3) := by decide +kernel
theorem dX8_turnedPairs_21 : decode cX8_turnedPairs 21 = .ok (.if_icmp .ge 44, 3) := by decide +kernel
theorem dX8_turnedPairs_24 : decode cX8_turnedPairs 24 = .ok (.aload_n 0, 1) := by decide +kernel
theorem dX8_turnedPairs_25 : decode cX8_turnedPairs 25 = .ok (.aload_n 1, 1) := by decide +kernel
theorem dX8_turnedPairs_26 : decode cX8_turnedPairs 26 = .ok (.iload_n 3, 1) := by decide +kernel
theorem dX8_turnedPairs_27 : decode cX8_turnedPairs 27 = .ok (.invokevirtual 96, 3) := by decide +kernel
theorem dX8_turnedPairs_30 : decode cX8_turnedPairs 30 = .ok (.aload_n 0, 1) := by decide +kernel
theorem dX8_turnedPairs_31 : decode cX8_turnedPairs 31 = .ok (.aload_n 1, 1) := by decide +kernel
theorem dX8_turnedPairs_32 : decode cX8_turnedPairs 32 = .ok (.iload 4, 2) := by decide +kernel
theorem dX8_turnedPairs_34 : decode cX8_turnedPairs 34 = .ok (.invokevirtual 96, 3) := by decide +kernel
theorem dX8_turnedPairs_37 : decode cX8_turnedPairs 37 = .ok (.if_icmp .le 22, 3) := by decide +kernel
theorem dX8_turnedPairs_40 : decode cX8_turnedPairs 40 = .ok (.aload_n 1, 1) := by decide +kernel
theorem dX8_turnedPairs_41 : decode cX8_turnedPairs 41 = .ok (.getfield 127, 3) := by decide +kernel
theorem dX8_turnedPairs_44 : decode cX8_turnedPairs 44 = .ok (.iload_n 3, 1) := by decide +kernel
theorem dX8_turnedPairs_45 : decode cX8_turnedPairs 45 = .ok (.iaload, 1) := by decide +kernel
theorem dX8_turnedPairs_46 : decode cX8_turnedPairs 46 = .ok (.aload_n 1, 1) := by decide +kernel
theorem dX8_turnedPairs_47 : decode cX8_turnedPairs 47 = .ok (.getfield 127, 3) := by decide +kernel
theorem dX8_turnedPairs_50 : decode cX8_turnedPairs 50 = .ok (.iload 4, 2) := by decide +kernel
theorem dX8_turnedPairs_52 : decode cX8_turnedPairs 52 = .ok (.iaload, 1) := by decide +kernel
theorem dX8_turnedPairs_53 : decode cX8_turnedPairs 53 = .ok (.if_icmp .gt 6, 3) := by decide +kernel
theorem dX8_turnedPairs_56 : decode cX8_turnedPairs 56 = .ok (.iinc 2 1, 3) := by decide +kernel
theorem dX8_turnedPairs_59 : decode cX8_turnedPairs 59 = .ok (.iinc 4 1, 3) := by decide +kernel
theorem dX8_turnedPairs_62 : decode cX8_turnedPairs 62 = .ok (.goto (-47), 3) := by decide +kernel
theorem dX8_turnedPairs_65 : decode cX8_turnedPairs 65 = .ok (.iinc 3 1, 3) := by decide +kernel
theorem dX8_turnedPairs_68 : decode cX8_turnedPairs 68 = .ok (.goto (-64), 3) := by decide +kernel
theorem dX8_turnedPairs_71 : decode cX8_turnedPairs 71 = .ok (.iload_n 2, 1) := by decide +kernel
theorem dX8_turnedPairs_72 : decode cX8_turnedPairs 72 = .ok (.ireturn, 1) := by decide +kernel
theorem b_X8_turnedPairs (mm : MM) (Q : Value → MM → Prop) (t0 : Nat) (a1 : Nat) (h0 : AtTown t0) (h1 : AtState a1) (h : G e_X8_turnedPairs 4 [(0, .ref t0), (1, .ref a1), (2, .int (0 : Int32)), (3, .int (0 : Int32))] [] mm Q) : Runs e_X8_turnedPairs [.ref t0, .ref a1] mm Q := by
  refine runs_of_G (L := [(0, .ref t0), (1, .ref a1)]) pl_X8 (Nat.le_of_ble_eq_true rfl) rfl ?_
  refine g_iconst (pc := 0) (v := (0 : Int32)) dX8_turnedPairs_0 (by decide) ?_
  refine g_istore_n (pc := 1) (L' := [(0, .ref t0), (1, .ref a1), (2, .int (0 : Int32))]) dX8_turnedPairs_1 (Nat.le_of_ble_eq_true rfl) rfl ?_
  refine g_iconst (pc := 2) (v := (0 : Int32)) dX8_turnedPairs_2 (by decide) ?_
  refine g_istore_n (pc := 3) (L' := [(0, .ref t0), (1, .ref a1), (2, .int (0 : Int32)), (3, .int (0 : Int32))]) dX8_turnedPairs_3 (Nat.le_of_ble_eq_true rfl) rfl ?_
  exact h
theorem b_X8_turnedPairs_4 (mm : MM) (Q : Value → MM → Prop) (l0 : Nat) (l1 : Nat) (l2 : Int32) (l3 : Int32) (k0 : AtTown l0) (k1 : AtState l1) (h : ((mm.1 l0 8) ≤ l3 → (Q (.int l2) mm)) ∧ (¬ (mm.1 l0 8) ≤ l3 → (G e_X8_turnedPairs 15 [(0, .ref l0), (1, .ref l1), (2, .int l2), (3, .int l3), (4, .int (0 : Int32))] [] mm Q))) : G e_X8_turnedPairs 4 [(0, .ref l0), (1, .ref l1), (2, .int l2), (3, .int l3)] [] mm Q := by
  refine g_iload_n (pc := 4) (x := l3) dX8_turnedPairs_4 rfl ?_
  refine g_aload_n (pc := 5) (x := l0) dX8_turnedPairs_5 rfl ?_
  refine g_getI (pc := 6) dX8_turnedPairs_6 fo_X8_40 (AtTown_0 k0) rfl ?_
  refine g_icmp_ge (pc := 9) (tgt := 71) dX8_turnedPairs_9 (by decide) (fun c9 => ?_) (fun c9 => ?_)
  · have h := h.1 c9
    refine g_iload_n (pc := 71) (x := l2) dX8_turnedPairs_71 rfl ?_
    exact g_iret (pc := 72) dX8_turnedPairs_72 rfl rfl rfl h
  · have h := h.2 c9
    refine g_iconst (pc := 12) (v := (0 : Int32)) dX8_turnedPairs_12 (by decide) ?_
    refine g_istore (pc := 13) (L' := [(0, .ref l0), (1, .ref l1), (2, .int l2), (3, .int l3), (4, .int (0 : Int32))]) dX8_turnedPairs_13 (Nat.le_of_ble_eq_true rfl) rfl ?_
    exact h
theorem b_X8_turnedPairs_15 (mm : MM) (Q : Value → MM → Prop) (l0 : Nat) (l1 : Nat) (l2 : Int32) (l3 : Int32) (l4 : Int32) (k0 : AtTown l0) (k1 : AtState l1) (h : ((mm.1 l0 8) ≤ l4 → (G e_X8_turnedPairs 4 [(0, .ref l0), (1, .ref l1), (2, .int l2), (3, .int (l3 + (1 : Int32)))] [] mm Q)) ∧ (¬ (mm.1 l0 8) ≤ l4 → (o_X8_rankOf mm l0 l1 l3 ∧ (o_X8_rankOf mm l0 l1 l4 ∧ (((v_X8_rankOf mm l0 l1 l3) ≤ (v_X8_rankOf mm l0 l1 l4) → (G e_X8_turnedPairs 15 [(0, .ref l0), (1, .ref l1), (2, .int l2), (3, .int l3), (4, .int (l4 + (1 : Int32)))] [] mm Q)) ∧ (¬ (v_X8_rankOf mm l0 l1 l3) ≤ (v_X8_rankOf mm l0 l1 l4) → (vp_in l3 16 ∧ (vp_in l4 16 ∧ (((mm.1 (l1 + 1) l4.toNatClampNeg) < (mm.1 (l1 + 1) l3.toNatClampNeg) → (G e_X8_turnedPairs 15 [(0, .ref l0), (1, .ref l1), (2, .int l2), (3, .int l3), (4, .int (l4 + (1 : Int32)))] [] mm Q)) ∧ (¬ (mm.1 (l1 + 1) l4.toNatClampNeg) < (mm.1 (l1 + 1) l3.toNatClampNeg) → (G e_X8_turnedPairs 15 [(0, .ref l0), (1, .ref l1), (2, .int (l2 + (1 : Int32))), (3, .int l3), (4, .int (l4 + (1 : Int32)))] [] mm Q))))))))))) : G e_X8_turnedPairs 15 [(0, .ref l0), (1, .ref l1), (2, .int l2), (3, .int l3), (4, .int l4)] [] mm Q := by
  refine g_iload (pc := 15) (x := l4) dX8_turnedPairs_15 rfl ?_
  refine g_aload_n (pc := 17) (x := l0) dX8_turnedPairs_17 rfl ?_
  refine g_getI (pc := 18) dX8_turnedPairs_18 fo_X8_40 (AtTown_0 k0) rfl ?_
  refine g_icmp_ge (pc := 21) (tgt := 65) dX8_turnedPairs_21 (by decide) (fun c21 => ?_) (fun c21 => ?_)
  · have h := h.1 c21
    refine g_iinc (pc := 65) (x := l3) (v := (l3 + (1 : Int32))) (L' := [(0, .ref l0), (1, .ref l1), (2, .int l2), (3, .int (l3 + (1 : Int32))), (4, .int l4)]) dX8_turnedPairs_65 rfl rfl (Nat.le_of_ble_eq_true rfl) rfl ?_
    refine g_goto (pc := 68) (tgt := 4) dX8_turnedPairs_68 (by decide) ?_
    refine g_sub (L' := [(0, .ref l0), (1, .ref l1), (2, .int l2), (3, .int (l3 + (1 : Int32)))]) [0, 1, 2, 3] rfl ?_
    exact h
  · have h := h.2 c21
    refine g_aload_n (pc := 24) (x := l0) dX8_turnedPairs_24 rfl ?_
    refine g_aload_n (pc := 25) (x := l1) dX8_turnedPairs_25 rfl ?_
    refine g_iload_n (pc := 26) (x := l3) dX8_turnedPairs_26 rfl ?_
    refine g_callV (pc := 27) (as := [.ref l1, .int l3]) dX8_turnedPairs_27 cw_X8_96 (by decide) rfl rfl (AtTown_0 k0) (Nat.le_of_ble_eq_true rfl) (rv_X8_rankOf mm l0 l1 l3 k0 k1 h.1) ?_
    have h := h.2
    rintro r_ m_ hz_ ⟨rfl, rfl⟩
    refine g_aload_n (pc := 30) (x := l0) dX8_turnedPairs_30 rfl ?_
    refine g_aload_n (pc := 31) (x := l1) dX8_turnedPairs_31 rfl ?_
    refine g_iload (pc := 32) (x := l4) dX8_turnedPairs_32 rfl ?_
    refine g_callV (pc := 34) (as := [.ref l1, .int l4]) dX8_turnedPairs_34 cw_X8_96 (by decide) rfl rfl (AtTown_0 k0) (Nat.le_of_ble_eq_true rfl) (rv_X8_rankOf mm l0 l1 l4 k0 k1 h.1) ?_
    have h := h.2
    rintro r_ m_ hz_ ⟨rfl, rfl⟩
    refine g_icmp_le (pc := 37) (tgt := 59) dX8_turnedPairs_37 (by decide) (fun c37 => ?_) (fun c37 => ?_)
    · have h := h.1 c37
      refine g_iinc (pc := 59) (x := l4) (v := (l4 + (1 : Int32))) (L' := [(0, .ref l0), (1, .ref l1), (2, .int l2), (3, .int l3), (4, .int (l4 + (1 : Int32)))]) dX8_turnedPairs_59 rfl rfl (Nat.le_of_ble_eq_true rfl) rfl ?_
      refine g_goto (pc := 62) (tgt := 15) dX8_turnedPairs_62 (by decide) ?_
      exact h
    · have h := h.2 c37
      refine g_aload_n (pc := 40) (x := l1) dX8_turnedPairs_40 rfl ?_
      refine g_getR (pc := 41) (dd := 1) dX8_turnedPairs_41 fo_X8_127 (AtState_0 k1) rfl ?_
      refine g_iload_n (pc := 44) (x := l3) dX8_turnedPairs_44 rfl ?_
      refine g_iaload (pc := 45) dX8_turnedPairs_45 (AtState_1 k1) h.1 ?_
      have h := h.2
      refine g_aload_n (pc := 46) (x := l1) dX8_turnedPairs_46 rfl ?_
      refine g_getR (pc := 47) (dd := 1) dX8_turnedPairs_47 fo_X8_127 (AtState_0 k1) rfl ?_
      refine g_iload (pc := 50) (x := l4) dX8_turnedPairs_50 rfl ?_
      refine g_iaload (pc := 52) dX8_turnedPairs_52 (AtState_1 k1) h.1 ?_
      have h := h.2
      refine g_icmp_gt (pc := 53) (tgt := 59) dX8_turnedPairs_53 (by decide) (fun c53 => ?_) (fun c53 => ?_)
      · have h := h.1 c53
        refine g_iinc (pc := 59) (x := l4) (v := (l4 + (1 : Int32))) (L' := [(0, .ref l0), (1, .ref l1), (2, .int l2), (3, .int l3), (4, .int (l4 + (1 : Int32)))]) dX8_turnedPairs_59 rfl rfl (Nat.le_of_ble_eq_true rfl) rfl ?_
        refine g_goto (pc := 62) (tgt := 15) dX8_turnedPairs_62 (by decide) ?_
        exact h
      · have h := h.2 c53
        refine g_iinc (pc := 56) (x := l2) (v := (l2 + (1 : Int32))) (L' := [(0, .ref l0), (1, .ref l1), (2, .int (l2 + (1 : Int32))), (3, .int l3), (4, .int l4)]) dX8_turnedPairs_56 rfl rfl (Nat.le_of_ble_eq_true rfl) rfl ?_
        refine g_iinc (pc := 59) (x := l4) (v := (l4 + (1 : Int32))) (L' := [(0, .ref l0), (1, .ref l1), (2, .int (l2 + (1 : Int32))), (3, .int l3), (4, .int (l4 + (1 : Int32)))]) dX8_turnedPairs_59 rfl rfl (Nat.le_of_ble_eq_true rfl) rfl ?_
        refine g_goto (pc := 62) (tgt := 15) dX8_turnedPairs_62 (by decide) ?_
        exact h
theorem dX8_wetBits_0 : decode cX8_wetBits 0 = .ok (.iconst 0, 1) := by decide +kernel
theorem dX8_wetBits_1 : decode cX8_wetBits 1 = .ok (.istore_n 3, 1) := by decide +kernel
theorem dX8_wetBits_2 : decode cX8_wetBits 2 = .ok (.iconst 0, 1) := by decide +kernel
theorem dX8_wetBits_3 : decode cX8_wetBits 3 = .ok (.istore 4, 2) := by decide +kernel
theorem dX8_wetBits_5 : decode cX8_wetBits 5 = .ok (.iload 4, 2) := by decide +kernel
theorem dX8_wetBits_7 : decode cX8_wetBits 7 = .ok (.aload_n 0, 1) := by decide +kernel
theorem dX8_wetBits_8 : decode cX8_wetBits 8 = .ok (.getfield 40, 3) := by decide +kernel
theorem dX8_wetBits_11 : decode cX8_wetBits 11 = .ok (.if_icmp .ge 24, 3) := by decide +kernel
theorem dX8_wetBits_14 : decode cX8_wetBits 14 = .ok (.aload_n 1, 1) := by decide +kernel
theorem dX8_wetBits_15 : decode cX8_wetBits 15 = .ok (.iload 4, 2) := by decide +kernel
theorem dX8_wetBits_17 : decode cX8_wetBits 17 = .ok (.iaload, 1) := by decide +kernel
theorem dX8_wetBits_18 : decode cX8_wetBits 18 = .ok (.iload_n 2, 1) := by decide +kernel
theorem dX8_wetBits_19 : decode cX8_wetBits 19 = .ok (.if_icmp .ge 10, 3) := by decide +kernel
theorem dX8_wetBits_22 : decode cX8_wetBits 22 = .ok (.iload_n 3, 1) := by decide +kernel
theorem dX8_wetBits_23 : decode cX8_wetBits 23 = .ok (.iconst 1, 1) := by decide +kernel
theorem dX8_wetBits_24 : decode cX8_wetBits 24 = .ok (.iload 4, 2) := by decide +kernel
theorem dX8_wetBits_26 : decode cX8_wetBits 26 = .ok (.ishl, 1) := by decide +kernel
theorem dX8_wetBits_27 : decode cX8_wetBits 27 = .ok (.ior, 1) := by decide +kernel
theorem dX8_wetBits_28 : decode cX8_wetBits 28 = .ok (.istore_n 3, 1) := by decide +kernel
theorem dX8_wetBits_29 : decode cX8_wetBits 29 = .ok (.iinc 4 1, 3) := by decide +kernel
theorem dX8_wetBits_32 : decode cX8_wetBits 32 = .ok (.goto (-27), 3) := by decide +kernel
theorem dX8_wetBits_35 : decode cX8_wetBits 35 = .ok (.iload_n 3, 1) := by decide +kernel
theorem dX8_wetBits_36 : decode cX8_wetBits 36 = .ok (.ireturn, 1) := by decide +kernel
theorem b_X8_wetBits (mm : MM) (Q : Value → MM → Prop) (t0 : Nat) (a1 : Nat) (a2 : Int32) (h0 : AtTown t0) (h1 : SHL[a1]? = some (.inl (0, 16, 0, 0))) (h : G e_X8_wetBits 5 [(0, .ref t0), (1, .ref a1), (2, .int a2), (3, .int (0 : Int32)), (4, .int (0 : Int32))] [] mm Q) : Runs e_X8_wetBits [.ref t0, .ref a1, .int a2] mm Q := by
  refine runs_of_G (L := [(0, .ref t0), (1, .ref a1), (2, .int a2)]) pl_X8 (Nat.le_of_ble_eq_true rfl) rfl ?_
  refine g_iconst (pc := 0) (v := (0 : Int32)) dX8_wetBits_0 (by decide) ?_
  refine g_istore_n (pc := 1) (L' := [(0, .ref t0), (1, .ref a1), (2, .int a2), (3, .int (0 : Int32))]) dX8_wetBits_1 (Nat.le_of_ble_eq_true rfl) rfl ?_
  refine g_iconst (pc := 2) (v := (0 : Int32)) dX8_wetBits_2 (by decide) ?_
  refine g_istore (pc := 3) (L' := [(0, .ref t0), (1, .ref a1), (2, .int a2), (3, .int (0 : Int32)), (4, .int (0 : Int32))]) dX8_wetBits_3 (Nat.le_of_ble_eq_true rfl) rfl ?_
  exact h
theorem b_X8_wetBits_5 (mm : MM) (Q : Value → MM → Prop) (l0 : Nat) (l1 : Nat) (l2 : Int32) (l3 : Int32) (l4 : Int32) (k0 : AtTown l0) (k1 : SHL[l1]? = some (.inl (0, 16, 0, 0))) (h : ((mm.1 l0 8) ≤ l4 → (Q (.int l3) mm)) ∧ (¬ (mm.1 l0 8) ≤ l4 → (vp_in l4 16 ∧ ((l2 ≤ (mm.1 l1 l4.toNatClampNeg) → (G e_X8_wetBits 5 [(0, .ref l0), (1, .ref l1), (2, .int l2), (3, .int l3), (4, .int (l4 + (1 : Int32)))] [] mm Q)) ∧ (¬ l2 ≤ (mm.1 l1 l4.toNatClampNeg) → (G e_X8_wetBits 5 [(0, .ref l0), (1, .ref l1), (2, .int l2), (3, .int (l3 ||| ((1 : Int32) <<< (l4 &&& 31)))), (4, .int (l4 + (1 : Int32)))] [] mm Q)))))) : G e_X8_wetBits 5 [(0, .ref l0), (1, .ref l1), (2, .int l2), (3, .int l3), (4, .int l4)] [] mm Q := by
  refine g_iload (pc := 5) (x := l4) dX8_wetBits_5 rfl ?_
  refine g_aload_n (pc := 7) (x := l0) dX8_wetBits_7 rfl ?_
  refine g_getI (pc := 8) dX8_wetBits_8 fo_X8_40 (AtTown_0 k0) rfl ?_
  refine g_icmp_ge (pc := 11) (tgt := 35) dX8_wetBits_11 (by decide) (fun c11 => ?_) (fun c11 => ?_)
  · have h := h.1 c11
    refine g_iload_n (pc := 35) (x := l3) dX8_wetBits_35 rfl ?_
    exact g_iret (pc := 36) dX8_wetBits_36 rfl rfl rfl h
  · have h := h.2 c11
    refine g_aload_n (pc := 14) (x := l1) dX8_wetBits_14 rfl ?_
    refine g_iload (pc := 15) (x := l4) dX8_wetBits_15 rfl ?_
    refine g_iaload (pc := 17) dX8_wetBits_17 k1 h.1 ?_
    have h := h.2
    refine g_iload_n (pc := 18) (x := l2) dX8_wetBits_18 rfl ?_
    refine g_icmp_ge (pc := 19) (tgt := 29) dX8_wetBits_19 (by decide) (fun c19 => ?_) (fun c19 => ?_)
    · have h := h.1 c19
      refine g_iinc (pc := 29) (x := l4) (v := (l4 + (1 : Int32))) (L' := [(0, .ref l0), (1, .ref l1), (2, .int l2), (3, .int l3), (4, .int (l4 + (1 : Int32)))]) dX8_wetBits_29 rfl rfl (Nat.le_of_ble_eq_true rfl) rfl ?_
      refine g_goto (pc := 32) (tgt := 5) dX8_wetBits_32 (by decide) ?_
      exact h
    · have h := h.2 c19
      refine g_iload_n (pc := 22) (x := l3) dX8_wetBits_22 rfl ?_
      refine g_iconst (pc := 23) (v := (1 : Int32)) dX8_wetBits_23 (by decide) ?_
      refine g_iload (pc := 24) (x := l4) dX8_wetBits_24 rfl ?_
      refine g_ishl (pc := 26) dX8_wetBits_26 ?_
      refine g_ior (pc := 27) dX8_wetBits_27 ?_
      refine g_istore_n (pc := 28) (L' := [(0, .ref l0), (1, .ref l1), (2, .int l2), (3, .int (l3 ||| ((1 : Int32) <<< (l4 &&& 31)))), (4, .int l4)]) dX8_wetBits_28 (Nat.le_of_ble_eq_true rfl) rfl ?_
      refine g_iinc (pc := 29) (x := l4) (v := (l4 + (1 : Int32))) (L' := [(0, .ref l0), (1, .ref l1), (2, .int l2), (3, .int (l3 ||| ((1 : Int32) <<< (l4 &&& 31)))), (4, .int (l4 + (1 : Int32)))]) dX8_wetBits_29 rfl rfl (Nat.le_of_ble_eq_true rfl) rfl ?_
      refine g_goto (pc := 32) (tgt := 5) dX8_wetBits_32 (by decide) ?_
      exact h
theorem dX8_endHeight_0 : decode cX8_endHeight 0 = .ok (.iload_n 1, 1) := by decide +kernel
theorem dX8_endHeight_1 : decode cX8_endHeight 1 = .ok (.ifCond .lt 15, 3) := by decide +kernel
theorem dX8_endHeight_4 : decode cX8_endHeight 4 = .ok (.iload_n 1, 1) := by decide +kernel
theorem dX8_endHeight_5 : decode cX8_endHeight 5 = .ok (.aload_n 0, 1) := by decide +kernel
theorem dX8_endHeight_6 : decode cX8_endHeight 6 = .ok (.arraylength, 1) := by decide +kernel
theorem dX8_endHeight_7 : decode cX8_endHeight 7 = .ok (.if_icmp .ge 9, 3) := by decide +kernel
theorem dX8_endHeight_10 : decode cX8_endHeight 10 = .ok (.aload_n 0, 1) := by decide +kernel
theorem dX8_endHeight_11 : decode cX8_endHeight 11 = .ok (.iload_n 1, 1) := by decide +kernel
theorem dX8_endHeight_12 : decode cX8_endHeight 12 = .ok (.iaload, 1) := by decide +kernel
theorem dX8_endHeight_13 : decode cX8_endHeight 13 = .ok (.goto 4, 3) := by decide +kernel
theorem dX8_endHeight_16 : decode cX8_endHeight 16 = .ok (.iconst 0, 1) := by decide +kernel
theorem dX8_endHeight_17 : decode cX8_endHeight 17 = .ok (.ireturn, 1) := by decide +kernel
def o_X8_endHeight (mm : MM) (a0 : Nat) (a1 : Int32) : Prop := (a1 < 0 → (True)) ∧ (¬ a1 < 0 → (((16 : Int32) ≤ a1 → (True)) ∧ (¬ (16 : Int32) ≤ a1 → (vp_in a1 16 ∧ (True)))))
noncomputable def v_X8_endHeight (mm : MM) (a0 : Nat) (a1 : Int32) : Int32 := (cite (a1 < 0) (0 : Int32) (cite ((16 : Int32) ≤ a1) (0 : Int32) (mm.1 a0 a1.toNatClampNeg)))
theorem rv_X8_endHeight (mm : MM) (a0 : Nat) (a1 : Int32) (h0 : SHL[a0]? = some (.inl (0, 16, 0, 0))) (h : o_X8_endHeight mm a0 a1) : Runs e_X8_endHeight [.ref a0, .int a1] mm (fun r m_ => r = .int (v_X8_endHeight mm a0 a1) ∧ mm = m_) := by
  refine runs_of_G (L := [(0, .ref a0), (1, .int a1)]) pl_X8 (Nat.le_of_ble_eq_true rfl) rfl ?_
  unfold o_X8_endHeight at h
  refine g_iload_n (pc := 0) (x := a1) dX8_endHeight_0 rfl ?_
  refine g_if_lt (pc := 1) (tgt := 16) dX8_endHeight_1 (by decide) (fun c1 => ?_) (fun c1 => ?_)
  · have c1_0 := c1
    have h := h.1 c1
    refine g_iconst (pc := 16) (v := (0 : Int32)) dX8_endHeight_16 (by decide) ?_
    exact g_iret (pc := 17) dX8_endHeight_17 rfl rfl rfl ⟨(by unfold v_X8_endHeight; rw [cite_pos c1_0]), rfl⟩
  · have c1_0 := c1
    have h := h.2 c1
    refine g_iload_n (pc := 4) (x := a1) dX8_endHeight_4 rfl ?_
    refine g_aload_n (pc := 5) (x := a0) dX8_endHeight_5 rfl ?_
    refine g_alen (pc := 6) (t := 0) (v := (16 : Int32)) (by decide) dX8_endHeight_6 h0 (by decide) ?_
    refine g_icmp_ge (pc := 7) (tgt := 16) dX8_endHeight_7 (by decide) (fun c7 => ?_) (fun c7 => ?_)
    · have c7_1 := c7
      have h := h.1 c7
      refine g_iconst (pc := 16) (v := (0 : Int32)) dX8_endHeight_16 (by decide) ?_
      exact g_iret (pc := 17) dX8_endHeight_17 rfl rfl rfl ⟨(by unfold v_X8_endHeight; rw [cite_neg c1_0, cite_pos c7_1]), rfl⟩
    · have c7_1 := c7
      have h := h.2 c7
      refine g_aload_n (pc := 10) (x := a0) dX8_endHeight_10 rfl ?_
      refine g_iload_n (pc := 11) (x := a1) dX8_endHeight_11 rfl ?_
      refine g_iaload (pc := 12) dX8_endHeight_12 h0 h.1 ?_
      have h := h.2
      refine g_goto (pc := 13) (tgt := 17) dX8_endHeight_13 (by decide) ?_
      exact g_iret (pc := 17) dX8_endHeight_17 rfl rfl rfl ⟨(by unfold v_X8_endHeight; rw [cite_neg c1_0, cite_neg c7_1]), rfl⟩

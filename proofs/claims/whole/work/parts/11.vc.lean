theorem dX2_copyFrom_0 : decode cX2_copyFrom 0 = .ok (.aload_n 1, 1) := by decide +kernel
theorem dX2_copyFrom_1 : decode cX2_copyFrom 1 = .ok (.getfield 9, 3) := by decide +kernel
theorem dX2_copyFrom_4 : decode cX2_copyFrom 4 = .ok (.iconst 0, 1) := by decide +kernel
theorem dX2_copyFrom_5 : decode cX2_copyFrom 5 = .ok (.aload_n 0, 1) := by decide +kernel
theorem dX2_copyFrom_6 : decode cX2_copyFrom 6 = .ok (.getfield 9, 3) := by decide +kernel
theorem dX2_copyFrom_9 : decode cX2_copyFrom 9 = .ok (.iconst 0, 1) := by decide +kernel
theorem dX2_copyFrom_10 : decode cX2_copyFrom 10 = .ok (.bipush 60, 2) := by decide +kernel
theorem dX2_copyFrom_12 : decode cX2_copyFrom 12 = .ok (.invokestatic 35, 3) := by decide +kernel
theorem dX2_copyFrom_15 : decode cX2_copyFrom 15 = .ok (.aload_n 1, 1) := by decide +kernel
theorem dX2_copyFrom_16 : decode cX2_copyFrom 16 = .ok (.getfield 15, 3) := by decide +kernel
theorem dX2_copyFrom_19 : decode cX2_copyFrom 19 = .ok (.iconst 0, 1) := by decide +kernel
theorem dX2_copyFrom_20 : decode cX2_copyFrom 20 = .ok (.aload_n 0, 1) := by decide +kernel
theorem dX2_copyFrom_21 : decode cX2_copyFrom 21 = .ok (.getfield 15, 3) := by decide +kernel
theorem dX2_copyFrom_24 : decode cX2_copyFrom 24 = .ok (.iconst 0, 1) := by decide +kernel
theorem dX2_copyFrom_25 : decode cX2_copyFrom 25 = .ok (.bipush 60, 2) := by decide +kernel
theorem dX2_copyFrom_27 : decode cX2_copyFrom 27 = .ok (.invokestatic 35, 3) := by decide +kernel
theorem dX2_copyFrom_30 : decode cX2_copyFrom 30 = .ok (.aload_n 1, 1) := by decide +kernel
theorem dX2_copyFrom_31 : decode cX2_copyFrom 31 = .ok (.getfield 18, 3) := by decide +kernel
theorem dX2_copyFrom_34 : decode cX2_copyFrom 34 = .ok (.iconst 0, 1) := by decide +kernel
theorem dX2_copyFrom_35 : decode cX2_copyFrom 35 = .ok (.aload_n 0, 1) := by decide +kernel
theorem dX2_copyFrom_36 : decode cX2_copyFrom 36 = .ok (.getfield 18, 3) := by decide +kernel
theorem dX2_copyFrom_39 : decode cX2_copyFrom 39 = .ok (.iconst 0, 1) := by decide +kernel
theorem dX2_copyFrom_40 : decode cX2_copyFrom 40 = .ok (.bipush 60, 2) := by decide +kernel
theorem dX2_copyFrom_42 : decode cX2_copyFrom 42 = .ok (.invokestatic 35, 3) := by decide +kernel
theorem dX2_copyFrom_45 : decode cX2_copyFrom 45 = .ok (.aload_n 1, 1) := by decide +kernel
theorem dX2_copyFrom_46 : decode cX2_copyFrom 46 = .ok (.getfield 21, 3) := by decide +kernel
theorem dX2_copyFrom_49 : decode cX2_copyFrom 49 = .ok (.iconst 0, 1) := by decide +kernel
theorem dX2_copyFrom_50 : decode cX2_copyFrom 50 = .ok (.aload_n 0, 1) := by decide +kernel
theorem dX2_copyFrom_51 : decode cX2_copyFrom 51 = .ok (.getfield 21, 3) := by decide +kernel
theorem dX2_copyFrom_54 : decode cX2_copyFrom 54 = .ok (.iconst 0, 1) := by decide +kernel
theorem dX2_copyFrom_55 : decode cX2_copyFrom 55 = .ok (.bipush 60, 2) := by decide +kernel
theorem dX2_copyFrom_57 : decode cX2_copyFrom 57 = .ok (.invokestatic 35, 3) := by decide +kernel
theorem dX2_copyFrom_60 : decode cX2_copyFrom 60 = .ok (.aload_n 0, 1) := by decide +kernel
theorem dX2_copyFrom_61 : decode cX2_copyFrom 61 = .ok (.aload_n 1, 1) := by decide +kernel
theorem dX2_copyFrom_62 : decode cX2_copyFrom 62 = .ok (.getfield 31, 3) := by decide +kernel
theorem dX2_copyFrom_65 : decode cX2_copyFrom 65 = .ok (.putfield 31, 3) := by decide +kernel
theorem dX2_copyFrom_68 : decode cX2_copyFrom 68 = .ok (.return_, 1) := by decide +kernel
theorem b_X2_copyFrom (mm : MM) (Q : Value → MM → Prop) (t0 : Nat) (a1 : Nat) (h0 : AtLogs t0) (h1 : AtLogs a1) (h : Q .null (wI (wR (wR (wR (wR mm (t0 + 1) (va_cpy (mm.1 (a1 + 1)) (mm.1 (t0 + 1)) 0 0 60)) (t0 + 2) (va_cpy ((wR mm (t0 + 1) (va_cpy (mm.1 (a1 + 1)) (mm.1 (t0 + 1)) 0 0 60)).1 (a1 + 2)) ((wR mm (t0 + 1) (va_cpy (mm.1 (a1 + 1)) (mm.1 (t0 + 1)) 0 0 60)).1 (t0 + 2)) 0 0 60)) (t0 + 3) (va_cpy ((wR (wR mm (t0 + 1) (va_cpy (mm.1 (a1 + 1)) (mm.1 (t0 + 1)) 0 0 60)) (t0 + 2) (va_cpy ((wR mm (t0 + 1) (va_cpy (mm.1 (a1 + 1)) (mm.1 (t0 + 1)) 0 0 60)).1 (a1 + 2)) ((wR mm (t0 + 1) (va_cpy (mm.1 (a1 + 1)) (mm.1 (t0 + 1)) 0 0 60)).1 (t0 + 2)) 0 0 60)).1 (a1 + 3)) ((wR (wR mm (t0 + 1) (va_cpy (mm.1 (a1 + 1)) (mm.1 (t0 + 1)) 0 0 60)) (t0 + 2) (va_cpy ((wR mm (t0 + 1) (va_cpy (mm.1 (a1 + 1)) (mm.1 (t0 + 1)) 0 0 60)).1 (a1 + 2)) ((wR mm (t0 + 1) (va_cpy (mm.1 (a1 + 1)) (mm.1 (t0 + 1)) 0 0 60)).1 (t0 + 2)) 0 0 60)).1 (t0 + 3)) 0 0 60)) (t0 + 4) (va_cpy ((wR (wR (wR mm (t0 + 1) (va_cpy (mm.1 (a1 + 1)) (mm.1 (t0 + 1)) 0 0 60)) (t0 + 2) (va_cpy ((wR mm (t0 + 1) (va_cpy (mm.1 (a1 + 1)) (mm.1 (t0 + 1)) 0 0 60)).1 (a1 + 2)) ((wR mm (t0 + 1) (va_cpy (mm.1 (a1 + 1)) (mm.1 (t0 + 1)) 0 0 60)).1 (t0 + 2)) 0 0 60)) (t0 + 3) (va_cpy ((wR (wR mm (t0 + 1) (va_cpy (mm.1 (a1 + 1)) (mm.1 (t0 + 1)) 0 0 60)) (t0 + 2) (va_cpy ((wR mm (t0 + 1) (va_cpy (mm.1 (a1 + 1)) (mm.1 (t0 + 1)) 0 0 60)).1 (a1 + 2)) ((wR mm (t0 + 1) (va_cpy (mm.1 (a1 + 1)) (mm.1 (t0 + 1)) 0 0 60)).1 (t0 + 2)) 0 0 60)).1 (a1 + 3)) ((wR (wR mm (t0 + 1) (va_cpy (mm.1 (a1 + 1)) (mm.1 (t0 + 1)) 0 0 60)) (t0 + 2) (va_cpy ((wR mm (t0 + 1) (va_cpy (mm.1 (a1 + 1)) (mm.1 (t0 + 1)) 0 0 60)).1 (a1 + 2)) ((wR mm (t0 + 1) (va_cpy (mm.1 (a1 + 1)) (mm.1 (t0 + 1)) 0 0 60)).1 (t0 + 2)) 0 0 60)).1 (t0 + 3)) 0 0 60)).1 (a1 + 4)) ((wR (wR (wR mm (t0 + 1) (va_cpy (mm.1 (a1 + 1)) (mm.1 (t0 + 1)) 0 0 60)) (t0 + 2) (va_cpy ((wR mm (t0 + 1) (va_cpy (mm.1 (a1 + 1)) (mm.1 (t0 + 1)) 0 0 60)).1 (a1 + 2)) ((wR mm (t0 + 1) (va_cpy (mm.1 (a1 + 1)) (mm.1 (t0 + 1)) 0 0 60)).1 (t0 + 2)) 0 0 60)) (t0 + 3) (va_cpy ((wR (wR mm (t0 + 1) (va_cpy (mm.1 (a1 + 1)) (mm.1 (t0 + 1)) 0 0 60)) (t0 + 2) (va_cpy ((wR mm (t0 + 1) (va_cpy (mm.1 (a1 + 1)) (mm.1 (t0 + 1)) 0 0 60)).1 (a1 + 2)) ((wR mm (t0 + 1) (va_cpy (mm.1 (a1 + 1)) (mm.1 (t0 + 1)) 0 0 60)).1 (t0 + 2)) 0 0 60)).1 (a1 + 3)) ((wR (wR mm (t0 + 1) (va_cpy (mm.1 (a1 + 1)) (mm.1 (t0 + 1)) 0 0 60)) (t0 + 2) (va_cpy ((wR mm (t0 + 1) (va_cpy (mm.1 (a1 + 1)) (mm.1 (t0 + 1)) 0 0 60)).1 (a1 + 2)) ((wR mm (t0 + 1) (va_cpy (mm.1 (a1 + 1)) (mm.1 (t0 + 1)) 0 0 60)).1 (t0 + 2)) 0 0 60)).1 (t0 + 3)) 0 0 60)).1 (t0 + 4)) 0 0 60)) t0 6 ((wR (wR (wR (wR mm (t0 + 1) (va_cpy (mm.1 (a1 + 1)) (mm.1 (t0 + 1)) 0 0 60)) (t0 + 2) (va_cpy ((wR mm (t0 + 1) (va_cpy (mm.1 (a1 + 1)) (mm.1 (t0 + 1)) 0 0 60)).1 (a1 + 2)) ((wR mm (t0 + 1) (va_cpy (mm.1 (a1 + 1)) (mm.1 (t0 + 1)) 0 0 60)).1 (t0 + 2)) 0 0 60)) (t0 + 3) (va_cpy ((wR (wR mm (t0 + 1) (va_cpy (mm.1 (a1 + 1)) (mm.1 (t0 + 1)) 0 0 60)) (t0 + 2) (va_cpy ((wR mm (t0 + 1) (va_cpy (mm.1 (a1 + 1)) (mm.1 (t0 + 1)) 0 0 60)).1 (a1 + 2)) ((wR mm (t0 + 1) (va_cpy (mm.1 (a1 + 1)) (mm.1 (t0 + 1)) 0 0 60)).1 (t0 + 2)) 0 0 60)).1 (a1 + 3)) ((wR (wR mm (t0 + 1) (va_cpy (mm.1 (a1 + 1)) (mm.1 (t0 + 1)) 0 0 60)) (t0 + 2) (va_cpy ((wR mm (t0 + 1) (va_cpy (mm.1 (a1 + 1)) (mm.1 (t0 + 1)) 0 0 60)).1 (a1 + 2)) ((wR mm (t0 + 1) (va_cpy (mm.1 (a1 + 1)) (mm.1 (t0 + 1)) 0 0 60)).1 (t0 + 2)) 0 0 60)).1 (t0 + 3)) 0 0 60)) (t0 + 4) (va_cpy ((wR (wR (wR mm (t0 + 1) (va_cpy (mm.1 (a1 + 1)) (mm.1 (t0 + 1)) 0 0 60)) (t0 + 2) (va_cpy ((wR mm (t0 + 1) (va_cpy (mm.1 (a1 + 1)) (mm.1 (t0 + 1)) 0 0 60)).1 (a1 + 2)) ((wR mm (t0 + 1) (va_cpy (mm.1 (a1 + 1)) (mm.1 (t0 + 1)) 0 0 60)).1 (t0 + 2)) 0 0 60)) (t0 + 3) (va_cpy ((wR (wR mm (t0 + 1) (va_cpy (mm.1 (a1 + 1)) (mm.1 (t0 + 1)) 0 0 60)) (t0 + 2) (va_cpy ((wR mm (t0 + 1) (va_cpy (mm.1 (a1 + 1)) (mm.1 (t0 + 1)) 0 0 60)).1 (a1 + 2)) ((wR mm (t0 + 1) (va_cpy (mm.1 (a1 + 1)) (mm.1 (t0 + 1)) 0 0 60)).1 (t0 + 2)) 0 0 60)).1 (a1 + 3)) ((wR (wR mm (t0 + 1) (va_cpy (mm.1 (a1 + 1)) (mm.1 (t0 + 1)) 0 0 60)) (t0 + 2) (va_cpy ((wR mm (t0 + 1) (va_cpy (mm.1 (a1 + 1)) (mm.1 (t0 + 1)) 0 0 60)).1 (a1 + 2)) ((wR mm (t0 + 1) (va_cpy (mm.1 (a1 + 1)) (mm.1 (t0 + 1)) 0 0 60)).1 (t0 + 2)) 0 0 60)).1 (t0 + 3)) 0 0 60)).1 (a1 + 4)) ((wR (wR (wR mm (t0 + 1) (va_cpy (mm.1 (a1 + 1)) (mm.1 (t0 + 1)) 0 0 60)) (t0 + 2) (va_cpy ((wR mm (t0 + 1) (va_cpy (mm.1 (a1 + 1)) (mm.1 (t0 + 1)) 0 0 60)).1 (a1 + 2)) ((wR mm (t0 + 1) (va_cpy (mm.1 (a1 + 1)) (mm.1 (t0 + 1)) 0 0 60)).1 (t0 + 2)) 0 0 60)) (t0 + 3) (va_cpy ((wR (wR mm (t0 + 1) (va_cpy (mm.1 (a1 + 1)) (mm.1 (t0 + 1)) 0 0 60)) (t0 + 2) (va_cpy ((wR mm (t0 + 1) (va_cpy (mm.1 (a1 + 1)) (mm.1 (t0 + 1)) 0 0 60)).1 (a1 + 2)) ((wR mm (t0 + 1) (va_cpy (mm.1 (a1 + 1)) (mm.1 (t0 + 1)) 0 0 60)).1 (t0 + 2)) 0 0 60)).1 (a1 + 3)) ((wR (wR mm (t0 + 1) (va_cpy (mm.1 (a1 + 1)) (mm.1 (t0 + 1)) 0 0 60)) (t0 + 2) (va_cpy ((wR mm (t0 + 1) (va_cpy (mm.1 (a1 + 1)) (mm.1 (t0 + 1)) 0 0 60)).1 (a1 + 2)) ((wR mm (t0 + 1) (va_cpy (mm.1 (a1 + 1)) (mm.1 (t0 + 1)) 0 0 60)).1 (t0 + 2)) 0 0 60)).1 (t0 + 3)) 0 0 60)).1 (t0 + 4)) 0 0 60)).1 a1 6))) : Runs e_X2_copyFrom [.ref t0, .ref a1] mm Q := by
  refine runs_of_G (L := [(0, .ref t0), (1, .ref a1)]) pl_X2 (Nat.le_of_ble_eq_true rfl) rfl ?_
  refine g_aload_n (pc := 0) (x := a1) dX2_copyFrom_0 rfl ?_
  refine g_getR (pc := 1) (dd := 1) dX2_copyFrom_1 fo_X2_9 (AtLogs_0 h1) rfl ?_
  refine g_iconst (pc := 4) (v := (0 : Int32)) dX2_copyFrom_4 (by decide) ?_
  refine g_aload_n (pc := 5) (x := t0) dX2_copyFrom_5 rfl ?_
  refine g_getR (pc := 6) (dd := 1) dX2_copyFrom_6 fo_X2_9 (AtLogs_0 h0) rfl ?_
  refine g_iconst (pc := 9) (v := (0 : Int32)) dX2_copyFrom_9 (by decide) ?_
  refine g_bipush (pc := 10) (v := (60 : Int32)) dX2_copyFrom_10 (by decide) ?_
  refine g_copyI (pc := 12) dX2_copyFrom_12 cw_X2_35 (by decide) (Nat.le_of_ble_eq_true rfl) (AtLogs_1 h1) (AtLogs_1 h0) (by decide) (by decide) (by decide) (by decide) (by decide) ?_
  refine g_aload_n (pc := 15) (x := a1) dX2_copyFrom_15 rfl ?_
  refine g_getR (pc := 16) (dd := 2) dX2_copyFrom_16 fo_X2_15 (AtLogs_0 h1) rfl ?_
  refine g_iconst (pc := 19) (v := (0 : Int32)) dX2_copyFrom_19 (by decide) ?_
  refine g_aload_n (pc := 20) (x := t0) dX2_copyFrom_20 rfl ?_
  refine g_getR (pc := 21) (dd := 2) dX2_copyFrom_21 fo_X2_15 (AtLogs_0 h0) rfl ?_
  refine g_iconst (pc := 24) (v := (0 : Int32)) dX2_copyFrom_24 (by decide) ?_
  refine g_bipush (pc := 25) (v := (60 : Int32)) dX2_copyFrom_25 (by decide) ?_
  refine g_copyI (pc := 27) dX2_copyFrom_27 cw_X2_35 (by decide) (Nat.le_of_ble_eq_true rfl) (AtLogs_2 h1) (AtLogs_2 h0) (by decide) (by decide) (by decide) (by decide) (by decide) ?_
  refine g_aload_n (pc := 30) (x := a1) dX2_copyFrom_30 rfl ?_
  refine g_getR (pc := 31) (dd := 3) dX2_copyFrom_31 fo_X2_18 (AtLogs_0 h1) rfl ?_
  refine g_iconst (pc := 34) (v := (0 : Int32)) dX2_copyFrom_34 (by decide) ?_
  refine g_aload_n (pc := 35) (x := t0) dX2_copyFrom_35 rfl ?_
  refine g_getR (pc := 36) (dd := 3) dX2_copyFrom_36 fo_X2_18 (AtLogs_0 h0) rfl ?_
  refine g_iconst (pc := 39) (v := (0 : Int32)) dX2_copyFrom_39 (by decide) ?_
  refine g_bipush (pc := 40) (v := (60 : Int32)) dX2_copyFrom_40 (by decide) ?_
  refine g_copyI (pc := 42) dX2_copyFrom_42 cw_X2_35 (by decide) (Nat.le_of_ble_eq_true rfl) (AtLogs_3 h1) (AtLogs_3 h0) (by decide) (by decide) (by decide) (by decide) (by decide) ?_
  refine g_aload_n (pc := 45) (x := a1) dX2_copyFrom_45 rfl ?_
  refine g_getR (pc := 46) (dd := 4) dX2_copyFrom_46 fo_X2_21 (AtLogs_0 h1) rfl ?_
  refine g_iconst (pc := 49) (v := (0 : Int32)) dX2_copyFrom_49 (by decide) ?_
  refine g_aload_n (pc := 50) (x := t0) dX2_copyFrom_50 rfl ?_
  refine g_getR (pc := 51) (dd := 4) dX2_copyFrom_51 fo_X2_21 (AtLogs_0 h0) rfl ?_
  refine g_iconst (pc := 54) (v := (0 : Int32)) dX2_copyFrom_54 (by decide) ?_
  refine g_bipush (pc := 55) (v := (60 : Int32)) dX2_copyFrom_55 (by decide) ?_
  refine g_copyI (pc := 57) dX2_copyFrom_57 cw_X2_35 (by decide) (Nat.le_of_ble_eq_true rfl) (AtLogs_4 h1) (AtLogs_4 h0) (by decide) (by decide) (by decide) (by decide) (by decide) ?_
  refine g_aload_n (pc := 60) (x := t0) dX2_copyFrom_60 rfl ?_
  refine g_aload_n (pc := 61) (x := a1) dX2_copyFrom_61 rfl ?_
  refine g_getI (pc := 62) dX2_copyFrom_62 fo_X2_31 (AtLogs_0 h1) rfl ?_
  refine g_putI (pc := 65) dX2_copyFrom_65 fo_X2_31 (AtLogs_0 h0) rfl rfl rfl ?_
  exact g_vret (pc := 68) dX2_copyFrom_68 rfl rfl h
theorem dX2_add_0 : decode cX2_add 0 = .ok (.aload_n 0, 1) := by decide +kernel
theorem dX2_add_1 : decode cX2_add 1 = .ok (.getfield 31, 3) := by decide +kernel
theorem dX2_add_4 : decode cX2_add 4 = .ok (.ifCond .lt 12, 3) := by decide +kernel
theorem dX2_add_7 : decode cX2_add 7 = .ok (.aload_n 0, 1) := by decide +kernel
theorem dX2_add_8 : decode cX2_add 8 = .ok (.getfield 31, 3) := by decide +kernel
theorem dX2_add_11 : decode cX2_add 11 = .ok (.bipush 60, 2) := by decide +kernel
theorem dX2_add_13 : decode cX2_add 13 = .ok (.if_icmp .lt 5, 3) := by decide +kernel
theorem dX2_add_16 : decode cX2_add 16 = .ok (.iconst (-1), 1) := by decide +kernel
theorem dX2_add_17 : decode cX2_add 17 = .ok (.ireturn, 1) := by decide +kernel
theorem dX2_add_18 : decode cX2_add 18 = .ok (.aload_n 0, 1) := by decide +kernel
theorem dX2_add_19 : decode cX2_add 19 = .ok (.getfield 9, 3) := by decide +kernel
theorem dX2_add_22 : decode cX2_add 22 = .ok (.aload_n 0, 1) := by decide +kernel
theorem dX2_add_23 : decode cX2_add 23 = .ok (.getfield 31, 3) := by decide +kernel
theorem dX2_add_26 : decode cX2_add 26 = .ok (.iload_n 1, 1) := by decide +kernel
theorem dX2_add_27 : decode cX2_add 27 = .ok (.iastore, 1) := by decide +kernel
theorem dX2_add_28 : decode cX2_add 28 = .ok (.aload_n 0, 1) := by decide +kernel
theorem dX2_add_29 : decode cX2_add 29 = .ok (.getfield 15, 3) := by decide +kernel
theorem dX2_add_32 : decode cX2_add 32 = .ok (.aload_n 0, 1) := by decide +kernel
theorem dX2_add_33 : decode cX2_add 33 = .ok (.getfield 31, 3) := by decide +kernel
theorem dX2_add_36 : decode cX2_add 36 = .ok (.iload_n 2, 1) := by decide +kernel
theorem dX2_add_37 : decode cX2_add 37 = .ok (.iastore, 1) := by decide +kernel
theorem dX2_add_38 : decode cX2_add 38 = .ok (.aload_n 0, 1) := by decide +kernel
theorem dX2_add_39 : decode cX2_add 39 = .ok (.getfield 18, 3) := by decide +kernel
theorem dX2_add_42 : decode cX2_add 42 = .ok (.aload_n 0, 1) := by decide +kernel
theorem dX2_add_43 : decode cX2_add 43 = .ok (.getfield 31, 3) := by decide +kernel
theorem dX2_add_46 : decode cX2_add 46 = .ok (.iload_n 3, 1) := by decide +kernel
theorem dX2_add_47 : decode cX2_add 47 = .ok (.iastore, 1) := by decide +kernel
theorem dX2_add_48 : decode cX2_add 48 = .ok (.aload_n 0, 1) := by decide +kernel
theorem dX2_add_49 : decode cX2_add 49 = .ok (.getfield 21, 3) := by decide +kernel
theorem dX2_add_52 : decode cX2_add 52 = .ok (.aload_n 0, 1) := by decide +kernel
theorem dX2_add_53 : decode cX2_add 53 = .ok (.getfield 31, 3) := by decide +kernel
theorem dX2_add_56 : decode cX2_add 56 = .ok (.iload 4, 2) := by decide +kernel
theorem dX2_add_58 : decode cX2_add 58 = .ok (.iastore, 1) := by decide +kernel
theorem dX2_add_59 : decode cX2_add 59 = .ok (.aload_n 0, 1) := by decide +kernel
theorem dX2_add_60 : decode cX2_add 60 = .ok (.dup, 1) := by decide +kernel
theorem dX2_add_61 : decode cX2_add 61 = .ok (.getfield 31, 3) := by decide +kernel
theorem dX2_add_64 : decode cX2_add 64 = .ok (.iconst 1, 1) := by decide +kernel
theorem dX2_add_65 : decode cX2_add 65 = .ok (.iadd, 1) := by decide +kernel
theorem dX2_add_66 : decode cX2_add 66 = .ok (.putfield 31, 3) := by decide +kernel
theorem dX2_add_69 : decode cX2_add 69 = .ok (.aload_n 0, 1) := by decide +kernel
theorem dX2_add_70 : decode cX2_add 70 = .ok (.getfield 31, 3) := by decide +kernel
theorem dX2_add_73 : decode cX2_add 73 = .ok (.iconst 1, 1) := by decide +kernel
theorem dX2_add_74 : decode cX2_add 74 = .ok (.isub, 1) := by decide +kernel
theorem dX2_add_75 : decode cX2_add 75 = .ok (.ireturn, 1) := by decide +kernel
theorem b_X2_add (mm : MM) (Q : Value → MM → Prop) (t0 : Nat) (a1 : Int32) (a2 : Int32) (a3 : Int32) (a4 : Int32) (h0 : AtLogs t0) (h : ((mm.1 t0 6) < 0 → (Q (.int (-1 : Int32)) mm)) ∧ (¬ (mm.1 t0 6) < 0 → (((mm.1 t0 6) < (60 : Int32) → (vp_in (mm.1 t0 6) 60 ∧ (vp_in ((wI mm (t0 + 1) ((mm.1 t0 6).toNatClampNeg) a1).1 t0 6) 60 ∧ (vp_in ((wI (wI mm (t0 + 1) ((mm.1 t0 6).toNatClampNeg) a1) (t0 + 2) (((wI mm (t0 + 1) ((mm.1 t0 6).toNatClampNeg) a1).1 t0 6).toNatClampNeg) a2).1 t0 6) 60 ∧ (vp_in ((wI (wI (wI mm (t0 + 1) ((mm.1 t0 6).toNatClampNeg) a1) (t0 + 2) (((wI mm (t0 + 1) ((mm.1 t0 6).toNatClampNeg) a1).1 t0 6).toNatClampNeg) a2) (t0 + 3) (((wI (wI mm (t0 + 1) ((mm.1 t0 6).toNatClampNeg) a1) (t0 + 2) (((wI mm (t0 + 1) ((mm.1 t0 6).toNatClampNeg) a1).1 t0 6).toNatClampNeg) a2).1 t0 6).toNatClampNeg) a3).1 t0 6) 60 ∧ (Q (.int (((wI (wI (wI (wI (wI mm (t0 + 1) ((mm.1 t0 6).toNatClampNeg) a1) (t0 + 2) (((wI mm (t0 + 1) ((mm.1 t0 6).toNatClampNeg) a1).1 t0 6).toNatClampNeg) a2) (t0 + 3) (((wI (wI mm (t0 + 1) ((mm.1 t0 6).toNatClampNeg) a1) (t0 + 2) (((wI mm (t0 + 1) ((mm.1 t0 6).toNatClampNeg) a1).1 t0 6).toNatClampNeg) a2).1 t0 6).toNatClampNeg) a3) (t0 + 4) (((wI (wI (wI mm (t0 + 1) ((mm.1 t0 6).toNatClampNeg) a1) (t0 + 2) (((wI mm (t0 + 1) ((mm.1 t0 6).toNatClampNeg) a1).1 t0 6).toNatClampNeg) a2) (t0 + 3) (((wI (wI mm (t0 + 1) ((mm.1 t0 6).toNatClampNeg) a1) (t0 + 2) (((wI mm (t0 + 1) ((mm.1 t0 6).toNatClampNeg) a1).1 t0 6).toNatClampNeg) a2).1 t0 6).toNatClampNeg) a3).1 t0 6).toNatClampNeg) a4) t0 6 (((wI (wI (wI (wI mm (t0 + 1) ((mm.1 t0 6).toNatClampNeg) a1) (t0 + 2) (((wI mm (t0 + 1) ((mm.1 t0 6).toNatClampNeg) a1).1 t0 6).toNatClampNeg) a2) (t0 + 3) (((wI (wI mm (t0 + 1) ((mm.1 t0 6).toNatClampNeg) a1) (t0 + 2) (((wI mm (t0 + 1) ((mm.1 t0 6).toNatClampNeg) a1).1 t0 6).toNatClampNeg) a2).1 t0 6).toNatClampNeg) a3) (t0 + 4) (((wI (wI (wI mm (t0 + 1) ((mm.1 t0 6).toNatClampNeg) a1) (t0 + 2) (((wI mm (t0 + 1) ((mm.1 t0 6).toNatClampNeg) a1).1 t0 6).toNatClampNeg) a2) (t0 + 3) (((wI (wI mm (t0 + 1) ((mm.1 t0 6).toNatClampNeg) a1) (t0 + 2) (((wI mm (t0 + 1) ((mm.1 t0 6).toNatClampNeg) a1).1 t0 6).toNatClampNeg) a2).1 t0 6).toNatClampNeg) a3).1 t0 6).toNatClampNeg) a4).1 t0 6) + (1 : Int32))).1 t0 6) - (1 : Int32))) (wI (wI (wI (wI (wI mm (t0 + 1) ((mm.1 t0 6).toNatClampNeg) a1) (t0 + 2) (((wI mm (t0 + 1) ((mm.1 t0 6).toNatClampNeg) a1).1 t0 6).toNatClampNeg) a2) (t0 + 3) (((wI (wI mm (t0 + 1) ((mm.1 t0 6).toNatClampNeg) a1) (t0 + 2) (((wI mm (t0 + 1) ((mm.1 t0 6).toNatClampNeg) a1).1 t0 6).toNatClampNeg) a2).1 t0 6).toNatClampNeg) a3) (t0 + 4) (((wI (wI (wI mm (t0 + 1) ((mm.1 t0 6).toNatClampNeg) a1) (t0 + 2) (((wI mm (t0 + 1) ((mm.1 t0 6).toNatClampNeg) a1).1 t0 6).toNatClampNeg) a2) (t0 + 3) (((wI (wI mm (t0 + 1) ((mm.1 t0 6).toNatClampNeg) a1) (t0 + 2) (((wI mm (t0 + 1) ((mm.1 t0 6).toNatClampNeg) a1).1 t0 6).toNatClampNeg) a2).1 t0 6).toNatClampNeg) a3).1 t0 6).toNatClampNeg) a4) t0 6 (((wI (wI (wI (wI mm (t0 + 1) ((mm.1 t0 6).toNatClampNeg) a1) (t0 + 2) (((wI mm (t0 + 1) ((mm.1 t0 6).toNatClampNeg) a1).1 t0 6).toNatClampNeg) a2) (t0 + 3) (((wI (wI mm (t0 + 1) ((mm.1 t0 6).toNatClampNeg) a1) (t0 + 2) (((wI mm (t0 + 1) ((mm.1 t0 6).toNatClampNeg) a1).1 t0 6).toNatClampNeg) a2).1 t0 6).toNatClampNeg) a3) (t0 + 4) (((wI (wI (wI mm (t0 + 1) ((mm.1 t0 6).toNatClampNeg) a1) (t0 + 2) (((wI mm (t0 + 1) ((mm.1 t0 6).toNatClampNeg) a1).1 t0 6).toNatClampNeg) a2) (t0 + 3) (((wI (wI mm (t0 + 1) ((mm.1 t0 6).toNatClampNeg) a1) (t0 + 2) (((wI mm (t0 + 1) ((mm.1 t0 6).toNatClampNeg) a1).1 t0 6).toNatClampNeg) a2).1 t0 6).toNatClampNeg) a3).1 t0 6).toNatClampNeg) a4).1 t0 6) + (1 : Int32))))))))) ∧ (¬ (mm.1 t0 6) < (60 : Int32) → (Q (.int (-1 : Int32)) mm))))) : Runs e_X2_add [.ref t0, .int a1, .int a2, .int a3, .int a4] mm Q := by
  refine runs_of_G (L := [(0, .ref t0), (1, .int a1), (2, .int a2), (3, .int a3), (4, .int a4)]) pl_X2 (Nat.le_of_ble_eq_true rfl) rfl ?_
  refine g_aload_n (pc := 0) (x := t0) dX2_add_0 rfl ?_
  refine g_getI (pc := 1) dX2_add_1 fo_X2_31 (AtLogs_0 h0) rfl ?_
  refine g_if_lt (pc := 4) (tgt := 16) dX2_add_4 (by decide) (fun c4 => ?_) (fun c4 => ?_)
  · have h := h.1 c4
    refine g_iconst (pc := 16) (v := (-1 : Int32)) dX2_add_16 (by decide) ?_
    exact g_iret (pc := 17) dX2_add_17 rfl rfl rfl h
  · have h := h.2 c4
    refine g_aload_n (pc := 7) (x := t0) dX2_add_7 rfl ?_
    refine g_getI (pc := 8) dX2_add_8 fo_X2_31 (AtLogs_0 h0) rfl ?_
    refine g_bipush (pc := 11) (v := (60 : Int32)) dX2_add_11 (by decide) ?_
    refine g_icmp_lt (pc := 13) (tgt := 18) dX2_add_13 (by decide) (fun c13 => ?_) (fun c13 => ?_)
    · have h := h.1 c13
      refine g_aload_n (pc := 18) (x := t0) dX2_add_18 rfl ?_
      refine g_getR (pc := 19) (dd := 1) dX2_add_19 fo_X2_9 (AtLogs_0 h0) rfl ?_
      refine g_aload_n (pc := 22) (x := t0) dX2_add_22 rfl ?_
      refine g_getI (pc := 23) dX2_add_23 fo_X2_31 (AtLogs_0 h0) rfl ?_
      refine g_iload_n (pc := 26) (x := a1) dX2_add_26 rfl ?_
      refine g_iastore (pc := 27) dX2_add_27 (AtLogs_1 h0) h.1 ?_
      have h := h.2
      refine g_aload_n (pc := 28) (x := t0) dX2_add_28 rfl ?_
      refine g_getR (pc := 29) (dd := 2) dX2_add_29 fo_X2_15 (AtLogs_0 h0) rfl ?_
      refine g_aload_n (pc := 32) (x := t0) dX2_add_32 rfl ?_
      refine g_getI (pc := 33) dX2_add_33 fo_X2_31 (AtLogs_0 h0) rfl ?_
      refine g_iload_n (pc := 36) (x := a2) dX2_add_36 rfl ?_
      refine g_iastore (pc := 37) dX2_add_37 (AtLogs_2 h0) h.1 ?_
      have h := h.2
      refine g_aload_n (pc := 38) (x := t0) dX2_add_38 rfl ?_
      refine g_getR (pc := 39) (dd := 3) dX2_add_39 fo_X2_18 (AtLogs_0 h0) rfl ?_
      refine g_aload_n (pc := 42) (x := t0) dX2_add_42 rfl ?_
      refine g_getI (pc := 43) dX2_add_43 fo_X2_31 (AtLogs_0 h0) rfl ?_
      refine g_iload_n (pc := 46) (x := a3) dX2_add_46 rfl ?_
      refine g_iastore (pc := 47) dX2_add_47 (AtLogs_3 h0) h.1 ?_
      have h := h.2
      refine g_aload_n (pc := 48) (x := t0) dX2_add_48 rfl ?_
      refine g_getR (pc := 49) (dd := 4) dX2_add_49 fo_X2_21 (AtLogs_0 h0) rfl ?_
      refine g_aload_n (pc := 52) (x := t0) dX2_add_52 rfl ?_
      refine g_getI (pc := 53) dX2_add_53 fo_X2_31 (AtLogs_0 h0) rfl ?_
      refine g_iload (pc := 56) (x := a4) dX2_add_56 rfl ?_
      refine g_iastore (pc := 58) dX2_add_58 (AtLogs_4 h0) h.1 ?_
      have h := h.2
      refine g_aload_n (pc := 59) (x := t0) dX2_add_59 rfl ?_
      refine g_dup (pc := 60) dX2_add_60 rfl ?_
      refine g_getI (pc := 61) dX2_add_61 fo_X2_31 (AtLogs_0 h0) rfl ?_
      refine g_iconst (pc := 64) (v := (1 : Int32)) dX2_add_64 (by decide) ?_
      refine g_iadd (pc := 65) dX2_add_65 ?_
      refine g_putI (pc := 66) dX2_add_66 fo_X2_31 (AtLogs_0 h0) rfl rfl rfl ?_
      refine g_aload_n (pc := 69) (x := t0) dX2_add_69 rfl ?_
      refine g_getI (pc := 70) dX2_add_70 fo_X2_31 (AtLogs_0 h0) rfl ?_
      refine g_iconst (pc := 73) (v := (1 : Int32)) dX2_add_73 (by decide) ?_
      refine g_isub (pc := 74) dX2_add_74 ?_
      exact g_iret (pc := 75) dX2_add_75 rfl rfl rfl h
    · have h := h.2 c13
      refine g_iconst (pc := 16) (v := (-1 : Int32)) dX2_add_16 (by decide) ?_
      exact g_iret (pc := 17) dX2_add_17 rfl rfl rfl h
theorem dX2_canBeVoid_0 : decode cX2_canBeVoid 0 = .ok (.iload_n 1, 1) := by decide +kernel
theorem dX2_canBeVoid_1 : decode cX2_canBeVoid 1 = .ok (.ifCond .lt 25, 3) := by decide +kernel
theorem dX2_canBeVoid_4 : decode cX2_canBeVoid 4 = .ok (.iload_n 1, 1) := by decide +kernel
theorem dX2_canBeVoid_5 : decode cX2_canBeVoid 5 = .ok (.aload_n 0, 1) := by decide +kernel
theorem dX2_canBeVoid_6 : decode cX2_canBeVoid 6 = .ok (.getfield 31, 3) := by decide +kernel
theorem dX2_canBeVoid_9 : decode cX2_canBeVoid 9 = .ok (.if_icmp .ge 17, 3) := by decide +kernel
theorem dX2_canBeVoid_12 : decode cX2_canBeVoid 12 = .ok (.aload_n 0, 1) := by decide +kernel
theorem dX2_canBeVoid_13 : decode cX2_canBeVoid 13 = .ok (.getfield 9, 3) := by decide +kernel
theorem dX2_canBeVoid_16 : decode cX2_canBeVoid 16 = .ok (.iload_n 1, 1) := by decide +kernel
theorem dX2_canBeVoid_17 : decode cX2_canBeVoid 17 = .ok (.iaload, 1) := by decide +kernel
theorem dX2_canBeVoid_18 : decode cX2_canBeVoid 18 = .ok (.iconst 2, 1) := by decide +kernel
theorem dX2_canBeVoid_19 : decode cX2_canBeVoid 19 = .ok (.if_icmp .eq 7, 3) := by decide +kernel
theorem dX2_canBeVoid_22 : decode cX2_canBeVoid 22 = .ok (.iconst 1, 1) := by decide +kernel
theorem dX2_canBeVoid_23 : decode cX2_canBeVoid 23 = .ok (.goto 4, 3) := by decide +kernel
theorem dX2_canBeVoid_26 : decode cX2_canBeVoid 26 = .ok (.iconst 0, 1) := by decide +kernel
theorem dX2_canBeVoid_27 : decode cX2_canBeVoid 27 = .ok (.ireturn, 1) := by decide +kernel
def o_X2_canBeVoid (mm : MM) (t0 : Nat) (a1 : Int32) : Prop := (a1 < 0 → (True)) ∧ (¬ a1 < 0 → (((mm.1 t0 6) ≤ a1 → (True)) ∧ (¬ (mm.1 t0 6) ≤ a1 → (vp_in a1 60 ∧ (((mm.1 (t0 + 1) a1.toNatClampNeg) = (2 : Int32) → (True)) ∧ (¬ (mm.1 (t0 + 1) a1.toNatClampNeg) = (2 : Int32) → (True)))))))
def p_X2_canBeVoid (mm : MM) (t0 : Nat) (a1 : Int32) : Prop := (¬ a1 < 0 ∧ (¬ (mm.1 t0 6) ≤ a1 ∧ ¬ (mm.1 (t0 + 1) a1.toNatClampNeg) = (2 : Int32)))
theorem rv_X2_canBeVoid (mm : MM) (t0 : Nat) (a1 : Int32) (h0 : AtLogs t0) (h : o_X2_canBeVoid mm t0 a1) : Runs e_X2_canBeVoid [.ref t0, .int a1] mm (fun r m_ => ((p_X2_canBeVoid mm t0 a1 ∧ r = .int 1) ∨ (¬ p_X2_canBeVoid mm t0 a1 ∧ r = .int 0)) ∧ mm = m_) := by
  refine runs_of_G (L := [(0, .ref t0), (1, .int a1)]) pl_X2 (Nat.le_of_ble_eq_true rfl) rfl ?_
  unfold o_X2_canBeVoid at h
  refine g_iload_n (pc := 0) (x := a1) dX2_canBeVoid_0 rfl ?_
  refine g_if_lt (pc := 1) (tgt := 26) dX2_canBeVoid_1 (by decide) (fun c1 => ?_) (fun c1 => ?_)
  · have c1_0 : a1 < 0 := c1
    have h := h.1 c1
    refine g_iconst (pc := 26) (v := (0 : Int32)) dX2_canBeVoid_26 (by decide) ?_
    exact g_iret (pc := 27) dX2_canBeVoid_27 rfl rfl (nar_B isB0) ⟨Or.inr ⟨(show ¬ p_X2_canBeVoid mm t0 a1 from (fun h_ => (h_.1 c1_0))), rfl⟩, rfl⟩
  · have c1_0 : ¬ a1 < 0 := c1
    have h := h.2 c1
    refine g_iload_n (pc := 4) (x := a1) dX2_canBeVoid_4 rfl ?_
    refine g_aload_n (pc := 5) (x := t0) dX2_canBeVoid_5 rfl ?_
    refine g_getI (pc := 6) dX2_canBeVoid_6 fo_X2_31 (AtLogs_0 h0) rfl ?_
    refine g_icmp_ge (pc := 9) (tgt := 26) dX2_canBeVoid_9 (by decide) (fun c9 => ?_) (fun c9 => ?_)
    · have c9_1 : (mm.1 t0 6) ≤ a1 := c9
      have h := h.1 c9
      refine g_iconst (pc := 26) (v := (0 : Int32)) dX2_canBeVoid_26 (by decide) ?_
      exact g_iret (pc := 27) dX2_canBeVoid_27 rfl rfl (nar_B isB0) ⟨Or.inr ⟨(show ¬ p_X2_canBeVoid mm t0 a1 from (fun h_ => (fun h_ => (h_.1 c9_1)) h_.2)), rfl⟩, rfl⟩
    · have c9_1 : ¬ (mm.1 t0 6) ≤ a1 := c9
      have h := h.2 c9
      refine g_aload_n (pc := 12) (x := t0) dX2_canBeVoid_12 rfl ?_
      refine g_getR (pc := 13) (dd := 1) dX2_canBeVoid_13 fo_X2_9 (AtLogs_0 h0) rfl ?_
      refine g_iload_n (pc := 16) (x := a1) dX2_canBeVoid_16 rfl ?_
      refine g_iaload (pc := 17) dX2_canBeVoid_17 (AtLogs_1 h0) h.1 ?_
      have h := h.2
      refine g_iconst (pc := 18) (v := (2 : Int32)) dX2_canBeVoid_18 (by decide) ?_
      refine g_icmp_eq (pc := 19) (tgt := 26) dX2_canBeVoid_19 (by decide) (fun c19 => ?_) (fun c19 => ?_)
      · have c19_2 : (mm.1 (t0 + 1) a1.toNatClampNeg) = (2 : Int32) := c19
        refine g_iconst (pc := 26) (v := (0 : Int32)) dX2_canBeVoid_26 (by decide) ?_
        exact g_iret (pc := 27) dX2_canBeVoid_27 rfl rfl (nar_B isB0) ⟨Or.inr ⟨(show ¬ p_X2_canBeVoid mm t0 a1 from (fun h_ => (fun h_ => (not_not_intro c19_2) h_.2) h_.2)), rfl⟩, rfl⟩
      · have c19_2 : ¬ (mm.1 (t0 + 1) a1.toNatClampNeg) = (2 : Int32) := c19
        refine g_iconst (pc := 22) (v := (1 : Int32)) dX2_canBeVoid_22 (by decide) ?_
        refine g_goto (pc := 23) (tgt := 27) dX2_canBeVoid_23 (by decide) ?_
        exact g_iret (pc := 27) dX2_canBeVoid_27 rfl rfl (nar_B isB1) ⟨Or.inl ⟨(show p_X2_canBeVoid mm t0 a1 from ⟨c1_0, ⟨c9_1, c19_2⟩⟩), rfl⟩, rfl⟩
theorem dX2_strike_0 : decode cX2_strike 0 = .ok (.iconst 0, 1) := by decide +kernel
theorem dX2_strike_1 : decode cX2_strike 1 = .ok (.istore_n 2, 1) := by decide +kernel
theorem dX2_strike_2 : decode cX2_strike 2 = .ok (.iload_n 2, 1) := by decide +kernel
theorem dX2_strike_3 : decode cX2_strike 3 = .ok (.bipush 60, 2) := by decide +kernel
theorem dX2_strike_5 : decode cX2_strike 5 = .ok (.if_icmp .ge 16, 3) := by decide +kernel
theorem dX2_strike_8 : decode cX2_strike 8 = .ok (.aload_n 0, 1) := by decide +kernel
theorem dX2_strike_9 : decode cX2_strike 9 = .ok (.getfield 24, 3) := by decide +kernel
theorem dX2_strike_12 : decode cX2_strike 12 = .ok (.iload_n 2, 1) := by decide +kernel
theorem dX2_strike_13 : decode cX2_strike 13 = .ok (.iconst 0, 1) := by decide +kernel
theorem dX2_strike_14 : decode cX2_strike 14 = .ok (.bastore, 1) := by decide +kernel
theorem dX2_strike_15 : decode cX2_strike 15 = .ok (.iinc 2 1, 3) := by decide +kernel
theorem dX2_strike_18 : decode cX2_strike 18 = .ok (.goto (-16), 3) := by decide +kernel
theorem dX2_strike_21 : decode cX2_strike 21 = .ok (.iconst 0, 1) := by decide +kernel
theorem dX2_strike_22 : decode cX2_strike 22 = .ok (.istore_n 2, 1) := by decide +kernel
theorem dX2_strike_23 : decode cX2_strike 23 = .ok (.iload_n 2, 1) := by decide +kernel
theorem dX2_strike_24 : decode cX2_strike 24 = .ok (.iload_n 1, 1) := by decide +kernel
theorem dX2_strike_25 : decode cX2_strike 25 = .ok (.if_icmp .ge 59, 3) := by decide +kernel
theorem dX2_strike_28 : decode cX2_strike 28 = .ok (.iload_n 2, 1) := by decide +kernel
theorem dX2_strike_29 : decode cX2_strike 29 = .ok (.aload_n 0, 1) := by decide +kernel
theorem dX2_strike_30 : decode cX2_strike 30 = .ok (.getfield 31, 3) := by decide +kernel
theorem dX2_strike_33 : decode cX2_strike 33 = .ok (.if_icmp .ge 51, 3) := by decide +kernel
theorem dX2_strike_36 : decode cX2_strike 36 = .ok (.aload_n 0, 1) := by decide +kernel
theorem dX2_strike_37 : decode cX2_strike 37 = .ok (.getfield 9, 3) := by decide +kernel
theorem dX2_strike_40 : decode cX2_strike 40 = .ok (.iload_n 2, 1) := by decide +kernel
theorem dX2_strike_41 : decode cX2_strike 41 = .ok (.iaload, 1) := by decide +kernel
theorem dX2_strike_42 : decode cX2_strike 42 = .ok (.iconst 2, 1) := by decide +kernel
theorem dX2_strike_43 : decode cX2_strike 43 = .ok (.if_icmp .ne 35, 3) := by decide +kernel
theorem dX2_strike_46 : decode cX2_strike 46 = .ok (.aload_n 0, 1) := by decide +kernel
theorem dX2_strike_47 : decode cX2_strike 47 = .ok (.getfield 15, 3) := by decide +kernel
theorem dX2_strike_50 : decode cX2_strike 50 = .ok (.iload_n 2, 1) := by decide +kernel
theorem dX2_strike_51 : decode cX2_strike 51 = .ok (.iaload, 1) := by decide +kernel
theorem dX2_strike_52 : decode cX2_strike 52 = .ok (.ifCond .lt 26, 3) := by decide +kernel
theorem dX2_strike_55 : decode cX2_strike 55 = .ok (.aload_n 0, 1) := by decide +kernel
theorem dX2_strike_56 : decode cX2_strike 56 = .ok (.getfield 15, 3) := by decide +kernel
theorem dX2_strike_59 : decode cX2_strike 59 = .ok (.iload_n 2, 1) := by decide +kernel
theorem dX2_strike_60 : decode cX2_strike 60 = .ok (.iaload, 1) := by decide +kernel
theorem dX2_strike_61 : decode cX2_strike 61 = .ok (.bipush 60, 2) := by decide +kernel
theorem dX2_strike_63 : decode cX2_strike 63 = .ok (.if_icmp .ge 15, 3) := by decide +kernel
theorem dX2_strike_66 : decode cX2_strike 66 = .ok (.aload_n 0, 1) := by decide +kernel
theorem dX2_strike_67 : decode cX2_strike 67 = .ok (.getfield 24, 3) := by decide +kernel
theorem dX2_strike_70 : decode cX2_strike 70 = .ok (.aload_n 0, 1) := by decide +kernel
theorem dX2_strike_71 : decode cX2_strike 71 = .ok (.getfield 15, 3) := by decide +kernel
theorem dX2_strike_74 : decode cX2_strike 74 = .ok (.iload_n 2, 1) := by decide +kernel
theorem dX2_strike_75 : decode cX2_strike 75 = .ok (.iaload, 1) := by decide +kernel
theorem dX2_strike_76 : decode cX2_strike 76 = .ok (.iconst 1, 1) := by decide +kernel
theorem dX2_strike_77 : decode cX2_strike 77 = .ok (.bastore, 1) := by decide +kernel
theorem dX2_strike_78 : decode cX2_strike 78 = .ok (.iinc 2 1, 3) := by decide +kernel
theorem dX2_strike_81 : decode cX2_strike 81 = .ok (.goto (-58), 3) := by decide +kernel
theorem dX2_strike_84 : decode cX2_strike 84 = .ok (.return_, 1) := by decide +kernel
theorem b_X2_strike (mm : MM) (Q : Value → MM → Prop) (t0 : Nat) (a1 : Int32) (h0 : AtLogs t0) (h : G e_X2_strike 2 [(0, .ref t0), (1, .int a1), (2, .int (0 : Int32))] [] mm Q) : Runs e_X2_strike [.ref t0, .int a1] mm Q := by
  refine runs_of_G (L := [(0, .ref t0), (1, .int a1)]) pl_X2 (Nat.le_of_ble_eq_true rfl) rfl ?_
  refine g_iconst (pc := 0) (v := (0 : Int32)) dX2_strike_0 (by decide) ?_
  refine g_istore_n (pc := 1) (L' := [(0, .ref t0), (1, .int a1), (2, .int (0 : Int32))]) dX2_strike_1 (Nat.le_of_ble_eq_true rfl) rfl ?_
  exact h
theorem b_X2_strike_2 (mm : MM) (Q : Value → MM → Prop) (l0 : Nat) (l1 : Int32) (l2 : Int32) (k0 : AtLogs l0) (h : ((60 : Int32) ≤ l2 → (G e_X2_strike 23 [(0, .ref l0), (1, .int l1), (2, .int (0 : Int32))] [] mm Q)) ∧ (¬ (60 : Int32) ≤ l2 → (vp_in l2 60 ∧ (G e_X2_strike 2 [(0, .ref l0), (1, .int l1), (2, .int (l2 + (1 : Int32)))] [] (wI mm (l0 + 5) (l2.toNatClampNeg) (vp_nar .boolean (0 : Int32))) Q)))) : G e_X2_strike 2 [(0, .ref l0), (1, .int l1), (2, .int l2)] [] mm Q := by
  refine g_iload_n (pc := 2) (x := l2) dX2_strike_2 rfl ?_
  refine g_bipush (pc := 3) (v := (60 : Int32)) dX2_strike_3 (by decide) ?_
  refine g_icmp_ge (pc := 5) (tgt := 21) dX2_strike_5 (by decide) (fun c5 => ?_) (fun c5 => ?_)
  · have h := h.1 c5
    refine g_iconst (pc := 21) (v := (0 : Int32)) dX2_strike_21 (by decide) ?_
    refine g_istore_n (pc := 22) (L' := [(0, .ref l0), (1, .int l1), (2, .int (0 : Int32))]) dX2_strike_22 (Nat.le_of_ble_eq_true rfl) rfl ?_
    exact h
  · have h := h.2 c5
    refine g_aload_n (pc := 8) (x := l0) dX2_strike_8 rfl ?_
    refine g_getR (pc := 9) (dd := 5) dX2_strike_9 fo_X2_24 (AtLogs_0 k0) rfl ?_
    refine g_iload_n (pc := 12) (x := l2) dX2_strike_12 rfl ?_
    refine g_iconst (pc := 13) (v := (0 : Int32)) dX2_strike_13 (by decide) ?_
    refine g_zastore (pc := 14) dX2_strike_14 (AtLogs_5 k0) h.1 ?_
    have h := h.2
    refine g_iinc (pc := 15) (x := l2) (v := (l2 + (1 : Int32))) (L' := [(0, .ref l0), (1, .int l1), (2, .int (l2 + (1 : Int32)))]) dX2_strike_15 rfl rfl (Nat.le_of_ble_eq_true rfl) rfl ?_
    refine g_goto (pc := 18) (tgt := 2) dX2_strike_18 (by decide) ?_
    exact h
theorem b_X2_strike_23 (mm : MM) (Q : Value → MM → Prop) (l0 : Nat) (l1 : Int32) (l2 : Int32) (k0 : AtLogs l0) (h : (l1 ≤ l2 → (Q .null mm)) ∧ (¬ l1 ≤ l2 → (((mm.1 l0 6) ≤ l2 → (Q .null mm)) ∧ (¬ (mm.1 l0 6) ≤ l2 → (vp_in l2 60 ∧ ((¬ (mm.1 (l0 + 1) l2.toNatClampNeg) = (2 : Int32) → (G e_X2_strike 23 [(0, .ref l0), (1, .int l1), (2, .int (l2 + (1 : Int32)))] [] mm Q)) ∧ ((mm.1 (l0 + 1) l2.toNatClampNeg) = (2 : Int32) → (vp_in l2 60 ∧ (((mm.1 (l0 + 2) l2.toNatClampNeg) < 0 → (G e_X2_strike 23 [(0, .ref l0), (1, .int l1), (2, .int (l2 + (1 : Int32)))] [] mm Q)) ∧ (¬ (mm.1 (l0 + 2) l2.toNatClampNeg) < 0 → (vp_in l2 60 ∧ (((60 : Int32) ≤ (mm.1 (l0 + 2) l2.toNatClampNeg) → (G e_X2_strike 23 [(0, .ref l0), (1, .int l1), (2, .int (l2 + (1 : Int32)))] [] mm Q)) ∧ (¬ (60 : Int32) ≤ (mm.1 (l0 + 2) l2.toNatClampNeg) → (vp_in l2 60 ∧ (vp_in (mm.1 (l0 + 2) l2.toNatClampNeg) 60 ∧ (G e_X2_strike 23 [(0, .ref l0), (1, .int l1), (2, .int (l2 + (1 : Int32)))] [] (wI mm (l0 + 5) ((mm.1 (l0 + 2) l2.toNatClampNeg).toNatClampNeg) (vp_nar .boolean (1 : Int32))) Q)))))))))))))))) : G e_X2_strike 23 [(0, .ref l0), (1, .int l1), (2, .int l2)] [] mm Q := by
  refine g_iload_n (pc := 23) (x := l2) dX2_strike_23 rfl ?_
  refine g_iload_n (pc := 24) (x := l1) dX2_strike_24 rfl ?_
  refine g_icmp_ge (pc := 25) (tgt := 84) dX2_strike_25 (by decide) (fun c25 => ?_) (fun c25 => ?_)
  · have h := h.1 c25
    exact g_vret (pc := 84) dX2_strike_84 rfl rfl h
  · have h := h.2 c25
    refine g_iload_n (pc := 28) (x := l2) dX2_strike_28 rfl ?_
    refine g_aload_n (pc := 29) (x := l0) dX2_strike_29 rfl ?_
    refine g_getI (pc := 30) dX2_strike_30 fo_X2_31 (AtLogs_0 k0) rfl ?_
    refine g_icmp_ge (pc := 33) (tgt := 84) dX2_strike_33 (by decide) (fun c33 => ?_) (fun c33 => ?_)
    · have h := h.1 c33
      exact g_vret (pc := 84) dX2_strike_84 rfl rfl h
    · have h := h.2 c33
      refine g_aload_n (pc := 36) (x := l0) dX2_strike_36 rfl ?_
      refine g_getR (pc := 37) (dd := 1) dX2_strike_37 fo_X2_9 (AtLogs_0 k0) rfl ?_
      refine g_iload_n (pc := 40) (x := l2) dX2_strike_40 rfl ?_
      refine g_iaload (pc := 41) dX2_strike_41 (AtLogs_1 k0) h.1 ?_
      have h := h.2
      refine g_iconst (pc := 42) (v := (2 : Int32)) dX2_strike_42 (by decide) ?_
      refine g_icmp_ne (pc := 43) (tgt := 78) dX2_strike_43 (by decide) (fun c43 => ?_) (fun c43 => ?_)
      · have h := h.1 c43
        refine g_iinc (pc := 78) (x := l2) (v := (l2 + (1 : Int32))) (L' := [(0, .ref l0), (1, .int l1), (2, .int (l2 + (1 : Int32)))]) dX2_strike_78 rfl rfl (Nat.le_of_ble_eq_true rfl) rfl ?_
        refine g_goto (pc := 81) (tgt := 23) dX2_strike_81 (by decide) ?_
        exact h
      · have h := h.2 c43
        refine g_aload_n (pc := 46) (x := l0) dX2_strike_46 rfl ?_
        refine g_getR (pc := 47) (dd := 2) dX2_strike_47 fo_X2_15 (AtLogs_0 k0) rfl ?_
        refine g_iload_n (pc := 50) (x := l2) dX2_strike_50 rfl ?_
        refine g_iaload (pc := 51) dX2_strike_51 (AtLogs_2 k0) h.1 ?_
        have h := h.2
        refine g_if_lt (pc := 52) (tgt := 78) dX2_strike_52 (by decide) (fun c52 => ?_) (fun c52 => ?_)
        · have h := h.1 c52
          refine g_iinc (pc := 78) (x := l2) (v := (l2 + (1 : Int32))) (L' := [(0, .ref l0), (1, .int l1), (2, .int (l2 + (1 : Int32)))]) dX2_strike_78 rfl rfl (Nat.le_of_ble_eq_true rfl) rfl ?_
          refine g_goto (pc := 81) (tgt := 23) dX2_strike_81 (by decide) ?_
          exact h
        · have h := h.2 c52
          refine g_aload_n (pc := 55) (x := l0) dX2_strike_55 rfl ?_
          refine g_getR (pc := 56) (dd := 2) dX2_strike_56 fo_X2_15 (AtLogs_0 k0) rfl ?_
          refine g_iload_n (pc := 59) (x := l2) dX2_strike_59 rfl ?_
          refine g_iaload (pc := 60) dX2_strike_60 (AtLogs_2 k0) h.1 ?_
          have h := h.2
          refine g_bipush (pc := 61) (v := (60 : Int32)) dX2_strike_61 (by decide) ?_
          refine g_icmp_ge (pc := 63) (tgt := 78) dX2_strike_63 (by decide) (fun c63 => ?_) (fun c63 => ?_)
          · have h := h.1 c63
            refine g_iinc (pc := 78) (x := l2) (v := (l2 + (1 : Int32))) (L' := [(0, .ref l0), (1, .int l1), (2, .int (l2 + (1 : Int32)))]) dX2_strike_78 rfl rfl (Nat.le_of_ble_eq_true rfl) rfl ?_
            refine g_goto (pc := 81) (tgt := 23) dX2_strike_81 (by decide) ?_
            exact h
          · have h := h.2 c63
            refine g_aload_n (pc := 66) (x := l0) dX2_strike_66 rfl ?_
            refine g_getR (pc := 67) (dd := 5) dX2_strike_67 fo_X2_24 (AtLogs_0 k0) rfl ?_
            refine g_aload_n (pc := 70) (x := l0) dX2_strike_70 rfl ?_
            refine g_getR (pc := 71) (dd := 2) dX2_strike_71 fo_X2_15 (AtLogs_0 k0) rfl ?_
            refine g_iload_n (pc := 74) (x := l2) dX2_strike_74 rfl ?_
            refine g_iaload (pc := 75) dX2_strike_75 (AtLogs_2 k0) h.1 ?_
            have h := h.2
            refine g_iconst (pc := 76) (v := (1 : Int32)) dX2_strike_76 (by decide) ?_
            refine g_zastore (pc := 77) dX2_strike_77 (AtLogs_5 k0) h.1 ?_
            have h := h.2
            refine g_iinc (pc := 78) (x := l2) (v := (l2 + (1 : Int32))) (L' := [(0, .ref l0), (1, .int l1), (2, .int (l2 + (1 : Int32)))]) dX2_strike_78 rfl rfl (Nat.le_of_ble_eq_true rfl) rfl ?_
            refine g_goto (pc := 81) (tgt := 23) dX2_strike_81 (by decide) ?_
            exact h
theorem dX2_tally_0 : decode cX2_tally 0 = .ok (.aload_n 0, 1) := by decide +kernel
theorem dX2_tally_1 : decode cX2_tally 1 = .ok (.iload_n 2, 1) := by decide +kernel
theorem dX2_tally_2 : decode cX2_tally 2 = .ok (.invokevirtual 41, 3) := by decide +kernel
theorem dX2_tally_5 : decode cX2_tally 5 = .ok (.iconst 0, 1) := by decide +kernel
theorem dX2_tally_6 : decode cX2_tally 6 = .ok (.istore_n 3, 1) := by decide +kernel
theorem dX2_tally_7 : decode cX2_tally 7 = .ok (.iload_n 3, 1) := by decide +kernel
theorem dX2_tally_8 : decode cX2_tally 8 = .ok (.bipush 16, 2) := by decide +kernel
theorem dX2_tally_10 : decode cX2_tally 10 = .ok (.if_icmp .ge 16, 3) := by decide +kernel
theorem dX2_tally_13 : decode cX2_tally 13 = .ok (.aload_n 0, 1) := by decide +kernel
theorem dX2_tally_14 : decode cX2_tally 14 = .ok (.getfield 28, 3) := by decide +kernel
theorem dX2_tally_17 : decode cX2_tally 17 = .ok (.iload_n 3, 1) := by decide +kernel
theorem dX2_tally_18 : decode cX2_tally 18 = .ok (.iconst 0, 1) := by decide +kernel
theorem dX2_tally_19 : decode cX2_tally 19 = .ok (.iastore, 1) := by decide +kernel
theorem dX2_tally_20 : decode cX2_tally 20 = .ok (.iinc 3 1, 3) := by decide +kernel
theorem dX2_tally_23 : decode cX2_tally 23 = .ok (.goto (-16), 3) := by decide +kernel
theorem dX2_tally_26 : decode cX2_tally 26 = .ok (.iconst 0, 1) := by decide +kernel
theorem dX2_tally_27 : decode cX2_tally 27 = .ok (.istore_n 3, 1) := by decide +kernel
theorem dX2_tally_28 : decode cX2_tally 28 = .ok (.iload_n 3, 1) := by decide +kernel
theorem dX2_tally_29 : decode cX2_tally 29 = .ok (.bipush 16, 2) := by decide +kernel
theorem dX2_tally_31 : decode cX2_tally 31 = .ok (.if_icmp .ge 41, 3) := by decide +kernel
theorem dX2_tally_34 : decode cX2_tally 34 = .ok (.aload_n 0, 1) := by decide +kernel
theorem dX2_tally_35 : decode cX2_tally 35 = .ok (.iload_n 3, 1) := by decide +kernel
theorem dX2_tally_36 : decode cX2_tally 36 = .ok (.iload_n 1, 1) := by decide +kernel
theorem dX2_tally_37 : decode cX2_tally 37 = .ok (.iload_n 2, 1) := by decide +kernel
theorem dX2_tally_38 : decode cX2_tally 38 = .ok (.invokevirtual 45, 3) := by decide +kernel
theorem dX2_tally_41 : decode cX2_tally 41 = .ok (.istore 4, 2) := by decide +kernel
theorem dX2_tally_43 : decode cX2_tally 43 = .ok (.iload 4, 2) := by decide +kernel
theorem dX2_tally_45 : decode cX2_tally 45 = .ok (.ifCond .lt 21, 3) := by decide +kernel
theorem dX2_tally_48 : decode cX2_tally 48 = .ok (.iload 4, 2) := by decide +kernel
theorem dX2_tally_50 : decode cX2_tally 50 = .ok (.bipush 16, 2) := by decide +kernel
theorem dX2_tally_52 : decode cX2_tally 52 = .ok (.if_icmp .ge 14, 3) := by decide +kernel
theorem dX2_tally_55 : decode cX2_tally 55 = .ok (.aload_n 0, 1) := by decide +kernel
theorem dX2_tally_56 : decode cX2_tally 56 = .ok (.getfield 28, 3) := by decide +kernel
theorem dX2_tally_59 : decode cX2_tally 59 = .ok (.iload 4, 2) := by decide +kernel
theorem dX2_tally_61 : decode cX2_tally 61 = .ok (.dup2, 1) := by decide +kernel
theorem dX2_tally_62 : decode cX2_tally 62 = .ok (.iaload, 1) := by decide +kernel
theorem dX2_tally_63 : decode cX2_tally 63 = .ok (.iconst 1, 1) := by decide +kernel
theorem dX2_tally_64 : decode cX2_tally 64 = .ok (.iadd, 1) := by decide +kernel
theorem dX2_tally_65 : decode cX2_tally 65 = .ok (.iastore, 1) := by decide +kernel
theorem dX2_tally_66 : decode cX2_tally 66 = .ok (.iinc 3 1, 3) := by decide +kernel
theorem dX2_tally_69 : decode cX2_tally 69 = .ok (.goto (-41), 3) := by decide +kernel
theorem dX2_tally_72 : decode cX2_tally 72 = .ok (.return_, 1) := by decide +kernel
theorem b_X2_tally (mm : MM) (Q : Value → MM → Prop) (t0 : Nat) (a1 : Int32) (a2 : Int32) (h0 : AtLogs t0) (h : ∃ Pm1 : Value → MM → Prop, Runs e_X2_strike [.ref t0, .int a2] mm Pm1 ∧ ∀ m1, Pm1 .null m1 → (G e_X2_tally 7 [(0, .ref t0), (1, .int a1), (2, .int a2), (3, .int (0 : Int32))] [] m1 Q)) : Runs e_X2_tally [.ref t0, .int a1, .int a2] mm Q := by
  refine runs_of_G (L := [(0, .ref t0), (1, .int a1), (2, .int a2)]) pl_X2 (Nat.le_of_ble_eq_true rfl) rfl ?_
  refine g_aload_n (pc := 0) (x := t0) dX2_tally_0 rfl ?_
  refine g_iload_n (pc := 1) (x := a2) dX2_tally_1 rfl ?_
  obtain ⟨Pm1, hRm1, h⟩ := h
  refine g_callV (pc := 2) (as := [.int a2]) dX2_tally_2 cw_X2_41 (by decide) rfl rfl (AtLogs_0 h0) (Nat.le_of_ble_eq_true rfl) hRm1 ?_
  intro r_ m1 hz_ hp_
  obtain rfl := hz_
  have h := h m1 hp_
  refine g_iconst (pc := 5) (v := (0 : Int32)) dX2_tally_5 (by decide) ?_
  refine g_istore_n (pc := 6) (L' := [(0, .ref t0), (1, .int a1), (2, .int a2), (3, .int (0 : Int32))]) dX2_tally_6 (Nat.le_of_ble_eq_true rfl) rfl ?_
  exact h
theorem b_X2_tally_7 (mm : MM) (Q : Value → MM → Prop) (l0 : Nat) (l1 : Int32) (l2 : Int32) (l3 : Int32) (k0 : AtLogs l0) (h : ((16 : Int32) ≤ l3 → (G e_X2_tally 28 [(0, .ref l0), (1, .int l1), (2, .int l2), (3, .int (0 : Int32))] [] mm Q)) ∧ (¬ (16 : Int32) ≤ l3 → (vp_in l3 16 ∧ (G e_X2_tally 7 [(0, .ref l0), (1, .int l1), (2, .int l2), (3, .int (l3 + (1 : Int32)))] [] (wI mm (l0 + 6) (l3.toNatClampNeg) (0 : Int32)) Q)))) : G e_X2_tally 7 [(0, .ref l0), (1, .int l1), (2, .int l2), (3, .int l3)] [] mm Q := by
  refine g_iload_n (pc := 7) (x := l3) dX2_tally_7 rfl ?_
  refine g_bipush (pc := 8) (v := (16 : Int32)) dX2_tally_8 (by decide) ?_
  refine g_icmp_ge (pc := 10) (tgt := 26) dX2_tally_10 (by decide) (fun c10 => ?_) (fun c10 => ?_)
  · have h := h.1 c10
    refine g_iconst (pc := 26) (v := (0 : Int32)) dX2_tally_26 (by decide) ?_
    refine g_istore_n (pc := 27) (L' := [(0, .ref l0), (1, .int l1), (2, .int l2), (3, .int (0 : Int32))]) dX2_tally_27 (Nat.le_of_ble_eq_true rfl) rfl ?_
    exact h
  · have h := h.2 c10
    refine g_aload_n (pc := 13) (x := l0) dX2_tally_13 rfl ?_
    refine g_getR (pc := 14) (dd := 6) dX2_tally_14 fo_X2_28 (AtLogs_0 k0) rfl ?_
    refine g_iload_n (pc := 17) (x := l3) dX2_tally_17 rfl ?_
    refine g_iconst (pc := 18) (v := (0 : Int32)) dX2_tally_18 (by decide) ?_
    refine g_iastore (pc := 19) dX2_tally_19 (AtLogs_6 k0) h.1 ?_
    have h := h.2
    refine g_iinc (pc := 20) (x := l3) (v := (l3 + (1 : Int32))) (L' := [(0, .ref l0), (1, .int l1), (2, .int l2), (3, .int (l3 + (1 : Int32)))]) dX2_tally_20 rfl rfl (Nat.le_of_ble_eq_true rfl) rfl ?_
    refine g_goto (pc := 23) (tgt := 7) dX2_tally_23 (by decide) ?_
    exact h
theorem b_X2_tally_28 (mm : MM) (Q : Value → MM → Prop) (l0 : Nat) (l1 : Int32) (l2 : Int32) (l3 : Int32) (k0 : AtLogs l0) (h : ((16 : Int32) ≤ l3 → (Q .null mm)) ∧ (¬ (16 : Int32) ≤ l3 → (∃ Pm1 : Value → MM → Prop, Runs e_X2_lastChoice [.ref l0, .int l3, .int l1, .int l2] mm Pm1 ∧ ∀ (r1 : Int32) (m1 : MM), Pm1 (.int r1) m1 → ((r1 < 0 → (G e_X2_tally 28 [(0, .ref l0), (1, .int l1), (2, .int l2), (3, .int (l3 + (1 : Int32)))] [] m1 Q)) ∧ (¬ r1 < 0 → (((16 : Int32) ≤ r1 → (G e_X2_tally 28 [(0, .ref l0), (1, .int l1), (2, .int l2), (3, .int (l3 + (1 : Int32)))] [] m1 Q)) ∧ (¬ (16 : Int32) ≤ r1 → (vp_in r1 16 ∧ (vp_in r1 16 ∧ (G e_X2_tally 28 [(0, .ref l0), (1, .int l1), (2, .int l2), (3, .int (l3 + (1 : Int32)))] [] (wI m1 (l0 + 6) (r1.toNatClampNeg) ((m1.1 (l0 + 6) r1.toNatClampNeg) + (1 : Int32))) Q)))))))))) : G e_X2_tally 28 [(0, .ref l0), (1, .int l1), (2, .int l2), (3, .int l3)] [] mm Q := by
  refine g_iload_n (pc := 28) (x := l3) dX2_tally_28 rfl ?_
  refine g_bipush (pc := 29) (v := (16 : Int32)) dX2_tally_29 (by decide) ?_
  refine g_icmp_ge (pc := 31) (tgt := 72) dX2_tally_31 (by decide) (fun c31 => ?_) (fun c31 => ?_)
  · have h := h.1 c31
    exact g_vret (pc := 72) dX2_tally_72 rfl rfl h
  · have h := h.2 c31
    refine g_aload_n (pc := 34) (x := l0) dX2_tally_34 rfl ?_
    refine g_iload_n (pc := 35) (x := l3) dX2_tally_35 rfl ?_
    refine g_iload_n (pc := 36) (x := l1) dX2_tally_36 rfl ?_
    refine g_iload_n (pc := 37) (x := l2) dX2_tally_37 rfl ?_
    obtain ⟨Pm1, hRm1, h⟩ := h
    refine g_callV (pc := 38) (as := [.int l3, .int l1, .int l2]) dX2_tally_38 cw_X2_45 (by decide) rfl rfl (AtLogs_0 k0) (Nat.le_of_ble_eq_true rfl) hRm1 ?_
    intro r_ m1 hz_ hp_
    obtain ⟨r1, rfl⟩ := hz_
    have h := h r1 m1 hp_
    refine g_istore (pc := 41) (L' := [(0, .ref l0), (1, .int l1), (2, .int l2), (3, .int l3), (4, .int r1)]) dX2_tally_41 (Nat.le_of_ble_eq_true rfl) rfl ?_
    refine g_iload (pc := 43) (x := r1) dX2_tally_43 rfl ?_
    refine g_if_lt (pc := 45) (tgt := 66) dX2_tally_45 (by decide) (fun c45 => ?_) (fun c45 => ?_)
    · have h := h.1 c45
      refine g_iinc (pc := 66) (x := l3) (v := (l3 + (1 : Int32))) (L' := [(0, .ref l0), (1, .int l1), (2, .int l2), (3, .int (l3 + (1 : Int32))), (4, .int r1)]) dX2_tally_66 rfl rfl (Nat.le_of_ble_eq_true rfl) rfl ?_
      refine g_goto (pc := 69) (tgt := 28) dX2_tally_69 (by decide) ?_
      refine g_sub (L' := [(0, .ref l0), (1, .int l1), (2, .int l2), (3, .int (l3 + (1 : Int32)))]) [0, 1, 2, 3] rfl ?_
      exact h
    · have h := h.2 c45
      refine g_iload (pc := 48) (x := r1) dX2_tally_48 rfl ?_
      refine g_bipush (pc := 50) (v := (16 : Int32)) dX2_tally_50 (by decide) ?_
      refine g_icmp_ge (pc := 52) (tgt := 66) dX2_tally_52 (by decide) (fun c52 => ?_) (fun c52 => ?_)
      · have h := h.1 c52
        refine g_iinc (pc := 66) (x := l3) (v := (l3 + (1 : Int32))) (L' := [(0, .ref l0), (1, .int l1), (2, .int l2), (3, .int (l3 + (1 : Int32))), (4, .int r1)]) dX2_tally_66 rfl rfl (Nat.le_of_ble_eq_true rfl) rfl ?_
        refine g_goto (pc := 69) (tgt := 28) dX2_tally_69 (by decide) ?_
        refine g_sub (L' := [(0, .ref l0), (1, .int l1), (2, .int l2), (3, .int (l3 + (1 : Int32)))]) [0, 1, 2, 3] rfl ?_
        exact h
      · have h := h.2 c52
        refine g_aload_n (pc := 55) (x := l0) dX2_tally_55 rfl ?_
        refine g_getR (pc := 56) (dd := 6) dX2_tally_56 fo_X2_28 (AtLogs_0 k0) rfl ?_
        refine g_iload (pc := 59) (x := r1) dX2_tally_59 rfl ?_
        refine g_dup2 (pc := 61) dX2_tally_61 rfl rfl ?_
        refine g_iaload (pc := 62) dX2_tally_62 (AtLogs_6 k0) h.1 ?_
        have h := h.2
        refine g_iconst (pc := 63) (v := (1 : Int32)) dX2_tally_63 (by decide) ?_
        refine g_iadd (pc := 64) dX2_tally_64 ?_
        refine g_iastore (pc := 65) dX2_tally_65 (AtLogs_6 k0) h.1 ?_
        have h := h.2
        refine g_iinc (pc := 66) (x := l3) (v := (l3 + (1 : Int32))) (L' := [(0, .ref l0), (1, .int l1), (2, .int l2), (3, .int (l3 + (1 : Int32))), (4, .int r1)]) dX2_tally_66 rfl rfl (Nat.le_of_ble_eq_true rfl) rfl ?_
        refine g_goto (pc := 69) (tgt := 28) dX2_tally_69 (by decide) ?_
        refine g_sub (L' := [(0, .ref l0), (1, .int l1), (2, .int l2), (3, .int (l3 + (1 : Int32)))]) [0, 1, 2, 3] rfl ?_
        exact h
theorem dX2_lastChoice_0 : decode cX2_lastChoice 0 = .ok (.iconst (-1), 1) := by decide +kernel
theorem dX2_lastChoice_1 : decode cX2_lastChoice 1 = .ok (.istore 4, 2) := by decide +kernel
theorem dX2_lastChoice_3 : decode cX2_lastChoice 3 = .ok (.iconst 0, 1) := by decide +kernel
theorem dX2_lastChoice_4 : decode cX2_lastChoice 4 = .ok (.istore 5, 2) := by decide +kernel
theorem dX2_lastChoice_6 : decode cX2_lastChoice 6 = .ok (.iload 5, 2) := by decide +kernel
theorem dX2_lastChoice_8 : decode cX2_lastChoice 8 = .ok (.iload_n 3, 1) := by decide +kernel
theorem dX2_lastChoice_9 : decode cX2_lastChoice 9 = .ok (.if_icmp .ge 69, 3) := by decide +kernel
theorem dX2_lastChoice_12 : decode cX2_lastChoice 12 = .ok (.iload 5, 2) := by decide +kernel
theorem dX2_lastChoice_14 : decode cX2_lastChoice 14 = .ok (.aload_n 0, 1) := by decide +kernel
theorem dX2_lastChoice_15 : decode cX2_lastChoice 15 = .ok (.getfield 31, 3) := by decide +kernel
theorem dX2_lastChoice_18 : decode cX2_lastChoice 18 = .ok (.if_icmp .ge 60, 3) := by decide +kernel
theorem dX2_lastChoice_21 : decode cX2_lastChoice 21 = .ok (.aload_n 0, 1) := by decide +kernel
theorem dX2_lastChoice_22 : decode cX2_lastChoice 22 = .ok (.getfield 9, 3) := by decide +kernel
theorem dX2_lastChoice_25 : decode cX2_lastChoice 25 = .ok (.iload 5, 2) := by decide +kernel
theorem dX2_lastChoice_27 : decode cX2_lastChoice 27 = .ok (.iaload, 1) := by decide +kernel
theorem dX2_lastChoice_28 : decode cX2_lastChoice 28 = .ok (.ifCond .ne 44, 3) := by decide +kernel
theorem dX2_lastChoice_31 : decode cX2_lastChoice 31 = .ok (.aload_n 0, 1) := by decide +kernel
theorem dX2_lastChoice_32 : decode cX2_lastChoice 32 = .ok (.getfield 24, 3) := by decide +kernel
theorem dX2_lastChoice_35 : decode cX2_lastChoice 35 = .ok (.iload 5, 2) := by decide +kernel
theorem dX2_lastChoice_37 : decode cX2_lastChoice 37 = .ok (.baload, 1) := by decide +kernel
theorem dX2_lastChoice_38 : decode cX2_lastChoice 38 = .ok (.ifCond .ne 34, 3) := by decide +kernel
theorem dX2_lastChoice_41 : decode cX2_lastChoice 41 = .ok (.aload_n 0, 1) := by decide +kernel
theorem dX2_lastChoice_42 : decode cX2_lastChoice 42 = .ok (.getfield 15, 3) := by decide +kernel
theorem dX2_lastChoice_45 : decode cX2_lastChoice 45 = .ok (.iload 5, 2) := by decide +kernel
theorem dX2_lastChoice_47 : decode cX2_lastChoice 47 = .ok (.iaload, 1) := by decide +kernel
theorem dX2_lastChoice_48 : decode cX2_lastChoice 48 = .ok (.iload_n 1, 1) := by decide +kernel
theorem dX2_lastChoice_49 : decode cX2_lastChoice 49 = .ok (.if_icmp .ne 23, 3) := by decide +kernel
theorem dX2_lastChoice_52 : decode cX2_lastChoice 52 = .ok (.aload_n 0, 1) := by decide +kernel
theorem dX2_lastChoice_53 : decode cX2_lastChoice 53 = .ok (.getfield 18, 3) := by decide +kernel
theorem dX2_lastChoice_56 : decode cX2_lastChoice 56 = .ok (.iload 5, 2) := by decide +kernel
theorem dX2_lastChoice_58 : decode cX2_lastChoice 58 = .ok (.iaload, 1) := by decide +kernel
theorem dX2_lastChoice_59 : decode cX2_lastChoice 59 = .ok (.iload_n 2, 1) := by decide +kernel
theorem dX2_lastChoice_60 : decode cX2_lastChoice 60 = .ok (.if_icmp .ne 12, 3) := by decide +kernel
theorem dX2_lastChoice_63 : decode cX2_lastChoice 63 = .ok (.aload_n 0, 1) := by decide +kernel
theorem dX2_lastChoice_64 : decode cX2_lastChoice 64 = .ok (.getfield 21, 3) := by decide +kernel
theorem dX2_lastChoice_67 : decode cX2_lastChoice 67 = .ok (.iload 5, 2) := by decide +kernel
theorem dX2_lastChoice_69 : decode cX2_lastChoice 69 = .ok (.iaload, 1) := by decide +kernel
theorem dX2_lastChoice_70 : decode cX2_lastChoice 70 = .ok (.istore 4, 2) := by decide +kernel
theorem dX2_lastChoice_72 : decode cX2_lastChoice 72 = .ok (.iinc 5 1, 3) := by decide +kernel
theorem dX2_lastChoice_75 : decode cX2_lastChoice 75 = .ok (.goto (-69), 3) := by decide +kernel
theorem dX2_lastChoice_78 : decode cX2_lastChoice 78 = .ok (.iload 4, 2) := by decide +kernel
theorem dX2_lastChoice_80 : decode cX2_lastChoice 80 = .ok (.ireturn, 1) := by decide +kernel
theorem b_X2_lastChoice (mm : MM) (Q : Value → MM → Prop) (t0 : Nat) (a1 : Int32) (a2 : Int32) (a3 : Int32) (h0 : AtLogs t0) (h : G e_X2_lastChoice 6 [(0, .ref t0), (1, .int a1), (2, .int a2), (3, .int a3), (4, .int (-1 : Int32)), (5, .int (0 : Int32))] [] mm Q) : Runs e_X2_lastChoice [.ref t0, .int a1, .int a2, .int a3] mm Q := by
  refine runs_of_G (L := [(0, .ref t0), (1, .int a1), (2, .int a2), (3, .int a3)]) pl_X2 (Nat.le_of_ble_eq_true rfl) rfl ?_
  refine g_iconst (pc := 0) (v := (-1 : Int32)) dX2_lastChoice_0 (by decide) ?_
  refine g_istore (pc := 1) (L' := [(0, .ref t0), (1, .int a1), (2, .int a2), (3, .int a3), (4, .int (-1 : Int32))]) dX2_lastChoice_1 (Nat.le_of_ble_eq_true rfl) rfl ?_
  refine g_iconst (pc := 3) (v := (0 : Int32)) dX2_lastChoice_3 (by decide) ?_
  refine g_istore (pc := 4) (L' := [(0, .ref t0), (1, .int a1), (2, .int a2), (3, .int a3), (4, .int (-1 : Int32)), (5, .int (0 : Int32))]) dX2_lastChoice_4 (Nat.le_of_ble_eq_true rfl) rfl ?_
  exact h
theorem b_X2_lastChoice_6 (mm : MM) (Q : Value → MM → Prop) (l0 : Nat) (l1 : Int32) (l2 : Int32) (l3 : Int32) (l4 : Int32) (l5 : Int32) (k0 : AtLogs l0) (h : (l3 ≤ l5 → (Q (.int l4) mm)) ∧ (¬ l3 ≤ l5 → (((mm.1 l0 6) ≤ l5 → (Q (.int l4) mm)) ∧ (¬ (mm.1 l0 6) ≤ l5 → (vp_in l5 60 ∧ ((¬ (mm.1 (l0 + 1) l5.toNatClampNeg) = 0 → (G e_X2_lastChoice 6 [(0, .ref l0), (1, .int l1), (2, .int l2), (3, .int l3), (4, .int l4), (5, .int (l5 + (1 : Int32)))] [] mm Q)) ∧ ((mm.1 (l0 + 1) l5.toNatClampNeg) = 0 → (vp_in l5 60 ∧ ((¬ (mm.1 (l0 + 5) l5.toNatClampNeg) = 0 → (G e_X2_lastChoice 6 [(0, .ref l0), (1, .int l1), (2, .int l2), (3, .int l3), (4, .int l4), (5, .int (l5 + (1 : Int32)))] [] mm Q)) ∧ ((mm.1 (l0 + 5) l5.toNatClampNeg) = 0 → (vp_in l5 60 ∧ ((¬ (mm.1 (l0 + 2) l5.toNatClampNeg) = l1 → (G e_X2_lastChoice 6 [(0, .ref l0), (1, .int l1), (2, .int l2), (3, .int l3), (4, .int l4), (5, .int (l5 + (1 : Int32)))] [] mm Q)) ∧ ((mm.1 (l0 + 2) l5.toNatClampNeg) = l1 → (vp_in l5 60 ∧ ((¬ (mm.1 (l0 + 3) l5.toNatClampNeg) = l2 → (G e_X2_lastChoice 6 [(0, .ref l0), (1, .int l1), (2, .int l2), (3, .int l3), (4, .int l4), (5, .int (l5 + (1 : Int32)))] [] mm Q)) ∧ ((mm.1 (l0 + 3) l5.toNatClampNeg) = l2 → (vp_in l5 60 ∧ (G e_X2_lastChoice 6 [(0, .ref l0), (1, .int l1), (2, .int l2), (3, .int l3), (4, .int (mm.1 (l0 + 4) l5.toNatClampNeg)), (5, .int (l5 + (1 : Int32)))] [] mm Q)))))))))))))))))) : G e_X2_lastChoice 6 [(0, .ref l0), (1, .int l1), (2, .int l2), (3, .int l3), (4, .int l4), (5, .int l5)] [] mm Q := by
  refine g_iload (pc := 6) (x := l5) dX2_lastChoice_6 rfl ?_
  refine g_iload_n (pc := 8) (x := l3) dX2_lastChoice_8 rfl ?_
  refine g_icmp_ge (pc := 9) (tgt := 78) dX2_lastChoice_9 (by decide) (fun c9 => ?_) (fun c9 => ?_)
  · have h := h.1 c9
    refine g_iload (pc := 78) (x := l4) dX2_lastChoice_78 rfl ?_
    exact g_iret (pc := 80) dX2_lastChoice_80 rfl rfl rfl h
  · have h := h.2 c9
    refine g_iload (pc := 12) (x := l5) dX2_lastChoice_12 rfl ?_
    refine g_aload_n (pc := 14) (x := l0) dX2_lastChoice_14 rfl ?_
    refine g_getI (pc := 15) dX2_lastChoice_15 fo_X2_31 (AtLogs_0 k0) rfl ?_
    refine g_icmp_ge (pc := 18) (tgt := 78) dX2_lastChoice_18 (by decide) (fun c18 => ?_) (fun c18 => ?_)
    · have h := h.1 c18
      refine g_iload (pc := 78) (x := l4) dX2_lastChoice_78 rfl ?_
      exact g_iret (pc := 80) dX2_lastChoice_80 rfl rfl rfl h
    · have h := h.2 c18
      refine g_aload_n (pc := 21) (x := l0) dX2_lastChoice_21 rfl ?_
      refine g_getR (pc := 22) (dd := 1) dX2_lastChoice_22 fo_X2_9 (AtLogs_0 k0) rfl ?_
      refine g_iload (pc := 25) (x := l5) dX2_lastChoice_25 rfl ?_
      refine g_iaload (pc := 27) dX2_lastChoice_27 (AtLogs_1 k0) h.1 ?_
      have h := h.2
      refine g_if_ne (pc := 28) (tgt := 72) dX2_lastChoice_28 (by decide) (fun c28 => ?_) (fun c28 => ?_)
      · have h := h.1 c28
        refine g_iinc (pc := 72) (x := l5) (v := (l5 + (1 : Int32))) (L' := [(0, .ref l0), (1, .int l1), (2, .int l2), (3, .int l3), (4, .int l4), (5, .int (l5 + (1 : Int32)))]) dX2_lastChoice_72 rfl rfl (Nat.le_of_ble_eq_true rfl) rfl ?_
        refine g_goto (pc := 75) (tgt := 6) dX2_lastChoice_75 (by decide) ?_
        exact h
      · have h := h.2 c28
        refine g_aload_n (pc := 31) (x := l0) dX2_lastChoice_31 rfl ?_
        refine g_getR (pc := 32) (dd := 5) dX2_lastChoice_32 fo_X2_24 (AtLogs_0 k0) rfl ?_
        refine g_iload (pc := 35) (x := l5) dX2_lastChoice_35 rfl ?_
        refine g_zaload (pc := 37) dX2_lastChoice_37 (AtLogs_5 k0) h.1 ?_
        have h := h.2
        refine g_if_ne (pc := 38) (tgt := 72) dX2_lastChoice_38 (by decide) (fun c38 => ?_) (fun c38 => ?_)
        · have h := h.1 c38
          refine g_iinc (pc := 72) (x := l5) (v := (l5 + (1 : Int32))) (L' := [(0, .ref l0), (1, .int l1), (2, .int l2), (3, .int l3), (4, .int l4), (5, .int (l5 + (1 : Int32)))]) dX2_lastChoice_72 rfl rfl (Nat.le_of_ble_eq_true rfl) rfl ?_
          refine g_goto (pc := 75) (tgt := 6) dX2_lastChoice_75 (by decide) ?_
          exact h
        · have h := h.2 c38
          refine g_aload_n (pc := 41) (x := l0) dX2_lastChoice_41 rfl ?_
          refine g_getR (pc := 42) (dd := 2) dX2_lastChoice_42 fo_X2_15 (AtLogs_0 k0) rfl ?_
          refine g_iload (pc := 45) (x := l5) dX2_lastChoice_45 rfl ?_
          refine g_iaload (pc := 47) dX2_lastChoice_47 (AtLogs_2 k0) h.1 ?_
          have h := h.2
          refine g_iload_n (pc := 48) (x := l1) dX2_lastChoice_48 rfl ?_
          refine g_icmp_ne (pc := 49) (tgt := 72) dX2_lastChoice_49 (by decide) (fun c49 => ?_) (fun c49 => ?_)
          · have h := h.1 c49
            refine g_iinc (pc := 72) (x := l5) (v := (l5 + (1 : Int32))) (L' := [(0, .ref l0), (1, .int l1), (2, .int l2), (3, .int l3), (4, .int l4), (5, .int (l5 + (1 : Int32)))]) dX2_lastChoice_72 rfl rfl (Nat.le_of_ble_eq_true rfl) rfl ?_
            refine g_goto (pc := 75) (tgt := 6) dX2_lastChoice_75 (by decide) ?_
            exact h
          · have h := h.2 c49
            refine g_aload_n (pc := 52) (x := l0) dX2_lastChoice_52 rfl ?_
            refine g_getR (pc := 53) (dd := 3) dX2_lastChoice_53 fo_X2_18 (AtLogs_0 k0) rfl ?_
            refine g_iload (pc := 56) (x := l5) dX2_lastChoice_56 rfl ?_
            refine g_iaload (pc := 58) dX2_lastChoice_58 (AtLogs_3 k0) h.1 ?_
            have h := h.2
            refine g_iload_n (pc := 59) (x := l2) dX2_lastChoice_59 rfl ?_
            refine g_icmp_ne (pc := 60) (tgt := 72) dX2_lastChoice_60 (by decide) (fun c60 => ?_) (fun c60 => ?_)
            · have h := h.1 c60
              refine g_iinc (pc := 72) (x := l5) (v := (l5 + (1 : Int32))) (L' := [(0, .ref l0), (1, .int l1), (2, .int l2), (3, .int l3), (4, .int l4), (5, .int (l5 + (1 : Int32)))]) dX2_lastChoice_72 rfl rfl (Nat.le_of_ble_eq_true rfl) rfl ?_
              refine g_goto (pc := 75) (tgt := 6) dX2_lastChoice_75 (by decide) ?_
              exact h
            · have h := h.2 c60
              refine g_aload_n (pc := 63) (x := l0) dX2_lastChoice_63 rfl ?_
              refine g_getR (pc := 64) (dd := 4) dX2_lastChoice_64 fo_X2_21 (AtLogs_0 k0) rfl ?_
              refine g_iload (pc := 67) (x := l5) dX2_lastChoice_67 rfl ?_
              refine g_iaload (pc := 69) dX2_lastChoice_69 (AtLogs_4 k0) h.1 ?_
              have h := h.2
              refine g_istore (pc := 70) (L' := [(0, .ref l0), (1, .int l1), (2, .int l2), (3, .int l3), (4, .int (mm.1 (l0 + 4) l5.toNatClampNeg)), (5, .int l5)]) dX2_lastChoice_70 (Nat.le_of_ble_eq_true rfl) rfl ?_
              refine g_iinc (pc := 72) (x := l5) (v := (l5 + (1 : Int32))) (L' := [(0, .ref l0), (1, .int l1), (2, .int l2), (3, .int l3), (4, .int (mm.1 (l0 + 4) l5.toNatClampNeg)), (5, .int (l5 + (1 : Int32)))]) dX2_lastChoice_72 rfl rfl (Nat.le_of_ble_eq_true rfl) rfl ?_
              refine g_goto (pc := 75) (tgt := 6) dX2_lastChoice_75 (by decide) ?_
              exact h
theorem dX2_endsOf_0 : decode cX2_endsOf 0 = .ok (.aload_n 0, 1) := by decide +kernel
theorem dX2_endsOf_1 : decode cX2_endsOf 1 = .ok (.iload 4, 2) := by decide +kernel
theorem dX2_endsOf_3 : decode cX2_endsOf 3 = .ok (.invokevirtual 41, 3) := by decide +kernel
theorem dX2_endsOf_6 : decode cX2_endsOf 6 = .ok (.iconst 0, 1) := by decide +kernel
theorem dX2_endsOf_7 : decode cX2_endsOf 7 = .ok (.istore 5, 2) := by decide +kernel
theorem dX2_endsOf_9 : decode cX2_endsOf 9 = .ok (.bipush 99, 2) := by decide +kernel
theorem dX2_endsOf_11 : decode cX2_endsOf 11 = .ok (.istore 6, 2) := by decide +kernel
theorem dX2_endsOf_13 : decode cX2_endsOf 13 = .ok (.iconst 0, 1) := by decide +kernel
theorem dX2_endsOf_14 : decode cX2_endsOf 14 = .ok (.istore 7, 2) := by decide +kernel
theorem dX2_endsOf_16 : decode cX2_endsOf 16 = .ok (.iload 7, 2) := by decide +kernel
theorem dX2_endsOf_18 : decode cX2_endsOf 18 = .ok (.iload 4, 2) := by decide +kernel
theorem dX2_endsOf_20 : decode cX2_endsOf 20 = .ok (.if_icmp .ge 91, 3) := by decide +kernel
theorem dX2_endsOf_23 : decode cX2_endsOf 23 = .ok (.iload 7, 2) := by decide +kernel
theorem dX2_endsOf_25 : decode cX2_endsOf 25 = .ok (.aload_n 0, 1) := by decide +kernel
theorem dX2_endsOf_26 : decode cX2_endsOf 26 = .ok (.getfield 31, 3) := by decide +kernel
theorem dX2_endsOf_29 : decode cX2_endsOf 29 = .ok (.if_icmp .ge 82, 3) := by decide +kernel
theorem dX2_endsOf_32 : decode cX2_endsOf 32 = .ok (.aload_n 0, 1) := by decide +kernel
theorem dX2_endsOf_33 : decode cX2_endsOf 33 = .ok (.iload 7, 2) := by decide +kernel
theorem dX2_endsOf_35 : decode cX2_endsOf 35 = .ok (.iload_n 1, 1) := by decide +kernel
theorem dX2_endsOf_36 : decode cX2_endsOf 36 = .ok (.invokevirtual 49, 3) := by decide +kernel
theorem dX2_endsOf_39 : decode cX2_endsOf 39 = .ok (.ifCond .eq 66, 3) := by decide +kernel
theorem dX2_endsOf_42 : decode cX2_endsOf 42 = .ok (.aload_n 0, 1) := by decide +kernel
theorem dX2_endsOf_43 : decode cX2_endsOf 43 = .ok (.iload 7, 2) := by decide +kernel
theorem dX2_endsOf_45 : decode cX2_endsOf 45 = .ok (.iload_n 3, 1) := by decide +kernel
theorem dX2_endsOf_46 : decode cX2_endsOf 46 = .ok (.invokevirtual 53, 3) := by decide +kernel
theorem dX2_endsOf_49 : decode cX2_endsOf 49 = .ok (.ifCond .eq 6, 3) := by decide +kernel
theorem dX2_endsOf_52 : decode cX2_endsOf 52 = .ok (.bipush (-2), 2) := by decide +kernel
theorem dX2_endsOf_54 : decode cX2_endsOf 54 = .ok (.ireturn, 1) := by decide +kernel
theorem dX2_endsOf_55 : decode cX2_endsOf 55 = .ok (.iload_n 3, 1) := by decide +kernel
theorem dX2_endsOf_56 : decode cX2_endsOf 56 = .ok (.iload_n 2, 1) := by decide +kernel
theorem dX2_endsOf_57 : decode cX2_endsOf 57 = .ok (.aload_n 0, 1) := by decide +kernel
theorem dX2_endsOf_58 : decode cX2_endsOf 58 = .ok (.getfield 18, 3) := by decide +kernel
theorem dX2_endsOf_61 : decode cX2_endsOf 61 = .ok (.iload 7, 2) := by decide +kernel
theorem dX2_endsOf_63 : decode cX2_endsOf 63 = .ok (.iaload, 1) := by decide +kernel
theorem dX2_endsOf_64 : decode cX2_endsOf 64 = .ok (.isub, 1) := by decide +kernel
theorem dX2_endsOf_65 : decode cX2_endsOf 65 = .ok (.invokestatic 56, 3) := by decide +kernel
theorem dX2_endsOf_68 : decode cX2_endsOf 68 = .ok (.imul, 1) := by decide +kernel
theorem dX2_endsOf_69 : decode cX2_endsOf 69 = .ok (.istore 8, 2) := by decide +kernel
theorem dX2_endsOf_71 : decode cX2_endsOf 71 = .ok (.iload 5, 2) := by decide +kernel
theorem dX2_endsOf_73 : decode cX2_endsOf 73 = .ok (.aload_n 0, 1) := by decide +kernel
theorem dX2_endsOf_74 : decode cX2_endsOf 74 = .ok (.getfield 21, 3) := by decide +kernel
theorem dX2_endsOf_77 : decode cX2_endsOf 77 = .ok (.iload 7, 2) := by decide +kernel
theorem dX2_endsOf_79 : decode cX2_endsOf 79 = .ok (.iaload, 1) := by decide +kernel
theorem dX2_endsOf_80 : decode cX2_endsOf 80 = .ok (.iload 8, 2) := by decide +kernel
theorem dX2_endsOf_82 : decode cX2_endsOf 82 = .ok (.isub, 1) := by decide +kernel
theorem dX2_endsOf_83 : decode cX2_endsOf 83 = .ok (.invokestatic 62, 3) := by decide +kernel
theorem dX2_endsOf_86 : decode cX2_endsOf 86 = .ok (.istore 5, 2) := by decide +kernel
theorem dX2_endsOf_88 : decode cX2_endsOf 88 = .ok (.iload 6, 2) := by decide +kernel
theorem dX2_endsOf_90 : decode cX2_endsOf 90 = .ok (.aload_n 0, 1) := by decide +kernel
theorem dX2_endsOf_91 : decode cX2_endsOf 91 = .ok (.getfield 21, 3) := by decide +kernel
theorem dX2_endsOf_94 : decode cX2_endsOf 94 = .ok (.iload 7, 2) := by decide +kernel
theorem dX2_endsOf_96 : decode cX2_endsOf 96 = .ok (.iaload, 1) := by decide +kernel
theorem dX2_endsOf_97 : decode cX2_endsOf 97 = .ok (.iload 8, 2) := by decide +kernel
theorem dX2_endsOf_99 : decode cX2_endsOf 99 = .ok (.iadd, 1) := by decide +kernel
theorem dX2_endsOf_100 : decode cX2_endsOf 100 = .ok (.invokestatic 66, 3) := by decide +kernel
theorem dX2_endsOf_103 : decode cX2_endsOf 103 = .ok (.istore 6, 2) := by decide +kernel
theorem dX2_endsOf_105 : decode cX2_endsOf 105 = .ok (.iinc 7 1, 3) := by decide +kernel
theorem dX2_endsOf_108 : decode cX2_endsOf 108 = .ok (.goto (-92), 3) := by decide +kernel
theorem dX2_endsOf_111 : decode cX2_endsOf 111 = .ok (.iload 5, 2) := by decide +kernel
theorem dX2_endsOf_113 : decode cX2_endsOf 113 = .ok (.iload 6, 2) := by decide +kernel
theorem dX2_endsOf_115 : decode cX2_endsOf 115 = .ok (.if_icmp .le 8, 3) := by decide +kernel
theorem dX2_endsOf_118 : decode cX2_endsOf 118 = .ok (.bipush (-2), 2) := by decide +kernel
theorem dX2_endsOf_120 : decode cX2_endsOf 120 = .ok (.goto 11, 3) := by decide +kernel
theorem dX2_endsOf_123 : decode cX2_endsOf 123 = .ok (.bipush 100, 2) := by decide +kernel
theorem dX2_endsOf_125 : decode cX2_endsOf 125 = .ok (.iload 5, 2) := by decide +kernel
theorem dX2_endsOf_127 : decode cX2_endsOf 127 = .ok (.imul, 1) := by decide +kernel
theorem dX2_endsOf_128 : decode cX2_endsOf 128 = .ok (.iload 6, 2) := by decide +kernel
theorem dX2_endsOf_130 : decode cX2_endsOf 130 = .ok (.iadd, 1) := by decide +kernel
theorem dX2_endsOf_131 : decode cX2_endsOf 131 = .ok (.ireturn, 1) := by decide +kernel
theorem b_X2_endsOf (mm : MM) (Q : Value → MM → Prop) (t0 : Nat) (a1 : Int32) (a2 : Int32) (a3 : Int32) (a4 : Int32) (h0 : AtLogs t0) (h : ∃ Pm1 : Value → MM → Prop, Runs e_X2_strike [.ref t0, .int a4] mm Pm1 ∧ ∀ m1, Pm1 .null m1 → (G e_X2_endsOf 16 [(0, .ref t0), (1, .int a1), (2, .int a2), (3, .int a3), (4, .int a4), (5, .int (0 : Int32)), (6, .int (99 : Int32)), (7, .int (0 : Int32))] [] m1 Q)) : Runs e_X2_endsOf [.ref t0, .int a1, .int a2, .int a3, .int a4] mm Q := by
  refine runs_of_G (L := [(0, .ref t0), (1, .int a1), (2, .int a2), (3, .int a3), (4, .int a4)]) pl_X2 (Nat.le_of_ble_eq_true rfl) rfl ?_
  refine g_aload_n (pc := 0) (x := t0) dX2_endsOf_0 rfl ?_
  refine g_iload (pc := 1) (x := a4) dX2_endsOf_1 rfl ?_
  obtain ⟨Pm1, hRm1, h⟩ := h
  refine g_callV (pc := 3) (as := [.int a4]) dX2_endsOf_3 cw_X2_41 (by decide) rfl rfl (AtLogs_0 h0) (Nat.le_of_ble_eq_true rfl) hRm1 ?_
  intro r_ m1 hz_ hp_
  obtain rfl := hz_
  have h := h m1 hp_
  refine g_iconst (pc := 6) (v := (0 : Int32)) dX2_endsOf_6 (by decide) ?_
  refine g_istore (pc := 7) (L' := [(0, .ref t0), (1, .int a1), (2, .int a2), (3, .int a3), (4, .int a4), (5, .int (0 : Int32))]) dX2_endsOf_7 (Nat.le_of_ble_eq_true rfl) rfl ?_
  refine g_bipush (pc := 9) (v := (99 : Int32)) dX2_endsOf_9 (by decide) ?_
  refine g_istore (pc := 11) (L' := [(0, .ref t0), (1, .int a1), (2, .int a2), (3, .int a3), (4, .int a4), (5, .int (0 : Int32)), (6, .int (99 : Int32))]) dX2_endsOf_11 (Nat.le_of_ble_eq_true rfl) rfl ?_
  refine g_iconst (pc := 13) (v := (0 : Int32)) dX2_endsOf_13 (by decide) ?_
  refine g_istore (pc := 14) (L' := [(0, .ref t0), (1, .int a1), (2, .int a2), (3, .int a3), (4, .int a4), (5, .int (0 : Int32)), (6, .int (99 : Int32)), (7, .int (0 : Int32))]) dX2_endsOf_14 (Nat.le_of_ble_eq_true rfl) rfl ?_
  exact h
theorem dX2_isMarkOf_0 : decode cX2_isMarkOf 0 = .ok (.aload_n 0, 1) := by decide +kernel
theorem dX2_isMarkOf_1 : decode cX2_isMarkOf 1 = .ok (.getfield 9, 3) := by decide +kernel
theorem dX2_isMarkOf_4 : decode cX2_isMarkOf 4 = .ok (.iload_n 1, 1) := by decide +kernel
theorem dX2_isMarkOf_5 : decode cX2_isMarkOf 5 = .ok (.iaload, 1) := by decide +kernel
theorem dX2_isMarkOf_6 : decode cX2_isMarkOf 6 = .ok (.iconst 1, 1) := by decide +kernel
theorem dX2_isMarkOf_7 : decode cX2_isMarkOf 7 = .ok (.if_icmp .ne 26, 3) := by decide +kernel
theorem dX2_isMarkOf_10 : decode cX2_isMarkOf 10 = .ok (.aload_n 0, 1) := by decide +kernel
theorem dX2_isMarkOf_11 : decode cX2_isMarkOf 11 = .ok (.getfield 24, 3) := by decide +kernel
theorem dX2_isMarkOf_14 : decode cX2_isMarkOf 14 = .ok (.iload_n 1, 1) := by decide +kernel
theorem dX2_isMarkOf_15 : decode cX2_isMarkOf 15 = .ok (.baload, 1) := by decide +kernel
theorem dX2_isMarkOf_16 : decode cX2_isMarkOf 16 = .ok (.ifCond .ne 17, 3) := by decide +kernel
theorem dX2_isMarkOf_19 : decode cX2_isMarkOf 19 = .ok (.aload_n 0, 1) := by decide +kernel
theorem dX2_isMarkOf_20 : decode cX2_isMarkOf 20 = .ok (.getfield 15, 3) := by decide +kernel
theorem dX2_isMarkOf_23 : decode cX2_isMarkOf 23 = .ok (.iload_n 1, 1) := by decide +kernel
theorem dX2_isMarkOf_24 : decode cX2_isMarkOf 24 = .ok (.iaload, 1) := by decide +kernel
theorem dX2_isMarkOf_25 : decode cX2_isMarkOf 25 = .ok (.iload_n 2, 1) := by decide +kernel
theorem dX2_isMarkOf_26 : decode cX2_isMarkOf 26 = .ok (.if_icmp .ne 7, 3) := by decide +kernel
theorem dX2_isMarkOf_29 : decode cX2_isMarkOf 29 = .ok (.iconst 1, 1) := by decide +kernel
theorem dX2_isMarkOf_30 : decode cX2_isMarkOf 30 = .ok (.goto 4, 3) := by decide +kernel
theorem dX2_isMarkOf_33 : decode cX2_isMarkOf 33 = .ok (.iconst 0, 1) := by decide +kernel
theorem dX2_isMarkOf_34 : decode cX2_isMarkOf 34 = .ok (.ireturn, 1) := by decide +kernel
def o_X2_isMarkOf (mm : MM) (t0 : Nat) (a1 : Int32) (a2 : Int32) : Prop := vp_in a1 60 ∧ ((¬ (mm.1 (t0 + 1) a1.toNatClampNeg) = (1 : Int32) → (True)) ∧ ((mm.1 (t0 + 1) a1.toNatClampNeg) = (1 : Int32) → (vp_in a1 60 ∧ ((¬ (mm.1 (t0 + 5) a1.toNatClampNeg) = 0 → (True)) ∧ ((mm.1 (t0 + 5) a1.toNatClampNeg) = 0 → (vp_in a1 60 ∧ ((¬ (mm.1 (t0 + 2) a1.toNatClampNeg) = a2 → (True)) ∧ ((mm.1 (t0 + 2) a1.toNatClampNeg) = a2 → (True)))))))))
def p_X2_isMarkOf (mm : MM) (t0 : Nat) (a1 : Int32) (a2 : Int32) : Prop := ((mm.1 (t0 + 1) a1.toNatClampNeg) = (1 : Int32) ∧ ((mm.1 (t0 + 5) a1.toNatClampNeg) = 0 ∧ (mm.1 (t0 + 2) a1.toNatClampNeg) = a2))
theorem rv_X2_isMarkOf (mm : MM) (t0 : Nat) (a1 : Int32) (a2 : Int32) (h0 : AtLogs t0) (h : o_X2_isMarkOf mm t0 a1 a2) : Runs e_X2_isMarkOf [.ref t0, .int a1, .int a2] mm (fun r m_ => ((p_X2_isMarkOf mm t0 a1 a2 ∧ r = .int 1) ∨ (¬ p_X2_isMarkOf mm t0 a1 a2 ∧ r = .int 0)) ∧ mm = m_) := by
  refine runs_of_G (L := [(0, .ref t0), (1, .int a1), (2, .int a2)]) pl_X2 (Nat.le_of_ble_eq_true rfl) rfl ?_
  unfold o_X2_isMarkOf at h
  refine g_aload_n (pc := 0) (x := t0) dX2_isMarkOf_0 rfl ?_
  refine g_getR (pc := 1) (dd := 1) dX2_isMarkOf_1 fo_X2_9 (AtLogs_0 h0) rfl ?_
  refine g_iload_n (pc := 4) (x := a1) dX2_isMarkOf_4 rfl ?_
  refine g_iaload (pc := 5) dX2_isMarkOf_5 (AtLogs_1 h0) h.1 ?_
  have h := h.2
  refine g_iconst (pc := 6) (v := (1 : Int32)) dX2_isMarkOf_6 (by decide) ?_
  refine g_icmp_ne (pc := 7) (tgt := 33) dX2_isMarkOf_7 (by decide) (fun c7 => ?_) (fun c7 => ?_)
  · have c7_0 : ¬ (mm.1 (t0 + 1) a1.toNatClampNeg) = (1 : Int32) := c7
    have h := h.1 c7
    refine g_iconst (pc := 33) (v := (0 : Int32)) dX2_isMarkOf_33 (by decide) ?_
    exact g_iret (pc := 34) dX2_isMarkOf_34 rfl rfl (nar_B isB0) ⟨Or.inr ⟨(show ¬ p_X2_isMarkOf mm t0 a1 a2 from (fun h_ => (c7_0 h_.1))), rfl⟩, rfl⟩
  · have c7_0 : (mm.1 (t0 + 1) a1.toNatClampNeg) = (1 : Int32) := c7
    have h := h.2 c7
    refine g_aload_n (pc := 10) (x := t0) dX2_isMarkOf_10 rfl ?_
    refine g_getR (pc := 11) (dd := 5) dX2_isMarkOf_11 fo_X2_24 (AtLogs_0 h0) rfl ?_
    refine g_iload_n (pc := 14) (x := a1) dX2_isMarkOf_14 rfl ?_
    refine g_zaload (pc := 15) dX2_isMarkOf_15 (AtLogs_5 h0) h.1 ?_
    have h := h.2
    refine g_if_ne (pc := 16) (tgt := 33) dX2_isMarkOf_16 (by decide) (fun c16 => ?_) (fun c16 => ?_)
    · have c16_1 : ¬ (mm.1 (t0 + 5) a1.toNatClampNeg) = 0 := c16
      have h := h.1 c16
      refine g_iconst (pc := 33) (v := (0 : Int32)) dX2_isMarkOf_33 (by decide) ?_
      exact g_iret (pc := 34) dX2_isMarkOf_34 rfl rfl (nar_B isB0) ⟨Or.inr ⟨(show ¬ p_X2_isMarkOf mm t0 a1 a2 from (fun h_ => (fun h_ => (c16_1 h_.1)) h_.2)), rfl⟩, rfl⟩
    · have c16_1 : (mm.1 (t0 + 5) a1.toNatClampNeg) = 0 := c16
      have h := h.2 c16
      refine g_aload_n (pc := 19) (x := t0) dX2_isMarkOf_19 rfl ?_
      refine g_getR (pc := 20) (dd := 2) dX2_isMarkOf_20 fo_X2_15 (AtLogs_0 h0) rfl ?_
      refine g_iload_n (pc := 23) (x := a1) dX2_isMarkOf_23 rfl ?_
      refine g_iaload (pc := 24) dX2_isMarkOf_24 (AtLogs_2 h0) h.1 ?_
      have h := h.2
      refine g_iload_n (pc := 25) (x := a2) dX2_isMarkOf_25 rfl ?_
      refine g_icmp_ne (pc := 26) (tgt := 33) dX2_isMarkOf_26 (by decide) (fun c26 => ?_) (fun c26 => ?_)
      · have c26_2 : ¬ (mm.1 (t0 + 2) a1.toNatClampNeg) = a2 := c26
        refine g_iconst (pc := 33) (v := (0 : Int32)) dX2_isMarkOf_33 (by decide) ?_
        exact g_iret (pc := 34) dX2_isMarkOf_34 rfl rfl (nar_B isB0) ⟨Or.inr ⟨(show ¬ p_X2_isMarkOf mm t0 a1 a2 from (fun h_ => (fun h_ => c26_2 h_.2) h_.2)), rfl⟩, rfl⟩
      · have c26_2 : (mm.1 (t0 + 2) a1.toNatClampNeg) = a2 := c26
        refine g_iconst (pc := 29) (v := (1 : Int32)) dX2_isMarkOf_29 (by decide) ?_
        refine g_goto (pc := 30) (tgt := 34) dX2_isMarkOf_30 (by decide) ?_
        exact g_iret (pc := 34) dX2_isMarkOf_34 rfl rfl (nar_B isB1) ⟨Or.inl ⟨(show p_X2_isMarkOf mm t0 a1 a2 from ⟨c7_0, ⟨c16_1, c26_2⟩⟩), rfl⟩, rfl⟩
theorem b_X2_endsOf_16 (mm : MM) (Q : Value → MM → Prop) (l0 : Nat) (l1 : Int32) (l2 : Int32) (l3 : Int32) (l4 : Int32) (l5 : Int32) (l6 : Int32) (l7 : Int32) (k0 : AtLogs l0) (h : (l4 ≤ l7 → ((l5 ≤ l6 → (Q (.int (((100 : Int32) * l5) + l6)) mm)) ∧ (¬ l5 ≤ l6 → (Q (.int (-2 : Int32)) mm)))) ∧ (¬ l4 ≤ l7 → (((mm.1 l0 6) ≤ l7 → ((l5 ≤ l6 → (Q (.int (((100 : Int32) * l5) + l6)) mm)) ∧ (¬ l5 ≤ l6 → (Q (.int (-2 : Int32)) mm)))) ∧ (¬ (mm.1 l0 6) ≤ l7 → (o_X2_isMarkOf mm l0 l7 l1 ∧ ((p_X2_isMarkOf mm l0 l7 l1 → (∃ Pm1 : Value → MM → Prop, Runs e_X2_contradicted [.ref l0, .int l7, .int l3] mm Pm1 ∧ (∀ r m1, Pm1 r m1 → r = .int 1 ∨ r = .int 0) ∧ (∀ m1, Pm1 (.int 1) m1 → (Q (.int (-2 : Int32)) m1)) ∧ (∀ m1, Pm1 (.int 0) m1 → (vp_in l7 60 ∧ (vp_in l7 60 ∧ (vp_in l7 60 ∧ (G e_X2_endsOf 16 [(0, .ref l0), (1, .int l1), (2, .int l2), (3, .int l3), (4, .int l4), (5, .int (imax l5 ((m1.1 (l0 + 4) l7.toNatClampNeg) - (l3 * (iabs (l2 - (m1.1 (l0 + 3) l7.toNatClampNeg))))))), (6, .int (imin l6 ((m1.1 (l0 + 4) l7.toNatClampNeg) + (l3 * (iabs (l2 - (m1.1 (l0 + 3) l7.toNatClampNeg))))))), (7, .int (l7 + (1 : Int32)))] [] m1 Q))))))) ∧ (¬ p_X2_isMarkOf mm l0 l7 l1 → (G e_X2_endsOf 16 [(0, .ref l0), (1, .int l1), (2, .int l2), (3, .int l3), (4, .int l4), (5, .int l5), (6, .int l6), (7, .int (l7 + (1 : Int32)))] [] mm Q)))))))) : G e_X2_endsOf 16 [(0, .ref l0), (1, .int l1), (2, .int l2), (3, .int l3), (4, .int l4), (5, .int l5), (6, .int l6), (7, .int l7)] [] mm Q := by
  refine g_iload (pc := 16) (x := l7) dX2_endsOf_16 rfl ?_
  refine g_iload (pc := 18) (x := l4) dX2_endsOf_18 rfl ?_
  refine g_icmp_ge (pc := 20) (tgt := 111) dX2_endsOf_20 (by decide) (fun c20 => ?_) (fun c20 => ?_)
  · have h := h.1 c20
    refine g_iload (pc := 111) (x := l5) dX2_endsOf_111 rfl ?_
    refine g_iload (pc := 113) (x := l6) dX2_endsOf_113 rfl ?_
    refine g_icmp_le (pc := 115) (tgt := 123) dX2_endsOf_115 (by decide) (fun c115 => ?_) (fun c115 => ?_)
    · have h := h.1 c115
      refine g_bipush (pc := 123) (v := (100 : Int32)) dX2_endsOf_123 (by decide) ?_
      refine g_iload (pc := 125) (x := l5) dX2_endsOf_125 rfl ?_
      refine g_imul (pc := 127) dX2_endsOf_127 ?_
      refine g_iload (pc := 128) (x := l6) dX2_endsOf_128 rfl ?_
      refine g_iadd (pc := 130) dX2_endsOf_130 ?_
      exact g_iret (pc := 131) dX2_endsOf_131 rfl rfl rfl h
    · have h := h.2 c115
      refine g_bipush (pc := 118) (v := (-2 : Int32)) dX2_endsOf_118 (by decide) ?_
      refine g_goto (pc := 120) (tgt := 131) dX2_endsOf_120 (by decide) ?_
      exact g_iret (pc := 131) dX2_endsOf_131 rfl rfl rfl h
  · have h := h.2 c20
    refine g_iload (pc := 23) (x := l7) dX2_endsOf_23 rfl ?_
    refine g_aload_n (pc := 25) (x := l0) dX2_endsOf_25 rfl ?_
    refine g_getI (pc := 26) dX2_endsOf_26 fo_X2_31 (AtLogs_0 k0) rfl ?_
    refine g_icmp_ge (pc := 29) (tgt := 111) dX2_endsOf_29 (by decide) (fun c29 => ?_) (fun c29 => ?_)
    · have h := h.1 c29
      refine g_iload (pc := 111) (x := l5) dX2_endsOf_111 rfl ?_
      refine g_iload (pc := 113) (x := l6) dX2_endsOf_113 rfl ?_
      refine g_icmp_le (pc := 115) (tgt := 123) dX2_endsOf_115 (by decide) (fun c115 => ?_) (fun c115 => ?_)
      · have h := h.1 c115
        refine g_bipush (pc := 123) (v := (100 : Int32)) dX2_endsOf_123 (by decide) ?_
        refine g_iload (pc := 125) (x := l5) dX2_endsOf_125 rfl ?_
        refine g_imul (pc := 127) dX2_endsOf_127 ?_
        refine g_iload (pc := 128) (x := l6) dX2_endsOf_128 rfl ?_
        refine g_iadd (pc := 130) dX2_endsOf_130 ?_
        exact g_iret (pc := 131) dX2_endsOf_131 rfl rfl rfl h
      · have h := h.2 c115
        refine g_bipush (pc := 118) (v := (-2 : Int32)) dX2_endsOf_118 (by decide) ?_
        refine g_goto (pc := 120) (tgt := 131) dX2_endsOf_120 (by decide) ?_
        exact g_iret (pc := 131) dX2_endsOf_131 rfl rfl rfl h
    · have h := h.2 c29
      refine g_aload_n (pc := 32) (x := l0) dX2_endsOf_32 rfl ?_
      refine g_iload (pc := 33) (x := l7) dX2_endsOf_33 rfl ?_
      refine g_iload_n (pc := 35) (x := l1) dX2_endsOf_35 rfl ?_
      refine g_callV (pc := 36) (as := [.int l7, .int l1]) dX2_endsOf_36 cw_X2_49 (by decide) rfl rfl (AtLogs_0 k0) (Nat.le_of_ble_eq_true rfl) (rv_X2_isMarkOf mm l0 l7 l1 k0 h.1) ?_
      have h := h.2
      rintro r_ m_ hz_ ⟨⟨p_, rfl⟩ | ⟨p_, rfl⟩, rfl⟩
      · have h := h.1 p_
        refine g_if_eq (pc := 39) (tgt := 105) dX2_endsOf_39 (by decide) (fun c39 => absurd c39 (by decide)) (fun _ => ?_)
        refine g_aload_n (pc := 42) (x := l0) dX2_endsOf_42 rfl ?_
        refine g_iload (pc := 43) (x := l7) dX2_endsOf_43 rfl ?_
        refine g_iload_n (pc := 45) (x := l3) dX2_endsOf_45 rfl ?_
        obtain ⟨Pm1, hRm1, h⟩ := h
        refine g_callV (pc := 46) (as := [.int l7, .int l3]) dX2_endsOf_46 cw_X2_53 (by decide) rfl rfl (AtLogs_0 k0) (Nat.le_of_ble_eq_true rfl) hRm1 ?_
        intro r_ m1 hz_ hp_
        rcases h.1 r_ m1 hp_ with rfl | rfl
        · have h := h.2.1 m1 hp_
          refine g_if_eq (pc := 49) (tgt := 55) dX2_endsOf_49 (by decide) (fun c49 => absurd c49 (by decide)) (fun _ => ?_)
          refine g_bipush (pc := 52) (v := (-2 : Int32)) dX2_endsOf_52 (by decide) ?_
          exact g_iret (pc := 54) dX2_endsOf_54 rfl rfl rfl h
        · have h := h.2.2 m1 hp_
          refine g_if_eq (pc := 49) (tgt := 55) dX2_endsOf_49 (by decide) (fun _ => ?_) (fun c49 => absurd c49 (by decide))
          refine g_iload_n (pc := 55) (x := l3) dX2_endsOf_55 rfl ?_
          refine g_iload_n (pc := 56) (x := l2) dX2_endsOf_56 rfl ?_
          refine g_aload_n (pc := 57) (x := l0) dX2_endsOf_57 rfl ?_
          refine g_getR (pc := 58) (dd := 3) dX2_endsOf_58 fo_X2_18 (AtLogs_0 k0) rfl ?_
          refine g_iload (pc := 61) (x := l7) dX2_endsOf_61 rfl ?_
          refine g_iaload (pc := 63) dX2_endsOf_63 (AtLogs_3 k0) h.1 ?_
          have h := h.2
          refine g_isub (pc := 64) dX2_endsOf_64 ?_
          refine g_mabs (pc := 65) dX2_endsOf_65 cw_X2_56 (by decide) (Nat.le_of_ble_eq_true rfl) ?_
          refine g_imul (pc := 68) dX2_endsOf_68 ?_
          refine g_istore (pc := 69) (L' := [(0, .ref l0), (1, .int l1), (2, .int l2), (3, .int l3), (4, .int l4), (5, .int l5), (6, .int l6), (7, .int l7), (8, .int (l3 * (iabs (l2 - (m1.1 (l0 + 3) l7.toNatClampNeg)))))]) dX2_endsOf_69 (Nat.le_of_ble_eq_true rfl) rfl ?_
          refine g_iload (pc := 71) (x := l5) dX2_endsOf_71 rfl ?_
          refine g_aload_n (pc := 73) (x := l0) dX2_endsOf_73 rfl ?_
          refine g_getR (pc := 74) (dd := 4) dX2_endsOf_74 fo_X2_21 (AtLogs_0 k0) rfl ?_
          refine g_iload (pc := 77) (x := l7) dX2_endsOf_77 rfl ?_
          refine g_iaload (pc := 79) dX2_endsOf_79 (AtLogs_4 k0) h.1 ?_
          have h := h.2
          refine g_iload (pc := 80) (x := (l3 * (iabs (l2 - (m1.1 (l0 + 3) l7.toNatClampNeg))))) dX2_endsOf_80 rfl ?_
          refine g_isub (pc := 82) dX2_endsOf_82 ?_
          refine g_mmax (pc := 83) dX2_endsOf_83 cw_X2_62 (by decide) (Nat.le_of_ble_eq_true rfl) ?_
          refine g_istore (pc := 86) (L' := [(0, .ref l0), (1, .int l1), (2, .int l2), (3, .int l3), (4, .int l4), (5, .int (imax l5 ((m1.1 (l0 + 4) l7.toNatClampNeg) - (l3 * (iabs (l2 - (m1.1 (l0 + 3) l7.toNatClampNeg))))))), (6, .int l6), (7, .int l7), (8, .int (l3 * (iabs (l2 - (m1.1 (l0 + 3) l7.toNatClampNeg)))))]) dX2_endsOf_86 (Nat.le_of_ble_eq_true rfl) rfl ?_
          refine g_iload (pc := 88) (x := l6) dX2_endsOf_88 rfl ?_
          refine g_aload_n (pc := 90) (x := l0) dX2_endsOf_90 rfl ?_
          refine g_getR (pc := 91) (dd := 4) dX2_endsOf_91 fo_X2_21 (AtLogs_0 k0) rfl ?_
          refine g_iload (pc := 94) (x := l7) dX2_endsOf_94 rfl ?_
          refine g_iaload (pc := 96) dX2_endsOf_96 (AtLogs_4 k0) h.1 ?_
          have h := h.2
          refine g_iload (pc := 97) (x := (l3 * (iabs (l2 - (m1.1 (l0 + 3) l7.toNatClampNeg))))) dX2_endsOf_97 rfl ?_
          refine g_iadd (pc := 99) dX2_endsOf_99 ?_
          refine g_mmin (pc := 100) dX2_endsOf_100 cw_X2_66 (by decide) (Nat.le_of_ble_eq_true rfl) ?_
          refine g_istore (pc := 103) (L' := [(0, .ref l0), (1, .int l1), (2, .int l2), (3, .int l3), (4, .int l4), (5, .int (imax l5 ((m1.1 (l0 + 4) l7.toNatClampNeg) - (l3 * (iabs (l2 - (m1.1 (l0 + 3) l7.toNatClampNeg))))))), (6, .int (imin l6 ((m1.1 (l0 + 4) l7.toNatClampNeg) + (l3 * (iabs (l2 - (m1.1 (l0 + 3) l7.toNatClampNeg))))))), (7, .int l7), (8, .int (l3 * (iabs (l2 - (m1.1 (l0 + 3) l7.toNatClampNeg)))))]) dX2_endsOf_103 (Nat.le_of_ble_eq_true rfl) rfl ?_
          refine g_iinc (pc := 105) (x := l7) (v := (l7 + (1 : Int32))) (L' := [(0, .ref l0), (1, .int l1), (2, .int l2), (3, .int l3), (4, .int l4), (5, .int (imax l5 ((m1.1 (l0 + 4) l7.toNatClampNeg) - (l3 * (iabs (l2 - (m1.1 (l0 + 3) l7.toNatClampNeg))))))), (6, .int (imin l6 ((m1.1 (l0 + 4) l7.toNatClampNeg) + (l3 * (iabs (l2 - (m1.1 (l0 + 3) l7.toNatClampNeg))))))), (7, .int (l7 + (1 : Int32))), (8, .int (l3 * (iabs (l2 - (m1.1 (l0 + 3) l7.toNatClampNeg)))))]) dX2_endsOf_105 rfl rfl (Nat.le_of_ble_eq_true rfl) rfl ?_
          refine g_goto (pc := 108) (tgt := 16) dX2_endsOf_108 (by decide) ?_
          refine g_sub (L' := [(0, .ref l0), (1, .int l1), (2, .int l2), (3, .int l3), (4, .int l4), (5, .int (imax l5 ((m1.1 (l0 + 4) l7.toNatClampNeg) - (l3 * (iabs (l2 - (m1.1 (l0 + 3) l7.toNatClampNeg))))))), (6, .int (imin l6 ((m1.1 (l0 + 4) l7.toNatClampNeg) + (l3 * (iabs (l2 - (m1.1 (l0 + 3) l7.toNatClampNeg))))))), (7, .int (l7 + (1 : Int32)))]) [0, 1, 2, 3, 4, 5, 6, 7] rfl ?_
          exact h
      · have h := h.2 p_
        refine g_if_eq (pc := 39) (tgt := 105) dX2_endsOf_39 (by decide) (fun _ => ?_) (fun c39 => absurd c39 (by decide))
        refine g_iinc (pc := 105) (x := l7) (v := (l7 + (1 : Int32))) (L' := [(0, .ref l0), (1, .int l1), (2, .int l2), (3, .int l3), (4, .int l4), (5, .int l5), (6, .int l6), (7, .int (l7 + (1 : Int32)))]) dX2_endsOf_105 rfl rfl (Nat.le_of_ble_eq_true rfl) rfl ?_
        refine g_goto (pc := 108) (tgt := 16) dX2_endsOf_108 (by decide) ?_
        exact h
theorem dX2_contradicted_0 : decode cX2_contradicted 0 = .ok (.iconst 0, 1) := by decide +kernel
theorem dX2_contradicted_1 : decode cX2_contradicted 1 = .ok (.istore_n 3, 1) := by decide +kernel
theorem dX2_contradicted_2 : decode cX2_contradicted 2 = .ok (.iload_n 3, 1) := by decide +kernel
theorem dX2_contradicted_3 : decode cX2_contradicted 3 = .ok (.iload_n 1, 1) := by decide +kernel
theorem dX2_contradicted_4 : decode cX2_contradicted 4 = .ok (.if_icmp .ge 62, 3) := by decide +kernel
theorem dX2_contradicted_7 : decode cX2_contradicted 7 = .ok (.aload_n 0, 1) := by decide +kernel
theorem dX2_contradicted_8 : decode cX2_contradicted 8 = .ok (.iload_n 3, 1) := by decide +kernel
theorem dX2_contradicted_9 : decode cX2_contradicted 9 = .ok (.aload_n 0, 1) := by decide +kernel
theorem dX2_contradicted_10 : decode cX2_contradicted 10 = .ok (.getfield 15, 3) := by decide +kernel
theorem dX2_contradicted_13 : decode cX2_contradicted 13 = .ok (.iload_n 1, 1) := by decide +kernel
theorem dX2_contradicted_14 : decode cX2_contradicted 14 = .ok (.iaload, 1) := by decide +kernel
theorem dX2_contradicted_15 : decode cX2_contradicted 15 = .ok (.invokevirtual 49, 3) := by decide +kernel
theorem dX2_contradicted_18 : decode cX2_contradicted 18 = .ok (.ifCond .eq 42, 3) := by decide +kernel
theorem dX2_contradicted_21 : decode cX2_contradicted 21 = .ok (.aload_n 0, 1) := by decide +kernel
theorem dX2_contradicted_22 : decode cX2_contradicted 22 = .ok (.getfield 21, 3) := by decide +kernel
theorem dX2_contradicted_25 : decode cX2_contradicted 25 = .ok (.iload_n 3, 1) := by decide +kernel
theorem dX2_contradicted_26 : decode cX2_contradicted 26 = .ok (.iaload, 1) := by decide +kernel
theorem dX2_contradicted_27 : decode cX2_contradicted 27 = .ok (.aload_n 0, 1) := by decide +kernel
theorem dX2_contradicted_28 : decode cX2_contradicted 28 = .ok (.getfield 21, 3) := by decide +kernel
theorem dX2_contradicted_31 : decode cX2_contradicted 31 = .ok (.iload_n 1, 1) := by decide +kernel
theorem dX2_contradicted_32 : decode cX2_contradicted 32 = .ok (.iaload, 1) := by decide +kernel
theorem dX2_contradicted_33 : decode cX2_contradicted 33 = .ok (.isub, 1) := by decide +kernel
theorem dX2_contradicted_34 : decode cX2_contradicted 34 = .ok (.invokestatic 56, 3) := by decide +kernel
theorem dX2_contradicted_37 : decode cX2_contradicted 37 = .ok (.iload_n 2, 1) := by decide +kernel
theorem dX2_contradicted_38 : decode cX2_contradicted 38 = .ok (.aload_n 0, 1) := by decide +kernel
theorem dX2_contradicted_39 : decode cX2_contradicted 39 = .ok (.getfield 18, 3) := by decide +kernel
theorem dX2_contradicted_42 : decode cX2_contradicted 42 = .ok (.iload_n 3, 1) := by decide +kernel
theorem dX2_contradicted_43 : decode cX2_contradicted 43 = .ok (.iaload, 1) := by decide +kernel
theorem dX2_contradicted_44 : decode cX2_contradicted 44 = .ok (.aload_n 0, 1) := by decide +kernel
theorem dX2_contradicted_45 : decode cX2_contradicted 45 = .ok (.getfield 18, 3) := by decide +kernel
theorem dX2_contradicted_48 : decode cX2_contradicted 48 = .ok (.iload_n 1, 1) := by decide +kernel
theorem dX2_contradicted_49 : decode cX2_contradicted 49 = .ok (.iaload, 1) := by decide +kernel
theorem dX2_contradicted_50 : decode cX2_contradicted 50 = .ok (.isub, 1) := by decide +kernel
theorem dX2_contradicted_51 : decode cX2_contradicted 51 = .ok (.invokestatic 56, 3) := by decide +kernel
theorem dX2_contradicted_54 : decode cX2_contradicted 54 = .ok (.imul, 1) := by decide +kernel
theorem dX2_contradicted_55 : decode cX2_contradicted 55 = .ok (.if_icmp .le 5, 3) := by decide +kernel
theorem dX2_contradicted_58 : decode cX2_contradicted 58 = .ok (.iconst 1, 1) := by decide +kernel
theorem dX2_contradicted_59 : decode cX2_contradicted 59 = .ok (.ireturn, 1) := by decide +kernel
theorem dX2_contradicted_60 : decode cX2_contradicted 60 = .ok (.iinc 3 1, 3) := by decide +kernel
theorem dX2_contradicted_63 : decode cX2_contradicted 63 = .ok (.goto (-61), 3) := by decide +kernel
theorem dX2_contradicted_66 : decode cX2_contradicted 66 = .ok (.iconst 0, 1) := by decide +kernel
theorem dX2_contradicted_67 : decode cX2_contradicted 67 = .ok (.ireturn, 1) := by decide +kernel
theorem b_X2_contradicted (mm : MM) (Q : Value → MM → Prop) (t0 : Nat) (a1 : Int32) (a2 : Int32) (h0 : AtLogs t0) (h : G e_X2_contradicted 2 [(0, .ref t0), (1, .int a1), (2, .int a2), (3, .int (0 : Int32))] [] mm Q) : Runs e_X2_contradicted [.ref t0, .int a1, .int a2] mm Q := by
  refine runs_of_G (L := [(0, .ref t0), (1, .int a1), (2, .int a2)]) pl_X2 (Nat.le_of_ble_eq_true rfl) rfl ?_
  refine g_iconst (pc := 0) (v := (0 : Int32)) dX2_contradicted_0 (by decide) ?_
  refine g_istore_n (pc := 1) (L' := [(0, .ref t0), (1, .int a1), (2, .int a2), (3, .int (0 : Int32))]) dX2_contradicted_1 (Nat.le_of_ble_eq_true rfl) rfl ?_
  exact h
theorem b_X2_contradicted_2 (mm : MM) (Q : Value → MM → Prop) (l0 : Nat) (l1 : Int32) (l2 : Int32) (l3 : Int32) (k0 : AtLogs l0) (h : (l1 ≤ l3 → (Q (.int (0 : Int32)) mm)) ∧ (¬ l1 ≤ l3 → (vp_in l1 60 ∧ (o_X2_isMarkOf mm l0 l3 (mm.1 (l0 + 2) l1.toNatClampNeg) ∧ ((p_X2_isMarkOf mm l0 l3 (mm.1 (l0 + 2) l1.toNatClampNeg) → (vp_in l3 60 ∧ (vp_in l1 60 ∧ (vp_in l3 60 ∧ (vp_in l1 60 ∧ (((iabs ((mm.1 (l0 + 4) l3.toNatClampNeg) - (mm.1 (l0 + 4) l1.toNatClampNeg))) ≤ (l2 * (iabs ((mm.1 (l0 + 3) l3.toNatClampNeg) - (mm.1 (l0 + 3) l1.toNatClampNeg)))) → (G e_X2_contradicted 2 [(0, .ref l0), (1, .int l1), (2, .int l2), (3, .int (l3 + (1 : Int32)))] [] mm Q)) ∧ (¬ (iabs ((mm.1 (l0 + 4) l3.toNatClampNeg) - (mm.1 (l0 + 4) l1.toNatClampNeg))) ≤ (l2 * (iabs ((mm.1 (l0 + 3) l3.toNatClampNeg) - (mm.1 (l0 + 3) l1.toNatClampNeg)))) → (Q (.int (1 : Int32)) mm)))))))) ∧ (¬ p_X2_isMarkOf mm l0 l3 (mm.1 (l0 + 2) l1.toNatClampNeg) → (G e_X2_contradicted 2 [(0, .ref l0), (1, .int l1), (2, .int l2), (3, .int (l3 + (1 : Int32)))] [] mm Q))))))) : G e_X2_contradicted 2 [(0, .ref l0), (1, .int l1), (2, .int l2), (3, .int l3)] [] mm Q := by
  refine g_iload_n (pc := 2) (x := l3) dX2_contradicted_2 rfl ?_
  refine g_iload_n (pc := 3) (x := l1) dX2_contradicted_3 rfl ?_
  refine g_icmp_ge (pc := 4) (tgt := 66) dX2_contradicted_4 (by decide) (fun c4 => ?_) (fun c4 => ?_)
  · have h := h.1 c4
    refine g_iconst (pc := 66) (v := (0 : Int32)) dX2_contradicted_66 (by decide) ?_
    exact g_iret (pc := 67) dX2_contradicted_67 rfl rfl (nar_B isB0) h
  · have h := h.2 c4
    refine g_aload_n (pc := 7) (x := l0) dX2_contradicted_7 rfl ?_
    refine g_iload_n (pc := 8) (x := l3) dX2_contradicted_8 rfl ?_
    refine g_aload_n (pc := 9) (x := l0) dX2_contradicted_9 rfl ?_
    refine g_getR (pc := 10) (dd := 2) dX2_contradicted_10 fo_X2_15 (AtLogs_0 k0) rfl ?_
    refine g_iload_n (pc := 13) (x := l1) dX2_contradicted_13 rfl ?_
    refine g_iaload (pc := 14) dX2_contradicted_14 (AtLogs_2 k0) h.1 ?_
    have h := h.2
    refine g_callV (pc := 15) (as := [.int l3, .int (mm.1 (l0 + 2) l1.toNatClampNeg)]) dX2_contradicted_15 cw_X2_49 (by decide) rfl rfl (AtLogs_0 k0) (Nat.le_of_ble_eq_true rfl) (rv_X2_isMarkOf mm l0 l3 (mm.1 (l0 + 2) l1.toNatClampNeg) k0 h.1) ?_
    have h := h.2
    rintro r_ m_ hz_ ⟨⟨p_, rfl⟩ | ⟨p_, rfl⟩, rfl⟩
    · have h := h.1 p_
      refine g_if_eq (pc := 18) (tgt := 60) dX2_contradicted_18 (by decide) (fun c18 => absurd c18 (by decide)) (fun _ => ?_)
      refine g_aload_n (pc := 21) (x := l0) dX2_contradicted_21 rfl ?_
      refine g_getR (pc := 22) (dd := 4) dX2_contradicted_22 fo_X2_21 (AtLogs_0 k0) rfl ?_
      refine g_iload_n (pc := 25) (x := l3) dX2_contradicted_25 rfl ?_
      refine g_iaload (pc := 26) dX2_contradicted_26 (AtLogs_4 k0) h.1 ?_
      have h := h.2
      refine g_aload_n (pc := 27) (x := l0) dX2_contradicted_27 rfl ?_
      refine g_getR (pc := 28) (dd := 4) dX2_contradicted_28 fo_X2_21 (AtLogs_0 k0) rfl ?_
      refine g_iload_n (pc := 31) (x := l1) dX2_contradicted_31 rfl ?_
      refine g_iaload (pc := 32) dX2_contradicted_32 (AtLogs_4 k0) h.1 ?_
      have h := h.2
      refine g_isub (pc := 33) dX2_contradicted_33 ?_
      refine g_mabs (pc := 34) dX2_contradicted_34 cw_X2_56 (by decide) (Nat.le_of_ble_eq_true rfl) ?_
      refine g_iload_n (pc := 37) (x := l2) dX2_contradicted_37 rfl ?_
      refine g_aload_n (pc := 38) (x := l0) dX2_contradicted_38 rfl ?_
      refine g_getR (pc := 39) (dd := 3) dX2_contradicted_39 fo_X2_18 (AtLogs_0 k0) rfl ?_
      refine g_iload_n (pc := 42) (x := l3) dX2_contradicted_42 rfl ?_
      refine g_iaload (pc := 43) dX2_contradicted_43 (AtLogs_3 k0) h.1 ?_
      have h := h.2
      refine g_aload_n (pc := 44) (x := l0) dX2_contradicted_44 rfl ?_
      refine g_getR (pc := 45) (dd := 3) dX2_contradicted_45 fo_X2_18 (AtLogs_0 k0) rfl ?_
      refine g_iload_n (pc := 48) (x := l1) dX2_contradicted_48 rfl ?_
      refine g_iaload (pc := 49) dX2_contradicted_49 (AtLogs_3 k0) h.1 ?_
      have h := h.2
      refine g_isub (pc := 50) dX2_contradicted_50 ?_
      refine g_mabs (pc := 51) dX2_contradicted_51 cw_X2_56 (by decide) (Nat.le_of_ble_eq_true rfl) ?_
      refine g_imul (pc := 54) dX2_contradicted_54 ?_
      refine g_icmp_le (pc := 55) (tgt := 60) dX2_contradicted_55 (by decide) (fun c55 => ?_) (fun c55 => ?_)
      · have h := h.1 c55
        refine g_iinc (pc := 60) (x := l3) (v := (l3 + (1 : Int32))) (L' := [(0, .ref l0), (1, .int l1), (2, .int l2), (3, .int (l3 + (1 : Int32)))]) dX2_contradicted_60 rfl rfl (Nat.le_of_ble_eq_true rfl) rfl ?_
        refine g_goto (pc := 63) (tgt := 2) dX2_contradicted_63 (by decide) ?_
        exact h
      · have h := h.2 c55
        refine g_iconst (pc := 58) (v := (1 : Int32)) dX2_contradicted_58 (by decide) ?_
        exact g_iret (pc := 59) dX2_contradicted_59 rfl rfl (nar_B isB1) h
    · have h := h.2 p_
      refine g_if_eq (pc := 18) (tgt := 60) dX2_contradicted_18 (by decide) (fun _ => ?_) (fun c18 => absurd c18 (by decide))
      refine g_iinc (pc := 60) (x := l3) (v := (l3 + (1 : Int32))) (L' := [(0, .ref l0), (1, .int l1), (2, .int l2), (3, .int (l3 + (1 : Int32)))]) dX2_contradicted_60 rfl rfl (Nat.le_of_ble_eq_true rfl) rfl ?_
      refine g_goto (pc := 63) (tgt := 2) dX2_contradicted_63 (by decide) ?_
      exact h
theorem dX3_search_0 : decode cX3_search 0 = .ok (.aload_n 0, 1) := by decide +kernel
theorem dX3_search_1 : decode cX3_search 1 = .ok (.iconst 0, 1) := by decide +kernel
theorem dX3_search_2 : decode cX3_search 2 = .ok (.putfield 24, 3) := by decide +kernel
theorem dX3_search_5 : decode cX3_search 5 = .ok (.iconst 0, 1) := by decide +kernel
theorem dX3_search_6 : decode cX3_search 6 = .ok (.istore 4, 2) := by decide +kernel
theorem dX3_search_8 : decode cX3_search 8 = .ok (.iload 4, 2) := by decide +kernel
theorem dX3_search_10 : decode cX3_search 10 = .ok (.aload_n 1, 1) := by decide +kernel
theorem dX3_search_11 : decode cX3_search 11 = .ok (.getfield 28, 3) := by decide +kernel
theorem dX3_search_14 : decode cX3_search 14 = .ok (.if_icmp .ge 64, 3) := by decide +kernel
theorem dX3_search_17 : decode cX3_search 17 = .ok (.aload_n 0, 1) := by decide +kernel
theorem dX3_search_18 : decode cX3_search 18 = .ok (.getfield 24, 3) := by decide +kernel
theorem dX3_search_21 : decode cX3_search 21 = .ok (.bipush 8, 2) := by decide +kernel
theorem dX3_search_23 : decode cX3_search 23 = .ok (.if_icmp .ge 55, 3) := by decide +kernel
theorem dX3_search_26 : decode cX3_search 26 = .ok (.iload_n 3, 1) := by decide +kernel
theorem dX3_search_27 : decode cX3_search 27 = .ok (.iload 4, 2) := by decide +kernel
theorem dX3_search_29 : decode cX3_search 29 = .ok (.ishr, 1) := by decide +kernel
theorem dX3_search_30 : decode cX3_search 30 = .ok (.iconst 1, 1) := by decide +kernel
theorem dX3_search_31 : decode cX3_search 31 = .ok (.iand, 1) := by decide +kernel
theorem dX3_search_32 : decode cX3_search 32 = .ok (.ifCond .eq 40, 3) := by decide +kernel
theorem dX3_search_35 : decode cX3_search 35 = .ok (.aload_n 0, 1) := by decide +kernel
theorem dX3_search_36 : decode cX3_search 36 = .ok (.getfield 11, 3) := by decide +kernel
theorem dX3_search_39 : decode cX3_search 39 = .ok (.aload_n 0, 1) := by decide +kernel
theorem dX3_search_40 : decode cX3_search 40 = .ok (.getfield 24, 3) := by decide +kernel
theorem dX3_search_43 : decode cX3_search 43 = .ok (.iload 4, 2) := by decide +kernel
theorem dX3_search_45 : decode cX3_search 45 = .ok (.iastore, 1) := by decide +kernel
theorem dX3_search_46 : decode cX3_search 46 = .ok (.aload_n 0, 1) := by decide +kernel
theorem dX3_search_47 : decode cX3_search 47 = .ok (.getfield 18, 3) := by decide +kernel
theorem dX3_search_50 : decode cX3_search 50 = .ok (.aload_n 0, 1) := by decide +kernel
theorem dX3_search_51 : decode cX3_search 51 = .ok (.getfield 24, 3) := by decide +kernel
theorem dX3_search_54 : decode cX3_search 54 = .ok (.aload_n 1, 1) := by decide +kernel
theorem dX3_search_55 : decode cX3_search 55 = .ok (.aload_n 2, 1) := by decide +kernel
theorem dX3_search_56 : decode cX3_search 56 = .ok (.iload 4, 2) := by decide +kernel
theorem dX3_search_58 : decode cX3_search 58 = .ok (.invokevirtual 33, 3) := by decide +kernel
theorem dX3_search_61 : decode cX3_search 61 = .ok (.iastore, 1) := by decide +kernel
theorem dX3_search_62 : decode cX3_search 62 = .ok (.aload_n 0, 1) := by decide +kernel
theorem dX3_search_63 : decode cX3_search 63 = .ok (.dup, 1) := by decide +kernel
theorem dX3_search_64 : decode cX3_search 64 = .ok (.getfield 24, 3) := by decide +kernel
theorem dX3_search_67 : decode cX3_search 67 = .ok (.iconst 1, 1) := by decide +kernel
theorem dX3_search_68 : decode cX3_search 68 = .ok (.iadd, 1) := by decide +kernel
theorem dX3_search_69 : decode cX3_search 69 = .ok (.putfield 24, 3) := by decide +kernel
theorem dX3_search_72 : decode cX3_search 72 = .ok (.iinc 4 1, 3) := by decide +kernel
theorem dX3_search_75 : decode cX3_search 75 = .ok (.goto (-67), 3) := by decide +kernel
theorem dX3_search_78 : decode cX3_search 78 = .ok (.aload_n 1, 1) := by decide +kernel
theorem dX3_search_79 : decode cX3_search 79 = .ok (.aload_n 2, 1) := by decide +kernel
theorem dX3_search_80 : decode cX3_search 80 = .ok (.bipush 12, 2) := by decide +kernel
theorem dX3_search_82 : decode cX3_search 82 = .ok (.invokevirtual 37, 3) := by decide +kernel
theorem dX3_search_85 : decode cX3_search 85 = .ok (.istore 4, 2) := by decide +kernel
theorem dX3_search_87 : decode cX3_search 87 = .ok (.aload_n 1, 1) := by decide +kernel
theorem dX3_search_88 : decode cX3_search 88 = .ok (.aload_n 2, 1) := by decide +kernel
theorem dX3_search_89 : decode cX3_search 89 = .ok (.getfield 40, 3) := by decide +kernel
theorem dX3_search_92 : decode cX3_search 92 = .ok (.iload 4, 2) := by decide +kernel
theorem dX3_search_94 : decode cX3_search 94 = .ok (.invokevirtual 43, 3) := by decide +kernel
theorem dX3_search_97 : decode cX3_search 97 = .ok (.istore 5, 2) := by decide +kernel
theorem dX3_search_99 : decode cX3_search 99 = .ok (.iconst 1, 1) := by decide +kernel
theorem dX3_search_100 : decode cX3_search 100 = .ok (.aload_n 0, 1) := by decide +kernel
theorem dX3_search_101 : decode cX3_search 101 = .ok (.getfield 24, 3) := by decide +kernel
theorem dX3_search_104 : decode cX3_search 104 = .ok (.ishl, 1) := by decide +kernel
theorem dX3_search_105 : decode cX3_search 105 = .ok (.iconst 1, 1) := by decide +kernel
theorem dX3_search_106 : decode cX3_search 106 = .ok (.isub, 1) := by decide +kernel
theorem dX3_search_107 : decode cX3_search 107 = .ok (.istore 6, 2) := by decide +kernel
theorem dX3_search_109 : decode cX3_search 109 = .ok (.iload 6, 2) := by decide +kernel
theorem dX3_search_111 : decode cX3_search 111 = .ok (.istore 7, 2) := by decide +kernel
theorem dX3_search_113 : decode cX3_search 113 = .ok (.iload 7, 2) := by decide +kernel
theorem dX3_search_115 : decode cX3_search 115 = .ok (.ifCond .lt 82, 3) := by decide +kernel
theorem dX3_search_118 : decode cX3_search 118 = .ok (.aload_n 0, 1) := by decide +kernel
theorem dX3_search_119 : decode cX3_search 119 = .ok (.aload_n 2, 1) := by decide +kernel
theorem dX3_search_120 : decode cX3_search 120 = .ok (.iload 7, 2) := by decide +kernel
theorem dX3_search_122 : decode cX3_search 122 = .ok (.invokevirtual 47, 3) := by decide +kernel
theorem dX3_search_125 : decode cX3_search 125 = .ok (.iload 5, 2) := by decide +kernel
theorem dX3_search_127 : decode cX3_search 127 = .ok (.aload_n 1, 1) := by decide +kernel
theorem dX3_search_128 : decode cX3_search 128 = .ok (.aload_n 0, 1) := by decide +kernel
theorem dX3_search_129 : decode cX3_search 129 = .ok (.getfield 15, 3) := by decide +kernel
theorem dX3_search_132 : decode cX3_search 132 = .ok (.iload 4, 2) := by decide +kernel
theorem dX3_search_134 : decode cX3_search 134 = .ok (.invokevirtual 43, 3) := by decide +kernel
theorem dX3_search_137 : decode cX3_search 137 = .ok (.iconst (-1), 1) := by decide +kernel
theorem dX3_search_138 : decode cX3_search 138 = .ok (.ixor, 1) := by decide +kernel
theorem dX3_search_139 : decode cX3_search 139 = .ok (.iand, 1) := by decide +kernel
theorem dX3_search_140 : decode cX3_search 140 = .ok (.ifCond .ne 7, 3) := by decide +kernel
theorem dX3_search_143 : decode cX3_search 143 = .ok (.iconst 1, 1) := by decide +kernel
theorem dX3_search_144 : decode cX3_search 144 = .ok (.goto 4, 3) := by decide +kernel
theorem dX3_search_147 : decode cX3_search 147 = .ok (.iconst 0, 1) := by decide +kernel
theorem dX3_search_148 : decode cX3_search 148 = .ok (.istore 8, 2) := by decide +kernel
theorem dX3_search_150 : decode cX3_search 150 = .ok (.aload_n 0, 1) := by decide +kernel
theorem dX3_search_151 : decode cX3_search 151 = .ok (.getfield 21, 3) := by decide +kernel
theorem dX3_search_154 : decode cX3_search 154 = .ok (.iload 7, 2) := by decide +kernel
theorem dX3_search_156 : decode cX3_search 156 = .ok (.iload 8, 2) := by decide +kernel
theorem dX3_search_158 : decode cX3_search 158 = .ok (.ifCond .ne 9, 3) := by decide +kernel
theorem dX3_search_161 : decode cX3_search 161 = .ok (.sipush 1000, 3) := by decide +kernel
theorem dX3_search_164 : decode cX3_search 164 = .ok (.goto 26, 3) := by decide +kernel
theorem dX3_search_167 : decode cX3_search 167 = .ok (.iload 7, 2) := by decide +kernel
theorem dX3_search_169 : decode cX3_search 169 = .ok (.iload 6, 2) := by decide +kernel
theorem dX3_search_171 : decode cX3_search 171 = .ok (.if_icmp .ne 7, 3) := by decide +kernel
theorem dX3_search_174 : decode cX3_search 174 = .ok (.iconst 0, 1) := by decide +kernel
theorem dX3_search_175 : decode cX3_search 175 = .ok (.goto 15, 3) := by decide +kernel
theorem dX3_search_178 : decode cX3_search 178 = .ok (.aload_n 0, 1) := by decide +kernel
theorem dX3_search_179 : decode cX3_search 179 = .ok (.iload 7, 2) := by decide +kernel
theorem dX3_search_181 : decode cX3_search 181 = .ok (.iload 6, 2) := by decide +kernel
theorem dX3_search_183 : decode cX3_search 183 = .ok (.aload_n 1, 1) := by decide +kernel
theorem dX3_search_184 : decode cX3_search 184 = .ok (.getfield 51, 3) := by decide +kernel
theorem dX3_search_187 : decode cX3_search 187 = .ok (.invokevirtual 54, 3) := by decide +kernel
theorem dX3_search_190 : decode cX3_search 190 = .ok (.iastore, 1) := by decide +kernel
theorem dX3_search_191 : decode cX3_search 191 = .ok (.iinc 7 (-1), 3) := by decide +kernel
theorem dX3_search_194 : decode cX3_search 194 = .ok (.goto (-81), 3) := by decide +kernel
theorem dX3_search_197 : decode cX3_search 197 = .ok (.return_, 1) := by decide +kernel
theorem b_X3_search (mm : MM) (Q : Value → MM → Prop) (a1 : Nat) (a2 : Nat) (a3 : Int32) (h1 : AtTown a1) (h2 : AtState a2) (h : G e_X3_search 8 [(0, .ref 86), (1, .ref a1), (2, .ref a2), (3, .int a3), (4, .int (0 : Int32))] [] (wI mm 86 4 (0 : Int32)) Q) : Runs e_X3_search [.ref 86, .ref a1, .ref a2, .int a3] mm Q := by
  refine runs_of_G (L := [(0, .ref 86), (1, .ref a1), (2, .ref a2), (3, .int a3)]) pl_X3 (Nat.le_of_ble_eq_true rfl) rfl ?_
  refine g_aload_n (pc := 0) (x := 86) dX3_search_0 rfl ?_
  refine g_iconst (pc := 1) (v := (0 : Int32)) dX3_search_1 (by decide) ?_
  refine g_putI (pc := 2) dX3_search_2 fo_X3_24 sh_86 rfl rfl rfl ?_
  refine g_iconst (pc := 5) (v := (0 : Int32)) dX3_search_5 (by decide) ?_
  refine g_istore (pc := 6) (L' := [(0, .ref 86), (1, .ref a1), (2, .ref a2), (3, .int a3), (4, .int (0 : Int32))]) dX3_search_6 (Nat.le_of_ble_eq_true rfl) rfl ?_
  exact h
theorem b_X3_search_8 (mm : MM) (Q : Value → MM → Prop) (l1 : Nat) (l2 : Nat) (l3 : Int32) (l4 : Int32) (k1 : AtTown l1) (k2 : AtState l2) (h : ((mm.1 l1 8) ≤ l4 → (∃ Pm1 : Value → MM → Prop, Runs e_X8_tideAt [.ref l1, .ref l2, .int (12 : Int32)] mm Pm1 ∧ ∀ (r1 : Int32) (m1 : MM), Pm1 (.int r1) m1 → (∃ Pm2 : Value → MM → Prop, Runs e_X8_reachedBits [.ref l1, .ref (l2 + 1), .int r1] m1 Pm2 ∧ ∀ (r2 : Int32) (m2 : MM), Pm2 (.int r2) m2 → (G e_X3_search 113 [(0, .ref 86), (1, .ref l1), (2, .ref l2), (4, .int r1), (5, .int r2), (6, .int (((1 : Int32) <<< ((m2.1 86 4) &&& 31)) - (1 : Int32))), (7, .int (((1 : Int32) <<< ((m2.1 86 4) &&& 31)) - (1 : Int32)))] [] m2 Q)))) ∧ (¬ (mm.1 l1 8) ≤ l4 → (((8 : Int32) ≤ (mm.1 86 4) → (∃ Pm1 : Value → MM → Prop, Runs e_X8_tideAt [.ref l1, .ref l2, .int (12 : Int32)] mm Pm1 ∧ ∀ (r1 : Int32) (m1 : MM), Pm1 (.int r1) m1 → (∃ Pm2 : Value → MM → Prop, Runs e_X8_reachedBits [.ref l1, .ref (l2 + 1), .int r1] m1 Pm2 ∧ ∀ (r2 : Int32) (m2 : MM), Pm2 (.int r2) m2 → (G e_X3_search 113 [(0, .ref 86), (1, .ref l1), (2, .ref l2), (4, .int r1), (5, .int r2), (6, .int (((1 : Int32) <<< ((m2.1 86 4) &&& 31)) - (1 : Int32))), (7, .int (((1 : Int32) <<< ((m2.1 86 4) &&& 31)) - (1 : Int32)))] [] m2 Q)))) ∧ (¬ (8 : Int32) ≤ (mm.1 86 4) → ((((l3 >>> (l4 &&& 31)) &&& (1 : Int32)) = 0 → (G e_X3_search 8 [(0, .ref 86), (1, .ref l1), (2, .ref l2), (3, .int l3), (4, .int (l4 + (1 : Int32)))] [] mm Q)) ∧ (¬ ((l3 >>> (l4 &&& 31)) &&& (1 : Int32)) = 0 → (vp_in (mm.1 86 4) 8 ∧ (∃ Pm1 : Value → MM → Prop, Runs e_X8_dueOf [.ref l1, .ref l2, .int l4] (wI mm 87 ((mm.1 86 4).toNatClampNeg) l4) Pm1 ∧ ∀ (r1 : Int32) (m1 : MM), Pm1 (.int r1) m1 → (vp_in ((wI mm 87 ((mm.1 86 4).toNatClampNeg) l4).1 86 4) 8 ∧ (G e_X3_search 8 [(0, .ref 86), (1, .ref l1), (2, .ref l2), (3, .int l3), (4, .int (l4 + (1 : Int32)))] [] (wI (wI m1 89 (((wI mm 87 ((mm.1 86 4).toNatClampNeg) l4).1 86 4).toNatClampNeg) r1) 86 4 (((wI m1 89 (((wI mm 87 ((mm.1 86 4).toNatClampNeg) l4).1 86 4).toNatClampNeg) r1).1 86 4) + (1 : Int32))) Q)))))))))) : G e_X3_search 8 [(0, .ref 86), (1, .ref l1), (2, .ref l2), (3, .int l3), (4, .int l4)] [] mm Q := by
  refine g_iload (pc := 8) (x := l4) dX3_search_8 rfl ?_
  refine g_aload_n (pc := 10) (x := l1) dX3_search_10 rfl ?_
  refine g_getI (pc := 11) dX3_search_11 fo_X3_28 (AtTown_0 k1) rfl ?_
  refine g_icmp_ge (pc := 14) (tgt := 78) dX3_search_14 (by decide) (fun c14 => ?_) (fun c14 => ?_)
  · have h := h.1 c14
    refine g_aload_n (pc := 78) (x := l1) dX3_search_78 rfl ?_
    refine g_aload_n (pc := 79) (x := l2) dX3_search_79 rfl ?_
    refine g_bipush (pc := 80) (v := (12 : Int32)) dX3_search_80 (by decide) ?_
    obtain ⟨Pm1, hRm1, h⟩ := h
    refine g_callV (pc := 82) (as := [.ref l2, .int (12 : Int32)]) dX3_search_82 cw_X3_37 (by decide) rfl rfl (AtTown_0 k1) (Nat.le_of_ble_eq_true rfl) hRm1 ?_
    intro r_ m1 hz_ hp_
    obtain ⟨r1, rfl⟩ := hz_
    have h := h r1 m1 hp_
    refine g_istore (pc := 85) (L' := [(0, .ref 86), (1, .ref l1), (2, .ref l2), (3, .int l3), (4, .int r1)]) dX3_search_85 (Nat.le_of_ble_eq_true rfl) rfl ?_
    refine g_aload_n (pc := 87) (x := l1) dX3_search_87 rfl ?_
    refine g_aload_n (pc := 88) (x := l2) dX3_search_88 rfl ?_
    refine g_getR (pc := 89) (dd := 1) dX3_search_89 fo_X3_40 (AtState_0 k2) rfl ?_
    refine g_iload (pc := 92) (x := r1) dX3_search_92 rfl ?_
    obtain ⟨Pm2, hRm2, h⟩ := h
    refine g_callV (pc := 94) (as := [.ref (l2 + 1), .int r1]) dX3_search_94 cw_X3_43 (by decide) rfl rfl (AtTown_0 k1) (Nat.le_of_ble_eq_true rfl) hRm2 ?_
    intro r_ m2 hz_ hp_
    obtain ⟨r2, rfl⟩ := hz_
    have h := h r2 m2 hp_
    refine g_istore (pc := 97) (L' := [(0, .ref 86), (1, .ref l1), (2, .ref l2), (3, .int l3), (4, .int r1), (5, .int r2)]) dX3_search_97 (Nat.le_of_ble_eq_true rfl) rfl ?_
    refine g_iconst (pc := 99) (v := (1 : Int32)) dX3_search_99 (by decide) ?_
    refine g_aload_n (pc := 100) (x := 86) dX3_search_100 rfl ?_
    refine g_getI (pc := 101) dX3_search_101 fo_X3_24 sh_86 rfl ?_
    refine g_ishl (pc := 104) dX3_search_104 ?_
    refine g_iconst (pc := 105) (v := (1 : Int32)) dX3_search_105 (by decide) ?_
    refine g_isub (pc := 106) dX3_search_106 ?_
    refine g_istore (pc := 107) (L' := [(0, .ref 86), (1, .ref l1), (2, .ref l2), (3, .int l3), (4, .int r1), (5, .int r2), (6, .int (((1 : Int32) <<< ((m2.1 86 4) &&& 31)) - (1 : Int32)))]) dX3_search_107 (Nat.le_of_ble_eq_true rfl) rfl ?_
    refine g_iload (pc := 109) (x := (((1 : Int32) <<< ((m2.1 86 4) &&& 31)) - (1 : Int32))) dX3_search_109 rfl ?_
    refine g_istore (pc := 111) (L' := [(0, .ref 86), (1, .ref l1), (2, .ref l2), (3, .int l3), (4, .int r1), (5, .int r2), (6, .int (((1 : Int32) <<< ((m2.1 86 4) &&& 31)) - (1 : Int32))), (7, .int (((1 : Int32) <<< ((m2.1 86 4) &&& 31)) - (1 : Int32)))]) dX3_search_111 (Nat.le_of_ble_eq_true rfl) rfl ?_
    refine g_sub (L' := [(0, .ref 86), (1, .ref l1), (2, .ref l2), (4, .int r1), (5, .int r2), (6, .int (((1 : Int32) <<< ((m2.1 86 4) &&& 31)) - (1 : Int32))), (7, .int (((1 : Int32) <<< ((m2.1 86 4) &&& 31)) - (1 : Int32)))]) [0, 1, 2, 4, 5, 6, 7] rfl ?_
    exact h
  · have h := h.2 c14
    refine g_aload_n (pc := 17) (x := 86) dX3_search_17 rfl ?_
    refine g_getI (pc := 18) dX3_search_18 fo_X3_24 sh_86 rfl ?_
    refine g_bipush (pc := 21) (v := (8 : Int32)) dX3_search_21 (by decide) ?_
    refine g_icmp_ge (pc := 23) (tgt := 78) dX3_search_23 (by decide) (fun c23 => ?_) (fun c23 => ?_)
    · have h := h.1 c23
      refine g_aload_n (pc := 78) (x := l1) dX3_search_78 rfl ?_
      refine g_aload_n (pc := 79) (x := l2) dX3_search_79 rfl ?_
      refine g_bipush (pc := 80) (v := (12 : Int32)) dX3_search_80 (by decide) ?_
      obtain ⟨Pm1, hRm1, h⟩ := h
      refine g_callV (pc := 82) (as := [.ref l2, .int (12 : Int32)]) dX3_search_82 cw_X3_37 (by decide) rfl rfl (AtTown_0 k1) (Nat.le_of_ble_eq_true rfl) hRm1 ?_
      intro r_ m1 hz_ hp_
      obtain ⟨r1, rfl⟩ := hz_
      have h := h r1 m1 hp_
      refine g_istore (pc := 85) (L' := [(0, .ref 86), (1, .ref l1), (2, .ref l2), (3, .int l3), (4, .int r1)]) dX3_search_85 (Nat.le_of_ble_eq_true rfl) rfl ?_
      refine g_aload_n (pc := 87) (x := l1) dX3_search_87 rfl ?_
      refine g_aload_n (pc := 88) (x := l2) dX3_search_88 rfl ?_
      refine g_getR (pc := 89) (dd := 1) dX3_search_89 fo_X3_40 (AtState_0 k2) rfl ?_
      refine g_iload (pc := 92) (x := r1) dX3_search_92 rfl ?_
      obtain ⟨Pm2, hRm2, h⟩ := h
      refine g_callV (pc := 94) (as := [.ref (l2 + 1), .int r1]) dX3_search_94 cw_X3_43 (by decide) rfl rfl (AtTown_0 k1) (Nat.le_of_ble_eq_true rfl) hRm2 ?_
      intro r_ m2 hz_ hp_
      obtain ⟨r2, rfl⟩ := hz_
      have h := h r2 m2 hp_
      refine g_istore (pc := 97) (L' := [(0, .ref 86), (1, .ref l1), (2, .ref l2), (3, .int l3), (4, .int r1), (5, .int r2)]) dX3_search_97 (Nat.le_of_ble_eq_true rfl) rfl ?_
      refine g_iconst (pc := 99) (v := (1 : Int32)) dX3_search_99 (by decide) ?_
      refine g_aload_n (pc := 100) (x := 86) dX3_search_100 rfl ?_
      refine g_getI (pc := 101) dX3_search_101 fo_X3_24 sh_86 rfl ?_
      refine g_ishl (pc := 104) dX3_search_104 ?_
      refine g_iconst (pc := 105) (v := (1 : Int32)) dX3_search_105 (by decide) ?_
      refine g_isub (pc := 106) dX3_search_106 ?_
      refine g_istore (pc := 107) (L' := [(0, .ref 86), (1, .ref l1), (2, .ref l2), (3, .int l3), (4, .int r1), (5, .int r2), (6, .int (((1 : Int32) <<< ((m2.1 86 4) &&& 31)) - (1 : Int32)))]) dX3_search_107 (Nat.le_of_ble_eq_true rfl) rfl ?_
      refine g_iload (pc := 109) (x := (((1 : Int32) <<< ((m2.1 86 4) &&& 31)) - (1 : Int32))) dX3_search_109 rfl ?_
      refine g_istore (pc := 111) (L' := [(0, .ref 86), (1, .ref l1), (2, .ref l2), (3, .int l3), (4, .int r1), (5, .int r2), (6, .int (((1 : Int32) <<< ((m2.1 86 4) &&& 31)) - (1 : Int32))), (7, .int (((1 : Int32) <<< ((m2.1 86 4) &&& 31)) - (1 : Int32)))]) dX3_search_111 (Nat.le_of_ble_eq_true rfl) rfl ?_
      refine g_sub (L' := [(0, .ref 86), (1, .ref l1), (2, .ref l2), (4, .int r1), (5, .int r2), (6, .int (((1 : Int32) <<< ((m2.1 86 4) &&& 31)) - (1 : Int32))), (7, .int (((1 : Int32) <<< ((m2.1 86 4) &&& 31)) - (1 : Int32)))]) [0, 1, 2, 4, 5, 6, 7] rfl ?_
      exact h
    · have h := h.2 c23
      refine g_iload_n (pc := 26) (x := l3) dX3_search_26 rfl ?_
      refine g_iload (pc := 27) (x := l4) dX3_search_27 rfl ?_
      refine g_ishr (pc := 29) dX3_search_29 ?_
      refine g_iconst (pc := 30) (v := (1 : Int32)) dX3_search_30 (by decide) ?_
      refine g_iand (pc := 31) dX3_search_31 ?_
      refine g_if_eq (pc := 32) (tgt := 72) dX3_search_32 (by decide) (fun c32 => ?_) (fun c32 => ?_)
      · have h := h.1 c32
        refine g_iinc (pc := 72) (x := l4) (v := (l4 + (1 : Int32))) (L' := [(0, .ref 86), (1, .ref l1), (2, .ref l2), (3, .int l3), (4, .int (l4 + (1 : Int32)))]) dX3_search_72 rfl rfl (Nat.le_of_ble_eq_true rfl) rfl ?_
        refine g_goto (pc := 75) (tgt := 8) dX3_search_75 (by decide) ?_
        exact h
      · have h := h.2 c32
        refine g_aload_n (pc := 35) (x := 86) dX3_search_35 rfl ?_
        refine g_getR (pc := 36) (dd := 1) dX3_search_36 fo_X3_11 sh_86 rfl ?_
        refine g_aload_n (pc := 39) (x := 86) dX3_search_39 rfl ?_
        refine g_getI (pc := 40) dX3_search_40 fo_X3_24 sh_86 rfl ?_
        refine g_iload (pc := 43) (x := l4) dX3_search_43 rfl ?_
        refine g_iastore (pc := 45) dX3_search_45 sh_87 h.1 ?_
        have h := h.2
        refine g_aload_n (pc := 46) (x := 86) dX3_search_46 rfl ?_
        refine g_getR (pc := 47) (dd := 3) dX3_search_47 fo_X3_18 sh_86 rfl ?_
        refine g_aload_n (pc := 50) (x := 86) dX3_search_50 rfl ?_
        refine g_getI (pc := 51) dX3_search_51 fo_X3_24 sh_86 rfl ?_
        refine g_aload_n (pc := 54) (x := l1) dX3_search_54 rfl ?_
        refine g_aload_n (pc := 55) (x := l2) dX3_search_55 rfl ?_
        refine g_iload (pc := 56) (x := l4) dX3_search_56 rfl ?_
        obtain ⟨Pm1, hRm1, h⟩ := h
        refine g_callV (pc := 58) (as := [.ref l2, .int l4]) dX3_search_58 cw_X3_33 (by decide) rfl rfl (AtTown_0 k1) (Nat.le_of_ble_eq_true rfl) hRm1 ?_
        intro r_ m1 hz_ hp_
        obtain ⟨r1, rfl⟩ := hz_
        have h := h r1 m1 hp_
        refine g_iastore (pc := 61) dX3_search_61 sh_89 h.1 ?_
        have h := h.2
        refine g_aload_n (pc := 62) (x := 86) dX3_search_62 rfl ?_
        refine g_dup (pc := 63) dX3_search_63 rfl ?_
        refine g_getI (pc := 64) dX3_search_64 fo_X3_24 sh_86 rfl ?_
        refine g_iconst (pc := 67) (v := (1 : Int32)) dX3_search_67 (by decide) ?_
        refine g_iadd (pc := 68) dX3_search_68 ?_
        refine g_putI (pc := 69) dX3_search_69 fo_X3_24 sh_86 rfl rfl rfl ?_
        refine g_iinc (pc := 72) (x := l4) (v := (l4 + (1 : Int32))) (L' := [(0, .ref 86), (1, .ref l1), (2, .ref l2), (3, .int l3), (4, .int (l4 + (1 : Int32)))]) dX3_search_72 rfl rfl (Nat.le_of_ble_eq_true rfl) rfl ?_
        refine g_goto (pc := 75) (tgt := 8) dX3_search_75 (by decide) ?_
        exact h
theorem b_X3_search_113 (mm : MM) (Q : Value → MM → Prop) (l1 : Nat) (l2 : Nat) (l4 : Int32) (l5 : Int32) (l6 : Int32) (l7 : Int32) (k1 : AtTown l1) (k2 : AtState l2) (h : (l7 < 0 → (Q .null mm)) ∧ (¬ l7 < 0 → (∃ Pm1 : Value → MM → Prop, Runs e_X3_bring [.ref 86, .ref l2, .int l7] mm Pm1 ∧ ∀ m1, Pm1 .null m1 → (∃ Pm2 : Value → MM → Prop, Runs e_X8_reachedBits [.ref l1, .ref 88, .int l4] m1 Pm2 ∧ ∀ (r2 : Int32) (m2 : MM), Pm2 (.int r2) m2 → ((¬ (l5 &&& (r2 ^^^ (-1 : Int32))) = 0 → (vp_in l7 256 ∧ (G e_X3_search 113 [(0, .ref 86), (1, .ref l1), (2, .ref l2), (4, .int l4), (5, .int l5), (6, .int l6), (7, .int (l7 + (-1 : Int32)))] [] (wI m2 90 (l7.toNatClampNeg) (1000 : Int32)) Q))) ∧ ((l5 &&& (r2 ^^^ (-1 : Int32))) = 0 → ((¬ l7 = l6 → (∃ Pm3 : Value → MM → Prop, Runs e_X3_fewestFrom [.ref 86, .int l7, .int l6, .int (m2.1 l1 14)] m2 Pm3 ∧ ∀ (r3 : Int32) (m3 : MM), Pm3 (.int r3) m3 → (vp_in l7 256 ∧ (G e_X3_search 113 [(0, .ref 86), (1, .ref l1), (2, .ref l2), (4, .int l4), (5, .int l5), (6, .int l6), (7, .int (l7 + (-1 : Int32)))] [] (wI m3 90 (l7.toNatClampNeg) r3) Q)))) ∧ (l7 = l6 → (vp_in l7 256 ∧ (G e_X3_search 113 [(0, .ref 86), (1, .ref l1), (2, .ref l2), (4, .int l4), (5, .int l5), (6, .int l6), (7, .int (l7 + (-1 : Int32)))] [] (wI m2 90 (l7.toNatClampNeg) (0 : Int32)) Q)))))))))) : G e_X3_search 113 [(0, .ref 86), (1, .ref l1), (2, .ref l2), (4, .int l4), (5, .int l5), (6, .int l6), (7, .int l7)] [] mm Q := by
  refine g_iload (pc := 113) (x := l7) dX3_search_113 rfl ?_
  refine g_if_lt (pc := 115) (tgt := 197) dX3_search_115 (by decide) (fun c115 => ?_) (fun c115 => ?_)
  · have h := h.1 c115
    exact g_vret (pc := 197) dX3_search_197 rfl rfl h
  · have h := h.2 c115
    refine g_aload_n (pc := 118) (x := 86) dX3_search_118 rfl ?_
    refine g_aload_n (pc := 119) (x := l2) dX3_search_119 rfl ?_
    refine g_iload (pc := 120) (x := l7) dX3_search_120 rfl ?_
    obtain ⟨Pm1, hRm1, h⟩ := h
    refine g_callV (pc := 122) (as := [.ref l2, .int l7]) dX3_search_122 cw_X3_47 (by decide) rfl rfl sh_86 (Nat.le_of_ble_eq_true rfl) hRm1 ?_
    intro r_ m1 hz_ hp_
    obtain rfl := hz_
    have h := h m1 hp_
    refine g_iload (pc := 125) (x := l5) dX3_search_125 rfl ?_
    refine g_aload_n (pc := 127) (x := l1) dX3_search_127 rfl ?_
    refine g_aload_n (pc := 128) (x := 86) dX3_search_128 rfl ?_
    refine g_getR (pc := 129) (dd := 2) dX3_search_129 fo_X3_15 sh_86 rfl ?_
    refine g_iload (pc := 132) (x := l4) dX3_search_132 rfl ?_
    obtain ⟨Pm2, hRm2, h⟩ := h
    refine g_callV (pc := 134) (as := [.ref 88, .int l4]) dX3_search_134 cw_X3_43 (by decide) rfl rfl (AtTown_0 k1) (Nat.le_of_ble_eq_true rfl) hRm2 ?_
    intro r_ m2 hz_ hp_
    obtain ⟨r2, rfl⟩ := hz_
    have h := h r2 m2 hp_
    refine g_iconst (pc := 137) (v := (-1 : Int32)) dX3_search_137 (by decide) ?_
    refine g_ixor (pc := 138) dX3_search_138 ?_
    refine g_iand (pc := 139) dX3_search_139 ?_
    refine g_if_ne (pc := 140) (tgt := 147) dX3_search_140 (by decide) (fun c140 => ?_) (fun c140 => ?_)
    · have h := h.1 c140
      refine g_iconst (pc := 147) (v := (0 : Int32)) dX3_search_147 (by decide) ?_
      refine g_istore (pc := 148) (L' := [(0, .ref 86), (1, .ref l1), (2, .ref l2), (4, .int l4), (5, .int l5), (6, .int l6), (7, .int l7), (8, .int (0 : Int32))]) dX3_search_148 (Nat.le_of_ble_eq_true rfl) rfl ?_
      refine g_aload_n (pc := 150) (x := 86) dX3_search_150 rfl ?_
      refine g_getR (pc := 151) (dd := 4) dX3_search_151 fo_X3_21 sh_86 rfl ?_
      refine g_iload (pc := 154) (x := l7) dX3_search_154 rfl ?_
      refine g_iload (pc := 156) (x := (0 : Int32)) dX3_search_156 rfl ?_
      refine g_if_ne (pc := 158) (tgt := 167) dX3_search_158 (by decide) (fun c158 => absurd c158 (by decide)) (fun _ => ?_)
      refine g_sipush (pc := 161) (v := (1000 : Int32)) dX3_search_161 (by decide) ?_
      refine g_goto (pc := 164) (tgt := 190) dX3_search_164 (by decide) ?_
      refine g_iastore (pc := 190) dX3_search_190 sh_90 h.1 ?_
      have h := h.2
      refine g_iinc (pc := 191) (x := l7) (v := (l7 + (-1 : Int32))) (L' := [(0, .ref 86), (1, .ref l1), (2, .ref l2), (4, .int l4), (5, .int l5), (6, .int l6), (7, .int (l7 + (-1 : Int32))), (8, .int (0 : Int32))]) dX3_search_191 rfl rfl (Nat.le_of_ble_eq_true rfl) rfl ?_
      refine g_goto (pc := 194) (tgt := 113) dX3_search_194 (by decide) ?_
      refine g_sub (L' := [(0, .ref 86), (1, .ref l1), (2, .ref l2), (4, .int l4), (5, .int l5), (6, .int l6), (7, .int (l7 + (-1 : Int32)))]) [0, 1, 2, 3, 4, 5, 6] rfl ?_
      exact h
    · have h := h.2 c140
      refine g_iconst (pc := 143) (v := (1 : Int32)) dX3_search_143 (by decide) ?_
      refine g_goto (pc := 144) (tgt := 148) dX3_search_144 (by decide) ?_
      refine g_istore (pc := 148) (L' := [(0, .ref 86), (1, .ref l1), (2, .ref l2), (4, .int l4), (5, .int l5), (6, .int l6), (7, .int l7), (8, .int (1 : Int32))]) dX3_search_148 (Nat.le_of_ble_eq_true rfl) rfl ?_
      refine g_aload_n (pc := 150) (x := 86) dX3_search_150 rfl ?_
      refine g_getR (pc := 151) (dd := 4) dX3_search_151 fo_X3_21 sh_86 rfl ?_
      refine g_iload (pc := 154) (x := l7) dX3_search_154 rfl ?_
      refine g_iload (pc := 156) (x := (1 : Int32)) dX3_search_156 rfl ?_
      refine g_if_ne (pc := 158) (tgt := 167) dX3_search_158 (by decide) (fun _ => ?_) (fun c158 => absurd c158 (by decide))
      refine g_iload (pc := 167) (x := l7) dX3_search_167 rfl ?_
      refine g_iload (pc := 169) (x := l6) dX3_search_169 rfl ?_
      refine g_icmp_ne (pc := 171) (tgt := 178) dX3_search_171 (by decide) (fun c171 => ?_) (fun c171 => ?_)
      · have h := h.1 c171
        refine g_aload_n (pc := 178) (x := 86) dX3_search_178 rfl ?_
        refine g_iload (pc := 179) (x := l7) dX3_search_179 rfl ?_
        refine g_iload (pc := 181) (x := l6) dX3_search_181 rfl ?_
        refine g_aload_n (pc := 183) (x := l1) dX3_search_183 rfl ?_
        refine g_getI (pc := 184) dX3_search_184 fo_X3_51 (AtTown_0 k1) rfl ?_
        obtain ⟨Pm3, hRm3, h⟩ := h
        refine g_callV (pc := 187) (as := [.int l7, .int l6, .int (m2.1 l1 14)]) dX3_search_187 cw_X3_54 (by decide) rfl rfl sh_86 (Nat.le_of_ble_eq_true rfl) hRm3 ?_
        intro r_ m3 hz_ hp_
        obtain ⟨r3, rfl⟩ := hz_
        have h := h r3 m3 hp_
        refine g_iastore (pc := 190) dX3_search_190 sh_90 h.1 ?_
        have h := h.2
        refine g_iinc (pc := 191) (x := l7) (v := (l7 + (-1 : Int32))) (L' := [(0, .ref 86), (1, .ref l1), (2, .ref l2), (4, .int l4), (5, .int l5), (6, .int l6), (7, .int (l7 + (-1 : Int32))), (8, .int (1 : Int32))]) dX3_search_191 rfl rfl (Nat.le_of_ble_eq_true rfl) rfl ?_
        refine g_goto (pc := 194) (tgt := 113) dX3_search_194 (by decide) ?_
        refine g_sub (L' := [(0, .ref 86), (1, .ref l1), (2, .ref l2), (4, .int l4), (5, .int l5), (6, .int l6), (7, .int (l7 + (-1 : Int32)))]) [0, 1, 2, 3, 4, 5, 6] rfl ?_
        exact h
      · have h := h.2 c171
        refine g_iconst (pc := 174) (v := (0 : Int32)) dX3_search_174 (by decide) ?_
        refine g_goto (pc := 175) (tgt := 190) dX3_search_175 (by decide) ?_
        refine g_iastore (pc := 190) dX3_search_190 sh_90 h.1 ?_
        have h := h.2
        refine g_iinc (pc := 191) (x := l7) (v := (l7 + (-1 : Int32))) (L' := [(0, .ref 86), (1, .ref l1), (2, .ref l2), (4, .int l4), (5, .int l5), (6, .int l6), (7, .int (l7 + (-1 : Int32))), (8, .int (1 : Int32))]) dX3_search_191 rfl rfl (Nat.le_of_ble_eq_true rfl) rfl ?_
        refine g_goto (pc := 194) (tgt := 113) dX3_search_194 (by decide) ?_
        refine g_sub (L' := [(0, .ref 86), (1, .ref l1), (2, .ref l2), (4, .int l4), (5, .int l5), (6, .int l6), (7, .int (l7 + (-1 : Int32)))]) [0, 1, 2, 3, 4, 5, 6] rfl ?_
        exact h
theorem dX3_bring_0 : decode cX3_bring 0 = .ok (.aload_n 1, 1) := by decide +kernel
theorem dX3_bring_1 : decode cX3_bring 1 = .ok (.getfield 40, 3) := by decide +kernel
theorem dX3_bring_4 : decode cX3_bring 4 = .ok (.iconst 0, 1) := by decide +kernel
theorem dX3_bring_5 : decode cX3_bring 5 = .ok (.aload_n 0, 1) := by decide +kernel
theorem dX3_bring_6 : decode cX3_bring 6 = .ok (.getfield 15, 3) := by decide +kernel
theorem dX3_bring_9 : decode cX3_bring 9 = .ok (.iconst 0, 1) := by decide +kernel
theorem dX3_bring_10 : decode cX3_bring 10 = .ok (.bipush 16, 2) := by decide +kernel
theorem dX3_bring_12 : decode cX3_bring 12 = .ok (.invokestatic 58, 3) := by decide +kernel
theorem dX3_bring_15 : decode cX3_bring 15 = .ok (.iconst 0, 1) := by decide +kernel
theorem dX3_bring_16 : decode cX3_bring 16 = .ok (.istore_n 3, 1) := by decide +kernel
theorem dX3_bring_17 : decode cX3_bring 17 = .ok (.iload_n 3, 1) := by decide +kernel
theorem dX3_bring_18 : decode cX3_bring 18 = .ok (.aload_n 0, 1) := by decide +kernel
theorem dX3_bring_19 : decode cX3_bring 19 = .ok (.getfield 24, 3) := by decide +kernel
theorem dX3_bring_22 : decode cX3_bring 22 = .ok (.if_icmp .ge 54, 3) := by decide +kernel
theorem dX3_bring_25 : decode cX3_bring 25 = .ok (.iload_n 2, 1) := by decide +kernel
theorem dX3_bring_26 : decode cX3_bring 26 = .ok (.iload_n 3, 1) := by decide +kernel
theorem dX3_bring_27 : decode cX3_bring 27 = .ok (.ishr, 1) := by decide +kernel
theorem dX3_bring_28 : decode cX3_bring 28 = .ok (.iconst 1, 1) := by decide +kernel
theorem dX3_bring_29 : decode cX3_bring 29 = .ok (.iand, 1) := by decide +kernel
theorem dX3_bring_30 : decode cX3_bring 30 = .ok (.ifCond .eq 40, 3) := by decide +kernel
theorem dX3_bring_33 : decode cX3_bring 33 = .ok (.aload_n 0, 1) := by decide +kernel
theorem dX3_bring_34 : decode cX3_bring 34 = .ok (.getfield 11, 3) := by decide +kernel
theorem dX3_bring_37 : decode cX3_bring 37 = .ok (.iload_n 3, 1) := by decide +kernel
theorem dX3_bring_38 : decode cX3_bring 38 = .ok (.iaload, 1) := by decide +kernel
theorem dX3_bring_39 : decode cX3_bring 39 = .ok (.ifCond .lt 31, 3) := by decide +kernel
theorem dX3_bring_42 : decode cX3_bring 42 = .ok (.aload_n 0, 1) := by decide +kernel
theorem dX3_bring_43 : decode cX3_bring 43 = .ok (.getfield 11, 3) := by decide +kernel
theorem dX3_bring_46 : decode cX3_bring 46 = .ok (.iload_n 3, 1) := by decide +kernel
theorem dX3_bring_47 : decode cX3_bring 47 = .ok (.iaload, 1) := by decide +kernel
theorem dX3_bring_48 : decode cX3_bring 48 = .ok (.bipush 16, 2) := by decide +kernel
theorem dX3_bring_50 : decode cX3_bring 50 = .ok (.if_icmp .ge 20, 3) := by decide +kernel
theorem dX3_bring_53 : decode cX3_bring 53 = .ok (.aload_n 0, 1) := by decide +kernel
theorem dX3_bring_54 : decode cX3_bring 54 = .ok (.getfield 15, 3) := by decide +kernel
theorem dX3_bring_57 : decode cX3_bring 57 = .ok (.aload_n 0, 1) := by decide +kernel
theorem dX3_bring_58 : decode cX3_bring 58 = .ok (.getfield 11, 3) := by decide +kernel
theorem dX3_bring_61 : decode cX3_bring 61 = .ok (.iload_n 3, 1) := by decide +kernel
theorem dX3_bring_62 : decode cX3_bring 62 = .ok (.iaload, 1) := by decide +kernel
theorem dX3_bring_63 : decode cX3_bring 63 = .ok (.aload_n 0, 1) := by decide +kernel
theorem dX3_bring_64 : decode cX3_bring 64 = .ok (.getfield 18, 3) := by decide +kernel
theorem dX3_bring_67 : decode cX3_bring 67 = .ok (.iload_n 3, 1) := by decide +kernel
theorem dX3_bring_68 : decode cX3_bring 68 = .ok (.iaload, 1) := by decide +kernel
theorem dX3_bring_69 : decode cX3_bring 69 = .ok (.iastore, 1) := by decide +kernel
theorem dX3_bring_70 : decode cX3_bring 70 = .ok (.iinc 3 1, 3) := by decide +kernel
theorem dX3_bring_73 : decode cX3_bring 73 = .ok (.goto (-56), 3) := by decide +kernel
theorem dX3_bring_76 : decode cX3_bring 76 = .ok (.return_, 1) := by decide +kernel
theorem b_X3_bring (mm : MM) (Q : Value → MM → Prop) (a1 : Nat) (a2 : Int32) (h1 : AtState a1) (h : G e_X3_bring 17 [(0, .ref 86), (2, .int a2), (3, .int (0 : Int32))] [] (wR mm 88 (va_cpy (mm.1 (a1 + 1)) (mm.1 88) 0 0 16)) Q) : Runs e_X3_bring [.ref 86, .ref a1, .int a2] mm Q := by
  refine runs_of_G (L := [(0, .ref 86), (1, .ref a1), (2, .int a2)]) pl_X3 (Nat.le_of_ble_eq_true rfl) rfl ?_
  refine g_aload_n (pc := 0) (x := a1) dX3_bring_0 rfl ?_
  refine g_getR (pc := 1) (dd := 1) dX3_bring_1 fo_X3_40 (AtState_0 h1) rfl ?_
  refine g_iconst (pc := 4) (v := (0 : Int32)) dX3_bring_4 (by decide) ?_
  refine g_aload_n (pc := 5) (x := 86) dX3_bring_5 rfl ?_
  refine g_getR (pc := 6) (dd := 2) dX3_bring_6 fo_X3_15 sh_86 rfl ?_
  refine g_iconst (pc := 9) (v := (0 : Int32)) dX3_bring_9 (by decide) ?_
  refine g_bipush (pc := 10) (v := (16 : Int32)) dX3_bring_10 (by decide) ?_
  refine g_copyI (pc := 12) dX3_bring_12 cw_X3_58 (by decide) (Nat.le_of_ble_eq_true rfl) (AtState_1 h1) sh_88 (by decide) (by decide) (by decide) (by decide) (by decide) ?_
  refine g_iconst (pc := 15) (v := (0 : Int32)) dX3_bring_15 (by decide) ?_
  refine g_istore_n (pc := 16) (L' := [(0, .ref 86), (1, .ref a1), (2, .int a2), (3, .int (0 : Int32))]) dX3_bring_16 (Nat.le_of_ble_eq_true rfl) rfl ?_
  refine g_sub (L' := [(0, .ref 86), (2, .int a2), (3, .int (0 : Int32))]) [0, 2, 3] rfl ?_
  exact h
theorem b_X3_bring_17 (mm : MM) (Q : Value → MM → Prop) (l2 : Int32) (l3 : Int32) (h : ((mm.1 86 4) ≤ l3 → (Q .null mm)) ∧ (¬ (mm.1 86 4) ≤ l3 → ((((l2 >>> (l3 &&& 31)) &&& (1 : Int32)) = 0 → (G e_X3_bring 17 [(0, .ref 86), (2, .int l2), (3, .int (l3 + (1 : Int32)))] [] mm Q)) ∧ (¬ ((l2 >>> (l3 &&& 31)) &&& (1 : Int32)) = 0 → (vp_in l3 8 ∧ (((mm.1 87 l3.toNatClampNeg) < 0 → (G e_X3_bring 17 [(0, .ref 86), (2, .int l2), (3, .int (l3 + (1 : Int32)))] [] mm Q)) ∧ (¬ (mm.1 87 l3.toNatClampNeg) < 0 → (vp_in l3 8 ∧ (((16 : Int32) ≤ (mm.1 87 l3.toNatClampNeg) → (G e_X3_bring 17 [(0, .ref 86), (2, .int l2), (3, .int (l3 + (1 : Int32)))] [] mm Q)) ∧ (¬ (16 : Int32) ≤ (mm.1 87 l3.toNatClampNeg) → (vp_in l3 8 ∧ (vp_in l3 8 ∧ (vp_in (mm.1 87 l3.toNatClampNeg) 16 ∧ (G e_X3_bring 17 [(0, .ref 86), (2, .int l2), (3, .int (l3 + (1 : Int32)))] [] (wI mm 88 ((mm.1 87 l3.toNatClampNeg).toNatClampNeg) (mm.1 89 l3.toNatClampNeg)) Q)))))))))))))) : G e_X3_bring 17 [(0, .ref 86), (2, .int l2), (3, .int l3)] [] mm Q := by
  refine g_iload_n (pc := 17) (x := l3) dX3_bring_17 rfl ?_
  refine g_aload_n (pc := 18) (x := 86) dX3_bring_18 rfl ?_
  refine g_getI (pc := 19) dX3_bring_19 fo_X3_24 sh_86 rfl ?_
  refine g_icmp_ge (pc := 22) (tgt := 76) dX3_bring_22 (by decide) (fun c22 => ?_) (fun c22 => ?_)
  · have h := h.1 c22
    exact g_vret (pc := 76) dX3_bring_76 rfl rfl h
  · have h := h.2 c22
    refine g_iload_n (pc := 25) (x := l2) dX3_bring_25 rfl ?_
    refine g_iload_n (pc := 26) (x := l3) dX3_bring_26 rfl ?_
    refine g_ishr (pc := 27) dX3_bring_27 ?_
    refine g_iconst (pc := 28) (v := (1 : Int32)) dX3_bring_28 (by decide) ?_
    refine g_iand (pc := 29) dX3_bring_29 ?_
    refine g_if_eq (pc := 30) (tgt := 70) dX3_bring_30 (by decide) (fun c30 => ?_) (fun c30 => ?_)
    · have h := h.1 c30
      refine g_iinc (pc := 70) (x := l3) (v := (l3 + (1 : Int32))) (L' := [(0, .ref 86), (2, .int l2), (3, .int (l3 + (1 : Int32)))]) dX3_bring_70 rfl rfl (Nat.le_of_ble_eq_true rfl) rfl ?_
      refine g_goto (pc := 73) (tgt := 17) dX3_bring_73 (by decide) ?_
      exact h
    · have h := h.2 c30
      refine g_aload_n (pc := 33) (x := 86) dX3_bring_33 rfl ?_
      refine g_getR (pc := 34) (dd := 1) dX3_bring_34 fo_X3_11 sh_86 rfl ?_
      refine g_iload_n (pc := 37) (x := l3) dX3_bring_37 rfl ?_
      refine g_iaload (pc := 38) dX3_bring_38 sh_87 h.1 ?_
      have h := h.2
      refine g_if_lt (pc := 39) (tgt := 70) dX3_bring_39 (by decide) (fun c39 => ?_) (fun c39 => ?_)
      · have h := h.1 c39
        refine g_iinc (pc := 70) (x := l3) (v := (l3 + (1 : Int32))) (L' := [(0, .ref 86), (2, .int l2), (3, .int (l3 + (1 : Int32)))]) dX3_bring_70 rfl rfl (Nat.le_of_ble_eq_true rfl) rfl ?_
        refine g_goto (pc := 73) (tgt := 17) dX3_bring_73 (by decide) ?_
        exact h
      · have h := h.2 c39
        refine g_aload_n (pc := 42) (x := 86) dX3_bring_42 rfl ?_
        refine g_getR (pc := 43) (dd := 1) dX3_bring_43 fo_X3_11 sh_86 rfl ?_
        refine g_iload_n (pc := 46) (x := l3) dX3_bring_46 rfl ?_
        refine g_iaload (pc := 47) dX3_bring_47 sh_87 h.1 ?_
        have h := h.2
        refine g_bipush (pc := 48) (v := (16 : Int32)) dX3_bring_48 (by decide) ?_
        refine g_icmp_ge (pc := 50) (tgt := 70) dX3_bring_50 (by decide) (fun c50 => ?_) (fun c50 => ?_)
        · have h := h.1 c50
          refine g_iinc (pc := 70) (x := l3) (v := (l3 + (1 : Int32))) (L' := [(0, .ref 86), (2, .int l2), (3, .int (l3 + (1 : Int32)))]) dX3_bring_70 rfl rfl (Nat.le_of_ble_eq_true rfl) rfl ?_
          refine g_goto (pc := 73) (tgt := 17) dX3_bring_73 (by decide) ?_
          exact h
        · have h := h.2 c50
          refine g_aload_n (pc := 53) (x := 86) dX3_bring_53 rfl ?_
          refine g_getR (pc := 54) (dd := 2) dX3_bring_54 fo_X3_15 sh_86 rfl ?_
          refine g_aload_n (pc := 57) (x := 86) dX3_bring_57 rfl ?_
          refine g_getR (pc := 58) (dd := 1) dX3_bring_58 fo_X3_11 sh_86 rfl ?_
          refine g_iload_n (pc := 61) (x := l3) dX3_bring_61 rfl ?_
          refine g_iaload (pc := 62) dX3_bring_62 sh_87 h.1 ?_
          have h := h.2
          refine g_aload_n (pc := 63) (x := 86) dX3_bring_63 rfl ?_
          refine g_getR (pc := 64) (dd := 3) dX3_bring_64 fo_X3_18 sh_86 rfl ?_
          refine g_iload_n (pc := 67) (x := l3) dX3_bring_67 rfl ?_
          refine g_iaload (pc := 68) dX3_bring_68 sh_89 h.1 ?_
          have h := h.2
          refine g_iastore (pc := 69) dX3_bring_69 sh_88 h.1 ?_
          have h := h.2
          refine g_iinc (pc := 70) (x := l3) (v := (l3 + (1 : Int32))) (L' := [(0, .ref 86), (2, .int l2), (3, .int (l3 + (1 : Int32)))]) dX3_bring_70 rfl rfl (Nat.le_of_ble_eq_true rfl) rfl ?_
          refine g_goto (pc := 73) (tgt := 17) dX3_bring_73 (by decide) ?_
          exact h
theorem dX3_fewestFrom_0 : decode cX3_fewestFrom 0 = .ok (.sipush 1000, 3) := by decide +kernel
theorem dX3_fewestFrom_3 : decode cX3_fewestFrom 3 = .ok (.istore 4, 2) := by decide +kernel
theorem dX3_fewestFrom_5 : decode cX3_fewestFrom 5 = .ok (.iload_n 1, 1) := by decide +kernel
theorem dX3_fewestFrom_6 : decode cX3_fewestFrom 6 = .ok (.iconst 1, 1) := by decide +kernel
theorem dX3_fewestFrom_7 : decode cX3_fewestFrom 7 = .ok (.iadd, 1) := by decide +kernel
theorem dX3_fewestFrom_8 : decode cX3_fewestFrom 8 = .ok (.istore 5, 2) := by decide +kernel
theorem dX3_fewestFrom_10 : decode cX3_fewestFrom 10 = .ok (.iload 5, 2) := by decide +kernel
theorem dX3_fewestFrom_12 : decode cX3_fewestFrom 12 = .ok (.iload_n 2, 1) := by decide +kernel
theorem dX3_fewestFrom_13 : decode cX3_fewestFrom 13 = .ok (.if_icmp .gt 59, 3) := by decide +kernel
theorem dX3_fewestFrom_16 : decode cX3_fewestFrom 16 = .ok (.iload_n 1, 1) := by decide +kernel
theorem dX3_fewestFrom_17 : decode cX3_fewestFrom 17 = .ok (.iload 5, 2) := by decide +kernel
theorem dX3_fewestFrom_19 : decode cX3_fewestFrom 19 = .ok (.iconst (-1), 1) := by decide +kernel
theorem dX3_fewestFrom_20 : decode cX3_fewestFrom 20 = .ok (.ixor, 1) := by decide +kernel
theorem dX3_fewestFrom_21 : decode cX3_fewestFrom 21 = .ok (.iand, 1) := by decide +kernel
theorem dX3_fewestFrom_22 : decode cX3_fewestFrom 22 = .ok (.ifCond .ne 20, 3) := by decide +kernel
theorem dX3_fewestFrom_25 : decode cX3_fewestFrom 25 = .ok (.iload 5, 2) := by decide +kernel
theorem dX3_fewestFrom_27 : decode cX3_fewestFrom 27 = .ok (.iload_n 1, 1) := by decide +kernel
theorem dX3_fewestFrom_28 : decode cX3_fewestFrom 28 = .ok (.iconst (-1), 1) := by decide +kernel
theorem dX3_fewestFrom_29 : decode cX3_fewestFrom 29 = .ok (.ixor, 1) := by decide +kernel
theorem dX3_fewestFrom_30 : decode cX3_fewestFrom 30 = .ok (.iand, 1) := by decide +kernel
theorem dX3_fewestFrom_31 : decode cX3_fewestFrom 31 = .ok (.invokestatic 64, 3) := by decide +kernel
theorem dX3_fewestFrom_34 : decode cX3_fewestFrom 34 = .ok (.iload_n 3, 1) := by decide +kernel
theorem dX3_fewestFrom_35 : decode cX3_fewestFrom 35 = .ok (.if_icmp .gt 7, 3) := by decide +kernel
theorem dX3_fewestFrom_38 : decode cX3_fewestFrom 38 = .ok (.iconst 1, 1) := by decide +kernel
theorem dX3_fewestFrom_39 : decode cX3_fewestFrom 39 = .ok (.goto 4, 3) := by decide +kernel
theorem dX3_fewestFrom_42 : decode cX3_fewestFrom 42 = .ok (.iconst 0, 1) := by decide +kernel
theorem dX3_fewestFrom_43 : decode cX3_fewestFrom 43 = .ok (.istore 6, 2) := by decide +kernel
theorem dX3_fewestFrom_45 : decode cX3_fewestFrom 45 = .ok (.iload 6, 2) := by decide +kernel
theorem dX3_fewestFrom_47 : decode cX3_fewestFrom 47 = .ok (.ifCond .eq 19, 3) := by decide +kernel
theorem dX3_fewestFrom_50 : decode cX3_fewestFrom 50 = .ok (.iload 4, 2) := by decide +kernel
theorem dX3_fewestFrom_52 : decode cX3_fewestFrom 52 = .ok (.aload_n 0, 1) := by decide +kernel
theorem dX3_fewestFrom_53 : decode cX3_fewestFrom 53 = .ok (.getfield 21, 3) := by decide +kernel
theorem dX3_fewestFrom_56 : decode cX3_fewestFrom 56 = .ok (.iload 5, 2) := by decide +kernel
theorem dX3_fewestFrom_58 : decode cX3_fewestFrom 58 = .ok (.iaload, 1) := by decide +kernel
theorem dX3_fewestFrom_59 : decode cX3_fewestFrom 59 = .ok (.iconst 1, 1) := by decide +kernel
theorem dX3_fewestFrom_60 : decode cX3_fewestFrom 60 = .ok (.iadd, 1) := by decide +kernel
theorem dX3_fewestFrom_61 : decode cX3_fewestFrom 61 = .ok (.invokestatic 70, 3) := by decide +kernel
theorem dX3_fewestFrom_64 : decode cX3_fewestFrom 64 = .ok (.istore 4, 2) := by decide +kernel
theorem dX3_fewestFrom_66 : decode cX3_fewestFrom 66 = .ok (.iinc 5 1, 3) := by decide +kernel
theorem dX3_fewestFrom_69 : decode cX3_fewestFrom 69 = .ok (.goto (-59), 3) := by decide +kernel
theorem dX3_fewestFrom_72 : decode cX3_fewestFrom 72 = .ok (.sipush 1000, 3) := by decide +kernel
theorem dX3_fewestFrom_75 : decode cX3_fewestFrom 75 = .ok (.iload 4, 2) := by decide +kernel
theorem dX3_fewestFrom_77 : decode cX3_fewestFrom 77 = .ok (.invokestatic 70, 3) := by decide +kernel
theorem dX3_fewestFrom_80 : decode cX3_fewestFrom 80 = .ok (.ireturn, 1) := by decide +kernel
theorem b_X3_fewestFrom (mm : MM) (Q : Value → MM → Prop) (a1 : Int32) (a2 : Int32) (a3 : Int32) (h : G e_X3_fewestFrom 10 [(0, .ref 86), (1, .int a1), (2, .int a2), (3, .int a3), (4, .int (1000 : Int32)), (5, .int (a1 + (1 : Int32)))] [] mm Q) : Runs e_X3_fewestFrom [.ref 86, .int a1, .int a2, .int a3] mm Q := by
  refine runs_of_G (L := [(0, .ref 86), (1, .int a1), (2, .int a2), (3, .int a3)]) pl_X3 (Nat.le_of_ble_eq_true rfl) rfl ?_
  refine g_sipush (pc := 0) (v := (1000 : Int32)) dX3_fewestFrom_0 (by decide) ?_
  refine g_istore (pc := 3) (L' := [(0, .ref 86), (1, .int a1), (2, .int a2), (3, .int a3), (4, .int (1000 : Int32))]) dX3_fewestFrom_3 (Nat.le_of_ble_eq_true rfl) rfl ?_
  refine g_iload_n (pc := 5) (x := a1) dX3_fewestFrom_5 rfl ?_
  refine g_iconst (pc := 6) (v := (1 : Int32)) dX3_fewestFrom_6 (by decide) ?_
  refine g_iadd (pc := 7) dX3_fewestFrom_7 ?_
  refine g_istore (pc := 8) (L' := [(0, .ref 86), (1, .int a1), (2, .int a2), (3, .int a3), (4, .int (1000 : Int32)), (5, .int (a1 + (1 : Int32)))]) dX3_fewestFrom_8 (Nat.le_of_ble_eq_true rfl) rfl ?_
  exact h
theorem b_X3_fewestFrom_10 (mm : MM) (Q : Value → MM → Prop) (l1 : Int32) (l2 : Int32) (l3 : Int32) (l4 : Int32) (l5 : Int32) (h : (l2 < l5 → (Q (.int (imin (1000 : Int32) l4)) mm)) ∧ (¬ l2 < l5 → ((¬ (l1 &&& (l5 ^^^ (-1 : Int32))) = 0 → (G e_X3_fewestFrom 10 [(0, .ref 86), (1, .int l1), (2, .int l2), (3, .int l3), (4, .int l4), (5, .int (l5 + (1 : Int32)))] [] mm Q)) ∧ ((l1 &&& (l5 ^^^ (-1 : Int32))) = 0 → ((l3 < (v_J6_bitCount_0f7a4 mm (l5 &&& (l1 ^^^ (-1 : Int32)))) → (G e_X3_fewestFrom 10 [(0, .ref 86), (1, .int l1), (2, .int l2), (3, .int l3), (4, .int l4), (5, .int (l5 + (1 : Int32)))] [] mm Q)) ∧ (¬ l3 < (v_J6_bitCount_0f7a4 mm (l5 &&& (l1 ^^^ (-1 : Int32)))) → (vp_in l5 256 ∧ (G e_X3_fewestFrom 10 [(0, .ref 86), (1, .int l1), (2, .int l2), (3, .int l3), (4, .int (imin l4 ((mm.1 90 l5.toNatClampNeg) + (1 : Int32)))), (5, .int (l5 + (1 : Int32)))] [] mm Q)))))))) : G e_X3_fewestFrom 10 [(0, .ref 86), (1, .int l1), (2, .int l2), (3, .int l3), (4, .int l4), (5, .int l5)] [] mm Q := by
  refine g_iload (pc := 10) (x := l5) dX3_fewestFrom_10 rfl ?_
  refine g_iload_n (pc := 12) (x := l2) dX3_fewestFrom_12 rfl ?_
  refine g_icmp_gt (pc := 13) (tgt := 72) dX3_fewestFrom_13 (by decide) (fun c13 => ?_) (fun c13 => ?_)
  · have h := h.1 c13
    refine g_sipush (pc := 72) (v := (1000 : Int32)) dX3_fewestFrom_72 (by decide) ?_
    refine g_iload (pc := 75) (x := l4) dX3_fewestFrom_75 rfl ?_
    refine g_mmin (pc := 77) dX3_fewestFrom_77 cw_X3_70 (by decide) (Nat.le_of_ble_eq_true rfl) ?_
    exact g_iret (pc := 80) dX3_fewestFrom_80 rfl rfl rfl h
  · have h := h.2 c13
    refine g_iload_n (pc := 16) (x := l1) dX3_fewestFrom_16 rfl ?_
    refine g_iload (pc := 17) (x := l5) dX3_fewestFrom_17 rfl ?_
    refine g_iconst (pc := 19) (v := (-1 : Int32)) dX3_fewestFrom_19 (by decide) ?_
    refine g_ixor (pc := 20) dX3_fewestFrom_20 ?_
    refine g_iand (pc := 21) dX3_fewestFrom_21 ?_
    refine g_if_ne (pc := 22) (tgt := 42) dX3_fewestFrom_22 (by decide) (fun c22 => ?_) (fun c22 => ?_)
    · have h := h.1 c22
      refine g_iconst (pc := 42) (v := (0 : Int32)) dX3_fewestFrom_42 (by decide) ?_
      refine g_istore (pc := 43) (L' := [(0, .ref 86), (1, .int l1), (2, .int l2), (3, .int l3), (4, .int l4), (5, .int l5), (6, .int (0 : Int32))]) dX3_fewestFrom_43 (Nat.le_of_ble_eq_true rfl) rfl ?_
      refine g_iload (pc := 45) (x := (0 : Int32)) dX3_fewestFrom_45 rfl ?_
      refine g_if_eq (pc := 47) (tgt := 66) dX3_fewestFrom_47 (by decide) (fun _ => ?_) (fun c47 => absurd c47 (by decide))
      refine g_iinc (pc := 66) (x := l5) (v := (l5 + (1 : Int32))) (L' := [(0, .ref 86), (1, .int l1), (2, .int l2), (3, .int l3), (4, .int l4), (5, .int (l5 + (1 : Int32))), (6, .int (0 : Int32))]) dX3_fewestFrom_66 rfl rfl (Nat.le_of_ble_eq_true rfl) rfl ?_
      refine g_goto (pc := 69) (tgt := 10) dX3_fewestFrom_69 (by decide) ?_
      refine g_sub (L' := [(0, .ref 86), (1, .int l1), (2, .int l2), (3, .int l3), (4, .int l4), (5, .int (l5 + (1 : Int32)))]) [0, 1, 2, 3, 4, 5] rfl ?_
      exact h
    · have h := h.2 c22
      refine g_iload (pc := 25) (x := l5) dX3_fewestFrom_25 rfl ?_
      refine g_iload_n (pc := 27) (x := l1) dX3_fewestFrom_27 rfl ?_
      refine g_iconst (pc := 28) (v := (-1 : Int32)) dX3_fewestFrom_28 (by decide) ?_
      refine g_ixor (pc := 29) dX3_fewestFrom_29 ?_
      refine g_iand (pc := 30) dX3_fewestFrom_30 ?_
      refine g_callS (pc := 31) (as := [.int (l5 &&& (l1 ^^^ (-1 : Int32)))]) dX3_fewestFrom_31 cw_X3_64 (by decide) rfl rfl (Nat.le_of_ble_eq_true rfl) (rv_J6_bitCount_0f7a4 mm (l5 &&& (l1 ^^^ (-1 : Int32)))) ?_
      rintro r_ m_ hz_ ⟨rfl, rfl⟩
      refine g_iload_n (pc := 34) (x := l3) dX3_fewestFrom_34 rfl ?_
      refine g_icmp_gt (pc := 35) (tgt := 42) dX3_fewestFrom_35 (by decide) (fun c35 => ?_) (fun c35 => ?_)
      · have h := h.1 c35
        refine g_iconst (pc := 42) (v := (0 : Int32)) dX3_fewestFrom_42 (by decide) ?_
        refine g_istore (pc := 43) (L' := [(0, .ref 86), (1, .int l1), (2, .int l2), (3, .int l3), (4, .int l4), (5, .int l5), (6, .int (0 : Int32))]) dX3_fewestFrom_43 (Nat.le_of_ble_eq_true rfl) rfl ?_
        refine g_iload (pc := 45) (x := (0 : Int32)) dX3_fewestFrom_45 rfl ?_
        refine g_if_eq (pc := 47) (tgt := 66) dX3_fewestFrom_47 (by decide) (fun _ => ?_) (fun c47 => absurd c47 (by decide))
        refine g_iinc (pc := 66) (x := l5) (v := (l5 + (1 : Int32))) (L' := [(0, .ref 86), (1, .int l1), (2, .int l2), (3, .int l3), (4, .int l4), (5, .int (l5 + (1 : Int32))), (6, .int (0 : Int32))]) dX3_fewestFrom_66 rfl rfl (Nat.le_of_ble_eq_true rfl) rfl ?_
        refine g_goto (pc := 69) (tgt := 10) dX3_fewestFrom_69 (by decide) ?_
        refine g_sub (L' := [(0, .ref 86), (1, .int l1), (2, .int l2), (3, .int l3), (4, .int l4), (5, .int (l5 + (1 : Int32)))]) [0, 1, 2, 3, 4, 5] rfl ?_
        exact h
      · have h := h.2 c35
        refine g_iconst (pc := 38) (v := (1 : Int32)) dX3_fewestFrom_38 (by decide) ?_
        refine g_goto (pc := 39) (tgt := 43) dX3_fewestFrom_39 (by decide) ?_
        refine g_istore (pc := 43) (L' := [(0, .ref 86), (1, .int l1), (2, .int l2), (3, .int l3), (4, .int l4), (5, .int l5), (6, .int (1 : Int32))]) dX3_fewestFrom_43 (Nat.le_of_ble_eq_true rfl) rfl ?_
        refine g_iload (pc := 45) (x := (1 : Int32)) dX3_fewestFrom_45 rfl ?_
        refine g_if_eq (pc := 47) (tgt := 66) dX3_fewestFrom_47 (by decide) (fun c47 => absurd c47 (by decide)) (fun _ => ?_)
        refine g_iload (pc := 50) (x := l4) dX3_fewestFrom_50 rfl ?_
        refine g_aload_n (pc := 52) (x := 86) dX3_fewestFrom_52 rfl ?_
        refine g_getR (pc := 53) (dd := 4) dX3_fewestFrom_53 fo_X3_21 sh_86 rfl ?_
        refine g_iload (pc := 56) (x := l5) dX3_fewestFrom_56 rfl ?_
        refine g_iaload (pc := 58) dX3_fewestFrom_58 sh_90 h.1 ?_
        have h := h.2
        refine g_iconst (pc := 59) (v := (1 : Int32)) dX3_fewestFrom_59 (by decide) ?_
        refine g_iadd (pc := 60) dX3_fewestFrom_60 ?_
        refine g_mmin (pc := 61) dX3_fewestFrom_61 cw_X3_70 (by decide) (Nat.le_of_ble_eq_true rfl) ?_
        refine g_istore (pc := 64) (L' := [(0, .ref 86), (1, .int l1), (2, .int l2), (3, .int l3), (4, .int (imin l4 ((mm.1 90 l5.toNatClampNeg) + (1 : Int32)))), (5, .int l5), (6, .int (1 : Int32))]) dX3_fewestFrom_64 (Nat.le_of_ble_eq_true rfl) rfl ?_
        refine g_iinc (pc := 66) (x := l5) (v := (l5 + (1 : Int32))) (L' := [(0, .ref 86), (1, .int l1), (2, .int l2), (3, .int l3), (4, .int (imin l4 ((mm.1 90 l5.toNatClampNeg) + (1 : Int32)))), (5, .int (l5 + (1 : Int32))), (6, .int (1 : Int32))]) dX3_fewestFrom_66 rfl rfl (Nat.le_of_ble_eq_true rfl) rfl ?_
        refine g_goto (pc := 69) (tgt := 10) dX3_fewestFrom_69 (by decide) ?_
        refine g_sub (L' := [(0, .ref 86), (1, .int l1), (2, .int l2), (3, .int l3), (4, .int (imin l4 ((mm.1 90 l5.toNatClampNeg) + (1 : Int32)))), (5, .int (l5 + (1 : Int32)))]) [0, 1, 2, 3, 4, 5] rfl ?_
        exact h
theorem dX3_fewest_0 : decode cX3_fewest 0 = .ok (.aload_n 0, 1) := by decide +kernel
theorem dX3_fewest_1 : decode cX3_fewest 1 = .ok (.getfield 21, 3) := by decide +kernel
theorem dX3_fewest_4 : decode cX3_fewest 4 = .ok (.iconst 0, 1) := by decide +kernel
theorem dX3_fewest_5 : decode cX3_fewest 5 = .ok (.iaload, 1) := by decide +kernel
theorem dX3_fewest_6 : decode cX3_fewest 6 = .ok (.sipush 1000, 3) := by decide +kernel
theorem dX3_fewest_9 : decode cX3_fewest 9 = .ok (.if_icmp .lt 8, 3) := by decide +kernel
theorem dX3_fewest_12 : decode cX3_fewest 12 = .ok (.bipush (-2), 2) := by decide +kernel
theorem dX3_fewest_14 : decode cX3_fewest 14 = .ok (.goto 9, 3) := by decide +kernel
theorem dX3_fewest_17 : decode cX3_fewest 17 = .ok (.aload_n 0, 1) := by decide +kernel
theorem dX3_fewest_18 : decode cX3_fewest 18 = .ok (.getfield 21, 3) := by decide +kernel
theorem dX3_fewest_21 : decode cX3_fewest 21 = .ok (.iconst 0, 1) := by decide +kernel
theorem dX3_fewest_22 : decode cX3_fewest 22 = .ok (.iaload, 1) := by decide +kernel
theorem dX3_fewest_23 : decode cX3_fewest 23 = .ok (.ireturn, 1) := by decide +kernel
noncomputable def v_X3_fewest (mm : MM) : Int32 := (cite ((mm.1 90 0) < (1000 : Int32)) (mm.1 90 0) (-2 : Int32))
theorem rv_X3_fewest (mm : MM) : Runs e_X3_fewest [.ref 86] mm (fun r m_ => r = .int (v_X3_fewest mm) ∧ mm = m_) := by
  refine runs_of_G (L := [(0, .ref 86)]) pl_X3 (Nat.le_of_ble_eq_true rfl) rfl ?_
  refine g_aload_n (pc := 0) (x := 86) dX3_fewest_0 rfl ?_
  refine g_getR (pc := 1) (dd := 4) dX3_fewest_1 fo_X3_21 sh_86 rfl ?_
  refine g_iconst (pc := 4) (v := (0 : Int32)) dX3_fewest_4 (by decide) ?_
  refine g_iaload (pc := 5) dX3_fewest_5 sh_90 (vp_in_nI (n := 0) (N := 256) (by decide) (by decide)) ?_
  refine g_sipush (pc := 6) (v := (1000 : Int32)) dX3_fewest_6 (by decide) ?_
  refine g_icmp_lt (pc := 9) (tgt := 17) dX3_fewest_9 (by decide) (fun c9 => ?_) (fun c9 => ?_)
  · have c9_0 : (mm.1 90 0) < (1000 : Int32) := c9
    refine g_aload_n (pc := 17) (x := 86) dX3_fewest_17 rfl ?_
    refine g_getR (pc := 18) (dd := 4) dX3_fewest_18 fo_X3_21 sh_86 rfl ?_
    refine g_iconst (pc := 21) (v := (0 : Int32)) dX3_fewest_21 (by decide) ?_
    refine g_iaload (pc := 22) dX3_fewest_22 sh_90 (vp_in_nI (n := 0) (N := 256) (by decide) (by decide)) ?_
    exact g_iret (pc := 23) dX3_fewest_23 rfl rfl rfl ⟨(by unfold v_X3_fewest; rw [cite_pos c9_0] <;> rfl), rfl⟩
  · have c9_0 : ¬ (mm.1 90 0) < (1000 : Int32) := c9
    refine g_bipush (pc := 12) (v := (-2 : Int32)) dX3_fewest_12 (by decide) ?_
    refine g_goto (pc := 14) (tgt := 23) dX3_fewest_14 (by decide) ?_
    exact g_iret (pc := 23) dX3_fewest_23 rfl rfl rfl ⟨(by unfold v_X3_fewest; rw [cite_neg c9_0] <;> rfl), rfl⟩
theorem dX3_firstNight_0 : decode cX3_firstNight 0 = .ok (.iconst 0, 1) := by decide +kernel
theorem dX3_firstNight_1 : decode cX3_firstNight 1 = .ok (.istore_n 2, 1) := by decide +kernel
theorem dX3_firstNight_2 : decode cX3_firstNight 2 = .ok (.bipush 9, 2) := by decide +kernel
theorem dX3_firstNight_4 : decode cX3_firstNight 4 = .ok (.istore_n 3, 1) := by decide +kernel
theorem dX3_firstNight_5 : decode cX3_firstNight 5 = .ok (.iconst 1, 1) := by decide +kernel
theorem dX3_firstNight_6 : decode cX3_firstNight 6 = .ok (.istore 4, 2) := by decide +kernel
theorem dX3_firstNight_8 : decode cX3_firstNight 8 = .ok (.iload 4, 2) := by decide +kernel
theorem dX3_firstNight_10 : decode cX3_firstNight 10 = .ok (.iconst 1, 1) := by decide +kernel
theorem dX3_firstNight_11 : decode cX3_firstNight 11 = .ok (.aload_n 0, 1) := by decide +kernel
theorem dX3_firstNight_12 : decode cX3_firstNight 12 = .ok (.getfield 24, 3) := by decide +kernel
theorem dX3_firstNight_15 : decode cX3_firstNight 15 = .ok (.ishl, 1) := by decide +kernel
theorem dX3_firstNight_16 : decode cX3_firstNight 16 = .ok (.if_icmp .ge 62, 3) := by decide +kernel
theorem dX3_firstNight_19 : decode cX3_firstNight 19 = .ok (.iload 4, 2) := by decide +kernel
theorem dX3_firstNight_21 : decode cX3_firstNight 21 = .ok (.aload_n 0, 1) := by decide +kernel
theorem dX3_firstNight_22 : decode cX3_firstNight 22 = .ok (.getfield 21, 3) := by decide +kernel
theorem dX3_firstNight_25 : decode cX3_firstNight 25 = .ok (.arraylength, 1) := by decide +kernel
theorem dX3_firstNight_26 : decode cX3_firstNight 26 = .ok (.if_icmp .ge 52, 3) := by decide +kernel
theorem dX3_firstNight_29 : decode cX3_firstNight 29 = .ok (.iload 4, 2) := by decide +kernel
theorem dX3_firstNight_31 : decode cX3_firstNight 31 = .ok (.invokestatic 64, 3) := by decide +kernel
theorem dX3_firstNight_34 : decode cX3_firstNight 34 = .ok (.istore 5, 2) := by decide +kernel
theorem dX3_firstNight_36 : decode cX3_firstNight 36 = .ok (.iload 5, 2) := by decide +kernel
theorem dX3_firstNight_38 : decode cX3_firstNight 38 = .ok (.iload_n 1, 1) := by decide +kernel
theorem dX3_firstNight_39 : decode cX3_firstNight 39 = .ok (.if_icmp .gt 33, 3) := by decide +kernel
theorem dX3_firstNight_42 : decode cX3_firstNight 42 = .ok (.iload 5, 2) := by decide +kernel
theorem dX3_firstNight_44 : decode cX3_firstNight 44 = .ok (.iload_n 3, 1) := by decide +kernel
theorem dX3_firstNight_45 : decode cX3_firstNight 45 = .ok (.if_icmp .ge 27, 3) := by decide +kernel
theorem dX3_firstNight_48 : decode cX3_firstNight 48 = .ok (.aload_n 0, 1) := by decide +kernel
theorem dX3_firstNight_49 : decode cX3_firstNight 49 = .ok (.getfield 21, 3) := by decide +kernel
theorem dX3_firstNight_52 : decode cX3_firstNight 52 = .ok (.iload 4, 2) := by decide +kernel
theorem dX3_firstNight_54 : decode cX3_firstNight 54 = .ok (.iaload, 1) := by decide +kernel
theorem dX3_firstNight_55 : decode cX3_firstNight 55 = .ok (.iconst 1, 1) := by decide +kernel
theorem dX3_firstNight_56 : decode cX3_firstNight 56 = .ok (.iadd, 1) := by decide +kernel
theorem dX3_firstNight_57 : decode cX3_firstNight 57 = .ok (.aload_n 0, 1) := by decide +kernel
theorem dX3_firstNight_58 : decode cX3_firstNight 58 = .ok (.getfield 21, 3) := by decide +kernel
theorem dX3_firstNight_61 : decode cX3_firstNight 61 = .ok (.iconst 0, 1) := by decide +kernel
theorem dX3_firstNight_62 : decode cX3_firstNight 62 = .ok (.iaload, 1) := by decide +kernel
theorem dX3_firstNight_63 : decode cX3_firstNight 63 = .ok (.if_icmp .ne 9, 3) := by decide +kernel
theorem dX3_firstNight_66 : decode cX3_firstNight 66 = .ok (.iload 4, 2) := by decide +kernel
theorem dX3_firstNight_68 : decode cX3_firstNight 68 = .ok (.istore_n 2, 1) := by decide +kernel
theorem dX3_firstNight_69 : decode cX3_firstNight 69 = .ok (.iload 5, 2) := by decide +kernel
theorem dX3_firstNight_71 : decode cX3_firstNight 71 = .ok (.istore_n 3, 1) := by decide +kernel
theorem dX3_firstNight_72 : decode cX3_firstNight 72 = .ok (.iinc 4 1, 3) := by decide +kernel
theorem dX3_firstNight_75 : decode cX3_firstNight 75 = .ok (.goto (-67), 3) := by decide +kernel
theorem dX3_firstNight_78 : decode cX3_firstNight 78 = .ok (.aload_n 0, 1) := by decide +kernel
theorem dX3_firstNight_79 : decode cX3_firstNight 79 = .ok (.iload_n 2, 1) := by decide +kernel
theorem dX3_firstNight_80 : decode cX3_firstNight 80 = .ok (.invokevirtual 76, 3) := by decide +kernel
theorem dX3_firstNight_83 : decode cX3_firstNight 83 = .ok (.ireturn, 1) := by decide +kernel
theorem b_X3_firstNight (mm : MM) (Q : Value → MM → Prop) (a1 : Int32) (h : G e_X3_firstNight 8 [(0, .ref 86), (1, .int a1), (2, .int (0 : Int32)), (3, .int (9 : Int32)), (4, .int (1 : Int32))] [] mm Q) : Runs e_X3_firstNight [.ref 86, .int a1] mm Q := by
  refine runs_of_G (L := [(0, .ref 86), (1, .int a1)]) pl_X3 (Nat.le_of_ble_eq_true rfl) rfl ?_
  refine g_iconst (pc := 0) (v := (0 : Int32)) dX3_firstNight_0 (by decide) ?_
  refine g_istore_n (pc := 1) (L' := [(0, .ref 86), (1, .int a1), (2, .int (0 : Int32))]) dX3_firstNight_1 (Nat.le_of_ble_eq_true rfl) rfl ?_
  refine g_bipush (pc := 2) (v := (9 : Int32)) dX3_firstNight_2 (by decide) ?_
  refine g_istore_n (pc := 4) (L' := [(0, .ref 86), (1, .int a1), (2, .int (0 : Int32)), (3, .int (9 : Int32))]) dX3_firstNight_4 (Nat.le_of_ble_eq_true rfl) rfl ?_
  refine g_iconst (pc := 5) (v := (1 : Int32)) dX3_firstNight_5 (by decide) ?_
  refine g_istore (pc := 6) (L' := [(0, .ref 86), (1, .int a1), (2, .int (0 : Int32)), (3, .int (9 : Int32)), (4, .int (1 : Int32))]) dX3_firstNight_6 (Nat.le_of_ble_eq_true rfl) rfl ?_
  exact h
theorem b_X3_firstNight_8 (mm : MM) (Q : Value → MM → Prop) (l1 : Int32) (l2 : Int32) (l3 : Int32) (l4 : Int32) (h : (((1 : Int32) <<< ((mm.1 86 4) &&& 31)) ≤ l4 → (∃ Pm1 : Value → MM → Prop, Runs e_X3_houseBits [.ref 86, .int l2] mm Pm1 ∧ ∀ (r1 : Int32) (m1 : MM), Pm1 (.int r1) m1 → (Q (.int r1) m1))) ∧ (¬ ((1 : Int32) <<< ((mm.1 86 4) &&& 31)) ≤ l4 → (((256 : Int32) ≤ l4 → (∃ Pm1 : Value → MM → Prop, Runs e_X3_houseBits [.ref 86, .int l2] mm Pm1 ∧ ∀ (r1 : Int32) (m1 : MM), Pm1 (.int r1) m1 → (Q (.int r1) m1))) ∧ (¬ (256 : Int32) ≤ l4 → ((l1 < (v_J6_bitCount_0f7a4 mm l4) → (G e_X3_firstNight 8 [(0, .ref 86), (1, .int l1), (2, .int l2), (3, .int l3), (4, .int (l4 + (1 : Int32)))] [] mm Q)) ∧ (¬ l1 < (v_J6_bitCount_0f7a4 mm l4) → ((l3 ≤ (v_J6_bitCount_0f7a4 mm l4) → (G e_X3_firstNight 8 [(0, .ref 86), (1, .int l1), (2, .int l2), (3, .int l3), (4, .int (l4 + (1 : Int32)))] [] mm Q)) ∧ (¬ l3 ≤ (v_J6_bitCount_0f7a4 mm l4) → (vp_in l4 256 ∧ ((¬ ((mm.1 90 l4.toNatClampNeg) + (1 : Int32)) = (mm.1 90 0) → (G e_X3_firstNight 8 [(0, .ref 86), (1, .int l1), (2, .int l2), (3, .int l3), (4, .int (l4 + (1 : Int32)))] [] mm Q)) ∧ (((mm.1 90 l4.toNatClampNeg) + (1 : Int32)) = (mm.1 90 0) → (G e_X3_firstNight 8 [(0, .ref 86), (1, .int l1), (2, .int l4), (3, .int (v_J6_bitCount_0f7a4 mm l4)), (4, .int (l4 + (1 : Int32)))] [] mm Q)))))))))))) : G e_X3_firstNight 8 [(0, .ref 86), (1, .int l1), (2, .int l2), (3, .int l3), (4, .int l4)] [] mm Q := by
  refine g_iload (pc := 8) (x := l4) dX3_firstNight_8 rfl ?_
  refine g_iconst (pc := 10) (v := (1 : Int32)) dX3_firstNight_10 (by decide) ?_
  refine g_aload_n (pc := 11) (x := 86) dX3_firstNight_11 rfl ?_
  refine g_getI (pc := 12) dX3_firstNight_12 fo_X3_24 sh_86 rfl ?_
  refine g_ishl (pc := 15) dX3_firstNight_15 ?_
  refine g_icmp_ge (pc := 16) (tgt := 78) dX3_firstNight_16 (by decide) (fun c16 => ?_) (fun c16 => ?_)
  · have h := h.1 c16
    refine g_aload_n (pc := 78) (x := 86) dX3_firstNight_78 rfl ?_
    refine g_iload_n (pc := 79) (x := l2) dX3_firstNight_79 rfl ?_
    obtain ⟨Pm1, hRm1, h⟩ := h
    refine g_callV (pc := 80) (as := [.int l2]) dX3_firstNight_80 cw_X3_76 (by decide) rfl rfl sh_86 (Nat.le_of_ble_eq_true rfl) hRm1 ?_
    intro r_ m1 hz_ hp_
    obtain ⟨r1, rfl⟩ := hz_
    have h := h r1 m1 hp_
    exact g_iret (pc := 83) dX3_firstNight_83 rfl rfl rfl h
  · have h := h.2 c16
    refine g_iload (pc := 19) (x := l4) dX3_firstNight_19 rfl ?_
    refine g_aload_n (pc := 21) (x := 86) dX3_firstNight_21 rfl ?_
    refine g_getR (pc := 22) (dd := 4) dX3_firstNight_22 fo_X3_21 sh_86 rfl ?_
    refine g_alen (pc := 25) (t := 0) (v := (256 : Int32)) (by decide) dX3_firstNight_25 sh_90 (by decide) ?_
    refine g_icmp_ge (pc := 26) (tgt := 78) dX3_firstNight_26 (by decide) (fun c26 => ?_) (fun c26 => ?_)
    · have h := h.1 c26
      refine g_aload_n (pc := 78) (x := 86) dX3_firstNight_78 rfl ?_
      refine g_iload_n (pc := 79) (x := l2) dX3_firstNight_79 rfl ?_
      obtain ⟨Pm1, hRm1, h⟩ := h
      refine g_callV (pc := 80) (as := [.int l2]) dX3_firstNight_80 cw_X3_76 (by decide) rfl rfl sh_86 (Nat.le_of_ble_eq_true rfl) hRm1 ?_
      intro r_ m1 hz_ hp_
      obtain ⟨r1, rfl⟩ := hz_
      have h := h r1 m1 hp_
      exact g_iret (pc := 83) dX3_firstNight_83 rfl rfl rfl h
    · have h := h.2 c26
      refine g_iload (pc := 29) (x := l4) dX3_firstNight_29 rfl ?_
      refine g_callS (pc := 31) (as := [.int l4]) dX3_firstNight_31 cw_X3_64 (by decide) rfl rfl (Nat.le_of_ble_eq_true rfl) (rv_J6_bitCount_0f7a4 mm l4) ?_
      rintro r_ m_ hz_ ⟨rfl, rfl⟩
      refine g_istore (pc := 34) (L' := [(0, .ref 86), (1, .int l1), (2, .int l2), (3, .int l3), (4, .int l4), (5, .int (v_J6_bitCount_0f7a4 mm l4))]) dX3_firstNight_34 (Nat.le_of_ble_eq_true rfl) rfl ?_
      refine g_iload (pc := 36) (x := (v_J6_bitCount_0f7a4 mm l4)) dX3_firstNight_36 rfl ?_
      refine g_iload_n (pc := 38) (x := l1) dX3_firstNight_38 rfl ?_
      refine g_icmp_gt (pc := 39) (tgt := 72) dX3_firstNight_39 (by decide) (fun c39 => ?_) (fun c39 => ?_)
      · have h := h.1 c39
        refine g_iinc (pc := 72) (x := l4) (v := (l4 + (1 : Int32))) (L' := [(0, .ref 86), (1, .int l1), (2, .int l2), (3, .int l3), (4, .int (l4 + (1 : Int32))), (5, .int (v_J6_bitCount_0f7a4 mm l4))]) dX3_firstNight_72 rfl rfl (Nat.le_of_ble_eq_true rfl) rfl ?_
        refine g_goto (pc := 75) (tgt := 8) dX3_firstNight_75 (by decide) ?_
        refine g_sub (L' := [(0, .ref 86), (1, .int l1), (2, .int l2), (3, .int l3), (4, .int (l4 + (1 : Int32)))]) [0, 1, 2, 3, 4] rfl ?_
        exact h
      · have h := h.2 c39
        refine g_iload (pc := 42) (x := (v_J6_bitCount_0f7a4 mm l4)) dX3_firstNight_42 rfl ?_
        refine g_iload_n (pc := 44) (x := l3) dX3_firstNight_44 rfl ?_
        refine g_icmp_ge (pc := 45) (tgt := 72) dX3_firstNight_45 (by decide) (fun c45 => ?_) (fun c45 => ?_)
        · have h := h.1 c45
          refine g_iinc (pc := 72) (x := l4) (v := (l4 + (1 : Int32))) (L' := [(0, .ref 86), (1, .int l1), (2, .int l2), (3, .int l3), (4, .int (l4 + (1 : Int32))), (5, .int (v_J6_bitCount_0f7a4 mm l4))]) dX3_firstNight_72 rfl rfl (Nat.le_of_ble_eq_true rfl) rfl ?_
          refine g_goto (pc := 75) (tgt := 8) dX3_firstNight_75 (by decide) ?_
          refine g_sub (L' := [(0, .ref 86), (1, .int l1), (2, .int l2), (3, .int l3), (4, .int (l4 + (1 : Int32)))]) [0, 1, 2, 3, 4] rfl ?_
          exact h
        · have h := h.2 c45
          refine g_aload_n (pc := 48) (x := 86) dX3_firstNight_48 rfl ?_
          refine g_getR (pc := 49) (dd := 4) dX3_firstNight_49 fo_X3_21 sh_86 rfl ?_
          refine g_iload (pc := 52) (x := l4) dX3_firstNight_52 rfl ?_
          refine g_iaload (pc := 54) dX3_firstNight_54 sh_90 h.1 ?_
          have h := h.2
          refine g_iconst (pc := 55) (v := (1 : Int32)) dX3_firstNight_55 (by decide) ?_
          refine g_iadd (pc := 56) dX3_firstNight_56 ?_
          refine g_aload_n (pc := 57) (x := 86) dX3_firstNight_57 rfl ?_
          refine g_getR (pc := 58) (dd := 4) dX3_firstNight_58 fo_X3_21 sh_86 rfl ?_
          refine g_iconst (pc := 61) (v := (0 : Int32)) dX3_firstNight_61 (by decide) ?_
          refine g_iaload (pc := 62) dX3_firstNight_62 sh_90 (vp_in_nI (n := 0) (N := 256) (by decide) (by decide)) ?_
          refine g_icmp_ne (pc := 63) (tgt := 72) dX3_firstNight_63 (by decide) (fun c63 => ?_) (fun c63 => ?_)
          · have h := h.1 c63
            refine g_iinc (pc := 72) (x := l4) (v := (l4 + (1 : Int32))) (L' := [(0, .ref 86), (1, .int l1), (2, .int l2), (3, .int l3), (4, .int (l4 + (1 : Int32))), (5, .int (v_J6_bitCount_0f7a4 mm l4))]) dX3_firstNight_72 rfl rfl (Nat.le_of_ble_eq_true rfl) rfl ?_
            refine g_goto (pc := 75) (tgt := 8) dX3_firstNight_75 (by decide) ?_
            refine g_sub (L' := [(0, .ref 86), (1, .int l1), (2, .int l2), (3, .int l3), (4, .int (l4 + (1 : Int32)))]) [0, 1, 2, 3, 4] rfl ?_
            exact h
          · have h := h.2 c63
            refine g_iload (pc := 66) (x := l4) dX3_firstNight_66 rfl ?_
            refine g_istore_n (pc := 68) (L' := [(0, .ref 86), (1, .int l1), (2, .int l4), (3, .int l3), (4, .int l4), (5, .int (v_J6_bitCount_0f7a4 mm l4))]) dX3_firstNight_68 (Nat.le_of_ble_eq_true rfl) rfl ?_
            refine g_iload (pc := 69) (x := (v_J6_bitCount_0f7a4 mm l4)) dX3_firstNight_69 rfl ?_
            refine g_istore_n (pc := 71) (L' := [(0, .ref 86), (1, .int l1), (2, .int l4), (3, .int (v_J6_bitCount_0f7a4 mm l4)), (4, .int l4), (5, .int (v_J6_bitCount_0f7a4 mm l4))]) dX3_firstNight_71 (Nat.le_of_ble_eq_true rfl) rfl ?_
            refine g_iinc (pc := 72) (x := l4) (v := (l4 + (1 : Int32))) (L' := [(0, .ref 86), (1, .int l1), (2, .int l4), (3, .int (v_J6_bitCount_0f7a4 mm l4)), (4, .int (l4 + (1 : Int32))), (5, .int (v_J6_bitCount_0f7a4 mm l4))]) dX3_firstNight_72 rfl rfl (Nat.le_of_ble_eq_true rfl) rfl ?_
            refine g_goto (pc := 75) (tgt := 8) dX3_firstNight_75 (by decide) ?_
            refine g_sub (L' := [(0, .ref 86), (1, .int l1), (2, .int l4), (3, .int (v_J6_bitCount_0f7a4 mm l4)), (4, .int (l4 + (1 : Int32)))]) [0, 1, 2, 3, 4] rfl ?_
            exact h
theorem dX3_houseBits_0 : decode cX3_houseBits 0 = .ok (.iconst 0, 1) := by decide +kernel
theorem dX3_houseBits_1 : decode cX3_houseBits 1 = .ok (.istore_n 2, 1) := by decide +kernel
theorem dX3_houseBits_2 : decode cX3_houseBits 2 = .ok (.iconst 0, 1) := by decide +kernel
theorem dX3_houseBits_3 : decode cX3_houseBits 3 = .ok (.istore_n 3, 1) := by decide +kernel
theorem dX3_houseBits_4 : decode cX3_houseBits 4 = .ok (.iload_n 3, 1) := by decide +kernel
theorem dX3_houseBits_5 : decode cX3_houseBits 5 = .ok (.aload_n 0, 1) := by decide +kernel
theorem dX3_houseBits_6 : decode cX3_houseBits 6 = .ok (.getfield 24, 3) := by decide +kernel
theorem dX3_houseBits_9 : decode cX3_houseBits 9 = .ok (.if_icmp .ge 28, 3) := by decide +kernel
theorem dX3_houseBits_12 : decode cX3_houseBits 12 = .ok (.iload_n 1, 1) := by decide +kernel
theorem dX3_houseBits_13 : decode cX3_houseBits 13 = .ok (.iload_n 3, 1) := by decide +kernel
theorem dX3_houseBits_14 : decode cX3_houseBits 14 = .ok (.ishr, 1) := by decide +kernel
theorem dX3_houseBits_15 : decode cX3_houseBits 15 = .ok (.iconst 1, 1) := by decide +kernel
theorem dX3_houseBits_16 : decode cX3_houseBits 16 = .ok (.iand, 1) := by decide +kernel
theorem dX3_houseBits_17 : decode cX3_houseBits 17 = .ok (.ifCond .eq 14, 3) := by decide +kernel
theorem dX3_houseBits_20 : decode cX3_houseBits 20 = .ok (.iload_n 2, 1) := by decide +kernel
theorem dX3_houseBits_21 : decode cX3_houseBits 21 = .ok (.iconst 1, 1) := by decide +kernel
theorem dX3_houseBits_22 : decode cX3_houseBits 22 = .ok (.aload_n 0, 1) := by decide +kernel
theorem dX3_houseBits_23 : decode cX3_houseBits 23 = .ok (.getfield 11, 3) := by decide +kernel
theorem dX3_houseBits_26 : decode cX3_houseBits 26 = .ok (.iload_n 3, 1) := by decide +kernel
theorem dX3_houseBits_27 : decode cX3_houseBits 27 = .ok (.iaload, 1) := by decide +kernel
theorem dX3_houseBits_28 : decode cX3_houseBits 28 = .ok (.ishl, 1) := by decide +kernel
theorem dX3_houseBits_29 : decode cX3_houseBits 29 = .ok (.ior, 1) := by decide +kernel
theorem dX3_houseBits_30 : decode cX3_houseBits 30 = .ok (.istore_n 2, 1) := by decide +kernel
theorem dX3_houseBits_31 : decode cX3_houseBits 31 = .ok (.iinc 3 1, 3) := by decide +kernel
theorem dX3_houseBits_34 : decode cX3_houseBits 34 = .ok (.goto (-30), 3) := by decide +kernel
theorem dX3_houseBits_37 : decode cX3_houseBits 37 = .ok (.iload_n 2, 1) := by decide +kernel
theorem dX3_houseBits_38 : decode cX3_houseBits 38 = .ok (.ireturn, 1) := by decide +kernel
theorem b_X3_houseBits (mm : MM) (Q : Value → MM → Prop) (a1 : Int32) (h : G e_X3_houseBits 4 [(0, .ref 86), (1, .int a1), (2, .int (0 : Int32)), (3, .int (0 : Int32))] [] mm Q) : Runs e_X3_houseBits [.ref 86, .int a1] mm Q := by
  refine runs_of_G (L := [(0, .ref 86), (1, .int a1)]) pl_X3 (Nat.le_of_ble_eq_true rfl) rfl ?_
  refine g_iconst (pc := 0) (v := (0 : Int32)) dX3_houseBits_0 (by decide) ?_
  refine g_istore_n (pc := 1) (L' := [(0, .ref 86), (1, .int a1), (2, .int (0 : Int32))]) dX3_houseBits_1 (Nat.le_of_ble_eq_true rfl) rfl ?_
  refine g_iconst (pc := 2) (v := (0 : Int32)) dX3_houseBits_2 (by decide) ?_
  refine g_istore_n (pc := 3) (L' := [(0, .ref 86), (1, .int a1), (2, .int (0 : Int32)), (3, .int (0 : Int32))]) dX3_houseBits_3 (Nat.le_of_ble_eq_true rfl) rfl ?_
  exact h
theorem b_X3_houseBits_4 (mm : MM) (Q : Value → MM → Prop) (l1 : Int32) (l2 : Int32) (l3 : Int32) (h : ((mm.1 86 4) ≤ l3 → (Q (.int l2) mm)) ∧ (¬ (mm.1 86 4) ≤ l3 → ((((l1 >>> (l3 &&& 31)) &&& (1 : Int32)) = 0 → (G e_X3_houseBits 4 [(0, .ref 86), (1, .int l1), (2, .int l2), (3, .int (l3 + (1 : Int32)))] [] mm Q)) ∧ (¬ ((l1 >>> (l3 &&& 31)) &&& (1 : Int32)) = 0 → (vp_in l3 8 ∧ (G e_X3_houseBits 4 [(0, .ref 86), (1, .int l1), (2, .int (l2 ||| ((1 : Int32) <<< ((mm.1 87 l3.toNatClampNeg) &&& 31)))), (3, .int (l3 + (1 : Int32)))] [] mm Q)))))) : G e_X3_houseBits 4 [(0, .ref 86), (1, .int l1), (2, .int l2), (3, .int l3)] [] mm Q := by
  refine g_iload_n (pc := 4) (x := l3) dX3_houseBits_4 rfl ?_
  refine g_aload_n (pc := 5) (x := 86) dX3_houseBits_5 rfl ?_
  refine g_getI (pc := 6) dX3_houseBits_6 fo_X3_24 sh_86 rfl ?_
  refine g_icmp_ge (pc := 9) (tgt := 37) dX3_houseBits_9 (by decide) (fun c9 => ?_) (fun c9 => ?_)
  · have h := h.1 c9
    refine g_iload_n (pc := 37) (x := l2) dX3_houseBits_37 rfl ?_
    exact g_iret (pc := 38) dX3_houseBits_38 rfl rfl rfl h
  · have h := h.2 c9
    refine g_iload_n (pc := 12) (x := l1) dX3_houseBits_12 rfl ?_
    refine g_iload_n (pc := 13) (x := l3) dX3_houseBits_13 rfl ?_
    refine g_ishr (pc := 14) dX3_houseBits_14 ?_
    refine g_iconst (pc := 15) (v := (1 : Int32)) dX3_houseBits_15 (by decide) ?_
    refine g_iand (pc := 16) dX3_houseBits_16 ?_
    refine g_if_eq (pc := 17) (tgt := 31) dX3_houseBits_17 (by decide) (fun c17 => ?_) (fun c17 => ?_)
    · have h := h.1 c17
      refine g_iinc (pc := 31) (x := l3) (v := (l3 + (1 : Int32))) (L' := [(0, .ref 86), (1, .int l1), (2, .int l2), (3, .int (l3 + (1 : Int32)))]) dX3_houseBits_31 rfl rfl (Nat.le_of_ble_eq_true rfl) rfl ?_
      refine g_goto (pc := 34) (tgt := 4) dX3_houseBits_34 (by decide) ?_
      exact h
    · have h := h.2 c17
      refine g_iload_n (pc := 20) (x := l2) dX3_houseBits_20 rfl ?_
      refine g_iconst (pc := 21) (v := (1 : Int32)) dX3_houseBits_21 (by decide) ?_
      refine g_aload_n (pc := 22) (x := 86) dX3_houseBits_22 rfl ?_
      refine g_getR (pc := 23) (dd := 1) dX3_houseBits_23 fo_X3_11 sh_86 rfl ?_
      refine g_iload_n (pc := 26) (x := l3) dX3_houseBits_26 rfl ?_
      refine g_iaload (pc := 27) dX3_houseBits_27 sh_87 h.1 ?_
      have h := h.2
      refine g_ishl (pc := 28) dX3_houseBits_28 ?_
      refine g_ior (pc := 29) dX3_houseBits_29 ?_
      refine g_istore_n (pc := 30) (L' := [(0, .ref 86), (1, .int l1), (2, .int (l2 ||| ((1 : Int32) <<< ((mm.1 87 l3.toNatClampNeg) &&& 31)))), (3, .int l3)]) dX3_houseBits_30 (Nat.le_of_ble_eq_true rfl) rfl ?_
      refine g_iinc (pc := 31) (x := l3) (v := (l3 + (1 : Int32))) (L' := [(0, .ref 86), (1, .int l1), (2, .int (l2 ||| ((1 : Int32) <<< ((mm.1 87 l3.toNatClampNeg) &&& 31)))), (3, .int (l3 + (1 : Int32)))]) dX3_houseBits_31 rfl rfl (Nat.le_of_ble_eq_true rfl) rfl ?_
      refine g_goto (pc := 34) (tgt := 4) dX3_houseBits_34 (by decide) ?_
      exact h
theorem dX4_begin_0 : decode cX4_begin 0 = .ok (.aload_n 0, 1) := by decide +kernel
theorem dX4_begin_1 : decode cX4_begin 1 = .ok (.getfield 32, 3) := by decide +kernel
theorem dX4_begin_4 : decode cX4_begin 4 = .ok (.invokevirtual 81, 3) := by decide +kernel
theorem dX4_begin_7 : decode cX4_begin 7 = .ok (.aload_n 0, 1) := by decide +kernel
theorem dX4_begin_8 : decode cX4_begin 8 = .ok (.getfield 39, 3) := by decide +kernel
theorem dX4_begin_11 : decode cX4_begin 11 = .ok (.invokevirtual 84, 3) := by decide +kernel
theorem dX4_begin_14 : decode cX4_begin 14 = .ok (.aload_n 0, 1) := by decide +kernel
theorem dX4_begin_15 : decode cX4_begin 15 = .ok (.iconst 0, 1) := by decide +kernel
theorem dX4_begin_16 : decode cX4_begin 16 = .ok (.putfield 43, 3) := by decide +kernel
theorem dX4_begin_19 : decode cX4_begin 19 = .ok (.aload_n 0, 1) := by decide +kernel
theorem dX4_begin_20 : decode cX4_begin 20 = .ok (.iconst 0, 1) := by decide +kernel
theorem dX4_begin_21 : decode cX4_begin 21 = .ok (.putfield 47, 3) := by decide +kernel
theorem dX4_begin_24 : decode cX4_begin 24 = .ok (.aload_n 0, 1) := by decide +kernel
theorem dX4_begin_25 : decode cX4_begin 25 = .ok (.iconst (-1), 1) := by decide +kernel
theorem dX4_begin_26 : decode cX4_begin 26 = .ok (.putfield 50, 3) := by decide +kernel
theorem dX4_begin_29 : decode cX4_begin 29 = .ok (.aload_n 0, 1) := by decide +kernel
theorem dX4_begin_30 : decode cX4_begin 30 = .ok (.iconst 0, 1) := by decide +kernel
theorem dX4_begin_31 : decode cX4_begin 31 = .ok (.putfield 53, 3) := by decide +kernel
theorem dX4_begin_34 : decode cX4_begin 34 = .ok (.aload_n 0, 1) := by decide +kernel
theorem dX4_begin_35 : decode cX4_begin 35 = .ok (.iconst 0, 1) := by decide +kernel
theorem dX4_begin_36 : decode cX4_begin 36 = .ok (.putfield 59, 3) := by decide +kernel
theorem dX4_begin_39 : decode cX4_begin 39 = .ok (.aload_n 0, 1) := by decide +kernel
theorem dX4_begin_40 : decode cX4_begin 40 = .ok (.iconst 0, 1) := by decide +kernel
theorem dX4_begin_41 : decode cX4_begin 41 = .ok (.putfield 62, 3) := by decide +kernel
theorem dX4_begin_44 : decode cX4_begin 44 = .ok (.return_, 1) := by decide +kernel
theorem b_X4_begin (mm : MM) (Q : Value → MM → Prop) (h : AtTown (mm.2.2 1 4) ∧ (∃ Pm2 : Value → MM → Prop, Runs e_X8_empty [.ref (mm.2.2 1 4)] mm Pm2 ∧ ∀ m2, Pm2 .null m2 → (AtState (m2.2.2 1 5) ∧ (∃ Pm4 : Value → MM → Prop, Runs e_X6_empty [.ref (m2.2.2 1 5)] m2 Pm4 ∧ ∀ m4, Pm4 .null m4 → (Q .null (wI (wI (wI (wI (wI (wI m4 1 6 (0 : Int32)) 1 7 (0 : Int32)) 1 8 (-1 : Int32)) 1 9 (0 : Int32)) 1 11 (0 : Int32)) 1 12 (0 : Int32))))))) : Runs e_X4_begin [.ref 1] mm Q := by
  refine runs_of_G (L := [(0, .ref 1)]) pl_X4 (Nat.le_of_ble_eq_true rfl) rfl ?_
  refine g_aload_n (pc := 0) (x := 1) dX4_begin_0 rfl ?_
  refine g_getVt (pc := 1) (t := (mm.2.2 1 4)) dX4_begin_1 fo_X4_32 sh_1 rfl rfl ?_
  have hr0 := h.1
  have h := h.2
  obtain ⟨Pm2, hRm2, h⟩ := h
  refine g_callV (pc := 4) (as := []) dX4_begin_4 cw_X4_81 (by decide) rfl rfl (AtTown_0 hr0) (Nat.le_of_ble_eq_true rfl) hRm2 ?_
  intro r_ m2 hz_ hp_
  obtain rfl := hz_
  have h := h m2 hp_
  refine g_aload_n (pc := 7) (x := 1) dX4_begin_7 rfl ?_
  refine g_getVt (pc := 8) (t := (m2.2.2 1 5)) dX4_begin_8 fo_X4_39 sh_1 rfl rfl ?_
  have hr2 := h.1
  have h := h.2
  obtain ⟨Pm4, hRm4, h⟩ := h
  refine g_callV (pc := 11) (as := []) dX4_begin_11 cw_X4_84 (by decide) rfl rfl (AtState_0 hr2) (Nat.le_of_ble_eq_true rfl) hRm4 ?_
  intro r_ m4 hz_ hp_
  obtain rfl := hz_
  have h := h m4 hp_
  refine g_aload_n (pc := 14) (x := 1) dX4_begin_14 rfl ?_
  refine g_iconst (pc := 15) (v := (0 : Int32)) dX4_begin_15 (by decide) ?_
  refine g_putI (pc := 16) dX4_begin_16 fo_X4_43 sh_1 rfl rfl rfl ?_
  refine g_aload_n (pc := 19) (x := 1) dX4_begin_19 rfl ?_
  refine g_iconst (pc := 20) (v := (0 : Int32)) dX4_begin_20 (by decide) ?_
  refine g_putI (pc := 21) dX4_begin_21 fo_X4_47 sh_1 rfl rfl rfl ?_
  refine g_aload_n (pc := 24) (x := 1) dX4_begin_24 rfl ?_
  refine g_iconst (pc := 25) (v := (-1 : Int32)) dX4_begin_25 (by decide) ?_
  refine g_putI (pc := 26) dX4_begin_26 fo_X4_50 sh_1 rfl rfl rfl ?_
  refine g_aload_n (pc := 29) (x := 1) dX4_begin_29 rfl ?_
  refine g_iconst (pc := 30) (v := (0 : Int32)) dX4_begin_30 (by decide) ?_
  refine g_putI (pc := 31) dX4_begin_31 fo_X4_53 sh_1 rfl rfl rfl ?_
  refine g_aload_n (pc := 34) (x := 1) dX4_begin_34 rfl ?_
  refine g_iconst (pc := 35) (v := (0 : Int32)) dX4_begin_35 (by decide) ?_
  refine g_putI (pc := 36) dX4_begin_36 fo_X4_59 sh_1 rfl rfl rfl ?_
  refine g_aload_n (pc := 39) (x := 1) dX4_begin_39 rfl ?_
  refine g_iconst (pc := 40) (v := (0 : Int32)) dX4_begin_40 (by decide) ?_
  refine g_putI (pc := 41) dX4_begin_41 fo_X4_62 sh_1 rfl rfl rfl ?_
  exact g_vret (pc := 44) dX4_begin_44 rfl rfl h

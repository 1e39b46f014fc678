theorem dX9_takePieces_0 : decode cX9_takePieces 0 = .ok (.iconst 0, 1) := by decide +kernel
theorem dX9_takePieces_1 : decode cX9_takePieces 1 = .ok (.istore_n 3, 1) := by decide +kernel
theorem dX9_takePieces_2 : decode cX9_takePieces 2 = .ok (.iload_n 3, 1) := by decide +kernel
theorem dX9_takePieces_3 : decode cX9_takePieces 3 = .ok (.aload_n 1, 1) := by decide +kernel
theorem dX9_takePieces_4 : decode cX9_takePieces 4 = .ok (.getfield 109, 3) := by decide +kernel
theorem dX9_takePieces_7 : decode cX9_takePieces 7 = .ok (.if_icmp .ge 24, 3) := by decide +kernel
theorem dX9_takePieces_10 : decode cX9_takePieces 10 = .ok (.aload_n 0, 1) := by decide +kernel
theorem dX9_takePieces_11 : decode cX9_takePieces 11 = .ok (.getfield 15, 3) := by decide +kernel
theorem dX9_takePieces_14 : decode cX9_takePieces 14 = .ok (.iload_n 3, 1) := by decide +kernel
theorem dX9_takePieces_15 : decode cX9_takePieces 15 = .ok (.dup2, 1) := by decide +kernel
theorem dX9_takePieces_16 : decode cX9_takePieces 16 = .ok (.iaload, 1) := by decide +kernel
theorem dX9_takePieces_17 : decode cX9_takePieces 17 = .ok (.aload_n 2, 1) := by decide +kernel
theorem dX9_takePieces_18 : decode cX9_takePieces 18 = .ok (.getfield 119, 3) := by decide +kernel
theorem dX9_takePieces_21 : decode cX9_takePieces 21 = .ok (.iload_n 3, 1) := by decide +kernel
theorem dX9_takePieces_22 : decode cX9_takePieces 22 = .ok (.iaload, 1) := by decide +kernel
theorem dX9_takePieces_23 : decode cX9_takePieces 23 = .ok (.isub, 1) := by decide +kernel
theorem dX9_takePieces_24 : decode cX9_takePieces 24 = .ok (.iastore, 1) := by decide +kernel
theorem dX9_takePieces_25 : decode cX9_takePieces 25 = .ok (.iinc 3 1, 3) := by decide +kernel
theorem dX9_takePieces_28 : decode cX9_takePieces 28 = .ok (.goto (-26), 3) := by decide +kernel
theorem dX9_takePieces_31 : decode cX9_takePieces 31 = .ok (.aload_n 0, 1) := by decide +kernel
theorem dX9_takePieces_32 : decode cX9_takePieces 32 = .ok (.dup, 1) := by decide +kernel
theorem dX9_takePieces_33 : decode cX9_takePieces 33 = .ok (.getfield 33, 3) := by decide +kernel
theorem dX9_takePieces_36 : decode cX9_takePieces 36 = .ok (.aload_n 2, 1) := by decide +kernel
theorem dX9_takePieces_37 : decode cX9_takePieces 37 = .ok (.getfield 122, 3) := by decide +kernel
theorem dX9_takePieces_40 : decode cX9_takePieces 40 = .ok (.iadd, 1) := by decide +kernel
theorem dX9_takePieces_41 : decode cX9_takePieces 41 = .ok (.putfield 33, 3) := by decide +kernel
theorem dX9_takePieces_44 : decode cX9_takePieces 44 = .ok (.return_, 1) := by decide +kernel
theorem b_X9_takePieces (mm : MM) (Q : Value → MM → Prop) (a1 : Nat) (h1 : AtTown a1) (h : G e_X9_takePieces 2 [(0, .ref 41), (1, .ref a1), (2, .ref 38), (3, .int (0 : Int32))] [] mm Q) : Runs e_X9_takePieces [.ref 41, .ref a1, .ref 38] mm Q := by
  refine runs_of_G (L := [(0, .ref 41), (1, .ref a1), (2, .ref 38)]) pl_X9 (Nat.le_of_ble_eq_true rfl) rfl ?_
  refine g_iconst (pc := 0) (v := (0 : Int32)) dX9_takePieces_0 (by decide) ?_
  refine g_istore_n (pc := 1) (L' := [(0, .ref 41), (1, .ref a1), (2, .ref 38), (3, .int (0 : Int32))]) dX9_takePieces_1 (Nat.le_of_ble_eq_true rfl) rfl ?_
  exact h
theorem b_X9_takePieces_2 (mm : MM) (Q : Value → MM → Prop) (l1 : Nat) (l3 : Int32) (k1 : AtTown l1) (h : ((mm.1 l1 13) ≤ l3 → (Q .null (wI mm 41 6 ((mm.1 41 6) + (mm.1 38 2))))) ∧ (¬ (mm.1 l1 13) ≤ l3 → (vp_in l3 8 ∧ (vp_in l3 8 ∧ (vp_in l3 8 ∧ (G e_X9_takePieces 2 [(0, .ref 41), (1, .ref l1), (2, .ref 38), (3, .int (l3 + (1 : Int32)))] [] (wI mm 43 (l3.toNatClampNeg) ((mm.1 43 l3.toNatClampNeg) - (mm.1 40 l3.toNatClampNeg))) Q)))))) : G e_X9_takePieces 2 [(0, .ref 41), (1, .ref l1), (2, .ref 38), (3, .int l3)] [] mm Q := by
  refine g_iload_n (pc := 2) (x := l3) dX9_takePieces_2 rfl ?_
  refine g_aload_n (pc := 3) (x := l1) dX9_takePieces_3 rfl ?_
  refine g_getI (pc := 4) dX9_takePieces_4 fo_X9_109 (AtTown_0 k1) rfl ?_
  refine g_icmp_ge (pc := 7) (tgt := 31) dX9_takePieces_7 (by decide) (fun c7 => ?_) (fun c7 => ?_)
  · have h := h.1 c7
    refine g_aload_n (pc := 31) (x := 41) dX9_takePieces_31 rfl ?_
    refine g_dup (pc := 32) dX9_takePieces_32 rfl ?_
    refine g_getI (pc := 33) dX9_takePieces_33 fo_X9_33 sh_41 rfl ?_
    refine g_aload_n (pc := 36) (x := 38) dX9_takePieces_36 rfl ?_
    refine g_getI (pc := 37) dX9_takePieces_37 fo_X9_122 sh_38 rfl ?_
    refine g_iadd (pc := 40) dX9_takePieces_40 ?_
    refine g_putI (pc := 41) dX9_takePieces_41 fo_X9_33 sh_41 rfl rfl rfl ?_
    exact g_vret (pc := 44) dX9_takePieces_44 rfl rfl h
  · have h := h.2 c7
    refine g_aload_n (pc := 10) (x := 41) dX9_takePieces_10 rfl ?_
    refine g_getR (pc := 11) (dd := 2) dX9_takePieces_11 fo_X9_15 sh_41 rfl ?_
    refine g_iload_n (pc := 14) (x := l3) dX9_takePieces_14 rfl ?_
    refine g_dup2 (pc := 15) dX9_takePieces_15 rfl rfl ?_
    refine g_iaload (pc := 16) dX9_takePieces_16 sh_43 h.1 ?_
    have h := h.2
    refine g_aload_n (pc := 17) (x := 38) dX9_takePieces_17 rfl ?_
    refine g_getR (pc := 18) (dd := 2) dX9_takePieces_18 fo_X9_119 sh_38 rfl ?_
    refine g_iload_n (pc := 21) (x := l3) dX9_takePieces_21 rfl ?_
    refine g_iaload (pc := 22) dX9_takePieces_22 sh_40 h.1 ?_
    have h := h.2
    refine g_isub (pc := 23) dX9_takePieces_23 ?_
    refine g_iastore (pc := 24) dX9_takePieces_24 sh_43 h.1 ?_
    have h := h.2
    refine g_iinc (pc := 25) (x := l3) (v := (l3 + (1 : Int32))) (L' := [(0, .ref 41), (1, .ref l1), (2, .ref 38), (3, .int (l3 + (1 : Int32)))]) dX9_takePieces_25 rfl rfl (Nat.le_of_ble_eq_true rfl) rfl ?_
    refine g_goto (pc := 28) (tgt := 2) dX9_takePieces_28 (by decide) ?_
    exact h
theorem dX9_carryOut_0 : decode cX9_carryOut 0 = .ok (.aload_n 0, 1) := by decide +kernel
theorem dX9_carryOut_1 : decode cX9_carryOut 1 = .ok (.getfield 30, 3) := by decide +kernel
theorem dX9_carryOut_4 : decode cX9_carryOut 4 = .ok (.ifCond .lt 52, 3) := by decide +kernel
theorem dX9_carryOut_7 : decode cX9_carryOut 7 = .ok (.aload_n 0, 1) := by decide +kernel
theorem dX9_carryOut_8 : decode cX9_carryOut 8 = .ok (.getfield 30, 3) := by decide +kernel
theorem dX9_carryOut_11 : decode cX9_carryOut 11 = .ok (.bipush 20, 2) := by decide +kernel
theorem dX9_carryOut_13 : decode cX9_carryOut 13 = .ok (.if_icmp .ge 43, 3) := by decide +kernel
theorem dX9_carryOut_16 : decode cX9_carryOut 16 = .ok (.aload_n 1, 1) := by decide +kernel
theorem dX9_carryOut_17 : decode cX9_carryOut 17 = .ok (.getfield 36, 3) := by decide +kernel
theorem dX9_carryOut_20 : decode cX9_carryOut 20 = .ok (.iconst 0, 1) := by decide +kernel
theorem dX9_carryOut_21 : decode cX9_carryOut 21 = .ok (.aload_n 0, 1) := by decide +kernel
theorem dX9_carryOut_22 : decode cX9_carryOut 22 = .ok (.getfield 20, 3) := by decide +kernel
theorem dX9_carryOut_25 : decode cX9_carryOut 25 = .ok (.aload_n 0, 1) := by decide +kernel
theorem dX9_carryOut_26 : decode cX9_carryOut 26 = .ok (.getfield 30, 3) := by decide +kernel
theorem dX9_carryOut_29 : decode cX9_carryOut 29 = .ok (.aaload, 1) := by decide +kernel
theorem dX9_carryOut_30 : decode cX9_carryOut 30 = .ok (.iconst 0, 1) := by decide +kernel
theorem dX9_carryOut_31 : decode cX9_carryOut 31 = .ok (.bipush 16, 2) := by decide +kernel
theorem dX9_carryOut_33 : decode cX9_carryOut 33 = .ok (.invokestatic 39, 3) := by decide +kernel
theorem dX9_carryOut_36 : decode cX9_carryOut 36 = .ok (.aload_n 1, 1) := by decide +kernel
theorem dX9_carryOut_37 : decode cX9_carryOut 37 = .ok (.getfield 45, 3) := by decide +kernel
theorem dX9_carryOut_40 : decode cX9_carryOut 40 = .ok (.iconst 0, 1) := by decide +kernel
theorem dX9_carryOut_41 : decode cX9_carryOut 41 = .ok (.aload_n 0, 1) := by decide +kernel
theorem dX9_carryOut_42 : decode cX9_carryOut 42 = .ok (.getfield 23, 3) := by decide +kernel
theorem dX9_carryOut_45 : decode cX9_carryOut 45 = .ok (.aload_n 0, 1) := by decide +kernel
theorem dX9_carryOut_46 : decode cX9_carryOut 46 = .ok (.getfield 30, 3) := by decide +kernel
theorem dX9_carryOut_49 : decode cX9_carryOut 49 = .ok (.aaload, 1) := by decide +kernel
theorem dX9_carryOut_50 : decode cX9_carryOut 50 = .ok (.iconst 0, 1) := by decide +kernel
theorem dX9_carryOut_51 : decode cX9_carryOut 51 = .ok (.bipush 8, 2) := by decide +kernel
theorem dX9_carryOut_53 : decode cX9_carryOut 53 = .ok (.invokestatic 39, 3) := by decide +kernel
theorem dX9_carryOut_56 : decode cX9_carryOut 56 = .ok (.aload_n 0, 1) := by decide +kernel
theorem dX9_carryOut_57 : decode cX9_carryOut 57 = .ok (.aload_n 0, 1) := by decide +kernel
theorem dX9_carryOut_58 : decode cX9_carryOut 58 = .ok (.getfield 30, 3) := by decide +kernel
theorem dX9_carryOut_61 : decode cX9_carryOut 61 = .ok (.iconst 1, 1) := by decide +kernel
theorem dX9_carryOut_62 : decode cX9_carryOut 62 = .ok (.iadd, 1) := by decide +kernel
theorem dX9_carryOut_63 : decode cX9_carryOut 63 = .ok (.bipush 20, 2) := by decide +kernel
theorem dX9_carryOut_65 : decode cX9_carryOut 65 = .ok (.if_icmp .ge 12, 3) := by decide +kernel
theorem dX9_carryOut_68 : decode cX9_carryOut 68 = .ok (.aload_n 0, 1) := by decide +kernel
theorem dX9_carryOut_69 : decode cX9_carryOut 69 = .ok (.getfield 30, 3) := by decide +kernel
theorem dX9_carryOut_72 : decode cX9_carryOut 72 = .ok (.iconst 1, 1) := by decide +kernel
theorem dX9_carryOut_73 : decode cX9_carryOut 73 = .ok (.iadd, 1) := by decide +kernel
theorem dX9_carryOut_74 : decode cX9_carryOut 74 = .ok (.goto 4, 3) := by decide +kernel
theorem dX9_carryOut_77 : decode cX9_carryOut 77 = .ok (.iconst 0, 1) := by decide +kernel
theorem dX9_carryOut_78 : decode cX9_carryOut 78 = .ok (.putfield 30, 3) := by decide +kernel
theorem dX9_carryOut_81 : decode cX9_carryOut 81 = .ok (.aload_n 0, 1) := by decide +kernel
theorem dX9_carryOut_82 : decode cX9_carryOut 82 = .ok (.bipush 20, 2) := by decide +kernel
theorem dX9_carryOut_84 : decode cX9_carryOut 84 = .ok (.aload_n 0, 1) := by decide +kernel
theorem dX9_carryOut_85 : decode cX9_carryOut 85 = .ok (.getfield 26, 3) := by decide +kernel
theorem dX9_carryOut_88 : decode cX9_carryOut 88 = .ok (.iconst 1, 1) := by decide +kernel
theorem dX9_carryOut_89 : decode cX9_carryOut 89 = .ok (.iadd, 1) := by decide +kernel
theorem dX9_carryOut_90 : decode cX9_carryOut 90 = .ok (.invokestatic 115, 3) := by decide +kernel
theorem dX9_carryOut_93 : decode cX9_carryOut 93 = .ok (.putfield 26, 3) := by decide +kernel
theorem dX9_carryOut_96 : decode cX9_carryOut 96 = .ok (.aload_n 0, 1) := by decide +kernel
theorem dX9_carryOut_97 : decode cX9_carryOut 97 = .ok (.getfield 9, 3) := by decide +kernel
theorem dX9_carryOut_100 : decode cX9_carryOut 100 = .ok (.iconst 0, 1) := by decide +kernel
theorem dX9_carryOut_101 : decode cX9_carryOut 101 = .ok (.aload_n 1, 1) := by decide +kernel
theorem dX9_carryOut_102 : decode cX9_carryOut 102 = .ok (.getfield 36, 3) := by decide +kernel
theorem dX9_carryOut_105 : decode cX9_carryOut 105 = .ok (.iconst 0, 1) := by decide +kernel
theorem dX9_carryOut_106 : decode cX9_carryOut 106 = .ok (.bipush 16, 2) := by decide +kernel
theorem dX9_carryOut_108 : decode cX9_carryOut 108 = .ok (.invokestatic 39, 3) := by decide +kernel
theorem dX9_carryOut_111 : decode cX9_carryOut 111 = .ok (.aload_n 0, 1) := by decide +kernel
theorem dX9_carryOut_112 : decode cX9_carryOut 112 = .ok (.getfield 15, 3) := by decide +kernel
theorem dX9_carryOut_115 : decode cX9_carryOut 115 = .ok (.iconst 0, 1) := by decide +kernel
theorem dX9_carryOut_116 : decode cX9_carryOut 116 = .ok (.aload_n 1, 1) := by decide +kernel
theorem dX9_carryOut_117 : decode cX9_carryOut 117 = .ok (.getfield 45, 3) := by decide +kernel
theorem dX9_carryOut_120 : decode cX9_carryOut 120 = .ok (.iconst 0, 1) := by decide +kernel
theorem dX9_carryOut_121 : decode cX9_carryOut 121 = .ok (.bipush 8, 2) := by decide +kernel
theorem dX9_carryOut_123 : decode cX9_carryOut 123 = .ok (.invokestatic 39, 3) := by decide +kernel
theorem dX9_carryOut_126 : decode cX9_carryOut 126 = .ok (.aload_n 1, 1) := by decide +kernel
theorem dX9_carryOut_127 : decode cX9_carryOut 127 = .ok (.iconst 0, 1) := by decide +kernel
theorem dX9_carryOut_128 : decode cX9_carryOut 128 = .ok (.putfield 59, 3) := by decide +kernel
theorem dX9_carryOut_131 : decode cX9_carryOut 131 = .ok (.return_, 1) := by decide +kernel
theorem b_X9_carryOut (mm : MM) (Q : Value → MM → Prop) (a1 : Nat) (h1 : AtState a1) (h : ((mm.1 41 5) < 0 → (((20 : Int32) ≤ ((mm.1 41 5) + (1 : Int32)) → (Q .null (wI (wR (wR (wI (wI mm 41 5 (0 : Int32)) 41 4 (imin (20 : Int32) (((wI mm 41 5 (0 : Int32)).1 41 4) + (1 : Int32)))) (a1 + 1) (va_cpy ((wI (wI mm 41 5 (0 : Int32)) 41 4 (imin (20 : Int32) (((wI mm 41 5 (0 : Int32)).1 41 4) + (1 : Int32)))).1 42) ((wI (wI mm 41 5 (0 : Int32)) 41 4 (imin (20 : Int32) (((wI mm 41 5 (0 : Int32)).1 41 4) + (1 : Int32)))).1 (a1 + 1)) 0 0 16)) (a1 + 3) (va_cpy ((wR (wI (wI mm 41 5 (0 : Int32)) 41 4 (imin (20 : Int32) (((wI mm 41 5 (0 : Int32)).1 41 4) + (1 : Int32)))) (a1 + 1) (va_cpy ((wI (wI mm 41 5 (0 : Int32)) 41 4 (imin (20 : Int32) (((wI mm 41 5 (0 : Int32)).1 41 4) + (1 : Int32)))).1 42) ((wI (wI mm 41 5 (0 : Int32)) 41 4 (imin (20 : Int32) (((wI mm 41 5 (0 : Int32)).1 41 4) + (1 : Int32)))).1 (a1 + 1)) 0 0 16)).1 43) ((wR (wI (wI mm 41 5 (0 : Int32)) 41 4 (imin (20 : Int32) (((wI mm 41 5 (0 : Int32)).1 41 4) + (1 : Int32)))) (a1 + 1) (va_cpy ((wI (wI mm 41 5 (0 : Int32)) 41 4 (imin (20 : Int32) (((wI mm 41 5 (0 : Int32)).1 41 4) + (1 : Int32)))).1 42) ((wI (wI mm 41 5 (0 : Int32)) 41 4 (imin (20 : Int32) (((wI mm 41 5 (0 : Int32)).1 41 4) + (1 : Int32)))).1 (a1 + 1)) 0 0 16)).1 (a1 + 3)) 0 0 8)) a1 7 (0 : Int32)))) ∧ (¬ (20 : Int32) ≤ ((mm.1 41 5) + (1 : Int32)) → (Q .null (wI (wR (wR (wI (wI mm 41 5 ((mm.1 41 5) + (1 : Int32))) 41 4 (imin (20 : Int32) (((wI mm 41 5 ((mm.1 41 5) + (1 : Int32))).1 41 4) + (1 : Int32)))) (a1 + 1) (va_cpy ((wI (wI mm 41 5 ((mm.1 41 5) + (1 : Int32))) 41 4 (imin (20 : Int32) (((wI mm 41 5 ((mm.1 41 5) + (1 : Int32))).1 41 4) + (1 : Int32)))).1 42) ((wI (wI mm 41 5 ((mm.1 41 5) + (1 : Int32))) 41 4 (imin (20 : Int32) (((wI mm 41 5 ((mm.1 41 5) + (1 : Int32))).1 41 4) + (1 : Int32)))).1 (a1 + 1)) 0 0 16)) (a1 + 3) (va_cpy ((wR (wI (wI mm 41 5 ((mm.1 41 5) + (1 : Int32))) 41 4 (imin (20 : Int32) (((wI mm 41 5 ((mm.1 41 5) + (1 : Int32))).1 41 4) + (1 : Int32)))) (a1 + 1) (va_cpy ((wI (wI mm 41 5 ((mm.1 41 5) + (1 : Int32))) 41 4 (imin (20 : Int32) (((wI mm 41 5 ((mm.1 41 5) + (1 : Int32))).1 41 4) + (1 : Int32)))).1 42) ((wI (wI mm 41 5 ((mm.1 41 5) + (1 : Int32))) 41 4 (imin (20 : Int32) (((wI mm 41 5 ((mm.1 41 5) + (1 : Int32))).1 41 4) + (1 : Int32)))).1 (a1 + 1)) 0 0 16)).1 43) ((wR (wI (wI mm 41 5 ((mm.1 41 5) + (1 : Int32))) 41 4 (imin (20 : Int32) (((wI mm 41 5 ((mm.1 41 5) + (1 : Int32))).1 41 4) + (1 : Int32)))) (a1 + 1) (va_cpy ((wI (wI mm 41 5 ((mm.1 41 5) + (1 : Int32))) 41 4 (imin (20 : Int32) (((wI mm 41 5 ((mm.1 41 5) + (1 : Int32))).1 41 4) + (1 : Int32)))).1 42) ((wI (wI mm 41 5 ((mm.1 41 5) + (1 : Int32))) 41 4 (imin (20 : Int32) (((wI mm 41 5 ((mm.1 41 5) + (1 : Int32))).1 41 4) + (1 : Int32)))).1 (a1 + 1)) 0 0 16)).1 (a1 + 3)) 0 0 8)) a1 7 (0 : Int32)))))) ∧ (¬ (mm.1 41 5) < 0 → (((20 : Int32) ≤ (mm.1 41 5) → (((20 : Int32) ≤ ((mm.1 41 5) + (1 : Int32)) → (Q .null (wI (wR (wR (wI (wI mm 41 5 (0 : Int32)) 41 4 (imin (20 : Int32) (((wI mm 41 5 (0 : Int32)).1 41 4) + (1 : Int32)))) (a1 + 1) (va_cpy ((wI (wI mm 41 5 (0 : Int32)) 41 4 (imin (20 : Int32) (((wI mm 41 5 (0 : Int32)).1 41 4) + (1 : Int32)))).1 42) ((wI (wI mm 41 5 (0 : Int32)) 41 4 (imin (20 : Int32) (((wI mm 41 5 (0 : Int32)).1 41 4) + (1 : Int32)))).1 (a1 + 1)) 0 0 16)) (a1 + 3) (va_cpy ((wR (wI (wI mm 41 5 (0 : Int32)) 41 4 (imin (20 : Int32) (((wI mm 41 5 (0 : Int32)).1 41 4) + (1 : Int32)))) (a1 + 1) (va_cpy ((wI (wI mm 41 5 (0 : Int32)) 41 4 (imin (20 : Int32) (((wI mm 41 5 (0 : Int32)).1 41 4) + (1 : Int32)))).1 42) ((wI (wI mm 41 5 (0 : Int32)) 41 4 (imin (20 : Int32) (((wI mm 41 5 (0 : Int32)).1 41 4) + (1 : Int32)))).1 (a1 + 1)) 0 0 16)).1 43) ((wR (wI (wI mm 41 5 (0 : Int32)) 41 4 (imin (20 : Int32) (((wI mm 41 5 (0 : Int32)).1 41 4) + (1 : Int32)))) (a1 + 1) (va_cpy ((wI (wI mm 41 5 (0 : Int32)) 41 4 (imin (20 : Int32) (((wI mm 41 5 (0 : Int32)).1 41 4) + (1 : Int32)))).1 42) ((wI (wI mm 41 5 (0 : Int32)) 41 4 (imin (20 : Int32) (((wI mm 41 5 (0 : Int32)).1 41 4) + (1 : Int32)))).1 (a1 + 1)) 0 0 16)).1 (a1 + 3)) 0 0 8)) a1 7 (0 : Int32)))) ∧ (¬ (20 : Int32) ≤ ((mm.1 41 5) + (1 : Int32)) → (Q .null (wI (wR (wR (wI (wI mm 41 5 ((mm.1 41 5) + (1 : Int32))) 41 4 (imin (20 : Int32) (((wI mm 41 5 ((mm.1 41 5) + (1 : Int32))).1 41 4) + (1 : Int32)))) (a1 + 1) (va_cpy ((wI (wI mm 41 5 ((mm.1 41 5) + (1 : Int32))) 41 4 (imin (20 : Int32) (((wI mm 41 5 ((mm.1 41 5) + (1 : Int32))).1 41 4) + (1 : Int32)))).1 42) ((wI (wI mm 41 5 ((mm.1 41 5) + (1 : Int32))) 41 4 (imin (20 : Int32) (((wI mm 41 5 ((mm.1 41 5) + (1 : Int32))).1 41 4) + (1 : Int32)))).1 (a1 + 1)) 0 0 16)) (a1 + 3) (va_cpy ((wR (wI (wI mm 41 5 ((mm.1 41 5) + (1 : Int32))) 41 4 (imin (20 : Int32) (((wI mm 41 5 ((mm.1 41 5) + (1 : Int32))).1 41 4) + (1 : Int32)))) (a1 + 1) (va_cpy ((wI (wI mm 41 5 ((mm.1 41 5) + (1 : Int32))) 41 4 (imin (20 : Int32) (((wI mm 41 5 ((mm.1 41 5) + (1 : Int32))).1 41 4) + (1 : Int32)))).1 42) ((wI (wI mm 41 5 ((mm.1 41 5) + (1 : Int32))) 41 4 (imin (20 : Int32) (((wI mm 41 5 ((mm.1 41 5) + (1 : Int32))).1 41 4) + (1 : Int32)))).1 (a1 + 1)) 0 0 16)).1 43) ((wR (wI (wI mm 41 5 ((mm.1 41 5) + (1 : Int32))) 41 4 (imin (20 : Int32) (((wI mm 41 5 ((mm.1 41 5) + (1 : Int32))).1 41 4) + (1 : Int32)))) (a1 + 1) (va_cpy ((wI (wI mm 41 5 ((mm.1 41 5) + (1 : Int32))) 41 4 (imin (20 : Int32) (((wI mm 41 5 ((mm.1 41 5) + (1 : Int32))).1 41 4) + (1 : Int32)))).1 42) ((wI (wI mm 41 5 ((mm.1 41 5) + (1 : Int32))) 41 4 (imin (20 : Int32) (((wI mm 41 5 ((mm.1 41 5) + (1 : Int32))).1 41 4) + (1 : Int32)))).1 (a1 + 1)) 0 0 16)).1 (a1 + 3)) 0 0 8)) a1 7 (0 : Int32)))))) ∧ (¬ (20 : Int32) ≤ (mm.1 41 5) → (vp_in (mm.1 41 5) 20 ∧ (SHL[44 + 1 + 1 * (mm.1 41 5).toNatClampNeg]? = some (.inl (0, 16, 0, 0))) ∧ (vp_in ((wR mm (44 + 1 + 1 * (mm.1 41 5).toNatClampNeg) (va_cpy (mm.1 (a1 + 1)) (mm.1 (44 + 1 + 1 * (mm.1 41 5).toNatClampNeg)) 0 0 16)).1 41 5) 20 ∧ (SHL[65 + 1 + 1 * ((wR mm (44 + 1 + 1 * (mm.1 41 5).toNatClampNeg) (va_cpy (mm.1 (a1 + 1)) (mm.1 (44 + 1 + 1 * (mm.1 41 5).toNatClampNeg)) 0 0 16)).1 41 5).toNatClampNeg]? = some (.inl (0, 8, 0, 0))) ∧ (((20 : Int32) ≤ (((wR (wR mm (44 + 1 + 1 * (mm.1 41 5).toNatClampNeg) (va_cpy (mm.1 (a1 + 1)) (mm.1 (44 + 1 + 1 * (mm.1 41 5).toNatClampNeg)) 0 0 16)) (65 + 1 + 1 * ((wR mm (44 + 1 + 1 * (mm.1 41 5).toNatClampNeg) (va_cpy (mm.1 (a1 + 1)) (mm.1 (44 + 1 + 1 * (mm.1 41 5).toNatClampNeg)) 0 0 16)).1 41 5).toNatClampNeg) (va_cpy ((wR mm (44 + 1 + 1 * (mm.1 41 5).toNatClampNeg) (va_cpy (mm.1 (a1 + 1)) (mm.1 (44 + 1 + 1 * (mm.1 41 5).toNatClampNeg)) 0 0 16)).1 (a1 + 3)) ((wR mm (44 + 1 + 1 * (mm.1 41 5).toNatClampNeg) (va_cpy (mm.1 (a1 + 1)) (mm.1 (44 + 1 + 1 * (mm.1 41 5).toNatClampNeg)) 0 0 16)).1 (65 + 1 + 1 * ((wR mm (44 + 1 + 1 * (mm.1 41 5).toNatClampNeg) (va_cpy (mm.1 (a1 + 1)) (mm.1 (44 + 1 + 1 * (mm.1 41 5).toNatClampNeg)) 0 0 16)).1 41 5).toNatClampNeg)) 0 0 8)).1 41 5) + (1 : Int32)) → (Q .null (wI (wR (wR (wI (wI (wR (wR mm (44 + 1 + 1 * (mm.1 41 5).toNatClampNeg) (va_cpy (mm.1 (a1 + 1)) (mm.1 (44 + 1 + 1 * (mm.1 41 5).toNatClampNeg)) 0 0 16)) (65 + 1 + 1 * ((wR mm (44 + 1 + 1 * (mm.1 41 5).toNatClampNeg) (va_cpy (mm.1 (a1 + 1)) (mm.1 (44 + 1 + 1 * (mm.1 41 5).toNatClampNeg)) 0 0 16)).1 41 5).toNatClampNeg) (va_cpy ((wR mm (44 + 1 + 1 * (mm.1 41 5).toNatClampNeg) (va_cpy (mm.1 (a1 + 1)) (mm.1 (44 + 1 + 1 * (mm.1 41 5).toNatClampNeg)) 0 0 16)).1 (a1 + 3)) ((wR mm (44 + 1 + 1 * (mm.1 41 5).toNatClampNeg) (va_cpy (mm.1 (a1 + 1)) (mm.1 (44 + 1 + 1 * (mm.1 41 5).toNatClampNeg)) 0 0 16)).1 (65 + 1 + 1 * ((wR mm (44 + 1 + 1 * (mm.1 41 5).toNatClampNeg) (va_cpy (mm.1 (a1 + 1)) (mm.1 (44 + 1 + 1 * (mm.1 41 5).toNatClampNeg)) 0 0 16)).1 41 5).toNatClampNeg)) 0 0 8)) 41 5 (0 : Int32)) 41 4 (imin (20 : Int32) (((wI (wR (wR mm (44 + 1 + 1 * (mm.1 41 5).toNatClampNeg) (va_cpy (mm.1 (a1 + 1)) (mm.1 (44 + 1 + 1 * (mm.1 41 5).toNatClampNeg)) 0 0 16)) (65 + 1 + 1 * ((wR mm (44 + 1 + 1 * (mm.1 41 5).toNatClampNeg) (va_cpy (mm.1 (a1 + 1)) (mm.1 (44 + 1 + 1 * (mm.1 41 5).toNatClampNeg)) 0 0 16)).1 41 5).toNatClampNeg) (va_cpy ((wR mm (44 + 1 + 1 * (mm.1 41 5).toNatClampNeg) (va_cpy (mm.1 (a1 + 1)) (mm.1 (44 + 1 + 1 * (mm.1 41 5).toNatClampNeg)) 0 0 16)).1 (a1 + 3)) ((wR mm (44 + 1 + 1 * (mm.1 41 5).toNatClampNeg) (va_cpy (mm.1 (a1 + 1)) (mm.1 (44 + 1 + 1 * (mm.1 41 5).toNatClampNeg)) 0 0 16)).1 (65 + 1 + 1 * ((wR mm (44 + 1 + 1 * (mm.1 41 5).toNatClampNeg) (va_cpy (mm.1 (a1 + 1)) (mm.1 (44 + 1 + 1 * (mm.1 41 5).toNatClampNeg)) 0 0 16)).1 41 5).toNatClampNeg)) 0 0 8)) 41 5 (0 : Int32)).1 41 4) + (1 : Int32)))) (a1 + 1) (va_cpy ((wI (wI (wR (wR mm (44 + 1 + 1 * (mm.1 41 5).toNatClampNeg) (va_cpy (mm.1 (a1 + 1)) (mm.1 (44 + 1 + 1 * (mm.1 41 5).toNatClampNeg)) 0 0 16)) (65 + 1 + 1 * ((wR mm (44 + 1 + 1 * (mm.1 41 5).toNatClampNeg) (va_cpy (mm.1 (a1 + 1)) (mm.1 (44 + 1 + 1 * (mm.1 41 5).toNatClampNeg)) 0 0 16)).1 41 5).toNatClampNeg) (va_cpy ((wR mm (44 + 1 + 1 * (mm.1 41 5).toNatClampNeg) (va_cpy (mm.1 (a1 + 1)) (mm.1 (44 + 1 + 1 * (mm.1 41 5).toNatClampNeg)) 0 0 16)).1 (a1 + 3)) ((wR mm (44 + 1 + 1 * (mm.1 41 5).toNatClampNeg) (va_cpy (mm.1 (a1 + 1)) (mm.1 (44 + 1 + 1 * (mm.1 41 5).toNatClampNeg)) 0 0 16)).1 (65 + 1 + 1 * ((wR mm (44 + 1 + 1 * (mm.1 41 5).toNatClampNeg) (va_cpy (mm.1 (a1 + 1)) (mm.1 (44 + 1 + 1 * (mm.1 41 5).toNatClampNeg)) 0 0 16)).1 41 5).toNatClampNeg)) 0 0 8)) 41 5 (0 : Int32)) 41 4 (imin (20 : Int32) (((wI (wR (wR mm (44 + 1 + 1 * (mm.1 41 5).toNatClampNeg) (va_cpy (mm.1 (a1 + 1)) (mm.1 (44 + 1 + 1 * (mm.1 41 5).toNatClampNeg)) 0 0 16)) (65 + 1 + 1 * ((wR mm (44 + 1 + 1 * (mm.1 41 5).toNatClampNeg) (va_cpy (mm.1 (a1 + 1)) (mm.1 (44 + 1 + 1 * (mm.1 41 5).toNatClampNeg)) 0 0 16)).1 41 5).toNatClampNeg) (va_cpy ((wR mm (44 + 1 + 1 * (mm.1 41 5).toNatClampNeg) (va_cpy (mm.1 (a1 + 1)) (mm.1 (44 + 1 + 1 * (mm.1 41 5).toNatClampNeg)) 0 0 16)).1 (a1 + 3)) ((wR mm (44 + 1 + 1 * (mm.1 41 5).toNatClampNeg) (va_cpy (mm.1 (a1 + 1)) (mm.1 (44 + 1 + 1 * (mm.1 41 5).toNatClampNeg)) 0 0 16)).1 (65 + 1 + 1 * ((wR mm (44 + 1 + 1 * (mm.1 41 5).toNatClampNeg) (va_cpy (mm.1 (a1 + 1)) (mm.1 (44 + 1 + 1 * (mm.1 41 5).toNatClampNeg)) 0 0 16)).1 41 5).toNatClampNeg)) 0 0 8)) 41 5 (0 : Int32)).1 41 4) + (1 : Int32)))).1 42) ((wI (wI (wR (wR mm (44 + 1 + 1 * (mm.1 41 5).toNatClampNeg) (va_cpy (mm.1 (a1 + 1)) (mm.1 (44 + 1 + 1 * (mm.1 41 5).toNatClampNeg)) 0 0 16)) (65 + 1 + 1 * ((wR mm (44 + 1 + 1 * (mm.1 41 5).toNatClampNeg) (va_cpy (mm.1 (a1 + 1)) (mm.1 (44 + 1 + 1 * (mm.1 41 5).toNatClampNeg)) 0 0 16)).1 41 5).toNatClampNeg) (va_cpy ((wR mm (44 + 1 + 1 * (mm.1 41 5).toNatClampNeg) (va_cpy (mm.1 (a1 + 1)) (mm.1 (44 + 1 + 1 * (mm.1 41 5).toNatClampNeg)) 0 0 16)).1 (a1 + 3)) ((wR mm (44 + 1 + 1 * (mm.1 41 5).toNatClampNeg) (va_cpy (mm.1 (a1 + 1)) (mm.1 (44 + 1 + 1 * (mm.1 41 5).toNatClampNeg)) 0 0 16)).1 (65 + 1 + 1 * ((wR mm (44 + 1 + 1 * (mm.1 41 5).toNatClampNeg) (va_cpy (mm.1 (a1 + 1)) (mm.1 (44 + 1 + 1 * (mm.1 41 5).toNatClampNeg)) 0 0 16)).1 41 5).toNatClampNeg)) 0 0 8)) 41 5 (0 : Int32)) 41 4 (imin (20 : Int32) (((wI (wR (wR mm (44 + 1 + 1 * (mm.1 41 5).toNatClampNeg) (va_cpy (mm.1 (a1 + 1)) (mm.1 (44 + 1 + 1 * (mm.1 41 5).toNatClampNeg)) 0 0 16)) (65 + 1 + 1 * ((wR mm (44 + 1 + 1 * (mm.1 41 5).toNatClampNeg) (va_cpy (mm.1 (a1 + 1)) (mm.1 (44 + 1 + 1 * (mm.1 41 5).toNatClampNeg)) 0 0 16)).1 41 5).toNatClampNeg) (va_cpy ((wR mm (44 + 1 + 1 * (mm.1 41 5).toNatClampNeg) (va_cpy (mm.1 (a1 + 1)) (mm.1 (44 + 1 + 1 * (mm.1 41 5).toNatClampNeg)) 0 0 16)).1 (a1 + 3)) ((wR mm (44 + 1 + 1 * (mm.1 41 5).toNatClampNeg) (va_cpy (mm.1 (a1 + 1)) (mm.1 (44 + 1 + 1 * (mm.1 41 5).toNatClampNeg)) 0 0 16)).1 (65 + 1 + 1 * ((wR mm (44 + 1 + 1 * (mm.1 41 5).toNatClampNeg) (va_cpy (mm.1 (a1 + 1)) (mm.1 (44 + 1 + 1 * (mm.1 41 5).toNatClampNeg)) 0 0 16)).1 41 5).toNatClampNeg)) 0 0 8)) 41 5 (0 : Int32)).1 41 4) + (1 : Int32)))).1 (a1 + 1)) 0 0 16)) (a1 + 3) (va_cpy ((wR (wI (wI (wR (wR mm (44 + 1 + 1 * (mm.1 41 5).toNatClampNeg) (va_cpy (mm.1 (a1 + 1)) (mm.1 (44 + 1 + 1 * (mm.1 41 5).toNatClampNeg)) 0 0 16)) (65 + 1 + 1 * ((wR mm (44 + 1 + 1 * (mm.1 41 5).toNatClampNeg) (va_cpy (mm.1 (a1 + 1)) (mm.1 (44 + 1 + 1 * (mm.1 41 5).toNatClampNeg)) 0 0 16)).1 41 5).toNatClampNeg) (va_cpy ((wR mm (44 + 1 + 1 * (mm.1 41 5).toNatClampNeg) (va_cpy (mm.1 (a1 + 1)) (mm.1 (44 + 1 + 1 * (mm.1 41 5).toNatClampNeg)) 0 0 16)).1 (a1 + 3)) ((wR mm (44 + 1 + 1 * (mm.1 41 5).toNatClampNeg) (va_cpy (mm.1 (a1 + 1)) (mm.1 (44 + 1 + 1 * (mm.1 41 5).toNatClampNeg)) 0 0 16)).1 (65 + 1 + 1 * ((wR mm (44 + 1 + 1 * (mm.1 41 5).toNatClampNeg) (va_cpy (mm.1 (a1 + 1)) (mm.1 (44 + 1 + 1 * (mm.1 41 5).toNatClampNeg)) 0 0 16)).1 41 5).toNatClampNeg)) 0 0 8)) 41 5 (0 : Int32)) 41 4 (imin (20 : Int32) (((wI (wR (wR mm (44 + 1 + 1 * (mm.1 41 5).toNatClampNeg) (va_cpy (mm.1 (a1 + 1)) (mm.1 (44 + 1 + 1 * (mm.1 41 5).toNatClampNeg)) 0 0 16)) (65 + 1 + 1 * ((wR mm (44 + 1 + 1 * (mm.1 41 5).toNatClampNeg) (va_cpy (mm.1 (a1 + 1)) (mm.1 (44 + 1 + 1 * (mm.1 41 5).toNatClampNeg)) 0 0 16)).1 41 5).toNatClampNeg) (va_cpy ((wR mm (44 + 1 + 1 * (mm.1 41 5).toNatClampNeg) (va_cpy (mm.1 (a1 + 1)) (mm.1 (44 + 1 + 1 * (mm.1 41 5).toNatClampNeg)) 0 0 16)).1 (a1 + 3)) ((wR mm (44 + 1 + 1 * (mm.1 41 5).toNatClampNeg) (va_cpy (mm.1 (a1 + 1)) (mm.1 (44 + 1 + 1 * (mm.1 41 5).toNatClampNeg)) 0 0 16)).1 (65 + 1 + 1 * ((wR mm (44 + 1 + 1 * (mm.1 41 5).toNatClampNeg) (va_cpy (mm.1 (a1 + 1)) (mm.1 (44 + 1 + 1 * (mm.1 41 5).toNatClampNeg)) 0 0 16)).1 41 5).toNatClampNeg)) 0 0 8)) 41 5 (0 : Int32)).1 41 4) + (1 : Int32)))) (a1 + 1) (va_cpy ((wI (wI (wR (wR mm (44 + 1 + 1 * (mm.1 41 5).toNatClampNeg) (va_cpy (mm.1 (a1 + 1)) (mm.1 (44 + 1 + 1 * (mm.1 41 5).toNatClampNeg)) 0 0 16)) (65 + 1 + 1 * ((wR mm (44 + 1 + 1 * (mm.1 41 5).toNatClampNeg) (va_cpy (mm.1 (a1 + 1)) (mm.1 (44 + 1 + 1 * (mm.1 41 5).toNatClampNeg)) 0 0 16)).1 41 5).toNatClampNeg) (va_cpy ((wR mm (44 + 1 + 1 * (mm.1 41 5).toNatClampNeg) (va_cpy (mm.1 (a1 + 1)) (mm.1 (44 + 1 + 1 * (mm.1 41 5).toNatClampNeg)) 0 0 16)).1 (a1 + 3)) ((wR mm (44 + 1 + 1 * (mm.1 41 5).toNatClampNeg) (va_cpy (mm.1 (a1 + 1)) (mm.1 (44 + 1 + 1 * (mm.1 41 5).toNatClampNeg)) 0 0 16)).1 (65 + 1 + 1 * ((wR mm (44 + 1 + 1 * (mm.1 41 5).toNatClampNeg) (va_cpy (mm.1 (a1 + 1)) (mm.1 (44 + 1 + 1 * (mm.1 41 5).toNatClampNeg)) 0 0 16)).1 41 5).toNatClampNeg)) 0 0 8)) 41 5 (0 : Int32)) 41 4 (imin (20 : Int32) (((wI (wR (wR mm (44 + 1 + 1 * (mm.1 41 5).toNatClampNeg) (va_cpy (mm.1 (a1 + 1)) (mm.1 (44 + 1 + 1 * (mm.1 41 5).toNatClampNeg)) 0 0 16)) (65 + 1 + 1 * ((wR mm (44 + 1 + 1 * (mm.1 41 5).toNatClampNeg) (va_cpy (mm.1 (a1 + 1)) (mm.1 (44 + 1 + 1 * (mm.1 41 5).toNatClampNeg)) 0 0 16)).1 41 5).toNatClampNeg) (va_cpy ((wR mm (44 + 1 + 1 * (mm.1 41 5).toNatClampNeg) (va_cpy (mm.1 (a1 + 1)) (mm.1 (44 + 1 + 1 * (mm.1 41 5).toNatClampNeg)) 0 0 16)).1 (a1 + 3)) ((wR mm (44 + 1 + 1 * (mm.1 41 5).toNatClampNeg) (va_cpy (mm.1 (a1 + 1)) (mm.1 (44 + 1 + 1 * (mm.1 41 5).toNatClampNeg)) 0 0 16)).1 (65 + 1 + 1 * ((wR mm (44 + 1 + 1 * (mm.1 41 5).toNatClampNeg) (va_cpy (mm.1 (a1 + 1)) (mm.1 (44 + 1 + 1 * (mm.1 41 5).toNatClampNeg)) 0 0 16)).1 41 5).toNatClampNeg)) 0 0 8)) 41 5 (0 : Int32)).1 41 4) + (1 : Int32)))).1 42) ((wI (wI (wR (wR mm (44 + 1 + 1 * (mm.1 41 5).toNatClampNeg) (va_cpy (mm.1 (a1 + 1)) (mm.1 (44 + 1 + 1 * (mm.1 41 5).toNatClampNeg)) 0 0 16)) (65 + 1 + 1 * ((wR mm (44 + 1 + 1 * (mm.1 41 5).toNatClampNeg) (va_cpy (mm.1 (a1 + 1)) (mm.1 (44 + 1 + 1 * (mm.1 41 5).toNatClampNeg)) 0 0 16)).1 41 5).toNatClampNeg) (va_cpy ((wR mm (44 + 1 + 1 * (mm.1 41 5).toNatClampNeg) (va_cpy (mm.1 (a1 + 1)) (mm.1 (44 + 1 + 1 * (mm.1 41 5).toNatClampNeg)) 0 0 16)).1 (a1 + 3)) ((wR mm (44 + 1 + 1 * (mm.1 41 5).toNatClampNeg) (va_cpy (mm.1 (a1 + 1)) (mm.1 (44 + 1 + 1 * (mm.1 41 5).toNatClampNeg)) 0 0 16)).1 (65 + 1 + 1 * ((wR mm (44 + 1 + 1 * (mm.1 41 5).toNatClampNeg) (va_cpy (mm.1 (a1 + 1)) (mm.1 (44 + 1 + 1 * (mm.1 41 5).toNatClampNeg)) 0 0 16)).1 41 5).toNatClampNeg)) 0 0 8)) 41 5 (0 : Int32)) 41 4 (imin (20 : Int32) (((wI (wR (wR mm (44 + 1 + 1 * (mm.1 41 5).toNatClampNeg) (va_cpy (mm.1 (a1 + 1)) (mm.1 (44 + 1 + 1 * (mm.1 41 5).toNatClampNeg)) 0 0 16)) (65 + 1 + 1 * ((wR mm (44 + 1 + 1 * (mm.1 41 5).toNatClampNeg) (va_cpy (mm.1 (a1 + 1)) (mm.1 (44 + 1 + 1 * (mm.1 41 5).toNatClampNeg)) 0 0 16)).1 41 5).toNatClampNeg) (va_cpy ((wR mm (44 + 1 + 1 * (mm.1 41 5).toNatClampNeg) (va_cpy (mm.1 (a1 + 1)) (mm.1 (44 + 1 + 1 * (mm.1 41 5).toNatClampNeg)) 0 0 16)).1 (a1 + 3)) ((wR mm (44 + 1 + 1 * (mm.1 41 5).toNatClampNeg) (va_cpy (mm.1 (a1 + 1)) (mm.1 (44 + 1 + 1 * (mm.1 41 5).toNatClampNeg)) 0 0 16)).1 (65 + 1 + 1 * ((wR mm (44 + 1 + 1 * (mm.1 41 5).toNatClampNeg) (va_cpy (mm.1 (a1 + 1)) (mm.1 (44 + 1 + 1 * (mm.1 41 5).toNatClampNeg)) 0 0 16)).1 41 5).toNatClampNeg)) 0 0 8)) 41 5 (0 : Int32)).1 41 4) + (1 : Int32)))).1 (a1 + 1)) 0 0 16)).1 43) ((wR (wI (wI (wR (wR mm (44 + 1 + 1 * (mm.1 41 5).toNatClampNeg) (va_cpy (mm.1 (a1 + 1)) (mm.1 (44 + 1 + 1 * (mm.1 41 5).toNatClampNeg)) 0 0 16)) (65 + 1 + 1 * ((wR mm (44 + 1 + 1 * (mm.1 41 5).toNatClampNeg) (va_cpy (mm.1 (a1 + 1)) (mm.1 (44 + 1 + 1 * (mm.1 41 5).toNatClampNeg)) 0 0 16)).1 41 5).toNatClampNeg) (va_cpy ((wR mm (44 + 1 + 1 * (mm.1 41 5).toNatClampNeg) (va_cpy (mm.1 (a1 + 1)) (mm.1 (44 + 1 + 1 * (mm.1 41 5).toNatClampNeg)) 0 0 16)).1 (a1 + 3)) ((wR mm (44 + 1 + 1 * (mm.1 41 5).toNatClampNeg) (va_cpy (mm.1 (a1 + 1)) (mm.1 (44 + 1 + 1 * (mm.1 41 5).toNatClampNeg)) 0 0 16)).1 (65 + 1 + 1 * ((wR mm (44 + 1 + 1 * (mm.1 41 5).toNatClampNeg) (va_cpy (mm.1 (a1 + 1)) (mm.1 (44 + 1 + 1 * (mm.1 41 5).toNatClampNeg)) 0 0 16)).1 41 5).toNatClampNeg)) 0 0 8)) 41 5 (0 : Int32)) 41 4 (imin (20 : Int32) (((wI (wR (wR mm (44 + 1 + 1 * (mm.1 41 5).toNatClampNeg) (va_cpy (mm.1 (a1 + 1)) (mm.1 (44 + 1 + 1 * (mm.1 41 5).toNatClampNeg)) 0 0 16)) (65 + 1 + 1 * ((wR mm (44 + 1 + 1 * (mm.1 41 5).toNatClampNeg) (va_cpy (mm.1 (a1 + 1)) (mm.1 (44 + 1 + 1 * (mm.1 41 5).toNatClampNeg)) 0 0 16)).1 41 5).toNatClampNeg) (va_cpy ((wR mm (44 + 1 + 1 * (mm.1 41 5).toNatClampNeg) (va_cpy (mm.1 (a1 + 1)) (mm.1 (44 + 1 + 1 * (mm.1 41 5).toNatClampNeg)) 0 0 16)).1 (a1 + 3)) ((wR mm (44 + 1 + 1 * (mm.1 41 5).toNatClampNeg) (va_cpy (mm.1 (a1 + 1)) (mm.1 (44 + 1 + 1 * (mm.1 41 5).toNatClampNeg)) 0 0 16)).1 (65 + 1 + 1 * ((wR mm (44 + 1 + 1 * (mm.1 41 5).toNatClampNeg) (va_cpy (mm.1 (a1 + 1)) (mm.1 (44 + 1 + 1 * (mm.1 41 5).toNatClampNeg)) 0 0 16)).1 41 5).toNatClampNeg)) 0 0 8)) 41 5 (0 : Int32)).1 41 4) + (1 : Int32)))) (a1 + 1) (va_cpy ((wI (wI (wR (wR mm (44 + 1 + 1 * (mm.1 41 5).toNatClampNeg) (va_cpy (mm.1 (a1 + 1)) (mm.1 (44 + 1 + 1 * (mm.1 41 5).toNatClampNeg)) 0 0 16)) (65 + 1 + 1 * ((wR mm (44 + 1 + 1 * (mm.1 41 5).toNatClampNeg) (va_cpy (mm.1 (a1 + 1)) (mm.1 (44 + 1 + 1 * (mm.1 41 5).toNatClampNeg)) 0 0 16)).1 41 5).toNatClampNeg) (va_cpy ((wR mm (44 + 1 + 1 * (mm.1 41 5).toNatClampNeg) (va_cpy (mm.1 (a1 + 1)) (mm.1 (44 + 1 + 1 * (mm.1 41 5).toNatClampNeg)) 0 0 16)).1 (a1 + 3)) ((wR mm (44 + 1 + 1 * (mm.1 41 5).toNatClampNeg) (va_cpy (mm.1 (a1 + 1)) (mm.1 (44 + 1 + 1 * (mm.1 41 5).toNatClampNeg)) 0 0 16)).1 (65 + 1 + 1 * ((wR mm (44 + 1 + 1 * (mm.1 41 5).toNatClampNeg) (va_cpy (mm.1 (a1 + 1)) (mm.1 (44 + 1 + 1 * (mm.1 41 5).toNatClampNeg)) 0 0 16)).1 41 5).toNatClampNeg)) 0 0 8)) 41 5 (0 : Int32)) 41 4 (imin (20 : Int32) (((wI (wR (wR mm (44 + 1 + 1 * (mm.1 41 5).toNatClampNeg) (va_cpy (mm.1 (a1 + 1)) (mm.1 (44 + 1 + 1 * (mm.1 41 5).toNatClampNeg)) 0 0 16)) (65 + 1 + 1 * ((wR mm (44 + 1 + 1 * (mm.1 41 5).toNatClampNeg) (va_cpy (mm.1 (a1 + 1)) (mm.1 (44 + 1 + 1 * (mm.1 41 5).toNatClampNeg)) 0 0 16)).1 41 5).toNatClampNeg) (va_cpy ((wR mm (44 + 1 + 1 * (mm.1 41 5).toNatClampNeg) (va_cpy (mm.1 (a1 + 1)) (mm.1 (44 + 1 + 1 * (mm.1 41 5).toNatClampNeg)) 0 0 16)).1 (a1 + 3)) ((wR mm (44 + 1 + 1 * (mm.1 41 5).toNatClampNeg) (va_cpy (mm.1 (a1 + 1)) (mm.1 (44 + 1 + 1 * (mm.1 41 5).toNatClampNeg)) 0 0 16)).1 (65 + 1 + 1 * ((wR mm (44 + 1 + 1 * (mm.1 41 5).toNatClampNeg) (va_cpy (mm.1 (a1 + 1)) (mm.1 (44 + 1 + 1 * (mm.1 41 5).toNatClampNeg)) 0 0 16)).1 41 5).toNatClampNeg)) 0 0 8)) 41 5 (0 : Int32)).1 41 4) + (1 : Int32)))).1 42) ((wI (wI (wR (wR mm (44 + 1 + 1 * (mm.1 41 5).toNatClampNeg) (va_cpy (mm.1 (a1 + 1)) (mm.1 (44 + 1 + 1 * (mm.1 41 5).toNatClampNeg)) 0 0 16)) (65 + 1 + 1 * ((wR mm (44 + 1 + 1 * (mm.1 41 5).toNatClampNeg) (va_cpy (mm.1 (a1 + 1)) (mm.1 (44 + 1 + 1 * (mm.1 41 5).toNatClampNeg)) 0 0 16)).1 41 5).toNatClampNeg) (va_cpy ((wR mm (44 + 1 + 1 * (mm.1 41 5).toNatClampNeg) (va_cpy (mm.1 (a1 + 1)) (mm.1 (44 + 1 + 1 * (mm.1 41 5).toNatClampNeg)) 0 0 16)).1 (a1 + 3)) ((wR mm (44 + 1 + 1 * (mm.1 41 5).toNatClampNeg) (va_cpy (mm.1 (a1 + 1)) (mm.1 (44 + 1 + 1 * (mm.1 41 5).toNatClampNeg)) 0 0 16)).1 (65 + 1 + 1 * ((wR mm (44 + 1 + 1 * (mm.1 41 5).toNatClampNeg) (va_cpy (mm.1 (a1 + 1)) (mm.1 (44 + 1 + 1 * (mm.1 41 5).toNatClampNeg)) 0 0 16)).1 41 5).toNatClampNeg)) 0 0 8)) 41 5 (0 : Int32)) 41 4 (imin (20 : Int32) (((wI (wR (wR mm (44 + 1 + 1 * (mm.1 41 5).toNatClampNeg) (va_cpy (mm.1 (a1 + 1)) (mm.1 (44 + 1 + 1 * (mm.1 41 5).toNatClampNeg)) 0 0 16)) (65 + 1 + 1 * ((wR mm (44 + 1 + 1 * (mm.1 41 5).toNatClampNeg) (va_cpy (mm.1 (a1 + 1)) (mm.1 (44 + 1 + 1 * (mm.1 41 5).toNatClampNeg)) 0 0 16)).1 41 5).toNatClampNeg) (va_cpy ((wR mm (44 + 1 + 1 * (mm.1 41 5).toNatClampNeg) (va_cpy (mm.1 (a1 + 1)) (mm.1 (44 + 1 + 1 * (mm.1 41 5).toNatClampNeg)) 0 0 16)).1 (a1 + 3)) ((wR mm (44 + 1 + 1 * (mm.1 41 5).toNatClampNeg) (va_cpy (mm.1 (a1 + 1)) (mm.1 (44 + 1 + 1 * (mm.1 41 5).toNatClampNeg)) 0 0 16)).1 (65 + 1 + 1 * ((wR mm (44 + 1 + 1 * (mm.1 41 5).toNatClampNeg) (va_cpy (mm.1 (a1 + 1)) (mm.1 (44 + 1 + 1 * (mm.1 41 5).toNatClampNeg)) 0 0 16)).1 41 5).toNatClampNeg)) 0 0 8)) 41 5 (0 : Int32)).1 41 4) + (1 : Int32)))).1 (a1 + 1)) 0 0 16)).1 (a1 + 3)) 0 0 8)) a1 7 (0 : Int32)))) ∧ (¬ (20 : Int32) ≤ (((wR (wR mm (44 + 1 + 1 * (mm.1 41 5).toNatClampNeg) (va_cpy (mm.1 (a1 + 1)) (mm.1 (44 + 1 + 1 * (mm.1 41 5).toNatClampNeg)) 0 0 16)) (65 + 1 + 1 * ((wR mm (44 + 1 + 1 * (mm.1 41 5).toNatClampNeg) (va_cpy (mm.1 (a1 + 1)) (mm.1 (44 + 1 + 1 * (mm.1 41 5).toNatClampNeg)) 0 0 16)).1 41 5).toNatClampNeg) (va_cpy ((wR mm (44 + 1 + 1 * (mm.1 41 5).toNatClampNeg) (va_cpy (mm.1 (a1 + 1)) (mm.1 (44 + 1 + 1 * (mm.1 41 5).toNatClampNeg)) 0 0 16)).1 (a1 + 3)) ((wR mm (44 + 1 + 1 * (mm.1 41 5).toNatClampNeg) (va_cpy (mm.1 (a1 + 1)) (mm.1 (44 + 1 + 1 * (mm.1 41 5).toNatClampNeg)) 0 0 16)).1 (65 + 1 + 1 * ((wR mm (44 + 1 + 1 * (mm.1 41 5).toNatClampNeg) (va_cpy (mm.1 (a1 + 1)) (mm.1 (44 + 1 + 1 * (mm.1 41 5).toNatClampNeg)) 0 0 16)).1 41 5).toNatClampNeg)) 0 0 8)).1 41 5) + (1 : Int32)) → (Q .null (wI (wR (wR (wI (wI (wR (wR mm (44 + 1 + 1 * (mm.1 41 5).toNatClampNeg) (va_cpy (mm.1 (a1 + 1)) (mm.1 (44 + 1 + 1 * (mm.1 41 5).toNatClampNeg)) 0 0 16)) (65 + 1 + 1 * ((wR mm (44 + 1 + 1 * (mm.1 41 5).toNatClampNeg) (va_cpy (mm.1 (a1 + 1)) (mm.1 (44 + 1 + 1 * (mm.1 41 5).toNatClampNeg)) 0 0 16)).1 41 5).toNatClampNeg) (va_cpy ((wR mm (44 + 1 + 1 * (mm.1 41 5).toNatClampNeg) (va_cpy (mm.1 (a1 + 1)) (mm.1 (44 + 1 + 1 * (mm.1 41 5).toNatClampNeg)) 0 0 16)).1 (a1 + 3)) ((wR mm (44 + 1 + 1 * (mm.1 41 5).toNatClampNeg) (va_cpy (mm.1 (a1 + 1)) (mm.1 (44 + 1 + 1 * (mm.1 41 5).toNatClampNeg)) 0 0 16)).1 (65 + 1 + 1 * ((wR mm (44 + 1 + 1 * (mm.1 41 5).toNatClampNeg) (va_cpy (mm.1 (a1 + 1)) (mm.1 (44 + 1 + 1 * (mm.1 41 5).toNatClampNeg)) 0 0 16)).1 41 5).toNatClampNeg)) 0 0 8)) 41 5 (((wR (wR mm (44 + 1 + 1 * (mm.1 41 5).toNatClampNeg) (va_cpy (mm.1 (a1 + 1)) (mm.1 (44 + 1 + 1 * (mm.1 41 5).toNatClampNeg)) 0 0 16)) (65 + 1 + 1 * ((wR mm (44 + 1 + 1 * (mm.1 41 5).toNatClampNeg) (va_cpy (mm.1 (a1 + 1)) (mm.1 (44 + 1 + 1 * (mm.1 41 5).toNatClampNeg)) 0 0 16)).1 41 5).toNatClampNeg) (va_cpy ((wR mm (44 + 1 + 1 * (mm.1 41 5).toNatClampNeg) (va_cpy (mm.1 (a1 + 1)) (mm.1 (44 + 1 + 1 * (mm.1 41 5).toNatClampNeg)) 0 0 16)).1 (a1 + 3)) ((wR mm (44 + 1 + 1 * (mm.1 41 5).toNatClampNeg) (va_cpy (mm.1 (a1 + 1)) (mm.1 (44 + 1 + 1 * (mm.1 41 5).toNatClampNeg)) 0 0 16)).1 (65 + 1 + 1 * ((wR mm (44 + 1 + 1 * (mm.1 41 5).toNatClampNeg) (va_cpy (mm.1 (a1 + 1)) (mm.1 (44 + 1 + 1 * (mm.1 41 5).toNatClampNeg)) 0 0 16)).1 41 5).toNatClampNeg)) 0 0 8)).1 41 5) + (1 : Int32))) 41 4 (imin (20 : Int32) (((wI (wR (wR mm (44 + 1 + 1 * (mm.1 41 5).toNatClampNeg) (va_cpy (mm.1 (a1 + 1)) (mm.1 (44 + 1 + 1 * (mm.1 41 5).toNatClampNeg)) 0 0 16)) (65 + 1 + 1 * ((wR mm (44 + 1 + 1 * (mm.1 41 5).toNatClampNeg) (va_cpy (mm.1 (a1 + 1)) (mm.1 (44 + 1 + 1 * (mm.1 41 5).toNatClampNeg)) 0 0 16)).1 41 5).toNatClampNeg) (va_cpy ((wR mm (44 + 1 + 1 * (mm.1 41 5).toNatClampNeg) (va_cpy (mm.1 (a1 + 1)) (mm.1 (44 + 1 + 1 * (mm.1 41 5).toNatClampNeg)) 0 0 16)).1 (a1 + 3)) ((wR mm (44 + 1 + 1 * (mm.1 41 5).toNatClampNeg) (va_cpy (mm.1 (a1 + 1)) (mm.1 (44 + 1 + 1 * (mm.1 41 5).toNatClampNeg)) 0 0 16)).1 (65 + 1 + 1 * ((wR mm (44 + 1 + 1 * (mm.1 41 5).toNatClampNeg) (va_cpy (mm.1 (a1 + 1)) (mm.1 (44 + 1 + 1 * (mm.1 41 5).toNatClampNeg)) 0 0 16)).1 41 5).toNatClampNeg)) 0 0 8)) 41 5 (((wR (wR mm (44 + 1 + 1 * (mm.1 41 5).toNatClampNeg) (va_cpy (mm.1 (a1 + 1)) (mm.1 (44 + 1 + 1 * (mm.1 41 5).toNatClampNeg)) 0 0 16)) (65 + 1 + 1 * ((wR mm (44 + 1 + 1 * (mm.1 41 5).toNatClampNeg) (va_cpy (mm.1 (a1 + 1)) (mm.1 (44 + 1 + 1 * (mm.1 41 5).toNatClampNeg)) 0 0 16)).1 41 5).toNatClampNeg) (va_cpy ((wR mm (44 + 1 + 1 * (mm.1 41 5).toNatClampNeg) (va_cpy (mm.1 (a1 + 1)) (mm.1 (44 + 1 + 1 * (mm.1 41 5).toNatClampNeg)) 0 0 16)).1 (a1 + 3)) ((wR mm (44 + 1 + 1 * (mm.1 41 5).toNatClampNeg) (va_cpy (mm.1 (a1 + 1)) (mm.1 (44 + 1 + 1 * (mm.1 41 5).toNatClampNeg)) 0 0 16)).1 (65 + 1 + 1 * ((wR mm (44 + 1 + 1 * (mm.1 41 5).toNatClampNeg) (va_cpy (mm.1 (a1 + 1)) (mm.1 (44 + 1 + 1 * (mm.1 41 5).toNatClampNeg)) 0 0 16)).1 41 5).toNatClampNeg)) 0 0 8)).1 41 5) + (1 : Int32))).1 41 4) + (1 : Int32)))) (a1 + 1) (va_cpy ((wI (wI (wR (wR mm (44 + 1 + 1 * (mm.1 41 5).toNatClampNeg) (va_cpy (mm.1 (a1 + 1)) (mm.1 (44 + 1 + 1 * (mm.1 41 5).toNatClampNeg)) 0 0 16)) (65 + 1 + 1 * ((wR mm (44 + 1 + 1 * (mm.1 41 5).toNatClampNeg) (va_cpy (mm.1 (a1 + 1)) (mm.1 (44 + 1 + 1 * (mm.1 41 5).toNatClampNeg)) 0 0 16)).1 41 5).toNatClampNeg) (va_cpy ((wR mm (44 + 1 + 1 * (mm.1 41 5).toNatClampNeg) (va_cpy (mm.1 (a1 + 1)) (mm.1 (44 + 1 + 1 * (mm.1 41 5).toNatClampNeg)) 0 0 16)).1 (a1 + 3)) ((wR mm (44 + 1 + 1 * (mm.1 41 5).toNatClampNeg) (va_cpy (mm.1 (a1 + 1)) (mm.1 (44 + 1 + 1 * (mm.1 41 5).toNatClampNeg)) 0 0 16)).1 (65 + 1 + 1 * ((wR mm (44 + 1 + 1 * (mm.1 41 5).toNatClampNeg) (va_cpy (mm.1 (a1 + 1)) (mm.1 (44 + 1 + 1 * (mm.1 41 5).toNatClampNeg)) 0 0 16)).1 41 5).toNatClampNeg)) 0 0 8)) 41 5 (((wR (wR mm (44 + 1 + 1 * (mm.1 41 5).toNatClampNeg) (va_cpy (mm.1 (a1 + 1)) (mm.1 (44 + 1 + 1 * (mm.1 41 5).toNatClampNeg)) 0 0 16)) (65 + 1 + 1 * ((wR mm (44 + 1 + 1 * (mm.1 41 5).toNatClampNeg) (va_cpy (mm.1 (a1 + 1)) (mm.1 (44 + 1 + 1 * (mm.1 41 5).toNatClampNeg)) 0 0 16)).1 41 5).toNatClampNeg) (va_cpy ((wR mm (44 + 1 + 1 * (mm.1 41 5).toNatClampNeg) (va_cpy (mm.1 (a1 + 1)) (mm.1 (44 + 1 + 1 * (mm.1 41 5).toNatClampNeg)) 0 0 16)).1 (a1 + 3)) ((wR mm (44 + 1 + 1 * (mm.1 41 5).toNatClampNeg) (va_cpy (mm.1 (a1 + 1)) (mm.1 (44 + 1 + 1 * (mm.1 41 5).toNatClampNeg)) 0 0 16)).1 (65 + 1 + 1 * ((wR mm (44 + 1 + 1 * (mm.1 41 5).toNatClampNeg) (va_cpy (mm.1 (a1 + 1)) (mm.1 (44 + 1 + 1 * (mm.1 41 5).toNatClampNeg)) 0 0 16)).1 41 5).toNatClampNeg)) 0 0 8)).1 41 5) + (1 : Int32))) 41 4 (imin (20 : Int32) (((wI (wR (wR mm (44 + 1 + 1 * (mm.1 41 5).toNatClampNeg) (va_cpy (mm.1 (a1 + 1)) (mm.1 (44 + 1 + 1 * (mm.1 41 5).toNatClampNeg)) 0 0 16)) (65 + 1 + 1 * ((wR mm (44 + 1 + 1 * (mm.1 41 5).toNatClampNeg) (va_cpy (mm.1 (a1 + 1)) (mm.1 (44 + 1 + 1 * (mm.1 41 5).toNatClampNeg)) 0 0 16)).1 41 5).toNatClampNeg) (va_cpy ((wR mm (44 + 1 + 1 * (mm.1 41 5).toNatClampNeg) (va_cpy (mm.1 (a1 + 1)) (mm.1 (44 + 1 + 1 * (mm.1 41 5).toNatClampNeg)) 0 0 16)).1 (a1 + 3)) ((wR mm (44 + 1 + 1 * (mm.1 41 5).toNatClampNeg) (va_cpy (mm.1 (a1 + 1)) (mm.1 (44 + 1 + 1 * (mm.1 41 5).toNatClampNeg)) 0 0 16)).1 (65 + 1 + 1 * ((wR mm (44 + 1 + 1 * (mm.1 41 5).toNatClampNeg) (va_cpy (mm.1 (a1 + 1)) (mm.1 (44 + 1 + 1 * (mm.1 41 5).toNatClampNeg)) 0 0 16)).1 41 5).toNatClampNeg)) 0 0 8)) 41 5 (((wR (wR mm (44 + 1 + 1 * (mm.1 41 5).toNatClampNeg) (va_cpy (mm.1 (a1 + 1)) (mm.1 (44 + 1 + 1 * (mm.1 41 5).toNatClampNeg)) 0 0 16)) (65 + 1 + 1 * ((wR mm (44 + 1 + 1 * (mm.1 41 5).toNatClampNeg) (va_cpy (mm.1 (a1 + 1)) (mm.1 (44 + 1 + 1 * (mm.1 41 5).toNatClampNeg)) 0 0 16)).1 41 5).toNatClampNeg) (va_cpy ((wR mm (44 + 1 + 1 * (mm.1 41 5).toNatClampNeg) (va_cpy (mm.1 (a1 + 1)) (mm.1 (44 + 1 + 1 * (mm.1 41 5).toNatClampNeg)) 0 0 16)).1 (a1 + 3)) ((wR mm (44 + 1 + 1 * (mm.1 41 5).toNatClampNeg) (va_cpy (mm.1 (a1 + 1)) (mm.1 (44 + 1 + 1 * (mm.1 41 5).toNatClampNeg)) 0 0 16)).1 (65 + 1 + 1 * ((wR mm (44 + 1 + 1 * (mm.1 41 5).toNatClampNeg) (va_cpy (mm.1 (a1 + 1)) (mm.1 (44 + 1 + 1 * (mm.1 41 5).toNatClampNeg)) 0 0 16)).1 41 5).toNatClampNeg)) 0 0 8)).1 41 5) + (1 : Int32))).1 41 4) + (1 : Int32)))).1 42) ((wI (wI (wR (wR mm (44 + 1 + 1 * (mm.1 41 5).toNatClampNeg) (va_cpy (mm.1 (a1 + 1)) (mm.1 (44 + 1 + 1 * (mm.1 41 5).toNatClampNeg)) 0 0 16)) (65 + 1 + 1 * ((wR mm (44 + 1 + 1 * (mm.1 41 5).toNatClampNeg) (va_cpy (mm.1 (a1 + 1)) (mm.1 (44 + 1 + 1 * (mm.1 41 5).toNatClampNeg)) 0 0 16)).1 41 5).toNatClampNeg) (va_cpy ((wR mm (44 + 1 + 1 * (mm.1 41 5).toNatClampNeg) (va_cpy (mm.1 (a1 + 1)) (mm.1 (44 + 1 + 1 * (mm.1 41 5).toNatClampNeg)) 0 0 16)).1 (a1 + 3)) ((wR mm (44 + 1 + 1 * (mm.1 41 5).toNatClampNeg) (va_cpy (mm.1 (a1 + 1)) (mm.1 (44 + 1 + 1 * (mm.1 41 5).toNatClampNeg)) 0 0 16)).1 (65 + 1 + 1 * ((wR mm (44 + 1 + 1 * (mm.1 41 5).toNatClampNeg) (va_cpy (mm.1 (a1 + 1)) (mm.1 (44 + 1 + 1 * (mm.1 41 5).toNatClampNeg)) 0 0 16)).1 41 5).toNatClampNeg)) 0 0 8)) 41 5 (((wR (wR mm (44 + 1 + 1 * (mm.1 41 5).toNatClampNeg) (va_cpy (mm.1 (a1 + 1)) (mm.1 (44 + 1 + 1 * (mm.1 41 5).toNatClampNeg)) 0 0 16)) (65 + 1 + 1 * ((wR mm (44 + 1 + 1 * (mm.1 41 5).toNatClampNeg) (va_cpy (mm.1 (a1 + 1)) (mm.1 (44 + 1 + 1 * (mm.1 41 5).toNatClampNeg)) 0 0 16)).1 41 5).toNatClampNeg) (va_cpy ((wR mm (44 + 1 + 1 * (mm.1 41 5).toNatClampNeg) (va_cpy (mm.1 (a1 + 1)) (mm.1 (44 + 1 + 1 * (mm.1 41 5).toNatClampNeg)) 0 0 16)).1 (a1 + 3)) ((wR mm (44 + 1 + 1 * (mm.1 41 5).toNatClampNeg) (va_cpy (mm.1 (a1 + 1)) (mm.1 (44 + 1 + 1 * (mm.1 41 5).toNatClampNeg)) 0 0 16)).1 (65 + 1 + 1 * ((wR mm (44 + 1 + 1 * (mm.1 41 5).toNatClampNeg) (va_cpy (mm.1 (a1 + 1)) (mm.1 (44 + 1 + 1 * (mm.1 41 5).toNatClampNeg)) 0 0 16)).1 41 5).toNatClampNeg)) 0 0 8)).1 41 5) + (1 : Int32))) 41 4 (imin (20 : Int32) (((wI (wR (wR mm (44 + 1 + 1 * (mm.1 41 5).toNatClampNeg) (va_cpy (mm.1 (a1 + 1)) (mm.1 (44 + 1 + 1 * (mm.1 41 5).toNatClampNeg)) 0 0 16)) (65 + 1 + 1 * ((wR mm (44 + 1 + 1 * (mm.1 41 5).toNatClampNeg) (va_cpy (mm.1 (a1 + 1)) (mm.1 (44 + 1 + 1 * (mm.1 41 5).toNatClampNeg)) 0 0 16)).1 41 5).toNatClampNeg) (va_cpy ((wR mm (44 + 1 + 1 * (mm.1 41 5).toNatClampNeg) (va_cpy (mm.1 (a1 + 1)) (mm.1 (44 + 1 + 1 * (mm.1 41 5).toNatClampNeg)) 0 0 16)).1 (a1 + 3)) ((wR mm (44 + 1 + 1 * (mm.1 41 5).toNatClampNeg) (va_cpy (mm.1 (a1 + 1)) (mm.1 (44 + 1 + 1 * (mm.1 41 5).toNatClampNeg)) 0 0 16)).1 (65 + 1 + 1 * ((wR mm (44 + 1 + 1 * (mm.1 41 5).toNatClampNeg) (va_cpy (mm.1 (a1 + 1)) (mm.1 (44 + 1 + 1 * (mm.1 41 5).toNatClampNeg)) 0 0 16)).1 41 5).toNatClampNeg)) 0 0 8)) 41 5 (((wR (wR mm (44 + 1 + 1 * (mm.1 41 5).toNatClampNeg) (va_cpy (mm.1 (a1 + 1)) (mm.1 (44 + 1 + 1 * (mm.1 41 5).toNatClampNeg)) 0 0 16)) (65 + 1 + 1 * ((wR mm (44 + 1 + 1 * (mm.1 41 5).toNatClampNeg) (va_cpy (mm.1 (a1 + 1)) (mm.1 (44 + 1 + 1 * (mm.1 41 5).toNatClampNeg)) 0 0 16)).1 41 5).toNatClampNeg) (va_cpy ((wR mm (44 + 1 + 1 * (mm.1 41 5).toNatClampNeg) (va_cpy (mm.1 (a1 + 1)) (mm.1 (44 + 1 + 1 * (mm.1 41 5).toNatClampNeg)) 0 0 16)).1 (a1 + 3)) ((wR mm (44 + 1 + 1 * (mm.1 41 5).toNatClampNeg) (va_cpy (mm.1 (a1 + 1)) (mm.1 (44 + 1 + 1 * (mm.1 41 5).toNatClampNeg)) 0 0 16)).1 (65 + 1 + 1 * ((wR mm (44 + 1 + 1 * (mm.1 41 5).toNatClampNeg) (va_cpy (mm.1 (a1 + 1)) (mm.1 (44 + 1 + 1 * (mm.1 41 5).toNatClampNeg)) 0 0 16)).1 41 5).toNatClampNeg)) 0 0 8)).1 41 5) + (1 : Int32))).1 41 4) + (1 : Int32)))).1 (a1 + 1)) 0 0 16)) (a1 + 3) (va_cpy ((wR (wI (wI (wR (wR mm (44 + 1 + 1 * (mm.1 41 5).toNatClampNeg) (va_cpy (mm.1 (a1 + 1)) (mm.1 (44 + 1 + 1 * (mm.1 41 5).toNatClampNeg)) 0 0 16)) (65 + 1 + 1 * ((wR mm (44 + 1 + 1 * (mm.1 41 5).toNatClampNeg) (va_cpy (mm.1 (a1 + 1)) (mm.1 (44 + 1 + 1 * (mm.1 41 5).toNatClampNeg)) 0 0 16)).1 41 5).toNatClampNeg) (va_cpy ((wR mm (44 + 1 + 1 * (mm.1 41 5).toNatClampNeg) (va_cpy (mm.1 (a1 + 1)) (mm.1 (44 + 1 + 1 * (mm.1 41 5).toNatClampNeg)) 0 0 16)).1 (a1 + 3)) ((wR mm (44 + 1 + 1 * (mm.1 41 5).toNatClampNeg) (va_cpy (mm.1 (a1 + 1)) (mm.1 (44 + 1 + 1 * (mm.1 41 5).toNatClampNeg)) 0 0 16)).1 (65 + 1 + 1 * ((wR mm (44 + 1 + 1 * (mm.1 41 5).toNatClampNeg) (va_cpy (mm.1 (a1 + 1)) (mm.1 (44 + 1 + 1 * (mm.1 41 5).toNatClampNeg)) 0 0 16)).1 41 5).toNatClampNeg)) 0 0 8)) 41 5 (((wR (wR mm (44 + 1 + 1 * (mm.1 41 5).toNatClampNeg) (va_cpy (mm.1 (a1 + 1)) (mm.1 (44 + 1 + 1 * (mm.1 41 5).toNatClampNeg)) 0 0 16)) (65 + 1 + 1 * ((wR mm (44 + 1 + 1 * (mm.1 41 5).toNatClampNeg) (va_cpy (mm.1 (a1 + 1)) (mm.1 (44 + 1 + 1 * (mm.1 41 5).toNatClampNeg)) 0 0 16)).1 41 5).toNatClampNeg) (va_cpy ((wR mm (44 + 1 + 1 * (mm.1 41 5).toNatClampNeg) (va_cpy (mm.1 (a1 + 1)) (mm.1 (44 + 1 + 1 * (mm.1 41 5).toNatClampNeg)) 0 0 16)).1 (a1 + 3)) ((wR mm (44 + 1 + 1 * (mm.1 41 5).toNatClampNeg) (va_cpy (mm.1 (a1 + 1)) (mm.1 (44 + 1 + 1 * (mm.1 41 5).toNatClampNeg)) 0 0 16)).1 (65 + 1 + 1 * ((wR mm (44 + 1 + 1 * (mm.1 41 5).toNatClampNeg) (va_cpy (mm.1 (a1 + 1)) (mm.1 (44 + 1 + 1 * (mm.1 41 5).toNatClampNeg)) 0 0 16)).1 41 5).toNatClampNeg)) 0 0 8)).1 41 5) + (1 : Int32))) 41 4 (imin (20 : Int32) (((wI (wR (wR mm (44 + 1 + 1 * (mm.1 41 5).toNatClampNeg) (va_cpy (mm.1 (a1 + 1)) (mm.1 (44 + 1 + 1 * (mm.1 41 5).toNatClampNeg)) 0 0 16)) (65 + 1 + 1 * ((wR mm (44 + 1 + 1 * (mm.1 41 5).toNatClampNeg) (va_cpy (mm.1 (a1 + 1)) (mm.1 (44 + 1 + 1 * (mm.1 41 5).toNatClampNeg)) 0 0 16)).1 41 5).toNatClampNeg) (va_cpy ((wR mm (44 + 1 + 1 * (mm.1 41 5).toNatClampNeg) (va_cpy (mm.1 (a1 + 1)) (mm.1 (44 + 1 + 1 * (mm.1 41 5).toNatClampNeg)) 0 0 16)).1 (a1 + 3)) ((wR mm (44 + 1 + 1 * (mm.1 41 5).toNatClampNeg) (va_cpy (mm.1 (a1 + 1)) (mm.1 (44 + 1 + 1 * (mm.1 41 5).toNatClampNeg)) 0 0 16)).1 (65 + 1 + 1 * ((wR mm (44 + 1 + 1 * (mm.1 41 5).toNatClampNeg) (va_cpy (mm.1 (a1 + 1)) (mm.1 (44 + 1 + 1 * (mm.1 41 5).toNatClampNeg)) 0 0 16)).1 41 5).toNatClampNeg)) 0 0 8)) 41 5 (((wR (wR mm (44 + 1 + 1 * (mm.1 41 5).toNatClampNeg) (va_cpy (mm.1 (a1 + 1)) (mm.1 (44 + 1 + 1 * (mm.1 41 5).toNatClampNeg)) 0 0 16)) (65 + 1 + 1 * ((wR mm (44 + 1 + 1 * (mm.1 41 5).toNatClampNeg) (va_cpy (mm.1 (a1 + 1)) (mm.1 (44 + 1 + 1 * (mm.1 41 5).toNatClampNeg)) 0 0 16)).1 41 5).toNatClampNeg) (va_cpy ((wR mm (44 + 1 + 1 * (mm.1 41 5).toNatClampNeg) (va_cpy (mm.1 (a1 + 1)) (mm.1 (44 + 1 + 1 * (mm.1 41 5).toNatClampNeg)) 0 0 16)).1 (a1 + 3)) ((wR mm (44 + 1 + 1 * (mm.1 41 5).toNatClampNeg) (va_cpy (mm.1 (a1 + 1)) (mm.1 (44 + 1 + 1 * (mm.1 41 5).toNatClampNeg)) 0 0 16)).1 (65 + 1 + 1 * ((wR mm (44 + 1 + 1 * (mm.1 41 5).toNatClampNeg) (va_cpy (mm.1 (a1 + 1)) (mm.1 (44 + 1 + 1 * (mm.1 41 5).toNatClampNeg)) 0 0 16)).1 41 5).toNatClampNeg)) 0 0 8)).1 41 5) + (1 : Int32))).1 41 4) + (1 : Int32)))) (a1 + 1) (va_cpy ((wI (wI (wR (wR mm (44 + 1 + 1 * (mm.1 41 5).toNatClampNeg) (va_cpy (mm.1 (a1 + 1)) (mm.1 (44 + 1 + 1 * (mm.1 41 5).toNatClampNeg)) 0 0 16)) (65 + 1 + 1 * ((wR mm (44 + 1 + 1 * (mm.1 41 5).toNatClampNeg) (va_cpy (mm.1 (a1 + 1)) (mm.1 (44 + 1 + 1 * (mm.1 41 5).toNatClampNeg)) 0 0 16)).1 41 5).toNatClampNeg) (va_cpy ((wR mm (44 + 1 + 1 * (mm.1 41 5).toNatClampNeg) (va_cpy (mm.1 (a1 + 1)) (mm.1 (44 + 1 + 1 * (mm.1 41 5).toNatClampNeg)) 0 0 16)).1 (a1 + 3)) ((wR mm (44 + 1 + 1 * (mm.1 41 5).toNatClampNeg) (va_cpy (mm.1 (a1 + 1)) (mm.1 (44 + 1 + 1 * (mm.1 41 5).toNatClampNeg)) 0 0 16)).1 (65 + 1 + 1 * ((wR mm (44 + 1 + 1 * (mm.1 41 5).toNatClampNeg) (va_cpy (mm.1 (a1 + 1)) (mm.1 (44 + 1 + 1 * (mm.1 41 5).toNatClampNeg)) 0 0 16)).1 41 5).toNatClampNeg)) 0 0 8)) 41 5 (((wR (wR mm (44 + 1 + 1 * (mm.1 41 5).toNatClampNeg) (va_cpy (mm.1 (a1 + 1)) (mm.1 (44 + 1 + 1 * (mm.1 41 5).toNatClampNeg)) 0 0 16)) (65 + 1 + 1 * ((wR mm (44 + 1 + 1 * (mm.1 41 5).toNatClampNeg) (va_cpy (mm.1 (a1 + 1)) (mm.1 (44 + 1 + 1 * (mm.1 41 5).toNatClampNeg)) 0 0 16)).1 41 5).toNatClampNeg) (va_cpy ((wR mm (44 + 1 + 1 * (mm.1 41 5).toNatClampNeg) (va_cpy (mm.1 (a1 + 1)) (mm.1 (44 + 1 + 1 * (mm.1 41 5).toNatClampNeg)) 0 0 16)).1 (a1 + 3)) ((wR mm (44 + 1 + 1 * (mm.1 41 5).toNatClampNeg) (va_cpy (mm.1 (a1 + 1)) (mm.1 (44 + 1 + 1 * (mm.1 41 5).toNatClampNeg)) 0 0 16)).1 (65 + 1 + 1 * ((wR mm (44 + 1 + 1 * (mm.1 41 5).toNatClampNeg) (va_cpy (mm.1 (a1 + 1)) (mm.1 (44 + 1 + 1 * (mm.1 41 5).toNatClampNeg)) 0 0 16)).1 41 5).toNatClampNeg)) 0 0 8)).1 41 5) + (1 : Int32))) 41 4 (imin (20 : Int32) (((wI (wR (wR mm (44 + 1 + 1 * (mm.1 41 5).toNatClampNeg) (va_cpy (mm.1 (a1 + 1)) (mm.1 (44 + 1 + 1 * (mm.1 41 5).toNatClampNeg)) 0 0 16)) (65 + 1 + 1 * ((wR mm (44 + 1 + 1 * (mm.1 41 5).toNatClampNeg) (va_cpy (mm.1 (a1 + 1)) (mm.1 (44 + 1 + 1 * (mm.1 41 5).toNatClampNeg)) 0 0 16)).1 41 5).toNatClampNeg) (va_cpy ((wR mm (44 + 1 + 1 * (mm.1 41 5).toNatClampNeg) (va_cpy (mm.1 (a1 + 1)) (mm.1 (44 + 1 + 1 * (mm.1 41 5).toNatClampNeg)) 0 0 16)).1 (a1 + 3)) ((wR mm (44 + 1 + 1 * (mm.1 41 5).toNatClampNeg) (va_cpy (mm.1 (a1 + 1)) (mm.1 (44 + 1 + 1 * (mm.1 41 5).toNatClampNeg)) 0 0 16)).1 (65 + 1 + 1 * ((wR mm (44 + 1 + 1 * (mm.1 41 5).toNatClampNeg) (va_cpy (mm.1 (a1 + 1)) (mm.1 (44 + 1 + 1 * (mm.1 41 5).toNatClampNeg)) 0 0 16)).1 41 5).toNatClampNeg)) 0 0 8)) 41 5 (((wR (wR mm (44 + 1 + 1 * (mm.1 41 5).toNatClampNeg) (va_cpy (mm.1 (a1 + 1)) (mm.1 (44 + 1 + 1 * (mm.1 41 5).toNatClampNeg)) 0 0 16)) (65 + 1 + 1 * ((wR mm (44 + 1 + 1 * (mm.1 41 5).toNatClampNeg) (va_cpy (mm.1 (a1 + 1)) (mm.1 (44 + 1 + 1 * (mm.1 41 5).toNatClampNeg)) 0 0 16)).1 41 5).toNatClampNeg) (va_cpy ((wR mm (44 + 1 + 1 * (mm.1 41 5).toNatClampNeg) (va_cpy (mm.1 (a1 + 1)) (mm.1 (44 + 1 + 1 * (mm.1 41 5).toNatClampNeg)) 0 0 16)).1 (a1 + 3)) ((wR mm (44 + 1 + 1 * (mm.1 41 5).toNatClampNeg) (va_cpy (mm.1 (a1 + 1)) (mm.1 (44 + 1 + 1 * (mm.1 41 5).toNatClampNeg)) 0 0 16)).1 (65 + 1 + 1 * ((wR mm (44 + 1 + 1 * (mm.1 41 5).toNatClampNeg) (va_cpy (mm.1 (a1 + 1)) (mm.1 (44 + 1 + 1 * (mm.1 41 5).toNatClampNeg)) 0 0 16)).1 41 5).toNatClampNeg)) 0 0 8)).1 41 5) + (1 : Int32))).1 41 4) + (1 : Int32)))).1 42) ((wI (wI (wR (wR mm (44 + 1 + 1 * (mm.1 41 5).toNatClampNeg) (va_cpy (mm.1 (a1 + 1)) (mm.1 (44 + 1 + 1 * (mm.1 41 5).toNatClampNeg)) 0 0 16)) (65 + 1 + 1 * ((wR mm (44 + 1 + 1 * (mm.1 41 5).toNatClampNeg) (va_cpy (mm.1 (a1 + 1)) (mm.1 (44 + 1 + 1 * (mm.1 41 5).toNatClampNeg)) 0 0 16)).1 41 5).toNatClampNeg) (va_cpy ((wR mm (44 + 1 + 1 * (mm.1 41 5).toNatClampNeg) (va_cpy (mm.1 (a1 + 1)) (mm.1 (44 + 1 + 1 * (mm.1 41 5).toNatClampNeg)) 0 0 16)).1 (a1 + 3)) ((wR mm (44 + 1 + 1 * (mm.1 41 5).toNatClampNeg) (va_cpy (mm.1 (a1 + 1)) (mm.1 (44 + 1 + 1 * (mm.1 41 5).toNatClampNeg)) 0 0 16)).1 (65 + 1 + 1 * ((wR mm (44 + 1 + 1 * (mm.1 41 5).toNatClampNeg) (va_cpy (mm.1 (a1 + 1)) (mm.1 (44 + 1 + 1 * (mm.1 41 5).toNatClampNeg)) 0 0 16)).1 41 5).toNatClampNeg)) 0 0 8)) 41 5 (((wR (wR mm (44 + 1 + 1 * (mm.1 41 5).toNatClampNeg) (va_cpy (mm.1 (a1 + 1)) (mm.1 (44 + 1 + 1 * (mm.1 41 5).toNatClampNeg)) 0 0 16)) (65 + 1 + 1 * ((wR mm (44 + 1 + 1 * (mm.1 41 5).toNatClampNeg) (va_cpy (mm.1 (a1 + 1)) (mm.1 (44 + 1 + 1 * (mm.1 41 5).toNatClampNeg)) 0 0 16)).1 41 5).toNatClampNeg) (va_cpy ((wR mm (44 + 1 + 1 * (mm.1 41 5).toNatClampNeg) (va_cpy (mm.1 (a1 + 1)) (mm.1 (44 + 1 + 1 * (mm.1 41 5).toNatClampNeg)) 0 0 16)).1 (a1 + 3)) ((wR mm (44 + 1 + 1 * (mm.1 41 5).toNatClampNeg) (va_cpy (mm.1 (a1 + 1)) (mm.1 (44 + 1 + 1 * (mm.1 41 5).toNatClampNeg)) 0 0 16)).1 (65 + 1 + 1 * ((wR mm (44 + 1 + 1 * (mm.1 41 5).toNatClampNeg) (va_cpy (mm.1 (a1 + 1)) (mm.1 (44 + 1 + 1 * (mm.1 41 5).toNatClampNeg)) 0 0 16)).1 41 5).toNatClampNeg)) 0 0 8)).1 41 5) + (1 : Int32))) 41 4 (imin (20 : Int32) (((wI (wR (wR mm (44 + 1 + 1 * (mm.1 41 5).toNatClampNeg) (va_cpy (mm.1 (a1 + 1)) (mm.1 (44 + 1 + 1 * (mm.1 41 5).toNatClampNeg)) 0 0 16)) (65 + 1 + 1 * ((wR mm (44 + 1 + 1 * (mm.1 41 5).toNatClampNeg) (va_cpy (mm.1 (a1 + 1)) (mm.1 (44 + 1 + 1 * (mm.1 41 5).toNatClampNeg)) 0 0 16)).1 41 5).toNatClampNeg) (va_cpy ((wR mm (44 + 1 + 1 * (mm.1 41 5).toNatClampNeg) (va_cpy (mm.1 (a1 + 1)) (mm.1 (44 + 1 + 1 * (mm.1 41 5).toNatClampNeg)) 0 0 16)).1 (a1 + 3)) ((wR mm (44 + 1 + 1 * (mm.1 41 5).toNatClampNeg) (va_cpy (mm.1 (a1 + 1)) (mm.1 (44 + 1 + 1 * (mm.1 41 5).toNatClampNeg)) 0 0 16)).1 (65 + 1 + 1 * ((wR mm (44 + 1 + 1 * (mm.1 41 5).toNatClampNeg) (va_cpy (mm.1 (a1 + 1)) (mm.1 (44 + 1 + 1 * (mm.1 41 5).toNatClampNeg)) 0 0 16)).1 41 5).toNatClampNeg)) 0 0 8)) 41 5 (((wR (wR mm (44 + 1 + 1 * (mm.1 41 5).toNatClampNeg) (va_cpy (mm.1 (a1 + 1)) (mm.1 (44 + 1 + 1 * (mm.1 41 5).toNatClampNeg)) 0 0 16)) (65 + 1 + 1 * ((wR mm (44 + 1 + 1 * (mm.1 41 5).toNatClampNeg) (va_cpy (mm.1 (a1 + 1)) (mm.1 (44 + 1 + 1 * (mm.1 41 5).toNatClampNeg)) 0 0 16)).1 41 5).toNatClampNeg) (va_cpy ((wR mm (44 + 1 + 1 * (mm.1 41 5).toNatClampNeg) (va_cpy (mm.1 (a1 + 1)) (mm.1 (44 + 1 + 1 * (mm.1 41 5).toNatClampNeg)) 0 0 16)).1 (a1 + 3)) ((wR mm (44 + 1 + 1 * (mm.1 41 5).toNatClampNeg) (va_cpy (mm.1 (a1 + 1)) (mm.1 (44 + 1 + 1 * (mm.1 41 5).toNatClampNeg)) 0 0 16)).1 (65 + 1 + 1 * ((wR mm (44 + 1 + 1 * (mm.1 41 5).toNatClampNeg) (va_cpy (mm.1 (a1 + 1)) (mm.1 (44 + 1 + 1 * (mm.1 41 5).toNatClampNeg)) 0 0 16)).1 41 5).toNatClampNeg)) 0 0 8)).1 41 5) + (1 : Int32))).1 41 4) + (1 : Int32)))).1 (a1 + 1)) 0 0 16)).1 43) ((wR (wI (wI (wR (wR mm (44 + 1 + 1 * (mm.1 41 5).toNatClampNeg) (va_cpy (mm.1 (a1 + 1)) (mm.1 (44 + 1 + 1 * (mm.1 41 5).toNatClampNeg)) 0 0 16)) (65 + 1 + 1 * ((wR mm (44 + 1 + 1 * (mm.1 41 5).toNatClampNeg) (va_cpy (mm.1 (a1 + 1)) (mm.1 (44 + 1 + 1 * (mm.1 41 5).toNatClampNeg)) 0 0 16)).1 41 5).toNatClampNeg) (va_cpy ((wR mm (44 + 1 + 1 * (mm.1 41 5).toNatClampNeg) (va_cpy (mm.1 (a1 + 1)) (mm.1 (44 + 1 + 1 * (mm.1 41 5).toNatClampNeg)) 0 0 16)).1 (a1 + 3)) ((wR mm (44 + 1 + 1 * (mm.1 41 5).toNatClampNeg) (va_cpy (mm.1 (a1 + 1)) (mm.1 (44 + 1 + 1 * (mm.1 41 5).toNatClampNeg)) 0 0 16)).1 (65 + 1 + 1 * ((wR mm (44 + 1 + 1 * (mm.1 41 5).toNatClampNeg) (va_cpy (mm.1 (a1 + 1)) (mm.1 (44 + 1 + 1 * (mm.1 41 5).toNatClampNeg)) 0 0 16)).1 41 5).toNatClampNeg)) 0 0 8)) 41 5 (((wR (wR mm (44 + 1 + 1 * (mm.1 41 5).toNatClampNeg) (va_cpy (mm.1 (a1 + 1)) (mm.1 (44 + 1 + 1 * (mm.1 41 5).toNatClampNeg)) 0 0 16)) (65 + 1 + 1 * ((wR mm (44 + 1 + 1 * (mm.1 41 5).toNatClampNeg) (va_cpy (mm.1 (a1 + 1)) (mm.1 (44 + 1 + 1 * (mm.1 41 5).toNatClampNeg)) 0 0 16)).1 41 5).toNatClampNeg) (va_cpy ((wR mm (44 + 1 + 1 * (mm.1 41 5).toNatClampNeg) (va_cpy (mm.1 (a1 + 1)) (mm.1 (44 + 1 + 1 * (mm.1 41 5).toNatClampNeg)) 0 0 16)).1 (a1 + 3)) ((wR mm (44 + 1 + 1 * (mm.1 41 5).toNatClampNeg) (va_cpy (mm.1 (a1 + 1)) (mm.1 (44 + 1 + 1 * (mm.1 41 5).toNatClampNeg)) 0 0 16)).1 (65 + 1 + 1 * ((wR mm (44 + 1 + 1 * (mm.1 41 5).toNatClampNeg) (va_cpy (mm.1 (a1 + 1)) (mm.1 (44 + 1 + 1 * (mm.1 41 5).toNatClampNeg)) 0 0 16)).1 41 5).toNatClampNeg)) 0 0 8)).1 41 5) + (1 : Int32))) 41 4 (imin (20 : Int32) (((wI (wR (wR mm (44 + 1 + 1 * (mm.1 41 5).toNatClampNeg) (va_cpy (mm.1 (a1 + 1)) (mm.1 (44 + 1 + 1 * (mm.1 41 5).toNatClampNeg)) 0 0 16)) (65 + 1 + 1 * ((wR mm (44 + 1 + 1 * (mm.1 41 5).toNatClampNeg) (va_cpy (mm.1 (a1 + 1)) (mm.1 (44 + 1 + 1 * (mm.1 41 5).toNatClampNeg)) 0 0 16)).1 41 5).toNatClampNeg) (va_cpy ((wR mm (44 + 1 + 1 * (mm.1 41 5).toNatClampNeg) (va_cpy (mm.1 (a1 + 1)) (mm.1 (44 + 1 + 1 * (mm.1 41 5).toNatClampNeg)) 0 0 16)).1 (a1 + 3)) ((wR mm (44 + 1 + 1 * (mm.1 41 5).toNatClampNeg) (va_cpy (mm.1 (a1 + 1)) (mm.1 (44 + 1 + 1 * (mm.1 41 5).toNatClampNeg)) 0 0 16)).1 (65 + 1 + 1 * ((wR mm (44 + 1 + 1 * (mm.1 41 5).toNatClampNeg) (va_cpy (mm.1 (a1 + 1)) (mm.1 (44 + 1 + 1 * (mm.1 41 5).toNatClampNeg)) 0 0 16)).1 41 5).toNatClampNeg)) 0 0 8)) 41 5 (((wR (wR mm (44 + 1 + 1 * (mm.1 41 5).toNatClampNeg) (va_cpy (mm.1 (a1 + 1)) (mm.1 (44 + 1 + 1 * (mm.1 41 5).toNatClampNeg)) 0 0 16)) (65 + 1 + 1 * ((wR mm (44 + 1 + 1 * (mm.1 41 5).toNatClampNeg) (va_cpy (mm.1 (a1 + 1)) (mm.1 (44 + 1 + 1 * (mm.1 41 5).toNatClampNeg)) 0 0 16)).1 41 5).toNatClampNeg) (va_cpy ((wR mm (44 + 1 + 1 * (mm.1 41 5).toNatClampNeg) (va_cpy (mm.1 (a1 + 1)) (mm.1 (44 + 1 + 1 * (mm.1 41 5).toNatClampNeg)) 0 0 16)).1 (a1 + 3)) ((wR mm (44 + 1 + 1 * (mm.1 41 5).toNatClampNeg) (va_cpy (mm.1 (a1 + 1)) (mm.1 (44 + 1 + 1 * (mm.1 41 5).toNatClampNeg)) 0 0 16)).1 (65 + 1 + 1 * ((wR mm (44 + 1 + 1 * (mm.1 41 5).toNatClampNeg) (va_cpy (mm.1 (a1 + 1)) (mm.1 (44 + 1 + 1 * (mm.1 41 5).toNatClampNeg)) 0 0 16)).1 41 5).toNatClampNeg)) 0 0 8)).1 41 5) + (1 : Int32))).1 41 4) + (1 : Int32)))) (a1 + 1) (va_cpy ((wI (wI (wR (wR mm (44 + 1 + 1 * (mm.1 41 5).toNatClampNeg) (va_cpy (mm.1 (a1 + 1)) (mm.1 (44 + 1 + 1 * (mm.1 41 5).toNatClampNeg)) 0 0 16)) (65 + 1 + 1 * ((wR mm (44 + 1 + 1 * (mm.1 41 5).toNatClampNeg) (va_cpy (mm.1 (a1 + 1)) (mm.1 (44 + 1 + 1 * (mm.1 41 5).toNatClampNeg)) 0 0 16)).1 41 5).toNatClampNeg) (va_cpy ((wR mm (44 + 1 + 1 * (mm.1 41 5).toNatClampNeg) (va_cpy (mm.1 (a1 + 1)) (mm.1 (44 + 1 + 1 * (mm.1 41 5).toNatClampNeg)) 0 0 16)).1 (a1 + 3)) ((wR mm (44 + 1 + 1 * (mm.1 41 5).toNatClampNeg) (va_cpy (mm.1 (a1 + 1)) (mm.1 (44 + 1 + 1 * (mm.1 41 5).toNatClampNeg)) 0 0 16)).1 (65 + 1 + 1 * ((wR mm (44 + 1 + 1 * (mm.1 41 5).toNatClampNeg) (va_cpy (mm.1 (a1 + 1)) (mm.1 (44 + 1 + 1 * (mm.1 41 5).toNatClampNeg)) 0 0 16)).1 41 5).toNatClampNeg)) 0 0 8)) 41 5 (((wR (wR mm (44 + 1 + 1 * (mm.1 41 5).toNatClampNeg) (va_cpy (mm.1 (a1 + 1)) (mm.1 (44 + 1 + 1 * (mm.1 41 5).toNatClampNeg)) 0 0 16)) (65 + 1 + 1 * ((wR mm (44 + 1 + 1 * (mm.1 41 5).toNatClampNeg) (va_cpy (mm.1 (a1 + 1)) (mm.1 (44 + 1 + 1 * (mm.1 41 5).toNatClampNeg)) 0 0 16)).1 41 5).toNatClampNeg) (va_cpy ((wR mm (44 + 1 + 1 * (mm.1 41 5).toNatClampNeg) (va_cpy (mm.1 (a1 + 1)) (mm.1 (44 + 1 + 1 * (mm.1 41 5).toNatClampNeg)) 0 0 16)).1 (a1 + 3)) ((wR mm (44 + 1 + 1 * (mm.1 41 5).toNatClampNeg) (va_cpy (mm.1 (a1 + 1)) (mm.1 (44 + 1 + 1 * (mm.1 41 5).toNatClampNeg)) 0 0 16)).1 (65 + 1 + 1 * ((wR mm (44 + 1 + 1 * (mm.1 41 5).toNatClampNeg) (va_cpy (mm.1 (a1 + 1)) (mm.1 (44 + 1 + 1 * (mm.1 41 5).toNatClampNeg)) 0 0 16)).1 41 5).toNatClampNeg)) 0 0 8)).1 41 5) + (1 : Int32))) 41 4 (imin (20 : Int32) (((wI (wR (wR mm (44 + 1 + 1 * (mm.1 41 5).toNatClampNeg) (va_cpy (mm.1 (a1 + 1)) (mm.1 (44 + 1 + 1 * (mm.1 41 5).toNatClampNeg)) 0 0 16)) (65 + 1 + 1 * ((wR mm (44 + 1 + 1 * (mm.1 41 5).toNatClampNeg) (va_cpy (mm.1 (a1 + 1)) (mm.1 (44 + 1 + 1 * (mm.1 41 5).toNatClampNeg)) 0 0 16)).1 41 5).toNatClampNeg) (va_cpy ((wR mm (44 + 1 + 1 * (mm.1 41 5).toNatClampNeg) (va_cpy (mm.1 (a1 + 1)) (mm.1 (44 + 1 + 1 * (mm.1 41 5).toNatClampNeg)) 0 0 16)).1 (a1 + 3)) ((wR mm (44 + 1 + 1 * (mm.1 41 5).toNatClampNeg) (va_cpy (mm.1 (a1 + 1)) (mm.1 (44 + 1 + 1 * (mm.1 41 5).toNatClampNeg)) 0 0 16)).1 (65 + 1 + 1 * ((wR mm (44 + 1 + 1 * (mm.1 41 5).toNatClampNeg) (va_cpy (mm.1 (a1 + 1)) (mm.1 (44 + 1 + 1 * (mm.1 41 5).toNatClampNeg)) 0 0 16)).1 41 5).toNatClampNeg)) 0 0 8)) 41 5 (((wR (wR mm (44 + 1 + 1 * (mm.1 41 5).toNatClampNeg) (va_cpy (mm.1 (a1 + 1)) (mm.1 (44 + 1 + 1 * (mm.1 41 5).toNatClampNeg)) 0 0 16)) (65 + 1 + 1 * ((wR mm (44 + 1 + 1 * (mm.1 41 5).toNatClampNeg) (va_cpy (mm.1 (a1 + 1)) (mm.1 (44 + 1 + 1 * (mm.1 41 5).toNatClampNeg)) 0 0 16)).1 41 5).toNatClampNeg) (va_cpy ((wR mm (44 + 1 + 1 * (mm.1 41 5).toNatClampNeg) (va_cpy (mm.1 (a1 + 1)) (mm.1 (44 + 1 + 1 * (mm.1 41 5).toNatClampNeg)) 0 0 16)).1 (a1 + 3)) ((wR mm (44 + 1 + 1 * (mm.1 41 5).toNatClampNeg) (va_cpy (mm.1 (a1 + 1)) (mm.1 (44 + 1 + 1 * (mm.1 41 5).toNatClampNeg)) 0 0 16)).1 (65 + 1 + 1 * ((wR mm (44 + 1 + 1 * (mm.1 41 5).toNatClampNeg) (va_cpy (mm.1 (a1 + 1)) (mm.1 (44 + 1 + 1 * (mm.1 41 5).toNatClampNeg)) 0 0 16)).1 41 5).toNatClampNeg)) 0 0 8)).1 41 5) + (1 : Int32))).1 41 4) + (1 : Int32)))).1 42) ((wI (wI (wR (wR mm (44 + 1 + 1 * (mm.1 41 5).toNatClampNeg) (va_cpy (mm.1 (a1 + 1)) (mm.1 (44 + 1 + 1 * (mm.1 41 5).toNatClampNeg)) 0 0 16)) (65 + 1 + 1 * ((wR mm (44 + 1 + 1 * (mm.1 41 5).toNatClampNeg) (va_cpy (mm.1 (a1 + 1)) (mm.1 (44 + 1 + 1 * (mm.1 41 5).toNatClampNeg)) 0 0 16)).1 41 5).toNatClampNeg) (va_cpy ((wR mm (44 + 1 + 1 * (mm.1 41 5).toNatClampNeg) (va_cpy (mm.1 (a1 + 1)) (mm.1 (44 + 1 + 1 * (mm.1 41 5).toNatClampNeg)) 0 0 16)).1 (a1 + 3)) ((wR mm (44 + 1 + 1 * (mm.1 41 5).toNatClampNeg) (va_cpy (mm.1 (a1 + 1)) (mm.1 (44 + 1 + 1 * (mm.1 41 5).toNatClampNeg)) 0 0 16)).1 (65 + 1 + 1 * ((wR mm (44 + 1 + 1 * (mm.1 41 5).toNatClampNeg) (va_cpy (mm.1 (a1 + 1)) (mm.1 (44 + 1 + 1 * (mm.1 41 5).toNatClampNeg)) 0 0 16)).1 41 5).toNatClampNeg)) 0 0 8)) 41 5 (((wR (wR mm (44 + 1 + 1 * (mm.1 41 5).toNatClampNeg) (va_cpy (mm.1 (a1 + 1)) (mm.1 (44 + 1 + 1 * (mm.1 41 5).toNatClampNeg)) 0 0 16)) (65 + 1 + 1 * ((wR mm (44 + 1 + 1 * (mm.1 41 5).toNatClampNeg) (va_cpy (mm.1 (a1 + 1)) (mm.1 (44 + 1 + 1 * (mm.1 41 5).toNatClampNeg)) 0 0 16)).1 41 5).toNatClampNeg) (va_cpy ((wR mm (44 + 1 + 1 * (mm.1 41 5).toNatClampNeg) (va_cpy (mm.1 (a1 + 1)) (mm.1 (44 + 1 + 1 * (mm.1 41 5).toNatClampNeg)) 0 0 16)).1 (a1 + 3)) ((wR mm (44 + 1 + 1 * (mm.1 41 5).toNatClampNeg) (va_cpy (mm.1 (a1 + 1)) (mm.1 (44 + 1 + 1 * (mm.1 41 5).toNatClampNeg)) 0 0 16)).1 (65 + 1 + 1 * ((wR mm (44 + 1 + 1 * (mm.1 41 5).toNatClampNeg) (va_cpy (mm.1 (a1 + 1)) (mm.1 (44 + 1 + 1 * (mm.1 41 5).toNatClampNeg)) 0 0 16)).1 41 5).toNatClampNeg)) 0 0 8)).1 41 5) + (1 : Int32))) 41 4 (imin (20 : Int32) (((wI (wR (wR mm (44 + 1 + 1 * (mm.1 41 5).toNatClampNeg) (va_cpy (mm.1 (a1 + 1)) (mm.1 (44 + 1 + 1 * (mm.1 41 5).toNatClampNeg)) 0 0 16)) (65 + 1 + 1 * ((wR mm (44 + 1 + 1 * (mm.1 41 5).toNatClampNeg) (va_cpy (mm.1 (a1 + 1)) (mm.1 (44 + 1 + 1 * (mm.1 41 5).toNatClampNeg)) 0 0 16)).1 41 5).toNatClampNeg) (va_cpy ((wR mm (44 + 1 + 1 * (mm.1 41 5).toNatClampNeg) (va_cpy (mm.1 (a1 + 1)) (mm.1 (44 + 1 + 1 * (mm.1 41 5).toNatClampNeg)) 0 0 16)).1 (a1 + 3)) ((wR mm (44 + 1 + 1 * (mm.1 41 5).toNatClampNeg) (va_cpy (mm.1 (a1 + 1)) (mm.1 (44 + 1 + 1 * (mm.1 41 5).toNatClampNeg)) 0 0 16)).1 (65 + 1 + 1 * ((wR mm (44 + 1 + 1 * (mm.1 41 5).toNatClampNeg) (va_cpy (mm.1 (a1 + 1)) (mm.1 (44 + 1 + 1 * (mm.1 41 5).toNatClampNeg)) 0 0 16)).1 41 5).toNatClampNeg)) 0 0 8)) 41 5 (((wR (wR mm (44 + 1 + 1 * (mm.1 41 5).toNatClampNeg) (va_cpy (mm.1 (a1 + 1)) (mm.1 (44 + 1 + 1 * (mm.1 41 5).toNatClampNeg)) 0 0 16)) (65 + 1 + 1 * ((wR mm (44 + 1 + 1 * (mm.1 41 5).toNatClampNeg) (va_cpy (mm.1 (a1 + 1)) (mm.1 (44 + 1 + 1 * (mm.1 41 5).toNatClampNeg)) 0 0 16)).1 41 5).toNatClampNeg) (va_cpy ((wR mm (44 + 1 + 1 * (mm.1 41 5).toNatClampNeg) (va_cpy (mm.1 (a1 + 1)) (mm.1 (44 + 1 + 1 * (mm.1 41 5).toNatClampNeg)) 0 0 16)).1 (a1 + 3)) ((wR mm (44 + 1 + 1 * (mm.1 41 5).toNatClampNeg) (va_cpy (mm.1 (a1 + 1)) (mm.1 (44 + 1 + 1 * (mm.1 41 5).toNatClampNeg)) 0 0 16)).1 (65 + 1 + 1 * ((wR mm (44 + 1 + 1 * (mm.1 41 5).toNatClampNeg) (va_cpy (mm.1 (a1 + 1)) (mm.1 (44 + 1 + 1 * (mm.1 41 5).toNatClampNeg)) 0 0 16)).1 41 5).toNatClampNeg)) 0 0 8)).1 41 5) + (1 : Int32))).1 41 4) + (1 : Int32)))).1 (a1 + 1)) 0 0 16)).1 (a1 + 3)) 0 0 8)) a1 7 (0 : Int32))))))))))) : Runs e_X9_carryOut [.ref 41, .ref a1] mm Q := by
  refine runs_of_G (L := [(0, .ref 41), (1, .ref a1)]) pl_X9 (Nat.le_of_ble_eq_true rfl) rfl ?_
  refine g_aload_n (pc := 0) (x := 41) dX9_carryOut_0 rfl ?_
  refine g_getI (pc := 1) dX9_carryOut_1 fo_X9_30 sh_41 rfl ?_
  refine g_if_lt (pc := 4) (tgt := 56) dX9_carryOut_4 (by decide) (fun c4 => ?_) (fun c4 => ?_)
  · have h := h.1 c4
    refine g_aload_n (pc := 56) (x := 41) dX9_carryOut_56 rfl ?_
    refine g_aload_n (pc := 57) (x := 41) dX9_carryOut_57 rfl ?_
    refine g_getI (pc := 58) dX9_carryOut_58 fo_X9_30 sh_41 rfl ?_
    refine g_iconst (pc := 61) (v := (1 : Int32)) dX9_carryOut_61 (by decide) ?_
    refine g_iadd (pc := 62) dX9_carryOut_62 ?_
    refine g_bipush (pc := 63) (v := (20 : Int32)) dX9_carryOut_63 (by decide) ?_
    refine g_icmp_ge (pc := 65) (tgt := 77) dX9_carryOut_65 (by decide) (fun c65 => ?_) (fun c65 => ?_)
    · have h := h.1 c65
      refine g_iconst (pc := 77) (v := (0 : Int32)) dX9_carryOut_77 (by decide) ?_
      refine g_putI (pc := 78) dX9_carryOut_78 fo_X9_30 sh_41 rfl rfl rfl ?_
      refine g_aload_n (pc := 81) (x := 41) dX9_carryOut_81 rfl ?_
      refine g_bipush (pc := 82) (v := (20 : Int32)) dX9_carryOut_82 (by decide) ?_
      refine g_aload_n (pc := 84) (x := 41) dX9_carryOut_84 rfl ?_
      refine g_getI (pc := 85) dX9_carryOut_85 fo_X9_26 sh_41 rfl ?_
      refine g_iconst (pc := 88) (v := (1 : Int32)) dX9_carryOut_88 (by decide) ?_
      refine g_iadd (pc := 89) dX9_carryOut_89 ?_
      refine g_mmin (pc := 90) dX9_carryOut_90 cw_X9_115 (by decide) (Nat.le_of_ble_eq_true rfl) ?_
      refine g_putI (pc := 93) dX9_carryOut_93 fo_X9_26 sh_41 rfl rfl rfl ?_
      refine g_aload_n (pc := 96) (x := 41) dX9_carryOut_96 rfl ?_
      refine g_getR (pc := 97) (dd := 1) dX9_carryOut_97 fo_X9_9 sh_41 rfl ?_
      refine g_iconst (pc := 100) (v := (0 : Int32)) dX9_carryOut_100 (by decide) ?_
      refine g_aload_n (pc := 101) (x := a1) dX9_carryOut_101 rfl ?_
      refine g_getR (pc := 102) (dd := 1) dX9_carryOut_102 fo_X9_36 (AtState_0 h1) rfl ?_
      refine g_iconst (pc := 105) (v := (0 : Int32)) dX9_carryOut_105 (by decide) ?_
      refine g_bipush (pc := 106) (v := (16 : Int32)) dX9_carryOut_106 (by decide) ?_
      refine g_copyI (pc := 108) dX9_carryOut_108 cw_X9_39 (by decide) (Nat.le_of_ble_eq_true rfl) sh_42 (AtState_1 h1) (by decide) (by decide) (by decide) (by decide) (by decide) ?_
      refine g_aload_n (pc := 111) (x := 41) dX9_carryOut_111 rfl ?_
      refine g_getR (pc := 112) (dd := 2) dX9_carryOut_112 fo_X9_15 sh_41 rfl ?_
      refine g_iconst (pc := 115) (v := (0 : Int32)) dX9_carryOut_115 (by decide) ?_
      refine g_aload_n (pc := 116) (x := a1) dX9_carryOut_116 rfl ?_
      refine g_getR (pc := 117) (dd := 3) dX9_carryOut_117 fo_X9_45 (AtState_0 h1) rfl ?_
      refine g_iconst (pc := 120) (v := (0 : Int32)) dX9_carryOut_120 (by decide) ?_
      refine g_bipush (pc := 121) (v := (8 : Int32)) dX9_carryOut_121 (by decide) ?_
      refine g_copyI (pc := 123) dX9_carryOut_123 cw_X9_39 (by decide) (Nat.le_of_ble_eq_true rfl) sh_43 (AtState_3 h1) (by decide) (by decide) (by decide) (by decide) (by decide) ?_
      refine g_aload_n (pc := 126) (x := a1) dX9_carryOut_126 rfl ?_
      refine g_iconst (pc := 127) (v := (0 : Int32)) dX9_carryOut_127 (by decide) ?_
      refine g_putI (pc := 128) dX9_carryOut_128 fo_X9_59 (AtState_0 h1) rfl rfl rfl ?_
      exact g_vret (pc := 131) dX9_carryOut_131 rfl rfl h
    · have h := h.2 c65
      refine g_aload_n (pc := 68) (x := 41) dX9_carryOut_68 rfl ?_
      refine g_getI (pc := 69) dX9_carryOut_69 fo_X9_30 sh_41 rfl ?_
      refine g_iconst (pc := 72) (v := (1 : Int32)) dX9_carryOut_72 (by decide) ?_
      refine g_iadd (pc := 73) dX9_carryOut_73 ?_
      refine g_goto (pc := 74) (tgt := 78) dX9_carryOut_74 (by decide) ?_
      refine g_putI (pc := 78) dX9_carryOut_78 fo_X9_30 sh_41 rfl rfl rfl ?_
      refine g_aload_n (pc := 81) (x := 41) dX9_carryOut_81 rfl ?_
      refine g_bipush (pc := 82) (v := (20 : Int32)) dX9_carryOut_82 (by decide) ?_
      refine g_aload_n (pc := 84) (x := 41) dX9_carryOut_84 rfl ?_
      refine g_getI (pc := 85) dX9_carryOut_85 fo_X9_26 sh_41 rfl ?_
      refine g_iconst (pc := 88) (v := (1 : Int32)) dX9_carryOut_88 (by decide) ?_
      refine g_iadd (pc := 89) dX9_carryOut_89 ?_
      refine g_mmin (pc := 90) dX9_carryOut_90 cw_X9_115 (by decide) (Nat.le_of_ble_eq_true rfl) ?_
      refine g_putI (pc := 93) dX9_carryOut_93 fo_X9_26 sh_41 rfl rfl rfl ?_
      refine g_aload_n (pc := 96) (x := 41) dX9_carryOut_96 rfl ?_
      refine g_getR (pc := 97) (dd := 1) dX9_carryOut_97 fo_X9_9 sh_41 rfl ?_
      refine g_iconst (pc := 100) (v := (0 : Int32)) dX9_carryOut_100 (by decide) ?_
      refine g_aload_n (pc := 101) (x := a1) dX9_carryOut_101 rfl ?_
      refine g_getR (pc := 102) (dd := 1) dX9_carryOut_102 fo_X9_36 (AtState_0 h1) rfl ?_
      refine g_iconst (pc := 105) (v := (0 : Int32)) dX9_carryOut_105 (by decide) ?_
      refine g_bipush (pc := 106) (v := (16 : Int32)) dX9_carryOut_106 (by decide) ?_
      refine g_copyI (pc := 108) dX9_carryOut_108 cw_X9_39 (by decide) (Nat.le_of_ble_eq_true rfl) sh_42 (AtState_1 h1) (by decide) (by decide) (by decide) (by decide) (by decide) ?_
      refine g_aload_n (pc := 111) (x := 41) dX9_carryOut_111 rfl ?_
      refine g_getR (pc := 112) (dd := 2) dX9_carryOut_112 fo_X9_15 sh_41 rfl ?_
      refine g_iconst (pc := 115) (v := (0 : Int32)) dX9_carryOut_115 (by decide) ?_
      refine g_aload_n (pc := 116) (x := a1) dX9_carryOut_116 rfl ?_
      refine g_getR (pc := 117) (dd := 3) dX9_carryOut_117 fo_X9_45 (AtState_0 h1) rfl ?_
      refine g_iconst (pc := 120) (v := (0 : Int32)) dX9_carryOut_120 (by decide) ?_
      refine g_bipush (pc := 121) (v := (8 : Int32)) dX9_carryOut_121 (by decide) ?_
      refine g_copyI (pc := 123) dX9_carryOut_123 cw_X9_39 (by decide) (Nat.le_of_ble_eq_true rfl) sh_43 (AtState_3 h1) (by decide) (by decide) (by decide) (by decide) (by decide) ?_
      refine g_aload_n (pc := 126) (x := a1) dX9_carryOut_126 rfl ?_
      refine g_iconst (pc := 127) (v := (0 : Int32)) dX9_carryOut_127 (by decide) ?_
      refine g_putI (pc := 128) dX9_carryOut_128 fo_X9_59 (AtState_0 h1) rfl rfl rfl ?_
      exact g_vret (pc := 131) dX9_carryOut_131 rfl rfl h
  · have h := h.2 c4
    refine g_aload_n (pc := 7) (x := 41) dX9_carryOut_7 rfl ?_
    refine g_getI (pc := 8) dX9_carryOut_8 fo_X9_30 sh_41 rfl ?_
    refine g_bipush (pc := 11) (v := (20 : Int32)) dX9_carryOut_11 (by decide) ?_
    refine g_icmp_ge (pc := 13) (tgt := 56) dX9_carryOut_13 (by decide) (fun c13 => ?_) (fun c13 => ?_)
    · have h := h.1 c13
      refine g_aload_n (pc := 56) (x := 41) dX9_carryOut_56 rfl ?_
      refine g_aload_n (pc := 57) (x := 41) dX9_carryOut_57 rfl ?_
      refine g_getI (pc := 58) dX9_carryOut_58 fo_X9_30 sh_41 rfl ?_
      refine g_iconst (pc := 61) (v := (1 : Int32)) dX9_carryOut_61 (by decide) ?_
      refine g_iadd (pc := 62) dX9_carryOut_62 ?_
      refine g_bipush (pc := 63) (v := (20 : Int32)) dX9_carryOut_63 (by decide) ?_
      refine g_icmp_ge (pc := 65) (tgt := 77) dX9_carryOut_65 (by decide) (fun c65 => ?_) (fun c65 => ?_)
      · have h := h.1 c65
        refine g_iconst (pc := 77) (v := (0 : Int32)) dX9_carryOut_77 (by decide) ?_
        refine g_putI (pc := 78) dX9_carryOut_78 fo_X9_30 sh_41 rfl rfl rfl ?_
        refine g_aload_n (pc := 81) (x := 41) dX9_carryOut_81 rfl ?_
        refine g_bipush (pc := 82) (v := (20 : Int32)) dX9_carryOut_82 (by decide) ?_
        refine g_aload_n (pc := 84) (x := 41) dX9_carryOut_84 rfl ?_
        refine g_getI (pc := 85) dX9_carryOut_85 fo_X9_26 sh_41 rfl ?_
        refine g_iconst (pc := 88) (v := (1 : Int32)) dX9_carryOut_88 (by decide) ?_
        refine g_iadd (pc := 89) dX9_carryOut_89 ?_
        refine g_mmin (pc := 90) dX9_carryOut_90 cw_X9_115 (by decide) (Nat.le_of_ble_eq_true rfl) ?_
        refine g_putI (pc := 93) dX9_carryOut_93 fo_X9_26 sh_41 rfl rfl rfl ?_
        refine g_aload_n (pc := 96) (x := 41) dX9_carryOut_96 rfl ?_
        refine g_getR (pc := 97) (dd := 1) dX9_carryOut_97 fo_X9_9 sh_41 rfl ?_
        refine g_iconst (pc := 100) (v := (0 : Int32)) dX9_carryOut_100 (by decide) ?_
        refine g_aload_n (pc := 101) (x := a1) dX9_carryOut_101 rfl ?_
        refine g_getR (pc := 102) (dd := 1) dX9_carryOut_102 fo_X9_36 (AtState_0 h1) rfl ?_
        refine g_iconst (pc := 105) (v := (0 : Int32)) dX9_carryOut_105 (by decide) ?_
        refine g_bipush (pc := 106) (v := (16 : Int32)) dX9_carryOut_106 (by decide) ?_
        refine g_copyI (pc := 108) dX9_carryOut_108 cw_X9_39 (by decide) (Nat.le_of_ble_eq_true rfl) sh_42 (AtState_1 h1) (by decide) (by decide) (by decide) (by decide) (by decide) ?_
        refine g_aload_n (pc := 111) (x := 41) dX9_carryOut_111 rfl ?_
        refine g_getR (pc := 112) (dd := 2) dX9_carryOut_112 fo_X9_15 sh_41 rfl ?_
        refine g_iconst (pc := 115) (v := (0 : Int32)) dX9_carryOut_115 (by decide) ?_
        refine g_aload_n (pc := 116) (x := a1) dX9_carryOut_116 rfl ?_
        refine g_getR (pc := 117) (dd := 3) dX9_carryOut_117 fo_X9_45 (AtState_0 h1) rfl ?_
        refine g_iconst (pc := 120) (v := (0 : Int32)) dX9_carryOut_120 (by decide) ?_
        refine g_bipush (pc := 121) (v := (8 : Int32)) dX9_carryOut_121 (by decide) ?_
        refine g_copyI (pc := 123) dX9_carryOut_123 cw_X9_39 (by decide) (Nat.le_of_ble_eq_true rfl) sh_43 (AtState_3 h1) (by decide) (by decide) (by decide) (by decide) (by decide) ?_
        refine g_aload_n (pc := 126) (x := a1) dX9_carryOut_126 rfl ?_
        refine g_iconst (pc := 127) (v := (0 : Int32)) dX9_carryOut_127 (by decide) ?_
        refine g_putI (pc := 128) dX9_carryOut_128 fo_X9_59 (AtState_0 h1) rfl rfl rfl ?_
        exact g_vret (pc := 131) dX9_carryOut_131 rfl rfl h
      · have h := h.2 c65
        refine g_aload_n (pc := 68) (x := 41) dX9_carryOut_68 rfl ?_
        refine g_getI (pc := 69) dX9_carryOut_69 fo_X9_30 sh_41 rfl ?_
        refine g_iconst (pc := 72) (v := (1 : Int32)) dX9_carryOut_72 (by decide) ?_
        refine g_iadd (pc := 73) dX9_carryOut_73 ?_
        refine g_goto (pc := 74) (tgt := 78) dX9_carryOut_74 (by decide) ?_
        refine g_putI (pc := 78) dX9_carryOut_78 fo_X9_30 sh_41 rfl rfl rfl ?_
        refine g_aload_n (pc := 81) (x := 41) dX9_carryOut_81 rfl ?_
        refine g_bipush (pc := 82) (v := (20 : Int32)) dX9_carryOut_82 (by decide) ?_
        refine g_aload_n (pc := 84) (x := 41) dX9_carryOut_84 rfl ?_
        refine g_getI (pc := 85) dX9_carryOut_85 fo_X9_26 sh_41 rfl ?_
        refine g_iconst (pc := 88) (v := (1 : Int32)) dX9_carryOut_88 (by decide) ?_
        refine g_iadd (pc := 89) dX9_carryOut_89 ?_
        refine g_mmin (pc := 90) dX9_carryOut_90 cw_X9_115 (by decide) (Nat.le_of_ble_eq_true rfl) ?_
        refine g_putI (pc := 93) dX9_carryOut_93 fo_X9_26 sh_41 rfl rfl rfl ?_
        refine g_aload_n (pc := 96) (x := 41) dX9_carryOut_96 rfl ?_
        refine g_getR (pc := 97) (dd := 1) dX9_carryOut_97 fo_X9_9 sh_41 rfl ?_
        refine g_iconst (pc := 100) (v := (0 : Int32)) dX9_carryOut_100 (by decide) ?_
        refine g_aload_n (pc := 101) (x := a1) dX9_carryOut_101 rfl ?_
        refine g_getR (pc := 102) (dd := 1) dX9_carryOut_102 fo_X9_36 (AtState_0 h1) rfl ?_
        refine g_iconst (pc := 105) (v := (0 : Int32)) dX9_carryOut_105 (by decide) ?_
        refine g_bipush (pc := 106) (v := (16 : Int32)) dX9_carryOut_106 (by decide) ?_
        refine g_copyI (pc := 108) dX9_carryOut_108 cw_X9_39 (by decide) (Nat.le_of_ble_eq_true rfl) sh_42 (AtState_1 h1) (by decide) (by decide) (by decide) (by decide) (by decide) ?_
        refine g_aload_n (pc := 111) (x := 41) dX9_carryOut_111 rfl ?_
        refine g_getR (pc := 112) (dd := 2) dX9_carryOut_112 fo_X9_15 sh_41 rfl ?_
        refine g_iconst (pc := 115) (v := (0 : Int32)) dX9_carryOut_115 (by decide) ?_
        refine g_aload_n (pc := 116) (x := a1) dX9_carryOut_116 rfl ?_
        refine g_getR (pc := 117) (dd := 3) dX9_carryOut_117 fo_X9_45 (AtState_0 h1) rfl ?_
        refine g_iconst (pc := 120) (v := (0 : Int32)) dX9_carryOut_120 (by decide) ?_
        refine g_bipush (pc := 121) (v := (8 : Int32)) dX9_carryOut_121 (by decide) ?_
        refine g_copyI (pc := 123) dX9_carryOut_123 cw_X9_39 (by decide) (Nat.le_of_ble_eq_true rfl) sh_43 (AtState_3 h1) (by decide) (by decide) (by decide) (by decide) (by decide) ?_
        refine g_aload_n (pc := 126) (x := a1) dX9_carryOut_126 rfl ?_
        refine g_iconst (pc := 127) (v := (0 : Int32)) dX9_carryOut_127 (by decide) ?_
        refine g_putI (pc := 128) dX9_carryOut_128 fo_X9_59 (AtState_0 h1) rfl rfl rfl ?_
        exact g_vret (pc := 131) dX9_carryOut_131 rfl rfl h
    · have h := h.2 c13
      refine g_aload_n (pc := 16) (x := a1) dX9_carryOut_16 rfl ?_
      refine g_getR (pc := 17) (dd := 1) dX9_carryOut_17 fo_X9_36 (AtState_0 h1) rfl ?_
      refine g_iconst (pc := 20) (v := (0 : Int32)) dX9_carryOut_20 (by decide) ?_
      refine g_aload_n (pc := 21) (x := 41) dX9_carryOut_21 rfl ?_
      refine g_getR (pc := 22) (dd := 3) dX9_carryOut_22 fo_X9_20 sh_41 rfl ?_
      refine g_aload_n (pc := 25) (x := 41) dX9_carryOut_25 rfl ?_
      refine g_getI (pc := 26) dX9_carryOut_26 fo_X9_30 sh_41 rfl ?_
      refine g_aaload5 (pc := 29) dX9_carryOut_29 sh_44 h.1 ?_
      have hr0 := h.2.1
      have h := h.2.2
      refine g_iconst (pc := 30) (v := (0 : Int32)) dX9_carryOut_30 (by decide) ?_
      refine g_bipush (pc := 31) (v := (16 : Int32)) dX9_carryOut_31 (by decide) ?_
      refine g_copyI (pc := 33) dX9_carryOut_33 cw_X9_39 (by decide) (Nat.le_of_ble_eq_true rfl) (AtState_1 h1) hr0 (by decide) (by decide) (by decide) (by decide) (by decide) ?_
      refine g_aload_n (pc := 36) (x := a1) dX9_carryOut_36 rfl ?_
      refine g_getR (pc := 37) (dd := 3) dX9_carryOut_37 fo_X9_45 (AtState_0 h1) rfl ?_
      refine g_iconst (pc := 40) (v := (0 : Int32)) dX9_carryOut_40 (by decide) ?_
      refine g_aload_n (pc := 41) (x := 41) dX9_carryOut_41 rfl ?_
      refine g_getR (pc := 42) (dd := 24) dX9_carryOut_42 fo_X9_23 sh_41 rfl ?_
      refine g_aload_n (pc := 45) (x := 41) dX9_carryOut_45 rfl ?_
      refine g_getI (pc := 46) dX9_carryOut_46 fo_X9_30 sh_41 rfl ?_
      refine g_aaload5 (pc := 49) dX9_carryOut_49 sh_65 h.1 ?_
      have hr1 := h.2.1
      have h := h.2.2
      refine g_iconst (pc := 50) (v := (0 : Int32)) dX9_carryOut_50 (by decide) ?_
      refine g_bipush (pc := 51) (v := (8 : Int32)) dX9_carryOut_51 (by decide) ?_
      refine g_copyI (pc := 53) dX9_carryOut_53 cw_X9_39 (by decide) (Nat.le_of_ble_eq_true rfl) (AtState_3 h1) hr1 (by decide) (by decide) (by decide) (by decide) (by decide) ?_
      refine g_aload_n (pc := 56) (x := 41) dX9_carryOut_56 rfl ?_
      refine g_aload_n (pc := 57) (x := 41) dX9_carryOut_57 rfl ?_
      refine g_getI (pc := 58) dX9_carryOut_58 fo_X9_30 sh_41 rfl ?_
      refine g_iconst (pc := 61) (v := (1 : Int32)) dX9_carryOut_61 (by decide) ?_
      refine g_iadd (pc := 62) dX9_carryOut_62 ?_
      refine g_bipush (pc := 63) (v := (20 : Int32)) dX9_carryOut_63 (by decide) ?_
      refine g_icmp_ge (pc := 65) (tgt := 77) dX9_carryOut_65 (by decide) (fun c65 => ?_) (fun c65 => ?_)
      · have h := h.1 c65
        refine g_iconst (pc := 77) (v := (0 : Int32)) dX9_carryOut_77 (by decide) ?_
        refine g_putI (pc := 78) dX9_carryOut_78 fo_X9_30 sh_41 rfl rfl rfl ?_
        refine g_aload_n (pc := 81) (x := 41) dX9_carryOut_81 rfl ?_
        refine g_bipush (pc := 82) (v := (20 : Int32)) dX9_carryOut_82 (by decide) ?_
        refine g_aload_n (pc := 84) (x := 41) dX9_carryOut_84 rfl ?_
        refine g_getI (pc := 85) dX9_carryOut_85 fo_X9_26 sh_41 rfl ?_
        refine g_iconst (pc := 88) (v := (1 : Int32)) dX9_carryOut_88 (by decide) ?_
        refine g_iadd (pc := 89) dX9_carryOut_89 ?_
        refine g_mmin (pc := 90) dX9_carryOut_90 cw_X9_115 (by decide) (Nat.le_of_ble_eq_true rfl) ?_
        refine g_putI (pc := 93) dX9_carryOut_93 fo_X9_26 sh_41 rfl rfl rfl ?_
        refine g_aload_n (pc := 96) (x := 41) dX9_carryOut_96 rfl ?_
        refine g_getR (pc := 97) (dd := 1) dX9_carryOut_97 fo_X9_9 sh_41 rfl ?_
        refine g_iconst (pc := 100) (v := (0 : Int32)) dX9_carryOut_100 (by decide) ?_
        refine g_aload_n (pc := 101) (x := a1) dX9_carryOut_101 rfl ?_
        refine g_getR (pc := 102) (dd := 1) dX9_carryOut_102 fo_X9_36 (AtState_0 h1) rfl ?_
        refine g_iconst (pc := 105) (v := (0 : Int32)) dX9_carryOut_105 (by decide) ?_
        refine g_bipush (pc := 106) (v := (16 : Int32)) dX9_carryOut_106 (by decide) ?_
        refine g_copyI (pc := 108) dX9_carryOut_108 cw_X9_39 (by decide) (Nat.le_of_ble_eq_true rfl) sh_42 (AtState_1 h1) (by decide) (by decide) (by decide) (by decide) (by decide) ?_
        refine g_aload_n (pc := 111) (x := 41) dX9_carryOut_111 rfl ?_
        refine g_getR (pc := 112) (dd := 2) dX9_carryOut_112 fo_X9_15 sh_41 rfl ?_
        refine g_iconst (pc := 115) (v := (0 : Int32)) dX9_carryOut_115 (by decide) ?_
        refine g_aload_n (pc := 116) (x := a1) dX9_carryOut_116 rfl ?_
        refine g_getR (pc := 117) (dd := 3) dX9_carryOut_117 fo_X9_45 (AtState_0 h1) rfl ?_
        refine g_iconst (pc := 120) (v := (0 : Int32)) dX9_carryOut_120 (by decide) ?_
        refine g_bipush (pc := 121) (v := (8 : Int32)) dX9_carryOut_121 (by decide) ?_
        refine g_copyI (pc := 123) dX9_carryOut_123 cw_X9_39 (by decide) (Nat.le_of_ble_eq_true rfl) sh_43 (AtState_3 h1) (by decide) (by decide) (by decide) (by decide) (by decide) ?_
        refine g_aload_n (pc := 126) (x := a1) dX9_carryOut_126 rfl ?_
        refine g_iconst (pc := 127) (v := (0 : Int32)) dX9_carryOut_127 (by decide) ?_
        refine g_putI (pc := 128) dX9_carryOut_128 fo_X9_59 (AtState_0 h1) rfl rfl rfl ?_
        exact g_vret (pc := 131) dX9_carryOut_131 rfl rfl h
      · have h := h.2 c65
        refine g_aload_n (pc := 68) (x := 41) dX9_carryOut_68 rfl ?_
        refine g_getI (pc := 69) dX9_carryOut_69 fo_X9_30 sh_41 rfl ?_
        refine g_iconst (pc := 72) (v := (1 : Int32)) dX9_carryOut_72 (by decide) ?_
        refine g_iadd (pc := 73) dX9_carryOut_73 ?_
        refine g_goto (pc := 74) (tgt := 78) dX9_carryOut_74 (by decide) ?_
        refine g_putI (pc := 78) dX9_carryOut_78 fo_X9_30 sh_41 rfl rfl rfl ?_
        refine g_aload_n (pc := 81) (x := 41) dX9_carryOut_81 rfl ?_
        refine g_bipush (pc := 82) (v := (20 : Int32)) dX9_carryOut_82 (by decide) ?_
        refine g_aload_n (pc := 84) (x := 41) dX9_carryOut_84 rfl ?_
        refine g_getI (pc := 85) dX9_carryOut_85 fo_X9_26 sh_41 rfl ?_
        refine g_iconst (pc := 88) (v := (1 : Int32)) dX9_carryOut_88 (by decide) ?_
        refine g_iadd (pc := 89) dX9_carryOut_89 ?_
        refine g_mmin (pc := 90) dX9_carryOut_90 cw_X9_115 (by decide) (Nat.le_of_ble_eq_true rfl) ?_
        refine g_putI (pc := 93) dX9_carryOut_93 fo_X9_26 sh_41 rfl rfl rfl ?_
        refine g_aload_n (pc := 96) (x := 41) dX9_carryOut_96 rfl ?_
        refine g_getR (pc := 97) (dd := 1) dX9_carryOut_97 fo_X9_9 sh_41 rfl ?_
        refine g_iconst (pc := 100) (v := (0 : Int32)) dX9_carryOut_100 (by decide) ?_
        refine g_aload_n (pc := 101) (x := a1) dX9_carryOut_101 rfl ?_
        refine g_getR (pc := 102) (dd := 1) dX9_carryOut_102 fo_X9_36 (AtState_0 h1) rfl ?_
        refine g_iconst (pc := 105) (v := (0 : Int32)) dX9_carryOut_105 (by decide) ?_
        refine g_bipush (pc := 106) (v := (16 : Int32)) dX9_carryOut_106 (by decide) ?_
        refine g_copyI (pc := 108) dX9_carryOut_108 cw_X9_39 (by decide) (Nat.le_of_ble_eq_true rfl) sh_42 (AtState_1 h1) (by decide) (by decide) (by decide) (by decide) (by decide) ?_
        refine g_aload_n (pc := 111) (x := 41) dX9_carryOut_111 rfl ?_
        refine g_getR (pc := 112) (dd := 2) dX9_carryOut_112 fo_X9_15 sh_41 rfl ?_
        refine g_iconst (pc := 115) (v := (0 : Int32)) dX9_carryOut_115 (by decide) ?_
        refine g_aload_n (pc := 116) (x := a1) dX9_carryOut_116 rfl ?_
        refine g_getR (pc := 117) (dd := 3) dX9_carryOut_117 fo_X9_45 (AtState_0 h1) rfl ?_
        refine g_iconst (pc := 120) (v := (0 : Int32)) dX9_carryOut_120 (by decide) ?_
        refine g_bipush (pc := 121) (v := (8 : Int32)) dX9_carryOut_121 (by decide) ?_
        refine g_copyI (pc := 123) dX9_carryOut_123 cw_X9_39 (by decide) (Nat.le_of_ble_eq_true rfl) sh_43 (AtState_3 h1) (by decide) (by decide) (by decide) (by decide) (by decide) ?_
        refine g_aload_n (pc := 126) (x := a1) dX9_carryOut_126 rfl ?_
        refine g_iconst (pc := 127) (v := (0 : Int32)) dX9_carryOut_127 (by decide) ?_
        refine g_putI (pc := 128) dX9_carryOut_128 fo_X9_59 (AtState_0 h1) rfl rfl rfl ?_
        exact g_vret (pc := 131) dX9_carryOut_131 rfl rfl h
theorem dX9_takeBack_0 : decode cX9_takeBack 0 = .ok (.aload_n 0, 1) := by decide +kernel
theorem dX9_takeBack_1 : decode cX9_takeBack 1 = .ok (.getfield 26, 3) := by decide +kernel
theorem dX9_takeBack_4 : decode cX9_takeBack 4 = .ok (.ifCond .ne 5, 3) := by decide +kernel
theorem dX9_takeBack_7 : decode cX9_takeBack 7 = .ok (.iconst 0, 1) := by decide +kernel
theorem dX9_takeBack_8 : decode cX9_takeBack 8 = .ok (.ireturn, 1) := by decide +kernel
theorem dX9_takeBack_9 : decode cX9_takeBack 9 = .ok (.aload_n 0, 1) := by decide +kernel
theorem dX9_takeBack_10 : decode cX9_takeBack 10 = .ok (.dup, 1) := by decide +kernel
theorem dX9_takeBack_11 : decode cX9_takeBack 11 = .ok (.getfield 26, 3) := by decide +kernel
theorem dX9_takeBack_14 : decode cX9_takeBack 14 = .ok (.iconst 1, 1) := by decide +kernel
theorem dX9_takeBack_15 : decode cX9_takeBack 15 = .ok (.isub, 1) := by decide +kernel
theorem dX9_takeBack_16 : decode cX9_takeBack 16 = .ok (.putfield 26, 3) := by decide +kernel
theorem dX9_takeBack_19 : decode cX9_takeBack 19 = .ok (.aload_n 0, 1) := by decide +kernel
theorem dX9_takeBack_20 : decode cX9_takeBack 20 = .ok (.aload_n 0, 1) := by decide +kernel
theorem dX9_takeBack_21 : decode cX9_takeBack 21 = .ok (.getfield 30, 3) := by decide +kernel
theorem dX9_takeBack_24 : decode cX9_takeBack 24 = .ok (.ifCond .le 12, 3) := by decide +kernel
theorem dX9_takeBack_27 : decode cX9_takeBack 27 = .ok (.aload_n 0, 1) := by decide +kernel
theorem dX9_takeBack_28 : decode cX9_takeBack 28 = .ok (.getfield 30, 3) := by decide +kernel
theorem dX9_takeBack_31 : decode cX9_takeBack 31 = .ok (.iconst 1, 1) := by decide +kernel
theorem dX9_takeBack_32 : decode cX9_takeBack 32 = .ok (.isub, 1) := by decide +kernel
theorem dX9_takeBack_33 : decode cX9_takeBack 33 = .ok (.goto 5, 3) := by decide +kernel
theorem dX9_takeBack_36 : decode cX9_takeBack 36 = .ok (.bipush 19, 2) := by decide +kernel
theorem dX9_takeBack_38 : decode cX9_takeBack 38 = .ok (.putfield 30, 3) := by decide +kernel
theorem dX9_takeBack_41 : decode cX9_takeBack 41 = .ok (.aload_n 0, 1) := by decide +kernel
theorem dX9_takeBack_42 : decode cX9_takeBack 42 = .ok (.getfield 30, 3) := by decide +kernel
theorem dX9_takeBack_45 : decode cX9_takeBack 45 = .ok (.ifCond .lt 52, 3) := by decide +kernel
theorem dX9_takeBack_48 : decode cX9_takeBack 48 = .ok (.aload_n 0, 1) := by decide +kernel
theorem dX9_takeBack_49 : decode cX9_takeBack 49 = .ok (.getfield 30, 3) := by decide +kernel
theorem dX9_takeBack_52 : decode cX9_takeBack 52 = .ok (.bipush 20, 2) := by decide +kernel
theorem dX9_takeBack_54 : decode cX9_takeBack 54 = .ok (.if_icmp .ge 43, 3) := by decide +kernel
theorem dX9_takeBack_57 : decode cX9_takeBack 57 = .ok (.aload_n 0, 1) := by decide +kernel
theorem dX9_takeBack_58 : decode cX9_takeBack 58 = .ok (.getfield 20, 3) := by decide +kernel
theorem dX9_takeBack_61 : decode cX9_takeBack 61 = .ok (.aload_n 0, 1) := by decide +kernel
theorem dX9_takeBack_62 : decode cX9_takeBack 62 = .ok (.getfield 30, 3) := by decide +kernel
theorem dX9_takeBack_65 : decode cX9_takeBack 65 = .ok (.aaload, 1) := by decide +kernel
theorem dX9_takeBack_66 : decode cX9_takeBack 66 = .ok (.iconst 0, 1) := by decide +kernel
theorem dX9_takeBack_67 : decode cX9_takeBack 67 = .ok (.aload_n 1, 1) := by decide +kernel
theorem dX9_takeBack_68 : decode cX9_takeBack 68 = .ok (.getfield 36, 3) := by decide +kernel
theorem dX9_takeBack_71 : decode cX9_takeBack 71 = .ok (.iconst 0, 1) := by decide +kernel
theorem dX9_takeBack_72 : decode cX9_takeBack 72 = .ok (.bipush 16, 2) := by decide +kernel
theorem dX9_takeBack_74 : decode cX9_takeBack 74 = .ok (.invokestatic 39, 3) := by decide +kernel
theorem dX9_takeBack_77 : decode cX9_takeBack 77 = .ok (.aload_n 0, 1) := by decide +kernel
theorem dX9_takeBack_78 : decode cX9_takeBack 78 = .ok (.getfield 23, 3) := by decide +kernel
theorem dX9_takeBack_81 : decode cX9_takeBack 81 = .ok (.aload_n 0, 1) := by decide +kernel
theorem dX9_takeBack_82 : decode cX9_takeBack 82 = .ok (.getfield 30, 3) := by decide +kernel
theorem dX9_takeBack_85 : decode cX9_takeBack 85 = .ok (.aaload, 1) := by decide +kernel
theorem dX9_takeBack_86 : decode cX9_takeBack 86 = .ok (.iconst 0, 1) := by decide +kernel
theorem dX9_takeBack_87 : decode cX9_takeBack 87 = .ok (.aload_n 1, 1) := by decide +kernel
theorem dX9_takeBack_88 : decode cX9_takeBack 88 = .ok (.getfield 45, 3) := by decide +kernel
theorem dX9_takeBack_91 : decode cX9_takeBack 91 = .ok (.iconst 0, 1) := by decide +kernel
theorem dX9_takeBack_92 : decode cX9_takeBack 92 = .ok (.bipush 8, 2) := by decide +kernel
theorem dX9_takeBack_94 : decode cX9_takeBack 94 = .ok (.invokestatic 39, 3) := by decide +kernel
theorem dX9_takeBack_97 : decode cX9_takeBack 97 = .ok (.iconst 1, 1) := by decide +kernel
theorem dX9_takeBack_98 : decode cX9_takeBack 98 = .ok (.ireturn, 1) := by decide +kernel
theorem b_X9_takeBack (mm : MM) (Q : Value → MM → Prop) (a1 : Nat) (h1 : AtState a1) (h : (¬ (mm.1 41 4) = 0 → ((((wI mm 41 4 ((mm.1 41 4) - (1 : Int32))).1 41 5) ≤ 0 → ((((wI (wI mm 41 4 ((mm.1 41 4) - (1 : Int32))) 41 5 (19 : Int32)).1 41 5) < 0 → (Q (.int (1 : Int32)) (wI (wI mm 41 4 ((mm.1 41 4) - (1 : Int32))) 41 5 (19 : Int32)))) ∧ (¬ ((wI (wI mm 41 4 ((mm.1 41 4) - (1 : Int32))) 41 5 (19 : Int32)).1 41 5) < 0 → (((20 : Int32) ≤ ((wI (wI mm 41 4 ((mm.1 41 4) - (1 : Int32))) 41 5 (19 : Int32)).1 41 5) → (Q (.int (1 : Int32)) (wI (wI mm 41 4 ((mm.1 41 4) - (1 : Int32))) 41 5 (19 : Int32)))) ∧ (¬ (20 : Int32) ≤ ((wI (wI mm 41 4 ((mm.1 41 4) - (1 : Int32))) 41 5 (19 : Int32)).1 41 5) → (vp_in ((wI (wI mm 41 4 ((mm.1 41 4) - (1 : Int32))) 41 5 (19 : Int32)).1 41 5) 20 ∧ (SHL[44 + 1 + 1 * ((wI (wI mm 41 4 ((mm.1 41 4) - (1 : Int32))) 41 5 (19 : Int32)).1 41 5).toNatClampNeg]? = some (.inl (0, 16, 0, 0))) ∧ (vp_in ((wR (wI (wI mm 41 4 ((mm.1 41 4) - (1 : Int32))) 41 5 (19 : Int32)) (a1 + 1) (va_cpy ((wI (wI mm 41 4 ((mm.1 41 4) - (1 : Int32))) 41 5 (19 : Int32)).1 (44 + 1 + 1 * ((wI (wI mm 41 4 ((mm.1 41 4) - (1 : Int32))) 41 5 (19 : Int32)).1 41 5).toNatClampNeg)) ((wI (wI mm 41 4 ((mm.1 41 4) - (1 : Int32))) 41 5 (19 : Int32)).1 (a1 + 1)) 0 0 16)).1 41 5) 20 ∧ (SHL[65 + 1 + 1 * ((wR (wI (wI mm 41 4 ((mm.1 41 4) - (1 : Int32))) 41 5 (19 : Int32)) (a1 + 1) (va_cpy ((wI (wI mm 41 4 ((mm.1 41 4) - (1 : Int32))) 41 5 (19 : Int32)).1 (44 + 1 + 1 * ((wI (wI mm 41 4 ((mm.1 41 4) - (1 : Int32))) 41 5 (19 : Int32)).1 41 5).toNatClampNeg)) ((wI (wI mm 41 4 ((mm.1 41 4) - (1 : Int32))) 41 5 (19 : Int32)).1 (a1 + 1)) 0 0 16)).1 41 5).toNatClampNeg]? = some (.inl (0, 8, 0, 0))) ∧ (Q (.int (1 : Int32)) (wR (wR (wI (wI mm 41 4 ((mm.1 41 4) - (1 : Int32))) 41 5 (19 : Int32)) (a1 + 1) (va_cpy ((wI (wI mm 41 4 ((mm.1 41 4) - (1 : Int32))) 41 5 (19 : Int32)).1 (44 + 1 + 1 * ((wI (wI mm 41 4 ((mm.1 41 4) - (1 : Int32))) 41 5 (19 : Int32)).1 41 5).toNatClampNeg)) ((wI (wI mm 41 4 ((mm.1 41 4) - (1 : Int32))) 41 5 (19 : Int32)).1 (a1 + 1)) 0 0 16)) (a1 + 3) (va_cpy ((wR (wI (wI mm 41 4 ((mm.1 41 4) - (1 : Int32))) 41 5 (19 : Int32)) (a1 + 1) (va_cpy ((wI (wI mm 41 4 ((mm.1 41 4) - (1 : Int32))) 41 5 (19 : Int32)).1 (44 + 1 + 1 * ((wI (wI mm 41 4 ((mm.1 41 4) - (1 : Int32))) 41 5 (19 : Int32)).1 41 5).toNatClampNeg)) ((wI (wI mm 41 4 ((mm.1 41 4) - (1 : Int32))) 41 5 (19 : Int32)).1 (a1 + 1)) 0 0 16)).1 (65 + 1 + 1 * ((wR (wI (wI mm 41 4 ((mm.1 41 4) - (1 : Int32))) 41 5 (19 : Int32)) (a1 + 1) (va_cpy ((wI (wI mm 41 4 ((mm.1 41 4) - (1 : Int32))) 41 5 (19 : Int32)).1 (44 + 1 + 1 * ((wI (wI mm 41 4 ((mm.1 41 4) - (1 : Int32))) 41 5 (19 : Int32)).1 41 5).toNatClampNeg)) ((wI (wI mm 41 4 ((mm.1 41 4) - (1 : Int32))) 41 5 (19 : Int32)).1 (a1 + 1)) 0 0 16)).1 41 5).toNatClampNeg)) ((wR (wI (wI mm 41 4 ((mm.1 41 4) - (1 : Int32))) 41 5 (19 : Int32)) (a1 + 1) (va_cpy ((wI (wI mm 41 4 ((mm.1 41 4) - (1 : Int32))) 41 5 (19 : Int32)).1 (44 + 1 + 1 * ((wI (wI mm 41 4 ((mm.1 41 4) - (1 : Int32))) 41 5 (19 : Int32)).1 41 5).toNatClampNeg)) ((wI (wI mm 41 4 ((mm.1 41 4) - (1 : Int32))) 41 5 (19 : Int32)).1 (a1 + 1)) 0 0 16)).1 (a1 + 3)) 0 0 8)))))))))) ∧ (¬ ((wI mm 41 4 ((mm.1 41 4) - (1 : Int32))).1 41 5) ≤ 0 → ((((wI (wI mm 41 4 ((mm.1 41 4) - (1 : Int32))) 41 5 (((wI mm 41 4 ((mm.1 41 4) - (1 : Int32))).1 41 5) - (1 : Int32))).1 41 5) < 0 → (Q (.int (1 : Int32)) (wI (wI mm 41 4 ((mm.1 41 4) - (1 : Int32))) 41 5 (((wI mm 41 4 ((mm.1 41 4) - (1 : Int32))).1 41 5) - (1 : Int32))))) ∧ (¬ ((wI (wI mm 41 4 ((mm.1 41 4) - (1 : Int32))) 41 5 (((wI mm 41 4 ((mm.1 41 4) - (1 : Int32))).1 41 5) - (1 : Int32))).1 41 5) < 0 → (((20 : Int32) ≤ ((wI (wI mm 41 4 ((mm.1 41 4) - (1 : Int32))) 41 5 (((wI mm 41 4 ((mm.1 41 4) - (1 : Int32))).1 41 5) - (1 : Int32))).1 41 5) → (Q (.int (1 : Int32)) (wI (wI mm 41 4 ((mm.1 41 4) - (1 : Int32))) 41 5 (((wI mm 41 4 ((mm.1 41 4) - (1 : Int32))).1 41 5) - (1 : Int32))))) ∧ (¬ (20 : Int32) ≤ ((wI (wI mm 41 4 ((mm.1 41 4) - (1 : Int32))) 41 5 (((wI mm 41 4 ((mm.1 41 4) - (1 : Int32))).1 41 5) - (1 : Int32))).1 41 5) → (vp_in ((wI (wI mm 41 4 ((mm.1 41 4) - (1 : Int32))) 41 5 (((wI mm 41 4 ((mm.1 41 4) - (1 : Int32))).1 41 5) - (1 : Int32))).1 41 5) 20 ∧ (SHL[44 + 1 + 1 * ((wI (wI mm 41 4 ((mm.1 41 4) - (1 : Int32))) 41 5 (((wI mm 41 4 ((mm.1 41 4) - (1 : Int32))).1 41 5) - (1 : Int32))).1 41 5).toNatClampNeg]? = some (.inl (0, 16, 0, 0))) ∧ (vp_in ((wR (wI (wI mm 41 4 ((mm.1 41 4) - (1 : Int32))) 41 5 (((wI mm 41 4 ((mm.1 41 4) - (1 : Int32))).1 41 5) - (1 : Int32))) (a1 + 1) (va_cpy ((wI (wI mm 41 4 ((mm.1 41 4) - (1 : Int32))) 41 5 (((wI mm 41 4 ((mm.1 41 4) - (1 : Int32))).1 41 5) - (1 : Int32))).1 (44 + 1 + 1 * ((wI (wI mm 41 4 ((mm.1 41 4) - (1 : Int32))) 41 5 (((wI mm 41 4 ((mm.1 41 4) - (1 : Int32))).1 41 5) - (1 : Int32))).1 41 5).toNatClampNeg)) ((wI (wI mm 41 4 ((mm.1 41 4) - (1 : Int32))) 41 5 (((wI mm 41 4 ((mm.1 41 4) - (1 : Int32))).1 41 5) - (1 : Int32))).1 (a1 + 1)) 0 0 16)).1 41 5) 20 ∧ (SHL[65 + 1 + 1 * ((wR (wI (wI mm 41 4 ((mm.1 41 4) - (1 : Int32))) 41 5 (((wI mm 41 4 ((mm.1 41 4) - (1 : Int32))).1 41 5) - (1 : Int32))) (a1 + 1) (va_cpy ((wI (wI mm 41 4 ((mm.1 41 4) - (1 : Int32))) 41 5 (((wI mm 41 4 ((mm.1 41 4) - (1 : Int32))).1 41 5) - (1 : Int32))).1 (44 + 1 + 1 * ((wI (wI mm 41 4 ((mm.1 41 4) - (1 : Int32))) 41 5 (((wI mm 41 4 ((mm.1 41 4) - (1 : Int32))).1 41 5) - (1 : Int32))).1 41 5).toNatClampNeg)) ((wI (wI mm 41 4 ((mm.1 41 4) - (1 : Int32))) 41 5 (((wI mm 41 4 ((mm.1 41 4) - (1 : Int32))).1 41 5) - (1 : Int32))).1 (a1 + 1)) 0 0 16)).1 41 5).toNatClampNeg]? = some (.inl (0, 8, 0, 0))) ∧ (Q (.int (1 : Int32)) (wR (wR (wI (wI mm 41 4 ((mm.1 41 4) - (1 : Int32))) 41 5 (((wI mm 41 4 ((mm.1 41 4) - (1 : Int32))).1 41 5) - (1 : Int32))) (a1 + 1) (va_cpy ((wI (wI mm 41 4 ((mm.1 41 4) - (1 : Int32))) 41 5 (((wI mm 41 4 ((mm.1 41 4) - (1 : Int32))).1 41 5) - (1 : Int32))).1 (44 + 1 + 1 * ((wI (wI mm 41 4 ((mm.1 41 4) - (1 : Int32))) 41 5 (((wI mm 41 4 ((mm.1 41 4) - (1 : Int32))).1 41 5) - (1 : Int32))).1 41 5).toNatClampNeg)) ((wI (wI mm 41 4 ((mm.1 41 4) - (1 : Int32))) 41 5 (((wI mm 41 4 ((mm.1 41 4) - (1 : Int32))).1 41 5) - (1 : Int32))).1 (a1 + 1)) 0 0 16)) (a1 + 3) (va_cpy ((wR (wI (wI mm 41 4 ((mm.1 41 4) - (1 : Int32))) 41 5 (((wI mm 41 4 ((mm.1 41 4) - (1 : Int32))).1 41 5) - (1 : Int32))) (a1 + 1) (va_cpy ((wI (wI mm 41 4 ((mm.1 41 4) - (1 : Int32))) 41 5 (((wI mm 41 4 ((mm.1 41 4) - (1 : Int32))).1 41 5) - (1 : Int32))).1 (44 + 1 + 1 * ((wI (wI mm 41 4 ((mm.1 41 4) - (1 : Int32))) 41 5 (((wI mm 41 4 ((mm.1 41 4) - (1 : Int32))).1 41 5) - (1 : Int32))).1 41 5).toNatClampNeg)) ((wI (wI mm 41 4 ((mm.1 41 4) - (1 : Int32))) 41 5 (((wI mm 41 4 ((mm.1 41 4) - (1 : Int32))).1 41 5) - (1 : Int32))).1 (a1 + 1)) 0 0 16)).1 (65 + 1 + 1 * ((wR (wI (wI mm 41 4 ((mm.1 41 4) - (1 : Int32))) 41 5 (((wI mm 41 4 ((mm.1 41 4) - (1 : Int32))).1 41 5) - (1 : Int32))) (a1 + 1) (va_cpy ((wI (wI mm 41 4 ((mm.1 41 4) - (1 : Int32))) 41 5 (((wI mm 41 4 ((mm.1 41 4) - (1 : Int32))).1 41 5) - (1 : Int32))).1 (44 + 1 + 1 * ((wI (wI mm 41 4 ((mm.1 41 4) - (1 : Int32))) 41 5 (((wI mm 41 4 ((mm.1 41 4) - (1 : Int32))).1 41 5) - (1 : Int32))).1 41 5).toNatClampNeg)) ((wI (wI mm 41 4 ((mm.1 41 4) - (1 : Int32))) 41 5 (((wI mm 41 4 ((mm.1 41 4) - (1 : Int32))).1 41 5) - (1 : Int32))).1 (a1 + 1)) 0 0 16)).1 41 5).toNatClampNeg)) ((wR (wI (wI mm 41 4 ((mm.1 41 4) - (1 : Int32))) 41 5 (((wI mm 41 4 ((mm.1 41 4) - (1 : Int32))).1 41 5) - (1 : Int32))) (a1 + 1) (va_cpy ((wI (wI mm 41 4 ((mm.1 41 4) - (1 : Int32))) 41 5 (((wI mm 41 4 ((mm.1 41 4) - (1 : Int32))).1 41 5) - (1 : Int32))).1 (44 + 1 + 1 * ((wI (wI mm 41 4 ((mm.1 41 4) - (1 : Int32))) 41 5 (((wI mm 41 4 ((mm.1 41 4) - (1 : Int32))).1 41 5) - (1 : Int32))).1 41 5).toNatClampNeg)) ((wI (wI mm 41 4 ((mm.1 41 4) - (1 : Int32))) 41 5 (((wI mm 41 4 ((mm.1 41 4) - (1 : Int32))).1 41 5) - (1 : Int32))).1 (a1 + 1)) 0 0 16)).1 (a1 + 3)) 0 0 8)))))))))))) ∧ ((mm.1 41 4) = 0 → (Q (.int (0 : Int32)) mm))) : Runs e_X9_takeBack [.ref 41, .ref a1] mm Q := by
  refine runs_of_G (L := [(0, .ref 41), (1, .ref a1)]) pl_X9 (Nat.le_of_ble_eq_true rfl) rfl ?_
  refine g_aload_n (pc := 0) (x := 41) dX9_takeBack_0 rfl ?_
  refine g_getI (pc := 1) dX9_takeBack_1 fo_X9_26 sh_41 rfl ?_
  refine g_if_ne (pc := 4) (tgt := 9) dX9_takeBack_4 (by decide) (fun c4 => ?_) (fun c4 => ?_)
  · have h := h.1 c4
    refine g_aload_n (pc := 9) (x := 41) dX9_takeBack_9 rfl ?_
    refine g_dup (pc := 10) dX9_takeBack_10 rfl ?_
    refine g_getI (pc := 11) dX9_takeBack_11 fo_X9_26 sh_41 rfl ?_
    refine g_iconst (pc := 14) (v := (1 : Int32)) dX9_takeBack_14 (by decide) ?_
    refine g_isub (pc := 15) dX9_takeBack_15 ?_
    refine g_putI (pc := 16) dX9_takeBack_16 fo_X9_26 sh_41 rfl rfl rfl ?_
    refine g_aload_n (pc := 19) (x := 41) dX9_takeBack_19 rfl ?_
    refine g_aload_n (pc := 20) (x := 41) dX9_takeBack_20 rfl ?_
    refine g_getI (pc := 21) dX9_takeBack_21 fo_X9_30 sh_41 rfl ?_
    refine g_if_le (pc := 24) (tgt := 36) dX9_takeBack_24 (by decide) (fun c24 => ?_) (fun c24 => ?_)
    · have h := h.1 c24
      refine g_bipush (pc := 36) (v := (19 : Int32)) dX9_takeBack_36 (by decide) ?_
      refine g_putI (pc := 38) dX9_takeBack_38 fo_X9_30 sh_41 rfl rfl rfl ?_
      refine g_aload_n (pc := 41) (x := 41) dX9_takeBack_41 rfl ?_
      refine g_getI (pc := 42) dX9_takeBack_42 fo_X9_30 sh_41 rfl ?_
      refine g_if_lt (pc := 45) (tgt := 97) dX9_takeBack_45 (by decide) (fun c45 => ?_) (fun c45 => ?_)
      · have h := h.1 c45
        refine g_iconst (pc := 97) (v := (1 : Int32)) dX9_takeBack_97 (by decide) ?_
        exact g_iret (pc := 98) dX9_takeBack_98 rfl rfl (nar_B isB1) h
      · have h := h.2 c45
        refine g_aload_n (pc := 48) (x := 41) dX9_takeBack_48 rfl ?_
        refine g_getI (pc := 49) dX9_takeBack_49 fo_X9_30 sh_41 rfl ?_
        refine g_bipush (pc := 52) (v := (20 : Int32)) dX9_takeBack_52 (by decide) ?_
        refine g_icmp_ge (pc := 54) (tgt := 97) dX9_takeBack_54 (by decide) (fun c54 => ?_) (fun c54 => ?_)
        · have h := h.1 c54
          refine g_iconst (pc := 97) (v := (1 : Int32)) dX9_takeBack_97 (by decide) ?_
          exact g_iret (pc := 98) dX9_takeBack_98 rfl rfl (nar_B isB1) h
        · have h := h.2 c54
          refine g_aload_n (pc := 57) (x := 41) dX9_takeBack_57 rfl ?_
          refine g_getR (pc := 58) (dd := 3) dX9_takeBack_58 fo_X9_20 sh_41 rfl ?_
          refine g_aload_n (pc := 61) (x := 41) dX9_takeBack_61 rfl ?_
          refine g_getI (pc := 62) dX9_takeBack_62 fo_X9_30 sh_41 rfl ?_
          refine g_aaload5 (pc := 65) dX9_takeBack_65 sh_44 h.1 ?_
          have hr0 := h.2.1
          have h := h.2.2
          refine g_iconst (pc := 66) (v := (0 : Int32)) dX9_takeBack_66 (by decide) ?_
          refine g_aload_n (pc := 67) (x := a1) dX9_takeBack_67 rfl ?_
          refine g_getR (pc := 68) (dd := 1) dX9_takeBack_68 fo_X9_36 (AtState_0 h1) rfl ?_
          refine g_iconst (pc := 71) (v := (0 : Int32)) dX9_takeBack_71 (by decide) ?_
          refine g_bipush (pc := 72) (v := (16 : Int32)) dX9_takeBack_72 (by decide) ?_
          refine g_copyI (pc := 74) dX9_takeBack_74 cw_X9_39 (by decide) (Nat.le_of_ble_eq_true rfl) hr0 (AtState_1 h1) (by decide) (by decide) (by decide) (by decide) (by decide) ?_
          refine g_aload_n (pc := 77) (x := 41) dX9_takeBack_77 rfl ?_
          refine g_getR (pc := 78) (dd := 24) dX9_takeBack_78 fo_X9_23 sh_41 rfl ?_
          refine g_aload_n (pc := 81) (x := 41) dX9_takeBack_81 rfl ?_
          refine g_getI (pc := 82) dX9_takeBack_82 fo_X9_30 sh_41 rfl ?_
          refine g_aaload5 (pc := 85) dX9_takeBack_85 sh_65 h.1 ?_
          have hr1 := h.2.1
          have h := h.2.2
          refine g_iconst (pc := 86) (v := (0 : Int32)) dX9_takeBack_86 (by decide) ?_
          refine g_aload_n (pc := 87) (x := a1) dX9_takeBack_87 rfl ?_
          refine g_getR (pc := 88) (dd := 3) dX9_takeBack_88 fo_X9_45 (AtState_0 h1) rfl ?_
          refine g_iconst (pc := 91) (v := (0 : Int32)) dX9_takeBack_91 (by decide) ?_
          refine g_bipush (pc := 92) (v := (8 : Int32)) dX9_takeBack_92 (by decide) ?_
          refine g_copyI (pc := 94) dX9_takeBack_94 cw_X9_39 (by decide) (Nat.le_of_ble_eq_true rfl) hr1 (AtState_3 h1) (by decide) (by decide) (by decide) (by decide) (by decide) ?_
          refine g_iconst (pc := 97) (v := (1 : Int32)) dX9_takeBack_97 (by decide) ?_
          exact g_iret (pc := 98) dX9_takeBack_98 rfl rfl (nar_B isB1) h
    · have h := h.2 c24
      refine g_aload_n (pc := 27) (x := 41) dX9_takeBack_27 rfl ?_
      refine g_getI (pc := 28) dX9_takeBack_28 fo_X9_30 sh_41 rfl ?_
      refine g_iconst (pc := 31) (v := (1 : Int32)) dX9_takeBack_31 (by decide) ?_
      refine g_isub (pc := 32) dX9_takeBack_32 ?_
      refine g_goto (pc := 33) (tgt := 38) dX9_takeBack_33 (by decide) ?_
      refine g_putI (pc := 38) dX9_takeBack_38 fo_X9_30 sh_41 rfl rfl rfl ?_
      refine g_aload_n (pc := 41) (x := 41) dX9_takeBack_41 rfl ?_
      refine g_getI (pc := 42) dX9_takeBack_42 fo_X9_30 sh_41 rfl ?_
      refine g_if_lt (pc := 45) (tgt := 97) dX9_takeBack_45 (by decide) (fun c45 => ?_) (fun c45 => ?_)
      · have h := h.1 c45
        refine g_iconst (pc := 97) (v := (1 : Int32)) dX9_takeBack_97 (by decide) ?_
        exact g_iret (pc := 98) dX9_takeBack_98 rfl rfl (nar_B isB1) h
      · have h := h.2 c45
        refine g_aload_n (pc := 48) (x := 41) dX9_takeBack_48 rfl ?_
        refine g_getI (pc := 49) dX9_takeBack_49 fo_X9_30 sh_41 rfl ?_
        refine g_bipush (pc := 52) (v := (20 : Int32)) dX9_takeBack_52 (by decide) ?_
        refine g_icmp_ge (pc := 54) (tgt := 97) dX9_takeBack_54 (by decide) (fun c54 => ?_) (fun c54 => ?_)
        · have h := h.1 c54
          refine g_iconst (pc := 97) (v := (1 : Int32)) dX9_takeBack_97 (by decide) ?_
          exact g_iret (pc := 98) dX9_takeBack_98 rfl rfl (nar_B isB1) h
        · have h := h.2 c54
          refine g_aload_n (pc := 57) (x := 41) dX9_takeBack_57 rfl ?_
          refine g_getR (pc := 58) (dd := 3) dX9_takeBack_58 fo_X9_20 sh_41 rfl ?_
          refine g_aload_n (pc := 61) (x := 41) dX9_takeBack_61 rfl ?_
          refine g_getI (pc := 62) dX9_takeBack_62 fo_X9_30 sh_41 rfl ?_
          refine g_aaload5 (pc := 65) dX9_takeBack_65 sh_44 h.1 ?_
          have hr0 := h.2.1
          have h := h.2.2
          refine g_iconst (pc := 66) (v := (0 : Int32)) dX9_takeBack_66 (by decide) ?_
          refine g_aload_n (pc := 67) (x := a1) dX9_takeBack_67 rfl ?_
          refine g_getR (pc := 68) (dd := 1) dX9_takeBack_68 fo_X9_36 (AtState_0 h1) rfl ?_
          refine g_iconst (pc := 71) (v := (0 : Int32)) dX9_takeBack_71 (by decide) ?_
          refine g_bipush (pc := 72) (v := (16 : Int32)) dX9_takeBack_72 (by decide) ?_
          refine g_copyI (pc := 74) dX9_takeBack_74 cw_X9_39 (by decide) (Nat.le_of_ble_eq_true rfl) hr0 (AtState_1 h1) (by decide) (by decide) (by decide) (by decide) (by decide) ?_
          refine g_aload_n (pc := 77) (x := 41) dX9_takeBack_77 rfl ?_
          refine g_getR (pc := 78) (dd := 24) dX9_takeBack_78 fo_X9_23 sh_41 rfl ?_
          refine g_aload_n (pc := 81) (x := 41) dX9_takeBack_81 rfl ?_
          refine g_getI (pc := 82) dX9_takeBack_82 fo_X9_30 sh_41 rfl ?_
          refine g_aaload5 (pc := 85) dX9_takeBack_85 sh_65 h.1 ?_
          have hr1 := h.2.1
          have h := h.2.2
          refine g_iconst (pc := 86) (v := (0 : Int32)) dX9_takeBack_86 (by decide) ?_
          refine g_aload_n (pc := 87) (x := a1) dX9_takeBack_87 rfl ?_
          refine g_getR (pc := 88) (dd := 3) dX9_takeBack_88 fo_X9_45 (AtState_0 h1) rfl ?_
          refine g_iconst (pc := 91) (v := (0 : Int32)) dX9_takeBack_91 (by decide) ?_
          refine g_bipush (pc := 92) (v := (8 : Int32)) dX9_takeBack_92 (by decide) ?_
          refine g_copyI (pc := 94) dX9_takeBack_94 cw_X9_39 (by decide) (Nat.le_of_ble_eq_true rfl) hr1 (AtState_3 h1) (by decide) (by decide) (by decide) (by decide) (by decide) ?_
          refine g_iconst (pc := 97) (v := (1 : Int32)) dX9_takeBack_97 (by decide) ?_
          exact g_iret (pc := 98) dX9_takeBack_98 rfl rfl (nar_B isB1) h
  · have h := h.2 c4
    refine g_iconst (pc := 7) (v := (0 : Int32)) dX9_takeBack_7 (by decide) ?_
    exact g_iret (pc := 8) dX9_takeBack_8 rfl rfl (nar_B isB0) h
theorem dX10_choose_0 : decode cX10_choose 0 = .ok (.iload_n 3, 1) := by decide +kernel
theorem dX10_choose_1 : decode cX10_choose 1 = .ok (.iconst 0, 1) := by decide +kernel
theorem dX10_choose_2 : decode cX10_choose 2 = .ok (.bipush 99, 2) := by decide +kernel
theorem dX10_choose_4 : decode cX10_choose 4 = .ok (.invokestatic 22, 3) := by decide +kernel
theorem dX10_choose_7 : decode cX10_choose 7 = .ok (.ifCond .ne 5, 3) := by decide +kernel
theorem dX10_choose_10 : decode cX10_choose 10 = .ok (.iconst 0, 1) := by decide +kernel
theorem dX10_choose_11 : decode cX10_choose 11 = .ok (.ireturn, 1) := by decide +kernel
theorem dX10_choose_12 : decode cX10_choose 12 = .ok (.iconst 0, 1) := by decide +kernel
theorem dX10_choose_13 : decode cX10_choose 13 = .ok (.istore 4, 2) := by decide +kernel
theorem dX10_choose_15 : decode cX10_choose 15 = .ok (.iload 4, 2) := by decide +kernel
theorem dX10_choose_17 : decode cX10_choose 17 = .ok (.iload_n 3, 1) := by decide +kernel
theorem dX10_choose_18 : decode cX10_choose 18 = .ok (.if_icmp .gt 36, 3) := by decide +kernel
theorem dX10_choose_21 : decode cX10_choose 21 = .ok (.aload_n 0, 1) := by decide +kernel
theorem dX10_choose_22 : decode cX10_choose 22 = .ok (.getfield 11, 3) := by decide +kernel
theorem dX10_choose_25 : decode cX10_choose 25 = .ok (.aload_n 1, 1) := by decide +kernel
theorem dX10_choose_26 : decode cX10_choose 26 = .ok (.getfield 26, 3) := by decide +kernel
theorem dX10_choose_29 : decode cX10_choose 29 = .ok (.bipush 100, 2) := by decide +kernel
theorem dX10_choose_31 : decode cX10_choose 31 = .ok (.imul, 1) := by decide +kernel
theorem dX10_choose_32 : decode cX10_choose 32 = .ok (.iload 4, 2) := by decide +kernel
theorem dX10_choose_34 : decode cX10_choose 34 = .ok (.iadd, 1) := by decide +kernel
theorem dX10_choose_35 : decode cX10_choose 35 = .ok (.iload 4, 2) := by decide +kernel
theorem dX10_choose_37 : decode cX10_choose 37 = .ok (.ifCond .ne 7, 3) := by decide +kernel
theorem dX10_choose_40 : decode cX10_choose 40 = .ok (.iconst 0, 1) := by decide +kernel
theorem dX10_choose_41 : decode cX10_choose 41 = .ok (.goto 6, 3) := by decide +kernel
theorem dX10_choose_44 : decode cX10_choose 44 = .ok (.sipush 1000, 3) := by decide +kernel
theorem dX10_choose_47 : decode cX10_choose 47 = .ok (.iastore, 1) := by decide +kernel
theorem dX10_choose_48 : decode cX10_choose 48 = .ok (.iinc 4 1, 3) := by decide +kernel
theorem dX10_choose_51 : decode cX10_choose 51 = .ok (.goto (-36), 3) := by decide +kernel
theorem dX10_choose_54 : decode cX10_choose 54 = .ok (.aload_n 1, 1) := by decide +kernel
theorem dX10_choose_55 : decode cX10_choose 55 = .ok (.getfield 26, 3) := by decide +kernel
theorem dX10_choose_58 : decode cX10_choose 58 = .ok (.iconst 1, 1) := by decide +kernel
theorem dX10_choose_59 : decode cX10_choose 59 = .ok (.isub, 1) := by decide +kernel
theorem dX10_choose_60 : decode cX10_choose 60 = .ok (.istore 4, 2) := by decide +kernel
theorem dX10_choose_62 : decode cX10_choose 62 = .ok (.iload 4, 2) := by decide +kernel
theorem dX10_choose_64 : decode cX10_choose 64 = .ok (.ifCond .lt 56, 3) := by decide +kernel
theorem dX10_choose_67 : decode cX10_choose 67 = .ok (.iconst 0, 1) := by decide +kernel
theorem dX10_choose_68 : decode cX10_choose 68 = .ok (.istore 5, 2) := by decide +kernel
theorem dX10_choose_70 : decode cX10_choose 70 = .ok (.iload 5, 2) := by decide +kernel
theorem dX10_choose_72 : decode cX10_choose 72 = .ok (.iload_n 3, 1) := by decide +kernel
theorem dX10_choose_73 : decode cX10_choose 73 = .ok (.if_icmp .gt 41, 3) := by decide +kernel
theorem dX10_choose_76 : decode cX10_choose 76 = .ok (.aload_n 0, 1) := by decide +kernel
theorem dX10_choose_77 : decode cX10_choose 77 = .ok (.getfield 11, 3) := by decide +kernel
theorem dX10_choose_80 : decode cX10_choose 80 = .ok (.iload 4, 2) := by decide +kernel
theorem dX10_choose_82 : decode cX10_choose 82 = .ok (.bipush 100, 2) := by decide +kernel
theorem dX10_choose_84 : decode cX10_choose 84 = .ok (.imul, 1) := by decide +kernel
theorem dX10_choose_85 : decode cX10_choose 85 = .ok (.iload 5, 2) := by decide +kernel
theorem dX10_choose_87 : decode cX10_choose 87 = .ok (.iadd, 1) := by decide +kernel
theorem dX10_choose_88 : decode cX10_choose 88 = .ok (.aload_n 0, 1) := by decide +kernel
theorem dX10_choose_89 : decode cX10_choose 89 = .ok (.iload 4, 2) := by decide +kernel
theorem dX10_choose_91 : decode cX10_choose 91 = .ok (.iload 5, 2) := by decide +kernel
theorem dX10_choose_93 : decode cX10_choose 93 = .ok (.aload_n 1, 1) := by decide +kernel
theorem dX10_choose_94 : decode cX10_choose 94 = .ok (.getfield 31, 3) := by decide +kernel
theorem dX10_choose_97 : decode cX10_choose 97 = .ok (.iload 4, 2) := by decide +kernel
theorem dX10_choose_99 : decode cX10_choose 99 = .ok (.iaload, 1) := by decide +kernel
theorem dX10_choose_100 : decode cX10_choose 100 = .ok (.aload_n 2, 1) := by decide +kernel
theorem dX10_choose_101 : decode cX10_choose 101 = .ok (.iload 4, 2) := by decide +kernel
theorem dX10_choose_103 : decode cX10_choose 103 = .ok (.iaload, 1) := by decide +kernel
theorem dX10_choose_104 : decode cX10_choose 104 = .ok (.invokevirtual 34, 3) := by decide +kernel
theorem dX10_choose_107 : decode cX10_choose 107 = .ok (.iastore, 1) := by decide +kernel
theorem dX10_choose_108 : decode cX10_choose 108 = .ok (.iinc 5 1, 3) := by decide +kernel
theorem dX10_choose_111 : decode cX10_choose 111 = .ok (.goto (-41), 3) := by decide +kernel
theorem dX10_choose_114 : decode cX10_choose 114 = .ok (.iinc 4 (-1), 3) := by decide +kernel
theorem dX10_choose_117 : decode cX10_choose 117 = .ok (.goto (-55), 3) := by decide +kernel
theorem dX10_choose_120 : decode cX10_choose 120 = .ok (.aload_n 0, 1) := by decide +kernel
theorem dX10_choose_121 : decode cX10_choose 121 = .ok (.aload_n 0, 1) := by decide +kernel
theorem dX10_choose_122 : decode cX10_choose 122 = .ok (.getfield 11, 3) := by decide +kernel
theorem dX10_choose_125 : decode cX10_choose 125 = .ok (.iload_n 3, 1) := by decide +kernel
theorem dX10_choose_126 : decode cX10_choose 126 = .ok (.iaload, 1) := by decide +kernel
theorem dX10_choose_127 : decode cX10_choose 127 = .ok (.putfield 18, 3) := by decide +kernel
theorem dX10_choose_130 : decode cX10_choose 130 = .ok (.aload_n 0, 1) := by decide +kernel
theorem dX10_choose_131 : decode cX10_choose 131 = .ok (.getfield 18, 3) := by decide +kernel
theorem dX10_choose_134 : decode cX10_choose 134 = .ok (.sipush 1000, 3) := by decide +kernel
theorem dX10_choose_137 : decode cX10_choose 137 = .ok (.if_icmp .lt 5, 3) := by decide +kernel
theorem dX10_choose_140 : decode cX10_choose 140 = .ok (.iconst 0, 1) := by decide +kernel
theorem dX10_choose_141 : decode cX10_choose 141 = .ok (.ireturn, 1) := by decide +kernel
theorem dX10_choose_142 : decode cX10_choose 142 = .ok (.iload_n 3, 1) := by decide +kernel
theorem dX10_choose_143 : decode cX10_choose 143 = .ok (.istore 4, 2) := by decide +kernel
theorem dX10_choose_145 : decode cX10_choose 145 = .ok (.iconst 0, 1) := by decide +kernel
theorem dX10_choose_146 : decode cX10_choose 146 = .ok (.istore 5, 2) := by decide +kernel
theorem dX10_choose_148 : decode cX10_choose 148 = .ok (.iload 5, 2) := by decide +kernel
theorem dX10_choose_150 : decode cX10_choose 150 = .ok (.aload_n 1, 1) := by decide +kernel
theorem dX10_choose_151 : decode cX10_choose 151 = .ok (.getfield 26, 3) := by decide +kernel
theorem dX10_choose_154 : decode cX10_choose 154 = .ok (.if_icmp .ge 55, 3) := by decide +kernel
theorem dX10_choose_157 : decode cX10_choose 157 = .ok (.aload_n 0, 1) := by decide +kernel
theorem dX10_choose_158 : decode cX10_choose 158 = .ok (.getfield 15, 3) := by decide +kernel
theorem dX10_choose_161 : decode cX10_choose 161 = .ok (.iload 5, 2) := by decide +kernel
theorem dX10_choose_163 : decode cX10_choose 163 = .ok (.aload_n 0, 1) := by decide +kernel
theorem dX10_choose_164 : decode cX10_choose 164 = .ok (.iload 5, 2) := by decide +kernel
theorem dX10_choose_166 : decode cX10_choose 166 = .ok (.iload 4, 2) := by decide +kernel
theorem dX10_choose_168 : decode cX10_choose 168 = .ok (.aload_n 1, 1) := by decide +kernel
theorem dX10_choose_169 : decode cX10_choose 169 = .ok (.getfield 31, 3) := by decide +kernel
theorem dX10_choose_172 : decode cX10_choose 172 = .ok (.iload 5, 2) := by decide +kernel
theorem dX10_choose_174 : decode cX10_choose 174 = .ok (.iaload, 1) := by decide +kernel
theorem dX10_choose_175 : decode cX10_choose 175 = .ok (.aload_n 2, 1) := by decide +kernel
theorem dX10_choose_176 : decode cX10_choose 176 = .ok (.iload 5, 2) := by decide +kernel
theorem dX10_choose_178 : decode cX10_choose 178 = .ok (.iaload, 1) := by decide +kernel
theorem dX10_choose_179 : decode cX10_choose 179 = .ok (.invokevirtual 38, 3) := by decide +kernel
theorem dX10_choose_182 : decode cX10_choose 182 = .ok (.iastore, 1) := by decide +kernel
theorem dX10_choose_183 : decode cX10_choose 183 = .ok (.iload 4, 2) := by decide +kernel
theorem dX10_choose_185 : decode cX10_choose 185 = .ok (.aload_n 0, 1) := by decide +kernel
theorem dX10_choose_186 : decode cX10_choose 186 = .ok (.getfield 15, 3) := by decide +kernel
theorem dX10_choose_189 : decode cX10_choose 189 = .ok (.iload 5, 2) := by decide +kernel
theorem dX10_choose_191 : decode cX10_choose 191 = .ok (.iaload, 1) := by decide +kernel
theorem dX10_choose_192 : decode cX10_choose 192 = .ok (.aload_n 1, 1) := by decide +kernel
theorem dX10_choose_193 : decode cX10_choose 193 = .ok (.getfield 31, 3) := by decide +kernel
theorem dX10_choose_196 : decode cX10_choose 196 = .ok (.iload 5, 2) := by decide +kernel
theorem dX10_choose_198 : decode cX10_choose 198 = .ok (.iaload, 1) := by decide +kernel
theorem dX10_choose_199 : decode cX10_choose 199 = .ok (.imul, 1) := by decide +kernel
theorem dX10_choose_200 : decode cX10_choose 200 = .ok (.isub, 1) := by decide +kernel
theorem dX10_choose_201 : decode cX10_choose 201 = .ok (.istore 4, 2) := by decide +kernel
theorem dX10_choose_203 : decode cX10_choose 203 = .ok (.iinc 5 1, 3) := by decide +kernel
theorem dX10_choose_206 : decode cX10_choose 206 = .ok (.goto (-58), 3) := by decide +kernel
theorem dX10_choose_209 : decode cX10_choose 209 = .ok (.iconst 1, 1) := by decide +kernel
theorem dX10_choose_210 : decode cX10_choose 210 = .ok (.ireturn, 1) := by decide +kernel
theorem b_X10_choose (mm : MM) (Q : Value → MM → Prop) (a1 : Nat) (a2 : Nat) (a3 : Int32) (h1 : AtTown a1) (h2 : SHL[a2]? = some (.inl (0, 8, 0, 0))) (h : (p_X11_within mm a3 (0 : Int32) (99 : Int32) → (G e_X10_choose 15 [(0, .ref 38), (1, .ref a1), (2, .ref a2), (3, .int a3), (4, .int (0 : Int32))] [] mm Q)) ∧ (¬ p_X11_within mm a3 (0 : Int32) (99 : Int32) → (Q (.int (0 : Int32)) mm))) : Runs e_X10_choose [.ref 38, .ref a1, .ref a2, .int a3] mm Q := by
  refine runs_of_G (L := [(0, .ref 38), (1, .ref a1), (2, .ref a2), (3, .int a3)]) pl_X10 (Nat.le_of_ble_eq_true rfl) rfl ?_
  refine g_iload_n (pc := 0) (x := a3) dX10_choose_0 rfl ?_
  refine g_iconst (pc := 1) (v := (0 : Int32)) dX10_choose_1 (by decide) ?_
  refine g_bipush (pc := 2) (v := (99 : Int32)) dX10_choose_2 (by decide) ?_
  refine g_callSN (pc := 4) (as := [.int a3, .int (0 : Int32), .int (99 : Int32)]) dX10_choose_4 cw_X10_22 (by decide) rfl rfl (Nat.le_of_ble_eq_true rfl) (rv_X11_within mm a3 (0 : Int32) (99 : Int32)) ?_
  rintro r_ m_ hz_ ⟨⟨p_, rfl⟩ | ⟨p_, rfl⟩, rfl⟩
  · have h := h.1 p_
    refine g_if_ne (pc := 7) (tgt := 12) dX10_choose_7 (by decide) (fun _ => ?_) (fun c7 => absurd c7 (by decide))
    refine g_iconst (pc := 12) (v := (0 : Int32)) dX10_choose_12 (by decide) ?_
    refine g_istore (pc := 13) (L' := [(0, .ref 38), (1, .ref a1), (2, .ref a2), (3, .int a3), (4, .int (0 : Int32))]) dX10_choose_13 (Nat.le_of_ble_eq_true rfl) rfl ?_
    exact h
  · have h := h.2 p_
    refine g_if_ne (pc := 7) (tgt := 12) dX10_choose_7 (by decide) (fun c7 => absurd c7 (by decide)) (fun _ => ?_)
    refine g_iconst (pc := 10) (v := (0 : Int32)) dX10_choose_10 (by decide) ?_
    exact g_iret (pc := 11) dX10_choose_11 rfl rfl (nar_B isB0) h
theorem b_X10_choose_15 (mm : MM) (Q : Value → MM → Prop) (l1 : Nat) (l2 : Nat) (l3 : Int32) (l4 : Int32) (k1 : AtTown l1) (k2 : SHL[l2]? = some (.inl (0, 8, 0, 0))) (h : (l3 < l4 → (G e_X10_choose 62 [(0, .ref 38), (1, .ref l1), (2, .ref l2), (3, .int l3), (4, .int ((mm.1 l1 13) - (1 : Int32)))] [] mm Q)) ∧ (¬ l3 < l4 → ((¬ l4 = 0 → (vp_in (((mm.1 l1 13) * (100 : Int32)) + l4) 900 ∧ (G e_X10_choose 15 [(0, .ref 38), (1, .ref l1), (2, .ref l2), (3, .int l3), (4, .int (l4 + (1 : Int32)))] [] (wI mm 39 ((((mm.1 l1 13) * (100 : Int32)) + l4).toNatClampNeg) (1000 : Int32)) Q))) ∧ (l4 = 0 → (vp_in (((mm.1 l1 13) * (100 : Int32)) + l4) 900 ∧ (G e_X10_choose 15 [(0, .ref 38), (1, .ref l1), (2, .ref l2), (3, .int l3), (4, .int (l4 + (1 : Int32)))] [] (wI mm 39 ((((mm.1 l1 13) * (100 : Int32)) + l4).toNatClampNeg) (0 : Int32)) Q)))))) : G e_X10_choose 15 [(0, .ref 38), (1, .ref l1), (2, .ref l2), (3, .int l3), (4, .int l4)] [] mm Q := by
  refine g_iload (pc := 15) (x := l4) dX10_choose_15 rfl ?_
  refine g_iload_n (pc := 17) (x := l3) dX10_choose_17 rfl ?_
  refine g_icmp_gt (pc := 18) (tgt := 54) dX10_choose_18 (by decide) (fun c18 => ?_) (fun c18 => ?_)
  · have h := h.1 c18
    refine g_aload_n (pc := 54) (x := l1) dX10_choose_54 rfl ?_
    refine g_getI (pc := 55) dX10_choose_55 fo_X10_26 (AtTown_0 k1) rfl ?_
    refine g_iconst (pc := 58) (v := (1 : Int32)) dX10_choose_58 (by decide) ?_
    refine g_isub (pc := 59) dX10_choose_59 ?_
    refine g_istore (pc := 60) (L' := [(0, .ref 38), (1, .ref l1), (2, .ref l2), (3, .int l3), (4, .int ((mm.1 l1 13) - (1 : Int32)))]) dX10_choose_60 (Nat.le_of_ble_eq_true rfl) rfl ?_
    exact h
  · have h := h.2 c18
    refine g_aload_n (pc := 21) (x := 38) dX10_choose_21 rfl ?_
    refine g_getR (pc := 22) (dd := 1) dX10_choose_22 fo_X10_11 sh_38 rfl ?_
    refine g_aload_n (pc := 25) (x := l1) dX10_choose_25 rfl ?_
    refine g_getI (pc := 26) dX10_choose_26 fo_X10_26 (AtTown_0 k1) rfl ?_
    refine g_bipush (pc := 29) (v := (100 : Int32)) dX10_choose_29 (by decide) ?_
    refine g_imul (pc := 31) dX10_choose_31 ?_
    refine g_iload (pc := 32) (x := l4) dX10_choose_32 rfl ?_
    refine g_iadd (pc := 34) dX10_choose_34 ?_
    refine g_iload (pc := 35) (x := l4) dX10_choose_35 rfl ?_
    refine g_if_ne (pc := 37) (tgt := 44) dX10_choose_37 (by decide) (fun c37 => ?_) (fun c37 => ?_)
    · have h := h.1 c37
      refine g_sipush (pc := 44) (v := (1000 : Int32)) dX10_choose_44 (by decide) ?_
      refine g_iastore (pc := 47) dX10_choose_47 sh_39 h.1 ?_
      have h := h.2
      refine g_iinc (pc := 48) (x := l4) (v := (l4 + (1 : Int32))) (L' := [(0, .ref 38), (1, .ref l1), (2, .ref l2), (3, .int l3), (4, .int (l4 + (1 : Int32)))]) dX10_choose_48 rfl rfl (Nat.le_of_ble_eq_true rfl) rfl ?_
      refine g_goto (pc := 51) (tgt := 15) dX10_choose_51 (by decide) ?_
      exact h
    · have h := h.2 c37
      refine g_iconst (pc := 40) (v := (0 : Int32)) dX10_choose_40 (by decide) ?_
      refine g_goto (pc := 41) (tgt := 47) dX10_choose_41 (by decide) ?_
      refine g_iastore (pc := 47) dX10_choose_47 sh_39 h.1 ?_
      have h := h.2
      refine g_iinc (pc := 48) (x := l4) (v := (l4 + (1 : Int32))) (L' := [(0, .ref 38), (1, .ref l1), (2, .ref l2), (3, .int l3), (4, .int (l4 + (1 : Int32)))]) dX10_choose_48 rfl rfl (Nat.le_of_ble_eq_true rfl) rfl ?_
      refine g_goto (pc := 51) (tgt := 15) dX10_choose_51 (by decide) ?_
      exact h
theorem b_X10_choose_62 (mm : MM) (Q : Value → MM → Prop) (l1 : Nat) (l2 : Nat) (l3 : Int32) (l4 : Int32) (k1 : AtTown l1) (k2 : SHL[l2]? = some (.inl (0, 8, 0, 0))) (h : (l4 < 0 → (vp_in l3 900 ∧ ((((wI mm 38 2 (mm.1 39 l3.toNatClampNeg)).1 38 2) < (1000 : Int32) → (G e_X10_choose 148 [(0, .ref 38), (1, .ref l1), (2, .ref l2), (4, .int l3), (5, .int (0 : Int32))] [] (wI mm 38 2 (mm.1 39 l3.toNatClampNeg)) Q)) ∧ (¬ ((wI mm 38 2 (mm.1 39 l3.toNatClampNeg)).1 38 2) < (1000 : Int32) → (Q (.int (0 : Int32)) (wI mm 38 2 (mm.1 39 l3.toNatClampNeg))))))) ∧ (¬ l4 < 0 → (G e_X10_choose 70 [(0, .ref 38), (1, .ref l1), (2, .ref l2), (3, .int l3), (4, .int l4), (5, .int (0 : Int32))] [] mm Q))) : G e_X10_choose 62 [(0, .ref 38), (1, .ref l1), (2, .ref l2), (3, .int l3), (4, .int l4)] [] mm Q := by
  refine g_iload (pc := 62) (x := l4) dX10_choose_62 rfl ?_
  refine g_if_lt (pc := 64) (tgt := 120) dX10_choose_64 (by decide) (fun c64 => ?_) (fun c64 => ?_)
  · have h := h.1 c64
    refine g_aload_n (pc := 120) (x := 38) dX10_choose_120 rfl ?_
    refine g_aload_n (pc := 121) (x := 38) dX10_choose_121 rfl ?_
    refine g_getR (pc := 122) (dd := 1) dX10_choose_122 fo_X10_11 sh_38 rfl ?_
    refine g_iload_n (pc := 125) (x := l3) dX10_choose_125 rfl ?_
    refine g_iaload (pc := 126) dX10_choose_126 sh_39 h.1 ?_
    have h := h.2
    refine g_putI (pc := 127) dX10_choose_127 fo_X10_18 sh_38 rfl rfl rfl ?_
    refine g_aload_n (pc := 130) (x := 38) dX10_choose_130 rfl ?_
    refine g_getI (pc := 131) dX10_choose_131 fo_X10_18 sh_38 rfl ?_
    refine g_sipush (pc := 134) (v := (1000 : Int32)) dX10_choose_134 (by decide) ?_
    refine g_icmp_lt (pc := 137) (tgt := 142) dX10_choose_137 (by decide) (fun c137 => ?_) (fun c137 => ?_)
    · have h := h.1 c137
      refine g_iload_n (pc := 142) (x := l3) dX10_choose_142 rfl ?_
      refine g_istore (pc := 143) (L' := [(0, .ref 38), (1, .ref l1), (2, .ref l2), (3, .int l3), (4, .int l3)]) dX10_choose_143 (Nat.le_of_ble_eq_true rfl) rfl ?_
      refine g_iconst (pc := 145) (v := (0 : Int32)) dX10_choose_145 (by decide) ?_
      refine g_istore (pc := 146) (L' := [(0, .ref 38), (1, .ref l1), (2, .ref l2), (3, .int l3), (4, .int l3), (5, .int (0 : Int32))]) dX10_choose_146 (Nat.le_of_ble_eq_true rfl) rfl ?_
      refine g_sub (L' := [(0, .ref 38), (1, .ref l1), (2, .ref l2), (4, .int l3), (5, .int (0 : Int32))]) [0, 1, 2, 4, 5] rfl ?_
      exact h
    · have h := h.2 c137
      refine g_iconst (pc := 140) (v := (0 : Int32)) dX10_choose_140 (by decide) ?_
      exact g_iret (pc := 141) dX10_choose_141 rfl rfl (nar_B isB0) h
  · have h := h.2 c64
    refine g_iconst (pc := 67) (v := (0 : Int32)) dX10_choose_67 (by decide) ?_
    refine g_istore (pc := 68) (L' := [(0, .ref 38), (1, .ref l1), (2, .ref l2), (3, .int l3), (4, .int l4), (5, .int (0 : Int32))]) dX10_choose_68 (Nat.le_of_ble_eq_true rfl) rfl ?_
    exact h
theorem b_X10_choose_148 (mm : MM) (Q : Value → MM → Prop) (l1 : Nat) (l2 : Nat) (l4 : Int32) (l5 : Int32) (k1 : AtTown l1) (k2 : SHL[l2]? = some (.inl (0, 8, 0, 0))) (h : ((mm.1 l1 13) ≤ l5 → (Q (.int (1 : Int32)) mm)) ∧ (¬ (mm.1 l1 13) ≤ l5 → (vp_in l5 8 ∧ (vp_in l5 8 ∧ (∃ Pm1 : Value → MM → Prop, Runs e_X10_mostOf [.ref 38, .int l5, .int l4, .int (mm.1 (l1 + 7) l5.toNatClampNeg), .int (mm.1 l2 l5.toNatClampNeg)] mm Pm1 ∧ ∀ (r1 : Int32) (m1 : MM), Pm1 (.int r1) m1 → (vp_in l5 8 ∧ (vp_in l5 8 ∧ (vp_in l5 8 ∧ (G e_X10_choose 148 [(0, .ref 38), (1, .ref l1), (2, .ref l2), (4, .int (l4 - (((wI m1 40 (l5.toNatClampNeg) r1).1 40 l5.toNatClampNeg) * ((wI m1 40 (l5.toNatClampNeg) r1).1 (l1 + 7) l5.toNatClampNeg)))), (5, .int (l5 + (1 : Int32)))] [] (wI m1 40 (l5.toNatClampNeg) r1) Q))))))))) : G e_X10_choose 148 [(0, .ref 38), (1, .ref l1), (2, .ref l2), (4, .int l4), (5, .int l5)] [] mm Q := by
  refine g_iload (pc := 148) (x := l5) dX10_choose_148 rfl ?_
  refine g_aload_n (pc := 150) (x := l1) dX10_choose_150 rfl ?_
  refine g_getI (pc := 151) dX10_choose_151 fo_X10_26 (AtTown_0 k1) rfl ?_
  refine g_icmp_ge (pc := 154) (tgt := 209) dX10_choose_154 (by decide) (fun c154 => ?_) (fun c154 => ?_)
  · have h := h.1 c154
    refine g_iconst (pc := 209) (v := (1 : Int32)) dX10_choose_209 (by decide) ?_
    exact g_iret (pc := 210) dX10_choose_210 rfl rfl (nar_B isB1) h
  · have h := h.2 c154
    refine g_aload_n (pc := 157) (x := 38) dX10_choose_157 rfl ?_
    refine g_getR (pc := 158) (dd := 2) dX10_choose_158 fo_X10_15 sh_38 rfl ?_
    refine g_iload (pc := 161) (x := l5) dX10_choose_161 rfl ?_
    refine g_aload_n (pc := 163) (x := 38) dX10_choose_163 rfl ?_
    refine g_iload (pc := 164) (x := l5) dX10_choose_164 rfl ?_
    refine g_iload (pc := 166) (x := l4) dX10_choose_166 rfl ?_
    refine g_aload_n (pc := 168) (x := l1) dX10_choose_168 rfl ?_
    refine g_getR (pc := 169) (dd := 7) dX10_choose_169 fo_X10_31 (AtTown_0 k1) rfl ?_
    refine g_iload (pc := 172) (x := l5) dX10_choose_172 rfl ?_
    refine g_iaload (pc := 174) dX10_choose_174 (AtTown_7 k1) h.1 ?_
    have h := h.2
    refine g_aload_n (pc := 175) (x := l2) dX10_choose_175 rfl ?_
    refine g_iload (pc := 176) (x := l5) dX10_choose_176 rfl ?_
    refine g_iaload (pc := 178) dX10_choose_178 k2 h.1 ?_
    have h := h.2
    obtain ⟨Pm1, hRm1, h⟩ := h
    refine g_callV (pc := 179) (as := [.int l5, .int l4, .int (mm.1 (l1 + 7) l5.toNatClampNeg), .int (mm.1 l2 l5.toNatClampNeg)]) dX10_choose_179 cw_X10_38 (by decide) rfl rfl sh_38 (Nat.le_of_ble_eq_true rfl) hRm1 ?_
    intro r_ m1 hz_ hp_
    obtain ⟨r1, rfl⟩ := hz_
    have h := h r1 m1 hp_
    refine g_iastore (pc := 182) dX10_choose_182 sh_40 h.1 ?_
    have h := h.2
    refine g_iload (pc := 183) (x := l4) dX10_choose_183 rfl ?_
    refine g_aload_n (pc := 185) (x := 38) dX10_choose_185 rfl ?_
    refine g_getR (pc := 186) (dd := 2) dX10_choose_186 fo_X10_15 sh_38 rfl ?_
    refine g_iload (pc := 189) (x := l5) dX10_choose_189 rfl ?_
    refine g_iaload (pc := 191) dX10_choose_191 sh_40 h.1 ?_
    have h := h.2
    refine g_aload_n (pc := 192) (x := l1) dX10_choose_192 rfl ?_
    refine g_getR (pc := 193) (dd := 7) dX10_choose_193 fo_X10_31 (AtTown_0 k1) rfl ?_
    refine g_iload (pc := 196) (x := l5) dX10_choose_196 rfl ?_
    refine g_iaload (pc := 198) dX10_choose_198 (AtTown_7 k1) h.1 ?_
    have h := h.2
    refine g_imul (pc := 199) dX10_choose_199 ?_
    refine g_isub (pc := 200) dX10_choose_200 ?_
    refine g_istore (pc := 201) (L' := [(0, .ref 38), (1, .ref l1), (2, .ref l2), (4, .int (l4 - (((wI m1 40 (l5.toNatClampNeg) r1).1 40 l5.toNatClampNeg) * ((wI m1 40 (l5.toNatClampNeg) r1).1 (l1 + 7) l5.toNatClampNeg)))), (5, .int l5)]) dX10_choose_201 (Nat.le_of_ble_eq_true rfl) rfl ?_
    refine g_iinc (pc := 203) (x := l5) (v := (l5 + (1 : Int32))) (L' := [(0, .ref 38), (1, .ref l1), (2, .ref l2), (4, .int (l4 - (((wI m1 40 (l5.toNatClampNeg) r1).1 40 l5.toNatClampNeg) * ((wI m1 40 (l5.toNatClampNeg) r1).1 (l1 + 7) l5.toNatClampNeg)))), (5, .int (l5 + (1 : Int32)))]) dX10_choose_203 rfl rfl (Nat.le_of_ble_eq_true rfl) rfl ?_
    refine g_goto (pc := 206) (tgt := 148) dX10_choose_206 (by decide) ?_
    exact h
theorem b_X10_choose_70 (mm : MM) (Q : Value → MM → Prop) (l1 : Nat) (l2 : Nat) (l3 : Int32) (l4 : Int32) (l5 : Int32) (k1 : AtTown l1) (k2 : SHL[l2]? = some (.inl (0, 8, 0, 0))) (h : (l3 < l5 → (G e_X10_choose 62 [(0, .ref 38), (1, .ref l1), (2, .ref l2), (3, .int l3), (4, .int (l4 + (-1 : Int32)))] [] mm Q)) ∧ (¬ l3 < l5 → (vp_in l4 8 ∧ (vp_in l4 8 ∧ (∃ Pm1 : Value → MM → Prop, Runs e_X10_fewestFrom [.ref 38, .int l4, .int l5, .int (mm.1 (l1 + 7) l4.toNatClampNeg), .int (mm.1 l2 l4.toNatClampNeg)] mm Pm1 ∧ ∀ (r1 : Int32) (m1 : MM), Pm1 (.int r1) m1 → (vp_in ((l4 * (100 : Int32)) + l5) 900 ∧ (G e_X10_choose 70 [(0, .ref 38), (1, .ref l1), (2, .ref l2), (3, .int l3), (4, .int l4), (5, .int (l5 + (1 : Int32)))] [] (wI m1 39 (((l4 * (100 : Int32)) + l5).toNatClampNeg) r1) Q))))))) : G e_X10_choose 70 [(0, .ref 38), (1, .ref l1), (2, .ref l2), (3, .int l3), (4, .int l4), (5, .int l5)] [] mm Q := by
  refine g_iload (pc := 70) (x := l5) dX10_choose_70 rfl ?_
  refine g_iload_n (pc := 72) (x := l3) dX10_choose_72 rfl ?_
  refine g_icmp_gt (pc := 73) (tgt := 114) dX10_choose_73 (by decide) (fun c73 => ?_) (fun c73 => ?_)
  · have h := h.1 c73
    refine g_iinc (pc := 114) (x := l4) (v := (l4 + (-1 : Int32))) (L' := [(0, .ref 38), (1, .ref l1), (2, .ref l2), (3, .int l3), (4, .int (l4 + (-1 : Int32))), (5, .int l5)]) dX10_choose_114 rfl rfl (Nat.le_of_ble_eq_true rfl) rfl ?_
    refine g_goto (pc := 117) (tgt := 62) dX10_choose_117 (by decide) ?_
    refine g_sub (L' := [(0, .ref 38), (1, .ref l1), (2, .ref l2), (3, .int l3), (4, .int (l4 + (-1 : Int32)))]) [0, 1, 2, 3, 4] rfl ?_
    exact h
  · have h := h.2 c73
    refine g_aload_n (pc := 76) (x := 38) dX10_choose_76 rfl ?_
    refine g_getR (pc := 77) (dd := 1) dX10_choose_77 fo_X10_11 sh_38 rfl ?_
    refine g_iload (pc := 80) (x := l4) dX10_choose_80 rfl ?_
    refine g_bipush (pc := 82) (v := (100 : Int32)) dX10_choose_82 (by decide) ?_
    refine g_imul (pc := 84) dX10_choose_84 ?_
    refine g_iload (pc := 85) (x := l5) dX10_choose_85 rfl ?_
    refine g_iadd (pc := 87) dX10_choose_87 ?_
    refine g_aload_n (pc := 88) (x := 38) dX10_choose_88 rfl ?_
    refine g_iload (pc := 89) (x := l4) dX10_choose_89 rfl ?_
    refine g_iload (pc := 91) (x := l5) dX10_choose_91 rfl ?_
    refine g_aload_n (pc := 93) (x := l1) dX10_choose_93 rfl ?_
    refine g_getR (pc := 94) (dd := 7) dX10_choose_94 fo_X10_31 (AtTown_0 k1) rfl ?_
    refine g_iload (pc := 97) (x := l4) dX10_choose_97 rfl ?_
    refine g_iaload (pc := 99) dX10_choose_99 (AtTown_7 k1) h.1 ?_
    have h := h.2
    refine g_aload_n (pc := 100) (x := l2) dX10_choose_100 rfl ?_
    refine g_iload (pc := 101) (x := l4) dX10_choose_101 rfl ?_
    refine g_iaload (pc := 103) dX10_choose_103 k2 h.1 ?_
    have h := h.2
    obtain ⟨Pm1, hRm1, h⟩ := h
    refine g_callV (pc := 104) (as := [.int l4, .int l5, .int (mm.1 (l1 + 7) l4.toNatClampNeg), .int (mm.1 l2 l4.toNatClampNeg)]) dX10_choose_104 cw_X10_34 (by decide) rfl rfl sh_38 (Nat.le_of_ble_eq_true rfl) hRm1 ?_
    intro r_ m1 hz_ hp_
    obtain ⟨r1, rfl⟩ := hz_
    have h := h r1 m1 hp_
    refine g_iastore (pc := 107) dX10_choose_107 sh_39 h.1 ?_
    have h := h.2
    refine g_iinc (pc := 108) (x := l5) (v := (l5 + (1 : Int32))) (L' := [(0, .ref 38), (1, .ref l1), (2, .ref l2), (3, .int l3), (4, .int l4), (5, .int (l5 + (1 : Int32)))]) dX10_choose_108 rfl rfl (Nat.le_of_ble_eq_true rfl) rfl ?_
    refine g_goto (pc := 111) (tgt := 70) dX10_choose_111 (by decide) ?_
    exact h
theorem dX10_fewestFrom_0 : decode cX10_fewestFrom 0 = .ok (.sipush 1000, 3) := by decide +kernel
theorem dX10_fewestFrom_3 : decode cX10_fewestFrom 3 = .ok (.istore 5, 2) := by decide +kernel
theorem dX10_fewestFrom_5 : decode cX10_fewestFrom 5 = .ok (.iconst 0, 1) := by decide +kernel
theorem dX10_fewestFrom_6 : decode cX10_fewestFrom 6 = .ok (.istore 6, 2) := by decide +kernel
theorem dX10_fewestFrom_8 : decode cX10_fewestFrom 8 = .ok (.iload 6, 2) := by decide +kernel
theorem dX10_fewestFrom_10 : decode cX10_fewestFrom 10 = .ok (.iload 4, 2) := by decide +kernel
theorem dX10_fewestFrom_12 : decode cX10_fewestFrom 12 = .ok (.if_icmp .gt 45, 3) := by decide +kernel
theorem dX10_fewestFrom_15 : decode cX10_fewestFrom 15 = .ok (.iload 6, 2) := by decide +kernel
theorem dX10_fewestFrom_17 : decode cX10_fewestFrom 17 = .ok (.iload_n 3, 1) := by decide +kernel
theorem dX10_fewestFrom_18 : decode cX10_fewestFrom 18 = .ok (.imul, 1) := by decide +kernel
theorem dX10_fewestFrom_19 : decode cX10_fewestFrom 19 = .ok (.iload_n 2, 1) := by decide +kernel
theorem dX10_fewestFrom_20 : decode cX10_fewestFrom 20 = .ok (.if_icmp .gt 37, 3) := by decide +kernel
theorem dX10_fewestFrom_23 : decode cX10_fewestFrom 23 = .ok (.iload 5, 2) := by decide +kernel
theorem dX10_fewestFrom_25 : decode cX10_fewestFrom 25 = .ok (.iload 6, 2) := by decide +kernel
theorem dX10_fewestFrom_27 : decode cX10_fewestFrom 27 = .ok (.aload_n 0, 1) := by decide +kernel
theorem dX10_fewestFrom_28 : decode cX10_fewestFrom 28 = .ok (.getfield 11, 3) := by decide +kernel
theorem dX10_fewestFrom_31 : decode cX10_fewestFrom 31 = .ok (.iload_n 1, 1) := by decide +kernel
theorem dX10_fewestFrom_32 : decode cX10_fewestFrom 32 = .ok (.iconst 1, 1) := by decide +kernel
theorem dX10_fewestFrom_33 : decode cX10_fewestFrom 33 = .ok (.iadd, 1) := by decide +kernel
theorem dX10_fewestFrom_34 : decode cX10_fewestFrom 34 = .ok (.bipush 100, 2) := by decide +kernel
theorem dX10_fewestFrom_36 : decode cX10_fewestFrom 36 = .ok (.imul, 1) := by decide +kernel
theorem dX10_fewestFrom_37 : decode cX10_fewestFrom 37 = .ok (.iload_n 2, 1) := by decide +kernel
theorem dX10_fewestFrom_38 : decode cX10_fewestFrom 38 = .ok (.iadd, 1) := by decide +kernel
theorem dX10_fewestFrom_39 : decode cX10_fewestFrom 39 = .ok (.iload 6, 2) := by decide +kernel
theorem dX10_fewestFrom_41 : decode cX10_fewestFrom 41 = .ok (.iload_n 3, 1) := by decide +kernel
theorem dX10_fewestFrom_42 : decode cX10_fewestFrom 42 = .ok (.imul, 1) := by decide +kernel
theorem dX10_fewestFrom_43 : decode cX10_fewestFrom 43 = .ok (.isub, 1) := by decide +kernel
theorem dX10_fewestFrom_44 : decode cX10_fewestFrom 44 = .ok (.iaload, 1) := by decide +kernel
theorem dX10_fewestFrom_45 : decode cX10_fewestFrom 45 = .ok (.iadd, 1) := by decide +kernel
theorem dX10_fewestFrom_46 : decode cX10_fewestFrom 46 = .ok (.invokestatic 41, 3) := by decide +kernel
theorem dX10_fewestFrom_49 : decode cX10_fewestFrom 49 = .ok (.istore 5, 2) := by decide +kernel
theorem dX10_fewestFrom_51 : decode cX10_fewestFrom 51 = .ok (.iinc 6 1, 3) := by decide +kernel
theorem dX10_fewestFrom_54 : decode cX10_fewestFrom 54 = .ok (.goto (-46), 3) := by decide +kernel
theorem dX10_fewestFrom_57 : decode cX10_fewestFrom 57 = .ok (.iload 5, 2) := by decide +kernel
theorem dX10_fewestFrom_59 : decode cX10_fewestFrom 59 = .ok (.ireturn, 1) := by decide +kernel
theorem b_X10_fewestFrom (mm : MM) (Q : Value → MM → Prop) (a1 : Int32) (a2 : Int32) (a3 : Int32) (a4 : Int32) (h : G e_X10_fewestFrom 8 [(0, .ref 38), (1, .int a1), (2, .int a2), (3, .int a3), (4, .int a4), (5, .int (1000 : Int32)), (6, .int (0 : Int32))] [] mm Q) : Runs e_X10_fewestFrom [.ref 38, .int a1, .int a2, .int a3, .int a4] mm Q := by
  refine runs_of_G (L := [(0, .ref 38), (1, .int a1), (2, .int a2), (3, .int a3), (4, .int a4)]) pl_X10 (Nat.le_of_ble_eq_true rfl) rfl ?_
  refine g_sipush (pc := 0) (v := (1000 : Int32)) dX10_fewestFrom_0 (by decide) ?_
  refine g_istore (pc := 3) (L' := [(0, .ref 38), (1, .int a1), (2, .int a2), (3, .int a3), (4, .int a4), (5, .int (1000 : Int32))]) dX10_fewestFrom_3 (Nat.le_of_ble_eq_true rfl) rfl ?_
  refine g_iconst (pc := 5) (v := (0 : Int32)) dX10_fewestFrom_5 (by decide) ?_
  refine g_istore (pc := 6) (L' := [(0, .ref 38), (1, .int a1), (2, .int a2), (3, .int a3), (4, .int a4), (5, .int (1000 : Int32)), (6, .int (0 : Int32))]) dX10_fewestFrom_6 (Nat.le_of_ble_eq_true rfl) rfl ?_
  exact h
theorem b_X10_fewestFrom_8 (mm : MM) (Q : Value → MM → Prop) (l1 : Int32) (l2 : Int32) (l3 : Int32) (l4 : Int32) (l5 : Int32) (l6 : Int32) (h : (l4 < l6 → (Q (.int l5) mm)) ∧ (¬ l4 < l6 → ((l2 < (l6 * l3) → (Q (.int l5) mm)) ∧ (¬ l2 < (l6 * l3) → (vp_in ((((l1 + (1 : Int32)) * (100 : Int32)) + l2) - (l6 * l3)) 900 ∧ (G e_X10_fewestFrom 8 [(0, .ref 38), (1, .int l1), (2, .int l2), (3, .int l3), (4, .int l4), (5, .int (imin l5 (l6 + (mm.1 39 ((((l1 + (1 : Int32)) * (100 : Int32)) + l2) - (l6 * l3)).toNatClampNeg)))), (6, .int (l6 + (1 : Int32)))] [] mm Q)))))) : G e_X10_fewestFrom 8 [(0, .ref 38), (1, .int l1), (2, .int l2), (3, .int l3), (4, .int l4), (5, .int l5), (6, .int l6)] [] mm Q := by
  refine g_iload (pc := 8) (x := l6) dX10_fewestFrom_8 rfl ?_
  refine g_iload (pc := 10) (x := l4) dX10_fewestFrom_10 rfl ?_
  refine g_icmp_gt (pc := 12) (tgt := 57) dX10_fewestFrom_12 (by decide) (fun c12 => ?_) (fun c12 => ?_)
  · have h := h.1 c12
    refine g_iload (pc := 57) (x := l5) dX10_fewestFrom_57 rfl ?_
    exact g_iret (pc := 59) dX10_fewestFrom_59 rfl rfl rfl h
  · have h := h.2 c12
    refine g_iload (pc := 15) (x := l6) dX10_fewestFrom_15 rfl ?_
    refine g_iload_n (pc := 17) (x := l3) dX10_fewestFrom_17 rfl ?_
    refine g_imul (pc := 18) dX10_fewestFrom_18 ?_
    refine g_iload_n (pc := 19) (x := l2) dX10_fewestFrom_19 rfl ?_
    refine g_icmp_gt (pc := 20) (tgt := 57) dX10_fewestFrom_20 (by decide) (fun c20 => ?_) (fun c20 => ?_)
    · have h := h.1 c20
      refine g_iload (pc := 57) (x := l5) dX10_fewestFrom_57 rfl ?_
      exact g_iret (pc := 59) dX10_fewestFrom_59 rfl rfl rfl h
    · have h := h.2 c20
      refine g_iload (pc := 23) (x := l5) dX10_fewestFrom_23 rfl ?_
      refine g_iload (pc := 25) (x := l6) dX10_fewestFrom_25 rfl ?_
      refine g_aload_n (pc := 27) (x := 38) dX10_fewestFrom_27 rfl ?_
      refine g_getR (pc := 28) (dd := 1) dX10_fewestFrom_28 fo_X10_11 sh_38 rfl ?_
      refine g_iload_n (pc := 31) (x := l1) dX10_fewestFrom_31 rfl ?_
      refine g_iconst (pc := 32) (v := (1 : Int32)) dX10_fewestFrom_32 (by decide) ?_
      refine g_iadd (pc := 33) dX10_fewestFrom_33 ?_
      refine g_bipush (pc := 34) (v := (100 : Int32)) dX10_fewestFrom_34 (by decide) ?_
      refine g_imul (pc := 36) dX10_fewestFrom_36 ?_
      refine g_iload_n (pc := 37) (x := l2) dX10_fewestFrom_37 rfl ?_
      refine g_iadd (pc := 38) dX10_fewestFrom_38 ?_
      refine g_iload (pc := 39) (x := l6) dX10_fewestFrom_39 rfl ?_
      refine g_iload_n (pc := 41) (x := l3) dX10_fewestFrom_41 rfl ?_
      refine g_imul (pc := 42) dX10_fewestFrom_42 ?_
      refine g_isub (pc := 43) dX10_fewestFrom_43 ?_
      refine g_iaload (pc := 44) dX10_fewestFrom_44 sh_39 h.1 ?_
      have h := h.2
      refine g_iadd (pc := 45) dX10_fewestFrom_45 ?_
      refine g_mmin (pc := 46) dX10_fewestFrom_46 cw_X10_41 (by decide) (Nat.le_of_ble_eq_true rfl) ?_
      refine g_istore (pc := 49) (L' := [(0, .ref 38), (1, .int l1), (2, .int l2), (3, .int l3), (4, .int l4), (5, .int (imin l5 (l6 + (mm.1 39 ((((l1 + (1 : Int32)) * (100 : Int32)) + l2) - (l6 * l3)).toNatClampNeg)))), (6, .int l6)]) dX10_fewestFrom_49 (Nat.le_of_ble_eq_true rfl) rfl ?_
      refine g_iinc (pc := 51) (x := l6) (v := (l6 + (1 : Int32))) (L' := [(0, .ref 38), (1, .int l1), (2, .int l2), (3, .int l3), (4, .int l4), (5, .int (imin l5 (l6 + (mm.1 39 ((((l1 + (1 : Int32)) * (100 : Int32)) + l2) - (l6 * l3)).toNatClampNeg)))), (6, .int (l6 + (1 : Int32)))]) dX10_fewestFrom_51 rfl rfl (Nat.le_of_ble_eq_true rfl) rfl ?_
      refine g_goto (pc := 54) (tgt := 8) dX10_fewestFrom_54 (by decide) ?_
      exact h
theorem dX10_mostOf_0 : decode cX10_mostOf 0 = .ok (.iconst 0, 1) := by decide +kernel
theorem dX10_mostOf_1 : decode cX10_mostOf 1 = .ok (.istore 5, 2) := by decide +kernel
theorem dX10_mostOf_3 : decode cX10_mostOf 3 = .ok (.iconst 0, 1) := by decide +kernel
theorem dX10_mostOf_4 : decode cX10_mostOf 4 = .ok (.istore 6, 2) := by decide +kernel
theorem dX10_mostOf_6 : decode cX10_mostOf 6 = .ok (.iload 6, 2) := by decide +kernel
theorem dX10_mostOf_8 : decode cX10_mostOf 8 = .ok (.iload 4, 2) := by decide +kernel
theorem dX10_mostOf_10 : decode cX10_mostOf 10 = .ok (.if_icmp .gt 56, 3) := by decide +kernel
theorem dX10_mostOf_13 : decode cX10_mostOf 13 = .ok (.iload 6, 2) := by decide +kernel
theorem dX10_mostOf_15 : decode cX10_mostOf 15 = .ok (.iload_n 3, 1) := by decide +kernel
theorem dX10_mostOf_16 : decode cX10_mostOf 16 = .ok (.imul, 1) := by decide +kernel
theorem dX10_mostOf_17 : decode cX10_mostOf 17 = .ok (.iload_n 2, 1) := by decide +kernel
theorem dX10_mostOf_18 : decode cX10_mostOf 18 = .ok (.if_icmp .gt 48, 3) := by decide +kernel
theorem dX10_mostOf_21 : decode cX10_mostOf 21 = .ok (.iload 6, 2) := by decide +kernel
theorem dX10_mostOf_23 : decode cX10_mostOf 23 = .ok (.aload_n 0, 1) := by decide +kernel
theorem dX10_mostOf_24 : decode cX10_mostOf 24 = .ok (.getfield 11, 3) := by decide +kernel
theorem dX10_mostOf_27 : decode cX10_mostOf 27 = .ok (.iload_n 1, 1) := by decide +kernel
theorem dX10_mostOf_28 : decode cX10_mostOf 28 = .ok (.iconst 1, 1) := by decide +kernel
theorem dX10_mostOf_29 : decode cX10_mostOf 29 = .ok (.iadd, 1) := by decide +kernel
theorem dX10_mostOf_30 : decode cX10_mostOf 30 = .ok (.bipush 100, 2) := by decide +kernel
theorem dX10_mostOf_32 : decode cX10_mostOf 32 = .ok (.imul, 1) := by decide +kernel
theorem dX10_mostOf_33 : decode cX10_mostOf 33 = .ok (.iload_n 2, 1) := by decide +kernel
theorem dX10_mostOf_34 : decode cX10_mostOf 34 = .ok (.iadd, 1) := by decide +kernel
theorem dX10_mostOf_35 : decode cX10_mostOf 35 = .ok (.iload 6, 2) := by decide +kernel
theorem dX10_mostOf_37 : decode cX10_mostOf 37 = .ok (.iload_n 3, 1) := by decide +kernel
theorem dX10_mostOf_38 : decode cX10_mostOf 38 = .ok (.imul, 1) := by decide +kernel
theorem dX10_mostOf_39 : decode cX10_mostOf 39 = .ok (.isub, 1) := by decide +kernel
theorem dX10_mostOf_40 : decode cX10_mostOf 40 = .ok (.iaload, 1) := by decide +kernel
theorem dX10_mostOf_41 : decode cX10_mostOf 41 = .ok (.iadd, 1) := by decide +kernel
theorem dX10_mostOf_42 : decode cX10_mostOf 42 = .ok (.aload_n 0, 1) := by decide +kernel
theorem dX10_mostOf_43 : decode cX10_mostOf 43 = .ok (.getfield 11, 3) := by decide +kernel
theorem dX10_mostOf_46 : decode cX10_mostOf 46 = .ok (.iload_n 1, 1) := by decide +kernel
theorem dX10_mostOf_47 : decode cX10_mostOf 47 = .ok (.bipush 100, 2) := by decide +kernel
theorem dX10_mostOf_49 : decode cX10_mostOf 49 = .ok (.imul, 1) := by decide +kernel
theorem dX10_mostOf_50 : decode cX10_mostOf 50 = .ok (.iload_n 2, 1) := by decide +kernel
theorem dX10_mostOf_51 : decode cX10_mostOf 51 = .ok (.iadd, 1) := by decide +kernel
theorem dX10_mostOf_52 : decode cX10_mostOf 52 = .ok (.iaload, 1) := by decide +kernel
theorem dX10_mostOf_53 : decode cX10_mostOf 53 = .ok (.if_icmp .ne 7, 3) := by decide +kernel
theorem dX10_mostOf_56 : decode cX10_mostOf 56 = .ok (.iload 6, 2) := by decide +kernel
theorem dX10_mostOf_58 : decode cX10_mostOf 58 = .ok (.istore 5, 2) := by decide +kernel
theorem dX10_mostOf_60 : decode cX10_mostOf 60 = .ok (.iinc 6 1, 3) := by decide +kernel
theorem dX10_mostOf_63 : decode cX10_mostOf 63 = .ok (.goto (-57), 3) := by decide +kernel
theorem dX10_mostOf_66 : decode cX10_mostOf 66 = .ok (.iload 5, 2) := by decide +kernel
theorem dX10_mostOf_68 : decode cX10_mostOf 68 = .ok (.ireturn, 1) := by decide +kernel
theorem b_X10_mostOf (mm : MM) (Q : Value → MM → Prop) (a1 : Int32) (a2 : Int32) (a3 : Int32) (a4 : Int32) (h : G e_X10_mostOf 6 [(0, .ref 38), (1, .int a1), (2, .int a2), (3, .int a3), (4, .int a4), (5, .int (0 : Int32)), (6, .int (0 : Int32))] [] mm Q) : Runs e_X10_mostOf [.ref 38, .int a1, .int a2, .int a3, .int a4] mm Q := by
  refine runs_of_G (L := [(0, .ref 38), (1, .int a1), (2, .int a2), (3, .int a3), (4, .int a4)]) pl_X10 (Nat.le_of_ble_eq_true rfl) rfl ?_
  refine g_iconst (pc := 0) (v := (0 : Int32)) dX10_mostOf_0 (by decide) ?_
  refine g_istore (pc := 1) (L' := [(0, .ref 38), (1, .int a1), (2, .int a2), (3, .int a3), (4, .int a4), (5, .int (0 : Int32))]) dX10_mostOf_1 (Nat.le_of_ble_eq_true rfl) rfl ?_
  refine g_iconst (pc := 3) (v := (0 : Int32)) dX10_mostOf_3 (by decide) ?_
  refine g_istore (pc := 4) (L' := [(0, .ref 38), (1, .int a1), (2, .int a2), (3, .int a3), (4, .int a4), (5, .int (0 : Int32)), (6, .int (0 : Int32))]) dX10_mostOf_4 (Nat.le_of_ble_eq_true rfl) rfl ?_
  exact h
theorem b_X10_mostOf_6 (mm : MM) (Q : Value → MM → Prop) (l1 : Int32) (l2 : Int32) (l3 : Int32) (l4 : Int32) (l5 : Int32) (l6 : Int32) (h : (l4 < l6 → (Q (.int l5) mm)) ∧ (¬ l4 < l6 → ((l2 < (l6 * l3) → (Q (.int l5) mm)) ∧ (¬ l2 < (l6 * l3) → (vp_in ((((l1 + (1 : Int32)) * (100 : Int32)) + l2) - (l6 * l3)) 900 ∧ (vp_in ((l1 * (100 : Int32)) + l2) 900 ∧ ((¬ (l6 + (mm.1 39 ((((l1 + (1 : Int32)) * (100 : Int32)) + l2) - (l6 * l3)).toNatClampNeg)) = (mm.1 39 ((l1 * (100 : Int32)) + l2).toNatClampNeg) → (G e_X10_mostOf 6 [(0, .ref 38), (1, .int l1), (2, .int l2), (3, .int l3), (4, .int l4), (5, .int l5), (6, .int (l6 + (1 : Int32)))] [] mm Q)) ∧ ((l6 + (mm.1 39 ((((l1 + (1 : Int32)) * (100 : Int32)) + l2) - (l6 * l3)).toNatClampNeg)) = (mm.1 39 ((l1 * (100 : Int32)) + l2).toNatClampNeg) → (G e_X10_mostOf 6 [(0, .ref 38), (1, .int l1), (2, .int l2), (3, .int l3), (4, .int l4), (5, .int l6), (6, .int (l6 + (1 : Int32)))] [] mm Q))))))))) : G e_X10_mostOf 6 [(0, .ref 38), (1, .int l1), (2, .int l2), (3, .int l3), (4, .int l4), (5, .int l5), (6, .int l6)] [] mm Q := by
  refine g_iload (pc := 6) (x := l6) dX10_mostOf_6 rfl ?_
  refine g_iload (pc := 8) (x := l4) dX10_mostOf_8 rfl ?_
  refine g_icmp_gt (pc := 10) (tgt := 66) dX10_mostOf_10 (by decide) (fun c10 => ?_) (fun c10 => ?_)
  · have h := h.1 c10
    refine g_iload (pc := 66) (x := l5) dX10_mostOf_66 rfl ?_
    exact g_iret (pc := 68) dX10_mostOf_68 rfl rfl rfl h
  · have h := h.2 c10
    refine g_iload (pc := 13) (x := l6) dX10_mostOf_13 rfl ?_
    refine g_iload_n (pc := 15) (x := l3) dX10_mostOf_15 rfl ?_
    refine g_imul (pc := 16) dX10_mostOf_16 ?_
    refine g_iload_n (pc := 17) (x := l2) dX10_mostOf_17 rfl ?_
    refine g_icmp_gt (pc := 18) (tgt := 66) dX10_mostOf_18 (by decide) (fun c18 => ?_) (fun c18 => ?_)
    · have h := h.1 c18
      refine g_iload (pc := 66) (x := l5) dX10_mostOf_66 rfl ?_
      exact g_iret (pc := 68) dX10_mostOf_68 rfl rfl rfl h
    · have h := h.2 c18
      refine g_iload (pc := 21) (x := l6) dX10_mostOf_21 rfl ?_
      refine g_aload_n (pc := 23) (x := 38) dX10_mostOf_23 rfl ?_
      refine g_getR (pc := 24) (dd := 1) dX10_mostOf_24 fo_X10_11 sh_38 rfl ?_
      refine g_iload_n (pc := 27) (x := l1) dX10_mostOf_27 rfl ?_
      refine g_iconst (pc := 28) (v := (1 : Int32)) dX10_mostOf_28 (by decide) ?_
      refine g_iadd (pc := 29) dX10_mostOf_29 ?_
      refine g_bipush (pc := 30) (v := (100 : Int32)) dX10_mostOf_30 (by decide) ?_
      refine g_imul (pc := 32) dX10_mostOf_32 ?_
      refine g_iload_n (pc := 33) (x := l2) dX10_mostOf_33 rfl ?_
      refine g_iadd (pc := 34) dX10_mostOf_34 ?_
      refine g_iload (pc := 35) (x := l6) dX10_mostOf_35 rfl ?_
      refine g_iload_n (pc := 37) (x := l3) dX10_mostOf_37 rfl ?_
      refine g_imul (pc := 38) dX10_mostOf_38 ?_
      refine g_isub (pc := 39) dX10_mostOf_39 ?_
      refine g_iaload (pc := 40) dX10_mostOf_40 sh_39 h.1 ?_
      have h := h.2
      refine g_iadd (pc := 41) dX10_mostOf_41 ?_
      refine g_aload_n (pc := 42) (x := 38) dX10_mostOf_42 rfl ?_
      refine g_getR (pc := 43) (dd := 1) dX10_mostOf_43 fo_X10_11 sh_38 rfl ?_
      refine g_iload_n (pc := 46) (x := l1) dX10_mostOf_46 rfl ?_
      refine g_bipush (pc := 47) (v := (100 : Int32)) dX10_mostOf_47 (by decide) ?_
      refine g_imul (pc := 49) dX10_mostOf_49 ?_
      refine g_iload_n (pc := 50) (x := l2) dX10_mostOf_50 rfl ?_
      refine g_iadd (pc := 51) dX10_mostOf_51 ?_
      refine g_iaload (pc := 52) dX10_mostOf_52 sh_39 h.1 ?_
      have h := h.2
      refine g_icmp_ne (pc := 53) (tgt := 60) dX10_mostOf_53 (by decide) (fun c53 => ?_) (fun c53 => ?_)
      · have h := h.1 c53
        refine g_iinc (pc := 60) (x := l6) (v := (l6 + (1 : Int32))) (L' := [(0, .ref 38), (1, .int l1), (2, .int l2), (3, .int l3), (4, .int l4), (5, .int l5), (6, .int (l6 + (1 : Int32)))]) dX10_mostOf_60 rfl rfl (Nat.le_of_ble_eq_true rfl) rfl ?_
        refine g_goto (pc := 63) (tgt := 6) dX10_mostOf_63 (by decide) ?_
        exact h
      · have h := h.2 c53
        refine g_iload (pc := 56) (x := l6) dX10_mostOf_56 rfl ?_
        refine g_istore (pc := 58) (L' := [(0, .ref 38), (1, .int l1), (2, .int l2), (3, .int l3), (4, .int l4), (5, .int l6), (6, .int l6)]) dX10_mostOf_58 (Nat.le_of_ble_eq_true rfl) rfl ?_
        refine g_iinc (pc := 60) (x := l6) (v := (l6 + (1 : Int32))) (L' := [(0, .ref 38), (1, .int l1), (2, .int l2), (3, .int l3), (4, .int l4), (5, .int l6), (6, .int (l6 + (1 : Int32)))]) dX10_mostOf_60 rfl rfl (Nat.le_of_ble_eq_true rfl) rfl ?_
        refine g_goto (pc := 63) (tgt := 6) dX10_mostOf_63 (by decide) ?_
        exact h
theorem dX11_feed_0 : decode cX11_feed 0 = .ok (.aload_n 0, 1) := by decide +kernel
theorem dX11_feed_1 : decode cX11_feed 1 = .ok (.getfield 20, 3) := by decide +kernel
theorem dX11_feed_4 : decode cX11_feed 4 = .ok (.getfield 78, 3) := by decide +kernel
theorem dX11_feed_7 : decode cX11_feed 7 = .ok (.sipush 1980, 3) := by decide +kernel
theorem dX11_feed_10 : decode cX11_feed 10 = .ok (.if_icmp .le 5, 3) := by decide +kernel
theorem dX11_feed_13 : decode cX11_feed 13 = .ok (.iconst (-1), 1) := by decide +kernel
theorem dX11_feed_14 : decode cX11_feed 14 = .ok (.ireturn, 1) := by decide +kernel
theorem dX11_feed_15 : decode cX11_feed 15 = .ok (.aload_n 0, 1) := by decide +kernel
theorem dX11_feed_16 : decode cX11_feed 16 = .ok (.getfield 20, 3) := by decide +kernel
theorem dX11_feed_19 : decode cX11_feed 19 = .ok (.iload_n 1, 1) := by decide +kernel
theorem dX11_feed_20 : decode cX11_feed 20 = .ok (.invokevirtual 84, 3) := by decide +kernel
theorem dX11_feed_23 : decode cX11_feed 23 = .ok (.aload_n 0, 1) := by decide +kernel
theorem dX11_feed_24 : decode cX11_feed 24 = .ok (.getfield 20, 3) := by decide +kernel
theorem dX11_feed_27 : decode cX11_feed 27 = .ok (.iload_n 2, 1) := by decide +kernel
theorem dX11_feed_28 : decode cX11_feed 28 = .ok (.invokevirtual 84, 3) := by decide +kernel
theorem dX11_feed_31 : decode cX11_feed 31 = .ok (.aload_n 0, 1) := by decide +kernel
theorem dX11_feed_32 : decode cX11_feed 32 = .ok (.getfield 20, 3) := by decide +kernel
theorem dX11_feed_35 : decode cX11_feed 35 = .ok (.iload_n 3, 1) := by decide +kernel
theorem dX11_feed_36 : decode cX11_feed 36 = .ok (.invokevirtual 84, 3) := by decide +kernel
theorem dX11_feed_39 : decode cX11_feed 39 = .ok (.aload_n 0, 1) := by decide +kernel
theorem dX11_feed_40 : decode cX11_feed 40 = .ok (.getfield 20, 3) := by decide +kernel
theorem dX11_feed_43 : decode cX11_feed 43 = .ok (.iload 4, 2) := by decide +kernel
theorem dX11_feed_45 : decode cX11_feed 45 = .ok (.invokevirtual 84, 3) := by decide +kernel
theorem dX11_feed_48 : decode cX11_feed 48 = .ok (.aload_n 0, 1) := by decide +kernel
theorem dX11_feed_49 : decode cX11_feed 49 = .ok (.getfield 20, 3) := by decide +kernel
theorem dX11_feed_52 : decode cX11_feed 52 = .ok (.iload 5, 2) := by decide +kernel
theorem dX11_feed_54 : decode cX11_feed 54 = .ok (.invokevirtual 84, 3) := by decide +kernel
theorem dX11_feed_57 : decode cX11_feed 57 = .ok (.aload_n 0, 1) := by decide +kernel
theorem dX11_feed_58 : decode cX11_feed 58 = .ok (.getfield 20, 3) := by decide +kernel
theorem dX11_feed_61 : decode cX11_feed 61 = .ok (.getfield 78, 3) := by decide +kernel
theorem dX11_feed_64 : decode cX11_feed 64 = .ok (.ireturn, 1) := by decide +kernel
theorem b_X11_feed (mm : MM) (Q : Value → MM → Prop) (a1 : Int32) (a2 : Int32) (a3 : Int32) (a4 : Int32) (a5 : Int32) (h : ((mm.1 5 4) ≤ (1980 : Int32) → (∃ Pm1 : Value → MM → Prop, Runs e_X7_append [.ref 5, .int a1] mm Pm1 ∧ ∀ m1, Pm1 .null m1 → (∃ Pm2 : Value → MM → Prop, Runs e_X7_append [.ref 5, .int a2] m1 Pm2 ∧ ∀ m2, Pm2 .null m2 → (∃ Pm3 : Value → MM → Prop, Runs e_X7_append [.ref 5, .int a3] m2 Pm3 ∧ ∀ m3, Pm3 .null m3 → (∃ Pm4 : Value → MM → Prop, Runs e_X7_append [.ref 5, .int a4] m3 Pm4 ∧ ∀ m4, Pm4 .null m4 → (∃ Pm5 : Value → MM → Prop, Runs e_X7_append [.ref 5, .int a5] m4 Pm5 ∧ ∀ m5, Pm5 .null m5 → (Q (.int (m5.1 5 4)) m5))))))) ∧ (¬ (mm.1 5 4) ≤ (1980 : Int32) → (Q (.int (-1 : Int32)) mm))) : Runs e_X11_feed [.ref 0, .int a1, .int a2, .int a3, .int a4, .int a5] mm Q := by
  refine runs_of_G (L := [(0, .ref 0), (1, .int a1), (2, .int a2), (3, .int a3), (4, .int a4), (5, .int a5)]) pl_X11 (Nat.le_of_ble_eq_true rfl) rfl ?_
  refine g_aload_n (pc := 0) (x := 0) dX11_feed_0 rfl ?_
  refine g_getR (pc := 1) (dd := 5) dX11_feed_1 fo_X11_20 sh_0 rfl ?_
  refine g_getI (pc := 4) dX11_feed_4 fo_X11_78 sh_5 rfl ?_
  refine g_sipush (pc := 7) (v := (1980 : Int32)) dX11_feed_7 (by decide) ?_
  refine g_icmp_le (pc := 10) (tgt := 15) dX11_feed_10 (by decide) (fun c10 => ?_) (fun c10 => ?_)
  · have h := h.1 c10
    refine g_aload_n (pc := 15) (x := 0) dX11_feed_15 rfl ?_
    refine g_getR (pc := 16) (dd := 5) dX11_feed_16 fo_X11_20 sh_0 rfl ?_
    refine g_iload_n (pc := 19) (x := a1) dX11_feed_19 rfl ?_
    obtain ⟨Pm1, hRm1, h⟩ := h
    refine g_callV (pc := 20) (as := [.int a1]) dX11_feed_20 cw_X11_84 (by decide) rfl rfl sh_5 (Nat.le_of_ble_eq_true rfl) hRm1 ?_
    intro r_ m1 hz_ hp_
    obtain rfl := hz_
    have h := h m1 hp_
    refine g_aload_n (pc := 23) (x := 0) dX11_feed_23 rfl ?_
    refine g_getR (pc := 24) (dd := 5) dX11_feed_24 fo_X11_20 sh_0 rfl ?_
    refine g_iload_n (pc := 27) (x := a2) dX11_feed_27 rfl ?_
    obtain ⟨Pm2, hRm2, h⟩ := h
    refine g_callV (pc := 28) (as := [.int a2]) dX11_feed_28 cw_X11_84 (by decide) rfl rfl sh_5 (Nat.le_of_ble_eq_true rfl) hRm2 ?_
    intro r_ m2 hz_ hp_
    obtain rfl := hz_
    have h := h m2 hp_
    refine g_aload_n (pc := 31) (x := 0) dX11_feed_31 rfl ?_
    refine g_getR (pc := 32) (dd := 5) dX11_feed_32 fo_X11_20 sh_0 rfl ?_
    refine g_iload_n (pc := 35) (x := a3) dX11_feed_35 rfl ?_
    obtain ⟨Pm3, hRm3, h⟩ := h
    refine g_callV (pc := 36) (as := [.int a3]) dX11_feed_36 cw_X11_84 (by decide) rfl rfl sh_5 (Nat.le_of_ble_eq_true rfl) hRm3 ?_
    intro r_ m3 hz_ hp_
    obtain rfl := hz_
    have h := h m3 hp_
    refine g_aload_n (pc := 39) (x := 0) dX11_feed_39 rfl ?_
    refine g_getR (pc := 40) (dd := 5) dX11_feed_40 fo_X11_20 sh_0 rfl ?_
    refine g_iload (pc := 43) (x := a4) dX11_feed_43 rfl ?_
    obtain ⟨Pm4, hRm4, h⟩ := h
    refine g_callV (pc := 45) (as := [.int a4]) dX11_feed_45 cw_X11_84 (by decide) rfl rfl sh_5 (Nat.le_of_ble_eq_true rfl) hRm4 ?_
    intro r_ m4 hz_ hp_
    obtain rfl := hz_
    have h := h m4 hp_
    refine g_aload_n (pc := 48) (x := 0) dX11_feed_48 rfl ?_
    refine g_getR (pc := 49) (dd := 5) dX11_feed_49 fo_X11_20 sh_0 rfl ?_
    refine g_iload (pc := 52) (x := a5) dX11_feed_52 rfl ?_
    obtain ⟨Pm5, hRm5, h⟩ := h
    refine g_callV (pc := 54) (as := [.int a5]) dX11_feed_54 cw_X11_84 (by decide) rfl rfl sh_5 (Nat.le_of_ble_eq_true rfl) hRm5 ?_
    intro r_ m5 hz_ hp_
    obtain rfl := hz_
    have h := h m5 hp_
    refine g_aload_n (pc := 57) (x := 0) dX11_feed_57 rfl ?_
    refine g_getR (pc := 58) (dd := 5) dX11_feed_58 fo_X11_20 sh_0 rfl ?_
    refine g_getI (pc := 61) dX11_feed_61 fo_X11_78 sh_5 rfl ?_
    exact g_iret (pc := 64) dX11_feed_64 rfl rfl rfl h
  · have h := h.2 c10
    refine g_iconst (pc := 13) (v := (-1 : Int32)) dX11_feed_13 (by decide) ?_
    exact g_iret (pc := 14) dX11_feed_14 rfl rfl rfl h
theorem dX11_back_0 : decode cX11_back 0 = .ok (.iload_n 1, 1) := by decide +kernel
theorem dX11_back_1 : decode cX11_back 1 = .ok (.ifCond .lt 14, 3) := by decide +kernel
theorem dX11_back_4 : decode cX11_back 4 = .ok (.iload_n 1, 1) := by decide +kernel
theorem dX11_back_5 : decode cX11_back 5 = .ok (.aload_n 0, 1) := by decide +kernel
theorem dX11_back_6 : decode cX11_back 6 = .ok (.getfield 20, 3) := by decide +kernel
theorem dX11_back_9 : decode cX11_back 9 = .ok (.getfield 78, 3) := by decide +kernel
theorem dX11_back_12 : decode cX11_back 12 = .ok (.if_icmp .le 5, 3) := by decide +kernel
theorem dX11_back_15 : decode cX11_back 15 = .ok (.iconst (-1), 1) := by decide +kernel
theorem dX11_back_16 : decode cX11_back 16 = .ok (.ireturn, 1) := by decide +kernel
theorem dX11_back_17 : decode cX11_back 17 = .ok (.aload_n 0, 1) := by decide +kernel
theorem dX11_back_18 : decode cX11_back 18 = .ok (.getfield 20, 3) := by decide +kernel
theorem dX11_back_21 : decode cX11_back 21 = .ok (.dup, 1) := by decide +kernel
theorem dX11_back_22 : decode cX11_back 22 = .ok (.getfield 78, 3) := by decide +kernel
theorem dX11_back_25 : decode cX11_back 25 = .ok (.iload_n 1, 1) := by decide +kernel
theorem dX11_back_26 : decode cX11_back 26 = .ok (.isub, 1) := by decide +kernel
theorem dX11_back_27 : decode cX11_back 27 = .ok (.putfield 78, 3) := by decide +kernel
theorem dX11_back_30 : decode cX11_back 30 = .ok (.aload_n 0, 1) := by decide +kernel
theorem dX11_back_31 : decode cX11_back 31 = .ok (.getfield 20, 3) := by decide +kernel
theorem dX11_back_34 : decode cX11_back 34 = .ok (.getfield 78, 3) := by decide +kernel
theorem dX11_back_37 : decode cX11_back 37 = .ok (.ireturn, 1) := by decide +kernel
theorem b_X11_back (mm : MM) (Q : Value → MM → Prop) (a1 : Int32) (h : (a1 < 0 → (Q (.int (-1 : Int32)) mm)) ∧ (¬ a1 < 0 → ((a1 ≤ (mm.1 5 4) → (Q (.int ((wI mm 5 4 ((mm.1 5 4) - a1)).1 5 4)) (wI mm 5 4 ((mm.1 5 4) - a1)))) ∧ (¬ a1 ≤ (mm.1 5 4) → (Q (.int (-1 : Int32)) mm))))) : Runs e_X11_back [.ref 0, .int a1] mm Q := by
  refine runs_of_G (L := [(0, .ref 0), (1, .int a1)]) pl_X11 (Nat.le_of_ble_eq_true rfl) rfl ?_
  refine g_iload_n (pc := 0) (x := a1) dX11_back_0 rfl ?_
  refine g_if_lt (pc := 1) (tgt := 15) dX11_back_1 (by decide) (fun c1 => ?_) (fun c1 => ?_)
  · have h := h.1 c1
    refine g_iconst (pc := 15) (v := (-1 : Int32)) dX11_back_15 (by decide) ?_
    exact g_iret (pc := 16) dX11_back_16 rfl rfl rfl h
  · have h := h.2 c1
    refine g_iload_n (pc := 4) (x := a1) dX11_back_4 rfl ?_
    refine g_aload_n (pc := 5) (x := 0) dX11_back_5 rfl ?_
    refine g_getR (pc := 6) (dd := 5) dX11_back_6 fo_X11_20 sh_0 rfl ?_
    refine g_getI (pc := 9) dX11_back_9 fo_X11_78 sh_5 rfl ?_
    refine g_icmp_le (pc := 12) (tgt := 17) dX11_back_12 (by decide) (fun c12 => ?_) (fun c12 => ?_)
    · have h := h.1 c12
      refine g_aload_n (pc := 17) (x := 0) dX11_back_17 rfl ?_
      refine g_getR (pc := 18) (dd := 5) dX11_back_18 fo_X11_20 sh_0 rfl ?_
      refine g_dup (pc := 21) dX11_back_21 rfl ?_
      refine g_getI (pc := 22) dX11_back_22 fo_X11_78 sh_5 rfl ?_
      refine g_iload_n (pc := 25) (x := a1) dX11_back_25 rfl ?_
      refine g_isub (pc := 26) dX11_back_26 ?_
      refine g_putI (pc := 27) dX11_back_27 fo_X11_78 sh_5 rfl rfl rfl ?_
      refine g_aload_n (pc := 30) (x := 0) dX11_back_30 rfl ?_
      refine g_getR (pc := 31) (dd := 5) dX11_back_31 fo_X11_20 sh_0 rfl ?_
      refine g_getI (pc := 34) dX11_back_34 fo_X11_78 sh_5 rfl ?_
      exact g_iret (pc := 37) dX11_back_37 rfl rfl rfl h
    · have h := h.2 c12
      refine g_iconst (pc := 15) (v := (-1 : Int32)) dX11_back_15 (by decide) ?_
      exact g_iret (pc := 16) dX11_back_16 rfl rfl rfl h
theorem dX11_read_0 : decode cX11_read 0 = .ok (.aload_n 0, 1) := by decide +kernel
theorem dX11_read_1 : decode cX11_read 1 = .ok (.getfield 20, 3) := by decide +kernel
theorem dX11_read_4 : decode cX11_read 4 = .ok (.invokevirtual 88, 3) := by decide +kernel
theorem dX11_read_7 : decode cX11_read 7 = .ok (.aload_n 0, 1) := by decide +kernel
theorem dX11_read_8 : decode cX11_read 8 = .ok (.getfield 10, 3) := by decide +kernel
theorem dX11_read_11 : decode cX11_read 11 = .ok (.invokevirtual 91, 3) := by decide +kernel
theorem dX11_read_14 : decode cX11_read 14 = .ok (.istore_n 1, 1) := by decide +kernel
theorem dX11_read_15 : decode cX11_read 15 = .ok (.aload_n 0, 1) := by decide +kernel
theorem dX11_read_16 : decode cX11_read 16 = .ok (.getfield 20, 3) := by decide +kernel
theorem dX11_read_19 : decode cX11_read 19 = .ok (.iconst 0, 1) := by decide +kernel
theorem dX11_read_20 : decode cX11_read 20 = .ok (.putfield 78, 3) := by decide +kernel
theorem dX11_read_23 : decode cX11_read 23 = .ok (.iload_n 1, 1) := by decide +kernel
theorem dX11_read_24 : decode cX11_read 24 = .ok (.ifCond .ne 7, 3) := by decide +kernel
theorem dX11_read_27 : decode cX11_read 27 = .ok (.aload_n 0, 1) := by decide +kernel
theorem dX11_read_28 : decode cX11_read 28 = .ok (.invokevirtual 95, 3) := by decide +kernel
theorem dX11_read_31 : decode cX11_read 31 = .ok (.iload_n 1, 1) := by decide +kernel
theorem dX11_read_32 : decode cX11_read 32 = .ok (.ireturn, 1) := by decide +kernel
theorem b_X11_read (mm : MM) (Q : Value → MM → Prop) (h : ∃ Pm1 : Value → MM → Prop, Runs e_X7_scan [.ref 5] mm Pm1 ∧ ∀ m1, Pm1 .null m1 → (∃ Pm2 : Value → MM → Prop, Runs e_X4_readText [.ref 1] m1 Pm2 ∧ ∀ (r2 : Int32) (m2 : MM), Pm2 (.int r2) m2 → ((¬ r2 = 0 → (Q (.int r2) (wI m2 5 4 (0 : Int32)))) ∧ (r2 = 0 → (∃ Pm3 : Value → MM → Prop, Runs e_X11_moveIn [.ref 0] (wI m2 5 4 (0 : Int32)) Pm3 ∧ ∀ m3, Pm3 .null m3 → (Q (.int r2) m3)))))) : Runs e_X11_read [.ref 0] mm Q := by
  refine runs_of_G (L := [(0, .ref 0)]) pl_X11 (Nat.le_of_ble_eq_true rfl) rfl ?_
  refine g_aload_n (pc := 0) (x := 0) dX11_read_0 rfl ?_
  refine g_getR (pc := 1) (dd := 5) dX11_read_1 fo_X11_20 sh_0 rfl ?_
  obtain ⟨Pm1, hRm1, h⟩ := h
  refine g_callV (pc := 4) (as := []) dX11_read_4 cw_X11_88 (by decide) rfl rfl sh_5 (Nat.le_of_ble_eq_true rfl) hRm1 ?_
  intro r_ m1 hz_ hp_
  obtain rfl := hz_
  have h := h m1 hp_
  refine g_aload_n (pc := 7) (x := 0) dX11_read_7 rfl ?_
  refine g_getR (pc := 8) (dd := 1) dX11_read_8 fo_X11_10 sh_0 rfl ?_
  obtain ⟨Pm2, hRm2, h⟩ := h
  refine g_callV (pc := 11) (as := []) dX11_read_11 cw_X11_91 (by decide) rfl rfl sh_1 (Nat.le_of_ble_eq_true rfl) hRm2 ?_
  intro r_ m2 hz_ hp_
  obtain ⟨r2, rfl⟩ := hz_
  have h := h r2 m2 hp_
  refine g_istore_n (pc := 14) (L' := [(0, .ref 0), (1, .int r2)]) dX11_read_14 (Nat.le_of_ble_eq_true rfl) rfl ?_
  refine g_aload_n (pc := 15) (x := 0) dX11_read_15 rfl ?_
  refine g_getR (pc := 16) (dd := 5) dX11_read_16 fo_X11_20 sh_0 rfl ?_
  refine g_iconst (pc := 19) (v := (0 : Int32)) dX11_read_19 (by decide) ?_
  refine g_putI (pc := 20) dX11_read_20 fo_X11_78 sh_5 rfl rfl rfl ?_
  refine g_iload_n (pc := 23) (x := r2) dX11_read_23 rfl ?_
  refine g_if_ne (pc := 24) (tgt := 31) dX11_read_24 (by decide) (fun c24 => ?_) (fun c24 => ?_)
  · have h := h.1 c24
    refine g_iload_n (pc := 31) (x := r2) dX11_read_31 rfl ?_
    exact g_iret (pc := 32) dX11_read_32 rfl rfl rfl h
  · have h := h.2 c24
    refine g_aload_n (pc := 27) (x := 0) dX11_read_27 rfl ?_
    obtain ⟨Pm3, hRm3, h⟩ := h
    refine g_callV (pc := 28) (as := []) dX11_read_28 cw_X11_95 (by decide) rfl rfl sh_0 (Nat.le_of_ble_eq_true rfl) hRm3 ?_
    intro r_ m3 hz_ hp_
    obtain rfl := hz_
    have h := h m3 hp_
    refine g_iload_n (pc := 31) (x := r2) dX11_read_31 rfl ?_
    exact g_iret (pc := 32) dX11_read_32 rfl rfl rfl h
theorem dX11_moveIn_0 : decode cX11_moveIn 0 = .ok (.aload_n 0, 1) := by decide +kernel
theorem dX11_moveIn_1 : decode cX11_moveIn 1 = .ok (.getfield 69, 3) := by decide +kernel
theorem dX11_moveIn_4 : decode cX11_moveIn 4 = .ok (.astore_n 1, 1) := by decide +kernel
theorem dX11_moveIn_5 : decode cX11_moveIn 5 = .ok (.aload_n 0, 1) := by decide +kernel
theorem dX11_moveIn_6 : decode cX11_moveIn 6 = .ok (.aload_n 0, 1) := by decide +kernel
theorem dX11_moveIn_7 : decode cX11_moveIn 7 = .ok (.getfield 10, 3) := by decide +kernel
theorem dX11_moveIn_10 : decode cX11_moveIn 10 = .ok (.getfield 98, 3) := by decide +kernel
theorem dX11_moveIn_13 : decode cX11_moveIn 13 = .ok (.putfield 69, 3) := by decide +kernel
theorem dX11_moveIn_16 : decode cX11_moveIn 16 = .ok (.aload_n 0, 1) := by decide +kernel
theorem dX11_moveIn_17 : decode cX11_moveIn 17 = .ok (.getfield 10, 3) := by decide +kernel
theorem dX11_moveIn_20 : decode cX11_moveIn 20 = .ok (.aload_n 1, 1) := by decide +kernel
theorem dX11_moveIn_21 : decode cX11_moveIn 21 = .ok (.putfield 98, 3) := by decide +kernel
theorem dX11_moveIn_24 : decode cX11_moveIn 24 = .ok (.aload_n 0, 1) := by decide +kernel
theorem dX11_moveIn_25 : decode cX11_moveIn 25 = .ok (.getfield 74, 3) := by decide +kernel
theorem dX11_moveIn_28 : decode cX11_moveIn 28 = .ok (.astore_n 2, 1) := by decide +kernel
theorem dX11_moveIn_29 : decode cX11_moveIn 29 = .ok (.aload_n 0, 1) := by decide +kernel
theorem dX11_moveIn_30 : decode cX11_moveIn 30 = .ok (.aload_n 0, 1) := by decide +kernel
theorem dX11_moveIn_31 : decode cX11_moveIn 31 = .ok (.getfield 10, 3) := by decide +kernel
theorem dX11_moveIn_34 : decode cX11_moveIn 34 = .ok (.getfield 99, 3) := by decide +kernel
theorem dX11_moveIn_37 : decode cX11_moveIn 37 = .ok (.putfield 74, 3) := by decide +kernel
theorem dX11_moveIn_40 : decode cX11_moveIn 40 = .ok (.aload_n 0, 1) := by decide +kernel
theorem dX11_moveIn_41 : decode cX11_moveIn 41 = .ok (.getfield 10, 3) := by decide +kernel
theorem dX11_moveIn_44 : decode cX11_moveIn 44 = .ok (.aload_n 2, 1) := by decide +kernel
theorem dX11_moveIn_45 : decode cX11_moveIn 45 = .ok (.putfield 99, 3) := by decide +kernel
theorem dX11_moveIn_48 : decode cX11_moveIn 48 = .ok (.aload_n 0, 1) := by decide +kernel
theorem dX11_moveIn_49 : decode cX11_moveIn 49 = .ok (.getfield 31, 3) := by decide +kernel
theorem dX11_moveIn_52 : decode cX11_moveIn 52 = .ok (.invokevirtual 102, 3) := by decide +kernel
theorem dX11_moveIn_55 : decode cX11_moveIn 55 = .ok (.aload_n 0, 1) := by decide +kernel
theorem dX11_moveIn_56 : decode cX11_moveIn 56 = .ok (.getfield 52, 3) := by decide +kernel
theorem dX11_moveIn_59 : decode cX11_moveIn 59 = .ok (.iconst 0, 1) := by decide +kernel
theorem dX11_moveIn_60 : decode cX11_moveIn 60 = .ok (.putfield 105, 3) := by decide +kernel
theorem dX11_moveIn_63 : decode cX11_moveIn 63 = .ok (.iconst 0, 1) := by decide +kernel
theorem dX11_moveIn_64 : decode cX11_moveIn 64 = .ok (.istore_n 3, 1) := by decide +kernel
theorem dX11_moveIn_65 : decode cX11_moveIn 65 = .ok (.iload_n 3, 1) := by decide +kernel
theorem dX11_moveIn_66 : decode cX11_moveIn 66 = .ok (.iconst 2, 1) := by decide +kernel
theorem dX11_moveIn_67 : decode cX11_moveIn 67 = .ok (.if_icmp .ge 16, 3) := by decide +kernel
theorem dX11_moveIn_70 : decode cX11_moveIn 70 = .ok (.aload_n 0, 1) := by decide +kernel
theorem dX11_moveIn_71 : decode cX11_moveIn 71 = .ok (.getfield 62, 3) := by decide +kernel
theorem dX11_moveIn_74 : decode cX11_moveIn 74 = .ok (.iload_n 3, 1) := by decide +kernel
theorem dX11_moveIn_75 : decode cX11_moveIn 75 = .ok (.iconst 0, 1) := by decide +kernel
theorem dX11_moveIn_76 : decode cX11_moveIn 76 = .ok (.bastore, 1) := by decide +kernel
theorem dX11_moveIn_77 : decode cX11_moveIn 77 = .ok (.iinc 3 1, 3) := by decide +kernel
theorem dX11_moveIn_80 : decode cX11_moveIn 80 = .ok (.goto (-15), 3) := by decide +kernel
theorem dX11_moveIn_83 : decode cX11_moveIn 83 = .ok (.return_, 1) := by decide +kernel
theorem b_X11_moveIn (mm : MM) (Q : Value → MM → Prop) (h : AtTown (mm.2.2 0 9) ∧ (AtTown (mm.2.2 1 4) ∧ (AtState ((wRf (wRf mm 0 9 (mm.2.2 1 4)) 1 4 (mm.2.2 0 9)).2.2 0 10) ∧ (AtState ((wRf (wRf mm 0 9 (mm.2.2 1 4)) 1 4 (mm.2.2 0 9)).2.2 1 5) ∧ (∃ Pm5 : Value → MM → Prop, Runs e_X9_dropLots [.ref 41] (wRf (wRf (wRf (wRf mm 0 9 (mm.2.2 1 4)) 1 4 (mm.2.2 0 9)) 0 10 ((wRf (wRf mm 0 9 (mm.2.2 1 4)) 1 4 (mm.2.2 0 9)).2.2 1 5)) 1 5 ((wRf (wRf mm 0 9 (mm.2.2 1 4)) 1 4 (mm.2.2 0 9)).2.2 0 10)) Pm5 ∧ ∀ m5, Pm5 .null m5 → (G e_X11_moveIn 65 [(0, .ref 0), (3, .int (0 : Int32))] [] (wI m5 95 2 (0 : Int32)) Q)))))) : Runs e_X11_moveIn [.ref 0] mm Q := by
  refine runs_of_G (L := [(0, .ref 0)]) pl_X11 (Nat.le_of_ble_eq_true rfl) rfl ?_
  refine g_aload_n (pc := 0) (x := 0) dX11_moveIn_0 rfl ?_
  refine g_getVt (pc := 1) (t := (mm.2.2 0 9)) dX11_moveIn_1 fo_X11_69 sh_0 rfl rfl ?_
  have hr0 := h.1
  have h := h.2
  refine g_astore_n (pc := 4) (L' := [(0, .ref 0), (1, .ref (mm.2.2 0 9))]) dX11_moveIn_4 (Nat.le_of_ble_eq_true rfl) rfl ?_
  refine g_aload_n (pc := 5) (x := 0) dX11_moveIn_5 rfl ?_
  refine g_aload_n (pc := 6) (x := 0) dX11_moveIn_6 rfl ?_
  refine g_getR (pc := 7) (dd := 1) dX11_moveIn_7 fo_X11_10 sh_0 rfl ?_
  refine g_getVt (pc := 10) (t := (mm.2.2 1 4)) dX11_moveIn_10 fo_X11_98 sh_1 rfl rfl ?_
  have hr1 := h.1
  have h := h.2
  refine g_putV (pc := 13) dX11_moveIn_13 fo_X11_69 sh_0 rfl ?_
  refine g_aload_n (pc := 16) (x := 0) dX11_moveIn_16 rfl ?_
  refine g_getR (pc := 17) (dd := 1) dX11_moveIn_17 fo_X11_10 sh_0 rfl ?_
  refine g_aload_n (pc := 20) (x := mm.2.2 0 9) dX11_moveIn_20 rfl ?_
  refine g_putV (pc := 21) dX11_moveIn_21 fo_X11_98 sh_1 rfl ?_
  refine g_aload_n (pc := 24) (x := 0) dX11_moveIn_24 rfl ?_
  refine g_getVt (pc := 25) (t := ((wRf (wRf mm 0 9 (mm.2.2 1 4)) 1 4 (mm.2.2 0 9)).2.2 0 10)) dX11_moveIn_25 fo_X11_74 sh_0 rfl rfl ?_
  have hr2 := h.1
  have h := h.2
  refine g_astore_n (pc := 28) (L' := [(0, .ref 0), (1, .ref (mm.2.2 0 9)), (2, .ref ((wRf (wRf mm 0 9 (mm.2.2 1 4)) 1 4 (mm.2.2 0 9)).2.2 0 10))]) dX11_moveIn_28 (Nat.le_of_ble_eq_true rfl) rfl ?_
  refine g_aload_n (pc := 29) (x := 0) dX11_moveIn_29 rfl ?_
  refine g_aload_n (pc := 30) (x := 0) dX11_moveIn_30 rfl ?_
  refine g_getR (pc := 31) (dd := 1) dX11_moveIn_31 fo_X11_10 sh_0 rfl ?_
  refine g_getVt (pc := 34) (t := ((wRf (wRf mm 0 9 (mm.2.2 1 4)) 1 4 (mm.2.2 0 9)).2.2 1 5)) dX11_moveIn_34 fo_X11_99 sh_1 rfl rfl ?_
  have hr3 := h.1
  have h := h.2
  refine g_putV (pc := 37) dX11_moveIn_37 fo_X11_74 sh_0 rfl ?_
  refine g_aload_n (pc := 40) (x := 0) dX11_moveIn_40 rfl ?_
  refine g_getR (pc := 41) (dd := 1) dX11_moveIn_41 fo_X11_10 sh_0 rfl ?_
  refine g_aload_n (pc := 44) (x := (wRf (wRf mm 0 9 (mm.2.2 1 4)) 1 4 (mm.2.2 0 9)).2.2 0 10) dX11_moveIn_44 rfl ?_
  refine g_putV (pc := 45) dX11_moveIn_45 fo_X11_99 sh_1 rfl ?_
  refine g_aload_n (pc := 48) (x := 0) dX11_moveIn_48 rfl ?_
  refine g_getR (pc := 49) (dd := 41) dX11_moveIn_49 fo_X11_31 sh_0 rfl ?_
  obtain ⟨Pm5, hRm5, h⟩ := h
  refine g_callV (pc := 52) (as := []) dX11_moveIn_52 cw_X11_102 (by decide) rfl rfl sh_41 (Nat.le_of_ble_eq_true rfl) hRm5 ?_
  intro r_ m5 hz_ hp_
  obtain rfl := hz_
  have h := h m5 hp_
  refine g_aload_n (pc := 55) (x := 0) dX11_moveIn_55 rfl ?_
  refine g_getR (pc := 56) (dd := 95) dX11_moveIn_56 fo_X11_52 sh_0 rfl ?_
  refine g_iconst (pc := 59) (v := (0 : Int32)) dX11_moveIn_59 (by decide) ?_
  refine g_putI (pc := 60) dX11_moveIn_60 fo_X11_105 sh_95 rfl rfl rfl ?_
  refine g_iconst (pc := 63) (v := (0 : Int32)) dX11_moveIn_63 (by decide) ?_
  refine g_istore_n (pc := 64) (L' := [(0, .ref 0), (1, .ref (mm.2.2 0 9)), (2, .ref ((wRf (wRf mm 0 9 (mm.2.2 1 4)) 1 4 (mm.2.2 0 9)).2.2 0 10)), (3, .int (0 : Int32))]) dX11_moveIn_64 (Nat.le_of_ble_eq_true rfl) rfl ?_
  refine g_sub (L' := [(0, .ref 0), (3, .int (0 : Int32))]) [0, 3] rfl ?_
  exact h
theorem b_X11_moveIn_65 (mm : MM) (Q : Value → MM → Prop) (l3 : Int32) (h : ((2 : Int32) ≤ l3 → (Q .null mm)) ∧ (¬ (2 : Int32) ≤ l3 → (vp_in l3 2 ∧ (G e_X11_moveIn 65 [(0, .ref 0), (3, .int (l3 + (1 : Int32)))] [] (wI mm 99 (l3.toNatClampNeg) (vp_nar .boolean (0 : Int32))) Q)))) : G e_X11_moveIn 65 [(0, .ref 0), (3, .int l3)] [] mm Q := by
  refine g_iload_n (pc := 65) (x := l3) dX11_moveIn_65 rfl ?_
  refine g_iconst (pc := 66) (v := (2 : Int32)) dX11_moveIn_66 (by decide) ?_
  refine g_icmp_ge (pc := 67) (tgt := 83) dX11_moveIn_67 (by decide) (fun c67 => ?_) (fun c67 => ?_)
  · have h := h.1 c67
    exact g_vret (pc := 83) dX11_moveIn_83 rfl rfl h
  · have h := h.2 c67
    refine g_aload_n (pc := 70) (x := 0) dX11_moveIn_70 rfl ?_
    refine g_getR (pc := 71) (dd := 99) dX11_moveIn_71 fo_X11_62 sh_0 rfl ?_
    refine g_iload_n (pc := 74) (x := l3) dX11_moveIn_74 rfl ?_
    refine g_iconst (pc := 75) (v := (0 : Int32)) dX11_moveIn_75 (by decide) ?_
    refine g_zastore (pc := 76) dX11_moveIn_76 sh_99 h.1 ?_
    have h := h.2
    refine g_iinc (pc := 77) (x := l3) (v := (l3 + (1 : Int32))) (L' := [(0, .ref 0), (3, .int (l3 + (1 : Int32)))]) dX11_moveIn_77 rfl rfl (Nat.le_of_ble_eq_true rfl) rfl ?_
    refine g_goto (pc := 80) (tgt := 65) dX11_moveIn_80 (by decide) ?_
    exact h
theorem dX11_place_0 : decode cX11_place 0 = .ok (.aload_n 0, 1) := by decide +kernel
theorem dX11_place_1 : decode cX11_place 1 = .ok (.getfield 10, 3) := by decide +kernel
theorem dX11_place_4 : decode cX11_place 4 = .ok (.getfield 106, 3) := by decide +kernel
theorem dX11_place_7 : decode cX11_place 7 = .ok (.ireturn, 1) := by decide +kernel
noncomputable def v_X11_place (mm : MM) : Int32 := (mm.1 1 8)
theorem rv_X11_place (mm : MM) : Runs e_X11_place [.ref 0] mm (fun r m_ => r = .int (v_X11_place mm) ∧ mm = m_) := by
  refine runs_of_G (L := [(0, .ref 0)]) pl_X11 (Nat.le_of_ble_eq_true rfl) rfl ?_
  refine g_aload_n (pc := 0) (x := 0) dX11_place_0 rfl ?_
  refine g_getR (pc := 1) (dd := 1) dX11_place_1 fo_X11_10 sh_0 rfl ?_
  refine g_getI (pc := 4) dX11_place_4 fo_X11_106 sh_1 rfl ?_
  exact g_iret (pc := 7) dX11_place_7 rfl rfl rfl ⟨rfl, rfl⟩
theorem dX11_isHouse_0 : decode cX11_isHouse 0 = .ok (.iload_n 1, 1) := by decide +kernel
theorem dX11_isHouse_1 : decode cX11_isHouse 1 = .ok (.ifCond .lt 18, 3) := by decide +kernel
theorem dX11_isHouse_4 : decode cX11_isHouse 4 = .ok (.iload_n 1, 1) := by decide +kernel
theorem dX11_isHouse_5 : decode cX11_isHouse 5 = .ok (.aload_n 0, 1) := by decide +kernel
theorem dX11_isHouse_6 : decode cX11_isHouse 6 = .ok (.getfield 69, 3) := by decide +kernel
theorem dX11_isHouse_9 : decode cX11_isHouse 9 = .ok (.getfield 178, 3) := by decide +kernel
theorem dX11_isHouse_12 : decode cX11_isHouse 12 = .ok (.if_icmp .ge 7, 3) := by decide +kernel
theorem dX11_isHouse_15 : decode cX11_isHouse 15 = .ok (.iconst 1, 1) := by decide +kernel
theorem dX11_isHouse_16 : decode cX11_isHouse 16 = .ok (.goto 4, 3) := by decide +kernel
theorem dX11_isHouse_19 : decode cX11_isHouse 19 = .ok (.iconst 0, 1) := by decide +kernel
theorem dX11_isHouse_20 : decode cX11_isHouse 20 = .ok (.ireturn, 1) := by decide +kernel
def o_X11_isHouse (mm : MM) (a1 : Int32) : Prop := (a1 < 0 → (True)) ∧ (¬ a1 < 0 → (AtTown (mm.2.2 0 9) ∧ (((mm.1 (mm.2.2 0 9) 8) ≤ a1 → (True)) ∧ (¬ (mm.1 (mm.2.2 0 9) 8) ≤ a1 → (True)))))
def p_X11_isHouse (mm : MM) (a1 : Int32) : Prop := (¬ a1 < 0 ∧ ¬ (mm.1 (mm.2.2 0 9) 8) ≤ a1)
theorem rv_X11_isHouse (mm : MM) (a1 : Int32) (h : o_X11_isHouse mm a1) : Runs e_X11_isHouse [.ref 0, .int a1] mm (fun r m_ => ((p_X11_isHouse mm a1 ∧ r = .int 1) ∨ (¬ p_X11_isHouse mm a1 ∧ r = .int 0)) ∧ mm = m_) := by
  refine runs_of_G (L := [(0, .ref 0), (1, .int a1)]) pl_X11 (Nat.le_of_ble_eq_true rfl) rfl ?_
  unfold o_X11_isHouse at h
  refine g_iload_n (pc := 0) (x := a1) dX11_isHouse_0 rfl ?_
  refine g_if_lt (pc := 1) (tgt := 19) dX11_isHouse_1 (by decide) (fun c1 => ?_) (fun c1 => ?_)
  · have c1_0 : a1 < 0 := c1
    have h := h.1 c1
    refine g_iconst (pc := 19) (v := (0 : Int32)) dX11_isHouse_19 (by decide) ?_
    exact g_iret (pc := 20) dX11_isHouse_20 rfl rfl (nar_B isB0) ⟨Or.inr ⟨(show ¬ p_X11_isHouse mm a1 from (fun h_ => (h_.1 c1_0))), rfl⟩, rfl⟩
  · have c1_0 : ¬ a1 < 0 := c1
    have h := h.2 c1
    refine g_iload_n (pc := 4) (x := a1) dX11_isHouse_4 rfl ?_
    refine g_aload_n (pc := 5) (x := 0) dX11_isHouse_5 rfl ?_
    refine g_getVt (pc := 6) (t := (mm.2.2 0 9)) dX11_isHouse_6 fo_X11_69 sh_0 rfl rfl ?_
    have hr0 := h.1
    have h := h.2
    refine g_getI (pc := 9) dX11_isHouse_9 fo_X11_178 (AtTown_0 hr0) rfl ?_
    refine g_icmp_ge (pc := 12) (tgt := 19) dX11_isHouse_12 (by decide) (fun c12 => ?_) (fun c12 => ?_)
    · have c12_1 : (mm.1 (mm.2.2 0 9) 8) ≤ a1 := c12
      refine g_iconst (pc := 19) (v := (0 : Int32)) dX11_isHouse_19 (by decide) ?_
      exact g_iret (pc := 20) dX11_isHouse_20 rfl rfl (nar_B isB0) ⟨Or.inr ⟨(show ¬ p_X11_isHouse mm a1 from (fun h_ => (not_not_intro c12_1) h_.2)), rfl⟩, rfl⟩
    · have c12_1 : ¬ (mm.1 (mm.2.2 0 9) 8) ≤ a1 := c12
      refine g_iconst (pc := 15) (v := (1 : Int32)) dX11_isHouse_15 (by decide) ?_
      refine g_goto (pc := 16) (tgt := 20) dX11_isHouse_16 (by decide) ?_
      exact g_iret (pc := 20) dX11_isHouse_20 rfl rfl (nar_B isB1) ⟨Or.inl ⟨(show p_X11_isHouse mm a1 from ⟨c1_0, c12_1⟩), rfl⟩, rfl⟩

theorem dX12_worst_0 : decode cX12_worst 0 = .ok (.iload_n 2, 1) := by decide +kernel
theorem dX12_worst_1 : decode cX12_worst 1 = .ok (.invokestatic 396, 3) := by decide +kernel
theorem dX12_worst_4 : decode cX12_worst 4 = .ok (.ifCond .ne 5, 3) := by decide +kernel
theorem dX12_worst_7 : decode cX12_worst 7 = .ok (.iconst (-1), 1) := by decide +kernel
theorem dX12_worst_8 : decode cX12_worst 8 = .ok (.ireturn, 1) := by decide +kernel
theorem dX12_worst_9 : decode cX12_worst 9 = .ok (.bipush (-2), 2) := by decide +kernel
theorem dX12_worst_11 : decode cX12_worst 11 = .ok (.istore_n 3, 1) := by decide +kernel
theorem dX12_worst_12 : decode cX12_worst 12 = .ok (.iconst 0, 1) := by decide +kernel
theorem dX12_worst_13 : decode cX12_worst 13 = .ok (.istore 4, 2) := by decide +kernel
theorem dX12_worst_15 : decode cX12_worst 15 = .ok (.iconst 0, 1) := by decide +kernel
theorem dX12_worst_16 : decode cX12_worst 16 = .ok (.istore 5, 2) := by decide +kernel
theorem dX12_worst_18 : decode cX12_worst 18 = .ok (.iload 5, 2) := by decide +kernel
theorem dX12_worst_20 : decode cX12_worst 20 = .ok (.aload_n 0, 1) := by decide +kernel
theorem dX12_worst_21 : decode cX12_worst 21 = .ok (.iload_n 1, 1) := by decide +kernel
theorem dX12_worst_22 : decode cX12_worst 22 = .ok (.invokevirtual 411, 3) := by decide +kernel
theorem dX12_worst_25 : decode cX12_worst 25 = .ok (.if_icmp .ge 40, 3) := by decide +kernel
theorem dX12_worst_28 : decode cX12_worst 28 = .ok (.aload_n 0, 1) := by decide +kernel
theorem dX12_worst_29 : decode cX12_worst 29 = .ok (.iload 5, 2) := by decide +kernel
theorem dX12_worst_31 : decode cX12_worst 31 = .ok (.iload_n 1, 1) := by decide +kernel
theorem dX12_worst_32 : decode cX12_worst 32 = .ok (.iload_n 2, 1) := by decide +kernel
theorem dX12_worst_33 : decode cX12_worst 33 = .ok (.invokevirtual 415, 3) := by decide +kernel
theorem dX12_worst_36 : decode cX12_worst 36 = .ok (.istore 6, 2) := by decide +kernel
theorem dX12_worst_38 : decode cX12_worst 38 = .ok (.iload_n 3, 1) := by decide +kernel
theorem dX12_worst_39 : decode cX12_worst 39 = .ok (.ifCond .lt 13, 3) := by decide +kernel
theorem dX12_worst_42 : decode cX12_worst 42 = .ok (.iload 6, 2) := by decide +kernel
theorem dX12_worst_44 : decode cX12_worst 44 = .ok (.iload 4, 2) := by decide +kernel
theorem dX12_worst_46 : decode cX12_worst 46 = .ok (.if_icmp .gt 6, 3) := by decide +kernel
theorem dX12_worst_49 : decode cX12_worst 49 = .ok (.goto 10, 3) := by decide +kernel
theorem dX12_worst_52 : decode cX12_worst 52 = .ok (.iload 5, 2) := by decide +kernel
theorem dX12_worst_54 : decode cX12_worst 54 = .ok (.istore_n 3, 1) := by decide +kernel
theorem dX12_worst_55 : decode cX12_worst 55 = .ok (.iload 6, 2) := by decide +kernel
theorem dX12_worst_57 : decode cX12_worst 57 = .ok (.istore 4, 2) := by decide +kernel
theorem dX12_worst_59 : decode cX12_worst 59 = .ok (.iinc 5 1, 3) := by decide +kernel
theorem dX12_worst_62 : decode cX12_worst 62 = .ok (.goto (-44), 3) := by decide +kernel
theorem dX12_worst_65 : decode cX12_worst 65 = .ok (.iload_n 3, 1) := by decide +kernel
theorem dX12_worst_66 : decode cX12_worst 66 = .ok (.ireturn, 1) := by decide +kernel
theorem b_X12_worst (mm : MM) (Q : Value → MM → Prop) (a1 : Int32) (a2 : Int32) (h : (p_X12_isHour mm a2 → (G e_X12_worst 18 [(0, .ref 156), (1, .int a1), (2, .int a2), (3, .int (-2 : Int32)), (4, .int (0 : Int32)), (5, .int (0 : Int32))] [] mm Q)) ∧ (¬ p_X12_isHour mm a2 → (Q (.int (-1 : Int32)) mm))) : Runs e_X12_worst [.ref 156, .int a1, .int a2] mm Q := by
  refine runs_of_G (L := [(0, .ref 156), (1, .int a1), (2, .int a2)]) pl_X12 (Nat.le_of_ble_eq_true rfl) rfl ?_
  refine g_iload_n (pc := 0) (x := a2) dX12_worst_0 rfl ?_
  refine g_callS (pc := 1) (as := [.int a2]) dX12_worst_1 cw_X12_396 (by decide) rfl rfl (Nat.le_of_ble_eq_true rfl) (rv_X12_isHour mm a2) ?_
  rintro r_ m_ hz_ ⟨⟨p_, rfl⟩ | ⟨p_, rfl⟩, rfl⟩
  · have h := h.1 p_
    refine g_if_ne (pc := 4) (tgt := 9) dX12_worst_4 (by decide) (fun _ => ?_) (fun c4 => absurd c4 (by decide))
    refine g_bipush (pc := 9) (v := (-2 : Int32)) dX12_worst_9 (by decide) ?_
    refine g_istore_n (pc := 11) (L' := [(0, .ref 156), (1, .int a1), (2, .int a2), (3, .int (-2 : Int32))]) dX12_worst_11 (Nat.le_of_ble_eq_true rfl) rfl ?_
    refine g_iconst (pc := 12) (v := (0 : Int32)) dX12_worst_12 (by decide) ?_
    refine g_istore (pc := 13) (L' := [(0, .ref 156), (1, .int a1), (2, .int a2), (3, .int (-2 : Int32)), (4, .int (0 : Int32))]) dX12_worst_13 (Nat.le_of_ble_eq_true rfl) rfl ?_
    refine g_iconst (pc := 15) (v := (0 : Int32)) dX12_worst_15 (by decide) ?_
    refine g_istore (pc := 16) (L' := [(0, .ref 156), (1, .int a1), (2, .int a2), (3, .int (-2 : Int32)), (4, .int (0 : Int32)), (5, .int (0 : Int32))]) dX12_worst_16 (Nat.le_of_ble_eq_true rfl) rfl ?_
    exact h
  · have h := h.2 p_
    refine g_if_ne (pc := 4) (tgt := 9) dX12_worst_4 (by decide) (fun c4 => absurd c4 (by decide)) (fun _ => ?_)
    refine g_iconst (pc := 7) (v := (-1 : Int32)) dX12_worst_7 (by decide) ?_
    exact g_iret (pc := 8) dX12_worst_8 rfl rfl rfl h
theorem b_X12_worst_18 (mm : MM) (Q : Value → MM → Prop) (l1 : Int32) (l2 : Int32) (l3 : Int32) (l4 : Int32) (l5 : Int32) (h : ((v_X12_manyOf mm l1) ≤ l5 → (Q (.int l3) mm)) ∧ (¬ (v_X12_manyOf mm l1) ≤ l5 → (∃ Pm1 : Value → MM → Prop, Runs e_X12_cutOf [.ref 156, .int l5, .int l1, .int l2] mm Pm1 ∧ ∀ (r1 : Int32) (m1 : MM), Pm1 (.int r1) m1 → ((l3 < 0 → (G e_X12_worst 18 [(0, .ref 156), (1, .int l1), (2, .int l2), (3, .int l5), (4, .int r1), (5, .int (l5 + (1 : Int32)))] [] m1 Q)) ∧ (¬ l3 < 0 → ((l4 < r1 → (G e_X12_worst 18 [(0, .ref 156), (1, .int l1), (2, .int l2), (3, .int l5), (4, .int r1), (5, .int (l5 + (1 : Int32)))] [] m1 Q)) ∧ (¬ l4 < r1 → (G e_X12_worst 18 [(0, .ref 156), (1, .int l1), (2, .int l2), (3, .int l3), (4, .int l4), (5, .int (l5 + (1 : Int32)))] [] m1 Q)))))))) : G e_X12_worst 18 [(0, .ref 156), (1, .int l1), (2, .int l2), (3, .int l3), (4, .int l4), (5, .int l5)] [] mm Q := by
  refine g_iload (pc := 18) (x := l5) dX12_worst_18 rfl ?_
  refine g_aload_n (pc := 20) (x := 156) dX12_worst_20 rfl ?_
  refine g_iload_n (pc := 21) (x := l1) dX12_worst_21 rfl ?_
  refine g_callV (pc := 22) (as := [.int l1]) dX12_worst_22 cw_X12_411 (by decide) rfl rfl sh_156 (Nat.le_of_ble_eq_true rfl) (rv_X12_manyOf mm l1) ?_
  rintro r_ m_ hz_ ⟨rfl, rfl⟩
  refine g_icmp_ge (pc := 25) (tgt := 65) dX12_worst_25 (by decide) (fun c25 => ?_) (fun c25 => ?_)
  · have h := h.1 c25
    refine g_iload_n (pc := 65) (x := l3) dX12_worst_65 rfl ?_
    exact g_iret (pc := 66) dX12_worst_66 rfl rfl rfl h
  · have h := h.2 c25
    refine g_aload_n (pc := 28) (x := 156) dX12_worst_28 rfl ?_
    refine g_iload (pc := 29) (x := l5) dX12_worst_29 rfl ?_
    refine g_iload_n (pc := 31) (x := l1) dX12_worst_31 rfl ?_
    refine g_iload_n (pc := 32) (x := l2) dX12_worst_32 rfl ?_
    obtain ⟨Pm1, hRm1, h⟩ := h
    refine g_callV (pc := 33) (as := [.int l5, .int l1, .int l2]) dX12_worst_33 cw_X12_415 (by decide) rfl rfl sh_156 (Nat.le_of_ble_eq_true rfl) hRm1 ?_
    intro r_ m1 hz_ hp_
    obtain ⟨r1, rfl⟩ := hz_
    have h := h r1 m1 hp_
    refine g_istore (pc := 36) (L' := [(0, .ref 156), (1, .int l1), (2, .int l2), (3, .int l3), (4, .int l4), (5, .int l5), (6, .int r1)]) dX12_worst_36 (Nat.le_of_ble_eq_true rfl) rfl ?_
    refine g_iload_n (pc := 38) (x := l3) dX12_worst_38 rfl ?_
    refine g_if_lt (pc := 39) (tgt := 52) dX12_worst_39 (by decide) (fun c39 => ?_) (fun c39 => ?_)
    · have h := h.1 c39
      refine g_iload (pc := 52) (x := l5) dX12_worst_52 rfl ?_
      refine g_istore_n (pc := 54) (L' := [(0, .ref 156), (1, .int l1), (2, .int l2), (3, .int l5), (4, .int l4), (5, .int l5), (6, .int r1)]) dX12_worst_54 (Nat.le_of_ble_eq_true rfl) rfl ?_
      refine g_iload (pc := 55) (x := r1) dX12_worst_55 rfl ?_
      refine g_istore (pc := 57) (L' := [(0, .ref 156), (1, .int l1), (2, .int l2), (3, .int l5), (4, .int r1), (5, .int l5), (6, .int r1)]) dX12_worst_57 (Nat.le_of_ble_eq_true rfl) rfl ?_
      refine g_iinc (pc := 59) (x := l5) (v := (l5 + (1 : Int32))) (L' := [(0, .ref 156), (1, .int l1), (2, .int l2), (3, .int l5), (4, .int r1), (5, .int (l5 + (1 : Int32))), (6, .int r1)]) dX12_worst_59 rfl rfl (Nat.le_of_ble_eq_true rfl) rfl ?_
      refine g_goto (pc := 62) (tgt := 18) dX12_worst_62 (by decide) ?_
      refine g_sub (L' := [(0, .ref 156), (1, .int l1), (2, .int l2), (3, .int l5), (4, .int r1), (5, .int (l5 + (1 : Int32)))]) [0, 1, 2, 3, 4, 5] rfl ?_
      exact h
    · have h := h.2 c39
      refine g_iload (pc := 42) (x := r1) dX12_worst_42 rfl ?_
      refine g_iload (pc := 44) (x := l4) dX12_worst_44 rfl ?_
      refine g_icmp_gt (pc := 46) (tgt := 52) dX12_worst_46 (by decide) (fun c46 => ?_) (fun c46 => ?_)
      · have h := h.1 c46
        refine g_iload (pc := 52) (x := l5) dX12_worst_52 rfl ?_
        refine g_istore_n (pc := 54) (L' := [(0, .ref 156), (1, .int l1), (2, .int l2), (3, .int l5), (4, .int l4), (5, .int l5), (6, .int r1)]) dX12_worst_54 (Nat.le_of_ble_eq_true rfl) rfl ?_
        refine g_iload (pc := 55) (x := r1) dX12_worst_55 rfl ?_
        refine g_istore (pc := 57) (L' := [(0, .ref 156), (1, .int l1), (2, .int l2), (3, .int l5), (4, .int r1), (5, .int l5), (6, .int r1)]) dX12_worst_57 (Nat.le_of_ble_eq_true rfl) rfl ?_
        refine g_iinc (pc := 59) (x := l5) (v := (l5 + (1 : Int32))) (L' := [(0, .ref 156), (1, .int l1), (2, .int l2), (3, .int l5), (4, .int r1), (5, .int (l5 + (1 : Int32))), (6, .int r1)]) dX12_worst_59 rfl rfl (Nat.le_of_ble_eq_true rfl) rfl ?_
        refine g_goto (pc := 62) (tgt := 18) dX12_worst_62 (by decide) ?_
        refine g_sub (L' := [(0, .ref 156), (1, .int l1), (2, .int l2), (3, .int l5), (4, .int r1), (5, .int (l5 + (1 : Int32)))]) [0, 1, 2, 3, 4, 5] rfl ?_
        exact h
      · have h := h.2 c46
        refine g_goto (pc := 49) (tgt := 59) dX12_worst_49 (by decide) ?_
        refine g_iinc (pc := 59) (x := l5) (v := (l5 + (1 : Int32))) (L' := [(0, .ref 156), (1, .int l1), (2, .int l2), (3, .int l3), (4, .int l4), (5, .int (l5 + (1 : Int32))), (6, .int r1)]) dX12_worst_59 rfl rfl (Nat.le_of_ble_eq_true rfl) rfl ?_
        refine g_goto (pc := 62) (tgt := 18) dX12_worst_62 (by decide) ?_
        refine g_sub (L' := [(0, .ref 156), (1, .int l1), (2, .int l2), (3, .int l3), (4, .int l4), (5, .int (l5 + (1 : Int32)))]) [0, 1, 2, 3, 4, 5] rfl ?_
        exact h
theorem dX12_look_0 : decode cX12_look 0 = .ok (.aload_n 0, 1) := by decide +kernel
theorem dX12_look_1 : decode cX12_look 1 = .ok (.invokevirtual 365, 3) := by decide +kernel
theorem dX12_look_4 : decode cX12_look 4 = .ok (.aload_n 0, 1) := by decide +kernel
theorem dX12_look_5 : decode cX12_look 5 = .ok (.getfield 82, 3) := by decide +kernel
theorem dX12_look_8 : decode cX12_look 8 = .ok (.iconst 0, 1) := by decide +kernel
theorem dX12_look_9 : decode cX12_look 9 = .ok (.aload_n 0, 1) := by decide +kernel
theorem dX12_look_10 : decode cX12_look 10 = .ok (.iload_n 1, 1) := by decide +kernel
theorem dX12_look_11 : decode cX12_look 11 = .ok (.invokevirtual 380, 3) := by decide +kernel
theorem dX12_look_14 : decode cX12_look 14 = .ok (.iastore, 1) := by decide +kernel
theorem dX12_look_15 : decode cX12_look 15 = .ok (.aload_n 0, 1) := by decide +kernel
theorem dX12_look_16 : decode cX12_look 16 = .ok (.getfield 82, 3) := by decide +kernel
theorem dX12_look_19 : decode cX12_look 19 = .ok (.iconst 1, 1) := by decide +kernel
theorem dX12_look_20 : decode cX12_look 20 = .ok (.aload_n 0, 1) := by decide +kernel
theorem dX12_look_21 : decode cX12_look 21 = .ok (.iload_n 1, 1) := by decide +kernel
theorem dX12_look_22 : decode cX12_look 22 = .ok (.invokevirtual 368, 3) := by decide +kernel
theorem dX12_look_25 : decode cX12_look 25 = .ok (.iastore, 1) := by decide +kernel
theorem dX12_look_26 : decode cX12_look 26 = .ok (.aload_n 0, 1) := by decide +kernel
theorem dX12_look_27 : decode cX12_look 27 = .ok (.getfield 82, 3) := by decide +kernel
theorem dX12_look_30 : decode cX12_look 30 = .ok (.iconst 2, 1) := by decide +kernel
theorem dX12_look_31 : decode cX12_look 31 = .ok (.aload_n 0, 1) := by decide +kernel
theorem dX12_look_32 : decode cX12_look 32 = .ok (.getfield 30, 3) := by decide +kernel
theorem dX12_look_35 : decode cX12_look 35 = .ok (.bipush 20, 2) := by decide +kernel
theorem dX12_look_37 : decode cX12_look 37 = .ok (.iconst 3, 1) := by decide +kernel
theorem dX12_look_38 : decode cX12_look 38 = .ok (.iload_n 1, 1) := by decide +kernel
theorem dX12_look_39 : decode cX12_look 39 = .ok (.imul, 1) := by decide +kernel
theorem dX12_look_40 : decode cX12_look 40 = .ok (.iadd, 1) := by decide +kernel
theorem dX12_look_41 : decode cX12_look 41 = .ok (.iconst 2, 1) := by decide +kernel
theorem dX12_look_42 : decode cX12_look 42 = .ok (.iadd, 1) := by decide +kernel
theorem dX12_look_43 : decode cX12_look 43 = .ok (.iaload, 1) := by decide +kernel
theorem dX12_look_44 : decode cX12_look 44 = .ok (.iastore, 1) := by decide +kernel
theorem dX12_look_45 : decode cX12_look 45 = .ok (.aload_n 0, 1) := by decide +kernel
theorem dX12_look_46 : decode cX12_look 46 = .ok (.getfield 82, 3) := by decide +kernel
theorem dX12_look_49 : decode cX12_look 49 = .ok (.iconst 3, 1) := by decide +kernel
theorem dX12_look_50 : decode cX12_look 50 = .ok (.aload_n 0, 1) := by decide +kernel
theorem dX12_look_51 : decode cX12_look 51 = .ok (.iload_n 1, 1) := by decide +kernel
theorem dX12_look_52 : decode cX12_look 52 = .ok (.invokevirtual 371, 3) := by decide +kernel
theorem dX12_look_55 : decode cX12_look 55 = .ok (.iastore, 1) := by decide +kernel
theorem dX12_look_56 : decode cX12_look 56 = .ok (.aload_n 0, 1) := by decide +kernel
theorem dX12_look_57 : decode cX12_look 57 = .ok (.getfield 82, 3) := by decide +kernel
theorem dX12_look_60 : decode cX12_look 60 = .ok (.iconst 5, 1) := by decide +kernel
theorem dX12_look_61 : decode cX12_look 61 = .ok (.aload_n 0, 1) := by decide +kernel
theorem dX12_look_62 : decode cX12_look 62 = .ok (.getfield 33, 3) := by decide +kernel
theorem dX12_look_65 : decode cX12_look 65 = .ok (.iconst 0, 1) := by decide +kernel
theorem dX12_look_66 : decode cX12_look 66 = .ok (.iaload, 1) := by decide +kernel
theorem dX12_look_67 : decode cX12_look 67 = .ok (.iastore, 1) := by decide +kernel
theorem dX12_look_68 : decode cX12_look 68 = .ok (.aload_n 0, 1) := by decide +kernel
theorem dX12_look_69 : decode cX12_look 69 = .ok (.getfield 82, 3) := by decide +kernel
theorem dX12_look_72 : decode cX12_look 72 = .ok (.bipush 6, 2) := by decide +kernel
theorem dX12_look_74 : decode cX12_look 74 = .ok (.iload_n 2, 1) := by decide +kernel
theorem dX12_look_75 : decode cX12_look 75 = .ok (.iastore, 1) := by decide +kernel
theorem dX12_look_76 : decode cX12_look 76 = .ok (.return_, 1) := by decide +kernel
theorem b_X12_look (mm : MM) (Q : Value → MM → Prop) (a1 : Int32) (a2 : Int32) (h : ∃ Pm1 : Value → MM → Prop, Runs e_X12_askNone [.ref 156] mm Pm1 ∧ ∀ m1, Pm1 .null m1 → (o_X12_heightOf m1 a1 ∧ (o_X12_rankOf (wI m1 179 0 (v_X12_heightOf m1 a1)) a1 ∧ (vp_in (((20 : Int32) + ((3 : Int32) * a1)) + (2 : Int32)) 420 ∧ (o_X12_xOf (wI (wI (wI m1 179 0 (v_X12_heightOf m1 a1)) 179 1 (v_X12_rankOf (wI m1 179 0 (v_X12_heightOf m1 a1)) a1)) 179 2 ((wI (wI m1 179 0 (v_X12_heightOf m1 a1)) 179 1 (v_X12_rankOf (wI m1 179 0 (v_X12_heightOf m1 a1)) a1)).1 162 (((20 : Int32) + ((3 : Int32) * a1)) + (2 : Int32)).toNatClampNeg)) a1 ∧ (Q .null (wI (wI (wI (wI (wI (wI m1 179 0 (v_X12_heightOf m1 a1)) 179 1 (v_X12_rankOf (wI m1 179 0 (v_X12_heightOf m1 a1)) a1)) 179 2 ((wI (wI m1 179 0 (v_X12_heightOf m1 a1)) 179 1 (v_X12_rankOf (wI m1 179 0 (v_X12_heightOf m1 a1)) a1)).1 162 (((20 : Int32) + ((3 : Int32) * a1)) + (2 : Int32)).toNatClampNeg)) 179 3 (v_X12_xOf (wI (wI (wI m1 179 0 (v_X12_heightOf m1 a1)) 179 1 (v_X12_rankOf (wI m1 179 0 (v_X12_heightOf m1 a1)) a1)) 179 2 ((wI (wI m1 179 0 (v_X12_heightOf m1 a1)) 179 1 (v_X12_rankOf (wI m1 179 0 (v_X12_heightOf m1 a1)) a1)).1 162 (((20 : Int32) + ((3 : Int32) * a1)) + (2 : Int32)).toNatClampNeg)) a1)) 179 5 ((wI (wI (wI (wI m1 179 0 (v_X12_heightOf m1 a1)) 179 1 (v_X12_rankOf (wI m1 179 0 (v_X12_heightOf m1 a1)) a1)) 179 2 ((wI (wI m1 179 0 (v_X12_heightOf m1 a1)) 179 1 (v_X12_rankOf (wI m1 179 0 (v_X12_heightOf m1 a1)) a1)).1 162 (((20 : Int32) + ((3 : Int32) * a1)) + (2 : Int32)).toNatClampNeg)) 179 3 (v_X12_xOf (wI (wI (wI m1 179 0 (v_X12_heightOf m1 a1)) 179 1 (v_X12_rankOf (wI m1 179 0 (v_X12_heightOf m1 a1)) a1)) 179 2 ((wI (wI m1 179 0 (v_X12_heightOf m1 a1)) 179 1 (v_X12_rankOf (wI m1 179 0 (v_X12_heightOf m1 a1)) a1)).1 162 (((20 : Int32) + ((3 : Int32) * a1)) + (2 : Int32)).toNatClampNeg)) a1)).1 163 0)) 179 6 a2))))))) : Runs e_X12_look [.ref 156, .int a1, .int a2] mm Q := by
  refine runs_of_G (L := [(0, .ref 156), (1, .int a1), (2, .int a2)]) pl_X12 (Nat.le_of_ble_eq_true rfl) rfl ?_
  refine g_aload_n (pc := 0) (x := 156) dX12_look_0 rfl ?_
  obtain ⟨Pm1, hRm1, h⟩ := h
  refine g_callV (pc := 1) (as := []) dX12_look_1 cw_X12_365 (by decide) rfl rfl sh_156 (Nat.le_of_ble_eq_true rfl) hRm1 ?_
  intro r_ m1 hz_ hp_
  obtain rfl := hz_
  have h := h m1 hp_
  refine g_aload_n (pc := 4) (x := 156) dX12_look_4 rfl ?_
  refine g_getR (pc := 5) (dd := 23) dX12_look_5 fo_X12_82 sh_156 rfl ?_
  refine g_iconst (pc := 8) (v := (0 : Int32)) dX12_look_8 (by decide) ?_
  refine g_aload_n (pc := 9) (x := 156) dX12_look_9 rfl ?_
  refine g_iload_n (pc := 10) (x := a1) dX12_look_10 rfl ?_
  refine g_callV (pc := 11) (as := [.int a1]) dX12_look_11 cw_X12_380 (by decide) rfl rfl sh_156 (Nat.le_of_ble_eq_true rfl) (rv_X12_heightOf m1 a1 h.1) ?_
  have h := h.2
  rintro r_ m_ hz_ ⟨rfl, rfl⟩
  refine g_iastore (pc := 14) dX12_look_14 sh_179 (vp_in_nI (n := 0) (N := 9) (by decide) (by decide)) ?_
  refine g_aload_n (pc := 15) (x := 156) dX12_look_15 rfl ?_
  refine g_getR (pc := 16) (dd := 23) dX12_look_16 fo_X12_82 sh_156 rfl ?_
  refine g_iconst (pc := 19) (v := (1 : Int32)) dX12_look_19 (by decide) ?_
  refine g_aload_n (pc := 20) (x := 156) dX12_look_20 rfl ?_
  refine g_iload_n (pc := 21) (x := a1) dX12_look_21 rfl ?_
  refine g_callV (pc := 22) (as := [.int a1]) dX12_look_22 cw_X12_368 (by decide) rfl rfl sh_156 (Nat.le_of_ble_eq_true rfl) (rv_X12_rankOf (wI m1 179 0 (v_X12_heightOf m1 a1)) a1 h.1) ?_
  have h := h.2
  rintro r_ m_ hz_ ⟨rfl, rfl⟩
  refine g_iastore (pc := 25) dX12_look_25 sh_179 (vp_in_nI (n := 1) (N := 9) (by decide) (by decide)) ?_
  refine g_aload_n (pc := 26) (x := 156) dX12_look_26 rfl ?_
  refine g_getR (pc := 27) (dd := 23) dX12_look_27 fo_X12_82 sh_156 rfl ?_
  refine g_iconst (pc := 30) (v := (2 : Int32)) dX12_look_30 (by decide) ?_
  refine g_aload_n (pc := 31) (x := 156) dX12_look_31 rfl ?_
  refine g_getR (pc := 32) (dd := 6) dX12_look_32 fo_X12_30 sh_156 rfl ?_
  refine g_bipush (pc := 35) (v := (20 : Int32)) dX12_look_35 (by decide) ?_
  refine g_iconst (pc := 37) (v := (3 : Int32)) dX12_look_37 (by decide) ?_
  refine g_iload_n (pc := 38) (x := a1) dX12_look_38 rfl ?_
  refine g_imul (pc := 39) dX12_look_39 ?_
  refine g_iadd (pc := 40) dX12_look_40 ?_
  refine g_iconst (pc := 41) (v := (2 : Int32)) dX12_look_41 (by decide) ?_
  refine g_iadd (pc := 42) dX12_look_42 ?_
  refine g_iaload (pc := 43) dX12_look_43 sh_162 h.1 ?_
  have h := h.2
  refine g_iastore (pc := 44) dX12_look_44 sh_179 (vp_in_nI (n := 2) (N := 9) (by decide) (by decide)) ?_
  refine g_aload_n (pc := 45) (x := 156) dX12_look_45 rfl ?_
  refine g_getR (pc := 46) (dd := 23) dX12_look_46 fo_X12_82 sh_156 rfl ?_
  refine g_iconst (pc := 49) (v := (3 : Int32)) dX12_look_49 (by decide) ?_
  refine g_aload_n (pc := 50) (x := 156) dX12_look_50 rfl ?_
  refine g_iload_n (pc := 51) (x := a1) dX12_look_51 rfl ?_
  refine g_callV (pc := 52) (as := [.int a1]) dX12_look_52 cw_X12_371 (by decide) rfl rfl sh_156 (Nat.le_of_ble_eq_true rfl) (rv_X12_xOf (wI (wI (wI m1 179 0 (v_X12_heightOf m1 a1)) 179 1 (v_X12_rankOf (wI m1 179 0 (v_X12_heightOf m1 a1)) a1)) 179 2 ((wI (wI m1 179 0 (v_X12_heightOf m1 a1)) 179 1 (v_X12_rankOf (wI m1 179 0 (v_X12_heightOf m1 a1)) a1)).1 162 (((20 : Int32) + ((3 : Int32) * a1)) + (2 : Int32)).toNatClampNeg)) a1 h.1) ?_
  have h := h.2
  rintro r_ m_ hz_ ⟨rfl, rfl⟩
  refine g_iastore (pc := 55) dX12_look_55 sh_179 (vp_in_nI (n := 3) (N := 9) (by decide) (by decide)) ?_
  refine g_aload_n (pc := 56) (x := 156) dX12_look_56 rfl ?_
  refine g_getR (pc := 57) (dd := 23) dX12_look_57 fo_X12_82 sh_156 rfl ?_
  refine g_iconst (pc := 60) (v := (5 : Int32)) dX12_look_60 (by decide) ?_
  refine g_aload_n (pc := 61) (x := 156) dX12_look_61 rfl ?_
  refine g_getR (pc := 62) (dd := 7) dX12_look_62 fo_X12_33 sh_156 rfl ?_
  refine g_iconst (pc := 65) (v := (0 : Int32)) dX12_look_65 (by decide) ?_
  refine g_iaload (pc := 66) dX12_look_66 sh_163 (vp_in_nI (n := 0) (N := 1260) (by decide) (by decide)) ?_
  refine g_iastore (pc := 67) dX12_look_67 sh_179 (vp_in_nI (n := 5) (N := 9) (by decide) (by decide)) ?_
  refine g_aload_n (pc := 68) (x := 156) dX12_look_68 rfl ?_
  refine g_getR (pc := 69) (dd := 23) dX12_look_69 fo_X12_82 sh_156 rfl ?_
  refine g_bipush (pc := 72) (v := (6 : Int32)) dX12_look_72 (by decide) ?_
  refine g_iload_n (pc := 74) (x := a2) dX12_look_74 rfl ?_
  refine g_iastore (pc := 75) dX12_look_75 sh_179 (vp_in_nI (n := 6) (N := 9) (by decide) (by decide)) ?_
  exact g_vret (pc := 76) dX12_look_76 rfl rfl h
theorem dX12_swayOf_0 : decode cX12_swayOf 0 = .ok (.aload_n 0, 1) := by decide +kernel
theorem dX12_swayOf_1 : decode cX12_swayOf 1 = .ok (.iload_n 1, 1) := by decide +kernel
theorem dX12_swayOf_2 : decode cX12_swayOf 2 = .ok (.iload_n 2, 1) := by decide +kernel
theorem dX12_swayOf_3 : decode cX12_swayOf 3 = .ok (.invokevirtual 419, 3) := by decide +kernel
theorem dX12_swayOf_6 : decode cX12_swayOf 6 = .ok (.aload_n 0, 1) := by decide +kernel
theorem dX12_swayOf_7 : decode cX12_swayOf 7 = .ok (.iconst 2, 1) := by decide +kernel
theorem dX12_swayOf_8 : decode cX12_swayOf 8 = .ok (.iconst 0, 1) := by decide +kernel
theorem dX12_swayOf_9 : decode cX12_swayOf 9 = .ok (.invokevirtual 374, 3) := by decide +kernel
theorem dX12_swayOf_12 : decode cX12_swayOf 12 = .ok (.ireturn, 1) := by decide +kernel
theorem b_X12_swayOf (mm : MM) (Q : Value → MM → Prop) (a1 : Int32) (a2 : Int32) (h : ∃ Pm1 : Value → MM → Prop, Runs e_X12_look [.ref 156, .int a1, .int a2] mm Pm1 ∧ ∀ m1, Pm1 .null m1 → (∃ Pm2 : Value → MM → Prop, Runs e_X12_says [.ref 156, .int (2 : Int32), .int (0 : Int32)] m1 Pm2 ∧ ∀ (r2 : Int32) (m2 : MM), Pm2 (.int r2) m2 → (Q (.int r2) m2))) : Runs e_X12_swayOf [.ref 156, .int a1, .int a2] mm Q := by
  refine runs_of_G (L := [(0, .ref 156), (1, .int a1), (2, .int a2)]) pl_X12 (Nat.le_of_ble_eq_true rfl) rfl ?_
  refine g_aload_n (pc := 0) (x := 156) dX12_swayOf_0 rfl ?_
  refine g_iload_n (pc := 1) (x := a1) dX12_swayOf_1 rfl ?_
  refine g_iload_n (pc := 2) (x := a2) dX12_swayOf_2 rfl ?_
  obtain ⟨Pm1, hRm1, h⟩ := h
  refine g_callV (pc := 3) (as := [.int a1, .int a2]) dX12_swayOf_3 cw_X12_419 (by decide) rfl rfl sh_156 (Nat.le_of_ble_eq_true rfl) hRm1 ?_
  intro r_ m1 hz_ hp_
  obtain rfl := hz_
  have h := h m1 hp_
  refine g_aload_n (pc := 6) (x := 156) dX12_swayOf_6 rfl ?_
  refine g_iconst (pc := 7) (v := (2 : Int32)) dX12_swayOf_7 (by decide) ?_
  refine g_iconst (pc := 8) (v := (0 : Int32)) dX12_swayOf_8 (by decide) ?_
  obtain ⟨Pm2, hRm2, h⟩ := h
  refine g_callV (pc := 9) (as := [.int (2 : Int32), .int (0 : Int32)]) dX12_swayOf_9 cw_X12_374 (by decide) rfl rfl sh_156 (Nat.le_of_ble_eq_true rfl) hRm2 ?_
  intro r_ m2 hz_ hp_
  obtain ⟨r2, rfl⟩ := hz_
  have h := h r2 m2 hp_
  exact g_iret (pc := 12) dX12_swayOf_12 rfl rfl rfl h
theorem dX12_isRule_0 : decode cX12_isRule 0 = .ok (.iconst 0, 1) := by decide +kernel
theorem dX12_isRule_1 : decode cX12_isRule 1 = .ok (.istore_n 3, 1) := by decide +kernel
theorem dX12_isRule_2 : decode cX12_isRule 2 = .ok (.iload_n 3, 1) := by decide +kernel
theorem dX12_isRule_3 : decode cX12_isRule 3 = .ok (.aload_n 0, 1) := by decide +kernel
theorem dX12_isRule_4 : decode cX12_isRule 4 = .ok (.getfield 30, 3) := by decide +kernel
theorem dX12_isRule_7 : decode cX12_isRule 7 = .ok (.iload_n 1, 1) := by decide +kernel
theorem dX12_isRule_8 : decode cX12_isRule 8 = .ok (.iaload, 1) := by decide +kernel
theorem dX12_isRule_9 : decode cX12_isRule 9 = .ok (.if_icmp .ge 40, 3) := by decide +kernel
theorem dX12_isRule_12 : decode cX12_isRule 12 = .ok (.aload_n 0, 1) := by decide +kernel
theorem dX12_isRule_13 : decode cX12_isRule 13 = .ok (.aload_n 0, 1) := by decide +kernel
theorem dX12_isRule_14 : decode cX12_isRule 14 = .ok (.getfield 30, 3) := by decide +kernel
theorem dX12_isRule_17 : decode cX12_isRule 17 = .ok (.iload_n 2, 1) := by decide +kernel
theorem dX12_isRule_18 : decode cX12_isRule 18 = .ok (.iconst 2, 1) := by decide +kernel
theorem dX12_isRule_19 : decode cX12_isRule 19 = .ok (.iload_n 3, 1) := by decide +kernel
theorem dX12_isRule_20 : decode cX12_isRule 20 = .ok (.imul, 1) := by decide +kernel
theorem dX12_isRule_21 : decode cX12_isRule 21 = .ok (.iadd, 1) := by decide +kernel
theorem dX12_isRule_22 : decode cX12_isRule 22 = .ok (.iaload, 1) := by decide +kernel
theorem dX12_isRule_23 : decode cX12_isRule 23 = .ok (.aload_n 0, 1) := by decide +kernel
theorem dX12_isRule_24 : decode cX12_isRule 24 = .ok (.getfield 30, 3) := by decide +kernel
theorem dX12_isRule_27 : decode cX12_isRule 27 = .ok (.iload_n 2, 1) := by decide +kernel
theorem dX12_isRule_28 : decode cX12_isRule 28 = .ok (.iconst 2, 1) := by decide +kernel
theorem dX12_isRule_29 : decode cX12_isRule 29 = .ok (.iload_n 3, 1) := by decide +kernel
theorem dX12_isRule_30 : decode cX12_isRule 30 = .ok (.imul, 1) := by decide +kernel
theorem dX12_isRule_31 : decode cX12_isRule 31 = .ok (.iadd, 1) := by decide +kernel
theorem dX12_isRule_32 : decode cX12_isRule 32 = .ok (.iconst 1, 1) := by decide +kernel
theorem dX12_isRule_33 : decode cX12_isRule 33 = .ok (.iadd, 1) := by decide +kernel
theorem dX12_isRule_34 : decode cX12_isRule 34 = .ok (.iaload, 1) := by decide +kernel
theorem dX12_isRule_35 : decode cX12_isRule 35 = .ok (.invokevirtual 422, 3) := by decide +kernel
theorem dX12_isRule_38 : decode cX12_isRule 38 = .ok (.ifCond .eq 5, 3) := by decide +kernel
theorem dX12_isRule_41 : decode cX12_isRule 41 = .ok (.iconst 1, 1) := by decide +kernel
theorem dX12_isRule_42 : decode cX12_isRule 42 = .ok (.ireturn, 1) := by decide +kernel
theorem dX12_isRule_43 : decode cX12_isRule 43 = .ok (.iinc 3 1, 3) := by decide +kernel
theorem dX12_isRule_46 : decode cX12_isRule 46 = .ok (.goto (-44), 3) := by decide +kernel
theorem dX12_isRule_49 : decode cX12_isRule 49 = .ok (.iconst 0, 1) := by decide +kernel
theorem dX12_isRule_50 : decode cX12_isRule 50 = .ok (.ireturn, 1) := by decide +kernel
theorem b_X12_isRule (mm : MM) (Q : Value → MM → Prop) (a1 : Int32) (a2 : Int32) (h : G e_X12_isRule 2 [(0, .ref 156), (1, .int a1), (2, .int a2), (3, .int (0 : Int32))] [] mm Q) : Runs e_X12_isRule [.ref 156, .int a1, .int a2] mm Q := by
  refine runs_of_G (L := [(0, .ref 156), (1, .int a1), (2, .int a2)]) pl_X12 (Nat.le_of_ble_eq_true rfl) rfl ?_
  refine g_iconst (pc := 0) (v := (0 : Int32)) dX12_isRule_0 (by decide) ?_
  refine g_istore_n (pc := 1) (L' := [(0, .ref 156), (1, .int a1), (2, .int a2), (3, .int (0 : Int32))]) dX12_isRule_1 (Nat.le_of_ble_eq_true rfl) rfl ?_
  exact h
theorem b_X12_isRule_2 (mm : MM) (Q : Value → MM → Prop) (l1 : Int32) (l2 : Int32) (l3 : Int32) (h : vp_in l1 420 ∧ (((mm.1 162 l1.toNatClampNeg) ≤ l3 → (Q (.int (0 : Int32)) mm)) ∧ (¬ (mm.1 162 l1.toNatClampNeg) ≤ l3 → (vp_in (l2 + ((2 : Int32) * l3)) 420 ∧ (vp_in ((l2 + ((2 : Int32) * l3)) + (1 : Int32)) 420 ∧ (∃ Pm1 : Value → MM → Prop, Runs e_X12_isHeld [.ref 156, .int (mm.1 162 (l2 + ((2 : Int32) * l3)).toNatClampNeg), .int (mm.1 162 ((l2 + ((2 : Int32) * l3)) + (1 : Int32)).toNatClampNeg)] mm Pm1 ∧ (∀ r m1, Pm1 r m1 → r = .int 1 ∨ r = .int 0) ∧ (∀ m1, Pm1 (.int 1) m1 → (Q (.int (1 : Int32)) m1)) ∧ (∀ m1, Pm1 (.int 0) m1 → (G e_X12_isRule 2 [(0, .ref 156), (1, .int l1), (2, .int l2), (3, .int (l3 + (1 : Int32)))] [] m1 Q)))))))) : G e_X12_isRule 2 [(0, .ref 156), (1, .int l1), (2, .int l2), (3, .int l3)] [] mm Q := by
  refine g_iload_n (pc := 2) (x := l3) dX12_isRule_2 rfl ?_
  refine g_aload_n (pc := 3) (x := 156) dX12_isRule_3 rfl ?_
  refine g_getR (pc := 4) (dd := 6) dX12_isRule_4 fo_X12_30 sh_156 rfl ?_
  refine g_iload_n (pc := 7) (x := l1) dX12_isRule_7 rfl ?_
  refine g_iaload (pc := 8) dX12_isRule_8 sh_162 h.1 ?_
  have h := h.2
  refine g_icmp_ge (pc := 9) (tgt := 49) dX12_isRule_9 (by decide) (fun c9 => ?_) (fun c9 => ?_)
  · have h := h.1 c9
    refine g_iconst (pc := 49) (v := (0 : Int32)) dX12_isRule_49 (by decide) ?_
    exact g_iret (pc := 50) dX12_isRule_50 rfl rfl (nar_B isB0) h
  · have h := h.2 c9
    refine g_aload_n (pc := 12) (x := 156) dX12_isRule_12 rfl ?_
    refine g_aload_n (pc := 13) (x := 156) dX12_isRule_13 rfl ?_
    refine g_getR (pc := 14) (dd := 6) dX12_isRule_14 fo_X12_30 sh_156 rfl ?_
    refine g_iload_n (pc := 17) (x := l2) dX12_isRule_17 rfl ?_
    refine g_iconst (pc := 18) (v := (2 : Int32)) dX12_isRule_18 (by decide) ?_
    refine g_iload_n (pc := 19) (x := l3) dX12_isRule_19 rfl ?_
    refine g_imul (pc := 20) dX12_isRule_20 ?_
    refine g_iadd (pc := 21) dX12_isRule_21 ?_
    refine g_iaload (pc := 22) dX12_isRule_22 sh_162 h.1 ?_
    have h := h.2
    refine g_aload_n (pc := 23) (x := 156) dX12_isRule_23 rfl ?_
    refine g_getR (pc := 24) (dd := 6) dX12_isRule_24 fo_X12_30 sh_156 rfl ?_
    refine g_iload_n (pc := 27) (x := l2) dX12_isRule_27 rfl ?_
    refine g_iconst (pc := 28) (v := (2 : Int32)) dX12_isRule_28 (by decide) ?_
    refine g_iload_n (pc := 29) (x := l3) dX12_isRule_29 rfl ?_
    refine g_imul (pc := 30) dX12_isRule_30 ?_
    refine g_iadd (pc := 31) dX12_isRule_31 ?_
    refine g_iconst (pc := 32) (v := (1 : Int32)) dX12_isRule_32 (by decide) ?_
    refine g_iadd (pc := 33) dX12_isRule_33 ?_
    refine g_iaload (pc := 34) dX12_isRule_34 sh_162 h.1 ?_
    have h := h.2
    obtain ⟨Pm1, hRm1, h⟩ := h
    refine g_callV (pc := 35) (as := [.int (mm.1 162 (l2 + ((2 : Int32) * l3)).toNatClampNeg), .int (mm.1 162 ((l2 + ((2 : Int32) * l3)) + (1 : Int32)).toNatClampNeg)]) dX12_isRule_35 cw_X12_422 (by decide) rfl rfl sh_156 (Nat.le_of_ble_eq_true rfl) hRm1 ?_
    intro r_ m1 hz_ hp_
    rcases h.1 r_ m1 hp_ with rfl | rfl
    · have h := h.2.1 m1 hp_
      refine g_if_eq (pc := 38) (tgt := 43) dX12_isRule_38 (by decide) (fun c38 => absurd c38 (by decide)) (fun _ => ?_)
      refine g_iconst (pc := 41) (v := (1 : Int32)) dX12_isRule_41 (by decide) ?_
      exact g_iret (pc := 42) dX12_isRule_42 rfl rfl (nar_B isB1) h
    · have h := h.2.2 m1 hp_
      refine g_if_eq (pc := 38) (tgt := 43) dX12_isRule_38 (by decide) (fun _ => ?_) (fun c38 => absurd c38 (by decide))
      refine g_iinc (pc := 43) (x := l3) (v := (l3 + (1 : Int32))) (L' := [(0, .ref 156), (1, .int l1), (2, .int l2), (3, .int (l3 + (1 : Int32)))]) dX12_isRule_43 rfl rfl (Nat.le_of_ble_eq_true rfl) rfl ?_
      refine g_goto (pc := 46) (tgt := 2) dX12_isRule_46 (by decide) ?_
      exact h
theorem dX12_isBad_0 : decode cX12_isBad 0 = .ok (.aload_n 0, 1) := by decide +kernel
theorem dX12_isBad_1 : decode cX12_isBad 1 = .ok (.iload_n 1, 1) := by decide +kernel
theorem dX12_isBad_2 : decode cX12_isBad 2 = .ok (.iconst 0, 1) := by decide +kernel
theorem dX12_isBad_3 : decode cX12_isBad 3 = .ok (.invokevirtual 425, 3) := by decide +kernel
theorem dX12_isBad_6 : decode cX12_isBad 6 = .ok (.istore_n 2, 1) := by decide +kernel
theorem dX12_isBad_7 : decode cX12_isBad 7 = .ok (.aload_n 0, 1) := by decide +kernel
theorem dX12_isBad_8 : decode cX12_isBad 8 = .ok (.iload_n 1, 1) := by decide +kernel
theorem dX12_isBad_9 : decode cX12_isBad 9 = .ok (.iconst 0, 1) := by decide +kernel
theorem dX12_isBad_10 : decode cX12_isBad 10 = .ok (.invokevirtual 419, 3) := by decide +kernel
theorem dX12_isBad_13 : decode cX12_isBad 13 = .ok (.aload_n 0, 1) := by decide +kernel
theorem dX12_isBad_14 : decode cX12_isBad 14 = .ok (.getfield 82, 3) := by decide +kernel
theorem dX12_isBad_17 : decode cX12_isBad 17 = .ok (.bipush 8, 2) := by decide +kernel
theorem dX12_isBad_19 : decode cX12_isBad 19 = .ok (.iload_n 2, 1) := by decide +kernel
theorem dX12_isBad_20 : decode cX12_isBad 20 = .ok (.iastore, 1) := by decide +kernel
theorem dX12_isBad_21 : decode cX12_isBad 21 = .ok (.aload_n 0, 1) := by decide +kernel
theorem dX12_isBad_22 : decode cX12_isBad 22 = .ok (.bipush 9, 2) := by decide +kernel
theorem dX12_isBad_24 : decode cX12_isBad 24 = .ok (.sipush 200, 3) := by decide +kernel
theorem dX12_isBad_27 : decode cX12_isBad 27 = .ok (.invokevirtual 428, 3) := by decide +kernel
theorem dX12_isBad_30 : decode cX12_isBad 30 = .ok (.ireturn, 1) := by decide +kernel
theorem b_X12_isBad (mm : MM) (Q : Value → MM → Prop) (a1 : Int32) (h : ∃ Pm1 : Value → MM → Prop, Runs e_X12_swayOf [.ref 156, .int a1, .int (0 : Int32)] mm Pm1 ∧ ∀ (r1 : Int32) (m1 : MM), Pm1 (.int r1) m1 → (∃ Pm2 : Value → MM → Prop, Runs e_X12_look [.ref 156, .int a1, .int (0 : Int32)] m1 Pm2 ∧ ∀ m2, Pm2 .null m2 → (∃ Pm3 : Value → MM → Prop, Runs e_X12_isRule [.ref 156, .int (9 : Int32), .int (200 : Int32)] (wI m2 179 8 r1) Pm3 ∧ (∀ r m3, Pm3 r m3 → r = .int 1 ∨ r = .int 0) ∧ (∀ m3, Pm3 (.int 1) m3 → (Q (.int (1 : Int32)) m3)) ∧ (∀ m3, Pm3 (.int 0) m3 → (Q (.int (0 : Int32)) m3))))) : Runs e_X12_isBad [.ref 156, .int a1] mm Q := by
  refine runs_of_G (L := [(0, .ref 156), (1, .int a1)]) pl_X12 (Nat.le_of_ble_eq_true rfl) rfl ?_
  refine g_aload_n (pc := 0) (x := 156) dX12_isBad_0 rfl ?_
  refine g_iload_n (pc := 1) (x := a1) dX12_isBad_1 rfl ?_
  refine g_iconst (pc := 2) (v := (0 : Int32)) dX12_isBad_2 (by decide) ?_
  obtain ⟨Pm1, hRm1, h⟩ := h
  refine g_callV (pc := 3) (as := [.int a1, .int (0 : Int32)]) dX12_isBad_3 cw_X12_425 (by decide) rfl rfl sh_156 (Nat.le_of_ble_eq_true rfl) hRm1 ?_
  intro r_ m1 hz_ hp_
  obtain ⟨r1, rfl⟩ := hz_
  have h := h r1 m1 hp_
  refine g_istore_n (pc := 6) (L' := [(0, .ref 156), (1, .int a1), (2, .int r1)]) dX12_isBad_6 (Nat.le_of_ble_eq_true rfl) rfl ?_
  refine g_aload_n (pc := 7) (x := 156) dX12_isBad_7 rfl ?_
  refine g_iload_n (pc := 8) (x := a1) dX12_isBad_8 rfl ?_
  refine g_iconst (pc := 9) (v := (0 : Int32)) dX12_isBad_9 (by decide) ?_
  obtain ⟨Pm2, hRm2, h⟩ := h
  refine g_callV (pc := 10) (as := [.int a1, .int (0 : Int32)]) dX12_isBad_10 cw_X12_419 (by decide) rfl rfl sh_156 (Nat.le_of_ble_eq_true rfl) hRm2 ?_
  intro r_ m2 hz_ hp_
  obtain rfl := hz_
  have h := h m2 hp_
  refine g_aload_n (pc := 13) (x := 156) dX12_isBad_13 rfl ?_
  refine g_getR (pc := 14) (dd := 23) dX12_isBad_14 fo_X12_82 sh_156 rfl ?_
  refine g_bipush (pc := 17) (v := (8 : Int32)) dX12_isBad_17 (by decide) ?_
  refine g_iload_n (pc := 19) (x := r1) dX12_isBad_19 rfl ?_
  refine g_iastore (pc := 20) dX12_isBad_20 sh_179 (vp_in_nI (n := 8) (N := 9) (by decide) (by decide)) ?_
  refine g_aload_n (pc := 21) (x := 156) dX12_isBad_21 rfl ?_
  refine g_bipush (pc := 22) (v := (9 : Int32)) dX12_isBad_22 (by decide) ?_
  refine g_sipush (pc := 24) (v := (200 : Int32)) dX12_isBad_24 (by decide) ?_
  obtain ⟨Pm3, hRm3, h⟩ := h
  refine g_callV (pc := 27) (as := [.int (9 : Int32), .int (200 : Int32)]) dX12_isBad_27 cw_X12_428 (by decide) rfl rfl sh_156 (Nat.le_of_ble_eq_true rfl) hRm3 ?_
  intro r_ m3 hz_ hp_
  rcases h.1 r_ m3 hp_ with rfl | rfl
  · have h := h.2.1 m3 hp_
    exact g_iret (pc := 30) dX12_isBad_30 rfl rfl (nar_B isB1) h
  · have h := h.2.2 m3 hp_
    exact g_iret (pc := 30) dX12_isBad_30 rfl rfl (nar_B isB0) h
theorem dX12_untrue_0 : decode cX12_untrue 0 = .ok (.iconst 0, 1) := by decide +kernel
theorem dX12_untrue_1 : decode cX12_untrue 1 = .ok (.istore_n 1, 1) := by decide +kernel
theorem dX12_untrue_2 : decode cX12_untrue 2 = .ok (.iconst 0, 1) := by decide +kernel
theorem dX12_untrue_3 : decode cX12_untrue 3 = .ok (.istore_n 2, 1) := by decide +kernel
theorem dX12_untrue_4 : decode cX12_untrue 4 = .ok (.iload_n 2, 1) := by decide +kernel
theorem dX12_untrue_5 : decode cX12_untrue 5 = .ok (.aload_n 0, 1) := by decide +kernel
theorem dX12_untrue_6 : decode cX12_untrue 6 = .ok (.getfield 30, 3) := by decide +kernel
theorem dX12_untrue_9 : decode cX12_untrue 9 = .ok (.iconst 0, 1) := by decide +kernel
theorem dX12_untrue_10 : decode cX12_untrue 10 = .ok (.iaload, 1) := by decide +kernel
theorem dX12_untrue_11 : decode cX12_untrue 11 = .ok (.if_icmp .ge 28, 3) := by decide +kernel
theorem dX12_untrue_14 : decode cX12_untrue 14 = .ok (.aload_n 0, 1) := by decide +kernel
theorem dX12_untrue_15 : decode cX12_untrue 15 = .ok (.iload_n 2, 1) := by decide +kernel
theorem dX12_untrue_16 : decode cX12_untrue 16 = .ok (.invokevirtual 380, 3) := by decide +kernel
theorem dX12_untrue_19 : decode cX12_untrue 19 = .ok (.aload_n 0, 1) := by decide +kernel
theorem dX12_untrue_20 : decode cX12_untrue 20 = .ok (.iload_n 2, 1) := by decide +kernel
theorem dX12_untrue_21 : decode cX12_untrue 21 = .ok (.invokevirtual 383, 3) := by decide +kernel
theorem dX12_untrue_24 : decode cX12_untrue 24 = .ok (.if_icmp .eq 9, 3) := by decide +kernel
theorem dX12_untrue_27 : decode cX12_untrue 27 = .ok (.iload_n 1, 1) := by decide +kernel
theorem dX12_untrue_28 : decode cX12_untrue 28 = .ok (.iconst 1, 1) := by decide +kernel
theorem dX12_untrue_29 : decode cX12_untrue 29 = .ok (.iload_n 2, 1) := by decide +kernel
theorem dX12_untrue_30 : decode cX12_untrue 30 = .ok (.ishl, 1) := by decide +kernel
theorem dX12_untrue_31 : decode cX12_untrue 31 = .ok (.ior, 1) := by decide +kernel
theorem dX12_untrue_32 : decode cX12_untrue 32 = .ok (.istore_n 1, 1) := by decide +kernel
theorem dX12_untrue_33 : decode cX12_untrue 33 = .ok (.iinc 2 1, 3) := by decide +kernel
theorem dX12_untrue_36 : decode cX12_untrue 36 = .ok (.goto (-32), 3) := by decide +kernel
theorem dX12_untrue_39 : decode cX12_untrue 39 = .ok (.iload_n 1, 1) := by decide +kernel
theorem dX12_untrue_40 : decode cX12_untrue 40 = .ok (.ireturn, 1) := by decide +kernel
theorem b_X12_untrue (mm : MM) (Q : Value → MM → Prop) (h : G e_X12_untrue 4 [(0, .ref 156), (1, .int (0 : Int32)), (2, .int (0 : Int32))] [] mm Q) : Runs e_X12_untrue [.ref 156] mm Q := by
  refine runs_of_G (L := [(0, .ref 156)]) pl_X12 (Nat.le_of_ble_eq_true rfl) rfl ?_
  refine g_iconst (pc := 0) (v := (0 : Int32)) dX12_untrue_0 (by decide) ?_
  refine g_istore_n (pc := 1) (L' := [(0, .ref 156), (1, .int (0 : Int32))]) dX12_untrue_1 (Nat.le_of_ble_eq_true rfl) rfl ?_
  refine g_iconst (pc := 2) (v := (0 : Int32)) dX12_untrue_2 (by decide) ?_
  refine g_istore_n (pc := 3) (L' := [(0, .ref 156), (1, .int (0 : Int32)), (2, .int (0 : Int32))]) dX12_untrue_3 (Nat.le_of_ble_eq_true rfl) rfl ?_
  exact h
theorem b_X12_untrue_4 (mm : MM) (Q : Value → MM → Prop) (l1 : Int32) (l2 : Int32) (h : ((mm.1 162 0) ≤ l2 → (Q (.int l1) mm)) ∧ (¬ (mm.1 162 0) ≤ l2 → (o_X12_heightOf mm l2 ∧ (∃ Pm1 : Value → MM → Prop, Runs e_X12_dueOf [.ref 156, .int l2] mm Pm1 ∧ ∀ (r1 : Int32) (m1 : MM), Pm1 (.int r1) m1 → (((v_X12_heightOf mm l2) = r1 → (G e_X12_untrue 4 [(0, .ref 156), (1, .int l1), (2, .int (l2 + (1 : Int32)))] [] m1 Q)) ∧ (¬ (v_X12_heightOf mm l2) = r1 → (G e_X12_untrue 4 [(0, .ref 156), (1, .int (l1 ||| ((1 : Int32) <<< (l2 &&& 31)))), (2, .int (l2 + (1 : Int32)))] [] m1 Q))))))) : G e_X12_untrue 4 [(0, .ref 156), (1, .int l1), (2, .int l2)] [] mm Q := by
  refine g_iload_n (pc := 4) (x := l2) dX12_untrue_4 rfl ?_
  refine g_aload_n (pc := 5) (x := 156) dX12_untrue_5 rfl ?_
  refine g_getR (pc := 6) (dd := 6) dX12_untrue_6 fo_X12_30 sh_156 rfl ?_
  refine g_iconst (pc := 9) (v := (0 : Int32)) dX12_untrue_9 (by decide) ?_
  refine g_iaload (pc := 10) dX12_untrue_10 sh_162 (vp_in_nI (n := 0) (N := 420) (by decide) (by decide)) ?_
  refine g_icmp_ge (pc := 11) (tgt := 39) dX12_untrue_11 (by decide) (fun c11 => ?_) (fun c11 => ?_)
  · have h := h.1 c11
    refine g_iload_n (pc := 39) (x := l1) dX12_untrue_39 rfl ?_
    exact g_iret (pc := 40) dX12_untrue_40 rfl rfl rfl h
  · have h := h.2 c11
    refine g_aload_n (pc := 14) (x := 156) dX12_untrue_14 rfl ?_
    refine g_iload_n (pc := 15) (x := l2) dX12_untrue_15 rfl ?_
    refine g_callV (pc := 16) (as := [.int l2]) dX12_untrue_16 cw_X12_380 (by decide) rfl rfl sh_156 (Nat.le_of_ble_eq_true rfl) (rv_X12_heightOf mm l2 h.1) ?_
    have h := h.2
    rintro r_ m_ hz_ ⟨rfl, rfl⟩
    refine g_aload_n (pc := 19) (x := 156) dX12_untrue_19 rfl ?_
    refine g_iload_n (pc := 20) (x := l2) dX12_untrue_20 rfl ?_
    obtain ⟨Pm1, hRm1, h⟩ := h
    refine g_callV (pc := 21) (as := [.int l2]) dX12_untrue_21 cw_X12_383 (by decide) rfl rfl sh_156 (Nat.le_of_ble_eq_true rfl) hRm1 ?_
    intro r_ m1 hz_ hp_
    obtain ⟨r1, rfl⟩ := hz_
    have h := h r1 m1 hp_
    refine g_icmp_eq (pc := 24) (tgt := 33) dX12_untrue_24 (by decide) (fun c24 => ?_) (fun c24 => ?_)
    · have h := h.1 c24
      refine g_iinc (pc := 33) (x := l2) (v := (l2 + (1 : Int32))) (L' := [(0, .ref 156), (1, .int l1), (2, .int (l2 + (1 : Int32)))]) dX12_untrue_33 rfl rfl (Nat.le_of_ble_eq_true rfl) rfl ?_
      refine g_goto (pc := 36) (tgt := 4) dX12_untrue_36 (by decide) ?_
      exact h
    · have h := h.2 c24
      refine g_iload_n (pc := 27) (x := l1) dX12_untrue_27 rfl ?_
      refine g_iconst (pc := 28) (v := (1 : Int32)) dX12_untrue_28 (by decide) ?_
      refine g_iload_n (pc := 29) (x := l2) dX12_untrue_29 rfl ?_
      refine g_ishl (pc := 30) dX12_untrue_30 ?_
      refine g_ior (pc := 31) dX12_untrue_31 ?_
      refine g_istore_n (pc := 32) (L' := [(0, .ref 156), (1, .int (l1 ||| ((1 : Int32) <<< (l2 &&& 31)))), (2, .int l2)]) dX12_untrue_32 (Nat.le_of_ble_eq_true rfl) rfl ?_
      refine g_iinc (pc := 33) (x := l2) (v := (l2 + (1 : Int32))) (L' := [(0, .ref 156), (1, .int (l1 ||| ((1 : Int32) <<< (l2 &&& 31)))), (2, .int (l2 + (1 : Int32)))]) dX12_untrue_33 rfl rfl (Nat.le_of_ble_eq_true rfl) rfl ?_
      refine g_goto (pc := 36) (tgt := 4) dX12_untrue_36 (by decide) ?_
      exact h
theorem dX12_turned_0 : decode cX12_turned 0 = .ok (.iconst 0, 1) := by decide +kernel
theorem dX12_turned_1 : decode cX12_turned 1 = .ok (.istore_n 1, 1) := by decide +kernel
theorem dX12_turned_2 : decode cX12_turned 2 = .ok (.iconst 0, 1) := by decide +kernel
theorem dX12_turned_3 : decode cX12_turned 3 = .ok (.istore_n 2, 1) := by decide +kernel
theorem dX12_turned_4 : decode cX12_turned 4 = .ok (.iload_n 2, 1) := by decide +kernel
theorem dX12_turned_5 : decode cX12_turned 5 = .ok (.aload_n 0, 1) := by decide +kernel
theorem dX12_turned_6 : decode cX12_turned 6 = .ok (.getfield 30, 3) := by decide +kernel
theorem dX12_turned_9 : decode cX12_turned 9 = .ok (.iconst 0, 1) := by decide +kernel
theorem dX12_turned_10 : decode cX12_turned 10 = .ok (.iaload, 1) := by decide +kernel
theorem dX12_turned_11 : decode cX12_turned 11 = .ok (.if_icmp .ge 61, 3) := by decide +kernel
theorem dX12_turned_14 : decode cX12_turned 14 = .ok (.iconst 0, 1) := by decide +kernel
theorem dX12_turned_15 : decode cX12_turned 15 = .ok (.istore_n 3, 1) := by decide +kernel
theorem dX12_turned_16 : decode cX12_turned 16 = .ok (.iload_n 3, 1) := by decide +kernel
theorem dX12_turned_17 : decode cX12_turned 17 = .ok (.aload_n 0, 1) := by decide +kernel
theorem dX12_turned_18 : decode cX12_turned 18 = .ok (.getfield 30, 3) := by decide +kernel
theorem dX12_turned_21 : decode cX12_turned 21 = .ok (.iconst 0, 1) := by decide +kernel
theorem dX12_turned_22 : decode cX12_turned 22 = .ok (.iaload, 1) := by decide +kernel
theorem dX12_turned_23 : decode cX12_turned 23 = .ok (.if_icmp .ge 43, 3) := by decide +kernel
theorem dX12_turned_26 : decode cX12_turned 26 = .ok (.iload_n 1, 1) := by decide +kernel
theorem dX12_turned_27 : decode cX12_turned 27 = .ok (.aload_n 0, 1) := by decide +kernel
theorem dX12_turned_28 : decode cX12_turned 28 = .ok (.iload_n 2, 1) := by decide +kernel
theorem dX12_turned_29 : decode cX12_turned 29 = .ok (.invokevirtual 368, 3) := by decide +kernel
theorem dX12_turned_32 : decode cX12_turned 32 = .ok (.aload_n 0, 1) := by decide +kernel
theorem dX12_turned_33 : decode cX12_turned 33 = .ok (.iload_n 3, 1) := by decide +kernel
theorem dX12_turned_34 : decode cX12_turned 34 = .ok (.invokevirtual 368, 3) := by decide +kernel
theorem dX12_turned_37 : decode cX12_turned 37 = .ok (.if_icmp .le 20, 3) := by decide +kernel
theorem dX12_turned_40 : decode cX12_turned 40 = .ok (.aload_n 0, 1) := by decide +kernel
theorem dX12_turned_41 : decode cX12_turned 41 = .ok (.iload_n 2, 1) := by decide +kernel
theorem dX12_turned_42 : decode cX12_turned 42 = .ok (.invokevirtual 380, 3) := by decide +kernel
theorem dX12_turned_45 : decode cX12_turned 45 = .ok (.aload_n 0, 1) := by decide +kernel
theorem dX12_turned_46 : decode cX12_turned 46 = .ok (.iload_n 3, 1) := by decide +kernel
theorem dX12_turned_47 : decode cX12_turned 47 = .ok (.invokevirtual 380, 3) := by decide +kernel
theorem dX12_turned_50 : decode cX12_turned 50 = .ok (.if_icmp .gt 7, 3) := by decide +kernel
theorem dX12_turned_53 : decode cX12_turned 53 = .ok (.iconst 1, 1) := by decide +kernel
theorem dX12_turned_54 : decode cX12_turned 54 = .ok (.goto 4, 3) := by decide +kernel
theorem dX12_turned_57 : decode cX12_turned 57 = .ok (.iconst 0, 1) := by decide +kernel
theorem dX12_turned_58 : decode cX12_turned 58 = .ok (.iadd, 1) := by decide +kernel
theorem dX12_turned_59 : decode cX12_turned 59 = .ok (.istore_n 1, 1) := by decide +kernel
theorem dX12_turned_60 : decode cX12_turned 60 = .ok (.iinc 3 1, 3) := by decide +kernel
theorem dX12_turned_63 : decode cX12_turned 63 = .ok (.goto (-47), 3) := by decide +kernel
theorem dX12_turned_66 : decode cX12_turned 66 = .ok (.iinc 2 1, 3) := by decide +kernel
theorem dX12_turned_69 : decode cX12_turned 69 = .ok (.goto (-65), 3) := by decide +kernel
theorem dX12_turned_72 : decode cX12_turned 72 = .ok (.iload_n 1, 1) := by decide +kernel
theorem dX12_turned_73 : decode cX12_turned 73 = .ok (.ireturn, 1) := by decide +kernel
theorem b_X12_turned (mm : MM) (Q : Value → MM → Prop) (h : G e_X12_turned 4 [(0, .ref 156), (1, .int (0 : Int32)), (2, .int (0 : Int32))] [] mm Q) : Runs e_X12_turned [.ref 156] mm Q := by
  refine runs_of_G (L := [(0, .ref 156)]) pl_X12 (Nat.le_of_ble_eq_true rfl) rfl ?_
  refine g_iconst (pc := 0) (v := (0 : Int32)) dX12_turned_0 (by decide) ?_
  refine g_istore_n (pc := 1) (L' := [(0, .ref 156), (1, .int (0 : Int32))]) dX12_turned_1 (Nat.le_of_ble_eq_true rfl) rfl ?_
  refine g_iconst (pc := 2) (v := (0 : Int32)) dX12_turned_2 (by decide) ?_
  refine g_istore_n (pc := 3) (L' := [(0, .ref 156), (1, .int (0 : Int32)), (2, .int (0 : Int32))]) dX12_turned_3 (Nat.le_of_ble_eq_true rfl) rfl ?_
  exact h
theorem b_X12_turned_4 (mm : MM) (Q : Value → MM → Prop) (l1 : Int32) (l2 : Int32) (h : ((mm.1 162 0) ≤ l2 → (Q (.int l1) mm)) ∧ (¬ (mm.1 162 0) ≤ l2 → (G e_X12_turned 16 [(0, .ref 156), (1, .int l1), (2, .int l2), (3, .int (0 : Int32))] [] mm Q))) : G e_X12_turned 4 [(0, .ref 156), (1, .int l1), (2, .int l2)] [] mm Q := by
  refine g_iload_n (pc := 4) (x := l2) dX12_turned_4 rfl ?_
  refine g_aload_n (pc := 5) (x := 156) dX12_turned_5 rfl ?_
  refine g_getR (pc := 6) (dd := 6) dX12_turned_6 fo_X12_30 sh_156 rfl ?_
  refine g_iconst (pc := 9) (v := (0 : Int32)) dX12_turned_9 (by decide) ?_
  refine g_iaload (pc := 10) dX12_turned_10 sh_162 (vp_in_nI (n := 0) (N := 420) (by decide) (by decide)) ?_
  refine g_icmp_ge (pc := 11) (tgt := 72) dX12_turned_11 (by decide) (fun c11 => ?_) (fun c11 => ?_)
  · have h := h.1 c11
    refine g_iload_n (pc := 72) (x := l1) dX12_turned_72 rfl ?_
    exact g_iret (pc := 73) dX12_turned_73 rfl rfl rfl h
  · have h := h.2 c11
    refine g_iconst (pc := 14) (v := (0 : Int32)) dX12_turned_14 (by decide) ?_
    refine g_istore_n (pc := 15) (L' := [(0, .ref 156), (1, .int l1), (2, .int l2), (3, .int (0 : Int32))]) dX12_turned_15 (Nat.le_of_ble_eq_true rfl) rfl ?_
    exact h
theorem b_X12_turned_16 (mm : MM) (Q : Value → MM → Prop) (l1 : Int32) (l2 : Int32) (l3 : Int32) (h : ((mm.1 162 0) ≤ l3 → (G e_X12_turned 4 [(0, .ref 156), (1, .int l1), (2, .int (l2 + (1 : Int32)))] [] mm Q)) ∧ (¬ (mm.1 162 0) ≤ l3 → (o_X12_rankOf mm l2 ∧ (o_X12_rankOf mm l3 ∧ (((v_X12_rankOf mm l2) ≤ (v_X12_rankOf mm l3) → (G e_X12_turned 16 [(0, .ref 156), (1, .int (l1 + (0 : Int32))), (2, .int l2), (3, .int (l3 + (1 : Int32)))] [] mm Q)) ∧ (¬ (v_X12_rankOf mm l2) ≤ (v_X12_rankOf mm l3) → (o_X12_heightOf mm l2 ∧ (o_X12_heightOf mm l3 ∧ (((v_X12_heightOf mm l3) < (v_X12_heightOf mm l2) → (G e_X12_turned 16 [(0, .ref 156), (1, .int (l1 + (0 : Int32))), (2, .int l2), (3, .int (l3 + (1 : Int32)))] [] mm Q)) ∧ (¬ (v_X12_heightOf mm l3) < (v_X12_heightOf mm l2) → (G e_X12_turned 16 [(0, .ref 156), (1, .int (l1 + (1 : Int32))), (2, .int l2), (3, .int (l3 + (1 : Int32)))] [] mm Q))))))))))) : G e_X12_turned 16 [(0, .ref 156), (1, .int l1), (2, .int l2), (3, .int l3)] [] mm Q := by
  refine g_iload_n (pc := 16) (x := l3) dX12_turned_16 rfl ?_
  refine g_aload_n (pc := 17) (x := 156) dX12_turned_17 rfl ?_
  refine g_getR (pc := 18) (dd := 6) dX12_turned_18 fo_X12_30 sh_156 rfl ?_
  refine g_iconst (pc := 21) (v := (0 : Int32)) dX12_turned_21 (by decide) ?_
  refine g_iaload (pc := 22) dX12_turned_22 sh_162 (vp_in_nI (n := 0) (N := 420) (by decide) (by decide)) ?_
  refine g_icmp_ge (pc := 23) (tgt := 66) dX12_turned_23 (by decide) (fun c23 => ?_) (fun c23 => ?_)
  · have h := h.1 c23
    refine g_iinc (pc := 66) (x := l2) (v := (l2 + (1 : Int32))) (L' := [(0, .ref 156), (1, .int l1), (2, .int (l2 + (1 : Int32))), (3, .int l3)]) dX12_turned_66 rfl rfl (Nat.le_of_ble_eq_true rfl) rfl ?_
    refine g_goto (pc := 69) (tgt := 4) dX12_turned_69 (by decide) ?_
    refine g_sub (L' := [(0, .ref 156), (1, .int l1), (2, .int (l2 + (1 : Int32)))]) [0, 1, 2] rfl ?_
    exact h
  · have h := h.2 c23
    refine g_iload_n (pc := 26) (x := l1) dX12_turned_26 rfl ?_
    refine g_aload_n (pc := 27) (x := 156) dX12_turned_27 rfl ?_
    refine g_iload_n (pc := 28) (x := l2) dX12_turned_28 rfl ?_
    refine g_callV (pc := 29) (as := [.int l2]) dX12_turned_29 cw_X12_368 (by decide) rfl rfl sh_156 (Nat.le_of_ble_eq_true rfl) (rv_X12_rankOf mm l2 h.1) ?_
    have h := h.2
    rintro r_ m_ hz_ ⟨rfl, rfl⟩
    refine g_aload_n (pc := 32) (x := 156) dX12_turned_32 rfl ?_
    refine g_iload_n (pc := 33) (x := l3) dX12_turned_33 rfl ?_
    refine g_callV (pc := 34) (as := [.int l3]) dX12_turned_34 cw_X12_368 (by decide) rfl rfl sh_156 (Nat.le_of_ble_eq_true rfl) (rv_X12_rankOf mm l3 h.1) ?_
    have h := h.2
    rintro r_ m_ hz_ ⟨rfl, rfl⟩
    refine g_icmp_le (pc := 37) (tgt := 57) dX12_turned_37 (by decide) (fun c37 => ?_) (fun c37 => ?_)
    · have h := h.1 c37
      refine g_iconst (pc := 57) (v := (0 : Int32)) dX12_turned_57 (by decide) ?_
      refine g_iadd (pc := 58) dX12_turned_58 ?_
      refine g_istore_n (pc := 59) (L' := [(0, .ref 156), (1, .int (l1 + (0 : Int32))), (2, .int l2), (3, .int l3)]) dX12_turned_59 (Nat.le_of_ble_eq_true rfl) rfl ?_
      refine g_iinc (pc := 60) (x := l3) (v := (l3 + (1 : Int32))) (L' := [(0, .ref 156), (1, .int (l1 + (0 : Int32))), (2, .int l2), (3, .int (l3 + (1 : Int32)))]) dX12_turned_60 rfl rfl (Nat.le_of_ble_eq_true rfl) rfl ?_
      refine g_goto (pc := 63) (tgt := 16) dX12_turned_63 (by decide) ?_
      exact h
    · have h := h.2 c37
      refine g_aload_n (pc := 40) (x := 156) dX12_turned_40 rfl ?_
      refine g_iload_n (pc := 41) (x := l2) dX12_turned_41 rfl ?_
      refine g_callV (pc := 42) (as := [.int l2]) dX12_turned_42 cw_X12_380 (by decide) rfl rfl sh_156 (Nat.le_of_ble_eq_true rfl) (rv_X12_heightOf mm l2 h.1) ?_
      have h := h.2
      rintro r_ m_ hz_ ⟨rfl, rfl⟩
      refine g_aload_n (pc := 45) (x := 156) dX12_turned_45 rfl ?_
      refine g_iload_n (pc := 46) (x := l3) dX12_turned_46 rfl ?_
      refine g_callV (pc := 47) (as := [.int l3]) dX12_turned_47 cw_X12_380 (by decide) rfl rfl sh_156 (Nat.le_of_ble_eq_true rfl) (rv_X12_heightOf mm l3 h.1) ?_
      have h := h.2
      rintro r_ m_ hz_ ⟨rfl, rfl⟩
      refine g_icmp_gt (pc := 50) (tgt := 57) dX12_turned_50 (by decide) (fun c50 => ?_) (fun c50 => ?_)
      · have h := h.1 c50
        refine g_iconst (pc := 57) (v := (0 : Int32)) dX12_turned_57 (by decide) ?_
        refine g_iadd (pc := 58) dX12_turned_58 ?_
        refine g_istore_n (pc := 59) (L' := [(0, .ref 156), (1, .int (l1 + (0 : Int32))), (2, .int l2), (3, .int l3)]) dX12_turned_59 (Nat.le_of_ble_eq_true rfl) rfl ?_
        refine g_iinc (pc := 60) (x := l3) (v := (l3 + (1 : Int32))) (L' := [(0, .ref 156), (1, .int (l1 + (0 : Int32))), (2, .int l2), (3, .int (l3 + (1 : Int32)))]) dX12_turned_60 rfl rfl (Nat.le_of_ble_eq_true rfl) rfl ?_
        refine g_goto (pc := 63) (tgt := 16) dX12_turned_63 (by decide) ?_
        exact h
      · have h := h.2 c50
        refine g_iconst (pc := 53) (v := (1 : Int32)) dX12_turned_53 (by decide) ?_
        refine g_goto (pc := 54) (tgt := 58) dX12_turned_54 (by decide) ?_
        refine g_iadd (pc := 58) dX12_turned_58 ?_
        refine g_istore_n (pc := 59) (L' := [(0, .ref 156), (1, .int (l1 + (1 : Int32))), (2, .int l2), (3, .int l3)]) dX12_turned_59 (Nat.le_of_ble_eq_true rfl) rfl ?_
        refine g_iinc (pc := 60) (x := l3) (v := (l3 + (1 : Int32))) (L' := [(0, .ref 156), (1, .int (l1 + (1 : Int32))), (2, .int l2), (3, .int (l3 + (1 : Int32)))]) dX12_turned_60 rfl rfl (Nat.le_of_ble_eq_true rfl) rfl ?_
        refine g_goto (pc := 63) (tgt := 16) dX12_turned_63 (by decide) ?_
        exact h
theorem dX12_law_0 : decode cX12_law 0 = .ok (.iload_n 1, 1) := by decide +kernel
theorem dX12_law_1 : decode cX12_law 1 = .ok (.iconst 1, 1) := by decide +kernel
theorem dX12_law_2 : decode cX12_law 2 = .ok (.if_icmp .ne 8, 3) := by decide +kernel
theorem dX12_law_5 : decode cX12_law 5 = .ok (.aload_n 0, 1) := by decide +kernel
theorem dX12_law_6 : decode cX12_law 6 = .ok (.invokevirtual 431, 3) := by decide +kernel
theorem dX12_law_9 : decode cX12_law 9 = .ok (.ireturn, 1) := by decide +kernel
theorem dX12_law_10 : decode cX12_law 10 = .ok (.iload_n 1, 1) := by decide +kernel
theorem dX12_law_11 : decode cX12_law 11 = .ok (.ifCond .eq 8, 3) := by decide +kernel
theorem dX12_law_14 : decode cX12_law 14 = .ok (.iload_n 1, 1) := by decide +kernel
theorem dX12_law_15 : decode cX12_law 15 = .ok (.iconst 3, 1) := by decide +kernel
theorem dX12_law_16 : decode cX12_law 16 = .ok (.if_icmp .ne 22, 3) := by decide +kernel
theorem dX12_law_19 : decode cX12_law 19 = .ok (.iload_n 1, 1) := by decide +kernel
theorem dX12_law_20 : decode cX12_law 20 = .ok (.ifCond .ne 13, 3) := by decide +kernel
theorem dX12_law_23 : decode cX12_law 23 = .ok (.aload_n 0, 1) := by decide +kernel
theorem dX12_law_24 : decode cX12_law 24 = .ok (.invokevirtual 435, 3) := by decide +kernel
theorem dX12_law_27 : decode cX12_law 27 = .ok (.invokestatic 408, 3) := by decide +kernel
theorem dX12_law_30 : decode cX12_law 30 = .ok (.goto 7, 3) := by decide +kernel
theorem dX12_law_33 : decode cX12_law 33 = .ok (.aload_n 0, 1) := by decide +kernel
theorem dX12_law_34 : decode cX12_law 34 = .ok (.invokevirtual 435, 3) := by decide +kernel
theorem dX12_law_37 : decode cX12_law 37 = .ok (.ireturn, 1) := by decide +kernel
theorem dX12_law_38 : decode cX12_law 38 = .ok (.iload_n 1, 1) := by decide +kernel
theorem dX12_law_39 : decode cX12_law 39 = .ok (.iconst 2, 1) := by decide +kernel
theorem dX12_law_40 : decode cX12_law 40 = .ok (.if_icmp .eq 10, 3) := by decide +kernel
theorem dX12_law_43 : decode cX12_law 43 = .ok (.iload_n 1, 1) := by decide +kernel
theorem dX12_law_44 : decode cX12_law 44 = .ok (.iconst 4, 1) := by decide +kernel
theorem dX12_law_45 : decode cX12_law 45 = .ok (.if_icmp .eq 5, 3) := by decide +kernel
theorem dX12_law_48 : decode cX12_law 48 = .ok (.iconst (-1), 1) := by decide +kernel
theorem dX12_law_49 : decode cX12_law 49 = .ok (.ireturn, 1) := by decide +kernel
theorem dX12_law_50 : decode cX12_law 50 = .ok (.iconst 0, 1) := by decide +kernel
theorem dX12_law_51 : decode cX12_law 51 = .ok (.istore_n 2, 1) := by decide +kernel
theorem dX12_law_52 : decode cX12_law 52 = .ok (.iconst 0, 1) := by decide +kernel
theorem dX12_law_53 : decode cX12_law 53 = .ok (.istore_n 3, 1) := by decide +kernel
theorem dX12_law_54 : decode cX12_law 54 = .ok (.iload_n 3, 1) := by decide +kernel
theorem dX12_law_55 : decode cX12_law 55 = .ok (.aload_n 0, 1) := by decide +kernel
theorem dX12_law_56 : decode cX12_law 56 = .ok (.getfield 30, 3) := by decide +kernel
theorem dX12_law_59 : decode cX12_law 59 = .ok (.iconst 0, 1) := by decide +kernel
theorem dX12_law_60 : decode cX12_law 60 = .ok (.iaload, 1) := by decide +kernel
theorem dX12_law_61 : decode cX12_law 61 = .ok (.if_icmp .ge 23, 3) := by decide +kernel
theorem dX12_law_64 : decode cX12_law 64 = .ok (.aload_n 0, 1) := by decide +kernel
theorem dX12_law_65 : decode cX12_law 65 = .ok (.iload_n 3, 1) := by decide +kernel
theorem dX12_law_66 : decode cX12_law 66 = .ok (.invokevirtual 438, 3) := by decide +kernel
theorem dX12_law_69 : decode cX12_law 69 = .ok (.ifCond .eq 9, 3) := by decide +kernel
theorem dX12_law_72 : decode cX12_law 72 = .ok (.iload_n 2, 1) := by decide +kernel
theorem dX12_law_73 : decode cX12_law 73 = .ok (.iconst 1, 1) := by decide +kernel
theorem dX12_law_74 : decode cX12_law 74 = .ok (.iload_n 3, 1) := by decide +kernel
theorem dX12_law_75 : decode cX12_law 75 = .ok (.ishl, 1) := by decide +kernel
theorem dX12_law_76 : decode cX12_law 76 = .ok (.ior, 1) := by decide +kernel
theorem dX12_law_77 : decode cX12_law 77 = .ok (.istore_n 2, 1) := by decide +kernel
theorem dX12_law_78 : decode cX12_law 78 = .ok (.iinc 3 1, 3) := by decide +kernel
theorem dX12_law_81 : decode cX12_law 81 = .ok (.goto (-27), 3) := by decide +kernel
theorem dX12_law_84 : decode cX12_law 84 = .ok (.iload_n 1, 1) := by decide +kernel
theorem dX12_law_85 : decode cX12_law 85 = .ok (.iconst 2, 1) := by decide +kernel
theorem dX12_law_86 : decode cX12_law 86 = .ok (.if_icmp .ne 10, 3) := by decide +kernel
theorem dX12_law_89 : decode cX12_law 89 = .ok (.iload_n 2, 1) := by decide +kernel
theorem dX12_law_90 : decode cX12_law 90 = .ok (.invokestatic 408, 3) := by decide +kernel
theorem dX12_law_93 : decode cX12_law 93 = .ok (.goto 4, 3) := by decide +kernel
theorem dX12_law_96 : decode cX12_law 96 = .ok (.iload_n 2, 1) := by decide +kernel
theorem dX12_law_97 : decode cX12_law 97 = .ok (.ireturn, 1) := by decide +kernel
theorem b_X12_law (mm : MM) (Q : Value → MM → Prop) (a1 : Int32) (h : (¬ a1 = (1 : Int32) → ((a1 = 0 → ((¬ a1 = 0 → (∃ Pm1 : Value → MM → Prop, Runs e_X12_untrue [.ref 156] mm Pm1 ∧ ∀ (r1 : Int32) (m1 : MM), Pm1 (.int r1) m1 → (Q (.int r1) m1))) ∧ (a1 = 0 → (∃ Pm1 : Value → MM → Prop, Runs e_X12_untrue [.ref 156] mm Pm1 ∧ ∀ (r1 : Int32) (m1 : MM), Pm1 (.int r1) m1 → (∃ Pm2 : Value → MM → Prop, Runs e_X12_bitsOf [.int r1] m1 Pm2 ∧ ∀ (r2 : Int32) (m2 : MM), Pm2 (.int r2) m2 → (Q (.int r2) m2)))))) ∧ (¬ a1 = 0 → ((¬ a1 = (3 : Int32) → ((a1 = (2 : Int32) → (G e_X12_law 54 [(0, .ref 156), (1, .int a1), (2, .int (0 : Int32)), (3, .int (0 : Int32))] [] mm Q)) ∧ (¬ a1 = (2 : Int32) → ((a1 = (4 : Int32) → (G e_X12_law 54 [(0, .ref 156), (1, .int a1), (2, .int (0 : Int32)), (3, .int (0 : Int32))] [] mm Q)) ∧ (¬ a1 = (4 : Int32) → (Q (.int (-1 : Int32)) mm)))))) ∧ (a1 = (3 : Int32) → ((¬ a1 = 0 → (∃ Pm1 : Value → MM → Prop, Runs e_X12_untrue [.ref 156] mm Pm1 ∧ ∀ (r1 : Int32) (m1 : MM), Pm1 (.int r1) m1 → (Q (.int r1) m1))) ∧ (a1 = 0 → (∃ Pm1 : Value → MM → Prop, Runs e_X12_untrue [.ref 156] mm Pm1 ∧ ∀ (r1 : Int32) (m1 : MM), Pm1 (.int r1) m1 → (∃ Pm2 : Value → MM → Prop, Runs e_X12_bitsOf [.int r1] m1 Pm2 ∧ ∀ (r2 : Int32) (m2 : MM), Pm2 (.int r2) m2 → (Q (.int r2) m2)))))))))) ∧ (a1 = (1 : Int32) → (∃ Pm1 : Value → MM → Prop, Runs e_X12_turned [.ref 156] mm Pm1 ∧ ∀ (r1 : Int32) (m1 : MM), Pm1 (.int r1) m1 → (Q (.int r1) m1)))) : Runs e_X12_law [.ref 156, .int a1] mm Q := by
  refine runs_of_G (L := [(0, .ref 156), (1, .int a1)]) pl_X12 (Nat.le_of_ble_eq_true rfl) rfl ?_
  refine g_iload_n (pc := 0) (x := a1) dX12_law_0 rfl ?_
  refine g_iconst (pc := 1) (v := (1 : Int32)) dX12_law_1 (by decide) ?_
  refine g_icmp_ne (pc := 2) (tgt := 10) dX12_law_2 (by decide) (fun c2 => ?_) (fun c2 => ?_)
  · have h := h.1 c2
    refine g_iload_n (pc := 10) (x := a1) dX12_law_10 rfl ?_
    refine g_if_eq (pc := 11) (tgt := 19) dX12_law_11 (by decide) (fun c11 => ?_) (fun c11 => ?_)
    · have h := h.1 c11
      refine g_iload_n (pc := 19) (x := a1) dX12_law_19 rfl ?_
      refine g_if_ne (pc := 20) (tgt := 33) dX12_law_20 (by decide) (fun c20 => ?_) (fun c20 => ?_)
      · have h := h.1 c20
        refine g_aload_n (pc := 33) (x := 156) dX12_law_33 rfl ?_
        obtain ⟨Pm1, hRm1, h⟩ := h
        refine g_callV (pc := 34) (as := []) dX12_law_34 cw_X12_435 (by decide) rfl rfl sh_156 (Nat.le_of_ble_eq_true rfl) hRm1 ?_
        intro r_ m1 hz_ hp_
        obtain ⟨r1, rfl⟩ := hz_
        have h := h r1 m1 hp_
        exact g_iret (pc := 37) dX12_law_37 rfl rfl rfl h
      · have h := h.2 c20
        refine g_aload_n (pc := 23) (x := 156) dX12_law_23 rfl ?_
        obtain ⟨Pm1, hRm1, h⟩ := h
        refine g_callV (pc := 24) (as := []) dX12_law_24 cw_X12_435 (by decide) rfl rfl sh_156 (Nat.le_of_ble_eq_true rfl) hRm1 ?_
        intro r_ m1 hz_ hp_
        obtain ⟨r1, rfl⟩ := hz_
        have h := h r1 m1 hp_
        obtain ⟨Pm2, hRm2, h⟩ := h
        refine g_callS (pc := 27) (as := [.int r1]) dX12_law_27 cw_X12_408 (by decide) rfl rfl (Nat.le_of_ble_eq_true rfl) hRm2 ?_
        intro r_ m2 hz_ hp_
        obtain ⟨r2, rfl⟩ := hz_
        have h := h r2 m2 hp_
        refine g_goto (pc := 30) (tgt := 37) dX12_law_30 (by decide) ?_
        exact g_iret (pc := 37) dX12_law_37 rfl rfl rfl h
    · have h := h.2 c11
      refine g_iload_n (pc := 14) (x := a1) dX12_law_14 rfl ?_
      refine g_iconst (pc := 15) (v := (3 : Int32)) dX12_law_15 (by decide) ?_
      refine g_icmp_ne (pc := 16) (tgt := 38) dX12_law_16 (by decide) (fun c16 => ?_) (fun c16 => ?_)
      · have h := h.1 c16
        refine g_iload_n (pc := 38) (x := a1) dX12_law_38 rfl ?_
        refine g_iconst (pc := 39) (v := (2 : Int32)) dX12_law_39 (by decide) ?_
        refine g_icmp_eq (pc := 40) (tgt := 50) dX12_law_40 (by decide) (fun c40 => ?_) (fun c40 => ?_)
        · have h := h.1 c40
          refine g_iconst (pc := 50) (v := (0 : Int32)) dX12_law_50 (by decide) ?_
          refine g_istore_n (pc := 51) (L' := [(0, .ref 156), (1, .int a1), (2, .int (0 : Int32))]) dX12_law_51 (Nat.le_of_ble_eq_true rfl) rfl ?_
          refine g_iconst (pc := 52) (v := (0 : Int32)) dX12_law_52 (by decide) ?_
          refine g_istore_n (pc := 53) (L' := [(0, .ref 156), (1, .int a1), (2, .int (0 : Int32)), (3, .int (0 : Int32))]) dX12_law_53 (Nat.le_of_ble_eq_true rfl) rfl ?_
          exact h
        · have h := h.2 c40
          refine g_iload_n (pc := 43) (x := a1) dX12_law_43 rfl ?_
          refine g_iconst (pc := 44) (v := (4 : Int32)) dX12_law_44 (by decide) ?_
          refine g_icmp_eq (pc := 45) (tgt := 50) dX12_law_45 (by decide) (fun c45 => ?_) (fun c45 => ?_)
          · have h := h.1 c45
            refine g_iconst (pc := 50) (v := (0 : Int32)) dX12_law_50 (by decide) ?_
            refine g_istore_n (pc := 51) (L' := [(0, .ref 156), (1, .int a1), (2, .int (0 : Int32))]) dX12_law_51 (Nat.le_of_ble_eq_true rfl) rfl ?_
            refine g_iconst (pc := 52) (v := (0 : Int32)) dX12_law_52 (by decide) ?_
            refine g_istore_n (pc := 53) (L' := [(0, .ref 156), (1, .int a1), (2, .int (0 : Int32)), (3, .int (0 : Int32))]) dX12_law_53 (Nat.le_of_ble_eq_true rfl) rfl ?_
            exact h
          · have h := h.2 c45
            refine g_iconst (pc := 48) (v := (-1 : Int32)) dX12_law_48 (by decide) ?_
            exact g_iret (pc := 49) dX12_law_49 rfl rfl rfl h
      · have h := h.2 c16
        refine g_iload_n (pc := 19) (x := a1) dX12_law_19 rfl ?_
        refine g_if_ne (pc := 20) (tgt := 33) dX12_law_20 (by decide) (fun c20 => ?_) (fun c20 => ?_)
        · have h := h.1 c20
          refine g_aload_n (pc := 33) (x := 156) dX12_law_33 rfl ?_
          obtain ⟨Pm1, hRm1, h⟩ := h
          refine g_callV (pc := 34) (as := []) dX12_law_34 cw_X12_435 (by decide) rfl rfl sh_156 (Nat.le_of_ble_eq_true rfl) hRm1 ?_
          intro r_ m1 hz_ hp_
          obtain ⟨r1, rfl⟩ := hz_
          have h := h r1 m1 hp_
          exact g_iret (pc := 37) dX12_law_37 rfl rfl rfl h
        · have h := h.2 c20
          refine g_aload_n (pc := 23) (x := 156) dX12_law_23 rfl ?_
          obtain ⟨Pm1, hRm1, h⟩ := h
          refine g_callV (pc := 24) (as := []) dX12_law_24 cw_X12_435 (by decide) rfl rfl sh_156 (Nat.le_of_ble_eq_true rfl) hRm1 ?_
          intro r_ m1 hz_ hp_
          obtain ⟨r1, rfl⟩ := hz_
          have h := h r1 m1 hp_
          obtain ⟨Pm2, hRm2, h⟩ := h
          refine g_callS (pc := 27) (as := [.int r1]) dX12_law_27 cw_X12_408 (by decide) rfl rfl (Nat.le_of_ble_eq_true rfl) hRm2 ?_
          intro r_ m2 hz_ hp_
          obtain ⟨r2, rfl⟩ := hz_
          have h := h r2 m2 hp_
          refine g_goto (pc := 30) (tgt := 37) dX12_law_30 (by decide) ?_
          exact g_iret (pc := 37) dX12_law_37 rfl rfl rfl h
  · have h := h.2 c2
    refine g_aload_n (pc := 5) (x := 156) dX12_law_5 rfl ?_
    obtain ⟨Pm1, hRm1, h⟩ := h
    refine g_callV (pc := 6) (as := []) dX12_law_6 cw_X12_431 (by decide) rfl rfl sh_156 (Nat.le_of_ble_eq_true rfl) hRm1 ?_
    intro r_ m1 hz_ hp_
    obtain ⟨r1, rfl⟩ := hz_
    have h := h r1 m1 hp_
    exact g_iret (pc := 9) dX12_law_9 rfl rfl rfl h
theorem b_X12_law_54 (mm : MM) (Q : Value → MM → Prop) (l1 : Int32) (l2 : Int32) (l3 : Int32) (h : ((mm.1 162 0) ≤ l3 → ((¬ l1 = (2 : Int32) → (Q (.int l2) mm)) ∧ (l1 = (2 : Int32) → (∃ Pm1 : Value → MM → Prop, Runs e_X12_bitsOf [.int l2] mm Pm1 ∧ ∀ (r1 : Int32) (m1 : MM), Pm1 (.int r1) m1 → (Q (.int r1) m1))))) ∧ (¬ (mm.1 162 0) ≤ l3 → (∃ Pm1 : Value → MM → Prop, Runs e_X12_isBad [.ref 156, .int l3] mm Pm1 ∧ (∀ r m1, Pm1 r m1 → r = .int 1 ∨ r = .int 0) ∧ (∀ m1, Pm1 (.int 1) m1 → (G e_X12_law 54 [(0, .ref 156), (1, .int l1), (2, .int (l2 ||| ((1 : Int32) <<< (l3 &&& 31)))), (3, .int (l3 + (1 : Int32)))] [] m1 Q)) ∧ (∀ m1, Pm1 (.int 0) m1 → (G e_X12_law 54 [(0, .ref 156), (1, .int l1), (2, .int l2), (3, .int (l3 + (1 : Int32)))] [] m1 Q))))) : G e_X12_law 54 [(0, .ref 156), (1, .int l1), (2, .int l2), (3, .int l3)] [] mm Q := by
  refine g_iload_n (pc := 54) (x := l3) dX12_law_54 rfl ?_
  refine g_aload_n (pc := 55) (x := 156) dX12_law_55 rfl ?_
  refine g_getR (pc := 56) (dd := 6) dX12_law_56 fo_X12_30 sh_156 rfl ?_
  refine g_iconst (pc := 59) (v := (0 : Int32)) dX12_law_59 (by decide) ?_
  refine g_iaload (pc := 60) dX12_law_60 sh_162 (vp_in_nI (n := 0) (N := 420) (by decide) (by decide)) ?_
  refine g_icmp_ge (pc := 61) (tgt := 84) dX12_law_61 (by decide) (fun c61 => ?_) (fun c61 => ?_)
  · have h := h.1 c61
    refine g_iload_n (pc := 84) (x := l1) dX12_law_84 rfl ?_
    refine g_iconst (pc := 85) (v := (2 : Int32)) dX12_law_85 (by decide) ?_
    refine g_icmp_ne (pc := 86) (tgt := 96) dX12_law_86 (by decide) (fun c86 => ?_) (fun c86 => ?_)
    · have h := h.1 c86
      refine g_iload_n (pc := 96) (x := l2) dX12_law_96 rfl ?_
      exact g_iret (pc := 97) dX12_law_97 rfl rfl rfl h
    · have h := h.2 c86
      refine g_iload_n (pc := 89) (x := l2) dX12_law_89 rfl ?_
      obtain ⟨Pm1, hRm1, h⟩ := h
      refine g_callS (pc := 90) (as := [.int l2]) dX12_law_90 cw_X12_408 (by decide) rfl rfl (Nat.le_of_ble_eq_true rfl) hRm1 ?_
      intro r_ m1 hz_ hp_
      obtain ⟨r1, rfl⟩ := hz_
      have h := h r1 m1 hp_
      refine g_goto (pc := 93) (tgt := 97) dX12_law_93 (by decide) ?_
      exact g_iret (pc := 97) dX12_law_97 rfl rfl rfl h
  · have h := h.2 c61
    refine g_aload_n (pc := 64) (x := 156) dX12_law_64 rfl ?_
    refine g_iload_n (pc := 65) (x := l3) dX12_law_65 rfl ?_
    obtain ⟨Pm1, hRm1, h⟩ := h
    refine g_callV (pc := 66) (as := [.int l3]) dX12_law_66 cw_X12_438 (by decide) rfl rfl sh_156 (Nat.le_of_ble_eq_true rfl) hRm1 ?_
    intro r_ m1 hz_ hp_
    rcases h.1 r_ m1 hp_ with rfl | rfl
    · have h := h.2.1 m1 hp_
      refine g_if_eq (pc := 69) (tgt := 78) dX12_law_69 (by decide) (fun c69 => absurd c69 (by decide)) (fun _ => ?_)
      refine g_iload_n (pc := 72) (x := l2) dX12_law_72 rfl ?_
      refine g_iconst (pc := 73) (v := (1 : Int32)) dX12_law_73 (by decide) ?_
      refine g_iload_n (pc := 74) (x := l3) dX12_law_74 rfl ?_
      refine g_ishl (pc := 75) dX12_law_75 ?_
      refine g_ior (pc := 76) dX12_law_76 ?_
      refine g_istore_n (pc := 77) (L' := [(0, .ref 156), (1, .int l1), (2, .int (l2 ||| ((1 : Int32) <<< (l3 &&& 31)))), (3, .int l3)]) dX12_law_77 (Nat.le_of_ble_eq_true rfl) rfl ?_
      refine g_iinc (pc := 78) (x := l3) (v := (l3 + (1 : Int32))) (L' := [(0, .ref 156), (1, .int l1), (2, .int (l2 ||| ((1 : Int32) <<< (l3 &&& 31)))), (3, .int (l3 + (1 : Int32)))]) dX12_law_78 rfl rfl (Nat.le_of_ble_eq_true rfl) rfl ?_
      refine g_goto (pc := 81) (tgt := 54) dX12_law_81 (by decide) ?_
      exact h
    · have h := h.2.2 m1 hp_
      refine g_if_eq (pc := 69) (tgt := 78) dX12_law_69 (by decide) (fun _ => ?_) (fun c69 => absurd c69 (by decide))
      refine g_iinc (pc := 78) (x := l3) (v := (l3 + (1 : Int32))) (L' := [(0, .ref 156), (1, .int l1), (2, .int l2), (3, .int (l3 + (1 : Int32)))]) dX12_law_78 rfl rfl (Nat.le_of_ble_eq_true rfl) rfl ?_
      refine g_goto (pc := 81) (tgt := 54) dX12_law_81 (by decide) ?_
      exact h
theorem dX12_wood_0 : decode cX12_wood 0 = .ok (.iload_n 1, 1) := by decide +kernel
theorem dX12_wood_1 : decode cX12_wood 1 = .ok (.ifCond .lt 13, 3) := by decide +kernel
theorem dX12_wood_4 : decode cX12_wood 4 = .ok (.iload_n 1, 1) := by decide +kernel
theorem dX12_wood_5 : decode cX12_wood 5 = .ok (.aload_n 0, 1) := by decide +kernel
theorem dX12_wood_6 : decode cX12_wood 6 = .ok (.getfield 30, 3) := by decide +kernel
theorem dX12_wood_9 : decode cX12_wood 9 = .ok (.iconst 5, 1) := by decide +kernel
theorem dX12_wood_10 : decode cX12_wood 10 = .ok (.iaload, 1) := by decide +kernel
theorem dX12_wood_11 : decode cX12_wood 11 = .ok (.if_icmp .lt 7, 3) := by decide +kernel
theorem dX12_wood_14 : decode cX12_wood 14 = .ok (.iconst (-1), 1) := by decide +kernel
theorem dX12_wood_15 : decode cX12_wood 15 = .ok (.goto 12, 3) := by decide +kernel
theorem dX12_wood_18 : decode cX12_wood 18 = .ok (.aload_n 0, 1) := by decide +kernel
theorem dX12_wood_19 : decode cX12_wood 19 = .ok (.getfield 33, 3) := by decide +kernel
theorem dX12_wood_22 : decode cX12_wood 22 = .ok (.bipush 50, 2) := by decide +kernel
theorem dX12_wood_24 : decode cX12_wood 24 = .ok (.iload_n 1, 1) := by decide +kernel
theorem dX12_wood_25 : decode cX12_wood 25 = .ok (.iadd, 1) := by decide +kernel
theorem dX12_wood_26 : decode cX12_wood 26 = .ok (.iaload, 1) := by decide +kernel
theorem dX12_wood_27 : decode cX12_wood 27 = .ok (.ireturn, 1) := by decide +kernel
def o_X12_wood (mm : MM) (a1 : Int32) : Prop := (a1 < 0 → (True)) ∧ (¬ a1 < 0 → ((a1 < (mm.1 162 5) → (vp_in ((50 : Int32) + a1) 1260 ∧ (True))) ∧ (¬ a1 < (mm.1 162 5) → (True))))
noncomputable def v_X12_wood (mm : MM) (a1 : Int32) : Int32 := (cite (a1 < 0) (-1 : Int32) (cite (a1 < (mm.1 162 5)) (mm.1 163 ((50 : Int32) + a1).toNatClampNeg) (-1 : Int32)))
theorem rv_X12_wood (mm : MM) (a1 : Int32) (h : o_X12_wood mm a1) : Runs e_X12_wood [.ref 156, .int a1] mm (fun r m_ => r = .int (v_X12_wood mm a1) ∧ mm = m_) := by
  refine runs_of_G (L := [(0, .ref 156), (1, .int a1)]) pl_X12 (Nat.le_of_ble_eq_true rfl) rfl ?_
  unfold o_X12_wood at h
  refine g_iload_n (pc := 0) (x := a1) dX12_wood_0 rfl ?_
  refine g_if_lt (pc := 1) (tgt := 14) dX12_wood_1 (by decide) (fun c1 => ?_) (fun c1 => ?_)
  · have c1_0 : a1 < 0 := c1
    have h := h.1 c1
    refine g_iconst (pc := 14) (v := (-1 : Int32)) dX12_wood_14 (by decide) ?_
    refine g_goto (pc := 15) (tgt := 27) dX12_wood_15 (by decide) ?_
    exact g_iret (pc := 27) dX12_wood_27 rfl rfl rfl ⟨(by unfold v_X12_wood; rw [cite_pos c1_0] <;> rfl), rfl⟩
  · have c1_0 : ¬ a1 < 0 := c1
    have h := h.2 c1
    refine g_iload_n (pc := 4) (x := a1) dX12_wood_4 rfl ?_
    refine g_aload_n (pc := 5) (x := 156) dX12_wood_5 rfl ?_
    refine g_getR (pc := 6) (dd := 6) dX12_wood_6 fo_X12_30 sh_156 rfl ?_
    refine g_iconst (pc := 9) (v := (5 : Int32)) dX12_wood_9 (by decide) ?_
    refine g_iaload (pc := 10) dX12_wood_10 sh_162 (vp_in_nI (n := 5) (N := 420) (by decide) (by decide)) ?_
    refine g_icmp_lt (pc := 11) (tgt := 18) dX12_wood_11 (by decide) (fun c11 => ?_) (fun c11 => ?_)
    · have c11_1 : a1 < (mm.1 162 5) := c11
      have h := h.1 c11
      refine g_aload_n (pc := 18) (x := 156) dX12_wood_18 rfl ?_
      refine g_getR (pc := 19) (dd := 7) dX12_wood_19 fo_X12_33 sh_156 rfl ?_
      refine g_bipush (pc := 22) (v := (50 : Int32)) dX12_wood_22 (by decide) ?_
      refine g_iload_n (pc := 24) (x := a1) dX12_wood_24 rfl ?_
      refine g_iadd (pc := 25) dX12_wood_25 ?_
      refine g_iaload (pc := 26) dX12_wood_26 sh_163 h.1 ?_
      have h := h.2
      exact g_iret (pc := 27) dX12_wood_27 rfl rfl rfl ⟨(by unfold v_X12_wood; rw [cite_neg c1_0, cite_pos c11_1] <;> rfl), rfl⟩
    · have c11_1 : ¬ a1 < (mm.1 162 5) := c11
      have h := h.2 c11
      refine g_iconst (pc := 14) (v := (-1 : Int32)) dX12_wood_14 (by decide) ?_
      refine g_goto (pc := 15) (tgt := 27) dX12_wood_15 (by decide) ?_
      exact g_iret (pc := 27) dX12_wood_27 rfl rfl rfl ⟨(by unfold v_X12_wood; rw [cite_neg c1_0, cite_neg c11_1] <;> rfl), rfl⟩
theorem dX12_least_0 : decode cX12_least 0 = .ok (.iload_n 0, 1) := by decide +kernel
theorem dX12_least_1 : decode cX12_least 1 = .ok (.iload_n 1, 1) := by decide +kernel
theorem dX12_least_2 : decode cX12_least 2 = .ok (.if_icmp .ge 7, 3) := by decide +kernel
theorem dX12_least_5 : decode cX12_least 5 = .ok (.iload_n 0, 1) := by decide +kernel
theorem dX12_least_6 : decode cX12_least 6 = .ok (.goto 4, 3) := by decide +kernel
theorem dX12_least_9 : decode cX12_least 9 = .ok (.iload_n 1, 1) := by decide +kernel
theorem dX12_least_10 : decode cX12_least 10 = .ok (.ireturn, 1) := by decide +kernel
noncomputable def v_X12_least (mm : MM) (a0 : Int32) (a1 : Int32) : Int32 := (cite (a1 ≤ a0) a1 a0)
theorem rv_X12_least (mm : MM) (a0 : Int32) (a1 : Int32) : Runs e_X12_least [.int a0, .int a1] mm (fun r m_ => r = .int (v_X12_least mm a0 a1) ∧ mm = m_) := by
  refine runs_of_G (L := [(0, .int a0), (1, .int a1)]) pl_X12 (Nat.le_of_ble_eq_true rfl) rfl ?_
  refine g_iload_n (pc := 0) (x := a0) dX12_least_0 rfl ?_
  refine g_iload_n (pc := 1) (x := a1) dX12_least_1 rfl ?_
  refine g_icmp_ge (pc := 2) (tgt := 9) dX12_least_2 (by decide) (fun c2 => ?_) (fun c2 => ?_)
  · have c2_0 : a1 ≤ a0 := c2
    refine g_iload_n (pc := 9) (x := a1) dX12_least_9 rfl ?_
    exact g_iret (pc := 10) dX12_least_10 rfl rfl rfl ⟨(by unfold v_X12_least; rw [cite_pos c2_0] <;> rfl), rfl⟩
  · have c2_0 : ¬ a1 ≤ a0 := c2
    refine g_iload_n (pc := 5) (x := a0) dX12_least_5 rfl ?_
    refine g_goto (pc := 6) (tgt := 10) dX12_least_6 (by decide) ?_
    exact g_iret (pc := 10) dX12_least_10 rfl rfl rfl ⟨(by unfold v_X12_least; rw [cite_neg c2_0] <;> rfl), rfl⟩
theorem dX12_jacks_0 : decode cX12_jacks 0 = .ok (.iconst 0, 1) := by decide +kernel
theorem dX12_jacks_1 : decode cX12_jacks 1 = .ok (.istore_n 2, 1) := by decide +kernel
theorem dX12_jacks_2 : decode cX12_jacks 2 = .ok (.iload_n 2, 1) := by decide +kernel
theorem dX12_jacks_3 : decode cX12_jacks 3 = .ok (.iload_n 1, 1) := by decide +kernel
theorem dX12_jacks_4 : decode cX12_jacks 4 = .ok (.if_icmp .gt 30, 3) := by decide +kernel
theorem dX12_jacks_7 : decode cX12_jacks 7 = .ok (.aload_n 0, 1) := by decide +kernel
theorem dX12_jacks_8 : decode cX12_jacks 8 = .ok (.getfield 88, 3) := by decide +kernel
theorem dX12_jacks_11 : decode cX12_jacks 11 = .ok (.sipush 800, 3) := by decide +kernel
theorem dX12_jacks_14 : decode cX12_jacks 14 = .ok (.iload_n 2, 1) := by decide +kernel
theorem dX12_jacks_15 : decode cX12_jacks 15 = .ok (.iadd, 1) := by decide +kernel
theorem dX12_jacks_16 : decode cX12_jacks 16 = .ok (.iload_n 2, 1) := by decide +kernel
theorem dX12_jacks_17 : decode cX12_jacks 17 = .ok (.ifCond .ne 7, 3) := by decide +kernel
theorem dX12_jacks_20 : decode cX12_jacks 20 = .ok (.iconst 0, 1) := by decide +kernel
theorem dX12_jacks_21 : decode cX12_jacks 21 = .ok (.goto 6, 3) := by decide +kernel
theorem dX12_jacks_24 : decode cX12_jacks 24 = .ok (.ldc_w 441, 3) := by decide +kernel
theorem dX12_jacks_27 : decode cX12_jacks 27 = .ok (.iastore, 1) := by decide +kernel
theorem dX12_jacks_28 : decode cX12_jacks 28 = .ok (.iinc 2 1, 3) := by decide +kernel
theorem dX12_jacks_31 : decode cX12_jacks 31 = .ok (.goto (-29), 3) := by decide +kernel
theorem dX12_jacks_34 : decode cX12_jacks 34 = .ok (.bipush 7, 2) := by decide +kernel
theorem dX12_jacks_36 : decode cX12_jacks 36 = .ok (.istore_n 2, 1) := by decide +kernel
theorem dX12_jacks_37 : decode cX12_jacks 37 = .ok (.iload_n 2, 1) := by decide +kernel
theorem dX12_jacks_38 : decode cX12_jacks 38 = .ok (.ifCond .lt 150, 3) := by decide +kernel
theorem dX12_jacks_41 : decode cX12_jacks 41 = .ok (.iload_n 2, 1) := by decide +kernel
theorem dX12_jacks_42 : decode cX12_jacks 42 = .ok (.aload_n 0, 1) := by decide +kernel
theorem dX12_jacks_43 : decode cX12_jacks 43 = .ok (.getfield 30, 3) := by decide +kernel
theorem dX12_jacks_46 : decode cX12_jacks 46 = .ok (.iconst 5, 1) := by decide +kernel
theorem dX12_jacks_47 : decode cX12_jacks 47 = .ok (.iaload, 1) := by decide +kernel
theorem dX12_jacks_48 : decode cX12_jacks 48 = .ok (.if_icmp .ge 18, 3) := by decide +kernel
theorem dX12_jacks_51 : decode cX12_jacks 51 = .ok (.aload_n 0, 1) := by decide +kernel
theorem dX12_jacks_52 : decode cX12_jacks 52 = .ok (.getfield 30, 3) := by decide +kernel
theorem dX12_jacks_55 : decode cX12_jacks 55 = .ok (.sipush 170, 3) := by decide +kernel
theorem dX12_jacks_58 : decode cX12_jacks 58 = .ok (.iconst 2, 1) := by decide +kernel
theorem dX12_jacks_59 : decode cX12_jacks 59 = .ok (.iload_n 2, 1) := by decide +kernel
theorem dX12_jacks_60 : decode cX12_jacks 60 = .ok (.imul, 1) := by decide +kernel
theorem dX12_jacks_61 : decode cX12_jacks 61 = .ok (.iadd, 1) := by decide +kernel
theorem dX12_jacks_62 : decode cX12_jacks 62 = .ok (.iaload, 1) := by decide +kernel
theorem dX12_jacks_63 : decode cX12_jacks 63 = .ok (.goto 4, 3) := by decide +kernel
theorem dX12_jacks_66 : decode cX12_jacks 66 = .ok (.iconst 1, 1) := by decide +kernel
theorem dX12_jacks_67 : decode cX12_jacks 67 = .ok (.istore_n 3, 1) := by decide +kernel
theorem dX12_jacks_68 : decode cX12_jacks 68 = .ok (.iload_n 2, 1) := by decide +kernel
theorem dX12_jacks_69 : decode cX12_jacks 69 = .ok (.aload_n 0, 1) := by decide +kernel
theorem dX12_jacks_70 : decode cX12_jacks 70 = .ok (.getfield 30, 3) := by decide +kernel
theorem dX12_jacks_73 : decode cX12_jacks 73 = .ok (.iconst 5, 1) := by decide +kernel
theorem dX12_jacks_74 : decode cX12_jacks 74 = .ok (.iaload, 1) := by decide +kernel
theorem dX12_jacks_75 : decode cX12_jacks 75 = .ok (.if_icmp .ge 15, 3) := by decide +kernel
theorem dX12_jacks_78 : decode cX12_jacks 78 = .ok (.aload_n 0, 1) := by decide +kernel
theorem dX12_jacks_79 : decode cX12_jacks 79 = .ok (.getfield 33, 3) := by decide +kernel
theorem dX12_jacks_82 : decode cX12_jacks 82 = .ok (.bipush 50, 2) := by decide +kernel
theorem dX12_jacks_84 : decode cX12_jacks 84 = .ok (.iload_n 2, 1) := by decide +kernel
theorem dX12_jacks_85 : decode cX12_jacks 85 = .ok (.iadd, 1) := by decide +kernel
theorem dX12_jacks_86 : decode cX12_jacks 86 = .ok (.iaload, 1) := by decide +kernel
theorem dX12_jacks_87 : decode cX12_jacks 87 = .ok (.goto 4, 3) := by decide +kernel
theorem dX12_jacks_90 : decode cX12_jacks 90 = .ok (.iconst 0, 1) := by decide +kernel
theorem dX12_jacks_91 : decode cX12_jacks 91 = .ok (.istore 4, 2) := by decide +kernel
theorem dX12_jacks_93 : decode cX12_jacks 93 = .ok (.iconst 0, 1) := by decide +kernel
theorem dX12_jacks_94 : decode cX12_jacks 94 = .ok (.istore 5, 2) := by decide +kernel
theorem dX12_jacks_96 : decode cX12_jacks 96 = .ok (.iload 5, 2) := by decide +kernel
theorem dX12_jacks_98 : decode cX12_jacks 98 = .ok (.iload_n 1, 1) := by decide +kernel
theorem dX12_jacks_99 : decode cX12_jacks 99 = .ok (.if_icmp .gt 83, 3) := by decide +kernel
theorem dX12_jacks_102 : decode cX12_jacks 102 = .ok (.ldc_w 441, 3) := by decide +kernel
theorem dX12_jacks_105 : decode cX12_jacks 105 = .ok (.istore 6, 2) := by decide +kernel
theorem dX12_jacks_107 : decode cX12_jacks 107 = .ok (.iconst 0, 1) := by decide +kernel
theorem dX12_jacks_108 : decode cX12_jacks 108 = .ok (.istore 7, 2) := by decide +kernel
theorem dX12_jacks_110 : decode cX12_jacks 110 = .ok (.iload 7, 2) := by decide +kernel
theorem dX12_jacks_112 : decode cX12_jacks 112 = .ok (.iload 4, 2) := by decide +kernel
theorem dX12_jacks_114 : decode cX12_jacks 114 = .ok (.if_icmp .gt 48, 3) := by decide +kernel
theorem dX12_jacks_117 : decode cX12_jacks 117 = .ok (.iload 7, 2) := by decide +kernel
theorem dX12_jacks_119 : decode cX12_jacks 119 = .ok (.iload_n 3, 1) := by decide +kernel
theorem dX12_jacks_120 : decode cX12_jacks 120 = .ok (.imul, 1) := by decide +kernel
theorem dX12_jacks_121 : decode cX12_jacks 121 = .ok (.iload 5, 2) := by decide +kernel
theorem dX12_jacks_123 : decode cX12_jacks 123 = .ok (.if_icmp .gt 39, 3) := by decide +kernel
theorem dX12_jacks_126 : decode cX12_jacks 126 = .ok (.iload 6, 2) := by decide +kernel
theorem dX12_jacks_128 : decode cX12_jacks 128 = .ok (.aload_n 0, 1) := by decide +kernel
theorem dX12_jacks_129 : decode cX12_jacks 129 = .ok (.getfield 88, 3) := by decide +kernel
theorem dX12_jacks_132 : decode cX12_jacks 132 = .ok (.bipush 100, 2) := by decide +kernel
theorem dX12_jacks_134 : decode cX12_jacks 134 = .ok (.iload_n 2, 1) := by decide +kernel
theorem dX12_jacks_135 : decode cX12_jacks 135 = .ok (.imul, 1) := by decide +kernel
theorem dX12_jacks_136 : decode cX12_jacks 136 = .ok (.bipush 100, 2) := by decide +kernel
theorem dX12_jacks_138 : decode cX12_jacks 138 = .ok (.iadd, 1) := by decide +kernel
theorem dX12_jacks_139 : decode cX12_jacks 139 = .ok (.iload 5, 2) := by decide +kernel
theorem dX12_jacks_141 : decode cX12_jacks 141 = .ok (.iadd, 1) := by decide +kernel
theorem dX12_jacks_142 : decode cX12_jacks 142 = .ok (.iload 7, 2) := by decide +kernel
theorem dX12_jacks_144 : decode cX12_jacks 144 = .ok (.iload_n 3, 1) := by decide +kernel
theorem dX12_jacks_145 : decode cX12_jacks 145 = .ok (.imul, 1) := by decide +kernel
theorem dX12_jacks_146 : decode cX12_jacks 146 = .ok (.isub, 1) := by decide +kernel
theorem dX12_jacks_147 : decode cX12_jacks 147 = .ok (.iaload, 1) := by decide +kernel
theorem dX12_jacks_148 : decode cX12_jacks 148 = .ok (.iload 7, 2) := by decide +kernel
theorem dX12_jacks_150 : decode cX12_jacks 150 = .ok (.iadd, 1) := by decide +kernel
theorem dX12_jacks_151 : decode cX12_jacks 151 = .ok (.invokestatic 442, 3) := by decide +kernel
theorem dX12_jacks_154 : decode cX12_jacks 154 = .ok (.istore 6, 2) := by decide +kernel
theorem dX12_jacks_156 : decode cX12_jacks 156 = .ok (.iinc 7 1, 3) := by decide +kernel
theorem dX12_jacks_159 : decode cX12_jacks 159 = .ok (.goto (-49), 3) := by decide +kernel
theorem dX12_jacks_162 : decode cX12_jacks 162 = .ok (.aload_n 0, 1) := by decide +kernel
theorem dX12_jacks_163 : decode cX12_jacks 163 = .ok (.getfield 88, 3) := by decide +kernel
theorem dX12_jacks_166 : decode cX12_jacks 166 = .ok (.bipush 100, 2) := by decide +kernel
theorem dX12_jacks_168 : decode cX12_jacks 168 = .ok (.iload_n 2, 1) := by decide +kernel
theorem dX12_jacks_169 : decode cX12_jacks 169 = .ok (.imul, 1) := by decide +kernel
theorem dX12_jacks_170 : decode cX12_jacks 170 = .ok (.iload 5, 2) := by decide +kernel
theorem dX12_jacks_172 : decode cX12_jacks 172 = .ok (.iadd, 1) := by decide +kernel
theorem dX12_jacks_173 : decode cX12_jacks 173 = .ok (.iload 6, 2) := by decide +kernel
theorem dX12_jacks_175 : decode cX12_jacks 175 = .ok (.iastore, 1) := by decide +kernel
theorem dX12_jacks_176 : decode cX12_jacks 176 = .ok (.iinc 5 1, 3) := by decide +kernel
theorem dX12_jacks_179 : decode cX12_jacks 179 = .ok (.goto (-83), 3) := by decide +kernel
theorem dX12_jacks_182 : decode cX12_jacks 182 = .ok (.iinc 2 (-1), 3) := by decide +kernel
theorem dX12_jacks_185 : decode cX12_jacks 185 = .ok (.goto (-148), 3) := by decide +kernel
theorem dX12_jacks_188 : decode cX12_jacks 188 = .ok (.aload_n 0, 1) := by decide +kernel
theorem dX12_jacks_189 : decode cX12_jacks 189 = .ok (.getfield 88, 3) := by decide +kernel
theorem dX12_jacks_192 : decode cX12_jacks 192 = .ok (.iload_n 1, 1) := by decide +kernel
theorem dX12_jacks_193 : decode cX12_jacks 193 = .ok (.iaload, 1) := by decide +kernel
theorem dX12_jacks_194 : decode cX12_jacks 194 = .ok (.ldc_w 441, 3) := by decide +kernel
theorem dX12_jacks_197 : decode cX12_jacks 197 = .ok (.if_icmp .lt 7, 3) := by decide +kernel
theorem dX12_jacks_200 : decode cX12_jacks 200 = .ok (.ldc_w 441, 3) := by decide +kernel
theorem dX12_jacks_203 : decode cX12_jacks 203 = .ok (.ireturn, 1) := by decide +kernel
theorem dX12_jacks_204 : decode cX12_jacks 204 = .ok (.iload_n 1, 1) := by decide +kernel
theorem dX12_jacks_205 : decode cX12_jacks 205 = .ok (.istore_n 2, 1) := by decide +kernel
theorem dX12_jacks_206 : decode cX12_jacks 206 = .ok (.iconst 0, 1) := by decide +kernel
theorem dX12_jacks_207 : decode cX12_jacks 207 = .ok (.istore_n 3, 1) := by decide +kernel
theorem dX12_jacks_208 : decode cX12_jacks 208 = .ok (.iload_n 3, 1) := by decide +kernel
theorem dX12_jacks_209 : decode cX12_jacks 209 = .ok (.bipush 8, 2) := by decide +kernel
theorem dX12_jacks_211 : decode cX12_jacks 211 = .ok (.if_icmp .ge 128, 3) := by decide +kernel
theorem dX12_jacks_214 : decode cX12_jacks 214 = .ok (.iload_n 3, 1) := by decide +kernel
theorem dX12_jacks_215 : decode cX12_jacks 215 = .ok (.aload_n 0, 1) := by decide +kernel
theorem dX12_jacks_216 : decode cX12_jacks 216 = .ok (.getfield 30, 3) := by decide +kernel
theorem dX12_jacks_219 : decode cX12_jacks 219 = .ok (.iconst 5, 1) := by decide +kernel
theorem dX12_jacks_220 : decode cX12_jacks 220 = .ok (.iaload, 1) := by decide +kernel
theorem dX12_jacks_221 : decode cX12_jacks 221 = .ok (.if_icmp .ge 18, 3) := by decide +kernel
theorem dX12_jacks_224 : decode cX12_jacks 224 = .ok (.aload_n 0, 1) := by decide +kernel
theorem dX12_jacks_225 : decode cX12_jacks 225 = .ok (.getfield 30, 3) := by decide +kernel
theorem dX12_jacks_228 : decode cX12_jacks 228 = .ok (.sipush 170, 3) := by decide +kernel
theorem dX12_jacks_231 : decode cX12_jacks 231 = .ok (.iconst 2, 1) := by decide +kernel
theorem dX12_jacks_232 : decode cX12_jacks 232 = .ok (.iload_n 3, 1) := by decide +kernel
theorem dX12_jacks_233 : decode cX12_jacks 233 = .ok (.imul, 1) := by decide +kernel
theorem dX12_jacks_234 : decode cX12_jacks 234 = .ok (.iadd, 1) := by decide +kernel
theorem dX12_jacks_235 : decode cX12_jacks 235 = .ok (.iaload, 1) := by decide +kernel
theorem dX12_jacks_236 : decode cX12_jacks 236 = .ok (.goto 4, 3) := by decide +kernel
theorem dX12_jacks_239 : decode cX12_jacks 239 = .ok (.iconst 1, 1) := by decide +kernel
theorem dX12_jacks_240 : decode cX12_jacks 240 = .ok (.istore 4, 2) := by decide +kernel
theorem dX12_jacks_242 : decode cX12_jacks 242 = .ok (.iload_n 3, 1) := by decide +kernel
theorem dX12_jacks_243 : decode cX12_jacks 243 = .ok (.aload_n 0, 1) := by decide +kernel
theorem dX12_jacks_244 : decode cX12_jacks 244 = .ok (.getfield 30, 3) := by decide +kernel
theorem dX12_jacks_247 : decode cX12_jacks 247 = .ok (.iconst 5, 1) := by decide +kernel
theorem dX12_jacks_248 : decode cX12_jacks 248 = .ok (.iaload, 1) := by decide +kernel
theorem dX12_jacks_249 : decode cX12_jacks 249 = .ok (.if_icmp .ge 22, 3) := by decide +kernel
theorem dX12_jacks_252 : decode cX12_jacks 252 = .ok (.aload_n 0, 1) := by decide +kernel
theorem dX12_jacks_253 : decode cX12_jacks 253 = .ok (.getfield 33, 3) := by decide +kernel
theorem dX12_jacks_256 : decode cX12_jacks 256 = .ok (.bipush 50, 2) := by decide +kernel
theorem dX12_jacks_258 : decode cX12_jacks 258 = .ok (.iload_n 3, 1) := by decide +kernel
theorem dX12_jacks_259 : decode cX12_jacks 259 = .ok (.iadd, 1) := by decide +kernel
theorem dX12_jacks_260 : decode cX12_jacks 260 = .ok (.iaload, 1) := by decide +kernel
theorem dX12_jacks_261 : decode cX12_jacks 261 = .ok (.iload_n 2, 1) := by decide +kernel
theorem dX12_jacks_262 : decode cX12_jacks 262 = .ok (.iload 4, 2) := by decide +kernel
theorem dX12_jacks_264 : decode cX12_jacks 264 = .ok (.idiv, 1) := by decide +kernel
theorem dX12_jacks_265 : decode cX12_jacks 265 = .ok (.invokestatic 442, 3) := by decide +kernel
theorem dX12_jacks_268 : decode cX12_jacks 268 = .ok (.goto 4, 3) := by decide +kernel
theorem dX12_jacks_271 : decode cX12_jacks 271 = .ok (.iconst 0, 1) := by decide +kernel
theorem dX12_jacks_272 : decode cX12_jacks 272 = .ok (.istore 5, 2) := by decide +kernel
theorem dX12_jacks_274 : decode cX12_jacks 274 = .ok (.aload_n 0, 1) := by decide +kernel
theorem dX12_jacks_275 : decode cX12_jacks 275 = .ok (.getfield 88, 3) := by decide +kernel
theorem dX12_jacks_278 : decode cX12_jacks 278 = .ok (.bipush 100, 2) := by decide +kernel
theorem dX12_jacks_280 : decode cX12_jacks 280 = .ok (.iload_n 3, 1) := by decide +kernel
theorem dX12_jacks_281 : decode cX12_jacks 281 = .ok (.imul, 1) := by decide +kernel
theorem dX12_jacks_282 : decode cX12_jacks 282 = .ok (.bipush 100, 2) := by decide +kernel
theorem dX12_jacks_284 : decode cX12_jacks 284 = .ok (.iadd, 1) := by decide +kernel
theorem dX12_jacks_285 : decode cX12_jacks 285 = .ok (.iload_n 2, 1) := by decide +kernel
theorem dX12_jacks_286 : decode cX12_jacks 286 = .ok (.iadd, 1) := by decide +kernel
theorem dX12_jacks_287 : decode cX12_jacks 287 = .ok (.iload 5, 2) := by decide +kernel
theorem dX12_jacks_289 : decode cX12_jacks 289 = .ok (.iload 4, 2) := by decide +kernel
theorem dX12_jacks_291 : decode cX12_jacks 291 = .ok (.imul, 1) := by decide +kernel
theorem dX12_jacks_292 : decode cX12_jacks 292 = .ok (.isub, 1) := by decide +kernel
theorem dX12_jacks_293 : decode cX12_jacks 293 = .ok (.iaload, 1) := by decide +kernel
theorem dX12_jacks_294 : decode cX12_jacks 294 = .ok (.iload 5, 2) := by decide +kernel
theorem dX12_jacks_296 : decode cX12_jacks 296 = .ok (.iadd, 1) := by decide +kernel
theorem dX12_jacks_297 : decode cX12_jacks 297 = .ok (.aload_n 0, 1) := by decide +kernel
theorem dX12_jacks_298 : decode cX12_jacks 298 = .ok (.getfield 88, 3) := by decide +kernel
theorem dX12_jacks_301 : decode cX12_jacks 301 = .ok (.bipush 100, 2) := by decide +kernel
theorem dX12_jacks_303 : decode cX12_jacks 303 = .ok (.iload_n 3, 1) := by decide +kernel
theorem dX12_jacks_304 : decode cX12_jacks 304 = .ok (.imul, 1) := by decide +kernel
theorem dX12_jacks_305 : decode cX12_jacks 305 = .ok (.iload_n 2, 1) := by decide +kernel
theorem dX12_jacks_306 : decode cX12_jacks 306 = .ok (.iadd, 1) := by decide +kernel
theorem dX12_jacks_307 : decode cX12_jacks 307 = .ok (.iaload, 1) := by decide +kernel
theorem dX12_jacks_308 : decode cX12_jacks 308 = .ok (.if_icmp .eq 9, 3) := by decide +kernel
theorem dX12_jacks_311 : decode cX12_jacks 311 = .ok (.iinc 5 (-1), 3) := by decide +kernel
theorem dX12_jacks_314 : decode cX12_jacks 314 = .ok (.goto (-40), 3) := by decide +kernel
theorem dX12_jacks_317 : decode cX12_jacks 317 = .ok (.aload_n 0, 1) := by decide +kernel
theorem dX12_jacks_318 : decode cX12_jacks 318 = .ok (.getfield 91, 3) := by decide +kernel
theorem dX12_jacks_321 : decode cX12_jacks 321 = .ok (.iload_n 3, 1) := by decide +kernel
theorem dX12_jacks_322 : decode cX12_jacks 322 = .ok (.iload 5, 2) := by decide +kernel
theorem dX12_jacks_324 : decode cX12_jacks 324 = .ok (.iastore, 1) := by decide +kernel
theorem dX12_jacks_325 : decode cX12_jacks 325 = .ok (.iload_n 2, 1) := by decide +kernel
theorem dX12_jacks_326 : decode cX12_jacks 326 = .ok (.iload 5, 2) := by decide +kernel
theorem dX12_jacks_328 : decode cX12_jacks 328 = .ok (.iload 4, 2) := by decide +kernel
theorem dX12_jacks_330 : decode cX12_jacks 330 = .ok (.imul, 1) := by decide +kernel
theorem dX12_jacks_331 : decode cX12_jacks 331 = .ok (.isub, 1) := by decide +kernel
theorem dX12_jacks_332 : decode cX12_jacks 332 = .ok (.istore_n 2, 1) := by decide +kernel
theorem dX12_jacks_333 : decode cX12_jacks 333 = .ok (.iinc 3 1, 3) := by decide +kernel
theorem dX12_jacks_336 : decode cX12_jacks 336 = .ok (.goto (-128), 3) := by decide +kernel
theorem dX12_jacks_339 : decode cX12_jacks 339 = .ok (.aload_n 0, 1) := by decide +kernel
theorem dX12_jacks_340 : decode cX12_jacks 340 = .ok (.getfield 88, 3) := by decide +kernel
theorem dX12_jacks_343 : decode cX12_jacks 343 = .ok (.iload_n 1, 1) := by decide +kernel
theorem dX12_jacks_344 : decode cX12_jacks 344 = .ok (.iaload, 1) := by decide +kernel
theorem dX12_jacks_345 : decode cX12_jacks 345 = .ok (.ireturn, 1) := by decide +kernel
theorem b_X12_jacks (mm : MM) (Q : Value → MM → Prop) (a1 : Int32) (h : G e_X12_jacks 2 [(0, .ref 156), (1, .int a1), (2, .int (0 : Int32))] [] mm Q) : Runs e_X12_jacks [.ref 156, .int a1] mm Q := by
  refine runs_of_G (L := [(0, .ref 156), (1, .int a1)]) pl_X12 (Nat.le_of_ble_eq_true rfl) rfl ?_
  refine g_iconst (pc := 0) (v := (0 : Int32)) dX12_jacks_0 (by decide) ?_
  refine g_istore_n (pc := 1) (L' := [(0, .ref 156), (1, .int a1), (2, .int (0 : Int32))]) dX12_jacks_1 (Nat.le_of_ble_eq_true rfl) rfl ?_
  exact h
theorem b_X12_jacks_2 (mm : MM) (Q : Value → MM → Prop) (l1 : Int32) (l2 : Int32) (h : (l1 < l2 → (G e_X12_jacks 37 [(0, .ref 156), (1, .int l1), (2, .int (7 : Int32))] [] mm Q)) ∧ (¬ l1 < l2 → ((¬ l2 = 0 → (vp_in ((800 : Int32) + l2) 900 ∧ (G e_X12_jacks 2 [(0, .ref 156), (1, .int l1), (2, .int (l2 + (1 : Int32)))] [] (wI mm 181 (((800 : Int32) + l2).toNatClampNeg) (1000000 : Int32)) Q))) ∧ (l2 = 0 → (vp_in ((800 : Int32) + l2) 900 ∧ (G e_X12_jacks 2 [(0, .ref 156), (1, .int l1), (2, .int (l2 + (1 : Int32)))] [] (wI mm 181 (((800 : Int32) + l2).toNatClampNeg) (0 : Int32)) Q)))))) : G e_X12_jacks 2 [(0, .ref 156), (1, .int l1), (2, .int l2)] [] mm Q := by
  refine g_iload_n (pc := 2) (x := l2) dX12_jacks_2 rfl ?_
  refine g_iload_n (pc := 3) (x := l1) dX12_jacks_3 rfl ?_
  refine g_icmp_gt (pc := 4) (tgt := 34) dX12_jacks_4 (by decide) (fun c4 => ?_) (fun c4 => ?_)
  · have h := h.1 c4
    refine g_bipush (pc := 34) (v := (7 : Int32)) dX12_jacks_34 (by decide) ?_
    refine g_istore_n (pc := 36) (L' := [(0, .ref 156), (1, .int l1), (2, .int (7 : Int32))]) dX12_jacks_36 (Nat.le_of_ble_eq_true rfl) rfl ?_
    exact h
  · have h := h.2 c4
    refine g_aload_n (pc := 7) (x := 156) dX12_jacks_7 rfl ?_
    refine g_getR (pc := 8) (dd := 25) dX12_jacks_8 fo_X12_88 sh_156 rfl ?_
    refine g_sipush (pc := 11) (v := (800 : Int32)) dX12_jacks_11 (by decide) ?_
    refine g_iload_n (pc := 14) (x := l2) dX12_jacks_14 rfl ?_
    refine g_iadd (pc := 15) dX12_jacks_15 ?_
    refine g_iload_n (pc := 16) (x := l2) dX12_jacks_16 rfl ?_
    refine g_if_ne (pc := 17) (tgt := 24) dX12_jacks_17 (by decide) (fun c17 => ?_) (fun c17 => ?_)
    · have h := h.1 c17
      refine g_ldcw (pc := 24) (v := (1000000 : Int32)) dX12_jacks_24 ct_X12_441 ?_
      refine g_iastore (pc := 27) dX12_jacks_27 sh_181 h.1 ?_
      have h := h.2
      refine g_iinc (pc := 28) (x := l2) (v := (l2 + (1 : Int32))) (L' := [(0, .ref 156), (1, .int l1), (2, .int (l2 + (1 : Int32)))]) dX12_jacks_28 rfl rfl (Nat.le_of_ble_eq_true rfl) rfl ?_
      refine g_goto (pc := 31) (tgt := 2) dX12_jacks_31 (by decide) ?_
      exact h
    · have h := h.2 c17
      refine g_iconst (pc := 20) (v := (0 : Int32)) dX12_jacks_20 (by decide) ?_
      refine g_goto (pc := 21) (tgt := 27) dX12_jacks_21 (by decide) ?_
      refine g_iastore (pc := 27) dX12_jacks_27 sh_181 h.1 ?_
      have h := h.2
      refine g_iinc (pc := 28) (x := l2) (v := (l2 + (1 : Int32))) (L' := [(0, .ref 156), (1, .int l1), (2, .int (l2 + (1 : Int32)))]) dX12_jacks_28 rfl rfl (Nat.le_of_ble_eq_true rfl) rfl ?_
      refine g_goto (pc := 31) (tgt := 2) dX12_jacks_31 (by decide) ?_
      exact h
theorem b_X12_jacks_37 (mm : MM) (Q : Value → MM → Prop) (l1 : Int32) (l2 : Int32) (h : (l2 < 0 → (vp_in l1 900 ∧ (((mm.1 181 l1.toNatClampNeg) < (1000000 : Int32) → (G e_X12_jacks 208 [(0, .ref 156), (1, .int l1), (2, .int l1), (3, .int (0 : Int32))] [] mm Q)) ∧ (¬ (mm.1 181 l1.toNatClampNeg) < (1000000 : Int32) → (Q (.int (1000000 : Int32)) mm))))) ∧ (¬ l2 < 0 → (((mm.1 162 5) ≤ l2 → (((mm.1 162 5) ≤ l2 → (G e_X12_jacks 96 [(0, .ref 156), (1, .int l1), (2, .int l2), (3, .int (1 : Int32)), (4, .int (0 : Int32)), (5, .int (0 : Int32))] [] mm Q)) ∧ (¬ (mm.1 162 5) ≤ l2 → (vp_in ((50 : Int32) + l2) 1260 ∧ (G e_X12_jacks 96 [(0, .ref 156), (1, .int l1), (2, .int l2), (3, .int (1 : Int32)), (4, .int (mm.1 163 ((50 : Int32) + l2).toNatClampNeg)), (5, .int (0 : Int32))] [] mm Q))))) ∧ (¬ (mm.1 162 5) ≤ l2 → (vp_in ((170 : Int32) + ((2 : Int32) * l2)) 420 ∧ (((mm.1 162 5) ≤ l2 → (G e_X12_jacks 96 [(0, .ref 156), (1, .int l1), (2, .int l2), (3, .int (mm.1 162 ((170 : Int32) + ((2 : Int32) * l2)).toNatClampNeg)), (4, .int (0 : Int32)), (5, .int (0 : Int32))] [] mm Q)) ∧ (¬ (mm.1 162 5) ≤ l2 → (vp_in ((50 : Int32) + l2) 1260 ∧ (G e_X12_jacks 96 [(0, .ref 156), (1, .int l1), (2, .int l2), (3, .int (mm.1 162 ((170 : Int32) + ((2 : Int32) * l2)).toNatClampNeg)), (4, .int (mm.1 163 ((50 : Int32) + l2).toNatClampNeg)), (5, .int (0 : Int32))] [] mm Q))))))))) : G e_X12_jacks 37 [(0, .ref 156), (1, .int l1), (2, .int l2)] [] mm Q := by
  refine g_iload_n (pc := 37) (x := l2) dX12_jacks_37 rfl ?_
  refine g_if_lt (pc := 38) (tgt := 188) dX12_jacks_38 (by decide) (fun c38 => ?_) (fun c38 => ?_)
  · have h := h.1 c38
    refine g_aload_n (pc := 188) (x := 156) dX12_jacks_188 rfl ?_
    refine g_getR (pc := 189) (dd := 25) dX12_jacks_189 fo_X12_88 sh_156 rfl ?_
    refine g_iload_n (pc := 192) (x := l1) dX12_jacks_192 rfl ?_
    refine g_iaload (pc := 193) dX12_jacks_193 sh_181 h.1 ?_
    have h := h.2
    refine g_ldcw (pc := 194) (v := (1000000 : Int32)) dX12_jacks_194 ct_X12_441 ?_
    refine g_icmp_lt (pc := 197) (tgt := 204) dX12_jacks_197 (by decide) (fun c197 => ?_) (fun c197 => ?_)
    · have h := h.1 c197
      refine g_iload_n (pc := 204) (x := l1) dX12_jacks_204 rfl ?_
      refine g_istore_n (pc := 205) (L' := [(0, .ref 156), (1, .int l1), (2, .int l1)]) dX12_jacks_205 (Nat.le_of_ble_eq_true rfl) rfl ?_
      refine g_iconst (pc := 206) (v := (0 : Int32)) dX12_jacks_206 (by decide) ?_
      refine g_istore_n (pc := 207) (L' := [(0, .ref 156), (1, .int l1), (2, .int l1), (3, .int (0 : Int32))]) dX12_jacks_207 (Nat.le_of_ble_eq_true rfl) rfl ?_
      exact h
    · have h := h.2 c197
      refine g_ldcw (pc := 200) (v := (1000000 : Int32)) dX12_jacks_200 ct_X12_441 ?_
      exact g_iret (pc := 203) dX12_jacks_203 rfl rfl rfl h
  · have h := h.2 c38
    refine g_iload_n (pc := 41) (x := l2) dX12_jacks_41 rfl ?_
    refine g_aload_n (pc := 42) (x := 156) dX12_jacks_42 rfl ?_
    refine g_getR (pc := 43) (dd := 6) dX12_jacks_43 fo_X12_30 sh_156 rfl ?_
    refine g_iconst (pc := 46) (v := (5 : Int32)) dX12_jacks_46 (by decide) ?_
    refine g_iaload (pc := 47) dX12_jacks_47 sh_162 (vp_in_nI (n := 5) (N := 420) (by decide) (by decide)) ?_
    refine g_icmp_ge (pc := 48) (tgt := 66) dX12_jacks_48 (by decide) (fun c48 => ?_) (fun c48 => ?_)
    · have h := h.1 c48
      refine g_iconst (pc := 66) (v := (1 : Int32)) dX12_jacks_66 (by decide) ?_
      refine g_istore_n (pc := 67) (L' := [(0, .ref 156), (1, .int l1), (2, .int l2), (3, .int (1 : Int32))]) dX12_jacks_67 (Nat.le_of_ble_eq_true rfl) rfl ?_
      refine g_iload_n (pc := 68) (x := l2) dX12_jacks_68 rfl ?_
      refine g_aload_n (pc := 69) (x := 156) dX12_jacks_69 rfl ?_
      refine g_getR (pc := 70) (dd := 6) dX12_jacks_70 fo_X12_30 sh_156 rfl ?_
      refine g_iconst (pc := 73) (v := (5 : Int32)) dX12_jacks_73 (by decide) ?_
      refine g_iaload (pc := 74) dX12_jacks_74 sh_162 (vp_in_nI (n := 5) (N := 420) (by decide) (by decide)) ?_
      refine g_icmp_ge (pc := 75) (tgt := 90) dX12_jacks_75 (by decide) (fun c75 => ?_) (fun c75 => ?_)
      · have h := h.1 c75
        refine g_iconst (pc := 90) (v := (0 : Int32)) dX12_jacks_90 (by decide) ?_
        refine g_istore (pc := 91) (L' := [(0, .ref 156), (1, .int l1), (2, .int l2), (3, .int (1 : Int32)), (4, .int (0 : Int32))]) dX12_jacks_91 (Nat.le_of_ble_eq_true rfl) rfl ?_
        refine g_iconst (pc := 93) (v := (0 : Int32)) dX12_jacks_93 (by decide) ?_
        refine g_istore (pc := 94) (L' := [(0, .ref 156), (1, .int l1), (2, .int l2), (3, .int (1 : Int32)), (4, .int (0 : Int32)), (5, .int (0 : Int32))]) dX12_jacks_94 (Nat.le_of_ble_eq_true rfl) rfl ?_
        exact h
      · have h := h.2 c75
        refine g_aload_n (pc := 78) (x := 156) dX12_jacks_78 rfl ?_
        refine g_getR (pc := 79) (dd := 7) dX12_jacks_79 fo_X12_33 sh_156 rfl ?_
        refine g_bipush (pc := 82) (v := (50 : Int32)) dX12_jacks_82 (by decide) ?_
        refine g_iload_n (pc := 84) (x := l2) dX12_jacks_84 rfl ?_
        refine g_iadd (pc := 85) dX12_jacks_85 ?_
        refine g_iaload (pc := 86) dX12_jacks_86 sh_163 h.1 ?_
        have h := h.2
        refine g_goto (pc := 87) (tgt := 91) dX12_jacks_87 (by decide) ?_
        refine g_istore (pc := 91) (L' := [(0, .ref 156), (1, .int l1), (2, .int l2), (3, .int (1 : Int32)), (4, .int (mm.1 163 ((50 : Int32) + l2).toNatClampNeg))]) dX12_jacks_91 (Nat.le_of_ble_eq_true rfl) rfl ?_
        refine g_iconst (pc := 93) (v := (0 : Int32)) dX12_jacks_93 (by decide) ?_
        refine g_istore (pc := 94) (L' := [(0, .ref 156), (1, .int l1), (2, .int l2), (3, .int (1 : Int32)), (4, .int (mm.1 163 ((50 : Int32) + l2).toNatClampNeg)), (5, .int (0 : Int32))]) dX12_jacks_94 (Nat.le_of_ble_eq_true rfl) rfl ?_
        exact h
    · have h := h.2 c48
      refine g_aload_n (pc := 51) (x := 156) dX12_jacks_51 rfl ?_
      refine g_getR (pc := 52) (dd := 6) dX12_jacks_52 fo_X12_30 sh_156 rfl ?_
      refine g_sipush (pc := 55) (v := (170 : Int32)) dX12_jacks_55 (by decide) ?_
      refine g_iconst (pc := 58) (v := (2 : Int32)) dX12_jacks_58 (by decide) ?_
      refine g_iload_n (pc := 59) (x := l2) dX12_jacks_59 rfl ?_
      refine g_imul (pc := 60) dX12_jacks_60 ?_
      refine g_iadd (pc := 61) dX12_jacks_61 ?_
      refine g_iaload (pc := 62) dX12_jacks_62 sh_162 h.1 ?_
      have h := h.2
      refine g_goto (pc := 63) (tgt := 67) dX12_jacks_63 (by decide) ?_
      refine g_istore_n (pc := 67) (L' := [(0, .ref 156), (1, .int l1), (2, .int l2), (3, .int (mm.1 162 ((170 : Int32) + ((2 : Int32) * l2)).toNatClampNeg))]) dX12_jacks_67 (Nat.le_of_ble_eq_true rfl) rfl ?_
      refine g_iload_n (pc := 68) (x := l2) dX12_jacks_68 rfl ?_
      refine g_aload_n (pc := 69) (x := 156) dX12_jacks_69 rfl ?_
      refine g_getR (pc := 70) (dd := 6) dX12_jacks_70 fo_X12_30 sh_156 rfl ?_
      refine g_iconst (pc := 73) (v := (5 : Int32)) dX12_jacks_73 (by decide) ?_
      refine g_iaload (pc := 74) dX12_jacks_74 sh_162 (vp_in_nI (n := 5) (N := 420) (by decide) (by decide)) ?_
      refine g_icmp_ge (pc := 75) (tgt := 90) dX12_jacks_75 (by decide) (fun c75 => ?_) (fun c75 => ?_)
      · have h := h.1 c75
        refine g_iconst (pc := 90) (v := (0 : Int32)) dX12_jacks_90 (by decide) ?_
        refine g_istore (pc := 91) (L' := [(0, .ref 156), (1, .int l1), (2, .int l2), (3, .int (mm.1 162 ((170 : Int32) + ((2 : Int32) * l2)).toNatClampNeg)), (4, .int (0 : Int32))]) dX12_jacks_91 (Nat.le_of_ble_eq_true rfl) rfl ?_
        refine g_iconst (pc := 93) (v := (0 : Int32)) dX12_jacks_93 (by decide) ?_
        refine g_istore (pc := 94) (L' := [(0, .ref 156), (1, .int l1), (2, .int l2), (3, .int (mm.1 162 ((170 : Int32) + ((2 : Int32) * l2)).toNatClampNeg)), (4, .int (0 : Int32)), (5, .int (0 : Int32))]) dX12_jacks_94 (Nat.le_of_ble_eq_true rfl) rfl ?_
        exact h
      · have h := h.2 c75
        refine g_aload_n (pc := 78) (x := 156) dX12_jacks_78 rfl ?_
        refine g_getR (pc := 79) (dd := 7) dX12_jacks_79 fo_X12_33 sh_156 rfl ?_
        refine g_bipush (pc := 82) (v := (50 : Int32)) dX12_jacks_82 (by decide) ?_
        refine g_iload_n (pc := 84) (x := l2) dX12_jacks_84 rfl ?_
        refine g_iadd (pc := 85) dX12_jacks_85 ?_
        refine g_iaload (pc := 86) dX12_jacks_86 sh_163 h.1 ?_
        have h := h.2
        refine g_goto (pc := 87) (tgt := 91) dX12_jacks_87 (by decide) ?_
        refine g_istore (pc := 91) (L' := [(0, .ref 156), (1, .int l1), (2, .int l2), (3, .int (mm.1 162 ((170 : Int32) + ((2 : Int32) * l2)).toNatClampNeg)), (4, .int (mm.1 163 ((50 : Int32) + l2).toNatClampNeg))]) dX12_jacks_91 (Nat.le_of_ble_eq_true rfl) rfl ?_
        refine g_iconst (pc := 93) (v := (0 : Int32)) dX12_jacks_93 (by decide) ?_
        refine g_istore (pc := 94) (L' := [(0, .ref 156), (1, .int l1), (2, .int l2), (3, .int (mm.1 162 ((170 : Int32) + ((2 : Int32) * l2)).toNatClampNeg)), (4, .int (mm.1 163 ((50 : Int32) + l2).toNatClampNeg)), (5, .int (0 : Int32))]) dX12_jacks_94 (Nat.le_of_ble_eq_true rfl) rfl ?_
        exact h
theorem b_X12_jacks_208 (mm : MM) (Q : Value → MM → Prop) (l1 : Int32) (l2 : Int32) (l3 : Int32) (h : ((8 : Int32) ≤ l3 → (vp_in l1 900 ∧ (Q (.int (mm.1 181 l1.toNatClampNeg)) mm))) ∧ (¬ (8 : Int32) ≤ l3 → (((mm.1 162 5) ≤ l3 → (((mm.1 162 5) ≤ l3 → (G e_X12_jacks 274 [(0, .ref 156), (1, .int l1), (2, .int l2), (3, .int l3), (4, .int (1 : Int32)), (5, .int (0 : Int32))] [] mm Q)) ∧ (¬ (mm.1 162 5) ≤ l3 → (vp_in ((50 : Int32) + l3) 1260 ∧ (G e_X12_jacks 274 [(0, .ref 156), (1, .int l1), (2, .int l2), (3, .int l3), (4, .int (1 : Int32)), (5, .int (v_X12_least mm (mm.1 163 ((50 : Int32) + l3).toNatClampNeg) (l2 / (1 : Int32))))] [] mm Q))))) ∧ (¬ (mm.1 162 5) ≤ l3 → (vp_in ((170 : Int32) + ((2 : Int32) * l3)) 420 ∧ (((mm.1 162 5) ≤ l3 → (G e_X12_jacks 274 [(0, .ref 156), (1, .int l1), (2, .int l2), (3, .int l3), (4, .int (mm.1 162 ((170 : Int32) + ((2 : Int32) * l3)).toNatClampNeg)), (5, .int (0 : Int32))] [] mm Q)) ∧ (¬ (mm.1 162 5) ≤ l3 → (vp_in ((50 : Int32) + l3) 1260 ∧ (¬ (mm.1 162 ((170 : Int32) + ((2 : Int32) * l3)).toNatClampNeg) = 0 ∧ (G e_X12_jacks 274 [(0, .ref 156), (1, .int l1), (2, .int l2), (3, .int l3), (4, .int (mm.1 162 ((170 : Int32) + ((2 : Int32) * l3)).toNatClampNeg)), (5, .int (v_X12_least mm (mm.1 163 ((50 : Int32) + l3).toNatClampNeg) (l2 / (mm.1 162 ((170 : Int32) + ((2 : Int32) * l3)).toNatClampNeg))))] [] mm Q)))))))))) : G e_X12_jacks 208 [(0, .ref 156), (1, .int l1), (2, .int l2), (3, .int l3)] [] mm Q := by
  refine g_iload_n (pc := 208) (x := l3) dX12_jacks_208 rfl ?_
  refine g_bipush (pc := 209) (v := (8 : Int32)) dX12_jacks_209 (by decide) ?_
  refine g_icmp_ge (pc := 211) (tgt := 339) dX12_jacks_211 (by decide) (fun c211 => ?_) (fun c211 => ?_)
  · have h := h.1 c211
    refine g_aload_n (pc := 339) (x := 156) dX12_jacks_339 rfl ?_
    refine g_getR (pc := 340) (dd := 25) dX12_jacks_340 fo_X12_88 sh_156 rfl ?_
    refine g_iload_n (pc := 343) (x := l1) dX12_jacks_343 rfl ?_
    refine g_iaload (pc := 344) dX12_jacks_344 sh_181 h.1 ?_
    have h := h.2
    exact g_iret (pc := 345) dX12_jacks_345 rfl rfl rfl h
  · have h := h.2 c211
    refine g_iload_n (pc := 214) (x := l3) dX12_jacks_214 rfl ?_
    refine g_aload_n (pc := 215) (x := 156) dX12_jacks_215 rfl ?_
    refine g_getR (pc := 216) (dd := 6) dX12_jacks_216 fo_X12_30 sh_156 rfl ?_
    refine g_iconst (pc := 219) (v := (5 : Int32)) dX12_jacks_219 (by decide) ?_
    refine g_iaload (pc := 220) dX12_jacks_220 sh_162 (vp_in_nI (n := 5) (N := 420) (by decide) (by decide)) ?_
    refine g_icmp_ge (pc := 221) (tgt := 239) dX12_jacks_221 (by decide) (fun c221 => ?_) (fun c221 => ?_)
    · have h := h.1 c221
      refine g_iconst (pc := 239) (v := (1 : Int32)) dX12_jacks_239 (by decide) ?_
      refine g_istore (pc := 240) (L' := [(0, .ref 156), (1, .int l1), (2, .int l2), (3, .int l3), (4, .int (1 : Int32))]) dX12_jacks_240 (Nat.le_of_ble_eq_true rfl) rfl ?_
      refine g_iload_n (pc := 242) (x := l3) dX12_jacks_242 rfl ?_
      refine g_aload_n (pc := 243) (x := 156) dX12_jacks_243 rfl ?_
      refine g_getR (pc := 244) (dd := 6) dX12_jacks_244 fo_X12_30 sh_156 rfl ?_
      refine g_iconst (pc := 247) (v := (5 : Int32)) dX12_jacks_247 (by decide) ?_
      refine g_iaload (pc := 248) dX12_jacks_248 sh_162 (vp_in_nI (n := 5) (N := 420) (by decide) (by decide)) ?_
      refine g_icmp_ge (pc := 249) (tgt := 271) dX12_jacks_249 (by decide) (fun c249 => ?_) (fun c249 => ?_)
      · have h := h.1 c249
        refine g_iconst (pc := 271) (v := (0 : Int32)) dX12_jacks_271 (by decide) ?_
        refine g_istore (pc := 272) (L' := [(0, .ref 156), (1, .int l1), (2, .int l2), (3, .int l3), (4, .int (1 : Int32)), (5, .int (0 : Int32))]) dX12_jacks_272 (Nat.le_of_ble_eq_true rfl) rfl ?_
        exact h
      · have h := h.2 c249
        refine g_aload_n (pc := 252) (x := 156) dX12_jacks_252 rfl ?_
        refine g_getR (pc := 253) (dd := 7) dX12_jacks_253 fo_X12_33 sh_156 rfl ?_
        refine g_bipush (pc := 256) (v := (50 : Int32)) dX12_jacks_256 (by decide) ?_
        refine g_iload_n (pc := 258) (x := l3) dX12_jacks_258 rfl ?_
        refine g_iadd (pc := 259) dX12_jacks_259 ?_
        refine g_iaload (pc := 260) dX12_jacks_260 sh_163 h.1 ?_
        have h := h.2
        refine g_iload_n (pc := 261) (x := l2) dX12_jacks_261 rfl ?_
        refine g_iload (pc := 262) (x := (1 : Int32)) dX12_jacks_262 rfl ?_
        refine g_idiv (pc := 264) dX12_jacks_264 (by decide) ?_
        refine g_callS (pc := 265) (as := [.int (mm.1 163 ((50 : Int32) + l3).toNatClampNeg), .int (l2 / (1 : Int32))]) dX12_jacks_265 cw_X12_442 (by decide) rfl rfl (Nat.le_of_ble_eq_true rfl) (rv_X12_least mm (mm.1 163 ((50 : Int32) + l3).toNatClampNeg) (l2 / (1 : Int32))) ?_
        rintro r_ m_ hz_ ⟨rfl, rfl⟩
        refine g_goto (pc := 268) (tgt := 272) dX12_jacks_268 (by decide) ?_
        refine g_istore (pc := 272) (L' := [(0, .ref 156), (1, .int l1), (2, .int l2), (3, .int l3), (4, .int (1 : Int32)), (5, .int (v_X12_least mm (mm.1 163 ((50 : Int32) + l3).toNatClampNeg) (l2 / (1 : Int32))))]) dX12_jacks_272 (Nat.le_of_ble_eq_true rfl) rfl ?_
        exact h
    · have h := h.2 c221
      refine g_aload_n (pc := 224) (x := 156) dX12_jacks_224 rfl ?_
      refine g_getR (pc := 225) (dd := 6) dX12_jacks_225 fo_X12_30 sh_156 rfl ?_
      refine g_sipush (pc := 228) (v := (170 : Int32)) dX12_jacks_228 (by decide) ?_
      refine g_iconst (pc := 231) (v := (2 : Int32)) dX12_jacks_231 (by decide) ?_
      refine g_iload_n (pc := 232) (x := l3) dX12_jacks_232 rfl ?_
      refine g_imul (pc := 233) dX12_jacks_233 ?_
      refine g_iadd (pc := 234) dX12_jacks_234 ?_
      refine g_iaload (pc := 235) dX12_jacks_235 sh_162 h.1 ?_
      have h := h.2
      refine g_goto (pc := 236) (tgt := 240) dX12_jacks_236 (by decide) ?_
      refine g_istore (pc := 240) (L' := [(0, .ref 156), (1, .int l1), (2, .int l2), (3, .int l3), (4, .int (mm.1 162 ((170 : Int32) + ((2 : Int32) * l3)).toNatClampNeg))]) dX12_jacks_240 (Nat.le_of_ble_eq_true rfl) rfl ?_
      refine g_iload_n (pc := 242) (x := l3) dX12_jacks_242 rfl ?_
      refine g_aload_n (pc := 243) (x := 156) dX12_jacks_243 rfl ?_
      refine g_getR (pc := 244) (dd := 6) dX12_jacks_244 fo_X12_30 sh_156 rfl ?_
      refine g_iconst (pc := 247) (v := (5 : Int32)) dX12_jacks_247 (by decide) ?_
      refine g_iaload (pc := 248) dX12_jacks_248 sh_162 (vp_in_nI (n := 5) (N := 420) (by decide) (by decide)) ?_
      refine g_icmp_ge (pc := 249) (tgt := 271) dX12_jacks_249 (by decide) (fun c249 => ?_) (fun c249 => ?_)
      · have h := h.1 c249
        refine g_iconst (pc := 271) (v := (0 : Int32)) dX12_jacks_271 (by decide) ?_
        refine g_istore (pc := 272) (L' := [(0, .ref 156), (1, .int l1), (2, .int l2), (3, .int l3), (4, .int (mm.1 162 ((170 : Int32) + ((2 : Int32) * l3)).toNatClampNeg)), (5, .int (0 : Int32))]) dX12_jacks_272 (Nat.le_of_ble_eq_true rfl) rfl ?_
        exact h
      · have h := h.2 c249
        refine g_aload_n (pc := 252) (x := 156) dX12_jacks_252 rfl ?_
        refine g_getR (pc := 253) (dd := 7) dX12_jacks_253 fo_X12_33 sh_156 rfl ?_
        refine g_bipush (pc := 256) (v := (50 : Int32)) dX12_jacks_256 (by decide) ?_
        refine g_iload_n (pc := 258) (x := l3) dX12_jacks_258 rfl ?_
        refine g_iadd (pc := 259) dX12_jacks_259 ?_
        refine g_iaload (pc := 260) dX12_jacks_260 sh_163 h.1 ?_
        have h := h.2
        refine g_iload_n (pc := 261) (x := l2) dX12_jacks_261 rfl ?_
        refine g_iload (pc := 262) (x := (mm.1 162 ((170 : Int32) + ((2 : Int32) * l3)).toNatClampNeg)) dX12_jacks_262 rfl ?_
        refine g_idiv (pc := 264) dX12_jacks_264 h.1 ?_
        have h := h.2
        refine g_callS (pc := 265) (as := [.int (mm.1 163 ((50 : Int32) + l3).toNatClampNeg), .int (l2 / (mm.1 162 ((170 : Int32) + ((2 : Int32) * l3)).toNatClampNeg))]) dX12_jacks_265 cw_X12_442 (by decide) rfl rfl (Nat.le_of_ble_eq_true rfl) (rv_X12_least mm (mm.1 163 ((50 : Int32) + l3).toNatClampNeg) (l2 / (mm.1 162 ((170 : Int32) + ((2 : Int32) * l3)).toNatClampNeg))) ?_
        rintro r_ m_ hz_ ⟨rfl, rfl⟩
        refine g_goto (pc := 268) (tgt := 272) dX12_jacks_268 (by decide) ?_
        refine g_istore (pc := 272) (L' := [(0, .ref 156), (1, .int l1), (2, .int l2), (3, .int l3), (4, .int (mm.1 162 ((170 : Int32) + ((2 : Int32) * l3)).toNatClampNeg)), (5, .int (v_X12_least mm (mm.1 163 ((50 : Int32) + l3).toNatClampNeg) (l2 / (mm.1 162 ((170 : Int32) + ((2 : Int32) * l3)).toNatClampNeg))))]) dX12_jacks_272 (Nat.le_of_ble_eq_true rfl) rfl ?_
        exact h
theorem b_X12_jacks_96 (mm : MM) (Q : Value → MM → Prop) (l1 : Int32) (l2 : Int32) (l3 : Int32) (l4 : Int32) (l5 : Int32) (h : (l1 < l5 → (G e_X12_jacks 37 [(0, .ref 156), (1, .int l1), (2, .int (l2 + (-1 : Int32)))] [] mm Q)) ∧ (¬ l1 < l5 → (G e_X12_jacks 110 [(0, .ref 156), (1, .int l1), (2, .int l2), (3, .int l3), (4, .int l4), (5, .int l5), (6, .int (1000000 : Int32)), (7, .int (0 : Int32))] [] mm Q))) : G e_X12_jacks 96 [(0, .ref 156), (1, .int l1), (2, .int l2), (3, .int l3), (4, .int l4), (5, .int l5)] [] mm Q := by
  refine g_iload (pc := 96) (x := l5) dX12_jacks_96 rfl ?_
  refine g_iload_n (pc := 98) (x := l1) dX12_jacks_98 rfl ?_
  refine g_icmp_gt (pc := 99) (tgt := 182) dX12_jacks_99 (by decide) (fun c99 => ?_) (fun c99 => ?_)
  · have h := h.1 c99
    refine g_iinc (pc := 182) (x := l2) (v := (l2 + (-1 : Int32))) (L' := [(0, .ref 156), (1, .int l1), (2, .int (l2 + (-1 : Int32))), (3, .int l3), (4, .int l4), (5, .int l5)]) dX12_jacks_182 rfl rfl (Nat.le_of_ble_eq_true rfl) rfl ?_
    refine g_goto (pc := 185) (tgt := 37) dX12_jacks_185 (by decide) ?_
    refine g_sub (L' := [(0, .ref 156), (1, .int l1), (2, .int (l2 + (-1 : Int32)))]) [0, 1, 2] rfl ?_
    exact h
  · have h := h.2 c99
    refine g_ldcw (pc := 102) (v := (1000000 : Int32)) dX12_jacks_102 ct_X12_441 ?_
    refine g_istore (pc := 105) (L' := [(0, .ref 156), (1, .int l1), (2, .int l2), (3, .int l3), (4, .int l4), (5, .int l5), (6, .int (1000000 : Int32))]) dX12_jacks_105 (Nat.le_of_ble_eq_true rfl) rfl ?_
    refine g_iconst (pc := 107) (v := (0 : Int32)) dX12_jacks_107 (by decide) ?_
    refine g_istore (pc := 108) (L' := [(0, .ref 156), (1, .int l1), (2, .int l2), (3, .int l3), (4, .int l4), (5, .int l5), (6, .int (1000000 : Int32)), (7, .int (0 : Int32))]) dX12_jacks_108 (Nat.le_of_ble_eq_true rfl) rfl ?_
    exact h
theorem b_X12_jacks_274 (mm : MM) (Q : Value → MM → Prop) (l1 : Int32) (l2 : Int32) (l3 : Int32) (l4 : Int32) (l5 : Int32) (h : vp_in (((((100 : Int32) * l3) + (100 : Int32)) + l2) - (l5 * l4)) 900 ∧ (vp_in (((100 : Int32) * l3) + l2) 900 ∧ ((((mm.1 181 (((((100 : Int32) * l3) + (100 : Int32)) + l2) - (l5 * l4)).toNatClampNeg) + l5) = (mm.1 181 (((100 : Int32) * l3) + l2).toNatClampNeg) → (vp_in l3 8 ∧ (G e_X12_jacks 208 [(0, .ref 156), (1, .int l1), (2, .int (l2 - (l5 * l4))), (3, .int (l3 + (1 : Int32)))] [] (wI mm 182 (l3.toNatClampNeg) l5) Q))) ∧ (¬ ((mm.1 181 (((((100 : Int32) * l3) + (100 : Int32)) + l2) - (l5 * l4)).toNatClampNeg) + l5) = (mm.1 181 (((100 : Int32) * l3) + l2).toNatClampNeg) → (G e_X12_jacks 274 [(0, .ref 156), (1, .int l1), (2, .int l2), (3, .int l3), (4, .int l4), (5, .int (l5 + (-1 : Int32)))] [] mm Q))))) : G e_X12_jacks 274 [(0, .ref 156), (1, .int l1), (2, .int l2), (3, .int l3), (4, .int l4), (5, .int l5)] [] mm Q := by
  refine g_aload_n (pc := 274) (x := 156) dX12_jacks_274 rfl ?_
  refine g_getR (pc := 275) (dd := 25) dX12_jacks_275 fo_X12_88 sh_156 rfl ?_
  refine g_bipush (pc := 278) (v := (100 : Int32)) dX12_jacks_278 (by decide) ?_
  refine g_iload_n (pc := 280) (x := l3) dX12_jacks_280 rfl ?_
  refine g_imul (pc := 281) dX12_jacks_281 ?_
  refine g_bipush (pc := 282) (v := (100 : Int32)) dX12_jacks_282 (by decide) ?_
  refine g_iadd (pc := 284) dX12_jacks_284 ?_
  refine g_iload_n (pc := 285) (x := l2) dX12_jacks_285 rfl ?_
  refine g_iadd (pc := 286) dX12_jacks_286 ?_
  refine g_iload (pc := 287) (x := l5) dX12_jacks_287 rfl ?_
  refine g_iload (pc := 289) (x := l4) dX12_jacks_289 rfl ?_
  refine g_imul (pc := 291) dX12_jacks_291 ?_
  refine g_isub (pc := 292) dX12_jacks_292 ?_
  refine g_iaload (pc := 293) dX12_jacks_293 sh_181 h.1 ?_
  have h := h.2
  refine g_iload (pc := 294) (x := l5) dX12_jacks_294 rfl ?_
  refine g_iadd (pc := 296) dX12_jacks_296 ?_
  refine g_aload_n (pc := 297) (x := 156) dX12_jacks_297 rfl ?_
  refine g_getR (pc := 298) (dd := 25) dX12_jacks_298 fo_X12_88 sh_156 rfl ?_
  refine g_bipush (pc := 301) (v := (100 : Int32)) dX12_jacks_301 (by decide) ?_
  refine g_iload_n (pc := 303) (x := l3) dX12_jacks_303 rfl ?_
  refine g_imul (pc := 304) dX12_jacks_304 ?_
  refine g_iload_n (pc := 305) (x := l2) dX12_jacks_305 rfl ?_
  refine g_iadd (pc := 306) dX12_jacks_306 ?_
  refine g_iaload (pc := 307) dX12_jacks_307 sh_181 h.1 ?_
  have h := h.2
  refine g_icmp_eq (pc := 308) (tgt := 317) dX12_jacks_308 (by decide) (fun c308 => ?_) (fun c308 => ?_)
  · have h := h.1 c308
    refine g_aload_n (pc := 317) (x := 156) dX12_jacks_317 rfl ?_
    refine g_getR (pc := 318) (dd := 26) dX12_jacks_318 fo_X12_91 sh_156 rfl ?_
    refine g_iload_n (pc := 321) (x := l3) dX12_jacks_321 rfl ?_
    refine g_iload (pc := 322) (x := l5) dX12_jacks_322 rfl ?_
    refine g_iastore (pc := 324) dX12_jacks_324 sh_182 h.1 ?_
    have h := h.2
    refine g_iload_n (pc := 325) (x := l2) dX12_jacks_325 rfl ?_
    refine g_iload (pc := 326) (x := l5) dX12_jacks_326 rfl ?_
    refine g_iload (pc := 328) (x := l4) dX12_jacks_328 rfl ?_
    refine g_imul (pc := 330) dX12_jacks_330 ?_
    refine g_isub (pc := 331) dX12_jacks_331 ?_
    refine g_istore_n (pc := 332) (L' := [(0, .ref 156), (1, .int l1), (2, .int (l2 - (l5 * l4))), (3, .int l3), (4, .int l4), (5, .int l5)]) dX12_jacks_332 (Nat.le_of_ble_eq_true rfl) rfl ?_
    refine g_iinc (pc := 333) (x := l3) (v := (l3 + (1 : Int32))) (L' := [(0, .ref 156), (1, .int l1), (2, .int (l2 - (l5 * l4))), (3, .int (l3 + (1 : Int32))), (4, .int l4), (5, .int l5)]) dX12_jacks_333 rfl rfl (Nat.le_of_ble_eq_true rfl) rfl ?_
    refine g_goto (pc := 336) (tgt := 208) dX12_jacks_336 (by decide) ?_
    refine g_sub (L' := [(0, .ref 156), (1, .int l1), (2, .int (l2 - (l5 * l4))), (3, .int (l3 + (1 : Int32)))]) [0, 1, 2, 3] rfl ?_
    exact h
  · have h := h.2 c308
    refine g_iinc (pc := 311) (x := l5) (v := (l5 + (-1 : Int32))) (L' := [(0, .ref 156), (1, .int l1), (2, .int l2), (3, .int l3), (4, .int l4), (5, .int (l5 + (-1 : Int32)))]) dX12_jacks_311 rfl rfl (Nat.le_of_ble_eq_true rfl) rfl ?_
    refine g_goto (pc := 314) (tgt := 274) dX12_jacks_314 (by decide) ?_
    exact h
theorem b_X12_jacks_110 (mm : MM) (Q : Value → MM → Prop) (l1 : Int32) (l2 : Int32) (l3 : Int32) (l4 : Int32) (l5 : Int32) (l6 : Int32) (l7 : Int32) (h : (l4 < l7 → (vp_in (((100 : Int32) * l2) + l5) 900 ∧ (G e_X12_jacks 96 [(0, .ref 156), (1, .int l1), (2, .int l2), (3, .int l3), (4, .int l4), (5, .int (l5 + (1 : Int32)))] [] (wI mm 181 ((((100 : Int32) * l2) + l5).toNatClampNeg) l6) Q))) ∧ (¬ l4 < l7 → ((l5 < (l7 * l3) → (vp_in (((100 : Int32) * l2) + l5) 900 ∧ (G e_X12_jacks 96 [(0, .ref 156), (1, .int l1), (2, .int l2), (3, .int l3), (4, .int l4), (5, .int (l5 + (1 : Int32)))] [] (wI mm 181 ((((100 : Int32) * l2) + l5).toNatClampNeg) l6) Q))) ∧ (¬ l5 < (l7 * l3) → (vp_in (((((100 : Int32) * l2) + (100 : Int32)) + l5) - (l7 * l3)) 900 ∧ (G e_X12_jacks 110 [(0, .ref 156), (1, .int l1), (2, .int l2), (3, .int l3), (4, .int l4), (5, .int l5), (6, .int (v_X12_least mm l6 ((mm.1 181 (((((100 : Int32) * l2) + (100 : Int32)) + l5) - (l7 * l3)).toNatClampNeg) + l7))), (7, .int (l7 + (1 : Int32)))] [] mm Q)))))) : G e_X12_jacks 110 [(0, .ref 156), (1, .int l1), (2, .int l2), (3, .int l3), (4, .int l4), (5, .int l5), (6, .int l6), (7, .int l7)] [] mm Q := by
  refine g_iload (pc := 110) (x := l7) dX12_jacks_110 rfl ?_
  refine g_iload (pc := 112) (x := l4) dX12_jacks_112 rfl ?_
  refine g_icmp_gt (pc := 114) (tgt := 162) dX12_jacks_114 (by decide) (fun c114 => ?_) (fun c114 => ?_)
  · have h := h.1 c114
    refine g_aload_n (pc := 162) (x := 156) dX12_jacks_162 rfl ?_
    refine g_getR (pc := 163) (dd := 25) dX12_jacks_163 fo_X12_88 sh_156 rfl ?_
    refine g_bipush (pc := 166) (v := (100 : Int32)) dX12_jacks_166 (by decide) ?_
    refine g_iload_n (pc := 168) (x := l2) dX12_jacks_168 rfl ?_
    refine g_imul (pc := 169) dX12_jacks_169 ?_
    refine g_iload (pc := 170) (x := l5) dX12_jacks_170 rfl ?_
    refine g_iadd (pc := 172) dX12_jacks_172 ?_
    refine g_iload (pc := 173) (x := l6) dX12_jacks_173 rfl ?_
    refine g_iastore (pc := 175) dX12_jacks_175 sh_181 h.1 ?_
    have h := h.2
    refine g_iinc (pc := 176) (x := l5) (v := (l5 + (1 : Int32))) (L' := [(0, .ref 156), (1, .int l1), (2, .int l2), (3, .int l3), (4, .int l4), (5, .int (l5 + (1 : Int32))), (6, .int l6), (7, .int l7)]) dX12_jacks_176 rfl rfl (Nat.le_of_ble_eq_true rfl) rfl ?_
    refine g_goto (pc := 179) (tgt := 96) dX12_jacks_179 (by decide) ?_
    refine g_sub (L' := [(0, .ref 156), (1, .int l1), (2, .int l2), (3, .int l3), (4, .int l4), (5, .int (l5 + (1 : Int32)))]) [0, 1, 2, 3, 4, 5] rfl ?_
    exact h
  · have h := h.2 c114
    refine g_iload (pc := 117) (x := l7) dX12_jacks_117 rfl ?_
    refine g_iload_n (pc := 119) (x := l3) dX12_jacks_119 rfl ?_
    refine g_imul (pc := 120) dX12_jacks_120 ?_
    refine g_iload (pc := 121) (x := l5) dX12_jacks_121 rfl ?_
    refine g_icmp_gt (pc := 123) (tgt := 162) dX12_jacks_123 (by decide) (fun c123 => ?_) (fun c123 => ?_)
    · have h := h.1 c123
      refine g_aload_n (pc := 162) (x := 156) dX12_jacks_162 rfl ?_
      refine g_getR (pc := 163) (dd := 25) dX12_jacks_163 fo_X12_88 sh_156 rfl ?_
      refine g_bipush (pc := 166) (v := (100 : Int32)) dX12_jacks_166 (by decide) ?_
      refine g_iload_n (pc := 168) (x := l2) dX12_jacks_168 rfl ?_
      refine g_imul (pc := 169) dX12_jacks_169 ?_
      refine g_iload (pc := 170) (x := l5) dX12_jacks_170 rfl ?_
      refine g_iadd (pc := 172) dX12_jacks_172 ?_
      refine g_iload (pc := 173) (x := l6) dX12_jacks_173 rfl ?_
      refine g_iastore (pc := 175) dX12_jacks_175 sh_181 h.1 ?_
      have h := h.2
      refine g_iinc (pc := 176) (x := l5) (v := (l5 + (1 : Int32))) (L' := [(0, .ref 156), (1, .int l1), (2, .int l2), (3, .int l3), (4, .int l4), (5, .int (l5 + (1 : Int32))), (6, .int l6), (7, .int l7)]) dX12_jacks_176 rfl rfl (Nat.le_of_ble_eq_true rfl) rfl ?_
      refine g_goto (pc := 179) (tgt := 96) dX12_jacks_179 (by decide) ?_
      refine g_sub (L' := [(0, .ref 156), (1, .int l1), (2, .int l2), (3, .int l3), (4, .int l4), (5, .int (l5 + (1 : Int32)))]) [0, 1, 2, 3, 4, 5] rfl ?_
      exact h
    · have h := h.2 c123
      refine g_iload (pc := 126) (x := l6) dX12_jacks_126 rfl ?_
      refine g_aload_n (pc := 128) (x := 156) dX12_jacks_128 rfl ?_
      refine g_getR (pc := 129) (dd := 25) dX12_jacks_129 fo_X12_88 sh_156 rfl ?_
      refine g_bipush (pc := 132) (v := (100 : Int32)) dX12_jacks_132 (by decide) ?_
      refine g_iload_n (pc := 134) (x := l2) dX12_jacks_134 rfl ?_
      refine g_imul (pc := 135) dX12_jacks_135 ?_
      refine g_bipush (pc := 136) (v := (100 : Int32)) dX12_jacks_136 (by decide) ?_
      refine g_iadd (pc := 138) dX12_jacks_138 ?_
      refine g_iload (pc := 139) (x := l5) dX12_jacks_139 rfl ?_
      refine g_iadd (pc := 141) dX12_jacks_141 ?_
      refine g_iload (pc := 142) (x := l7) dX12_jacks_142 rfl ?_
      refine g_iload_n (pc := 144) (x := l3) dX12_jacks_144 rfl ?_
      refine g_imul (pc := 145) dX12_jacks_145 ?_
      refine g_isub (pc := 146) dX12_jacks_146 ?_
      refine g_iaload (pc := 147) dX12_jacks_147 sh_181 h.1 ?_
      have h := h.2
      refine g_iload (pc := 148) (x := l7) dX12_jacks_148 rfl ?_
      refine g_iadd (pc := 150) dX12_jacks_150 ?_
      refine g_callS (pc := 151) (as := [.int l6, .int ((mm.1 181 (((((100 : Int32) * l2) + (100 : Int32)) + l5) - (l7 * l3)).toNatClampNeg) + l7)]) dX12_jacks_151 cw_X12_442 (by decide) rfl rfl (Nat.le_of_ble_eq_true rfl) (rv_X12_least mm l6 ((mm.1 181 (((((100 : Int32) * l2) + (100 : Int32)) + l5) - (l7 * l3)).toNatClampNeg) + l7)) ?_
      rintro r_ m_ hz_ ⟨rfl, rfl⟩
      refine g_istore (pc := 154) (L' := [(0, .ref 156), (1, .int l1), (2, .int l2), (3, .int l3), (4, .int l4), (5, .int l5), (6, .int (v_X12_least mm l6 ((mm.1 181 (((((100 : Int32) * l2) + (100 : Int32)) + l5) - (l7 * l3)).toNatClampNeg) + l7))), (7, .int l7)]) dX12_jacks_154 (Nat.le_of_ble_eq_true rfl) rfl ?_
      refine g_iinc (pc := 156) (x := l7) (v := (l7 + (1 : Int32))) (L' := [(0, .ref 156), (1, .int l1), (2, .int l2), (3, .int l3), (4, .int l4), (5, .int l5), (6, .int (v_X12_least mm l6 ((mm.1 181 (((((100 : Int32) * l2) + (100 : Int32)) + l5) - (l7 * l3)).toNatClampNeg) + l7))), (7, .int (l7 + (1 : Int32)))]) dX12_jacks_156 rfl rfl (Nat.le_of_ble_eq_true rfl) rfl ?_
      refine g_goto (pc := 159) (tgt := 110) dX12_jacks_159 (by decide) ?_
      exact h
theorem dX12_jack_0 : decode cX12_jack 0 = .ok (.iload_n 1, 1) := by decide +kernel
theorem dX12_jack_1 : decode cX12_jack 1 = .ok (.iconst 1, 1) := by decide +kernel
theorem dX12_jack_2 : decode cX12_jack 2 = .ok (.bipush 99, 2) := by decide +kernel
theorem dX12_jack_4 : decode cX12_jack 4 = .ok (.invokestatic 392, 3) := by decide +kernel
theorem dX12_jack_7 : decode cX12_jack 7 = .ok (.ifCond .eq 25, 3) := by decide +kernel
theorem dX12_jack_10 : decode cX12_jack 10 = .ok (.iload_n 2, 1) := by decide +kernel
theorem dX12_jack_11 : decode cX12_jack 11 = .ok (.ifCond .eq 23, 3) := by decide +kernel
theorem dX12_jack_14 : decode cX12_jack 14 = .ok (.iload_n 2, 1) := by decide +kernel
theorem dX12_jack_15 : decode cX12_jack 15 = .ok (.bipush 10, 2) := by decide +kernel
theorem dX12_jack_17 : decode cX12_jack 17 = .ok (.bipush 9, 2) := by decide +kernel
theorem dX12_jack_19 : decode cX12_jack 19 = .ok (.aload_n 0, 1) := by decide +kernel
theorem dX12_jack_20 : decode cX12_jack 20 = .ok (.getfield 30, 3) := by decide +kernel
theorem dX12_jack_23 : decode cX12_jack 23 = .ok (.iconst 5, 1) := by decide +kernel
theorem dX12_jack_24 : decode cX12_jack 24 = .ok (.iaload, 1) := by decide +kernel
theorem dX12_jack_25 : decode cX12_jack 25 = .ok (.iadd, 1) := by decide +kernel
theorem dX12_jack_26 : decode cX12_jack 26 = .ok (.invokestatic 392, 3) := by decide +kernel
theorem dX12_jack_29 : decode cX12_jack 29 = .ok (.ifCond .ne 5, 3) := by decide +kernel
theorem dX12_jack_32 : decode cX12_jack 32 = .ok (.iconst (-1), 1) := by decide +kernel
theorem dX12_jack_33 : decode cX12_jack 33 = .ok (.ireturn, 1) := by decide +kernel
theorem dX12_jack_34 : decode cX12_jack 34 = .ok (.aload_n 0, 1) := by decide +kernel
theorem dX12_jack_35 : decode cX12_jack 35 = .ok (.iload_n 1, 1) := by decide +kernel
theorem dX12_jack_36 : decode cX12_jack 36 = .ok (.invokevirtual 445, 3) := by decide +kernel
theorem dX12_jack_39 : decode cX12_jack 39 = .ok (.istore_n 3, 1) := by decide +kernel
theorem dX12_jack_40 : decode cX12_jack 40 = .ok (.iload_n 3, 1) := by decide +kernel
theorem dX12_jack_41 : decode cX12_jack 41 = .ok (.ldc_w 441, 3) := by decide +kernel
theorem dX12_jack_44 : decode cX12_jack 44 = .ok (.if_icmp .lt 8, 3) := by decide +kernel
theorem dX12_jack_47 : decode cX12_jack 47 = .ok (.bipush (-2), 2) := by decide +kernel
theorem dX12_jack_49 : decode cX12_jack 49 = .ok (.goto 20, 3) := by decide +kernel
theorem dX12_jack_52 : decode cX12_jack 52 = .ok (.iload_n 2, 1) := by decide +kernel
theorem dX12_jack_53 : decode cX12_jack 53 = .ok (.ifCond .ne 7, 3) := by decide +kernel
theorem dX12_jack_56 : decode cX12_jack 56 = .ok (.iload_n 3, 1) := by decide +kernel
theorem dX12_jack_57 : decode cX12_jack 57 = .ok (.goto 12, 3) := by decide +kernel
theorem dX12_jack_60 : decode cX12_jack 60 = .ok (.aload_n 0, 1) := by decide +kernel
theorem dX12_jack_61 : decode cX12_jack 61 = .ok (.getfield 91, 3) := by decide +kernel
theorem dX12_jack_64 : decode cX12_jack 64 = .ok (.iload_n 2, 1) := by decide +kernel
theorem dX12_jack_65 : decode cX12_jack 65 = .ok (.bipush 10, 2) := by decide +kernel
theorem dX12_jack_67 : decode cX12_jack 67 = .ok (.isub, 1) := by decide +kernel
theorem dX12_jack_68 : decode cX12_jack 68 = .ok (.iaload, 1) := by decide +kernel
theorem dX12_jack_69 : decode cX12_jack 69 = .ok (.ireturn, 1) := by decide +kernel
theorem b_X12_jack (mm : MM) (Q : Value → MM → Prop) (a1 : Int32) (a2 : Int32) (h : (p_X12_isIn mm a1 (1 : Int32) (99 : Int32) → ((a2 = 0 → (∃ Pm1 : Value → MM → Prop, Runs e_X12_jacks [.ref 156, .int a1] mm Pm1 ∧ ∀ (r1 : Int32) (m1 : MM), Pm1 (.int r1) m1 → ((r1 < (1000000 : Int32) → ((¬ a2 = 0 → (vp_in (a2 - (10 : Int32)) 8 ∧ (Q (.int (m1.1 182 (a2 - (10 : Int32)).toNatClampNeg)) m1))) ∧ (a2 = 0 → (Q (.int r1) m1)))) ∧ (¬ r1 < (1000000 : Int32) → (Q (.int (-2 : Int32)) m1))))) ∧ (¬ a2 = 0 → ((p_X12_isIn mm a2 (10 : Int32) ((9 : Int32) + (mm.1 162 5)) → (∃ Pm1 : Value → MM → Prop, Runs e_X12_jacks [.ref 156, .int a1] mm Pm1 ∧ ∀ (r1 : Int32) (m1 : MM), Pm1 (.int r1) m1 → ((r1 < (1000000 : Int32) → ((¬ a2 = 0 → (vp_in (a2 - (10 : Int32)) 8 ∧ (Q (.int (m1.1 182 (a2 - (10 : Int32)).toNatClampNeg)) m1))) ∧ (a2 = 0 → (Q (.int r1) m1)))) ∧ (¬ r1 < (1000000 : Int32) → (Q (.int (-2 : Int32)) m1))))) ∧ (¬ p_X12_isIn mm a2 (10 : Int32) ((9 : Int32) + (mm.1 162 5)) → (Q (.int (-1 : Int32)) mm)))))) ∧ (¬ p_X12_isIn mm a1 (1 : Int32) (99 : Int32) → (Q (.int (-1 : Int32)) mm))) : Runs e_X12_jack [.ref 156, .int a1, .int a2] mm Q := by
  refine runs_of_G (L := [(0, .ref 156), (1, .int a1), (2, .int a2)]) pl_X12 (Nat.le_of_ble_eq_true rfl) rfl ?_
  refine g_iload_n (pc := 0) (x := a1) dX12_jack_0 rfl ?_
  refine g_iconst (pc := 1) (v := (1 : Int32)) dX12_jack_1 (by decide) ?_
  refine g_bipush (pc := 2) (v := (99 : Int32)) dX12_jack_2 (by decide) ?_
  refine g_callS (pc := 4) (as := [.int a1, .int (1 : Int32), .int (99 : Int32)]) dX12_jack_4 cw_X12_392 (by decide) rfl rfl (Nat.le_of_ble_eq_true rfl) (rv_X12_isIn mm a1 (1 : Int32) (99 : Int32)) ?_
  rintro r_ m_ hz_ ⟨⟨p_, rfl⟩ | ⟨p_, rfl⟩, rfl⟩
  · have h := h.1 p_
    refine g_if_eq (pc := 7) (tgt := 32) dX12_jack_7 (by decide) (fun c7 => absurd c7 (by decide)) (fun _ => ?_)
    refine g_iload_n (pc := 10) (x := a2) dX12_jack_10 rfl ?_
    refine g_if_eq (pc := 11) (tgt := 34) dX12_jack_11 (by decide) (fun c11 => ?_) (fun c11 => ?_)
    · have h := h.1 c11
      refine g_aload_n (pc := 34) (x := 156) dX12_jack_34 rfl ?_
      refine g_iload_n (pc := 35) (x := a1) dX12_jack_35 rfl ?_
      obtain ⟨Pm1, hRm1, h⟩ := h
      refine g_callV (pc := 36) (as := [.int a1]) dX12_jack_36 cw_X12_445 (by decide) rfl rfl sh_156 (Nat.le_of_ble_eq_true rfl) hRm1 ?_
      intro r_ m1 hz_ hp_
      obtain ⟨r1, rfl⟩ := hz_
      have h := h r1 m1 hp_
      refine g_istore_n (pc := 39) (L' := [(0, .ref 156), (1, .int a1), (2, .int a2), (3, .int r1)]) dX12_jack_39 (Nat.le_of_ble_eq_true rfl) rfl ?_
      refine g_iload_n (pc := 40) (x := r1) dX12_jack_40 rfl ?_
      refine g_ldcw (pc := 41) (v := (1000000 : Int32)) dX12_jack_41 ct_X12_441 ?_
      refine g_icmp_lt (pc := 44) (tgt := 52) dX12_jack_44 (by decide) (fun c44 => ?_) (fun c44 => ?_)
      · have h := h.1 c44
        refine g_iload_n (pc := 52) (x := a2) dX12_jack_52 rfl ?_
        refine g_if_ne (pc := 53) (tgt := 60) dX12_jack_53 (by decide) (fun c53 => ?_) (fun c53 => ?_)
        · have h := h.1 c53
          refine g_aload_n (pc := 60) (x := 156) dX12_jack_60 rfl ?_
          refine g_getR (pc := 61) (dd := 26) dX12_jack_61 fo_X12_91 sh_156 rfl ?_
          refine g_iload_n (pc := 64) (x := a2) dX12_jack_64 rfl ?_
          refine g_bipush (pc := 65) (v := (10 : Int32)) dX12_jack_65 (by decide) ?_
          refine g_isub (pc := 67) dX12_jack_67 ?_
          refine g_iaload (pc := 68) dX12_jack_68 sh_182 h.1 ?_
          have h := h.2
          exact g_iret (pc := 69) dX12_jack_69 rfl rfl rfl h
        · have h := h.2 c53
          refine g_iload_n (pc := 56) (x := r1) dX12_jack_56 rfl ?_
          refine g_goto (pc := 57) (tgt := 69) dX12_jack_57 (by decide) ?_
          exact g_iret (pc := 69) dX12_jack_69 rfl rfl rfl h
      · have h := h.2 c44
        refine g_bipush (pc := 47) (v := (-2 : Int32)) dX12_jack_47 (by decide) ?_
        refine g_goto (pc := 49) (tgt := 69) dX12_jack_49 (by decide) ?_
        exact g_iret (pc := 69) dX12_jack_69 rfl rfl rfl h
    · have h := h.2 c11
      refine g_iload_n (pc := 14) (x := a2) dX12_jack_14 rfl ?_
      refine g_bipush (pc := 15) (v := (10 : Int32)) dX12_jack_15 (by decide) ?_
      refine g_bipush (pc := 17) (v := (9 : Int32)) dX12_jack_17 (by decide) ?_
      refine g_aload_n (pc := 19) (x := 156) dX12_jack_19 rfl ?_
      refine g_getR (pc := 20) (dd := 6) dX12_jack_20 fo_X12_30 sh_156 rfl ?_
      refine g_iconst (pc := 23) (v := (5 : Int32)) dX12_jack_23 (by decide) ?_
      refine g_iaload (pc := 24) dX12_jack_24 sh_162 (vp_in_nI (n := 5) (N := 420) (by decide) (by decide)) ?_
      refine g_iadd (pc := 25) dX12_jack_25 ?_
      refine g_callS (pc := 26) (as := [.int a2, .int (10 : Int32), .int ((9 : Int32) + (mm.1 162 5))]) dX12_jack_26 cw_X12_392 (by decide) rfl rfl (Nat.le_of_ble_eq_true rfl) (rv_X12_isIn mm a2 (10 : Int32) ((9 : Int32) + (mm.1 162 5))) ?_
      rintro r_ m_ hz_ ⟨⟨p_, rfl⟩ | ⟨p_, rfl⟩, rfl⟩
      · have h := h.1 p_
        refine g_if_ne (pc := 29) (tgt := 34) dX12_jack_29 (by decide) (fun _ => ?_) (fun c29 => absurd c29 (by decide))
        refine g_aload_n (pc := 34) (x := 156) dX12_jack_34 rfl ?_
        refine g_iload_n (pc := 35) (x := a1) dX12_jack_35 rfl ?_
        obtain ⟨Pm1, hRm1, h⟩ := h
        refine g_callV (pc := 36) (as := [.int a1]) dX12_jack_36 cw_X12_445 (by decide) rfl rfl sh_156 (Nat.le_of_ble_eq_true rfl) hRm1 ?_
        intro r_ m1 hz_ hp_
        obtain ⟨r1, rfl⟩ := hz_
        have h := h r1 m1 hp_
        refine g_istore_n (pc := 39) (L' := [(0, .ref 156), (1, .int a1), (2, .int a2), (3, .int r1)]) dX12_jack_39 (Nat.le_of_ble_eq_true rfl) rfl ?_
        refine g_iload_n (pc := 40) (x := r1) dX12_jack_40 rfl ?_
        refine g_ldcw (pc := 41) (v := (1000000 : Int32)) dX12_jack_41 ct_X12_441 ?_
        refine g_icmp_lt (pc := 44) (tgt := 52) dX12_jack_44 (by decide) (fun c44 => ?_) (fun c44 => ?_)
        · have h := h.1 c44
          refine g_iload_n (pc := 52) (x := a2) dX12_jack_52 rfl ?_
          refine g_if_ne (pc := 53) (tgt := 60) dX12_jack_53 (by decide) (fun c53 => ?_) (fun c53 => ?_)
          · have h := h.1 c53
            refine g_aload_n (pc := 60) (x := 156) dX12_jack_60 rfl ?_
            refine g_getR (pc := 61) (dd := 26) dX12_jack_61 fo_X12_91 sh_156 rfl ?_
            refine g_iload_n (pc := 64) (x := a2) dX12_jack_64 rfl ?_
            refine g_bipush (pc := 65) (v := (10 : Int32)) dX12_jack_65 (by decide) ?_
            refine g_isub (pc := 67) dX12_jack_67 ?_
            refine g_iaload (pc := 68) dX12_jack_68 sh_182 h.1 ?_
            have h := h.2
            exact g_iret (pc := 69) dX12_jack_69 rfl rfl rfl h
          · have h := h.2 c53
            refine g_iload_n (pc := 56) (x := r1) dX12_jack_56 rfl ?_
            refine g_goto (pc := 57) (tgt := 69) dX12_jack_57 (by decide) ?_
            exact g_iret (pc := 69) dX12_jack_69 rfl rfl rfl h
        · have h := h.2 c44
          refine g_bipush (pc := 47) (v := (-2 : Int32)) dX12_jack_47 (by decide) ?_
          refine g_goto (pc := 49) (tgt := 69) dX12_jack_49 (by decide) ?_
          exact g_iret (pc := 69) dX12_jack_69 rfl rfl rfl h
      · have h := h.2 p_
        refine g_if_ne (pc := 29) (tgt := 34) dX12_jack_29 (by decide) (fun c29 => absurd c29 (by decide)) (fun _ => ?_)
        refine g_iconst (pc := 32) (v := (-1 : Int32)) dX12_jack_32 (by decide) ?_
        exact g_iret (pc := 33) dX12_jack_33 rfl rfl rfl h
  · have h := h.2 p_
    refine g_if_eq (pc := 7) (tgt := 32) dX12_jack_7 (by decide) (fun _ => ?_) (fun c7 => absurd c7 (by decide))
    refine g_iconst (pc := 32) (v := (-1 : Int32)) dX12_jack_32 (by decide) ?_
    exact g_iret (pc := 33) dX12_jack_33 rfl rfl rfl h
theorem dX12_work_0 : decode cX12_work 0 = .ok (.aload_n 0, 1) := by decide +kernel
theorem dX12_work_1 : decode cX12_work 1 = .ok (.getfield 33, 3) := by decide +kernel
theorem dX12_work_4 : decode cX12_work 4 = .ok (.iconst 1, 1) := by decide +kernel
theorem dX12_work_5 : decode cX12_work 5 = .ok (.iaload, 1) := by decide +kernel
theorem dX12_work_6 : decode cX12_work 6 = .ok (.bipush 40, 2) := by decide +kernel
theorem dX12_work_8 : decode cX12_work 8 = .ok (.if_icmp .eq 36, 3) := by decide +kernel
theorem dX12_work_11 : decode cX12_work 11 = .ok (.iload_n 1, 1) := by decide +kernel
theorem dX12_work_12 : decode cX12_work 12 = .ok (.iconst 0, 1) := by decide +kernel
theorem dX12_work_13 : decode cX12_work 13 = .ok (.bipush 99, 2) := by decide +kernel
theorem dX12_work_15 : decode cX12_work 15 = .ok (.invokestatic 392, 3) := by decide +kernel
theorem dX12_work_18 : decode cX12_work 18 = .ok (.ifCond .eq 26, 3) := by decide +kernel
theorem dX12_work_21 : decode cX12_work 21 = .ok (.aload_n 0, 1) := by decide +kernel
theorem dX12_work_22 : decode cX12_work 22 = .ok (.iload_n 2, 1) := by decide +kernel
theorem dX12_work_23 : decode cX12_work 23 = .ok (.invokevirtual 377, 3) := by decide +kernel
theorem dX12_work_26 : decode cX12_work 26 = .ok (.ifCond .eq 18, 3) := by decide +kernel
theorem dX12_work_29 : decode cX12_work 29 = .ok (.iload_n 3, 1) := by decide +kernel
theorem dX12_work_30 : decode cX12_work 30 = .ok (.bipush (-99), 2) := by decide +kernel
theorem dX12_work_32 : decode cX12_work 32 = .ok (.bipush 99, 2) := by decide +kernel
theorem dX12_work_34 : decode cX12_work 34 = .ok (.invokestatic 392, 3) := by decide +kernel
theorem dX12_work_37 : decode cX12_work 37 = .ok (.ifCond .eq 7, 3) := by decide +kernel
theorem dX12_work_40 : decode cX12_work 40 = .ok (.iload_n 3, 1) := by decide +kernel
theorem dX12_work_41 : decode cX12_work 41 = .ok (.ifCond .ne 5, 3) := by decide +kernel
theorem dX12_work_44 : decode cX12_work 44 = .ok (.iconst (-1), 1) := by decide +kernel
theorem dX12_work_45 : decode cX12_work 45 = .ok (.ireturn, 1) := by decide +kernel
theorem dX12_work_46 : decode cX12_work 46 = .ok (.bipush 60, 2) := by decide +kernel
theorem dX12_work_48 : decode cX12_work 48 = .ok (.iconst 3, 1) := by decide +kernel
theorem dX12_work_49 : decode cX12_work 49 = .ok (.aload_n 0, 1) := by decide +kernel
theorem dX12_work_50 : decode cX12_work 50 = .ok (.getfield 33, 3) := by decide +kernel
theorem dX12_work_53 : decode cX12_work 53 = .ok (.iconst 1, 1) := by decide +kernel
theorem dX12_work_54 : decode cX12_work 54 = .ok (.iaload, 1) := by decide +kernel
theorem dX12_work_55 : decode cX12_work 55 = .ok (.imul, 1) := by decide +kernel
theorem dX12_work_56 : decode cX12_work 56 = .ok (.iadd, 1) := by decide +kernel
theorem dX12_work_57 : decode cX12_work 57 = .ok (.istore 4, 2) := by decide +kernel
theorem dX12_work_59 : decode cX12_work 59 = .ok (.aload_n 0, 1) := by decide +kernel
theorem dX12_work_60 : decode cX12_work 60 = .ok (.getfield 33, 3) := by decide +kernel
theorem dX12_work_63 : decode cX12_work 63 = .ok (.iload 4, 2) := by decide +kernel
theorem dX12_work_65 : decode cX12_work 65 = .ok (.iload_n 1, 1) := by decide +kernel
theorem dX12_work_66 : decode cX12_work 66 = .ok (.iastore, 1) := by decide +kernel
theorem dX12_work_67 : decode cX12_work 67 = .ok (.aload_n 0, 1) := by decide +kernel
theorem dX12_work_68 : decode cX12_work 68 = .ok (.getfield 33, 3) := by decide +kernel
theorem dX12_work_71 : decode cX12_work 71 = .ok (.iload 4, 2) := by decide +kernel
theorem dX12_work_73 : decode cX12_work 73 = .ok (.iconst 1, 1) := by decide +kernel
theorem dX12_work_74 : decode cX12_work 74 = .ok (.iadd, 1) := by decide +kernel
theorem dX12_work_75 : decode cX12_work 75 = .ok (.iload_n 2, 1) := by decide +kernel
theorem dX12_work_76 : decode cX12_work 76 = .ok (.iastore, 1) := by decide +kernel
theorem dX12_work_77 : decode cX12_work 77 = .ok (.aload_n 0, 1) := by decide +kernel
theorem dX12_work_78 : decode cX12_work 78 = .ok (.getfield 33, 3) := by decide +kernel
theorem dX12_work_81 : decode cX12_work 81 = .ok (.iload 4, 2) := by decide +kernel
theorem dX12_work_83 : decode cX12_work 83 = .ok (.iconst 2, 1) := by decide +kernel
theorem dX12_work_84 : decode cX12_work 84 = .ok (.iadd, 1) := by decide +kernel
theorem dX12_work_85 : decode cX12_work 85 = .ok (.iload_n 3, 1) := by decide +kernel
theorem dX12_work_86 : decode cX12_work 86 = .ok (.iastore, 1) := by decide +kernel
theorem dX12_work_87 : decode cX12_work 87 = .ok (.aload_n 0, 1) := by decide +kernel
theorem dX12_work_88 : decode cX12_work 88 = .ok (.getfield 33, 3) := by decide +kernel
theorem dX12_work_91 : decode cX12_work 91 = .ok (.iconst 1, 1) := by decide +kernel
theorem dX12_work_92 : decode cX12_work 92 = .ok (.dup2, 1) := by decide +kernel
theorem dX12_work_93 : decode cX12_work 93 = .ok (.iaload, 1) := by decide +kernel
theorem dX12_work_94 : decode cX12_work 94 = .ok (.iconst 1, 1) := by decide +kernel
theorem dX12_work_95 : decode cX12_work 95 = .ok (.iadd, 1) := by decide +kernel
theorem dX12_work_96 : decode cX12_work 96 = .ok (.iastore, 1) := by decide +kernel
theorem dX12_work_97 : decode cX12_work 97 = .ok (.aload_n 0, 1) := by decide +kernel
theorem dX12_work_98 : decode cX12_work 98 = .ok (.getfield 33, 3) := by decide +kernel
theorem dX12_work_101 : decode cX12_work 101 = .ok (.iconst 1, 1) := by decide +kernel
theorem dX12_work_102 : decode cX12_work 102 = .ok (.iaload, 1) := by decide +kernel
theorem dX12_work_103 : decode cX12_work 103 = .ok (.iconst 1, 1) := by decide +kernel
theorem dX12_work_104 : decode cX12_work 104 = .ok (.isub, 1) := by decide +kernel
theorem dX12_work_105 : decode cX12_work 105 = .ok (.ireturn, 1) := by decide +kernel
theorem b_X12_work (mm : MM) (Q : Value → MM → Prop) (a1 : Int32) (a2 : Int32) (a3 : Int32) (h : ((mm.1 163 1) = (40 : Int32) → (Q (.int (-1 : Int32)) mm)) ∧ (¬ (mm.1 163 1) = (40 : Int32) → ((p_X12_isIn mm a1 (0 : Int32) (99 : Int32) → ((p_X12_isHouse mm a2 → ((p_X12_isIn mm a3 (-99 : Int32) (99 : Int32) → ((¬ a3 = 0 → (vp_in ((60 : Int32) + ((3 : Int32) * (mm.1 163 1))) 1260 ∧ (vp_in (((60 : Int32) + ((3 : Int32) * (mm.1 163 1))) + (1 : Int32)) 1260 ∧ (vp_in (((60 : Int32) + ((3 : Int32) * (mm.1 163 1))) + (2 : Int32)) 1260 ∧ (Q (.int (((wI (wI (wI (wI mm 163 (((60 : Int32) + ((3 : Int32) * (mm.1 163 1))).toNatClampNeg) a1) 163 ((((60 : Int32) + ((3 : Int32) * (mm.1 163 1))) + (1 : Int32)).toNatClampNeg) a2) 163 ((((60 : Int32) + ((3 : Int32) * (mm.1 163 1))) + (2 : Int32)).toNatClampNeg) a3) 163 1 (((wI (wI (wI mm 163 (((60 : Int32) + ((3 : Int32) * (mm.1 163 1))).toNatClampNeg) a1) 163 ((((60 : Int32) + ((3 : Int32) * (mm.1 163 1))) + (1 : Int32)).toNatClampNeg) a2) 163 ((((60 : Int32) + ((3 : Int32) * (mm.1 163 1))) + (2 : Int32)).toNatClampNeg) a3).1 163 1) + (1 : Int32))).1 163 1) - (1 : Int32))) (wI (wI (wI (wI mm 163 (((60 : Int32) + ((3 : Int32) * (mm.1 163 1))).toNatClampNeg) a1) 163 ((((60 : Int32) + ((3 : Int32) * (mm.1 163 1))) + (1 : Int32)).toNatClampNeg) a2) 163 ((((60 : Int32) + ((3 : Int32) * (mm.1 163 1))) + (2 : Int32)).toNatClampNeg) a3) 163 1 (((wI (wI (wI mm 163 (((60 : Int32) + ((3 : Int32) * (mm.1 163 1))).toNatClampNeg) a1) 163 ((((60 : Int32) + ((3 : Int32) * (mm.1 163 1))) + (1 : Int32)).toNatClampNeg) a2) 163 ((((60 : Int32) + ((3 : Int32) * (mm.1 163 1))) + (2 : Int32)).toNatClampNeg) a3).1 163 1) + (1 : Int32)))))))) ∧ (a3 = 0 → (Q (.int (-1 : Int32)) mm)))) ∧ (¬ p_X12_isIn mm a3 (-99 : Int32) (99 : Int32) → (Q (.int (-1 : Int32)) mm)))) ∧ (¬ p_X12_isHouse mm a2 → (Q (.int (-1 : Int32)) mm)))) ∧ (¬ p_X12_isIn mm a1 (0 : Int32) (99 : Int32) → (Q (.int (-1 : Int32)) mm))))) : Runs e_X12_work [.ref 156, .int a1, .int a2, .int a3] mm Q := by
  refine runs_of_G (L := [(0, .ref 156), (1, .int a1), (2, .int a2), (3, .int a3)]) pl_X12 (Nat.le_of_ble_eq_true rfl) rfl ?_
  refine g_aload_n (pc := 0) (x := 156) dX12_work_0 rfl ?_
  refine g_getR (pc := 1) (dd := 7) dX12_work_1 fo_X12_33 sh_156 rfl ?_
  refine g_iconst (pc := 4) (v := (1 : Int32)) dX12_work_4 (by decide) ?_
  refine g_iaload (pc := 5) dX12_work_5 sh_163 (vp_in_nI (n := 1) (N := 1260) (by decide) (by decide)) ?_
  refine g_bipush (pc := 6) (v := (40 : Int32)) dX12_work_6 (by decide) ?_
  refine g_icmp_eq (pc := 8) (tgt := 44) dX12_work_8 (by decide) (fun c8 => ?_) (fun c8 => ?_)
  · have h := h.1 c8
    refine g_iconst (pc := 44) (v := (-1 : Int32)) dX12_work_44 (by decide) ?_
    exact g_iret (pc := 45) dX12_work_45 rfl rfl rfl h
  · have h := h.2 c8
    refine g_iload_n (pc := 11) (x := a1) dX12_work_11 rfl ?_
    refine g_iconst (pc := 12) (v := (0 : Int32)) dX12_work_12 (by decide) ?_
    refine g_bipush (pc := 13) (v := (99 : Int32)) dX12_work_13 (by decide) ?_
    refine g_callS (pc := 15) (as := [.int a1, .int (0 : Int32), .int (99 : Int32)]) dX12_work_15 cw_X12_392 (by decide) rfl rfl (Nat.le_of_ble_eq_true rfl) (rv_X12_isIn mm a1 (0 : Int32) (99 : Int32)) ?_
    rintro r_ m_ hz_ ⟨⟨p_, rfl⟩ | ⟨p_, rfl⟩, rfl⟩
    · have h := h.1 p_
      refine g_if_eq (pc := 18) (tgt := 44) dX12_work_18 (by decide) (fun c18 => absurd c18 (by decide)) (fun _ => ?_)
      refine g_aload_n (pc := 21) (x := 156) dX12_work_21 rfl ?_
      refine g_iload_n (pc := 22) (x := a2) dX12_work_22 rfl ?_
      refine g_callV (pc := 23) (as := [.int a2]) dX12_work_23 cw_X12_377 (by decide) rfl rfl sh_156 (Nat.le_of_ble_eq_true rfl) (rv_X12_isHouse mm a2) ?_
      rintro r_ m_ hz_ ⟨⟨p_, rfl⟩ | ⟨p_, rfl⟩, rfl⟩
      · have h := h.1 p_
        refine g_if_eq (pc := 26) (tgt := 44) dX12_work_26 (by decide) (fun c26 => absurd c26 (by decide)) (fun _ => ?_)
        refine g_iload_n (pc := 29) (x := a3) dX12_work_29 rfl ?_
        refine g_bipush (pc := 30) (v := (-99 : Int32)) dX12_work_30 (by decide) ?_
        refine g_bipush (pc := 32) (v := (99 : Int32)) dX12_work_32 (by decide) ?_
        refine g_callS (pc := 34) (as := [.int a3, .int (-99 : Int32), .int (99 : Int32)]) dX12_work_34 cw_X12_392 (by decide) rfl rfl (Nat.le_of_ble_eq_true rfl) (rv_X12_isIn mm a3 (-99 : Int32) (99 : Int32)) ?_
        rintro r_ m_ hz_ ⟨⟨p_, rfl⟩ | ⟨p_, rfl⟩, rfl⟩
        · have h := h.1 p_
          refine g_if_eq (pc := 37) (tgt := 44) dX12_work_37 (by decide) (fun c37 => absurd c37 (by decide)) (fun _ => ?_)
          refine g_iload_n (pc := 40) (x := a3) dX12_work_40 rfl ?_
          refine g_if_ne (pc := 41) (tgt := 46) dX12_work_41 (by decide) (fun c41 => ?_) (fun c41 => ?_)
          · have h := h.1 c41
            refine g_bipush (pc := 46) (v := (60 : Int32)) dX12_work_46 (by decide) ?_
            refine g_iconst (pc := 48) (v := (3 : Int32)) dX12_work_48 (by decide) ?_
            refine g_aload_n (pc := 49) (x := 156) dX12_work_49 rfl ?_
            refine g_getR (pc := 50) (dd := 7) dX12_work_50 fo_X12_33 sh_156 rfl ?_
            refine g_iconst (pc := 53) (v := (1 : Int32)) dX12_work_53 (by decide) ?_
            refine g_iaload (pc := 54) dX12_work_54 sh_163 (vp_in_nI (n := 1) (N := 1260) (by decide) (by decide)) ?_
            refine g_imul (pc := 55) dX12_work_55 ?_
            refine g_iadd (pc := 56) dX12_work_56 ?_
            refine g_istore (pc := 57) (L' := [(0, .ref 156), (1, .int a1), (2, .int a2), (3, .int a3), (4, .int ((60 : Int32) + ((3 : Int32) * (mm.1 163 1))))]) dX12_work_57 (Nat.le_of_ble_eq_true rfl) rfl ?_
            refine g_aload_n (pc := 59) (x := 156) dX12_work_59 rfl ?_
            refine g_getR (pc := 60) (dd := 7) dX12_work_60 fo_X12_33 sh_156 rfl ?_
            refine g_iload (pc := 63) (x := ((60 : Int32) + ((3 : Int32) * (mm.1 163 1)))) dX12_work_63 rfl ?_
            refine g_iload_n (pc := 65) (x := a1) dX12_work_65 rfl ?_
            refine g_iastore (pc := 66) dX12_work_66 sh_163 h.1 ?_
            have h := h.2
            refine g_aload_n (pc := 67) (x := 156) dX12_work_67 rfl ?_
            refine g_getR (pc := 68) (dd := 7) dX12_work_68 fo_X12_33 sh_156 rfl ?_
            refine g_iload (pc := 71) (x := ((60 : Int32) + ((3 : Int32) * (mm.1 163 1)))) dX12_work_71 rfl ?_
            refine g_iconst (pc := 73) (v := (1 : Int32)) dX12_work_73 (by decide) ?_
            refine g_iadd (pc := 74) dX12_work_74 ?_
            refine g_iload_n (pc := 75) (x := a2) dX12_work_75 rfl ?_
            refine g_iastore (pc := 76) dX12_work_76 sh_163 h.1 ?_
            have h := h.2
            refine g_aload_n (pc := 77) (x := 156) dX12_work_77 rfl ?_
            refine g_getR (pc := 78) (dd := 7) dX12_work_78 fo_X12_33 sh_156 rfl ?_
            refine g_iload (pc := 81) (x := ((60 : Int32) + ((3 : Int32) * (mm.1 163 1)))) dX12_work_81 rfl ?_
            refine g_iconst (pc := 83) (v := (2 : Int32)) dX12_work_83 (by decide) ?_
            refine g_iadd (pc := 84) dX12_work_84 ?_
            refine g_iload_n (pc := 85) (x := a3) dX12_work_85 rfl ?_
            refine g_iastore (pc := 86) dX12_work_86 sh_163 h.1 ?_
            have h := h.2
            refine g_aload_n (pc := 87) (x := 156) dX12_work_87 rfl ?_
            refine g_getR (pc := 88) (dd := 7) dX12_work_88 fo_X12_33 sh_156 rfl ?_
            refine g_iconst (pc := 91) (v := (1 : Int32)) dX12_work_91 (by decide) ?_
            refine g_dup2 (pc := 92) dX12_work_92 rfl rfl ?_
            refine g_iaload (pc := 93) dX12_work_93 sh_163 (vp_in_nI (n := 1) (N := 1260) (by decide) (by decide)) ?_
            refine g_iconst (pc := 94) (v := (1 : Int32)) dX12_work_94 (by decide) ?_
            refine g_iadd (pc := 95) dX12_work_95 ?_
            refine g_iastore (pc := 96) dX12_work_96 sh_163 (vp_in_nI (n := 1) (N := 1260) (by decide) (by decide)) ?_
            refine g_aload_n (pc := 97) (x := 156) dX12_work_97 rfl ?_
            refine g_getR (pc := 98) (dd := 7) dX12_work_98 fo_X12_33 sh_156 rfl ?_
            refine g_iconst (pc := 101) (v := (1 : Int32)) dX12_work_101 (by decide) ?_
            refine g_iaload (pc := 102) dX12_work_102 sh_163 (vp_in_nI (n := 1) (N := 1260) (by decide) (by decide)) ?_
            refine g_iconst (pc := 103) (v := (1 : Int32)) dX12_work_103 (by decide) ?_
            refine g_isub (pc := 104) dX12_work_104 ?_
            exact g_iret (pc := 105) dX12_work_105 rfl rfl rfl h
          · have h := h.2 c41
            refine g_iconst (pc := 44) (v := (-1 : Int32)) dX12_work_44 (by decide) ?_
            exact g_iret (pc := 45) dX12_work_45 rfl rfl rfl h
        · have h := h.2 p_
          refine g_if_eq (pc := 37) (tgt := 44) dX12_work_37 (by decide) (fun _ => ?_) (fun c37 => absurd c37 (by decide))
          refine g_iconst (pc := 44) (v := (-1 : Int32)) dX12_work_44 (by decide) ?_
          exact g_iret (pc := 45) dX12_work_45 rfl rfl rfl h
      · have h := h.2 p_
        refine g_if_eq (pc := 26) (tgt := 44) dX12_work_26 (by decide) (fun _ => ?_) (fun c26 => absurd c26 (by decide))
        refine g_iconst (pc := 44) (v := (-1 : Int32)) dX12_work_44 (by decide) ?_
        exact g_iret (pc := 45) dX12_work_45 rfl rfl rfl h
    · have h := h.2 p_
      refine g_if_eq (pc := 18) (tgt := 44) dX12_work_18 (by decide) (fun _ => ?_) (fun c18 => absurd c18 (by decide))
      refine g_iconst (pc := 44) (v := (-1 : Int32)) dX12_work_44 (by decide) ?_
      exact g_iret (pc := 45) dX12_work_45 rfl rfl rfl h
theorem dX12_forget_0 : decode cX12_forget 0 = .ok (.aload_n 0, 1) := by decide +kernel
theorem dX12_forget_1 : decode cX12_forget 1 = .ok (.getfield 33, 3) := by decide +kernel
theorem dX12_forget_4 : decode cX12_forget 4 = .ok (.iconst 1, 1) := by decide +kernel
theorem dX12_forget_5 : decode cX12_forget 5 = .ok (.iaload, 1) := by decide +kernel
theorem dX12_forget_6 : decode cX12_forget 6 = .ok (.istore_n 1, 1) := by decide +kernel
theorem dX12_forget_7 : decode cX12_forget 7 = .ok (.aload_n 0, 1) := by decide +kernel
theorem dX12_forget_8 : decode cX12_forget 8 = .ok (.getfield 33, 3) := by decide +kernel
theorem dX12_forget_11 : decode cX12_forget 11 = .ok (.iconst 1, 1) := by decide +kernel
theorem dX12_forget_12 : decode cX12_forget 12 = .ok (.iconst 0, 1) := by decide +kernel
theorem dX12_forget_13 : decode cX12_forget 13 = .ok (.iastore, 1) := by decide +kernel
theorem dX12_forget_14 : decode cX12_forget 14 = .ok (.iload_n 1, 1) := by decide +kernel
theorem dX12_forget_15 : decode cX12_forget 15 = .ok (.ireturn, 1) := by decide +kernel
theorem b_X12_forget (mm : MM) (Q : Value → MM → Prop) (h : Q (.int (mm.1 163 1)) (wI mm 163 1 (0 : Int32))) : Runs e_X12_forget [.ref 156] mm Q := by
  refine runs_of_G (L := [(0, .ref 156)]) pl_X12 (Nat.le_of_ble_eq_true rfl) rfl ?_
  refine g_aload_n (pc := 0) (x := 156) dX12_forget_0 rfl ?_
  refine g_getR (pc := 1) (dd := 7) dX12_forget_1 fo_X12_33 sh_156 rfl ?_
  refine g_iconst (pc := 4) (v := (1 : Int32)) dX12_forget_4 (by decide) ?_
  refine g_iaload (pc := 5) dX12_forget_5 sh_163 (vp_in_nI (n := 1) (N := 1260) (by decide) (by decide)) ?_
  refine g_istore_n (pc := 6) (L' := [(0, .ref 156), (1, .int (mm.1 163 1))]) dX12_forget_6 (Nat.le_of_ble_eq_true rfl) rfl ?_
  refine g_aload_n (pc := 7) (x := 156) dX12_forget_7 rfl ?_
  refine g_getR (pc := 8) (dd := 7) dX12_forget_8 fo_X12_33 sh_156 rfl ?_
  refine g_iconst (pc := 11) (v := (1 : Int32)) dX12_forget_11 (by decide) ?_
  refine g_iconst (pc := 12) (v := (0 : Int32)) dX12_forget_12 (by decide) ?_
  refine g_iastore (pc := 13) dX12_forget_13 sh_163 (vp_in_nI (n := 1) (N := 1260) (by decide) (by decide)) ?_
  refine g_iload_n (pc := 14) (x := (mm.1 163 1)) dX12_forget_14 rfl ?_
  exact g_iret (pc := 15) dX12_forget_15 rfl rfl rfl h
theorem dX12_keep_0 : decode cX12_keep 0 = .ok (.iconst 0, 1) := by decide +kernel
theorem dX12_keep_1 : decode cX12_keep 1 = .ok (.istore_n 2, 1) := by decide +kernel
theorem dX12_keep_2 : decode cX12_keep 2 = .ok (.iload_n 2, 1) := by decide +kernel
theorem dX12_keep_3 : decode cX12_keep 3 = .ok (.bipush 16, 2) := by decide +kernel
theorem dX12_keep_5 : decode cX12_keep 5 = .ok (.if_icmp .ge 29, 3) := by decide +kernel
theorem dX12_keep_8 : decode cX12_keep 8 = .ok (.aload_n 0, 1) := by decide +kernel
theorem dX12_keep_9 : decode cX12_keep 9 = .ok (.getfield 94, 3) := by decide +kernel
theorem dX12_keep_12 : decode cX12_keep 12 = .ok (.bipush 24, 2) := by decide +kernel
theorem dX12_keep_14 : decode cX12_keep 14 = .ok (.iload_n 1, 1) := by decide +kernel
theorem dX12_keep_15 : decode cX12_keep 15 = .ok (.imul, 1) := by decide +kernel
theorem dX12_keep_16 : decode cX12_keep 16 = .ok (.iload_n 2, 1) := by decide +kernel
theorem dX12_keep_17 : decode cX12_keep 17 = .ok (.iadd, 1) := by decide +kernel
theorem dX12_keep_18 : decode cX12_keep 18 = .ok (.aload_n 0, 1) := by decide +kernel
theorem dX12_keep_19 : decode cX12_keep 19 = .ok (.getfield 33, 3) := by decide +kernel
theorem dX12_keep_22 : decode cX12_keep 22 = .ok (.bipush 10, 2) := by decide +kernel
theorem dX12_keep_24 : decode cX12_keep 24 = .ok (.iload_n 2, 1) := by decide +kernel
theorem dX12_keep_25 : decode cX12_keep 25 = .ok (.iadd, 1) := by decide +kernel
theorem dX12_keep_26 : decode cX12_keep 26 = .ok (.iaload, 1) := by decide +kernel
theorem dX12_keep_27 : decode cX12_keep 27 = .ok (.iastore, 1) := by decide +kernel
theorem dX12_keep_28 : decode cX12_keep 28 = .ok (.iinc 2 1, 3) := by decide +kernel
theorem dX12_keep_31 : decode cX12_keep 31 = .ok (.goto (-29), 3) := by decide +kernel
theorem dX12_keep_34 : decode cX12_keep 34 = .ok (.iconst 0, 1) := by decide +kernel
theorem dX12_keep_35 : decode cX12_keep 35 = .ok (.istore_n 2, 1) := by decide +kernel
theorem dX12_keep_36 : decode cX12_keep 36 = .ok (.iload_n 2, 1) := by decide +kernel
theorem dX12_keep_37 : decode cX12_keep 37 = .ok (.bipush 8, 2) := by decide +kernel
theorem dX12_keep_39 : decode cX12_keep 39 = .ok (.if_icmp .ge 32, 3) := by decide +kernel
theorem dX12_keep_42 : decode cX12_keep 42 = .ok (.aload_n 0, 1) := by decide +kernel
theorem dX12_keep_43 : decode cX12_keep 43 = .ok (.getfield 94, 3) := by decide +kernel
theorem dX12_keep_46 : decode cX12_keep 46 = .ok (.bipush 24, 2) := by decide +kernel
theorem dX12_keep_48 : decode cX12_keep 48 = .ok (.iload_n 1, 1) := by decide +kernel
theorem dX12_keep_49 : decode cX12_keep 49 = .ok (.imul, 1) := by decide +kernel
theorem dX12_keep_50 : decode cX12_keep 50 = .ok (.bipush 16, 2) := by decide +kernel
theorem dX12_keep_52 : decode cX12_keep 52 = .ok (.iadd, 1) := by decide +kernel
theorem dX12_keep_53 : decode cX12_keep 53 = .ok (.iload_n 2, 1) := by decide +kernel
theorem dX12_keep_54 : decode cX12_keep 54 = .ok (.iadd, 1) := by decide +kernel
theorem dX12_keep_55 : decode cX12_keep 55 = .ok (.aload_n 0, 1) := by decide +kernel
theorem dX12_keep_56 : decode cX12_keep 56 = .ok (.getfield 33, 3) := by decide +kernel
theorem dX12_keep_59 : decode cX12_keep 59 = .ok (.bipush 50, 2) := by decide +kernel
theorem dX12_keep_61 : decode cX12_keep 61 = .ok (.iload_n 2, 1) := by decide +kernel
theorem dX12_keep_62 : decode cX12_keep 62 = .ok (.iadd, 1) := by decide +kernel
theorem dX12_keep_63 : decode cX12_keep 63 = .ok (.iaload, 1) := by decide +kernel
theorem dX12_keep_64 : decode cX12_keep 64 = .ok (.iastore, 1) := by decide +kernel
theorem dX12_keep_65 : decode cX12_keep 65 = .ok (.iinc 2 1, 3) := by decide +kernel
theorem dX12_keep_68 : decode cX12_keep 68 = .ok (.goto (-32), 3) := by decide +kernel
theorem dX12_keep_71 : decode cX12_keep 71 = .ok (.return_, 1) := by decide +kernel
theorem b_X12_keep (mm : MM) (Q : Value → MM → Prop) (a1 : Int32) (h : G e_X12_keep 2 [(0, .ref 156), (1, .int a1), (2, .int (0 : Int32))] [] mm Q) : Runs e_X12_keep [.ref 156, .int a1] mm Q := by
  refine runs_of_G (L := [(0, .ref 156), (1, .int a1)]) pl_X12 (Nat.le_of_ble_eq_true rfl) rfl ?_
  refine g_iconst (pc := 0) (v := (0 : Int32)) dX12_keep_0 (by decide) ?_
  refine g_istore_n (pc := 1) (L' := [(0, .ref 156), (1, .int a1), (2, .int (0 : Int32))]) dX12_keep_1 (Nat.le_of_ble_eq_true rfl) rfl ?_
  exact h
theorem b_X12_keep_2 (mm : MM) (Q : Value → MM → Prop) (l1 : Int32) (l2 : Int32) (h : ((16 : Int32) ≤ l2 → (G e_X12_keep 36 [(0, .ref 156), (1, .int l1), (2, .int (0 : Int32))] [] mm Q)) ∧ (¬ (16 : Int32) ≤ l2 → (vp_in ((10 : Int32) + l2) 1260 ∧ (vp_in (((24 : Int32) * l1) + l2) 504 ∧ (G e_X12_keep 2 [(0, .ref 156), (1, .int l1), (2, .int (l2 + (1 : Int32)))] [] (wI mm 183 ((((24 : Int32) * l1) + l2).toNatClampNeg) (mm.1 163 ((10 : Int32) + l2).toNatClampNeg)) Q))))) : G e_X12_keep 2 [(0, .ref 156), (1, .int l1), (2, .int l2)] [] mm Q := by
  refine g_iload_n (pc := 2) (x := l2) dX12_keep_2 rfl ?_
  refine g_bipush (pc := 3) (v := (16 : Int32)) dX12_keep_3 (by decide) ?_
  refine g_icmp_ge (pc := 5) (tgt := 34) dX12_keep_5 (by decide) (fun c5 => ?_) (fun c5 => ?_)
  · have h := h.1 c5
    refine g_iconst (pc := 34) (v := (0 : Int32)) dX12_keep_34 (by decide) ?_
    refine g_istore_n (pc := 35) (L' := [(0, .ref 156), (1, .int l1), (2, .int (0 : Int32))]) dX12_keep_35 (Nat.le_of_ble_eq_true rfl) rfl ?_
    exact h
  · have h := h.2 c5
    refine g_aload_n (pc := 8) (x := 156) dX12_keep_8 rfl ?_
    refine g_getR (pc := 9) (dd := 27) dX12_keep_9 fo_X12_94 sh_156 rfl ?_
    refine g_bipush (pc := 12) (v := (24 : Int32)) dX12_keep_12 (by decide) ?_
    refine g_iload_n (pc := 14) (x := l1) dX12_keep_14 rfl ?_
    refine g_imul (pc := 15) dX12_keep_15 ?_
    refine g_iload_n (pc := 16) (x := l2) dX12_keep_16 rfl ?_
    refine g_iadd (pc := 17) dX12_keep_17 ?_
    refine g_aload_n (pc := 18) (x := 156) dX12_keep_18 rfl ?_
    refine g_getR (pc := 19) (dd := 7) dX12_keep_19 fo_X12_33 sh_156 rfl ?_
    refine g_bipush (pc := 22) (v := (10 : Int32)) dX12_keep_22 (by decide) ?_
    refine g_iload_n (pc := 24) (x := l2) dX12_keep_24 rfl ?_
    refine g_iadd (pc := 25) dX12_keep_25 ?_
    refine g_iaload (pc := 26) dX12_keep_26 sh_163 h.1 ?_
    have h := h.2
    refine g_iastore (pc := 27) dX12_keep_27 sh_183 h.1 ?_
    have h := h.2
    refine g_iinc (pc := 28) (x := l2) (v := (l2 + (1 : Int32))) (L' := [(0, .ref 156), (1, .int l1), (2, .int (l2 + (1 : Int32)))]) dX12_keep_28 rfl rfl (Nat.le_of_ble_eq_true rfl) rfl ?_
    refine g_goto (pc := 31) (tgt := 2) dX12_keep_31 (by decide) ?_
    exact h
theorem b_X12_keep_36 (mm : MM) (Q : Value → MM → Prop) (l1 : Int32) (l2 : Int32) (h : ((8 : Int32) ≤ l2 → (Q .null mm)) ∧ (¬ (8 : Int32) ≤ l2 → (vp_in ((50 : Int32) + l2) 1260 ∧ (vp_in ((((24 : Int32) * l1) + (16 : Int32)) + l2) 504 ∧ (G e_X12_keep 36 [(0, .ref 156), (1, .int l1), (2, .int (l2 + (1 : Int32)))] [] (wI mm 183 (((((24 : Int32) * l1) + (16 : Int32)) + l2).toNatClampNeg) (mm.1 163 ((50 : Int32) + l2).toNatClampNeg)) Q))))) : G e_X12_keep 36 [(0, .ref 156), (1, .int l1), (2, .int l2)] [] mm Q := by
  refine g_iload_n (pc := 36) (x := l2) dX12_keep_36 rfl ?_
  refine g_bipush (pc := 37) (v := (8 : Int32)) dX12_keep_37 (by decide) ?_
  refine g_icmp_ge (pc := 39) (tgt := 71) dX12_keep_39 (by decide) (fun c39 => ?_) (fun c39 => ?_)
  · have h := h.1 c39
    exact g_vret (pc := 71) dX12_keep_71 rfl rfl h
  · have h := h.2 c39
    refine g_aload_n (pc := 42) (x := 156) dX12_keep_42 rfl ?_
    refine g_getR (pc := 43) (dd := 27) dX12_keep_43 fo_X12_94 sh_156 rfl ?_
    refine g_bipush (pc := 46) (v := (24 : Int32)) dX12_keep_46 (by decide) ?_
    refine g_iload_n (pc := 48) (x := l1) dX12_keep_48 rfl ?_
    refine g_imul (pc := 49) dX12_keep_49 ?_
    refine g_bipush (pc := 50) (v := (16 : Int32)) dX12_keep_50 (by decide) ?_
    refine g_iadd (pc := 52) dX12_keep_52 ?_
    refine g_iload_n (pc := 53) (x := l2) dX12_keep_53 rfl ?_
    refine g_iadd (pc := 54) dX12_keep_54 ?_
    refine g_aload_n (pc := 55) (x := 156) dX12_keep_55 rfl ?_
    refine g_getR (pc := 56) (dd := 7) dX12_keep_56 fo_X12_33 sh_156 rfl ?_
    refine g_bipush (pc := 59) (v := (50 : Int32)) dX12_keep_59 (by decide) ?_
    refine g_iload_n (pc := 61) (x := l2) dX12_keep_61 rfl ?_
    refine g_iadd (pc := 62) dX12_keep_62 ?_
    refine g_iaload (pc := 63) dX12_keep_63 sh_163 h.1 ?_
    have h := h.2
    refine g_iastore (pc := 64) dX12_keep_64 sh_183 h.1 ?_
    have h := h.2
    refine g_iinc (pc := 65) (x := l2) (v := (l2 + (1 : Int32))) (L' := [(0, .ref 156), (1, .int l1), (2, .int (l2 + (1 : Int32)))]) dX12_keep_65 rfl rfl (Nat.le_of_ble_eq_true rfl) rfl ?_
    refine g_goto (pc := 68) (tgt := 36) dX12_keep_68 (by decide) ?_
    exact h
theorem dX12_putBack_0 : decode cX12_putBack 0 = .ok (.iconst 0, 1) := by decide +kernel
theorem dX12_putBack_1 : decode cX12_putBack 1 = .ok (.istore_n 2, 1) := by decide +kernel
theorem dX12_putBack_2 : decode cX12_putBack 2 = .ok (.iload_n 2, 1) := by decide +kernel
theorem dX12_putBack_3 : decode cX12_putBack 3 = .ok (.bipush 16, 2) := by decide +kernel
theorem dX12_putBack_5 : decode cX12_putBack 5 = .ok (.if_icmp .ge 29, 3) := by decide +kernel
theorem dX12_putBack_8 : decode cX12_putBack 8 = .ok (.aload_n 0, 1) := by decide +kernel
theorem dX12_putBack_9 : decode cX12_putBack 9 = .ok (.getfield 33, 3) := by decide +kernel
theorem dX12_putBack_12 : decode cX12_putBack 12 = .ok (.bipush 10, 2) := by decide +kernel
theorem dX12_putBack_14 : decode cX12_putBack 14 = .ok (.iload_n 2, 1) := by decide +kernel
theorem dX12_putBack_15 : decode cX12_putBack 15 = .ok (.iadd, 1) := by decide +kernel
theorem dX12_putBack_16 : decode cX12_putBack 16 = .ok (.aload_n 0, 1) := by decide +kernel
theorem dX12_putBack_17 : decode cX12_putBack 17 = .ok (.getfield 94, 3) := by decide +kernel
theorem dX12_putBack_20 : decode cX12_putBack 20 = .ok (.bipush 24, 2) := by decide +kernel
theorem dX12_putBack_22 : decode cX12_putBack 22 = .ok (.iload_n 1, 1) := by decide +kernel
theorem dX12_putBack_23 : decode cX12_putBack 23 = .ok (.imul, 1) := by decide +kernel
theorem dX12_putBack_24 : decode cX12_putBack 24 = .ok (.iload_n 2, 1) := by decide +kernel
theorem dX12_putBack_25 : decode cX12_putBack 25 = .ok (.iadd, 1) := by decide +kernel
theorem dX12_putBack_26 : decode cX12_putBack 26 = .ok (.iaload, 1) := by decide +kernel
theorem dX12_putBack_27 : decode cX12_putBack 27 = .ok (.iastore, 1) := by decide +kernel
theorem dX12_putBack_28 : decode cX12_putBack 28 = .ok (.iinc 2 1, 3) := by decide +kernel
theorem dX12_putBack_31 : decode cX12_putBack 31 = .ok (.goto (-29), 3) := by decide +kernel
theorem dX12_putBack_34 : decode cX12_putBack 34 = .ok (.iconst 0, 1) := by decide +kernel
theorem dX12_putBack_35 : decode cX12_putBack 35 = .ok (.istore_n 2, 1) := by decide +kernel
theorem dX12_putBack_36 : decode cX12_putBack 36 = .ok (.iload_n 2, 1) := by decide +kernel
theorem dX12_putBack_37 : decode cX12_putBack 37 = .ok (.bipush 8, 2) := by decide +kernel
theorem dX12_putBack_39 : decode cX12_putBack 39 = .ok (.if_icmp .ge 32, 3) := by decide +kernel
theorem dX12_putBack_42 : decode cX12_putBack 42 = .ok (.aload_n 0, 1) := by decide +kernel
theorem dX12_putBack_43 : decode cX12_putBack 43 = .ok (.getfield 33, 3) := by decide +kernel
theorem dX12_putBack_46 : decode cX12_putBack 46 = .ok (.bipush 50, 2) := by decide +kernel
theorem dX12_putBack_48 : decode cX12_putBack 48 = .ok (.iload_n 2, 1) := by decide +kernel
theorem dX12_putBack_49 : decode cX12_putBack 49 = .ok (.iadd, 1) := by decide +kernel
theorem dX12_putBack_50 : decode cX12_putBack 50 = .ok (.aload_n 0, 1) := by decide +kernel
theorem dX12_putBack_51 : decode cX12_putBack 51 = .ok (.getfield 94, 3) := by decide +kernel
theorem dX12_putBack_54 : decode cX12_putBack 54 = .ok (.bipush 24, 2) := by decide +kernel
theorem dX12_putBack_56 : decode cX12_putBack 56 = .ok (.iload_n 1, 1) := by decide +kernel
theorem dX12_putBack_57 : decode cX12_putBack 57 = .ok (.imul, 1) := by decide +kernel
theorem dX12_putBack_58 : decode cX12_putBack 58 = .ok (.bipush 16, 2) := by decide +kernel
theorem dX12_putBack_60 : decode cX12_putBack 60 = .ok (.iadd, 1) := by decide +kernel
theorem dX12_putBack_61 : decode cX12_putBack 61 = .ok (.iload_n 2, 1) := by decide +kernel
theorem dX12_putBack_62 : decode cX12_putBack 62 = .ok (.iadd, 1) := by decide +kernel
theorem dX12_putBack_63 : decode cX12_putBack 63 = .ok (.iaload, 1) := by decide +kernel
theorem dX12_putBack_64 : decode cX12_putBack 64 = .ok (.iastore, 1) := by decide +kernel
theorem dX12_putBack_65 : decode cX12_putBack 65 = .ok (.iinc 2 1, 3) := by decide +kernel
theorem dX12_putBack_68 : decode cX12_putBack 68 = .ok (.goto (-32), 3) := by decide +kernel
theorem dX12_putBack_71 : decode cX12_putBack 71 = .ok (.return_, 1) := by decide +kernel
theorem b_X12_putBack (mm : MM) (Q : Value → MM → Prop) (a1 : Int32) (h : G e_X12_putBack 2 [(0, .ref 156), (1, .int a1), (2, .int (0 : Int32))] [] mm Q) : Runs e_X12_putBack [.ref 156, .int a1] mm Q := by
  refine runs_of_G (L := [(0, .ref 156), (1, .int a1)]) pl_X12 (Nat.le_of_ble_eq_true rfl) rfl ?_
  refine g_iconst (pc := 0) (v := (0 : Int32)) dX12_putBack_0 (by decide) ?_
  refine g_istore_n (pc := 1) (L' := [(0, .ref 156), (1, .int a1), (2, .int (0 : Int32))]) dX12_putBack_1 (Nat.le_of_ble_eq_true rfl) rfl ?_
  exact h
theorem b_X12_putBack_2 (mm : MM) (Q : Value → MM → Prop) (l1 : Int32) (l2 : Int32) (h : ((16 : Int32) ≤ l2 → (G e_X12_putBack 36 [(0, .ref 156), (1, .int l1), (2, .int (0 : Int32))] [] mm Q)) ∧ (¬ (16 : Int32) ≤ l2 → (vp_in (((24 : Int32) * l1) + l2) 504 ∧ (vp_in ((10 : Int32) + l2) 1260 ∧ (G e_X12_putBack 2 [(0, .ref 156), (1, .int l1), (2, .int (l2 + (1 : Int32)))] [] (wI mm 163 (((10 : Int32) + l2).toNatClampNeg) (mm.1 183 (((24 : Int32) * l1) + l2).toNatClampNeg)) Q))))) : G e_X12_putBack 2 [(0, .ref 156), (1, .int l1), (2, .int l2)] [] mm Q := by
  refine g_iload_n (pc := 2) (x := l2) dX12_putBack_2 rfl ?_
  refine g_bipush (pc := 3) (v := (16 : Int32)) dX12_putBack_3 (by decide) ?_
  refine g_icmp_ge (pc := 5) (tgt := 34) dX12_putBack_5 (by decide) (fun c5 => ?_) (fun c5 => ?_)
  · have h := h.1 c5
    refine g_iconst (pc := 34) (v := (0 : Int32)) dX12_putBack_34 (by decide) ?_
    refine g_istore_n (pc := 35) (L' := [(0, .ref 156), (1, .int l1), (2, .int (0 : Int32))]) dX12_putBack_35 (Nat.le_of_ble_eq_true rfl) rfl ?_
    exact h
  · have h := h.2 c5
    refine g_aload_n (pc := 8) (x := 156) dX12_putBack_8 rfl ?_
    refine g_getR (pc := 9) (dd := 7) dX12_putBack_9 fo_X12_33 sh_156 rfl ?_
    refine g_bipush (pc := 12) (v := (10 : Int32)) dX12_putBack_12 (by decide) ?_
    refine g_iload_n (pc := 14) (x := l2) dX12_putBack_14 rfl ?_
    refine g_iadd (pc := 15) dX12_putBack_15 ?_
    refine g_aload_n (pc := 16) (x := 156) dX12_putBack_16 rfl ?_
    refine g_getR (pc := 17) (dd := 27) dX12_putBack_17 fo_X12_94 sh_156 rfl ?_
    refine g_bipush (pc := 20) (v := (24 : Int32)) dX12_putBack_20 (by decide) ?_
    refine g_iload_n (pc := 22) (x := l1) dX12_putBack_22 rfl ?_
    refine g_imul (pc := 23) dX12_putBack_23 ?_
    refine g_iload_n (pc := 24) (x := l2) dX12_putBack_24 rfl ?_
    refine g_iadd (pc := 25) dX12_putBack_25 ?_
    refine g_iaload (pc := 26) dX12_putBack_26 sh_183 h.1 ?_
    have h := h.2
    refine g_iastore (pc := 27) dX12_putBack_27 sh_163 h.1 ?_
    have h := h.2
    refine g_iinc (pc := 28) (x := l2) (v := (l2 + (1 : Int32))) (L' := [(0, .ref 156), (1, .int l1), (2, .int (l2 + (1 : Int32)))]) dX12_putBack_28 rfl rfl (Nat.le_of_ble_eq_true rfl) rfl ?_
    refine g_goto (pc := 31) (tgt := 2) dX12_putBack_31 (by decide) ?_
    exact h
theorem b_X12_putBack_36 (mm : MM) (Q : Value → MM → Prop) (l1 : Int32) (l2 : Int32) (h : ((8 : Int32) ≤ l2 → (Q .null mm)) ∧ (¬ (8 : Int32) ≤ l2 → (vp_in ((((24 : Int32) * l1) + (16 : Int32)) + l2) 504 ∧ (vp_in ((50 : Int32) + l2) 1260 ∧ (G e_X12_putBack 36 [(0, .ref 156), (1, .int l1), (2, .int (l2 + (1 : Int32)))] [] (wI mm 163 (((50 : Int32) + l2).toNatClampNeg) (mm.1 183 ((((24 : Int32) * l1) + (16 : Int32)) + l2).toNatClampNeg)) Q))))) : G e_X12_putBack 36 [(0, .ref 156), (1, .int l1), (2, .int l2)] [] mm Q := by
  refine g_iload_n (pc := 36) (x := l2) dX12_putBack_36 rfl ?_
  refine g_bipush (pc := 37) (v := (8 : Int32)) dX12_putBack_37 (by decide) ?_
  refine g_icmp_ge (pc := 39) (tgt := 71) dX12_putBack_39 (by decide) (fun c39 => ?_) (fun c39 => ?_)
  · have h := h.1 c39
    exact g_vret (pc := 71) dX12_putBack_71 rfl rfl h
  · have h := h.2 c39
    refine g_aload_n (pc := 42) (x := 156) dX12_putBack_42 rfl ?_
    refine g_getR (pc := 43) (dd := 7) dX12_putBack_43 fo_X12_33 sh_156 rfl ?_
    refine g_bipush (pc := 46) (v := (50 : Int32)) dX12_putBack_46 (by decide) ?_
    refine g_iload_n (pc := 48) (x := l2) dX12_putBack_48 rfl ?_
    refine g_iadd (pc := 49) dX12_putBack_49 ?_
    refine g_aload_n (pc := 50) (x := 156) dX12_putBack_50 rfl ?_
    refine g_getR (pc := 51) (dd := 27) dX12_putBack_51 fo_X12_94 sh_156 rfl ?_
    refine g_bipush (pc := 54) (v := (24 : Int32)) dX12_putBack_54 (by decide) ?_
    refine g_iload_n (pc := 56) (x := l1) dX12_putBack_56 rfl ?_
    refine g_imul (pc := 57) dX12_putBack_57 ?_
    refine g_bipush (pc := 58) (v := (16 : Int32)) dX12_putBack_58 (by decide) ?_
    refine g_iadd (pc := 60) dX12_putBack_60 ?_
    refine g_iload_n (pc := 61) (x := l2) dX12_putBack_61 rfl ?_
    refine g_iadd (pc := 62) dX12_putBack_62 ?_
    refine g_iaload (pc := 63) dX12_putBack_63 sh_183 h.1 ?_
    have h := h.2
    refine g_iastore (pc := 64) dX12_putBack_64 sh_163 h.1 ?_
    have h := h.2
    refine g_iinc (pc := 65) (x := l2) (v := (l2 + (1 : Int32))) (L' := [(0, .ref 156), (1, .int l1), (2, .int (l2 + (1 : Int32)))]) dX12_putBack_65 rfl rfl (Nat.le_of_ble_eq_true rfl) rfl ?_
    refine g_goto (pc := 68) (tgt := 36) dX12_putBack_68 (by decide) ?_
    exact h

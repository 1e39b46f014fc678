theorem dX12_dueOf_0 : decode cX12_dueOf 0 = .ok (.aload_n 0, 1) := by decide +kernel
theorem dX12_dueOf_1 : decode cX12_dueOf 1 = .ok (.invokevirtual 365, 3) := by decide +kernel
theorem dX12_dueOf_4 : decode cX12_dueOf 4 = .ok (.aload_n 0, 1) := by decide +kernel
theorem dX12_dueOf_5 : decode cX12_dueOf 5 = .ok (.getfield 82, 3) := by decide +kernel
theorem dX12_dueOf_8 : decode cX12_dueOf 8 = .ok (.iconst 1, 1) := by decide +kernel
theorem dX12_dueOf_9 : decode cX12_dueOf 9 = .ok (.aload_n 0, 1) := by decide +kernel
theorem dX12_dueOf_10 : decode cX12_dueOf 10 = .ok (.iload_n 1, 1) := by decide +kernel
theorem dX12_dueOf_11 : decode cX12_dueOf 11 = .ok (.invokevirtual 368, 3) := by decide +kernel
theorem dX12_dueOf_14 : decode cX12_dueOf 14 = .ok (.iastore, 1) := by decide +kernel
theorem dX12_dueOf_15 : decode cX12_dueOf 15 = .ok (.aload_n 0, 1) := by decide +kernel
theorem dX12_dueOf_16 : decode cX12_dueOf 16 = .ok (.getfield 82, 3) := by decide +kernel
theorem dX12_dueOf_19 : decode cX12_dueOf 19 = .ok (.iconst 2, 1) := by decide +kernel
theorem dX12_dueOf_20 : decode cX12_dueOf 20 = .ok (.aload_n 0, 1) := by decide +kernel
theorem dX12_dueOf_21 : decode cX12_dueOf 21 = .ok (.getfield 30, 3) := by decide +kernel
theorem dX12_dueOf_24 : decode cX12_dueOf 24 = .ok (.bipush 20, 2) := by decide +kernel
theorem dX12_dueOf_26 : decode cX12_dueOf 26 = .ok (.iconst 3, 1) := by decide +kernel
theorem dX12_dueOf_27 : decode cX12_dueOf 27 = .ok (.iload_n 1, 1) := by decide +kernel
theorem dX12_dueOf_28 : decode cX12_dueOf 28 = .ok (.imul, 1) := by decide +kernel
theorem dX12_dueOf_29 : decode cX12_dueOf 29 = .ok (.iadd, 1) := by decide +kernel
theorem dX12_dueOf_30 : decode cX12_dueOf 30 = .ok (.iconst 2, 1) := by decide +kernel
theorem dX12_dueOf_31 : decode cX12_dueOf 31 = .ok (.iadd, 1) := by decide +kernel
theorem dX12_dueOf_32 : decode cX12_dueOf 32 = .ok (.iaload, 1) := by decide +kernel
theorem dX12_dueOf_33 : decode cX12_dueOf 33 = .ok (.iastore, 1) := by decide +kernel
theorem dX12_dueOf_34 : decode cX12_dueOf 34 = .ok (.aload_n 0, 1) := by decide +kernel
theorem dX12_dueOf_35 : decode cX12_dueOf 35 = .ok (.getfield 82, 3) := by decide +kernel
theorem dX12_dueOf_38 : decode cX12_dueOf 38 = .ok (.iconst 3, 1) := by decide +kernel
theorem dX12_dueOf_39 : decode cX12_dueOf 39 = .ok (.aload_n 0, 1) := by decide +kernel
theorem dX12_dueOf_40 : decode cX12_dueOf 40 = .ok (.iload_n 1, 1) := by decide +kernel
theorem dX12_dueOf_41 : decode cX12_dueOf 41 = .ok (.invokevirtual 371, 3) := by decide +kernel
theorem dX12_dueOf_44 : decode cX12_dueOf 44 = .ok (.iastore, 1) := by decide +kernel
theorem dX12_dueOf_45 : decode cX12_dueOf 45 = .ok (.aload_n 0, 1) := by decide +kernel
theorem dX12_dueOf_46 : decode cX12_dueOf 46 = .ok (.iconst 1, 1) := by decide +kernel
theorem dX12_dueOf_47 : decode cX12_dueOf 47 = .ok (.aload_n 0, 1) := by decide +kernel
theorem dX12_dueOf_48 : decode cX12_dueOf 48 = .ok (.iload_n 1, 1) := by decide +kernel
theorem dX12_dueOf_49 : decode cX12_dueOf 49 = .ok (.invokevirtual 368, 3) := by decide +kernel
theorem dX12_dueOf_52 : decode cX12_dueOf 52 = .ok (.invokevirtual 374, 3) := by decide +kernel
theorem dX12_dueOf_55 : decode cX12_dueOf 55 = .ok (.ireturn, 1) := by decide +kernel
theorem b_X12_dueOf (mm : MM) (Q : Value → MM → Prop) (a1 : Int32) (h : ∃ Pm1 : Value → MM → Prop, Runs e_X12_askNone [.ref 156] mm Pm1 ∧ ∀ m1, Pm1 .null m1 → (o_X12_rankOf m1 a1 ∧ (vp_in (((20 : Int32) + ((3 : Int32) * a1)) + (2 : Int32)) 420 ∧ (o_X12_xOf (wI (wI m1 179 1 (v_X12_rankOf m1 a1)) 179 2 ((wI m1 179 1 (v_X12_rankOf m1 a1)).1 162 (((20 : Int32) + ((3 : Int32) * a1)) + (2 : Int32)).toNatClampNeg)) a1 ∧ (o_X12_rankOf (wI (wI (wI m1 179 1 (v_X12_rankOf m1 a1)) 179 2 ((wI m1 179 1 (v_X12_rankOf m1 a1)).1 162 (((20 : Int32) + ((3 : Int32) * a1)) + (2 : Int32)).toNatClampNeg)) 179 3 (v_X12_xOf (wI (wI m1 179 1 (v_X12_rankOf m1 a1)) 179 2 ((wI m1 179 1 (v_X12_rankOf m1 a1)).1 162 (((20 : Int32) + ((3 : Int32) * a1)) + (2 : Int32)).toNatClampNeg)) a1)) a1 ∧ (∃ Pm2 : Value → MM → Prop, Runs e_X12_says [.ref 156, .int (1 : Int32), .int (v_X12_rankOf (wI (wI (wI m1 179 1 (v_X12_rankOf m1 a1)) 179 2 ((wI m1 179 1 (v_X12_rankOf m1 a1)).1 162 (((20 : Int32) + ((3 : Int32) * a1)) + (2 : Int32)).toNatClampNeg)) 179 3 (v_X12_xOf (wI (wI m1 179 1 (v_X12_rankOf m1 a1)) 179 2 ((wI m1 179 1 (v_X12_rankOf m1 a1)).1 162 (((20 : Int32) + ((3 : Int32) * a1)) + (2 : Int32)).toNatClampNeg)) a1)) a1)] (wI (wI (wI m1 179 1 (v_X12_rankOf m1 a1)) 179 2 ((wI m1 179 1 (v_X12_rankOf m1 a1)).1 162 (((20 : Int32) + ((3 : Int32) * a1)) + (2 : Int32)).toNatClampNeg)) 179 3 (v_X12_xOf (wI (wI m1 179 1 (v_X12_rankOf m1 a1)) 179 2 ((wI m1 179 1 (v_X12_rankOf m1 a1)).1 162 (((20 : Int32) + ((3 : Int32) * a1)) + (2 : Int32)).toNatClampNeg)) a1)) Pm2 ∧ ∀ (r2 : Int32) (m2 : MM), Pm2 (.int r2) m2 → (Q (.int r2) m2))))))) : Runs e_X12_dueOf [.ref 156, .int a1] mm Q := by
  refine runs_of_G (L := [(0, .ref 156), (1, .int a1)]) pl_X12 (Nat.le_of_ble_eq_true rfl) rfl ?_
  refine g_aload_n (pc := 0) (x := 156) dX12_dueOf_0 rfl ?_
  obtain ⟨Pm1, hRm1, h⟩ := h
  refine g_callV (pc := 1) (as := []) dX12_dueOf_1 cw_X12_365 (by decide) rfl rfl sh_156 (Nat.le_of_ble_eq_true rfl) hRm1 ?_
  intro r_ m1 hz_ hp_
  obtain rfl := hz_
  have h := h m1 hp_
  refine g_aload_n (pc := 4) (x := 156) dX12_dueOf_4 rfl ?_
  refine g_getR (pc := 5) (dd := 23) dX12_dueOf_5 fo_X12_82 sh_156 rfl ?_
  refine g_iconst (pc := 8) (v := (1 : Int32)) dX12_dueOf_8 (by decide) ?_
  refine g_aload_n (pc := 9) (x := 156) dX12_dueOf_9 rfl ?_
  refine g_iload_n (pc := 10) (x := a1) dX12_dueOf_10 rfl ?_
  refine g_callV (pc := 11) (as := [.int a1]) dX12_dueOf_11 cw_X12_368 (by decide) rfl rfl sh_156 (Nat.le_of_ble_eq_true rfl) (rv_X12_rankOf m1 a1 h.1) ?_
  have h := h.2
  rintro r_ m_ hz_ ⟨rfl, rfl⟩
  refine g_iastore (pc := 14) dX12_dueOf_14 sh_179 (vp_in_nI (n := 1) (N := 9) (by decide) (by decide)) ?_
  refine g_aload_n (pc := 15) (x := 156) dX12_dueOf_15 rfl ?_
  refine g_getR (pc := 16) (dd := 23) dX12_dueOf_16 fo_X12_82 sh_156 rfl ?_
  refine g_iconst (pc := 19) (v := (2 : Int32)) dX12_dueOf_19 (by decide) ?_
  refine g_aload_n (pc := 20) (x := 156) dX12_dueOf_20 rfl ?_
  refine g_getR (pc := 21) (dd := 6) dX12_dueOf_21 fo_X12_30 sh_156 rfl ?_
  refine g_bipush (pc := 24) (v := (20 : Int32)) dX12_dueOf_24 (by decide) ?_
  refine g_iconst (pc := 26) (v := (3 : Int32)) dX12_dueOf_26 (by decide) ?_
  refine g_iload_n (pc := 27) (x := a1) dX12_dueOf_27 rfl ?_
  refine g_imul (pc := 28) dX12_dueOf_28 ?_
  refine g_iadd (pc := 29) dX12_dueOf_29 ?_
  refine g_iconst (pc := 30) (v := (2 : Int32)) dX12_dueOf_30 (by decide) ?_
  refine g_iadd (pc := 31) dX12_dueOf_31 ?_
  refine g_iaload (pc := 32) dX12_dueOf_32 sh_162 h.1 ?_
  have h := h.2
  refine g_iastore (pc := 33) dX12_dueOf_33 sh_179 (vp_in_nI (n := 2) (N := 9) (by decide) (by decide)) ?_
  refine g_aload_n (pc := 34) (x := 156) dX12_dueOf_34 rfl ?_
  refine g_getR (pc := 35) (dd := 23) dX12_dueOf_35 fo_X12_82 sh_156 rfl ?_
  refine g_iconst (pc := 38) (v := (3 : Int32)) dX12_dueOf_38 (by decide) ?_
  refine g_aload_n (pc := 39) (x := 156) dX12_dueOf_39 rfl ?_
  refine g_iload_n (pc := 40) (x := a1) dX12_dueOf_40 rfl ?_
  refine g_callV (pc := 41) (as := [.int a1]) dX12_dueOf_41 cw_X12_371 (by decide) rfl rfl sh_156 (Nat.le_of_ble_eq_true rfl) (rv_X12_xOf (wI (wI m1 179 1 (v_X12_rankOf m1 a1)) 179 2 ((wI m1 179 1 (v_X12_rankOf m1 a1)).1 162 (((20 : Int32) + ((3 : Int32) * a1)) + (2 : Int32)).toNatClampNeg)) a1 h.1) ?_
  have h := h.2
  rintro r_ m_ hz_ ⟨rfl, rfl⟩
  refine g_iastore (pc := 44) dX12_dueOf_44 sh_179 (vp_in_nI (n := 3) (N := 9) (by decide) (by decide)) ?_
  refine g_aload_n (pc := 45) (x := 156) dX12_dueOf_45 rfl ?_
  refine g_iconst (pc := 46) (v := (1 : Int32)) dX12_dueOf_46 (by decide) ?_
  refine g_aload_n (pc := 47) (x := 156) dX12_dueOf_47 rfl ?_
  refine g_iload_n (pc := 48) (x := a1) dX12_dueOf_48 rfl ?_
  refine g_callV (pc := 49) (as := [.int a1]) dX12_dueOf_49 cw_X12_368 (by decide) rfl rfl sh_156 (Nat.le_of_ble_eq_true rfl) (rv_X12_rankOf (wI (wI (wI m1 179 1 (v_X12_rankOf m1 a1)) 179 2 ((wI m1 179 1 (v_X12_rankOf m1 a1)).1 162 (((20 : Int32) + ((3 : Int32) * a1)) + (2 : Int32)).toNatClampNeg)) 179 3 (v_X12_xOf (wI (wI m1 179 1 (v_X12_rankOf m1 a1)) 179 2 ((wI m1 179 1 (v_X12_rankOf m1 a1)).1 162 (((20 : Int32) + ((3 : Int32) * a1)) + (2 : Int32)).toNatClampNeg)) a1)) a1 h.1) ?_
  have h := h.2
  rintro r_ m_ hz_ ⟨rfl, rfl⟩
  obtain ⟨Pm2, hRm2, h⟩ := h
  refine g_callV (pc := 52) (as := [.int (1 : Int32), .int (v_X12_rankOf (wI (wI (wI m1 179 1 (v_X12_rankOf m1 a1)) 179 2 ((wI m1 179 1 (v_X12_rankOf m1 a1)).1 162 (((20 : Int32) + ((3 : Int32) * a1)) + (2 : Int32)).toNatClampNeg)) 179 3 (v_X12_xOf (wI (wI m1 179 1 (v_X12_rankOf m1 a1)) 179 2 ((wI m1 179 1 (v_X12_rankOf m1 a1)).1 162 (((20 : Int32) + ((3 : Int32) * a1)) + (2 : Int32)).toNatClampNeg)) a1)) a1)]) dX12_dueOf_52 cw_X12_374 (by decide) rfl rfl sh_156 (Nat.le_of_ble_eq_true rfl) hRm2 ?_
  intro r_ m2 hz_ hp_
  obtain ⟨r2, rfl⟩ := hz_
  have h := h r2 m2 hp_
  exact g_iret (pc := 55) dX12_dueOf_55 rfl rfl rfl h
theorem dX12_house_0 : decode cX12_house 0 = .ok (.aload_n 0, 1) := by decide +kernel
theorem dX12_house_1 : decode cX12_house 1 = .ok (.iload_n 1, 1) := by decide +kernel
theorem dX12_house_2 : decode cX12_house 2 = .ok (.invokevirtual 377, 3) := by decide +kernel
theorem dX12_house_5 : decode cX12_house 5 = .ok (.ifCond .ne 5, 3) := by decide +kernel
theorem dX12_house_8 : decode cX12_house 8 = .ok (.iconst (-1), 1) := by decide +kernel
theorem dX12_house_9 : decode cX12_house 9 = .ok (.ireturn, 1) := by decide +kernel
theorem dX12_house_10 : decode cX12_house 10 = .ok (.iload_n 2, 1) := by decide +kernel
theorem dX12_house_11 : decode cX12_house 11 = .ok (.tableswitch 85 0 5 #[37, 43, 49, 63, 73, 79], 37) := by decide +kernel
theorem dX12_house_48 : decode cX12_house 48 = .ok (.aload_n 0, 1) := by decide +kernel
theorem dX12_house_49 : decode cX12_house 49 = .ok (.iload_n 1, 1) := by decide +kernel
theorem dX12_house_50 : decode cX12_house 50 = .ok (.invokevirtual 371, 3) := by decide +kernel
theorem dX12_house_53 : decode cX12_house 53 = .ok (.ireturn, 1) := by decide +kernel
theorem dX12_house_54 : decode cX12_house 54 = .ok (.aload_n 0, 1) := by decide +kernel
theorem dX12_house_55 : decode cX12_house 55 = .ok (.iload_n 1, 1) := by decide +kernel
theorem dX12_house_56 : decode cX12_house 56 = .ok (.invokevirtual 380, 3) := by decide +kernel
theorem dX12_house_59 : decode cX12_house 59 = .ok (.ireturn, 1) := by decide +kernel
theorem dX12_house_60 : decode cX12_house 60 = .ok (.aload_n 0, 1) := by decide +kernel
theorem dX12_house_61 : decode cX12_house 61 = .ok (.getfield 30, 3) := by decide +kernel
theorem dX12_house_64 : decode cX12_house 64 = .ok (.bipush 20, 2) := by decide +kernel
theorem dX12_house_66 : decode cX12_house 66 = .ok (.iconst 3, 1) := by decide +kernel
theorem dX12_house_67 : decode cX12_house 67 = .ok (.iload_n 1, 1) := by decide +kernel
theorem dX12_house_68 : decode cX12_house 68 = .ok (.imul, 1) := by decide +kernel
theorem dX12_house_69 : decode cX12_house 69 = .ok (.iadd, 1) := by decide +kernel
theorem dX12_house_70 : decode cX12_house 70 = .ok (.iconst 2, 1) := by decide +kernel
theorem dX12_house_71 : decode cX12_house 71 = .ok (.iadd, 1) := by decide +kernel
theorem dX12_house_72 : decode cX12_house 72 = .ok (.iaload, 1) := by decide +kernel
theorem dX12_house_73 : decode cX12_house 73 = .ok (.ireturn, 1) := by decide +kernel
theorem dX12_house_74 : decode cX12_house 74 = .ok (.aload_n 0, 1) := by decide +kernel
theorem dX12_house_75 : decode cX12_house 75 = .ok (.getfield 33, 3) := by decide +kernel
theorem dX12_house_78 : decode cX12_house 78 = .ok (.bipush 30, 2) := by decide +kernel
theorem dX12_house_80 : decode cX12_house 80 = .ok (.iload_n 1, 1) := by decide +kernel
theorem dX12_house_81 : decode cX12_house 81 = .ok (.iadd, 1) := by decide +kernel
theorem dX12_house_82 : decode cX12_house 82 = .ok (.iaload, 1) := by decide +kernel
theorem dX12_house_83 : decode cX12_house 83 = .ok (.ireturn, 1) := by decide +kernel
theorem dX12_house_84 : decode cX12_house 84 = .ok (.aload_n 0, 1) := by decide +kernel
theorem dX12_house_85 : decode cX12_house 85 = .ok (.iload_n 1, 1) := by decide +kernel
theorem dX12_house_86 : decode cX12_house 86 = .ok (.invokevirtual 368, 3) := by decide +kernel
theorem dX12_house_89 : decode cX12_house 89 = .ok (.ireturn, 1) := by decide +kernel
theorem dX12_house_90 : decode cX12_house 90 = .ok (.aload_n 0, 1) := by decide +kernel
theorem dX12_house_91 : decode cX12_house 91 = .ok (.iload_n 1, 1) := by decide +kernel
theorem dX12_house_92 : decode cX12_house 92 = .ok (.invokevirtual 383, 3) := by decide +kernel
theorem dX12_house_95 : decode cX12_house 95 = .ok (.ireturn, 1) := by decide +kernel
theorem dX12_house_96 : decode cX12_house 96 = .ok (.iconst (-1), 1) := by decide +kernel
theorem dX12_house_97 : decode cX12_house 97 = .ok (.ireturn, 1) := by decide +kernel
theorem b_X12_house (mm : MM) (Q : Value → MM → Prop) (a1 : Int32) (a2 : Int32) (h : (p_X12_isHouse mm a1 → ((a2 = (0 : Int32) → (o_X12_xOf mm a1 ∧ (Q (.int (v_X12_xOf mm a1)) mm))) ∧ (¬ a2 = (0 : Int32) → ((a2 = (1 : Int32) → (o_X12_heightOf mm a1 ∧ (Q (.int (v_X12_heightOf mm a1)) mm))) ∧ (¬ a2 = (1 : Int32) → ((a2 = (2 : Int32) → (vp_in (((20 : Int32) + ((3 : Int32) * a1)) + (2 : Int32)) 420 ∧ (Q (.int (mm.1 162 (((20 : Int32) + ((3 : Int32) * a1)) + (2 : Int32)).toNatClampNeg)) mm))) ∧ (¬ a2 = (2 : Int32) → ((a2 = (3 : Int32) → (vp_in ((30 : Int32) + a1) 1260 ∧ (Q (.int (mm.1 163 ((30 : Int32) + a1).toNatClampNeg)) mm))) ∧ (¬ a2 = (3 : Int32) → ((a2 = (4 : Int32) → (o_X12_rankOf mm a1 ∧ (Q (.int (v_X12_rankOf mm a1)) mm))) ∧ (¬ a2 = (4 : Int32) → ((a2 = (5 : Int32) → (∃ Pm1 : Value → MM → Prop, Runs e_X12_dueOf [.ref 156, .int a1] mm Pm1 ∧ ∀ (r1 : Int32) (m1 : MM), Pm1 (.int r1) m1 → (Q (.int r1) m1))) ∧ (¬ a2 = (5 : Int32) → (Q (.int (-1 : Int32)) mm)))))))))))))) ∧ (¬ p_X12_isHouse mm a1 → (Q (.int (-1 : Int32)) mm))) : Runs e_X12_house [.ref 156, .int a1, .int a2] mm Q := by
  refine runs_of_G (L := [(0, .ref 156), (1, .int a1), (2, .int a2)]) pl_X12 (Nat.le_of_ble_eq_true rfl) rfl ?_
  refine g_aload_n (pc := 0) (x := 156) dX12_house_0 rfl ?_
  refine g_iload_n (pc := 1) (x := a1) dX12_house_1 rfl ?_
  refine g_callV (pc := 2) (as := [.int a1]) dX12_house_2 cw_X12_377 (by decide) rfl rfl sh_156 (Nat.le_of_ble_eq_true rfl) (rv_X12_isHouse mm a1) ?_
  rintro r_ m_ hz_ ⟨⟨p_, rfl⟩ | ⟨p_, rfl⟩, rfl⟩
  · have h := h.1 p_
    refine g_if_ne (pc := 5) (tgt := 10) dX12_house_5 (by decide) (fun _ => ?_) (fun c5 => absurd c5 (by decide))
    refine g_iload_n (pc := 10) (x := a2) dX12_house_10 rfl ?_
    by_cases c11_0 : a2 = (0 : Int32)
    · have h := h.1 c11_0
      refine g_tsIn (pc := 11) (off := 37) (tgt := 48) dX12_house_11 (by rw [c11_0]; decide) (by rw [c11_0]; decide) (by rw [c11_0]; rfl) (by decide) ?_
      refine g_aload_n (pc := 48) (x := 156) dX12_house_48 rfl ?_
      refine g_iload_n (pc := 49) (x := a1) dX12_house_49 rfl ?_
      refine g_callV (pc := 50) (as := [.int a1]) dX12_house_50 cw_X12_371 (by decide) rfl rfl sh_156 (Nat.le_of_ble_eq_true rfl) (rv_X12_xOf mm a1 h.1) ?_
      have h := h.2
      rintro r_ m_ hz_ ⟨rfl, rfl⟩
      exact g_iret (pc := 53) dX12_house_53 rfl rfl rfl h
    · have h := h.2 c11_0
      by_cases c11_1 : a2 = (1 : Int32)
      · have h := h.1 c11_1
        refine g_tsIn (pc := 11) (off := 43) (tgt := 54) dX12_house_11 (by rw [c11_1]; decide) (by rw [c11_1]; decide) (by rw [c11_1]; rfl) (by decide) ?_
        refine g_aload_n (pc := 54) (x := 156) dX12_house_54 rfl ?_
        refine g_iload_n (pc := 55) (x := a1) dX12_house_55 rfl ?_
        refine g_callV (pc := 56) (as := [.int a1]) dX12_house_56 cw_X12_380 (by decide) rfl rfl sh_156 (Nat.le_of_ble_eq_true rfl) (rv_X12_heightOf mm a1 h.1) ?_
        have h := h.2
        rintro r_ m_ hz_ ⟨rfl, rfl⟩
        exact g_iret (pc := 59) dX12_house_59 rfl rfl rfl h
      · have h := h.2 c11_1
        by_cases c11_2 : a2 = (2 : Int32)
        · have h := h.1 c11_2
          refine g_tsIn (pc := 11) (off := 49) (tgt := 60) dX12_house_11 (by rw [c11_2]; decide) (by rw [c11_2]; decide) (by rw [c11_2]; rfl) (by decide) ?_
          refine g_aload_n (pc := 60) (x := 156) dX12_house_60 rfl ?_
          refine g_getR (pc := 61) (dd := 6) dX12_house_61 fo_X12_30 sh_156 rfl ?_
          refine g_bipush (pc := 64) (v := (20 : Int32)) dX12_house_64 (by decide) ?_
          refine g_iconst (pc := 66) (v := (3 : Int32)) dX12_house_66 (by decide) ?_
          refine g_iload_n (pc := 67) (x := a1) dX12_house_67 rfl ?_
          refine g_imul (pc := 68) dX12_house_68 ?_
          refine g_iadd (pc := 69) dX12_house_69 ?_
          refine g_iconst (pc := 70) (v := (2 : Int32)) dX12_house_70 (by decide) ?_
          refine g_iadd (pc := 71) dX12_house_71 ?_
          refine g_iaload (pc := 72) dX12_house_72 sh_162 h.1 ?_
          have h := h.2
          exact g_iret (pc := 73) dX12_house_73 rfl rfl rfl h
        · have h := h.2 c11_2
          by_cases c11_3 : a2 = (3 : Int32)
          · have h := h.1 c11_3
            refine g_tsIn (pc := 11) (off := 63) (tgt := 74) dX12_house_11 (by rw [c11_3]; decide) (by rw [c11_3]; decide) (by rw [c11_3]; rfl) (by decide) ?_
            refine g_aload_n (pc := 74) (x := 156) dX12_house_74 rfl ?_
            refine g_getR (pc := 75) (dd := 7) dX12_house_75 fo_X12_33 sh_156 rfl ?_
            refine g_bipush (pc := 78) (v := (30 : Int32)) dX12_house_78 (by decide) ?_
            refine g_iload_n (pc := 80) (x := a1) dX12_house_80 rfl ?_
            refine g_iadd (pc := 81) dX12_house_81 ?_
            refine g_iaload (pc := 82) dX12_house_82 sh_163 h.1 ?_
            have h := h.2
            exact g_iret (pc := 83) dX12_house_83 rfl rfl rfl h
          · have h := h.2 c11_3
            by_cases c11_4 : a2 = (4 : Int32)
            · have h := h.1 c11_4
              refine g_tsIn (pc := 11) (off := 73) (tgt := 84) dX12_house_11 (by rw [c11_4]; decide) (by rw [c11_4]; decide) (by rw [c11_4]; rfl) (by decide) ?_
              refine g_aload_n (pc := 84) (x := 156) dX12_house_84 rfl ?_
              refine g_iload_n (pc := 85) (x := a1) dX12_house_85 rfl ?_
              refine g_callV (pc := 86) (as := [.int a1]) dX12_house_86 cw_X12_368 (by decide) rfl rfl sh_156 (Nat.le_of_ble_eq_true rfl) (rv_X12_rankOf mm a1 h.1) ?_
              have h := h.2
              rintro r_ m_ hz_ ⟨rfl, rfl⟩
              exact g_iret (pc := 89) dX12_house_89 rfl rfl rfl h
            · have h := h.2 c11_4
              by_cases c11_5 : a2 = (5 : Int32)
              · have h := h.1 c11_5
                refine g_tsIn (pc := 11) (off := 79) (tgt := 90) dX12_house_11 (by rw [c11_5]; decide) (by rw [c11_5]; decide) (by rw [c11_5]; rfl) (by decide) ?_
                refine g_aload_n (pc := 90) (x := 156) dX12_house_90 rfl ?_
                refine g_iload_n (pc := 91) (x := a1) dX12_house_91 rfl ?_
                obtain ⟨Pm1, hRm1, h⟩ := h
                refine g_callV (pc := 92) (as := [.int a1]) dX12_house_92 cw_X12_383 (by decide) rfl rfl sh_156 (Nat.le_of_ble_eq_true rfl) hRm1 ?_
                intro r_ m1 hz_ hp_
                obtain ⟨r1, rfl⟩ := hz_
                have h := h r1 m1 hp_
                exact g_iret (pc := 95) dX12_house_95 rfl rfl rfl h
              · have h := h.2 c11_5
                refine g_tsOut (pc := 11) (tgt := 96) dX12_house_11 (by have e0_ := ts_ne (k := 0) c11_0 (by decide); have e1_ := ts_ne (k := 1) c11_1 (by decide); have e2_ := ts_ne (k := 2) c11_2 (by decide); have e3_ := ts_ne (k := 3) c11_3 (by decide); have e4_ := ts_ne (k := 4) c11_4 (by decide); have e5_ := ts_ne (k := 5) c11_5 (by decide); omega) (by decide) ?_
                refine g_iconst (pc := 96) (v := (-1 : Int32)) dX12_house_96 (by decide) ?_
                exact g_iret (pc := 97) dX12_house_97 rfl rfl rfl h
  · have h := h.2 p_
    refine g_if_ne (pc := 5) (tgt := 10) dX12_house_5 (by decide) (fun c5 => absurd c5 (by decide)) (fun _ => ?_)
    refine g_iconst (pc := 8) (v := (-1 : Int32)) dX12_house_8 (by decide) ?_
    exact g_iret (pc := 9) dX12_house_9 rfl rfl rfl h
theorem dX12_holderOf_0 : decode cX12_holderOf 0 = .ok (.iconst 0, 1) := by decide +kernel
theorem dX12_holderOf_1 : decode cX12_holderOf 1 = .ok (.istore_n 2, 1) := by decide +kernel
theorem dX12_holderOf_2 : decode cX12_holderOf 2 = .ok (.iload_n 2, 1) := by decide +kernel
theorem dX12_holderOf_3 : decode cX12_holderOf 3 = .ok (.aload_n 0, 1) := by decide +kernel
theorem dX12_holderOf_4 : decode cX12_holderOf 4 = .ok (.getfield 30, 3) := by decide +kernel
theorem dX12_holderOf_7 : decode cX12_holderOf 7 = .ok (.iconst 0, 1) := by decide +kernel
theorem dX12_holderOf_8 : decode cX12_holderOf 8 = .ok (.iaload, 1) := by decide +kernel
theorem dX12_holderOf_9 : decode cX12_holderOf 9 = .ok (.if_icmp .ge 24, 3) := by decide +kernel
theorem dX12_holderOf_12 : decode cX12_holderOf 12 = .ok (.aload_n 0, 1) := by decide +kernel
theorem dX12_holderOf_13 : decode cX12_holderOf 13 = .ok (.getfield 33, 3) := by decide +kernel
theorem dX12_holderOf_16 : decode cX12_holderOf 16 = .ok (.bipush 30, 2) := by decide +kernel
theorem dX12_holderOf_18 : decode cX12_holderOf 18 = .ok (.iload_n 2, 1) := by decide +kernel
theorem dX12_holderOf_19 : decode cX12_holderOf 19 = .ok (.iadd, 1) := by decide +kernel
theorem dX12_holderOf_20 : decode cX12_holderOf 20 = .ok (.iaload, 1) := by decide +kernel
theorem dX12_holderOf_21 : decode cX12_holderOf 21 = .ok (.iload_n 1, 1) := by decide +kernel
theorem dX12_holderOf_22 : decode cX12_holderOf 22 = .ok (.if_icmp .ne 5, 3) := by decide +kernel
theorem dX12_holderOf_25 : decode cX12_holderOf 25 = .ok (.iload_n 2, 1) := by decide +kernel
theorem dX12_holderOf_26 : decode cX12_holderOf 26 = .ok (.ireturn, 1) := by decide +kernel
theorem dX12_holderOf_27 : decode cX12_holderOf 27 = .ok (.iinc 2 1, 3) := by decide +kernel
theorem dX12_holderOf_30 : decode cX12_holderOf 30 = .ok (.goto (-28), 3) := by decide +kernel
theorem dX12_holderOf_33 : decode cX12_holderOf 33 = .ok (.bipush (-2), 2) := by decide +kernel
theorem dX12_holderOf_35 : decode cX12_holderOf 35 = .ok (.ireturn, 1) := by decide +kernel
theorem b_X12_holderOf (mm : MM) (Q : Value → MM → Prop) (a1 : Int32) (h : G e_X12_holderOf 2 [(0, .ref 156), (1, .int a1), (2, .int (0 : Int32))] [] mm Q) : Runs e_X12_holderOf [.ref 156, .int a1] mm Q := by
  refine runs_of_G (L := [(0, .ref 156), (1, .int a1)]) pl_X12 (Nat.le_of_ble_eq_true rfl) rfl ?_
  refine g_iconst (pc := 0) (v := (0 : Int32)) dX12_holderOf_0 (by decide) ?_
  refine g_istore_n (pc := 1) (L' := [(0, .ref 156), (1, .int a1), (2, .int (0 : Int32))]) dX12_holderOf_1 (Nat.le_of_ble_eq_true rfl) rfl ?_
  exact h
theorem b_X12_holderOf_2 (mm : MM) (Q : Value → MM → Prop) (l1 : Int32) (l2 : Int32) (h : ((mm.1 162 0) ≤ l2 → (Q (.int (-2 : Int32)) mm)) ∧ (¬ (mm.1 162 0) ≤ l2 → (vp_in ((30 : Int32) + l2) 1260 ∧ ((¬ (mm.1 163 ((30 : Int32) + l2).toNatClampNeg) = l1 → (G e_X12_holderOf 2 [(0, .ref 156), (1, .int l1), (2, .int (l2 + (1 : Int32)))] [] mm Q)) ∧ ((mm.1 163 ((30 : Int32) + l2).toNatClampNeg) = l1 → (Q (.int l2) mm)))))) : G e_X12_holderOf 2 [(0, .ref 156), (1, .int l1), (2, .int l2)] [] mm Q := by
  refine g_iload_n (pc := 2) (x := l2) dX12_holderOf_2 rfl ?_
  refine g_aload_n (pc := 3) (x := 156) dX12_holderOf_3 rfl ?_
  refine g_getR (pc := 4) (dd := 6) dX12_holderOf_4 fo_X12_30 sh_156 rfl ?_
  refine g_iconst (pc := 7) (v := (0 : Int32)) dX12_holderOf_7 (by decide) ?_
  refine g_iaload (pc := 8) dX12_holderOf_8 sh_162 (vp_in_nI (n := 0) (N := 420) (by decide) (by decide)) ?_
  refine g_icmp_ge (pc := 9) (tgt := 33) dX12_holderOf_9 (by decide) (fun c9 => ?_) (fun c9 => ?_)
  · have h := h.1 c9
    refine g_bipush (pc := 33) (v := (-2 : Int32)) dX12_holderOf_33 (by decide) ?_
    exact g_iret (pc := 35) dX12_holderOf_35 rfl rfl rfl h
  · have h := h.2 c9
    refine g_aload_n (pc := 12) (x := 156) dX12_holderOf_12 rfl ?_
    refine g_getR (pc := 13) (dd := 7) dX12_holderOf_13 fo_X12_33 sh_156 rfl ?_
    refine g_bipush (pc := 16) (v := (30 : Int32)) dX12_holderOf_16 (by decide) ?_
    refine g_iload_n (pc := 18) (x := l2) dX12_holderOf_18 rfl ?_
    refine g_iadd (pc := 19) dX12_holderOf_19 ?_
    refine g_iaload (pc := 20) dX12_holderOf_20 sh_163 h.1 ?_
    have h := h.2
    refine g_iload_n (pc := 21) (x := l1) dX12_holderOf_21 rfl ?_
    refine g_icmp_ne (pc := 22) (tgt := 27) dX12_holderOf_22 (by decide) (fun c22 => ?_) (fun c22 => ?_)
    · have h := h.1 c22
      refine g_iinc (pc := 27) (x := l2) (v := (l2 + (1 : Int32))) (L' := [(0, .ref 156), (1, .int l1), (2, .int (l2 + (1 : Int32)))]) dX12_holderOf_27 rfl rfl (Nat.le_of_ble_eq_true rfl) rfl ?_
      refine g_goto (pc := 30) (tgt := 2) dX12_holderOf_30 (by decide) ?_
      exact h
    · have h := h.2 c22
      refine g_iload_n (pc := 25) (x := l2) dX12_holderOf_25 rfl ?_
      exact g_iret (pc := 26) dX12_holderOf_26 rfl rfl rfl h
theorem dX12_gives_0 : decode cX12_gives 0 = .ok (.aload_n 0, 1) := by decide +kernel
theorem dX12_gives_1 : decode cX12_gives 1 = .ok (.iload_n 2, 1) := by decide +kernel
theorem dX12_gives_2 : decode cX12_gives 2 = .ok (.invokevirtual 386, 3) := by decide +kernel
theorem dX12_gives_5 : decode cX12_gives 5 = .ok (.istore_n 3, 1) := by decide +kernel
theorem dX12_gives_6 : decode cX12_gives 6 = .ok (.iload_n 3, 1) := by decide +kernel
theorem dX12_gives_7 : decode cX12_gives 7 = .ok (.ifCond .lt 14, 3) := by decide +kernel
theorem dX12_gives_10 : decode cX12_gives 10 = .ok (.aload_n 0, 1) := by decide +kernel
theorem dX12_gives_11 : decode cX12_gives 11 = .ok (.getfield 33, 3) := by decide +kernel
theorem dX12_gives_14 : decode cX12_gives 14 = .ok (.bipush 30, 2) := by decide +kernel
theorem dX12_gives_16 : decode cX12_gives 16 = .ok (.iload_n 3, 1) := by decide +kernel
theorem dX12_gives_17 : decode cX12_gives 17 = .ok (.iadd, 1) := by decide +kernel
theorem dX12_gives_18 : decode cX12_gives 18 = .ok (.bipush (-2), 2) := by decide +kernel
theorem dX12_gives_20 : decode cX12_gives 20 = .ok (.iastore, 1) := by decide +kernel
theorem dX12_gives_21 : decode cX12_gives 21 = .ok (.aload_n 0, 1) := by decide +kernel
theorem dX12_gives_22 : decode cX12_gives 22 = .ok (.getfield 33, 3) := by decide +kernel
theorem dX12_gives_25 : decode cX12_gives 25 = .ok (.bipush 30, 2) := by decide +kernel
theorem dX12_gives_27 : decode cX12_gives 27 = .ok (.iload_n 1, 1) := by decide +kernel
theorem dX12_gives_28 : decode cX12_gives 28 = .ok (.iadd, 1) := by decide +kernel
theorem dX12_gives_29 : decode cX12_gives 29 = .ok (.iload_n 2, 1) := by decide +kernel
theorem dX12_gives_30 : decode cX12_gives 30 = .ok (.iastore, 1) := by decide +kernel
theorem dX12_gives_31 : decode cX12_gives 31 = .ok (.return_, 1) := by decide +kernel
theorem b_X12_gives (mm : MM) (Q : Value → MM → Prop) (a1 : Int32) (a2 : Int32) (h : ∃ Pm1 : Value → MM → Prop, Runs e_X12_holderOf [.ref 156, .int a2] mm Pm1 ∧ ∀ (r1 : Int32) (m1 : MM), Pm1 (.int r1) m1 → ((r1 < 0 → (vp_in ((30 : Int32) + a1) 1260 ∧ (Q .null (wI m1 163 (((30 : Int32) + a1).toNatClampNeg) a2)))) ∧ (¬ r1 < 0 → (vp_in ((30 : Int32) + r1) 1260 ∧ (vp_in ((30 : Int32) + a1) 1260 ∧ (Q .null (wI (wI m1 163 (((30 : Int32) + r1).toNatClampNeg) (-2 : Int32)) 163 (((30 : Int32) + a1).toNatClampNeg) a2))))))) : Runs e_X12_gives [.ref 156, .int a1, .int a2] mm Q := by
  refine runs_of_G (L := [(0, .ref 156), (1, .int a1), (2, .int a2)]) pl_X12 (Nat.le_of_ble_eq_true rfl) rfl ?_
  refine g_aload_n (pc := 0) (x := 156) dX12_gives_0 rfl ?_
  refine g_iload_n (pc := 1) (x := a2) dX12_gives_1 rfl ?_
  obtain ⟨Pm1, hRm1, h⟩ := h
  refine g_callV (pc := 2) (as := [.int a2]) dX12_gives_2 cw_X12_386 (by decide) rfl rfl sh_156 (Nat.le_of_ble_eq_true rfl) hRm1 ?_
  intro r_ m1 hz_ hp_
  obtain ⟨r1, rfl⟩ := hz_
  have h := h r1 m1 hp_
  refine g_istore_n (pc := 5) (L' := [(0, .ref 156), (1, .int a1), (2, .int a2), (3, .int r1)]) dX12_gives_5 (Nat.le_of_ble_eq_true rfl) rfl ?_
  refine g_iload_n (pc := 6) (x := r1) dX12_gives_6 rfl ?_
  refine g_if_lt (pc := 7) (tgt := 21) dX12_gives_7 (by decide) (fun c7 => ?_) (fun c7 => ?_)
  · have h := h.1 c7
    refine g_aload_n (pc := 21) (x := 156) dX12_gives_21 rfl ?_
    refine g_getR (pc := 22) (dd := 7) dX12_gives_22 fo_X12_33 sh_156 rfl ?_
    refine g_bipush (pc := 25) (v := (30 : Int32)) dX12_gives_25 (by decide) ?_
    refine g_iload_n (pc := 27) (x := a1) dX12_gives_27 rfl ?_
    refine g_iadd (pc := 28) dX12_gives_28 ?_
    refine g_iload_n (pc := 29) (x := a2) dX12_gives_29 rfl ?_
    refine g_iastore (pc := 30) dX12_gives_30 sh_163 h.1 ?_
    have h := h.2
    exact g_vret (pc := 31) dX12_gives_31 rfl rfl h
  · have h := h.2 c7
    refine g_aload_n (pc := 10) (x := 156) dX12_gives_10 rfl ?_
    refine g_getR (pc := 11) (dd := 7) dX12_gives_11 fo_X12_33 sh_156 rfl ?_
    refine g_bipush (pc := 14) (v := (30 : Int32)) dX12_gives_14 (by decide) ?_
    refine g_iload_n (pc := 16) (x := r1) dX12_gives_16 rfl ?_
    refine g_iadd (pc := 17) dX12_gives_17 ?_
    refine g_bipush (pc := 18) (v := (-2 : Int32)) dX12_gives_18 (by decide) ?_
    refine g_iastore (pc := 20) dX12_gives_20 sh_163 h.1 ?_
    have h := h.2
    refine g_aload_n (pc := 21) (x := 156) dX12_gives_21 rfl ?_
    refine g_getR (pc := 22) (dd := 7) dX12_gives_22 fo_X12_33 sh_156 rfl ?_
    refine g_bipush (pc := 25) (v := (30 : Int32)) dX12_gives_25 (by decide) ?_
    refine g_iload_n (pc := 27) (x := a1) dX12_gives_27 rfl ?_
    refine g_iadd (pc := 28) dX12_gives_28 ?_
    refine g_iload_n (pc := 29) (x := a2) dX12_gives_29 rfl ?_
    refine g_iastore (pc := 30) dX12_gives_30 sh_163 h.1 ?_
    have h := h.2
    exact g_vret (pc := 31) dX12_gives_31 rfl rfl h
theorem dX12_give_0 : decode cX12_give 0 = .ok (.aload_n 0, 1) := by decide +kernel
theorem dX12_give_1 : decode cX12_give 1 = .ok (.iload_n 1, 1) := by decide +kernel
theorem dX12_give_2 : decode cX12_give 2 = .ok (.invokevirtual 377, 3) := by decide +kernel
theorem dX12_give_5 : decode cX12_give 5 = .ok (.ifCond .eq 16, 3) := by decide +kernel
theorem dX12_give_8 : decode cX12_give 8 = .ok (.iload_n 2, 1) := by decide +kernel
theorem dX12_give_9 : decode cX12_give 9 = .ok (.iconst (-1), 1) := by decide +kernel
theorem dX12_give_10 : decode cX12_give 10 = .ok (.if_icmp .eq 13, 3) := by decide +kernel
theorem dX12_give_13 : decode cX12_give 13 = .ok (.aload_n 0, 1) := by decide +kernel
theorem dX12_give_14 : decode cX12_give 14 = .ok (.iload_n 2, 1) := by decide +kernel
theorem dX12_give_15 : decode cX12_give 15 = .ok (.invokevirtual 389, 3) := by decide +kernel
theorem dX12_give_18 : decode cX12_give 18 = .ok (.ifCond .ne 5, 3) := by decide +kernel
theorem dX12_give_21 : decode cX12_give 21 = .ok (.iconst 0, 1) := by decide +kernel
theorem dX12_give_22 : decode cX12_give 22 = .ok (.ireturn, 1) := by decide +kernel
theorem dX12_give_23 : decode cX12_give 23 = .ok (.iload_n 2, 1) := by decide +kernel
theorem dX12_give_24 : decode cX12_give 24 = .ok (.ifCond .ge 17, 3) := by decide +kernel
theorem dX12_give_27 : decode cX12_give 27 = .ok (.aload_n 0, 1) := by decide +kernel
theorem dX12_give_28 : decode cX12_give 28 = .ok (.getfield 33, 3) := by decide +kernel
theorem dX12_give_31 : decode cX12_give 31 = .ok (.bipush 30, 2) := by decide +kernel
theorem dX12_give_33 : decode cX12_give 33 = .ok (.iload_n 1, 1) := by decide +kernel
theorem dX12_give_34 : decode cX12_give 34 = .ok (.iadd, 1) := by decide +kernel
theorem dX12_give_35 : decode cX12_give 35 = .ok (.bipush (-2), 2) := by decide +kernel
theorem dX12_give_37 : decode cX12_give 37 = .ok (.iastore, 1) := by decide +kernel
theorem dX12_give_38 : decode cX12_give 38 = .ok (.goto 9, 3) := by decide +kernel
theorem dX12_give_41 : decode cX12_give 41 = .ok (.aload_n 0, 1) := by decide +kernel
theorem dX12_give_42 : decode cX12_give 42 = .ok (.iload_n 1, 1) := by decide +kernel
theorem dX12_give_43 : decode cX12_give 43 = .ok (.iload_n 2, 1) := by decide +kernel
theorem dX12_give_44 : decode cX12_give 44 = .ok (.invokevirtual 277, 3) := by decide +kernel
theorem dX12_give_47 : decode cX12_give 47 = .ok (.iconst 1, 1) := by decide +kernel
theorem dX12_give_48 : decode cX12_give 48 = .ok (.ireturn, 1) := by decide +kernel
theorem b_X12_give (mm : MM) (Q : Value → MM → Prop) (a1 : Int32) (a2 : Int32) (h : (p_X12_isHouse mm a1 → ((a2 = (-1 : Int32) → ((0 ≤ a2 → (∃ Pm1 : Value → MM → Prop, Runs e_X12_gives [.ref 156, .int a1, .int a2] mm Pm1 ∧ ∀ m1, Pm1 .null m1 → (Q (.int (1 : Int32)) m1))) ∧ (¬ 0 ≤ a2 → (vp_in ((30 : Int32) + a1) 1260 ∧ (Q (.int (1 : Int32)) (wI mm 163 (((30 : Int32) + a1).toNatClampNeg) (-2 : Int32))))))) ∧ (¬ a2 = (-1 : Int32) → ((p_X12_isOffice mm a2 → ((0 ≤ a2 → (∃ Pm1 : Value → MM → Prop, Runs e_X12_gives [.ref 156, .int a1, .int a2] mm Pm1 ∧ ∀ m1, Pm1 .null m1 → (Q (.int (1 : Int32)) m1))) ∧ (¬ 0 ≤ a2 → (vp_in ((30 : Int32) + a1) 1260 ∧ (Q (.int (1 : Int32)) (wI mm 163 (((30 : Int32) + a1).toNatClampNeg) (-2 : Int32))))))) ∧ (¬ p_X12_isOffice mm a2 → (Q (.int (0 : Int32)) mm)))))) ∧ (¬ p_X12_isHouse mm a1 → (Q (.int (0 : Int32)) mm))) : Runs e_X12_give [.ref 156, .int a1, .int a2] mm Q := by
  refine runs_of_G (L := [(0, .ref 156), (1, .int a1), (2, .int a2)]) pl_X12 (Nat.le_of_ble_eq_true rfl) rfl ?_
  refine g_aload_n (pc := 0) (x := 156) dX12_give_0 rfl ?_
  refine g_iload_n (pc := 1) (x := a1) dX12_give_1 rfl ?_
  refine g_callV (pc := 2) (as := [.int a1]) dX12_give_2 cw_X12_377 (by decide) rfl rfl sh_156 (Nat.le_of_ble_eq_true rfl) (rv_X12_isHouse mm a1) ?_
  rintro r_ m_ hz_ ⟨⟨p_, rfl⟩ | ⟨p_, rfl⟩, rfl⟩
  · have h := h.1 p_
    refine g_if_eq (pc := 5) (tgt := 21) dX12_give_5 (by decide) (fun c5 => absurd c5 (by decide)) (fun _ => ?_)
    refine g_iload_n (pc := 8) (x := a2) dX12_give_8 rfl ?_
    refine g_iconst (pc := 9) (v := (-1 : Int32)) dX12_give_9 (by decide) ?_
    refine g_icmp_eq (pc := 10) (tgt := 23) dX12_give_10 (by decide) (fun c10 => ?_) (fun c10 => ?_)
    · have h := h.1 c10
      refine g_iload_n (pc := 23) (x := a2) dX12_give_23 rfl ?_
      refine g_if_ge (pc := 24) (tgt := 41) dX12_give_24 (by decide) (fun c24 => ?_) (fun c24 => ?_)
      · have h := h.1 c24
        refine g_aload_n (pc := 41) (x := 156) dX12_give_41 rfl ?_
        refine g_iload_n (pc := 42) (x := a1) dX12_give_42 rfl ?_
        refine g_iload_n (pc := 43) (x := a2) dX12_give_43 rfl ?_
        obtain ⟨Pm1, hRm1, h⟩ := h
        refine g_callV (pc := 44) (as := [.int a1, .int a2]) dX12_give_44 cw_X12_277 (by decide) rfl rfl sh_156 (Nat.le_of_ble_eq_true rfl) hRm1 ?_
        intro r_ m1 hz_ hp_
        obtain rfl := hz_
        have h := h m1 hp_
        refine g_iconst (pc := 47) (v := (1 : Int32)) dX12_give_47 (by decide) ?_
        exact g_iret (pc := 48) dX12_give_48 rfl rfl (nar_B isB1) h
      · have h := h.2 c24
        refine g_aload_n (pc := 27) (x := 156) dX12_give_27 rfl ?_
        refine g_getR (pc := 28) (dd := 7) dX12_give_28 fo_X12_33 sh_156 rfl ?_
        refine g_bipush (pc := 31) (v := (30 : Int32)) dX12_give_31 (by decide) ?_
        refine g_iload_n (pc := 33) (x := a1) dX12_give_33 rfl ?_
        refine g_iadd (pc := 34) dX12_give_34 ?_
        refine g_bipush (pc := 35) (v := (-2 : Int32)) dX12_give_35 (by decide) ?_
        refine g_iastore (pc := 37) dX12_give_37 sh_163 h.1 ?_
        have h := h.2
        refine g_goto (pc := 38) (tgt := 47) dX12_give_38 (by decide) ?_
        refine g_iconst (pc := 47) (v := (1 : Int32)) dX12_give_47 (by decide) ?_
        exact g_iret (pc := 48) dX12_give_48 rfl rfl (nar_B isB1) h
    · have h := h.2 c10
      refine g_aload_n (pc := 13) (x := 156) dX12_give_13 rfl ?_
      refine g_iload_n (pc := 14) (x := a2) dX12_give_14 rfl ?_
      refine g_callV (pc := 15) (as := [.int a2]) dX12_give_15 cw_X12_389 (by decide) rfl rfl sh_156 (Nat.le_of_ble_eq_true rfl) (rv_X12_isOffice mm a2) ?_
      rintro r_ m_ hz_ ⟨⟨p_, rfl⟩ | ⟨p_, rfl⟩, rfl⟩
      · have h := h.1 p_
        refine g_if_ne (pc := 18) (tgt := 23) dX12_give_18 (by decide) (fun _ => ?_) (fun c18 => absurd c18 (by decide))
        refine g_iload_n (pc := 23) (x := a2) dX12_give_23 rfl ?_
        refine g_if_ge (pc := 24) (tgt := 41) dX12_give_24 (by decide) (fun c24 => ?_) (fun c24 => ?_)
        · have h := h.1 c24
          refine g_aload_n (pc := 41) (x := 156) dX12_give_41 rfl ?_
          refine g_iload_n (pc := 42) (x := a1) dX12_give_42 rfl ?_
          refine g_iload_n (pc := 43) (x := a2) dX12_give_43 rfl ?_
          obtain ⟨Pm1, hRm1, h⟩ := h
          refine g_callV (pc := 44) (as := [.int a1, .int a2]) dX12_give_44 cw_X12_277 (by decide) rfl rfl sh_156 (Nat.le_of_ble_eq_true rfl) hRm1 ?_
          intro r_ m1 hz_ hp_
          obtain rfl := hz_
          have h := h m1 hp_
          refine g_iconst (pc := 47) (v := (1 : Int32)) dX12_give_47 (by decide) ?_
          exact g_iret (pc := 48) dX12_give_48 rfl rfl (nar_B isB1) h
        · have h := h.2 c24
          refine g_aload_n (pc := 27) (x := 156) dX12_give_27 rfl ?_
          refine g_getR (pc := 28) (dd := 7) dX12_give_28 fo_X12_33 sh_156 rfl ?_
          refine g_bipush (pc := 31) (v := (30 : Int32)) dX12_give_31 (by decide) ?_
          refine g_iload_n (pc := 33) (x := a1) dX12_give_33 rfl ?_
          refine g_iadd (pc := 34) dX12_give_34 ?_
          refine g_bipush (pc := 35) (v := (-2 : Int32)) dX12_give_35 (by decide) ?_
          refine g_iastore (pc := 37) dX12_give_37 sh_163 h.1 ?_
          have h := h.2
          refine g_goto (pc := 38) (tgt := 47) dX12_give_38 (by decide) ?_
          refine g_iconst (pc := 47) (v := (1 : Int32)) dX12_give_47 (by decide) ?_
          exact g_iret (pc := 48) dX12_give_48 rfl rfl (nar_B isB1) h
      · have h := h.2 p_
        refine g_if_ne (pc := 18) (tgt := 23) dX12_give_18 (by decide) (fun c18 => absurd c18 (by decide)) (fun _ => ?_)
        refine g_iconst (pc := 21) (v := (0 : Int32)) dX12_give_21 (by decide) ?_
        exact g_iret (pc := 22) dX12_give_22 rfl rfl (nar_B isB0) h
  · have h := h.2 p_
    refine g_if_eq (pc := 5) (tgt := 21) dX12_give_5 (by decide) (fun _ => ?_) (fun c5 => absurd c5 (by decide))
    refine g_iconst (pc := 21) (v := (0 : Int32)) dX12_give_21 (by decide) ?_
    exact g_iret (pc := 22) dX12_give_22 rfl rfl (nar_B isB0) h
theorem dX12_holder_0 : decode cX12_holder 0 = .ok (.aload_n 0, 1) := by decide +kernel
theorem dX12_holder_1 : decode cX12_holder 1 = .ok (.iload_n 1, 1) := by decide +kernel
theorem dX12_holder_2 : decode cX12_holder 2 = .ok (.invokevirtual 389, 3) := by decide +kernel
theorem dX12_holder_5 : decode cX12_holder 5 = .ok (.ifCond .eq 11, 3) := by decide +kernel
theorem dX12_holder_8 : decode cX12_holder 8 = .ok (.aload_n 0, 1) := by decide +kernel
theorem dX12_holder_9 : decode cX12_holder 9 = .ok (.iload_n 1, 1) := by decide +kernel
theorem dX12_holder_10 : decode cX12_holder 10 = .ok (.invokevirtual 386, 3) := by decide +kernel
theorem dX12_holder_13 : decode cX12_holder 13 = .ok (.goto 4, 3) := by decide +kernel
theorem dX12_holder_16 : decode cX12_holder 16 = .ok (.iconst (-1), 1) := by decide +kernel
theorem dX12_holder_17 : decode cX12_holder 17 = .ok (.ireturn, 1) := by decide +kernel
theorem b_X12_holder (mm : MM) (Q : Value → MM → Prop) (a1 : Int32) (h : (p_X12_isOffice mm a1 → (∃ Pm1 : Value → MM → Prop, Runs e_X12_holderOf [.ref 156, .int a1] mm Pm1 ∧ ∀ (r1 : Int32) (m1 : MM), Pm1 (.int r1) m1 → (Q (.int r1) m1))) ∧ (¬ p_X12_isOffice mm a1 → (Q (.int (-1 : Int32)) mm))) : Runs e_X12_holder [.ref 156, .int a1] mm Q := by
  refine runs_of_G (L := [(0, .ref 156), (1, .int a1)]) pl_X12 (Nat.le_of_ble_eq_true rfl) rfl ?_
  refine g_aload_n (pc := 0) (x := 156) dX12_holder_0 rfl ?_
  refine g_iload_n (pc := 1) (x := a1) dX12_holder_1 rfl ?_
  refine g_callV (pc := 2) (as := [.int a1]) dX12_holder_2 cw_X12_389 (by decide) rfl rfl sh_156 (Nat.le_of_ble_eq_true rfl) (rv_X12_isOffice mm a1) ?_
  rintro r_ m_ hz_ ⟨⟨p_, rfl⟩ | ⟨p_, rfl⟩, rfl⟩
  · have h := h.1 p_
    refine g_if_eq (pc := 5) (tgt := 16) dX12_holder_5 (by decide) (fun c5 => absurd c5 (by decide)) (fun _ => ?_)
    refine g_aload_n (pc := 8) (x := 156) dX12_holder_8 rfl ?_
    refine g_iload_n (pc := 9) (x := a1) dX12_holder_9 rfl ?_
    obtain ⟨Pm1, hRm1, h⟩ := h
    refine g_callV (pc := 10) (as := [.int a1]) dX12_holder_10 cw_X12_386 (by decide) rfl rfl sh_156 (Nat.le_of_ble_eq_true rfl) hRm1 ?_
    intro r_ m1 hz_ hp_
    obtain ⟨r1, rfl⟩ := hz_
    have h := h r1 m1 hp_
    refine g_goto (pc := 13) (tgt := 17) dX12_holder_13 (by decide) ?_
    exact g_iret (pc := 17) dX12_holder_17 rfl rfl rfl h
  · have h := h.2 p_
    refine g_if_eq (pc := 5) (tgt := 16) dX12_holder_5 (by decide) (fun _ => ?_) (fun c5 => absurd c5 (by decide))
    refine g_iconst (pc := 16) (v := (-1 : Int32)) dX12_holder_16 (by decide) ?_
    exact g_iret (pc := 17) dX12_holder_17 rfl rfl rfl h
theorem dX12_months_0 : decode cX12_months 0 = .ok (.iload_n 1, 1) := by decide +kernel
theorem dX12_months_1 : decode cX12_months 1 = .ok (.iconst 0, 1) := by decide +kernel
theorem dX12_months_2 : decode cX12_months 2 = .ok (.sipush 240, 3) := by decide +kernel
theorem dX12_months_5 : decode cX12_months 5 = .ok (.invokestatic 392, 3) := by decide +kernel
theorem dX12_months_8 : decode cX12_months 8 = .ok (.ifCond .ne 5, 3) := by decide +kernel
theorem dX12_months_11 : decode cX12_months 11 = .ok (.iconst (-1), 1) := by decide +kernel
theorem dX12_months_12 : decode cX12_months 12 = .ok (.ireturn, 1) := by decide +kernel
theorem dX12_months_13 : decode cX12_months 13 = .ok (.aload_n 0, 1) := by decide +kernel
theorem dX12_months_14 : decode cX12_months 14 = .ok (.getfield 33, 3) := by decide +kernel
theorem dX12_months_17 : decode cX12_months 17 = .ok (.iconst 0, 1) := by decide +kernel
theorem dX12_months_18 : decode cX12_months 18 = .ok (.aload_n 0, 1) := by decide +kernel
theorem dX12_months_19 : decode cX12_months 19 = .ok (.getfield 33, 3) := by decide +kernel
theorem dX12_months_22 : decode cX12_months 22 = .ok (.iconst 0, 1) := by decide +kernel
theorem dX12_months_23 : decode cX12_months 23 = .ok (.iaload, 1) := by decide +kernel
theorem dX12_months_24 : decode cX12_months 24 = .ok (.iload_n 1, 1) := by decide +kernel
theorem dX12_months_25 : decode cX12_months 25 = .ok (.iadd, 1) := by decide +kernel
theorem dX12_months_26 : decode cX12_months 26 = .ok (.bipush 12, 2) := by decide +kernel
theorem dX12_months_28 : decode cX12_months 28 = .ok (.irem, 1) := by decide +kernel
theorem dX12_months_29 : decode cX12_months 29 = .ok (.iastore, 1) := by decide +kernel
theorem dX12_months_30 : decode cX12_months 30 = .ok (.aload_n 0, 1) := by decide +kernel
theorem dX12_months_31 : decode cX12_months 31 = .ok (.getfield 33, 3) := by decide +kernel
theorem dX12_months_34 : decode cX12_months 34 = .ok (.iconst 0, 1) := by decide +kernel
theorem dX12_months_35 : decode cX12_months 35 = .ok (.iaload, 1) := by decide +kernel
theorem dX12_months_36 : decode cX12_months 36 = .ok (.ireturn, 1) := by decide +kernel
theorem b_X12_months (mm : MM) (Q : Value → MM → Prop) (a1 : Int32) (h : (p_X12_isIn mm a1 (0 : Int32) (240 : Int32) → (Q (.int ((wI mm 163 0 (((mm.1 163 0) + a1) - ((mm.1 163 0) + a1) / (12 : Int32) * (12 : Int32))).1 163 0)) (wI mm 163 0 (((mm.1 163 0) + a1) - ((mm.1 163 0) + a1) / (12 : Int32) * (12 : Int32))))) ∧ (¬ p_X12_isIn mm a1 (0 : Int32) (240 : Int32) → (Q (.int (-1 : Int32)) mm))) : Runs e_X12_months [.ref 156, .int a1] mm Q := by
  refine runs_of_G (L := [(0, .ref 156), (1, .int a1)]) pl_X12 (Nat.le_of_ble_eq_true rfl) rfl ?_
  refine g_iload_n (pc := 0) (x := a1) dX12_months_0 rfl ?_
  refine g_iconst (pc := 1) (v := (0 : Int32)) dX12_months_1 (by decide) ?_
  refine g_sipush (pc := 2) (v := (240 : Int32)) dX12_months_2 (by decide) ?_
  refine g_callS (pc := 5) (as := [.int a1, .int (0 : Int32), .int (240 : Int32)]) dX12_months_5 cw_X12_392 (by decide) rfl rfl (Nat.le_of_ble_eq_true rfl) (rv_X12_isIn mm a1 (0 : Int32) (240 : Int32)) ?_
  rintro r_ m_ hz_ ⟨⟨p_, rfl⟩ | ⟨p_, rfl⟩, rfl⟩
  · have h := h.1 p_
    refine g_if_ne (pc := 8) (tgt := 13) dX12_months_8 (by decide) (fun _ => ?_) (fun c8 => absurd c8 (by decide))
    refine g_aload_n (pc := 13) (x := 156) dX12_months_13 rfl ?_
    refine g_getR (pc := 14) (dd := 7) dX12_months_14 fo_X12_33 sh_156 rfl ?_
    refine g_iconst (pc := 17) (v := (0 : Int32)) dX12_months_17 (by decide) ?_
    refine g_aload_n (pc := 18) (x := 156) dX12_months_18 rfl ?_
    refine g_getR (pc := 19) (dd := 7) dX12_months_19 fo_X12_33 sh_156 rfl ?_
    refine g_iconst (pc := 22) (v := (0 : Int32)) dX12_months_22 (by decide) ?_
    refine g_iaload (pc := 23) dX12_months_23 sh_163 (vp_in_nI (n := 0) (N := 1260) (by decide) (by decide)) ?_
    refine g_iload_n (pc := 24) (x := a1) dX12_months_24 rfl ?_
    refine g_iadd (pc := 25) dX12_months_25 ?_
    refine g_bipush (pc := 26) (v := (12 : Int32)) dX12_months_26 (by decide) ?_
    refine g_irem (pc := 28) dX12_months_28 (by decide) ?_
    refine g_iastore (pc := 29) dX12_months_29 sh_163 (vp_in_nI (n := 0) (N := 1260) (by decide) (by decide)) ?_
    refine g_aload_n (pc := 30) (x := 156) dX12_months_30 rfl ?_
    refine g_getR (pc := 31) (dd := 7) dX12_months_31 fo_X12_33 sh_156 rfl ?_
    refine g_iconst (pc := 34) (v := (0 : Int32)) dX12_months_34 (by decide) ?_
    refine g_iaload (pc := 35) dX12_months_35 sh_163 (vp_in_nI (n := 0) (N := 1260) (by decide) (by decide)) ?_
    exact g_iret (pc := 36) dX12_months_36 rfl rfl rfl h
  · have h := h.2 p_
    refine g_if_ne (pc := 8) (tgt := 13) dX12_months_8 (by decide) (fun c8 => absurd c8 (by decide)) (fun _ => ?_)
    refine g_iconst (pc := 11) (v := (-1 : Int32)) dX12_months_11 (by decide) ?_
    exact g_iret (pc := 12) dX12_months_12 rfl rfl rfl h
theorem dX12_tideOf_0 : decode cX12_tideOf 0 = .ok (.aload_n 0, 1) := by decide +kernel
theorem dX12_tideOf_1 : decode cX12_tideOf 1 = .ok (.invokevirtual 365, 3) := by decide +kernel
theorem dX12_tideOf_4 : decode cX12_tideOf 4 = .ok (.aload_n 0, 1) := by decide +kernel
theorem dX12_tideOf_5 : decode cX12_tideOf 5 = .ok (.getfield 82, 3) := by decide +kernel
theorem dX12_tideOf_8 : decode cX12_tideOf 8 = .ok (.iconst 4, 1) := by decide +kernel
theorem dX12_tideOf_9 : decode cX12_tideOf 9 = .ok (.iload_n 1, 1) := by decide +kernel
theorem dX12_tideOf_10 : decode cX12_tideOf 10 = .ok (.iastore, 1) := by decide +kernel
theorem dX12_tideOf_11 : decode cX12_tideOf 11 = .ok (.aload_n 0, 1) := by decide +kernel
theorem dX12_tideOf_12 : decode cX12_tideOf 12 = .ok (.getfield 82, 3) := by decide +kernel
theorem dX12_tideOf_15 : decode cX12_tideOf 15 = .ok (.iconst 5, 1) := by decide +kernel
theorem dX12_tideOf_16 : decode cX12_tideOf 16 = .ok (.aload_n 0, 1) := by decide +kernel
theorem dX12_tideOf_17 : decode cX12_tideOf 17 = .ok (.getfield 33, 3) := by decide +kernel
theorem dX12_tideOf_20 : decode cX12_tideOf 20 = .ok (.iconst 0, 1) := by decide +kernel
theorem dX12_tideOf_21 : decode cX12_tideOf 21 = .ok (.iaload, 1) := by decide +kernel
theorem dX12_tideOf_22 : decode cX12_tideOf 22 = .ok (.iastore, 1) := by decide +kernel
theorem dX12_tideOf_23 : decode cX12_tideOf 23 = .ok (.aload_n 0, 1) := by decide +kernel
theorem dX12_tideOf_24 : decode cX12_tideOf 24 = .ok (.iconst 0, 1) := by decide +kernel
theorem dX12_tideOf_25 : decode cX12_tideOf 25 = .ok (.iconst 0, 1) := by decide +kernel
theorem dX12_tideOf_26 : decode cX12_tideOf 26 = .ok (.invokevirtual 374, 3) := by decide +kernel
theorem dX12_tideOf_29 : decode cX12_tideOf 29 = .ok (.ireturn, 1) := by decide +kernel
theorem b_X12_tideOf (mm : MM) (Q : Value → MM → Prop) (a1 : Int32) (h : ∃ Pm1 : Value → MM → Prop, Runs e_X12_askNone [.ref 156] mm Pm1 ∧ ∀ m1, Pm1 .null m1 → (∃ Pm2 : Value → MM → Prop, Runs e_X12_says [.ref 156, .int (0 : Int32), .int (0 : Int32)] (wI (wI m1 179 4 a1) 179 5 ((wI m1 179 4 a1).1 163 0)) Pm2 ∧ ∀ (r2 : Int32) (m2 : MM), Pm2 (.int r2) m2 → (Q (.int r2) m2))) : Runs e_X12_tideOf [.ref 156, .int a1] mm Q := by
  refine runs_of_G (L := [(0, .ref 156), (1, .int a1)]) pl_X12 (Nat.le_of_ble_eq_true rfl) rfl ?_
  refine g_aload_n (pc := 0) (x := 156) dX12_tideOf_0 rfl ?_
  obtain ⟨Pm1, hRm1, h⟩ := h
  refine g_callV (pc := 1) (as := []) dX12_tideOf_1 cw_X12_365 (by decide) rfl rfl sh_156 (Nat.le_of_ble_eq_true rfl) hRm1 ?_
  intro r_ m1 hz_ hp_
  obtain rfl := hz_
  have h := h m1 hp_
  refine g_aload_n (pc := 4) (x := 156) dX12_tideOf_4 rfl ?_
  refine g_getR (pc := 5) (dd := 23) dX12_tideOf_5 fo_X12_82 sh_156 rfl ?_
  refine g_iconst (pc := 8) (v := (4 : Int32)) dX12_tideOf_8 (by decide) ?_
  refine g_iload_n (pc := 9) (x := a1) dX12_tideOf_9 rfl ?_
  refine g_iastore (pc := 10) dX12_tideOf_10 sh_179 (vp_in_nI (n := 4) (N := 9) (by decide) (by decide)) ?_
  refine g_aload_n (pc := 11) (x := 156) dX12_tideOf_11 rfl ?_
  refine g_getR (pc := 12) (dd := 23) dX12_tideOf_12 fo_X12_82 sh_156 rfl ?_
  refine g_iconst (pc := 15) (v := (5 : Int32)) dX12_tideOf_15 (by decide) ?_
  refine g_aload_n (pc := 16) (x := 156) dX12_tideOf_16 rfl ?_
  refine g_getR (pc := 17) (dd := 7) dX12_tideOf_17 fo_X12_33 sh_156 rfl ?_
  refine g_iconst (pc := 20) (v := (0 : Int32)) dX12_tideOf_20 (by decide) ?_
  refine g_iaload (pc := 21) dX12_tideOf_21 sh_163 (vp_in_nI (n := 0) (N := 1260) (by decide) (by decide)) ?_
  refine g_iastore (pc := 22) dX12_tideOf_22 sh_179 (vp_in_nI (n := 5) (N := 9) (by decide) (by decide)) ?_
  refine g_aload_n (pc := 23) (x := 156) dX12_tideOf_23 rfl ?_
  refine g_iconst (pc := 24) (v := (0 : Int32)) dX12_tideOf_24 (by decide) ?_
  refine g_iconst (pc := 25) (v := (0 : Int32)) dX12_tideOf_25 (by decide) ?_
  obtain ⟨Pm2, hRm2, h⟩ := h
  refine g_callV (pc := 26) (as := [.int (0 : Int32), .int (0 : Int32)]) dX12_tideOf_26 cw_X12_374 (by decide) rfl rfl sh_156 (Nat.le_of_ble_eq_true rfl) hRm2 ?_
  intro r_ m2 hz_ hp_
  obtain ⟨r2, rfl⟩ := hz_
  have h := h r2 m2 hp_
  exact g_iret (pc := 29) dX12_tideOf_29 rfl rfl rfl h
theorem dX12_isHour_0 : decode cX12_isHour 0 = .ok (.iload_n 0, 1) := by decide +kernel
theorem dX12_isHour_1 : decode cX12_isHour 1 = .ok (.ifCond .lt 13, 3) := by decide +kernel
theorem dX12_isHour_4 : decode cX12_isHour 4 = .ok (.iload_n 0, 1) := by decide +kernel
theorem dX12_isHour_5 : decode cX12_isHour 5 = .ok (.bipush 24, 2) := by decide +kernel
theorem dX12_isHour_7 : decode cX12_isHour 7 = .ok (.if_icmp .ge 7, 3) := by decide +kernel
theorem dX12_isHour_10 : decode cX12_isHour 10 = .ok (.iconst 1, 1) := by decide +kernel
theorem dX12_isHour_11 : decode cX12_isHour 11 = .ok (.goto 4, 3) := by decide +kernel
theorem dX12_isHour_14 : decode cX12_isHour 14 = .ok (.iconst 0, 1) := by decide +kernel
theorem dX12_isHour_15 : decode cX12_isHour 15 = .ok (.ireturn, 1) := by decide +kernel
def p_X12_isHour (mm : MM) (a0 : Int32) : Prop := (¬ a0 < 0 ∧ ¬ (24 : Int32) ≤ a0)
theorem rv_X12_isHour (mm : MM) (a0 : Int32) : Runs e_X12_isHour [.int a0] mm (fun r m_ => ((p_X12_isHour mm a0 ∧ r = .int 1) ∨ (¬ p_X12_isHour mm a0 ∧ r = .int 0)) ∧ mm = m_) := by
  refine runs_of_G (L := [(0, .int a0)]) pl_X12 (Nat.le_of_ble_eq_true rfl) rfl ?_
  refine g_iload_n (pc := 0) (x := a0) dX12_isHour_0 rfl ?_
  refine g_if_lt (pc := 1) (tgt := 14) dX12_isHour_1 (by decide) (fun c1 => ?_) (fun c1 => ?_)
  · have c1_0 : a0 < 0 := c1
    refine g_iconst (pc := 14) (v := (0 : Int32)) dX12_isHour_14 (by decide) ?_
    exact g_iret (pc := 15) dX12_isHour_15 rfl rfl (nar_B isB0) ⟨Or.inr ⟨(show ¬ p_X12_isHour mm a0 from (fun h_ => (h_.1 c1_0))), rfl⟩, rfl⟩
  · have c1_0 : ¬ a0 < 0 := c1
    refine g_iload_n (pc := 4) (x := a0) dX12_isHour_4 rfl ?_
    refine g_bipush (pc := 5) (v := (24 : Int32)) dX12_isHour_5 (by decide) ?_
    refine g_icmp_ge (pc := 7) (tgt := 14) dX12_isHour_7 (by decide) (fun c7 => ?_) (fun c7 => ?_)
    · have c7_1 : (24 : Int32) ≤ a0 := c7
      refine g_iconst (pc := 14) (v := (0 : Int32)) dX12_isHour_14 (by decide) ?_
      exact g_iret (pc := 15) dX12_isHour_15 rfl rfl (nar_B isB0) ⟨Or.inr ⟨(show ¬ p_X12_isHour mm a0 from (fun h_ => (not_not_intro c7_1) h_.2)), rfl⟩, rfl⟩
    · have c7_1 : ¬ (24 : Int32) ≤ a0 := c7
      refine g_iconst (pc := 10) (v := (1 : Int32)) dX12_isHour_10 (by decide) ?_
      refine g_goto (pc := 11) (tgt := 15) dX12_isHour_11 (by decide) ?_
      exact g_iret (pc := 15) dX12_isHour_15 rfl rfl (nar_B isB1) ⟨Or.inl ⟨(show p_X12_isHour mm a0 from ⟨c1_0, c7_1⟩), rfl⟩, rfl⟩
theorem dX12_tide_0 : decode cX12_tide 0 = .ok (.iload_n 1, 1) := by decide +kernel
theorem dX12_tide_1 : decode cX12_tide 1 = .ok (.invokestatic 396, 3) := by decide +kernel
theorem dX12_tide_4 : decode cX12_tide 4 = .ok (.ifCond .eq 11, 3) := by decide +kernel
theorem dX12_tide_7 : decode cX12_tide 7 = .ok (.aload_n 0, 1) := by decide +kernel
theorem dX12_tide_8 : decode cX12_tide 8 = .ok (.iload_n 1, 1) := by decide +kernel
theorem dX12_tide_9 : decode cX12_tide 9 = .ok (.invokevirtual 399, 3) := by decide +kernel
theorem dX12_tide_12 : decode cX12_tide 12 = .ok (.goto 4, 3) := by decide +kernel
theorem dX12_tide_15 : decode cX12_tide 15 = .ok (.iconst (-1), 1) := by decide +kernel
theorem dX12_tide_16 : decode cX12_tide 16 = .ok (.ireturn, 1) := by decide +kernel
theorem b_X12_tide (mm : MM) (Q : Value → MM → Prop) (a1 : Int32) (h : (p_X12_isHour mm a1 → (∃ Pm1 : Value → MM → Prop, Runs e_X12_tideOf [.ref 156, .int a1] mm Pm1 ∧ ∀ (r1 : Int32) (m1 : MM), Pm1 (.int r1) m1 → (Q (.int r1) m1))) ∧ (¬ p_X12_isHour mm a1 → (Q (.int (-1 : Int32)) mm))) : Runs e_X12_tide [.ref 156, .int a1] mm Q := by
  refine runs_of_G (L := [(0, .ref 156), (1, .int a1)]) pl_X12 (Nat.le_of_ble_eq_true rfl) rfl ?_
  refine g_iload_n (pc := 0) (x := a1) dX12_tide_0 rfl ?_
  refine g_callS (pc := 1) (as := [.int a1]) dX12_tide_1 cw_X12_396 (by decide) rfl rfl (Nat.le_of_ble_eq_true rfl) (rv_X12_isHour mm a1) ?_
  rintro r_ m_ hz_ ⟨⟨p_, rfl⟩ | ⟨p_, rfl⟩, rfl⟩
  · have h := h.1 p_
    refine g_if_eq (pc := 4) (tgt := 15) dX12_tide_4 (by decide) (fun c4 => absurd c4 (by decide)) (fun _ => ?_)
    refine g_aload_n (pc := 7) (x := 156) dX12_tide_7 rfl ?_
    refine g_iload_n (pc := 8) (x := a1) dX12_tide_8 rfl ?_
    obtain ⟨Pm1, hRm1, h⟩ := h
    refine g_callV (pc := 9) (as := [.int a1]) dX12_tide_9 cw_X12_399 (by decide) rfl rfl sh_156 (Nat.le_of_ble_eq_true rfl) hRm1 ?_
    intro r_ m1 hz_ hp_
    obtain ⟨r1, rfl⟩ := hz_
    have h := h r1 m1 hp_
    refine g_goto (pc := 12) (tgt := 16) dX12_tide_12 (by decide) ?_
    exact g_iret (pc := 16) dX12_tide_16 rfl rfl rfl h
  · have h := h.2 p_
    refine g_if_eq (pc := 4) (tgt := 15) dX12_tide_4 (by decide) (fun _ => ?_) (fun c4 => absurd c4 (by decide))
    refine g_iconst (pc := 15) (v := (-1 : Int32)) dX12_tide_15 (by decide) ?_
    exact g_iret (pc := 16) dX12_tide_16 rfl rfl rfl h
theorem dX12_wet_0 : decode cX12_wet 0 = .ok (.iload_n 1, 1) := by decide +kernel
theorem dX12_wet_1 : decode cX12_wet 1 = .ok (.invokestatic 396, 3) := by decide +kernel
theorem dX12_wet_4 : decode cX12_wet 4 = .ok (.ifCond .ne 5, 3) := by decide +kernel
theorem dX12_wet_7 : decode cX12_wet 7 = .ok (.iconst (-1), 1) := by decide +kernel
theorem dX12_wet_8 : decode cX12_wet 8 = .ok (.ireturn, 1) := by decide +kernel
theorem dX12_wet_9 : decode cX12_wet 9 = .ok (.aload_n 0, 1) := by decide +kernel
theorem dX12_wet_10 : decode cX12_wet 10 = .ok (.iload_n 1, 1) := by decide +kernel
theorem dX12_wet_11 : decode cX12_wet 11 = .ok (.invokevirtual 399, 3) := by decide +kernel
theorem dX12_wet_14 : decode cX12_wet 14 = .ok (.istore_n 2, 1) := by decide +kernel
theorem dX12_wet_15 : decode cX12_wet 15 = .ok (.iconst 0, 1) := by decide +kernel
theorem dX12_wet_16 : decode cX12_wet 16 = .ok (.istore_n 3, 1) := by decide +kernel
theorem dX12_wet_17 : decode cX12_wet 17 = .ok (.iconst 0, 1) := by decide +kernel
theorem dX12_wet_18 : decode cX12_wet 18 = .ok (.istore 4, 2) := by decide +kernel
theorem dX12_wet_20 : decode cX12_wet 20 = .ok (.iload 4, 2) := by decide +kernel
theorem dX12_wet_22 : decode cX12_wet 22 = .ok (.aload_n 0, 1) := by decide +kernel
theorem dX12_wet_23 : decode cX12_wet 23 = .ok (.getfield 30, 3) := by decide +kernel
theorem dX12_wet_26 : decode cX12_wet 26 = .ok (.iconst 0, 1) := by decide +kernel
theorem dX12_wet_27 : decode cX12_wet 27 = .ok (.iaload, 1) := by decide +kernel
theorem dX12_wet_28 : decode cX12_wet 28 = .ok (.if_icmp .ge 26, 3) := by decide +kernel
theorem dX12_wet_31 : decode cX12_wet 31 = .ok (.aload_n 0, 1) := by decide +kernel
theorem dX12_wet_32 : decode cX12_wet 32 = .ok (.iload 4, 2) := by decide +kernel
theorem dX12_wet_34 : decode cX12_wet 34 = .ok (.invokevirtual 380, 3) := by decide +kernel
theorem dX12_wet_37 : decode cX12_wet 37 = .ok (.iload_n 2, 1) := by decide +kernel
theorem dX12_wet_38 : decode cX12_wet 38 = .ok (.if_icmp .ge 10, 3) := by decide +kernel
theorem dX12_wet_41 : decode cX12_wet 41 = .ok (.iload_n 3, 1) := by decide +kernel
theorem dX12_wet_42 : decode cX12_wet 42 = .ok (.iconst 1, 1) := by decide +kernel
theorem dX12_wet_43 : decode cX12_wet 43 = .ok (.iload 4, 2) := by decide +kernel
theorem dX12_wet_45 : decode cX12_wet 45 = .ok (.ishl, 1) := by decide +kernel
theorem dX12_wet_46 : decode cX12_wet 46 = .ok (.ior, 1) := by decide +kernel
theorem dX12_wet_47 : decode cX12_wet 47 = .ok (.istore_n 3, 1) := by decide +kernel
theorem dX12_wet_48 : decode cX12_wet 48 = .ok (.iinc 4 1, 3) := by decide +kernel
theorem dX12_wet_51 : decode cX12_wet 51 = .ok (.goto (-31), 3) := by decide +kernel
theorem dX12_wet_54 : decode cX12_wet 54 = .ok (.iload_n 3, 1) := by decide +kernel
theorem dX12_wet_55 : decode cX12_wet 55 = .ok (.ireturn, 1) := by decide +kernel
theorem b_X12_wet (mm : MM) (Q : Value → MM → Prop) (a1 : Int32) (h : (p_X12_isHour mm a1 → (∃ Pm1 : Value → MM → Prop, Runs e_X12_tideOf [.ref 156, .int a1] mm Pm1 ∧ ∀ (r1 : Int32) (m1 : MM), Pm1 (.int r1) m1 → (G e_X12_wet 20 [(0, .ref 156), (2, .int r1), (3, .int (0 : Int32)), (4, .int (0 : Int32))] [] m1 Q))) ∧ (¬ p_X12_isHour mm a1 → (Q (.int (-1 : Int32)) mm))) : Runs e_X12_wet [.ref 156, .int a1] mm Q := by
  refine runs_of_G (L := [(0, .ref 156), (1, .int a1)]) pl_X12 (Nat.le_of_ble_eq_true rfl) rfl ?_
  refine g_iload_n (pc := 0) (x := a1) dX12_wet_0 rfl ?_
  refine g_callS (pc := 1) (as := [.int a1]) dX12_wet_1 cw_X12_396 (by decide) rfl rfl (Nat.le_of_ble_eq_true rfl) (rv_X12_isHour mm a1) ?_
  rintro r_ m_ hz_ ⟨⟨p_, rfl⟩ | ⟨p_, rfl⟩, rfl⟩
  · have h := h.1 p_
    refine g_if_ne (pc := 4) (tgt := 9) dX12_wet_4 (by decide) (fun _ => ?_) (fun c4 => absurd c4 (by decide))
    refine g_aload_n (pc := 9) (x := 156) dX12_wet_9 rfl ?_
    refine g_iload_n (pc := 10) (x := a1) dX12_wet_10 rfl ?_
    obtain ⟨Pm1, hRm1, h⟩ := h
    refine g_callV (pc := 11) (as := [.int a1]) dX12_wet_11 cw_X12_399 (by decide) rfl rfl sh_156 (Nat.le_of_ble_eq_true rfl) hRm1 ?_
    intro r_ m1 hz_ hp_
    obtain ⟨r1, rfl⟩ := hz_
    have h := h r1 m1 hp_
    refine g_istore_n (pc := 14) (L' := [(0, .ref 156), (1, .int a1), (2, .int r1)]) dX12_wet_14 (Nat.le_of_ble_eq_true rfl) rfl ?_
    refine g_iconst (pc := 15) (v := (0 : Int32)) dX12_wet_15 (by decide) ?_
    refine g_istore_n (pc := 16) (L' := [(0, .ref 156), (1, .int a1), (2, .int r1), (3, .int (0 : Int32))]) dX12_wet_16 (Nat.le_of_ble_eq_true rfl) rfl ?_
    refine g_iconst (pc := 17) (v := (0 : Int32)) dX12_wet_17 (by decide) ?_
    refine g_istore (pc := 18) (L' := [(0, .ref 156), (1, .int a1), (2, .int r1), (3, .int (0 : Int32)), (4, .int (0 : Int32))]) dX12_wet_18 (Nat.le_of_ble_eq_true rfl) rfl ?_
    refine g_sub (L' := [(0, .ref 156), (2, .int r1), (3, .int (0 : Int32)), (4, .int (0 : Int32))]) [0, 2, 3, 4] rfl ?_
    exact h
  · have h := h.2 p_
    refine g_if_ne (pc := 4) (tgt := 9) dX12_wet_4 (by decide) (fun c4 => absurd c4 (by decide)) (fun _ => ?_)
    refine g_iconst (pc := 7) (v := (-1 : Int32)) dX12_wet_7 (by decide) ?_
    exact g_iret (pc := 8) dX12_wet_8 rfl rfl rfl h
theorem b_X12_wet_20 (mm : MM) (Q : Value → MM → Prop) (l2 : Int32) (l3 : Int32) (l4 : Int32) (h : ((mm.1 162 0) ≤ l4 → (Q (.int l3) mm)) ∧ (¬ (mm.1 162 0) ≤ l4 → (o_X12_heightOf mm l4 ∧ ((l2 ≤ (v_X12_heightOf mm l4) → (G e_X12_wet 20 [(0, .ref 156), (2, .int l2), (3, .int l3), (4, .int (l4 + (1 : Int32)))] [] mm Q)) ∧ (¬ l2 ≤ (v_X12_heightOf mm l4) → (G e_X12_wet 20 [(0, .ref 156), (2, .int l2), (3, .int (l3 ||| ((1 : Int32) <<< (l4 &&& 31)))), (4, .int (l4 + (1 : Int32)))] [] mm Q)))))) : G e_X12_wet 20 [(0, .ref 156), (2, .int l2), (3, .int l3), (4, .int l4)] [] mm Q := by
  refine g_iload (pc := 20) (x := l4) dX12_wet_20 rfl ?_
  refine g_aload_n (pc := 22) (x := 156) dX12_wet_22 rfl ?_
  refine g_getR (pc := 23) (dd := 6) dX12_wet_23 fo_X12_30 sh_156 rfl ?_
  refine g_iconst (pc := 26) (v := (0 : Int32)) dX12_wet_26 (by decide) ?_
  refine g_iaload (pc := 27) dX12_wet_27 sh_162 (vp_in_nI (n := 0) (N := 420) (by decide) (by decide)) ?_
  refine g_icmp_ge (pc := 28) (tgt := 54) dX12_wet_28 (by decide) (fun c28 => ?_) (fun c28 => ?_)
  · have h := h.1 c28
    refine g_iload_n (pc := 54) (x := l3) dX12_wet_54 rfl ?_
    exact g_iret (pc := 55) dX12_wet_55 rfl rfl rfl h
  · have h := h.2 c28
    refine g_aload_n (pc := 31) (x := 156) dX12_wet_31 rfl ?_
    refine g_iload (pc := 32) (x := l4) dX12_wet_32 rfl ?_
    refine g_callV (pc := 34) (as := [.int l4]) dX12_wet_34 cw_X12_380 (by decide) rfl rfl sh_156 (Nat.le_of_ble_eq_true rfl) (rv_X12_heightOf mm l4 h.1) ?_
    have h := h.2
    rintro r_ m_ hz_ ⟨rfl, rfl⟩
    refine g_iload_n (pc := 37) (x := l2) dX12_wet_37 rfl ?_
    refine g_icmp_ge (pc := 38) (tgt := 48) dX12_wet_38 (by decide) (fun c38 => ?_) (fun c38 => ?_)
    · have h := h.1 c38
      refine g_iinc (pc := 48) (x := l4) (v := (l4 + (1 : Int32))) (L' := [(0, .ref 156), (2, .int l2), (3, .int l3), (4, .int (l4 + (1 : Int32)))]) dX12_wet_48 rfl rfl (Nat.le_of_ble_eq_true rfl) rfl ?_
      refine g_goto (pc := 51) (tgt := 20) dX12_wet_51 (by decide) ?_
      exact h
    · have h := h.2 c38
      refine g_iload_n (pc := 41) (x := l3) dX12_wet_41 rfl ?_
      refine g_iconst (pc := 42) (v := (1 : Int32)) dX12_wet_42 (by decide) ?_
      refine g_iload (pc := 43) (x := l4) dX12_wet_43 rfl ?_
      refine g_ishl (pc := 45) dX12_wet_45 ?_
      refine g_ior (pc := 46) dX12_wet_46 ?_
      refine g_istore_n (pc := 47) (L' := [(0, .ref 156), (2, .int l2), (3, .int (l3 ||| ((1 : Int32) <<< (l4 &&& 31)))), (4, .int l4)]) dX12_wet_47 (Nat.le_of_ble_eq_true rfl) rfl ?_
      refine g_iinc (pc := 48) (x := l4) (v := (l4 + (1 : Int32))) (L' := [(0, .ref 156), (2, .int l2), (3, .int (l3 ||| ((1 : Int32) <<< (l4 &&& 31)))), (4, .int (l4 + (1 : Int32)))]) dX12_wet_48 rfl rfl (Nat.le_of_ble_eq_true rfl) rfl ?_
      refine g_goto (pc := 51) (tgt := 20) dX12_wet_51 (by decide) ?_
      exact h
theorem dX12_isMeeting_0 : decode cX12_isMeeting 0 = .ok (.aload_n 0, 1) := by decide +kernel
theorem dX12_isMeeting_1 : decode cX12_isMeeting 1 = .ok (.aload_n 0, 1) := by decide +kernel
theorem dX12_isMeeting_2 : decode cX12_isMeeting 2 = .ok (.getfield 30, 3) := by decide +kernel
theorem dX12_isMeeting_5 : decode cX12_isMeeting 5 = .ok (.bipush 120, 2) := by decide +kernel
theorem dX12_isMeeting_7 : decode cX12_isMeeting 7 = .ok (.iconst 3, 1) := by decide +kernel
theorem dX12_isMeeting_8 : decode cX12_isMeeting 8 = .ok (.iload_n 1, 1) := by decide +kernel
theorem dX12_isMeeting_9 : decode cX12_isMeeting 9 = .ok (.imul, 1) := by decide +kernel
theorem dX12_isMeeting_10 : decode cX12_isMeeting 10 = .ok (.iadd, 1) := by decide +kernel
theorem dX12_isMeeting_11 : decode cX12_isMeeting 11 = .ok (.iaload, 1) := by decide +kernel
theorem dX12_isMeeting_12 : decode cX12_isMeeting 12 = .ok (.invokevirtual 380, 3) := by decide +kernel
theorem dX12_isMeeting_15 : decode cX12_isMeeting 15 = .ok (.istore_n 2, 1) := by decide +kernel
theorem dX12_isMeeting_16 : decode cX12_isMeeting 16 = .ok (.aload_n 0, 1) := by decide +kernel
theorem dX12_isMeeting_17 : decode cX12_isMeeting 17 = .ok (.getfield 30, 3) := by decide +kernel
theorem dX12_isMeeting_20 : decode cX12_isMeeting 20 = .ok (.bipush 120, 2) := by decide +kernel
theorem dX12_isMeeting_22 : decode cX12_isMeeting 22 = .ok (.iconst 3, 1) := by decide +kernel
theorem dX12_isMeeting_23 : decode cX12_isMeeting 23 = .ok (.iload_n 1, 1) := by decide +kernel
theorem dX12_isMeeting_24 : decode cX12_isMeeting 24 = .ok (.imul, 1) := by decide +kernel
theorem dX12_isMeeting_25 : decode cX12_isMeeting 25 = .ok (.iadd, 1) := by decide +kernel
theorem dX12_isMeeting_26 : decode cX12_isMeeting 26 = .ok (.iconst 1, 1) := by decide +kernel
theorem dX12_isMeeting_27 : decode cX12_isMeeting 27 = .ok (.iadd, 1) := by decide +kernel
theorem dX12_isMeeting_28 : decode cX12_isMeeting 28 = .ok (.iaload, 1) := by decide +kernel
theorem dX12_isMeeting_29 : decode cX12_isMeeting 29 = .ok (.istore_n 3, 1) := by decide +kernel
theorem dX12_isMeeting_30 : decode cX12_isMeeting 30 = .ok (.iload_n 3, 1) := by decide +kernel
theorem dX12_isMeeting_31 : decode cX12_isMeeting 31 = .ok (.ifCond .ge 7, 3) := by decide +kernel
theorem dX12_isMeeting_34 : decode cX12_isMeeting 34 = .ok (.iconst 0, 1) := by decide +kernel
theorem dX12_isMeeting_35 : decode cX12_isMeeting 35 = .ok (.goto 8, 3) := by decide +kernel
theorem dX12_isMeeting_38 : decode cX12_isMeeting 38 = .ok (.aload_n 0, 1) := by decide +kernel
theorem dX12_isMeeting_39 : decode cX12_isMeeting 39 = .ok (.iload_n 3, 1) := by decide +kernel
theorem dX12_isMeeting_40 : decode cX12_isMeeting 40 = .ok (.invokevirtual 380, 3) := by decide +kernel
theorem dX12_isMeeting_43 : decode cX12_isMeeting 43 = .ok (.istore 4, 2) := by decide +kernel
theorem dX12_isMeeting_45 : decode cX12_isMeeting 45 = .ok (.iload_n 2, 1) := by decide +kernel
theorem dX12_isMeeting_46 : decode cX12_isMeeting 46 = .ok (.iload 4, 2) := by decide +kernel
theorem dX12_isMeeting_48 : decode cX12_isMeeting 48 = .ok (.if_icmp .le 10, 3) := by decide +kernel
theorem dX12_isMeeting_51 : decode cX12_isMeeting 51 = .ok (.iload_n 2, 1) := by decide +kernel
theorem dX12_isMeeting_52 : decode cX12_isMeeting 52 = .ok (.iload 4, 2) := by decide +kernel
theorem dX12_isMeeting_54 : decode cX12_isMeeting 54 = .ok (.isub, 1) := by decide +kernel
theorem dX12_isMeeting_55 : decode cX12_isMeeting 55 = .ok (.goto 7, 3) := by decide +kernel
theorem dX12_isMeeting_58 : decode cX12_isMeeting 58 = .ok (.iload 4, 2) := by decide +kernel
theorem dX12_isMeeting_60 : decode cX12_isMeeting 60 = .ok (.iload_n 2, 1) := by decide +kernel
theorem dX12_isMeeting_61 : decode cX12_isMeeting 61 = .ok (.isub, 1) := by decide +kernel
theorem dX12_isMeeting_62 : decode cX12_isMeeting 62 = .ok (.aload_n 0, 1) := by decide +kernel
theorem dX12_isMeeting_63 : decode cX12_isMeeting 63 = .ok (.getfield 30, 3) := by decide +kernel
theorem dX12_isMeeting_66 : decode cX12_isMeeting 66 = .ok (.bipush 120, 2) := by decide +kernel
theorem dX12_isMeeting_68 : decode cX12_isMeeting 68 = .ok (.iconst 3, 1) := by decide +kernel
theorem dX12_isMeeting_69 : decode cX12_isMeeting 69 = .ok (.iload_n 1, 1) := by decide +kernel
theorem dX12_isMeeting_70 : decode cX12_isMeeting 70 = .ok (.imul, 1) := by decide +kernel
theorem dX12_isMeeting_71 : decode cX12_isMeeting 71 = .ok (.iadd, 1) := by decide +kernel
theorem dX12_isMeeting_72 : decode cX12_isMeeting 72 = .ok (.iconst 2, 1) := by decide +kernel
theorem dX12_isMeeting_73 : decode cX12_isMeeting 73 = .ok (.iadd, 1) := by decide +kernel
theorem dX12_isMeeting_74 : decode cX12_isMeeting 74 = .ok (.iaload, 1) := by decide +kernel
theorem dX12_isMeeting_75 : decode cX12_isMeeting 75 = .ok (.if_icmp .gt 7, 3) := by decide +kernel
theorem dX12_isMeeting_78 : decode cX12_isMeeting 78 = .ok (.iconst 1, 1) := by decide +kernel
theorem dX12_isMeeting_79 : decode cX12_isMeeting 79 = .ok (.goto 4, 3) := by decide +kernel
theorem dX12_isMeeting_82 : decode cX12_isMeeting 82 = .ok (.iconst 0, 1) := by decide +kernel
theorem dX12_isMeeting_83 : decode cX12_isMeeting 83 = .ok (.ireturn, 1) := by decide +kernel
def o_X12_isMeeting (mm : MM) (a1 : Int32) : Prop := vp_in ((120 : Int32) + ((3 : Int32) * a1)) 420 ∧ (o_X12_heightOf mm (mm.1 162 ((120 : Int32) + ((3 : Int32) * a1)).toNatClampNeg) ∧ (vp_in (((120 : Int32) + ((3 : Int32) * a1)) + (1 : Int32)) 420 ∧ ((0 ≤ (mm.1 162 (((120 : Int32) + ((3 : Int32) * a1)) + (1 : Int32)).toNatClampNeg) → (o_X12_heightOf mm (mm.1 162 (((120 : Int32) + ((3 : Int32) * a1)) + (1 : Int32)).toNatClampNeg) ∧ (((v_X12_heightOf mm (mm.1 162 ((120 : Int32) + ((3 : Int32) * a1)).toNatClampNeg)) ≤ (v_X12_heightOf mm (mm.1 162 (((120 : Int32) + ((3 : Int32) * a1)) + (1 : Int32)).toNatClampNeg)) → (vp_in (((120 : Int32) + ((3 : Int32) * a1)) + (2 : Int32)) 420 ∧ (((mm.1 162 (((120 : Int32) + ((3 : Int32) * a1)) + (2 : Int32)).toNatClampNeg) < ((v_X12_heightOf mm (mm.1 162 (((120 : Int32) + ((3 : Int32) * a1)) + (1 : Int32)).toNatClampNeg)) - (v_X12_heightOf mm (mm.1 162 ((120 : Int32) + ((3 : Int32) * a1)).toNatClampNeg))) → (True)) ∧ (¬ (mm.1 162 (((120 : Int32) + ((3 : Int32) * a1)) + (2 : Int32)).toNatClampNeg) < ((v_X12_heightOf mm (mm.1 162 (((120 : Int32) + ((3 : Int32) * a1)) + (1 : Int32)).toNatClampNeg)) - (v_X12_heightOf mm (mm.1 162 ((120 : Int32) + ((3 : Int32) * a1)).toNatClampNeg))) → (True))))) ∧ (¬ (v_X12_heightOf mm (mm.1 162 ((120 : Int32) + ((3 : Int32) * a1)).toNatClampNeg)) ≤ (v_X12_heightOf mm (mm.1 162 (((120 : Int32) + ((3 : Int32) * a1)) + (1 : Int32)).toNatClampNeg)) → (vp_in (((120 : Int32) + ((3 : Int32) * a1)) + (2 : Int32)) 420 ∧ (((mm.1 162 (((120 : Int32) + ((3 : Int32) * a1)) + (2 : Int32)).toNatClampNeg) < ((v_X12_heightOf mm (mm.1 162 ((120 : Int32) + ((3 : Int32) * a1)).toNatClampNeg)) - (v_X12_heightOf mm (mm.1 162 (((120 : Int32) + ((3 : Int32) * a1)) + (1 : Int32)).toNatClampNeg))) → (True)) ∧ (¬ (mm.1 162 (((120 : Int32) + ((3 : Int32) * a1)) + (2 : Int32)).toNatClampNeg) < ((v_X12_heightOf mm (mm.1 162 ((120 : Int32) + ((3 : Int32) * a1)).toNatClampNeg)) - (v_X12_heightOf mm (mm.1 162 (((120 : Int32) + ((3 : Int32) * a1)) + (1 : Int32)).toNatClampNeg))) → (True)))))))) ∧ (¬ 0 ≤ (mm.1 162 (((120 : Int32) + ((3 : Int32) * a1)) + (1 : Int32)).toNatClampNeg) → (((v_X12_heightOf mm (mm.1 162 ((120 : Int32) + ((3 : Int32) * a1)).toNatClampNeg)) ≤ (0 : Int32) → (vp_in (((120 : Int32) + ((3 : Int32) * a1)) + (2 : Int32)) 420 ∧ (((mm.1 162 (((120 : Int32) + ((3 : Int32) * a1)) + (2 : Int32)).toNatClampNeg) < ((0 : Int32) - (v_X12_heightOf mm (mm.1 162 ((120 : Int32) + ((3 : Int32) * a1)).toNatClampNeg))) → (True)) ∧ (¬ (mm.1 162 (((120 : Int32) + ((3 : Int32) * a1)) + (2 : Int32)).toNatClampNeg) < ((0 : Int32) - (v_X12_heightOf mm (mm.1 162 ((120 : Int32) + ((3 : Int32) * a1)).toNatClampNeg))) → (True))))) ∧ (¬ (v_X12_heightOf mm (mm.1 162 ((120 : Int32) + ((3 : Int32) * a1)).toNatClampNeg)) ≤ (0 : Int32) → (vp_in (((120 : Int32) + ((3 : Int32) * a1)) + (2 : Int32)) 420 ∧ (((mm.1 162 (((120 : Int32) + ((3 : Int32) * a1)) + (2 : Int32)).toNatClampNeg) < ((v_X12_heightOf mm (mm.1 162 ((120 : Int32) + ((3 : Int32) * a1)).toNatClampNeg)) - (0 : Int32)) → (True)) ∧ (¬ (mm.1 162 (((120 : Int32) + ((3 : Int32) * a1)) + (2 : Int32)).toNatClampNeg) < ((v_X12_heightOf mm (mm.1 162 ((120 : Int32) + ((3 : Int32) * a1)).toNatClampNeg)) - (0 : Int32)) → (True))))))))))
def p_X12_isMeeting (mm : MM) (a1 : Int32) : Prop := ((0 ≤ (mm.1 162 (((120 : Int32) + ((3 : Int32) * a1)) + (1 : Int32)).toNatClampNeg) ∧ (((v_X12_heightOf mm (mm.1 162 ((120 : Int32) + ((3 : Int32) * a1)).toNatClampNeg)) ≤ (v_X12_heightOf mm (mm.1 162 (((120 : Int32) + ((3 : Int32) * a1)) + (1 : Int32)).toNatClampNeg)) ∧ ¬ (mm.1 162 (((120 : Int32) + ((3 : Int32) * a1)) + (2 : Int32)).toNatClampNeg) < ((v_X12_heightOf mm (mm.1 162 (((120 : Int32) + ((3 : Int32) * a1)) + (1 : Int32)).toNatClampNeg)) - (v_X12_heightOf mm (mm.1 162 ((120 : Int32) + ((3 : Int32) * a1)).toNatClampNeg)))) ∨ (¬ (v_X12_heightOf mm (mm.1 162 ((120 : Int32) + ((3 : Int32) * a1)).toNatClampNeg)) ≤ (v_X12_heightOf mm (mm.1 162 (((120 : Int32) + ((3 : Int32) * a1)) + (1 : Int32)).toNatClampNeg)) ∧ ¬ (mm.1 162 (((120 : Int32) + ((3 : Int32) * a1)) + (2 : Int32)).toNatClampNeg) < ((v_X12_heightOf mm (mm.1 162 ((120 : Int32) + ((3 : Int32) * a1)).toNatClampNeg)) - (v_X12_heightOf mm (mm.1 162 (((120 : Int32) + ((3 : Int32) * a1)) + (1 : Int32)).toNatClampNeg)))))) ∨ (¬ 0 ≤ (mm.1 162 (((120 : Int32) + ((3 : Int32) * a1)) + (1 : Int32)).toNatClampNeg) ∧ (((v_X12_heightOf mm (mm.1 162 ((120 : Int32) + ((3 : Int32) * a1)).toNatClampNeg)) ≤ (0 : Int32) ∧ ¬ (mm.1 162 (((120 : Int32) + ((3 : Int32) * a1)) + (2 : Int32)).toNatClampNeg) < ((0 : Int32) - (v_X12_heightOf mm (mm.1 162 ((120 : Int32) + ((3 : Int32) * a1)).toNatClampNeg)))) ∨ (¬ (v_X12_heightOf mm (mm.1 162 ((120 : Int32) + ((3 : Int32) * a1)).toNatClampNeg)) ≤ (0 : Int32) ∧ ¬ (mm.1 162 (((120 : Int32) + ((3 : Int32) * a1)) + (2 : Int32)).toNatClampNeg) < ((v_X12_heightOf mm (mm.1 162 ((120 : Int32) + ((3 : Int32) * a1)).toNatClampNeg)) - (0 : Int32))))))
theorem rv_X12_isMeeting (mm : MM) (a1 : Int32) (h : o_X12_isMeeting mm a1) : Runs e_X12_isMeeting [.ref 156, .int a1] mm (fun r m_ => ((p_X12_isMeeting mm a1 ∧ r = .int 1) ∨ (¬ p_X12_isMeeting mm a1 ∧ r = .int 0)) ∧ mm = m_) := by
  refine runs_of_G (L := [(0, .ref 156), (1, .int a1)]) pl_X12 (Nat.le_of_ble_eq_true rfl) rfl ?_
  unfold o_X12_isMeeting at h
  refine g_aload_n (pc := 0) (x := 156) dX12_isMeeting_0 rfl ?_
  refine g_aload_n (pc := 1) (x := 156) dX12_isMeeting_1 rfl ?_
  refine g_getR (pc := 2) (dd := 6) dX12_isMeeting_2 fo_X12_30 sh_156 rfl ?_
  refine g_bipush (pc := 5) (v := (120 : Int32)) dX12_isMeeting_5 (by decide) ?_
  refine g_iconst (pc := 7) (v := (3 : Int32)) dX12_isMeeting_7 (by decide) ?_
  refine g_iload_n (pc := 8) (x := a1) dX12_isMeeting_8 rfl ?_
  refine g_imul (pc := 9) dX12_isMeeting_9 ?_
  refine g_iadd (pc := 10) dX12_isMeeting_10 ?_
  refine g_iaload (pc := 11) dX12_isMeeting_11 sh_162 h.1 ?_
  have h := h.2
  refine g_callV (pc := 12) (as := [.int (mm.1 162 ((120 : Int32) + ((3 : Int32) * a1)).toNatClampNeg)]) dX12_isMeeting_12 cw_X12_380 (by decide) rfl rfl sh_156 (Nat.le_of_ble_eq_true rfl) (rv_X12_heightOf mm (mm.1 162 ((120 : Int32) + ((3 : Int32) * a1)).toNatClampNeg) h.1) ?_
  have h := h.2
  rintro r_ m_ hz_ ⟨rfl, rfl⟩
  refine g_istore_n (pc := 15) (L' := [(0, .ref 156), (1, .int a1), (2, .int (v_X12_heightOf mm (mm.1 162 ((120 : Int32) + ((3 : Int32) * a1)).toNatClampNeg)))]) dX12_isMeeting_15 (Nat.le_of_ble_eq_true rfl) rfl ?_
  refine g_aload_n (pc := 16) (x := 156) dX12_isMeeting_16 rfl ?_
  refine g_getR (pc := 17) (dd := 6) dX12_isMeeting_17 fo_X12_30 sh_156 rfl ?_
  refine g_bipush (pc := 20) (v := (120 : Int32)) dX12_isMeeting_20 (by decide) ?_
  refine g_iconst (pc := 22) (v := (3 : Int32)) dX12_isMeeting_22 (by decide) ?_
  refine g_iload_n (pc := 23) (x := a1) dX12_isMeeting_23 rfl ?_
  refine g_imul (pc := 24) dX12_isMeeting_24 ?_
  refine g_iadd (pc := 25) dX12_isMeeting_25 ?_
  refine g_iconst (pc := 26) (v := (1 : Int32)) dX12_isMeeting_26 (by decide) ?_
  refine g_iadd (pc := 27) dX12_isMeeting_27 ?_
  refine g_iaload (pc := 28) dX12_isMeeting_28 sh_162 h.1 ?_
  have h := h.2
  refine g_istore_n (pc := 29) (L' := [(0, .ref 156), (1, .int a1), (2, .int (v_X12_heightOf mm (mm.1 162 ((120 : Int32) + ((3 : Int32) * a1)).toNatClampNeg))), (3, .int (mm.1 162 (((120 : Int32) + ((3 : Int32) * a1)) + (1 : Int32)).toNatClampNeg))]) dX12_isMeeting_29 (Nat.le_of_ble_eq_true rfl) rfl ?_
  refine g_iload_n (pc := 30) (x := (mm.1 162 (((120 : Int32) + ((3 : Int32) * a1)) + (1 : Int32)).toNatClampNeg)) dX12_isMeeting_30 rfl ?_
  refine g_if_ge (pc := 31) (tgt := 38) dX12_isMeeting_31 (by decide) (fun c31 => ?_) (fun c31 => ?_)
  · have c31_0 : 0 ≤ (mm.1 162 (((120 : Int32) + ((3 : Int32) * a1)) + (1 : Int32)).toNatClampNeg) := c31
    have h := h.1 c31
    refine g_aload_n (pc := 38) (x := 156) dX12_isMeeting_38 rfl ?_
    refine g_iload_n (pc := 39) (x := (mm.1 162 (((120 : Int32) + ((3 : Int32) * a1)) + (1 : Int32)).toNatClampNeg)) dX12_isMeeting_39 rfl ?_
    refine g_callV (pc := 40) (as := [.int (mm.1 162 (((120 : Int32) + ((3 : Int32) * a1)) + (1 : Int32)).toNatClampNeg)]) dX12_isMeeting_40 cw_X12_380 (by decide) rfl rfl sh_156 (Nat.le_of_ble_eq_true rfl) (rv_X12_heightOf mm (mm.1 162 (((120 : Int32) + ((3 : Int32) * a1)) + (1 : Int32)).toNatClampNeg) h.1) ?_
    have h := h.2
    rintro r_ m_ hz_ ⟨rfl, rfl⟩
    refine g_istore (pc := 43) (L' := [(0, .ref 156), (1, .int a1), (2, .int (v_X12_heightOf mm (mm.1 162 ((120 : Int32) + ((3 : Int32) * a1)).toNatClampNeg))), (3, .int (mm.1 162 (((120 : Int32) + ((3 : Int32) * a1)) + (1 : Int32)).toNatClampNeg)), (4, .int (v_X12_heightOf mm (mm.1 162 (((120 : Int32) + ((3 : Int32) * a1)) + (1 : Int32)).toNatClampNeg)))]) dX12_isMeeting_43 (Nat.le_of_ble_eq_true rfl) rfl ?_
    refine g_iload_n (pc := 45) (x := (v_X12_heightOf mm (mm.1 162 ((120 : Int32) + ((3 : Int32) * a1)).toNatClampNeg))) dX12_isMeeting_45 rfl ?_
    refine g_iload (pc := 46) (x := (v_X12_heightOf mm (mm.1 162 (((120 : Int32) + ((3 : Int32) * a1)) + (1 : Int32)).toNatClampNeg))) dX12_isMeeting_46 rfl ?_
    refine g_icmp_le (pc := 48) (tgt := 58) dX12_isMeeting_48 (by decide) (fun c48 => ?_) (fun c48 => ?_)
    · have c48_1 : (v_X12_heightOf mm (mm.1 162 ((120 : Int32) + ((3 : Int32) * a1)).toNatClampNeg)) ≤ (v_X12_heightOf mm (mm.1 162 (((120 : Int32) + ((3 : Int32) * a1)) + (1 : Int32)).toNatClampNeg)) := c48
      have h := h.1 c48
      refine g_iload (pc := 58) (x := (v_X12_heightOf mm (mm.1 162 (((120 : Int32) + ((3 : Int32) * a1)) + (1 : Int32)).toNatClampNeg))) dX12_isMeeting_58 rfl ?_
      refine g_iload_n (pc := 60) (x := (v_X12_heightOf mm (mm.1 162 ((120 : Int32) + ((3 : Int32) * a1)).toNatClampNeg))) dX12_isMeeting_60 rfl ?_
      refine g_isub (pc := 61) dX12_isMeeting_61 ?_
      refine g_aload_n (pc := 62) (x := 156) dX12_isMeeting_62 rfl ?_
      refine g_getR (pc := 63) (dd := 6) dX12_isMeeting_63 fo_X12_30 sh_156 rfl ?_
      refine g_bipush (pc := 66) (v := (120 : Int32)) dX12_isMeeting_66 (by decide) ?_
      refine g_iconst (pc := 68) (v := (3 : Int32)) dX12_isMeeting_68 (by decide) ?_
      refine g_iload_n (pc := 69) (x := a1) dX12_isMeeting_69 rfl ?_
      refine g_imul (pc := 70) dX12_isMeeting_70 ?_
      refine g_iadd (pc := 71) dX12_isMeeting_71 ?_
      refine g_iconst (pc := 72) (v := (2 : Int32)) dX12_isMeeting_72 (by decide) ?_
      refine g_iadd (pc := 73) dX12_isMeeting_73 ?_
      refine g_iaload (pc := 74) dX12_isMeeting_74 sh_162 h.1 ?_
      have h := h.2
      refine g_icmp_gt (pc := 75) (tgt := 82) dX12_isMeeting_75 (by decide) (fun c75 => ?_) (fun c75 => ?_)
      · have c75_2 : (mm.1 162 (((120 : Int32) + ((3 : Int32) * a1)) + (2 : Int32)).toNatClampNeg) < ((v_X12_heightOf mm (mm.1 162 (((120 : Int32) + ((3 : Int32) * a1)) + (1 : Int32)).toNatClampNeg)) - (v_X12_heightOf mm (mm.1 162 ((120 : Int32) + ((3 : Int32) * a1)).toNatClampNeg))) := c75
        refine g_iconst (pc := 82) (v := (0 : Int32)) dX12_isMeeting_82 (by decide) ?_
        exact g_iret (pc := 83) dX12_isMeeting_83 rfl rfl (nar_B isB0) ⟨Or.inr ⟨(show ¬ p_X12_isMeeting mm a1 from (fun h_ => h_.elim (fun z_ => (fun h_ => h_.elim (fun z_ => (not_not_intro c75_2) z_.2) (fun z_ => (z_.1 c48_1))) z_.2) (fun z_ => (z_.1 c31_0)))), rfl⟩, rfl⟩
      · have c75_2 : ¬ (mm.1 162 (((120 : Int32) + ((3 : Int32) * a1)) + (2 : Int32)).toNatClampNeg) < ((v_X12_heightOf mm (mm.1 162 (((120 : Int32) + ((3 : Int32) * a1)) + (1 : Int32)).toNatClampNeg)) - (v_X12_heightOf mm (mm.1 162 ((120 : Int32) + ((3 : Int32) * a1)).toNatClampNeg))) := c75
        refine g_iconst (pc := 78) (v := (1 : Int32)) dX12_isMeeting_78 (by decide) ?_
        refine g_goto (pc := 79) (tgt := 83) dX12_isMeeting_79 (by decide) ?_
        exact g_iret (pc := 83) dX12_isMeeting_83 rfl rfl (nar_B isB1) ⟨Or.inl ⟨(show p_X12_isMeeting mm a1 from (Or.inl ⟨c31_0, (Or.inl ⟨c48_1, c75_2⟩)⟩)), rfl⟩, rfl⟩
    · have c48_1 : ¬ (v_X12_heightOf mm (mm.1 162 ((120 : Int32) + ((3 : Int32) * a1)).toNatClampNeg)) ≤ (v_X12_heightOf mm (mm.1 162 (((120 : Int32) + ((3 : Int32) * a1)) + (1 : Int32)).toNatClampNeg)) := c48
      have h := h.2 c48
      refine g_iload_n (pc := 51) (x := (v_X12_heightOf mm (mm.1 162 ((120 : Int32) + ((3 : Int32) * a1)).toNatClampNeg))) dX12_isMeeting_51 rfl ?_
      refine g_iload (pc := 52) (x := (v_X12_heightOf mm (mm.1 162 (((120 : Int32) + ((3 : Int32) * a1)) + (1 : Int32)).toNatClampNeg))) dX12_isMeeting_52 rfl ?_
      refine g_isub (pc := 54) dX12_isMeeting_54 ?_
      refine g_goto (pc := 55) (tgt := 62) dX12_isMeeting_55 (by decide) ?_
      refine g_aload_n (pc := 62) (x := 156) dX12_isMeeting_62 rfl ?_
      refine g_getR (pc := 63) (dd := 6) dX12_isMeeting_63 fo_X12_30 sh_156 rfl ?_
      refine g_bipush (pc := 66) (v := (120 : Int32)) dX12_isMeeting_66 (by decide) ?_
      refine g_iconst (pc := 68) (v := (3 : Int32)) dX12_isMeeting_68 (by decide) ?_
      refine g_iload_n (pc := 69) (x := a1) dX12_isMeeting_69 rfl ?_
      refine g_imul (pc := 70) dX12_isMeeting_70 ?_
      refine g_iadd (pc := 71) dX12_isMeeting_71 ?_
      refine g_iconst (pc := 72) (v := (2 : Int32)) dX12_isMeeting_72 (by decide) ?_
      refine g_iadd (pc := 73) dX12_isMeeting_73 ?_
      refine g_iaload (pc := 74) dX12_isMeeting_74 sh_162 h.1 ?_
      have h := h.2
      refine g_icmp_gt (pc := 75) (tgt := 82) dX12_isMeeting_75 (by decide) (fun c75 => ?_) (fun c75 => ?_)
      · have c75_2 : (mm.1 162 (((120 : Int32) + ((3 : Int32) * a1)) + (2 : Int32)).toNatClampNeg) < ((v_X12_heightOf mm (mm.1 162 ((120 : Int32) + ((3 : Int32) * a1)).toNatClampNeg)) - (v_X12_heightOf mm (mm.1 162 (((120 : Int32) + ((3 : Int32) * a1)) + (1 : Int32)).toNatClampNeg))) := c75
        refine g_iconst (pc := 82) (v := (0 : Int32)) dX12_isMeeting_82 (by decide) ?_
        exact g_iret (pc := 83) dX12_isMeeting_83 rfl rfl (nar_B isB0) ⟨Or.inr ⟨(show ¬ p_X12_isMeeting mm a1 from (fun h_ => h_.elim (fun z_ => (fun h_ => h_.elim (fun z_ => (c48_1 z_.1)) (fun z_ => (not_not_intro c75_2) z_.2)) z_.2) (fun z_ => (z_.1 c31_0)))), rfl⟩, rfl⟩
      · have c75_2 : ¬ (mm.1 162 (((120 : Int32) + ((3 : Int32) * a1)) + (2 : Int32)).toNatClampNeg) < ((v_X12_heightOf mm (mm.1 162 ((120 : Int32) + ((3 : Int32) * a1)).toNatClampNeg)) - (v_X12_heightOf mm (mm.1 162 (((120 : Int32) + ((3 : Int32) * a1)) + (1 : Int32)).toNatClampNeg))) := c75
        refine g_iconst (pc := 78) (v := (1 : Int32)) dX12_isMeeting_78 (by decide) ?_
        refine g_goto (pc := 79) (tgt := 83) dX12_isMeeting_79 (by decide) ?_
        exact g_iret (pc := 83) dX12_isMeeting_83 rfl rfl (nar_B isB1) ⟨Or.inl ⟨(show p_X12_isMeeting mm a1 from (Or.inl ⟨c31_0, (Or.inr ⟨c48_1, c75_2⟩)⟩)), rfl⟩, rfl⟩
  · have c31_0 : ¬ 0 ≤ (mm.1 162 (((120 : Int32) + ((3 : Int32) * a1)) + (1 : Int32)).toNatClampNeg) := c31
    have h := h.2 c31
    refine g_iconst (pc := 34) (v := (0 : Int32)) dX12_isMeeting_34 (by decide) ?_
    refine g_goto (pc := 35) (tgt := 43) dX12_isMeeting_35 (by decide) ?_
    refine g_istore (pc := 43) (L' := [(0, .ref 156), (1, .int a1), (2, .int (v_X12_heightOf mm (mm.1 162 ((120 : Int32) + ((3 : Int32) * a1)).toNatClampNeg))), (3, .int (mm.1 162 (((120 : Int32) + ((3 : Int32) * a1)) + (1 : Int32)).toNatClampNeg)), (4, .int (0 : Int32))]) dX12_isMeeting_43 (Nat.le_of_ble_eq_true rfl) rfl ?_
    refine g_iload_n (pc := 45) (x := (v_X12_heightOf mm (mm.1 162 ((120 : Int32) + ((3 : Int32) * a1)).toNatClampNeg))) dX12_isMeeting_45 rfl ?_
    refine g_iload (pc := 46) (x := (0 : Int32)) dX12_isMeeting_46 rfl ?_
    refine g_icmp_le (pc := 48) (tgt := 58) dX12_isMeeting_48 (by decide) (fun c48 => ?_) (fun c48 => ?_)
    · have c48_1 : (v_X12_heightOf mm (mm.1 162 ((120 : Int32) + ((3 : Int32) * a1)).toNatClampNeg)) ≤ (0 : Int32) := c48
      have h := h.1 c48
      refine g_iload (pc := 58) (x := (0 : Int32)) dX12_isMeeting_58 rfl ?_
      refine g_iload_n (pc := 60) (x := (v_X12_heightOf mm (mm.1 162 ((120 : Int32) + ((3 : Int32) * a1)).toNatClampNeg))) dX12_isMeeting_60 rfl ?_
      refine g_isub (pc := 61) dX12_isMeeting_61 ?_
      refine g_aload_n (pc := 62) (x := 156) dX12_isMeeting_62 rfl ?_
      refine g_getR (pc := 63) (dd := 6) dX12_isMeeting_63 fo_X12_30 sh_156 rfl ?_
      refine g_bipush (pc := 66) (v := (120 : Int32)) dX12_isMeeting_66 (by decide) ?_
      refine g_iconst (pc := 68) (v := (3 : Int32)) dX12_isMeeting_68 (by decide) ?_
      refine g_iload_n (pc := 69) (x := a1) dX12_isMeeting_69 rfl ?_
      refine g_imul (pc := 70) dX12_isMeeting_70 ?_
      refine g_iadd (pc := 71) dX12_isMeeting_71 ?_
      refine g_iconst (pc := 72) (v := (2 : Int32)) dX12_isMeeting_72 (by decide) ?_
      refine g_iadd (pc := 73) dX12_isMeeting_73 ?_
      refine g_iaload (pc := 74) dX12_isMeeting_74 sh_162 h.1 ?_
      have h := h.2
      refine g_icmp_gt (pc := 75) (tgt := 82) dX12_isMeeting_75 (by decide) (fun c75 => ?_) (fun c75 => ?_)
      · have c75_2 : (mm.1 162 (((120 : Int32) + ((3 : Int32) * a1)) + (2 : Int32)).toNatClampNeg) < ((0 : Int32) - (v_X12_heightOf mm (mm.1 162 ((120 : Int32) + ((3 : Int32) * a1)).toNatClampNeg))) := c75
        refine g_iconst (pc := 82) (v := (0 : Int32)) dX12_isMeeting_82 (by decide) ?_
        exact g_iret (pc := 83) dX12_isMeeting_83 rfl rfl (nar_B isB0) ⟨Or.inr ⟨(show ¬ p_X12_isMeeting mm a1 from (fun h_ => h_.elim (fun z_ => (c31_0 z_.1)) (fun z_ => (fun h_ => h_.elim (fun z_ => (not_not_intro c75_2) z_.2) (fun z_ => (z_.1 c48_1))) z_.2))), rfl⟩, rfl⟩
      · have c75_2 : ¬ (mm.1 162 (((120 : Int32) + ((3 : Int32) * a1)) + (2 : Int32)).toNatClampNeg) < ((0 : Int32) - (v_X12_heightOf mm (mm.1 162 ((120 : Int32) + ((3 : Int32) * a1)).toNatClampNeg))) := c75
        refine g_iconst (pc := 78) (v := (1 : Int32)) dX12_isMeeting_78 (by decide) ?_
        refine g_goto (pc := 79) (tgt := 83) dX12_isMeeting_79 (by decide) ?_
        exact g_iret (pc := 83) dX12_isMeeting_83 rfl rfl (nar_B isB1) ⟨Or.inl ⟨(show p_X12_isMeeting mm a1 from (Or.inr ⟨c31_0, (Or.inl ⟨c48_1, c75_2⟩)⟩)), rfl⟩, rfl⟩
    · have c48_1 : ¬ (v_X12_heightOf mm (mm.1 162 ((120 : Int32) + ((3 : Int32) * a1)).toNatClampNeg)) ≤ (0 : Int32) := c48
      have h := h.2 c48
      refine g_iload_n (pc := 51) (x := (v_X12_heightOf mm (mm.1 162 ((120 : Int32) + ((3 : Int32) * a1)).toNatClampNeg))) dX12_isMeeting_51 rfl ?_
      refine g_iload (pc := 52) (x := (0 : Int32)) dX12_isMeeting_52 rfl ?_
      refine g_isub (pc := 54) dX12_isMeeting_54 ?_
      refine g_goto (pc := 55) (tgt := 62) dX12_isMeeting_55 (by decide) ?_
      refine g_aload_n (pc := 62) (x := 156) dX12_isMeeting_62 rfl ?_
      refine g_getR (pc := 63) (dd := 6) dX12_isMeeting_63 fo_X12_30 sh_156 rfl ?_
      refine g_bipush (pc := 66) (v := (120 : Int32)) dX12_isMeeting_66 (by decide) ?_
      refine g_iconst (pc := 68) (v := (3 : Int32)) dX12_isMeeting_68 (by decide) ?_
      refine g_iload_n (pc := 69) (x := a1) dX12_isMeeting_69 rfl ?_
      refine g_imul (pc := 70) dX12_isMeeting_70 ?_
      refine g_iadd (pc := 71) dX12_isMeeting_71 ?_
      refine g_iconst (pc := 72) (v := (2 : Int32)) dX12_isMeeting_72 (by decide) ?_
      refine g_iadd (pc := 73) dX12_isMeeting_73 ?_
      refine g_iaload (pc := 74) dX12_isMeeting_74 sh_162 h.1 ?_
      have h := h.2
      refine g_icmp_gt (pc := 75) (tgt := 82) dX12_isMeeting_75 (by decide) (fun c75 => ?_) (fun c75 => ?_)
      · have c75_2 : (mm.1 162 (((120 : Int32) + ((3 : Int32) * a1)) + (2 : Int32)).toNatClampNeg) < ((v_X12_heightOf mm (mm.1 162 ((120 : Int32) + ((3 : Int32) * a1)).toNatClampNeg)) - (0 : Int32)) := c75
        refine g_iconst (pc := 82) (v := (0 : Int32)) dX12_isMeeting_82 (by decide) ?_
        exact g_iret (pc := 83) dX12_isMeeting_83 rfl rfl (nar_B isB0) ⟨Or.inr ⟨(show ¬ p_X12_isMeeting mm a1 from (fun h_ => h_.elim (fun z_ => (c31_0 z_.1)) (fun z_ => (fun h_ => h_.elim (fun z_ => (c48_1 z_.1)) (fun z_ => (not_not_intro c75_2) z_.2)) z_.2))), rfl⟩, rfl⟩
      · have c75_2 : ¬ (mm.1 162 (((120 : Int32) + ((3 : Int32) * a1)) + (2 : Int32)).toNatClampNeg) < ((v_X12_heightOf mm (mm.1 162 ((120 : Int32) + ((3 : Int32) * a1)).toNatClampNeg)) - (0 : Int32)) := c75
        refine g_iconst (pc := 78) (v := (1 : Int32)) dX12_isMeeting_78 (by decide) ?_
        refine g_goto (pc := 79) (tgt := 83) dX12_isMeeting_79 (by decide) ?_
        exact g_iret (pc := 83) dX12_isMeeting_83 rfl rfl (nar_B isB1) ⟨Or.inl ⟨(show p_X12_isMeeting mm a1 from (Or.inr ⟨c31_0, (Or.inr ⟨c48_1, c75_2⟩)⟩)), rfl⟩, rfl⟩
theorem dX12_reachedAt_0 : decode cX12_reachedAt 0 = .ok (.aload_n 0, 1) := by decide +kernel
theorem dX12_reachedAt_1 : decode cX12_reachedAt 1 = .ok (.iload_n 1, 1) := by decide +kernel
theorem dX12_reachedAt_2 : decode cX12_reachedAt 2 = .ok (.invokevirtual 399, 3) := by decide +kernel
theorem dX12_reachedAt_5 : decode cX12_reachedAt 5 = .ok (.istore 4, 2) := by decide +kernel
theorem dX12_reachedAt_7 : decode cX12_reachedAt 7 = .ok (.iconst 0, 1) := by decide +kernel
theorem dX12_reachedAt_8 : decode cX12_reachedAt 8 = .ok (.istore 5, 2) := by decide +kernel
theorem dX12_reachedAt_10 : decode cX12_reachedAt 10 = .ok (.iconst 0, 1) := by decide +kernel
theorem dX12_reachedAt_11 : decode cX12_reachedAt 11 = .ok (.istore 6, 2) := by decide +kernel
theorem dX12_reachedAt_13 : decode cX12_reachedAt 13 = .ok (.iload 6, 2) := by decide +kernel
theorem dX12_reachedAt_15 : decode cX12_reachedAt 15 = .ok (.aload_n 0, 1) := by decide +kernel
theorem dX12_reachedAt_16 : decode cX12_reachedAt 16 = .ok (.getfield 30, 3) := by decide +kernel
theorem dX12_reachedAt_19 : decode cX12_reachedAt 19 = .ok (.iconst 0, 1) := by decide +kernel
theorem dX12_reachedAt_20 : decode cX12_reachedAt 20 = .ok (.iaload, 1) := by decide +kernel
theorem dX12_reachedAt_21 : decode cX12_reachedAt 21 = .ok (.if_icmp .ge 35, 3) := by decide +kernel
theorem dX12_reachedAt_24 : decode cX12_reachedAt 24 = .ok (.aload_n 0, 1) := by decide +kernel
theorem dX12_reachedAt_25 : decode cX12_reachedAt 25 = .ok (.iload 6, 2) := by decide +kernel
theorem dX12_reachedAt_27 : decode cX12_reachedAt 27 = .ok (.invokevirtual 380, 3) := by decide +kernel
theorem dX12_reachedAt_30 : decode cX12_reachedAt 30 = .ok (.iload 4, 2) := by decide +kernel
theorem dX12_reachedAt_32 : decode cX12_reachedAt 32 = .ok (.if_icmp .lt 18, 3) := by decide +kernel
theorem dX12_reachedAt_35 : decode cX12_reachedAt 35 = .ok (.iload 6, 2) := by decide +kernel
theorem dX12_reachedAt_37 : decode cX12_reachedAt 37 = .ok (.iload_n 3, 1) := by decide +kernel
theorem dX12_reachedAt_38 : decode cX12_reachedAt 38 = .ok (.if_icmp .eq 12, 3) := by decide +kernel
theorem dX12_reachedAt_41 : decode cX12_reachedAt 41 = .ok (.iload 5, 2) := by decide +kernel
theorem dX12_reachedAt_43 : decode cX12_reachedAt 43 = .ok (.iconst 1, 1) := by decide +kernel
theorem dX12_reachedAt_44 : decode cX12_reachedAt 44 = .ok (.iload 6, 2) := by decide +kernel
theorem dX12_reachedAt_46 : decode cX12_reachedAt 46 = .ok (.ishl, 1) := by decide +kernel
theorem dX12_reachedAt_47 : decode cX12_reachedAt 47 = .ok (.ior, 1) := by decide +kernel
theorem dX12_reachedAt_48 : decode cX12_reachedAt 48 = .ok (.istore 5, 2) := by decide +kernel
theorem dX12_reachedAt_50 : decode cX12_reachedAt 50 = .ok (.iinc 6 1, 3) := by decide +kernel
theorem dX12_reachedAt_53 : decode cX12_reachedAt 53 = .ok (.goto (-40), 3) := by decide +kernel
theorem dX12_reachedAt_56 : decode cX12_reachedAt 56 = .ok (.iconst 0, 1) := by decide +kernel
theorem dX12_reachedAt_57 : decode cX12_reachedAt 57 = .ok (.istore 6, 2) := by decide +kernel
theorem dX12_reachedAt_59 : decode cX12_reachedAt 59 = .ok (.iconst 0, 1) := by decide +kernel
theorem dX12_reachedAt_60 : decode cX12_reachedAt 60 = .ok (.istore 7, 2) := by decide +kernel
theorem dX12_reachedAt_62 : decode cX12_reachedAt 62 = .ok (.iload 7, 2) := by decide +kernel
theorem dX12_reachedAt_64 : decode cX12_reachedAt 64 = .ok (.aload_n 0, 1) := by decide +kernel
theorem dX12_reachedAt_65 : decode cX12_reachedAt 65 = .ok (.getfield 30, 3) := by decide +kernel
theorem dX12_reachedAt_68 : decode cX12_reachedAt 68 = .ok (.iconst 4, 1) := by decide +kernel
theorem dX12_reachedAt_69 : decode cX12_reachedAt 69 = .ok (.iaload, 1) := by decide +kernel
theorem dX12_reachedAt_70 : decode cX12_reachedAt 70 = .ok (.if_icmp .ge 30, 3) := by decide +kernel
theorem dX12_reachedAt_73 : decode cX12_reachedAt 73 = .ok (.iload 6, 2) := by decide +kernel
theorem dX12_reachedAt_75 : decode cX12_reachedAt 75 = .ok (.iconst 1, 1) := by decide +kernel
theorem dX12_reachedAt_76 : decode cX12_reachedAt 76 = .ok (.aload_n 0, 1) := by decide +kernel
theorem dX12_reachedAt_77 : decode cX12_reachedAt 77 = .ok (.getfield 30, 3) := by decide +kernel
theorem dX12_reachedAt_80 : decode cX12_reachedAt 80 = .ok (.sipush 160, 3) := by decide +kernel
theorem dX12_reachedAt_83 : decode cX12_reachedAt 83 = .ok (.iload 7, 2) := by decide +kernel
theorem dX12_reachedAt_85 : decode cX12_reachedAt 85 = .ok (.iadd, 1) := by decide +kernel
theorem dX12_reachedAt_86 : decode cX12_reachedAt 86 = .ok (.iaload, 1) := by decide +kernel
theorem dX12_reachedAt_87 : decode cX12_reachedAt 87 = .ok (.ishl, 1) := by decide +kernel
theorem dX12_reachedAt_88 : decode cX12_reachedAt 88 = .ok (.iload 5, 2) := by decide +kernel
theorem dX12_reachedAt_90 : decode cX12_reachedAt 90 = .ok (.iand, 1) := by decide +kernel
theorem dX12_reachedAt_91 : decode cX12_reachedAt 91 = .ok (.ior, 1) := by decide +kernel
theorem dX12_reachedAt_92 : decode cX12_reachedAt 92 = .ok (.istore 6, 2) := by decide +kernel
theorem dX12_reachedAt_94 : decode cX12_reachedAt 94 = .ok (.iinc 7 1, 3) := by decide +kernel
theorem dX12_reachedAt_97 : decode cX12_reachedAt 97 = .ok (.goto (-35), 3) := by decide +kernel
theorem dX12_reachedAt_100 : decode cX12_reachedAt 100 = .ok (.iconst 1, 1) := by decide +kernel
theorem dX12_reachedAt_101 : decode cX12_reachedAt 101 = .ok (.istore 7, 2) := by decide +kernel
theorem dX12_reachedAt_103 : decode cX12_reachedAt 103 = .ok (.iload 7, 2) := by decide +kernel
theorem dX12_reachedAt_105 : decode cX12_reachedAt 105 = .ok (.ifCond .eq 159, 3) := by decide +kernel
theorem dX12_reachedAt_108 : decode cX12_reachedAt 108 = .ok (.iload 6, 2) := by decide +kernel
theorem dX12_reachedAt_110 : decode cX12_reachedAt 110 = .ok (.istore 8, 2) := by decide +kernel
theorem dX12_reachedAt_112 : decode cX12_reachedAt 112 = .ok (.iconst 0, 1) := by decide +kernel
theorem dX12_reachedAt_113 : decode cX12_reachedAt 113 = .ok (.istore 9, 2) := by decide +kernel
theorem dX12_reachedAt_115 : decode cX12_reachedAt 115 = .ok (.iload 9, 2) := by decide +kernel
theorem dX12_reachedAt_117 : decode cX12_reachedAt 117 = .ok (.aload_n 0, 1) := by decide +kernel
theorem dX12_reachedAt_118 : decode cX12_reachedAt 118 = .ok (.getfield 30, 3) := by decide +kernel
theorem dX12_reachedAt_121 : decode cX12_reachedAt 121 = .ok (.iconst 3, 1) := by decide +kernel
theorem dX12_reachedAt_122 : decode cX12_reachedAt 122 = .ok (.iaload, 1) := by decide +kernel
theorem dX12_reachedAt_123 : decode cX12_reachedAt 123 = .ok (.if_icmp .ge 124, 3) := by decide +kernel
theorem dX12_reachedAt_126 : decode cX12_reachedAt 126 = .ok (.iload 9, 2) := by decide +kernel
theorem dX12_reachedAt_128 : decode cX12_reachedAt 128 = .ok (.iload_n 2, 1) := by decide +kernel
theorem dX12_reachedAt_129 : decode cX12_reachedAt 129 = .ok (.if_icmp .eq 112, 3) := by decide +kernel
theorem dX12_reachedAt_132 : decode cX12_reachedAt 132 = .ok (.aload_n 0, 1) := by decide +kernel
theorem dX12_reachedAt_133 : decode cX12_reachedAt 133 = .ok (.iload 9, 2) := by decide +kernel
theorem dX12_reachedAt_135 : decode cX12_reachedAt 135 = .ok (.invokevirtual 402, 3) := by decide +kernel
theorem dX12_reachedAt_138 : decode cX12_reachedAt 138 = .ok (.ifCond .ne 6, 3) := by decide +kernel
theorem dX12_reachedAt_141 : decode cX12_reachedAt 141 = .ok (.goto 100, 3) := by decide +kernel
theorem dX12_reachedAt_144 : decode cX12_reachedAt 144 = .ok (.iconst 1, 1) := by decide +kernel
theorem dX12_reachedAt_145 : decode cX12_reachedAt 145 = .ok (.aload_n 0, 1) := by decide +kernel
theorem dX12_reachedAt_146 : decode cX12_reachedAt 146 = .ok (.getfield 30, 3) := by decide +kernel
theorem dX12_reachedAt_149 : decode cX12_reachedAt 149 = .ok (.bipush 120, 2) := by decide +kernel
theorem dX12_reachedAt_151 : decode cX12_reachedAt 151 = .ok (.iconst 3, 1) := by decide +kernel
theorem dX12_reachedAt_152 : decode cX12_reachedAt 152 = .ok (.iload 9, 2) := by decide +kernel
theorem dX12_reachedAt_154 : decode cX12_reachedAt 154 = .ok (.imul, 1) := by decide +kernel
theorem dX12_reachedAt_155 : decode cX12_reachedAt 155 = .ok (.iadd, 1) := by decide +kernel
theorem dX12_reachedAt_156 : decode cX12_reachedAt 156 = .ok (.iaload, 1) := by decide +kernel
theorem dX12_reachedAt_157 : decode cX12_reachedAt 157 = .ok (.ishl, 1) := by decide +kernel
theorem dX12_reachedAt_158 : decode cX12_reachedAt 158 = .ok (.istore 10, 2) := by decide +kernel
theorem dX12_reachedAt_160 : decode cX12_reachedAt 160 = .ok (.aload_n 0, 1) := by decide +kernel
theorem dX12_reachedAt_161 : decode cX12_reachedAt 161 = .ok (.getfield 30, 3) := by decide +kernel
theorem dX12_reachedAt_164 : decode cX12_reachedAt 164 = .ok (.bipush 120, 2) := by decide +kernel
theorem dX12_reachedAt_166 : decode cX12_reachedAt 166 = .ok (.iconst 3, 1) := by decide +kernel
theorem dX12_reachedAt_167 : decode cX12_reachedAt 167 = .ok (.iload 9, 2) := by decide +kernel
theorem dX12_reachedAt_169 : decode cX12_reachedAt 169 = .ok (.imul, 1) := by decide +kernel
theorem dX12_reachedAt_170 : decode cX12_reachedAt 170 = .ok (.iadd, 1) := by decide +kernel
theorem dX12_reachedAt_171 : decode cX12_reachedAt 171 = .ok (.iconst 1, 1) := by decide +kernel
theorem dX12_reachedAt_172 : decode cX12_reachedAt 172 = .ok (.iadd, 1) := by decide +kernel
theorem dX12_reachedAt_173 : decode cX12_reachedAt 173 = .ok (.iaload, 1) := by decide +kernel
theorem dX12_reachedAt_174 : decode cX12_reachedAt 174 = .ok (.istore 11, 2) := by decide +kernel
theorem dX12_reachedAt_176 : decode cX12_reachedAt 176 = .ok (.iload 11, 2) := by decide +kernel
theorem dX12_reachedAt_178 : decode cX12_reachedAt 178 = .ok (.ifCond .ge 21, 3) := by decide +kernel
theorem dX12_reachedAt_181 : decode cX12_reachedAt 181 = .ok (.iload 4, 2) := by decide +kernel
theorem dX12_reachedAt_183 : decode cX12_reachedAt 183 = .ok (.ifCond .ne 58, 3) := by decide +kernel
theorem dX12_reachedAt_186 : decode cX12_reachedAt 186 = .ok (.iload 6, 2) := by decide +kernel
theorem dX12_reachedAt_188 : decode cX12_reachedAt 188 = .ok (.iload 10, 2) := by decide +kernel
theorem dX12_reachedAt_190 : decode cX12_reachedAt 190 = .ok (.iload 5, 2) := by decide +kernel
theorem dX12_reachedAt_192 : decode cX12_reachedAt 192 = .ok (.iand, 1) := by decide +kernel
theorem dX12_reachedAt_193 : decode cX12_reachedAt 193 = .ok (.ior, 1) := by decide +kernel
theorem dX12_reachedAt_194 : decode cX12_reachedAt 194 = .ok (.istore 6, 2) := by decide +kernel
theorem dX12_reachedAt_196 : decode cX12_reachedAt 196 = .ok (.goto 45, 3) := by decide +kernel
theorem dX12_reachedAt_199 : decode cX12_reachedAt 199 = .ok (.iconst 1, 1) := by decide +kernel
theorem dX12_reachedAt_200 : decode cX12_reachedAt 200 = .ok (.iload 11, 2) := by decide +kernel
theorem dX12_reachedAt_202 : decode cX12_reachedAt 202 = .ok (.ishl, 1) := by decide +kernel
theorem dX12_reachedAt_203 : decode cX12_reachedAt 203 = .ok (.istore 12, 2) := by decide +kernel
theorem dX12_reachedAt_205 : decode cX12_reachedAt 205 = .ok (.iload 6, 2) := by decide +kernel
theorem dX12_reachedAt_207 : decode cX12_reachedAt 207 = .ok (.iload 10, 2) := by decide +kernel
theorem dX12_reachedAt_209 : decode cX12_reachedAt 209 = .ok (.iand, 1) := by decide +kernel
theorem dX12_reachedAt_210 : decode cX12_reachedAt 210 = .ok (.ifCond .eq 13, 3) := by decide +kernel
theorem dX12_reachedAt_213 : decode cX12_reachedAt 213 = .ok (.iload 6, 2) := by decide +kernel
theorem dX12_reachedAt_215 : decode cX12_reachedAt 215 = .ok (.iload 12, 2) := by decide +kernel
theorem dX12_reachedAt_217 : decode cX12_reachedAt 217 = .ok (.iload 5, 2) := by decide +kernel
theorem dX12_reachedAt_219 : decode cX12_reachedAt 219 = .ok (.iand, 1) := by decide +kernel
theorem dX12_reachedAt_220 : decode cX12_reachedAt 220 = .ok (.ior, 1) := by decide +kernel
theorem dX12_reachedAt_221 : decode cX12_reachedAt 221 = .ok (.istore 6, 2) := by decide +kernel
theorem dX12_reachedAt_223 : decode cX12_reachedAt 223 = .ok (.iload 6, 2) := by decide +kernel
theorem dX12_reachedAt_225 : decode cX12_reachedAt 225 = .ok (.iload 12, 2) := by decide +kernel
theorem dX12_reachedAt_227 : decode cX12_reachedAt 227 = .ok (.iand, 1) := by decide +kernel
theorem dX12_reachedAt_228 : decode cX12_reachedAt 228 = .ok (.ifCond .eq 13, 3) := by decide +kernel
theorem dX12_reachedAt_231 : decode cX12_reachedAt 231 = .ok (.iload 6, 2) := by decide +kernel
theorem dX12_reachedAt_233 : decode cX12_reachedAt 233 = .ok (.iload 10, 2) := by decide +kernel
theorem dX12_reachedAt_235 : decode cX12_reachedAt 235 = .ok (.iload 5, 2) := by decide +kernel
theorem dX12_reachedAt_237 : decode cX12_reachedAt 237 = .ok (.iand, 1) := by decide +kernel
theorem dX12_reachedAt_238 : decode cX12_reachedAt 238 = .ok (.ior, 1) := by decide +kernel
theorem dX12_reachedAt_239 : decode cX12_reachedAt 239 = .ok (.istore 6, 2) := by decide +kernel
theorem dX12_reachedAt_241 : decode cX12_reachedAt 241 = .ok (.iinc 9 1, 3) := by decide +kernel
theorem dX12_reachedAt_244 : decode cX12_reachedAt 244 = .ok (.goto (-129), 3) := by decide +kernel
theorem dX12_reachedAt_247 : decode cX12_reachedAt 247 = .ok (.iload 6, 2) := by decide +kernel
theorem dX12_reachedAt_249 : decode cX12_reachedAt 249 = .ok (.iload 8, 2) := by decide +kernel
theorem dX12_reachedAt_251 : decode cX12_reachedAt 251 = .ok (.if_icmp .eq 7, 3) := by decide +kernel
theorem dX12_reachedAt_254 : decode cX12_reachedAt 254 = .ok (.iconst 1, 1) := by decide +kernel
theorem dX12_reachedAt_255 : decode cX12_reachedAt 255 = .ok (.goto 4, 3) := by decide +kernel
theorem dX12_reachedAt_258 : decode cX12_reachedAt 258 = .ok (.iconst 0, 1) := by decide +kernel
theorem dX12_reachedAt_259 : decode cX12_reachedAt 259 = .ok (.istore 7, 2) := by decide +kernel
theorem dX12_reachedAt_261 : decode cX12_reachedAt 261 = .ok (.goto (-158), 3) := by decide +kernel
theorem dX12_reachedAt_264 : decode cX12_reachedAt 264 = .ok (.iload 6, 2) := by decide +kernel
theorem dX12_reachedAt_266 : decode cX12_reachedAt 266 = .ok (.ireturn, 1) := by decide +kernel
theorem b_X12_reachedAt (mm : MM) (Q : Value → MM → Prop) (a1 : Int32) (a2 : Int32) (a3 : Int32) (h : ∃ Pm1 : Value → MM → Prop, Runs e_X12_tideOf [.ref 156, .int a1] mm Pm1 ∧ ∀ (r1 : Int32) (m1 : MM), Pm1 (.int r1) m1 → (G e_X12_reachedAt 13 [(0, .ref 156), (2, .int a2), (3, .int a3), (4, .int r1), (5, .int (0 : Int32)), (6, .int (0 : Int32))] [] m1 Q)) : Runs e_X12_reachedAt [.ref 156, .int a1, .int a2, .int a3] mm Q := by
  refine runs_of_G (L := [(0, .ref 156), (1, .int a1), (2, .int a2), (3, .int a3)]) pl_X12 (Nat.le_of_ble_eq_true rfl) rfl ?_
  refine g_aload_n (pc := 0) (x := 156) dX12_reachedAt_0 rfl ?_
  refine g_iload_n (pc := 1) (x := a1) dX12_reachedAt_1 rfl ?_
  obtain ⟨Pm1, hRm1, h⟩ := h
  refine g_callV (pc := 2) (as := [.int a1]) dX12_reachedAt_2 cw_X12_399 (by decide) rfl rfl sh_156 (Nat.le_of_ble_eq_true rfl) hRm1 ?_
  intro r_ m1 hz_ hp_
  obtain ⟨r1, rfl⟩ := hz_
  have h := h r1 m1 hp_
  refine g_istore (pc := 5) (L' := [(0, .ref 156), (1, .int a1), (2, .int a2), (3, .int a3), (4, .int r1)]) dX12_reachedAt_5 (Nat.le_of_ble_eq_true rfl) rfl ?_
  refine g_iconst (pc := 7) (v := (0 : Int32)) dX12_reachedAt_7 (by decide) ?_
  refine g_istore (pc := 8) (L' := [(0, .ref 156), (1, .int a1), (2, .int a2), (3, .int a3), (4, .int r1), (5, .int (0 : Int32))]) dX12_reachedAt_8 (Nat.le_of_ble_eq_true rfl) rfl ?_
  refine g_iconst (pc := 10) (v := (0 : Int32)) dX12_reachedAt_10 (by decide) ?_
  refine g_istore (pc := 11) (L' := [(0, .ref 156), (1, .int a1), (2, .int a2), (3, .int a3), (4, .int r1), (5, .int (0 : Int32)), (6, .int (0 : Int32))]) dX12_reachedAt_11 (Nat.le_of_ble_eq_true rfl) rfl ?_
  refine g_sub (L' := [(0, .ref 156), (2, .int a2), (3, .int a3), (4, .int r1), (5, .int (0 : Int32)), (6, .int (0 : Int32))]) [0, 2, 3, 4, 5, 6] rfl ?_
  exact h
theorem b_X12_reachedAt_13 (mm : MM) (Q : Value → MM → Prop) (l2 : Int32) (l3 : Int32) (l4 : Int32) (l5 : Int32) (l6 : Int32) (h : ((mm.1 162 0) ≤ l6 → (G e_X12_reachedAt 62 [(0, .ref 156), (2, .int l2), (4, .int l4), (5, .int l5), (6, .int (0 : Int32)), (7, .int (0 : Int32))] [] mm Q)) ∧ (¬ (mm.1 162 0) ≤ l6 → (o_X12_heightOf mm l6 ∧ (((v_X12_heightOf mm l6) < l4 → (G e_X12_reachedAt 13 [(0, .ref 156), (2, .int l2), (3, .int l3), (4, .int l4), (5, .int l5), (6, .int (l6 + (1 : Int32)))] [] mm Q)) ∧ (¬ (v_X12_heightOf mm l6) < l4 → ((l6 = l3 → (G e_X12_reachedAt 13 [(0, .ref 156), (2, .int l2), (3, .int l3), (4, .int l4), (5, .int l5), (6, .int (l6 + (1 : Int32)))] [] mm Q)) ∧ (¬ l6 = l3 → (G e_X12_reachedAt 13 [(0, .ref 156), (2, .int l2), (3, .int l3), (4, .int l4), (5, .int (l5 ||| ((1 : Int32) <<< (l6 &&& 31)))), (6, .int (l6 + (1 : Int32)))] [] mm Q)))))))) : G e_X12_reachedAt 13 [(0, .ref 156), (2, .int l2), (3, .int l3), (4, .int l4), (5, .int l5), (6, .int l6)] [] mm Q := by
  refine g_iload (pc := 13) (x := l6) dX12_reachedAt_13 rfl ?_
  refine g_aload_n (pc := 15) (x := 156) dX12_reachedAt_15 rfl ?_
  refine g_getR (pc := 16) (dd := 6) dX12_reachedAt_16 fo_X12_30 sh_156 rfl ?_
  refine g_iconst (pc := 19) (v := (0 : Int32)) dX12_reachedAt_19 (by decide) ?_
  refine g_iaload (pc := 20) dX12_reachedAt_20 sh_162 (vp_in_nI (n := 0) (N := 420) (by decide) (by decide)) ?_
  refine g_icmp_ge (pc := 21) (tgt := 56) dX12_reachedAt_21 (by decide) (fun c21 => ?_) (fun c21 => ?_)
  · have h := h.1 c21
    refine g_iconst (pc := 56) (v := (0 : Int32)) dX12_reachedAt_56 (by decide) ?_
    refine g_istore (pc := 57) (L' := [(0, .ref 156), (2, .int l2), (3, .int l3), (4, .int l4), (5, .int l5), (6, .int (0 : Int32))]) dX12_reachedAt_57 (Nat.le_of_ble_eq_true rfl) rfl ?_
    refine g_iconst (pc := 59) (v := (0 : Int32)) dX12_reachedAt_59 (by decide) ?_
    refine g_istore (pc := 60) (L' := [(0, .ref 156), (2, .int l2), (3, .int l3), (4, .int l4), (5, .int l5), (6, .int (0 : Int32)), (7, .int (0 : Int32))]) dX12_reachedAt_60 (Nat.le_of_ble_eq_true rfl) rfl ?_
    refine g_sub (L' := [(0, .ref 156), (2, .int l2), (4, .int l4), (5, .int l5), (6, .int (0 : Int32)), (7, .int (0 : Int32))]) [0, 1, 3, 4, 5, 6] rfl ?_
    exact h
  · have h := h.2 c21
    refine g_aload_n (pc := 24) (x := 156) dX12_reachedAt_24 rfl ?_
    refine g_iload (pc := 25) (x := l6) dX12_reachedAt_25 rfl ?_
    refine g_callV (pc := 27) (as := [.int l6]) dX12_reachedAt_27 cw_X12_380 (by decide) rfl rfl sh_156 (Nat.le_of_ble_eq_true rfl) (rv_X12_heightOf mm l6 h.1) ?_
    have h := h.2
    rintro r_ m_ hz_ ⟨rfl, rfl⟩
    refine g_iload (pc := 30) (x := l4) dX12_reachedAt_30 rfl ?_
    refine g_icmp_lt (pc := 32) (tgt := 50) dX12_reachedAt_32 (by decide) (fun c32 => ?_) (fun c32 => ?_)
    · have h := h.1 c32
      refine g_iinc (pc := 50) (x := l6) (v := (l6 + (1 : Int32))) (L' := [(0, .ref 156), (2, .int l2), (3, .int l3), (4, .int l4), (5, .int l5), (6, .int (l6 + (1 : Int32)))]) dX12_reachedAt_50 rfl rfl (Nat.le_of_ble_eq_true rfl) rfl ?_
      refine g_goto (pc := 53) (tgt := 13) dX12_reachedAt_53 (by decide) ?_
      exact h
    · have h := h.2 c32
      refine g_iload (pc := 35) (x := l6) dX12_reachedAt_35 rfl ?_
      refine g_iload_n (pc := 37) (x := l3) dX12_reachedAt_37 rfl ?_
      refine g_icmp_eq (pc := 38) (tgt := 50) dX12_reachedAt_38 (by decide) (fun c38 => ?_) (fun c38 => ?_)
      · have h := h.1 c38
        refine g_iinc (pc := 50) (x := l6) (v := (l6 + (1 : Int32))) (L' := [(0, .ref 156), (2, .int l2), (3, .int l3), (4, .int l4), (5, .int l5), (6, .int (l6 + (1 : Int32)))]) dX12_reachedAt_50 rfl rfl (Nat.le_of_ble_eq_true rfl) rfl ?_
        refine g_goto (pc := 53) (tgt := 13) dX12_reachedAt_53 (by decide) ?_
        exact h
      · have h := h.2 c38
        refine g_iload (pc := 41) (x := l5) dX12_reachedAt_41 rfl ?_
        refine g_iconst (pc := 43) (v := (1 : Int32)) dX12_reachedAt_43 (by decide) ?_
        refine g_iload (pc := 44) (x := l6) dX12_reachedAt_44 rfl ?_
        refine g_ishl (pc := 46) dX12_reachedAt_46 ?_
        refine g_ior (pc := 47) dX12_reachedAt_47 ?_
        refine g_istore (pc := 48) (L' := [(0, .ref 156), (2, .int l2), (3, .int l3), (4, .int l4), (5, .int (l5 ||| ((1 : Int32) <<< (l6 &&& 31)))), (6, .int l6)]) dX12_reachedAt_48 (Nat.le_of_ble_eq_true rfl) rfl ?_
        refine g_iinc (pc := 50) (x := l6) (v := (l6 + (1 : Int32))) (L' := [(0, .ref 156), (2, .int l2), (3, .int l3), (4, .int l4), (5, .int (l5 ||| ((1 : Int32) <<< (l6 &&& 31)))), (6, .int (l6 + (1 : Int32)))]) dX12_reachedAt_50 rfl rfl (Nat.le_of_ble_eq_true rfl) rfl ?_
        refine g_goto (pc := 53) (tgt := 13) dX12_reachedAt_53 (by decide) ?_
        exact h
theorem b_X12_reachedAt_62 (mm : MM) (Q : Value → MM → Prop) (l2 : Int32) (l4 : Int32) (l5 : Int32) (l6 : Int32) (l7 : Int32) (h : ((mm.1 162 4) ≤ l7 → (G e_X12_reachedAt 103 [(0, .ref 156), (2, .int l2), (4, .int l4), (5, .int l5), (6, .int l6), (7, .int (1 : Int32))] [] mm Q)) ∧ (¬ (mm.1 162 4) ≤ l7 → (vp_in ((160 : Int32) + l7) 420 ∧ (G e_X12_reachedAt 62 [(0, .ref 156), (2, .int l2), (4, .int l4), (5, .int l5), (6, .int (l6 ||| (((1 : Int32) <<< ((mm.1 162 ((160 : Int32) + l7).toNatClampNeg) &&& 31)) &&& l5))), (7, .int (l7 + (1 : Int32)))] [] mm Q)))) : G e_X12_reachedAt 62 [(0, .ref 156), (2, .int l2), (4, .int l4), (5, .int l5), (6, .int l6), (7, .int l7)] [] mm Q := by
  refine g_iload (pc := 62) (x := l7) dX12_reachedAt_62 rfl ?_
  refine g_aload_n (pc := 64) (x := 156) dX12_reachedAt_64 rfl ?_
  refine g_getR (pc := 65) (dd := 6) dX12_reachedAt_65 fo_X12_30 sh_156 rfl ?_
  refine g_iconst (pc := 68) (v := (4 : Int32)) dX12_reachedAt_68 (by decide) ?_
  refine g_iaload (pc := 69) dX12_reachedAt_69 sh_162 (vp_in_nI (n := 4) (N := 420) (by decide) (by decide)) ?_
  refine g_icmp_ge (pc := 70) (tgt := 100) dX12_reachedAt_70 (by decide) (fun c70 => ?_) (fun c70 => ?_)
  · have h := h.1 c70
    refine g_iconst (pc := 100) (v := (1 : Int32)) dX12_reachedAt_100 (by decide) ?_
    refine g_istore (pc := 101) (L' := [(0, .ref 156), (2, .int l2), (4, .int l4), (5, .int l5), (6, .int l6), (7, .int (1 : Int32))]) dX12_reachedAt_101 (Nat.le_of_ble_eq_true rfl) rfl ?_
    exact h
  · have h := h.2 c70
    refine g_iload (pc := 73) (x := l6) dX12_reachedAt_73 rfl ?_
    refine g_iconst (pc := 75) (v := (1 : Int32)) dX12_reachedAt_75 (by decide) ?_
    refine g_aload_n (pc := 76) (x := 156) dX12_reachedAt_76 rfl ?_
    refine g_getR (pc := 77) (dd := 6) dX12_reachedAt_77 fo_X12_30 sh_156 rfl ?_
    refine g_sipush (pc := 80) (v := (160 : Int32)) dX12_reachedAt_80 (by decide) ?_
    refine g_iload (pc := 83) (x := l7) dX12_reachedAt_83 rfl ?_
    refine g_iadd (pc := 85) dX12_reachedAt_85 ?_
    refine g_iaload (pc := 86) dX12_reachedAt_86 sh_162 h.1 ?_
    have h := h.2
    refine g_ishl (pc := 87) dX12_reachedAt_87 ?_
    refine g_iload (pc := 88) (x := l5) dX12_reachedAt_88 rfl ?_
    refine g_iand (pc := 90) dX12_reachedAt_90 ?_
    refine g_ior (pc := 91) dX12_reachedAt_91 ?_
    refine g_istore (pc := 92) (L' := [(0, .ref 156), (2, .int l2), (4, .int l4), (5, .int l5), (6, .int (l6 ||| (((1 : Int32) <<< ((mm.1 162 ((160 : Int32) + l7).toNatClampNeg) &&& 31)) &&& l5))), (7, .int l7)]) dX12_reachedAt_92 (Nat.le_of_ble_eq_true rfl) rfl ?_
    refine g_iinc (pc := 94) (x := l7) (v := (l7 + (1 : Int32))) (L' := [(0, .ref 156), (2, .int l2), (4, .int l4), (5, .int l5), (6, .int (l6 ||| (((1 : Int32) <<< ((mm.1 162 ((160 : Int32) + l7).toNatClampNeg) &&& 31)) &&& l5))), (7, .int (l7 + (1 : Int32)))]) dX12_reachedAt_94 rfl rfl (Nat.le_of_ble_eq_true rfl) rfl ?_
    refine g_goto (pc := 97) (tgt := 62) dX12_reachedAt_97 (by decide) ?_
    exact h
theorem b_X12_reachedAt_103 (mm : MM) (Q : Value → MM → Prop) (l2 : Int32) (l4 : Int32) (l5 : Int32) (l6 : Int32) (l7 : Int32) (h : (l7 = 0 → (Q (.int l6) mm)) ∧ (¬ l7 = 0 → (G e_X12_reachedAt 115 [(0, .ref 156), (2, .int l2), (4, .int l4), (5, .int l5), (6, .int l6), (8, .int l6), (9, .int (0 : Int32))] [] mm Q))) : G e_X12_reachedAt 103 [(0, .ref 156), (2, .int l2), (4, .int l4), (5, .int l5), (6, .int l6), (7, .int l7)] [] mm Q := by
  refine g_iload (pc := 103) (x := l7) dX12_reachedAt_103 rfl ?_
  refine g_if_eq (pc := 105) (tgt := 264) dX12_reachedAt_105 (by decide) (fun c105 => ?_) (fun c105 => ?_)
  · have h := h.1 c105
    refine g_iload (pc := 264) (x := l6) dX12_reachedAt_264 rfl ?_
    exact g_iret (pc := 266) dX12_reachedAt_266 rfl rfl rfl h
  · have h := h.2 c105
    refine g_iload (pc := 108) (x := l6) dX12_reachedAt_108 rfl ?_
    refine g_istore (pc := 110) (L' := [(0, .ref 156), (2, .int l2), (4, .int l4), (5, .int l5), (6, .int l6), (7, .int l7), (8, .int l6)]) dX12_reachedAt_110 (Nat.le_of_ble_eq_true rfl) rfl ?_
    refine g_iconst (pc := 112) (v := (0 : Int32)) dX12_reachedAt_112 (by decide) ?_
    refine g_istore (pc := 113) (L' := [(0, .ref 156), (2, .int l2), (4, .int l4), (5, .int l5), (6, .int l6), (7, .int l7), (8, .int l6), (9, .int (0 : Int32))]) dX12_reachedAt_113 (Nat.le_of_ble_eq_true rfl) rfl ?_
    refine g_sub (L' := [(0, .ref 156), (2, .int l2), (4, .int l4), (5, .int l5), (6, .int l6), (8, .int l6), (9, .int (0 : Int32))]) [0, 1, 2, 3, 4, 6, 7] rfl ?_
    exact h
theorem b_X12_reachedAt_115 (mm : MM) (Q : Value → MM → Prop) (l2 : Int32) (l4 : Int32) (l5 : Int32) (l6 : Int32) (l8 : Int32) (l9 : Int32) (h : ((mm.1 162 3) ≤ l9 → ((l6 = l8 → (G e_X12_reachedAt 103 [(0, .ref 156), (2, .int l2), (4, .int l4), (5, .int l5), (6, .int l6), (7, .int (0 : Int32))] [] mm Q)) ∧ (¬ l6 = l8 → (G e_X12_reachedAt 103 [(0, .ref 156), (2, .int l2), (4, .int l4), (5, .int l5), (6, .int l6), (7, .int (1 : Int32))] [] mm Q)))) ∧ (¬ (mm.1 162 3) ≤ l9 → ((l9 = l2 → (G e_X12_reachedAt 115 [(0, .ref 156), (2, .int l2), (4, .int l4), (5, .int l5), (6, .int l6), (8, .int l8), (9, .int (l9 + (1 : Int32)))] [] mm Q)) ∧ (¬ l9 = l2 → (o_X12_isMeeting mm l9 ∧ ((p_X12_isMeeting mm l9 → (vp_in ((120 : Int32) + ((3 : Int32) * l9)) 420 ∧ (vp_in (((120 : Int32) + ((3 : Int32) * l9)) + (1 : Int32)) 420 ∧ ((0 ≤ (mm.1 162 (((120 : Int32) + ((3 : Int32) * l9)) + (1 : Int32)).toNatClampNeg) → (((l6 &&& ((1 : Int32) <<< ((mm.1 162 ((120 : Int32) + ((3 : Int32) * l9)).toNatClampNeg) &&& 31))) = 0 → (((l6 &&& ((1 : Int32) <<< ((mm.1 162 (((120 : Int32) + ((3 : Int32) * l9)) + (1 : Int32)).toNatClampNeg) &&& 31))) = 0 → (G e_X12_reachedAt 115 [(0, .ref 156), (2, .int l2), (4, .int l4), (5, .int l5), (6, .int l6), (8, .int l8), (9, .int (l9 + (1 : Int32)))] [] mm Q)) ∧ (¬ (l6 &&& ((1 : Int32) <<< ((mm.1 162 (((120 : Int32) + ((3 : Int32) * l9)) + (1 : Int32)).toNatClampNeg) &&& 31))) = 0 → (G e_X12_reachedAt 115 [(0, .ref 156), (2, .int l2), (4, .int l4), (5, .int l5), (6, .int (l6 ||| (((1 : Int32) <<< ((mm.1 162 ((120 : Int32) + ((3 : Int32) * l9)).toNatClampNeg) &&& 31)) &&& l5))), (8, .int l8), (9, .int (l9 + (1 : Int32)))] [] mm Q)))) ∧ (¬ (l6 &&& ((1 : Int32) <<< ((mm.1 162 ((120 : Int32) + ((3 : Int32) * l9)).toNatClampNeg) &&& 31))) = 0 → ((((l6 ||| (((1 : Int32) <<< ((mm.1 162 (((120 : Int32) + ((3 : Int32) * l9)) + (1 : Int32)).toNatClampNeg) &&& 31)) &&& l5)) &&& ((1 : Int32) <<< ((mm.1 162 (((120 : Int32) + ((3 : Int32) * l9)) + (1 : Int32)).toNatClampNeg) &&& 31))) = 0 → (G e_X12_reachedAt 115 [(0, .ref 156), (2, .int l2), (4, .int l4), (5, .int l5), (6, .int (l6 ||| (((1 : Int32) <<< ((mm.1 162 (((120 : Int32) + ((3 : Int32) * l9)) + (1 : Int32)).toNatClampNeg) &&& 31)) &&& l5))), (8, .int l8), (9, .int (l9 + (1 : Int32)))] [] mm Q)) ∧ (¬ ((l6 ||| (((1 : Int32) <<< ((mm.1 162 (((120 : Int32) + ((3 : Int32) * l9)) + (1 : Int32)).toNatClampNeg) &&& 31)) &&& l5)) &&& ((1 : Int32) <<< ((mm.1 162 (((120 : Int32) + ((3 : Int32) * l9)) + (1 : Int32)).toNatClampNeg) &&& 31))) = 0 → (G e_X12_reachedAt 115 [(0, .ref 156), (2, .int l2), (4, .int l4), (5, .int l5), (6, .int ((l6 ||| (((1 : Int32) <<< ((mm.1 162 (((120 : Int32) + ((3 : Int32) * l9)) + (1 : Int32)).toNatClampNeg) &&& 31)) &&& l5)) ||| (((1 : Int32) <<< ((mm.1 162 ((120 : Int32) + ((3 : Int32) * l9)).toNatClampNeg) &&& 31)) &&& l5))), (8, .int l8), (9, .int (l9 + (1 : Int32)))] [] mm Q)))))) ∧ (¬ 0 ≤ (mm.1 162 (((120 : Int32) + ((3 : Int32) * l9)) + (1 : Int32)).toNatClampNeg) → ((¬ l4 = 0 → (G e_X12_reachedAt 115 [(0, .ref 156), (2, .int l2), (4, .int l4), (5, .int l5), (6, .int l6), (8, .int l8), (9, .int (l9 + (1 : Int32)))] [] mm Q)) ∧ (l4 = 0 → (G e_X12_reachedAt 115 [(0, .ref 156), (2, .int l2), (4, .int l4), (5, .int l5), (6, .int (l6 ||| (((1 : Int32) <<< ((mm.1 162 ((120 : Int32) + ((3 : Int32) * l9)).toNatClampNeg) &&& 31)) &&& l5))), (8, .int l8), (9, .int (l9 + (1 : Int32)))] [] mm Q)))))))) ∧ (¬ p_X12_isMeeting mm l9 → (G e_X12_reachedAt 115 [(0, .ref 156), (2, .int l2), (4, .int l4), (5, .int l5), (6, .int l6), (8, .int l8), (9, .int (l9 + (1 : Int32)))] [] mm Q)))))))) : G e_X12_reachedAt 115 [(0, .ref 156), (2, .int l2), (4, .int l4), (5, .int l5), (6, .int l6), (8, .int l8), (9, .int l9)] [] mm Q := by
  refine g_iload (pc := 115) (x := l9) dX12_reachedAt_115 rfl ?_
  refine g_aload_n (pc := 117) (x := 156) dX12_reachedAt_117 rfl ?_
  refine g_getR (pc := 118) (dd := 6) dX12_reachedAt_118 fo_X12_30 sh_156 rfl ?_
  refine g_iconst (pc := 121) (v := (3 : Int32)) dX12_reachedAt_121 (by decide) ?_
  refine g_iaload (pc := 122) dX12_reachedAt_122 sh_162 (vp_in_nI (n := 3) (N := 420) (by decide) (by decide)) ?_
  refine g_icmp_ge (pc := 123) (tgt := 247) dX12_reachedAt_123 (by decide) (fun c123 => ?_) (fun c123 => ?_)
  · have h := h.1 c123
    refine g_iload (pc := 247) (x := l6) dX12_reachedAt_247 rfl ?_
    refine g_iload (pc := 249) (x := l8) dX12_reachedAt_249 rfl ?_
    refine g_icmp_eq (pc := 251) (tgt := 258) dX12_reachedAt_251 (by decide) (fun c251 => ?_) (fun c251 => ?_)
    · have h := h.1 c251
      refine g_iconst (pc := 258) (v := (0 : Int32)) dX12_reachedAt_258 (by decide) ?_
      refine g_istore (pc := 259) (L' := [(0, .ref 156), (2, .int l2), (4, .int l4), (5, .int l5), (6, .int l6), (8, .int l8), (9, .int l9), (7, .int (0 : Int32))]) dX12_reachedAt_259 (Nat.le_of_ble_eq_true rfl) rfl ?_
      refine g_goto (pc := 261) (tgt := 103) dX12_reachedAt_261 (by decide) ?_
      refine g_sub (L' := [(0, .ref 156), (2, .int l2), (4, .int l4), (5, .int l5), (6, .int l6), (7, .int (0 : Int32))]) [0, 1, 2, 3, 4, 7] rfl ?_
      exact h
    · have h := h.2 c251
      refine g_iconst (pc := 254) (v := (1 : Int32)) dX12_reachedAt_254 (by decide) ?_
      refine g_goto (pc := 255) (tgt := 259) dX12_reachedAt_255 (by decide) ?_
      refine g_istore (pc := 259) (L' := [(0, .ref 156), (2, .int l2), (4, .int l4), (5, .int l5), (6, .int l6), (8, .int l8), (9, .int l9), (7, .int (1 : Int32))]) dX12_reachedAt_259 (Nat.le_of_ble_eq_true rfl) rfl ?_
      refine g_goto (pc := 261) (tgt := 103) dX12_reachedAt_261 (by decide) ?_
      refine g_sub (L' := [(0, .ref 156), (2, .int l2), (4, .int l4), (5, .int l5), (6, .int l6), (7, .int (1 : Int32))]) [0, 1, 2, 3, 4, 7] rfl ?_
      exact h
  · have h := h.2 c123
    refine g_iload (pc := 126) (x := l9) dX12_reachedAt_126 rfl ?_
    refine g_iload_n (pc := 128) (x := l2) dX12_reachedAt_128 rfl ?_
    refine g_icmp_eq (pc := 129) (tgt := 241) dX12_reachedAt_129 (by decide) (fun c129 => ?_) (fun c129 => ?_)
    · have h := h.1 c129
      refine g_iinc (pc := 241) (x := l9) (v := (l9 + (1 : Int32))) (L' := [(0, .ref 156), (2, .int l2), (4, .int l4), (5, .int l5), (6, .int l6), (8, .int l8), (9, .int (l9 + (1 : Int32)))]) dX12_reachedAt_241 rfl rfl (Nat.le_of_ble_eq_true rfl) rfl ?_
      refine g_goto (pc := 244) (tgt := 115) dX12_reachedAt_244 (by decide) ?_
      exact h
    · have h := h.2 c129
      refine g_aload_n (pc := 132) (x := 156) dX12_reachedAt_132 rfl ?_
      refine g_iload (pc := 133) (x := l9) dX12_reachedAt_133 rfl ?_
      refine g_callV (pc := 135) (as := [.int l9]) dX12_reachedAt_135 cw_X12_402 (by decide) rfl rfl sh_156 (Nat.le_of_ble_eq_true rfl) (rv_X12_isMeeting mm l9 h.1) ?_
      have h := h.2
      rintro r_ m_ hz_ ⟨⟨p_, rfl⟩ | ⟨p_, rfl⟩, rfl⟩
      · have h := h.1 p_
        refine g_if_ne (pc := 138) (tgt := 144) dX12_reachedAt_138 (by decide) (fun _ => ?_) (fun c138 => absurd c138 (by decide))
        refine g_iconst (pc := 144) (v := (1 : Int32)) dX12_reachedAt_144 (by decide) ?_
        refine g_aload_n (pc := 145) (x := 156) dX12_reachedAt_145 rfl ?_
        refine g_getR (pc := 146) (dd := 6) dX12_reachedAt_146 fo_X12_30 sh_156 rfl ?_
        refine g_bipush (pc := 149) (v := (120 : Int32)) dX12_reachedAt_149 (by decide) ?_
        refine g_iconst (pc := 151) (v := (3 : Int32)) dX12_reachedAt_151 (by decide) ?_
        refine g_iload (pc := 152) (x := l9) dX12_reachedAt_152 rfl ?_
        refine g_imul (pc := 154) dX12_reachedAt_154 ?_
        refine g_iadd (pc := 155) dX12_reachedAt_155 ?_
        refine g_iaload (pc := 156) dX12_reachedAt_156 sh_162 h.1 ?_
        have h := h.2
        refine g_ishl (pc := 157) dX12_reachedAt_157 ?_
        refine g_istore (pc := 158) (L' := [(0, .ref 156), (2, .int l2), (4, .int l4), (5, .int l5), (6, .int l6), (8, .int l8), (9, .int l9), (10, .int ((1 : Int32) <<< ((mm.1 162 ((120 : Int32) + ((3 : Int32) * l9)).toNatClampNeg) &&& 31)))]) dX12_reachedAt_158 (Nat.le_of_ble_eq_true rfl) rfl ?_
        refine g_aload_n (pc := 160) (x := 156) dX12_reachedAt_160 rfl ?_
        refine g_getR (pc := 161) (dd := 6) dX12_reachedAt_161 fo_X12_30 sh_156 rfl ?_
        refine g_bipush (pc := 164) (v := (120 : Int32)) dX12_reachedAt_164 (by decide) ?_
        refine g_iconst (pc := 166) (v := (3 : Int32)) dX12_reachedAt_166 (by decide) ?_
        refine g_iload (pc := 167) (x := l9) dX12_reachedAt_167 rfl ?_
        refine g_imul (pc := 169) dX12_reachedAt_169 ?_
        refine g_iadd (pc := 170) dX12_reachedAt_170 ?_
        refine g_iconst (pc := 171) (v := (1 : Int32)) dX12_reachedAt_171 (by decide) ?_
        refine g_iadd (pc := 172) dX12_reachedAt_172 ?_
        refine g_iaload (pc := 173) dX12_reachedAt_173 sh_162 h.1 ?_
        have h := h.2
        refine g_istore (pc := 174) (L' := [(0, .ref 156), (2, .int l2), (4, .int l4), (5, .int l5), (6, .int l6), (8, .int l8), (9, .int l9), (10, .int ((1 : Int32) <<< ((mm.1 162 ((120 : Int32) + ((3 : Int32) * l9)).toNatClampNeg) &&& 31))), (11, .int (mm.1 162 (((120 : Int32) + ((3 : Int32) * l9)) + (1 : Int32)).toNatClampNeg))]) dX12_reachedAt_174 (Nat.le_of_ble_eq_true rfl) rfl ?_
        refine g_iload (pc := 176) (x := (mm.1 162 (((120 : Int32) + ((3 : Int32) * l9)) + (1 : Int32)).toNatClampNeg)) dX12_reachedAt_176 rfl ?_
        refine g_if_ge (pc := 178) (tgt := 199) dX12_reachedAt_178 (by decide) (fun c178 => ?_) (fun c178 => ?_)
        · have h := h.1 c178
          refine g_iconst (pc := 199) (v := (1 : Int32)) dX12_reachedAt_199 (by decide) ?_
          refine g_iload (pc := 200) (x := (mm.1 162 (((120 : Int32) + ((3 : Int32) * l9)) + (1 : Int32)).toNatClampNeg)) dX12_reachedAt_200 rfl ?_
          refine g_ishl (pc := 202) dX12_reachedAt_202 ?_
          refine g_istore (pc := 203) (L' := [(0, .ref 156), (2, .int l2), (4, .int l4), (5, .int l5), (6, .int l6), (8, .int l8), (9, .int l9), (10, .int ((1 : Int32) <<< ((mm.1 162 ((120 : Int32) + ((3 : Int32) * l9)).toNatClampNeg) &&& 31))), (11, .int (mm.1 162 (((120 : Int32) + ((3 : Int32) * l9)) + (1 : Int32)).toNatClampNeg)), (12, .int ((1 : Int32) <<< ((mm.1 162 (((120 : Int32) + ((3 : Int32) * l9)) + (1 : Int32)).toNatClampNeg) &&& 31)))]) dX12_reachedAt_203 (Nat.le_of_ble_eq_true rfl) rfl ?_
          refine g_iload (pc := 205) (x := l6) dX12_reachedAt_205 rfl ?_
          refine g_iload (pc := 207) (x := ((1 : Int32) <<< ((mm.1 162 ((120 : Int32) + ((3 : Int32) * l9)).toNatClampNeg) &&& 31))) dX12_reachedAt_207 rfl ?_
          refine g_iand (pc := 209) dX12_reachedAt_209 ?_
          refine g_if_eq (pc := 210) (tgt := 223) dX12_reachedAt_210 (by decide) (fun c210 => ?_) (fun c210 => ?_)
          · have h := h.1 c210
            refine g_iload (pc := 223) (x := l6) dX12_reachedAt_223 rfl ?_
            refine g_iload (pc := 225) (x := ((1 : Int32) <<< ((mm.1 162 (((120 : Int32) + ((3 : Int32) * l9)) + (1 : Int32)).toNatClampNeg) &&& 31))) dX12_reachedAt_225 rfl ?_
            refine g_iand (pc := 227) dX12_reachedAt_227 ?_
            refine g_if_eq (pc := 228) (tgt := 241) dX12_reachedAt_228 (by decide) (fun c228 => ?_) (fun c228 => ?_)
            · have h := h.1 c228
              refine g_iinc (pc := 241) (x := l9) (v := (l9 + (1 : Int32))) (L' := [(0, .ref 156), (2, .int l2), (4, .int l4), (5, .int l5), (6, .int l6), (8, .int l8), (9, .int (l9 + (1 : Int32))), (10, .int ((1 : Int32) <<< ((mm.1 162 ((120 : Int32) + ((3 : Int32) * l9)).toNatClampNeg) &&& 31))), (11, .int (mm.1 162 (((120 : Int32) + ((3 : Int32) * l9)) + (1 : Int32)).toNatClampNeg)), (12, .int ((1 : Int32) <<< ((mm.1 162 (((120 : Int32) + ((3 : Int32) * l9)) + (1 : Int32)).toNatClampNeg) &&& 31)))]) dX12_reachedAt_241 rfl rfl (Nat.le_of_ble_eq_true rfl) rfl ?_
              refine g_goto (pc := 244) (tgt := 115) dX12_reachedAt_244 (by decide) ?_
              refine g_sub (L' := [(0, .ref 156), (2, .int l2), (4, .int l4), (5, .int l5), (6, .int l6), (8, .int l8), (9, .int (l9 + (1 : Int32)))]) [0, 1, 2, 3, 4, 5, 6] rfl ?_
              exact h
            · have h := h.2 c228
              refine g_iload (pc := 231) (x := l6) dX12_reachedAt_231 rfl ?_
              refine g_iload (pc := 233) (x := ((1 : Int32) <<< ((mm.1 162 ((120 : Int32) + ((3 : Int32) * l9)).toNatClampNeg) &&& 31))) dX12_reachedAt_233 rfl ?_
              refine g_iload (pc := 235) (x := l5) dX12_reachedAt_235 rfl ?_
              refine g_iand (pc := 237) dX12_reachedAt_237 ?_
              refine g_ior (pc := 238) dX12_reachedAt_238 ?_
              refine g_istore (pc := 239) (L' := [(0, .ref 156), (2, .int l2), (4, .int l4), (5, .int l5), (6, .int (l6 ||| (((1 : Int32) <<< ((mm.1 162 ((120 : Int32) + ((3 : Int32) * l9)).toNatClampNeg) &&& 31)) &&& l5))), (8, .int l8), (9, .int l9), (10, .int ((1 : Int32) <<< ((mm.1 162 ((120 : Int32) + ((3 : Int32) * l9)).toNatClampNeg) &&& 31))), (11, .int (mm.1 162 (((120 : Int32) + ((3 : Int32) * l9)) + (1 : Int32)).toNatClampNeg)), (12, .int ((1 : Int32) <<< ((mm.1 162 (((120 : Int32) + ((3 : Int32) * l9)) + (1 : Int32)).toNatClampNeg) &&& 31)))]) dX12_reachedAt_239 (Nat.le_of_ble_eq_true rfl) rfl ?_
              refine g_iinc (pc := 241) (x := l9) (v := (l9 + (1 : Int32))) (L' := [(0, .ref 156), (2, .int l2), (4, .int l4), (5, .int l5), (6, .int (l6 ||| (((1 : Int32) <<< ((mm.1 162 ((120 : Int32) + ((3 : Int32) * l9)).toNatClampNeg) &&& 31)) &&& l5))), (8, .int l8), (9, .int (l9 + (1 : Int32))), (10, .int ((1 : Int32) <<< ((mm.1 162 ((120 : Int32) + ((3 : Int32) * l9)).toNatClampNeg) &&& 31))), (11, .int (mm.1 162 (((120 : Int32) + ((3 : Int32) * l9)) + (1 : Int32)).toNatClampNeg)), (12, .int ((1 : Int32) <<< ((mm.1 162 (((120 : Int32) + ((3 : Int32) * l9)) + (1 : Int32)).toNatClampNeg) &&& 31)))]) dX12_reachedAt_241 rfl rfl (Nat.le_of_ble_eq_true rfl) rfl ?_
              refine g_goto (pc := 244) (tgt := 115) dX12_reachedAt_244 (by decide) ?_
              refine g_sub (L' := [(0, .ref 156), (2, .int l2), (4, .int l4), (5, .int l5), (6, .int (l6 ||| (((1 : Int32) <<< ((mm.1 162 ((120 : Int32) + ((3 : Int32) * l9)).toNatClampNeg) &&& 31)) &&& l5))), (8, .int l8), (9, .int (l9 + (1 : Int32)))]) [0, 1, 2, 3, 4, 5, 6] rfl ?_
              exact h
          · have h := h.2 c210
            refine g_iload (pc := 213) (x := l6) dX12_reachedAt_213 rfl ?_
            refine g_iload (pc := 215) (x := ((1 : Int32) <<< ((mm.1 162 (((120 : Int32) + ((3 : Int32) * l9)) + (1 : Int32)).toNatClampNeg) &&& 31))) dX12_reachedAt_215 rfl ?_
            refine g_iload (pc := 217) (x := l5) dX12_reachedAt_217 rfl ?_
            refine g_iand (pc := 219) dX12_reachedAt_219 ?_
            refine g_ior (pc := 220) dX12_reachedAt_220 ?_
            refine g_istore (pc := 221) (L' := [(0, .ref 156), (2, .int l2), (4, .int l4), (5, .int l5), (6, .int (l6 ||| (((1 : Int32) <<< ((mm.1 162 (((120 : Int32) + ((3 : Int32) * l9)) + (1 : Int32)).toNatClampNeg) &&& 31)) &&& l5))), (8, .int l8), (9, .int l9), (10, .int ((1 : Int32) <<< ((mm.1 162 ((120 : Int32) + ((3 : Int32) * l9)).toNatClampNeg) &&& 31))), (11, .int (mm.1 162 (((120 : Int32) + ((3 : Int32) * l9)) + (1 : Int32)).toNatClampNeg)), (12, .int ((1 : Int32) <<< ((mm.1 162 (((120 : Int32) + ((3 : Int32) * l9)) + (1 : Int32)).toNatClampNeg) &&& 31)))]) dX12_reachedAt_221 (Nat.le_of_ble_eq_true rfl) rfl ?_
            refine g_iload (pc := 223) (x := (l6 ||| (((1 : Int32) <<< ((mm.1 162 (((120 : Int32) + ((3 : Int32) * l9)) + (1 : Int32)).toNatClampNeg) &&& 31)) &&& l5))) dX12_reachedAt_223 rfl ?_
            refine g_iload (pc := 225) (x := ((1 : Int32) <<< ((mm.1 162 (((120 : Int32) + ((3 : Int32) * l9)) + (1 : Int32)).toNatClampNeg) &&& 31))) dX12_reachedAt_225 rfl ?_
            refine g_iand (pc := 227) dX12_reachedAt_227 ?_
            refine g_if_eq (pc := 228) (tgt := 241) dX12_reachedAt_228 (by decide) (fun c228 => ?_) (fun c228 => ?_)
            · have h := h.1 c228
              refine g_iinc (pc := 241) (x := l9) (v := (l9 + (1 : Int32))) (L' := [(0, .ref 156), (2, .int l2), (4, .int l4), (5, .int l5), (6, .int (l6 ||| (((1 : Int32) <<< ((mm.1 162 (((120 : Int32) + ((3 : Int32) * l9)) + (1 : Int32)).toNatClampNeg) &&& 31)) &&& l5))), (8, .int l8), (9, .int (l9 + (1 : Int32))), (10, .int ((1 : Int32) <<< ((mm.1 162 ((120 : Int32) + ((3 : Int32) * l9)).toNatClampNeg) &&& 31))), (11, .int (mm.1 162 (((120 : Int32) + ((3 : Int32) * l9)) + (1 : Int32)).toNatClampNeg)), (12, .int ((1 : Int32) <<< ((mm.1 162 (((120 : Int32) + ((3 : Int32) * l9)) + (1 : Int32)).toNatClampNeg) &&& 31)))]) dX12_reachedAt_241 rfl rfl (Nat.le_of_ble_eq_true rfl) rfl ?_
              refine g_goto (pc := 244) (tgt := 115) dX12_reachedAt_244 (by decide) ?_
              refine g_sub (L' := [(0, .ref 156), (2, .int l2), (4, .int l4), (5, .int l5), (6, .int (l6 ||| (((1 : Int32) <<< ((mm.1 162 (((120 : Int32) + ((3 : Int32) * l9)) + (1 : Int32)).toNatClampNeg) &&& 31)) &&& l5))), (8, .int l8), (9, .int (l9 + (1 : Int32)))]) [0, 1, 2, 3, 4, 5, 6] rfl ?_
              exact h
            · have h := h.2 c228
              refine g_iload (pc := 231) (x := (l6 ||| (((1 : Int32) <<< ((mm.1 162 (((120 : Int32) + ((3 : Int32) * l9)) + (1 : Int32)).toNatClampNeg) &&& 31)) &&& l5))) dX12_reachedAt_231 rfl ?_
              refine g_iload (pc := 233) (x := ((1 : Int32) <<< ((mm.1 162 ((120 : Int32) + ((3 : Int32) * l9)).toNatClampNeg) &&& 31))) dX12_reachedAt_233 rfl ?_
              refine g_iload (pc := 235) (x := l5) dX12_reachedAt_235 rfl ?_
              refine g_iand (pc := 237) dX12_reachedAt_237 ?_
              refine g_ior (pc := 238) dX12_reachedAt_238 ?_
              refine g_istore (pc := 239) (L' := [(0, .ref 156), (2, .int l2), (4, .int l4), (5, .int l5), (6, .int ((l6 ||| (((1 : Int32) <<< ((mm.1 162 (((120 : Int32) + ((3 : Int32) * l9)) + (1 : Int32)).toNatClampNeg) &&& 31)) &&& l5)) ||| (((1 : Int32) <<< ((mm.1 162 ((120 : Int32) + ((3 : Int32) * l9)).toNatClampNeg) &&& 31)) &&& l5))), (8, .int l8), (9, .int l9), (10, .int ((1 : Int32) <<< ((mm.1 162 ((120 : Int32) + ((3 : Int32) * l9)).toNatClampNeg) &&& 31))), (11, .int (mm.1 162 (((120 : Int32) + ((3 : Int32) * l9)) + (1 : Int32)).toNatClampNeg)), (12, .int ((1 : Int32) <<< ((mm.1 162 (((120 : Int32) + ((3 : Int32) * l9)) + (1 : Int32)).toNatClampNeg) &&& 31)))]) dX12_reachedAt_239 (Nat.le_of_ble_eq_true rfl) rfl ?_
              refine g_iinc (pc := 241) (x := l9) (v := (l9 + (1 : Int32))) (L' := [(0, .ref 156), (2, .int l2), (4, .int l4), (5, .int l5), (6, .int ((l6 ||| (((1 : Int32) <<< ((mm.1 162 (((120 : Int32) + ((3 : Int32) * l9)) + (1 : Int32)).toNatClampNeg) &&& 31)) &&& l5)) ||| (((1 : Int32) <<< ((mm.1 162 ((120 : Int32) + ((3 : Int32) * l9)).toNatClampNeg) &&& 31)) &&& l5))), (8, .int l8), (9, .int (l9 + (1 : Int32))), (10, .int ((1 : Int32) <<< ((mm.1 162 ((120 : Int32) + ((3 : Int32) * l9)).toNatClampNeg) &&& 31))), (11, .int (mm.1 162 (((120 : Int32) + ((3 : Int32) * l9)) + (1 : Int32)).toNatClampNeg)), (12, .int ((1 : Int32) <<< ((mm.1 162 (((120 : Int32) + ((3 : Int32) * l9)) + (1 : Int32)).toNatClampNeg) &&& 31)))]) dX12_reachedAt_241 rfl rfl (Nat.le_of_ble_eq_true rfl) rfl ?_
              refine g_goto (pc := 244) (tgt := 115) dX12_reachedAt_244 (by decide) ?_
              refine g_sub (L' := [(0, .ref 156), (2, .int l2), (4, .int l4), (5, .int l5), (6, .int ((l6 ||| (((1 : Int32) <<< ((mm.1 162 (((120 : Int32) + ((3 : Int32) * l9)) + (1 : Int32)).toNatClampNeg) &&& 31)) &&& l5)) ||| (((1 : Int32) <<< ((mm.1 162 ((120 : Int32) + ((3 : Int32) * l9)).toNatClampNeg) &&& 31)) &&& l5))), (8, .int l8), (9, .int (l9 + (1 : Int32)))]) [0, 1, 2, 3, 4, 5, 6] rfl ?_
              exact h
        · have h := h.2 c178
          refine g_iload (pc := 181) (x := l4) dX12_reachedAt_181 rfl ?_
          refine g_if_ne (pc := 183) (tgt := 241) dX12_reachedAt_183 (by decide) (fun c183 => ?_) (fun c183 => ?_)
          · have h := h.1 c183
            refine g_iinc (pc := 241) (x := l9) (v := (l9 + (1 : Int32))) (L' := [(0, .ref 156), (2, .int l2), (4, .int l4), (5, .int l5), (6, .int l6), (8, .int l8), (9, .int (l9 + (1 : Int32))), (10, .int ((1 : Int32) <<< ((mm.1 162 ((120 : Int32) + ((3 : Int32) * l9)).toNatClampNeg) &&& 31))), (11, .int (mm.1 162 (((120 : Int32) + ((3 : Int32) * l9)) + (1 : Int32)).toNatClampNeg))]) dX12_reachedAt_241 rfl rfl (Nat.le_of_ble_eq_true rfl) rfl ?_
            refine g_goto (pc := 244) (tgt := 115) dX12_reachedAt_244 (by decide) ?_
            refine g_sub (L' := [(0, .ref 156), (2, .int l2), (4, .int l4), (5, .int l5), (6, .int l6), (8, .int l8), (9, .int (l9 + (1 : Int32)))]) [0, 1, 2, 3, 4, 5, 6] rfl ?_
            exact h
          · have h := h.2 c183
            refine g_iload (pc := 186) (x := l6) dX12_reachedAt_186 rfl ?_
            refine g_iload (pc := 188) (x := ((1 : Int32) <<< ((mm.1 162 ((120 : Int32) + ((3 : Int32) * l9)).toNatClampNeg) &&& 31))) dX12_reachedAt_188 rfl ?_
            refine g_iload (pc := 190) (x := l5) dX12_reachedAt_190 rfl ?_
            refine g_iand (pc := 192) dX12_reachedAt_192 ?_
            refine g_ior (pc := 193) dX12_reachedAt_193 ?_
            refine g_istore (pc := 194) (L' := [(0, .ref 156), (2, .int l2), (4, .int l4), (5, .int l5), (6, .int (l6 ||| (((1 : Int32) <<< ((mm.1 162 ((120 : Int32) + ((3 : Int32) * l9)).toNatClampNeg) &&& 31)) &&& l5))), (8, .int l8), (9, .int l9), (10, .int ((1 : Int32) <<< ((mm.1 162 ((120 : Int32) + ((3 : Int32) * l9)).toNatClampNeg) &&& 31))), (11, .int (mm.1 162 (((120 : Int32) + ((3 : Int32) * l9)) + (1 : Int32)).toNatClampNeg))]) dX12_reachedAt_194 (Nat.le_of_ble_eq_true rfl) rfl ?_
            refine g_goto (pc := 196) (tgt := 241) dX12_reachedAt_196 (by decide) ?_
            refine g_iinc (pc := 241) (x := l9) (v := (l9 + (1 : Int32))) (L' := [(0, .ref 156), (2, .int l2), (4, .int l4), (5, .int l5), (6, .int (l6 ||| (((1 : Int32) <<< ((mm.1 162 ((120 : Int32) + ((3 : Int32) * l9)).toNatClampNeg) &&& 31)) &&& l5))), (8, .int l8), (9, .int (l9 + (1 : Int32))), (10, .int ((1 : Int32) <<< ((mm.1 162 ((120 : Int32) + ((3 : Int32) * l9)).toNatClampNeg) &&& 31))), (11, .int (mm.1 162 (((120 : Int32) + ((3 : Int32) * l9)) + (1 : Int32)).toNatClampNeg))]) dX12_reachedAt_241 rfl rfl (Nat.le_of_ble_eq_true rfl) rfl ?_
            refine g_goto (pc := 244) (tgt := 115) dX12_reachedAt_244 (by decide) ?_
            refine g_sub (L' := [(0, .ref 156), (2, .int l2), (4, .int l4), (5, .int l5), (6, .int (l6 ||| (((1 : Int32) <<< ((mm.1 162 ((120 : Int32) + ((3 : Int32) * l9)).toNatClampNeg) &&& 31)) &&& l5))), (8, .int l8), (9, .int (l9 + (1 : Int32)))]) [0, 1, 2, 3, 4, 5, 6] rfl ?_
            exact h
      · have h := h.2 p_
        refine g_if_ne (pc := 138) (tgt := 144) dX12_reachedAt_138 (by decide) (fun c138 => absurd c138 (by decide)) (fun _ => ?_)
        refine g_goto (pc := 141) (tgt := 241) dX12_reachedAt_141 (by decide) ?_
        refine g_iinc (pc := 241) (x := l9) (v := (l9 + (1 : Int32))) (L' := [(0, .ref 156), (2, .int l2), (4, .int l4), (5, .int l5), (6, .int l6), (8, .int l8), (9, .int (l9 + (1 : Int32)))]) dX12_reachedAt_241 rfl rfl (Nat.le_of_ble_eq_true rfl) rfl ?_
        refine g_goto (pc := 244) (tgt := 115) dX12_reachedAt_244 (by decide) ?_
        exact h
theorem dX12_bitsOf_0 : decode cX12_bitsOf 0 = .ok (.iconst 0, 1) := by decide +kernel
theorem dX12_bitsOf_1 : decode cX12_bitsOf 1 = .ok (.istore_n 1, 1) := by decide +kernel
theorem dX12_bitsOf_2 : decode cX12_bitsOf 2 = .ok (.iconst 0, 1) := by decide +kernel
theorem dX12_bitsOf_3 : decode cX12_bitsOf 3 = .ok (.istore_n 2, 1) := by decide +kernel
theorem dX12_bitsOf_4 : decode cX12_bitsOf 4 = .ok (.iload_n 2, 1) := by decide +kernel
theorem dX12_bitsOf_5 : decode cX12_bitsOf 5 = .ok (.bipush 16, 2) := by decide +kernel
theorem dX12_bitsOf_7 : decode cX12_bitsOf 7 = .ok (.if_icmp .ge 17, 3) := by decide +kernel
theorem dX12_bitsOf_10 : decode cX12_bitsOf 10 = .ok (.iload_n 1, 1) := by decide +kernel
theorem dX12_bitsOf_11 : decode cX12_bitsOf 11 = .ok (.iload_n 0, 1) := by decide +kernel
theorem dX12_bitsOf_12 : decode cX12_bitsOf 12 = .ok (.iload_n 2, 1) := by decide +kernel
theorem dX12_bitsOf_13 : decode cX12_bitsOf 13 = .ok (.ishr, 1) := by decide +kernel
theorem dX12_bitsOf_14 : decode cX12_bitsOf 14 = .ok (.iconst 1, 1) := by decide +kernel
theorem dX12_bitsOf_15 : decode cX12_bitsOf 15 = .ok (.iand, 1) := by decide +kernel
theorem dX12_bitsOf_16 : decode cX12_bitsOf 16 = .ok (.iadd, 1) := by decide +kernel
theorem dX12_bitsOf_17 : decode cX12_bitsOf 17 = .ok (.istore_n 1, 1) := by decide +kernel
theorem dX12_bitsOf_18 : decode cX12_bitsOf 18 = .ok (.iinc 2 1, 3) := by decide +kernel
theorem dX12_bitsOf_21 : decode cX12_bitsOf 21 = .ok (.goto (-17), 3) := by decide +kernel
theorem dX12_bitsOf_24 : decode cX12_bitsOf 24 = .ok (.iload_n 1, 1) := by decide +kernel
theorem dX12_bitsOf_25 : decode cX12_bitsOf 25 = .ok (.ireturn, 1) := by decide +kernel
theorem b_X12_bitsOf (mm : MM) (Q : Value → MM → Prop) (a0 : Int32) (h : G e_X12_bitsOf 4 [(0, .int a0), (1, .int (0 : Int32)), (2, .int (0 : Int32))] [] mm Q) : Runs e_X12_bitsOf [.int a0] mm Q := by
  refine runs_of_G (L := [(0, .int a0)]) pl_X12 (Nat.le_of_ble_eq_true rfl) rfl ?_
  refine g_iconst (pc := 0) (v := (0 : Int32)) dX12_bitsOf_0 (by decide) ?_
  refine g_istore_n (pc := 1) (L' := [(0, .int a0), (1, .int (0 : Int32))]) dX12_bitsOf_1 (Nat.le_of_ble_eq_true rfl) rfl ?_
  refine g_iconst (pc := 2) (v := (0 : Int32)) dX12_bitsOf_2 (by decide) ?_
  refine g_istore_n (pc := 3) (L' := [(0, .int a0), (1, .int (0 : Int32)), (2, .int (0 : Int32))]) dX12_bitsOf_3 (Nat.le_of_ble_eq_true rfl) rfl ?_
  exact h
theorem b_X12_bitsOf_4 (mm : MM) (Q : Value → MM → Prop) (l0 : Int32) (l1 : Int32) (l2 : Int32) (h : ((16 : Int32) ≤ l2 → (Q (.int l1) mm)) ∧ (¬ (16 : Int32) ≤ l2 → (G e_X12_bitsOf 4 [(0, .int l0), (1, .int (l1 + ((l0 >>> (l2 &&& 31)) &&& (1 : Int32)))), (2, .int (l2 + (1 : Int32)))] [] mm Q))) : G e_X12_bitsOf 4 [(0, .int l0), (1, .int l1), (2, .int l2)] [] mm Q := by
  refine g_iload_n (pc := 4) (x := l2) dX12_bitsOf_4 rfl ?_
  refine g_bipush (pc := 5) (v := (16 : Int32)) dX12_bitsOf_5 (by decide) ?_
  refine g_icmp_ge (pc := 7) (tgt := 24) dX12_bitsOf_7 (by decide) (fun c7 => ?_) (fun c7 => ?_)
  · have h := h.1 c7
    refine g_iload_n (pc := 24) (x := l1) dX12_bitsOf_24 rfl ?_
    exact g_iret (pc := 25) dX12_bitsOf_25 rfl rfl rfl h
  · have h := h.2 c7
    refine g_iload_n (pc := 10) (x := l1) dX12_bitsOf_10 rfl ?_
    refine g_iload_n (pc := 11) (x := l0) dX12_bitsOf_11 rfl ?_
    refine g_iload_n (pc := 12) (x := l2) dX12_bitsOf_12 rfl ?_
    refine g_ishr (pc := 13) dX12_bitsOf_13 ?_
    refine g_iconst (pc := 14) (v := (1 : Int32)) dX12_bitsOf_14 (by decide) ?_
    refine g_iand (pc := 15) dX12_bitsOf_15 ?_
    refine g_iadd (pc := 16) dX12_bitsOf_16 ?_
    refine g_istore_n (pc := 17) (L' := [(0, .int l0), (1, .int (l1 + ((l0 >>> (l2 &&& 31)) &&& (1 : Int32)))), (2, .int l2)]) dX12_bitsOf_17 (Nat.le_of_ble_eq_true rfl) rfl ?_
    refine g_iinc (pc := 18) (x := l2) (v := (l2 + (1 : Int32))) (L' := [(0, .int l0), (1, .int (l1 + ((l0 >>> (l2 &&& 31)) &&& (1 : Int32)))), (2, .int (l2 + (1 : Int32)))]) dX12_bitsOf_18 rfl rfl (Nat.le_of_ble_eq_true rfl) rfl ?_
    refine g_goto (pc := 21) (tgt := 4) dX12_bitsOf_21 (by decide) ?_
    exact h
theorem dX12_reached_0 : decode cX12_reached 0 = .ok (.iload_n 1, 1) := by decide +kernel
theorem dX12_reached_1 : decode cX12_reached 1 = .ok (.invokestatic 396, 3) := by decide +kernel
theorem dX12_reached_4 : decode cX12_reached 4 = .ok (.ifCond .eq 13, 3) := by decide +kernel
theorem dX12_reached_7 : decode cX12_reached 7 = .ok (.aload_n 0, 1) := by decide +kernel
theorem dX12_reached_8 : decode cX12_reached 8 = .ok (.iload_n 1, 1) := by decide +kernel
theorem dX12_reached_9 : decode cX12_reached 9 = .ok (.iconst (-1), 1) := by decide +kernel
theorem dX12_reached_10 : decode cX12_reached 10 = .ok (.iconst (-1), 1) := by decide +kernel
theorem dX12_reached_11 : decode cX12_reached 11 = .ok (.invokevirtual 405, 3) := by decide +kernel
theorem dX12_reached_14 : decode cX12_reached 14 = .ok (.goto 4, 3) := by decide +kernel
theorem dX12_reached_17 : decode cX12_reached 17 = .ok (.iconst (-1), 1) := by decide +kernel
theorem dX12_reached_18 : decode cX12_reached 18 = .ok (.ireturn, 1) := by decide +kernel
theorem b_X12_reached (mm : MM) (Q : Value → MM → Prop) (a1 : Int32) (h : (p_X12_isHour mm a1 → (∃ Pm1 : Value → MM → Prop, Runs e_X12_reachedAt [.ref 156, .int a1, .int (-1 : Int32), .int (-1 : Int32)] mm Pm1 ∧ ∀ (r1 : Int32) (m1 : MM), Pm1 (.int r1) m1 → (Q (.int r1) m1))) ∧ (¬ p_X12_isHour mm a1 → (Q (.int (-1 : Int32)) mm))) : Runs e_X12_reached [.ref 156, .int a1] mm Q := by
  refine runs_of_G (L := [(0, .ref 156), (1, .int a1)]) pl_X12 (Nat.le_of_ble_eq_true rfl) rfl ?_
  refine g_iload_n (pc := 0) (x := a1) dX12_reached_0 rfl ?_
  refine g_callS (pc := 1) (as := [.int a1]) dX12_reached_1 cw_X12_396 (by decide) rfl rfl (Nat.le_of_ble_eq_true rfl) (rv_X12_isHour mm a1) ?_
  rintro r_ m_ hz_ ⟨⟨p_, rfl⟩ | ⟨p_, rfl⟩, rfl⟩
  · have h := h.1 p_
    refine g_if_eq (pc := 4) (tgt := 17) dX12_reached_4 (by decide) (fun c4 => absurd c4 (by decide)) (fun _ => ?_)
    refine g_aload_n (pc := 7) (x := 156) dX12_reached_7 rfl ?_
    refine g_iload_n (pc := 8) (x := a1) dX12_reached_8 rfl ?_
    refine g_iconst (pc := 9) (v := (-1 : Int32)) dX12_reached_9 (by decide) ?_
    refine g_iconst (pc := 10) (v := (-1 : Int32)) dX12_reached_10 (by decide) ?_
    obtain ⟨Pm1, hRm1, h⟩ := h
    refine g_callV (pc := 11) (as := [.int a1, .int (-1 : Int32), .int (-1 : Int32)]) dX12_reached_11 cw_X12_405 (by decide) rfl rfl sh_156 (Nat.le_of_ble_eq_true rfl) hRm1 ?_
    intro r_ m1 hz_ hp_
    obtain ⟨r1, rfl⟩ := hz_
    have h := h r1 m1 hp_
    refine g_goto (pc := 14) (tgt := 18) dX12_reached_14 (by decide) ?_
    exact g_iret (pc := 18) dX12_reached_18 rfl rfl rfl h
  · have h := h.2 p_
    refine g_if_eq (pc := 4) (tgt := 17) dX12_reached_4 (by decide) (fun _ => ?_) (fun c4 => absurd c4 (by decide))
    refine g_iconst (pc := 17) (v := (-1 : Int32)) dX12_reached_17 (by decide) ?_
    exact g_iret (pc := 18) dX12_reached_18 rfl rfl rfl h
theorem dX12_hours_0 : decode cX12_hours 0 = .ok (.aload_n 0, 1) := by decide +kernel
theorem dX12_hours_1 : decode cX12_hours 1 = .ok (.iload_n 1, 1) := by decide +kernel
theorem dX12_hours_2 : decode cX12_hours 2 = .ok (.invokevirtual 377, 3) := by decide +kernel
theorem dX12_hours_5 : decode cX12_hours 5 = .ok (.ifCond .ne 5, 3) := by decide +kernel
theorem dX12_hours_8 : decode cX12_hours 8 = .ok (.iconst (-1), 1) := by decide +kernel
theorem dX12_hours_9 : decode cX12_hours 9 = .ok (.ireturn, 1) := by decide +kernel
theorem dX12_hours_10 : decode cX12_hours 10 = .ok (.iconst 0, 1) := by decide +kernel
theorem dX12_hours_11 : decode cX12_hours 11 = .ok (.istore_n 2, 1) := by decide +kernel
theorem dX12_hours_12 : decode cX12_hours 12 = .ok (.iconst 0, 1) := by decide +kernel
theorem dX12_hours_13 : decode cX12_hours 13 = .ok (.istore_n 3, 1) := by decide +kernel
theorem dX12_hours_14 : decode cX12_hours 14 = .ok (.iload_n 3, 1) := by decide +kernel
theorem dX12_hours_15 : decode cX12_hours 15 = .ok (.bipush 24, 2) := by decide +kernel
theorem dX12_hours_17 : decode cX12_hours 17 = .ok (.if_icmp .ge 23, 3) := by decide +kernel
theorem dX12_hours_20 : decode cX12_hours 20 = .ok (.iload_n 2, 1) := by decide +kernel
theorem dX12_hours_21 : decode cX12_hours 21 = .ok (.aload_n 0, 1) := by decide +kernel
theorem dX12_hours_22 : decode cX12_hours 22 = .ok (.iload_n 3, 1) := by decide +kernel
theorem dX12_hours_23 : decode cX12_hours 23 = .ok (.iconst (-1), 1) := by decide +kernel
theorem dX12_hours_24 : decode cX12_hours 24 = .ok (.iconst (-1), 1) := by decide +kernel
theorem dX12_hours_25 : decode cX12_hours 25 = .ok (.invokevirtual 405, 3) := by decide +kernel
theorem dX12_hours_28 : decode cX12_hours 28 = .ok (.iload_n 1, 1) := by decide +kernel
theorem dX12_hours_29 : decode cX12_hours 29 = .ok (.ishr, 1) := by decide +kernel
theorem dX12_hours_30 : decode cX12_hours 30 = .ok (.iconst 1, 1) := by decide +kernel
theorem dX12_hours_31 : decode cX12_hours 31 = .ok (.iand, 1) := by decide +kernel
theorem dX12_hours_32 : decode cX12_hours 32 = .ok (.iadd, 1) := by decide +kernel
theorem dX12_hours_33 : decode cX12_hours 33 = .ok (.istore_n 2, 1) := by decide +kernel
theorem dX12_hours_34 : decode cX12_hours 34 = .ok (.iinc 3 1, 3) := by decide +kernel
theorem dX12_hours_37 : decode cX12_hours 37 = .ok (.goto (-23), 3) := by decide +kernel
theorem dX12_hours_40 : decode cX12_hours 40 = .ok (.iload_n 2, 1) := by decide +kernel
theorem dX12_hours_41 : decode cX12_hours 41 = .ok (.ireturn, 1) := by decide +kernel
theorem b_X12_hours (mm : MM) (Q : Value → MM → Prop) (a1 : Int32) (h : (p_X12_isHouse mm a1 → (G e_X12_hours 14 [(0, .ref 156), (1, .int a1), (2, .int (0 : Int32)), (3, .int (0 : Int32))] [] mm Q)) ∧ (¬ p_X12_isHouse mm a1 → (Q (.int (-1 : Int32)) mm))) : Runs e_X12_hours [.ref 156, .int a1] mm Q := by
  refine runs_of_G (L := [(0, .ref 156), (1, .int a1)]) pl_X12 (Nat.le_of_ble_eq_true rfl) rfl ?_
  refine g_aload_n (pc := 0) (x := 156) dX12_hours_0 rfl ?_
  refine g_iload_n (pc := 1) (x := a1) dX12_hours_1 rfl ?_
  refine g_callV (pc := 2) (as := [.int a1]) dX12_hours_2 cw_X12_377 (by decide) rfl rfl sh_156 (Nat.le_of_ble_eq_true rfl) (rv_X12_isHouse mm a1) ?_
  rintro r_ m_ hz_ ⟨⟨p_, rfl⟩ | ⟨p_, rfl⟩, rfl⟩
  · have h := h.1 p_
    refine g_if_ne (pc := 5) (tgt := 10) dX12_hours_5 (by decide) (fun _ => ?_) (fun c5 => absurd c5 (by decide))
    refine g_iconst (pc := 10) (v := (0 : Int32)) dX12_hours_10 (by decide) ?_
    refine g_istore_n (pc := 11) (L' := [(0, .ref 156), (1, .int a1), (2, .int (0 : Int32))]) dX12_hours_11 (Nat.le_of_ble_eq_true rfl) rfl ?_
    refine g_iconst (pc := 12) (v := (0 : Int32)) dX12_hours_12 (by decide) ?_
    refine g_istore_n (pc := 13) (L' := [(0, .ref 156), (1, .int a1), (2, .int (0 : Int32)), (3, .int (0 : Int32))]) dX12_hours_13 (Nat.le_of_ble_eq_true rfl) rfl ?_
    exact h
  · have h := h.2 p_
    refine g_if_ne (pc := 5) (tgt := 10) dX12_hours_5 (by decide) (fun c5 => absurd c5 (by decide)) (fun _ => ?_)
    refine g_iconst (pc := 8) (v := (-1 : Int32)) dX12_hours_8 (by decide) ?_
    exact g_iret (pc := 9) dX12_hours_9 rfl rfl rfl h
theorem b_X12_hours_14 (mm : MM) (Q : Value → MM → Prop) (l1 : Int32) (l2 : Int32) (l3 : Int32) (h : ((24 : Int32) ≤ l3 → (Q (.int l2) mm)) ∧ (¬ (24 : Int32) ≤ l3 → (∃ Pm1 : Value → MM → Prop, Runs e_X12_reachedAt [.ref 156, .int l3, .int (-1 : Int32), .int (-1 : Int32)] mm Pm1 ∧ ∀ (r1 : Int32) (m1 : MM), Pm1 (.int r1) m1 → (G e_X12_hours 14 [(0, .ref 156), (1, .int l1), (2, .int (l2 + ((r1 >>> (l1 &&& 31)) &&& (1 : Int32)))), (3, .int (l3 + (1 : Int32)))] [] m1 Q)))) : G e_X12_hours 14 [(0, .ref 156), (1, .int l1), (2, .int l2), (3, .int l3)] [] mm Q := by
  refine g_iload_n (pc := 14) (x := l3) dX12_hours_14 rfl ?_
  refine g_bipush (pc := 15) (v := (24 : Int32)) dX12_hours_15 (by decide) ?_
  refine g_icmp_ge (pc := 17) (tgt := 40) dX12_hours_17 (by decide) (fun c17 => ?_) (fun c17 => ?_)
  · have h := h.1 c17
    refine g_iload_n (pc := 40) (x := l2) dX12_hours_40 rfl ?_
    exact g_iret (pc := 41) dX12_hours_41 rfl rfl rfl h
  · have h := h.2 c17
    refine g_iload_n (pc := 20) (x := l2) dX12_hours_20 rfl ?_
    refine g_aload_n (pc := 21) (x := 156) dX12_hours_21 rfl ?_
    refine g_iload_n (pc := 22) (x := l3) dX12_hours_22 rfl ?_
    refine g_iconst (pc := 23) (v := (-1 : Int32)) dX12_hours_23 (by decide) ?_
    refine g_iconst (pc := 24) (v := (-1 : Int32)) dX12_hours_24 (by decide) ?_
    obtain ⟨Pm1, hRm1, h⟩ := h
    refine g_callV (pc := 25) (as := [.int l3, .int (-1 : Int32), .int (-1 : Int32)]) dX12_hours_25 cw_X12_405 (by decide) rfl rfl sh_156 (Nat.le_of_ble_eq_true rfl) hRm1 ?_
    intro r_ m1 hz_ hp_
    obtain ⟨r1, rfl⟩ := hz_
    have h := h r1 m1 hp_
    refine g_iload_n (pc := 28) (x := l1) dX12_hours_28 rfl ?_
    refine g_ishr (pc := 29) dX12_hours_29 ?_
    refine g_iconst (pc := 30) (v := (1 : Int32)) dX12_hours_30 (by decide) ?_
    refine g_iand (pc := 31) dX12_hours_31 ?_
    refine g_iadd (pc := 32) dX12_hours_32 ?_
    refine g_istore_n (pc := 33) (L' := [(0, .ref 156), (1, .int l1), (2, .int (l2 + ((r1 >>> (l1 &&& 31)) &&& (1 : Int32)))), (3, .int l3)]) dX12_hours_33 (Nat.le_of_ble_eq_true rfl) rfl ?_
    refine g_iinc (pc := 34) (x := l3) (v := (l3 + (1 : Int32))) (L' := [(0, .ref 156), (1, .int l1), (2, .int (l2 + ((r1 >>> (l1 &&& 31)) &&& (1 : Int32)))), (3, .int (l3 + (1 : Int32)))]) dX12_hours_34 rfl rfl (Nat.le_of_ble_eq_true rfl) rfl ?_
    refine g_goto (pc := 37) (tgt := 14) dX12_hours_37 (by decide) ?_
    exact h
theorem dX12_meets_0 : decode cX12_meets 0 = .ok (.iload_n 1, 1) := by decide +kernel
theorem dX12_meets_1 : decode cX12_meets 1 = .ok (.ifCond .lt 13, 3) := by decide +kernel
theorem dX12_meets_4 : decode cX12_meets 4 = .ok (.iload_n 1, 1) := by decide +kernel
theorem dX12_meets_5 : decode cX12_meets 5 = .ok (.aload_n 0, 1) := by decide +kernel
theorem dX12_meets_6 : decode cX12_meets 6 = .ok (.getfield 30, 3) := by decide +kernel
theorem dX12_meets_9 : decode cX12_meets 9 = .ok (.iconst 3, 1) := by decide +kernel
theorem dX12_meets_10 : decode cX12_meets 10 = .ok (.iaload, 1) := by decide +kernel
theorem dX12_meets_11 : decode cX12_meets 11 = .ok (.if_icmp .lt 7, 3) := by decide +kernel
theorem dX12_meets_14 : decode cX12_meets 14 = .ok (.iconst (-1), 1) := by decide +kernel
theorem dX12_meets_15 : decode cX12_meets 15 = .ok (.goto 16, 3) := by decide +kernel
theorem dX12_meets_18 : decode cX12_meets 18 = .ok (.aload_n 0, 1) := by decide +kernel
theorem dX12_meets_19 : decode cX12_meets 19 = .ok (.iload_n 1, 1) := by decide +kernel
theorem dX12_meets_20 : decode cX12_meets 20 = .ok (.invokevirtual 402, 3) := by decide +kernel
theorem dX12_meets_23 : decode cX12_meets 23 = .ok (.ifCond .eq 7, 3) := by decide +kernel
theorem dX12_meets_26 : decode cX12_meets 26 = .ok (.iconst 1, 1) := by decide +kernel
theorem dX12_meets_27 : decode cX12_meets 27 = .ok (.goto 4, 3) := by decide +kernel
theorem dX12_meets_30 : decode cX12_meets 30 = .ok (.iconst 0, 1) := by decide +kernel
theorem dX12_meets_31 : decode cX12_meets 31 = .ok (.ireturn, 1) := by decide +kernel
def o_X12_meets (mm : MM) (a1 : Int32) : Prop := (a1 < 0 → (True)) ∧ (¬ a1 < 0 → ((a1 < (mm.1 162 3) → (o_X12_isMeeting mm a1 ∧ ((p_X12_isMeeting mm a1 → (True)) ∧ (¬ p_X12_isMeeting mm a1 → (True))))) ∧ (¬ a1 < (mm.1 162 3) → (True))))
noncomputable def v_X12_meets (mm : MM) (a1 : Int32) : Int32 := (cite (a1 < 0) (-1 : Int32) (cite (a1 < (mm.1 162 3)) (cite (p_X12_isMeeting mm a1) (1 : Int32) (0 : Int32)) (-1 : Int32)))
theorem rv_X12_meets (mm : MM) (a1 : Int32) (h : o_X12_meets mm a1) : Runs e_X12_meets [.ref 156, .int a1] mm (fun r m_ => r = .int (v_X12_meets mm a1) ∧ mm = m_) := by
  refine runs_of_G (L := [(0, .ref 156), (1, .int a1)]) pl_X12 (Nat.le_of_ble_eq_true rfl) rfl ?_
  unfold o_X12_meets at h
  refine g_iload_n (pc := 0) (x := a1) dX12_meets_0 rfl ?_
  refine g_if_lt (pc := 1) (tgt := 14) dX12_meets_1 (by decide) (fun c1 => ?_) (fun c1 => ?_)
  · have c1_0 : a1 < 0 := c1
    have h := h.1 c1
    refine g_iconst (pc := 14) (v := (-1 : Int32)) dX12_meets_14 (by decide) ?_
    refine g_goto (pc := 15) (tgt := 31) dX12_meets_15 (by decide) ?_
    exact g_iret (pc := 31) dX12_meets_31 rfl rfl rfl ⟨(by unfold v_X12_meets; rw [cite_pos c1_0] <;> rfl), rfl⟩
  · have c1_0 : ¬ a1 < 0 := c1
    have h := h.2 c1
    refine g_iload_n (pc := 4) (x := a1) dX12_meets_4 rfl ?_
    refine g_aload_n (pc := 5) (x := 156) dX12_meets_5 rfl ?_
    refine g_getR (pc := 6) (dd := 6) dX12_meets_6 fo_X12_30 sh_156 rfl ?_
    refine g_iconst (pc := 9) (v := (3 : Int32)) dX12_meets_9 (by decide) ?_
    refine g_iaload (pc := 10) dX12_meets_10 sh_162 (vp_in_nI (n := 3) (N := 420) (by decide) (by decide)) ?_
    refine g_icmp_lt (pc := 11) (tgt := 18) dX12_meets_11 (by decide) (fun c11 => ?_) (fun c11 => ?_)
    · have c11_1 : a1 < (mm.1 162 3) := c11
      have h := h.1 c11
      refine g_aload_n (pc := 18) (x := 156) dX12_meets_18 rfl ?_
      refine g_iload_n (pc := 19) (x := a1) dX12_meets_19 rfl ?_
      refine g_callV (pc := 20) (as := [.int a1]) dX12_meets_20 cw_X12_402 (by decide) rfl rfl sh_156 (Nat.le_of_ble_eq_true rfl) (rv_X12_isMeeting mm a1 h.1) ?_
      have h := h.2
      rintro r_ m_ hz_ ⟨⟨p_, rfl⟩ | ⟨p_, rfl⟩, rfl⟩
      · have p__2 : p_X12_isMeeting mm a1 := p_
        refine g_if_eq (pc := 23) (tgt := 30) dX12_meets_23 (by decide) (fun c23 => absurd c23 (by decide)) (fun _ => ?_)
        refine g_iconst (pc := 26) (v := (1 : Int32)) dX12_meets_26 (by decide) ?_
        refine g_goto (pc := 27) (tgt := 31) dX12_meets_27 (by decide) ?_
        exact g_iret (pc := 31) dX12_meets_31 rfl rfl rfl ⟨(by unfold v_X12_meets; rw [cite_neg c1_0, cite_pos c11_1, cite_pos p__2] <;> rfl), rfl⟩
      · have p__2 : ¬ p_X12_isMeeting mm a1 := p_
        refine g_if_eq (pc := 23) (tgt := 30) dX12_meets_23 (by decide) (fun _ => ?_) (fun c23 => absurd c23 (by decide))
        refine g_iconst (pc := 30) (v := (0 : Int32)) dX12_meets_30 (by decide) ?_
        exact g_iret (pc := 31) dX12_meets_31 rfl rfl rfl ⟨(by unfold v_X12_meets; rw [cite_neg c1_0, cite_pos c11_1, cite_neg p__2] <;> rfl), rfl⟩
    · have c11_1 : ¬ a1 < (mm.1 162 3) := c11
      have h := h.2 c11
      refine g_iconst (pc := 14) (v := (-1 : Int32)) dX12_meets_14 (by decide) ?_
      refine g_goto (pc := 15) (tgt := 31) dX12_meets_15 (by decide) ?_
      exact g_iret (pc := 31) dX12_meets_31 rfl rfl rfl ⟨(by unfold v_X12_meets; rw [cite_neg c1_0, cite_neg c11_1] <;> rfl), rfl⟩
theorem dX12_cutOf_0 : decode cX12_cutOf 0 = .ok (.aload_n 0, 1) := by decide +kernel
theorem dX12_cutOf_1 : decode cX12_cutOf 1 = .ok (.iload_n 3, 1) := by decide +kernel
theorem dX12_cutOf_2 : decode cX12_cutOf 2 = .ok (.iconst (-1), 1) := by decide +kernel
theorem dX12_cutOf_3 : decode cX12_cutOf 3 = .ok (.iconst (-1), 1) := by decide +kernel
theorem dX12_cutOf_4 : decode cX12_cutOf 4 = .ok (.invokevirtual 405, 3) := by decide +kernel
theorem dX12_cutOf_7 : decode cX12_cutOf 7 = .ok (.istore 4, 2) := by decide +kernel
theorem dX12_cutOf_9 : decode cX12_cutOf 9 = .ok (.aload_n 0, 1) := by decide +kernel
theorem dX12_cutOf_10 : decode cX12_cutOf 10 = .ok (.iload_n 3, 1) := by decide +kernel
theorem dX12_cutOf_11 : decode cX12_cutOf 11 = .ok (.iload_n 2, 1) := by decide +kernel
theorem dX12_cutOf_12 : decode cX12_cutOf 12 = .ok (.ifCond .eq 7, 3) := by decide +kernel
theorem dX12_cutOf_15 : decode cX12_cutOf 15 = .ok (.iload_n 1, 1) := by decide +kernel
theorem dX12_cutOf_16 : decode cX12_cutOf 16 = .ok (.goto 4, 3) := by decide +kernel
theorem dX12_cutOf_19 : decode cX12_cutOf 19 = .ok (.iconst (-1), 1) := by decide +kernel
theorem dX12_cutOf_20 : decode cX12_cutOf 20 = .ok (.iload_n 2, 1) := by decide +kernel
theorem dX12_cutOf_21 : decode cX12_cutOf 21 = .ok (.ifCond .eq 7, 3) := by decide +kernel
theorem dX12_cutOf_24 : decode cX12_cutOf 24 = .ok (.iconst (-1), 1) := by decide +kernel
theorem dX12_cutOf_25 : decode cX12_cutOf 25 = .ok (.goto 4, 3) := by decide +kernel
theorem dX12_cutOf_28 : decode cX12_cutOf 28 = .ok (.iload_n 1, 1) := by decide +kernel
theorem dX12_cutOf_29 : decode cX12_cutOf 29 = .ok (.invokevirtual 405, 3) := by decide +kernel
theorem dX12_cutOf_32 : decode cX12_cutOf 32 = .ok (.istore 5, 2) := by decide +kernel
theorem dX12_cutOf_34 : decode cX12_cutOf 34 = .ok (.iload 4, 2) := by decide +kernel
theorem dX12_cutOf_36 : decode cX12_cutOf 36 = .ok (.iload 5, 2) := by decide +kernel
theorem dX12_cutOf_38 : decode cX12_cutOf 38 = .ok (.iconst (-1), 1) := by decide +kernel
theorem dX12_cutOf_39 : decode cX12_cutOf 39 = .ok (.ixor, 1) := by decide +kernel
theorem dX12_cutOf_40 : decode cX12_cutOf 40 = .ok (.iand, 1) := by decide +kernel
theorem dX12_cutOf_41 : decode cX12_cutOf 41 = .ok (.iload_n 2, 1) := by decide +kernel
theorem dX12_cutOf_42 : decode cX12_cutOf 42 = .ok (.ifCond .eq 7, 3) := by decide +kernel
theorem dX12_cutOf_45 : decode cX12_cutOf 45 = .ok (.iconst (-1), 1) := by decide +kernel
theorem dX12_cutOf_46 : decode cX12_cutOf 46 = .ok (.goto 8, 3) := by decide +kernel
theorem dX12_cutOf_49 : decode cX12_cutOf 49 = .ok (.iconst 1, 1) := by decide +kernel
theorem dX12_cutOf_50 : decode cX12_cutOf 50 = .ok (.iload_n 1, 1) := by decide +kernel
theorem dX12_cutOf_51 : decode cX12_cutOf 51 = .ok (.ishl, 1) := by decide +kernel
theorem dX12_cutOf_52 : decode cX12_cutOf 52 = .ok (.iconst (-1), 1) := by decide +kernel
theorem dX12_cutOf_53 : decode cX12_cutOf 53 = .ok (.ixor, 1) := by decide +kernel
theorem dX12_cutOf_54 : decode cX12_cutOf 54 = .ok (.iand, 1) := by decide +kernel
theorem dX12_cutOf_55 : decode cX12_cutOf 55 = .ok (.invokestatic 408, 3) := by decide +kernel
theorem dX12_cutOf_58 : decode cX12_cutOf 58 = .ok (.ireturn, 1) := by decide +kernel
theorem b_X12_cutOf (mm : MM) (Q : Value → MM → Prop) (a1 : Int32) (a2 : Int32) (a3 : Int32) (h : ∃ Pm1 : Value → MM → Prop, Runs e_X12_reachedAt [.ref 156, .int a3, .int (-1 : Int32), .int (-1 : Int32)] mm Pm1 ∧ ∀ (r1 : Int32) (m1 : MM), Pm1 (.int r1) m1 → ((a2 = 0 → ((a2 = 0 → (∃ Pm2 : Value → MM → Prop, Runs e_X12_reachedAt [.ref 156, .int a3, .int (-1 : Int32), .int a1] m1 Pm2 ∧ ∀ (r2 : Int32) (m2 : MM), Pm2 (.int r2) m2 → ((a2 = 0 → (∃ Pm3 : Value → MM → Prop, Runs e_X12_bitsOf [.int ((r1 &&& (r2 ^^^ (-1 : Int32))) &&& (((1 : Int32) <<< (a1 &&& 31)) ^^^ (-1 : Int32)))] m2 Pm3 ∧ ∀ (r3 : Int32) (m3 : MM), Pm3 (.int r3) m3 → (Q (.int r3) m3))) ∧ (¬ a2 = 0 → (∃ Pm3 : Value → MM → Prop, Runs e_X12_bitsOf [.int ((r1 &&& (r2 ^^^ (-1 : Int32))) &&& (-1 : Int32))] m2 Pm3 ∧ ∀ (r3 : Int32) (m3 : MM), Pm3 (.int r3) m3 → (Q (.int r3) m3)))))) ∧ (¬ a2 = 0 → (∃ Pm2 : Value → MM → Prop, Runs e_X12_reachedAt [.ref 156, .int a3, .int (-1 : Int32), .int (-1 : Int32)] m1 Pm2 ∧ ∀ (r2 : Int32) (m2 : MM), Pm2 (.int r2) m2 → ((a2 = 0 → (∃ Pm3 : Value → MM → Prop, Runs e_X12_bitsOf [.int ((r1 &&& (r2 ^^^ (-1 : Int32))) &&& (((1 : Int32) <<< (a1 &&& 31)) ^^^ (-1 : Int32)))] m2 Pm3 ∧ ∀ (r3 : Int32) (m3 : MM), Pm3 (.int r3) m3 → (Q (.int r3) m3))) ∧ (¬ a2 = 0 → (∃ Pm3 : Value → MM → Prop, Runs e_X12_bitsOf [.int ((r1 &&& (r2 ^^^ (-1 : Int32))) &&& (-1 : Int32))] m2 Pm3 ∧ ∀ (r3 : Int32) (m3 : MM), Pm3 (.int r3) m3 → (Q (.int r3) m3)))))))) ∧ (¬ a2 = 0 → ((a2 = 0 → (∃ Pm2 : Value → MM → Prop, Runs e_X12_reachedAt [.ref 156, .int a3, .int a1, .int a1] m1 Pm2 ∧ ∀ (r2 : Int32) (m2 : MM), Pm2 (.int r2) m2 → ((a2 = 0 → (∃ Pm3 : Value → MM → Prop, Runs e_X12_bitsOf [.int ((r1 &&& (r2 ^^^ (-1 : Int32))) &&& (((1 : Int32) <<< (a1 &&& 31)) ^^^ (-1 : Int32)))] m2 Pm3 ∧ ∀ (r3 : Int32) (m3 : MM), Pm3 (.int r3) m3 → (Q (.int r3) m3))) ∧ (¬ a2 = 0 → (∃ Pm3 : Value → MM → Prop, Runs e_X12_bitsOf [.int ((r1 &&& (r2 ^^^ (-1 : Int32))) &&& (-1 : Int32))] m2 Pm3 ∧ ∀ (r3 : Int32) (m3 : MM), Pm3 (.int r3) m3 → (Q (.int r3) m3)))))) ∧ (¬ a2 = 0 → (∃ Pm2 : Value → MM → Prop, Runs e_X12_reachedAt [.ref 156, .int a3, .int a1, .int (-1 : Int32)] m1 Pm2 ∧ ∀ (r2 : Int32) (m2 : MM), Pm2 (.int r2) m2 → ((a2 = 0 → (∃ Pm3 : Value → MM → Prop, Runs e_X12_bitsOf [.int ((r1 &&& (r2 ^^^ (-1 : Int32))) &&& (((1 : Int32) <<< (a1 &&& 31)) ^^^ (-1 : Int32)))] m2 Pm3 ∧ ∀ (r3 : Int32) (m3 : MM), Pm3 (.int r3) m3 → (Q (.int r3) m3))) ∧ (¬ a2 = 0 → (∃ Pm3 : Value → MM → Prop, Runs e_X12_bitsOf [.int ((r1 &&& (r2 ^^^ (-1 : Int32))) &&& (-1 : Int32))] m2 Pm3 ∧ ∀ (r3 : Int32) (m3 : MM), Pm3 (.int r3) m3 → (Q (.int r3) m3)))))))))) : Runs e_X12_cutOf [.ref 156, .int a1, .int a2, .int a3] mm Q := by
  refine runs_of_G (L := [(0, .ref 156), (1, .int a1), (2, .int a2), (3, .int a3)]) pl_X12 (Nat.le_of_ble_eq_true rfl) rfl ?_
  refine g_aload_n (pc := 0) (x := 156) dX12_cutOf_0 rfl ?_
  refine g_iload_n (pc := 1) (x := a3) dX12_cutOf_1 rfl ?_
  refine g_iconst (pc := 2) (v := (-1 : Int32)) dX12_cutOf_2 (by decide) ?_
  refine g_iconst (pc := 3) (v := (-1 : Int32)) dX12_cutOf_3 (by decide) ?_
  obtain ⟨Pm1, hRm1, h⟩ := h
  refine g_callV (pc := 4) (as := [.int a3, .int (-1 : Int32), .int (-1 : Int32)]) dX12_cutOf_4 cw_X12_405 (by decide) rfl rfl sh_156 (Nat.le_of_ble_eq_true rfl) hRm1 ?_
  intro r_ m1 hz_ hp_
  obtain ⟨r1, rfl⟩ := hz_
  have h := h r1 m1 hp_
  refine g_istore (pc := 7) (L' := [(0, .ref 156), (1, .int a1), (2, .int a2), (3, .int a3), (4, .int r1)]) dX12_cutOf_7 (Nat.le_of_ble_eq_true rfl) rfl ?_
  refine g_aload_n (pc := 9) (x := 156) dX12_cutOf_9 rfl ?_
  refine g_iload_n (pc := 10) (x := a3) dX12_cutOf_10 rfl ?_
  refine g_iload_n (pc := 11) (x := a2) dX12_cutOf_11 rfl ?_
  refine g_if_eq (pc := 12) (tgt := 19) dX12_cutOf_12 (by decide) (fun c12 => ?_) (fun c12 => ?_)
  · have h := h.1 c12
    refine g_iconst (pc := 19) (v := (-1 : Int32)) dX12_cutOf_19 (by decide) ?_
    refine g_iload_n (pc := 20) (x := a2) dX12_cutOf_20 rfl ?_
    refine g_if_eq (pc := 21) (tgt := 28) dX12_cutOf_21 (by decide) (fun c21 => ?_) (fun c21 => ?_)
    · have h := h.1 c21
      refine g_iload_n (pc := 28) (x := a1) dX12_cutOf_28 rfl ?_
      obtain ⟨Pm2, hRm2, h⟩ := h
      refine g_callV (pc := 29) (as := [.int a3, .int (-1 : Int32), .int a1]) dX12_cutOf_29 cw_X12_405 (by decide) rfl rfl sh_156 (Nat.le_of_ble_eq_true rfl) hRm2 ?_
      intro r_ m2 hz_ hp_
      obtain ⟨r2, rfl⟩ := hz_
      have h := h r2 m2 hp_
      refine g_istore (pc := 32) (L' := [(0, .ref 156), (1, .int a1), (2, .int a2), (3, .int a3), (4, .int r1), (5, .int r2)]) dX12_cutOf_32 (Nat.le_of_ble_eq_true rfl) rfl ?_
      refine g_iload (pc := 34) (x := r1) dX12_cutOf_34 rfl ?_
      refine g_iload (pc := 36) (x := r2) dX12_cutOf_36 rfl ?_
      refine g_iconst (pc := 38) (v := (-1 : Int32)) dX12_cutOf_38 (by decide) ?_
      refine g_ixor (pc := 39) dX12_cutOf_39 ?_
      refine g_iand (pc := 40) dX12_cutOf_40 ?_
      refine g_iload_n (pc := 41) (x := a2) dX12_cutOf_41 rfl ?_
      refine g_if_eq (pc := 42) (tgt := 49) dX12_cutOf_42 (by decide) (fun c42 => ?_) (fun c42 => ?_)
      · have h := h.1 c42
        refine g_iconst (pc := 49) (v := (1 : Int32)) dX12_cutOf_49 (by decide) ?_
        refine g_iload_n (pc := 50) (x := a1) dX12_cutOf_50 rfl ?_
        refine g_ishl (pc := 51) dX12_cutOf_51 ?_
        refine g_iconst (pc := 52) (v := (-1 : Int32)) dX12_cutOf_52 (by decide) ?_
        refine g_ixor (pc := 53) dX12_cutOf_53 ?_
        refine g_iand (pc := 54) dX12_cutOf_54 ?_
        obtain ⟨Pm3, hRm3, h⟩ := h
        refine g_callS (pc := 55) (as := [.int ((r1 &&& (r2 ^^^ (-1 : Int32))) &&& (((1 : Int32) <<< (a1 &&& 31)) ^^^ (-1 : Int32)))]) dX12_cutOf_55 cw_X12_408 (by decide) rfl rfl (Nat.le_of_ble_eq_true rfl) hRm3 ?_
        intro r_ m3 hz_ hp_
        obtain ⟨r3, rfl⟩ := hz_
        have h := h r3 m3 hp_
        exact g_iret (pc := 58) dX12_cutOf_58 rfl rfl rfl h
      · have h := h.2 c42
        refine g_iconst (pc := 45) (v := (-1 : Int32)) dX12_cutOf_45 (by decide) ?_
        refine g_goto (pc := 46) (tgt := 54) dX12_cutOf_46 (by decide) ?_
        refine g_iand (pc := 54) dX12_cutOf_54 ?_
        obtain ⟨Pm3, hRm3, h⟩ := h
        refine g_callS (pc := 55) (as := [.int ((r1 &&& (r2 ^^^ (-1 : Int32))) &&& (-1 : Int32))]) dX12_cutOf_55 cw_X12_408 (by decide) rfl rfl (Nat.le_of_ble_eq_true rfl) hRm3 ?_
        intro r_ m3 hz_ hp_
        obtain ⟨r3, rfl⟩ := hz_
        have h := h r3 m3 hp_
        exact g_iret (pc := 58) dX12_cutOf_58 rfl rfl rfl h
    · have h := h.2 c21
      refine g_iconst (pc := 24) (v := (-1 : Int32)) dX12_cutOf_24 (by decide) ?_
      refine g_goto (pc := 25) (tgt := 29) dX12_cutOf_25 (by decide) ?_
      obtain ⟨Pm2, hRm2, h⟩ := h
      refine g_callV (pc := 29) (as := [.int a3, .int (-1 : Int32), .int (-1 : Int32)]) dX12_cutOf_29 cw_X12_405 (by decide) rfl rfl sh_156 (Nat.le_of_ble_eq_true rfl) hRm2 ?_
      intro r_ m2 hz_ hp_
      obtain ⟨r2, rfl⟩ := hz_
      have h := h r2 m2 hp_
      refine g_istore (pc := 32) (L' := [(0, .ref 156), (1, .int a1), (2, .int a2), (3, .int a3), (4, .int r1), (5, .int r2)]) dX12_cutOf_32 (Nat.le_of_ble_eq_true rfl) rfl ?_
      refine g_iload (pc := 34) (x := r1) dX12_cutOf_34 rfl ?_
      refine g_iload (pc := 36) (x := r2) dX12_cutOf_36 rfl ?_
      refine g_iconst (pc := 38) (v := (-1 : Int32)) dX12_cutOf_38 (by decide) ?_
      refine g_ixor (pc := 39) dX12_cutOf_39 ?_
      refine g_iand (pc := 40) dX12_cutOf_40 ?_
      refine g_iload_n (pc := 41) (x := a2) dX12_cutOf_41 rfl ?_
      refine g_if_eq (pc := 42) (tgt := 49) dX12_cutOf_42 (by decide) (fun c42 => ?_) (fun c42 => ?_)
      · have h := h.1 c42
        refine g_iconst (pc := 49) (v := (1 : Int32)) dX12_cutOf_49 (by decide) ?_
        refine g_iload_n (pc := 50) (x := a1) dX12_cutOf_50 rfl ?_
        refine g_ishl (pc := 51) dX12_cutOf_51 ?_
        refine g_iconst (pc := 52) (v := (-1 : Int32)) dX12_cutOf_52 (by decide) ?_
        refine g_ixor (pc := 53) dX12_cutOf_53 ?_
        refine g_iand (pc := 54) dX12_cutOf_54 ?_
        obtain ⟨Pm3, hRm3, h⟩ := h
        refine g_callS (pc := 55) (as := [.int ((r1 &&& (r2 ^^^ (-1 : Int32))) &&& (((1 : Int32) <<< (a1 &&& 31)) ^^^ (-1 : Int32)))]) dX12_cutOf_55 cw_X12_408 (by decide) rfl rfl (Nat.le_of_ble_eq_true rfl) hRm3 ?_
        intro r_ m3 hz_ hp_
        obtain ⟨r3, rfl⟩ := hz_
        have h := h r3 m3 hp_
        exact g_iret (pc := 58) dX12_cutOf_58 rfl rfl rfl h
      · have h := h.2 c42
        refine g_iconst (pc := 45) (v := (-1 : Int32)) dX12_cutOf_45 (by decide) ?_
        refine g_goto (pc := 46) (tgt := 54) dX12_cutOf_46 (by decide) ?_
        refine g_iand (pc := 54) dX12_cutOf_54 ?_
        obtain ⟨Pm3, hRm3, h⟩ := h
        refine g_callS (pc := 55) (as := [.int ((r1 &&& (r2 ^^^ (-1 : Int32))) &&& (-1 : Int32))]) dX12_cutOf_55 cw_X12_408 (by decide) rfl rfl (Nat.le_of_ble_eq_true rfl) hRm3 ?_
        intro r_ m3 hz_ hp_
        obtain ⟨r3, rfl⟩ := hz_
        have h := h r3 m3 hp_
        exact g_iret (pc := 58) dX12_cutOf_58 rfl rfl rfl h
  · have h := h.2 c12
    refine g_iload_n (pc := 15) (x := a1) dX12_cutOf_15 rfl ?_
    refine g_goto (pc := 16) (tgt := 20) dX12_cutOf_16 (by decide) ?_
    refine g_iload_n (pc := 20) (x := a2) dX12_cutOf_20 rfl ?_
    refine g_if_eq (pc := 21) (tgt := 28) dX12_cutOf_21 (by decide) (fun c21 => ?_) (fun c21 => ?_)
    · have h := h.1 c21
      refine g_iload_n (pc := 28) (x := a1) dX12_cutOf_28 rfl ?_
      obtain ⟨Pm2, hRm2, h⟩ := h
      refine g_callV (pc := 29) (as := [.int a3, .int a1, .int a1]) dX12_cutOf_29 cw_X12_405 (by decide) rfl rfl sh_156 (Nat.le_of_ble_eq_true rfl) hRm2 ?_
      intro r_ m2 hz_ hp_
      obtain ⟨r2, rfl⟩ := hz_
      have h := h r2 m2 hp_
      refine g_istore (pc := 32) (L' := [(0, .ref 156), (1, .int a1), (2, .int a2), (3, .int a3), (4, .int r1), (5, .int r2)]) dX12_cutOf_32 (Nat.le_of_ble_eq_true rfl) rfl ?_
      refine g_iload (pc := 34) (x := r1) dX12_cutOf_34 rfl ?_
      refine g_iload (pc := 36) (x := r2) dX12_cutOf_36 rfl ?_
      refine g_iconst (pc := 38) (v := (-1 : Int32)) dX12_cutOf_38 (by decide) ?_
      refine g_ixor (pc := 39) dX12_cutOf_39 ?_
      refine g_iand (pc := 40) dX12_cutOf_40 ?_
      refine g_iload_n (pc := 41) (x := a2) dX12_cutOf_41 rfl ?_
      refine g_if_eq (pc := 42) (tgt := 49) dX12_cutOf_42 (by decide) (fun c42 => ?_) (fun c42 => ?_)
      · have h := h.1 c42
        refine g_iconst (pc := 49) (v := (1 : Int32)) dX12_cutOf_49 (by decide) ?_
        refine g_iload_n (pc := 50) (x := a1) dX12_cutOf_50 rfl ?_
        refine g_ishl (pc := 51) dX12_cutOf_51 ?_
        refine g_iconst (pc := 52) (v := (-1 : Int32)) dX12_cutOf_52 (by decide) ?_
        refine g_ixor (pc := 53) dX12_cutOf_53 ?_
        refine g_iand (pc := 54) dX12_cutOf_54 ?_
        obtain ⟨Pm3, hRm3, h⟩ := h
        refine g_callS (pc := 55) (as := [.int ((r1 &&& (r2 ^^^ (-1 : Int32))) &&& (((1 : Int32) <<< (a1 &&& 31)) ^^^ (-1 : Int32)))]) dX12_cutOf_55 cw_X12_408 (by decide) rfl rfl (Nat.le_of_ble_eq_true rfl) hRm3 ?_
        intro r_ m3 hz_ hp_
        obtain ⟨r3, rfl⟩ := hz_
        have h := h r3 m3 hp_
        exact g_iret (pc := 58) dX12_cutOf_58 rfl rfl rfl h
      · have h := h.2 c42
        refine g_iconst (pc := 45) (v := (-1 : Int32)) dX12_cutOf_45 (by decide) ?_
        refine g_goto (pc := 46) (tgt := 54) dX12_cutOf_46 (by decide) ?_
        refine g_iand (pc := 54) dX12_cutOf_54 ?_
        obtain ⟨Pm3, hRm3, h⟩ := h
        refine g_callS (pc := 55) (as := [.int ((r1 &&& (r2 ^^^ (-1 : Int32))) &&& (-1 : Int32))]) dX12_cutOf_55 cw_X12_408 (by decide) rfl rfl (Nat.le_of_ble_eq_true rfl) hRm3 ?_
        intro r_ m3 hz_ hp_
        obtain ⟨r3, rfl⟩ := hz_
        have h := h r3 m3 hp_
        exact g_iret (pc := 58) dX12_cutOf_58 rfl rfl rfl h
    · have h := h.2 c21
      refine g_iconst (pc := 24) (v := (-1 : Int32)) dX12_cutOf_24 (by decide) ?_
      refine g_goto (pc := 25) (tgt := 29) dX12_cutOf_25 (by decide) ?_
      obtain ⟨Pm2, hRm2, h⟩ := h
      refine g_callV (pc := 29) (as := [.int a3, .int a1, .int (-1 : Int32)]) dX12_cutOf_29 cw_X12_405 (by decide) rfl rfl sh_156 (Nat.le_of_ble_eq_true rfl) hRm2 ?_
      intro r_ m2 hz_ hp_
      obtain ⟨r2, rfl⟩ := hz_
      have h := h r2 m2 hp_
      refine g_istore (pc := 32) (L' := [(0, .ref 156), (1, .int a1), (2, .int a2), (3, .int a3), (4, .int r1), (5, .int r2)]) dX12_cutOf_32 (Nat.le_of_ble_eq_true rfl) rfl ?_
      refine g_iload (pc := 34) (x := r1) dX12_cutOf_34 rfl ?_
      refine g_iload (pc := 36) (x := r2) dX12_cutOf_36 rfl ?_
      refine g_iconst (pc := 38) (v := (-1 : Int32)) dX12_cutOf_38 (by decide) ?_
      refine g_ixor (pc := 39) dX12_cutOf_39 ?_
      refine g_iand (pc := 40) dX12_cutOf_40 ?_
      refine g_iload_n (pc := 41) (x := a2) dX12_cutOf_41 rfl ?_
      refine g_if_eq (pc := 42) (tgt := 49) dX12_cutOf_42 (by decide) (fun c42 => ?_) (fun c42 => ?_)
      · have h := h.1 c42
        refine g_iconst (pc := 49) (v := (1 : Int32)) dX12_cutOf_49 (by decide) ?_
        refine g_iload_n (pc := 50) (x := a1) dX12_cutOf_50 rfl ?_
        refine g_ishl (pc := 51) dX12_cutOf_51 ?_
        refine g_iconst (pc := 52) (v := (-1 : Int32)) dX12_cutOf_52 (by decide) ?_
        refine g_ixor (pc := 53) dX12_cutOf_53 ?_
        refine g_iand (pc := 54) dX12_cutOf_54 ?_
        obtain ⟨Pm3, hRm3, h⟩ := h
        refine g_callS (pc := 55) (as := [.int ((r1 &&& (r2 ^^^ (-1 : Int32))) &&& (((1 : Int32) <<< (a1 &&& 31)) ^^^ (-1 : Int32)))]) dX12_cutOf_55 cw_X12_408 (by decide) rfl rfl (Nat.le_of_ble_eq_true rfl) hRm3 ?_
        intro r_ m3 hz_ hp_
        obtain ⟨r3, rfl⟩ := hz_
        have h := h r3 m3 hp_
        exact g_iret (pc := 58) dX12_cutOf_58 rfl rfl rfl h
      · have h := h.2 c42
        refine g_iconst (pc := 45) (v := (-1 : Int32)) dX12_cutOf_45 (by decide) ?_
        refine g_goto (pc := 46) (tgt := 54) dX12_cutOf_46 (by decide) ?_
        refine g_iand (pc := 54) dX12_cutOf_54 ?_
        obtain ⟨Pm3, hRm3, h⟩ := h
        refine g_callS (pc := 55) (as := [.int ((r1 &&& (r2 ^^^ (-1 : Int32))) &&& (-1 : Int32))]) dX12_cutOf_55 cw_X12_408 (by decide) rfl rfl (Nat.le_of_ble_eq_true rfl) hRm3 ?_
        intro r_ m3 hz_ hp_
        obtain ⟨r3, rfl⟩ := hz_
        have h := h r3 m3 hp_
        exact g_iret (pc := 58) dX12_cutOf_58 rfl rfl rfl h
theorem dX12_manyOf_0 : decode cX12_manyOf 0 = .ok (.iload_n 1, 1) := by decide +kernel
theorem dX12_manyOf_1 : decode cX12_manyOf 1 = .ok (.ifCond .eq 12, 3) := by decide +kernel
theorem dX12_manyOf_4 : decode cX12_manyOf 4 = .ok (.aload_n 0, 1) := by decide +kernel
theorem dX12_manyOf_5 : decode cX12_manyOf 5 = .ok (.getfield 30, 3) := by decide +kernel
theorem dX12_manyOf_8 : decode cX12_manyOf 8 = .ok (.iconst 3, 1) := by decide +kernel
theorem dX12_manyOf_9 : decode cX12_manyOf 9 = .ok (.iaload, 1) := by decide +kernel
theorem dX12_manyOf_10 : decode cX12_manyOf 10 = .ok (.goto 9, 3) := by decide +kernel
theorem dX12_manyOf_13 : decode cX12_manyOf 13 = .ok (.aload_n 0, 1) := by decide +kernel
theorem dX12_manyOf_14 : decode cX12_manyOf 14 = .ok (.getfield 30, 3) := by decide +kernel
theorem dX12_manyOf_17 : decode cX12_manyOf 17 = .ok (.iconst 0, 1) := by decide +kernel
theorem dX12_manyOf_18 : decode cX12_manyOf 18 = .ok (.iaload, 1) := by decide +kernel
theorem dX12_manyOf_19 : decode cX12_manyOf 19 = .ok (.ireturn, 1) := by decide +kernel
noncomputable def v_X12_manyOf (mm : MM) (a1 : Int32) : Int32 := (cite (a1 = 0) (mm.1 162 0) (mm.1 162 3))
theorem rv_X12_manyOf (mm : MM) (a1 : Int32) : Runs e_X12_manyOf [.ref 156, .int a1] mm (fun r m_ => r = .int (v_X12_manyOf mm a1) ∧ mm = m_) := by
  refine runs_of_G (L := [(0, .ref 156), (1, .int a1)]) pl_X12 (Nat.le_of_ble_eq_true rfl) rfl ?_
  refine g_iload_n (pc := 0) (x := a1) dX12_manyOf_0 rfl ?_
  refine g_if_eq (pc := 1) (tgt := 13) dX12_manyOf_1 (by decide) (fun c1 => ?_) (fun c1 => ?_)
  · have c1_0 : a1 = 0 := c1
    refine g_aload_n (pc := 13) (x := 156) dX12_manyOf_13 rfl ?_
    refine g_getR (pc := 14) (dd := 6) dX12_manyOf_14 fo_X12_30 sh_156 rfl ?_
    refine g_iconst (pc := 17) (v := (0 : Int32)) dX12_manyOf_17 (by decide) ?_
    refine g_iaload (pc := 18) dX12_manyOf_18 sh_162 (vp_in_nI (n := 0) (N := 420) (by decide) (by decide)) ?_
    exact g_iret (pc := 19) dX12_manyOf_19 rfl rfl rfl ⟨(by unfold v_X12_manyOf; rw [cite_pos c1_0] <;> rfl), rfl⟩
  · have c1_0 : ¬ a1 = 0 := c1
    refine g_aload_n (pc := 4) (x := 156) dX12_manyOf_4 rfl ?_
    refine g_getR (pc := 5) (dd := 6) dX12_manyOf_5 fo_X12_30 sh_156 rfl ?_
    refine g_iconst (pc := 8) (v := (3 : Int32)) dX12_manyOf_8 (by decide) ?_
    refine g_iaload (pc := 9) dX12_manyOf_9 sh_162 (vp_in_nI (n := 3) (N := 420) (by decide) (by decide)) ?_
    refine g_goto (pc := 10) (tgt := 19) dX12_manyOf_10 (by decide) ?_
    exact g_iret (pc := 19) dX12_manyOf_19 rfl rfl rfl ⟨(by unfold v_X12_manyOf; rw [cite_neg c1_0] <;> rfl), rfl⟩
theorem dX12_cut_0 : decode cX12_cut 0 = .ok (.iload_n 1, 1) := by decide +kernel
theorem dX12_cut_1 : decode cX12_cut 1 = .ok (.ifCond .lt 19, 3) := by decide +kernel
theorem dX12_cut_4 : decode cX12_cut 4 = .ok (.iload_n 1, 1) := by decide +kernel
theorem dX12_cut_5 : decode cX12_cut 5 = .ok (.aload_n 0, 1) := by decide +kernel
theorem dX12_cut_6 : decode cX12_cut 6 = .ok (.iload_n 2, 1) := by decide +kernel
theorem dX12_cut_7 : decode cX12_cut 7 = .ok (.invokevirtual 411, 3) := by decide +kernel
theorem dX12_cut_10 : decode cX12_cut 10 = .ok (.if_icmp .ge 10, 3) := by decide +kernel
theorem dX12_cut_13 : decode cX12_cut 13 = .ok (.iload_n 3, 1) := by decide +kernel
theorem dX12_cut_14 : decode cX12_cut 14 = .ok (.invokestatic 396, 3) := by decide +kernel
theorem dX12_cut_17 : decode cX12_cut 17 = .ok (.ifCond .ne 7, 3) := by decide +kernel
theorem dX12_cut_20 : decode cX12_cut 20 = .ok (.iconst (-1), 1) := by decide +kernel
theorem dX12_cut_21 : decode cX12_cut 21 = .ok (.goto 10, 3) := by decide +kernel
theorem dX12_cut_24 : decode cX12_cut 24 = .ok (.aload_n 0, 1) := by decide +kernel
theorem dX12_cut_25 : decode cX12_cut 25 = .ok (.iload_n 1, 1) := by decide +kernel
theorem dX12_cut_26 : decode cX12_cut 26 = .ok (.iload_n 2, 1) := by decide +kernel
theorem dX12_cut_27 : decode cX12_cut 27 = .ok (.iload_n 3, 1) := by decide +kernel
theorem dX12_cut_28 : decode cX12_cut 28 = .ok (.invokevirtual 415, 3) := by decide +kernel
theorem dX12_cut_31 : decode cX12_cut 31 = .ok (.ireturn, 1) := by decide +kernel
theorem b_X12_cut (mm : MM) (Q : Value → MM → Prop) (a1 : Int32) (a2 : Int32) (a3 : Int32) (h : (a1 < 0 → (Q (.int (-1 : Int32)) mm)) ∧ (¬ a1 < 0 → (((v_X12_manyOf mm a2) ≤ a1 → (Q (.int (-1 : Int32)) mm)) ∧ (¬ (v_X12_manyOf mm a2) ≤ a1 → ((p_X12_isHour mm a3 → (∃ Pm1 : Value → MM → Prop, Runs e_X12_cutOf [.ref 156, .int a1, .int a2, .int a3] mm Pm1 ∧ ∀ (r1 : Int32) (m1 : MM), Pm1 (.int r1) m1 → (Q (.int r1) m1))) ∧ (¬ p_X12_isHour mm a3 → (Q (.int (-1 : Int32)) mm))))))) : Runs e_X12_cut [.ref 156, .int a1, .int a2, .int a3] mm Q := by
  refine runs_of_G (L := [(0, .ref 156), (1, .int a1), (2, .int a2), (3, .int a3)]) pl_X12 (Nat.le_of_ble_eq_true rfl) rfl ?_
  refine g_iload_n (pc := 0) (x := a1) dX12_cut_0 rfl ?_
  refine g_if_lt (pc := 1) (tgt := 20) dX12_cut_1 (by decide) (fun c1 => ?_) (fun c1 => ?_)
  · have h := h.1 c1
    refine g_iconst (pc := 20) (v := (-1 : Int32)) dX12_cut_20 (by decide) ?_
    refine g_goto (pc := 21) (tgt := 31) dX12_cut_21 (by decide) ?_
    exact g_iret (pc := 31) dX12_cut_31 rfl rfl rfl h
  · have h := h.2 c1
    refine g_iload_n (pc := 4) (x := a1) dX12_cut_4 rfl ?_
    refine g_aload_n (pc := 5) (x := 156) dX12_cut_5 rfl ?_
    refine g_iload_n (pc := 6) (x := a2) dX12_cut_6 rfl ?_
    refine g_callV (pc := 7) (as := [.int a2]) dX12_cut_7 cw_X12_411 (by decide) rfl rfl sh_156 (Nat.le_of_ble_eq_true rfl) (rv_X12_manyOf mm a2) ?_
    rintro r_ m_ hz_ ⟨rfl, rfl⟩
    refine g_icmp_ge (pc := 10) (tgt := 20) dX12_cut_10 (by decide) (fun c10 => ?_) (fun c10 => ?_)
    · have h := h.1 c10
      refine g_iconst (pc := 20) (v := (-1 : Int32)) dX12_cut_20 (by decide) ?_
      refine g_goto (pc := 21) (tgt := 31) dX12_cut_21 (by decide) ?_
      exact g_iret (pc := 31) dX12_cut_31 rfl rfl rfl h
    · have h := h.2 c10
      refine g_iload_n (pc := 13) (x := a3) dX12_cut_13 rfl ?_
      refine g_callS (pc := 14) (as := [.int a3]) dX12_cut_14 cw_X12_396 (by decide) rfl rfl (Nat.le_of_ble_eq_true rfl) (rv_X12_isHour mm a3) ?_
      rintro r_ m_ hz_ ⟨⟨p_, rfl⟩ | ⟨p_, rfl⟩, rfl⟩
      · have h := h.1 p_
        refine g_if_ne (pc := 17) (tgt := 24) dX12_cut_17 (by decide) (fun _ => ?_) (fun c17 => absurd c17 (by decide))
        refine g_aload_n (pc := 24) (x := 156) dX12_cut_24 rfl ?_
        refine g_iload_n (pc := 25) (x := a1) dX12_cut_25 rfl ?_
        refine g_iload_n (pc := 26) (x := a2) dX12_cut_26 rfl ?_
        refine g_iload_n (pc := 27) (x := a3) dX12_cut_27 rfl ?_
        obtain ⟨Pm1, hRm1, h⟩ := h
        refine g_callV (pc := 28) (as := [.int a1, .int a2, .int a3]) dX12_cut_28 cw_X12_415 (by decide) rfl rfl sh_156 (Nat.le_of_ble_eq_true rfl) hRm1 ?_
        intro r_ m1 hz_ hp_
        obtain ⟨r1, rfl⟩ := hz_
        have h := h r1 m1 hp_
        exact g_iret (pc := 31) dX12_cut_31 rfl rfl rfl h
      · have h := h.2 p_
        refine g_if_ne (pc := 17) (tgt := 24) dX12_cut_17 (by decide) (fun c17 => absurd c17 (by decide)) (fun _ => ?_)
        refine g_iconst (pc := 20) (v := (-1 : Int32)) dX12_cut_20 (by decide) ?_
        refine g_goto (pc := 21) (tgt := 31) dX12_cut_21 (by decide) ?_
        exact g_iret (pc := 31) dX12_cut_31 rfl rfl rfl h

theorem dX12_isBelow_0 : decode cX12_isBelow 0 = .ok (.aload_n 0, 1) := by decide +kernel
theorem dX12_isBelow_1 : decode cX12_isBelow 1 = .ok (.iload_n 2, 1) := by decide +kernel
theorem dX12_isBelow_2 : decode cX12_isBelow 2 = .ok (.invokevirtual 371, 3) := by decide +kernel
theorem dX12_isBelow_5 : decode cX12_isBelow 5 = .ok (.aload_n 0, 1) := by decide +kernel
theorem dX12_isBelow_6 : decode cX12_isBelow 6 = .ok (.iload_n 3, 1) := by decide +kernel
theorem dX12_isBelow_7 : decode cX12_isBelow 7 = .ok (.invokevirtual 371, 3) := by decide +kernel
theorem dX12_isBelow_10 : decode cX12_isBelow 10 = .ok (.if_icmp .ge 7, 3) := by decide +kernel
theorem dX12_isBelow_13 : decode cX12_isBelow 13 = .ok (.iload_n 2, 1) := by decide +kernel
theorem dX12_isBelow_14 : decode cX12_isBelow 14 = .ok (.goto 4, 3) := by decide +kernel
theorem dX12_isBelow_17 : decode cX12_isBelow 17 = .ok (.iload_n 3, 1) := by decide +kernel
theorem dX12_isBelow_18 : decode cX12_isBelow 18 = .ok (.istore 4, 2) := by decide +kernel
theorem dX12_isBelow_20 : decode cX12_isBelow 20 = .ok (.iload 4, 2) := by decide +kernel
theorem dX12_isBelow_22 : decode cX12_isBelow 22 = .ok (.iload_n 2, 1) := by decide +kernel
theorem dX12_isBelow_23 : decode cX12_isBelow 23 = .ok (.if_icmp .ne 7, 3) := by decide +kernel
theorem dX12_isBelow_26 : decode cX12_isBelow 26 = .ok (.iload_n 3, 1) := by decide +kernel
theorem dX12_isBelow_27 : decode cX12_isBelow 27 = .ok (.goto 4, 3) := by decide +kernel
theorem dX12_isBelow_30 : decode cX12_isBelow 30 = .ok (.iload_n 2, 1) := by decide +kernel
theorem dX12_isBelow_31 : decode cX12_isBelow 31 = .ok (.istore 5, 2) := by decide +kernel
theorem dX12_isBelow_33 : decode cX12_isBelow 33 = .ok (.aload_n 0, 1) := by decide +kernel
theorem dX12_isBelow_34 : decode cX12_isBelow 34 = .ok (.iload_n 1, 1) := by decide +kernel
theorem dX12_isBelow_35 : decode cX12_isBelow 35 = .ok (.invokevirtual 380, 3) := by decide +kernel
theorem dX12_isBelow_38 : decode cX12_isBelow 38 = .ok (.aload_n 0, 1) := by decide +kernel
theorem dX12_isBelow_39 : decode cX12_isBelow 39 = .ok (.iload 4, 2) := by decide +kernel
theorem dX12_isBelow_41 : decode cX12_isBelow 41 = .ok (.invokevirtual 380, 3) := by decide +kernel
theorem dX12_isBelow_44 : decode cX12_isBelow 44 = .ok (.isub, 1) := by decide +kernel
theorem dX12_isBelow_45 : decode cX12_isBelow 45 = .ok (.aload_n 0, 1) := by decide +kernel
theorem dX12_isBelow_46 : decode cX12_isBelow 46 = .ok (.iload 5, 2) := by decide +kernel
theorem dX12_isBelow_48 : decode cX12_isBelow 48 = .ok (.invokevirtual 371, 3) := by decide +kernel
theorem dX12_isBelow_51 : decode cX12_isBelow 51 = .ok (.aload_n 0, 1) := by decide +kernel
theorem dX12_isBelow_52 : decode cX12_isBelow 52 = .ok (.iload 4, 2) := by decide +kernel
theorem dX12_isBelow_54 : decode cX12_isBelow 54 = .ok (.invokevirtual 371, 3) := by decide +kernel
theorem dX12_isBelow_57 : decode cX12_isBelow 57 = .ok (.isub, 1) := by decide +kernel
theorem dX12_isBelow_58 : decode cX12_isBelow 58 = .ok (.imul, 1) := by decide +kernel
theorem dX12_isBelow_59 : decode cX12_isBelow 59 = .ok (.aload_n 0, 1) := by decide +kernel
theorem dX12_isBelow_60 : decode cX12_isBelow 60 = .ok (.iload 5, 2) := by decide +kernel
theorem dX12_isBelow_62 : decode cX12_isBelow 62 = .ok (.invokevirtual 380, 3) := by decide +kernel
theorem dX12_isBelow_65 : decode cX12_isBelow 65 = .ok (.aload_n 0, 1) := by decide +kernel
theorem dX12_isBelow_66 : decode cX12_isBelow 66 = .ok (.iload 4, 2) := by decide +kernel
theorem dX12_isBelow_68 : decode cX12_isBelow 68 = .ok (.invokevirtual 380, 3) := by decide +kernel
theorem dX12_isBelow_71 : decode cX12_isBelow 71 = .ok (.isub, 1) := by decide +kernel
theorem dX12_isBelow_72 : decode cX12_isBelow 72 = .ok (.aload_n 0, 1) := by decide +kernel
theorem dX12_isBelow_73 : decode cX12_isBelow 73 = .ok (.iload_n 1, 1) := by decide +kernel
theorem dX12_isBelow_74 : decode cX12_isBelow 74 = .ok (.invokevirtual 371, 3) := by decide +kernel
theorem dX12_isBelow_77 : decode cX12_isBelow 77 = .ok (.aload_n 0, 1) := by decide +kernel
theorem dX12_isBelow_78 : decode cX12_isBelow 78 = .ok (.iload 4, 2) := by decide +kernel
theorem dX12_isBelow_80 : decode cX12_isBelow 80 = .ok (.invokevirtual 371, 3) := by decide +kernel
theorem dX12_isBelow_83 : decode cX12_isBelow 83 = .ok (.isub, 1) := by decide +kernel
theorem dX12_isBelow_84 : decode cX12_isBelow 84 = .ok (.imul, 1) := by decide +kernel
theorem dX12_isBelow_85 : decode cX12_isBelow 85 = .ok (.if_icmp .ge 7, 3) := by decide +kernel
theorem dX12_isBelow_88 : decode cX12_isBelow 88 = .ok (.iconst 1, 1) := by decide +kernel
theorem dX12_isBelow_89 : decode cX12_isBelow 89 = .ok (.goto 4, 3) := by decide +kernel
theorem dX12_isBelow_92 : decode cX12_isBelow 92 = .ok (.iconst 0, 1) := by decide +kernel
theorem dX12_isBelow_93 : decode cX12_isBelow 93 = .ok (.ireturn, 1) := by decide +kernel
def o_X12_isBelow (mm : MM) (a1 : Int32) (a2 : Int32) (a3 : Int32) : Prop := o_X12_xOf mm a2 ∧ (o_X12_xOf mm a3 ∧ (((v_X12_xOf mm a3) ≤ (v_X12_xOf mm a2) → ((¬ a3 = a2 → (o_X12_heightOf mm a1 ∧ (o_X12_heightOf mm a3 ∧ (o_X12_xOf mm a2 ∧ (o_X12_xOf mm a3 ∧ (o_X12_heightOf mm a2 ∧ (o_X12_heightOf mm a3 ∧ (o_X12_xOf mm a1 ∧ (o_X12_xOf mm a3 ∧ (((((v_X12_heightOf mm a2) - (v_X12_heightOf mm a3)) * ((v_X12_xOf mm a1) - (v_X12_xOf mm a3))) ≤ (((v_X12_heightOf mm a1) - (v_X12_heightOf mm a3)) * ((v_X12_xOf mm a2) - (v_X12_xOf mm a3))) → (True)) ∧ (¬ (((v_X12_heightOf mm a2) - (v_X12_heightOf mm a3)) * ((v_X12_xOf mm a1) - (v_X12_xOf mm a3))) ≤ (((v_X12_heightOf mm a1) - (v_X12_heightOf mm a3)) * ((v_X12_xOf mm a2) - (v_X12_xOf mm a3))) → (True)))))))))))) ∧ (a3 = a2 → (o_X12_heightOf mm a1 ∧ (o_X12_heightOf mm a3 ∧ (o_X12_xOf mm a3 ∧ (o_X12_xOf mm a3 ∧ (o_X12_heightOf mm a3 ∧ (o_X12_heightOf mm a3 ∧ (o_X12_xOf mm a1 ∧ (o_X12_xOf mm a3 ∧ (((((v_X12_heightOf mm a3) - (v_X12_heightOf mm a3)) * ((v_X12_xOf mm a1) - (v_X12_xOf mm a3))) ≤ (((v_X12_heightOf mm a1) - (v_X12_heightOf mm a3)) * ((v_X12_xOf mm a3) - (v_X12_xOf mm a3))) → (True)) ∧ (¬ (((v_X12_heightOf mm a3) - (v_X12_heightOf mm a3)) * ((v_X12_xOf mm a1) - (v_X12_xOf mm a3))) ≤ (((v_X12_heightOf mm a1) - (v_X12_heightOf mm a3)) * ((v_X12_xOf mm a3) - (v_X12_xOf mm a3))) → (True)))))))))))))) ∧ (¬ (v_X12_xOf mm a3) ≤ (v_X12_xOf mm a2) → ((¬ a2 = a2 → (o_X12_heightOf mm a1 ∧ (o_X12_heightOf mm a2 ∧ (o_X12_xOf mm a2 ∧ (o_X12_xOf mm a2 ∧ (o_X12_heightOf mm a2 ∧ (o_X12_heightOf mm a2 ∧ (o_X12_xOf mm a1 ∧ (o_X12_xOf mm a2 ∧ (((((v_X12_heightOf mm a2) - (v_X12_heightOf mm a2)) * ((v_X12_xOf mm a1) - (v_X12_xOf mm a2))) ≤ (((v_X12_heightOf mm a1) - (v_X12_heightOf mm a2)) * ((v_X12_xOf mm a2) - (v_X12_xOf mm a2))) → (True)) ∧ (¬ (((v_X12_heightOf mm a2) - (v_X12_heightOf mm a2)) * ((v_X12_xOf mm a1) - (v_X12_xOf mm a2))) ≤ (((v_X12_heightOf mm a1) - (v_X12_heightOf mm a2)) * ((v_X12_xOf mm a2) - (v_X12_xOf mm a2))) → (True)))))))))))) ∧ (a2 = a2 → (o_X12_heightOf mm a1 ∧ (o_X12_heightOf mm a2 ∧ (o_X12_xOf mm a3 ∧ (o_X12_xOf mm a2 ∧ (o_X12_heightOf mm a3 ∧ (o_X12_heightOf mm a2 ∧ (o_X12_xOf mm a1 ∧ (o_X12_xOf mm a2 ∧ (((((v_X12_heightOf mm a3) - (v_X12_heightOf mm a2)) * ((v_X12_xOf mm a1) - (v_X12_xOf mm a2))) ≤ (((v_X12_heightOf mm a1) - (v_X12_heightOf mm a2)) * ((v_X12_xOf mm a3) - (v_X12_xOf mm a2))) → (True)) ∧ (¬ (((v_X12_heightOf mm a3) - (v_X12_heightOf mm a2)) * ((v_X12_xOf mm a1) - (v_X12_xOf mm a2))) ≤ (((v_X12_heightOf mm a1) - (v_X12_heightOf mm a2)) * ((v_X12_xOf mm a3) - (v_X12_xOf mm a2))) → (True))))))))))))))))
def p_X12_isBelow (mm : MM) (a1 : Int32) (a2 : Int32) (a3 : Int32) : Prop := (((v_X12_xOf mm a3) ≤ (v_X12_xOf mm a2) ∧ ((¬ a3 = a2 ∧ ¬ (((v_X12_heightOf mm a2) - (v_X12_heightOf mm a3)) * ((v_X12_xOf mm a1) - (v_X12_xOf mm a3))) ≤ (((v_X12_heightOf mm a1) - (v_X12_heightOf mm a3)) * ((v_X12_xOf mm a2) - (v_X12_xOf mm a3)))) ∨ (a3 = a2 ∧ ¬ (((v_X12_heightOf mm a3) - (v_X12_heightOf mm a3)) * ((v_X12_xOf mm a1) - (v_X12_xOf mm a3))) ≤ (((v_X12_heightOf mm a1) - (v_X12_heightOf mm a3)) * ((v_X12_xOf mm a3) - (v_X12_xOf mm a3)))))) ∨ (¬ (v_X12_xOf mm a3) ≤ (v_X12_xOf mm a2) ∧ ((¬ a2 = a2 ∧ ¬ (((v_X12_heightOf mm a2) - (v_X12_heightOf mm a2)) * ((v_X12_xOf mm a1) - (v_X12_xOf mm a2))) ≤ (((v_X12_heightOf mm a1) - (v_X12_heightOf mm a2)) * ((v_X12_xOf mm a2) - (v_X12_xOf mm a2)))) ∨ (a2 = a2 ∧ ¬ (((v_X12_heightOf mm a3) - (v_X12_heightOf mm a2)) * ((v_X12_xOf mm a1) - (v_X12_xOf mm a2))) ≤ (((v_X12_heightOf mm a1) - (v_X12_heightOf mm a2)) * ((v_X12_xOf mm a3) - (v_X12_xOf mm a2)))))))
theorem rv_X12_isBelow (mm : MM) (a1 : Int32) (a2 : Int32) (a3 : Int32) (h : o_X12_isBelow mm a1 a2 a3) : Runs e_X12_isBelow [.ref 156, .int a1, .int a2, .int a3] mm (fun r m_ => ((p_X12_isBelow mm a1 a2 a3 ∧ r = .int 1) ∨ (¬ p_X12_isBelow mm a1 a2 a3 ∧ r = .int 0)) ∧ mm = m_) := by
  refine runs_of_G (L := [(0, .ref 156), (1, .int a1), (2, .int a2), (3, .int a3)]) pl_X12 (Nat.le_of_ble_eq_true rfl) rfl ?_
  unfold o_X12_isBelow at h
  refine g_aload_n (pc := 0) (x := 156) dX12_isBelow_0 rfl ?_
  refine g_iload_n (pc := 1) (x := a2) dX12_isBelow_1 rfl ?_
  refine g_callV (pc := 2) (as := [.int a2]) dX12_isBelow_2 cw_X12_371 (by decide) rfl rfl sh_156 (Nat.le_of_ble_eq_true rfl) (rv_X12_xOf mm a2 h.1) ?_
  have h := h.2
  rintro r_ m_ hz_ ⟨rfl, rfl⟩
  refine g_aload_n (pc := 5) (x := 156) dX12_isBelow_5 rfl ?_
  refine g_iload_n (pc := 6) (x := a3) dX12_isBelow_6 rfl ?_
  refine g_callV (pc := 7) (as := [.int a3]) dX12_isBelow_7 cw_X12_371 (by decide) rfl rfl sh_156 (Nat.le_of_ble_eq_true rfl) (rv_X12_xOf mm a3 h.1) ?_
  have h := h.2
  rintro r_ m_ hz_ ⟨rfl, rfl⟩
  refine g_icmp_ge (pc := 10) (tgt := 17) dX12_isBelow_10 (by decide) (fun c10 => ?_) (fun c10 => ?_)
  · have c10_0 : (v_X12_xOf mm a3) ≤ (v_X12_xOf mm a2) := c10
    have h := h.1 c10
    refine g_iload_n (pc := 17) (x := a3) dX12_isBelow_17 rfl ?_
    refine g_istore (pc := 18) (L' := [(0, .ref 156), (1, .int a1), (2, .int a2), (3, .int a3), (4, .int a3)]) dX12_isBelow_18 (Nat.le_of_ble_eq_true rfl) rfl ?_
    refine g_iload (pc := 20) (x := a3) dX12_isBelow_20 rfl ?_
    refine g_iload_n (pc := 22) (x := a2) dX12_isBelow_22 rfl ?_
    refine g_icmp_ne (pc := 23) (tgt := 30) dX12_isBelow_23 (by decide) (fun c23 => ?_) (fun c23 => ?_)
    · have c23_1 : ¬ a3 = a2 := c23
      have h := h.1 c23
      refine g_iload_n (pc := 30) (x := a2) dX12_isBelow_30 rfl ?_
      refine g_istore (pc := 31) (L' := [(0, .ref 156), (1, .int a1), (2, .int a2), (3, .int a3), (4, .int a3), (5, .int a2)]) dX12_isBelow_31 (Nat.le_of_ble_eq_true rfl) rfl ?_
      refine g_aload_n (pc := 33) (x := 156) dX12_isBelow_33 rfl ?_
      refine g_iload_n (pc := 34) (x := a1) dX12_isBelow_34 rfl ?_
      refine g_callV (pc := 35) (as := [.int a1]) dX12_isBelow_35 cw_X12_380 (by decide) rfl rfl sh_156 (Nat.le_of_ble_eq_true rfl) (rv_X12_heightOf mm a1 h.1) ?_
      have h := h.2
      rintro r_ m_ hz_ ⟨rfl, rfl⟩
      refine g_aload_n (pc := 38) (x := 156) dX12_isBelow_38 rfl ?_
      refine g_iload (pc := 39) (x := a3) dX12_isBelow_39 rfl ?_
      refine g_callV (pc := 41) (as := [.int a3]) dX12_isBelow_41 cw_X12_380 (by decide) rfl rfl sh_156 (Nat.le_of_ble_eq_true rfl) (rv_X12_heightOf mm a3 h.1) ?_
      have h := h.2
      rintro r_ m_ hz_ ⟨rfl, rfl⟩
      refine g_isub (pc := 44) dX12_isBelow_44 ?_
      refine g_aload_n (pc := 45) (x := 156) dX12_isBelow_45 rfl ?_
      refine g_iload (pc := 46) (x := a2) dX12_isBelow_46 rfl ?_
      refine g_callV (pc := 48) (as := [.int a2]) dX12_isBelow_48 cw_X12_371 (by decide) rfl rfl sh_156 (Nat.le_of_ble_eq_true rfl) (rv_X12_xOf mm a2 h.1) ?_
      have h := h.2
      rintro r_ m_ hz_ ⟨rfl, rfl⟩
      refine g_aload_n (pc := 51) (x := 156) dX12_isBelow_51 rfl ?_
      refine g_iload (pc := 52) (x := a3) dX12_isBelow_52 rfl ?_
      refine g_callV (pc := 54) (as := [.int a3]) dX12_isBelow_54 cw_X12_371 (by decide) rfl rfl sh_156 (Nat.le_of_ble_eq_true rfl) (rv_X12_xOf mm a3 h.1) ?_
      have h := h.2
      rintro r_ m_ hz_ ⟨rfl, rfl⟩
      refine g_isub (pc := 57) dX12_isBelow_57 ?_
      refine g_imul (pc := 58) dX12_isBelow_58 ?_
      refine g_aload_n (pc := 59) (x := 156) dX12_isBelow_59 rfl ?_
      refine g_iload (pc := 60) (x := a2) dX12_isBelow_60 rfl ?_
      refine g_callV (pc := 62) (as := [.int a2]) dX12_isBelow_62 cw_X12_380 (by decide) rfl rfl sh_156 (Nat.le_of_ble_eq_true rfl) (rv_X12_heightOf mm a2 h.1) ?_
      have h := h.2
      rintro r_ m_ hz_ ⟨rfl, rfl⟩
      refine g_aload_n (pc := 65) (x := 156) dX12_isBelow_65 rfl ?_
      refine g_iload (pc := 66) (x := a3) dX12_isBelow_66 rfl ?_
      refine g_callV (pc := 68) (as := [.int a3]) dX12_isBelow_68 cw_X12_380 (by decide) rfl rfl sh_156 (Nat.le_of_ble_eq_true rfl) (rv_X12_heightOf mm a3 h.1) ?_
      have h := h.2
      rintro r_ m_ hz_ ⟨rfl, rfl⟩
      refine g_isub (pc := 71) dX12_isBelow_71 ?_
      refine g_aload_n (pc := 72) (x := 156) dX12_isBelow_72 rfl ?_
      refine g_iload_n (pc := 73) (x := a1) dX12_isBelow_73 rfl ?_
      refine g_callV (pc := 74) (as := [.int a1]) dX12_isBelow_74 cw_X12_371 (by decide) rfl rfl sh_156 (Nat.le_of_ble_eq_true rfl) (rv_X12_xOf mm a1 h.1) ?_
      have h := h.2
      rintro r_ m_ hz_ ⟨rfl, rfl⟩
      refine g_aload_n (pc := 77) (x := 156) dX12_isBelow_77 rfl ?_
      refine g_iload (pc := 78) (x := a3) dX12_isBelow_78 rfl ?_
      refine g_callV (pc := 80) (as := [.int a3]) dX12_isBelow_80 cw_X12_371 (by decide) rfl rfl sh_156 (Nat.le_of_ble_eq_true rfl) (rv_X12_xOf mm a3 h.1) ?_
      have h := h.2
      rintro r_ m_ hz_ ⟨rfl, rfl⟩
      refine g_isub (pc := 83) dX12_isBelow_83 ?_
      refine g_imul (pc := 84) dX12_isBelow_84 ?_
      refine g_icmp_ge (pc := 85) (tgt := 92) dX12_isBelow_85 (by decide) (fun c85 => ?_) (fun c85 => ?_)
      · have c85_2 : (((v_X12_heightOf mm a2) - (v_X12_heightOf mm a3)) * ((v_X12_xOf mm a1) - (v_X12_xOf mm a3))) ≤ (((v_X12_heightOf mm a1) - (v_X12_heightOf mm a3)) * ((v_X12_xOf mm a2) - (v_X12_xOf mm a3))) := c85
        refine g_iconst (pc := 92) (v := (0 : Int32)) dX12_isBelow_92 (by decide) ?_
        exact g_iret (pc := 93) dX12_isBelow_93 rfl rfl (nar_B isB0) ⟨Or.inr ⟨(show ¬ p_X12_isBelow mm a1 a2 a3 from (fun h_ => h_.elim (fun z_ => (fun h_ => h_.elim (fun z_ => (not_not_intro c85_2) z_.2) (fun z_ => (c23_1 z_.1))) z_.2) (fun z_ => (z_.1 c10_0)))), rfl⟩, rfl⟩
      · have c85_2 : ¬ (((v_X12_heightOf mm a2) - (v_X12_heightOf mm a3)) * ((v_X12_xOf mm a1) - (v_X12_xOf mm a3))) ≤ (((v_X12_heightOf mm a1) - (v_X12_heightOf mm a3)) * ((v_X12_xOf mm a2) - (v_X12_xOf mm a3))) := c85
        refine g_iconst (pc := 88) (v := (1 : Int32)) dX12_isBelow_88 (by decide) ?_
        refine g_goto (pc := 89) (tgt := 93) dX12_isBelow_89 (by decide) ?_
        exact g_iret (pc := 93) dX12_isBelow_93 rfl rfl (nar_B isB1) ⟨Or.inl ⟨(show p_X12_isBelow mm a1 a2 a3 from (Or.inl ⟨c10_0, (Or.inl ⟨c23_1, c85_2⟩)⟩)), rfl⟩, rfl⟩
    · have c23_1 : a3 = a2 := c23
      have h := h.2 c23
      refine g_iload_n (pc := 26) (x := a3) dX12_isBelow_26 rfl ?_
      refine g_goto (pc := 27) (tgt := 31) dX12_isBelow_27 (by decide) ?_
      refine g_istore (pc := 31) (L' := [(0, .ref 156), (1, .int a1), (2, .int a2), (3, .int a3), (4, .int a3), (5, .int a3)]) dX12_isBelow_31 (Nat.le_of_ble_eq_true rfl) rfl ?_
      refine g_aload_n (pc := 33) (x := 156) dX12_isBelow_33 rfl ?_
      refine g_iload_n (pc := 34) (x := a1) dX12_isBelow_34 rfl ?_
      refine g_callV (pc := 35) (as := [.int a1]) dX12_isBelow_35 cw_X12_380 (by decide) rfl rfl sh_156 (Nat.le_of_ble_eq_true rfl) (rv_X12_heightOf mm a1 h.1) ?_
      have h := h.2
      rintro r_ m_ hz_ ⟨rfl, rfl⟩
      refine g_aload_n (pc := 38) (x := 156) dX12_isBelow_38 rfl ?_
      refine g_iload (pc := 39) (x := a3) dX12_isBelow_39 rfl ?_
      refine g_callV (pc := 41) (as := [.int a3]) dX12_isBelow_41 cw_X12_380 (by decide) rfl rfl sh_156 (Nat.le_of_ble_eq_true rfl) (rv_X12_heightOf mm a3 h.1) ?_
      have h := h.2
      rintro r_ m_ hz_ ⟨rfl, rfl⟩
      refine g_isub (pc := 44) dX12_isBelow_44 ?_
      refine g_aload_n (pc := 45) (x := 156) dX12_isBelow_45 rfl ?_
      refine g_iload (pc := 46) (x := a3) dX12_isBelow_46 rfl ?_
      refine g_callV (pc := 48) (as := [.int a3]) dX12_isBelow_48 cw_X12_371 (by decide) rfl rfl sh_156 (Nat.le_of_ble_eq_true rfl) (rv_X12_xOf mm a3 h.1) ?_
      have h := h.2
      rintro r_ m_ hz_ ⟨rfl, rfl⟩
      refine g_aload_n (pc := 51) (x := 156) dX12_isBelow_51 rfl ?_
      refine g_iload (pc := 52) (x := a3) dX12_isBelow_52 rfl ?_
      refine g_callV (pc := 54) (as := [.int a3]) dX12_isBelow_54 cw_X12_371 (by decide) rfl rfl sh_156 (Nat.le_of_ble_eq_true rfl) (rv_X12_xOf mm a3 h.1) ?_
      have h := h.2
      rintro r_ m_ hz_ ⟨rfl, rfl⟩
      refine g_isub (pc := 57) dX12_isBelow_57 ?_
      refine g_imul (pc := 58) dX12_isBelow_58 ?_
      refine g_aload_n (pc := 59) (x := 156) dX12_isBelow_59 rfl ?_
      refine g_iload (pc := 60) (x := a3) dX12_isBelow_60 rfl ?_
      refine g_callV (pc := 62) (as := [.int a3]) dX12_isBelow_62 cw_X12_380 (by decide) rfl rfl sh_156 (Nat.le_of_ble_eq_true rfl) (rv_X12_heightOf mm a3 h.1) ?_
      have h := h.2
      rintro r_ m_ hz_ ⟨rfl, rfl⟩
      refine g_aload_n (pc := 65) (x := 156) dX12_isBelow_65 rfl ?_
      refine g_iload (pc := 66) (x := a3) dX12_isBelow_66 rfl ?_
      refine g_callV (pc := 68) (as := [.int a3]) dX12_isBelow_68 cw_X12_380 (by decide) rfl rfl sh_156 (Nat.le_of_ble_eq_true rfl) (rv_X12_heightOf mm a3 h.1) ?_
      have h := h.2
      rintro r_ m_ hz_ ⟨rfl, rfl⟩
      refine g_isub (pc := 71) dX12_isBelow_71 ?_
      refine g_aload_n (pc := 72) (x := 156) dX12_isBelow_72 rfl ?_
      refine g_iload_n (pc := 73) (x := a1) dX12_isBelow_73 rfl ?_
      refine g_callV (pc := 74) (as := [.int a1]) dX12_isBelow_74 cw_X12_371 (by decide) rfl rfl sh_156 (Nat.le_of_ble_eq_true rfl) (rv_X12_xOf mm a1 h.1) ?_
      have h := h.2
      rintro r_ m_ hz_ ⟨rfl, rfl⟩
      refine g_aload_n (pc := 77) (x := 156) dX12_isBelow_77 rfl ?_
      refine g_iload (pc := 78) (x := a3) dX12_isBelow_78 rfl ?_
      refine g_callV (pc := 80) (as := [.int a3]) dX12_isBelow_80 cw_X12_371 (by decide) rfl rfl sh_156 (Nat.le_of_ble_eq_true rfl) (rv_X12_xOf mm a3 h.1) ?_
      have h := h.2
      rintro r_ m_ hz_ ⟨rfl, rfl⟩
      refine g_isub (pc := 83) dX12_isBelow_83 ?_
      refine g_imul (pc := 84) dX12_isBelow_84 ?_
      refine g_icmp_ge (pc := 85) (tgt := 92) dX12_isBelow_85 (by decide) (fun c85 => ?_) (fun c85 => ?_)
      · have c85_2 : (((v_X12_heightOf mm a3) - (v_X12_heightOf mm a3)) * ((v_X12_xOf mm a1) - (v_X12_xOf mm a3))) ≤ (((v_X12_heightOf mm a1) - (v_X12_heightOf mm a3)) * ((v_X12_xOf mm a3) - (v_X12_xOf mm a3))) := c85
        refine g_iconst (pc := 92) (v := (0 : Int32)) dX12_isBelow_92 (by decide) ?_
        exact g_iret (pc := 93) dX12_isBelow_93 rfl rfl (nar_B isB0) ⟨Or.inr ⟨(show ¬ p_X12_isBelow mm a1 a2 a3 from (fun h_ => h_.elim (fun z_ => (fun h_ => h_.elim (fun z_ => (z_.1 c23_1)) (fun z_ => (not_not_intro c85_2) z_.2)) z_.2) (fun z_ => (z_.1 c10_0)))), rfl⟩, rfl⟩
      · have c85_2 : ¬ (((v_X12_heightOf mm a3) - (v_X12_heightOf mm a3)) * ((v_X12_xOf mm a1) - (v_X12_xOf mm a3))) ≤ (((v_X12_heightOf mm a1) - (v_X12_heightOf mm a3)) * ((v_X12_xOf mm a3) - (v_X12_xOf mm a3))) := c85
        refine g_iconst (pc := 88) (v := (1 : Int32)) dX12_isBelow_88 (by decide) ?_
        refine g_goto (pc := 89) (tgt := 93) dX12_isBelow_89 (by decide) ?_
        exact g_iret (pc := 93) dX12_isBelow_93 rfl rfl (nar_B isB1) ⟨Or.inl ⟨(show p_X12_isBelow mm a1 a2 a3 from (Or.inl ⟨c10_0, (Or.inr ⟨c23_1, c85_2⟩)⟩)), rfl⟩, rfl⟩
  · have c10_0 : ¬ (v_X12_xOf mm a3) ≤ (v_X12_xOf mm a2) := c10
    have h := h.2 c10
    refine g_iload_n (pc := 13) (x := a2) dX12_isBelow_13 rfl ?_
    refine g_goto (pc := 14) (tgt := 18) dX12_isBelow_14 (by decide) ?_
    refine g_istore (pc := 18) (L' := [(0, .ref 156), (1, .int a1), (2, .int a2), (3, .int a3), (4, .int a2)]) dX12_isBelow_18 (Nat.le_of_ble_eq_true rfl) rfl ?_
    refine g_iload (pc := 20) (x := a2) dX12_isBelow_20 rfl ?_
    refine g_iload_n (pc := 22) (x := a2) dX12_isBelow_22 rfl ?_
    refine g_icmp_ne (pc := 23) (tgt := 30) dX12_isBelow_23 (by decide) (fun c23 => ?_) (fun c23 => ?_)
    · have c23_1 : ¬ a2 = a2 := c23
      have h := h.1 c23
      refine g_iload_n (pc := 30) (x := a2) dX12_isBelow_30 rfl ?_
      refine g_istore (pc := 31) (L' := [(0, .ref 156), (1, .int a1), (2, .int a2), (3, .int a3), (4, .int a2), (5, .int a2)]) dX12_isBelow_31 (Nat.le_of_ble_eq_true rfl) rfl ?_
      refine g_aload_n (pc := 33) (x := 156) dX12_isBelow_33 rfl ?_
      refine g_iload_n (pc := 34) (x := a1) dX12_isBelow_34 rfl ?_
      refine g_callV (pc := 35) (as := [.int a1]) dX12_isBelow_35 cw_X12_380 (by decide) rfl rfl sh_156 (Nat.le_of_ble_eq_true rfl) (rv_X12_heightOf mm a1 h.1) ?_
      have h := h.2
      rintro r_ m_ hz_ ⟨rfl, rfl⟩
      refine g_aload_n (pc := 38) (x := 156) dX12_isBelow_38 rfl ?_
      refine g_iload (pc := 39) (x := a2) dX12_isBelow_39 rfl ?_
      refine g_callV (pc := 41) (as := [.int a2]) dX12_isBelow_41 cw_X12_380 (by decide) rfl rfl sh_156 (Nat.le_of_ble_eq_true rfl) (rv_X12_heightOf mm a2 h.1) ?_
      have h := h.2
      rintro r_ m_ hz_ ⟨rfl, rfl⟩
      refine g_isub (pc := 44) dX12_isBelow_44 ?_
      refine g_aload_n (pc := 45) (x := 156) dX12_isBelow_45 rfl ?_
      refine g_iload (pc := 46) (x := a2) dX12_isBelow_46 rfl ?_
      refine g_callV (pc := 48) (as := [.int a2]) dX12_isBelow_48 cw_X12_371 (by decide) rfl rfl sh_156 (Nat.le_of_ble_eq_true rfl) (rv_X12_xOf mm a2 h.1) ?_
      have h := h.2
      rintro r_ m_ hz_ ⟨rfl, rfl⟩
      refine g_aload_n (pc := 51) (x := 156) dX12_isBelow_51 rfl ?_
      refine g_iload (pc := 52) (x := a2) dX12_isBelow_52 rfl ?_
      refine g_callV (pc := 54) (as := [.int a2]) dX12_isBelow_54 cw_X12_371 (by decide) rfl rfl sh_156 (Nat.le_of_ble_eq_true rfl) (rv_X12_xOf mm a2 h.1) ?_
      have h := h.2
      rintro r_ m_ hz_ ⟨rfl, rfl⟩
      refine g_isub (pc := 57) dX12_isBelow_57 ?_
      refine g_imul (pc := 58) dX12_isBelow_58 ?_
      refine g_aload_n (pc := 59) (x := 156) dX12_isBelow_59 rfl ?_
      refine g_iload (pc := 60) (x := a2) dX12_isBelow_60 rfl ?_
      refine g_callV (pc := 62) (as := [.int a2]) dX12_isBelow_62 cw_X12_380 (by decide) rfl rfl sh_156 (Nat.le_of_ble_eq_true rfl) (rv_X12_heightOf mm a2 h.1) ?_
      have h := h.2
      rintro r_ m_ hz_ ⟨rfl, rfl⟩
      refine g_aload_n (pc := 65) (x := 156) dX12_isBelow_65 rfl ?_
      refine g_iload (pc := 66) (x := a2) dX12_isBelow_66 rfl ?_
      refine g_callV (pc := 68) (as := [.int a2]) dX12_isBelow_68 cw_X12_380 (by decide) rfl rfl sh_156 (Nat.le_of_ble_eq_true rfl) (rv_X12_heightOf mm a2 h.1) ?_
      have h := h.2
      rintro r_ m_ hz_ ⟨rfl, rfl⟩
      refine g_isub (pc := 71) dX12_isBelow_71 ?_
      refine g_aload_n (pc := 72) (x := 156) dX12_isBelow_72 rfl ?_
      refine g_iload_n (pc := 73) (x := a1) dX12_isBelow_73 rfl ?_
      refine g_callV (pc := 74) (as := [.int a1]) dX12_isBelow_74 cw_X12_371 (by decide) rfl rfl sh_156 (Nat.le_of_ble_eq_true rfl) (rv_X12_xOf mm a1 h.1) ?_
      have h := h.2
      rintro r_ m_ hz_ ⟨rfl, rfl⟩
      refine g_aload_n (pc := 77) (x := 156) dX12_isBelow_77 rfl ?_
      refine g_iload (pc := 78) (x := a2) dX12_isBelow_78 rfl ?_
      refine g_callV (pc := 80) (as := [.int a2]) dX12_isBelow_80 cw_X12_371 (by decide) rfl rfl sh_156 (Nat.le_of_ble_eq_true rfl) (rv_X12_xOf mm a2 h.1) ?_
      have h := h.2
      rintro r_ m_ hz_ ⟨rfl, rfl⟩
      refine g_isub (pc := 83) dX12_isBelow_83 ?_
      refine g_imul (pc := 84) dX12_isBelow_84 ?_
      refine g_icmp_ge (pc := 85) (tgt := 92) dX12_isBelow_85 (by decide) (fun c85 => ?_) (fun c85 => ?_)
      · have c85_2 : (((v_X12_heightOf mm a2) - (v_X12_heightOf mm a2)) * ((v_X12_xOf mm a1) - (v_X12_xOf mm a2))) ≤ (((v_X12_heightOf mm a1) - (v_X12_heightOf mm a2)) * ((v_X12_xOf mm a2) - (v_X12_xOf mm a2))) := c85
        refine g_iconst (pc := 92) (v := (0 : Int32)) dX12_isBelow_92 (by decide) ?_
        exact g_iret (pc := 93) dX12_isBelow_93 rfl rfl (nar_B isB0) ⟨Or.inr ⟨(show ¬ p_X12_isBelow mm a1 a2 a3 from (fun h_ => h_.elim (fun z_ => (c10_0 z_.1)) (fun z_ => (fun h_ => h_.elim (fun z_ => (not_not_intro c85_2) z_.2) (fun z_ => (c23_1 z_.1))) z_.2))), rfl⟩, rfl⟩
      · have c85_2 : ¬ (((v_X12_heightOf mm a2) - (v_X12_heightOf mm a2)) * ((v_X12_xOf mm a1) - (v_X12_xOf mm a2))) ≤ (((v_X12_heightOf mm a1) - (v_X12_heightOf mm a2)) * ((v_X12_xOf mm a2) - (v_X12_xOf mm a2))) := c85
        refine g_iconst (pc := 88) (v := (1 : Int32)) dX12_isBelow_88 (by decide) ?_
        refine g_goto (pc := 89) (tgt := 93) dX12_isBelow_89 (by decide) ?_
        exact g_iret (pc := 93) dX12_isBelow_93 rfl rfl (nar_B isB1) ⟨Or.inl ⟨(show p_X12_isBelow mm a1 a2 a3 from (Or.inr ⟨c10_0, (Or.inl ⟨c23_1, c85_2⟩)⟩)), rfl⟩, rfl⟩
    · have c23_1 : a2 = a2 := c23
      have h := h.2 c23
      refine g_iload_n (pc := 26) (x := a3) dX12_isBelow_26 rfl ?_
      refine g_goto (pc := 27) (tgt := 31) dX12_isBelow_27 (by decide) ?_
      refine g_istore (pc := 31) (L' := [(0, .ref 156), (1, .int a1), (2, .int a2), (3, .int a3), (4, .int a2), (5, .int a3)]) dX12_isBelow_31 (Nat.le_of_ble_eq_true rfl) rfl ?_
      refine g_aload_n (pc := 33) (x := 156) dX12_isBelow_33 rfl ?_
      refine g_iload_n (pc := 34) (x := a1) dX12_isBelow_34 rfl ?_
      refine g_callV (pc := 35) (as := [.int a1]) dX12_isBelow_35 cw_X12_380 (by decide) rfl rfl sh_156 (Nat.le_of_ble_eq_true rfl) (rv_X12_heightOf mm a1 h.1) ?_
      have h := h.2
      rintro r_ m_ hz_ ⟨rfl, rfl⟩
      refine g_aload_n (pc := 38) (x := 156) dX12_isBelow_38 rfl ?_
      refine g_iload (pc := 39) (x := a2) dX12_isBelow_39 rfl ?_
      refine g_callV (pc := 41) (as := [.int a2]) dX12_isBelow_41 cw_X12_380 (by decide) rfl rfl sh_156 (Nat.le_of_ble_eq_true rfl) (rv_X12_heightOf mm a2 h.1) ?_
      have h := h.2
      rintro r_ m_ hz_ ⟨rfl, rfl⟩
      refine g_isub (pc := 44) dX12_isBelow_44 ?_
      refine g_aload_n (pc := 45) (x := 156) dX12_isBelow_45 rfl ?_
      refine g_iload (pc := 46) (x := a3) dX12_isBelow_46 rfl ?_
      refine g_callV (pc := 48) (as := [.int a3]) dX12_isBelow_48 cw_X12_371 (by decide) rfl rfl sh_156 (Nat.le_of_ble_eq_true rfl) (rv_X12_xOf mm a3 h.1) ?_
      have h := h.2
      rintro r_ m_ hz_ ⟨rfl, rfl⟩
      refine g_aload_n (pc := 51) (x := 156) dX12_isBelow_51 rfl ?_
      refine g_iload (pc := 52) (x := a2) dX12_isBelow_52 rfl ?_
      refine g_callV (pc := 54) (as := [.int a2]) dX12_isBelow_54 cw_X12_371 (by decide) rfl rfl sh_156 (Nat.le_of_ble_eq_true rfl) (rv_X12_xOf mm a2 h.1) ?_
      have h := h.2
      rintro r_ m_ hz_ ⟨rfl, rfl⟩
      refine g_isub (pc := 57) dX12_isBelow_57 ?_
      refine g_imul (pc := 58) dX12_isBelow_58 ?_
      refine g_aload_n (pc := 59) (x := 156) dX12_isBelow_59 rfl ?_
      refine g_iload (pc := 60) (x := a3) dX12_isBelow_60 rfl ?_
      refine g_callV (pc := 62) (as := [.int a3]) dX12_isBelow_62 cw_X12_380 (by decide) rfl rfl sh_156 (Nat.le_of_ble_eq_true rfl) (rv_X12_heightOf mm a3 h.1) ?_
      have h := h.2
      rintro r_ m_ hz_ ⟨rfl, rfl⟩
      refine g_aload_n (pc := 65) (x := 156) dX12_isBelow_65 rfl ?_
      refine g_iload (pc := 66) (x := a2) dX12_isBelow_66 rfl ?_
      refine g_callV (pc := 68) (as := [.int a2]) dX12_isBelow_68 cw_X12_380 (by decide) rfl rfl sh_156 (Nat.le_of_ble_eq_true rfl) (rv_X12_heightOf mm a2 h.1) ?_
      have h := h.2
      rintro r_ m_ hz_ ⟨rfl, rfl⟩
      refine g_isub (pc := 71) dX12_isBelow_71 ?_
      refine g_aload_n (pc := 72) (x := 156) dX12_isBelow_72 rfl ?_
      refine g_iload_n (pc := 73) (x := a1) dX12_isBelow_73 rfl ?_
      refine g_callV (pc := 74) (as := [.int a1]) dX12_isBelow_74 cw_X12_371 (by decide) rfl rfl sh_156 (Nat.le_of_ble_eq_true rfl) (rv_X12_xOf mm a1 h.1) ?_
      have h := h.2
      rintro r_ m_ hz_ ⟨rfl, rfl⟩
      refine g_aload_n (pc := 77) (x := 156) dX12_isBelow_77 rfl ?_
      refine g_iload (pc := 78) (x := a2) dX12_isBelow_78 rfl ?_
      refine g_callV (pc := 80) (as := [.int a2]) dX12_isBelow_80 cw_X12_371 (by decide) rfl rfl sh_156 (Nat.le_of_ble_eq_true rfl) (rv_X12_xOf mm a2 h.1) ?_
      have h := h.2
      rintro r_ m_ hz_ ⟨rfl, rfl⟩
      refine g_isub (pc := 83) dX12_isBelow_83 ?_
      refine g_imul (pc := 84) dX12_isBelow_84 ?_
      refine g_icmp_ge (pc := 85) (tgt := 92) dX12_isBelow_85 (by decide) (fun c85 => ?_) (fun c85 => ?_)
      · have c85_2 : (((v_X12_heightOf mm a3) - (v_X12_heightOf mm a2)) * ((v_X12_xOf mm a1) - (v_X12_xOf mm a2))) ≤ (((v_X12_heightOf mm a1) - (v_X12_heightOf mm a2)) * ((v_X12_xOf mm a3) - (v_X12_xOf mm a2))) := c85
        refine g_iconst (pc := 92) (v := (0 : Int32)) dX12_isBelow_92 (by decide) ?_
        exact g_iret (pc := 93) dX12_isBelow_93 rfl rfl (nar_B isB0) ⟨Or.inr ⟨(show ¬ p_X12_isBelow mm a1 a2 a3 from (fun h_ => h_.elim (fun z_ => (c10_0 z_.1)) (fun z_ => (fun h_ => h_.elim (fun z_ => (z_.1 c23_1)) (fun z_ => (not_not_intro c85_2) z_.2)) z_.2))), rfl⟩, rfl⟩
      · have c85_2 : ¬ (((v_X12_heightOf mm a3) - (v_X12_heightOf mm a2)) * ((v_X12_xOf mm a1) - (v_X12_xOf mm a2))) ≤ (((v_X12_heightOf mm a1) - (v_X12_heightOf mm a2)) * ((v_X12_xOf mm a3) - (v_X12_xOf mm a2))) := c85
        refine g_iconst (pc := 88) (v := (1 : Int32)) dX12_isBelow_88 (by decide) ?_
        refine g_goto (pc := 89) (tgt := 93) dX12_isBelow_89 (by decide) ?_
        exact g_iret (pc := 93) dX12_isBelow_93 rfl rfl (nar_B isB1) ⟨Or.inl ⟨(show p_X12_isBelow mm a1 a2 a3 from (Or.inr ⟨c10_0, (Or.inr ⟨c23_1, c85_2⟩)⟩)), rfl⟩, rfl⟩
theorem dX12_isBetween_0 : decode cX12_isBetween 0 = .ok (.iload_n 1, 1) := by decide +kernel
theorem dX12_isBetween_1 : decode cX12_isBetween 1 = .ok (.iload_n 2, 1) := by decide +kernel
theorem dX12_isBetween_2 : decode cX12_isBetween 2 = .ok (.if_icmp .le 8, 3) := by decide +kernel
theorem dX12_isBetween_5 : decode cX12_isBetween 5 = .ok (.iload_n 1, 1) := by decide +kernel
theorem dX12_isBetween_6 : decode cX12_isBetween 6 = .ok (.iload_n 3, 1) := by decide +kernel
theorem dX12_isBetween_7 : decode cX12_isBetween 7 = .ok (.if_icmp .lt 13, 3) := by decide +kernel
theorem dX12_isBetween_10 : decode cX12_isBetween 10 = .ok (.iload_n 1, 1) := by decide +kernel
theorem dX12_isBetween_11 : decode cX12_isBetween 11 = .ok (.iload_n 3, 1) := by decide +kernel
theorem dX12_isBetween_12 : decode cX12_isBetween 12 = .ok (.if_icmp .le 12, 3) := by decide +kernel
theorem dX12_isBetween_15 : decode cX12_isBetween 15 = .ok (.iload_n 1, 1) := by decide +kernel
theorem dX12_isBetween_16 : decode cX12_isBetween 16 = .ok (.iload_n 2, 1) := by decide +kernel
theorem dX12_isBetween_17 : decode cX12_isBetween 17 = .ok (.if_icmp .ge 7, 3) := by decide +kernel
theorem dX12_isBetween_20 : decode cX12_isBetween 20 = .ok (.iconst 1, 1) := by decide +kernel
theorem dX12_isBetween_21 : decode cX12_isBetween 21 = .ok (.goto 4, 3) := by decide +kernel
theorem dX12_isBetween_24 : decode cX12_isBetween 24 = .ok (.iconst 0, 1) := by decide +kernel
theorem dX12_isBetween_25 : decode cX12_isBetween 25 = .ok (.ireturn, 1) := by decide +kernel
def p_X12_isBetween (mm : MM) (a1 : Int32) (a2 : Int32) (a3 : Int32) : Prop := ((a1 ≤ a2 ∧ (¬ a1 ≤ a3 ∧ ¬ a2 ≤ a1)) ∨ (¬ a1 ≤ a2 ∧ (a1 < a3 ∨ (¬ a1 ≤ a3 ∧ ¬ a2 ≤ a1))))
theorem rv_X12_isBetween (mm : MM) (a1 : Int32) (a2 : Int32) (a3 : Int32) : Runs e_X12_isBetween [.ref 156, .int a1, .int a2, .int a3] mm (fun r m_ => ((p_X12_isBetween mm a1 a2 a3 ∧ r = .int 1) ∨ (¬ p_X12_isBetween mm a1 a2 a3 ∧ r = .int 0)) ∧ mm = m_) := by
  refine runs_of_G (L := [(0, .ref 156), (1, .int a1), (2, .int a2), (3, .int a3)]) pl_X12 (Nat.le_of_ble_eq_true rfl) rfl ?_
  refine g_iload_n (pc := 0) (x := a1) dX12_isBetween_0 rfl ?_
  refine g_iload_n (pc := 1) (x := a2) dX12_isBetween_1 rfl ?_
  refine g_icmp_le (pc := 2) (tgt := 10) dX12_isBetween_2 (by decide) (fun c2 => ?_) (fun c2 => ?_)
  · have c2_0 : a1 ≤ a2 := c2
    refine g_iload_n (pc := 10) (x := a1) dX12_isBetween_10 rfl ?_
    refine g_iload_n (pc := 11) (x := a3) dX12_isBetween_11 rfl ?_
    refine g_icmp_le (pc := 12) (tgt := 24) dX12_isBetween_12 (by decide) (fun c12 => ?_) (fun c12 => ?_)
    · have c12_1 : a1 ≤ a3 := c12
      refine g_iconst (pc := 24) (v := (0 : Int32)) dX12_isBetween_24 (by decide) ?_
      exact g_iret (pc := 25) dX12_isBetween_25 rfl rfl (nar_B isB0) ⟨Or.inr ⟨(show ¬ p_X12_isBetween mm a1 a2 a3 from (fun h_ => h_.elim (fun z_ => (fun h_ => (h_.1 c12_1)) z_.2) (fun z_ => (z_.1 c2_0)))), rfl⟩, rfl⟩
    · have c12_1 : ¬ a1 ≤ a3 := c12
      refine g_iload_n (pc := 15) (x := a1) dX12_isBetween_15 rfl ?_
      refine g_iload_n (pc := 16) (x := a2) dX12_isBetween_16 rfl ?_
      refine g_icmp_ge (pc := 17) (tgt := 24) dX12_isBetween_17 (by decide) (fun c17 => ?_) (fun c17 => ?_)
      · have c17_2 : a2 ≤ a1 := c17
        refine g_iconst (pc := 24) (v := (0 : Int32)) dX12_isBetween_24 (by decide) ?_
        exact g_iret (pc := 25) dX12_isBetween_25 rfl rfl (nar_B isB0) ⟨Or.inr ⟨(show ¬ p_X12_isBetween mm a1 a2 a3 from (fun h_ => h_.elim (fun z_ => (fun h_ => (not_not_intro c17_2) h_.2) z_.2) (fun z_ => (z_.1 c2_0)))), rfl⟩, rfl⟩
      · have c17_2 : ¬ a2 ≤ a1 := c17
        refine g_iconst (pc := 20) (v := (1 : Int32)) dX12_isBetween_20 (by decide) ?_
        refine g_goto (pc := 21) (tgt := 25) dX12_isBetween_21 (by decide) ?_
        exact g_iret (pc := 25) dX12_isBetween_25 rfl rfl (nar_B isB1) ⟨Or.inl ⟨(show p_X12_isBetween mm a1 a2 a3 from (Or.inl ⟨c2_0, ⟨c12_1, c17_2⟩⟩)), rfl⟩, rfl⟩
  · have c2_0 : ¬ a1 ≤ a2 := c2
    refine g_iload_n (pc := 5) (x := a1) dX12_isBetween_5 rfl ?_
    refine g_iload_n (pc := 6) (x := a3) dX12_isBetween_6 rfl ?_
    refine g_icmp_lt (pc := 7) (tgt := 20) dX12_isBetween_7 (by decide) (fun c7 => ?_) (fun c7 => ?_)
    · have c7_1 : a1 < a3 := c7
      refine g_iconst (pc := 20) (v := (1 : Int32)) dX12_isBetween_20 (by decide) ?_
      refine g_goto (pc := 21) (tgt := 25) dX12_isBetween_21 (by decide) ?_
      exact g_iret (pc := 25) dX12_isBetween_25 rfl rfl (nar_B isB1) ⟨Or.inl ⟨(show p_X12_isBetween mm a1 a2 a3 from (Or.inr ⟨c2_0, (Or.inl c7_1)⟩)), rfl⟩, rfl⟩
    · have c7_1 : ¬ a1 < a3 := c7
      refine g_iload_n (pc := 10) (x := a1) dX12_isBetween_10 rfl ?_
      refine g_iload_n (pc := 11) (x := a3) dX12_isBetween_11 rfl ?_
      refine g_icmp_le (pc := 12) (tgt := 24) dX12_isBetween_12 (by decide) (fun c12 => ?_) (fun c12 => ?_)
      · have c12_2 : a1 ≤ a3 := c12
        refine g_iconst (pc := 24) (v := (0 : Int32)) dX12_isBetween_24 (by decide) ?_
        exact g_iret (pc := 25) dX12_isBetween_25 rfl rfl (nar_B isB0) ⟨Or.inr ⟨(show ¬ p_X12_isBetween mm a1 a2 a3 from (fun h_ => h_.elim (fun z_ => (c2_0 z_.1)) (fun z_ => (fun h_ => h_.elim (fun z_ => (c7_1 z_)) (fun h_ => (h_.1 c12_2))) z_.2))), rfl⟩, rfl⟩
      · have c12_2 : ¬ a1 ≤ a3 := c12
        refine g_iload_n (pc := 15) (x := a1) dX12_isBetween_15 rfl ?_
        refine g_iload_n (pc := 16) (x := a2) dX12_isBetween_16 rfl ?_
        refine g_icmp_ge (pc := 17) (tgt := 24) dX12_isBetween_17 (by decide) (fun c17 => ?_) (fun c17 => ?_)
        · have c17_3 : a2 ≤ a1 := c17
          refine g_iconst (pc := 24) (v := (0 : Int32)) dX12_isBetween_24 (by decide) ?_
          exact g_iret (pc := 25) dX12_isBetween_25 rfl rfl (nar_B isB0) ⟨Or.inr ⟨(show ¬ p_X12_isBetween mm a1 a2 a3 from (fun h_ => h_.elim (fun z_ => (c2_0 z_.1)) (fun z_ => (fun h_ => h_.elim (fun z_ => (c7_1 z_)) (fun h_ => (not_not_intro c17_3) h_.2)) z_.2))), rfl⟩, rfl⟩
        · have c17_3 : ¬ a2 ≤ a1 := c17
          refine g_iconst (pc := 20) (v := (1 : Int32)) dX12_isBetween_20 (by decide) ?_
          refine g_goto (pc := 21) (tgt := 25) dX12_isBetween_21 (by decide) ?_
          exact g_iret (pc := 25) dX12_isBetween_25 rfl rfl (nar_B isB1) ⟨Or.inl ⟨(show p_X12_isBetween mm a1 a2 a3 from (Or.inr ⟨c2_0, (Or.inr ⟨c12_2, c17_3⟩)⟩)), rfl⟩, rfl⟩
theorem dX12_looks_0 : decode cX12_looks 0 = .ok (.aload_n 0, 1) := by decide +kernel
theorem dX12_looks_1 : decode cX12_looks 1 = .ok (.iload_n 1, 1) := by decide +kernel
theorem dX12_looks_2 : decode cX12_looks 2 = .ok (.invokevirtual 377, 3) := by decide +kernel
theorem dX12_looks_5 : decode cX12_looks 5 = .ok (.ifCond .eq 16, 3) := by decide +kernel
theorem dX12_looks_8 : decode cX12_looks 8 = .ok (.aload_n 0, 1) := by decide +kernel
theorem dX12_looks_9 : decode cX12_looks 9 = .ok (.iload_n 2, 1) := by decide +kernel
theorem dX12_looks_10 : decode cX12_looks 10 = .ok (.invokevirtual 377, 3) := by decide +kernel
theorem dX12_looks_13 : decode cX12_looks 13 = .ok (.ifCond .eq 8, 3) := by decide +kernel
theorem dX12_looks_16 : decode cX12_looks 16 = .ok (.iload_n 1, 1) := by decide +kernel
theorem dX12_looks_17 : decode cX12_looks 17 = .ok (.iload_n 2, 1) := by decide +kernel
theorem dX12_looks_18 : decode cX12_looks 18 = .ok (.if_icmp .ne 5, 3) := by decide +kernel
theorem dX12_looks_21 : decode cX12_looks 21 = .ok (.iconst (-1), 1) := by decide +kernel
theorem dX12_looks_22 : decode cX12_looks 22 = .ok (.ireturn, 1) := by decide +kernel
theorem dX12_looks_23 : decode cX12_looks 23 = .ok (.aload_n 0, 1) := by decide +kernel
theorem dX12_looks_24 : decode cX12_looks 24 = .ok (.iload_n 1, 1) := by decide +kernel
theorem dX12_looks_25 : decode cX12_looks 25 = .ok (.invokevirtual 380, 3) := by decide +kernel
theorem dX12_looks_28 : decode cX12_looks 28 = .ok (.aload_n 0, 1) := by decide +kernel
theorem dX12_looks_29 : decode cX12_looks 29 = .ok (.iload_n 2, 1) := by decide +kernel
theorem dX12_looks_30 : decode cX12_looks 30 = .ok (.invokevirtual 380, 3) := by decide +kernel
theorem dX12_looks_33 : decode cX12_looks 33 = .ok (.if_icmp .le 16, 3) := by decide +kernel
theorem dX12_looks_36 : decode cX12_looks 36 = .ok (.aload_n 0, 1) := by decide +kernel
theorem dX12_looks_37 : decode cX12_looks 37 = .ok (.iload_n 1, 1) := by decide +kernel
theorem dX12_looks_38 : decode cX12_looks 38 = .ok (.invokevirtual 371, 3) := by decide +kernel
theorem dX12_looks_41 : decode cX12_looks 41 = .ok (.aload_n 0, 1) := by decide +kernel
theorem dX12_looks_42 : decode cX12_looks 42 = .ok (.iload_n 2, 1) := by decide +kernel
theorem dX12_looks_43 : decode cX12_looks 43 = .ok (.invokevirtual 371, 3) := by decide +kernel
theorem dX12_looks_46 : decode cX12_looks 46 = .ok (.if_icmp .ne 5, 3) := by decide +kernel
theorem dX12_looks_49 : decode cX12_looks 49 = .ok (.iconst 0, 1) := by decide +kernel
theorem dX12_looks_50 : decode cX12_looks 50 = .ok (.ireturn, 1) := by decide +kernel
theorem dX12_looks_51 : decode cX12_looks 51 = .ok (.iconst 0, 1) := by decide +kernel
theorem dX12_looks_52 : decode cX12_looks 52 = .ok (.istore_n 3, 1) := by decide +kernel
theorem dX12_looks_53 : decode cX12_looks 53 = .ok (.iload_n 3, 1) := by decide +kernel
theorem dX12_looks_54 : decode cX12_looks 54 = .ok (.aload_n 0, 1) := by decide +kernel
theorem dX12_looks_55 : decode cX12_looks 55 = .ok (.getfield 30, 3) := by decide +kernel
theorem dX12_looks_58 : decode cX12_looks 58 = .ok (.iconst 0, 1) := by decide +kernel
theorem dX12_looks_59 : decode cX12_looks 59 = .ok (.iaload, 1) := by decide +kernel
theorem dX12_looks_60 : decode cX12_looks 60 = .ok (.if_icmp .ge 43, 3) := by decide +kernel
theorem dX12_looks_63 : decode cX12_looks 63 = .ok (.aload_n 0, 1) := by decide +kernel
theorem dX12_looks_64 : decode cX12_looks 64 = .ok (.aload_n 0, 1) := by decide +kernel
theorem dX12_looks_65 : decode cX12_looks 65 = .ok (.iload_n 3, 1) := by decide +kernel
theorem dX12_looks_66 : decode cX12_looks 66 = .ok (.invokevirtual 371, 3) := by decide +kernel
theorem dX12_looks_69 : decode cX12_looks 69 = .ok (.aload_n 0, 1) := by decide +kernel
theorem dX12_looks_70 : decode cX12_looks 70 = .ok (.iload_n 1, 1) := by decide +kernel
theorem dX12_looks_71 : decode cX12_looks 71 = .ok (.invokevirtual 371, 3) := by decide +kernel
theorem dX12_looks_74 : decode cX12_looks 74 = .ok (.aload_n 0, 1) := by decide +kernel
theorem dX12_looks_75 : decode cX12_looks 75 = .ok (.iload_n 2, 1) := by decide +kernel
theorem dX12_looks_76 : decode cX12_looks 76 = .ok (.invokevirtual 371, 3) := by decide +kernel
theorem dX12_looks_79 : decode cX12_looks 79 = .ok (.invokevirtual 475, 3) := by decide +kernel
theorem dX12_looks_82 : decode cX12_looks 82 = .ok (.ifCond .eq 15, 3) := by decide +kernel
theorem dX12_looks_85 : decode cX12_looks 85 = .ok (.aload_n 0, 1) := by decide +kernel
theorem dX12_looks_86 : decode cX12_looks 86 = .ok (.iload_n 3, 1) := by decide +kernel
theorem dX12_looks_87 : decode cX12_looks 87 = .ok (.iload_n 1, 1) := by decide +kernel
theorem dX12_looks_88 : decode cX12_looks 88 = .ok (.iload_n 2, 1) := by decide +kernel
theorem dX12_looks_89 : decode cX12_looks 89 = .ok (.invokevirtual 478, 3) := by decide +kernel
theorem dX12_looks_92 : decode cX12_looks 92 = .ok (.ifCond .ne 5, 3) := by decide +kernel
theorem dX12_looks_95 : decode cX12_looks 95 = .ok (.iconst 0, 1) := by decide +kernel
theorem dX12_looks_96 : decode cX12_looks 96 = .ok (.ireturn, 1) := by decide +kernel
theorem dX12_looks_97 : decode cX12_looks 97 = .ok (.iinc 3 1, 3) := by decide +kernel
theorem dX12_looks_100 : decode cX12_looks 100 = .ok (.goto (-47), 3) := by decide +kernel
theorem dX12_looks_103 : decode cX12_looks 103 = .ok (.iconst 1, 1) := by decide +kernel
theorem dX12_looks_104 : decode cX12_looks 104 = .ok (.ireturn, 1) := by decide +kernel
theorem b_X12_looks (mm : MM) (Q : Value → MM → Prop) (a1 : Int32) (a2 : Int32) (h : (p_X12_isHouse mm a1 → ((p_X12_isHouse mm a2 → ((¬ a1 = a2 → (o_X12_heightOf mm a1 ∧ (o_X12_heightOf mm a2 ∧ (((v_X12_heightOf mm a1) ≤ (v_X12_heightOf mm a2) → (Q (.int (0 : Int32)) mm)) ∧ (¬ (v_X12_heightOf mm a1) ≤ (v_X12_heightOf mm a2) → (o_X12_xOf mm a1 ∧ (o_X12_xOf mm a2 ∧ ((¬ (v_X12_xOf mm a1) = (v_X12_xOf mm a2) → (G e_X12_looks 53 [(0, .ref 156), (1, .int a1), (2, .int a2), (3, .int (0 : Int32))] [] mm Q)) ∧ ((v_X12_xOf mm a1) = (v_X12_xOf mm a2) → (Q (.int (0 : Int32)) mm)))))))))) ∧ (a1 = a2 → (Q (.int (-1 : Int32)) mm)))) ∧ (¬ p_X12_isHouse mm a2 → (Q (.int (-1 : Int32)) mm)))) ∧ (¬ p_X12_isHouse mm a1 → (Q (.int (-1 : Int32)) mm))) : Runs e_X12_looks [.ref 156, .int a1, .int a2] mm Q := by
  refine runs_of_G (L := [(0, .ref 156), (1, .int a1), (2, .int a2)]) pl_X12 (Nat.le_of_ble_eq_true rfl) rfl ?_
  refine g_aload_n (pc := 0) (x := 156) dX12_looks_0 rfl ?_
  refine g_iload_n (pc := 1) (x := a1) dX12_looks_1 rfl ?_
  refine g_callV (pc := 2) (as := [.int a1]) dX12_looks_2 cw_X12_377 (by decide) rfl rfl sh_156 (Nat.le_of_ble_eq_true rfl) (rv_X12_isHouse mm a1) ?_
  rintro r_ m_ hz_ ⟨⟨p_, rfl⟩ | ⟨p_, rfl⟩, rfl⟩
  · have h := h.1 p_
    refine g_if_eq (pc := 5) (tgt := 21) dX12_looks_5 (by decide) (fun c5 => absurd c5 (by decide)) (fun _ => ?_)
    refine g_aload_n (pc := 8) (x := 156) dX12_looks_8 rfl ?_
    refine g_iload_n (pc := 9) (x := a2) dX12_looks_9 rfl ?_
    refine g_callV (pc := 10) (as := [.int a2]) dX12_looks_10 cw_X12_377 (by decide) rfl rfl sh_156 (Nat.le_of_ble_eq_true rfl) (rv_X12_isHouse mm a2) ?_
    rintro r_ m_ hz_ ⟨⟨p_, rfl⟩ | ⟨p_, rfl⟩, rfl⟩
    · have h := h.1 p_
      refine g_if_eq (pc := 13) (tgt := 21) dX12_looks_13 (by decide) (fun c13 => absurd c13 (by decide)) (fun _ => ?_)
      refine g_iload_n (pc := 16) (x := a1) dX12_looks_16 rfl ?_
      refine g_iload_n (pc := 17) (x := a2) dX12_looks_17 rfl ?_
      refine g_icmp_ne (pc := 18) (tgt := 23) dX12_looks_18 (by decide) (fun c18 => ?_) (fun c18 => ?_)
      · have h := h.1 c18
        refine g_aload_n (pc := 23) (x := 156) dX12_looks_23 rfl ?_
        refine g_iload_n (pc := 24) (x := a1) dX12_looks_24 rfl ?_
        refine g_callV (pc := 25) (as := [.int a1]) dX12_looks_25 cw_X12_380 (by decide) rfl rfl sh_156 (Nat.le_of_ble_eq_true rfl) (rv_X12_heightOf mm a1 h.1) ?_
        have h := h.2
        rintro r_ m_ hz_ ⟨rfl, rfl⟩
        refine g_aload_n (pc := 28) (x := 156) dX12_looks_28 rfl ?_
        refine g_iload_n (pc := 29) (x := a2) dX12_looks_29 rfl ?_
        refine g_callV (pc := 30) (as := [.int a2]) dX12_looks_30 cw_X12_380 (by decide) rfl rfl sh_156 (Nat.le_of_ble_eq_true rfl) (rv_X12_heightOf mm a2 h.1) ?_
        have h := h.2
        rintro r_ m_ hz_ ⟨rfl, rfl⟩
        refine g_icmp_le (pc := 33) (tgt := 49) dX12_looks_33 (by decide) (fun c33 => ?_) (fun c33 => ?_)
        · have h := h.1 c33
          refine g_iconst (pc := 49) (v := (0 : Int32)) dX12_looks_49 (by decide) ?_
          exact g_iret (pc := 50) dX12_looks_50 rfl rfl rfl h
        · have h := h.2 c33
          refine g_aload_n (pc := 36) (x := 156) dX12_looks_36 rfl ?_
          refine g_iload_n (pc := 37) (x := a1) dX12_looks_37 rfl ?_
          refine g_callV (pc := 38) (as := [.int a1]) dX12_looks_38 cw_X12_371 (by decide) rfl rfl sh_156 (Nat.le_of_ble_eq_true rfl) (rv_X12_xOf mm a1 h.1) ?_
          have h := h.2
          rintro r_ m_ hz_ ⟨rfl, rfl⟩
          refine g_aload_n (pc := 41) (x := 156) dX12_looks_41 rfl ?_
          refine g_iload_n (pc := 42) (x := a2) dX12_looks_42 rfl ?_
          refine g_callV (pc := 43) (as := [.int a2]) dX12_looks_43 cw_X12_371 (by decide) rfl rfl sh_156 (Nat.le_of_ble_eq_true rfl) (rv_X12_xOf mm a2 h.1) ?_
          have h := h.2
          rintro r_ m_ hz_ ⟨rfl, rfl⟩
          refine g_icmp_ne (pc := 46) (tgt := 51) dX12_looks_46 (by decide) (fun c46 => ?_) (fun c46 => ?_)
          · have h := h.1 c46
            refine g_iconst (pc := 51) (v := (0 : Int32)) dX12_looks_51 (by decide) ?_
            refine g_istore_n (pc := 52) (L' := [(0, .ref 156), (1, .int a1), (2, .int a2), (3, .int (0 : Int32))]) dX12_looks_52 (Nat.le_of_ble_eq_true rfl) rfl ?_
            exact h
          · have h := h.2 c46
            refine g_iconst (pc := 49) (v := (0 : Int32)) dX12_looks_49 (by decide) ?_
            exact g_iret (pc := 50) dX12_looks_50 rfl rfl rfl h
      · have h := h.2 c18
        refine g_iconst (pc := 21) (v := (-1 : Int32)) dX12_looks_21 (by decide) ?_
        exact g_iret (pc := 22) dX12_looks_22 rfl rfl rfl h
    · have h := h.2 p_
      refine g_if_eq (pc := 13) (tgt := 21) dX12_looks_13 (by decide) (fun _ => ?_) (fun c13 => absurd c13 (by decide))
      refine g_iconst (pc := 21) (v := (-1 : Int32)) dX12_looks_21 (by decide) ?_
      exact g_iret (pc := 22) dX12_looks_22 rfl rfl rfl h
  · have h := h.2 p_
    refine g_if_eq (pc := 5) (tgt := 21) dX12_looks_5 (by decide) (fun _ => ?_) (fun c5 => absurd c5 (by decide))
    refine g_iconst (pc := 21) (v := (-1 : Int32)) dX12_looks_21 (by decide) ?_
    exact g_iret (pc := 22) dX12_looks_22 rfl rfl rfl h
theorem b_X12_looks_53 (mm : MM) (Q : Value → MM → Prop) (l1 : Int32) (l2 : Int32) (l3 : Int32) (h : ((mm.1 162 0) ≤ l3 → (Q (.int (1 : Int32)) mm)) ∧ (¬ (mm.1 162 0) ≤ l3 → (o_X12_xOf mm l3 ∧ (o_X12_xOf mm l1 ∧ (o_X12_xOf mm l2 ∧ ((p_X12_isBetween mm (v_X12_xOf mm l3) (v_X12_xOf mm l1) (v_X12_xOf mm l2) → (o_X12_isBelow mm l3 l1 l2 ∧ ((p_X12_isBelow mm l3 l1 l2 → (G e_X12_looks 53 [(0, .ref 156), (1, .int l1), (2, .int l2), (3, .int (l3 + (1 : Int32)))] [] mm Q)) ∧ (¬ p_X12_isBelow mm l3 l1 l2 → (Q (.int (0 : Int32)) mm))))) ∧ (¬ p_X12_isBetween mm (v_X12_xOf mm l3) (v_X12_xOf mm l1) (v_X12_xOf mm l2) → (G e_X12_looks 53 [(0, .ref 156), (1, .int l1), (2, .int l2), (3, .int (l3 + (1 : Int32)))] [] mm Q)))))))) : G e_X12_looks 53 [(0, .ref 156), (1, .int l1), (2, .int l2), (3, .int l3)] [] mm Q := by
  refine g_iload_n (pc := 53) (x := l3) dX12_looks_53 rfl ?_
  refine g_aload_n (pc := 54) (x := 156) dX12_looks_54 rfl ?_
  refine g_getR (pc := 55) (dd := 6) dX12_looks_55 fo_X12_30 sh_156 rfl ?_
  refine g_iconst (pc := 58) (v := (0 : Int32)) dX12_looks_58 (by decide) ?_
  refine g_iaload (pc := 59) dX12_looks_59 sh_162 (vp_in_nI (n := 0) (N := 420) (by decide) (by decide)) ?_
  refine g_icmp_ge (pc := 60) (tgt := 103) dX12_looks_60 (by decide) (fun c60 => ?_) (fun c60 => ?_)
  · have h := h.1 c60
    refine g_iconst (pc := 103) (v := (1 : Int32)) dX12_looks_103 (by decide) ?_
    exact g_iret (pc := 104) dX12_looks_104 rfl rfl rfl h
  · have h := h.2 c60
    refine g_aload_n (pc := 63) (x := 156) dX12_looks_63 rfl ?_
    refine g_aload_n (pc := 64) (x := 156) dX12_looks_64 rfl ?_
    refine g_iload_n (pc := 65) (x := l3) dX12_looks_65 rfl ?_
    refine g_callV (pc := 66) (as := [.int l3]) dX12_looks_66 cw_X12_371 (by decide) rfl rfl sh_156 (Nat.le_of_ble_eq_true rfl) (rv_X12_xOf mm l3 h.1) ?_
    have h := h.2
    rintro r_ m_ hz_ ⟨rfl, rfl⟩
    refine g_aload_n (pc := 69) (x := 156) dX12_looks_69 rfl ?_
    refine g_iload_n (pc := 70) (x := l1) dX12_looks_70 rfl ?_
    refine g_callV (pc := 71) (as := [.int l1]) dX12_looks_71 cw_X12_371 (by decide) rfl rfl sh_156 (Nat.le_of_ble_eq_true rfl) (rv_X12_xOf mm l1 h.1) ?_
    have h := h.2
    rintro r_ m_ hz_ ⟨rfl, rfl⟩
    refine g_aload_n (pc := 74) (x := 156) dX12_looks_74 rfl ?_
    refine g_iload_n (pc := 75) (x := l2) dX12_looks_75 rfl ?_
    refine g_callV (pc := 76) (as := [.int l2]) dX12_looks_76 cw_X12_371 (by decide) rfl rfl sh_156 (Nat.le_of_ble_eq_true rfl) (rv_X12_xOf mm l2 h.1) ?_
    have h := h.2
    rintro r_ m_ hz_ ⟨rfl, rfl⟩
    refine g_callV (pc := 79) (as := [.int (v_X12_xOf mm l3), .int (v_X12_xOf mm l1), .int (v_X12_xOf mm l2)]) dX12_looks_79 cw_X12_475 (by decide) rfl rfl sh_156 (Nat.le_of_ble_eq_true rfl) (rv_X12_isBetween mm (v_X12_xOf mm l3) (v_X12_xOf mm l1) (v_X12_xOf mm l2)) ?_
    rintro r_ m_ hz_ ⟨⟨p_, rfl⟩ | ⟨p_, rfl⟩, rfl⟩
    · have h := h.1 p_
      refine g_if_eq (pc := 82) (tgt := 97) dX12_looks_82 (by decide) (fun c82 => absurd c82 (by decide)) (fun _ => ?_)
      refine g_aload_n (pc := 85) (x := 156) dX12_looks_85 rfl ?_
      refine g_iload_n (pc := 86) (x := l3) dX12_looks_86 rfl ?_
      refine g_iload_n (pc := 87) (x := l1) dX12_looks_87 rfl ?_
      refine g_iload_n (pc := 88) (x := l2) dX12_looks_88 rfl ?_
      refine g_callV (pc := 89) (as := [.int l3, .int l1, .int l2]) dX12_looks_89 cw_X12_478 (by decide) rfl rfl sh_156 (Nat.le_of_ble_eq_true rfl) (rv_X12_isBelow mm l3 l1 l2 h.1) ?_
      have h := h.2
      rintro r_ m_ hz_ ⟨⟨p_, rfl⟩ | ⟨p_, rfl⟩, rfl⟩
      · have h := h.1 p_
        refine g_if_ne (pc := 92) (tgt := 97) dX12_looks_92 (by decide) (fun _ => ?_) (fun c92 => absurd c92 (by decide))
        refine g_iinc (pc := 97) (x := l3) (v := (l3 + (1 : Int32))) (L' := [(0, .ref 156), (1, .int l1), (2, .int l2), (3, .int (l3 + (1 : Int32)))]) dX12_looks_97 rfl rfl (Nat.le_of_ble_eq_true rfl) rfl ?_
        refine g_goto (pc := 100) (tgt := 53) dX12_looks_100 (by decide) ?_
        exact h
      · have h := h.2 p_
        refine g_if_ne (pc := 92) (tgt := 97) dX12_looks_92 (by decide) (fun c92 => absurd c92 (by decide)) (fun _ => ?_)
        refine g_iconst (pc := 95) (v := (0 : Int32)) dX12_looks_95 (by decide) ?_
        exact g_iret (pc := 96) dX12_looks_96 rfl rfl rfl h
    · have h := h.2 p_
      refine g_if_eq (pc := 82) (tgt := 97) dX12_looks_82 (by decide) (fun _ => ?_) (fun c82 => absurd c82 (by decide))
      refine g_iinc (pc := 97) (x := l3) (v := (l3 + (1 : Int32))) (L' := [(0, .ref 156), (1, .int l1), (2, .int l2), (3, .int (l3 + (1 : Int32)))]) dX12_looks_97 rfl rfl (Nat.le_of_ble_eq_true rfl) rfl ?_
      refine g_goto (pc := 100) (tgt := 53) dX12_looks_100 (by decide) ?_
      exact h
theorem dX12_light_0 : decode cX12_light 0 = .ok (.aload_n 0, 1) := by decide +kernel
theorem dX12_light_1 : decode cX12_light 1 = .ok (.iload_n 1, 1) := by decide +kernel
theorem dX12_light_2 : decode cX12_light 2 = .ok (.invokevirtual 377, 3) := by decide +kernel
theorem dX12_light_5 : decode cX12_light 5 = .ok (.ifCond .ne 5, 3) := by decide +kernel
theorem dX12_light_8 : decode cX12_light 8 = .ok (.iconst (-1), 1) := by decide +kernel
theorem dX12_light_9 : decode cX12_light 9 = .ok (.ireturn, 1) := by decide +kernel
theorem dX12_light_10 : decode cX12_light 10 = .ok (.iconst 1, 1) := by decide +kernel
theorem dX12_light_11 : decode cX12_light 11 = .ok (.istore_n 2, 1) := by decide +kernel
theorem dX12_light_12 : decode cX12_light 12 = .ok (.iconst 1, 1) := by decide +kernel
theorem dX12_light_13 : decode cX12_light 13 = .ok (.istore_n 3, 1) := by decide +kernel
theorem dX12_light_14 : decode cX12_light 14 = .ok (.iconst 0, 1) := by decide +kernel
theorem dX12_light_15 : decode cX12_light 15 = .ok (.istore 4, 2) := by decide +kernel
theorem dX12_light_17 : decode cX12_light 17 = .ok (.iload 4, 2) := by decide +kernel
theorem dX12_light_19 : decode cX12_light 19 = .ok (.aload_n 0, 1) := by decide +kernel
theorem dX12_light_20 : decode cX12_light 20 = .ok (.getfield 30, 3) := by decide +kernel
theorem dX12_light_23 : decode cX12_light 23 = .ok (.iconst 0, 1) := by decide +kernel
theorem dX12_light_24 : decode cX12_light 24 = .ok (.iaload, 1) := by decide +kernel
theorem dX12_light_25 : decode cX12_light 25 = .ok (.if_icmp .ge 66, 3) := by decide +kernel
theorem dX12_light_28 : decode cX12_light 28 = .ok (.aload_n 0, 1) := by decide +kernel
theorem dX12_light_29 : decode cX12_light 29 = .ok (.iload 4, 2) := by decide +kernel
theorem dX12_light_31 : decode cX12_light 31 = .ok (.invokevirtual 380, 3) := by decide +kernel
theorem dX12_light_34 : decode cX12_light 34 = .ok (.aload_n 0, 1) := by decide +kernel
theorem dX12_light_35 : decode cX12_light 35 = .ok (.iload_n 1, 1) := by decide +kernel
theorem dX12_light_36 : decode cX12_light 36 = .ok (.invokevirtual 380, 3) := by decide +kernel
theorem dX12_light_39 : decode cX12_light 39 = .ok (.isub, 1) := by decide +kernel
theorem dX12_light_40 : decode cX12_light 40 = .ok (.istore 5, 2) := by decide +kernel
theorem dX12_light_42 : decode cX12_light 42 = .ok (.aload_n 0, 1) := by decide +kernel
theorem dX12_light_43 : decode cX12_light 43 = .ok (.iload 4, 2) := by decide +kernel
theorem dX12_light_45 : decode cX12_light 45 = .ok (.invokevirtual 371, 3) := by decide +kernel
theorem dX12_light_48 : decode cX12_light 48 = .ok (.aload_n 0, 1) := by decide +kernel
theorem dX12_light_49 : decode cX12_light 49 = .ok (.iload_n 1, 1) := by decide +kernel
theorem dX12_light_50 : decode cX12_light 50 = .ok (.invokevirtual 371, 3) := by decide +kernel
theorem dX12_light_53 : decode cX12_light 53 = .ok (.isub, 1) := by decide +kernel
theorem dX12_light_54 : decode cX12_light 54 = .ok (.istore 6, 2) := by decide +kernel
theorem dX12_light_56 : decode cX12_light 56 = .ok (.iload 6, 2) := by decide +kernel
theorem dX12_light_58 : decode cX12_light 58 = .ok (.ifCond .ge 13, 3) := by decide +kernel
theorem dX12_light_61 : decode cX12_light 61 = .ok (.iload 5, 2) := by decide +kernel
theorem dX12_light_63 : decode cX12_light 63 = .ok (.iload 6, 2) := by decide +kernel
theorem dX12_light_65 : decode cX12_light 65 = .ok (.ineg, 1) := by decide +kernel
theorem dX12_light_66 : decode cX12_light 66 = .ok (.if_icmp .lt 5, 3) := by decide +kernel
theorem dX12_light_69 : decode cX12_light 69 = .ok (.iconst 0, 1) := by decide +kernel
theorem dX12_light_70 : decode cX12_light 70 = .ok (.istore_n 2, 1) := by decide +kernel
theorem dX12_light_71 : decode cX12_light 71 = .ok (.iload 6, 2) := by decide +kernel
theorem dX12_light_73 : decode cX12_light 73 = .ok (.ifCond .le 12, 3) := by decide +kernel
theorem dX12_light_76 : decode cX12_light 76 = .ok (.iload 5, 2) := by decide +kernel
theorem dX12_light_78 : decode cX12_light 78 = .ok (.iload 6, 2) := by decide +kernel
theorem dX12_light_80 : decode cX12_light 80 = .ok (.if_icmp .lt 5, 3) := by decide +kernel
theorem dX12_light_83 : decode cX12_light 83 = .ok (.iconst 0, 1) := by decide +kernel
theorem dX12_light_84 : decode cX12_light 84 = .ok (.istore_n 3, 1) := by decide +kernel
theorem dX12_light_85 : decode cX12_light 85 = .ok (.iinc 4 1, 3) := by decide +kernel
theorem dX12_light_88 : decode cX12_light 88 = .ok (.goto (-71), 3) := by decide +kernel
theorem dX12_light_91 : decode cX12_light 91 = .ok (.iload_n 2, 1) := by decide +kernel
theorem dX12_light_92 : decode cX12_light 92 = .ok (.ifCond .eq 7, 3) := by decide +kernel
theorem dX12_light_95 : decode cX12_light 95 = .ok (.iconst 1, 1) := by decide +kernel
theorem dX12_light_96 : decode cX12_light 96 = .ok (.goto 4, 3) := by decide +kernel
theorem dX12_light_99 : decode cX12_light 99 = .ok (.iconst 0, 1) := by decide +kernel
theorem dX12_light_100 : decode cX12_light 100 = .ok (.iload_n 3, 1) := by decide +kernel
theorem dX12_light_101 : decode cX12_light 101 = .ok (.ifCond .eq 7, 3) := by decide +kernel
theorem dX12_light_104 : decode cX12_light 104 = .ok (.iconst 2, 1) := by decide +kernel
theorem dX12_light_105 : decode cX12_light 105 = .ok (.goto 4, 3) := by decide +kernel
theorem dX12_light_108 : decode cX12_light 108 = .ok (.iconst 0, 1) := by decide +kernel
theorem dX12_light_109 : decode cX12_light 109 = .ok (.iadd, 1) := by decide +kernel
theorem dX12_light_110 : decode cX12_light 110 = .ok (.ireturn, 1) := by decide +kernel
theorem b_X12_light (mm : MM) (Q : Value → MM → Prop) (a1 : Int32) (h : (p_X12_isHouse mm a1 → (G e_X12_light 17 [(0, .ref 156), (1, .int a1), (2, .int (1 : Int32)), (3, .int (1 : Int32)), (4, .int (0 : Int32))] [] mm Q)) ∧ (¬ p_X12_isHouse mm a1 → (Q (.int (-1 : Int32)) mm))) : Runs e_X12_light [.ref 156, .int a1] mm Q := by
  refine runs_of_G (L := [(0, .ref 156), (1, .int a1)]) pl_X12 (Nat.le_of_ble_eq_true rfl) rfl ?_
  refine g_aload_n (pc := 0) (x := 156) dX12_light_0 rfl ?_
  refine g_iload_n (pc := 1) (x := a1) dX12_light_1 rfl ?_
  refine g_callV (pc := 2) (as := [.int a1]) dX12_light_2 cw_X12_377 (by decide) rfl rfl sh_156 (Nat.le_of_ble_eq_true rfl) (rv_X12_isHouse mm a1) ?_
  rintro r_ m_ hz_ ⟨⟨p_, rfl⟩ | ⟨p_, rfl⟩, rfl⟩
  · have h := h.1 p_
    refine g_if_ne (pc := 5) (tgt := 10) dX12_light_5 (by decide) (fun _ => ?_) (fun c5 => absurd c5 (by decide))
    refine g_iconst (pc := 10) (v := (1 : Int32)) dX12_light_10 (by decide) ?_
    refine g_istore_n (pc := 11) (L' := [(0, .ref 156), (1, .int a1), (2, .int (1 : Int32))]) dX12_light_11 (Nat.le_of_ble_eq_true rfl) rfl ?_
    refine g_iconst (pc := 12) (v := (1 : Int32)) dX12_light_12 (by decide) ?_
    refine g_istore_n (pc := 13) (L' := [(0, .ref 156), (1, .int a1), (2, .int (1 : Int32)), (3, .int (1 : Int32))]) dX12_light_13 (Nat.le_of_ble_eq_true rfl) rfl ?_
    refine g_iconst (pc := 14) (v := (0 : Int32)) dX12_light_14 (by decide) ?_
    refine g_istore (pc := 15) (L' := [(0, .ref 156), (1, .int a1), (2, .int (1 : Int32)), (3, .int (1 : Int32)), (4, .int (0 : Int32))]) dX12_light_15 (Nat.le_of_ble_eq_true rfl) rfl ?_
    exact h
  · have h := h.2 p_
    refine g_if_ne (pc := 5) (tgt := 10) dX12_light_5 (by decide) (fun c5 => absurd c5 (by decide)) (fun _ => ?_)
    refine g_iconst (pc := 8) (v := (-1 : Int32)) dX12_light_8 (by decide) ?_
    exact g_iret (pc := 9) dX12_light_9 rfl rfl rfl h
theorem b_X12_light_17 (mm : MM) (Q : Value → MM → Prop) (l1 : Int32) (l2 : Int32) (l3 : Int32) (l4 : Int32) (h : ((mm.1 162 0) ≤ l4 → ((l2 = 0 → ((l3 = 0 → (Q (.int ((0 : Int32) + (0 : Int32))) mm)) ∧ (¬ l3 = 0 → (Q (.int ((0 : Int32) + (2 : Int32))) mm)))) ∧ (¬ l2 = 0 → ((l3 = 0 → (Q (.int ((1 : Int32) + (0 : Int32))) mm)) ∧ (¬ l3 = 0 → (Q (.int ((1 : Int32) + (2 : Int32))) mm)))))) ∧ (¬ (mm.1 162 0) ≤ l4 → (o_X12_heightOf mm l4 ∧ (o_X12_heightOf mm l1 ∧ (o_X12_xOf mm l4 ∧ (o_X12_xOf mm l1 ∧ ((0 ≤ ((v_X12_xOf mm l4) - (v_X12_xOf mm l1)) → ((((v_X12_xOf mm l4) - (v_X12_xOf mm l1)) ≤ 0 → (G e_X12_light 17 [(0, .ref 156), (1, .int l1), (2, .int l2), (3, .int l3), (4, .int (l4 + (1 : Int32)))] [] mm Q)) ∧ (¬ ((v_X12_xOf mm l4) - (v_X12_xOf mm l1)) ≤ 0 → ((((v_X12_heightOf mm l4) - (v_X12_heightOf mm l1)) < ((v_X12_xOf mm l4) - (v_X12_xOf mm l1)) → (G e_X12_light 17 [(0, .ref 156), (1, .int l1), (2, .int l2), (3, .int l3), (4, .int (l4 + (1 : Int32)))] [] mm Q)) ∧ (¬ ((v_X12_heightOf mm l4) - (v_X12_heightOf mm l1)) < ((v_X12_xOf mm l4) - (v_X12_xOf mm l1)) → (G e_X12_light 17 [(0, .ref 156), (1, .int l1), (2, .int l2), (3, .int (0 : Int32)), (4, .int (l4 + (1 : Int32)))] [] mm Q)))))) ∧ (¬ 0 ≤ ((v_X12_xOf mm l4) - (v_X12_xOf mm l1)) → ((((v_X12_heightOf mm l4) - (v_X12_heightOf mm l1)) < (-((v_X12_xOf mm l4) - (v_X12_xOf mm l1))) → ((((v_X12_xOf mm l4) - (v_X12_xOf mm l1)) ≤ 0 → (G e_X12_light 17 [(0, .ref 156), (1, .int l1), (2, .int l2), (3, .int l3), (4, .int (l4 + (1 : Int32)))] [] mm Q)) ∧ (¬ ((v_X12_xOf mm l4) - (v_X12_xOf mm l1)) ≤ 0 → ((((v_X12_heightOf mm l4) - (v_X12_heightOf mm l1)) < ((v_X12_xOf mm l4) - (v_X12_xOf mm l1)) → (G e_X12_light 17 [(0, .ref 156), (1, .int l1), (2, .int l2), (3, .int l3), (4, .int (l4 + (1 : Int32)))] [] mm Q)) ∧ (¬ ((v_X12_heightOf mm l4) - (v_X12_heightOf mm l1)) < ((v_X12_xOf mm l4) - (v_X12_xOf mm l1)) → (G e_X12_light 17 [(0, .ref 156), (1, .int l1), (2, .int l2), (3, .int (0 : Int32)), (4, .int (l4 + (1 : Int32)))] [] mm Q)))))) ∧ (¬ ((v_X12_heightOf mm l4) - (v_X12_heightOf mm l1)) < (-((v_X12_xOf mm l4) - (v_X12_xOf mm l1))) → ((((v_X12_xOf mm l4) - (v_X12_xOf mm l1)) ≤ 0 → (G e_X12_light 17 [(0, .ref 156), (1, .int l1), (2, .int (0 : Int32)), (3, .int l3), (4, .int (l4 + (1 : Int32)))] [] mm Q)) ∧ (¬ ((v_X12_xOf mm l4) - (v_X12_xOf mm l1)) ≤ 0 → ((((v_X12_heightOf mm l4) - (v_X12_heightOf mm l1)) < ((v_X12_xOf mm l4) - (v_X12_xOf mm l1)) → (G e_X12_light 17 [(0, .ref 156), (1, .int l1), (2, .int (0 : Int32)), (3, .int l3), (4, .int (l4 + (1 : Int32)))] [] mm Q)) ∧ (¬ ((v_X12_heightOf mm l4) - (v_X12_heightOf mm l1)) < ((v_X12_xOf mm l4) - (v_X12_xOf mm l1)) → (G e_X12_light 17 [(0, .ref 156), (1, .int l1), (2, .int (0 : Int32)), (3, .int (0 : Int32)), (4, .int (l4 + (1 : Int32)))] [] mm Q))))))))))))))) : G e_X12_light 17 [(0, .ref 156), (1, .int l1), (2, .int l2), (3, .int l3), (4, .int l4)] [] mm Q := by
  refine g_iload (pc := 17) (x := l4) dX12_light_17 rfl ?_
  refine g_aload_n (pc := 19) (x := 156) dX12_light_19 rfl ?_
  refine g_getR (pc := 20) (dd := 6) dX12_light_20 fo_X12_30 sh_156 rfl ?_
  refine g_iconst (pc := 23) (v := (0 : Int32)) dX12_light_23 (by decide) ?_
  refine g_iaload (pc := 24) dX12_light_24 sh_162 (vp_in_nI (n := 0) (N := 420) (by decide) (by decide)) ?_
  refine g_icmp_ge (pc := 25) (tgt := 91) dX12_light_25 (by decide) (fun c25 => ?_) (fun c25 => ?_)
  · have h := h.1 c25
    refine g_iload_n (pc := 91) (x := l2) dX12_light_91 rfl ?_
    refine g_if_eq (pc := 92) (tgt := 99) dX12_light_92 (by decide) (fun c92 => ?_) (fun c92 => ?_)
    · have h := h.1 c92
      refine g_iconst (pc := 99) (v := (0 : Int32)) dX12_light_99 (by decide) ?_
      refine g_iload_n (pc := 100) (x := l3) dX12_light_100 rfl ?_
      refine g_if_eq (pc := 101) (tgt := 108) dX12_light_101 (by decide) (fun c101 => ?_) (fun c101 => ?_)
      · have h := h.1 c101
        refine g_iconst (pc := 108) (v := (0 : Int32)) dX12_light_108 (by decide) ?_
        refine g_iadd (pc := 109) dX12_light_109 ?_
        exact g_iret (pc := 110) dX12_light_110 rfl rfl rfl h
      · have h := h.2 c101
        refine g_iconst (pc := 104) (v := (2 : Int32)) dX12_light_104 (by decide) ?_
        refine g_goto (pc := 105) (tgt := 109) dX12_light_105 (by decide) ?_
        refine g_iadd (pc := 109) dX12_light_109 ?_
        exact g_iret (pc := 110) dX12_light_110 rfl rfl rfl h
    · have h := h.2 c92
      refine g_iconst (pc := 95) (v := (1 : Int32)) dX12_light_95 (by decide) ?_
      refine g_goto (pc := 96) (tgt := 100) dX12_light_96 (by decide) ?_
      refine g_iload_n (pc := 100) (x := l3) dX12_light_100 rfl ?_
      refine g_if_eq (pc := 101) (tgt := 108) dX12_light_101 (by decide) (fun c101 => ?_) (fun c101 => ?_)
      · have h := h.1 c101
        refine g_iconst (pc := 108) (v := (0 : Int32)) dX12_light_108 (by decide) ?_
        refine g_iadd (pc := 109) dX12_light_109 ?_
        exact g_iret (pc := 110) dX12_light_110 rfl rfl rfl h
      · have h := h.2 c101
        refine g_iconst (pc := 104) (v := (2 : Int32)) dX12_light_104 (by decide) ?_
        refine g_goto (pc := 105) (tgt := 109) dX12_light_105 (by decide) ?_
        refine g_iadd (pc := 109) dX12_light_109 ?_
        exact g_iret (pc := 110) dX12_light_110 rfl rfl rfl h
  · have h := h.2 c25
    refine g_aload_n (pc := 28) (x := 156) dX12_light_28 rfl ?_
    refine g_iload (pc := 29) (x := l4) dX12_light_29 rfl ?_
    refine g_callV (pc := 31) (as := [.int l4]) dX12_light_31 cw_X12_380 (by decide) rfl rfl sh_156 (Nat.le_of_ble_eq_true rfl) (rv_X12_heightOf mm l4 h.1) ?_
    have h := h.2
    rintro r_ m_ hz_ ⟨rfl, rfl⟩
    refine g_aload_n (pc := 34) (x := 156) dX12_light_34 rfl ?_
    refine g_iload_n (pc := 35) (x := l1) dX12_light_35 rfl ?_
    refine g_callV (pc := 36) (as := [.int l1]) dX12_light_36 cw_X12_380 (by decide) rfl rfl sh_156 (Nat.le_of_ble_eq_true rfl) (rv_X12_heightOf mm l1 h.1) ?_
    have h := h.2
    rintro r_ m_ hz_ ⟨rfl, rfl⟩
    refine g_isub (pc := 39) dX12_light_39 ?_
    refine g_istore (pc := 40) (L' := [(0, .ref 156), (1, .int l1), (2, .int l2), (3, .int l3), (4, .int l4), (5, .int ((v_X12_heightOf mm l4) - (v_X12_heightOf mm l1)))]) dX12_light_40 (Nat.le_of_ble_eq_true rfl) rfl ?_
    refine g_aload_n (pc := 42) (x := 156) dX12_light_42 rfl ?_
    refine g_iload (pc := 43) (x := l4) dX12_light_43 rfl ?_
    refine g_callV (pc := 45) (as := [.int l4]) dX12_light_45 cw_X12_371 (by decide) rfl rfl sh_156 (Nat.le_of_ble_eq_true rfl) (rv_X12_xOf mm l4 h.1) ?_
    have h := h.2
    rintro r_ m_ hz_ ⟨rfl, rfl⟩
    refine g_aload_n (pc := 48) (x := 156) dX12_light_48 rfl ?_
    refine g_iload_n (pc := 49) (x := l1) dX12_light_49 rfl ?_
    refine g_callV (pc := 50) (as := [.int l1]) dX12_light_50 cw_X12_371 (by decide) rfl rfl sh_156 (Nat.le_of_ble_eq_true rfl) (rv_X12_xOf mm l1 h.1) ?_
    have h := h.2
    rintro r_ m_ hz_ ⟨rfl, rfl⟩
    refine g_isub (pc := 53) dX12_light_53 ?_
    refine g_istore (pc := 54) (L' := [(0, .ref 156), (1, .int l1), (2, .int l2), (3, .int l3), (4, .int l4), (5, .int ((v_X12_heightOf mm l4) - (v_X12_heightOf mm l1))), (6, .int ((v_X12_xOf mm l4) - (v_X12_xOf mm l1)))]) dX12_light_54 (Nat.le_of_ble_eq_true rfl) rfl ?_
    refine g_iload (pc := 56) (x := ((v_X12_xOf mm l4) - (v_X12_xOf mm l1))) dX12_light_56 rfl ?_
    refine g_if_ge (pc := 58) (tgt := 71) dX12_light_58 (by decide) (fun c58 => ?_) (fun c58 => ?_)
    · have h := h.1 c58
      refine g_iload (pc := 71) (x := ((v_X12_xOf mm l4) - (v_X12_xOf mm l1))) dX12_light_71 rfl ?_
      refine g_if_le (pc := 73) (tgt := 85) dX12_light_73 (by decide) (fun c73 => ?_) (fun c73 => ?_)
      · have h := h.1 c73
        refine g_iinc (pc := 85) (x := l4) (v := (l4 + (1 : Int32))) (L' := [(0, .ref 156), (1, .int l1), (2, .int l2), (3, .int l3), (4, .int (l4 + (1 : Int32))), (5, .int ((v_X12_heightOf mm l4) - (v_X12_heightOf mm l1))), (6, .int ((v_X12_xOf mm l4) - (v_X12_xOf mm l1)))]) dX12_light_85 rfl rfl (Nat.le_of_ble_eq_true rfl) rfl ?_
        refine g_goto (pc := 88) (tgt := 17) dX12_light_88 (by decide) ?_
        refine g_sub (L' := [(0, .ref 156), (1, .int l1), (2, .int l2), (3, .int l3), (4, .int (l4 + (1 : Int32)))]) [0, 1, 2, 3, 4] rfl ?_
        exact h
      · have h := h.2 c73
        refine g_iload (pc := 76) (x := ((v_X12_heightOf mm l4) - (v_X12_heightOf mm l1))) dX12_light_76 rfl ?_
        refine g_iload (pc := 78) (x := ((v_X12_xOf mm l4) - (v_X12_xOf mm l1))) dX12_light_78 rfl ?_
        refine g_icmp_lt (pc := 80) (tgt := 85) dX12_light_80 (by decide) (fun c80 => ?_) (fun c80 => ?_)
        · have h := h.1 c80
          refine g_iinc (pc := 85) (x := l4) (v := (l4 + (1 : Int32))) (L' := [(0, .ref 156), (1, .int l1), (2, .int l2), (3, .int l3), (4, .int (l4 + (1 : Int32))), (5, .int ((v_X12_heightOf mm l4) - (v_X12_heightOf mm l1))), (6, .int ((v_X12_xOf mm l4) - (v_X12_xOf mm l1)))]) dX12_light_85 rfl rfl (Nat.le_of_ble_eq_true rfl) rfl ?_
          refine g_goto (pc := 88) (tgt := 17) dX12_light_88 (by decide) ?_
          refine g_sub (L' := [(0, .ref 156), (1, .int l1), (2, .int l2), (3, .int l3), (4, .int (l4 + (1 : Int32)))]) [0, 1, 2, 3, 4] rfl ?_
          exact h
        · have h := h.2 c80
          refine g_iconst (pc := 83) (v := (0 : Int32)) dX12_light_83 (by decide) ?_
          refine g_istore_n (pc := 84) (L' := [(0, .ref 156), (1, .int l1), (2, .int l2), (3, .int (0 : Int32)), (4, .int l4), (5, .int ((v_X12_heightOf mm l4) - (v_X12_heightOf mm l1))), (6, .int ((v_X12_xOf mm l4) - (v_X12_xOf mm l1)))]) dX12_light_84 (Nat.le_of_ble_eq_true rfl) rfl ?_
          refine g_iinc (pc := 85) (x := l4) (v := (l4 + (1 : Int32))) (L' := [(0, .ref 156), (1, .int l1), (2, .int l2), (3, .int (0 : Int32)), (4, .int (l4 + (1 : Int32))), (5, .int ((v_X12_heightOf mm l4) - (v_X12_heightOf mm l1))), (6, .int ((v_X12_xOf mm l4) - (v_X12_xOf mm l1)))]) dX12_light_85 rfl rfl (Nat.le_of_ble_eq_true rfl) rfl ?_
          refine g_goto (pc := 88) (tgt := 17) dX12_light_88 (by decide) ?_
          refine g_sub (L' := [(0, .ref 156), (1, .int l1), (2, .int l2), (3, .int (0 : Int32)), (4, .int (l4 + (1 : Int32)))]) [0, 1, 2, 3, 4] rfl ?_
          exact h
    · have h := h.2 c58
      refine g_iload (pc := 61) (x := ((v_X12_heightOf mm l4) - (v_X12_heightOf mm l1))) dX12_light_61 rfl ?_
      refine g_iload (pc := 63) (x := ((v_X12_xOf mm l4) - (v_X12_xOf mm l1))) dX12_light_63 rfl ?_
      refine g_ineg (pc := 65) dX12_light_65 ?_
      refine g_icmp_lt (pc := 66) (tgt := 71) dX12_light_66 (by decide) (fun c66 => ?_) (fun c66 => ?_)
      · have h := h.1 c66
        refine g_iload (pc := 71) (x := ((v_X12_xOf mm l4) - (v_X12_xOf mm l1))) dX12_light_71 rfl ?_
        refine g_if_le (pc := 73) (tgt := 85) dX12_light_73 (by decide) (fun c73 => ?_) (fun c73 => ?_)
        · have h := h.1 c73
          refine g_iinc (pc := 85) (x := l4) (v := (l4 + (1 : Int32))) (L' := [(0, .ref 156), (1, .int l1), (2, .int l2), (3, .int l3), (4, .int (l4 + (1 : Int32))), (5, .int ((v_X12_heightOf mm l4) - (v_X12_heightOf mm l1))), (6, .int ((v_X12_xOf mm l4) - (v_X12_xOf mm l1)))]) dX12_light_85 rfl rfl (Nat.le_of_ble_eq_true rfl) rfl ?_
          refine g_goto (pc := 88) (tgt := 17) dX12_light_88 (by decide) ?_
          refine g_sub (L' := [(0, .ref 156), (1, .int l1), (2, .int l2), (3, .int l3), (4, .int (l4 + (1 : Int32)))]) [0, 1, 2, 3, 4] rfl ?_
          exact h
        · have h := h.2 c73
          refine g_iload (pc := 76) (x := ((v_X12_heightOf mm l4) - (v_X12_heightOf mm l1))) dX12_light_76 rfl ?_
          refine g_iload (pc := 78) (x := ((v_X12_xOf mm l4) - (v_X12_xOf mm l1))) dX12_light_78 rfl ?_
          refine g_icmp_lt (pc := 80) (tgt := 85) dX12_light_80 (by decide) (fun c80 => ?_) (fun c80 => ?_)
          · have h := h.1 c80
            refine g_iinc (pc := 85) (x := l4) (v := (l4 + (1 : Int32))) (L' := [(0, .ref 156), (1, .int l1), (2, .int l2), (3, .int l3), (4, .int (l4 + (1 : Int32))), (5, .int ((v_X12_heightOf mm l4) - (v_X12_heightOf mm l1))), (6, .int ((v_X12_xOf mm l4) - (v_X12_xOf mm l1)))]) dX12_light_85 rfl rfl (Nat.le_of_ble_eq_true rfl) rfl ?_
            refine g_goto (pc := 88) (tgt := 17) dX12_light_88 (by decide) ?_
            refine g_sub (L' := [(0, .ref 156), (1, .int l1), (2, .int l2), (3, .int l3), (4, .int (l4 + (1 : Int32)))]) [0, 1, 2, 3, 4] rfl ?_
            exact h
          · have h := h.2 c80
            refine g_iconst (pc := 83) (v := (0 : Int32)) dX12_light_83 (by decide) ?_
            refine g_istore_n (pc := 84) (L' := [(0, .ref 156), (1, .int l1), (2, .int l2), (3, .int (0 : Int32)), (4, .int l4), (5, .int ((v_X12_heightOf mm l4) - (v_X12_heightOf mm l1))), (6, .int ((v_X12_xOf mm l4) - (v_X12_xOf mm l1)))]) dX12_light_84 (Nat.le_of_ble_eq_true rfl) rfl ?_
            refine g_iinc (pc := 85) (x := l4) (v := (l4 + (1 : Int32))) (L' := [(0, .ref 156), (1, .int l1), (2, .int l2), (3, .int (0 : Int32)), (4, .int (l4 + (1 : Int32))), (5, .int ((v_X12_heightOf mm l4) - (v_X12_heightOf mm l1))), (6, .int ((v_X12_xOf mm l4) - (v_X12_xOf mm l1)))]) dX12_light_85 rfl rfl (Nat.le_of_ble_eq_true rfl) rfl ?_
            refine g_goto (pc := 88) (tgt := 17) dX12_light_88 (by decide) ?_
            refine g_sub (L' := [(0, .ref 156), (1, .int l1), (2, .int l2), (3, .int (0 : Int32)), (4, .int (l4 + (1 : Int32)))]) [0, 1, 2, 3, 4] rfl ?_
            exact h
      · have h := h.2 c66
        refine g_iconst (pc := 69) (v := (0 : Int32)) dX12_light_69 (by decide) ?_
        refine g_istore_n (pc := 70) (L' := [(0, .ref 156), (1, .int l1), (2, .int (0 : Int32)), (3, .int l3), (4, .int l4), (5, .int ((v_X12_heightOf mm l4) - (v_X12_heightOf mm l1))), (6, .int ((v_X12_xOf mm l4) - (v_X12_xOf mm l1)))]) dX12_light_70 (Nat.le_of_ble_eq_true rfl) rfl ?_
        refine g_iload (pc := 71) (x := ((v_X12_xOf mm l4) - (v_X12_xOf mm l1))) dX12_light_71 rfl ?_
        refine g_if_le (pc := 73) (tgt := 85) dX12_light_73 (by decide) (fun c73 => ?_) (fun c73 => ?_)
        · have h := h.1 c73
          refine g_iinc (pc := 85) (x := l4) (v := (l4 + (1 : Int32))) (L' := [(0, .ref 156), (1, .int l1), (2, .int (0 : Int32)), (3, .int l3), (4, .int (l4 + (1 : Int32))), (5, .int ((v_X12_heightOf mm l4) - (v_X12_heightOf mm l1))), (6, .int ((v_X12_xOf mm l4) - (v_X12_xOf mm l1)))]) dX12_light_85 rfl rfl (Nat.le_of_ble_eq_true rfl) rfl ?_
          refine g_goto (pc := 88) (tgt := 17) dX12_light_88 (by decide) ?_
          refine g_sub (L' := [(0, .ref 156), (1, .int l1), (2, .int (0 : Int32)), (3, .int l3), (4, .int (l4 + (1 : Int32)))]) [0, 1, 2, 3, 4] rfl ?_
          exact h
        · have h := h.2 c73
          refine g_iload (pc := 76) (x := ((v_X12_heightOf mm l4) - (v_X12_heightOf mm l1))) dX12_light_76 rfl ?_
          refine g_iload (pc := 78) (x := ((v_X12_xOf mm l4) - (v_X12_xOf mm l1))) dX12_light_78 rfl ?_
          refine g_icmp_lt (pc := 80) (tgt := 85) dX12_light_80 (by decide) (fun c80 => ?_) (fun c80 => ?_)
          · have h := h.1 c80
            refine g_iinc (pc := 85) (x := l4) (v := (l4 + (1 : Int32))) (L' := [(0, .ref 156), (1, .int l1), (2, .int (0 : Int32)), (3, .int l3), (4, .int (l4 + (1 : Int32))), (5, .int ((v_X12_heightOf mm l4) - (v_X12_heightOf mm l1))), (6, .int ((v_X12_xOf mm l4) - (v_X12_xOf mm l1)))]) dX12_light_85 rfl rfl (Nat.le_of_ble_eq_true rfl) rfl ?_
            refine g_goto (pc := 88) (tgt := 17) dX12_light_88 (by decide) ?_
            refine g_sub (L' := [(0, .ref 156), (1, .int l1), (2, .int (0 : Int32)), (3, .int l3), (4, .int (l4 + (1 : Int32)))]) [0, 1, 2, 3, 4] rfl ?_
            exact h
          · have h := h.2 c80
            refine g_iconst (pc := 83) (v := (0 : Int32)) dX12_light_83 (by decide) ?_
            refine g_istore_n (pc := 84) (L' := [(0, .ref 156), (1, .int l1), (2, .int (0 : Int32)), (3, .int (0 : Int32)), (4, .int l4), (5, .int ((v_X12_heightOf mm l4) - (v_X12_heightOf mm l1))), (6, .int ((v_X12_xOf mm l4) - (v_X12_xOf mm l1)))]) dX12_light_84 (Nat.le_of_ble_eq_true rfl) rfl ?_
            refine g_iinc (pc := 85) (x := l4) (v := (l4 + (1 : Int32))) (L' := [(0, .ref 156), (1, .int l1), (2, .int (0 : Int32)), (3, .int (0 : Int32)), (4, .int (l4 + (1 : Int32))), (5, .int ((v_X12_heightOf mm l4) - (v_X12_heightOf mm l1))), (6, .int ((v_X12_xOf mm l4) - (v_X12_xOf mm l1)))]) dX12_light_85 rfl rfl (Nat.le_of_ble_eq_true rfl) rfl ?_
            refine g_goto (pc := 88) (tgt := 17) dX12_light_88 (by decide) ?_
            refine g_sub (L' := [(0, .ref 156), (1, .int l1), (2, .int (0 : Int32)), (3, .int (0 : Int32)), (4, .int (l4 + (1 : Int32)))]) [0, 1, 2, 3, 4] rfl ?_
            exact h
theorem dX12_isWind_0 : decode cX12_isWind 0 = .ok (.iload_n 0, 1) := by decide +kernel
theorem dX12_isWind_1 : decode cX12_isWind 1 = .ok (.ifCond .lt 13, 3) := by decide +kernel
theorem dX12_isWind_4 : decode cX12_isWind 4 = .ok (.iload_n 0, 1) := by decide +kernel
theorem dX12_isWind_5 : decode cX12_isWind 5 = .ok (.bipush 100, 2) := by decide +kernel
theorem dX12_isWind_7 : decode cX12_isWind 7 = .ok (.if_icmp .ge 7, 3) := by decide +kernel
theorem dX12_isWind_10 : decode cX12_isWind 10 = .ok (.iconst 1, 1) := by decide +kernel
theorem dX12_isWind_11 : decode cX12_isWind 11 = .ok (.goto 4, 3) := by decide +kernel
theorem dX12_isWind_14 : decode cX12_isWind 14 = .ok (.iconst 0, 1) := by decide +kernel
theorem dX12_isWind_15 : decode cX12_isWind 15 = .ok (.ireturn, 1) := by decide +kernel
def p_X12_isWind (mm : MM) (a0 : Int32) : Prop := (¬ a0 < 0 ∧ ¬ (100 : Int32) ≤ a0)
theorem rv_X12_isWind (mm : MM) (a0 : Int32) : Runs e_X12_isWind [.int a0] mm (fun r m_ => ((p_X12_isWind mm a0 ∧ r = .int 1) ∨ (¬ p_X12_isWind mm a0 ∧ r = .int 0)) ∧ mm = m_) := by
  refine runs_of_G (L := [(0, .int a0)]) pl_X12 (Nat.le_of_ble_eq_true rfl) rfl ?_
  refine g_iload_n (pc := 0) (x := a0) dX12_isWind_0 rfl ?_
  refine g_if_lt (pc := 1) (tgt := 14) dX12_isWind_1 (by decide) (fun c1 => ?_) (fun c1 => ?_)
  · have c1_0 : a0 < 0 := c1
    refine g_iconst (pc := 14) (v := (0 : Int32)) dX12_isWind_14 (by decide) ?_
    exact g_iret (pc := 15) dX12_isWind_15 rfl rfl (nar_B isB0) ⟨Or.inr ⟨(show ¬ p_X12_isWind mm a0 from (fun h_ => (h_.1 c1_0))), rfl⟩, rfl⟩
  · have c1_0 : ¬ a0 < 0 := c1
    refine g_iload_n (pc := 4) (x := a0) dX12_isWind_4 rfl ?_
    refine g_bipush (pc := 5) (v := (100 : Int32)) dX12_isWind_5 (by decide) ?_
    refine g_icmp_ge (pc := 7) (tgt := 14) dX12_isWind_7 (by decide) (fun c7 => ?_) (fun c7 => ?_)
    · have c7_1 : (100 : Int32) ≤ a0 := c7
      refine g_iconst (pc := 14) (v := (0 : Int32)) dX12_isWind_14 (by decide) ?_
      exact g_iret (pc := 15) dX12_isWind_15 rfl rfl (nar_B isB0) ⟨Or.inr ⟨(show ¬ p_X12_isWind mm a0 from (fun h_ => (not_not_intro c7_1) h_.2)), rfl⟩, rfl⟩
    · have c7_1 : ¬ (100 : Int32) ≤ a0 := c7
      refine g_iconst (pc := 10) (v := (1 : Int32)) dX12_isWind_10 (by decide) ?_
      refine g_goto (pc := 11) (tgt := 15) dX12_isWind_11 (by decide) ?_
      exact g_iret (pc := 15) dX12_isWind_15 rfl rfl (nar_B isB1) ⟨Or.inl ⟨(show p_X12_isWind mm a0 from ⟨c1_0, c7_1⟩), rfl⟩, rfl⟩
theorem dX12_sway_0 : decode cX12_sway 0 = .ok (.aload_n 0, 1) := by decide +kernel
theorem dX12_sway_1 : decode cX12_sway 1 = .ok (.iload_n 1, 1) := by decide +kernel
theorem dX12_sway_2 : decode cX12_sway 2 = .ok (.invokevirtual 377, 3) := by decide +kernel
theorem dX12_sway_5 : decode cX12_sway 5 = .ok (.ifCond .eq 19, 3) := by decide +kernel
theorem dX12_sway_8 : decode cX12_sway 8 = .ok (.iload_n 2, 1) := by decide +kernel
theorem dX12_sway_9 : decode cX12_sway 9 = .ok (.invokestatic 481, 3) := by decide +kernel
theorem dX12_sway_12 : decode cX12_sway 12 = .ok (.ifCond .eq 12, 3) := by decide +kernel
theorem dX12_sway_15 : decode cX12_sway 15 = .ok (.aload_n 0, 1) := by decide +kernel
theorem dX12_sway_16 : decode cX12_sway 16 = .ok (.iload_n 1, 1) := by decide +kernel
theorem dX12_sway_17 : decode cX12_sway 17 = .ok (.iload_n 2, 1) := by decide +kernel
theorem dX12_sway_18 : decode cX12_sway 18 = .ok (.invokevirtual 425, 3) := by decide +kernel
theorem dX12_sway_21 : decode cX12_sway 21 = .ok (.goto 4, 3) := by decide +kernel
theorem dX12_sway_24 : decode cX12_sway 24 = .ok (.iconst (-1), 1) := by decide +kernel
theorem dX12_sway_25 : decode cX12_sway 25 = .ok (.ireturn, 1) := by decide +kernel
theorem b_X12_sway (mm : MM) (Q : Value → MM → Prop) (a1 : Int32) (a2 : Int32) (h : (p_X12_isHouse mm a1 → ((p_X12_isWind mm a2 → (∃ Pm1 : Value → MM → Prop, Runs e_X12_swayOf [.ref 156, .int a1, .int a2] mm Pm1 ∧ ∀ (r1 : Int32) (m1 : MM), Pm1 (.int r1) m1 → (Q (.int r1) m1))) ∧ (¬ p_X12_isWind mm a2 → (Q (.int (-1 : Int32)) mm)))) ∧ (¬ p_X12_isHouse mm a1 → (Q (.int (-1 : Int32)) mm))) : Runs e_X12_sway [.ref 156, .int a1, .int a2] mm Q := by
  refine runs_of_G (L := [(0, .ref 156), (1, .int a1), (2, .int a2)]) pl_X12 (Nat.le_of_ble_eq_true rfl) rfl ?_
  refine g_aload_n (pc := 0) (x := 156) dX12_sway_0 rfl ?_
  refine g_iload_n (pc := 1) (x := a1) dX12_sway_1 rfl ?_
  refine g_callV (pc := 2) (as := [.int a1]) dX12_sway_2 cw_X12_377 (by decide) rfl rfl sh_156 (Nat.le_of_ble_eq_true rfl) (rv_X12_isHouse mm a1) ?_
  rintro r_ m_ hz_ ⟨⟨p_, rfl⟩ | ⟨p_, rfl⟩, rfl⟩
  · have h := h.1 p_
    refine g_if_eq (pc := 5) (tgt := 24) dX12_sway_5 (by decide) (fun c5 => absurd c5 (by decide)) (fun _ => ?_)
    refine g_iload_n (pc := 8) (x := a2) dX12_sway_8 rfl ?_
    refine g_callS (pc := 9) (as := [.int a2]) dX12_sway_9 cw_X12_481 (by decide) rfl rfl (Nat.le_of_ble_eq_true rfl) (rv_X12_isWind mm a2) ?_
    rintro r_ m_ hz_ ⟨⟨p_, rfl⟩ | ⟨p_, rfl⟩, rfl⟩
    · have h := h.1 p_
      refine g_if_eq (pc := 12) (tgt := 24) dX12_sway_12 (by decide) (fun c12 => absurd c12 (by decide)) (fun _ => ?_)
      refine g_aload_n (pc := 15) (x := 156) dX12_sway_15 rfl ?_
      refine g_iload_n (pc := 16) (x := a1) dX12_sway_16 rfl ?_
      refine g_iload_n (pc := 17) (x := a2) dX12_sway_17 rfl ?_
      obtain ⟨Pm1, hRm1, h⟩ := h
      refine g_callV (pc := 18) (as := [.int a1, .int a2]) dX12_sway_18 cw_X12_425 (by decide) rfl rfl sh_156 (Nat.le_of_ble_eq_true rfl) hRm1 ?_
      intro r_ m1 hz_ hp_
      obtain ⟨r1, rfl⟩ := hz_
      have h := h r1 m1 hp_
      refine g_goto (pc := 21) (tgt := 25) dX12_sway_21 (by decide) ?_
      exact g_iret (pc := 25) dX12_sway_25 rfl rfl rfl h
    · have h := h.2 p_
      refine g_if_eq (pc := 12) (tgt := 24) dX12_sway_12 (by decide) (fun _ => ?_) (fun c12 => absurd c12 (by decide))
      refine g_iconst (pc := 24) (v := (-1 : Int32)) dX12_sway_24 (by decide) ?_
      exact g_iret (pc := 25) dX12_sway_25 rfl rfl rfl h
  · have h := h.2 p_
    refine g_if_eq (pc := 5) (tgt := 24) dX12_sway_5 (by decide) (fun _ => ?_) (fun c5 => absurd c5 (by decide))
    refine g_iconst (pc := 24) (v := (-1 : Int32)) dX12_sway_24 (by decide) ?_
    exact g_iret (pc := 25) dX12_sway_25 rfl rfl rfl h
theorem dX12_goneBeside_0 : decode cX12_goneBeside 0 = .ok (.iconst 0, 1) := by decide +kernel
theorem dX12_goneBeside_1 : decode cX12_goneBeside 1 = .ok (.istore_n 3, 1) := by decide +kernel
theorem dX12_goneBeside_2 : decode cX12_goneBeside 2 = .ok (.iconst 0, 1) := by decide +kernel
theorem dX12_goneBeside_3 : decode cX12_goneBeside 3 = .ok (.istore 4, 2) := by decide +kernel
theorem dX12_goneBeside_5 : decode cX12_goneBeside 5 = .ok (.iload 4, 2) := by decide +kernel
theorem dX12_goneBeside_7 : decode cX12_goneBeside 7 = .ok (.aload_n 0, 1) := by decide +kernel
theorem dX12_goneBeside_8 : decode cX12_goneBeside 8 = .ok (.getfield 30, 3) := by decide +kernel
theorem dX12_goneBeside_11 : decode cX12_goneBeside 11 = .ok (.iconst 3, 1) := by decide +kernel
theorem dX12_goneBeside_12 : decode cX12_goneBeside 12 = .ok (.iaload, 1) := by decide +kernel
theorem dX12_goneBeside_13 : decode cX12_goneBeside 13 = .ok (.if_icmp .ge 73, 3) := by decide +kernel
theorem dX12_goneBeside_16 : decode cX12_goneBeside 16 = .ok (.aload_n 0, 1) := by decide +kernel
theorem dX12_goneBeside_17 : decode cX12_goneBeside 17 = .ok (.getfield 30, 3) := by decide +kernel
theorem dX12_goneBeside_20 : decode cX12_goneBeside 20 = .ok (.bipush 120, 2) := by decide +kernel
theorem dX12_goneBeside_22 : decode cX12_goneBeside 22 = .ok (.iconst 3, 1) := by decide +kernel
theorem dX12_goneBeside_23 : decode cX12_goneBeside 23 = .ok (.iload 4, 2) := by decide +kernel
theorem dX12_goneBeside_25 : decode cX12_goneBeside 25 = .ok (.imul, 1) := by decide +kernel
theorem dX12_goneBeside_26 : decode cX12_goneBeside 26 = .ok (.iadd, 1) := by decide +kernel
theorem dX12_goneBeside_27 : decode cX12_goneBeside 27 = .ok (.iaload, 1) := by decide +kernel
theorem dX12_goneBeside_28 : decode cX12_goneBeside 28 = .ok (.istore 5, 2) := by decide +kernel
theorem dX12_goneBeside_30 : decode cX12_goneBeside 30 = .ok (.aload_n 0, 1) := by decide +kernel
theorem dX12_goneBeside_31 : decode cX12_goneBeside 31 = .ok (.getfield 30, 3) := by decide +kernel
theorem dX12_goneBeside_34 : decode cX12_goneBeside 34 = .ok (.bipush 120, 2) := by decide +kernel
theorem dX12_goneBeside_36 : decode cX12_goneBeside 36 = .ok (.iconst 3, 1) := by decide +kernel
theorem dX12_goneBeside_37 : decode cX12_goneBeside 37 = .ok (.iload 4, 2) := by decide +kernel
theorem dX12_goneBeside_39 : decode cX12_goneBeside 39 = .ok (.imul, 1) := by decide +kernel
theorem dX12_goneBeside_40 : decode cX12_goneBeside 40 = .ok (.iadd, 1) := by decide +kernel
theorem dX12_goneBeside_41 : decode cX12_goneBeside 41 = .ok (.iconst 1, 1) := by decide +kernel
theorem dX12_goneBeside_42 : decode cX12_goneBeside 42 = .ok (.iadd, 1) := by decide +kernel
theorem dX12_goneBeside_43 : decode cX12_goneBeside 43 = .ok (.iaload, 1) := by decide +kernel
theorem dX12_goneBeside_44 : decode cX12_goneBeside 44 = .ok (.istore 6, 2) := by decide +kernel
theorem dX12_goneBeside_46 : decode cX12_goneBeside 46 = .ok (.iload 6, 2) := by decide +kernel
theorem dX12_goneBeside_48 : decode cX12_goneBeside 48 = .ok (.ifCond .ge 6, 3) := by decide +kernel
theorem dX12_goneBeside_51 : decode cX12_goneBeside 51 = .ok (.goto 29, 3) := by decide +kernel
theorem dX12_goneBeside_54 : decode cX12_goneBeside 54 = .ok (.iload 5, 2) := by decide +kernel
theorem dX12_goneBeside_56 : decode cX12_goneBeside 56 = .ok (.iload_n 1, 1) := by decide +kernel
theorem dX12_goneBeside_57 : decode cX12_goneBeside 57 = .ok (.if_icmp .ne 10, 3) := by decide +kernel
theorem dX12_goneBeside_60 : decode cX12_goneBeside 60 = .ok (.iload_n 3, 1) := by decide +kernel
theorem dX12_goneBeside_61 : decode cX12_goneBeside 61 = .ok (.iconst 1, 1) := by decide +kernel
theorem dX12_goneBeside_62 : decode cX12_goneBeside 62 = .ok (.iload 6, 2) := by decide +kernel
theorem dX12_goneBeside_64 : decode cX12_goneBeside 64 = .ok (.ishl, 1) := by decide +kernel
theorem dX12_goneBeside_65 : decode cX12_goneBeside 65 = .ok (.ior, 1) := by decide +kernel
theorem dX12_goneBeside_66 : decode cX12_goneBeside 66 = .ok (.istore_n 3, 1) := by decide +kernel
theorem dX12_goneBeside_67 : decode cX12_goneBeside 67 = .ok (.iload 6, 2) := by decide +kernel
theorem dX12_goneBeside_69 : decode cX12_goneBeside 69 = .ok (.iload_n 1, 1) := by decide +kernel
theorem dX12_goneBeside_70 : decode cX12_goneBeside 70 = .ok (.if_icmp .ne 10, 3) := by decide +kernel
theorem dX12_goneBeside_73 : decode cX12_goneBeside 73 = .ok (.iload_n 3, 1) := by decide +kernel
theorem dX12_goneBeside_74 : decode cX12_goneBeside 74 = .ok (.iconst 1, 1) := by decide +kernel
theorem dX12_goneBeside_75 : decode cX12_goneBeside 75 = .ok (.iload 5, 2) := by decide +kernel
theorem dX12_goneBeside_77 : decode cX12_goneBeside 77 = .ok (.ishl, 1) := by decide +kernel
theorem dX12_goneBeside_78 : decode cX12_goneBeside 78 = .ok (.ior, 1) := by decide +kernel
theorem dX12_goneBeside_79 : decode cX12_goneBeside 79 = .ok (.istore_n 3, 1) := by decide +kernel
theorem dX12_goneBeside_80 : decode cX12_goneBeside 80 = .ok (.iinc 4 1, 3) := by decide +kernel
theorem dX12_goneBeside_83 : decode cX12_goneBeside 83 = .ok (.goto (-78), 3) := by decide +kernel
theorem dX12_goneBeside_86 : decode cX12_goneBeside 86 = .ok (.iload_n 3, 1) := by decide +kernel
theorem dX12_goneBeside_87 : decode cX12_goneBeside 87 = .ok (.iload_n 2, 1) := by decide +kernel
theorem dX12_goneBeside_88 : decode cX12_goneBeside 88 = .ok (.iand, 1) := by decide +kernel
theorem dX12_goneBeside_89 : decode cX12_goneBeside 89 = .ok (.invokestatic 408, 3) := by decide +kernel
theorem dX12_goneBeside_92 : decode cX12_goneBeside 92 = .ok (.ireturn, 1) := by decide +kernel
theorem b_X12_goneBeside (mm : MM) (Q : Value → MM → Prop) (a1 : Int32) (a2 : Int32) (h : G e_X12_goneBeside 5 [(0, .ref 156), (1, .int a1), (2, .int a2), (3, .int (0 : Int32)), (4, .int (0 : Int32))] [] mm Q) : Runs e_X12_goneBeside [.ref 156, .int a1, .int a2] mm Q := by
  refine runs_of_G (L := [(0, .ref 156), (1, .int a1), (2, .int a2)]) pl_X12 (Nat.le_of_ble_eq_true rfl) rfl ?_
  refine g_iconst (pc := 0) (v := (0 : Int32)) dX12_goneBeside_0 (by decide) ?_
  refine g_istore_n (pc := 1) (L' := [(0, .ref 156), (1, .int a1), (2, .int a2), (3, .int (0 : Int32))]) dX12_goneBeside_1 (Nat.le_of_ble_eq_true rfl) rfl ?_
  refine g_iconst (pc := 2) (v := (0 : Int32)) dX12_goneBeside_2 (by decide) ?_
  refine g_istore (pc := 3) (L' := [(0, .ref 156), (1, .int a1), (2, .int a2), (3, .int (0 : Int32)), (4, .int (0 : Int32))]) dX12_goneBeside_3 (Nat.le_of_ble_eq_true rfl) rfl ?_
  exact h
theorem b_X12_goneBeside_5 (mm : MM) (Q : Value → MM → Prop) (l1 : Int32) (l2 : Int32) (l3 : Int32) (l4 : Int32) (h : ((mm.1 162 3) ≤ l4 → (∃ Pm1 : Value → MM → Prop, Runs e_X12_bitsOf [.int (l3 &&& l2)] mm Pm1 ∧ ∀ (r1 : Int32) (m1 : MM), Pm1 (.int r1) m1 → (Q (.int r1) m1))) ∧ (¬ (mm.1 162 3) ≤ l4 → (vp_in ((120 : Int32) + ((3 : Int32) * l4)) 420 ∧ (vp_in (((120 : Int32) + ((3 : Int32) * l4)) + (1 : Int32)) 420 ∧ ((0 ≤ (mm.1 162 (((120 : Int32) + ((3 : Int32) * l4)) + (1 : Int32)).toNatClampNeg) → ((¬ (mm.1 162 ((120 : Int32) + ((3 : Int32) * l4)).toNatClampNeg) = l1 → ((¬ (mm.1 162 (((120 : Int32) + ((3 : Int32) * l4)) + (1 : Int32)).toNatClampNeg) = l1 → (G e_X12_goneBeside 5 [(0, .ref 156), (1, .int l1), (2, .int l2), (3, .int l3), (4, .int (l4 + (1 : Int32)))] [] mm Q)) ∧ ((mm.1 162 (((120 : Int32) + ((3 : Int32) * l4)) + (1 : Int32)).toNatClampNeg) = l1 → (G e_X12_goneBeside 5 [(0, .ref 156), (1, .int l1), (2, .int l2), (3, .int (l3 ||| ((1 : Int32) <<< ((mm.1 162 ((120 : Int32) + ((3 : Int32) * l4)).toNatClampNeg) &&& 31)))), (4, .int (l4 + (1 : Int32)))] [] mm Q)))) ∧ ((mm.1 162 ((120 : Int32) + ((3 : Int32) * l4)).toNatClampNeg) = l1 → ((¬ (mm.1 162 (((120 : Int32) + ((3 : Int32) * l4)) + (1 : Int32)).toNatClampNeg) = l1 → (G e_X12_goneBeside 5 [(0, .ref 156), (1, .int l1), (2, .int l2), (3, .int (l3 ||| ((1 : Int32) <<< ((mm.1 162 (((120 : Int32) + ((3 : Int32) * l4)) + (1 : Int32)).toNatClampNeg) &&& 31)))), (4, .int (l4 + (1 : Int32)))] [] mm Q)) ∧ ((mm.1 162 (((120 : Int32) + ((3 : Int32) * l4)) + (1 : Int32)).toNatClampNeg) = l1 → (G e_X12_goneBeside 5 [(0, .ref 156), (1, .int l1), (2, .int l2), (3, .int ((l3 ||| ((1 : Int32) <<< ((mm.1 162 (((120 : Int32) + ((3 : Int32) * l4)) + (1 : Int32)).toNatClampNeg) &&& 31))) ||| ((1 : Int32) <<< ((mm.1 162 ((120 : Int32) + ((3 : Int32) * l4)).toNatClampNeg) &&& 31)))), (4, .int (l4 + (1 : Int32)))] [] mm Q)))))) ∧ (¬ 0 ≤ (mm.1 162 (((120 : Int32) + ((3 : Int32) * l4)) + (1 : Int32)).toNatClampNeg) → (G e_X12_goneBeside 5 [(0, .ref 156), (1, .int l1), (2, .int l2), (3, .int l3), (4, .int (l4 + (1 : Int32)))] [] mm Q))))))) : G e_X12_goneBeside 5 [(0, .ref 156), (1, .int l1), (2, .int l2), (3, .int l3), (4, .int l4)] [] mm Q := by
  refine g_iload (pc := 5) (x := l4) dX12_goneBeside_5 rfl ?_
  refine g_aload_n (pc := 7) (x := 156) dX12_goneBeside_7 rfl ?_
  refine g_getR (pc := 8) (dd := 6) dX12_goneBeside_8 fo_X12_30 sh_156 rfl ?_
  refine g_iconst (pc := 11) (v := (3 : Int32)) dX12_goneBeside_11 (by decide) ?_
  refine g_iaload (pc := 12) dX12_goneBeside_12 sh_162 (vp_in_nI (n := 3) (N := 420) (by decide) (by decide)) ?_
  refine g_icmp_ge (pc := 13) (tgt := 86) dX12_goneBeside_13 (by decide) (fun c13 => ?_) (fun c13 => ?_)
  · have h := h.1 c13
    refine g_iload_n (pc := 86) (x := l3) dX12_goneBeside_86 rfl ?_
    refine g_iload_n (pc := 87) (x := l2) dX12_goneBeside_87 rfl ?_
    refine g_iand (pc := 88) dX12_goneBeside_88 ?_
    obtain ⟨Pm1, hRm1, h⟩ := h
    refine g_callS (pc := 89) (as := [.int (l3 &&& l2)]) dX12_goneBeside_89 cw_X12_408 (by decide) rfl rfl (Nat.le_of_ble_eq_true rfl) hRm1 ?_
    intro r_ m1 hz_ hp_
    obtain ⟨r1, rfl⟩ := hz_
    have h := h r1 m1 hp_
    exact g_iret (pc := 92) dX12_goneBeside_92 rfl rfl rfl h
  · have h := h.2 c13
    refine g_aload_n (pc := 16) (x := 156) dX12_goneBeside_16 rfl ?_
    refine g_getR (pc := 17) (dd := 6) dX12_goneBeside_17 fo_X12_30 sh_156 rfl ?_
    refine g_bipush (pc := 20) (v := (120 : Int32)) dX12_goneBeside_20 (by decide) ?_
    refine g_iconst (pc := 22) (v := (3 : Int32)) dX12_goneBeside_22 (by decide) ?_
    refine g_iload (pc := 23) (x := l4) dX12_goneBeside_23 rfl ?_
    refine g_imul (pc := 25) dX12_goneBeside_25 ?_
    refine g_iadd (pc := 26) dX12_goneBeside_26 ?_
    refine g_iaload (pc := 27) dX12_goneBeside_27 sh_162 h.1 ?_
    have h := h.2
    refine g_istore (pc := 28) (L' := [(0, .ref 156), (1, .int l1), (2, .int l2), (3, .int l3), (4, .int l4), (5, .int (mm.1 162 ((120 : Int32) + ((3 : Int32) * l4)).toNatClampNeg))]) dX12_goneBeside_28 (Nat.le_of_ble_eq_true rfl) rfl ?_
    refine g_aload_n (pc := 30) (x := 156) dX12_goneBeside_30 rfl ?_
    refine g_getR (pc := 31) (dd := 6) dX12_goneBeside_31 fo_X12_30 sh_156 rfl ?_
    refine g_bipush (pc := 34) (v := (120 : Int32)) dX12_goneBeside_34 (by decide) ?_
    refine g_iconst (pc := 36) (v := (3 : Int32)) dX12_goneBeside_36 (by decide) ?_
    refine g_iload (pc := 37) (x := l4) dX12_goneBeside_37 rfl ?_
    refine g_imul (pc := 39) dX12_goneBeside_39 ?_
    refine g_iadd (pc := 40) dX12_goneBeside_40 ?_
    refine g_iconst (pc := 41) (v := (1 : Int32)) dX12_goneBeside_41 (by decide) ?_
    refine g_iadd (pc := 42) dX12_goneBeside_42 ?_
    refine g_iaload (pc := 43) dX12_goneBeside_43 sh_162 h.1 ?_
    have h := h.2
    refine g_istore (pc := 44) (L' := [(0, .ref 156), (1, .int l1), (2, .int l2), (3, .int l3), (4, .int l4), (5, .int (mm.1 162 ((120 : Int32) + ((3 : Int32) * l4)).toNatClampNeg)), (6, .int (mm.1 162 (((120 : Int32) + ((3 : Int32) * l4)) + (1 : Int32)).toNatClampNeg))]) dX12_goneBeside_44 (Nat.le_of_ble_eq_true rfl) rfl ?_
    refine g_iload (pc := 46) (x := (mm.1 162 (((120 : Int32) + ((3 : Int32) * l4)) + (1 : Int32)).toNatClampNeg)) dX12_goneBeside_46 rfl ?_
    refine g_if_ge (pc := 48) (tgt := 54) dX12_goneBeside_48 (by decide) (fun c48 => ?_) (fun c48 => ?_)
    · have h := h.1 c48
      refine g_iload (pc := 54) (x := (mm.1 162 ((120 : Int32) + ((3 : Int32) * l4)).toNatClampNeg)) dX12_goneBeside_54 rfl ?_
      refine g_iload_n (pc := 56) (x := l1) dX12_goneBeside_56 rfl ?_
      refine g_icmp_ne (pc := 57) (tgt := 67) dX12_goneBeside_57 (by decide) (fun c57 => ?_) (fun c57 => ?_)
      · have h := h.1 c57
        refine g_iload (pc := 67) (x := (mm.1 162 (((120 : Int32) + ((3 : Int32) * l4)) + (1 : Int32)).toNatClampNeg)) dX12_goneBeside_67 rfl ?_
        refine g_iload_n (pc := 69) (x := l1) dX12_goneBeside_69 rfl ?_
        refine g_icmp_ne (pc := 70) (tgt := 80) dX12_goneBeside_70 (by decide) (fun c70 => ?_) (fun c70 => ?_)
        · have h := h.1 c70
          refine g_iinc (pc := 80) (x := l4) (v := (l4 + (1 : Int32))) (L' := [(0, .ref 156), (1, .int l1), (2, .int l2), (3, .int l3), (4, .int (l4 + (1 : Int32))), (5, .int (mm.1 162 ((120 : Int32) + ((3 : Int32) * l4)).toNatClampNeg)), (6, .int (mm.1 162 (((120 : Int32) + ((3 : Int32) * l4)) + (1 : Int32)).toNatClampNeg))]) dX12_goneBeside_80 rfl rfl (Nat.le_of_ble_eq_true rfl) rfl ?_
          refine g_goto (pc := 83) (tgt := 5) dX12_goneBeside_83 (by decide) ?_
          refine g_sub (L' := [(0, .ref 156), (1, .int l1), (2, .int l2), (3, .int l3), (4, .int (l4 + (1 : Int32)))]) [0, 1, 2, 3, 4] rfl ?_
          exact h
        · have h := h.2 c70
          refine g_iload_n (pc := 73) (x := l3) dX12_goneBeside_73 rfl ?_
          refine g_iconst (pc := 74) (v := (1 : Int32)) dX12_goneBeside_74 (by decide) ?_
          refine g_iload (pc := 75) (x := (mm.1 162 ((120 : Int32) + ((3 : Int32) * l4)).toNatClampNeg)) dX12_goneBeside_75 rfl ?_
          refine g_ishl (pc := 77) dX12_goneBeside_77 ?_
          refine g_ior (pc := 78) dX12_goneBeside_78 ?_
          refine g_istore_n (pc := 79) (L' := [(0, .ref 156), (1, .int l1), (2, .int l2), (3, .int (l3 ||| ((1 : Int32) <<< ((mm.1 162 ((120 : Int32) + ((3 : Int32) * l4)).toNatClampNeg) &&& 31)))), (4, .int l4), (5, .int (mm.1 162 ((120 : Int32) + ((3 : Int32) * l4)).toNatClampNeg)), (6, .int (mm.1 162 (((120 : Int32) + ((3 : Int32) * l4)) + (1 : Int32)).toNatClampNeg))]) dX12_goneBeside_79 (Nat.le_of_ble_eq_true rfl) rfl ?_
          refine g_iinc (pc := 80) (x := l4) (v := (l4 + (1 : Int32))) (L' := [(0, .ref 156), (1, .int l1), (2, .int l2), (3, .int (l3 ||| ((1 : Int32) <<< ((mm.1 162 ((120 : Int32) + ((3 : Int32) * l4)).toNatClampNeg) &&& 31)))), (4, .int (l4 + (1 : Int32))), (5, .int (mm.1 162 ((120 : Int32) + ((3 : Int32) * l4)).toNatClampNeg)), (6, .int (mm.1 162 (((120 : Int32) + ((3 : Int32) * l4)) + (1 : Int32)).toNatClampNeg))]) dX12_goneBeside_80 rfl rfl (Nat.le_of_ble_eq_true rfl) rfl ?_
          refine g_goto (pc := 83) (tgt := 5) dX12_goneBeside_83 (by decide) ?_
          refine g_sub (L' := [(0, .ref 156), (1, .int l1), (2, .int l2), (3, .int (l3 ||| ((1 : Int32) <<< ((mm.1 162 ((120 : Int32) + ((3 : Int32) * l4)).toNatClampNeg) &&& 31)))), (4, .int (l4 + (1 : Int32)))]) [0, 1, 2, 3, 4] rfl ?_
          exact h
      · have h := h.2 c57
        refine g_iload_n (pc := 60) (x := l3) dX12_goneBeside_60 rfl ?_
        refine g_iconst (pc := 61) (v := (1 : Int32)) dX12_goneBeside_61 (by decide) ?_
        refine g_iload (pc := 62) (x := (mm.1 162 (((120 : Int32) + ((3 : Int32) * l4)) + (1 : Int32)).toNatClampNeg)) dX12_goneBeside_62 rfl ?_
        refine g_ishl (pc := 64) dX12_goneBeside_64 ?_
        refine g_ior (pc := 65) dX12_goneBeside_65 ?_
        refine g_istore_n (pc := 66) (L' := [(0, .ref 156), (1, .int l1), (2, .int l2), (3, .int (l3 ||| ((1 : Int32) <<< ((mm.1 162 (((120 : Int32) + ((3 : Int32) * l4)) + (1 : Int32)).toNatClampNeg) &&& 31)))), (4, .int l4), (5, .int (mm.1 162 ((120 : Int32) + ((3 : Int32) * l4)).toNatClampNeg)), (6, .int (mm.1 162 (((120 : Int32) + ((3 : Int32) * l4)) + (1 : Int32)).toNatClampNeg))]) dX12_goneBeside_66 (Nat.le_of_ble_eq_true rfl) rfl ?_
        refine g_iload (pc := 67) (x := (mm.1 162 (((120 : Int32) + ((3 : Int32) * l4)) + (1 : Int32)).toNatClampNeg)) dX12_goneBeside_67 rfl ?_
        refine g_iload_n (pc := 69) (x := l1) dX12_goneBeside_69 rfl ?_
        refine g_icmp_ne (pc := 70) (tgt := 80) dX12_goneBeside_70 (by decide) (fun c70 => ?_) (fun c70 => ?_)
        · have h := h.1 c70
          refine g_iinc (pc := 80) (x := l4) (v := (l4 + (1 : Int32))) (L' := [(0, .ref 156), (1, .int l1), (2, .int l2), (3, .int (l3 ||| ((1 : Int32) <<< ((mm.1 162 (((120 : Int32) + ((3 : Int32) * l4)) + (1 : Int32)).toNatClampNeg) &&& 31)))), (4, .int (l4 + (1 : Int32))), (5, .int (mm.1 162 ((120 : Int32) + ((3 : Int32) * l4)).toNatClampNeg)), (6, .int (mm.1 162 (((120 : Int32) + ((3 : Int32) * l4)) + (1 : Int32)).toNatClampNeg))]) dX12_goneBeside_80 rfl rfl (Nat.le_of_ble_eq_true rfl) rfl ?_
          refine g_goto (pc := 83) (tgt := 5) dX12_goneBeside_83 (by decide) ?_
          refine g_sub (L' := [(0, .ref 156), (1, .int l1), (2, .int l2), (3, .int (l3 ||| ((1 : Int32) <<< ((mm.1 162 (((120 : Int32) + ((3 : Int32) * l4)) + (1 : Int32)).toNatClampNeg) &&& 31)))), (4, .int (l4 + (1 : Int32)))]) [0, 1, 2, 3, 4] rfl ?_
          exact h
        · have h := h.2 c70
          refine g_iload_n (pc := 73) (x := (l3 ||| ((1 : Int32) <<< ((mm.1 162 (((120 : Int32) + ((3 : Int32) * l4)) + (1 : Int32)).toNatClampNeg) &&& 31)))) dX12_goneBeside_73 rfl ?_
          refine g_iconst (pc := 74) (v := (1 : Int32)) dX12_goneBeside_74 (by decide) ?_
          refine g_iload (pc := 75) (x := (mm.1 162 ((120 : Int32) + ((3 : Int32) * l4)).toNatClampNeg)) dX12_goneBeside_75 rfl ?_
          refine g_ishl (pc := 77) dX12_goneBeside_77 ?_
          refine g_ior (pc := 78) dX12_goneBeside_78 ?_
          refine g_istore_n (pc := 79) (L' := [(0, .ref 156), (1, .int l1), (2, .int l2), (3, .int ((l3 ||| ((1 : Int32) <<< ((mm.1 162 (((120 : Int32) + ((3 : Int32) * l4)) + (1 : Int32)).toNatClampNeg) &&& 31))) ||| ((1 : Int32) <<< ((mm.1 162 ((120 : Int32) + ((3 : Int32) * l4)).toNatClampNeg) &&& 31)))), (4, .int l4), (5, .int (mm.1 162 ((120 : Int32) + ((3 : Int32) * l4)).toNatClampNeg)), (6, .int (mm.1 162 (((120 : Int32) + ((3 : Int32) * l4)) + (1 : Int32)).toNatClampNeg))]) dX12_goneBeside_79 (Nat.le_of_ble_eq_true rfl) rfl ?_
          refine g_iinc (pc := 80) (x := l4) (v := (l4 + (1 : Int32))) (L' := [(0, .ref 156), (1, .int l1), (2, .int l2), (3, .int ((l3 ||| ((1 : Int32) <<< ((mm.1 162 (((120 : Int32) + ((3 : Int32) * l4)) + (1 : Int32)).toNatClampNeg) &&& 31))) ||| ((1 : Int32) <<< ((mm.1 162 ((120 : Int32) + ((3 : Int32) * l4)).toNatClampNeg) &&& 31)))), (4, .int (l4 + (1 : Int32))), (5, .int (mm.1 162 ((120 : Int32) + ((3 : Int32) * l4)).toNatClampNeg)), (6, .int (mm.1 162 (((120 : Int32) + ((3 : Int32) * l4)) + (1 : Int32)).toNatClampNeg))]) dX12_goneBeside_80 rfl rfl (Nat.le_of_ble_eq_true rfl) rfl ?_
          refine g_goto (pc := 83) (tgt := 5) dX12_goneBeside_83 (by decide) ?_
          refine g_sub (L' := [(0, .ref 156), (1, .int l1), (2, .int l2), (3, .int ((l3 ||| ((1 : Int32) <<< ((mm.1 162 (((120 : Int32) + ((3 : Int32) * l4)) + (1 : Int32)).toNatClampNeg) &&& 31))) ||| ((1 : Int32) <<< ((mm.1 162 ((120 : Int32) + ((3 : Int32) * l4)).toNatClampNeg) &&& 31)))), (4, .int (l4 + (1 : Int32)))]) [0, 1, 2, 3, 4] rfl ?_
          exact h
    · have h := h.2 c48
      refine g_goto (pc := 51) (tgt := 80) dX12_goneBeside_51 (by decide) ?_
      refine g_iinc (pc := 80) (x := l4) (v := (l4 + (1 : Int32))) (L' := [(0, .ref 156), (1, .int l1), (2, .int l2), (3, .int l3), (4, .int (l4 + (1 : Int32))), (5, .int (mm.1 162 ((120 : Int32) + ((3 : Int32) * l4)).toNatClampNeg)), (6, .int (mm.1 162 (((120 : Int32) + ((3 : Int32) * l4)) + (1 : Int32)).toNatClampNeg))]) dX12_goneBeside_80 rfl rfl (Nat.le_of_ble_eq_true rfl) rfl ?_
      refine g_goto (pc := 83) (tgt := 5) dX12_goneBeside_83 (by decide) ?_
      refine g_sub (L' := [(0, .ref 156), (1, .int l1), (2, .int l2), (3, .int l3), (4, .int (l4 + (1 : Int32)))]) [0, 1, 2, 3, 4] rfl ?_
      exact h
theorem dX12_isFalling_0 : decode cX12_isFalling 0 = .ok (.aload_n 0, 1) := by decide +kernel
theorem dX12_isFalling_1 : decode cX12_isFalling 1 = .ok (.iload_n 1, 1) := by decide +kernel
theorem dX12_isFalling_2 : decode cX12_isFalling 2 = .ok (.iload_n 2, 1) := by decide +kernel
theorem dX12_isFalling_3 : decode cX12_isFalling 3 = .ok (.invokevirtual 425, 3) := by decide +kernel
theorem dX12_isFalling_6 : decode cX12_isFalling 6 = .ok (.istore 4, 2) := by decide +kernel
theorem dX12_isFalling_8 : decode cX12_isFalling 8 = .ok (.aload_n 0, 1) := by decide +kernel
theorem dX12_isFalling_9 : decode cX12_isFalling 9 = .ok (.iload_n 1, 1) := by decide +kernel
theorem dX12_isFalling_10 : decode cX12_isFalling 10 = .ok (.iload_n 2, 1) := by decide +kernel
theorem dX12_isFalling_11 : decode cX12_isFalling 11 = .ok (.invokevirtual 419, 3) := by decide +kernel
theorem dX12_isFalling_14 : decode cX12_isFalling 14 = .ok (.aload_n 0, 1) := by decide +kernel
theorem dX12_isFalling_15 : decode cX12_isFalling 15 = .ok (.getfield 82, 3) := by decide +kernel
theorem dX12_isFalling_18 : decode cX12_isFalling 18 = .ok (.bipush 7, 2) := by decide +kernel
theorem dX12_isFalling_20 : decode cX12_isFalling 20 = .ok (.aload_n 0, 1) := by decide +kernel
theorem dX12_isFalling_21 : decode cX12_isFalling 21 = .ok (.iload_n 1, 1) := by decide +kernel
theorem dX12_isFalling_22 : decode cX12_isFalling 22 = .ok (.iload_n 3, 1) := by decide +kernel
theorem dX12_isFalling_23 : decode cX12_isFalling 23 = .ok (.invokevirtual 484, 3) := by decide +kernel
theorem dX12_isFalling_26 : decode cX12_isFalling 26 = .ok (.iastore, 1) := by decide +kernel
theorem dX12_isFalling_27 : decode cX12_isFalling 27 = .ok (.aload_n 0, 1) := by decide +kernel
theorem dX12_isFalling_28 : decode cX12_isFalling 28 = .ok (.getfield 82, 3) := by decide +kernel
theorem dX12_isFalling_31 : decode cX12_isFalling 31 = .ok (.bipush 8, 2) := by decide +kernel
theorem dX12_isFalling_33 : decode cX12_isFalling 33 = .ok (.iload 4, 2) := by decide +kernel
theorem dX12_isFalling_35 : decode cX12_isFalling 35 = .ok (.iastore, 1) := by decide +kernel
theorem dX12_isFalling_36 : decode cX12_isFalling 36 = .ok (.aload_n 0, 1) := by decide +kernel
theorem dX12_isFalling_37 : decode cX12_isFalling 37 = .ok (.bipush 8, 2) := by decide +kernel
theorem dX12_isFalling_39 : decode cX12_isFalling 39 = .ok (.sipush 190, 3) := by decide +kernel
theorem dX12_isFalling_42 : decode cX12_isFalling 42 = .ok (.invokevirtual 428, 3) := by decide +kernel
theorem dX12_isFalling_45 : decode cX12_isFalling 45 = .ok (.ireturn, 1) := by decide +kernel
theorem b_X12_isFalling (mm : MM) (Q : Value → MM → Prop) (a1 : Int32) (a2 : Int32) (a3 : Int32) (h : ∃ Pm1 : Value → MM → Prop, Runs e_X12_swayOf [.ref 156, .int a1, .int a2] mm Pm1 ∧ ∀ (r1 : Int32) (m1 : MM), Pm1 (.int r1) m1 → (∃ Pm2 : Value → MM → Prop, Runs e_X12_look [.ref 156, .int a1, .int a2] m1 Pm2 ∧ ∀ m2, Pm2 .null m2 → (∃ Pm3 : Value → MM → Prop, Runs e_X12_goneBeside [.ref 156, .int a1, .int a3] m2 Pm3 ∧ ∀ (r3 : Int32) (m3 : MM), Pm3 (.int r3) m3 → (∃ Pm4 : Value → MM → Prop, Runs e_X12_isRule [.ref 156, .int (8 : Int32), .int (190 : Int32)] (wI (wI m3 179 7 r3) 179 8 r1) Pm4 ∧ (∀ r m4, Pm4 r m4 → r = .int 1 ∨ r = .int 0) ∧ (∀ m4, Pm4 (.int 1) m4 → (Q (.int (1 : Int32)) m4)) ∧ (∀ m4, Pm4 (.int 0) m4 → (Q (.int (0 : Int32)) m4)))))) : Runs e_X12_isFalling [.ref 156, .int a1, .int a2, .int a3] mm Q := by
  refine runs_of_G (L := [(0, .ref 156), (1, .int a1), (2, .int a2), (3, .int a3)]) pl_X12 (Nat.le_of_ble_eq_true rfl) rfl ?_
  refine g_aload_n (pc := 0) (x := 156) dX12_isFalling_0 rfl ?_
  refine g_iload_n (pc := 1) (x := a1) dX12_isFalling_1 rfl ?_
  refine g_iload_n (pc := 2) (x := a2) dX12_isFalling_2 rfl ?_
  obtain ⟨Pm1, hRm1, h⟩ := h
  refine g_callV (pc := 3) (as := [.int a1, .int a2]) dX12_isFalling_3 cw_X12_425 (by decide) rfl rfl sh_156 (Nat.le_of_ble_eq_true rfl) hRm1 ?_
  intro r_ m1 hz_ hp_
  obtain ⟨r1, rfl⟩ := hz_
  have h := h r1 m1 hp_
  refine g_istore (pc := 6) (L' := [(0, .ref 156), (1, .int a1), (2, .int a2), (3, .int a3), (4, .int r1)]) dX12_isFalling_6 (Nat.le_of_ble_eq_true rfl) rfl ?_
  refine g_aload_n (pc := 8) (x := 156) dX12_isFalling_8 rfl ?_
  refine g_iload_n (pc := 9) (x := a1) dX12_isFalling_9 rfl ?_
  refine g_iload_n (pc := 10) (x := a2) dX12_isFalling_10 rfl ?_
  obtain ⟨Pm2, hRm2, h⟩ := h
  refine g_callV (pc := 11) (as := [.int a1, .int a2]) dX12_isFalling_11 cw_X12_419 (by decide) rfl rfl sh_156 (Nat.le_of_ble_eq_true rfl) hRm2 ?_
  intro r_ m2 hz_ hp_
  obtain rfl := hz_
  have h := h m2 hp_
  refine g_aload_n (pc := 14) (x := 156) dX12_isFalling_14 rfl ?_
  refine g_getR (pc := 15) (dd := 23) dX12_isFalling_15 fo_X12_82 sh_156 rfl ?_
  refine g_bipush (pc := 18) (v := (7 : Int32)) dX12_isFalling_18 (by decide) ?_
  refine g_aload_n (pc := 20) (x := 156) dX12_isFalling_20 rfl ?_
  refine g_iload_n (pc := 21) (x := a1) dX12_isFalling_21 rfl ?_
  refine g_iload_n (pc := 22) (x := a3) dX12_isFalling_22 rfl ?_
  obtain ⟨Pm3, hRm3, h⟩ := h
  refine g_callV (pc := 23) (as := [.int a1, .int a3]) dX12_isFalling_23 cw_X12_484 (by decide) rfl rfl sh_156 (Nat.le_of_ble_eq_true rfl) hRm3 ?_
  intro r_ m3 hz_ hp_
  obtain ⟨r3, rfl⟩ := hz_
  have h := h r3 m3 hp_
  refine g_iastore (pc := 26) dX12_isFalling_26 sh_179 (vp_in_nI (n := 7) (N := 9) (by decide) (by decide)) ?_
  refine g_aload_n (pc := 27) (x := 156) dX12_isFalling_27 rfl ?_
  refine g_getR (pc := 28) (dd := 23) dX12_isFalling_28 fo_X12_82 sh_156 rfl ?_
  refine g_bipush (pc := 31) (v := (8 : Int32)) dX12_isFalling_31 (by decide) ?_
  refine g_iload (pc := 33) (x := r1) dX12_isFalling_33 rfl ?_
  refine g_iastore (pc := 35) dX12_isFalling_35 sh_179 (vp_in_nI (n := 8) (N := 9) (by decide) (by decide)) ?_
  refine g_aload_n (pc := 36) (x := 156) dX12_isFalling_36 rfl ?_
  refine g_bipush (pc := 37) (v := (8 : Int32)) dX12_isFalling_37 (by decide) ?_
  refine g_sipush (pc := 39) (v := (190 : Int32)) dX12_isFalling_39 (by decide) ?_
  obtain ⟨Pm4, hRm4, h⟩ := h
  refine g_callV (pc := 42) (as := [.int (8 : Int32), .int (190 : Int32)]) dX12_isFalling_42 cw_X12_428 (by decide) rfl rfl sh_156 (Nat.le_of_ble_eq_true rfl) hRm4 ?_
  intro r_ m4 hz_ hp_
  rcases h.1 r_ m4 hp_ with rfl | rfl
  · have h := h.2.1 m4 hp_
    exact g_iret (pc := 45) dX12_isFalling_45 rfl rfl (nar_B isB1) h
  · have h := h.2.2 m4 hp_
    exact g_iret (pc := 45) dX12_isFalling_45 rfl rfl (nar_B isB0) h
theorem dX12_chains_0 : decode cX12_chains 0 = .ok (.iconst 0, 1) := by decide +kernel
theorem dX12_chains_1 : decode cX12_chains 1 = .ok (.istore_n 3, 1) := by decide +kernel
theorem dX12_chains_2 : decode cX12_chains 2 = .ok (.iload_n 3, 1) := by decide +kernel
theorem dX12_chains_3 : decode cX12_chains 3 = .ok (.bipush 16, 2) := by decide +kernel
theorem dX12_chains_5 : decode cX12_chains 5 = .ok (.if_icmp .ge 17, 3) := by decide +kernel
theorem dX12_chains_8 : decode cX12_chains 8 = .ok (.aload_n 0, 1) := by decide +kernel
theorem dX12_chains_9 : decode cX12_chains 9 = .ok (.getfield 109, 3) := by decide +kernel
theorem dX12_chains_12 : decode cX12_chains 12 = .ok (.iload_n 3, 1) := by decide +kernel
theorem dX12_chains_13 : decode cX12_chains 13 = .ok (.bipush (-2), 2) := by decide +kernel
theorem dX12_chains_15 : decode cX12_chains 15 = .ok (.iastore, 1) := by decide +kernel
theorem dX12_chains_16 : decode cX12_chains 16 = .ok (.iinc 3 1, 3) := by decide +kernel
theorem dX12_chains_19 : decode cX12_chains 19 = .ok (.goto (-17), 3) := by decide +kernel
theorem dX12_chains_22 : decode cX12_chains 22 = .ok (.aload_n 0, 1) := by decide +kernel
theorem dX12_chains_23 : decode cX12_chains 23 = .ok (.getfield 109, 3) := by decide +kernel
theorem dX12_chains_26 : decode cX12_chains 26 = .ok (.iload_n 1, 1) := by decide +kernel
theorem dX12_chains_27 : decode cX12_chains 27 = .ok (.iconst 0, 1) := by decide +kernel
theorem dX12_chains_28 : decode cX12_chains 28 = .ok (.iastore, 1) := by decide +kernel
theorem dX12_chains_29 : decode cX12_chains 29 = .ok (.aload_n 0, 1) := by decide +kernel
theorem dX12_chains_30 : decode cX12_chains 30 = .ok (.iconst 1, 1) := by decide +kernel
theorem dX12_chains_31 : decode cX12_chains 31 = .ok (.iload_n 1, 1) := by decide +kernel
theorem dX12_chains_32 : decode cX12_chains 32 = .ok (.ishl, 1) := by decide +kernel
theorem dX12_chains_33 : decode cX12_chains 33 = .ok (.putfield 487, 3) := by decide +kernel
theorem dX12_chains_36 : decode cX12_chains 36 = .ok (.aload_n 0, 1) := by decide +kernel
theorem dX12_chains_37 : decode cX12_chains 37 = .ok (.iconst 0, 1) := by decide +kernel
theorem dX12_chains_38 : decode cX12_chains 38 = .ok (.putfield 490, 3) := by decide +kernel
theorem dX12_chains_41 : decode cX12_chains 41 = .ok (.iconst 1, 1) := by decide +kernel
theorem dX12_chains_42 : decode cX12_chains 42 = .ok (.istore_n 3, 1) := by decide +kernel
theorem dX12_chains_43 : decode cX12_chains 43 = .ok (.iconst 1, 1) := by decide +kernel
theorem dX12_chains_44 : decode cX12_chains 44 = .ok (.istore 4, 2) := by decide +kernel
theorem dX12_chains_46 : decode cX12_chains 46 = .ok (.iload_n 3, 1) := by decide +kernel
theorem dX12_chains_47 : decode cX12_chains 47 = .ok (.ifCond .eq 112, 3) := by decide +kernel
theorem dX12_chains_50 : decode cX12_chains 50 = .ok (.iconst 0, 1) := by decide +kernel
theorem dX12_chains_51 : decode cX12_chains 51 = .ok (.istore 5, 2) := by decide +kernel
theorem dX12_chains_53 : decode cX12_chains 53 = .ok (.iconst 0, 1) := by decide +kernel
theorem dX12_chains_54 : decode cX12_chains 54 = .ok (.istore 6, 2) := by decide +kernel
theorem dX12_chains_56 : decode cX12_chains 56 = .ok (.iload 6, 2) := by decide +kernel
theorem dX12_chains_58 : decode cX12_chains 58 = .ok (.aload_n 0, 1) := by decide +kernel
theorem dX12_chains_59 : decode cX12_chains 59 = .ok (.getfield 30, 3) := by decide +kernel
theorem dX12_chains_62 : decode cX12_chains 62 = .ok (.iconst 0, 1) := by decide +kernel
theorem dX12_chains_63 : decode cX12_chains 63 = .ok (.iaload, 1) := by decide +kernel
theorem dX12_chains_64 : decode cX12_chains 64 = .ok (.if_icmp .ge 57, 3) := by decide +kernel
theorem dX12_chains_67 : decode cX12_chains 67 = .ok (.aload_n 0, 1) := by decide +kernel
theorem dX12_chains_68 : decode cX12_chains 68 = .ok (.getfield 487, 3) := by decide +kernel
theorem dX12_chains_71 : decode cX12_chains 71 = .ok (.iload 6, 2) := by decide +kernel
theorem dX12_chains_73 : decode cX12_chains 73 = .ok (.ishr, 1) := by decide +kernel
theorem dX12_chains_74 : decode cX12_chains 74 = .ok (.iconst 1, 1) := by decide +kernel
theorem dX12_chains_75 : decode cX12_chains 75 = .ok (.iand, 1) := by decide +kernel
theorem dX12_chains_76 : decode cX12_chains 76 = .ok (.iconst 1, 1) := by decide +kernel
theorem dX12_chains_77 : decode cX12_chains 77 = .ok (.if_icmp .eq 38, 3) := by decide +kernel
theorem dX12_chains_80 : decode cX12_chains 80 = .ok (.aload_n 0, 1) := by decide +kernel
theorem dX12_chains_81 : decode cX12_chains 81 = .ok (.iload 6, 2) := by decide +kernel
theorem dX12_chains_83 : decode cX12_chains 83 = .ok (.iload_n 2, 1) := by decide +kernel
theorem dX12_chains_84 : decode cX12_chains 84 = .ok (.aload_n 0, 1) := by decide +kernel
theorem dX12_chains_85 : decode cX12_chains 85 = .ok (.getfield 487, 3) := by decide +kernel
theorem dX12_chains_88 : decode cX12_chains 88 = .ok (.invokevirtual 493, 3) := by decide +kernel
theorem dX12_chains_91 : decode cX12_chains 91 = .ok (.ifCond .ne 6, 3) := by decide +kernel
theorem dX12_chains_94 : decode cX12_chains 94 = .ok (.goto 21, 3) := by decide +kernel
theorem dX12_chains_97 : decode cX12_chains 97 = .ok (.iload 5, 2) := by decide +kernel
theorem dX12_chains_99 : decode cX12_chains 99 = .ok (.iconst 1, 1) := by decide +kernel
theorem dX12_chains_100 : decode cX12_chains 100 = .ok (.iload 6, 2) := by decide +kernel
theorem dX12_chains_102 : decode cX12_chains 102 = .ok (.ishl, 1) := by decide +kernel
theorem dX12_chains_103 : decode cX12_chains 103 = .ok (.ior, 1) := by decide +kernel
theorem dX12_chains_104 : decode cX12_chains 104 = .ok (.istore 5, 2) := by decide +kernel
theorem dX12_chains_106 : decode cX12_chains 106 = .ok (.aload_n 0, 1) := by decide +kernel
theorem dX12_chains_107 : decode cX12_chains 107 = .ok (.getfield 109, 3) := by decide +kernel
theorem dX12_chains_110 : decode cX12_chains 110 = .ok (.iload 6, 2) := by decide +kernel
theorem dX12_chains_112 : decode cX12_chains 112 = .ok (.iload 4, 2) := by decide +kernel
theorem dX12_chains_114 : decode cX12_chains 114 = .ok (.iastore, 1) := by decide +kernel
theorem dX12_chains_115 : decode cX12_chains 115 = .ok (.iinc 6 1, 3) := by decide +kernel
theorem dX12_chains_118 : decode cX12_chains 118 = .ok (.goto (-62), 3) := by decide +kernel
theorem dX12_chains_121 : decode cX12_chains 121 = .ok (.iload 5, 2) := by decide +kernel
theorem dX12_chains_123 : decode cX12_chains 123 = .ok (.ifCond .eq 7, 3) := by decide +kernel
theorem dX12_chains_126 : decode cX12_chains 126 = .ok (.iconst 1, 1) := by decide +kernel
theorem dX12_chains_127 : decode cX12_chains 127 = .ok (.goto 4, 3) := by decide +kernel
theorem dX12_chains_130 : decode cX12_chains 130 = .ok (.iconst 0, 1) := by decide +kernel
theorem dX12_chains_131 : decode cX12_chains 131 = .ok (.istore_n 3, 1) := by decide +kernel
theorem dX12_chains_132 : decode cX12_chains 132 = .ok (.iload_n 3, 1) := by decide +kernel
theorem dX12_chains_133 : decode cX12_chains 133 = .ok (.ifCond .eq 9, 3) := by decide +kernel
theorem dX12_chains_136 : decode cX12_chains 136 = .ok (.aload_n 0, 1) := by decide +kernel
theorem dX12_chains_137 : decode cX12_chains 137 = .ok (.iload 4, 2) := by decide +kernel
theorem dX12_chains_139 : decode cX12_chains 139 = .ok (.putfield 490, 3) := by decide +kernel
theorem dX12_chains_142 : decode cX12_chains 142 = .ok (.aload_n 0, 1) := by decide +kernel
theorem dX12_chains_143 : decode cX12_chains 143 = .ok (.dup, 1) := by decide +kernel
theorem dX12_chains_144 : decode cX12_chains 144 = .ok (.getfield 487, 3) := by decide +kernel
theorem dX12_chains_147 : decode cX12_chains 147 = .ok (.iload 5, 2) := by decide +kernel
theorem dX12_chains_149 : decode cX12_chains 149 = .ok (.ior, 1) := by decide +kernel
theorem dX12_chains_150 : decode cX12_chains 150 = .ok (.putfield 487, 3) := by decide +kernel
theorem dX12_chains_153 : decode cX12_chains 153 = .ok (.iinc 4 1, 3) := by decide +kernel
theorem dX12_chains_156 : decode cX12_chains 156 = .ok (.goto (-110), 3) := by decide +kernel
theorem dX12_chains_159 : decode cX12_chains 159 = .ok (.return_, 1) := by decide +kernel
theorem b_X12_chains (mm : MM) (Q : Value → MM → Prop) (a1 : Int32) (a2 : Int32) (h : G e_X12_chains 2 [(0, .ref 156), (1, .int a1), (2, .int a2), (3, .int (0 : Int32))] [] mm Q) : Runs e_X12_chains [.ref 156, .int a1, .int a2] mm Q := by
  refine runs_of_G (L := [(0, .ref 156), (1, .int a1), (2, .int a2)]) pl_X12 (Nat.le_of_ble_eq_true rfl) rfl ?_
  refine g_iconst (pc := 0) (v := (0 : Int32)) dX12_chains_0 (by decide) ?_
  refine g_istore_n (pc := 1) (L' := [(0, .ref 156), (1, .int a1), (2, .int a2), (3, .int (0 : Int32))]) dX12_chains_1 (Nat.le_of_ble_eq_true rfl) rfl ?_
  exact h
theorem b_X12_chains_2 (mm : MM) (Q : Value → MM → Prop) (l1 : Int32) (l2 : Int32) (l3 : Int32) (h : ((16 : Int32) ≤ l3 → (vp_in l1 16 ∧ (G e_X12_chains 46 [(0, .ref 156), (2, .int l2), (3, .int (1 : Int32)), (4, .int (1 : Int32))] [] (wI (wI (wI mm 188 (l1.toNatClampNeg) (0 : Int32)) 156 48 ((1 : Int32) <<< (l1 &&& 31))) 156 49 (0 : Int32)) Q))) ∧ (¬ (16 : Int32) ≤ l3 → (vp_in l3 16 ∧ (G e_X12_chains 2 [(0, .ref 156), (1, .int l1), (2, .int l2), (3, .int (l3 + (1 : Int32)))] [] (wI mm 188 (l3.toNatClampNeg) (-2 : Int32)) Q)))) : G e_X12_chains 2 [(0, .ref 156), (1, .int l1), (2, .int l2), (3, .int l3)] [] mm Q := by
  refine g_iload_n (pc := 2) (x := l3) dX12_chains_2 rfl ?_
  refine g_bipush (pc := 3) (v := (16 : Int32)) dX12_chains_3 (by decide) ?_
  refine g_icmp_ge (pc := 5) (tgt := 22) dX12_chains_5 (by decide) (fun c5 => ?_) (fun c5 => ?_)
  · have h := h.1 c5
    refine g_aload_n (pc := 22) (x := 156) dX12_chains_22 rfl ?_
    refine g_getR (pc := 23) (dd := 32) dX12_chains_23 fo_X12_109 sh_156 rfl ?_
    refine g_iload_n (pc := 26) (x := l1) dX12_chains_26 rfl ?_
    refine g_iconst (pc := 27) (v := (0 : Int32)) dX12_chains_27 (by decide) ?_
    refine g_iastore (pc := 28) dX12_chains_28 sh_188 h.1 ?_
    have h := h.2
    refine g_aload_n (pc := 29) (x := 156) dX12_chains_29 rfl ?_
    refine g_iconst (pc := 30) (v := (1 : Int32)) dX12_chains_30 (by decide) ?_
    refine g_iload_n (pc := 31) (x := l1) dX12_chains_31 rfl ?_
    refine g_ishl (pc := 32) dX12_chains_32 ?_
    refine g_putI (pc := 33) dX12_chains_33 fo_X12_487 sh_156 rfl rfl rfl ?_
    refine g_aload_n (pc := 36) (x := 156) dX12_chains_36 rfl ?_
    refine g_iconst (pc := 37) (v := (0 : Int32)) dX12_chains_37 (by decide) ?_
    refine g_putI (pc := 38) dX12_chains_38 fo_X12_490 sh_156 rfl rfl rfl ?_
    refine g_iconst (pc := 41) (v := (1 : Int32)) dX12_chains_41 (by decide) ?_
    refine g_istore_n (pc := 42) (L' := [(0, .ref 156), (1, .int l1), (2, .int l2), (3, .int (1 : Int32))]) dX12_chains_42 (Nat.le_of_ble_eq_true rfl) rfl ?_
    refine g_iconst (pc := 43) (v := (1 : Int32)) dX12_chains_43 (by decide) ?_
    refine g_istore (pc := 44) (L' := [(0, .ref 156), (1, .int l1), (2, .int l2), (3, .int (1 : Int32)), (4, .int (1 : Int32))]) dX12_chains_44 (Nat.le_of_ble_eq_true rfl) rfl ?_
    refine g_sub (L' := [(0, .ref 156), (2, .int l2), (3, .int (1 : Int32)), (4, .int (1 : Int32))]) [0, 2, 3, 4] rfl ?_
    exact h
  · have h := h.2 c5
    refine g_aload_n (pc := 8) (x := 156) dX12_chains_8 rfl ?_
    refine g_getR (pc := 9) (dd := 32) dX12_chains_9 fo_X12_109 sh_156 rfl ?_
    refine g_iload_n (pc := 12) (x := l3) dX12_chains_12 rfl ?_
    refine g_bipush (pc := 13) (v := (-2 : Int32)) dX12_chains_13 (by decide) ?_
    refine g_iastore (pc := 15) dX12_chains_15 sh_188 h.1 ?_
    have h := h.2
    refine g_iinc (pc := 16) (x := l3) (v := (l3 + (1 : Int32))) (L' := [(0, .ref 156), (1, .int l1), (2, .int l2), (3, .int (l3 + (1 : Int32)))]) dX12_chains_16 rfl rfl (Nat.le_of_ble_eq_true rfl) rfl ?_
    refine g_goto (pc := 19) (tgt := 2) dX12_chains_19 (by decide) ?_
    exact h
theorem b_X12_chains_46 (mm : MM) (Q : Value → MM → Prop) (l2 : Int32) (l3 : Int32) (l4 : Int32) (h : (l3 = 0 → (Q .null mm)) ∧ (¬ l3 = 0 → (G e_X12_chains 56 [(0, .ref 156), (2, .int l2), (4, .int l4), (5, .int (0 : Int32)), (6, .int (0 : Int32))] [] mm Q))) : G e_X12_chains 46 [(0, .ref 156), (2, .int l2), (3, .int l3), (4, .int l4)] [] mm Q := by
  refine g_iload_n (pc := 46) (x := l3) dX12_chains_46 rfl ?_
  refine g_if_eq (pc := 47) (tgt := 159) dX12_chains_47 (by decide) (fun c47 => ?_) (fun c47 => ?_)
  · have h := h.1 c47
    exact g_vret (pc := 159) dX12_chains_159 rfl rfl h
  · have h := h.2 c47
    refine g_iconst (pc := 50) (v := (0 : Int32)) dX12_chains_50 (by decide) ?_
    refine g_istore (pc := 51) (L' := [(0, .ref 156), (2, .int l2), (3, .int l3), (4, .int l4), (5, .int (0 : Int32))]) dX12_chains_51 (Nat.le_of_ble_eq_true rfl) rfl ?_
    refine g_iconst (pc := 53) (v := (0 : Int32)) dX12_chains_53 (by decide) ?_
    refine g_istore (pc := 54) (L' := [(0, .ref 156), (2, .int l2), (3, .int l3), (4, .int l4), (5, .int (0 : Int32)), (6, .int (0 : Int32))]) dX12_chains_54 (Nat.le_of_ble_eq_true rfl) rfl ?_
    refine g_sub (L' := [(0, .ref 156), (2, .int l2), (4, .int l4), (5, .int (0 : Int32)), (6, .int (0 : Int32))]) [0, 1, 3, 4, 5] rfl ?_
    exact h
theorem b_X12_chains_56 (mm : MM) (Q : Value → MM → Prop) (l2 : Int32) (l4 : Int32) (l5 : Int32) (l6 : Int32) (h : ((mm.1 162 0) ≤ l6 → ((l5 = 0 → (G e_X12_chains 46 [(0, .ref 156), (2, .int l2), (3, .int (0 : Int32)), (4, .int (l4 + (1 : Int32)))] [] (wI mm 156 48 ((mm.1 156 48) ||| l5)) Q)) ∧ (¬ l5 = 0 → (G e_X12_chains 46 [(0, .ref 156), (2, .int l2), (3, .int (1 : Int32)), (4, .int (l4 + (1 : Int32)))] [] (wI (wI mm 156 49 l4) 156 48 (((wI mm 156 49 l4).1 156 48) ||| l5)) Q)))) ∧ (¬ (mm.1 162 0) ≤ l6 → (((((mm.1 156 48) >>> (l6 &&& 31)) &&& (1 : Int32)) = (1 : Int32) → (G e_X12_chains 56 [(0, .ref 156), (2, .int l2), (4, .int l4), (5, .int l5), (6, .int (l6 + (1 : Int32)))] [] mm Q)) ∧ (¬ (((mm.1 156 48) >>> (l6 &&& 31)) &&& (1 : Int32)) = (1 : Int32) → (∃ Pm1 : Value → MM → Prop, Runs e_X12_isFalling [.ref 156, .int l6, .int l2, .int (mm.1 156 48)] mm Pm1 ∧ (∀ r m1, Pm1 r m1 → r = .int 1 ∨ r = .int 0) ∧ (∀ m1, Pm1 (.int 1) m1 → (vp_in l6 16 ∧ (G e_X12_chains 56 [(0, .ref 156), (2, .int l2), (4, .int l4), (5, .int (l5 ||| ((1 : Int32) <<< (l6 &&& 31)))), (6, .int (l6 + (1 : Int32)))] [] (wI m1 188 (l6.toNatClampNeg) l4) Q))) ∧ (∀ m1, Pm1 (.int 0) m1 → (G e_X12_chains 56 [(0, .ref 156), (2, .int l2), (4, .int l4), (5, .int l5), (6, .int (l6 + (1 : Int32)))] [] m1 Q))))))) : G e_X12_chains 56 [(0, .ref 156), (2, .int l2), (4, .int l4), (5, .int l5), (6, .int l6)] [] mm Q := by
  refine g_iload (pc := 56) (x := l6) dX12_chains_56 rfl ?_
  refine g_aload_n (pc := 58) (x := 156) dX12_chains_58 rfl ?_
  refine g_getR (pc := 59) (dd := 6) dX12_chains_59 fo_X12_30 sh_156 rfl ?_
  refine g_iconst (pc := 62) (v := (0 : Int32)) dX12_chains_62 (by decide) ?_
  refine g_iaload (pc := 63) dX12_chains_63 sh_162 (vp_in_nI (n := 0) (N := 420) (by decide) (by decide)) ?_
  refine g_icmp_ge (pc := 64) (tgt := 121) dX12_chains_64 (by decide) (fun c64 => ?_) (fun c64 => ?_)
  · have h := h.1 c64
    refine g_iload (pc := 121) (x := l5) dX12_chains_121 rfl ?_
    refine g_if_eq (pc := 123) (tgt := 130) dX12_chains_123 (by decide) (fun c123 => ?_) (fun c123 => ?_)
    · have h := h.1 c123
      refine g_iconst (pc := 130) (v := (0 : Int32)) dX12_chains_130 (by decide) ?_
      refine g_istore_n (pc := 131) (L' := [(0, .ref 156), (2, .int l2), (4, .int l4), (5, .int l5), (6, .int l6), (3, .int (0 : Int32))]) dX12_chains_131 (Nat.le_of_ble_eq_true rfl) rfl ?_
      refine g_iload_n (pc := 132) (x := (0 : Int32)) dX12_chains_132 rfl ?_
      refine g_if_eq (pc := 133) (tgt := 142) dX12_chains_133 (by decide) (fun _ => ?_) (fun c133 => absurd c133 (by decide))
      refine g_aload_n (pc := 142) (x := 156) dX12_chains_142 rfl ?_
      refine g_dup (pc := 143) dX12_chains_143 rfl ?_
      refine g_getI (pc := 144) dX12_chains_144 fo_X12_487 sh_156 rfl ?_
      refine g_iload (pc := 147) (x := l5) dX12_chains_147 rfl ?_
      refine g_ior (pc := 149) dX12_chains_149 ?_
      refine g_putI (pc := 150) dX12_chains_150 fo_X12_487 sh_156 rfl rfl rfl ?_
      refine g_iinc (pc := 153) (x := l4) (v := (l4 + (1 : Int32))) (L' := [(0, .ref 156), (2, .int l2), (4, .int (l4 + (1 : Int32))), (5, .int l5), (6, .int l6), (3, .int (0 : Int32))]) dX12_chains_153 rfl rfl (Nat.le_of_ble_eq_true rfl) rfl ?_
      refine g_goto (pc := 156) (tgt := 46) dX12_chains_156 (by decide) ?_
      refine g_sub (L' := [(0, .ref 156), (2, .int l2), (3, .int (0 : Int32)), (4, .int (l4 + (1 : Int32)))]) [0, 1, 5, 2] rfl ?_
      exact h
    · have h := h.2 c123
      refine g_iconst (pc := 126) (v := (1 : Int32)) dX12_chains_126 (by decide) ?_
      refine g_goto (pc := 127) (tgt := 131) dX12_chains_127 (by decide) ?_
      refine g_istore_n (pc := 131) (L' := [(0, .ref 156), (2, .int l2), (4, .int l4), (5, .int l5), (6, .int l6), (3, .int (1 : Int32))]) dX12_chains_131 (Nat.le_of_ble_eq_true rfl) rfl ?_
      refine g_iload_n (pc := 132) (x := (1 : Int32)) dX12_chains_132 rfl ?_
      refine g_if_eq (pc := 133) (tgt := 142) dX12_chains_133 (by decide) (fun c133 => absurd c133 (by decide)) (fun _ => ?_)
      refine g_aload_n (pc := 136) (x := 156) dX12_chains_136 rfl ?_
      refine g_iload (pc := 137) (x := l4) dX12_chains_137 rfl ?_
      refine g_putI (pc := 139) dX12_chains_139 fo_X12_490 sh_156 rfl rfl rfl ?_
      refine g_aload_n (pc := 142) (x := 156) dX12_chains_142 rfl ?_
      refine g_dup (pc := 143) dX12_chains_143 rfl ?_
      refine g_getI (pc := 144) dX12_chains_144 fo_X12_487 sh_156 rfl ?_
      refine g_iload (pc := 147) (x := l5) dX12_chains_147 rfl ?_
      refine g_ior (pc := 149) dX12_chains_149 ?_
      refine g_putI (pc := 150) dX12_chains_150 fo_X12_487 sh_156 rfl rfl rfl ?_
      refine g_iinc (pc := 153) (x := l4) (v := (l4 + (1 : Int32))) (L' := [(0, .ref 156), (2, .int l2), (4, .int (l4 + (1 : Int32))), (5, .int l5), (6, .int l6), (3, .int (1 : Int32))]) dX12_chains_153 rfl rfl (Nat.le_of_ble_eq_true rfl) rfl ?_
      refine g_goto (pc := 156) (tgt := 46) dX12_chains_156 (by decide) ?_
      refine g_sub (L' := [(0, .ref 156), (2, .int l2), (3, .int (1 : Int32)), (4, .int (l4 + (1 : Int32)))]) [0, 1, 5, 2] rfl ?_
      exact h
  · have h := h.2 c64
    refine g_aload_n (pc := 67) (x := 156) dX12_chains_67 rfl ?_
    refine g_getI (pc := 68) dX12_chains_68 fo_X12_487 sh_156 rfl ?_
    refine g_iload (pc := 71) (x := l6) dX12_chains_71 rfl ?_
    refine g_ishr (pc := 73) dX12_chains_73 ?_
    refine g_iconst (pc := 74) (v := (1 : Int32)) dX12_chains_74 (by decide) ?_
    refine g_iand (pc := 75) dX12_chains_75 ?_
    refine g_iconst (pc := 76) (v := (1 : Int32)) dX12_chains_76 (by decide) ?_
    refine g_icmp_eq (pc := 77) (tgt := 115) dX12_chains_77 (by decide) (fun c77 => ?_) (fun c77 => ?_)
    · have h := h.1 c77
      refine g_iinc (pc := 115) (x := l6) (v := (l6 + (1 : Int32))) (L' := [(0, .ref 156), (2, .int l2), (4, .int l4), (5, .int l5), (6, .int (l6 + (1 : Int32)))]) dX12_chains_115 rfl rfl (Nat.le_of_ble_eq_true rfl) rfl ?_
      refine g_goto (pc := 118) (tgt := 56) dX12_chains_118 (by decide) ?_
      exact h
    · have h := h.2 c77
      refine g_aload_n (pc := 80) (x := 156) dX12_chains_80 rfl ?_
      refine g_iload (pc := 81) (x := l6) dX12_chains_81 rfl ?_
      refine g_iload_n (pc := 83) (x := l2) dX12_chains_83 rfl ?_
      refine g_aload_n (pc := 84) (x := 156) dX12_chains_84 rfl ?_
      refine g_getI (pc := 85) dX12_chains_85 fo_X12_487 sh_156 rfl ?_
      obtain ⟨Pm1, hRm1, h⟩ := h
      refine g_callV (pc := 88) (as := [.int l6, .int l2, .int (mm.1 156 48)]) dX12_chains_88 cw_X12_493 (by decide) rfl rfl sh_156 (Nat.le_of_ble_eq_true rfl) hRm1 ?_
      intro r_ m1 hz_ hp_
      rcases h.1 r_ m1 hp_ with rfl | rfl
      · have h := h.2.1 m1 hp_
        refine g_if_ne (pc := 91) (tgt := 97) dX12_chains_91 (by decide) (fun _ => ?_) (fun c91 => absurd c91 (by decide))
        refine g_iload (pc := 97) (x := l5) dX12_chains_97 rfl ?_
        refine g_iconst (pc := 99) (v := (1 : Int32)) dX12_chains_99 (by decide) ?_
        refine g_iload (pc := 100) (x := l6) dX12_chains_100 rfl ?_
        refine g_ishl (pc := 102) dX12_chains_102 ?_
        refine g_ior (pc := 103) dX12_chains_103 ?_
        refine g_istore (pc := 104) (L' := [(0, .ref 156), (2, .int l2), (4, .int l4), (5, .int (l5 ||| ((1 : Int32) <<< (l6 &&& 31)))), (6, .int l6)]) dX12_chains_104 (Nat.le_of_ble_eq_true rfl) rfl ?_
        refine g_aload_n (pc := 106) (x := 156) dX12_chains_106 rfl ?_
        refine g_getR (pc := 107) (dd := 32) dX12_chains_107 fo_X12_109 sh_156 rfl ?_
        refine g_iload (pc := 110) (x := l6) dX12_chains_110 rfl ?_
        refine g_iload (pc := 112) (x := l4) dX12_chains_112 rfl ?_
        refine g_iastore (pc := 114) dX12_chains_114 sh_188 h.1 ?_
        have h := h.2
        refine g_iinc (pc := 115) (x := l6) (v := (l6 + (1 : Int32))) (L' := [(0, .ref 156), (2, .int l2), (4, .int l4), (5, .int (l5 ||| ((1 : Int32) <<< (l6 &&& 31)))), (6, .int (l6 + (1 : Int32)))]) dX12_chains_115 rfl rfl (Nat.le_of_ble_eq_true rfl) rfl ?_
        refine g_goto (pc := 118) (tgt := 56) dX12_chains_118 (by decide) ?_
        exact h
      · have h := h.2.2 m1 hp_
        refine g_if_ne (pc := 91) (tgt := 97) dX12_chains_91 (by decide) (fun c91 => absurd c91 (by decide)) (fun _ => ?_)
        refine g_goto (pc := 94) (tgt := 115) dX12_chains_94 (by decide) ?_
        refine g_iinc (pc := 115) (x := l6) (v := (l6 + (1 : Int32))) (L' := [(0, .ref 156), (2, .int l2), (4, .int l4), (5, .int l5), (6, .int (l6 + (1 : Int32)))]) dX12_chains_115 rfl rfl (Nat.le_of_ble_eq_true rfl) rfl ?_
        refine g_goto (pc := 118) (tgt := 56) dX12_chains_118 (by decide) ?_
        exact h
theorem dX12_chain_0 : decode cX12_chain 0 = .ok (.aload_n 0, 1) := by decide +kernel
theorem dX12_chain_1 : decode cX12_chain 1 = .ok (.iload_n 1, 1) := by decide +kernel
theorem dX12_chain_2 : decode cX12_chain 2 = .ok (.invokevirtual 377, 3) := by decide +kernel
theorem dX12_chain_5 : decode cX12_chain 5 = .ok (.ifCond .eq 30, 3) := by decide +kernel
theorem dX12_chain_8 : decode cX12_chain 8 = .ok (.iload_n 2, 1) := by decide +kernel
theorem dX12_chain_9 : decode cX12_chain 9 = .ok (.invokestatic 481, 3) := by decide +kernel
theorem dX12_chain_12 : decode cX12_chain 12 = .ok (.ifCond .eq 23, 3) := by decide +kernel
theorem dX12_chain_15 : decode cX12_chain 15 = .ok (.iload_n 3, 1) := by decide +kernel
theorem dX12_chain_16 : decode cX12_chain 16 = .ok (.iconst 0, 1) := by decide +kernel
theorem dX12_chain_17 : decode cX12_chain 17 = .ok (.iconst 1, 1) := by decide +kernel
theorem dX12_chain_18 : decode cX12_chain 18 = .ok (.invokestatic 392, 3) := by decide +kernel
theorem dX12_chain_21 : decode cX12_chain 21 = .ok (.ifCond .ne 16, 3) := by decide +kernel
theorem dX12_chain_24 : decode cX12_chain 24 = .ok (.aload_n 0, 1) := by decide +kernel
theorem dX12_chain_25 : decode cX12_chain 25 = .ok (.iload_n 3, 1) := by decide +kernel
theorem dX12_chain_26 : decode cX12_chain 26 = .ok (.bipush 10, 2) := by decide +kernel
theorem dX12_chain_28 : decode cX12_chain 28 = .ok (.isub, 1) := by decide +kernel
theorem dX12_chain_29 : decode cX12_chain 29 = .ok (.invokevirtual 377, 3) := by decide +kernel
theorem dX12_chain_32 : decode cX12_chain 32 = .ok (.ifCond .ne 5, 3) := by decide +kernel
theorem dX12_chain_35 : decode cX12_chain 35 = .ok (.iconst (-1), 1) := by decide +kernel
theorem dX12_chain_36 : decode cX12_chain 36 = .ok (.ireturn, 1) := by decide +kernel
theorem dX12_chain_37 : decode cX12_chain 37 = .ok (.aload_n 0, 1) := by decide +kernel
theorem dX12_chain_38 : decode cX12_chain 38 = .ok (.iload_n 1, 1) := by decide +kernel
theorem dX12_chain_39 : decode cX12_chain 39 = .ok (.iload_n 2, 1) := by decide +kernel
theorem dX12_chain_40 : decode cX12_chain 40 = .ok (.invokevirtual 496, 3) := by decide +kernel
theorem dX12_chain_43 : decode cX12_chain 43 = .ok (.iload_n 3, 1) := by decide +kernel
theorem dX12_chain_44 : decode cX12_chain 44 = .ok (.ifCond .ne 13, 3) := by decide +kernel
theorem dX12_chain_47 : decode cX12_chain 47 = .ok (.aload_n 0, 1) := by decide +kernel
theorem dX12_chain_48 : decode cX12_chain 48 = .ok (.getfield 487, 3) := by decide +kernel
theorem dX12_chain_51 : decode cX12_chain 51 = .ok (.invokestatic 408, 3) := by decide +kernel
theorem dX12_chain_54 : decode cX12_chain 54 = .ok (.goto 24, 3) := by decide +kernel
theorem dX12_chain_57 : decode cX12_chain 57 = .ok (.iload_n 3, 1) := by decide +kernel
theorem dX12_chain_58 : decode cX12_chain 58 = .ok (.iconst 1, 1) := by decide +kernel
theorem dX12_chain_59 : decode cX12_chain 59 = .ok (.if_icmp .ne 10, 3) := by decide +kernel
theorem dX12_chain_62 : decode cX12_chain 62 = .ok (.aload_n 0, 1) := by decide +kernel
theorem dX12_chain_63 : decode cX12_chain 63 = .ok (.getfield 490, 3) := by decide +kernel
theorem dX12_chain_66 : decode cX12_chain 66 = .ok (.goto 12, 3) := by decide +kernel
theorem dX12_chain_69 : decode cX12_chain 69 = .ok (.aload_n 0, 1) := by decide +kernel
theorem dX12_chain_70 : decode cX12_chain 70 = .ok (.getfield 109, 3) := by decide +kernel
theorem dX12_chain_73 : decode cX12_chain 73 = .ok (.iload_n 3, 1) := by decide +kernel
theorem dX12_chain_74 : decode cX12_chain 74 = .ok (.bipush 10, 2) := by decide +kernel
theorem dX12_chain_76 : decode cX12_chain 76 = .ok (.isub, 1) := by decide +kernel
theorem dX12_chain_77 : decode cX12_chain 77 = .ok (.iaload, 1) := by decide +kernel
theorem dX12_chain_78 : decode cX12_chain 78 = .ok (.ireturn, 1) := by decide +kernel
theorem b_X12_chain (mm : MM) (Q : Value → MM → Prop) (a1 : Int32) (a2 : Int32) (a3 : Int32) (h : (p_X12_isHouse mm a1 → ((p_X12_isWind mm a2 → ((p_X12_isIn mm a3 (0 : Int32) (1 : Int32) → (∃ Pm1 : Value → MM → Prop, Runs e_X12_chains [.ref 156, .int a1, .int a2] mm Pm1 ∧ ∀ m1, Pm1 .null m1 → ((¬ a3 = 0 → ((¬ a3 = (1 : Int32) → (vp_in (a3 - (10 : Int32)) 16 ∧ (Q (.int (m1.1 188 (a3 - (10 : Int32)).toNatClampNeg)) m1))) ∧ (a3 = (1 : Int32) → (Q (.int (m1.1 156 49)) m1)))) ∧ (a3 = 0 → (∃ Pm2 : Value → MM → Prop, Runs e_X12_bitsOf [.int (m1.1 156 48)] m1 Pm2 ∧ ∀ (r2 : Int32) (m2 : MM), Pm2 (.int r2) m2 → (Q (.int r2) m2)))))) ∧ (¬ p_X12_isIn mm a3 (0 : Int32) (1 : Int32) → ((p_X12_isHouse mm (a3 - (10 : Int32)) → (∃ Pm1 : Value → MM → Prop, Runs e_X12_chains [.ref 156, .int a1, .int a2] mm Pm1 ∧ ∀ m1, Pm1 .null m1 → ((¬ a3 = 0 → ((¬ a3 = (1 : Int32) → (vp_in (a3 - (10 : Int32)) 16 ∧ (Q (.int (m1.1 188 (a3 - (10 : Int32)).toNatClampNeg)) m1))) ∧ (a3 = (1 : Int32) → (Q (.int (m1.1 156 49)) m1)))) ∧ (a3 = 0 → (∃ Pm2 : Value → MM → Prop, Runs e_X12_bitsOf [.int (m1.1 156 48)] m1 Pm2 ∧ ∀ (r2 : Int32) (m2 : MM), Pm2 (.int r2) m2 → (Q (.int r2) m2)))))) ∧ (¬ p_X12_isHouse mm (a3 - (10 : Int32)) → (Q (.int (-1 : Int32)) mm)))))) ∧ (¬ p_X12_isWind mm a2 → (Q (.int (-1 : Int32)) mm)))) ∧ (¬ p_X12_isHouse mm a1 → (Q (.int (-1 : Int32)) mm))) : Runs e_X12_chain [.ref 156, .int a1, .int a2, .int a3] mm Q := by
  refine runs_of_G (L := [(0, .ref 156), (1, .int a1), (2, .int a2), (3, .int a3)]) pl_X12 (Nat.le_of_ble_eq_true rfl) rfl ?_
  refine g_aload_n (pc := 0) (x := 156) dX12_chain_0 rfl ?_
  refine g_iload_n (pc := 1) (x := a1) dX12_chain_1 rfl ?_
  refine g_callV (pc := 2) (as := [.int a1]) dX12_chain_2 cw_X12_377 (by decide) rfl rfl sh_156 (Nat.le_of_ble_eq_true rfl) (rv_X12_isHouse mm a1) ?_
  rintro r_ m_ hz_ ⟨⟨p_, rfl⟩ | ⟨p_, rfl⟩, rfl⟩
  · have h := h.1 p_
    refine g_if_eq (pc := 5) (tgt := 35) dX12_chain_5 (by decide) (fun c5 => absurd c5 (by decide)) (fun _ => ?_)
    refine g_iload_n (pc := 8) (x := a2) dX12_chain_8 rfl ?_
    refine g_callS (pc := 9) (as := [.int a2]) dX12_chain_9 cw_X12_481 (by decide) rfl rfl (Nat.le_of_ble_eq_true rfl) (rv_X12_isWind mm a2) ?_
    rintro r_ m_ hz_ ⟨⟨p_, rfl⟩ | ⟨p_, rfl⟩, rfl⟩
    · have h := h.1 p_
      refine g_if_eq (pc := 12) (tgt := 35) dX12_chain_12 (by decide) (fun c12 => absurd c12 (by decide)) (fun _ => ?_)
      refine g_iload_n (pc := 15) (x := a3) dX12_chain_15 rfl ?_
      refine g_iconst (pc := 16) (v := (0 : Int32)) dX12_chain_16 (by decide) ?_
      refine g_iconst (pc := 17) (v := (1 : Int32)) dX12_chain_17 (by decide) ?_
      refine g_callS (pc := 18) (as := [.int a3, .int (0 : Int32), .int (1 : Int32)]) dX12_chain_18 cw_X12_392 (by decide) rfl rfl (Nat.le_of_ble_eq_true rfl) (rv_X12_isIn mm a3 (0 : Int32) (1 : Int32)) ?_
      rintro r_ m_ hz_ ⟨⟨p_, rfl⟩ | ⟨p_, rfl⟩, rfl⟩
      · have h := h.1 p_
        refine g_if_ne (pc := 21) (tgt := 37) dX12_chain_21 (by decide) (fun _ => ?_) (fun c21 => absurd c21 (by decide))
        refine g_aload_n (pc := 37) (x := 156) dX12_chain_37 rfl ?_
        refine g_iload_n (pc := 38) (x := a1) dX12_chain_38 rfl ?_
        refine g_iload_n (pc := 39) (x := a2) dX12_chain_39 rfl ?_
        obtain ⟨Pm1, hRm1, h⟩ := h
        refine g_callV (pc := 40) (as := [.int a1, .int a2]) dX12_chain_40 cw_X12_496 (by decide) rfl rfl sh_156 (Nat.le_of_ble_eq_true rfl) hRm1 ?_
        intro r_ m1 hz_ hp_
        obtain rfl := hz_
        have h := h m1 hp_
        refine g_iload_n (pc := 43) (x := a3) dX12_chain_43 rfl ?_
        refine g_if_ne (pc := 44) (tgt := 57) dX12_chain_44 (by decide) (fun c44 => ?_) (fun c44 => ?_)
        · have h := h.1 c44
          refine g_iload_n (pc := 57) (x := a3) dX12_chain_57 rfl ?_
          refine g_iconst (pc := 58) (v := (1 : Int32)) dX12_chain_58 (by decide) ?_
          refine g_icmp_ne (pc := 59) (tgt := 69) dX12_chain_59 (by decide) (fun c59 => ?_) (fun c59 => ?_)
          · have h := h.1 c59
            refine g_aload_n (pc := 69) (x := 156) dX12_chain_69 rfl ?_
            refine g_getR (pc := 70) (dd := 32) dX12_chain_70 fo_X12_109 sh_156 rfl ?_
            refine g_iload_n (pc := 73) (x := a3) dX12_chain_73 rfl ?_
            refine g_bipush (pc := 74) (v := (10 : Int32)) dX12_chain_74 (by decide) ?_
            refine g_isub (pc := 76) dX12_chain_76 ?_
            refine g_iaload (pc := 77) dX12_chain_77 sh_188 h.1 ?_
            have h := h.2
            exact g_iret (pc := 78) dX12_chain_78 rfl rfl rfl h
          · have h := h.2 c59
            refine g_aload_n (pc := 62) (x := 156) dX12_chain_62 rfl ?_
            refine g_getI (pc := 63) dX12_chain_63 fo_X12_490 sh_156 rfl ?_
            refine g_goto (pc := 66) (tgt := 78) dX12_chain_66 (by decide) ?_
            exact g_iret (pc := 78) dX12_chain_78 rfl rfl rfl h
        · have h := h.2 c44
          refine g_aload_n (pc := 47) (x := 156) dX12_chain_47 rfl ?_
          refine g_getI (pc := 48) dX12_chain_48 fo_X12_487 sh_156 rfl ?_
          obtain ⟨Pm2, hRm2, h⟩ := h
          refine g_callS (pc := 51) (as := [.int (m1.1 156 48)]) dX12_chain_51 cw_X12_408 (by decide) rfl rfl (Nat.le_of_ble_eq_true rfl) hRm2 ?_
          intro r_ m2 hz_ hp_
          obtain ⟨r2, rfl⟩ := hz_
          have h := h r2 m2 hp_
          refine g_goto (pc := 54) (tgt := 78) dX12_chain_54 (by decide) ?_
          exact g_iret (pc := 78) dX12_chain_78 rfl rfl rfl h
      · have h := h.2 p_
        refine g_if_ne (pc := 21) (tgt := 37) dX12_chain_21 (by decide) (fun c21 => absurd c21 (by decide)) (fun _ => ?_)
        refine g_aload_n (pc := 24) (x := 156) dX12_chain_24 rfl ?_
        refine g_iload_n (pc := 25) (x := a3) dX12_chain_25 rfl ?_
        refine g_bipush (pc := 26) (v := (10 : Int32)) dX12_chain_26 (by decide) ?_
        refine g_isub (pc := 28) dX12_chain_28 ?_
        refine g_callV (pc := 29) (as := [.int (a3 - (10 : Int32))]) dX12_chain_29 cw_X12_377 (by decide) rfl rfl sh_156 (Nat.le_of_ble_eq_true rfl) (rv_X12_isHouse mm (a3 - (10 : Int32))) ?_
        rintro r_ m_ hz_ ⟨⟨p_, rfl⟩ | ⟨p_, rfl⟩, rfl⟩
        · have h := h.1 p_
          refine g_if_ne (pc := 32) (tgt := 37) dX12_chain_32 (by decide) (fun _ => ?_) (fun c32 => absurd c32 (by decide))
          refine g_aload_n (pc := 37) (x := 156) dX12_chain_37 rfl ?_
          refine g_iload_n (pc := 38) (x := a1) dX12_chain_38 rfl ?_
          refine g_iload_n (pc := 39) (x := a2) dX12_chain_39 rfl ?_
          obtain ⟨Pm1, hRm1, h⟩ := h
          refine g_callV (pc := 40) (as := [.int a1, .int a2]) dX12_chain_40 cw_X12_496 (by decide) rfl rfl sh_156 (Nat.le_of_ble_eq_true rfl) hRm1 ?_
          intro r_ m1 hz_ hp_
          obtain rfl := hz_
          have h := h m1 hp_
          refine g_iload_n (pc := 43) (x := a3) dX12_chain_43 rfl ?_
          refine g_if_ne (pc := 44) (tgt := 57) dX12_chain_44 (by decide) (fun c44 => ?_) (fun c44 => ?_)
          · have h := h.1 c44
            refine g_iload_n (pc := 57) (x := a3) dX12_chain_57 rfl ?_
            refine g_iconst (pc := 58) (v := (1 : Int32)) dX12_chain_58 (by decide) ?_
            refine g_icmp_ne (pc := 59) (tgt := 69) dX12_chain_59 (by decide) (fun c59 => ?_) (fun c59 => ?_)
            · have h := h.1 c59
              refine g_aload_n (pc := 69) (x := 156) dX12_chain_69 rfl ?_
              refine g_getR (pc := 70) (dd := 32) dX12_chain_70 fo_X12_109 sh_156 rfl ?_
              refine g_iload_n (pc := 73) (x := a3) dX12_chain_73 rfl ?_
              refine g_bipush (pc := 74) (v := (10 : Int32)) dX12_chain_74 (by decide) ?_
              refine g_isub (pc := 76) dX12_chain_76 ?_
              refine g_iaload (pc := 77) dX12_chain_77 sh_188 h.1 ?_
              have h := h.2
              exact g_iret (pc := 78) dX12_chain_78 rfl rfl rfl h
            · have h := h.2 c59
              refine g_aload_n (pc := 62) (x := 156) dX12_chain_62 rfl ?_
              refine g_getI (pc := 63) dX12_chain_63 fo_X12_490 sh_156 rfl ?_
              refine g_goto (pc := 66) (tgt := 78) dX12_chain_66 (by decide) ?_
              exact g_iret (pc := 78) dX12_chain_78 rfl rfl rfl h
          · have h := h.2 c44
            refine g_aload_n (pc := 47) (x := 156) dX12_chain_47 rfl ?_
            refine g_getI (pc := 48) dX12_chain_48 fo_X12_487 sh_156 rfl ?_
            obtain ⟨Pm2, hRm2, h⟩ := h
            refine g_callS (pc := 51) (as := [.int (m1.1 156 48)]) dX12_chain_51 cw_X12_408 (by decide) rfl rfl (Nat.le_of_ble_eq_true rfl) hRm2 ?_
            intro r_ m2 hz_ hp_
            obtain ⟨r2, rfl⟩ := hz_
            have h := h r2 m2 hp_
            refine g_goto (pc := 54) (tgt := 78) dX12_chain_54 (by decide) ?_
            exact g_iret (pc := 78) dX12_chain_78 rfl rfl rfl h
        · have h := h.2 p_
          refine g_if_ne (pc := 32) (tgt := 37) dX12_chain_32 (by decide) (fun c32 => absurd c32 (by decide)) (fun _ => ?_)
          refine g_iconst (pc := 35) (v := (-1 : Int32)) dX12_chain_35 (by decide) ?_
          exact g_iret (pc := 36) dX12_chain_36 rfl rfl rfl h
    · have h := h.2 p_
      refine g_if_eq (pc := 12) (tgt := 35) dX12_chain_12 (by decide) (fun _ => ?_) (fun c12 => absurd c12 (by decide))
      refine g_iconst (pc := 35) (v := (-1 : Int32)) dX12_chain_35 (by decide) ?_
      exact g_iret (pc := 36) dX12_chain_36 rfl rfl rfl h
  · have h := h.2 p_
    refine g_if_eq (pc := 5) (tgt := 35) dX12_chain_5 (by decide) (fun _ => ?_) (fun c5 => absurd c5 (by decide))
    refine g_iconst (pc := 35) (v := (-1 : Int32)) dX12_chain_35 (by decide) ?_
    exact g_iret (pc := 36) dX12_chain_36 rfl rfl rfl h
theorem dX12_dread_0 : decode cX12_dread 0 = .ok (.iload_n 1, 1) := by decide +kernel
theorem dX12_dread_1 : decode cX12_dread 1 = .ok (.invokestatic 481, 3) := by decide +kernel
theorem dX12_dread_4 : decode cX12_dread 4 = .ok (.ifCond .ne 5, 3) := by decide +kernel
theorem dX12_dread_7 : decode cX12_dread 7 = .ok (.iconst (-1), 1) := by decide +kernel
theorem dX12_dread_8 : decode cX12_dread 8 = .ok (.ireturn, 1) := by decide +kernel
theorem dX12_dread_9 : decode cX12_dread 9 = .ok (.bipush (-2), 2) := by decide +kernel
theorem dX12_dread_11 : decode cX12_dread 11 = .ok (.istore_n 2, 1) := by decide +kernel
theorem dX12_dread_12 : decode cX12_dread 12 = .ok (.iconst 0, 1) := by decide +kernel
theorem dX12_dread_13 : decode cX12_dread 13 = .ok (.istore_n 3, 1) := by decide +kernel
theorem dX12_dread_14 : decode cX12_dread 14 = .ok (.iconst 0, 1) := by decide +kernel
theorem dX12_dread_15 : decode cX12_dread 15 = .ok (.istore 4, 2) := by decide +kernel
theorem dX12_dread_17 : decode cX12_dread 17 = .ok (.iload 4, 2) := by decide +kernel
theorem dX12_dread_19 : decode cX12_dread 19 = .ok (.aload_n 0, 1) := by decide +kernel
theorem dX12_dread_20 : decode cX12_dread 20 = .ok (.getfield 30, 3) := by decide +kernel
theorem dX12_dread_23 : decode cX12_dread 23 = .ok (.iconst 0, 1) := by decide +kernel
theorem dX12_dread_24 : decode cX12_dread 24 = .ok (.iaload, 1) := by decide +kernel
theorem dX12_dread_25 : decode cX12_dread 25 = .ok (.if_icmp .ge 45, 3) := by decide +kernel
theorem dX12_dread_28 : decode cX12_dread 28 = .ok (.aload_n 0, 1) := by decide +kernel
theorem dX12_dread_29 : decode cX12_dread 29 = .ok (.iload 4, 2) := by decide +kernel
theorem dX12_dread_31 : decode cX12_dread 31 = .ok (.iload_n 1, 1) := by decide +kernel
theorem dX12_dread_32 : decode cX12_dread 32 = .ok (.invokevirtual 496, 3) := by decide +kernel
theorem dX12_dread_35 : decode cX12_dread 35 = .ok (.iload_n 2, 1) := by decide +kernel
theorem dX12_dread_36 : decode cX12_dread 36 = .ok (.ifCond .lt 17, 3) := by decide +kernel
theorem dX12_dread_39 : decode cX12_dread 39 = .ok (.aload_n 0, 1) := by decide +kernel
theorem dX12_dread_40 : decode cX12_dread 40 = .ok (.getfield 487, 3) := by decide +kernel
theorem dX12_dread_43 : decode cX12_dread 43 = .ok (.invokestatic 408, 3) := by decide +kernel
theorem dX12_dread_46 : decode cX12_dread 46 = .ok (.iload_n 3, 1) := by decide +kernel
theorem dX12_dread_47 : decode cX12_dread 47 = .ok (.if_icmp .gt 6, 3) := by decide +kernel
theorem dX12_dread_50 : decode cX12_dread 50 = .ok (.goto 14, 3) := by decide +kernel
theorem dX12_dread_53 : decode cX12_dread 53 = .ok (.iload 4, 2) := by decide +kernel
theorem dX12_dread_55 : decode cX12_dread 55 = .ok (.istore_n 2, 1) := by decide +kernel
theorem dX12_dread_56 : decode cX12_dread 56 = .ok (.aload_n 0, 1) := by decide +kernel
theorem dX12_dread_57 : decode cX12_dread 57 = .ok (.getfield 487, 3) := by decide +kernel
theorem dX12_dread_60 : decode cX12_dread 60 = .ok (.invokestatic 408, 3) := by decide +kernel
theorem dX12_dread_63 : decode cX12_dread 63 = .ok (.istore_n 3, 1) := by decide +kernel
theorem dX12_dread_64 : decode cX12_dread 64 = .ok (.iinc 4 1, 3) := by decide +kernel
theorem dX12_dread_67 : decode cX12_dread 67 = .ok (.goto (-50), 3) := by decide +kernel
theorem dX12_dread_70 : decode cX12_dread 70 = .ok (.iload_n 2, 1) := by decide +kernel
theorem dX12_dread_71 : decode cX12_dread 71 = .ok (.ireturn, 1) := by decide +kernel
theorem b_X12_dread (mm : MM) (Q : Value → MM → Prop) (a1 : Int32) (h : (p_X12_isWind mm a1 → (G e_X12_dread 17 [(0, .ref 156), (1, .int a1), (2, .int (-2 : Int32)), (3, .int (0 : Int32)), (4, .int (0 : Int32))] [] mm Q)) ∧ (¬ p_X12_isWind mm a1 → (Q (.int (-1 : Int32)) mm))) : Runs e_X12_dread [.ref 156, .int a1] mm Q := by
  refine runs_of_G (L := [(0, .ref 156), (1, .int a1)]) pl_X12 (Nat.le_of_ble_eq_true rfl) rfl ?_
  refine g_iload_n (pc := 0) (x := a1) dX12_dread_0 rfl ?_
  refine g_callS (pc := 1) (as := [.int a1]) dX12_dread_1 cw_X12_481 (by decide) rfl rfl (Nat.le_of_ble_eq_true rfl) (rv_X12_isWind mm a1) ?_
  rintro r_ m_ hz_ ⟨⟨p_, rfl⟩ | ⟨p_, rfl⟩, rfl⟩
  · have h := h.1 p_
    refine g_if_ne (pc := 4) (tgt := 9) dX12_dread_4 (by decide) (fun _ => ?_) (fun c4 => absurd c4 (by decide))
    refine g_bipush (pc := 9) (v := (-2 : Int32)) dX12_dread_9 (by decide) ?_
    refine g_istore_n (pc := 11) (L' := [(0, .ref 156), (1, .int a1), (2, .int (-2 : Int32))]) dX12_dread_11 (Nat.le_of_ble_eq_true rfl) rfl ?_
    refine g_iconst (pc := 12) (v := (0 : Int32)) dX12_dread_12 (by decide) ?_
    refine g_istore_n (pc := 13) (L' := [(0, .ref 156), (1, .int a1), (2, .int (-2 : Int32)), (3, .int (0 : Int32))]) dX12_dread_13 (Nat.le_of_ble_eq_true rfl) rfl ?_
    refine g_iconst (pc := 14) (v := (0 : Int32)) dX12_dread_14 (by decide) ?_
    refine g_istore (pc := 15) (L' := [(0, .ref 156), (1, .int a1), (2, .int (-2 : Int32)), (3, .int (0 : Int32)), (4, .int (0 : Int32))]) dX12_dread_15 (Nat.le_of_ble_eq_true rfl) rfl ?_
    exact h
  · have h := h.2 p_
    refine g_if_ne (pc := 4) (tgt := 9) dX12_dread_4 (by decide) (fun c4 => absurd c4 (by decide)) (fun _ => ?_)
    refine g_iconst (pc := 7) (v := (-1 : Int32)) dX12_dread_7 (by decide) ?_
    exact g_iret (pc := 8) dX12_dread_8 rfl rfl rfl h
theorem b_X12_dread_17 (mm : MM) (Q : Value → MM → Prop) (l1 : Int32) (l2 : Int32) (l3 : Int32) (l4 : Int32) (h : ((mm.1 162 0) ≤ l4 → (Q (.int l2) mm)) ∧ (¬ (mm.1 162 0) ≤ l4 → (∃ Pm1 : Value → MM → Prop, Runs e_X12_chains [.ref 156, .int l4, .int l1] mm Pm1 ∧ ∀ m1, Pm1 .null m1 → ((l2 < 0 → (∃ Pm2 : Value → MM → Prop, Runs e_X12_bitsOf [.int (m1.1 156 48)] m1 Pm2 ∧ ∀ (r2 : Int32) (m2 : MM), Pm2 (.int r2) m2 → (G e_X12_dread 17 [(0, .ref 156), (1, .int l1), (2, .int l4), (3, .int r2), (4, .int (l4 + (1 : Int32)))] [] m2 Q))) ∧ (¬ l2 < 0 → (∃ Pm2 : Value → MM → Prop, Runs e_X12_bitsOf [.int (m1.1 156 48)] m1 Pm2 ∧ ∀ (r2 : Int32) (m2 : MM), Pm2 (.int r2) m2 → ((l3 < r2 → (∃ Pm3 : Value → MM → Prop, Runs e_X12_bitsOf [.int (m2.1 156 48)] m2 Pm3 ∧ ∀ (r3 : Int32) (m3 : MM), Pm3 (.int r3) m3 → (G e_X12_dread 17 [(0, .ref 156), (1, .int l1), (2, .int l4), (3, .int r3), (4, .int (l4 + (1 : Int32)))] [] m3 Q))) ∧ (¬ l3 < r2 → (G e_X12_dread 17 [(0, .ref 156), (1, .int l1), (2, .int l2), (3, .int l3), (4, .int (l4 + (1 : Int32)))] [] m2 Q))))))))) : G e_X12_dread 17 [(0, .ref 156), (1, .int l1), (2, .int l2), (3, .int l3), (4, .int l4)] [] mm Q := by
  refine g_iload (pc := 17) (x := l4) dX12_dread_17 rfl ?_
  refine g_aload_n (pc := 19) (x := 156) dX12_dread_19 rfl ?_
  refine g_getR (pc := 20) (dd := 6) dX12_dread_20 fo_X12_30 sh_156 rfl ?_
  refine g_iconst (pc := 23) (v := (0 : Int32)) dX12_dread_23 (by decide) ?_
  refine g_iaload (pc := 24) dX12_dread_24 sh_162 (vp_in_nI (n := 0) (N := 420) (by decide) (by decide)) ?_
  refine g_icmp_ge (pc := 25) (tgt := 70) dX12_dread_25 (by decide) (fun c25 => ?_) (fun c25 => ?_)
  · have h := h.1 c25
    refine g_iload_n (pc := 70) (x := l2) dX12_dread_70 rfl ?_
    exact g_iret (pc := 71) dX12_dread_71 rfl rfl rfl h
  · have h := h.2 c25
    refine g_aload_n (pc := 28) (x := 156) dX12_dread_28 rfl ?_
    refine g_iload (pc := 29) (x := l4) dX12_dread_29 rfl ?_
    refine g_iload_n (pc := 31) (x := l1) dX12_dread_31 rfl ?_
    obtain ⟨Pm1, hRm1, h⟩ := h
    refine g_callV (pc := 32) (as := [.int l4, .int l1]) dX12_dread_32 cw_X12_496 (by decide) rfl rfl sh_156 (Nat.le_of_ble_eq_true rfl) hRm1 ?_
    intro r_ m1 hz_ hp_
    obtain rfl := hz_
    have h := h m1 hp_
    refine g_iload_n (pc := 35) (x := l2) dX12_dread_35 rfl ?_
    refine g_if_lt (pc := 36) (tgt := 53) dX12_dread_36 (by decide) (fun c36 => ?_) (fun c36 => ?_)
    · have h := h.1 c36
      refine g_iload (pc := 53) (x := l4) dX12_dread_53 rfl ?_
      refine g_istore_n (pc := 55) (L' := [(0, .ref 156), (1, .int l1), (2, .int l4), (3, .int l3), (4, .int l4)]) dX12_dread_55 (Nat.le_of_ble_eq_true rfl) rfl ?_
      refine g_aload_n (pc := 56) (x := 156) dX12_dread_56 rfl ?_
      refine g_getI (pc := 57) dX12_dread_57 fo_X12_487 sh_156 rfl ?_
      obtain ⟨Pm2, hRm2, h⟩ := h
      refine g_callS (pc := 60) (as := [.int (m1.1 156 48)]) dX12_dread_60 cw_X12_408 (by decide) rfl rfl (Nat.le_of_ble_eq_true rfl) hRm2 ?_
      intro r_ m2 hz_ hp_
      obtain ⟨r2, rfl⟩ := hz_
      have h := h r2 m2 hp_
      refine g_istore_n (pc := 63) (L' := [(0, .ref 156), (1, .int l1), (2, .int l4), (3, .int r2), (4, .int l4)]) dX12_dread_63 (Nat.le_of_ble_eq_true rfl) rfl ?_
      refine g_iinc (pc := 64) (x := l4) (v := (l4 + (1 : Int32))) (L' := [(0, .ref 156), (1, .int l1), (2, .int l4), (3, .int r2), (4, .int (l4 + (1 : Int32)))]) dX12_dread_64 rfl rfl (Nat.le_of_ble_eq_true rfl) rfl ?_
      refine g_goto (pc := 67) (tgt := 17) dX12_dread_67 (by decide) ?_
      exact h
    · have h := h.2 c36
      refine g_aload_n (pc := 39) (x := 156) dX12_dread_39 rfl ?_
      refine g_getI (pc := 40) dX12_dread_40 fo_X12_487 sh_156 rfl ?_
      obtain ⟨Pm2, hRm2, h⟩ := h
      refine g_callS (pc := 43) (as := [.int (m1.1 156 48)]) dX12_dread_43 cw_X12_408 (by decide) rfl rfl (Nat.le_of_ble_eq_true rfl) hRm2 ?_
      intro r_ m2 hz_ hp_
      obtain ⟨r2, rfl⟩ := hz_
      have h := h r2 m2 hp_
      refine g_iload_n (pc := 46) (x := l3) dX12_dread_46 rfl ?_
      refine g_icmp_gt (pc := 47) (tgt := 53) dX12_dread_47 (by decide) (fun c47 => ?_) (fun c47 => ?_)
      · have h := h.1 c47
        refine g_iload (pc := 53) (x := l4) dX12_dread_53 rfl ?_
        refine g_istore_n (pc := 55) (L' := [(0, .ref 156), (1, .int l1), (2, .int l4), (3, .int l3), (4, .int l4)]) dX12_dread_55 (Nat.le_of_ble_eq_true rfl) rfl ?_
        refine g_aload_n (pc := 56) (x := 156) dX12_dread_56 rfl ?_
        refine g_getI (pc := 57) dX12_dread_57 fo_X12_487 sh_156 rfl ?_
        obtain ⟨Pm3, hRm3, h⟩ := h
        refine g_callS (pc := 60) (as := [.int (m2.1 156 48)]) dX12_dread_60 cw_X12_408 (by decide) rfl rfl (Nat.le_of_ble_eq_true rfl) hRm3 ?_
        intro r_ m3 hz_ hp_
        obtain ⟨r3, rfl⟩ := hz_
        have h := h r3 m3 hp_
        refine g_istore_n (pc := 63) (L' := [(0, .ref 156), (1, .int l1), (2, .int l4), (3, .int r3), (4, .int l4)]) dX12_dread_63 (Nat.le_of_ble_eq_true rfl) rfl ?_
        refine g_iinc (pc := 64) (x := l4) (v := (l4 + (1 : Int32))) (L' := [(0, .ref 156), (1, .int l1), (2, .int l4), (3, .int r3), (4, .int (l4 + (1 : Int32)))]) dX12_dread_64 rfl rfl (Nat.le_of_ble_eq_true rfl) rfl ?_
        refine g_goto (pc := 67) (tgt := 17) dX12_dread_67 (by decide) ?_
        exact h
      · have h := h.2 c47
        refine g_goto (pc := 50) (tgt := 64) dX12_dread_50 (by decide) ?_
        refine g_iinc (pc := 64) (x := l4) (v := (l4 + (1 : Int32))) (L' := [(0, .ref 156), (1, .int l1), (2, .int l2), (3, .int l3), (4, .int (l4 + (1 : Int32)))]) dX12_dread_64 rfl rfl (Nat.le_of_ble_eq_true rfl) rfl ?_
        refine g_goto (pc := 67) (tgt := 17) dX12_dread_67 (by decide) ?_
        exact h
theorem dX12_year_0 : decode cX12_year 0 = .ok (.aload_n 0, 1) := by decide +kernel
theorem dX12_year_1 : decode cX12_year 1 = .ok (.getfield 280, 3) := by decide +kernel
theorem dX12_year_4 : decode cX12_year 4 = .ok (.bipush 12, 2) := by decide +kernel
theorem dX12_year_6 : decode cX12_year 6 = .ok (.if_icmp .eq 13, 3) := by decide +kernel
theorem dX12_year_9 : decode cX12_year 9 = .ok (.iload_n 1, 1) := by decide +kernel
theorem dX12_year_10 : decode cX12_year 10 = .ok (.iconst 0, 1) := by decide +kernel
theorem dX12_year_11 : decode cX12_year 11 = .ok (.bipush 99, 2) := by decide +kernel
theorem dX12_year_13 : decode cX12_year 13 = .ok (.invokestatic 392, 3) := by decide +kernel
theorem dX12_year_16 : decode cX12_year 16 = .ok (.ifCond .ne 5, 3) := by decide +kernel
theorem dX12_year_19 : decode cX12_year 19 = .ok (.iconst (-1), 1) := by decide +kernel
theorem dX12_year_20 : decode cX12_year 20 = .ok (.ireturn, 1) := by decide +kernel
theorem dX12_year_21 : decode cX12_year 21 = .ok (.aload_n 0, 1) := by decide +kernel
theorem dX12_year_22 : decode cX12_year 22 = .ok (.getfield 112, 3) := by decide +kernel
theorem dX12_year_25 : decode cX12_year 25 = .ok (.aload_n 0, 1) := by decide +kernel
theorem dX12_year_26 : decode cX12_year 26 = .ok (.getfield 280, 3) := by decide +kernel
theorem dX12_year_29 : decode cX12_year 29 = .ok (.iload_n 1, 1) := by decide +kernel
theorem dX12_year_30 : decode cX12_year 30 = .ok (.iastore, 1) := by decide +kernel
theorem dX12_year_31 : decode cX12_year 31 = .ok (.aload_n 0, 1) := by decide +kernel
theorem dX12_year_32 : decode cX12_year 32 = .ok (.dup, 1) := by decide +kernel
theorem dX12_year_33 : decode cX12_year 33 = .ok (.getfield 280, 3) := by decide +kernel
theorem dX12_year_36 : decode cX12_year 36 = .ok (.iconst 1, 1) := by decide +kernel
theorem dX12_year_37 : decode cX12_year 37 = .ok (.iadd, 1) := by decide +kernel
theorem dX12_year_38 : decode cX12_year 38 = .ok (.putfield 280, 3) := by decide +kernel
theorem dX12_year_41 : decode cX12_year 41 = .ok (.aload_n 0, 1) := by decide +kernel
theorem dX12_year_42 : decode cX12_year 42 = .ok (.getfield 280, 3) := by decide +kernel
theorem dX12_year_45 : decode cX12_year 45 = .ok (.ireturn, 1) := by decide +kernel
theorem b_X12_year (mm : MM) (Q : Value → MM → Prop) (a1 : Int32) (h : ((mm.1 156 50) = (12 : Int32) → (Q (.int (-1 : Int32)) mm)) ∧ (¬ (mm.1 156 50) = (12 : Int32) → ((p_X12_isIn mm a1 (0 : Int32) (99 : Int32) → (vp_in (mm.1 156 50) 12 ∧ (Q (.int ((wI (wI mm 189 ((mm.1 156 50).toNatClampNeg) a1) 156 50 (((wI mm 189 ((mm.1 156 50).toNatClampNeg) a1).1 156 50) + (1 : Int32))).1 156 50)) (wI (wI mm 189 ((mm.1 156 50).toNatClampNeg) a1) 156 50 (((wI mm 189 ((mm.1 156 50).toNatClampNeg) a1).1 156 50) + (1 : Int32)))))) ∧ (¬ p_X12_isIn mm a1 (0 : Int32) (99 : Int32) → (Q (.int (-1 : Int32)) mm))))) : Runs e_X12_year [.ref 156, .int a1] mm Q := by
  refine runs_of_G (L := [(0, .ref 156), (1, .int a1)]) pl_X12 (Nat.le_of_ble_eq_true rfl) rfl ?_
  refine g_aload_n (pc := 0) (x := 156) dX12_year_0 rfl ?_
  refine g_getI (pc := 1) dX12_year_1 fo_X12_280 sh_156 rfl ?_
  refine g_bipush (pc := 4) (v := (12 : Int32)) dX12_year_4 (by decide) ?_
  refine g_icmp_eq (pc := 6) (tgt := 19) dX12_year_6 (by decide) (fun c6 => ?_) (fun c6 => ?_)
  · have h := h.1 c6
    refine g_iconst (pc := 19) (v := (-1 : Int32)) dX12_year_19 (by decide) ?_
    exact g_iret (pc := 20) dX12_year_20 rfl rfl rfl h
  · have h := h.2 c6
    refine g_iload_n (pc := 9) (x := a1) dX12_year_9 rfl ?_
    refine g_iconst (pc := 10) (v := (0 : Int32)) dX12_year_10 (by decide) ?_
    refine g_bipush (pc := 11) (v := (99 : Int32)) dX12_year_11 (by decide) ?_
    refine g_callS (pc := 13) (as := [.int a1, .int (0 : Int32), .int (99 : Int32)]) dX12_year_13 cw_X12_392 (by decide) rfl rfl (Nat.le_of_ble_eq_true rfl) (rv_X12_isIn mm a1 (0 : Int32) (99 : Int32)) ?_
    rintro r_ m_ hz_ ⟨⟨p_, rfl⟩ | ⟨p_, rfl⟩, rfl⟩
    · have h := h.1 p_
      refine g_if_ne (pc := 16) (tgt := 21) dX12_year_16 (by decide) (fun _ => ?_) (fun c16 => absurd c16 (by decide))
      refine g_aload_n (pc := 21) (x := 156) dX12_year_21 rfl ?_
      refine g_getR (pc := 22) (dd := 33) dX12_year_22 fo_X12_112 sh_156 rfl ?_
      refine g_aload_n (pc := 25) (x := 156) dX12_year_25 rfl ?_
      refine g_getI (pc := 26) dX12_year_26 fo_X12_280 sh_156 rfl ?_
      refine g_iload_n (pc := 29) (x := a1) dX12_year_29 rfl ?_
      refine g_iastore (pc := 30) dX12_year_30 sh_189 h.1 ?_
      have h := h.2
      refine g_aload_n (pc := 31) (x := 156) dX12_year_31 rfl ?_
      refine g_dup (pc := 32) dX12_year_32 rfl ?_
      refine g_getI (pc := 33) dX12_year_33 fo_X12_280 sh_156 rfl ?_
      refine g_iconst (pc := 36) (v := (1 : Int32)) dX12_year_36 (by decide) ?_
      refine g_iadd (pc := 37) dX12_year_37 ?_
      refine g_putI (pc := 38) dX12_year_38 fo_X12_280 sh_156 rfl rfl rfl ?_
      refine g_aload_n (pc := 41) (x := 156) dX12_year_41 rfl ?_
      refine g_getI (pc := 42) dX12_year_42 fo_X12_280 sh_156 rfl ?_
      exact g_iret (pc := 45) dX12_year_45 rfl rfl rfl h
    · have h := h.2 p_
      refine g_if_ne (pc := 16) (tgt := 21) dX12_year_16 (by decide) (fun c16 => absurd c16 (by decide)) (fun _ => ?_)
      refine g_iconst (pc := 19) (v := (-1 : Int32)) dX12_year_19 (by decide) ?_
      exact g_iret (pc := 20) dX12_year_20 rfl rfl rfl h
theorem dX12_clear_0 : decode cX12_clear 0 = .ok (.aload_n 0, 1) := by decide +kernel
theorem dX12_clear_1 : decode cX12_clear 1 = .ok (.getfield 280, 3) := by decide +kernel
theorem dX12_clear_4 : decode cX12_clear 4 = .ok (.istore_n 1, 1) := by decide +kernel
theorem dX12_clear_5 : decode cX12_clear 5 = .ok (.aload_n 0, 1) := by decide +kernel
theorem dX12_clear_6 : decode cX12_clear 6 = .ok (.iconst 0, 1) := by decide +kernel
theorem dX12_clear_7 : decode cX12_clear 7 = .ok (.putfield 280, 3) := by decide +kernel
theorem dX12_clear_10 : decode cX12_clear 10 = .ok (.iload_n 1, 1) := by decide +kernel
theorem dX12_clear_11 : decode cX12_clear 11 = .ok (.ireturn, 1) := by decide +kernel
theorem b_X12_clear (mm : MM) (Q : Value → MM → Prop) (h : Q (.int (mm.1 156 50)) (wI mm 156 50 (0 : Int32))) : Runs e_X12_clear [.ref 156] mm Q := by
  refine runs_of_G (L := [(0, .ref 156)]) pl_X12 (Nat.le_of_ble_eq_true rfl) rfl ?_
  refine g_aload_n (pc := 0) (x := 156) dX12_clear_0 rfl ?_
  refine g_getI (pc := 1) dX12_clear_1 fo_X12_280 sh_156 rfl ?_
  refine g_istore_n (pc := 4) (L' := [(0, .ref 156), (1, .int (mm.1 156 50))]) dX12_clear_4 (Nat.le_of_ble_eq_true rfl) rfl ?_
  refine g_aload_n (pc := 5) (x := 156) dX12_clear_5 rfl ?_
  refine g_iconst (pc := 6) (v := (0 : Int32)) dX12_clear_6 (by decide) ?_
  refine g_putI (pc := 7) dX12_clear_7 fo_X12_280 sh_156 rfl rfl rfl ?_
  refine g_iload_n (pc := 10) (x := (mm.1 156 50)) dX12_clear_10 rfl ?_
  exact g_iret (pc := 11) dX12_clear_11 rfl rfl rfl h
theorem dX12_stepCost_0 : decode cX12_stepCost 0 = .ok (.iload_n 0, 1) := by decide +kernel
theorem dX12_stepCost_1 : decode cX12_stepCost 1 = .ok (.iload_n 1, 1) := by decide +kernel
theorem dX12_stepCost_2 : decode cX12_stepCost 2 = .ok (.if_icmp .ne 5, 3) := by decide +kernel
theorem dX12_stepCost_5 : decode cX12_stepCost 5 = .ok (.iconst 0, 1) := by decide +kernel
theorem dX12_stepCost_6 : decode cX12_stepCost 6 = .ok (.ireturn, 1) := by decide +kernel
theorem dX12_stepCost_7 : decode cX12_stepCost 7 = .ok (.iload 4, 2) := by decide +kernel
theorem dX12_stepCost_9 : decode cX12_stepCost 9 = .ok (.iload_n 1, 1) := by decide +kernel
theorem dX12_stepCost_10 : decode cX12_stepCost 10 = .ok (.iload_n 0, 1) := by decide +kernel
theorem dX12_stepCost_11 : decode cX12_stepCost 11 = .ok (.if_icmp .le 11, 3) := by decide +kernel
theorem dX12_stepCost_14 : decode cX12_stepCost 14 = .ok (.iload_n 2, 1) := by decide +kernel
theorem dX12_stepCost_15 : decode cX12_stepCost 15 = .ok (.iload_n 1, 1) := by decide +kernel
theorem dX12_stepCost_16 : decode cX12_stepCost 16 = .ok (.iload_n 0, 1) := by decide +kernel
theorem dX12_stepCost_17 : decode cX12_stepCost 17 = .ok (.isub, 1) := by decide +kernel
theorem dX12_stepCost_18 : decode cX12_stepCost 18 = .ok (.imul, 1) := by decide +kernel
theorem dX12_stepCost_19 : decode cX12_stepCost 19 = .ok (.goto 8, 3) := by decide +kernel
theorem dX12_stepCost_22 : decode cX12_stepCost 22 = .ok (.iload_n 3, 1) := by decide +kernel
theorem dX12_stepCost_23 : decode cX12_stepCost 23 = .ok (.iload_n 0, 1) := by decide +kernel
theorem dX12_stepCost_24 : decode cX12_stepCost 24 = .ok (.iload_n 1, 1) := by decide +kernel
theorem dX12_stepCost_25 : decode cX12_stepCost 25 = .ok (.isub, 1) := by decide +kernel
theorem dX12_stepCost_26 : decode cX12_stepCost 26 = .ok (.imul, 1) := by decide +kernel
theorem dX12_stepCost_27 : decode cX12_stepCost 27 = .ok (.iadd, 1) := by decide +kernel
theorem dX12_stepCost_28 : decode cX12_stepCost 28 = .ok (.ireturn, 1) := by decide +kernel
noncomputable def v_X12_stepCost (mm : MM) (a0 : Int32) (a1 : Int32) (a2 : Int32) (a3 : Int32) (a4 : Int32) : Int32 := (cite (a0 = a1) (0 : Int32) (cite (a1 ≤ a0) (a4 + (a3 * (a0 - a1))) (a4 + (a2 * (a1 - a0)))))
theorem rv_X12_stepCost (mm : MM) (a0 : Int32) (a1 : Int32) (a2 : Int32) (a3 : Int32) (a4 : Int32) : Runs e_X12_stepCost [.int a0, .int a1, .int a2, .int a3, .int a4] mm (fun r m_ => r = .int (v_X12_stepCost mm a0 a1 a2 a3 a4) ∧ mm = m_) := by
  refine runs_of_G (L := [(0, .int a0), (1, .int a1), (2, .int a2), (3, .int a3), (4, .int a4)]) pl_X12 (Nat.le_of_ble_eq_true rfl) rfl ?_
  refine g_iload_n (pc := 0) (x := a0) dX12_stepCost_0 rfl ?_
  refine g_iload_n (pc := 1) (x := a1) dX12_stepCost_1 rfl ?_
  refine g_icmp_ne (pc := 2) (tgt := 7) dX12_stepCost_2 (by decide) (fun c2 => ?_) (fun c2 => ?_)
  · have c2_0 : ¬ a0 = a1 := c2
    refine g_iload (pc := 7) (x := a4) dX12_stepCost_7 rfl ?_
    refine g_iload_n (pc := 9) (x := a1) dX12_stepCost_9 rfl ?_
    refine g_iload_n (pc := 10) (x := a0) dX12_stepCost_10 rfl ?_
    refine g_icmp_le (pc := 11) (tgt := 22) dX12_stepCost_11 (by decide) (fun c11 => ?_) (fun c11 => ?_)
    · have c11_1 : a1 ≤ a0 := c11
      refine g_iload_n (pc := 22) (x := a3) dX12_stepCost_22 rfl ?_
      refine g_iload_n (pc := 23) (x := a0) dX12_stepCost_23 rfl ?_
      refine g_iload_n (pc := 24) (x := a1) dX12_stepCost_24 rfl ?_
      refine g_isub (pc := 25) dX12_stepCost_25 ?_
      refine g_imul (pc := 26) dX12_stepCost_26 ?_
      refine g_iadd (pc := 27) dX12_stepCost_27 ?_
      exact g_iret (pc := 28) dX12_stepCost_28 rfl rfl rfl ⟨(by unfold v_X12_stepCost; rw [cite_neg c2_0, cite_pos c11_1] <;> rfl), rfl⟩
    · have c11_1 : ¬ a1 ≤ a0 := c11
      refine g_iload_n (pc := 14) (x := a2) dX12_stepCost_14 rfl ?_
      refine g_iload_n (pc := 15) (x := a1) dX12_stepCost_15 rfl ?_
      refine g_iload_n (pc := 16) (x := a0) dX12_stepCost_16 rfl ?_
      refine g_isub (pc := 17) dX12_stepCost_17 ?_
      refine g_imul (pc := 18) dX12_stepCost_18 ?_
      refine g_goto (pc := 19) (tgt := 27) dX12_stepCost_19 (by decide) ?_
      refine g_iadd (pc := 27) dX12_stepCost_27 ?_
      exact g_iret (pc := 28) dX12_stepCost_28 rfl rfl rfl ⟨(by unfold v_X12_stepCost; rw [cite_neg c2_0, cite_neg c11_1] <;> rfl), rfl⟩
  · have c2_0 : a0 = a1 := c2
    refine g_iconst (pc := 5) (v := (0 : Int32)) dX12_stepCost_5 (by decide) ?_
    exact g_iret (pc := 6) dX12_stepCost_6 rfl rfl rfl ⟨(by unfold v_X12_stepCost; rw [cite_pos c2_0] <;> rfl), rfl⟩
theorem dX12_mostOf_0 : decode cX12_mostOf 0 = .ok (.bipush 99, 2) := by decide +kernel
theorem dX12_mostOf_2 : decode cX12_mostOf 2 = .ok (.aload_n 0, 1) := by decide +kernel
theorem dX12_mostOf_3 : decode cX12_mostOf 3 = .ok (.getfield 112, 3) := by decide +kernel
theorem dX12_mostOf_6 : decode cX12_mostOf 6 = .ok (.iload_n 1, 1) := by decide +kernel
theorem dX12_mostOf_7 : decode cX12_mostOf 7 = .ok (.iaload, 1) := by decide +kernel
theorem dX12_mostOf_8 : decode cX12_mostOf 8 = .ok (.iload_n 2, 1) := by decide +kernel
theorem dX12_mostOf_9 : decode cX12_mostOf 9 = .ok (.iadd, 1) := by decide +kernel
theorem dX12_mostOf_10 : decode cX12_mostOf 10 = .ok (.invokestatic 442, 3) := by decide +kernel
theorem dX12_mostOf_13 : decode cX12_mostOf 13 = .ok (.ireturn, 1) := by decide +kernel
def o_X12_mostOf (mm : MM) (a1 : Int32) (a2 : Int32) : Prop := vp_in a1 12 ∧ (True)
noncomputable def v_X12_mostOf (mm : MM) (a1 : Int32) (a2 : Int32) : Int32 := (v_X12_least mm (99 : Int32) ((mm.1 189 a1.toNatClampNeg) + a2))
theorem rv_X12_mostOf (mm : MM) (a1 : Int32) (a2 : Int32) (h : o_X12_mostOf mm a1 a2) : Runs e_X12_mostOf [.ref 156, .int a1, .int a2] mm (fun r m_ => r = .int (v_X12_mostOf mm a1 a2) ∧ mm = m_) := by
  refine runs_of_G (L := [(0, .ref 156), (1, .int a1), (2, .int a2)]) pl_X12 (Nat.le_of_ble_eq_true rfl) rfl ?_
  unfold o_X12_mostOf at h
  refine g_bipush (pc := 0) (v := (99 : Int32)) dX12_mostOf_0 (by decide) ?_
  refine g_aload_n (pc := 2) (x := 156) dX12_mostOf_2 rfl ?_
  refine g_getR (pc := 3) (dd := 33) dX12_mostOf_3 fo_X12_112 sh_156 rfl ?_
  refine g_iload_n (pc := 6) (x := a1) dX12_mostOf_6 rfl ?_
  refine g_iaload (pc := 7) dX12_mostOf_7 sh_189 h.1 ?_
  have h := h.2
  refine g_iload_n (pc := 8) (x := a2) dX12_mostOf_8 rfl ?_
  refine g_iadd (pc := 9) dX12_mostOf_9 ?_
  refine g_callS (pc := 10) (as := [.int (99 : Int32), .int ((mm.1 189 a1.toNatClampNeg) + a2)]) dX12_mostOf_10 cw_X12_442 (by decide) rfl rfl (Nat.le_of_ble_eq_true rfl) (rv_X12_least mm (99 : Int32) ((mm.1 189 a1.toNatClampNeg) + a2)) ?_
  rintro r_ m_ hz_ ⟨rfl, rfl⟩
  exact g_iret (pc := 13) dX12_mostOf_13 rfl rfl rfl ⟨rfl, rfl⟩
theorem dX12_layPosts_0 : decode cX12_layPosts 0 = .ok (.iconst 0, 1) := by decide +kernel
theorem dX12_layPosts_1 : decode cX12_layPosts 1 = .ok (.istore 5, 2) := by decide +kernel
theorem dX12_layPosts_3 : decode cX12_layPosts 3 = .ok (.iload 5, 2) := by decide +kernel
theorem dX12_layPosts_5 : decode cX12_layPosts 5 = .ok (.bipush 100, 2) := by decide +kernel
theorem dX12_layPosts_7 : decode cX12_layPosts 7 = .ok (.if_icmp .ge 25, 3) := by decide +kernel
theorem dX12_layPosts_10 : decode cX12_layPosts 10 = .ok (.aload_n 0, 1) := by decide +kernel
theorem dX12_layPosts_11 : decode cX12_layPosts 11 = .ok (.getfield 115, 3) := by decide +kernel
theorem dX12_layPosts_14 : decode cX12_layPosts 14 = .ok (.bipush 100, 2) := by decide +kernel
theorem dX12_layPosts_16 : decode cX12_layPosts 16 = .ok (.aload_n 0, 1) := by decide +kernel
theorem dX12_layPosts_17 : decode cX12_layPosts 17 = .ok (.getfield 280, 3) := by decide +kernel
theorem dX12_layPosts_20 : decode cX12_layPosts 20 = .ok (.imul, 1) := by decide +kernel
theorem dX12_layPosts_21 : decode cX12_layPosts 21 = .ok (.iload 5, 2) := by decide +kernel
theorem dX12_layPosts_23 : decode cX12_layPosts 23 = .ok (.iadd, 1) := by decide +kernel
theorem dX12_layPosts_24 : decode cX12_layPosts 24 = .ok (.iconst 0, 1) := by decide +kernel
theorem dX12_layPosts_25 : decode cX12_layPosts 25 = .ok (.iastore, 1) := by decide +kernel
theorem dX12_layPosts_26 : decode cX12_layPosts 26 = .ok (.iinc 5 1, 3) := by decide +kernel
theorem dX12_layPosts_29 : decode cX12_layPosts 29 = .ok (.goto (-26), 3) := by decide +kernel
theorem dX12_layPosts_32 : decode cX12_layPosts 32 = .ok (.aload_n 0, 1) := by decide +kernel
theorem dX12_layPosts_33 : decode cX12_layPosts 33 = .ok (.getfield 280, 3) := by decide +kernel
theorem dX12_layPosts_36 : decode cX12_layPosts 36 = .ok (.iconst 1, 1) := by decide +kernel
theorem dX12_layPosts_37 : decode cX12_layPosts 37 = .ok (.isub, 1) := by decide +kernel
theorem dX12_layPosts_38 : decode cX12_layPosts 38 = .ok (.istore 5, 2) := by decide +kernel
theorem dX12_layPosts_40 : decode cX12_layPosts 40 = .ok (.iload 5, 2) := by decide +kernel
theorem dX12_layPosts_42 : decode cX12_layPosts 42 = .ok (.ifCond .lt 107, 3) := by decide +kernel
theorem dX12_layPosts_45 : decode cX12_layPosts 45 = .ok (.iconst 0, 1) := by decide +kernel
theorem dX12_layPosts_46 : decode cX12_layPosts 46 = .ok (.istore 6, 2) := by decide +kernel
theorem dX12_layPosts_48 : decode cX12_layPosts 48 = .ok (.iload 6, 2) := by decide +kernel
theorem dX12_layPosts_50 : decode cX12_layPosts 50 = .ok (.bipush 100, 2) := by decide +kernel
theorem dX12_layPosts_52 : decode cX12_layPosts 52 = .ok (.if_icmp .ge 91, 3) := by decide +kernel
theorem dX12_layPosts_55 : decode cX12_layPosts 55 = .ok (.ldc_w 441, 3) := by decide +kernel
theorem dX12_layPosts_58 : decode cX12_layPosts 58 = .ok (.istore 7, 2) := by decide +kernel
theorem dX12_layPosts_60 : decode cX12_layPosts 60 = .ok (.aload_n 0, 1) := by decide +kernel
theorem dX12_layPosts_61 : decode cX12_layPosts 61 = .ok (.getfield 112, 3) := by decide +kernel
theorem dX12_layPosts_64 : decode cX12_layPosts 64 = .ok (.iload 5, 2) := by decide +kernel
theorem dX12_layPosts_66 : decode cX12_layPosts 66 = .ok (.iaload, 1) := by decide +kernel
theorem dX12_layPosts_67 : decode cX12_layPosts 67 = .ok (.istore 8, 2) := by decide +kernel
theorem dX12_layPosts_69 : decode cX12_layPosts 69 = .ok (.iload 8, 2) := by decide +kernel
theorem dX12_layPosts_71 : decode cX12_layPosts 71 = .ok (.aload_n 0, 1) := by decide +kernel
theorem dX12_layPosts_72 : decode cX12_layPosts 72 = .ok (.iload 5, 2) := by decide +kernel
theorem dX12_layPosts_74 : decode cX12_layPosts 74 = .ok (.iload_n 1, 1) := by decide +kernel
theorem dX12_layPosts_75 : decode cX12_layPosts 75 = .ok (.invokevirtual 499, 3) := by decide +kernel
theorem dX12_layPosts_78 : decode cX12_layPosts 78 = .ok (.if_icmp .gt 44, 3) := by decide +kernel
theorem dX12_layPosts_81 : decode cX12_layPosts 81 = .ok (.iload 7, 2) := by decide +kernel
theorem dX12_layPosts_83 : decode cX12_layPosts 83 = .ok (.iload 6, 2) := by decide +kernel
theorem dX12_layPosts_85 : decode cX12_layPosts 85 = .ok (.iload 8, 2) := by decide +kernel
theorem dX12_layPosts_87 : decode cX12_layPosts 87 = .ok (.iload_n 2, 1) := by decide +kernel
theorem dX12_layPosts_88 : decode cX12_layPosts 88 = .ok (.iload_n 3, 1) := by decide +kernel
theorem dX12_layPosts_89 : decode cX12_layPosts 89 = .ok (.iload 4, 2) := by decide +kernel
theorem dX12_layPosts_91 : decode cX12_layPosts 91 = .ok (.invokestatic 502, 3) := by decide +kernel
theorem dX12_layPosts_94 : decode cX12_layPosts 94 = .ok (.aload_n 0, 1) := by decide +kernel
theorem dX12_layPosts_95 : decode cX12_layPosts 95 = .ok (.getfield 115, 3) := by decide +kernel
theorem dX12_layPosts_98 : decode cX12_layPosts 98 = .ok (.bipush 100, 2) := by decide +kernel
theorem dX12_layPosts_100 : decode cX12_layPosts 100 = .ok (.iload 5, 2) := by decide +kernel
theorem dX12_layPosts_102 : decode cX12_layPosts 102 = .ok (.imul, 1) := by decide +kernel
theorem dX12_layPosts_103 : decode cX12_layPosts 103 = .ok (.bipush 100, 2) := by decide +kernel
theorem dX12_layPosts_105 : decode cX12_layPosts 105 = .ok (.iadd, 1) := by decide +kernel
theorem dX12_layPosts_106 : decode cX12_layPosts 106 = .ok (.iload 8, 2) := by decide +kernel
theorem dX12_layPosts_108 : decode cX12_layPosts 108 = .ok (.iadd, 1) := by decide +kernel
theorem dX12_layPosts_109 : decode cX12_layPosts 109 = .ok (.iaload, 1) := by decide +kernel
theorem dX12_layPosts_110 : decode cX12_layPosts 110 = .ok (.iadd, 1) := by decide +kernel
theorem dX12_layPosts_111 : decode cX12_layPosts 111 = .ok (.invokestatic 442, 3) := by decide +kernel
theorem dX12_layPosts_114 : decode cX12_layPosts 114 = .ok (.istore 7, 2) := by decide +kernel
theorem dX12_layPosts_116 : decode cX12_layPosts 116 = .ok (.iinc 8 1, 3) := by decide +kernel
theorem dX12_layPosts_119 : decode cX12_layPosts 119 = .ok (.goto (-50), 3) := by decide +kernel
theorem dX12_layPosts_122 : decode cX12_layPosts 122 = .ok (.aload_n 0, 1) := by decide +kernel
theorem dX12_layPosts_123 : decode cX12_layPosts 123 = .ok (.getfield 115, 3) := by decide +kernel
theorem dX12_layPosts_126 : decode cX12_layPosts 126 = .ok (.bipush 100, 2) := by decide +kernel
theorem dX12_layPosts_128 : decode cX12_layPosts 128 = .ok (.iload 5, 2) := by decide +kernel
theorem dX12_layPosts_130 : decode cX12_layPosts 130 = .ok (.imul, 1) := by decide +kernel
theorem dX12_layPosts_131 : decode cX12_layPosts 131 = .ok (.iload 6, 2) := by decide +kernel
theorem dX12_layPosts_133 : decode cX12_layPosts 133 = .ok (.iadd, 1) := by decide +kernel
theorem dX12_layPosts_134 : decode cX12_layPosts 134 = .ok (.iload 7, 2) := by decide +kernel
theorem dX12_layPosts_136 : decode cX12_layPosts 136 = .ok (.iastore, 1) := by decide +kernel
theorem dX12_layPosts_137 : decode cX12_layPosts 137 = .ok (.iinc 6 1, 3) := by decide +kernel
theorem dX12_layPosts_140 : decode cX12_layPosts 140 = .ok (.goto (-92), 3) := by decide +kernel
theorem dX12_layPosts_143 : decode cX12_layPosts 143 = .ok (.iinc 5 (-1), 3) := by decide +kernel
theorem dX12_layPosts_146 : decode cX12_layPosts 146 = .ok (.goto (-106), 3) := by decide +kernel
theorem dX12_layPosts_149 : decode cX12_layPosts 149 = .ok (.return_, 1) := by decide +kernel
theorem b_X12_layPosts (mm : MM) (Q : Value → MM → Prop) (a1 : Int32) (a2 : Int32) (a3 : Int32) (a4 : Int32) (h : G e_X12_layPosts 3 [(0, .ref 156), (1, .int a1), (2, .int a2), (3, .int a3), (4, .int a4), (5, .int (0 : Int32))] [] mm Q) : Runs e_X12_layPosts [.ref 156, .int a1, .int a2, .int a3, .int a4] mm Q := by
  refine runs_of_G (L := [(0, .ref 156), (1, .int a1), (2, .int a2), (3, .int a3), (4, .int a4)]) pl_X12 (Nat.le_of_ble_eq_true rfl) rfl ?_
  refine g_iconst (pc := 0) (v := (0 : Int32)) dX12_layPosts_0 (by decide) ?_
  refine g_istore (pc := 1) (L' := [(0, .ref 156), (1, .int a1), (2, .int a2), (3, .int a3), (4, .int a4), (5, .int (0 : Int32))]) dX12_layPosts_1 (Nat.le_of_ble_eq_true rfl) rfl ?_
  exact h
theorem b_X12_layPosts_3 (mm : MM) (Q : Value → MM → Prop) (l1 : Int32) (l2 : Int32) (l3 : Int32) (l4 : Int32) (l5 : Int32) (h : ((100 : Int32) ≤ l5 → (G e_X12_layPosts 40 [(0, .ref 156), (1, .int l1), (2, .int l2), (3, .int l3), (4, .int l4), (5, .int ((mm.1 156 50) - (1 : Int32)))] [] mm Q)) ∧ (¬ (100 : Int32) ≤ l5 → (vp_in (((100 : Int32) * (mm.1 156 50)) + l5) 1300 ∧ (G e_X12_layPosts 3 [(0, .ref 156), (1, .int l1), (2, .int l2), (3, .int l3), (4, .int l4), (5, .int (l5 + (1 : Int32)))] [] (wI mm 190 ((((100 : Int32) * (mm.1 156 50)) + l5).toNatClampNeg) (0 : Int32)) Q)))) : G e_X12_layPosts 3 [(0, .ref 156), (1, .int l1), (2, .int l2), (3, .int l3), (4, .int l4), (5, .int l5)] [] mm Q := by
  refine g_iload (pc := 3) (x := l5) dX12_layPosts_3 rfl ?_
  refine g_bipush (pc := 5) (v := (100 : Int32)) dX12_layPosts_5 (by decide) ?_
  refine g_icmp_ge (pc := 7) (tgt := 32) dX12_layPosts_7 (by decide) (fun c7 => ?_) (fun c7 => ?_)
  · have h := h.1 c7
    refine g_aload_n (pc := 32) (x := 156) dX12_layPosts_32 rfl ?_
    refine g_getI (pc := 33) dX12_layPosts_33 fo_X12_280 sh_156 rfl ?_
    refine g_iconst (pc := 36) (v := (1 : Int32)) dX12_layPosts_36 (by decide) ?_
    refine g_isub (pc := 37) dX12_layPosts_37 ?_
    refine g_istore (pc := 38) (L' := [(0, .ref 156), (1, .int l1), (2, .int l2), (3, .int l3), (4, .int l4), (5, .int ((mm.1 156 50) - (1 : Int32)))]) dX12_layPosts_38 (Nat.le_of_ble_eq_true rfl) rfl ?_
    exact h
  · have h := h.2 c7
    refine g_aload_n (pc := 10) (x := 156) dX12_layPosts_10 rfl ?_
    refine g_getR (pc := 11) (dd := 34) dX12_layPosts_11 fo_X12_115 sh_156 rfl ?_
    refine g_bipush (pc := 14) (v := (100 : Int32)) dX12_layPosts_14 (by decide) ?_
    refine g_aload_n (pc := 16) (x := 156) dX12_layPosts_16 rfl ?_
    refine g_getI (pc := 17) dX12_layPosts_17 fo_X12_280 sh_156 rfl ?_
    refine g_imul (pc := 20) dX12_layPosts_20 ?_
    refine g_iload (pc := 21) (x := l5) dX12_layPosts_21 rfl ?_
    refine g_iadd (pc := 23) dX12_layPosts_23 ?_
    refine g_iconst (pc := 24) (v := (0 : Int32)) dX12_layPosts_24 (by decide) ?_
    refine g_iastore (pc := 25) dX12_layPosts_25 sh_190 h.1 ?_
    have h := h.2
    refine g_iinc (pc := 26) (x := l5) (v := (l5 + (1 : Int32))) (L' := [(0, .ref 156), (1, .int l1), (2, .int l2), (3, .int l3), (4, .int l4), (5, .int (l5 + (1 : Int32)))]) dX12_layPosts_26 rfl rfl (Nat.le_of_ble_eq_true rfl) rfl ?_
    refine g_goto (pc := 29) (tgt := 3) dX12_layPosts_29 (by decide) ?_
    exact h
theorem b_X12_layPosts_40 (mm : MM) (Q : Value → MM → Prop) (l1 : Int32) (l2 : Int32) (l3 : Int32) (l4 : Int32) (l5 : Int32) (h : (l5 < 0 → (Q .null mm)) ∧ (¬ l5 < 0 → (G e_X12_layPosts 48 [(0, .ref 156), (1, .int l1), (2, .int l2), (3, .int l3), (4, .int l4), (5, .int l5), (6, .int (0 : Int32))] [] mm Q))) : G e_X12_layPosts 40 [(0, .ref 156), (1, .int l1), (2, .int l2), (3, .int l3), (4, .int l4), (5, .int l5)] [] mm Q := by
  refine g_iload (pc := 40) (x := l5) dX12_layPosts_40 rfl ?_
  refine g_if_lt (pc := 42) (tgt := 149) dX12_layPosts_42 (by decide) (fun c42 => ?_) (fun c42 => ?_)
  · have h := h.1 c42
    exact g_vret (pc := 149) dX12_layPosts_149 rfl rfl h
  · have h := h.2 c42
    refine g_iconst (pc := 45) (v := (0 : Int32)) dX12_layPosts_45 (by decide) ?_
    refine g_istore (pc := 46) (L' := [(0, .ref 156), (1, .int l1), (2, .int l2), (3, .int l3), (4, .int l4), (5, .int l5), (6, .int (0 : Int32))]) dX12_layPosts_46 (Nat.le_of_ble_eq_true rfl) rfl ?_
    exact h

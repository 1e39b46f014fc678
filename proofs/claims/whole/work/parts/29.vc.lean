theorem b_X12_layPosts_48 (mm : MM) (Q : Value → MM → Prop) (l1 : Int32) (l2 : Int32) (l3 : Int32) (l4 : Int32) (l5 : Int32) (l6 : Int32) (h : ((100 : Int32) ≤ l6 → (G e_X12_layPosts 40 [(0, .ref 156), (1, .int l1), (2, .int l2), (3, .int l3), (4, .int l4), (5, .int (l5 + (-1 : Int32)))] [] mm Q)) ∧ (¬ (100 : Int32) ≤ l6 → (vp_in l5 12 ∧ (G e_X12_layPosts 69 [(0, .ref 156), (1, .int l1), (2, .int l2), (3, .int l3), (4, .int l4), (5, .int l5), (6, .int l6), (7, .int (1000000 : Int32)), (8, .int (mm.1 189 l5.toNatClampNeg))] [] mm Q)))) : G e_X12_layPosts 48 [(0, .ref 156), (1, .int l1), (2, .int l2), (3, .int l3), (4, .int l4), (5, .int l5), (6, .int l6)] [] mm Q := by
  refine g_iload (pc := 48) (x := l6) dX12_layPosts_48 rfl ?_
  refine g_bipush (pc := 50) (v := (100 : Int32)) dX12_layPosts_50 (by decide) ?_
  refine g_icmp_ge (pc := 52) (tgt := 143) dX12_layPosts_52 (by decide) (fun c52 => ?_) (fun c52 => ?_)
  · have h := h.1 c52
    refine g_iinc (pc := 143) (x := l5) (v := (l5 + (-1 : Int32))) (L' := [(0, .ref 156), (1, .int l1), (2, .int l2), (3, .int l3), (4, .int l4), (5, .int (l5 + (-1 : Int32))), (6, .int l6)]) dX12_layPosts_143 rfl rfl (Nat.le_of_ble_eq_true rfl) rfl ?_
    refine g_goto (pc := 146) (tgt := 40) dX12_layPosts_146 (by decide) ?_
    refine g_sub (L' := [(0, .ref 156), (1, .int l1), (2, .int l2), (3, .int l3), (4, .int l4), (5, .int (l5 + (-1 : Int32)))]) [0, 1, 2, 3, 4, 5] rfl ?_
    exact h
  · have h := h.2 c52
    refine g_ldcw (pc := 55) (v := (1000000 : Int32)) dX12_layPosts_55 ct_X12_441 ?_
    refine g_istore (pc := 58) (L' := [(0, .ref 156), (1, .int l1), (2, .int l2), (3, .int l3), (4, .int l4), (5, .int l5), (6, .int l6), (7, .int (1000000 : Int32))]) dX12_layPosts_58 (Nat.le_of_ble_eq_true rfl) rfl ?_
    refine g_aload_n (pc := 60) (x := 156) dX12_layPosts_60 rfl ?_
    refine g_getR (pc := 61) (dd := 33) dX12_layPosts_61 fo_X12_112 sh_156 rfl ?_
    refine g_iload (pc := 64) (x := l5) dX12_layPosts_64 rfl ?_
    refine g_iaload (pc := 66) dX12_layPosts_66 sh_189 h.1 ?_
    have h := h.2
    refine g_istore (pc := 67) (L' := [(0, .ref 156), (1, .int l1), (2, .int l2), (3, .int l3), (4, .int l4), (5, .int l5), (6, .int l6), (7, .int (1000000 : Int32)), (8, .int (mm.1 189 l5.toNatClampNeg))]) dX12_layPosts_67 (Nat.le_of_ble_eq_true rfl) rfl ?_
    exact h
theorem b_X12_layPosts_69 (mm : MM) (Q : Value → MM → Prop) (l1 : Int32) (l2 : Int32) (l3 : Int32) (l4 : Int32) (l5 : Int32) (l6 : Int32) (l7 : Int32) (l8 : Int32) (h : o_X12_mostOf mm l5 l1 ∧ (((v_X12_mostOf mm l5 l1) < l8 → (vp_in (((100 : Int32) * l5) + l6) 1300 ∧ (G e_X12_layPosts 48 [(0, .ref 156), (1, .int l1), (2, .int l2), (3, .int l3), (4, .int l4), (5, .int l5), (6, .int (l6 + (1 : Int32)))] [] (wI mm 190 ((((100 : Int32) * l5) + l6).toNatClampNeg) l7) Q))) ∧ (¬ (v_X12_mostOf mm l5 l1) < l8 → (vp_in ((((100 : Int32) * l5) + (100 : Int32)) + l8) 1300 ∧ (G e_X12_layPosts 69 [(0, .ref 156), (1, .int l1), (2, .int l2), (3, .int l3), (4, .int l4), (5, .int l5), (6, .int l6), (7, .int (v_X12_least mm l7 ((v_X12_stepCost mm l6 l8 l2 l3 l4) + (mm.1 190 ((((100 : Int32) * l5) + (100 : Int32)) + l8).toNatClampNeg)))), (8, .int (l8 + (1 : Int32)))] [] mm Q))))) : G e_X12_layPosts 69 [(0, .ref 156), (1, .int l1), (2, .int l2), (3, .int l3), (4, .int l4), (5, .int l5), (6, .int l6), (7, .int l7), (8, .int l8)] [] mm Q := by
  refine g_iload (pc := 69) (x := l8) dX12_layPosts_69 rfl ?_
  refine g_aload_n (pc := 71) (x := 156) dX12_layPosts_71 rfl ?_
  refine g_iload (pc := 72) (x := l5) dX12_layPosts_72 rfl ?_
  refine g_iload_n (pc := 74) (x := l1) dX12_layPosts_74 rfl ?_
  refine g_callV (pc := 75) (as := [.int l5, .int l1]) dX12_layPosts_75 cw_X12_499 (by decide) rfl rfl sh_156 (Nat.le_of_ble_eq_true rfl) (rv_X12_mostOf mm l5 l1 h.1) ?_
  have h := h.2
  rintro r_ m_ hz_ ⟨rfl, rfl⟩
  refine g_icmp_gt (pc := 78) (tgt := 122) dX12_layPosts_78 (by decide) (fun c78 => ?_) (fun c78 => ?_)
  · have h := h.1 c78
    refine g_aload_n (pc := 122) (x := 156) dX12_layPosts_122 rfl ?_
    refine g_getR (pc := 123) (dd := 34) dX12_layPosts_123 fo_X12_115 sh_156 rfl ?_
    refine g_bipush (pc := 126) (v := (100 : Int32)) dX12_layPosts_126 (by decide) ?_
    refine g_iload (pc := 128) (x := l5) dX12_layPosts_128 rfl ?_
    refine g_imul (pc := 130) dX12_layPosts_130 ?_
    refine g_iload (pc := 131) (x := l6) dX12_layPosts_131 rfl ?_
    refine g_iadd (pc := 133) dX12_layPosts_133 ?_
    refine g_iload (pc := 134) (x := l7) dX12_layPosts_134 rfl ?_
    refine g_iastore (pc := 136) dX12_layPosts_136 sh_190 h.1 ?_
    have h := h.2
    refine g_iinc (pc := 137) (x := l6) (v := (l6 + (1 : Int32))) (L' := [(0, .ref 156), (1, .int l1), (2, .int l2), (3, .int l3), (4, .int l4), (5, .int l5), (6, .int (l6 + (1 : Int32))), (7, .int l7), (8, .int l8)]) dX12_layPosts_137 rfl rfl (Nat.le_of_ble_eq_true rfl) rfl ?_
    refine g_goto (pc := 140) (tgt := 48) dX12_layPosts_140 (by decide) ?_
    refine g_sub (L' := [(0, .ref 156), (1, .int l1), (2, .int l2), (3, .int l3), (4, .int l4), (5, .int l5), (6, .int (l6 + (1 : Int32)))]) [0, 1, 2, 3, 4, 5, 6] rfl ?_
    exact h
  · have h := h.2 c78
    refine g_iload (pc := 81) (x := l7) dX12_layPosts_81 rfl ?_
    refine g_iload (pc := 83) (x := l6) dX12_layPosts_83 rfl ?_
    refine g_iload (pc := 85) (x := l8) dX12_layPosts_85 rfl ?_
    refine g_iload_n (pc := 87) (x := l2) dX12_layPosts_87 rfl ?_
    refine g_iload_n (pc := 88) (x := l3) dX12_layPosts_88 rfl ?_
    refine g_iload (pc := 89) (x := l4) dX12_layPosts_89 rfl ?_
    refine g_callS (pc := 91) (as := [.int l6, .int l8, .int l2, .int l3, .int l4]) dX12_layPosts_91 cw_X12_502 (by decide) rfl rfl (Nat.le_of_ble_eq_true rfl) (rv_X12_stepCost mm l6 l8 l2 l3 l4) ?_
    rintro r_ m_ hz_ ⟨rfl, rfl⟩
    refine g_aload_n (pc := 94) (x := 156) dX12_layPosts_94 rfl ?_
    refine g_getR (pc := 95) (dd := 34) dX12_layPosts_95 fo_X12_115 sh_156 rfl ?_
    refine g_bipush (pc := 98) (v := (100 : Int32)) dX12_layPosts_98 (by decide) ?_
    refine g_iload (pc := 100) (x := l5) dX12_layPosts_100 rfl ?_
    refine g_imul (pc := 102) dX12_layPosts_102 ?_
    refine g_bipush (pc := 103) (v := (100 : Int32)) dX12_layPosts_103 (by decide) ?_
    refine g_iadd (pc := 105) dX12_layPosts_105 ?_
    refine g_iload (pc := 106) (x := l8) dX12_layPosts_106 rfl ?_
    refine g_iadd (pc := 108) dX12_layPosts_108 ?_
    refine g_iaload (pc := 109) dX12_layPosts_109 sh_190 h.1 ?_
    have h := h.2
    refine g_iadd (pc := 110) dX12_layPosts_110 ?_
    refine g_callS (pc := 111) (as := [.int l7, .int ((v_X12_stepCost mm l6 l8 l2 l3 l4) + (mm.1 190 ((((100 : Int32) * l5) + (100 : Int32)) + l8).toNatClampNeg))]) dX12_layPosts_111 cw_X12_442 (by decide) rfl rfl (Nat.le_of_ble_eq_true rfl) (rv_X12_least mm l7 ((v_X12_stepCost mm l6 l8 l2 l3 l4) + (mm.1 190 ((((100 : Int32) * l5) + (100 : Int32)) + l8).toNatClampNeg))) ?_
    rintro r_ m_ hz_ ⟨rfl, rfl⟩
    refine g_istore (pc := 114) (L' := [(0, .ref 156), (1, .int l1), (2, .int l2), (3, .int l3), (4, .int l4), (5, .int l5), (6, .int l6), (7, .int (v_X12_least mm l7 ((v_X12_stepCost mm l6 l8 l2 l3 l4) + (mm.1 190 ((((100 : Int32) * l5) + (100 : Int32)) + l8).toNatClampNeg)))), (8, .int l8)]) dX12_layPosts_114 (Nat.le_of_ble_eq_true rfl) rfl ?_
    refine g_iinc (pc := 116) (x := l8) (v := (l8 + (1 : Int32))) (L' := [(0, .ref 156), (1, .int l1), (2, .int l2), (3, .int l3), (4, .int l4), (5, .int l5), (6, .int l6), (7, .int (v_X12_least mm l7 ((v_X12_stepCost mm l6 l8 l2 l3 l4) + (mm.1 190 ((((100 : Int32) * l5) + (100 : Int32)) + l8).toNatClampNeg)))), (8, .int (l8 + (1 : Int32)))]) dX12_layPosts_116 rfl rfl (Nat.le_of_ble_eq_true rfl) rfl ?_
    refine g_goto (pc := 119) (tgt := 69) dX12_layPosts_119 (by decide) ?_
    exact h
theorem dX12_isPosts_0 : decode cX12_isPosts 0 = .ok (.iload_n 0, 1) := by decide +kernel
theorem dX12_isPosts_1 : decode cX12_isPosts 1 = .ok (.iconst 0, 1) := by decide +kernel
theorem dX12_isPosts_2 : decode cX12_isPosts 2 = .ok (.bipush 99, 2) := by decide +kernel
theorem dX12_isPosts_4 : decode cX12_isPosts 4 = .ok (.invokestatic 392, 3) := by decide +kernel
theorem dX12_isPosts_7 : decode cX12_isPosts 7 = .ok (.ifCond .eq 48, 3) := by decide +kernel
theorem dX12_isPosts_10 : decode cX12_isPosts 10 = .ok (.iload_n 1, 1) := by decide +kernel
theorem dX12_isPosts_11 : decode cX12_isPosts 11 = .ok (.iconst 0, 1) := by decide +kernel
theorem dX12_isPosts_12 : decode cX12_isPosts 12 = .ok (.bipush 99, 2) := by decide +kernel
theorem dX12_isPosts_14 : decode cX12_isPosts 14 = .ok (.invokestatic 392, 3) := by decide +kernel
theorem dX12_isPosts_17 : decode cX12_isPosts 17 = .ok (.ifCond .eq 38, 3) := by decide +kernel
theorem dX12_isPosts_20 : decode cX12_isPosts 20 = .ok (.iload_n 2, 1) := by decide +kernel
theorem dX12_isPosts_21 : decode cX12_isPosts 21 = .ok (.iconst 0, 1) := by decide +kernel
theorem dX12_isPosts_22 : decode cX12_isPosts 22 = .ok (.bipush 99, 2) := by decide +kernel
theorem dX12_isPosts_24 : decode cX12_isPosts 24 = .ok (.invokestatic 392, 3) := by decide +kernel
theorem dX12_isPosts_27 : decode cX12_isPosts 27 = .ok (.ifCond .eq 28, 3) := by decide +kernel
theorem dX12_isPosts_30 : decode cX12_isPosts 30 = .ok (.iload_n 3, 1) := by decide +kernel
theorem dX12_isPosts_31 : decode cX12_isPosts 31 = .ok (.iconst 0, 1) := by decide +kernel
theorem dX12_isPosts_32 : decode cX12_isPosts 32 = .ok (.bipush 99, 2) := by decide +kernel
theorem dX12_isPosts_34 : decode cX12_isPosts 34 = .ok (.invokestatic 392, 3) := by decide +kernel
theorem dX12_isPosts_37 : decode cX12_isPosts 37 = .ok (.ifCond .eq 18, 3) := by decide +kernel
theorem dX12_isPosts_40 : decode cX12_isPosts 40 = .ok (.iload 4, 2) := by decide +kernel
theorem dX12_isPosts_42 : decode cX12_isPosts 42 = .ok (.iconst 0, 1) := by decide +kernel
theorem dX12_isPosts_43 : decode cX12_isPosts 43 = .ok (.bipush 99, 2) := by decide +kernel
theorem dX12_isPosts_45 : decode cX12_isPosts 45 = .ok (.invokestatic 392, 3) := by decide +kernel
theorem dX12_isPosts_48 : decode cX12_isPosts 48 = .ok (.ifCond .eq 7, 3) := by decide +kernel
theorem dX12_isPosts_51 : decode cX12_isPosts 51 = .ok (.iconst 1, 1) := by decide +kernel
theorem dX12_isPosts_52 : decode cX12_isPosts 52 = .ok (.goto 4, 3) := by decide +kernel
theorem dX12_isPosts_55 : decode cX12_isPosts 55 = .ok (.iconst 0, 1) := by decide +kernel
theorem dX12_isPosts_56 : decode cX12_isPosts 56 = .ok (.ireturn, 1) := by decide +kernel
def p_X12_isPosts (mm : MM) (a0 : Int32) (a1 : Int32) (a2 : Int32) (a3 : Int32) (a4 : Int32) : Prop := (p_X12_isIn mm a0 (0 : Int32) (99 : Int32) ∧ (p_X12_isIn mm a1 (0 : Int32) (99 : Int32) ∧ (p_X12_isIn mm a2 (0 : Int32) (99 : Int32) ∧ (p_X12_isIn mm a3 (0 : Int32) (99 : Int32) ∧ p_X12_isIn mm a4 (0 : Int32) (99 : Int32)))))
theorem rv_X12_isPosts (mm : MM) (a0 : Int32) (a1 : Int32) (a2 : Int32) (a3 : Int32) (a4 : Int32) : Runs e_X12_isPosts [.int a0, .int a1, .int a2, .int a3, .int a4] mm (fun r m_ => ((p_X12_isPosts mm a0 a1 a2 a3 a4 ∧ r = .int 1) ∨ (¬ p_X12_isPosts mm a0 a1 a2 a3 a4 ∧ r = .int 0)) ∧ mm = m_) := by
  refine runs_of_G (L := [(0, .int a0), (1, .int a1), (2, .int a2), (3, .int a3), (4, .int a4)]) pl_X12 (Nat.le_of_ble_eq_true rfl) rfl ?_
  refine g_iload_n (pc := 0) (x := a0) dX12_isPosts_0 rfl ?_
  refine g_iconst (pc := 1) (v := (0 : Int32)) dX12_isPosts_1 (by decide) ?_
  refine g_bipush (pc := 2) (v := (99 : Int32)) dX12_isPosts_2 (by decide) ?_
  refine g_callS (pc := 4) (as := [.int a0, .int (0 : Int32), .int (99 : Int32)]) dX12_isPosts_4 cw_X12_392 (by decide) rfl rfl (Nat.le_of_ble_eq_true rfl) (rv_X12_isIn mm a0 (0 : Int32) (99 : Int32)) ?_
  rintro r_ m_ hz_ ⟨⟨p_, rfl⟩ | ⟨p_, rfl⟩, rfl⟩
  · have p__0 : p_X12_isIn mm a0 (0 : Int32) (99 : Int32) := p_
    refine g_if_eq (pc := 7) (tgt := 55) dX12_isPosts_7 (by decide) (fun c7 => absurd c7 (by decide)) (fun _ => ?_)
    refine g_iload_n (pc := 10) (x := a1) dX12_isPosts_10 rfl ?_
    refine g_iconst (pc := 11) (v := (0 : Int32)) dX12_isPosts_11 (by decide) ?_
    refine g_bipush (pc := 12) (v := (99 : Int32)) dX12_isPosts_12 (by decide) ?_
    refine g_callS (pc := 14) (as := [.int a1, .int (0 : Int32), .int (99 : Int32)]) dX12_isPosts_14 cw_X12_392 (by decide) rfl rfl (Nat.le_of_ble_eq_true rfl) (rv_X12_isIn mm a1 (0 : Int32) (99 : Int32)) ?_
    rintro r_ m_ hz_ ⟨⟨p_, rfl⟩ | ⟨p_, rfl⟩, rfl⟩
    · have p__1 : p_X12_isIn mm a1 (0 : Int32) (99 : Int32) := p_
      refine g_if_eq (pc := 17) (tgt := 55) dX12_isPosts_17 (by decide) (fun c17 => absurd c17 (by decide)) (fun _ => ?_)
      refine g_iload_n (pc := 20) (x := a2) dX12_isPosts_20 rfl ?_
      refine g_iconst (pc := 21) (v := (0 : Int32)) dX12_isPosts_21 (by decide) ?_
      refine g_bipush (pc := 22) (v := (99 : Int32)) dX12_isPosts_22 (by decide) ?_
      refine g_callS (pc := 24) (as := [.int a2, .int (0 : Int32), .int (99 : Int32)]) dX12_isPosts_24 cw_X12_392 (by decide) rfl rfl (Nat.le_of_ble_eq_true rfl) (rv_X12_isIn mm a2 (0 : Int32) (99 : Int32)) ?_
      rintro r_ m_ hz_ ⟨⟨p_, rfl⟩ | ⟨p_, rfl⟩, rfl⟩
      · have p__2 : p_X12_isIn mm a2 (0 : Int32) (99 : Int32) := p_
        refine g_if_eq (pc := 27) (tgt := 55) dX12_isPosts_27 (by decide) (fun c27 => absurd c27 (by decide)) (fun _ => ?_)
        refine g_iload_n (pc := 30) (x := a3) dX12_isPosts_30 rfl ?_
        refine g_iconst (pc := 31) (v := (0 : Int32)) dX12_isPosts_31 (by decide) ?_
        refine g_bipush (pc := 32) (v := (99 : Int32)) dX12_isPosts_32 (by decide) ?_
        refine g_callS (pc := 34) (as := [.int a3, .int (0 : Int32), .int (99 : Int32)]) dX12_isPosts_34 cw_X12_392 (by decide) rfl rfl (Nat.le_of_ble_eq_true rfl) (rv_X12_isIn mm a3 (0 : Int32) (99 : Int32)) ?_
        rintro r_ m_ hz_ ⟨⟨p_, rfl⟩ | ⟨p_, rfl⟩, rfl⟩
        · have p__3 : p_X12_isIn mm a3 (0 : Int32) (99 : Int32) := p_
          refine g_if_eq (pc := 37) (tgt := 55) dX12_isPosts_37 (by decide) (fun c37 => absurd c37 (by decide)) (fun _ => ?_)
          refine g_iload (pc := 40) (x := a4) dX12_isPosts_40 rfl ?_
          refine g_iconst (pc := 42) (v := (0 : Int32)) dX12_isPosts_42 (by decide) ?_
          refine g_bipush (pc := 43) (v := (99 : Int32)) dX12_isPosts_43 (by decide) ?_
          refine g_callS (pc := 45) (as := [.int a4, .int (0 : Int32), .int (99 : Int32)]) dX12_isPosts_45 cw_X12_392 (by decide) rfl rfl (Nat.le_of_ble_eq_true rfl) (rv_X12_isIn mm a4 (0 : Int32) (99 : Int32)) ?_
          rintro r_ m_ hz_ ⟨⟨p_, rfl⟩ | ⟨p_, rfl⟩, rfl⟩
          · have p__4 : p_X12_isIn mm a4 (0 : Int32) (99 : Int32) := p_
            refine g_if_eq (pc := 48) (tgt := 55) dX12_isPosts_48 (by decide) (fun c48 => absurd c48 (by decide)) (fun _ => ?_)
            refine g_iconst (pc := 51) (v := (1 : Int32)) dX12_isPosts_51 (by decide) ?_
            refine g_goto (pc := 52) (tgt := 56) dX12_isPosts_52 (by decide) ?_
            exact g_iret (pc := 56) dX12_isPosts_56 rfl rfl (nar_B isB1) ⟨Or.inl ⟨(show p_X12_isPosts mm a0 a1 a2 a3 a4 from ⟨p__0, ⟨p__1, ⟨p__2, ⟨p__3, p__4⟩⟩⟩⟩), rfl⟩, rfl⟩
          · have p__4 : ¬ p_X12_isIn mm a4 (0 : Int32) (99 : Int32) := p_
            refine g_if_eq (pc := 48) (tgt := 55) dX12_isPosts_48 (by decide) (fun _ => ?_) (fun c48 => absurd c48 (by decide))
            refine g_iconst (pc := 55) (v := (0 : Int32)) dX12_isPosts_55 (by decide) ?_
            exact g_iret (pc := 56) dX12_isPosts_56 rfl rfl (nar_B isB0) ⟨Or.inr ⟨(show ¬ p_X12_isPosts mm a0 a1 a2 a3 a4 from (fun h_ => (fun h_ => (fun h_ => (fun h_ => p__4 h_.2) h_.2) h_.2) h_.2)), rfl⟩, rfl⟩
        · have p__3 : ¬ p_X12_isIn mm a3 (0 : Int32) (99 : Int32) := p_
          refine g_if_eq (pc := 37) (tgt := 55) dX12_isPosts_37 (by decide) (fun _ => ?_) (fun c37 => absurd c37 (by decide))
          refine g_iconst (pc := 55) (v := (0 : Int32)) dX12_isPosts_55 (by decide) ?_
          exact g_iret (pc := 56) dX12_isPosts_56 rfl rfl (nar_B isB0) ⟨Or.inr ⟨(show ¬ p_X12_isPosts mm a0 a1 a2 a3 a4 from (fun h_ => (fun h_ => (fun h_ => (fun h_ => (p__3 h_.1)) h_.2) h_.2) h_.2)), rfl⟩, rfl⟩
      · have p__2 : ¬ p_X12_isIn mm a2 (0 : Int32) (99 : Int32) := p_
        refine g_if_eq (pc := 27) (tgt := 55) dX12_isPosts_27 (by decide) (fun _ => ?_) (fun c27 => absurd c27 (by decide))
        refine g_iconst (pc := 55) (v := (0 : Int32)) dX12_isPosts_55 (by decide) ?_
        exact g_iret (pc := 56) dX12_isPosts_56 rfl rfl (nar_B isB0) ⟨Or.inr ⟨(show ¬ p_X12_isPosts mm a0 a1 a2 a3 a4 from (fun h_ => (fun h_ => (fun h_ => (p__2 h_.1)) h_.2) h_.2)), rfl⟩, rfl⟩
    · have p__1 : ¬ p_X12_isIn mm a1 (0 : Int32) (99 : Int32) := p_
      refine g_if_eq (pc := 17) (tgt := 55) dX12_isPosts_17 (by decide) (fun _ => ?_) (fun c17 => absurd c17 (by decide))
      refine g_iconst (pc := 55) (v := (0 : Int32)) dX12_isPosts_55 (by decide) ?_
      exact g_iret (pc := 56) dX12_isPosts_56 rfl rfl (nar_B isB0) ⟨Or.inr ⟨(show ¬ p_X12_isPosts mm a0 a1 a2 a3 a4 from (fun h_ => (fun h_ => (p__1 h_.1)) h_.2)), rfl⟩, rfl⟩
  · have p__0 : ¬ p_X12_isIn mm a0 (0 : Int32) (99 : Int32) := p_
    refine g_if_eq (pc := 7) (tgt := 55) dX12_isPosts_7 (by decide) (fun _ => ?_) (fun c7 => absurd c7 (by decide))
    refine g_iconst (pc := 55) (v := (0 : Int32)) dX12_isPosts_55 (by decide) ?_
    exact g_iret (pc := 56) dX12_isPosts_56 rfl rfl (nar_B isB0) ⟨Or.inr ⟨(show ¬ p_X12_isPosts mm a0 a1 a2 a3 a4 from (fun h_ => (p__0 h_.1))), rfl⟩, rfl⟩
theorem dX12_posts_0 : decode cX12_posts 0 = .ok (.iload_n 1, 1) := by decide +kernel
theorem dX12_posts_1 : decode cX12_posts 1 = .ok (.iload_n 2, 1) := by decide +kernel
theorem dX12_posts_2 : decode cX12_posts 2 = .ok (.iload_n 3, 1) := by decide +kernel
theorem dX12_posts_3 : decode cX12_posts 3 = .ok (.iload 4, 2) := by decide +kernel
theorem dX12_posts_5 : decode cX12_posts 5 = .ok (.iload 5, 2) := by decide +kernel
theorem dX12_posts_7 : decode cX12_posts 7 = .ok (.invokestatic 506, 3) := by decide +kernel
theorem dX12_posts_10 : decode cX12_posts 10 = .ok (.ifCond .ne 5, 3) := by decide +kernel
theorem dX12_posts_13 : decode cX12_posts 13 = .ok (.iconst (-1), 1) := by decide +kernel
theorem dX12_posts_14 : decode cX12_posts 14 = .ok (.ireturn, 1) := by decide +kernel
theorem dX12_posts_15 : decode cX12_posts 15 = .ok (.aload_n 0, 1) := by decide +kernel
theorem dX12_posts_16 : decode cX12_posts 16 = .ok (.iload_n 2, 1) := by decide +kernel
theorem dX12_posts_17 : decode cX12_posts 17 = .ok (.iload_n 3, 1) := by decide +kernel
theorem dX12_posts_18 : decode cX12_posts 18 = .ok (.iload 4, 2) := by decide +kernel
theorem dX12_posts_20 : decode cX12_posts 20 = .ok (.iload 5, 2) := by decide +kernel
theorem dX12_posts_22 : decode cX12_posts 22 = .ok (.invokevirtual 510, 3) := by decide +kernel
theorem dX12_posts_25 : decode cX12_posts 25 = .ok (.aload_n 0, 1) := by decide +kernel
theorem dX12_posts_26 : decode cX12_posts 26 = .ok (.getfield 115, 3) := by decide +kernel
theorem dX12_posts_29 : decode cX12_posts 29 = .ok (.iload_n 1, 1) := by decide +kernel
theorem dX12_posts_30 : decode cX12_posts 30 = .ok (.iaload, 1) := by decide +kernel
theorem dX12_posts_31 : decode cX12_posts 31 = .ok (.ireturn, 1) := by decide +kernel
theorem b_X12_posts (mm : MM) (Q : Value → MM → Prop) (a1 : Int32) (a2 : Int32) (a3 : Int32) (a4 : Int32) (a5 : Int32) (h : (p_X12_isPosts mm a1 a2 a3 a4 a5 → (∃ Pm1 : Value → MM → Prop, Runs e_X12_layPosts [.ref 156, .int a2, .int a3, .int a4, .int a5] mm Pm1 ∧ ∀ m1, Pm1 .null m1 → (vp_in a1 1300 ∧ (Q (.int (m1.1 190 a1.toNatClampNeg)) m1)))) ∧ (¬ p_X12_isPosts mm a1 a2 a3 a4 a5 → (Q (.int (-1 : Int32)) mm))) : Runs e_X12_posts [.ref 156, .int a1, .int a2, .int a3, .int a4, .int a5] mm Q := by
  refine runs_of_G (L := [(0, .ref 156), (1, .int a1), (2, .int a2), (3, .int a3), (4, .int a4), (5, .int a5)]) pl_X12 (Nat.le_of_ble_eq_true rfl) rfl ?_
  refine g_iload_n (pc := 0) (x := a1) dX12_posts_0 rfl ?_
  refine g_iload_n (pc := 1) (x := a2) dX12_posts_1 rfl ?_
  refine g_iload_n (pc := 2) (x := a3) dX12_posts_2 rfl ?_
  refine g_iload (pc := 3) (x := a4) dX12_posts_3 rfl ?_
  refine g_iload (pc := 5) (x := a5) dX12_posts_5 rfl ?_
  refine g_callS (pc := 7) (as := [.int a1, .int a2, .int a3, .int a4, .int a5]) dX12_posts_7 cw_X12_506 (by decide) rfl rfl (Nat.le_of_ble_eq_true rfl) (rv_X12_isPosts mm a1 a2 a3 a4 a5) ?_
  rintro r_ m_ hz_ ⟨⟨p_, rfl⟩ | ⟨p_, rfl⟩, rfl⟩
  · have h := h.1 p_
    refine g_if_ne (pc := 10) (tgt := 15) dX12_posts_10 (by decide) (fun _ => ?_) (fun c10 => absurd c10 (by decide))
    refine g_aload_n (pc := 15) (x := 156) dX12_posts_15 rfl ?_
    refine g_iload_n (pc := 16) (x := a2) dX12_posts_16 rfl ?_
    refine g_iload_n (pc := 17) (x := a3) dX12_posts_17 rfl ?_
    refine g_iload (pc := 18) (x := a4) dX12_posts_18 rfl ?_
    refine g_iload (pc := 20) (x := a5) dX12_posts_20 rfl ?_
    obtain ⟨Pm1, hRm1, h⟩ := h
    refine g_callV (pc := 22) (as := [.int a2, .int a3, .int a4, .int a5]) dX12_posts_22 cw_X12_510 (by decide) rfl rfl sh_156 (Nat.le_of_ble_eq_true rfl) hRm1 ?_
    intro r_ m1 hz_ hp_
    obtain rfl := hz_
    have h := h m1 hp_
    refine g_aload_n (pc := 25) (x := 156) dX12_posts_25 rfl ?_
    refine g_getR (pc := 26) (dd := 34) dX12_posts_26 fo_X12_115 sh_156 rfl ?_
    refine g_iload_n (pc := 29) (x := a1) dX12_posts_29 rfl ?_
    refine g_iaload (pc := 30) dX12_posts_30 sh_190 h.1 ?_
    have h := h.2
    exact g_iret (pc := 31) dX12_posts_31 rfl rfl rfl h
  · have h := h.2 p_
    refine g_if_ne (pc := 10) (tgt := 15) dX12_posts_10 (by decide) (fun c10 => absurd c10 (by decide)) (fun _ => ?_)
    refine g_iconst (pc := 13) (v := (-1 : Int32)) dX12_posts_13 (by decide) ?_
    exact g_iret (pc := 14) dX12_posts_14 rfl rfl rfl h
theorem dX12_postAt_0 : decode cX12_postAt 0 = .ok (.iload_n 1, 1) := by decide +kernel
theorem dX12_postAt_1 : decode cX12_postAt 1 = .ok (.iload_n 2, 1) := by decide +kernel
theorem dX12_postAt_2 : decode cX12_postAt 2 = .ok (.iload_n 3, 1) := by decide +kernel
theorem dX12_postAt_3 : decode cX12_postAt 3 = .ok (.iload 4, 2) := by decide +kernel
theorem dX12_postAt_5 : decode cX12_postAt 5 = .ok (.iload 5, 2) := by decide +kernel
theorem dX12_postAt_7 : decode cX12_postAt 7 = .ok (.invokestatic 506, 3) := by decide +kernel
theorem dX12_postAt_10 : decode cX12_postAt 10 = .ok (.ifCond .eq 17, 3) := by decide +kernel
theorem dX12_postAt_13 : decode cX12_postAt 13 = .ok (.iload 6, 2) := by decide +kernel
theorem dX12_postAt_15 : decode cX12_postAt 15 = .ok (.ifCond .lt 12, 3) := by decide +kernel
theorem dX12_postAt_18 : decode cX12_postAt 18 = .ok (.iload 6, 2) := by decide +kernel
theorem dX12_postAt_20 : decode cX12_postAt 20 = .ok (.aload_n 0, 1) := by decide +kernel
theorem dX12_postAt_21 : decode cX12_postAt 21 = .ok (.getfield 280, 3) := by decide +kernel
theorem dX12_postAt_24 : decode cX12_postAt 24 = .ok (.if_icmp .lt 5, 3) := by decide +kernel
theorem dX12_postAt_27 : decode cX12_postAt 27 = .ok (.iconst (-1), 1) := by decide +kernel
theorem dX12_postAt_28 : decode cX12_postAt 28 = .ok (.ireturn, 1) := by decide +kernel
theorem dX12_postAt_29 : decode cX12_postAt 29 = .ok (.aload_n 0, 1) := by decide +kernel
theorem dX12_postAt_30 : decode cX12_postAt 30 = .ok (.iload_n 2, 1) := by decide +kernel
theorem dX12_postAt_31 : decode cX12_postAt 31 = .ok (.iload_n 3, 1) := by decide +kernel
theorem dX12_postAt_32 : decode cX12_postAt 32 = .ok (.iload 4, 2) := by decide +kernel
theorem dX12_postAt_34 : decode cX12_postAt 34 = .ok (.iload 5, 2) := by decide +kernel
theorem dX12_postAt_36 : decode cX12_postAt 36 = .ok (.invokevirtual 510, 3) := by decide +kernel
theorem dX12_postAt_39 : decode cX12_postAt 39 = .ok (.iload_n 1, 1) := by decide +kernel
theorem dX12_postAt_40 : decode cX12_postAt 40 = .ok (.istore 7, 2) := by decide +kernel
theorem dX12_postAt_42 : decode cX12_postAt 42 = .ok (.iconst 0, 1) := by decide +kernel
theorem dX12_postAt_43 : decode cX12_postAt 43 = .ok (.istore 8, 2) := by decide +kernel
theorem dX12_postAt_45 : decode cX12_postAt 45 = .ok (.iload 8, 2) := by decide +kernel
theorem dX12_postAt_47 : decode cX12_postAt 47 = .ok (.iload 6, 2) := by decide +kernel
theorem dX12_postAt_49 : decode cX12_postAt 49 = .ok (.if_icmp .gt 73, 3) := by decide +kernel
theorem dX12_postAt_52 : decode cX12_postAt 52 = .ok (.aload_n 0, 1) := by decide +kernel
theorem dX12_postAt_53 : decode cX12_postAt 53 = .ok (.getfield 112, 3) := by decide +kernel
theorem dX12_postAt_56 : decode cX12_postAt 56 = .ok (.iload 8, 2) := by decide +kernel
theorem dX12_postAt_58 : decode cX12_postAt 58 = .ok (.iaload, 1) := by decide +kernel
theorem dX12_postAt_59 : decode cX12_postAt 59 = .ok (.istore 9, 2) := by decide +kernel
theorem dX12_postAt_61 : decode cX12_postAt 61 = .ok (.iload 7, 2) := by decide +kernel
theorem dX12_postAt_63 : decode cX12_postAt 63 = .ok (.iload 9, 2) := by decide +kernel
theorem dX12_postAt_65 : decode cX12_postAt 65 = .ok (.iload_n 3, 1) := by decide +kernel
theorem dX12_postAt_66 : decode cX12_postAt 66 = .ok (.iload 4, 2) := by decide +kernel
theorem dX12_postAt_68 : decode cX12_postAt 68 = .ok (.iload 5, 2) := by decide +kernel
theorem dX12_postAt_70 : decode cX12_postAt 70 = .ok (.invokestatic 502, 3) := by decide +kernel
theorem dX12_postAt_73 : decode cX12_postAt 73 = .ok (.aload_n 0, 1) := by decide +kernel
theorem dX12_postAt_74 : decode cX12_postAt 74 = .ok (.getfield 115, 3) := by decide +kernel
theorem dX12_postAt_77 : decode cX12_postAt 77 = .ok (.bipush 100, 2) := by decide +kernel
theorem dX12_postAt_79 : decode cX12_postAt 79 = .ok (.iload 8, 2) := by decide +kernel
theorem dX12_postAt_81 : decode cX12_postAt 81 = .ok (.imul, 1) := by decide +kernel
theorem dX12_postAt_82 : decode cX12_postAt 82 = .ok (.bipush 100, 2) := by decide +kernel
theorem dX12_postAt_84 : decode cX12_postAt 84 = .ok (.iadd, 1) := by decide +kernel
theorem dX12_postAt_85 : decode cX12_postAt 85 = .ok (.iload 9, 2) := by decide +kernel
theorem dX12_postAt_87 : decode cX12_postAt 87 = .ok (.iadd, 1) := by decide +kernel
theorem dX12_postAt_88 : decode cX12_postAt 88 = .ok (.iaload, 1) := by decide +kernel
theorem dX12_postAt_89 : decode cX12_postAt 89 = .ok (.iadd, 1) := by decide +kernel
theorem dX12_postAt_90 : decode cX12_postAt 90 = .ok (.aload_n 0, 1) := by decide +kernel
theorem dX12_postAt_91 : decode cX12_postAt 91 = .ok (.getfield 115, 3) := by decide +kernel
theorem dX12_postAt_94 : decode cX12_postAt 94 = .ok (.bipush 100, 2) := by decide +kernel
theorem dX12_postAt_96 : decode cX12_postAt 96 = .ok (.iload 8, 2) := by decide +kernel
theorem dX12_postAt_98 : decode cX12_postAt 98 = .ok (.imul, 1) := by decide +kernel
theorem dX12_postAt_99 : decode cX12_postAt 99 = .ok (.iload 7, 2) := by decide +kernel
theorem dX12_postAt_101 : decode cX12_postAt 101 = .ok (.iadd, 1) := by decide +kernel
theorem dX12_postAt_102 : decode cX12_postAt 102 = .ok (.iaload, 1) := by decide +kernel
theorem dX12_postAt_103 : decode cX12_postAt 103 = .ok (.if_icmp .eq 9, 3) := by decide +kernel
theorem dX12_postAt_106 : decode cX12_postAt 106 = .ok (.iinc 9 1, 3) := by decide +kernel
theorem dX12_postAt_109 : decode cX12_postAt 109 = .ok (.goto (-48), 3) := by decide +kernel
theorem dX12_postAt_112 : decode cX12_postAt 112 = .ok (.iload 9, 2) := by decide +kernel
theorem dX12_postAt_114 : decode cX12_postAt 114 = .ok (.istore 7, 2) := by decide +kernel
theorem dX12_postAt_116 : decode cX12_postAt 116 = .ok (.iinc 8 1, 3) := by decide +kernel
theorem dX12_postAt_119 : decode cX12_postAt 119 = .ok (.goto (-74), 3) := by decide +kernel
theorem dX12_postAt_122 : decode cX12_postAt 122 = .ok (.iload 7, 2) := by decide +kernel
theorem dX12_postAt_124 : decode cX12_postAt 124 = .ok (.ireturn, 1) := by decide +kernel
theorem b_X12_postAt (mm : MM) (Q : Value → MM → Prop) (a1 : Int32) (a2 : Int32) (a3 : Int32) (a4 : Int32) (a5 : Int32) (a6 : Int32) (h : (p_X12_isPosts mm a1 a2 a3 a4 a5 → ((a6 < 0 → (Q (.int (-1 : Int32)) mm)) ∧ (¬ a6 < 0 → ((a6 < (mm.1 156 50) → (∃ Pm1 : Value → MM → Prop, Runs e_X12_layPosts [.ref 156, .int a2, .int a3, .int a4, .int a5] mm Pm1 ∧ ∀ m1, Pm1 .null m1 → (G e_X12_postAt 45 [(0, .ref 156), (3, .int a3), (4, .int a4), (5, .int a5), (6, .int a6), (7, .int a1), (8, .int (0 : Int32))] [] m1 Q))) ∧ (¬ a6 < (mm.1 156 50) → (Q (.int (-1 : Int32)) mm)))))) ∧ (¬ p_X12_isPosts mm a1 a2 a3 a4 a5 → (Q (.int (-1 : Int32)) mm))) : Runs e_X12_postAt [.ref 156, .int a1, .int a2, .int a3, .int a4, .int a5, .int a6] mm Q := by
  refine runs_of_G (L := [(0, .ref 156), (1, .int a1), (2, .int a2), (3, .int a3), (4, .int a4), (5, .int a5), (6, .int a6)]) pl_X12 (Nat.le_of_ble_eq_true rfl) rfl ?_
  refine g_iload_n (pc := 0) (x := a1) dX12_postAt_0 rfl ?_
  refine g_iload_n (pc := 1) (x := a2) dX12_postAt_1 rfl ?_
  refine g_iload_n (pc := 2) (x := a3) dX12_postAt_2 rfl ?_
  refine g_iload (pc := 3) (x := a4) dX12_postAt_3 rfl ?_
  refine g_iload (pc := 5) (x := a5) dX12_postAt_5 rfl ?_
  refine g_callS (pc := 7) (as := [.int a1, .int a2, .int a3, .int a4, .int a5]) dX12_postAt_7 cw_X12_506 (by decide) rfl rfl (Nat.le_of_ble_eq_true rfl) (rv_X12_isPosts mm a1 a2 a3 a4 a5) ?_
  rintro r_ m_ hz_ ⟨⟨p_, rfl⟩ | ⟨p_, rfl⟩, rfl⟩
  · have h := h.1 p_
    refine g_if_eq (pc := 10) (tgt := 27) dX12_postAt_10 (by decide) (fun c10 => absurd c10 (by decide)) (fun _ => ?_)
    refine g_iload (pc := 13) (x := a6) dX12_postAt_13 rfl ?_
    refine g_if_lt (pc := 15) (tgt := 27) dX12_postAt_15 (by decide) (fun c15 => ?_) (fun c15 => ?_)
    · have h := h.1 c15
      refine g_iconst (pc := 27) (v := (-1 : Int32)) dX12_postAt_27 (by decide) ?_
      exact g_iret (pc := 28) dX12_postAt_28 rfl rfl rfl h
    · have h := h.2 c15
      refine g_iload (pc := 18) (x := a6) dX12_postAt_18 rfl ?_
      refine g_aload_n (pc := 20) (x := 156) dX12_postAt_20 rfl ?_
      refine g_getI (pc := 21) dX12_postAt_21 fo_X12_280 sh_156 rfl ?_
      refine g_icmp_lt (pc := 24) (tgt := 29) dX12_postAt_24 (by decide) (fun c24 => ?_) (fun c24 => ?_)
      · have h := h.1 c24
        refine g_aload_n (pc := 29) (x := 156) dX12_postAt_29 rfl ?_
        refine g_iload_n (pc := 30) (x := a2) dX12_postAt_30 rfl ?_
        refine g_iload_n (pc := 31) (x := a3) dX12_postAt_31 rfl ?_
        refine g_iload (pc := 32) (x := a4) dX12_postAt_32 rfl ?_
        refine g_iload (pc := 34) (x := a5) dX12_postAt_34 rfl ?_
        obtain ⟨Pm1, hRm1, h⟩ := h
        refine g_callV (pc := 36) (as := [.int a2, .int a3, .int a4, .int a5]) dX12_postAt_36 cw_X12_510 (by decide) rfl rfl sh_156 (Nat.le_of_ble_eq_true rfl) hRm1 ?_
        intro r_ m1 hz_ hp_
        obtain rfl := hz_
        have h := h m1 hp_
        refine g_iload_n (pc := 39) (x := a1) dX12_postAt_39 rfl ?_
        refine g_istore (pc := 40) (L' := [(0, .ref 156), (1, .int a1), (2, .int a2), (3, .int a3), (4, .int a4), (5, .int a5), (6, .int a6), (7, .int a1)]) dX12_postAt_40 (Nat.le_of_ble_eq_true rfl) rfl ?_
        refine g_iconst (pc := 42) (v := (0 : Int32)) dX12_postAt_42 (by decide) ?_
        refine g_istore (pc := 43) (L' := [(0, .ref 156), (1, .int a1), (2, .int a2), (3, .int a3), (4, .int a4), (5, .int a5), (6, .int a6), (7, .int a1), (8, .int (0 : Int32))]) dX12_postAt_43 (Nat.le_of_ble_eq_true rfl) rfl ?_
        refine g_sub (L' := [(0, .ref 156), (3, .int a3), (4, .int a4), (5, .int a5), (6, .int a6), (7, .int a1), (8, .int (0 : Int32))]) [0, 3, 4, 5, 6, 7, 8] rfl ?_
        exact h
      · have h := h.2 c24
        refine g_iconst (pc := 27) (v := (-1 : Int32)) dX12_postAt_27 (by decide) ?_
        exact g_iret (pc := 28) dX12_postAt_28 rfl rfl rfl h
  · have h := h.2 p_
    refine g_if_eq (pc := 10) (tgt := 27) dX12_postAt_10 (by decide) (fun _ => ?_) (fun c10 => absurd c10 (by decide))
    refine g_iconst (pc := 27) (v := (-1 : Int32)) dX12_postAt_27 (by decide) ?_
    exact g_iret (pc := 28) dX12_postAt_28 rfl rfl rfl h
theorem b_X12_postAt_45 (mm : MM) (Q : Value → MM → Prop) (l3 : Int32) (l4 : Int32) (l5 : Int32) (l6 : Int32) (l7 : Int32) (l8 : Int32) (h : (l6 < l8 → (Q (.int l7) mm)) ∧ (¬ l6 < l8 → (vp_in l8 12 ∧ (G e_X12_postAt 61 [(0, .ref 156), (3, .int l3), (4, .int l4), (5, .int l5), (6, .int l6), (7, .int l7), (8, .int l8), (9, .int (mm.1 189 l8.toNatClampNeg))] [] mm Q)))) : G e_X12_postAt 45 [(0, .ref 156), (3, .int l3), (4, .int l4), (5, .int l5), (6, .int l6), (7, .int l7), (8, .int l8)] [] mm Q := by
  refine g_iload (pc := 45) (x := l8) dX12_postAt_45 rfl ?_
  refine g_iload (pc := 47) (x := l6) dX12_postAt_47 rfl ?_
  refine g_icmp_gt (pc := 49) (tgt := 122) dX12_postAt_49 (by decide) (fun c49 => ?_) (fun c49 => ?_)
  · have h := h.1 c49
    refine g_iload (pc := 122) (x := l7) dX12_postAt_122 rfl ?_
    exact g_iret (pc := 124) dX12_postAt_124 rfl rfl rfl h
  · have h := h.2 c49
    refine g_aload_n (pc := 52) (x := 156) dX12_postAt_52 rfl ?_
    refine g_getR (pc := 53) (dd := 33) dX12_postAt_53 fo_X12_112 sh_156 rfl ?_
    refine g_iload (pc := 56) (x := l8) dX12_postAt_56 rfl ?_
    refine g_iaload (pc := 58) dX12_postAt_58 sh_189 h.1 ?_
    have h := h.2
    refine g_istore (pc := 59) (L' := [(0, .ref 156), (3, .int l3), (4, .int l4), (5, .int l5), (6, .int l6), (7, .int l7), (8, .int l8), (9, .int (mm.1 189 l8.toNatClampNeg))]) dX12_postAt_59 (Nat.le_of_ble_eq_true rfl) rfl ?_
    exact h
theorem b_X12_postAt_61 (mm : MM) (Q : Value → MM → Prop) (l3 : Int32) (l4 : Int32) (l5 : Int32) (l6 : Int32) (l7 : Int32) (l8 : Int32) (l9 : Int32) (h : vp_in ((((100 : Int32) * l8) + (100 : Int32)) + l9) 1300 ∧ (vp_in (((100 : Int32) * l8) + l7) 1300 ∧ ((((v_X12_stepCost mm l7 l9 l3 l4 l5) + (mm.1 190 ((((100 : Int32) * l8) + (100 : Int32)) + l9).toNatClampNeg)) = (mm.1 190 (((100 : Int32) * l8) + l7).toNatClampNeg) → (G e_X12_postAt 45 [(0, .ref 156), (3, .int l3), (4, .int l4), (5, .int l5), (6, .int l6), (7, .int l9), (8, .int (l8 + (1 : Int32)))] [] mm Q)) ∧ (¬ ((v_X12_stepCost mm l7 l9 l3 l4 l5) + (mm.1 190 ((((100 : Int32) * l8) + (100 : Int32)) + l9).toNatClampNeg)) = (mm.1 190 (((100 : Int32) * l8) + l7).toNatClampNeg) → (G e_X12_postAt 61 [(0, .ref 156), (3, .int l3), (4, .int l4), (5, .int l5), (6, .int l6), (7, .int l7), (8, .int l8), (9, .int (l9 + (1 : Int32)))] [] mm Q))))) : G e_X12_postAt 61 [(0, .ref 156), (3, .int l3), (4, .int l4), (5, .int l5), (6, .int l6), (7, .int l7), (8, .int l8), (9, .int l9)] [] mm Q := by
  refine g_iload (pc := 61) (x := l7) dX12_postAt_61 rfl ?_
  refine g_iload (pc := 63) (x := l9) dX12_postAt_63 rfl ?_
  refine g_iload_n (pc := 65) (x := l3) dX12_postAt_65 rfl ?_
  refine g_iload (pc := 66) (x := l4) dX12_postAt_66 rfl ?_
  refine g_iload (pc := 68) (x := l5) dX12_postAt_68 rfl ?_
  refine g_callS (pc := 70) (as := [.int l7, .int l9, .int l3, .int l4, .int l5]) dX12_postAt_70 cw_X12_502 (by decide) rfl rfl (Nat.le_of_ble_eq_true rfl) (rv_X12_stepCost mm l7 l9 l3 l4 l5) ?_
  rintro r_ m_ hz_ ⟨rfl, rfl⟩
  refine g_aload_n (pc := 73) (x := 156) dX12_postAt_73 rfl ?_
  refine g_getR (pc := 74) (dd := 34) dX12_postAt_74 fo_X12_115 sh_156 rfl ?_
  refine g_bipush (pc := 77) (v := (100 : Int32)) dX12_postAt_77 (by decide) ?_
  refine g_iload (pc := 79) (x := l8) dX12_postAt_79 rfl ?_
  refine g_imul (pc := 81) dX12_postAt_81 ?_
  refine g_bipush (pc := 82) (v := (100 : Int32)) dX12_postAt_82 (by decide) ?_
  refine g_iadd (pc := 84) dX12_postAt_84 ?_
  refine g_iload (pc := 85) (x := l9) dX12_postAt_85 rfl ?_
  refine g_iadd (pc := 87) dX12_postAt_87 ?_
  refine g_iaload (pc := 88) dX12_postAt_88 sh_190 h.1 ?_
  have h := h.2
  refine g_iadd (pc := 89) dX12_postAt_89 ?_
  refine g_aload_n (pc := 90) (x := 156) dX12_postAt_90 rfl ?_
  refine g_getR (pc := 91) (dd := 34) dX12_postAt_91 fo_X12_115 sh_156 rfl ?_
  refine g_bipush (pc := 94) (v := (100 : Int32)) dX12_postAt_94 (by decide) ?_
  refine g_iload (pc := 96) (x := l8) dX12_postAt_96 rfl ?_
  refine g_imul (pc := 98) dX12_postAt_98 ?_
  refine g_iload (pc := 99) (x := l7) dX12_postAt_99 rfl ?_
  refine g_iadd (pc := 101) dX12_postAt_101 ?_
  refine g_iaload (pc := 102) dX12_postAt_102 sh_190 h.1 ?_
  have h := h.2
  refine g_icmp_eq (pc := 103) (tgt := 112) dX12_postAt_103 (by decide) (fun c103 => ?_) (fun c103 => ?_)
  · have h := h.1 c103
    refine g_iload (pc := 112) (x := l9) dX12_postAt_112 rfl ?_
    refine g_istore (pc := 114) (L' := [(0, .ref 156), (3, .int l3), (4, .int l4), (5, .int l5), (6, .int l6), (7, .int l9), (8, .int l8), (9, .int l9)]) dX12_postAt_114 (Nat.le_of_ble_eq_true rfl) rfl ?_
    refine g_iinc (pc := 116) (x := l8) (v := (l8 + (1 : Int32))) (L' := [(0, .ref 156), (3, .int l3), (4, .int l4), (5, .int l5), (6, .int l6), (7, .int l9), (8, .int (l8 + (1 : Int32))), (9, .int l9)]) dX12_postAt_116 rfl rfl (Nat.le_of_ble_eq_true rfl) rfl ?_
    refine g_goto (pc := 119) (tgt := 45) dX12_postAt_119 (by decide) ?_
    refine g_sub (L' := [(0, .ref 156), (3, .int l3), (4, .int l4), (5, .int l5), (6, .int l6), (7, .int l9), (8, .int (l8 + (1 : Int32)))]) [0, 1, 2, 3, 4, 5, 6] rfl ?_
    exact h
  · have h := h.2 c103
    refine g_iinc (pc := 106) (x := l9) (v := (l9 + (1 : Int32))) (L' := [(0, .ref 156), (3, .int l3), (4, .int l4), (5, .int l5), (6, .int l6), (7, .int l7), (8, .int l8), (9, .int (l9 + (1 : Int32)))]) dX12_postAt_106 rfl rfl (Nat.le_of_ble_eq_true rfl) rfl ?_
    refine g_goto (pc := 109) (tgt := 61) dX12_postAt_109 (by decide) ?_
    exact h
theorem dX12_log_0 : decode cX12_log 0 = .ok (.aload_n 0, 1) := by decide +kernel
theorem dX12_log_1 : decode cX12_log 1 = .ok (.getfield 33, 3) := by decide +kernel
theorem dX12_log_4 : decode cX12_log 4 = .ok (.iconst 2, 1) := by decide +kernel
theorem dX12_log_5 : decode cX12_log 5 = .ok (.iaload, 1) := by decide +kernel
theorem dX12_log_6 : decode cX12_log 6 = .ok (.bipush 60, 2) := by decide +kernel
theorem dX12_log_8 : decode cX12_log 8 = .ok (.if_icmp .ne 5, 3) := by decide +kernel
theorem dX12_log_11 : decode cX12_log 11 = .ok (.iconst (-1), 1) := by decide +kernel
theorem dX12_log_12 : decode cX12_log 12 = .ok (.ireturn, 1) := by decide +kernel
theorem dX12_log_13 : decode cX12_log 13 = .ok (.sipush 180, 3) := by decide +kernel
theorem dX12_log_16 : decode cX12_log 16 = .ok (.iconst 4, 1) := by decide +kernel
theorem dX12_log_17 : decode cX12_log 17 = .ok (.aload_n 0, 1) := by decide +kernel
theorem dX12_log_18 : decode cX12_log 18 = .ok (.getfield 33, 3) := by decide +kernel
theorem dX12_log_21 : decode cX12_log 21 = .ok (.iconst 2, 1) := by decide +kernel
theorem dX12_log_22 : decode cX12_log 22 = .ok (.iaload, 1) := by decide +kernel
theorem dX12_log_23 : decode cX12_log 23 = .ok (.imul, 1) := by decide +kernel
theorem dX12_log_24 : decode cX12_log 24 = .ok (.iadd, 1) := by decide +kernel
theorem dX12_log_25 : decode cX12_log 25 = .ok (.istore 5, 2) := by decide +kernel
theorem dX12_log_27 : decode cX12_log 27 = .ok (.aload_n 0, 1) := by decide +kernel
theorem dX12_log_28 : decode cX12_log 28 = .ok (.getfield 33, 3) := by decide +kernel
theorem dX12_log_31 : decode cX12_log 31 = .ok (.iload 5, 2) := by decide +kernel
theorem dX12_log_33 : decode cX12_log 33 = .ok (.iload_n 1, 1) := by decide +kernel
theorem dX12_log_34 : decode cX12_log 34 = .ok (.iastore, 1) := by decide +kernel
theorem dX12_log_35 : decode cX12_log 35 = .ok (.aload_n 0, 1) := by decide +kernel
theorem dX12_log_36 : decode cX12_log 36 = .ok (.getfield 33, 3) := by decide +kernel
theorem dX12_log_39 : decode cX12_log 39 = .ok (.iload 5, 2) := by decide +kernel
theorem dX12_log_41 : decode cX12_log 41 = .ok (.iconst 1, 1) := by decide +kernel
theorem dX12_log_42 : decode cX12_log 42 = .ok (.iadd, 1) := by decide +kernel
theorem dX12_log_43 : decode cX12_log 43 = .ok (.iload_n 2, 1) := by decide +kernel
theorem dX12_log_44 : decode cX12_log 44 = .ok (.iastore, 1) := by decide +kernel
theorem dX12_log_45 : decode cX12_log 45 = .ok (.aload_n 0, 1) := by decide +kernel
theorem dX12_log_46 : decode cX12_log 46 = .ok (.getfield 33, 3) := by decide +kernel
theorem dX12_log_49 : decode cX12_log 49 = .ok (.iload 5, 2) := by decide +kernel
theorem dX12_log_51 : decode cX12_log 51 = .ok (.iconst 2, 1) := by decide +kernel
theorem dX12_log_52 : decode cX12_log 52 = .ok (.iadd, 1) := by decide +kernel
theorem dX12_log_53 : decode cX12_log 53 = .ok (.iload_n 3, 1) := by decide +kernel
theorem dX12_log_54 : decode cX12_log 54 = .ok (.iastore, 1) := by decide +kernel
theorem dX12_log_55 : decode cX12_log 55 = .ok (.aload_n 0, 1) := by decide +kernel
theorem dX12_log_56 : decode cX12_log 56 = .ok (.getfield 33, 3) := by decide +kernel
theorem dX12_log_59 : decode cX12_log 59 = .ok (.iload 5, 2) := by decide +kernel
theorem dX12_log_61 : decode cX12_log 61 = .ok (.iconst 3, 1) := by decide +kernel
theorem dX12_log_62 : decode cX12_log 62 = .ok (.iadd, 1) := by decide +kernel
theorem dX12_log_63 : decode cX12_log 63 = .ok (.iload 4, 2) := by decide +kernel
theorem dX12_log_65 : decode cX12_log 65 = .ok (.iastore, 1) := by decide +kernel
theorem dX12_log_66 : decode cX12_log 66 = .ok (.aload_n 0, 1) := by decide +kernel
theorem dX12_log_67 : decode cX12_log 67 = .ok (.getfield 33, 3) := by decide +kernel
theorem dX12_log_70 : decode cX12_log 70 = .ok (.iconst 2, 1) := by decide +kernel
theorem dX12_log_71 : decode cX12_log 71 = .ok (.dup2, 1) := by decide +kernel
theorem dX12_log_72 : decode cX12_log 72 = .ok (.iaload, 1) := by decide +kernel
theorem dX12_log_73 : decode cX12_log 73 = .ok (.iconst 1, 1) := by decide +kernel
theorem dX12_log_74 : decode cX12_log 74 = .ok (.iadd, 1) := by decide +kernel
theorem dX12_log_75 : decode cX12_log 75 = .ok (.iastore, 1) := by decide +kernel
theorem dX12_log_76 : decode cX12_log 76 = .ok (.aload_n 0, 1) := by decide +kernel
theorem dX12_log_77 : decode cX12_log 77 = .ok (.getfield 33, 3) := by decide +kernel
theorem dX12_log_80 : decode cX12_log 80 = .ok (.iconst 2, 1) := by decide +kernel
theorem dX12_log_81 : decode cX12_log 81 = .ok (.iaload, 1) := by decide +kernel
theorem dX12_log_82 : decode cX12_log 82 = .ok (.iconst 1, 1) := by decide +kernel
theorem dX12_log_83 : decode cX12_log 83 = .ok (.isub, 1) := by decide +kernel
theorem dX12_log_84 : decode cX12_log 84 = .ok (.ireturn, 1) := by decide +kernel
theorem b_X12_log (mm : MM) (Q : Value → MM → Prop) (a1 : Int32) (a2 : Int32) (a3 : Int32) (a4 : Int32) (h : (¬ (mm.1 163 2) = (60 : Int32) → (vp_in ((180 : Int32) + ((4 : Int32) * (mm.1 163 2))) 1260 ∧ (vp_in (((180 : Int32) + ((4 : Int32) * (mm.1 163 2))) + (1 : Int32)) 1260 ∧ (vp_in (((180 : Int32) + ((4 : Int32) * (mm.1 163 2))) + (2 : Int32)) 1260 ∧ (vp_in (((180 : Int32) + ((4 : Int32) * (mm.1 163 2))) + (3 : Int32)) 1260 ∧ (Q (.int (((wI (wI (wI (wI (wI mm 163 (((180 : Int32) + ((4 : Int32) * (mm.1 163 2))).toNatClampNeg) a1) 163 ((((180 : Int32) + ((4 : Int32) * (mm.1 163 2))) + (1 : Int32)).toNatClampNeg) a2) 163 ((((180 : Int32) + ((4 : Int32) * (mm.1 163 2))) + (2 : Int32)).toNatClampNeg) a3) 163 ((((180 : Int32) + ((4 : Int32) * (mm.1 163 2))) + (3 : Int32)).toNatClampNeg) a4) 163 2 (((wI (wI (wI (wI mm 163 (((180 : Int32) + ((4 : Int32) * (mm.1 163 2))).toNatClampNeg) a1) 163 ((((180 : Int32) + ((4 : Int32) * (mm.1 163 2))) + (1 : Int32)).toNatClampNeg) a2) 163 ((((180 : Int32) + ((4 : Int32) * (mm.1 163 2))) + (2 : Int32)).toNatClampNeg) a3) 163 ((((180 : Int32) + ((4 : Int32) * (mm.1 163 2))) + (3 : Int32)).toNatClampNeg) a4).1 163 2) + (1 : Int32))).1 163 2) - (1 : Int32))) (wI (wI (wI (wI (wI mm 163 (((180 : Int32) + ((4 : Int32) * (mm.1 163 2))).toNatClampNeg) a1) 163 ((((180 : Int32) + ((4 : Int32) * (mm.1 163 2))) + (1 : Int32)).toNatClampNeg) a2) 163 ((((180 : Int32) + ((4 : Int32) * (mm.1 163 2))) + (2 : Int32)).toNatClampNeg) a3) 163 ((((180 : Int32) + ((4 : Int32) * (mm.1 163 2))) + (3 : Int32)).toNatClampNeg) a4) 163 2 (((wI (wI (wI (wI mm 163 (((180 : Int32) + ((4 : Int32) * (mm.1 163 2))).toNatClampNeg) a1) 163 ((((180 : Int32) + ((4 : Int32) * (mm.1 163 2))) + (1 : Int32)).toNatClampNeg) a2) 163 ((((180 : Int32) + ((4 : Int32) * (mm.1 163 2))) + (2 : Int32)).toNatClampNeg) a3) 163 ((((180 : Int32) + ((4 : Int32) * (mm.1 163 2))) + (3 : Int32)).toNatClampNeg) a4).1 163 2) + (1 : Int32))))))))) ∧ ((mm.1 163 2) = (60 : Int32) → (Q (.int (-1 : Int32)) mm))) : Runs e_X12_log [.ref 156, .int a1, .int a2, .int a3, .int a4] mm Q := by
  refine runs_of_G (L := [(0, .ref 156), (1, .int a1), (2, .int a2), (3, .int a3), (4, .int a4)]) pl_X12 (Nat.le_of_ble_eq_true rfl) rfl ?_
  refine g_aload_n (pc := 0) (x := 156) dX12_log_0 rfl ?_
  refine g_getR (pc := 1) (dd := 7) dX12_log_1 fo_X12_33 sh_156 rfl ?_
  refine g_iconst (pc := 4) (v := (2 : Int32)) dX12_log_4 (by decide) ?_
  refine g_iaload (pc := 5) dX12_log_5 sh_163 (vp_in_nI (n := 2) (N := 1260) (by decide) (by decide)) ?_
  refine g_bipush (pc := 6) (v := (60 : Int32)) dX12_log_6 (by decide) ?_
  refine g_icmp_ne (pc := 8) (tgt := 13) dX12_log_8 (by decide) (fun c8 => ?_) (fun c8 => ?_)
  · have h := h.1 c8
    refine g_sipush (pc := 13) (v := (180 : Int32)) dX12_log_13 (by decide) ?_
    refine g_iconst (pc := 16) (v := (4 : Int32)) dX12_log_16 (by decide) ?_
    refine g_aload_n (pc := 17) (x := 156) dX12_log_17 rfl ?_
    refine g_getR (pc := 18) (dd := 7) dX12_log_18 fo_X12_33 sh_156 rfl ?_
    refine g_iconst (pc := 21) (v := (2 : Int32)) dX12_log_21 (by decide) ?_
    refine g_iaload (pc := 22) dX12_log_22 sh_163 (vp_in_nI (n := 2) (N := 1260) (by decide) (by decide)) ?_
    refine g_imul (pc := 23) dX12_log_23 ?_
    refine g_iadd (pc := 24) dX12_log_24 ?_
    refine g_istore (pc := 25) (L' := [(0, .ref 156), (1, .int a1), (2, .int a2), (3, .int a3), (4, .int a4), (5, .int ((180 : Int32) + ((4 : Int32) * (mm.1 163 2))))]) dX12_log_25 (Nat.le_of_ble_eq_true rfl) rfl ?_
    refine g_aload_n (pc := 27) (x := 156) dX12_log_27 rfl ?_
    refine g_getR (pc := 28) (dd := 7) dX12_log_28 fo_X12_33 sh_156 rfl ?_
    refine g_iload (pc := 31) (x := ((180 : Int32) + ((4 : Int32) * (mm.1 163 2)))) dX12_log_31 rfl ?_
    refine g_iload_n (pc := 33) (x := a1) dX12_log_33 rfl ?_
    refine g_iastore (pc := 34) dX12_log_34 sh_163 h.1 ?_
    have h := h.2
    refine g_aload_n (pc := 35) (x := 156) dX12_log_35 rfl ?_
    refine g_getR (pc := 36) (dd := 7) dX12_log_36 fo_X12_33 sh_156 rfl ?_
    refine g_iload (pc := 39) (x := ((180 : Int32) + ((4 : Int32) * (mm.1 163 2)))) dX12_log_39 rfl ?_
    refine g_iconst (pc := 41) (v := (1 : Int32)) dX12_log_41 (by decide) ?_
    refine g_iadd (pc := 42) dX12_log_42 ?_
    refine g_iload_n (pc := 43) (x := a2) dX12_log_43 rfl ?_
    refine g_iastore (pc := 44) dX12_log_44 sh_163 h.1 ?_
    have h := h.2
    refine g_aload_n (pc := 45) (x := 156) dX12_log_45 rfl ?_
    refine g_getR (pc := 46) (dd := 7) dX12_log_46 fo_X12_33 sh_156 rfl ?_
    refine g_iload (pc := 49) (x := ((180 : Int32) + ((4 : Int32) * (mm.1 163 2)))) dX12_log_49 rfl ?_
    refine g_iconst (pc := 51) (v := (2 : Int32)) dX12_log_51 (by decide) ?_
    refine g_iadd (pc := 52) dX12_log_52 ?_
    refine g_iload_n (pc := 53) (x := a3) dX12_log_53 rfl ?_
    refine g_iastore (pc := 54) dX12_log_54 sh_163 h.1 ?_
    have h := h.2
    refine g_aload_n (pc := 55) (x := 156) dX12_log_55 rfl ?_
    refine g_getR (pc := 56) (dd := 7) dX12_log_56 fo_X12_33 sh_156 rfl ?_
    refine g_iload (pc := 59) (x := ((180 : Int32) + ((4 : Int32) * (mm.1 163 2)))) dX12_log_59 rfl ?_
    refine g_iconst (pc := 61) (v := (3 : Int32)) dX12_log_61 (by decide) ?_
    refine g_iadd (pc := 62) dX12_log_62 ?_
    refine g_iload (pc := 63) (x := a4) dX12_log_63 rfl ?_
    refine g_iastore (pc := 65) dX12_log_65 sh_163 h.1 ?_
    have h := h.2
    refine g_aload_n (pc := 66) (x := 156) dX12_log_66 rfl ?_
    refine g_getR (pc := 67) (dd := 7) dX12_log_67 fo_X12_33 sh_156 rfl ?_
    refine g_iconst (pc := 70) (v := (2 : Int32)) dX12_log_70 (by decide) ?_
    refine g_dup2 (pc := 71) dX12_log_71 rfl rfl ?_
    refine g_iaload (pc := 72) dX12_log_72 sh_163 (vp_in_nI (n := 2) (N := 1260) (by decide) (by decide)) ?_
    refine g_iconst (pc := 73) (v := (1 : Int32)) dX12_log_73 (by decide) ?_
    refine g_iadd (pc := 74) dX12_log_74 ?_
    refine g_iastore (pc := 75) dX12_log_75 sh_163 (vp_in_nI (n := 2) (N := 1260) (by decide) (by decide)) ?_
    refine g_aload_n (pc := 76) (x := 156) dX12_log_76 rfl ?_
    refine g_getR (pc := 77) (dd := 7) dX12_log_77 fo_X12_33 sh_156 rfl ?_
    refine g_iconst (pc := 80) (v := (2 : Int32)) dX12_log_80 (by decide) ?_
    refine g_iaload (pc := 81) dX12_log_81 sh_163 (vp_in_nI (n := 2) (N := 1260) (by decide) (by decide)) ?_
    refine g_iconst (pc := 82) (v := (1 : Int32)) dX12_log_82 (by decide) ?_
    refine g_isub (pc := 83) dX12_log_83 ?_
    exact g_iret (pc := 84) dX12_log_84 rfl rfl rfl h
  · have h := h.2 c8
    refine g_iconst (pc := 11) (v := (-1 : Int32)) dX12_log_11 (by decide) ?_
    exact g_iret (pc := 12) dX12_log_12 rfl rfl rfl h
theorem dX12_vote_0 : decode cX12_vote 0 = .ok (.aload_n 0, 1) := by decide +kernel
theorem dX12_vote_1 : decode cX12_vote 1 = .ok (.iload_n 1, 1) := by decide +kernel
theorem dX12_vote_2 : decode cX12_vote 2 = .ok (.invokevirtual 377, 3) := by decide +kernel
theorem dX12_vote_5 : decode cX12_vote 5 = .ok (.ifCond .eq 30, 3) := by decide +kernel
theorem dX12_vote_8 : decode cX12_vote 8 = .ok (.aload_n 0, 1) := by decide +kernel
theorem dX12_vote_9 : decode cX12_vote 9 = .ok (.iload_n 2, 1) := by decide +kernel
theorem dX12_vote_10 : decode cX12_vote 10 = .ok (.invokevirtual 389, 3) := by decide +kernel
theorem dX12_vote_13 : decode cX12_vote 13 = .ok (.ifCond .eq 22, 3) := by decide +kernel
theorem dX12_vote_16 : decode cX12_vote 16 = .ok (.aload_n 0, 1) := by decide +kernel
theorem dX12_vote_17 : decode cX12_vote 17 = .ok (.iload_n 3, 1) := by decide +kernel
theorem dX12_vote_18 : decode cX12_vote 18 = .ok (.invokevirtual 377, 3) := by decide +kernel
theorem dX12_vote_21 : decode cX12_vote 21 = .ok (.ifCond .eq 14, 3) := by decide +kernel
theorem dX12_vote_24 : decode cX12_vote 24 = .ok (.aload_n 0, 1) := by decide +kernel
theorem dX12_vote_25 : decode cX12_vote 25 = .ok (.iconst 0, 1) := by decide +kernel
theorem dX12_vote_26 : decode cX12_vote 26 = .ok (.iload_n 1, 1) := by decide +kernel
theorem dX12_vote_27 : decode cX12_vote 27 = .ok (.iload_n 2, 1) := by decide +kernel
theorem dX12_vote_28 : decode cX12_vote 28 = .ok (.iload_n 3, 1) := by decide +kernel
theorem dX12_vote_29 : decode cX12_vote 29 = .ok (.invokevirtual 514, 3) := by decide +kernel
theorem dX12_vote_32 : decode cX12_vote 32 = .ok (.goto 4, 3) := by decide +kernel
theorem dX12_vote_35 : decode cX12_vote 35 = .ok (.iconst (-1), 1) := by decide +kernel
theorem dX12_vote_36 : decode cX12_vote 36 = .ok (.ireturn, 1) := by decide +kernel
theorem b_X12_vote (mm : MM) (Q : Value → MM → Prop) (a1 : Int32) (a2 : Int32) (a3 : Int32) (h : (p_X12_isHouse mm a1 → ((p_X12_isOffice mm a2 → ((p_X12_isHouse mm a3 → (∃ Pm1 : Value → MM → Prop, Runs e_X12_log [.ref 156, .int (0 : Int32), .int a1, .int a2, .int a3] mm Pm1 ∧ ∀ (r1 : Int32) (m1 : MM), Pm1 (.int r1) m1 → (Q (.int r1) m1))) ∧ (¬ p_X12_isHouse mm a3 → (Q (.int (-1 : Int32)) mm)))) ∧ (¬ p_X12_isOffice mm a2 → (Q (.int (-1 : Int32)) mm)))) ∧ (¬ p_X12_isHouse mm a1 → (Q (.int (-1 : Int32)) mm))) : Runs e_X12_vote [.ref 156, .int a1, .int a2, .int a3] mm Q := by
  refine runs_of_G (L := [(0, .ref 156), (1, .int a1), (2, .int a2), (3, .int a3)]) pl_X12 (Nat.le_of_ble_eq_true rfl) rfl ?_
  refine g_aload_n (pc := 0) (x := 156) dX12_vote_0 rfl ?_
  refine g_iload_n (pc := 1) (x := a1) dX12_vote_1 rfl ?_
  refine g_callV (pc := 2) (as := [.int a1]) dX12_vote_2 cw_X12_377 (by decide) rfl rfl sh_156 (Nat.le_of_ble_eq_true rfl) (rv_X12_isHouse mm a1) ?_
  rintro r_ m_ hz_ ⟨⟨p_, rfl⟩ | ⟨p_, rfl⟩, rfl⟩
  · have h := h.1 p_
    refine g_if_eq (pc := 5) (tgt := 35) dX12_vote_5 (by decide) (fun c5 => absurd c5 (by decide)) (fun _ => ?_)
    refine g_aload_n (pc := 8) (x := 156) dX12_vote_8 rfl ?_
    refine g_iload_n (pc := 9) (x := a2) dX12_vote_9 rfl ?_
    refine g_callV (pc := 10) (as := [.int a2]) dX12_vote_10 cw_X12_389 (by decide) rfl rfl sh_156 (Nat.le_of_ble_eq_true rfl) (rv_X12_isOffice mm a2) ?_
    rintro r_ m_ hz_ ⟨⟨p_, rfl⟩ | ⟨p_, rfl⟩, rfl⟩
    · have h := h.1 p_
      refine g_if_eq (pc := 13) (tgt := 35) dX12_vote_13 (by decide) (fun c13 => absurd c13 (by decide)) (fun _ => ?_)
      refine g_aload_n (pc := 16) (x := 156) dX12_vote_16 rfl ?_
      refine g_iload_n (pc := 17) (x := a3) dX12_vote_17 rfl ?_
      refine g_callV (pc := 18) (as := [.int a3]) dX12_vote_18 cw_X12_377 (by decide) rfl rfl sh_156 (Nat.le_of_ble_eq_true rfl) (rv_X12_isHouse mm a3) ?_
      rintro r_ m_ hz_ ⟨⟨p_, rfl⟩ | ⟨p_, rfl⟩, rfl⟩
      · have h := h.1 p_
        refine g_if_eq (pc := 21) (tgt := 35) dX12_vote_21 (by decide) (fun c21 => absurd c21 (by decide)) (fun _ => ?_)
        refine g_aload_n (pc := 24) (x := 156) dX12_vote_24 rfl ?_
        refine g_iconst (pc := 25) (v := (0 : Int32)) dX12_vote_25 (by decide) ?_
        refine g_iload_n (pc := 26) (x := a1) dX12_vote_26 rfl ?_
        refine g_iload_n (pc := 27) (x := a2) dX12_vote_27 rfl ?_
        refine g_iload_n (pc := 28) (x := a3) dX12_vote_28 rfl ?_
        obtain ⟨Pm1, hRm1, h⟩ := h
        refine g_callV (pc := 29) (as := [.int (0 : Int32), .int a1, .int a2, .int a3]) dX12_vote_29 cw_X12_514 (by decide) rfl rfl sh_156 (Nat.le_of_ble_eq_true rfl) hRm1 ?_
        intro r_ m1 hz_ hp_
        obtain ⟨r1, rfl⟩ := hz_
        have h := h r1 m1 hp_
        refine g_goto (pc := 32) (tgt := 36) dX12_vote_32 (by decide) ?_
        exact g_iret (pc := 36) dX12_vote_36 rfl rfl rfl h
      · have h := h.2 p_
        refine g_if_eq (pc := 21) (tgt := 35) dX12_vote_21 (by decide) (fun _ => ?_) (fun c21 => absurd c21 (by decide))
        refine g_iconst (pc := 35) (v := (-1 : Int32)) dX12_vote_35 (by decide) ?_
        exact g_iret (pc := 36) dX12_vote_36 rfl rfl rfl h
    · have h := h.2 p_
      refine g_if_eq (pc := 13) (tgt := 35) dX12_vote_13 (by decide) (fun _ => ?_) (fun c13 => absurd c13 (by decide))
      refine g_iconst (pc := 35) (v := (-1 : Int32)) dX12_vote_35 (by decide) ?_
      exact g_iret (pc := 36) dX12_vote_36 rfl rfl rfl h
  · have h := h.2 p_
    refine g_if_eq (pc := 5) (tgt := 35) dX12_vote_5 (by decide) (fun _ => ?_) (fun c5 => absurd c5 (by decide))
    refine g_iconst (pc := 35) (v := (-1 : Int32)) dX12_vote_35 (by decide) ?_
    exact g_iret (pc := 36) dX12_vote_36 rfl rfl rfl h
theorem dX12_mark_0 : decode cX12_mark 0 = .ok (.aload_n 0, 1) := by decide +kernel
theorem dX12_mark_1 : decode cX12_mark 1 = .ok (.iload_n 1, 1) := by decide +kernel
theorem dX12_mark_2 : decode cX12_mark 2 = .ok (.invokevirtual 377, 3) := by decide +kernel
theorem dX12_mark_5 : decode cX12_mark 5 = .ok (.ifCond .eq 34, 3) := by decide +kernel
theorem dX12_mark_8 : decode cX12_mark 8 = .ok (.iload_n 2, 1) := by decide +kernel
theorem dX12_mark_9 : decode cX12_mark 9 = .ok (.iconst 0, 1) := by decide +kernel
theorem dX12_mark_10 : decode cX12_mark 10 = .ok (.bipush 99, 2) := by decide +kernel
theorem dX12_mark_12 : decode cX12_mark 12 = .ok (.invokestatic 392, 3) := by decide +kernel
theorem dX12_mark_15 : decode cX12_mark 15 = .ok (.ifCond .eq 24, 3) := by decide +kernel
theorem dX12_mark_18 : decode cX12_mark 18 = .ok (.iload_n 3, 1) := by decide +kernel
theorem dX12_mark_19 : decode cX12_mark 19 = .ok (.iconst 0, 1) := by decide +kernel
theorem dX12_mark_20 : decode cX12_mark 20 = .ok (.bipush 99, 2) := by decide +kernel
theorem dX12_mark_22 : decode cX12_mark 22 = .ok (.invokestatic 392, 3) := by decide +kernel
theorem dX12_mark_25 : decode cX12_mark 25 = .ok (.ifCond .eq 14, 3) := by decide +kernel
theorem dX12_mark_28 : decode cX12_mark 28 = .ok (.aload_n 0, 1) := by decide +kernel
theorem dX12_mark_29 : decode cX12_mark 29 = .ok (.iconst 1, 1) := by decide +kernel
theorem dX12_mark_30 : decode cX12_mark 30 = .ok (.iload_n 1, 1) := by decide +kernel
theorem dX12_mark_31 : decode cX12_mark 31 = .ok (.iload_n 2, 1) := by decide +kernel
theorem dX12_mark_32 : decode cX12_mark 32 = .ok (.iload_n 3, 1) := by decide +kernel
theorem dX12_mark_33 : decode cX12_mark 33 = .ok (.invokevirtual 514, 3) := by decide +kernel
theorem dX12_mark_36 : decode cX12_mark 36 = .ok (.goto 4, 3) := by decide +kernel
theorem dX12_mark_39 : decode cX12_mark 39 = .ok (.iconst (-1), 1) := by decide +kernel
theorem dX12_mark_40 : decode cX12_mark 40 = .ok (.ireturn, 1) := by decide +kernel
theorem b_X12_mark (mm : MM) (Q : Value → MM → Prop) (a1 : Int32) (a2 : Int32) (a3 : Int32) (h : (p_X12_isHouse mm a1 → ((p_X12_isIn mm a2 (0 : Int32) (99 : Int32) → ((p_X12_isIn mm a3 (0 : Int32) (99 : Int32) → (∃ Pm1 : Value → MM → Prop, Runs e_X12_log [.ref 156, .int (1 : Int32), .int a1, .int a2, .int a3] mm Pm1 ∧ ∀ (r1 : Int32) (m1 : MM), Pm1 (.int r1) m1 → (Q (.int r1) m1))) ∧ (¬ p_X12_isIn mm a3 (0 : Int32) (99 : Int32) → (Q (.int (-1 : Int32)) mm)))) ∧ (¬ p_X12_isIn mm a2 (0 : Int32) (99 : Int32) → (Q (.int (-1 : Int32)) mm)))) ∧ (¬ p_X12_isHouse mm a1 → (Q (.int (-1 : Int32)) mm))) : Runs e_X12_mark [.ref 156, .int a1, .int a2, .int a3] mm Q := by
  refine runs_of_G (L := [(0, .ref 156), (1, .int a1), (2, .int a2), (3, .int a3)]) pl_X12 (Nat.le_of_ble_eq_true rfl) rfl ?_
  refine g_aload_n (pc := 0) (x := 156) dX12_mark_0 rfl ?_
  refine g_iload_n (pc := 1) (x := a1) dX12_mark_1 rfl ?_
  refine g_callV (pc := 2) (as := [.int a1]) dX12_mark_2 cw_X12_377 (by decide) rfl rfl sh_156 (Nat.le_of_ble_eq_true rfl) (rv_X12_isHouse mm a1) ?_
  rintro r_ m_ hz_ ⟨⟨p_, rfl⟩ | ⟨p_, rfl⟩, rfl⟩
  · have h := h.1 p_
    refine g_if_eq (pc := 5) (tgt := 39) dX12_mark_5 (by decide) (fun c5 => absurd c5 (by decide)) (fun _ => ?_)
    refine g_iload_n (pc := 8) (x := a2) dX12_mark_8 rfl ?_
    refine g_iconst (pc := 9) (v := (0 : Int32)) dX12_mark_9 (by decide) ?_
    refine g_bipush (pc := 10) (v := (99 : Int32)) dX12_mark_10 (by decide) ?_
    refine g_callS (pc := 12) (as := [.int a2, .int (0 : Int32), .int (99 : Int32)]) dX12_mark_12 cw_X12_392 (by decide) rfl rfl (Nat.le_of_ble_eq_true rfl) (rv_X12_isIn mm a2 (0 : Int32) (99 : Int32)) ?_
    rintro r_ m_ hz_ ⟨⟨p_, rfl⟩ | ⟨p_, rfl⟩, rfl⟩
    · have h := h.1 p_
      refine g_if_eq (pc := 15) (tgt := 39) dX12_mark_15 (by decide) (fun c15 => absurd c15 (by decide)) (fun _ => ?_)
      refine g_iload_n (pc := 18) (x := a3) dX12_mark_18 rfl ?_
      refine g_iconst (pc := 19) (v := (0 : Int32)) dX12_mark_19 (by decide) ?_
      refine g_bipush (pc := 20) (v := (99 : Int32)) dX12_mark_20 (by decide) ?_
      refine g_callS (pc := 22) (as := [.int a3, .int (0 : Int32), .int (99 : Int32)]) dX12_mark_22 cw_X12_392 (by decide) rfl rfl (Nat.le_of_ble_eq_true rfl) (rv_X12_isIn mm a3 (0 : Int32) (99 : Int32)) ?_
      rintro r_ m_ hz_ ⟨⟨p_, rfl⟩ | ⟨p_, rfl⟩, rfl⟩
      · have h := h.1 p_
        refine g_if_eq (pc := 25) (tgt := 39) dX12_mark_25 (by decide) (fun c25 => absurd c25 (by decide)) (fun _ => ?_)
        refine g_aload_n (pc := 28) (x := 156) dX12_mark_28 rfl ?_
        refine g_iconst (pc := 29) (v := (1 : Int32)) dX12_mark_29 (by decide) ?_
        refine g_iload_n (pc := 30) (x := a1) dX12_mark_30 rfl ?_
        refine g_iload_n (pc := 31) (x := a2) dX12_mark_31 rfl ?_
        refine g_iload_n (pc := 32) (x := a3) dX12_mark_32 rfl ?_
        obtain ⟨Pm1, hRm1, h⟩ := h
        refine g_callV (pc := 33) (as := [.int (1 : Int32), .int a1, .int a2, .int a3]) dX12_mark_33 cw_X12_514 (by decide) rfl rfl sh_156 (Nat.le_of_ble_eq_true rfl) hRm1 ?_
        intro r_ m1 hz_ hp_
        obtain ⟨r1, rfl⟩ := hz_
        have h := h r1 m1 hp_
        refine g_goto (pc := 36) (tgt := 40) dX12_mark_36 (by decide) ?_
        exact g_iret (pc := 40) dX12_mark_40 rfl rfl rfl h
      · have h := h.2 p_
        refine g_if_eq (pc := 25) (tgt := 39) dX12_mark_25 (by decide) (fun _ => ?_) (fun c25 => absurd c25 (by decide))
        refine g_iconst (pc := 39) (v := (-1 : Int32)) dX12_mark_39 (by decide) ?_
        exact g_iret (pc := 40) dX12_mark_40 rfl rfl rfl h
    · have h := h.2 p_
      refine g_if_eq (pc := 15) (tgt := 39) dX12_mark_15 (by decide) (fun _ => ?_) (fun c15 => absurd c15 (by decide))
      refine g_iconst (pc := 39) (v := (-1 : Int32)) dX12_mark_39 (by decide) ?_
      exact g_iret (pc := 40) dX12_mark_40 rfl rfl rfl h
  · have h := h.2 p_
    refine g_if_eq (pc := 5) (tgt := 39) dX12_mark_5 (by decide) (fun _ => ?_) (fun c5 => absurd c5 (by decide))
    refine g_iconst (pc := 39) (v := (-1 : Int32)) dX12_mark_39 (by decide) ?_
    exact g_iret (pc := 40) dX12_mark_40 rfl rfl rfl h
theorem dX12_annul_0 : decode cX12_annul 0 = .ok (.iload_n 1, 1) := by decide +kernel
theorem dX12_annul_1 : decode cX12_annul 1 = .ok (.iconst 0, 1) := by decide +kernel
theorem dX12_annul_2 : decode cX12_annul 2 = .ok (.aload_n 0, 1) := by decide +kernel
theorem dX12_annul_3 : decode cX12_annul 3 = .ok (.getfield 33, 3) := by decide +kernel
theorem dX12_annul_6 : decode cX12_annul 6 = .ok (.iconst 2, 1) := by decide +kernel
theorem dX12_annul_7 : decode cX12_annul 7 = .ok (.iaload, 1) := by decide +kernel
theorem dX12_annul_8 : decode cX12_annul 8 = .ok (.iconst 1, 1) := by decide +kernel
theorem dX12_annul_9 : decode cX12_annul 9 = .ok (.isub, 1) := by decide +kernel
theorem dX12_annul_10 : decode cX12_annul 10 = .ok (.invokestatic 392, 3) := by decide +kernel
theorem dX12_annul_13 : decode cX12_annul 13 = .ok (.ifCond .eq 30, 3) := by decide +kernel
theorem dX12_annul_16 : decode cX12_annul 16 = .ok (.aload_n 0, 1) := by decide +kernel
theorem dX12_annul_17 : decode cX12_annul 17 = .ok (.getfield 33, 3) := by decide +kernel
theorem dX12_annul_20 : decode cX12_annul 20 = .ok (.sipush 180, 3) := by decide +kernel
theorem dX12_annul_23 : decode cX12_annul 23 = .ok (.iconst 4, 1) := by decide +kernel
theorem dX12_annul_24 : decode cX12_annul 24 = .ok (.iload_n 1, 1) := by decide +kernel
theorem dX12_annul_25 : decode cX12_annul 25 = .ok (.imul, 1) := by decide +kernel
theorem dX12_annul_26 : decode cX12_annul 26 = .ok (.iadd, 1) := by decide +kernel
theorem dX12_annul_27 : decode cX12_annul 27 = .ok (.iaload, 1) := by decide +kernel
theorem dX12_annul_28 : decode cX12_annul 28 = .ok (.iconst 2, 1) := by decide +kernel
theorem dX12_annul_29 : decode cX12_annul 29 = .ok (.if_icmp .eq 14, 3) := by decide +kernel
theorem dX12_annul_32 : decode cX12_annul 32 = .ok (.aload_n 0, 1) := by decide +kernel
theorem dX12_annul_33 : decode cX12_annul 33 = .ok (.iconst 2, 1) := by decide +kernel
theorem dX12_annul_34 : decode cX12_annul 34 = .ok (.iload_n 1, 1) := by decide +kernel
theorem dX12_annul_35 : decode cX12_annul 35 = .ok (.iconst 0, 1) := by decide +kernel
theorem dX12_annul_36 : decode cX12_annul 36 = .ok (.iconst 0, 1) := by decide +kernel
theorem dX12_annul_37 : decode cX12_annul 37 = .ok (.invokevirtual 514, 3) := by decide +kernel
theorem dX12_annul_40 : decode cX12_annul 40 = .ok (.goto 4, 3) := by decide +kernel
theorem dX12_annul_43 : decode cX12_annul 43 = .ok (.iconst (-1), 1) := by decide +kernel
theorem dX12_annul_44 : decode cX12_annul 44 = .ok (.ireturn, 1) := by decide +kernel
theorem b_X12_annul (mm : MM) (Q : Value → MM → Prop) (a1 : Int32) (h : (p_X12_isIn mm a1 (0 : Int32) ((mm.1 163 2) - (1 : Int32)) → (vp_in ((180 : Int32) + ((4 : Int32) * a1)) 1260 ∧ (((mm.1 163 ((180 : Int32) + ((4 : Int32) * a1)).toNatClampNeg) = (2 : Int32) → (Q (.int (-1 : Int32)) mm)) ∧ (¬ (mm.1 163 ((180 : Int32) + ((4 : Int32) * a1)).toNatClampNeg) = (2 : Int32) → (∃ Pm1 : Value → MM → Prop, Runs e_X12_log [.ref 156, .int (2 : Int32), .int a1, .int (0 : Int32), .int (0 : Int32)] mm Pm1 ∧ ∀ (r1 : Int32) (m1 : MM), Pm1 (.int r1) m1 → (Q (.int r1) m1)))))) ∧ (¬ p_X12_isIn mm a1 (0 : Int32) ((mm.1 163 2) - (1 : Int32)) → (Q (.int (-1 : Int32)) mm))) : Runs e_X12_annul [.ref 156, .int a1] mm Q := by
  refine runs_of_G (L := [(0, .ref 156), (1, .int a1)]) pl_X12 (Nat.le_of_ble_eq_true rfl) rfl ?_
  refine g_iload_n (pc := 0) (x := a1) dX12_annul_0 rfl ?_
  refine g_iconst (pc := 1) (v := (0 : Int32)) dX12_annul_1 (by decide) ?_
  refine g_aload_n (pc := 2) (x := 156) dX12_annul_2 rfl ?_
  refine g_getR (pc := 3) (dd := 7) dX12_annul_3 fo_X12_33 sh_156 rfl ?_
  refine g_iconst (pc := 6) (v := (2 : Int32)) dX12_annul_6 (by decide) ?_
  refine g_iaload (pc := 7) dX12_annul_7 sh_163 (vp_in_nI (n := 2) (N := 1260) (by decide) (by decide)) ?_
  refine g_iconst (pc := 8) (v := (1 : Int32)) dX12_annul_8 (by decide) ?_
  refine g_isub (pc := 9) dX12_annul_9 ?_
  refine g_callS (pc := 10) (as := [.int a1, .int (0 : Int32), .int ((mm.1 163 2) - (1 : Int32))]) dX12_annul_10 cw_X12_392 (by decide) rfl rfl (Nat.le_of_ble_eq_true rfl) (rv_X12_isIn mm a1 (0 : Int32) ((mm.1 163 2) - (1 : Int32))) ?_
  rintro r_ m_ hz_ ⟨⟨p_, rfl⟩ | ⟨p_, rfl⟩, rfl⟩
  · have h := h.1 p_
    refine g_if_eq (pc := 13) (tgt := 43) dX12_annul_13 (by decide) (fun c13 => absurd c13 (by decide)) (fun _ => ?_)
    refine g_aload_n (pc := 16) (x := 156) dX12_annul_16 rfl ?_
    refine g_getR (pc := 17) (dd := 7) dX12_annul_17 fo_X12_33 sh_156 rfl ?_
    refine g_sipush (pc := 20) (v := (180 : Int32)) dX12_annul_20 (by decide) ?_
    refine g_iconst (pc := 23) (v := (4 : Int32)) dX12_annul_23 (by decide) ?_
    refine g_iload_n (pc := 24) (x := a1) dX12_annul_24 rfl ?_
    refine g_imul (pc := 25) dX12_annul_25 ?_
    refine g_iadd (pc := 26) dX12_annul_26 ?_
    refine g_iaload (pc := 27) dX12_annul_27 sh_163 h.1 ?_
    have h := h.2
    refine g_iconst (pc := 28) (v := (2 : Int32)) dX12_annul_28 (by decide) ?_
    refine g_icmp_eq (pc := 29) (tgt := 43) dX12_annul_29 (by decide) (fun c29 => ?_) (fun c29 => ?_)
    · have h := h.1 c29
      refine g_iconst (pc := 43) (v := (-1 : Int32)) dX12_annul_43 (by decide) ?_
      exact g_iret (pc := 44) dX12_annul_44 rfl rfl rfl h
    · have h := h.2 c29
      refine g_aload_n (pc := 32) (x := 156) dX12_annul_32 rfl ?_
      refine g_iconst (pc := 33) (v := (2 : Int32)) dX12_annul_33 (by decide) ?_
      refine g_iload_n (pc := 34) (x := a1) dX12_annul_34 rfl ?_
      refine g_iconst (pc := 35) (v := (0 : Int32)) dX12_annul_35 (by decide) ?_
      refine g_iconst (pc := 36) (v := (0 : Int32)) dX12_annul_36 (by decide) ?_
      obtain ⟨Pm1, hRm1, h⟩ := h
      refine g_callV (pc := 37) (as := [.int (2 : Int32), .int a1, .int (0 : Int32), .int (0 : Int32)]) dX12_annul_37 cw_X12_514 (by decide) rfl rfl sh_156 (Nat.le_of_ble_eq_true rfl) hRm1 ?_
      intro r_ m1 hz_ hp_
      obtain ⟨r1, rfl⟩ := hz_
      have h := h r1 m1 hp_
      refine g_goto (pc := 40) (tgt := 44) dX12_annul_40 (by decide) ?_
      exact g_iret (pc := 44) dX12_annul_44 rfl rfl rfl h
  · have h := h.2 p_
    refine g_if_eq (pc := 13) (tgt := 43) dX12_annul_13 (by decide) (fun _ => ?_) (fun c13 => absurd c13 (by decide))
    refine g_iconst (pc := 43) (v := (-1 : Int32)) dX12_annul_43 (by decide) ?_
    exact g_iret (pc := 44) dX12_annul_44 rfl rfl rfl h
theorem dX12_isKnown_0 : decode cX12_isKnown 0 = .ok (.iload_n 1, 1) := by decide +kernel
theorem dX12_isKnown_1 : decode cX12_isKnown 1 = .ok (.ifCond .lt 17, 3) := by decide +kernel
theorem dX12_isKnown_4 : decode cX12_isKnown 4 = .ok (.iload_n 1, 1) := by decide +kernel
theorem dX12_isKnown_5 : decode cX12_isKnown 5 = .ok (.aload_n 0, 1) := by decide +kernel
theorem dX12_isKnown_6 : decode cX12_isKnown 6 = .ok (.getfield 33, 3) := by decide +kernel
theorem dX12_isKnown_9 : decode cX12_isKnown 9 = .ok (.iconst 2, 1) := by decide +kernel
theorem dX12_isKnown_10 : decode cX12_isKnown 10 = .ok (.iaload, 1) := by decide +kernel
theorem dX12_isKnown_11 : decode cX12_isKnown 11 = .ok (.if_icmp .gt 7, 3) := by decide +kernel
theorem dX12_isKnown_14 : decode cX12_isKnown 14 = .ok (.iconst 1, 1) := by decide +kernel
theorem dX12_isKnown_15 : decode cX12_isKnown 15 = .ok (.goto 4, 3) := by decide +kernel
theorem dX12_isKnown_18 : decode cX12_isKnown 18 = .ok (.iconst 0, 1) := by decide +kernel
theorem dX12_isKnown_19 : decode cX12_isKnown 19 = .ok (.ireturn, 1) := by decide +kernel
def p_X12_isKnown (mm : MM) (a1 : Int32) : Prop := (¬ a1 < 0 ∧ ¬ (mm.1 163 2) < a1)
theorem rv_X12_isKnown (mm : MM) (a1 : Int32) : Runs e_X12_isKnown [.ref 156, .int a1] mm (fun r m_ => ((p_X12_isKnown mm a1 ∧ r = .int 1) ∨ (¬ p_X12_isKnown mm a1 ∧ r = .int 0)) ∧ mm = m_) := by
  refine runs_of_G (L := [(0, .ref 156), (1, .int a1)]) pl_X12 (Nat.le_of_ble_eq_true rfl) rfl ?_
  refine g_iload_n (pc := 0) (x := a1) dX12_isKnown_0 rfl ?_
  refine g_if_lt (pc := 1) (tgt := 18) dX12_isKnown_1 (by decide) (fun c1 => ?_) (fun c1 => ?_)
  · have c1_0 : a1 < 0 := c1
    refine g_iconst (pc := 18) (v := (0 : Int32)) dX12_isKnown_18 (by decide) ?_
    exact g_iret (pc := 19) dX12_isKnown_19 rfl rfl (nar_B isB0) ⟨Or.inr ⟨(show ¬ p_X12_isKnown mm a1 from (fun h_ => (h_.1 c1_0))), rfl⟩, rfl⟩
  · have c1_0 : ¬ a1 < 0 := c1
    refine g_iload_n (pc := 4) (x := a1) dX12_isKnown_4 rfl ?_
    refine g_aload_n (pc := 5) (x := 156) dX12_isKnown_5 rfl ?_
    refine g_getR (pc := 6) (dd := 7) dX12_isKnown_6 fo_X12_33 sh_156 rfl ?_
    refine g_iconst (pc := 9) (v := (2 : Int32)) dX12_isKnown_9 (by decide) ?_
    refine g_iaload (pc := 10) dX12_isKnown_10 sh_163 (vp_in_nI (n := 2) (N := 1260) (by decide) (by decide)) ?_
    refine g_icmp_gt (pc := 11) (tgt := 18) dX12_isKnown_11 (by decide) (fun c11 => ?_) (fun c11 => ?_)
    · have c11_1 : (mm.1 163 2) < a1 := c11
      refine g_iconst (pc := 18) (v := (0 : Int32)) dX12_isKnown_18 (by decide) ?_
      exact g_iret (pc := 19) dX12_isKnown_19 rfl rfl (nar_B isB0) ⟨Or.inr ⟨(show ¬ p_X12_isKnown mm a1 from (fun h_ => (not_not_intro c11_1) h_.2)), rfl⟩, rfl⟩
    · have c11_1 : ¬ (mm.1 163 2) < a1 := c11
      refine g_iconst (pc := 14) (v := (1 : Int32)) dX12_isKnown_14 (by decide) ?_
      refine g_goto (pc := 15) (tgt := 19) dX12_isKnown_15 (by decide) ?_
      exact g_iret (pc := 19) dX12_isKnown_19 rfl rfl (nar_B isB1) ⟨Or.inl ⟨(show p_X12_isKnown mm a1 from ⟨c1_0, c11_1⟩), rfl⟩, rfl⟩
theorem dX12_isLive_0 : decode cX12_isLive 0 = .ok (.iload_n 1, 1) := by decide +kernel
theorem dX12_isLive_1 : decode cX12_isLive 1 = .ok (.iconst 1, 1) := by decide +kernel
theorem dX12_isLive_2 : decode cX12_isLive 2 = .ok (.iadd, 1) := by decide +kernel
theorem dX12_isLive_3 : decode cX12_isLive 3 = .ok (.istore_n 3, 1) := by decide +kernel
theorem dX12_isLive_4 : decode cX12_isLive 4 = .ok (.iload_n 3, 1) := by decide +kernel
theorem dX12_isLive_5 : decode cX12_isLive 5 = .ok (.iload_n 2, 1) := by decide +kernel
theorem dX12_isLive_6 : decode cX12_isLive 6 = .ok (.if_icmp .ge 45, 3) := by decide +kernel
theorem dX12_isLive_9 : decode cX12_isLive 9 = .ok (.aload_n 0, 1) := by decide +kernel
theorem dX12_isLive_10 : decode cX12_isLive 10 = .ok (.getfield 33, 3) := by decide +kernel
theorem dX12_isLive_13 : decode cX12_isLive 13 = .ok (.sipush 180, 3) := by decide +kernel
theorem dX12_isLive_16 : decode cX12_isLive 16 = .ok (.iconst 4, 1) := by decide +kernel
theorem dX12_isLive_17 : decode cX12_isLive 17 = .ok (.iload_n 3, 1) := by decide +kernel
theorem dX12_isLive_18 : decode cX12_isLive 18 = .ok (.imul, 1) := by decide +kernel
theorem dX12_isLive_19 : decode cX12_isLive 19 = .ok (.iadd, 1) := by decide +kernel
theorem dX12_isLive_20 : decode cX12_isLive 20 = .ok (.iaload, 1) := by decide +kernel
theorem dX12_isLive_21 : decode cX12_isLive 21 = .ok (.iconst 2, 1) := by decide +kernel
theorem dX12_isLive_22 : decode cX12_isLive 22 = .ok (.if_icmp .ne 23, 3) := by decide +kernel
theorem dX12_isLive_25 : decode cX12_isLive 25 = .ok (.aload_n 0, 1) := by decide +kernel
theorem dX12_isLive_26 : decode cX12_isLive 26 = .ok (.getfield 33, 3) := by decide +kernel
theorem dX12_isLive_29 : decode cX12_isLive 29 = .ok (.sipush 180, 3) := by decide +kernel
theorem dX12_isLive_32 : decode cX12_isLive 32 = .ok (.iconst 4, 1) := by decide +kernel
theorem dX12_isLive_33 : decode cX12_isLive 33 = .ok (.iload_n 3, 1) := by decide +kernel
theorem dX12_isLive_34 : decode cX12_isLive 34 = .ok (.imul, 1) := by decide +kernel
theorem dX12_isLive_35 : decode cX12_isLive 35 = .ok (.iadd, 1) := by decide +kernel
theorem dX12_isLive_36 : decode cX12_isLive 36 = .ok (.iconst 1, 1) := by decide +kernel
theorem dX12_isLive_37 : decode cX12_isLive 37 = .ok (.iadd, 1) := by decide +kernel
theorem dX12_isLive_38 : decode cX12_isLive 38 = .ok (.iaload, 1) := by decide +kernel
theorem dX12_isLive_39 : decode cX12_isLive 39 = .ok (.iload_n 1, 1) := by decide +kernel
theorem dX12_isLive_40 : decode cX12_isLive 40 = .ok (.if_icmp .ne 5, 3) := by decide +kernel
theorem dX12_isLive_43 : decode cX12_isLive 43 = .ok (.iconst 0, 1) := by decide +kernel
theorem dX12_isLive_44 : decode cX12_isLive 44 = .ok (.ireturn, 1) := by decide +kernel
theorem dX12_isLive_45 : decode cX12_isLive 45 = .ok (.iinc 3 1, 3) := by decide +kernel
theorem dX12_isLive_48 : decode cX12_isLive 48 = .ok (.goto (-44), 3) := by decide +kernel
theorem dX12_isLive_51 : decode cX12_isLive 51 = .ok (.iconst 1, 1) := by decide +kernel
theorem dX12_isLive_52 : decode cX12_isLive 52 = .ok (.ireturn, 1) := by decide +kernel
theorem b_X12_isLive (mm : MM) (Q : Value → MM → Prop) (a1 : Int32) (a2 : Int32) (h : G e_X12_isLive 4 [(0, .ref 156), (1, .int a1), (2, .int a2), (3, .int (a1 + (1 : Int32)))] [] mm Q) : Runs e_X12_isLive [.ref 156, .int a1, .int a2] mm Q := by
  refine runs_of_G (L := [(0, .ref 156), (1, .int a1), (2, .int a2)]) pl_X12 (Nat.le_of_ble_eq_true rfl) rfl ?_
  refine g_iload_n (pc := 0) (x := a1) dX12_isLive_0 rfl ?_
  refine g_iconst (pc := 1) (v := (1 : Int32)) dX12_isLive_1 (by decide) ?_
  refine g_iadd (pc := 2) dX12_isLive_2 ?_
  refine g_istore_n (pc := 3) (L' := [(0, .ref 156), (1, .int a1), (2, .int a2), (3, .int (a1 + (1 : Int32)))]) dX12_isLive_3 (Nat.le_of_ble_eq_true rfl) rfl ?_
  exact h
theorem b_X12_isLive_4 (mm : MM) (Q : Value → MM → Prop) (l1 : Int32) (l2 : Int32) (l3 : Int32) (h : (l2 ≤ l3 → (Q (.int (1 : Int32)) mm)) ∧ (¬ l2 ≤ l3 → (vp_in ((180 : Int32) + ((4 : Int32) * l3)) 1260 ∧ ((¬ (mm.1 163 ((180 : Int32) + ((4 : Int32) * l3)).toNatClampNeg) = (2 : Int32) → (G e_X12_isLive 4 [(0, .ref 156), (1, .int l1), (2, .int l2), (3, .int (l3 + (1 : Int32)))] [] mm Q)) ∧ ((mm.1 163 ((180 : Int32) + ((4 : Int32) * l3)).toNatClampNeg) = (2 : Int32) → (vp_in (((180 : Int32) + ((4 : Int32) * l3)) + (1 : Int32)) 1260 ∧ ((¬ (mm.1 163 (((180 : Int32) + ((4 : Int32) * l3)) + (1 : Int32)).toNatClampNeg) = l1 → (G e_X12_isLive 4 [(0, .ref 156), (1, .int l1), (2, .int l2), (3, .int (l3 + (1 : Int32)))] [] mm Q)) ∧ ((mm.1 163 (((180 : Int32) + ((4 : Int32) * l3)) + (1 : Int32)).toNatClampNeg) = l1 → (Q (.int (0 : Int32)) mm))))))))) : G e_X12_isLive 4 [(0, .ref 156), (1, .int l1), (2, .int l2), (3, .int l3)] [] mm Q := by
  refine g_iload_n (pc := 4) (x := l3) dX12_isLive_4 rfl ?_
  refine g_iload_n (pc := 5) (x := l2) dX12_isLive_5 rfl ?_
  refine g_icmp_ge (pc := 6) (tgt := 51) dX12_isLive_6 (by decide) (fun c6 => ?_) (fun c6 => ?_)
  · have h := h.1 c6
    refine g_iconst (pc := 51) (v := (1 : Int32)) dX12_isLive_51 (by decide) ?_
    exact g_iret (pc := 52) dX12_isLive_52 rfl rfl (nar_B isB1) h
  · have h := h.2 c6
    refine g_aload_n (pc := 9) (x := 156) dX12_isLive_9 rfl ?_
    refine g_getR (pc := 10) (dd := 7) dX12_isLive_10 fo_X12_33 sh_156 rfl ?_
    refine g_sipush (pc := 13) (v := (180 : Int32)) dX12_isLive_13 (by decide) ?_
    refine g_iconst (pc := 16) (v := (4 : Int32)) dX12_isLive_16 (by decide) ?_
    refine g_iload_n (pc := 17) (x := l3) dX12_isLive_17 rfl ?_
    refine g_imul (pc := 18) dX12_isLive_18 ?_
    refine g_iadd (pc := 19) dX12_isLive_19 ?_
    refine g_iaload (pc := 20) dX12_isLive_20 sh_163 h.1 ?_
    have h := h.2
    refine g_iconst (pc := 21) (v := (2 : Int32)) dX12_isLive_21 (by decide) ?_
    refine g_icmp_ne (pc := 22) (tgt := 45) dX12_isLive_22 (by decide) (fun c22 => ?_) (fun c22 => ?_)
    · have h := h.1 c22
      refine g_iinc (pc := 45) (x := l3) (v := (l3 + (1 : Int32))) (L' := [(0, .ref 156), (1, .int l1), (2, .int l2), (3, .int (l3 + (1 : Int32)))]) dX12_isLive_45 rfl rfl (Nat.le_of_ble_eq_true rfl) rfl ?_
      refine g_goto (pc := 48) (tgt := 4) dX12_isLive_48 (by decide) ?_
      exact h
    · have h := h.2 c22
      refine g_aload_n (pc := 25) (x := 156) dX12_isLive_25 rfl ?_
      refine g_getR (pc := 26) (dd := 7) dX12_isLive_26 fo_X12_33 sh_156 rfl ?_
      refine g_sipush (pc := 29) (v := (180 : Int32)) dX12_isLive_29 (by decide) ?_
      refine g_iconst (pc := 32) (v := (4 : Int32)) dX12_isLive_32 (by decide) ?_
      refine g_iload_n (pc := 33) (x := l3) dX12_isLive_33 rfl ?_
      refine g_imul (pc := 34) dX12_isLive_34 ?_
      refine g_iadd (pc := 35) dX12_isLive_35 ?_
      refine g_iconst (pc := 36) (v := (1 : Int32)) dX12_isLive_36 (by decide) ?_
      refine g_iadd (pc := 37) dX12_isLive_37 ?_
      refine g_iaload (pc := 38) dX12_isLive_38 sh_163 h.1 ?_
      have h := h.2
      refine g_iload_n (pc := 39) (x := l1) dX12_isLive_39 rfl ?_
      refine g_icmp_ne (pc := 40) (tgt := 45) dX12_isLive_40 (by decide) (fun c40 => ?_) (fun c40 => ?_)
      · have h := h.1 c40
        refine g_iinc (pc := 45) (x := l3) (v := (l3 + (1 : Int32))) (L' := [(0, .ref 156), (1, .int l1), (2, .int l2), (3, .int (l3 + (1 : Int32)))]) dX12_isLive_45 rfl rfl (Nat.le_of_ble_eq_true rfl) rfl ?_
        refine g_goto (pc := 48) (tgt := 4) dX12_isLive_48 (by decide) ?_
        exact h
      · have h := h.2 c40
        refine g_iconst (pc := 43) (v := (0 : Int32)) dX12_isLive_43 (by decide) ?_
        exact g_iret (pc := 44) dX12_isLive_44 rfl rfl (nar_B isB0) h
theorem dX12_voteOf_0 : decode cX12_voteOf 0 = .ok (.iload_n 3, 1) := by decide +kernel
theorem dX12_voteOf_1 : decode cX12_voteOf 1 = .ok (.iconst 1, 1) := by decide +kernel
theorem dX12_voteOf_2 : decode cX12_voteOf 2 = .ok (.isub, 1) := by decide +kernel
theorem dX12_voteOf_3 : decode cX12_voteOf 3 = .ok (.istore 4, 2) := by decide +kernel
theorem dX12_voteOf_5 : decode cX12_voteOf 5 = .ok (.iload 4, 2) := by decide +kernel
theorem dX12_voteOf_7 : decode cX12_voteOf 7 = .ok (.ifCond .lt 75, 3) := by decide +kernel
theorem dX12_voteOf_10 : decode cX12_voteOf 10 = .ok (.sipush 180, 3) := by decide +kernel
theorem dX12_voteOf_13 : decode cX12_voteOf 13 = .ok (.iconst 4, 1) := by decide +kernel
theorem dX12_voteOf_14 : decode cX12_voteOf 14 = .ok (.iload 4, 2) := by decide +kernel
theorem dX12_voteOf_16 : decode cX12_voteOf 16 = .ok (.imul, 1) := by decide +kernel
theorem dX12_voteOf_17 : decode cX12_voteOf 17 = .ok (.iadd, 1) := by decide +kernel
theorem dX12_voteOf_18 : decode cX12_voteOf 18 = .ok (.istore 5, 2) := by decide +kernel
theorem dX12_voteOf_20 : decode cX12_voteOf 20 = .ok (.aload_n 0, 1) := by decide +kernel
theorem dX12_voteOf_21 : decode cX12_voteOf 21 = .ok (.getfield 33, 3) := by decide +kernel
theorem dX12_voteOf_24 : decode cX12_voteOf 24 = .ok (.iload 5, 2) := by decide +kernel
theorem dX12_voteOf_26 : decode cX12_voteOf 26 = .ok (.iaload, 1) := by decide +kernel
theorem dX12_voteOf_27 : decode cX12_voteOf 27 = .ok (.ifCond .ne 49, 3) := by decide +kernel
theorem dX12_voteOf_30 : decode cX12_voteOf 30 = .ok (.aload_n 0, 1) := by decide +kernel
theorem dX12_voteOf_31 : decode cX12_voteOf 31 = .ok (.getfield 33, 3) := by decide +kernel
theorem dX12_voteOf_34 : decode cX12_voteOf 34 = .ok (.iload 5, 2) := by decide +kernel
theorem dX12_voteOf_36 : decode cX12_voteOf 36 = .ok (.iconst 1, 1) := by decide +kernel
theorem dX12_voteOf_37 : decode cX12_voteOf 37 = .ok (.iadd, 1) := by decide +kernel
theorem dX12_voteOf_38 : decode cX12_voteOf 38 = .ok (.iaload, 1) := by decide +kernel
theorem dX12_voteOf_39 : decode cX12_voteOf 39 = .ok (.iload_n 1, 1) := by decide +kernel
theorem dX12_voteOf_40 : decode cX12_voteOf 40 = .ok (.if_icmp .ne 36, 3) := by decide +kernel
theorem dX12_voteOf_43 : decode cX12_voteOf 43 = .ok (.aload_n 0, 1) := by decide +kernel
theorem dX12_voteOf_44 : decode cX12_voteOf 44 = .ok (.getfield 33, 3) := by decide +kernel
theorem dX12_voteOf_47 : decode cX12_voteOf 47 = .ok (.iload 5, 2) := by decide +kernel
theorem dX12_voteOf_49 : decode cX12_voteOf 49 = .ok (.iconst 2, 1) := by decide +kernel
theorem dX12_voteOf_50 : decode cX12_voteOf 50 = .ok (.iadd, 1) := by decide +kernel
theorem dX12_voteOf_51 : decode cX12_voteOf 51 = .ok (.iaload, 1) := by decide +kernel
theorem dX12_voteOf_52 : decode cX12_voteOf 52 = .ok (.iload_n 2, 1) := by decide +kernel
theorem dX12_voteOf_53 : decode cX12_voteOf 53 = .ok (.if_icmp .ne 23, 3) := by decide +kernel
theorem dX12_voteOf_56 : decode cX12_voteOf 56 = .ok (.aload_n 0, 1) := by decide +kernel
theorem dX12_voteOf_57 : decode cX12_voteOf 57 = .ok (.iload 4, 2) := by decide +kernel
theorem dX12_voteOf_59 : decode cX12_voteOf 59 = .ok (.iload_n 3, 1) := by decide +kernel
theorem dX12_voteOf_60 : decode cX12_voteOf 60 = .ok (.invokevirtual 517, 3) := by decide +kernel
theorem dX12_voteOf_63 : decode cX12_voteOf 63 = .ok (.ifCond .eq 13, 3) := by decide +kernel
theorem dX12_voteOf_66 : decode cX12_voteOf 66 = .ok (.aload_n 0, 1) := by decide +kernel
theorem dX12_voteOf_67 : decode cX12_voteOf 67 = .ok (.getfield 33, 3) := by decide +kernel
theorem dX12_voteOf_70 : decode cX12_voteOf 70 = .ok (.iload 5, 2) := by decide +kernel
theorem dX12_voteOf_72 : decode cX12_voteOf 72 = .ok (.iconst 3, 1) := by decide +kernel
theorem dX12_voteOf_73 : decode cX12_voteOf 73 = .ok (.iadd, 1) := by decide +kernel
theorem dX12_voteOf_74 : decode cX12_voteOf 74 = .ok (.iaload, 1) := by decide +kernel
theorem dX12_voteOf_75 : decode cX12_voteOf 75 = .ok (.ireturn, 1) := by decide +kernel
theorem dX12_voteOf_76 : decode cX12_voteOf 76 = .ok (.iinc 4 (-1), 3) := by decide +kernel
theorem dX12_voteOf_79 : decode cX12_voteOf 79 = .ok (.goto (-74), 3) := by decide +kernel
theorem dX12_voteOf_82 : decode cX12_voteOf 82 = .ok (.iconst (-1), 1) := by decide +kernel
theorem dX12_voteOf_83 : decode cX12_voteOf 83 = .ok (.ireturn, 1) := by decide +kernel
theorem b_X12_voteOf (mm : MM) (Q : Value → MM → Prop) (a1 : Int32) (a2 : Int32) (a3 : Int32) (h : G e_X12_voteOf 5 [(0, .ref 156), (1, .int a1), (2, .int a2), (3, .int a3), (4, .int (a3 - (1 : Int32)))] [] mm Q) : Runs e_X12_voteOf [.ref 156, .int a1, .int a2, .int a3] mm Q := by
  refine runs_of_G (L := [(0, .ref 156), (1, .int a1), (2, .int a2), (3, .int a3)]) pl_X12 (Nat.le_of_ble_eq_true rfl) rfl ?_
  refine g_iload_n (pc := 0) (x := a3) dX12_voteOf_0 rfl ?_
  refine g_iconst (pc := 1) (v := (1 : Int32)) dX12_voteOf_1 (by decide) ?_
  refine g_isub (pc := 2) dX12_voteOf_2 ?_
  refine g_istore (pc := 3) (L' := [(0, .ref 156), (1, .int a1), (2, .int a2), (3, .int a3), (4, .int (a3 - (1 : Int32)))]) dX12_voteOf_3 (Nat.le_of_ble_eq_true rfl) rfl ?_
  exact h
theorem b_X12_voteOf_5 (mm : MM) (Q : Value → MM → Prop) (l1 : Int32) (l2 : Int32) (l3 : Int32) (l4 : Int32) (h : (l4 < 0 → (Q (.int (-1 : Int32)) mm)) ∧ (¬ l4 < 0 → (vp_in ((180 : Int32) + ((4 : Int32) * l4)) 1260 ∧ ((¬ (mm.1 163 ((180 : Int32) + ((4 : Int32) * l4)).toNatClampNeg) = 0 → (G e_X12_voteOf 5 [(0, .ref 156), (1, .int l1), (2, .int l2), (3, .int l3), (4, .int (l4 + (-1 : Int32)))] [] mm Q)) ∧ ((mm.1 163 ((180 : Int32) + ((4 : Int32) * l4)).toNatClampNeg) = 0 → (vp_in (((180 : Int32) + ((4 : Int32) * l4)) + (1 : Int32)) 1260 ∧ ((¬ (mm.1 163 (((180 : Int32) + ((4 : Int32) * l4)) + (1 : Int32)).toNatClampNeg) = l1 → (G e_X12_voteOf 5 [(0, .ref 156), (1, .int l1), (2, .int l2), (3, .int l3), (4, .int (l4 + (-1 : Int32)))] [] mm Q)) ∧ ((mm.1 163 (((180 : Int32) + ((4 : Int32) * l4)) + (1 : Int32)).toNatClampNeg) = l1 → (vp_in (((180 : Int32) + ((4 : Int32) * l4)) + (2 : Int32)) 1260 ∧ ((¬ (mm.1 163 (((180 : Int32) + ((4 : Int32) * l4)) + (2 : Int32)).toNatClampNeg) = l2 → (G e_X12_voteOf 5 [(0, .ref 156), (1, .int l1), (2, .int l2), (3, .int l3), (4, .int (l4 + (-1 : Int32)))] [] mm Q)) ∧ ((mm.1 163 (((180 : Int32) + ((4 : Int32) * l4)) + (2 : Int32)).toNatClampNeg) = l2 → (∃ Pm1 : Value → MM → Prop, Runs e_X12_isLive [.ref 156, .int l4, .int l3] mm Pm1 ∧ (∀ r m1, Pm1 r m1 → r = .int 1 ∨ r = .int 0) ∧ (∀ m1, Pm1 (.int 1) m1 → (vp_in (((180 : Int32) + ((4 : Int32) * l4)) + (3 : Int32)) 1260 ∧ (Q (.int (m1.1 163 (((180 : Int32) + ((4 : Int32) * l4)) + (3 : Int32)).toNatClampNeg)) m1))) ∧ (∀ m1, Pm1 (.int 0) m1 → (G e_X12_voteOf 5 [(0, .ref 156), (1, .int l1), (2, .int l2), (3, .int l3), (4, .int (l4 + (-1 : Int32)))] [] m1 Q)))))))))))))) : G e_X12_voteOf 5 [(0, .ref 156), (1, .int l1), (2, .int l2), (3, .int l3), (4, .int l4)] [] mm Q := by
  refine g_iload (pc := 5) (x := l4) dX12_voteOf_5 rfl ?_
  refine g_if_lt (pc := 7) (tgt := 82) dX12_voteOf_7 (by decide) (fun c7 => ?_) (fun c7 => ?_)
  · have h := h.1 c7
    refine g_iconst (pc := 82) (v := (-1 : Int32)) dX12_voteOf_82 (by decide) ?_
    exact g_iret (pc := 83) dX12_voteOf_83 rfl rfl rfl h
  · have h := h.2 c7
    refine g_sipush (pc := 10) (v := (180 : Int32)) dX12_voteOf_10 (by decide) ?_
    refine g_iconst (pc := 13) (v := (4 : Int32)) dX12_voteOf_13 (by decide) ?_
    refine g_iload (pc := 14) (x := l4) dX12_voteOf_14 rfl ?_
    refine g_imul (pc := 16) dX12_voteOf_16 ?_
    refine g_iadd (pc := 17) dX12_voteOf_17 ?_
    refine g_istore (pc := 18) (L' := [(0, .ref 156), (1, .int l1), (2, .int l2), (3, .int l3), (4, .int l4), (5, .int ((180 : Int32) + ((4 : Int32) * l4)))]) dX12_voteOf_18 (Nat.le_of_ble_eq_true rfl) rfl ?_
    refine g_aload_n (pc := 20) (x := 156) dX12_voteOf_20 rfl ?_
    refine g_getR (pc := 21) (dd := 7) dX12_voteOf_21 fo_X12_33 sh_156 rfl ?_
    refine g_iload (pc := 24) (x := ((180 : Int32) + ((4 : Int32) * l4))) dX12_voteOf_24 rfl ?_
    refine g_iaload (pc := 26) dX12_voteOf_26 sh_163 h.1 ?_
    have h := h.2
    refine g_if_ne (pc := 27) (tgt := 76) dX12_voteOf_27 (by decide) (fun c27 => ?_) (fun c27 => ?_)
    · have h := h.1 c27
      refine g_iinc (pc := 76) (x := l4) (v := (l4 + (-1 : Int32))) (L' := [(0, .ref 156), (1, .int l1), (2, .int l2), (3, .int l3), (4, .int (l4 + (-1 : Int32))), (5, .int ((180 : Int32) + ((4 : Int32) * l4)))]) dX12_voteOf_76 rfl rfl (Nat.le_of_ble_eq_true rfl) rfl ?_
      refine g_goto (pc := 79) (tgt := 5) dX12_voteOf_79 (by decide) ?_
      refine g_sub (L' := [(0, .ref 156), (1, .int l1), (2, .int l2), (3, .int l3), (4, .int (l4 + (-1 : Int32)))]) [0, 1, 2, 3, 4] rfl ?_
      exact h
    · have h := h.2 c27
      refine g_aload_n (pc := 30) (x := 156) dX12_voteOf_30 rfl ?_
      refine g_getR (pc := 31) (dd := 7) dX12_voteOf_31 fo_X12_33 sh_156 rfl ?_
      refine g_iload (pc := 34) (x := ((180 : Int32) + ((4 : Int32) * l4))) dX12_voteOf_34 rfl ?_
      refine g_iconst (pc := 36) (v := (1 : Int32)) dX12_voteOf_36 (by decide) ?_
      refine g_iadd (pc := 37) dX12_voteOf_37 ?_
      refine g_iaload (pc := 38) dX12_voteOf_38 sh_163 h.1 ?_
      have h := h.2
      refine g_iload_n (pc := 39) (x := l1) dX12_voteOf_39 rfl ?_
      refine g_icmp_ne (pc := 40) (tgt := 76) dX12_voteOf_40 (by decide) (fun c40 => ?_) (fun c40 => ?_)
      · have h := h.1 c40
        refine g_iinc (pc := 76) (x := l4) (v := (l4 + (-1 : Int32))) (L' := [(0, .ref 156), (1, .int l1), (2, .int l2), (3, .int l3), (4, .int (l4 + (-1 : Int32))), (5, .int ((180 : Int32) + ((4 : Int32) * l4)))]) dX12_voteOf_76 rfl rfl (Nat.le_of_ble_eq_true rfl) rfl ?_
        refine g_goto (pc := 79) (tgt := 5) dX12_voteOf_79 (by decide) ?_
        refine g_sub (L' := [(0, .ref 156), (1, .int l1), (2, .int l2), (3, .int l3), (4, .int (l4 + (-1 : Int32)))]) [0, 1, 2, 3, 4] rfl ?_
        exact h
      · have h := h.2 c40
        refine g_aload_n (pc := 43) (x := 156) dX12_voteOf_43 rfl ?_
        refine g_getR (pc := 44) (dd := 7) dX12_voteOf_44 fo_X12_33 sh_156 rfl ?_
        refine g_iload (pc := 47) (x := ((180 : Int32) + ((4 : Int32) * l4))) dX12_voteOf_47 rfl ?_
        refine g_iconst (pc := 49) (v := (2 : Int32)) dX12_voteOf_49 (by decide) ?_
        refine g_iadd (pc := 50) dX12_voteOf_50 ?_
        refine g_iaload (pc := 51) dX12_voteOf_51 sh_163 h.1 ?_
        have h := h.2
        refine g_iload_n (pc := 52) (x := l2) dX12_voteOf_52 rfl ?_
        refine g_icmp_ne (pc := 53) (tgt := 76) dX12_voteOf_53 (by decide) (fun c53 => ?_) (fun c53 => ?_)
        · have h := h.1 c53
          refine g_iinc (pc := 76) (x := l4) (v := (l4 + (-1 : Int32))) (L' := [(0, .ref 156), (1, .int l1), (2, .int l2), (3, .int l3), (4, .int (l4 + (-1 : Int32))), (5, .int ((180 : Int32) + ((4 : Int32) * l4)))]) dX12_voteOf_76 rfl rfl (Nat.le_of_ble_eq_true rfl) rfl ?_
          refine g_goto (pc := 79) (tgt := 5) dX12_voteOf_79 (by decide) ?_
          refine g_sub (L' := [(0, .ref 156), (1, .int l1), (2, .int l2), (3, .int l3), (4, .int (l4 + (-1 : Int32)))]) [0, 1, 2, 3, 4] rfl ?_
          exact h
        · have h := h.2 c53
          refine g_aload_n (pc := 56) (x := 156) dX12_voteOf_56 rfl ?_
          refine g_iload (pc := 57) (x := l4) dX12_voteOf_57 rfl ?_
          refine g_iload_n (pc := 59) (x := l3) dX12_voteOf_59 rfl ?_
          obtain ⟨Pm1, hRm1, h⟩ := h
          refine g_callV (pc := 60) (as := [.int l4, .int l3]) dX12_voteOf_60 cw_X12_517 (by decide) rfl rfl sh_156 (Nat.le_of_ble_eq_true rfl) hRm1 ?_
          intro r_ m1 hz_ hp_
          rcases h.1 r_ m1 hp_ with rfl | rfl
          · have h := h.2.1 m1 hp_
            refine g_if_eq (pc := 63) (tgt := 76) dX12_voteOf_63 (by decide) (fun c63 => absurd c63 (by decide)) (fun _ => ?_)
            refine g_aload_n (pc := 66) (x := 156) dX12_voteOf_66 rfl ?_
            refine g_getR (pc := 67) (dd := 7) dX12_voteOf_67 fo_X12_33 sh_156 rfl ?_
            refine g_iload (pc := 70) (x := ((180 : Int32) + ((4 : Int32) * l4))) dX12_voteOf_70 rfl ?_
            refine g_iconst (pc := 72) (v := (3 : Int32)) dX12_voteOf_72 (by decide) ?_
            refine g_iadd (pc := 73) dX12_voteOf_73 ?_
            refine g_iaload (pc := 74) dX12_voteOf_74 sh_163 h.1 ?_
            have h := h.2
            exact g_iret (pc := 75) dX12_voteOf_75 rfl rfl rfl h
          · have h := h.2.2 m1 hp_
            refine g_if_eq (pc := 63) (tgt := 76) dX12_voteOf_63 (by decide) (fun _ => ?_) (fun c63 => absurd c63 (by decide))
            refine g_iinc (pc := 76) (x := l4) (v := (l4 + (-1 : Int32))) (L' := [(0, .ref 156), (1, .int l1), (2, .int l2), (3, .int l3), (4, .int (l4 + (-1 : Int32))), (5, .int ((180 : Int32) + ((4 : Int32) * l4)))]) dX12_voteOf_76 rfl rfl (Nat.le_of_ble_eq_true rfl) rfl ?_
            refine g_goto (pc := 79) (tgt := 5) dX12_voteOf_79 (by decide) ?_
            refine g_sub (L' := [(0, .ref 156), (1, .int l1), (2, .int l2), (3, .int l3), (4, .int (l4 + (-1 : Int32)))]) [0, 1, 2, 3, 4] rfl ?_
            exact h
theorem dX12_votesOf_0 : decode cX12_votesOf 0 = .ok (.iconst 0, 1) := by decide +kernel
theorem dX12_votesOf_1 : decode cX12_votesOf 1 = .ok (.istore 4, 2) := by decide +kernel
theorem dX12_votesOf_3 : decode cX12_votesOf 3 = .ok (.iconst 0, 1) := by decide +kernel
theorem dX12_votesOf_4 : decode cX12_votesOf 4 = .ok (.istore 5, 2) := by decide +kernel
theorem dX12_votesOf_6 : decode cX12_votesOf 6 = .ok (.iload 5, 2) := by decide +kernel
theorem dX12_votesOf_8 : decode cX12_votesOf 8 = .ok (.aload_n 0, 1) := by decide +kernel
theorem dX12_votesOf_9 : decode cX12_votesOf 9 = .ok (.getfield 30, 3) := by decide +kernel
theorem dX12_votesOf_12 : decode cX12_votesOf 12 = .ok (.iconst 0, 1) := by decide +kernel
theorem dX12_votesOf_13 : decode cX12_votesOf 13 = .ok (.iaload, 1) := by decide +kernel
theorem dX12_votesOf_14 : decode cX12_votesOf 14 = .ok (.if_icmp .ge 31, 3) := by decide +kernel
theorem dX12_votesOf_17 : decode cX12_votesOf 17 = .ok (.iload 4, 2) := by decide +kernel
theorem dX12_votesOf_19 : decode cX12_votesOf 19 = .ok (.aload_n 0, 1) := by decide +kernel
theorem dX12_votesOf_20 : decode cX12_votesOf 20 = .ok (.iload 5, 2) := by decide +kernel
theorem dX12_votesOf_22 : decode cX12_votesOf 22 = .ok (.iload_n 1, 1) := by decide +kernel
theorem dX12_votesOf_23 : decode cX12_votesOf 23 = .ok (.iload_n 3, 1) := by decide +kernel
theorem dX12_votesOf_24 : decode cX12_votesOf 24 = .ok (.invokevirtual 520, 3) := by decide +kernel
theorem dX12_votesOf_27 : decode cX12_votesOf 27 = .ok (.iload_n 2, 1) := by decide +kernel
theorem dX12_votesOf_28 : decode cX12_votesOf 28 = .ok (.if_icmp .ne 7, 3) := by decide +kernel
theorem dX12_votesOf_31 : decode cX12_votesOf 31 = .ok (.iconst 1, 1) := by decide +kernel
theorem dX12_votesOf_32 : decode cX12_votesOf 32 = .ok (.goto 4, 3) := by decide +kernel
theorem dX12_votesOf_35 : decode cX12_votesOf 35 = .ok (.iconst 0, 1) := by decide +kernel
theorem dX12_votesOf_36 : decode cX12_votesOf 36 = .ok (.iadd, 1) := by decide +kernel
theorem dX12_votesOf_37 : decode cX12_votesOf 37 = .ok (.istore 4, 2) := by decide +kernel
theorem dX12_votesOf_39 : decode cX12_votesOf 39 = .ok (.iinc 5 1, 3) := by decide +kernel
theorem dX12_votesOf_42 : decode cX12_votesOf 42 = .ok (.goto (-36), 3) := by decide +kernel
theorem dX12_votesOf_45 : decode cX12_votesOf 45 = .ok (.iload 4, 2) := by decide +kernel
theorem dX12_votesOf_47 : decode cX12_votesOf 47 = .ok (.ireturn, 1) := by decide +kernel
theorem b_X12_votesOf (mm : MM) (Q : Value → MM → Prop) (a1 : Int32) (a2 : Int32) (a3 : Int32) (h : G e_X12_votesOf 6 [(0, .ref 156), (1, .int a1), (2, .int a2), (3, .int a3), (4, .int (0 : Int32)), (5, .int (0 : Int32))] [] mm Q) : Runs e_X12_votesOf [.ref 156, .int a1, .int a2, .int a3] mm Q := by
  refine runs_of_G (L := [(0, .ref 156), (1, .int a1), (2, .int a2), (3, .int a3)]) pl_X12 (Nat.le_of_ble_eq_true rfl) rfl ?_
  refine g_iconst (pc := 0) (v := (0 : Int32)) dX12_votesOf_0 (by decide) ?_
  refine g_istore (pc := 1) (L' := [(0, .ref 156), (1, .int a1), (2, .int a2), (3, .int a3), (4, .int (0 : Int32))]) dX12_votesOf_1 (Nat.le_of_ble_eq_true rfl) rfl ?_
  refine g_iconst (pc := 3) (v := (0 : Int32)) dX12_votesOf_3 (by decide) ?_
  refine g_istore (pc := 4) (L' := [(0, .ref 156), (1, .int a1), (2, .int a2), (3, .int a3), (4, .int (0 : Int32)), (5, .int (0 : Int32))]) dX12_votesOf_4 (Nat.le_of_ble_eq_true rfl) rfl ?_
  exact h
theorem b_X12_votesOf_6 (mm : MM) (Q : Value → MM → Prop) (l1 : Int32) (l2 : Int32) (l3 : Int32) (l4 : Int32) (l5 : Int32) (h : ((mm.1 162 0) ≤ l5 → (Q (.int l4) mm)) ∧ (¬ (mm.1 162 0) ≤ l5 → (∃ Pm1 : Value → MM → Prop, Runs e_X12_voteOf [.ref 156, .int l5, .int l1, .int l3] mm Pm1 ∧ ∀ (r1 : Int32) (m1 : MM), Pm1 (.int r1) m1 → ((¬ r1 = l2 → (G e_X12_votesOf 6 [(0, .ref 156), (1, .int l1), (2, .int l2), (3, .int l3), (4, .int (l4 + (0 : Int32))), (5, .int (l5 + (1 : Int32)))] [] m1 Q)) ∧ (r1 = l2 → (G e_X12_votesOf 6 [(0, .ref 156), (1, .int l1), (2, .int l2), (3, .int l3), (4, .int (l4 + (1 : Int32))), (5, .int (l5 + (1 : Int32)))] [] m1 Q)))))) : G e_X12_votesOf 6 [(0, .ref 156), (1, .int l1), (2, .int l2), (3, .int l3), (4, .int l4), (5, .int l5)] [] mm Q := by
  refine g_iload (pc := 6) (x := l5) dX12_votesOf_6 rfl ?_
  refine g_aload_n (pc := 8) (x := 156) dX12_votesOf_8 rfl ?_
  refine g_getR (pc := 9) (dd := 6) dX12_votesOf_9 fo_X12_30 sh_156 rfl ?_
  refine g_iconst (pc := 12) (v := (0 : Int32)) dX12_votesOf_12 (by decide) ?_
  refine g_iaload (pc := 13) dX12_votesOf_13 sh_162 (vp_in_nI (n := 0) (N := 420) (by decide) (by decide)) ?_
  refine g_icmp_ge (pc := 14) (tgt := 45) dX12_votesOf_14 (by decide) (fun c14 => ?_) (fun c14 => ?_)
  · have h := h.1 c14
    refine g_iload (pc := 45) (x := l4) dX12_votesOf_45 rfl ?_
    exact g_iret (pc := 47) dX12_votesOf_47 rfl rfl rfl h
  · have h := h.2 c14
    refine g_iload (pc := 17) (x := l4) dX12_votesOf_17 rfl ?_
    refine g_aload_n (pc := 19) (x := 156) dX12_votesOf_19 rfl ?_
    refine g_iload (pc := 20) (x := l5) dX12_votesOf_20 rfl ?_
    refine g_iload_n (pc := 22) (x := l1) dX12_votesOf_22 rfl ?_
    refine g_iload_n (pc := 23) (x := l3) dX12_votesOf_23 rfl ?_
    obtain ⟨Pm1, hRm1, h⟩ := h
    refine g_callV (pc := 24) (as := [.int l5, .int l1, .int l3]) dX12_votesOf_24 cw_X12_520 (by decide) rfl rfl sh_156 (Nat.le_of_ble_eq_true rfl) hRm1 ?_
    intro r_ m1 hz_ hp_
    obtain ⟨r1, rfl⟩ := hz_
    have h := h r1 m1 hp_
    refine g_iload_n (pc := 27) (x := l2) dX12_votesOf_27 rfl ?_
    refine g_icmp_ne (pc := 28) (tgt := 35) dX12_votesOf_28 (by decide) (fun c28 => ?_) (fun c28 => ?_)
    · have h := h.1 c28
      refine g_iconst (pc := 35) (v := (0 : Int32)) dX12_votesOf_35 (by decide) ?_
      refine g_iadd (pc := 36) dX12_votesOf_36 ?_
      refine g_istore (pc := 37) (L' := [(0, .ref 156), (1, .int l1), (2, .int l2), (3, .int l3), (4, .int (l4 + (0 : Int32))), (5, .int l5)]) dX12_votesOf_37 (Nat.le_of_ble_eq_true rfl) rfl ?_
      refine g_iinc (pc := 39) (x := l5) (v := (l5 + (1 : Int32))) (L' := [(0, .ref 156), (1, .int l1), (2, .int l2), (3, .int l3), (4, .int (l4 + (0 : Int32))), (5, .int (l5 + (1 : Int32)))]) dX12_votesOf_39 rfl rfl (Nat.le_of_ble_eq_true rfl) rfl ?_
      refine g_goto (pc := 42) (tgt := 6) dX12_votesOf_42 (by decide) ?_
      exact h
    · have h := h.2 c28
      refine g_iconst (pc := 31) (v := (1 : Int32)) dX12_votesOf_31 (by decide) ?_
      refine g_goto (pc := 32) (tgt := 36) dX12_votesOf_32 (by decide) ?_
      refine g_iadd (pc := 36) dX12_votesOf_36 ?_
      refine g_istore (pc := 37) (L' := [(0, .ref 156), (1, .int l1), (2, .int l2), (3, .int l3), (4, .int (l4 + (1 : Int32))), (5, .int l5)]) dX12_votesOf_37 (Nat.le_of_ble_eq_true rfl) rfl ?_
      refine g_iinc (pc := 39) (x := l5) (v := (l5 + (1 : Int32))) (L' := [(0, .ref 156), (1, .int l1), (2, .int l2), (3, .int l3), (4, .int (l4 + (1 : Int32))), (5, .int (l5 + (1 : Int32)))]) dX12_votesOf_39 rfl rfl (Nat.le_of_ble_eq_true rfl) rfl ?_
      refine g_goto (pc := 42) (tgt := 6) dX12_votesOf_42 (by decide) ?_
      exact h
theorem dX12_votes_0 : decode cX12_votes 0 = .ok (.aload_n 0, 1) := by decide +kernel
theorem dX12_votes_1 : decode cX12_votes 1 = .ok (.iload_n 1, 1) := by decide +kernel
theorem dX12_votes_2 : decode cX12_votes 2 = .ok (.invokevirtual 389, 3) := by decide +kernel
theorem dX12_votes_5 : decode cX12_votes 5 = .ok (.ifCond .eq 29, 3) := by decide +kernel
theorem dX12_votes_8 : decode cX12_votes 8 = .ok (.aload_n 0, 1) := by decide +kernel
theorem dX12_votes_9 : decode cX12_votes 9 = .ok (.iload_n 2, 1) := by decide +kernel
theorem dX12_votes_10 : decode cX12_votes 10 = .ok (.invokevirtual 377, 3) := by decide +kernel
theorem dX12_votes_13 : decode cX12_votes 13 = .ok (.ifCond .eq 21, 3) := by decide +kernel
theorem dX12_votes_16 : decode cX12_votes 16 = .ok (.aload_n 0, 1) := by decide +kernel
theorem dX12_votes_17 : decode cX12_votes 17 = .ok (.iload_n 3, 1) := by decide +kernel
theorem dX12_votes_18 : decode cX12_votes 18 = .ok (.invokevirtual 523, 3) := by decide +kernel
theorem dX12_votes_21 : decode cX12_votes 21 = .ok (.ifCond .eq 13, 3) := by decide +kernel
theorem dX12_votes_24 : decode cX12_votes 24 = .ok (.aload_n 0, 1) := by decide +kernel
theorem dX12_votes_25 : decode cX12_votes 25 = .ok (.iload_n 1, 1) := by decide +kernel
theorem dX12_votes_26 : decode cX12_votes 26 = .ok (.iload_n 2, 1) := by decide +kernel
theorem dX12_votes_27 : decode cX12_votes 27 = .ok (.iload_n 3, 1) := by decide +kernel
theorem dX12_votes_28 : decode cX12_votes 28 = .ok (.invokevirtual 526, 3) := by decide +kernel
theorem dX12_votes_31 : decode cX12_votes 31 = .ok (.goto 4, 3) := by decide +kernel
theorem dX12_votes_34 : decode cX12_votes 34 = .ok (.iconst (-1), 1) := by decide +kernel
theorem dX12_votes_35 : decode cX12_votes 35 = .ok (.ireturn, 1) := by decide +kernel
theorem b_X12_votes (mm : MM) (Q : Value → MM → Prop) (a1 : Int32) (a2 : Int32) (a3 : Int32) (h : (p_X12_isOffice mm a1 → ((p_X12_isHouse mm a2 → ((p_X12_isKnown mm a3 → (∃ Pm1 : Value → MM → Prop, Runs e_X12_votesOf [.ref 156, .int a1, .int a2, .int a3] mm Pm1 ∧ ∀ (r1 : Int32) (m1 : MM), Pm1 (.int r1) m1 → (Q (.int r1) m1))) ∧ (¬ p_X12_isKnown mm a3 → (Q (.int (-1 : Int32)) mm)))) ∧ (¬ p_X12_isHouse mm a2 → (Q (.int (-1 : Int32)) mm)))) ∧ (¬ p_X12_isOffice mm a1 → (Q (.int (-1 : Int32)) mm))) : Runs e_X12_votes [.ref 156, .int a1, .int a2, .int a3] mm Q := by
  refine runs_of_G (L := [(0, .ref 156), (1, .int a1), (2, .int a2), (3, .int a3)]) pl_X12 (Nat.le_of_ble_eq_true rfl) rfl ?_
  refine g_aload_n (pc := 0) (x := 156) dX12_votes_0 rfl ?_
  refine g_iload_n (pc := 1) (x := a1) dX12_votes_1 rfl ?_
  refine g_callV (pc := 2) (as := [.int a1]) dX12_votes_2 cw_X12_389 (by decide) rfl rfl sh_156 (Nat.le_of_ble_eq_true rfl) (rv_X12_isOffice mm a1) ?_
  rintro r_ m_ hz_ ⟨⟨p_, rfl⟩ | ⟨p_, rfl⟩, rfl⟩
  · have h := h.1 p_
    refine g_if_eq (pc := 5) (tgt := 34) dX12_votes_5 (by decide) (fun c5 => absurd c5 (by decide)) (fun _ => ?_)
    refine g_aload_n (pc := 8) (x := 156) dX12_votes_8 rfl ?_
    refine g_iload_n (pc := 9) (x := a2) dX12_votes_9 rfl ?_
    refine g_callV (pc := 10) (as := [.int a2]) dX12_votes_10 cw_X12_377 (by decide) rfl rfl sh_156 (Nat.le_of_ble_eq_true rfl) (rv_X12_isHouse mm a2) ?_
    rintro r_ m_ hz_ ⟨⟨p_, rfl⟩ | ⟨p_, rfl⟩, rfl⟩
    · have h := h.1 p_
      refine g_if_eq (pc := 13) (tgt := 34) dX12_votes_13 (by decide) (fun c13 => absurd c13 (by decide)) (fun _ => ?_)
      refine g_aload_n (pc := 16) (x := 156) dX12_votes_16 rfl ?_
      refine g_iload_n (pc := 17) (x := a3) dX12_votes_17 rfl ?_
      refine g_callV (pc := 18) (as := [.int a3]) dX12_votes_18 cw_X12_523 (by decide) rfl rfl sh_156 (Nat.le_of_ble_eq_true rfl) (rv_X12_isKnown mm a3) ?_
      rintro r_ m_ hz_ ⟨⟨p_, rfl⟩ | ⟨p_, rfl⟩, rfl⟩
      · have h := h.1 p_
        refine g_if_eq (pc := 21) (tgt := 34) dX12_votes_21 (by decide) (fun c21 => absurd c21 (by decide)) (fun _ => ?_)
        refine g_aload_n (pc := 24) (x := 156) dX12_votes_24 rfl ?_
        refine g_iload_n (pc := 25) (x := a1) dX12_votes_25 rfl ?_
        refine g_iload_n (pc := 26) (x := a2) dX12_votes_26 rfl ?_
        refine g_iload_n (pc := 27) (x := a3) dX12_votes_27 rfl ?_
        obtain ⟨Pm1, hRm1, h⟩ := h
        refine g_callV (pc := 28) (as := [.int a1, .int a2, .int a3]) dX12_votes_28 cw_X12_526 (by decide) rfl rfl sh_156 (Nat.le_of_ble_eq_true rfl) hRm1 ?_
        intro r_ m1 hz_ hp_
        obtain ⟨r1, rfl⟩ := hz_
        have h := h r1 m1 hp_
        refine g_goto (pc := 31) (tgt := 35) dX12_votes_31 (by decide) ?_
        exact g_iret (pc := 35) dX12_votes_35 rfl rfl rfl h
      · have h := h.2 p_
        refine g_if_eq (pc := 21) (tgt := 34) dX12_votes_21 (by decide) (fun _ => ?_) (fun c21 => absurd c21 (by decide))
        refine g_iconst (pc := 34) (v := (-1 : Int32)) dX12_votes_34 (by decide) ?_
        exact g_iret (pc := 35) dX12_votes_35 rfl rfl rfl h
    · have h := h.2 p_
      refine g_if_eq (pc := 13) (tgt := 34) dX12_votes_13 (by decide) (fun _ => ?_) (fun c13 => absurd c13 (by decide))
      refine g_iconst (pc := 34) (v := (-1 : Int32)) dX12_votes_34 (by decide) ?_
      exact g_iret (pc := 35) dX12_votes_35 rfl rfl rfl h
  · have h := h.2 p_
    refine g_if_eq (pc := 5) (tgt := 34) dX12_votes_5 (by decide) (fun _ => ?_) (fun c5 => absurd c5 (by decide))
    refine g_iconst (pc := 34) (v := (-1 : Int32)) dX12_votes_34 (by decide) ?_
    exact g_iret (pc := 35) dX12_votes_35 rfl rfl rfl h
theorem dX12_winner_0 : decode cX12_winner 0 = .ok (.aload_n 0, 1) := by decide +kernel
theorem dX12_winner_1 : decode cX12_winner 1 = .ok (.iload_n 1, 1) := by decide +kernel
theorem dX12_winner_2 : decode cX12_winner 2 = .ok (.invokevirtual 389, 3) := by decide +kernel
theorem dX12_winner_5 : decode cX12_winner 5 = .ok (.ifCond .eq 11, 3) := by decide +kernel
theorem dX12_winner_8 : decode cX12_winner 8 = .ok (.aload_n 0, 1) := by decide +kernel
theorem dX12_winner_9 : decode cX12_winner 9 = .ok (.iload_n 2, 1) := by decide +kernel
theorem dX12_winner_10 : decode cX12_winner 10 = .ok (.invokevirtual 523, 3) := by decide +kernel
theorem dX12_winner_13 : decode cX12_winner 13 = .ok (.ifCond .ne 5, 3) := by decide +kernel
theorem dX12_winner_16 : decode cX12_winner 16 = .ok (.iconst (-1), 1) := by decide +kernel
theorem dX12_winner_17 : decode cX12_winner 17 = .ok (.ireturn, 1) := by decide +kernel
theorem dX12_winner_18 : decode cX12_winner 18 = .ok (.bipush (-2), 2) := by decide +kernel
theorem dX12_winner_20 : decode cX12_winner 20 = .ok (.istore_n 3, 1) := by decide +kernel
theorem dX12_winner_21 : decode cX12_winner 21 = .ok (.iconst 0, 1) := by decide +kernel
theorem dX12_winner_22 : decode cX12_winner 22 = .ok (.istore 4, 2) := by decide +kernel
theorem dX12_winner_24 : decode cX12_winner 24 = .ok (.iconst 0, 1) := by decide +kernel
theorem dX12_winner_25 : decode cX12_winner 25 = .ok (.istore 5, 2) := by decide +kernel
theorem dX12_winner_27 : decode cX12_winner 27 = .ok (.iload 5, 2) := by decide +kernel
theorem dX12_winner_29 : decode cX12_winner 29 = .ok (.aload_n 0, 1) := by decide +kernel
theorem dX12_winner_30 : decode cX12_winner 30 = .ok (.getfield 30, 3) := by decide +kernel
theorem dX12_winner_33 : decode cX12_winner 33 = .ok (.iconst 0, 1) := by decide +kernel
theorem dX12_winner_34 : decode cX12_winner 34 = .ok (.iaload, 1) := by decide +kernel
theorem dX12_winner_35 : decode cX12_winner 35 = .ok (.if_icmp .ge 66, 3) := by decide +kernel
theorem dX12_winner_38 : decode cX12_winner 38 = .ok (.aload_n 0, 1) := by decide +kernel
theorem dX12_winner_39 : decode cX12_winner 39 = .ok (.iload_n 1, 1) := by decide +kernel
theorem dX12_winner_40 : decode cX12_winner 40 = .ok (.iload 5, 2) := by decide +kernel
theorem dX12_winner_42 : decode cX12_winner 42 = .ok (.iload_n 2, 1) := by decide +kernel
theorem dX12_winner_43 : decode cX12_winner 43 = .ok (.invokevirtual 526, 3) := by decide +kernel
theorem dX12_winner_46 : decode cX12_winner 46 = .ok (.istore 6, 2) := by decide +kernel
theorem dX12_winner_48 : decode cX12_winner 48 = .ok (.iload 6, 2) := by decide +kernel
theorem dX12_winner_50 : decode cX12_winner 50 = .ok (.iload 4, 2) := by decide +kernel
theorem dX12_winner_52 : decode cX12_winner 52 = .ok (.if_icmp .lt 43, 3) := by decide +kernel
theorem dX12_winner_55 : decode cX12_winner 55 = .ok (.iload 6, 2) := by decide +kernel
theorem dX12_winner_57 : decode cX12_winner 57 = .ok (.ifCond .eq 38, 3) := by decide +kernel
theorem dX12_winner_60 : decode cX12_winner 60 = .ok (.iload 6, 2) := by decide +kernel
theorem dX12_winner_62 : decode cX12_winner 62 = .ok (.iload 4, 2) := by decide +kernel
theorem dX12_winner_64 : decode cX12_winner 64 = .ok (.if_icmp .ne 24, 3) := by decide +kernel
theorem dX12_winner_67 : decode cX12_winner 67 = .ok (.iload_n 3, 1) := by decide +kernel
theorem dX12_winner_68 : decode cX12_winner 68 = .ok (.ifCond .lt 20, 3) := by decide +kernel
theorem dX12_winner_71 : decode cX12_winner 71 = .ok (.aload_n 0, 1) := by decide +kernel
theorem dX12_winner_72 : decode cX12_winner 72 = .ok (.iload 5, 2) := by decide +kernel
theorem dX12_winner_74 : decode cX12_winner 74 = .ok (.invokevirtual 380, 3) := by decide +kernel
theorem dX12_winner_77 : decode cX12_winner 77 = .ok (.aload_n 0, 1) := by decide +kernel
theorem dX12_winner_78 : decode cX12_winner 78 = .ok (.iload_n 3, 1) := by decide +kernel
theorem dX12_winner_79 : decode cX12_winner 79 = .ok (.invokevirtual 380, 3) := by decide +kernel
theorem dX12_winner_82 : decode cX12_winner 82 = .ok (.if_icmp .gt 6, 3) := by decide +kernel
theorem dX12_winner_85 : decode cX12_winner 85 = .ok (.goto 10, 3) := by decide +kernel
theorem dX12_winner_88 : decode cX12_winner 88 = .ok (.iload 5, 2) := by decide +kernel
theorem dX12_winner_90 : decode cX12_winner 90 = .ok (.istore_n 3, 1) := by decide +kernel
theorem dX12_winner_91 : decode cX12_winner 91 = .ok (.iload 6, 2) := by decide +kernel
theorem dX12_winner_93 : decode cX12_winner 93 = .ok (.istore 4, 2) := by decide +kernel
theorem dX12_winner_95 : decode cX12_winner 95 = .ok (.iinc 5 1, 3) := by decide +kernel
theorem dX12_winner_98 : decode cX12_winner 98 = .ok (.goto (-71), 3) := by decide +kernel
theorem dX12_winner_101 : decode cX12_winner 101 = .ok (.iload_n 3, 1) := by decide +kernel
theorem dX12_winner_102 : decode cX12_winner 102 = .ok (.ireturn, 1) := by decide +kernel
theorem b_X12_winner (mm : MM) (Q : Value → MM → Prop) (a1 : Int32) (a2 : Int32) (h : (p_X12_isOffice mm a1 → ((p_X12_isKnown mm a2 → (G e_X12_winner 27 [(0, .ref 156), (1, .int a1), (2, .int a2), (3, .int (-2 : Int32)), (4, .int (0 : Int32)), (5, .int (0 : Int32))] [] mm Q)) ∧ (¬ p_X12_isKnown mm a2 → (Q (.int (-1 : Int32)) mm)))) ∧ (¬ p_X12_isOffice mm a1 → (Q (.int (-1 : Int32)) mm))) : Runs e_X12_winner [.ref 156, .int a1, .int a2] mm Q := by
  refine runs_of_G (L := [(0, .ref 156), (1, .int a1), (2, .int a2)]) pl_X12 (Nat.le_of_ble_eq_true rfl) rfl ?_
  refine g_aload_n (pc := 0) (x := 156) dX12_winner_0 rfl ?_
  refine g_iload_n (pc := 1) (x := a1) dX12_winner_1 rfl ?_
  refine g_callV (pc := 2) (as := [.int a1]) dX12_winner_2 cw_X12_389 (by decide) rfl rfl sh_156 (Nat.le_of_ble_eq_true rfl) (rv_X12_isOffice mm a1) ?_
  rintro r_ m_ hz_ ⟨⟨p_, rfl⟩ | ⟨p_, rfl⟩, rfl⟩
  · have h := h.1 p_
    refine g_if_eq (pc := 5) (tgt := 16) dX12_winner_5 (by decide) (fun c5 => absurd c5 (by decide)) (fun _ => ?_)
    refine g_aload_n (pc := 8) (x := 156) dX12_winner_8 rfl ?_
    refine g_iload_n (pc := 9) (x := a2) dX12_winner_9 rfl ?_
    refine g_callV (pc := 10) (as := [.int a2]) dX12_winner_10 cw_X12_523 (by decide) rfl rfl sh_156 (Nat.le_of_ble_eq_true rfl) (rv_X12_isKnown mm a2) ?_
    rintro r_ m_ hz_ ⟨⟨p_, rfl⟩ | ⟨p_, rfl⟩, rfl⟩
    · have h := h.1 p_
      refine g_if_ne (pc := 13) (tgt := 18) dX12_winner_13 (by decide) (fun _ => ?_) (fun c13 => absurd c13 (by decide))
      refine g_bipush (pc := 18) (v := (-2 : Int32)) dX12_winner_18 (by decide) ?_
      refine g_istore_n (pc := 20) (L' := [(0, .ref 156), (1, .int a1), (2, .int a2), (3, .int (-2 : Int32))]) dX12_winner_20 (Nat.le_of_ble_eq_true rfl) rfl ?_
      refine g_iconst (pc := 21) (v := (0 : Int32)) dX12_winner_21 (by decide) ?_
      refine g_istore (pc := 22) (L' := [(0, .ref 156), (1, .int a1), (2, .int a2), (3, .int (-2 : Int32)), (4, .int (0 : Int32))]) dX12_winner_22 (Nat.le_of_ble_eq_true rfl) rfl ?_
      refine g_iconst (pc := 24) (v := (0 : Int32)) dX12_winner_24 (by decide) ?_
      refine g_istore (pc := 25) (L' := [(0, .ref 156), (1, .int a1), (2, .int a2), (3, .int (-2 : Int32)), (4, .int (0 : Int32)), (5, .int (0 : Int32))]) dX12_winner_25 (Nat.le_of_ble_eq_true rfl) rfl ?_
      exact h
    · have h := h.2 p_
      refine g_if_ne (pc := 13) (tgt := 18) dX12_winner_13 (by decide) (fun c13 => absurd c13 (by decide)) (fun _ => ?_)
      refine g_iconst (pc := 16) (v := (-1 : Int32)) dX12_winner_16 (by decide) ?_
      exact g_iret (pc := 17) dX12_winner_17 rfl rfl rfl h
  · have h := h.2 p_
    refine g_if_eq (pc := 5) (tgt := 16) dX12_winner_5 (by decide) (fun _ => ?_) (fun c5 => absurd c5 (by decide))
    refine g_iconst (pc := 16) (v := (-1 : Int32)) dX12_winner_16 (by decide) ?_
    exact g_iret (pc := 17) dX12_winner_17 rfl rfl rfl h
theorem b_X12_winner_27 (mm : MM) (Q : Value → MM → Prop) (l1 : Int32) (l2 : Int32) (l3 : Int32) (l4 : Int32) (l5 : Int32) (h : ((mm.1 162 0) ≤ l5 → (Q (.int l3) mm)) ∧ (¬ (mm.1 162 0) ≤ l5 → (∃ Pm1 : Value → MM → Prop, Runs e_X12_votesOf [.ref 156, .int l1, .int l5, .int l2] mm Pm1 ∧ ∀ (r1 : Int32) (m1 : MM), Pm1 (.int r1) m1 → ((r1 < l4 → (G e_X12_winner 27 [(0, .ref 156), (1, .int l1), (2, .int l2), (3, .int l3), (4, .int l4), (5, .int (l5 + (1 : Int32)))] [] m1 Q)) ∧ (¬ r1 < l4 → ((r1 = 0 → (G e_X12_winner 27 [(0, .ref 156), (1, .int l1), (2, .int l2), (3, .int l3), (4, .int l4), (5, .int (l5 + (1 : Int32)))] [] m1 Q)) ∧ (¬ r1 = 0 → ((¬ r1 = l4 → (G e_X12_winner 27 [(0, .ref 156), (1, .int l1), (2, .int l2), (3, .int l5), (4, .int r1), (5, .int (l5 + (1 : Int32)))] [] m1 Q)) ∧ (r1 = l4 → ((l3 < 0 → (G e_X12_winner 27 [(0, .ref 156), (1, .int l1), (2, .int l2), (3, .int l5), (4, .int r1), (5, .int (l5 + (1 : Int32)))] [] m1 Q)) ∧ (¬ l3 < 0 → (o_X12_heightOf m1 l5 ∧ (o_X12_heightOf m1 l3 ∧ (((v_X12_heightOf m1 l3) < (v_X12_heightOf m1 l5) → (G e_X12_winner 27 [(0, .ref 156), (1, .int l1), (2, .int l2), (3, .int l5), (4, .int r1), (5, .int (l5 + (1 : Int32)))] [] m1 Q)) ∧ (¬ (v_X12_heightOf m1 l3) < (v_X12_heightOf m1 l5) → (G e_X12_winner 27 [(0, .ref 156), (1, .int l1), (2, .int l2), (3, .int l3), (4, .int l4), (5, .int (l5 + (1 : Int32)))] [] m1 Q)))))))))))))))) : G e_X12_winner 27 [(0, .ref 156), (1, .int l1), (2, .int l2), (3, .int l3), (4, .int l4), (5, .int l5)] [] mm Q := by
  refine g_iload (pc := 27) (x := l5) dX12_winner_27 rfl ?_
  refine g_aload_n (pc := 29) (x := 156) dX12_winner_29 rfl ?_
  refine g_getR (pc := 30) (dd := 6) dX12_winner_30 fo_X12_30 sh_156 rfl ?_
  refine g_iconst (pc := 33) (v := (0 : Int32)) dX12_winner_33 (by decide) ?_
  refine g_iaload (pc := 34) dX12_winner_34 sh_162 (vp_in_nI (n := 0) (N := 420) (by decide) (by decide)) ?_
  refine g_icmp_ge (pc := 35) (tgt := 101) dX12_winner_35 (by decide) (fun c35 => ?_) (fun c35 => ?_)
  · have h := h.1 c35
    refine g_iload_n (pc := 101) (x := l3) dX12_winner_101 rfl ?_
    exact g_iret (pc := 102) dX12_winner_102 rfl rfl rfl h
  · have h := h.2 c35
    refine g_aload_n (pc := 38) (x := 156) dX12_winner_38 rfl ?_
    refine g_iload_n (pc := 39) (x := l1) dX12_winner_39 rfl ?_
    refine g_iload (pc := 40) (x := l5) dX12_winner_40 rfl ?_
    refine g_iload_n (pc := 42) (x := l2) dX12_winner_42 rfl ?_
    obtain ⟨Pm1, hRm1, h⟩ := h
    refine g_callV (pc := 43) (as := [.int l1, .int l5, .int l2]) dX12_winner_43 cw_X12_526 (by decide) rfl rfl sh_156 (Nat.le_of_ble_eq_true rfl) hRm1 ?_
    intro r_ m1 hz_ hp_
    obtain ⟨r1, rfl⟩ := hz_
    have h := h r1 m1 hp_
    refine g_istore (pc := 46) (L' := [(0, .ref 156), (1, .int l1), (2, .int l2), (3, .int l3), (4, .int l4), (5, .int l5), (6, .int r1)]) dX12_winner_46 (Nat.le_of_ble_eq_true rfl) rfl ?_
    refine g_iload (pc := 48) (x := r1) dX12_winner_48 rfl ?_
    refine g_iload (pc := 50) (x := l4) dX12_winner_50 rfl ?_
    refine g_icmp_lt (pc := 52) (tgt := 95) dX12_winner_52 (by decide) (fun c52 => ?_) (fun c52 => ?_)
    · have h := h.1 c52
      refine g_iinc (pc := 95) (x := l5) (v := (l5 + (1 : Int32))) (L' := [(0, .ref 156), (1, .int l1), (2, .int l2), (3, .int l3), (4, .int l4), (5, .int (l5 + (1 : Int32))), (6, .int r1)]) dX12_winner_95 rfl rfl (Nat.le_of_ble_eq_true rfl) rfl ?_
      refine g_goto (pc := 98) (tgt := 27) dX12_winner_98 (by decide) ?_
      refine g_sub (L' := [(0, .ref 156), (1, .int l1), (2, .int l2), (3, .int l3), (4, .int l4), (5, .int (l5 + (1 : Int32)))]) [0, 1, 2, 3, 4, 5] rfl ?_
      exact h
    · have h := h.2 c52
      refine g_iload (pc := 55) (x := r1) dX12_winner_55 rfl ?_
      refine g_if_eq (pc := 57) (tgt := 95) dX12_winner_57 (by decide) (fun c57 => ?_) (fun c57 => ?_)
      · have h := h.1 c57
        refine g_iinc (pc := 95) (x := l5) (v := (l5 + (1 : Int32))) (L' := [(0, .ref 156), (1, .int l1), (2, .int l2), (3, .int l3), (4, .int l4), (5, .int (l5 + (1 : Int32))), (6, .int r1)]) dX12_winner_95 rfl rfl (Nat.le_of_ble_eq_true rfl) rfl ?_
        refine g_goto (pc := 98) (tgt := 27) dX12_winner_98 (by decide) ?_
        refine g_sub (L' := [(0, .ref 156), (1, .int l1), (2, .int l2), (3, .int l3), (4, .int l4), (5, .int (l5 + (1 : Int32)))]) [0, 1, 2, 3, 4, 5] rfl ?_
        exact h
      · have h := h.2 c57
        refine g_iload (pc := 60) (x := r1) dX12_winner_60 rfl ?_
        refine g_iload (pc := 62) (x := l4) dX12_winner_62 rfl ?_
        refine g_icmp_ne (pc := 64) (tgt := 88) dX12_winner_64 (by decide) (fun c64 => ?_) (fun c64 => ?_)
        · have h := h.1 c64
          refine g_iload (pc := 88) (x := l5) dX12_winner_88 rfl ?_
          refine g_istore_n (pc := 90) (L' := [(0, .ref 156), (1, .int l1), (2, .int l2), (3, .int l5), (4, .int l4), (5, .int l5), (6, .int r1)]) dX12_winner_90 (Nat.le_of_ble_eq_true rfl) rfl ?_
          refine g_iload (pc := 91) (x := r1) dX12_winner_91 rfl ?_
          refine g_istore (pc := 93) (L' := [(0, .ref 156), (1, .int l1), (2, .int l2), (3, .int l5), (4, .int r1), (5, .int l5), (6, .int r1)]) dX12_winner_93 (Nat.le_of_ble_eq_true rfl) rfl ?_
          refine g_iinc (pc := 95) (x := l5) (v := (l5 + (1 : Int32))) (L' := [(0, .ref 156), (1, .int l1), (2, .int l2), (3, .int l5), (4, .int r1), (5, .int (l5 + (1 : Int32))), (6, .int r1)]) dX12_winner_95 rfl rfl (Nat.le_of_ble_eq_true rfl) rfl ?_
          refine g_goto (pc := 98) (tgt := 27) dX12_winner_98 (by decide) ?_
          refine g_sub (L' := [(0, .ref 156), (1, .int l1), (2, .int l2), (3, .int l5), (4, .int r1), (5, .int (l5 + (1 : Int32)))]) [0, 1, 2, 3, 4, 5] rfl ?_
          exact h
        · have h := h.2 c64
          refine g_iload_n (pc := 67) (x := l3) dX12_winner_67 rfl ?_
          refine g_if_lt (pc := 68) (tgt := 88) dX12_winner_68 (by decide) (fun c68 => ?_) (fun c68 => ?_)
          · have h := h.1 c68
            refine g_iload (pc := 88) (x := l5) dX12_winner_88 rfl ?_
            refine g_istore_n (pc := 90) (L' := [(0, .ref 156), (1, .int l1), (2, .int l2), (3, .int l5), (4, .int l4), (5, .int l5), (6, .int r1)]) dX12_winner_90 (Nat.le_of_ble_eq_true rfl) rfl ?_
            refine g_iload (pc := 91) (x := r1) dX12_winner_91 rfl ?_
            refine g_istore (pc := 93) (L' := [(0, .ref 156), (1, .int l1), (2, .int l2), (3, .int l5), (4, .int r1), (5, .int l5), (6, .int r1)]) dX12_winner_93 (Nat.le_of_ble_eq_true rfl) rfl ?_
            refine g_iinc (pc := 95) (x := l5) (v := (l5 + (1 : Int32))) (L' := [(0, .ref 156), (1, .int l1), (2, .int l2), (3, .int l5), (4, .int r1), (5, .int (l5 + (1 : Int32))), (6, .int r1)]) dX12_winner_95 rfl rfl (Nat.le_of_ble_eq_true rfl) rfl ?_
            refine g_goto (pc := 98) (tgt := 27) dX12_winner_98 (by decide) ?_
            refine g_sub (L' := [(0, .ref 156), (1, .int l1), (2, .int l2), (3, .int l5), (4, .int r1), (5, .int (l5 + (1 : Int32)))]) [0, 1, 2, 3, 4, 5] rfl ?_
            exact h
          · have h := h.2 c68
            refine g_aload_n (pc := 71) (x := 156) dX12_winner_71 rfl ?_
            refine g_iload (pc := 72) (x := l5) dX12_winner_72 rfl ?_
            refine g_callV (pc := 74) (as := [.int l5]) dX12_winner_74 cw_X12_380 (by decide) rfl rfl sh_156 (Nat.le_of_ble_eq_true rfl) (rv_X12_heightOf m1 l5 h.1) ?_
            have h := h.2
            rintro r_ m_ hz_ ⟨rfl, rfl⟩
            refine g_aload_n (pc := 77) (x := 156) dX12_winner_77 rfl ?_
            refine g_iload_n (pc := 78) (x := l3) dX12_winner_78 rfl ?_
            refine g_callV (pc := 79) (as := [.int l3]) dX12_winner_79 cw_X12_380 (by decide) rfl rfl sh_156 (Nat.le_of_ble_eq_true rfl) (rv_X12_heightOf m1 l3 h.1) ?_
            have h := h.2
            rintro r_ m_ hz_ ⟨rfl, rfl⟩
            refine g_icmp_gt (pc := 82) (tgt := 88) dX12_winner_82 (by decide) (fun c82 => ?_) (fun c82 => ?_)
            · have h := h.1 c82
              refine g_iload (pc := 88) (x := l5) dX12_winner_88 rfl ?_
              refine g_istore_n (pc := 90) (L' := [(0, .ref 156), (1, .int l1), (2, .int l2), (3, .int l5), (4, .int l4), (5, .int l5), (6, .int r1)]) dX12_winner_90 (Nat.le_of_ble_eq_true rfl) rfl ?_
              refine g_iload (pc := 91) (x := r1) dX12_winner_91 rfl ?_
              refine g_istore (pc := 93) (L' := [(0, .ref 156), (1, .int l1), (2, .int l2), (3, .int l5), (4, .int r1), (5, .int l5), (6, .int r1)]) dX12_winner_93 (Nat.le_of_ble_eq_true rfl) rfl ?_
              refine g_iinc (pc := 95) (x := l5) (v := (l5 + (1 : Int32))) (L' := [(0, .ref 156), (1, .int l1), (2, .int l2), (3, .int l5), (4, .int r1), (5, .int (l5 + (1 : Int32))), (6, .int r1)]) dX12_winner_95 rfl rfl (Nat.le_of_ble_eq_true rfl) rfl ?_
              refine g_goto (pc := 98) (tgt := 27) dX12_winner_98 (by decide) ?_
              refine g_sub (L' := [(0, .ref 156), (1, .int l1), (2, .int l2), (3, .int l5), (4, .int r1), (5, .int (l5 + (1 : Int32)))]) [0, 1, 2, 3, 4, 5] rfl ?_
              exact h
            · have h := h.2 c82
              refine g_goto (pc := 85) (tgt := 95) dX12_winner_85 (by decide) ?_
              refine g_iinc (pc := 95) (x := l5) (v := (l5 + (1 : Int32))) (L' := [(0, .ref 156), (1, .int l1), (2, .int l2), (3, .int l3), (4, .int l4), (5, .int (l5 + (1 : Int32))), (6, .int r1)]) dX12_winner_95 rfl rfl (Nat.le_of_ble_eq_true rfl) rfl ?_
              refine g_goto (pc := 98) (tgt := 27) dX12_winner_98 (by decide) ?_
              refine g_sub (L' := [(0, .ref 156), (1, .int l1), (2, .int l2), (3, .int l3), (4, .int l4), (5, .int (l5 + (1 : Int32)))]) [0, 1, 2, 3, 4, 5] rfl ?_
              exact h
theorem dX12_apart_0 : decode cX12_apart 0 = .ok (.iload_n 0, 1) := by decide +kernel
theorem dX12_apart_1 : decode cX12_apart 1 = .ok (.iload_n 1, 1) := by decide +kernel
theorem dX12_apart_2 : decode cX12_apart 2 = .ok (.if_icmp .le 9, 3) := by decide +kernel
theorem dX12_apart_5 : decode cX12_apart 5 = .ok (.iload_n 0, 1) := by decide +kernel
theorem dX12_apart_6 : decode cX12_apart 6 = .ok (.iload_n 1, 1) := by decide +kernel
theorem dX12_apart_7 : decode cX12_apart 7 = .ok (.isub, 1) := by decide +kernel
theorem dX12_apart_8 : decode cX12_apart 8 = .ok (.goto 6, 3) := by decide +kernel
theorem dX12_apart_11 : decode cX12_apart 11 = .ok (.iload_n 1, 1) := by decide +kernel
theorem dX12_apart_12 : decode cX12_apart 12 = .ok (.iload_n 0, 1) := by decide +kernel
theorem dX12_apart_13 : decode cX12_apart 13 = .ok (.isub, 1) := by decide +kernel
theorem dX12_apart_14 : decode cX12_apart 14 = .ok (.ireturn, 1) := by decide +kernel
noncomputable def v_X12_apart (mm : MM) (a0 : Int32) (a1 : Int32) : Int32 := (cite (a0 ≤ a1) (a1 - a0) (a0 - a1))
theorem rv_X12_apart (mm : MM) (a0 : Int32) (a1 : Int32) : Runs e_X12_apart [.int a0, .int a1] mm (fun r m_ => r = .int (v_X12_apart mm a0 a1) ∧ mm = m_) := by
  refine runs_of_G (L := [(0, .int a0), (1, .int a1)]) pl_X12 (Nat.le_of_ble_eq_true rfl) rfl ?_
  refine g_iload_n (pc := 0) (x := a0) dX12_apart_0 rfl ?_
  refine g_iload_n (pc := 1) (x := a1) dX12_apart_1 rfl ?_
  refine g_icmp_le (pc := 2) (tgt := 11) dX12_apart_2 (by decide) (fun c2 => ?_) (fun c2 => ?_)
  · have c2_0 : a0 ≤ a1 := c2
    refine g_iload_n (pc := 11) (x := a1) dX12_apart_11 rfl ?_
    refine g_iload_n (pc := 12) (x := a0) dX12_apart_12 rfl ?_
    refine g_isub (pc := 13) dX12_apart_13 ?_
    exact g_iret (pc := 14) dX12_apart_14 rfl rfl rfl ⟨(by unfold v_X12_apart; rw [cite_pos c2_0] <;> rfl), rfl⟩
  · have c2_0 : ¬ a0 ≤ a1 := c2
    refine g_iload_n (pc := 5) (x := a0) dX12_apart_5 rfl ?_
    refine g_iload_n (pc := 6) (x := a1) dX12_apart_6 rfl ?_
    refine g_isub (pc := 7) dX12_apart_7 ?_
    refine g_goto (pc := 8) (tgt := 14) dX12_apart_8 (by decide) ?_
    exact g_iret (pc := 14) dX12_apart_14 rfl rfl rfl ⟨(by unfold v_X12_apart; rw [cite_neg c2_0] <;> rfl), rfl⟩
theorem dX12_ends_0 : decode cX12_ends 0 = .ok (.aload_n 0, 1) := by decide +kernel
theorem dX12_ends_1 : decode cX12_ends 1 = .ok (.iload_n 1, 1) := by decide +kernel
theorem dX12_ends_2 : decode cX12_ends 2 = .ok (.invokevirtual 377, 3) := by decide +kernel
theorem dX12_ends_5 : decode cX12_ends 5 = .ok (.ifCond .eq 32, 3) := by decide +kernel
theorem dX12_ends_8 : decode cX12_ends 8 = .ok (.iload_n 2, 1) := by decide +kernel
theorem dX12_ends_9 : decode cX12_ends 9 = .ok (.iconst 0, 1) := by decide +kernel
theorem dX12_ends_10 : decode cX12_ends 10 = .ok (.bipush 99, 2) := by decide +kernel
theorem dX12_ends_12 : decode cX12_ends 12 = .ok (.invokestatic 392, 3) := by decide +kernel
theorem dX12_ends_15 : decode cX12_ends 15 = .ok (.ifCond .eq 22, 3) := by decide +kernel
theorem dX12_ends_18 : decode cX12_ends 18 = .ok (.iload_n 3, 1) := by decide +kernel
theorem dX12_ends_19 : decode cX12_ends 19 = .ok (.iconst 0, 1) := by decide +kernel
theorem dX12_ends_20 : decode cX12_ends 20 = .ok (.bipush 99, 2) := by decide +kernel
theorem dX12_ends_22 : decode cX12_ends 22 = .ok (.invokestatic 392, 3) := by decide +kernel
theorem dX12_ends_25 : decode cX12_ends 25 = .ok (.ifCond .eq 12, 3) := by decide +kernel
theorem dX12_ends_28 : decode cX12_ends 28 = .ok (.aload_n 0, 1) := by decide +kernel
theorem dX12_ends_29 : decode cX12_ends 29 = .ok (.iload 4, 2) := by decide +kernel
theorem dX12_ends_31 : decode cX12_ends 31 = .ok (.invokevirtual 523, 3) := by decide +kernel
theorem dX12_ends_34 : decode cX12_ends 34 = .ok (.ifCond .ne 5, 3) := by decide +kernel
theorem dX12_ends_37 : decode cX12_ends 37 = .ok (.iconst (-1), 1) := by decide +kernel
theorem dX12_ends_38 : decode cX12_ends 38 = .ok (.ireturn, 1) := by decide +kernel
theorem dX12_ends_39 : decode cX12_ends 39 = .ok (.iconst 0, 1) := by decide +kernel
theorem dX12_ends_40 : decode cX12_ends 40 = .ok (.istore 5, 2) := by decide +kernel
theorem dX12_ends_42 : decode cX12_ends 42 = .ok (.bipush 99, 2) := by decide +kernel
theorem dX12_ends_44 : decode cX12_ends 44 = .ok (.istore 6, 2) := by decide +kernel
theorem dX12_ends_46 : decode cX12_ends 46 = .ok (.iconst 0, 1) := by decide +kernel
theorem dX12_ends_47 : decode cX12_ends 47 = .ok (.istore 7, 2) := by decide +kernel
theorem dX12_ends_49 : decode cX12_ends 49 = .ok (.iload 7, 2) := by decide +kernel
theorem dX12_ends_51 : decode cX12_ends 51 = .ok (.iload 4, 2) := by decide +kernel
theorem dX12_ends_53 : decode cX12_ends 53 = .ok (.if_icmp .ge 247, 3) := by decide +kernel
theorem dX12_ends_56 : decode cX12_ends 56 = .ok (.sipush 180, 3) := by decide +kernel
theorem dX12_ends_59 : decode cX12_ends 59 = .ok (.iconst 4, 1) := by decide +kernel
theorem dX12_ends_60 : decode cX12_ends 60 = .ok (.iload 7, 2) := by decide +kernel
theorem dX12_ends_62 : decode cX12_ends 62 = .ok (.imul, 1) := by decide +kernel
theorem dX12_ends_63 : decode cX12_ends 63 = .ok (.iadd, 1) := by decide +kernel
theorem dX12_ends_64 : decode cX12_ends 64 = .ok (.istore 8, 2) := by decide +kernel
theorem dX12_ends_66 : decode cX12_ends 66 = .ok (.aload_n 0, 1) := by decide +kernel
theorem dX12_ends_67 : decode cX12_ends 67 = .ok (.getfield 33, 3) := by decide +kernel
theorem dX12_ends_70 : decode cX12_ends 70 = .ok (.iload 8, 2) := by decide +kernel
theorem dX12_ends_72 : decode cX12_ends 72 = .ok (.iaload, 1) := by decide +kernel
theorem dX12_ends_73 : decode cX12_ends 73 = .ok (.iconst 1, 1) := by decide +kernel
theorem dX12_ends_74 : decode cX12_ends 74 = .ok (.if_icmp .ne 220, 3) := by decide +kernel
theorem dX12_ends_77 : decode cX12_ends 77 = .ok (.aload_n 0, 1) := by decide +kernel
theorem dX12_ends_78 : decode cX12_ends 78 = .ok (.getfield 33, 3) := by decide +kernel
theorem dX12_ends_81 : decode cX12_ends 81 = .ok (.iload 8, 2) := by decide +kernel
theorem dX12_ends_83 : decode cX12_ends 83 = .ok (.iconst 1, 1) := by decide +kernel
theorem dX12_ends_84 : decode cX12_ends 84 = .ok (.iadd, 1) := by decide +kernel
theorem dX12_ends_85 : decode cX12_ends 85 = .ok (.iaload, 1) := by decide +kernel
theorem dX12_ends_86 : decode cX12_ends 86 = .ok (.iload_n 1, 1) := by decide +kernel
theorem dX12_ends_87 : decode cX12_ends 87 = .ok (.if_icmp .ne 207, 3) := by decide +kernel
theorem dX12_ends_90 : decode cX12_ends 90 = .ok (.aload_n 0, 1) := by decide +kernel
theorem dX12_ends_91 : decode cX12_ends 91 = .ok (.iload 7, 2) := by decide +kernel
theorem dX12_ends_93 : decode cX12_ends 93 = .ok (.iload 4, 2) := by decide +kernel
theorem dX12_ends_95 : decode cX12_ends 95 = .ok (.invokevirtual 517, 3) := by decide +kernel
theorem dX12_ends_98 : decode cX12_ends 98 = .ok (.ifCond .ne 6, 3) := by decide +kernel
theorem dX12_ends_101 : decode cX12_ends 101 = .ok (.goto 193, 3) := by decide +kernel
theorem dX12_ends_104 : decode cX12_ends 104 = .ok (.iload_n 3, 1) := by decide +kernel
theorem dX12_ends_105 : decode cX12_ends 105 = .ok (.aload_n 0, 1) := by decide +kernel
theorem dX12_ends_106 : decode cX12_ends 106 = .ok (.getfield 33, 3) := by decide +kernel
theorem dX12_ends_109 : decode cX12_ends 109 = .ok (.iload 8, 2) := by decide +kernel
theorem dX12_ends_111 : decode cX12_ends 111 = .ok (.iconst 2, 1) := by decide +kernel
theorem dX12_ends_112 : decode cX12_ends 112 = .ok (.iadd, 1) := by decide +kernel
theorem dX12_ends_113 : decode cX12_ends 113 = .ok (.iaload, 1) := by decide +kernel
theorem dX12_ends_114 : decode cX12_ends 114 = .ok (.iload_n 2, 1) := by decide +kernel
theorem dX12_ends_115 : decode cX12_ends 115 = .ok (.invokestatic 529, 3) := by decide +kernel
theorem dX12_ends_118 : decode cX12_ends 118 = .ok (.imul, 1) := by decide +kernel
theorem dX12_ends_119 : decode cX12_ends 119 = .ok (.istore 9, 2) := by decide +kernel
theorem dX12_ends_121 : decode cX12_ends 121 = .ok (.aload_n 0, 1) := by decide +kernel
theorem dX12_ends_122 : decode cX12_ends 122 = .ok (.getfield 33, 3) := by decide +kernel
theorem dX12_ends_125 : decode cX12_ends 125 = .ok (.iload 8, 2) := by decide +kernel
theorem dX12_ends_127 : decode cX12_ends 127 = .ok (.iconst 3, 1) := by decide +kernel
theorem dX12_ends_128 : decode cX12_ends 128 = .ok (.iadd, 1) := by decide +kernel
theorem dX12_ends_129 : decode cX12_ends 129 = .ok (.iaload, 1) := by decide +kernel
theorem dX12_ends_130 : decode cX12_ends 130 = .ok (.iload 9, 2) := by decide +kernel
theorem dX12_ends_132 : decode cX12_ends 132 = .ok (.isub, 1) := by decide +kernel
theorem dX12_ends_133 : decode cX12_ends 133 = .ok (.iload 5, 2) := by decide +kernel
theorem dX12_ends_135 : decode cX12_ends 135 = .ok (.if_icmp .le 17, 3) := by decide +kernel
theorem dX12_ends_138 : decode cX12_ends 138 = .ok (.aload_n 0, 1) := by decide +kernel
theorem dX12_ends_139 : decode cX12_ends 139 = .ok (.getfield 33, 3) := by decide +kernel
theorem dX12_ends_142 : decode cX12_ends 142 = .ok (.iload 8, 2) := by decide +kernel
theorem dX12_ends_144 : decode cX12_ends 144 = .ok (.iconst 3, 1) := by decide +kernel
theorem dX12_ends_145 : decode cX12_ends 145 = .ok (.iadd, 1) := by decide +kernel
theorem dX12_ends_146 : decode cX12_ends 146 = .ok (.iaload, 1) := by decide +kernel
theorem dX12_ends_147 : decode cX12_ends 147 = .ok (.iload 9, 2) := by decide +kernel
theorem dX12_ends_149 : decode cX12_ends 149 = .ok (.isub, 1) := by decide +kernel
theorem dX12_ends_150 : decode cX12_ends 150 = .ok (.istore 5, 2) := by decide +kernel
theorem dX12_ends_152 : decode cX12_ends 152 = .ok (.aload_n 0, 1) := by decide +kernel
theorem dX12_ends_153 : decode cX12_ends 153 = .ok (.getfield 33, 3) := by decide +kernel
theorem dX12_ends_156 : decode cX12_ends 156 = .ok (.iload 8, 2) := by decide +kernel
theorem dX12_ends_158 : decode cX12_ends 158 = .ok (.iconst 3, 1) := by decide +kernel
theorem dX12_ends_159 : decode cX12_ends 159 = .ok (.iadd, 1) := by decide +kernel
theorem dX12_ends_160 : decode cX12_ends 160 = .ok (.iaload, 1) := by decide +kernel
theorem dX12_ends_161 : decode cX12_ends 161 = .ok (.iload 9, 2) := by decide +kernel
theorem dX12_ends_163 : decode cX12_ends 163 = .ok (.iadd, 1) := by decide +kernel
theorem dX12_ends_164 : decode cX12_ends 164 = .ok (.iload 6, 2) := by decide +kernel
theorem dX12_ends_166 : decode cX12_ends 166 = .ok (.if_icmp .ge 17, 3) := by decide +kernel
theorem dX12_ends_169 : decode cX12_ends 169 = .ok (.aload_n 0, 1) := by decide +kernel
theorem dX12_ends_170 : decode cX12_ends 170 = .ok (.getfield 33, 3) := by decide +kernel
theorem dX12_ends_173 : decode cX12_ends 173 = .ok (.iload 8, 2) := by decide +kernel
theorem dX12_ends_175 : decode cX12_ends 175 = .ok (.iconst 3, 1) := by decide +kernel
theorem dX12_ends_176 : decode cX12_ends 176 = .ok (.iadd, 1) := by decide +kernel
theorem dX12_ends_177 : decode cX12_ends 177 = .ok (.iaload, 1) := by decide +kernel
theorem dX12_ends_178 : decode cX12_ends 178 = .ok (.iload 9, 2) := by decide +kernel
theorem dX12_ends_180 : decode cX12_ends 180 = .ok (.iadd, 1) := by decide +kernel
theorem dX12_ends_181 : decode cX12_ends 181 = .ok (.istore 6, 2) := by decide +kernel
theorem dX12_ends_183 : decode cX12_ends 183 = .ok (.iconst 0, 1) := by decide +kernel
theorem dX12_ends_184 : decode cX12_ends 184 = .ok (.istore 10, 2) := by decide +kernel
theorem dX12_ends_186 : decode cX12_ends 186 = .ok (.iload 10, 2) := by decide +kernel
theorem dX12_ends_188 : decode cX12_ends 188 = .ok (.iload 7, 2) := by decide +kernel
theorem dX12_ends_190 : decode cX12_ends 190 = .ok (.if_icmp .ge 104, 3) := by decide +kernel
theorem dX12_ends_193 : decode cX12_ends 193 = .ok (.sipush 180, 3) := by decide +kernel
theorem dX12_ends_196 : decode cX12_ends 196 = .ok (.iconst 4, 1) := by decide +kernel
theorem dX12_ends_197 : decode cX12_ends 197 = .ok (.iload 10, 2) := by decide +kernel
theorem dX12_ends_199 : decode cX12_ends 199 = .ok (.imul, 1) := by decide +kernel
theorem dX12_ends_200 : decode cX12_ends 200 = .ok (.iadd, 1) := by decide +kernel
theorem dX12_ends_201 : decode cX12_ends 201 = .ok (.istore 11, 2) := by decide +kernel
theorem dX12_ends_203 : decode cX12_ends 203 = .ok (.aload_n 0, 1) := by decide +kernel
theorem dX12_ends_204 : decode cX12_ends 204 = .ok (.getfield 33, 3) := by decide +kernel
theorem dX12_ends_207 : decode cX12_ends 207 = .ok (.iload 11, 2) := by decide +kernel
theorem dX12_ends_209 : decode cX12_ends 209 = .ok (.iaload, 1) := by decide +kernel
theorem dX12_ends_210 : decode cX12_ends 210 = .ok (.iconst 1, 1) := by decide +kernel
theorem dX12_ends_211 : decode cX12_ends 211 = .ok (.if_icmp .ne 77, 3) := by decide +kernel
theorem dX12_ends_214 : decode cX12_ends 214 = .ok (.aload_n 0, 1) := by decide +kernel
theorem dX12_ends_215 : decode cX12_ends 215 = .ok (.getfield 33, 3) := by decide +kernel
theorem dX12_ends_218 : decode cX12_ends 218 = .ok (.iload 11, 2) := by decide +kernel
theorem dX12_ends_220 : decode cX12_ends 220 = .ok (.iconst 1, 1) := by decide +kernel
theorem dX12_ends_221 : decode cX12_ends 221 = .ok (.iadd, 1) := by decide +kernel
theorem dX12_ends_222 : decode cX12_ends 222 = .ok (.iaload, 1) := by decide +kernel
theorem dX12_ends_223 : decode cX12_ends 223 = .ok (.iload_n 1, 1) := by decide +kernel
theorem dX12_ends_224 : decode cX12_ends 224 = .ok (.if_icmp .ne 64, 3) := by decide +kernel
theorem dX12_ends_227 : decode cX12_ends 227 = .ok (.aload_n 0, 1) := by decide +kernel
theorem dX12_ends_228 : decode cX12_ends 228 = .ok (.iload 10, 2) := by decide +kernel
theorem dX12_ends_230 : decode cX12_ends 230 = .ok (.iload 4, 2) := by decide +kernel
theorem dX12_ends_232 : decode cX12_ends 232 = .ok (.invokevirtual 517, 3) := by decide +kernel
theorem dX12_ends_235 : decode cX12_ends 235 = .ok (.ifCond .eq 53, 3) := by decide +kernel
theorem dX12_ends_238 : decode cX12_ends 238 = .ok (.aload_n 0, 1) := by decide +kernel
theorem dX12_ends_239 : decode cX12_ends 239 = .ok (.getfield 33, 3) := by decide +kernel
theorem dX12_ends_242 : decode cX12_ends 242 = .ok (.iload 11, 2) := by decide +kernel
theorem dX12_ends_244 : decode cX12_ends 244 = .ok (.iconst 3, 1) := by decide +kernel
theorem dX12_ends_245 : decode cX12_ends 245 = .ok (.iadd, 1) := by decide +kernel
theorem dX12_ends_246 : decode cX12_ends 246 = .ok (.iaload, 1) := by decide +kernel
theorem dX12_ends_247 : decode cX12_ends 247 = .ok (.aload_n 0, 1) := by decide +kernel
theorem dX12_ends_248 : decode cX12_ends 248 = .ok (.getfield 33, 3) := by decide +kernel
theorem dX12_ends_251 : decode cX12_ends 251 = .ok (.iload 8, 2) := by decide +kernel
theorem dX12_ends_253 : decode cX12_ends 253 = .ok (.iconst 3, 1) := by decide +kernel
theorem dX12_ends_254 : decode cX12_ends 254 = .ok (.iadd, 1) := by decide +kernel
theorem dX12_ends_255 : decode cX12_ends 255 = .ok (.iaload, 1) := by decide +kernel
theorem dX12_ends_256 : decode cX12_ends 256 = .ok (.invokestatic 529, 3) := by decide +kernel
theorem dX12_ends_259 : decode cX12_ends 259 = .ok (.iload_n 3, 1) := by decide +kernel
theorem dX12_ends_260 : decode cX12_ends 260 = .ok (.aload_n 0, 1) := by decide +kernel
theorem dX12_ends_261 : decode cX12_ends 261 = .ok (.getfield 33, 3) := by decide +kernel
theorem dX12_ends_264 : decode cX12_ends 264 = .ok (.iload 11, 2) := by decide +kernel
theorem dX12_ends_266 : decode cX12_ends 266 = .ok (.iconst 2, 1) := by decide +kernel
theorem dX12_ends_267 : decode cX12_ends 267 = .ok (.iadd, 1) := by decide +kernel
theorem dX12_ends_268 : decode cX12_ends 268 = .ok (.iaload, 1) := by decide +kernel
theorem dX12_ends_269 : decode cX12_ends 269 = .ok (.aload_n 0, 1) := by decide +kernel
theorem dX12_ends_270 : decode cX12_ends 270 = .ok (.getfield 33, 3) := by decide +kernel
theorem dX12_ends_273 : decode cX12_ends 273 = .ok (.iload 8, 2) := by decide +kernel
theorem dX12_ends_275 : decode cX12_ends 275 = .ok (.iconst 2, 1) := by decide +kernel
theorem dX12_ends_276 : decode cX12_ends 276 = .ok (.iadd, 1) := by decide +kernel
theorem dX12_ends_277 : decode cX12_ends 277 = .ok (.iaload, 1) := by decide +kernel
theorem dX12_ends_278 : decode cX12_ends 278 = .ok (.invokestatic 529, 3) := by decide +kernel
theorem dX12_ends_281 : decode cX12_ends 281 = .ok (.imul, 1) := by decide +kernel
theorem dX12_ends_282 : decode cX12_ends 282 = .ok (.if_icmp .le 6, 3) := by decide +kernel
theorem dX12_ends_285 : decode cX12_ends 285 = .ok (.bipush (-2), 2) := by decide +kernel
theorem dX12_ends_287 : decode cX12_ends 287 = .ok (.ireturn, 1) := by decide +kernel
theorem dX12_ends_288 : decode cX12_ends 288 = .ok (.iinc 10 1, 3) := by decide +kernel
theorem dX12_ends_291 : decode cX12_ends 291 = .ok (.goto (-105), 3) := by decide +kernel
theorem dX12_ends_294 : decode cX12_ends 294 = .ok (.iinc 7 1, 3) := by decide +kernel
theorem dX12_ends_297 : decode cX12_ends 297 = .ok (.goto (-248), 3) := by decide +kernel
theorem dX12_ends_300 : decode cX12_ends 300 = .ok (.iload 5, 2) := by decide +kernel
theorem dX12_ends_302 : decode cX12_ends 302 = .ok (.iload 6, 2) := by decide +kernel
theorem dX12_ends_304 : decode cX12_ends 304 = .ok (.if_icmp .le 8, 3) := by decide +kernel
theorem dX12_ends_307 : decode cX12_ends 307 = .ok (.bipush (-2), 2) := by decide +kernel
theorem dX12_ends_309 : decode cX12_ends 309 = .ok (.goto 11, 3) := by decide +kernel
theorem dX12_ends_312 : decode cX12_ends 312 = .ok (.bipush 100, 2) := by decide +kernel
theorem dX12_ends_314 : decode cX12_ends 314 = .ok (.iload 5, 2) := by decide +kernel
theorem dX12_ends_316 : decode cX12_ends 316 = .ok (.imul, 1) := by decide +kernel
theorem dX12_ends_317 : decode cX12_ends 317 = .ok (.iload 6, 2) := by decide +kernel
theorem dX12_ends_319 : decode cX12_ends 319 = .ok (.iadd, 1) := by decide +kernel
theorem dX12_ends_320 : decode cX12_ends 320 = .ok (.ireturn, 1) := by decide +kernel
theorem b_X12_ends (mm : MM) (Q : Value → MM → Prop) (a1 : Int32) (a2 : Int32) (a3 : Int32) (a4 : Int32) (h : (p_X12_isHouse mm a1 → ((p_X12_isIn mm a2 (0 : Int32) (99 : Int32) → ((p_X12_isIn mm a3 (0 : Int32) (99 : Int32) → ((p_X12_isKnown mm a4 → (G e_X12_ends 49 [(0, .ref 156), (1, .int a1), (2, .int a2), (3, .int a3), (4, .int a4), (5, .int (0 : Int32)), (6, .int (99 : Int32)), (7, .int (0 : Int32))] [] mm Q)) ∧ (¬ p_X12_isKnown mm a4 → (Q (.int (-1 : Int32)) mm)))) ∧ (¬ p_X12_isIn mm a3 (0 : Int32) (99 : Int32) → (Q (.int (-1 : Int32)) mm)))) ∧ (¬ p_X12_isIn mm a2 (0 : Int32) (99 : Int32) → (Q (.int (-1 : Int32)) mm)))) ∧ (¬ p_X12_isHouse mm a1 → (Q (.int (-1 : Int32)) mm))) : Runs e_X12_ends [.ref 156, .int a1, .int a2, .int a3, .int a4] mm Q := by
  refine runs_of_G (L := [(0, .ref 156), (1, .int a1), (2, .int a2), (3, .int a3), (4, .int a4)]) pl_X12 (Nat.le_of_ble_eq_true rfl) rfl ?_
  refine g_aload_n (pc := 0) (x := 156) dX12_ends_0 rfl ?_
  refine g_iload_n (pc := 1) (x := a1) dX12_ends_1 rfl ?_
  refine g_callV (pc := 2) (as := [.int a1]) dX12_ends_2 cw_X12_377 (by decide) rfl rfl sh_156 (Nat.le_of_ble_eq_true rfl) (rv_X12_isHouse mm a1) ?_
  rintro r_ m_ hz_ ⟨⟨p_, rfl⟩ | ⟨p_, rfl⟩, rfl⟩
  · have h := h.1 p_
    refine g_if_eq (pc := 5) (tgt := 37) dX12_ends_5 (by decide) (fun c5 => absurd c5 (by decide)) (fun _ => ?_)
    refine g_iload_n (pc := 8) (x := a2) dX12_ends_8 rfl ?_
    refine g_iconst (pc := 9) (v := (0 : Int32)) dX12_ends_9 (by decide) ?_
    refine g_bipush (pc := 10) (v := (99 : Int32)) dX12_ends_10 (by decide) ?_
    refine g_callS (pc := 12) (as := [.int a2, .int (0 : Int32), .int (99 : Int32)]) dX12_ends_12 cw_X12_392 (by decide) rfl rfl (Nat.le_of_ble_eq_true rfl) (rv_X12_isIn mm a2 (0 : Int32) (99 : Int32)) ?_
    rintro r_ m_ hz_ ⟨⟨p_, rfl⟩ | ⟨p_, rfl⟩, rfl⟩
    · have h := h.1 p_
      refine g_if_eq (pc := 15) (tgt := 37) dX12_ends_15 (by decide) (fun c15 => absurd c15 (by decide)) (fun _ => ?_)
      refine g_iload_n (pc := 18) (x := a3) dX12_ends_18 rfl ?_
      refine g_iconst (pc := 19) (v := (0 : Int32)) dX12_ends_19 (by decide) ?_
      refine g_bipush (pc := 20) (v := (99 : Int32)) dX12_ends_20 (by decide) ?_
      refine g_callS (pc := 22) (as := [.int a3, .int (0 : Int32), .int (99 : Int32)]) dX12_ends_22 cw_X12_392 (by decide) rfl rfl (Nat.le_of_ble_eq_true rfl) (rv_X12_isIn mm a3 (0 : Int32) (99 : Int32)) ?_
      rintro r_ m_ hz_ ⟨⟨p_, rfl⟩ | ⟨p_, rfl⟩, rfl⟩
      · have h := h.1 p_
        refine g_if_eq (pc := 25) (tgt := 37) dX12_ends_25 (by decide) (fun c25 => absurd c25 (by decide)) (fun _ => ?_)
        refine g_aload_n (pc := 28) (x := 156) dX12_ends_28 rfl ?_
        refine g_iload (pc := 29) (x := a4) dX12_ends_29 rfl ?_
        refine g_callV (pc := 31) (as := [.int a4]) dX12_ends_31 cw_X12_523 (by decide) rfl rfl sh_156 (Nat.le_of_ble_eq_true rfl) (rv_X12_isKnown mm a4) ?_
        rintro r_ m_ hz_ ⟨⟨p_, rfl⟩ | ⟨p_, rfl⟩, rfl⟩
        · have h := h.1 p_
          refine g_if_ne (pc := 34) (tgt := 39) dX12_ends_34 (by decide) (fun _ => ?_) (fun c34 => absurd c34 (by decide))
          refine g_iconst (pc := 39) (v := (0 : Int32)) dX12_ends_39 (by decide) ?_
          refine g_istore (pc := 40) (L' := [(0, .ref 156), (1, .int a1), (2, .int a2), (3, .int a3), (4, .int a4), (5, .int (0 : Int32))]) dX12_ends_40 (Nat.le_of_ble_eq_true rfl) rfl ?_
          refine g_bipush (pc := 42) (v := (99 : Int32)) dX12_ends_42 (by decide) ?_
          refine g_istore (pc := 44) (L' := [(0, .ref 156), (1, .int a1), (2, .int a2), (3, .int a3), (4, .int a4), (5, .int (0 : Int32)), (6, .int (99 : Int32))]) dX12_ends_44 (Nat.le_of_ble_eq_true rfl) rfl ?_
          refine g_iconst (pc := 46) (v := (0 : Int32)) dX12_ends_46 (by decide) ?_
          refine g_istore (pc := 47) (L' := [(0, .ref 156), (1, .int a1), (2, .int a2), (3, .int a3), (4, .int a4), (5, .int (0 : Int32)), (6, .int (99 : Int32)), (7, .int (0 : Int32))]) dX12_ends_47 (Nat.le_of_ble_eq_true rfl) rfl ?_
          exact h
        · have h := h.2 p_
          refine g_if_ne (pc := 34) (tgt := 39) dX12_ends_34 (by decide) (fun c34 => absurd c34 (by decide)) (fun _ => ?_)
          refine g_iconst (pc := 37) (v := (-1 : Int32)) dX12_ends_37 (by decide) ?_
          exact g_iret (pc := 38) dX12_ends_38 rfl rfl rfl h
      · have h := h.2 p_
        refine g_if_eq (pc := 25) (tgt := 37) dX12_ends_25 (by decide) (fun _ => ?_) (fun c25 => absurd c25 (by decide))
        refine g_iconst (pc := 37) (v := (-1 : Int32)) dX12_ends_37 (by decide) ?_
        exact g_iret (pc := 38) dX12_ends_38 rfl rfl rfl h
    · have h := h.2 p_
      refine g_if_eq (pc := 15) (tgt := 37) dX12_ends_15 (by decide) (fun _ => ?_) (fun c15 => absurd c15 (by decide))
      refine g_iconst (pc := 37) (v := (-1 : Int32)) dX12_ends_37 (by decide) ?_
      exact g_iret (pc := 38) dX12_ends_38 rfl rfl rfl h
  · have h := h.2 p_
    refine g_if_eq (pc := 5) (tgt := 37) dX12_ends_5 (by decide) (fun _ => ?_) (fun c5 => absurd c5 (by decide))
    refine g_iconst (pc := 37) (v := (-1 : Int32)) dX12_ends_37 (by decide) ?_
    exact g_iret (pc := 38) dX12_ends_38 rfl rfl rfl h
theorem b_X12_ends_49 (mm : MM) (Q : Value → MM → Prop) (l1 : Int32) (l2 : Int32) (l3 : Int32) (l4 : Int32) (l5 : Int32) (l6 : Int32) (l7 : Int32) (h : (l4 ≤ l7 → ((l5 ≤ l6 → (Q (.int (((100 : Int32) * l5) + l6)) mm)) ∧ (¬ l5 ≤ l6 → (Q (.int (-2 : Int32)) mm)))) ∧ (¬ l4 ≤ l7 → (vp_in ((180 : Int32) + ((4 : Int32) * l7)) 1260 ∧ ((¬ (mm.1 163 ((180 : Int32) + ((4 : Int32) * l7)).toNatClampNeg) = (1 : Int32) → (G e_X12_ends 49 [(0, .ref 156), (1, .int l1), (2, .int l2), (3, .int l3), (4, .int l4), (5, .int l5), (6, .int l6), (7, .int (l7 + (1 : Int32)))] [] mm Q)) ∧ ((mm.1 163 ((180 : Int32) + ((4 : Int32) * l7)).toNatClampNeg) = (1 : Int32) → (vp_in (((180 : Int32) + ((4 : Int32) * l7)) + (1 : Int32)) 1260 ∧ ((¬ (mm.1 163 (((180 : Int32) + ((4 : Int32) * l7)) + (1 : Int32)).toNatClampNeg) = l1 → (G e_X12_ends 49 [(0, .ref 156), (1, .int l1), (2, .int l2), (3, .int l3), (4, .int l4), (5, .int l5), (6, .int l6), (7, .int (l7 + (1 : Int32)))] [] mm Q)) ∧ ((mm.1 163 (((180 : Int32) + ((4 : Int32) * l7)) + (1 : Int32)).toNatClampNeg) = l1 → (∃ Pm1 : Value → MM → Prop, Runs e_X12_isLive [.ref 156, .int l7, .int l4] mm Pm1 ∧ (∀ r m1, Pm1 r m1 → r = .int 1 ∨ r = .int 0) ∧ (∀ m1, Pm1 (.int 1) m1 → (vp_in (((180 : Int32) + ((4 : Int32) * l7)) + (2 : Int32)) 1260 ∧ (vp_in (((180 : Int32) + ((4 : Int32) * l7)) + (3 : Int32)) 1260 ∧ ((((m1.1 163 (((180 : Int32) + ((4 : Int32) * l7)) + (3 : Int32)).toNatClampNeg) - (l3 * (v_X12_apart m1 (m1.1 163 (((180 : Int32) + ((4 : Int32) * l7)) + (2 : Int32)).toNatClampNeg) l2))) ≤ l5 → (vp_in (((180 : Int32) + ((4 : Int32) * l7)) + (3 : Int32)) 1260 ∧ ((l6 ≤ ((m1.1 163 (((180 : Int32) + ((4 : Int32) * l7)) + (3 : Int32)).toNatClampNeg) + (l3 * (v_X12_apart m1 (m1.1 163 (((180 : Int32) + ((4 : Int32) * l7)) + (2 : Int32)).toNatClampNeg) l2))) → (G e_X12_ends 186 [(0, .ref 156), (1, .int l1), (2, .int l2), (3, .int l3), (4, .int l4), (5, .int l5), (6, .int l6), (7, .int l7), (8, .int ((180 : Int32) + ((4 : Int32) * l7))), (10, .int (0 : Int32))] [] m1 Q)) ∧ (¬ l6 ≤ ((m1.1 163 (((180 : Int32) + ((4 : Int32) * l7)) + (3 : Int32)).toNatClampNeg) + (l3 * (v_X12_apart m1 (m1.1 163 (((180 : Int32) + ((4 : Int32) * l7)) + (2 : Int32)).toNatClampNeg) l2))) → (vp_in (((180 : Int32) + ((4 : Int32) * l7)) + (3 : Int32)) 1260 ∧ (G e_X12_ends 186 [(0, .ref 156), (1, .int l1), (2, .int l2), (3, .int l3), (4, .int l4), (5, .int l5), (6, .int ((m1.1 163 (((180 : Int32) + ((4 : Int32) * l7)) + (3 : Int32)).toNatClampNeg) + (l3 * (v_X12_apart m1 (m1.1 163 (((180 : Int32) + ((4 : Int32) * l7)) + (2 : Int32)).toNatClampNeg) l2)))), (7, .int l7), (8, .int ((180 : Int32) + ((4 : Int32) * l7))), (10, .int (0 : Int32))] [] m1 Q)))))) ∧ (¬ ((m1.1 163 (((180 : Int32) + ((4 : Int32) * l7)) + (3 : Int32)).toNatClampNeg) - (l3 * (v_X12_apart m1 (m1.1 163 (((180 : Int32) + ((4 : Int32) * l7)) + (2 : Int32)).toNatClampNeg) l2))) ≤ l5 → (vp_in (((180 : Int32) + ((4 : Int32) * l7)) + (3 : Int32)) 1260 ∧ (vp_in (((180 : Int32) + ((4 : Int32) * l7)) + (3 : Int32)) 1260 ∧ ((l6 ≤ ((m1.1 163 (((180 : Int32) + ((4 : Int32) * l7)) + (3 : Int32)).toNatClampNeg) + (l3 * (v_X12_apart m1 (m1.1 163 (((180 : Int32) + ((4 : Int32) * l7)) + (2 : Int32)).toNatClampNeg) l2))) → (G e_X12_ends 186 [(0, .ref 156), (1, .int l1), (2, .int l2), (3, .int l3), (4, .int l4), (5, .int ((m1.1 163 (((180 : Int32) + ((4 : Int32) * l7)) + (3 : Int32)).toNatClampNeg) - (l3 * (v_X12_apart m1 (m1.1 163 (((180 : Int32) + ((4 : Int32) * l7)) + (2 : Int32)).toNatClampNeg) l2)))), (6, .int l6), (7, .int l7), (8, .int ((180 : Int32) + ((4 : Int32) * l7))), (10, .int (0 : Int32))] [] m1 Q)) ∧ (¬ l6 ≤ ((m1.1 163 (((180 : Int32) + ((4 : Int32) * l7)) + (3 : Int32)).toNatClampNeg) + (l3 * (v_X12_apart m1 (m1.1 163 (((180 : Int32) + ((4 : Int32) * l7)) + (2 : Int32)).toNatClampNeg) l2))) → (vp_in (((180 : Int32) + ((4 : Int32) * l7)) + (3 : Int32)) 1260 ∧ (G e_X12_ends 186 [(0, .ref 156), (1, .int l1), (2, .int l2), (3, .int l3), (4, .int l4), (5, .int ((m1.1 163 (((180 : Int32) + ((4 : Int32) * l7)) + (3 : Int32)).toNatClampNeg) - (l3 * (v_X12_apart m1 (m1.1 163 (((180 : Int32) + ((4 : Int32) * l7)) + (2 : Int32)).toNatClampNeg) l2)))), (6, .int ((m1.1 163 (((180 : Int32) + ((4 : Int32) * l7)) + (3 : Int32)).toNatClampNeg) + (l3 * (v_X12_apart m1 (m1.1 163 (((180 : Int32) + ((4 : Int32) * l7)) + (2 : Int32)).toNatClampNeg) l2)))), (7, .int l7), (8, .int ((180 : Int32) + ((4 : Int32) * l7))), (10, .int (0 : Int32))] [] m1 Q))))))))))) ∧ (∀ m1, Pm1 (.int 0) m1 → (G e_X12_ends 49 [(0, .ref 156), (1, .int l1), (2, .int l2), (3, .int l3), (4, .int l4), (5, .int l5), (6, .int l6), (7, .int (l7 + (1 : Int32)))] [] m1 Q))))))))))) : G e_X12_ends 49 [(0, .ref 156), (1, .int l1), (2, .int l2), (3, .int l3), (4, .int l4), (5, .int l5), (6, .int l6), (7, .int l7)] [] mm Q := by
  refine g_iload (pc := 49) (x := l7) dX12_ends_49 rfl ?_
  refine g_iload (pc := 51) (x := l4) dX12_ends_51 rfl ?_
  refine g_icmp_ge (pc := 53) (tgt := 300) dX12_ends_53 (by decide) (fun c53 => ?_) (fun c53 => ?_)
  · have h := h.1 c53
    refine g_iload (pc := 300) (x := l5) dX12_ends_300 rfl ?_
    refine g_iload (pc := 302) (x := l6) dX12_ends_302 rfl ?_
    refine g_icmp_le (pc := 304) (tgt := 312) dX12_ends_304 (by decide) (fun c304 => ?_) (fun c304 => ?_)
    · have h := h.1 c304
      refine g_bipush (pc := 312) (v := (100 : Int32)) dX12_ends_312 (by decide) ?_
      refine g_iload (pc := 314) (x := l5) dX12_ends_314 rfl ?_
      refine g_imul (pc := 316) dX12_ends_316 ?_
      refine g_iload (pc := 317) (x := l6) dX12_ends_317 rfl ?_
      refine g_iadd (pc := 319) dX12_ends_319 ?_
      exact g_iret (pc := 320) dX12_ends_320 rfl rfl rfl h
    · have h := h.2 c304
      refine g_bipush (pc := 307) (v := (-2 : Int32)) dX12_ends_307 (by decide) ?_
      refine g_goto (pc := 309) (tgt := 320) dX12_ends_309 (by decide) ?_
      exact g_iret (pc := 320) dX12_ends_320 rfl rfl rfl h
  · have h := h.2 c53
    refine g_sipush (pc := 56) (v := (180 : Int32)) dX12_ends_56 (by decide) ?_
    refine g_iconst (pc := 59) (v := (4 : Int32)) dX12_ends_59 (by decide) ?_
    refine g_iload (pc := 60) (x := l7) dX12_ends_60 rfl ?_
    refine g_imul (pc := 62) dX12_ends_62 ?_
    refine g_iadd (pc := 63) dX12_ends_63 ?_
    refine g_istore (pc := 64) (L' := [(0, .ref 156), (1, .int l1), (2, .int l2), (3, .int l3), (4, .int l4), (5, .int l5), (6, .int l6), (7, .int l7), (8, .int ((180 : Int32) + ((4 : Int32) * l7)))]) dX12_ends_64 (Nat.le_of_ble_eq_true rfl) rfl ?_
    refine g_aload_n (pc := 66) (x := 156) dX12_ends_66 rfl ?_
    refine g_getR (pc := 67) (dd := 7) dX12_ends_67 fo_X12_33 sh_156 rfl ?_
    refine g_iload (pc := 70) (x := ((180 : Int32) + ((4 : Int32) * l7))) dX12_ends_70 rfl ?_
    refine g_iaload (pc := 72) dX12_ends_72 sh_163 h.1 ?_
    have h := h.2
    refine g_iconst (pc := 73) (v := (1 : Int32)) dX12_ends_73 (by decide) ?_
    refine g_icmp_ne (pc := 74) (tgt := 294) dX12_ends_74 (by decide) (fun c74 => ?_) (fun c74 => ?_)
    · have h := h.1 c74
      refine g_iinc (pc := 294) (x := l7) (v := (l7 + (1 : Int32))) (L' := [(0, .ref 156), (1, .int l1), (2, .int l2), (3, .int l3), (4, .int l4), (5, .int l5), (6, .int l6), (7, .int (l7 + (1 : Int32))), (8, .int ((180 : Int32) + ((4 : Int32) * l7)))]) dX12_ends_294 rfl rfl (Nat.le_of_ble_eq_true rfl) rfl ?_
      refine g_goto (pc := 297) (tgt := 49) dX12_ends_297 (by decide) ?_
      refine g_sub (L' := [(0, .ref 156), (1, .int l1), (2, .int l2), (3, .int l3), (4, .int l4), (5, .int l5), (6, .int l6), (7, .int (l7 + (1 : Int32)))]) [0, 1, 2, 3, 4, 5, 6, 7] rfl ?_
      exact h
    · have h := h.2 c74
      refine g_aload_n (pc := 77) (x := 156) dX12_ends_77 rfl ?_
      refine g_getR (pc := 78) (dd := 7) dX12_ends_78 fo_X12_33 sh_156 rfl ?_
      refine g_iload (pc := 81) (x := ((180 : Int32) + ((4 : Int32) * l7))) dX12_ends_81 rfl ?_
      refine g_iconst (pc := 83) (v := (1 : Int32)) dX12_ends_83 (by decide) ?_
      refine g_iadd (pc := 84) dX12_ends_84 ?_
      refine g_iaload (pc := 85) dX12_ends_85 sh_163 h.1 ?_
      have h := h.2
      refine g_iload_n (pc := 86) (x := l1) dX12_ends_86 rfl ?_
      refine g_icmp_ne (pc := 87) (tgt := 294) dX12_ends_87 (by decide) (fun c87 => ?_) (fun c87 => ?_)
      · have h := h.1 c87
        refine g_iinc (pc := 294) (x := l7) (v := (l7 + (1 : Int32))) (L' := [(0, .ref 156), (1, .int l1), (2, .int l2), (3, .int l3), (4, .int l4), (5, .int l5), (6, .int l6), (7, .int (l7 + (1 : Int32))), (8, .int ((180 : Int32) + ((4 : Int32) * l7)))]) dX12_ends_294 rfl rfl (Nat.le_of_ble_eq_true rfl) rfl ?_
        refine g_goto (pc := 297) (tgt := 49) dX12_ends_297 (by decide) ?_
        refine g_sub (L' := [(0, .ref 156), (1, .int l1), (2, .int l2), (3, .int l3), (4, .int l4), (5, .int l5), (6, .int l6), (7, .int (l7 + (1 : Int32)))]) [0, 1, 2, 3, 4, 5, 6, 7] rfl ?_
        exact h
      · have h := h.2 c87
        refine g_aload_n (pc := 90) (x := 156) dX12_ends_90 rfl ?_
        refine g_iload (pc := 91) (x := l7) dX12_ends_91 rfl ?_
        refine g_iload (pc := 93) (x := l4) dX12_ends_93 rfl ?_
        obtain ⟨Pm1, hRm1, h⟩ := h
        refine g_callV (pc := 95) (as := [.int l7, .int l4]) dX12_ends_95 cw_X12_517 (by decide) rfl rfl sh_156 (Nat.le_of_ble_eq_true rfl) hRm1 ?_
        intro r_ m1 hz_ hp_
        rcases h.1 r_ m1 hp_ with rfl | rfl
        · have h := h.2.1 m1 hp_
          refine g_if_ne (pc := 98) (tgt := 104) dX12_ends_98 (by decide) (fun _ => ?_) (fun c98 => absurd c98 (by decide))
          refine g_iload_n (pc := 104) (x := l3) dX12_ends_104 rfl ?_
          refine g_aload_n (pc := 105) (x := 156) dX12_ends_105 rfl ?_
          refine g_getR (pc := 106) (dd := 7) dX12_ends_106 fo_X12_33 sh_156 rfl ?_
          refine g_iload (pc := 109) (x := ((180 : Int32) + ((4 : Int32) * l7))) dX12_ends_109 rfl ?_
          refine g_iconst (pc := 111) (v := (2 : Int32)) dX12_ends_111 (by decide) ?_
          refine g_iadd (pc := 112) dX12_ends_112 ?_
          refine g_iaload (pc := 113) dX12_ends_113 sh_163 h.1 ?_
          have h := h.2
          refine g_iload_n (pc := 114) (x := l2) dX12_ends_114 rfl ?_
          refine g_callS (pc := 115) (as := [.int (m1.1 163 (((180 : Int32) + ((4 : Int32) * l7)) + (2 : Int32)).toNatClampNeg), .int l2]) dX12_ends_115 cw_X12_529 (by decide) rfl rfl (Nat.le_of_ble_eq_true rfl) (rv_X12_apart m1 (m1.1 163 (((180 : Int32) + ((4 : Int32) * l7)) + (2 : Int32)).toNatClampNeg) l2) ?_
          rintro r_ m_ hz_ ⟨rfl, rfl⟩
          refine g_imul (pc := 118) dX12_ends_118 ?_
          refine g_istore (pc := 119) (L' := [(0, .ref 156), (1, .int l1), (2, .int l2), (3, .int l3), (4, .int l4), (5, .int l5), (6, .int l6), (7, .int l7), (8, .int ((180 : Int32) + ((4 : Int32) * l7))), (9, .int (l3 * (v_X12_apart m1 (m1.1 163 (((180 : Int32) + ((4 : Int32) * l7)) + (2 : Int32)).toNatClampNeg) l2)))]) dX12_ends_119 (Nat.le_of_ble_eq_true rfl) rfl ?_
          refine g_aload_n (pc := 121) (x := 156) dX12_ends_121 rfl ?_
          refine g_getR (pc := 122) (dd := 7) dX12_ends_122 fo_X12_33 sh_156 rfl ?_
          refine g_iload (pc := 125) (x := ((180 : Int32) + ((4 : Int32) * l7))) dX12_ends_125 rfl ?_
          refine g_iconst (pc := 127) (v := (3 : Int32)) dX12_ends_127 (by decide) ?_
          refine g_iadd (pc := 128) dX12_ends_128 ?_
          refine g_iaload (pc := 129) dX12_ends_129 sh_163 h.1 ?_
          have h := h.2
          refine g_iload (pc := 130) (x := (l3 * (v_X12_apart m1 (m1.1 163 (((180 : Int32) + ((4 : Int32) * l7)) + (2 : Int32)).toNatClampNeg) l2))) dX12_ends_130 rfl ?_
          refine g_isub (pc := 132) dX12_ends_132 ?_
          refine g_iload (pc := 133) (x := l5) dX12_ends_133 rfl ?_
          refine g_icmp_le (pc := 135) (tgt := 152) dX12_ends_135 (by decide) (fun c135 => ?_) (fun c135 => ?_)
          · have h := h.1 c135
            refine g_aload_n (pc := 152) (x := 156) dX12_ends_152 rfl ?_
            refine g_getR (pc := 153) (dd := 7) dX12_ends_153 fo_X12_33 sh_156 rfl ?_
            refine g_iload (pc := 156) (x := ((180 : Int32) + ((4 : Int32) * l7))) dX12_ends_156 rfl ?_
            refine g_iconst (pc := 158) (v := (3 : Int32)) dX12_ends_158 (by decide) ?_
            refine g_iadd (pc := 159) dX12_ends_159 ?_
            refine g_iaload (pc := 160) dX12_ends_160 sh_163 h.1 ?_
            have h := h.2
            refine g_iload (pc := 161) (x := (l3 * (v_X12_apart m1 (m1.1 163 (((180 : Int32) + ((4 : Int32) * l7)) + (2 : Int32)).toNatClampNeg) l2))) dX12_ends_161 rfl ?_
            refine g_iadd (pc := 163) dX12_ends_163 ?_
            refine g_iload (pc := 164) (x := l6) dX12_ends_164 rfl ?_
            refine g_icmp_ge (pc := 166) (tgt := 183) dX12_ends_166 (by decide) (fun c166 => ?_) (fun c166 => ?_)
            · have h := h.1 c166
              refine g_iconst (pc := 183) (v := (0 : Int32)) dX12_ends_183 (by decide) ?_
              refine g_istore (pc := 184) (L' := [(0, .ref 156), (1, .int l1), (2, .int l2), (3, .int l3), (4, .int l4), (5, .int l5), (6, .int l6), (7, .int l7), (8, .int ((180 : Int32) + ((4 : Int32) * l7))), (9, .int (l3 * (v_X12_apart m1 (m1.1 163 (((180 : Int32) + ((4 : Int32) * l7)) + (2 : Int32)).toNatClampNeg) l2))), (10, .int (0 : Int32))]) dX12_ends_184 (Nat.le_of_ble_eq_true rfl) rfl ?_
              refine g_sub (L' := [(0, .ref 156), (1, .int l1), (2, .int l2), (3, .int l3), (4, .int l4), (5, .int l5), (6, .int l6), (7, .int l7), (8, .int ((180 : Int32) + ((4 : Int32) * l7))), (10, .int (0 : Int32))]) [0, 1, 2, 3, 4, 5, 6, 7, 8, 10] rfl ?_
              exact h
            · have h := h.2 c166
              refine g_aload_n (pc := 169) (x := 156) dX12_ends_169 rfl ?_
              refine g_getR (pc := 170) (dd := 7) dX12_ends_170 fo_X12_33 sh_156 rfl ?_
              refine g_iload (pc := 173) (x := ((180 : Int32) + ((4 : Int32) * l7))) dX12_ends_173 rfl ?_
              refine g_iconst (pc := 175) (v := (3 : Int32)) dX12_ends_175 (by decide) ?_
              refine g_iadd (pc := 176) dX12_ends_176 ?_
              refine g_iaload (pc := 177) dX12_ends_177 sh_163 h.1 ?_
              have h := h.2
              refine g_iload (pc := 178) (x := (l3 * (v_X12_apart m1 (m1.1 163 (((180 : Int32) + ((4 : Int32) * l7)) + (2 : Int32)).toNatClampNeg) l2))) dX12_ends_178 rfl ?_
              refine g_iadd (pc := 180) dX12_ends_180 ?_
              refine g_istore (pc := 181) (L' := [(0, .ref 156), (1, .int l1), (2, .int l2), (3, .int l3), (4, .int l4), (5, .int l5), (6, .int ((m1.1 163 (((180 : Int32) + ((4 : Int32) * l7)) + (3 : Int32)).toNatClampNeg) + (l3 * (v_X12_apart m1 (m1.1 163 (((180 : Int32) + ((4 : Int32) * l7)) + (2 : Int32)).toNatClampNeg) l2)))), (7, .int l7), (8, .int ((180 : Int32) + ((4 : Int32) * l7))), (9, .int (l3 * (v_X12_apart m1 (m1.1 163 (((180 : Int32) + ((4 : Int32) * l7)) + (2 : Int32)).toNatClampNeg) l2)))]) dX12_ends_181 (Nat.le_of_ble_eq_true rfl) rfl ?_
              refine g_iconst (pc := 183) (v := (0 : Int32)) dX12_ends_183 (by decide) ?_
              refine g_istore (pc := 184) (L' := [(0, .ref 156), (1, .int l1), (2, .int l2), (3, .int l3), (4, .int l4), (5, .int l5), (6, .int ((m1.1 163 (((180 : Int32) + ((4 : Int32) * l7)) + (3 : Int32)).toNatClampNeg) + (l3 * (v_X12_apart m1 (m1.1 163 (((180 : Int32) + ((4 : Int32) * l7)) + (2 : Int32)).toNatClampNeg) l2)))), (7, .int l7), (8, .int ((180 : Int32) + ((4 : Int32) * l7))), (9, .int (l3 * (v_X12_apart m1 (m1.1 163 (((180 : Int32) + ((4 : Int32) * l7)) + (2 : Int32)).toNatClampNeg) l2))), (10, .int (0 : Int32))]) dX12_ends_184 (Nat.le_of_ble_eq_true rfl) rfl ?_
              refine g_sub (L' := [(0, .ref 156), (1, .int l1), (2, .int l2), (3, .int l3), (4, .int l4), (5, .int l5), (6, .int ((m1.1 163 (((180 : Int32) + ((4 : Int32) * l7)) + (3 : Int32)).toNatClampNeg) + (l3 * (v_X12_apart m1 (m1.1 163 (((180 : Int32) + ((4 : Int32) * l7)) + (2 : Int32)).toNatClampNeg) l2)))), (7, .int l7), (8, .int ((180 : Int32) + ((4 : Int32) * l7))), (10, .int (0 : Int32))]) [0, 1, 2, 3, 4, 5, 6, 7, 8, 10] rfl ?_
              exact h
          · have h := h.2 c135
            refine g_aload_n (pc := 138) (x := 156) dX12_ends_138 rfl ?_
            refine g_getR (pc := 139) (dd := 7) dX12_ends_139 fo_X12_33 sh_156 rfl ?_
            refine g_iload (pc := 142) (x := ((180 : Int32) + ((4 : Int32) * l7))) dX12_ends_142 rfl ?_
            refine g_iconst (pc := 144) (v := (3 : Int32)) dX12_ends_144 (by decide) ?_
            refine g_iadd (pc := 145) dX12_ends_145 ?_
            refine g_iaload (pc := 146) dX12_ends_146 sh_163 h.1 ?_
            have h := h.2
            refine g_iload (pc := 147) (x := (l3 * (v_X12_apart m1 (m1.1 163 (((180 : Int32) + ((4 : Int32) * l7)) + (2 : Int32)).toNatClampNeg) l2))) dX12_ends_147 rfl ?_
            refine g_isub (pc := 149) dX12_ends_149 ?_
            refine g_istore (pc := 150) (L' := [(0, .ref 156), (1, .int l1), (2, .int l2), (3, .int l3), (4, .int l4), (5, .int ((m1.1 163 (((180 : Int32) + ((4 : Int32) * l7)) + (3 : Int32)).toNatClampNeg) - (l3 * (v_X12_apart m1 (m1.1 163 (((180 : Int32) + ((4 : Int32) * l7)) + (2 : Int32)).toNatClampNeg) l2)))), (6, .int l6), (7, .int l7), (8, .int ((180 : Int32) + ((4 : Int32) * l7))), (9, .int (l3 * (v_X12_apart m1 (m1.1 163 (((180 : Int32) + ((4 : Int32) * l7)) + (2 : Int32)).toNatClampNeg) l2)))]) dX12_ends_150 (Nat.le_of_ble_eq_true rfl) rfl ?_
            refine g_aload_n (pc := 152) (x := 156) dX12_ends_152 rfl ?_
            refine g_getR (pc := 153) (dd := 7) dX12_ends_153 fo_X12_33 sh_156 rfl ?_
            refine g_iload (pc := 156) (x := ((180 : Int32) + ((4 : Int32) * l7))) dX12_ends_156 rfl ?_
            refine g_iconst (pc := 158) (v := (3 : Int32)) dX12_ends_158 (by decide) ?_
            refine g_iadd (pc := 159) dX12_ends_159 ?_
            refine g_iaload (pc := 160) dX12_ends_160 sh_163 h.1 ?_
            have h := h.2
            refine g_iload (pc := 161) (x := (l3 * (v_X12_apart m1 (m1.1 163 (((180 : Int32) + ((4 : Int32) * l7)) + (2 : Int32)).toNatClampNeg) l2))) dX12_ends_161 rfl ?_
            refine g_iadd (pc := 163) dX12_ends_163 ?_
            refine g_iload (pc := 164) (x := l6) dX12_ends_164 rfl ?_
            refine g_icmp_ge (pc := 166) (tgt := 183) dX12_ends_166 (by decide) (fun c166 => ?_) (fun c166 => ?_)
            · have h := h.1 c166
              refine g_iconst (pc := 183) (v := (0 : Int32)) dX12_ends_183 (by decide) ?_
              refine g_istore (pc := 184) (L' := [(0, .ref 156), (1, .int l1), (2, .int l2), (3, .int l3), (4, .int l4), (5, .int ((m1.1 163 (((180 : Int32) + ((4 : Int32) * l7)) + (3 : Int32)).toNatClampNeg) - (l3 * (v_X12_apart m1 (m1.1 163 (((180 : Int32) + ((4 : Int32) * l7)) + (2 : Int32)).toNatClampNeg) l2)))), (6, .int l6), (7, .int l7), (8, .int ((180 : Int32) + ((4 : Int32) * l7))), (9, .int (l3 * (v_X12_apart m1 (m1.1 163 (((180 : Int32) + ((4 : Int32) * l7)) + (2 : Int32)).toNatClampNeg) l2))), (10, .int (0 : Int32))]) dX12_ends_184 (Nat.le_of_ble_eq_true rfl) rfl ?_
              refine g_sub (L' := [(0, .ref 156), (1, .int l1), (2, .int l2), (3, .int l3), (4, .int l4), (5, .int ((m1.1 163 (((180 : Int32) + ((4 : Int32) * l7)) + (3 : Int32)).toNatClampNeg) - (l3 * (v_X12_apart m1 (m1.1 163 (((180 : Int32) + ((4 : Int32) * l7)) + (2 : Int32)).toNatClampNeg) l2)))), (6, .int l6), (7, .int l7), (8, .int ((180 : Int32) + ((4 : Int32) * l7))), (10, .int (0 : Int32))]) [0, 1, 2, 3, 4, 5, 6, 7, 8, 10] rfl ?_
              exact h
            · have h := h.2 c166
              refine g_aload_n (pc := 169) (x := 156) dX12_ends_169 rfl ?_
              refine g_getR (pc := 170) (dd := 7) dX12_ends_170 fo_X12_33 sh_156 rfl ?_
              refine g_iload (pc := 173) (x := ((180 : Int32) + ((4 : Int32) * l7))) dX12_ends_173 rfl ?_
              refine g_iconst (pc := 175) (v := (3 : Int32)) dX12_ends_175 (by decide) ?_
              refine g_iadd (pc := 176) dX12_ends_176 ?_
              refine g_iaload (pc := 177) dX12_ends_177 sh_163 h.1 ?_
              have h := h.2
              refine g_iload (pc := 178) (x := (l3 * (v_X12_apart m1 (m1.1 163 (((180 : Int32) + ((4 : Int32) * l7)) + (2 : Int32)).toNatClampNeg) l2))) dX12_ends_178 rfl ?_
              refine g_iadd (pc := 180) dX12_ends_180 ?_
              refine g_istore (pc := 181) (L' := [(0, .ref 156), (1, .int l1), (2, .int l2), (3, .int l3), (4, .int l4), (5, .int ((m1.1 163 (((180 : Int32) + ((4 : Int32) * l7)) + (3 : Int32)).toNatClampNeg) - (l3 * (v_X12_apart m1 (m1.1 163 (((180 : Int32) + ((4 : Int32) * l7)) + (2 : Int32)).toNatClampNeg) l2)))), (6, .int ((m1.1 163 (((180 : Int32) + ((4 : Int32) * l7)) + (3 : Int32)).toNatClampNeg) + (l3 * (v_X12_apart m1 (m1.1 163 (((180 : Int32) + ((4 : Int32) * l7)) + (2 : Int32)).toNatClampNeg) l2)))), (7, .int l7), (8, .int ((180 : Int32) + ((4 : Int32) * l7))), (9, .int (l3 * (v_X12_apart m1 (m1.1 163 (((180 : Int32) + ((4 : Int32) * l7)) + (2 : Int32)).toNatClampNeg) l2)))]) dX12_ends_181 (Nat.le_of_ble_eq_true rfl) rfl ?_
              refine g_iconst (pc := 183) (v := (0 : Int32)) dX12_ends_183 (by decide) ?_
              refine g_istore (pc := 184) (L' := [(0, .ref 156), (1, .int l1), (2, .int l2), (3, .int l3), (4, .int l4), (5, .int ((m1.1 163 (((180 : Int32) + ((4 : Int32) * l7)) + (3 : Int32)).toNatClampNeg) - (l3 * (v_X12_apart m1 (m1.1 163 (((180 : Int32) + ((4 : Int32) * l7)) + (2 : Int32)).toNatClampNeg) l2)))), (6, .int ((m1.1 163 (((180 : Int32) + ((4 : Int32) * l7)) + (3 : Int32)).toNatClampNeg) + (l3 * (v_X12_apart m1 (m1.1 163 (((180 : Int32) + ((4 : Int32) * l7)) + (2 : Int32)).toNatClampNeg) l2)))), (7, .int l7), (8, .int ((180 : Int32) + ((4 : Int32) * l7))), (9, .int (l3 * (v_X12_apart m1 (m1.1 163 (((180 : Int32) + ((4 : Int32) * l7)) + (2 : Int32)).toNatClampNeg) l2))), (10, .int (0 : Int32))]) dX12_ends_184 (Nat.le_of_ble_eq_true rfl) rfl ?_
              refine g_sub (L' := [(0, .ref 156), (1, .int l1), (2, .int l2), (3, .int l3), (4, .int l4), (5, .int ((m1.1 163 (((180 : Int32) + ((4 : Int32) * l7)) + (3 : Int32)).toNatClampNeg) - (l3 * (v_X12_apart m1 (m1.1 163 (((180 : Int32) + ((4 : Int32) * l7)) + (2 : Int32)).toNatClampNeg) l2)))), (6, .int ((m1.1 163 (((180 : Int32) + ((4 : Int32) * l7)) + (3 : Int32)).toNatClampNeg) + (l3 * (v_X12_apart m1 (m1.1 163 (((180 : Int32) + ((4 : Int32) * l7)) + (2 : Int32)).toNatClampNeg) l2)))), (7, .int l7), (8, .int ((180 : Int32) + ((4 : Int32) * l7))), (10, .int (0 : Int32))]) [0, 1, 2, 3, 4, 5, 6, 7, 8, 10] rfl ?_
              exact h
        · have h := h.2.2 m1 hp_
          refine g_if_ne (pc := 98) (tgt := 104) dX12_ends_98 (by decide) (fun c98 => absurd c98 (by decide)) (fun _ => ?_)
          refine g_goto (pc := 101) (tgt := 294) dX12_ends_101 (by decide) ?_
          refine g_iinc (pc := 294) (x := l7) (v := (l7 + (1 : Int32))) (L' := [(0, .ref 156), (1, .int l1), (2, .int l2), (3, .int l3), (4, .int l4), (5, .int l5), (6, .int l6), (7, .int (l7 + (1 : Int32))), (8, .int ((180 : Int32) + ((4 : Int32) * l7)))]) dX12_ends_294 rfl rfl (Nat.le_of_ble_eq_true rfl) rfl ?_
          refine g_goto (pc := 297) (tgt := 49) dX12_ends_297 (by decide) ?_
          refine g_sub (L' := [(0, .ref 156), (1, .int l1), (2, .int l2), (3, .int l3), (4, .int l4), (5, .int l5), (6, .int l6), (7, .int (l7 + (1 : Int32)))]) [0, 1, 2, 3, 4, 5, 6, 7] rfl ?_
          exact h
theorem b_X12_ends_186 (mm : MM) (Q : Value → MM → Prop) (l1 : Int32) (l2 : Int32) (l3 : Int32) (l4 : Int32) (l5 : Int32) (l6 : Int32) (l7 : Int32) (l8 : Int32) (l10 : Int32) (h : (l7 ≤ l10 → (G e_X12_ends 49 [(0, .ref 156), (1, .int l1), (2, .int l2), (3, .int l3), (4, .int l4), (5, .int l5), (6, .int l6), (7, .int (l7 + (1 : Int32)))] [] mm Q)) ∧ (¬ l7 ≤ l10 → (vp_in ((180 : Int32) + ((4 : Int32) * l10)) 1260 ∧ ((¬ (mm.1 163 ((180 : Int32) + ((4 : Int32) * l10)).toNatClampNeg) = (1 : Int32) → (G e_X12_ends 186 [(0, .ref 156), (1, .int l1), (2, .int l2), (3, .int l3), (4, .int l4), (5, .int l5), (6, .int l6), (7, .int l7), (8, .int l8), (10, .int (l10 + (1 : Int32)))] [] mm Q)) ∧ ((mm.1 163 ((180 : Int32) + ((4 : Int32) * l10)).toNatClampNeg) = (1 : Int32) → (vp_in (((180 : Int32) + ((4 : Int32) * l10)) + (1 : Int32)) 1260 ∧ ((¬ (mm.1 163 (((180 : Int32) + ((4 : Int32) * l10)) + (1 : Int32)).toNatClampNeg) = l1 → (G e_X12_ends 186 [(0, .ref 156), (1, .int l1), (2, .int l2), (3, .int l3), (4, .int l4), (5, .int l5), (6, .int l6), (7, .int l7), (8, .int l8), (10, .int (l10 + (1 : Int32)))] [] mm Q)) ∧ ((mm.1 163 (((180 : Int32) + ((4 : Int32) * l10)) + (1 : Int32)).toNatClampNeg) = l1 → (∃ Pm1 : Value → MM → Prop, Runs e_X12_isLive [.ref 156, .int l10, .int l4] mm Pm1 ∧ (∀ r m1, Pm1 r m1 → r = .int 1 ∨ r = .int 0) ∧ (∀ m1, Pm1 (.int 1) m1 → (vp_in (((180 : Int32) + ((4 : Int32) * l10)) + (3 : Int32)) 1260 ∧ (vp_in (l8 + (3 : Int32)) 1260 ∧ (vp_in (((180 : Int32) + ((4 : Int32) * l10)) + (2 : Int32)) 1260 ∧ (vp_in (l8 + (2 : Int32)) 1260 ∧ (((v_X12_apart m1 (m1.1 163 (((180 : Int32) + ((4 : Int32) * l10)) + (3 : Int32)).toNatClampNeg) (m1.1 163 (l8 + (3 : Int32)).toNatClampNeg)) ≤ (l3 * (v_X12_apart m1 (m1.1 163 (((180 : Int32) + ((4 : Int32) * l10)) + (2 : Int32)).toNatClampNeg) (m1.1 163 (l8 + (2 : Int32)).toNatClampNeg))) → (G e_X12_ends 186 [(0, .ref 156), (1, .int l1), (2, .int l2), (3, .int l3), (4, .int l4), (5, .int l5), (6, .int l6), (7, .int l7), (8, .int l8), (10, .int (l10 + (1 : Int32)))] [] m1 Q)) ∧ (¬ (v_X12_apart m1 (m1.1 163 (((180 : Int32) + ((4 : Int32) * l10)) + (3 : Int32)).toNatClampNeg) (m1.1 163 (l8 + (3 : Int32)).toNatClampNeg)) ≤ (l3 * (v_X12_apart m1 (m1.1 163 (((180 : Int32) + ((4 : Int32) * l10)) + (2 : Int32)).toNatClampNeg) (m1.1 163 (l8 + (2 : Int32)).toNatClampNeg))) → (Q (.int (-2 : Int32)) m1)))))))) ∧ (∀ m1, Pm1 (.int 0) m1 → (G e_X12_ends 186 [(0, .ref 156), (1, .int l1), (2, .int l2), (3, .int l3), (4, .int l4), (5, .int l5), (6, .int l6), (7, .int l7), (8, .int l8), (10, .int (l10 + (1 : Int32)))] [] m1 Q))))))))))) : G e_X12_ends 186 [(0, .ref 156), (1, .int l1), (2, .int l2), (3, .int l3), (4, .int l4), (5, .int l5), (6, .int l6), (7, .int l7), (8, .int l8), (10, .int l10)] [] mm Q := by
  refine g_iload (pc := 186) (x := l10) dX12_ends_186 rfl ?_
  refine g_iload (pc := 188) (x := l7) dX12_ends_188 rfl ?_
  refine g_icmp_ge (pc := 190) (tgt := 294) dX12_ends_190 (by decide) (fun c190 => ?_) (fun c190 => ?_)
  · have h := h.1 c190
    refine g_iinc (pc := 294) (x := l7) (v := (l7 + (1 : Int32))) (L' := [(0, .ref 156), (1, .int l1), (2, .int l2), (3, .int l3), (4, .int l4), (5, .int l5), (6, .int l6), (7, .int (l7 + (1 : Int32))), (8, .int l8), (10, .int l10)]) dX12_ends_294 rfl rfl (Nat.le_of_ble_eq_true rfl) rfl ?_
    refine g_goto (pc := 297) (tgt := 49) dX12_ends_297 (by decide) ?_
    refine g_sub (L' := [(0, .ref 156), (1, .int l1), (2, .int l2), (3, .int l3), (4, .int l4), (5, .int l5), (6, .int l6), (7, .int (l7 + (1 : Int32)))]) [0, 1, 2, 3, 4, 5, 6, 7] rfl ?_
    exact h
  · have h := h.2 c190
    refine g_sipush (pc := 193) (v := (180 : Int32)) dX12_ends_193 (by decide) ?_
    refine g_iconst (pc := 196) (v := (4 : Int32)) dX12_ends_196 (by decide) ?_
    refine g_iload (pc := 197) (x := l10) dX12_ends_197 rfl ?_
    refine g_imul (pc := 199) dX12_ends_199 ?_
    refine g_iadd (pc := 200) dX12_ends_200 ?_
    refine g_istore (pc := 201) (L' := [(0, .ref 156), (1, .int l1), (2, .int l2), (3, .int l3), (4, .int l4), (5, .int l5), (6, .int l6), (7, .int l7), (8, .int l8), (10, .int l10), (11, .int ((180 : Int32) + ((4 : Int32) * l10)))]) dX12_ends_201 (Nat.le_of_ble_eq_true rfl) rfl ?_
    refine g_aload_n (pc := 203) (x := 156) dX12_ends_203 rfl ?_
    refine g_getR (pc := 204) (dd := 7) dX12_ends_204 fo_X12_33 sh_156 rfl ?_
    refine g_iload (pc := 207) (x := ((180 : Int32) + ((4 : Int32) * l10))) dX12_ends_207 rfl ?_
    refine g_iaload (pc := 209) dX12_ends_209 sh_163 h.1 ?_
    have h := h.2
    refine g_iconst (pc := 210) (v := (1 : Int32)) dX12_ends_210 (by decide) ?_
    refine g_icmp_ne (pc := 211) (tgt := 288) dX12_ends_211 (by decide) (fun c211 => ?_) (fun c211 => ?_)
    · have h := h.1 c211
      refine g_iinc (pc := 288) (x := l10) (v := (l10 + (1 : Int32))) (L' := [(0, .ref 156), (1, .int l1), (2, .int l2), (3, .int l3), (4, .int l4), (5, .int l5), (6, .int l6), (7, .int l7), (8, .int l8), (10, .int (l10 + (1 : Int32))), (11, .int ((180 : Int32) + ((4 : Int32) * l10)))]) dX12_ends_288 rfl rfl (Nat.le_of_ble_eq_true rfl) rfl ?_
      refine g_goto (pc := 291) (tgt := 186) dX12_ends_291 (by decide) ?_
      refine g_sub (L' := [(0, .ref 156), (1, .int l1), (2, .int l2), (3, .int l3), (4, .int l4), (5, .int l5), (6, .int l6), (7, .int l7), (8, .int l8), (10, .int (l10 + (1 : Int32)))]) [0, 1, 2, 3, 4, 5, 6, 7, 8, 9] rfl ?_
      exact h
    · have h := h.2 c211
      refine g_aload_n (pc := 214) (x := 156) dX12_ends_214 rfl ?_
      refine g_getR (pc := 215) (dd := 7) dX12_ends_215 fo_X12_33 sh_156 rfl ?_
      refine g_iload (pc := 218) (x := ((180 : Int32) + ((4 : Int32) * l10))) dX12_ends_218 rfl ?_
      refine g_iconst (pc := 220) (v := (1 : Int32)) dX12_ends_220 (by decide) ?_
      refine g_iadd (pc := 221) dX12_ends_221 ?_
      refine g_iaload (pc := 222) dX12_ends_222 sh_163 h.1 ?_
      have h := h.2
      refine g_iload_n (pc := 223) (x := l1) dX12_ends_223 rfl ?_
      refine g_icmp_ne (pc := 224) (tgt := 288) dX12_ends_224 (by decide) (fun c224 => ?_) (fun c224 => ?_)
      · have h := h.1 c224
        refine g_iinc (pc := 288) (x := l10) (v := (l10 + (1 : Int32))) (L' := [(0, .ref 156), (1, .int l1), (2, .int l2), (3, .int l3), (4, .int l4), (5, .int l5), (6, .int l6), (7, .int l7), (8, .int l8), (10, .int (l10 + (1 : Int32))), (11, .int ((180 : Int32) + ((4 : Int32) * l10)))]) dX12_ends_288 rfl rfl (Nat.le_of_ble_eq_true rfl) rfl ?_
        refine g_goto (pc := 291) (tgt := 186) dX12_ends_291 (by decide) ?_
        refine g_sub (L' := [(0, .ref 156), (1, .int l1), (2, .int l2), (3, .int l3), (4, .int l4), (5, .int l5), (6, .int l6), (7, .int l7), (8, .int l8), (10, .int (l10 + (1 : Int32)))]) [0, 1, 2, 3, 4, 5, 6, 7, 8, 9] rfl ?_
        exact h
      · have h := h.2 c224
        refine g_aload_n (pc := 227) (x := 156) dX12_ends_227 rfl ?_
        refine g_iload (pc := 228) (x := l10) dX12_ends_228 rfl ?_
        refine g_iload (pc := 230) (x := l4) dX12_ends_230 rfl ?_
        obtain ⟨Pm1, hRm1, h⟩ := h
        refine g_callV (pc := 232) (as := [.int l10, .int l4]) dX12_ends_232 cw_X12_517 (by decide) rfl rfl sh_156 (Nat.le_of_ble_eq_true rfl) hRm1 ?_
        intro r_ m1 hz_ hp_
        rcases h.1 r_ m1 hp_ with rfl | rfl
        · have h := h.2.1 m1 hp_
          refine g_if_eq (pc := 235) (tgt := 288) dX12_ends_235 (by decide) (fun c235 => absurd c235 (by decide)) (fun _ => ?_)
          refine g_aload_n (pc := 238) (x := 156) dX12_ends_238 rfl ?_
          refine g_getR (pc := 239) (dd := 7) dX12_ends_239 fo_X12_33 sh_156 rfl ?_
          refine g_iload (pc := 242) (x := ((180 : Int32) + ((4 : Int32) * l10))) dX12_ends_242 rfl ?_
          refine g_iconst (pc := 244) (v := (3 : Int32)) dX12_ends_244 (by decide) ?_
          refine g_iadd (pc := 245) dX12_ends_245 ?_
          refine g_iaload (pc := 246) dX12_ends_246 sh_163 h.1 ?_
          have h := h.2
          refine g_aload_n (pc := 247) (x := 156) dX12_ends_247 rfl ?_
          refine g_getR (pc := 248) (dd := 7) dX12_ends_248 fo_X12_33 sh_156 rfl ?_
          refine g_iload (pc := 251) (x := l8) dX12_ends_251 rfl ?_
          refine g_iconst (pc := 253) (v := (3 : Int32)) dX12_ends_253 (by decide) ?_
          refine g_iadd (pc := 254) dX12_ends_254 ?_
          refine g_iaload (pc := 255) dX12_ends_255 sh_163 h.1 ?_
          have h := h.2
          refine g_callS (pc := 256) (as := [.int (m1.1 163 (((180 : Int32) + ((4 : Int32) * l10)) + (3 : Int32)).toNatClampNeg), .int (m1.1 163 (l8 + (3 : Int32)).toNatClampNeg)]) dX12_ends_256 cw_X12_529 (by decide) rfl rfl (Nat.le_of_ble_eq_true rfl) (rv_X12_apart m1 (m1.1 163 (((180 : Int32) + ((4 : Int32) * l10)) + (3 : Int32)).toNatClampNeg) (m1.1 163 (l8 + (3 : Int32)).toNatClampNeg)) ?_
          rintro r_ m_ hz_ ⟨rfl, rfl⟩
          refine g_iload_n (pc := 259) (x := l3) dX12_ends_259 rfl ?_
          refine g_aload_n (pc := 260) (x := 156) dX12_ends_260 rfl ?_
          refine g_getR (pc := 261) (dd := 7) dX12_ends_261 fo_X12_33 sh_156 rfl ?_
          refine g_iload (pc := 264) (x := ((180 : Int32) + ((4 : Int32) * l10))) dX12_ends_264 rfl ?_
          refine g_iconst (pc := 266) (v := (2 : Int32)) dX12_ends_266 (by decide) ?_
          refine g_iadd (pc := 267) dX12_ends_267 ?_
          refine g_iaload (pc := 268) dX12_ends_268 sh_163 h.1 ?_
          have h := h.2
          refine g_aload_n (pc := 269) (x := 156) dX12_ends_269 rfl ?_
          refine g_getR (pc := 270) (dd := 7) dX12_ends_270 fo_X12_33 sh_156 rfl ?_
          refine g_iload (pc := 273) (x := l8) dX12_ends_273 rfl ?_
          refine g_iconst (pc := 275) (v := (2 : Int32)) dX12_ends_275 (by decide) ?_
          refine g_iadd (pc := 276) dX12_ends_276 ?_
          refine g_iaload (pc := 277) dX12_ends_277 sh_163 h.1 ?_
          have h := h.2
          refine g_callS (pc := 278) (as := [.int (m1.1 163 (((180 : Int32) + ((4 : Int32) * l10)) + (2 : Int32)).toNatClampNeg), .int (m1.1 163 (l8 + (2 : Int32)).toNatClampNeg)]) dX12_ends_278 cw_X12_529 (by decide) rfl rfl (Nat.le_of_ble_eq_true rfl) (rv_X12_apart m1 (m1.1 163 (((180 : Int32) + ((4 : Int32) * l10)) + (2 : Int32)).toNatClampNeg) (m1.1 163 (l8 + (2 : Int32)).toNatClampNeg)) ?_
          rintro r_ m_ hz_ ⟨rfl, rfl⟩
          refine g_imul (pc := 281) dX12_ends_281 ?_
          refine g_icmp_le (pc := 282) (tgt := 288) dX12_ends_282 (by decide) (fun c282 => ?_) (fun c282 => ?_)
          · have h := h.1 c282
            refine g_iinc (pc := 288) (x := l10) (v := (l10 + (1 : Int32))) (L' := [(0, .ref 156), (1, .int l1), (2, .int l2), (3, .int l3), (4, .int l4), (5, .int l5), (6, .int l6), (7, .int l7), (8, .int l8), (10, .int (l10 + (1 : Int32))), (11, .int ((180 : Int32) + ((4 : Int32) * l10)))]) dX12_ends_288 rfl rfl (Nat.le_of_ble_eq_true rfl) rfl ?_
            refine g_goto (pc := 291) (tgt := 186) dX12_ends_291 (by decide) ?_
            refine g_sub (L' := [(0, .ref 156), (1, .int l1), (2, .int l2), (3, .int l3), (4, .int l4), (5, .int l5), (6, .int l6), (7, .int l7), (8, .int l8), (10, .int (l10 + (1 : Int32)))]) [0, 1, 2, 3, 4, 5, 6, 7, 8, 9] rfl ?_
            exact h
          · have h := h.2 c282
            refine g_bipush (pc := 285) (v := (-2 : Int32)) dX12_ends_285 (by decide) ?_
            exact g_iret (pc := 287) dX12_ends_287 rfl rfl rfl h
        · have h := h.2.2 m1 hp_
          refine g_if_eq (pc := 235) (tgt := 288) dX12_ends_235 (by decide) (fun _ => ?_) (fun c235 => absurd c235 (by decide))
          refine g_iinc (pc := 288) (x := l10) (v := (l10 + (1 : Int32))) (L' := [(0, .ref 156), (1, .int l1), (2, .int l2), (3, .int l3), (4, .int l4), (5, .int l5), (6, .int l6), (7, .int l7), (8, .int l8), (10, .int (l10 + (1 : Int32))), (11, .int ((180 : Int32) + ((4 : Int32) * l10)))]) dX12_ends_288 rfl rfl (Nat.le_of_ble_eq_true rfl) rfl ?_
          refine g_goto (pc := 291) (tgt := 186) dX12_ends_291 (by decide) ?_
          refine g_sub (L' := [(0, .ref 156), (1, .int l1), (2, .int l2), (3, .int l3), (4, .int l4), (5, .int l5), (6, .int l6), (7, .int l7), (8, .int l8), (10, .int (l10 + (1 : Int32)))]) [0, 1, 2, 3, 4, 5, 6, 7, 8, 9] rfl ?_
          exact h

theorem b_X12_scan_12 (mm : MM) (Q : Value → MM → Prop) (l1 : Int32) (l2 : Int32) (l3 : Int64) (h : o_X12_isLetter mm l2 ∧ ((p_X12_isLetter mm l2 → (((8 : Int32) ≤ (l2 - l1) → (G e_X12_scan 12 [(0, .ref 156), (1, .int l1), (2, .int (l2 + (1 : Int32))), (3, .long l3)] [] mm Q)) ∧ (¬ (8 : Int32) ≤ (l2 - l1) → (o_X12_byteAt mm l2 ∧ (G e_X12_scan 12 [(0, .ref 156), (1, .int l1), (2, .int (l2 + (1 : Int32))), (3, .long (((l3 * (27 : Int64)) + (v_X12_byteAt mm l2).toInt64) - (96 : Int64)))] [] mm Q))))) ∧ (¬ p_X12_isLetter mm l2 → (((l2 - l1) ≤ (8 : Int32) → (vp_in (mm.1 156 2) 2001 ∧ (((l2 - l1) ≤ (8 : Int32) → (((v_X12_wordOf mm l3) < 0 → (∃ Pm1 : Value → MM → Prop, Runs e_X12_token [.ref 156, .int (0 : Int32), .int l1, .int (v_X12_wordOf mm l3)] (wLg mm 161 ((mm.1 156 2).toNatClampNeg) l3) Pm1 ∧ ∀ m1, Pm1 .null m1 → (Q (.int l2) m1))) ∧ (¬ (v_X12_wordOf mm l3) < 0 → (∃ Pm1 : Value → MM → Prop, Runs e_X12_token [.ref 156, .int (3 : Int32), .int l1, .int (v_X12_wordOf mm l3)] (wLg mm 161 ((mm.1 156 2).toNatClampNeg) l3) Pm1 ∧ ∀ m1, Pm1 .null m1 → (Q (.int l2) m1))))) ∧ (¬ (l2 - l1) ≤ (8 : Int32) → (∃ Pm1 : Value → MM → Prop, Runs e_X12_token [.ref 156, .int (5 : Int32), .int l1, .int (v_X12_wordOf mm l3)] (wLg mm 161 ((mm.1 156 2).toNatClampNeg) l3) Pm1 ∧ ∀ m1, Pm1 .null m1 → (Q (.int l2) m1)))))) ∧ (¬ (l2 - l1) ≤ (8 : Int32) → (vp_in (mm.1 156 2) 2001 ∧ (((l2 - l1) ≤ (8 : Int32) → (∃ Pm1 : Value → MM → Prop, Runs e_X12_token [.ref 156, .int (0 : Int32), .int l1, .int (-1 : Int32)] (wLg mm 161 ((mm.1 156 2).toNatClampNeg) l3) Pm1 ∧ ∀ m1, Pm1 .null m1 → (Q (.int l2) m1))) ∧ (¬ (l2 - l1) ≤ (8 : Int32) → (∃ Pm1 : Value → MM → Prop, Runs e_X12_token [.ref 156, .int (5 : Int32), .int l1, .int (-1 : Int32)] (wLg mm 161 ((mm.1 156 2).toNatClampNeg) l3) Pm1 ∧ ∀ m1, Pm1 .null m1 → (Q (.int l2) m1)))))))))) : G e_X12_scan 12 [(0, .ref 156), (1, .int l1), (2, .int l2), (3, .long l3)] [] mm Q := by
  refine g_aload_n (pc := 12) (x := 156) dX12_scan_12 rfl ?_
  refine g_iload_n (pc := 13) (x := l2) dX12_scan_13 rfl ?_
  refine g_callV (pc := 14) (as := [.int l2]) dX12_scan_14 cw_X12_190 (by decide) rfl rfl sh_156 (Nat.le_of_ble_eq_true rfl) (rv_X12_isLetter mm l2 h.1) ?_
  have h := h.2
  rintro r_ m_ hz_ ⟨⟨p_, rfl⟩ | ⟨p_, rfl⟩, rfl⟩
  · have h := h.1 p_
    refine g_if_eq (pc := 17) (tgt := 51) dX12_scan_17 (by decide) (fun c17 => absurd c17 (by decide)) (fun _ => ?_)
    refine g_iload_n (pc := 20) (x := l2) dX12_scan_20 rfl ?_
    refine g_iload_n (pc := 21) (x := l1) dX12_scan_21 rfl ?_
    refine g_isub (pc := 22) dX12_scan_22 ?_
    refine g_bipush (pc := 23) (v := (8 : Int32)) dX12_scan_23 (by decide) ?_
    refine g_icmp_ge (pc := 25) (tgt := 45) dX12_scan_25 (by decide) (fun c25 => ?_) (fun c25 => ?_)
    · have h := h.1 c25
      refine g_iinc (pc := 45) (x := l2) (v := (l2 + (1 : Int32))) (L' := [(0, .ref 156), (1, .int l1), (2, .int (l2 + (1 : Int32))), (3, .long l3)]) dX12_scan_45 rfl rfl (Nat.le_of_ble_eq_true rfl) rfl ?_
      refine g_goto (pc := 48) (tgt := 12) dX12_scan_48 (by decide) ?_
      exact h
    · have h := h.2 c25
      refine g_lload_n (pc := 28) (x := l3) dX12_scan_28 rfl ?_
      refine g_ldc2 (pc := 29) (v := (27 : Int64)) dX12_scan_29 ct_X12_194 ?_
      refine g_lmul (pc := 32) dX12_scan_32 ?_
      refine g_aload_n (pc := 33) (x := 156) dX12_scan_33 rfl ?_
      refine g_iload_n (pc := 34) (x := l2) dX12_scan_34 rfl ?_
      refine g_callV (pc := 35) (as := [.int l2]) dX12_scan_35 cw_X12_131 (by decide) rfl rfl sh_156 (Nat.le_of_ble_eq_true rfl) (rv_X12_byteAt mm l2 h.1) ?_
      have h := h.2
      rintro r_ m_ hz_ ⟨rfl, rfl⟩
      refine g_i2l (pc := 38) dX12_scan_38 ?_
      refine g_ladd (pc := 39) dX12_scan_39 ?_
      refine g_ldc2 (pc := 40) (v := (96 : Int64)) dX12_scan_40 ct_X12_196 ?_
      refine g_lsub (pc := 43) dX12_scan_43 ?_
      refine g_lstore_n (pc := 44) (L' := [(0, .ref 156), (1, .int l1), (2, .int l2), (3, .long (((l3 * (27 : Int64)) + (v_X12_byteAt mm l2).toInt64) - (96 : Int64)))]) dX12_scan_44 (Nat.le_of_ble_eq_true rfl) rfl ?_
      refine g_iinc (pc := 45) (x := l2) (v := (l2 + (1 : Int32))) (L' := [(0, .ref 156), (1, .int l1), (2, .int (l2 + (1 : Int32))), (3, .long (((l3 * (27 : Int64)) + (v_X12_byteAt mm l2).toInt64) - (96 : Int64)))]) dX12_scan_45 rfl rfl (Nat.le_of_ble_eq_true rfl) rfl ?_
      refine g_goto (pc := 48) (tgt := 12) dX12_scan_48 (by decide) ?_
      exact h
  · have h := h.2 p_
    refine g_if_eq (pc := 17) (tgt := 51) dX12_scan_17 (by decide) (fun _ => ?_) (fun c17 => absurd c17 (by decide))
    refine g_iload_n (pc := 51) (x := l2) dX12_scan_51 rfl ?_
    refine g_iload_n (pc := 52) (x := l1) dX12_scan_52 rfl ?_
    refine g_isub (pc := 53) dX12_scan_53 ?_
    refine g_bipush (pc := 54) (v := (8 : Int32)) dX12_scan_54 (by decide) ?_
    refine g_icmp_le (pc := 56) (tgt := 63) dX12_scan_56 (by decide) (fun c56 => ?_) (fun c56 => ?_)
    · have h := h.1 c56
      refine g_lload_n (pc := 63) (x := l3) dX12_scan_63 rfl ?_
      refine g_callS (pc := 64) (as := [.long l3]) dX12_scan_64 cw_X12_198 (by decide) rfl rfl (Nat.le_of_ble_eq_true rfl) (rv_X12_wordOf mm l3) ?_
      rintro r_ m_ hz_ ⟨rfl, rfl⟩
      refine g_istore (pc := 67) (L' := [(0, .ref 156), (1, .int l1), (2, .int l2), (3, .long l3), (5, .int (v_X12_wordOf mm l3))]) dX12_scan_67 (Nat.le_of_ble_eq_true rfl) rfl ?_
      refine g_aload_n (pc := 69) (x := 156) dX12_scan_69 rfl ?_
      refine g_getR (pc := 70) (dd := 5) dX12_scan_70 fo_X12_22 sh_156 rfl ?_
      refine g_aload_n (pc := 73) (x := 156) dX12_scan_73 rfl ?_
      refine g_getI (pc := 74) dX12_scan_74 fo_X12_135 sh_156 rfl ?_
      refine g_lload_n (pc := 77) (x := l3) dX12_scan_77 rfl ?_
      refine g_lastore (pc := 78) dX12_scan_78 sh_161 h.1 ?_
      have h := h.2
      refine g_aload_n (pc := 79) (x := 156) dX12_scan_79 rfl ?_
      refine g_iload_n (pc := 80) (x := l2) dX12_scan_80 rfl ?_
      refine g_iload_n (pc := 81) (x := l1) dX12_scan_81 rfl ?_
      refine g_isub (pc := 82) dX12_scan_82 ?_
      refine g_bipush (pc := 83) (v := (8 : Int32)) dX12_scan_83 (by decide) ?_
      refine g_icmp_le (pc := 85) (tgt := 92) dX12_scan_85 (by decide) (fun c85 => ?_) (fun c85 => ?_)
      · have h := h.1 c85
        refine g_iload (pc := 92) (x := (v_X12_wordOf mm l3)) dX12_scan_92 rfl ?_
        refine g_if_lt (pc := 94) (tgt := 101) dX12_scan_94 (by decide) (fun c94 => ?_) (fun c94 => ?_)
        · have h := h.1 c94
          refine g_iconst (pc := 101) (v := (0 : Int32)) dX12_scan_101 (by decide) ?_
          refine g_iload_n (pc := 102) (x := l1) dX12_scan_102 rfl ?_
          refine g_iload (pc := 103) (x := (v_X12_wordOf mm l3)) dX12_scan_103 rfl ?_
          obtain ⟨Pm1, hRm1, h⟩ := h
          refine g_callV (pc := 105) (as := [.int (0 : Int32), .int l1, .int (v_X12_wordOf mm l3)]) dX12_scan_105 cw_X12_202 (by decide) rfl rfl sh_156 (Nat.le_of_ble_eq_true rfl) hRm1 ?_
          intro r_ m1 hz_ hp_
          obtain rfl := hz_
          have h := h m1 hp_
          refine g_iload_n (pc := 108) (x := l2) dX12_scan_108 rfl ?_
          exact g_iret (pc := 109) dX12_scan_109 rfl rfl rfl h
        · have h := h.2 c94
          refine g_iconst (pc := 97) (v := (3 : Int32)) dX12_scan_97 (by decide) ?_
          refine g_goto (pc := 98) (tgt := 102) dX12_scan_98 (by decide) ?_
          refine g_iload_n (pc := 102) (x := l1) dX12_scan_102 rfl ?_
          refine g_iload (pc := 103) (x := (v_X12_wordOf mm l3)) dX12_scan_103 rfl ?_
          obtain ⟨Pm1, hRm1, h⟩ := h
          refine g_callV (pc := 105) (as := [.int (3 : Int32), .int l1, .int (v_X12_wordOf mm l3)]) dX12_scan_105 cw_X12_202 (by decide) rfl rfl sh_156 (Nat.le_of_ble_eq_true rfl) hRm1 ?_
          intro r_ m1 hz_ hp_
          obtain rfl := hz_
          have h := h m1 hp_
          refine g_iload_n (pc := 108) (x := l2) dX12_scan_108 rfl ?_
          exact g_iret (pc := 109) dX12_scan_109 rfl rfl rfl h
      · have h := h.2 c85
        refine g_iconst (pc := 88) (v := (5 : Int32)) dX12_scan_88 (by decide) ?_
        refine g_goto (pc := 89) (tgt := 102) dX12_scan_89 (by decide) ?_
        refine g_iload_n (pc := 102) (x := l1) dX12_scan_102 rfl ?_
        refine g_iload (pc := 103) (x := (v_X12_wordOf mm l3)) dX12_scan_103 rfl ?_
        obtain ⟨Pm1, hRm1, h⟩ := h
        refine g_callV (pc := 105) (as := [.int (5 : Int32), .int l1, .int (v_X12_wordOf mm l3)]) dX12_scan_105 cw_X12_202 (by decide) rfl rfl sh_156 (Nat.le_of_ble_eq_true rfl) hRm1 ?_
        intro r_ m1 hz_ hp_
        obtain rfl := hz_
        have h := h m1 hp_
        refine g_iload_n (pc := 108) (x := l2) dX12_scan_108 rfl ?_
        exact g_iret (pc := 109) dX12_scan_109 rfl rfl rfl h
    · have h := h.2 c56
      refine g_iconst (pc := 59) (v := (-1 : Int32)) dX12_scan_59 (by decide) ?_
      refine g_goto (pc := 60) (tgt := 67) dX12_scan_60 (by decide) ?_
      refine g_istore (pc := 67) (L' := [(0, .ref 156), (1, .int l1), (2, .int l2), (3, .long l3), (5, .int (-1 : Int32))]) dX12_scan_67 (Nat.le_of_ble_eq_true rfl) rfl ?_
      refine g_aload_n (pc := 69) (x := 156) dX12_scan_69 rfl ?_
      refine g_getR (pc := 70) (dd := 5) dX12_scan_70 fo_X12_22 sh_156 rfl ?_
      refine g_aload_n (pc := 73) (x := 156) dX12_scan_73 rfl ?_
      refine g_getI (pc := 74) dX12_scan_74 fo_X12_135 sh_156 rfl ?_
      refine g_lload_n (pc := 77) (x := l3) dX12_scan_77 rfl ?_
      refine g_lastore (pc := 78) dX12_scan_78 sh_161 h.1 ?_
      have h := h.2
      refine g_aload_n (pc := 79) (x := 156) dX12_scan_79 rfl ?_
      refine g_iload_n (pc := 80) (x := l2) dX12_scan_80 rfl ?_
      refine g_iload_n (pc := 81) (x := l1) dX12_scan_81 rfl ?_
      refine g_isub (pc := 82) dX12_scan_82 ?_
      refine g_bipush (pc := 83) (v := (8 : Int32)) dX12_scan_83 (by decide) ?_
      refine g_icmp_le (pc := 85) (tgt := 92) dX12_scan_85 (by decide) (fun c85 => ?_) (fun c85 => ?_)
      · have h := h.1 c85
        refine g_iload (pc := 92) (x := (-1 : Int32)) dX12_scan_92 rfl ?_
        refine g_if_lt (pc := 94) (tgt := 101) dX12_scan_94 (by decide) (fun _ => ?_) (fun c94 => absurd c94 (by decide))
        refine g_iconst (pc := 101) (v := (0 : Int32)) dX12_scan_101 (by decide) ?_
        refine g_iload_n (pc := 102) (x := l1) dX12_scan_102 rfl ?_
        refine g_iload (pc := 103) (x := (-1 : Int32)) dX12_scan_103 rfl ?_
        obtain ⟨Pm1, hRm1, h⟩ := h
        refine g_callV (pc := 105) (as := [.int (0 : Int32), .int l1, .int (-1 : Int32)]) dX12_scan_105 cw_X12_202 (by decide) rfl rfl sh_156 (Nat.le_of_ble_eq_true rfl) hRm1 ?_
        intro r_ m1 hz_ hp_
        obtain rfl := hz_
        have h := h m1 hp_
        refine g_iload_n (pc := 108) (x := l2) dX12_scan_108 rfl ?_
        exact g_iret (pc := 109) dX12_scan_109 rfl rfl rfl h
      · have h := h.2 c85
        refine g_iconst (pc := 88) (v := (5 : Int32)) dX12_scan_88 (by decide) ?_
        refine g_goto (pc := 89) (tgt := 102) dX12_scan_89 (by decide) ?_
        refine g_iload_n (pc := 102) (x := l1) dX12_scan_102 rfl ?_
        refine g_iload (pc := 103) (x := (-1 : Int32)) dX12_scan_103 rfl ?_
        obtain ⟨Pm1, hRm1, h⟩ := h
        refine g_callV (pc := 105) (as := [.int (5 : Int32), .int l1, .int (-1 : Int32)]) dX12_scan_105 cw_X12_202 (by decide) rfl rfl sh_156 (Nat.le_of_ble_eq_true rfl) hRm1 ?_
        intro r_ m1 hz_ hp_
        obtain rfl := hz_
        have h := h m1 hp_
        refine g_iload_n (pc := 108) (x := l2) dX12_scan_108 rfl ?_
        exact g_iret (pc := 109) dX12_scan_109 rfl rfl rfl h
theorem b_X12_scan_120 (mm : MM) (Q : Value → MM → Prop) (l1 : Int32) (l2 : Int32) (l3 : Int32) (h : o_X12_isDigit mm l2 ∧ ((p_X12_isDigit mm l2 → (((4 : Int32) ≤ (l2 - l1) → (G e_X12_scan 120 [(0, .ref 156), (1, .int l1), (2, .int (l2 + (1 : Int32))), (3, .int l3)] [] mm Q)) ∧ (¬ (4 : Int32) ≤ (l2 - l1) → (o_X12_byteAt mm l2 ∧ (G e_X12_scan 120 [(0, .ref 156), (1, .int l1), (2, .int (l2 + (1 : Int32))), (3, .int ((((10 : Int32) * l3) + (v_X12_byteAt mm l2)) - (48 : Int32)))] [] mm Q))))) ∧ (¬ p_X12_isDigit mm l2 → (((l2 - l1) ≤ (4 : Int32) → (∃ Pm1 : Value → MM → Prop, Runs e_X12_token [.ref 156, .int (1 : Int32), .int l1, .int l3] mm Pm1 ∧ ∀ m1, Pm1 .null m1 → (Q (.int l2) m1))) ∧ (¬ (l2 - l1) ≤ (4 : Int32) → (∃ Pm1 : Value → MM → Prop, Runs e_X12_token [.ref 156, .int (5 : Int32), .int l1, .int l3] mm Pm1 ∧ ∀ m1, Pm1 .null m1 → (Q (.int l2) m1))))))) : G e_X12_scan 120 [(0, .ref 156), (1, .int l1), (2, .int l2), (3, .int l3)] [] mm Q := by
  refine g_aload_n (pc := 120) (x := 156) dX12_scan_120 rfl ?_
  refine g_iload_n (pc := 121) (x := l2) dX12_scan_121 rfl ?_
  refine g_callV (pc := 122) (as := [.int l2]) dX12_scan_122 cw_X12_206 (by decide) rfl rfl sh_156 (Nat.le_of_ble_eq_true rfl) (rv_X12_isDigit mm l2 h.1) ?_
  have h := h.2
  rintro r_ m_ hz_ ⟨⟨p_, rfl⟩ | ⟨p_, rfl⟩, rfl⟩
  · have h := h.1 p_
    refine g_if_eq (pc := 125) (tgt := 155) dX12_scan_125 (by decide) (fun c125 => absurd c125 (by decide)) (fun _ => ?_)
    refine g_iload_n (pc := 128) (x := l2) dX12_scan_128 rfl ?_
    refine g_iload_n (pc := 129) (x := l1) dX12_scan_129 rfl ?_
    refine g_isub (pc := 130) dX12_scan_130 ?_
    refine g_iconst (pc := 131) (v := (4 : Int32)) dX12_scan_131 (by decide) ?_
    refine g_icmp_ge (pc := 132) (tgt := 149) dX12_scan_132 (by decide) (fun c132 => ?_) (fun c132 => ?_)
    · have h := h.1 c132
      refine g_iinc (pc := 149) (x := l2) (v := (l2 + (1 : Int32))) (L' := [(0, .ref 156), (1, .int l1), (2, .int (l2 + (1 : Int32))), (3, .int l3)]) dX12_scan_149 rfl rfl (Nat.le_of_ble_eq_true rfl) rfl ?_
      refine g_goto (pc := 152) (tgt := 120) dX12_scan_152 (by decide) ?_
      exact h
    · have h := h.2 c132
      refine g_bipush (pc := 135) (v := (10 : Int32)) dX12_scan_135 (by decide) ?_
      refine g_iload_n (pc := 137) (x := l3) dX12_scan_137 rfl ?_
      refine g_imul (pc := 138) dX12_scan_138 ?_
      refine g_aload_n (pc := 139) (x := 156) dX12_scan_139 rfl ?_
      refine g_iload_n (pc := 140) (x := l2) dX12_scan_140 rfl ?_
      refine g_callV (pc := 141) (as := [.int l2]) dX12_scan_141 cw_X12_131 (by decide) rfl rfl sh_156 (Nat.le_of_ble_eq_true rfl) (rv_X12_byteAt mm l2 h.1) ?_
      have h := h.2
      rintro r_ m_ hz_ ⟨rfl, rfl⟩
      refine g_iadd (pc := 144) dX12_scan_144 ?_
      refine g_bipush (pc := 145) (v := (48 : Int32)) dX12_scan_145 (by decide) ?_
      refine g_isub (pc := 147) dX12_scan_147 ?_
      refine g_istore_n (pc := 148) (L' := [(0, .ref 156), (1, .int l1), (2, .int l2), (3, .int ((((10 : Int32) * l3) + (v_X12_byteAt mm l2)) - (48 : Int32)))]) dX12_scan_148 (Nat.le_of_ble_eq_true rfl) rfl ?_
      refine g_iinc (pc := 149) (x := l2) (v := (l2 + (1 : Int32))) (L' := [(0, .ref 156), (1, .int l1), (2, .int (l2 + (1 : Int32))), (3, .int ((((10 : Int32) * l3) + (v_X12_byteAt mm l2)) - (48 : Int32)))]) dX12_scan_149 rfl rfl (Nat.le_of_ble_eq_true rfl) rfl ?_
      refine g_goto (pc := 152) (tgt := 120) dX12_scan_152 (by decide) ?_
      exact h
  · have h := h.2 p_
    refine g_if_eq (pc := 125) (tgt := 155) dX12_scan_125 (by decide) (fun _ => ?_) (fun c125 => absurd c125 (by decide))
    refine g_aload_n (pc := 155) (x := 156) dX12_scan_155 rfl ?_
    refine g_iload_n (pc := 156) (x := l2) dX12_scan_156 rfl ?_
    refine g_iload_n (pc := 157) (x := l1) dX12_scan_157 rfl ?_
    refine g_isub (pc := 158) dX12_scan_158 ?_
    refine g_iconst (pc := 159) (v := (4 : Int32)) dX12_scan_159 (by decide) ?_
    refine g_icmp_le (pc := 160) (tgt := 167) dX12_scan_160 (by decide) (fun c160 => ?_) (fun c160 => ?_)
    · have h := h.1 c160
      refine g_iconst (pc := 167) (v := (1 : Int32)) dX12_scan_167 (by decide) ?_
      refine g_iload_n (pc := 168) (x := l1) dX12_scan_168 rfl ?_
      refine g_iload_n (pc := 169) (x := l3) dX12_scan_169 rfl ?_
      obtain ⟨Pm1, hRm1, h⟩ := h
      refine g_callV (pc := 170) (as := [.int (1 : Int32), .int l1, .int l3]) dX12_scan_170 cw_X12_202 (by decide) rfl rfl sh_156 (Nat.le_of_ble_eq_true rfl) hRm1 ?_
      intro r_ m1 hz_ hp_
      obtain rfl := hz_
      have h := h m1 hp_
      refine g_iload_n (pc := 173) (x := l2) dX12_scan_173 rfl ?_
      exact g_iret (pc := 174) dX12_scan_174 rfl rfl rfl h
    · have h := h.2 c160
      refine g_iconst (pc := 163) (v := (5 : Int32)) dX12_scan_163 (by decide) ?_
      refine g_goto (pc := 164) (tgt := 168) dX12_scan_164 (by decide) ?_
      refine g_iload_n (pc := 168) (x := l1) dX12_scan_168 rfl ?_
      refine g_iload_n (pc := 169) (x := l3) dX12_scan_169 rfl ?_
      obtain ⟨Pm1, hRm1, h⟩ := h
      refine g_callV (pc := 170) (as := [.int (5 : Int32), .int l1, .int l3]) dX12_scan_170 cw_X12_202 (by decide) rfl rfl sh_156 (Nat.le_of_ble_eq_true rfl) hRm1 ?_
      intro r_ m1 hz_ hp_
      obtain rfl := hz_
      have h := h m1 hp_
      refine g_iload_n (pc := 173) (x := l2) dX12_scan_173 rfl ?_
      exact g_iret (pc := 174) dX12_scan_174 rfl rfl rfl h
theorem dX12_scanAll_0 : decode cX12_scanAll 0 = .ok (.aload_n 0, 1) := by decide +kernel
theorem dX12_scanAll_1 : decode cX12_scanAll 1 = .ok (.iconst 0, 1) := by decide +kernel
theorem dX12_scanAll_2 : decode cX12_scanAll 2 = .ok (.putfield 135, 3) := by decide +kernel
theorem dX12_scanAll_5 : decode cX12_scanAll 5 = .ok (.iconst 0, 1) := by decide +kernel
theorem dX12_scanAll_6 : decode cX12_scanAll 6 = .ok (.istore_n 1, 1) := by decide +kernel
theorem dX12_scanAll_7 : decode cX12_scanAll 7 = .ok (.iconst 1, 1) := by decide +kernel
theorem dX12_scanAll_8 : decode cX12_scanAll 8 = .ok (.istore_n 2, 1) := by decide +kernel
theorem dX12_scanAll_9 : decode cX12_scanAll 9 = .ok (.iload_n 1, 1) := by decide +kernel
theorem dX12_scanAll_10 : decode cX12_scanAll 10 = .ok (.aload_n 0, 1) := by decide +kernel
theorem dX12_scanAll_11 : decode cX12_scanAll 11 = .ok (.getfield 125, 3) := by decide +kernel
theorem dX12_scanAll_14 : decode cX12_scanAll 14 = .ok (.if_icmp .ge 73, 3) := by decide +kernel
theorem dX12_scanAll_17 : decode cX12_scanAll 17 = .ok (.iload_n 2, 1) := by decide +kernel
theorem dX12_scanAll_18 : decode cX12_scanAll 18 = .ok (.ifCond .eq 69, 3) := by decide +kernel
theorem dX12_scanAll_21 : decode cX12_scanAll 21 = .ok (.aload_n 0, 1) := by decide +kernel
theorem dX12_scanAll_22 : decode cX12_scanAll 22 = .ok (.iload_n 1, 1) := by decide +kernel
theorem dX12_scanAll_23 : decode cX12_scanAll 23 = .ok (.invokevirtual 131, 3) := by decide +kernel
theorem dX12_scanAll_26 : decode cX12_scanAll 26 = .ok (.istore_n 3, 1) := by decide +kernel
theorem dX12_scanAll_27 : decode cX12_scanAll 27 = .ok (.iload_n 3, 1) := by decide +kernel
theorem dX12_scanAll_28 : decode cX12_scanAll 28 = .ok (.bipush 32, 2) := by decide +kernel
theorem dX12_scanAll_30 : decode cX12_scanAll 30 = .ok (.if_icmp .eq 21, 3) := by decide +kernel
theorem dX12_scanAll_33 : decode cX12_scanAll 33 = .ok (.iload_n 3, 1) := by decide +kernel
theorem dX12_scanAll_34 : decode cX12_scanAll 34 = .ok (.bipush 9, 2) := by decide +kernel
theorem dX12_scanAll_36 : decode cX12_scanAll 36 = .ok (.if_icmp .eq 15, 3) := by decide +kernel
theorem dX12_scanAll_39 : decode cX12_scanAll 39 = .ok (.iload_n 3, 1) := by decide +kernel
theorem dX12_scanAll_40 : decode cX12_scanAll 40 = .ok (.bipush 10, 2) := by decide +kernel
theorem dX12_scanAll_42 : decode cX12_scanAll 42 = .ok (.if_icmp .eq 9, 3) := by decide +kernel
theorem dX12_scanAll_45 : decode cX12_scanAll 45 = .ok (.iload_n 3, 1) := by decide +kernel
theorem dX12_scanAll_46 : decode cX12_scanAll 46 = .ok (.bipush 13, 2) := by decide +kernel
theorem dX12_scanAll_48 : decode cX12_scanAll 48 = .ok (.if_icmp .ne 9, 3) := by decide +kernel
theorem dX12_scanAll_51 : decode cX12_scanAll 51 = .ok (.iinc 1 1, 3) := by decide +kernel
theorem dX12_scanAll_54 : decode cX12_scanAll 54 = .ok (.goto (-45), 3) := by decide +kernel
theorem dX12_scanAll_57 : decode cX12_scanAll 57 = .ok (.aload_n 0, 1) := by decide +kernel
theorem dX12_scanAll_58 : decode cX12_scanAll 58 = .ok (.iload_n 1, 1) := by decide +kernel
theorem dX12_scanAll_59 : decode cX12_scanAll 59 = .ok (.invokevirtual 212, 3) := by decide +kernel
theorem dX12_scanAll_62 : decode cX12_scanAll 62 = .ok (.istore_n 1, 1) := by decide +kernel
theorem dX12_scanAll_63 : decode cX12_scanAll 63 = .ok (.aload_n 0, 1) := by decide +kernel
theorem dX12_scanAll_64 : decode cX12_scanAll 64 = .ok (.getfield 13, 3) := by decide +kernel
theorem dX12_scanAll_67 : decode cX12_scanAll 67 = .ok (.aload_n 0, 1) := by decide +kernel
theorem dX12_scanAll_68 : decode cX12_scanAll 68 = .ok (.getfield 135, 3) := by decide +kernel
theorem dX12_scanAll_71 : decode cX12_scanAll 71 = .ok (.iconst 1, 1) := by decide +kernel
theorem dX12_scanAll_72 : decode cX12_scanAll 72 = .ok (.isub, 1) := by decide +kernel
theorem dX12_scanAll_73 : decode cX12_scanAll 73 = .ok (.iaload, 1) := by decide +kernel
theorem dX12_scanAll_74 : decode cX12_scanAll 74 = .ok (.iconst 5, 1) := by decide +kernel
theorem dX12_scanAll_75 : decode cX12_scanAll 75 = .ok (.if_icmp .eq 7, 3) := by decide +kernel
theorem dX12_scanAll_78 : decode cX12_scanAll 78 = .ok (.iconst 1, 1) := by decide +kernel
theorem dX12_scanAll_79 : decode cX12_scanAll 79 = .ok (.goto 4, 3) := by decide +kernel
theorem dX12_scanAll_82 : decode cX12_scanAll 82 = .ok (.iconst 0, 1) := by decide +kernel
theorem dX12_scanAll_83 : decode cX12_scanAll 83 = .ok (.istore_n 2, 1) := by decide +kernel
theorem dX12_scanAll_84 : decode cX12_scanAll 84 = .ok (.goto (-75), 3) := by decide +kernel
theorem dX12_scanAll_87 : decode cX12_scanAll 87 = .ok (.iload_n 2, 1) := by decide +kernel
theorem dX12_scanAll_88 : decode cX12_scanAll 88 = .ok (.ifCond .eq 13, 3) := by decide +kernel
theorem dX12_scanAll_91 : decode cX12_scanAll 91 = .ok (.aload_n 0, 1) := by decide +kernel
theorem dX12_scanAll_92 : decode cX12_scanAll 92 = .ok (.iconst 4, 1) := by decide +kernel
theorem dX12_scanAll_93 : decode cX12_scanAll 93 = .ok (.aload_n 0, 1) := by decide +kernel
theorem dX12_scanAll_94 : decode cX12_scanAll 94 = .ok (.getfield 125, 3) := by decide +kernel
theorem dX12_scanAll_97 : decode cX12_scanAll 97 = .ok (.iconst 0, 1) := by decide +kernel
theorem dX12_scanAll_98 : decode cX12_scanAll 98 = .ok (.invokevirtual 202, 3) := by decide +kernel
theorem dX12_scanAll_101 : decode cX12_scanAll 101 = .ok (.return_, 1) := by decide +kernel
theorem b_X12_scanAll (mm : MM) (Q : Value → MM → Prop) (h : G e_X12_scanAll 9 [(0, .ref 156), (1, .int (0 : Int32)), (2, .int (1 : Int32))] [] (wI mm 156 2 (0 : Int32)) Q) : Runs e_X12_scanAll [.ref 156] mm Q := by
  refine runs_of_G (L := [(0, .ref 156)]) pl_X12 (Nat.le_of_ble_eq_true rfl) rfl ?_
  refine g_aload_n (pc := 0) (x := 156) dX12_scanAll_0 rfl ?_
  refine g_iconst (pc := 1) (v := (0 : Int32)) dX12_scanAll_1 (by decide) ?_
  refine g_putI (pc := 2) dX12_scanAll_2 fo_X12_135 sh_156 rfl rfl rfl ?_
  refine g_iconst (pc := 5) (v := (0 : Int32)) dX12_scanAll_5 (by decide) ?_
  refine g_istore_n (pc := 6) (L' := [(0, .ref 156), (1, .int (0 : Int32))]) dX12_scanAll_6 (Nat.le_of_ble_eq_true rfl) rfl ?_
  refine g_iconst (pc := 7) (v := (1 : Int32)) dX12_scanAll_7 (by decide) ?_
  refine g_istore_n (pc := 8) (L' := [(0, .ref 156), (1, .int (0 : Int32)), (2, .int (1 : Int32))]) dX12_scanAll_8 (Nat.le_of_ble_eq_true rfl) rfl ?_
  exact h
theorem b_X12_scanAll_9 (mm : MM) (Q : Value → MM → Prop) (l1 : Int32) (l2 : Int32) (h : ((mm.1 156 0) ≤ l1 → ((l2 = 0 → (Q .null mm)) ∧ (¬ l2 = 0 → (∃ Pm1 : Value → MM → Prop, Runs e_X12_token [.ref 156, .int (4 : Int32), .int (mm.1 156 0), .int (0 : Int32)] mm Pm1 ∧ ∀ m1, Pm1 .null m1 → (Q .null m1))))) ∧ (¬ (mm.1 156 0) ≤ l1 → ((l2 = 0 → ((l2 = 0 → (Q .null mm)) ∧ (¬ l2 = 0 → (∃ Pm1 : Value → MM → Prop, Runs e_X12_token [.ref 156, .int (4 : Int32), .int (mm.1 156 0), .int (0 : Int32)] mm Pm1 ∧ ∀ m1, Pm1 .null m1 → (Q .null m1))))) ∧ (¬ l2 = 0 → (o_X12_byteAt mm l1 ∧ (((v_X12_byteAt mm l1) = (32 : Int32) → (G e_X12_scanAll 9 [(0, .ref 156), (1, .int (l1 + (1 : Int32))), (2, .int l2)] [] mm Q)) ∧ (¬ (v_X12_byteAt mm l1) = (32 : Int32) → (((v_X12_byteAt mm l1) = (9 : Int32) → (G e_X12_scanAll 9 [(0, .ref 156), (1, .int (l1 + (1 : Int32))), (2, .int l2)] [] mm Q)) ∧ (¬ (v_X12_byteAt mm l1) = (9 : Int32) → (((v_X12_byteAt mm l1) = (10 : Int32) → (G e_X12_scanAll 9 [(0, .ref 156), (1, .int (l1 + (1 : Int32))), (2, .int l2)] [] mm Q)) ∧ (¬ (v_X12_byteAt mm l1) = (10 : Int32) → ((¬ (v_X12_byteAt mm l1) = (13 : Int32) → (∃ Pm1 : Value → MM → Prop, Runs e_X12_scan [.ref 156, .int l1] mm Pm1 ∧ ∀ (r1 : Int32) (m1 : MM), Pm1 (.int r1) m1 → (vp_in ((m1.1 156 2) - (1 : Int32)) 2001 ∧ (((m1.1 158 ((m1.1 156 2) - (1 : Int32)).toNatClampNeg) = (5 : Int32) → (G e_X12_scanAll 9 [(0, .ref 156), (1, .int r1), (2, .int (0 : Int32))] [] m1 Q)) ∧ (¬ (m1.1 158 ((m1.1 156 2) - (1 : Int32)).toNatClampNeg) = (5 : Int32) → (G e_X12_scanAll 9 [(0, .ref 156), (1, .int r1), (2, .int (1 : Int32))] [] m1 Q)))))) ∧ ((v_X12_byteAt mm l1) = (13 : Int32) → (G e_X12_scanAll 9 [(0, .ref 156), (1, .int (l1 + (1 : Int32))), (2, .int l2)] [] mm Q)))))))))))))) : G e_X12_scanAll 9 [(0, .ref 156), (1, .int l1), (2, .int l2)] [] mm Q := by
  refine g_iload_n (pc := 9) (x := l1) dX12_scanAll_9 rfl ?_
  refine g_aload_n (pc := 10) (x := 156) dX12_scanAll_10 rfl ?_
  refine g_getI (pc := 11) dX12_scanAll_11 fo_X12_125 sh_156 rfl ?_
  refine g_icmp_ge (pc := 14) (tgt := 87) dX12_scanAll_14 (by decide) (fun c14 => ?_) (fun c14 => ?_)
  · have h := h.1 c14
    refine g_iload_n (pc := 87) (x := l2) dX12_scanAll_87 rfl ?_
    refine g_if_eq (pc := 88) (tgt := 101) dX12_scanAll_88 (by decide) (fun c88 => ?_) (fun c88 => ?_)
    · have h := h.1 c88
      exact g_vret (pc := 101) dX12_scanAll_101 rfl rfl h
    · have h := h.2 c88
      refine g_aload_n (pc := 91) (x := 156) dX12_scanAll_91 rfl ?_
      refine g_iconst (pc := 92) (v := (4 : Int32)) dX12_scanAll_92 (by decide) ?_
      refine g_aload_n (pc := 93) (x := 156) dX12_scanAll_93 rfl ?_
      refine g_getI (pc := 94) dX12_scanAll_94 fo_X12_125 sh_156 rfl ?_
      refine g_iconst (pc := 97) (v := (0 : Int32)) dX12_scanAll_97 (by decide) ?_
      obtain ⟨Pm1, hRm1, h⟩ := h
      refine g_callV (pc := 98) (as := [.int (4 : Int32), .int (mm.1 156 0), .int (0 : Int32)]) dX12_scanAll_98 cw_X12_202 (by decide) rfl rfl sh_156 (Nat.le_of_ble_eq_true rfl) hRm1 ?_
      intro r_ m1 hz_ hp_
      obtain rfl := hz_
      have h := h m1 hp_
      exact g_vret (pc := 101) dX12_scanAll_101 rfl rfl h
  · have h := h.2 c14
    refine g_iload_n (pc := 17) (x := l2) dX12_scanAll_17 rfl ?_
    refine g_if_eq (pc := 18) (tgt := 87) dX12_scanAll_18 (by decide) (fun c18 => ?_) (fun c18 => ?_)
    · have h := h.1 c18
      refine g_iload_n (pc := 87) (x := l2) dX12_scanAll_87 rfl ?_
      refine g_if_eq (pc := 88) (tgt := 101) dX12_scanAll_88 (by decide) (fun c88 => ?_) (fun c88 => ?_)
      · have h := h.1 c88
        exact g_vret (pc := 101) dX12_scanAll_101 rfl rfl h
      · have h := h.2 c88
        refine g_aload_n (pc := 91) (x := 156) dX12_scanAll_91 rfl ?_
        refine g_iconst (pc := 92) (v := (4 : Int32)) dX12_scanAll_92 (by decide) ?_
        refine g_aload_n (pc := 93) (x := 156) dX12_scanAll_93 rfl ?_
        refine g_getI (pc := 94) dX12_scanAll_94 fo_X12_125 sh_156 rfl ?_
        refine g_iconst (pc := 97) (v := (0 : Int32)) dX12_scanAll_97 (by decide) ?_
        obtain ⟨Pm1, hRm1, h⟩ := h
        refine g_callV (pc := 98) (as := [.int (4 : Int32), .int (mm.1 156 0), .int (0 : Int32)]) dX12_scanAll_98 cw_X12_202 (by decide) rfl rfl sh_156 (Nat.le_of_ble_eq_true rfl) hRm1 ?_
        intro r_ m1 hz_ hp_
        obtain rfl := hz_
        have h := h m1 hp_
        exact g_vret (pc := 101) dX12_scanAll_101 rfl rfl h
    · have h := h.2 c18
      refine g_aload_n (pc := 21) (x := 156) dX12_scanAll_21 rfl ?_
      refine g_iload_n (pc := 22) (x := l1) dX12_scanAll_22 rfl ?_
      refine g_callV (pc := 23) (as := [.int l1]) dX12_scanAll_23 cw_X12_131 (by decide) rfl rfl sh_156 (Nat.le_of_ble_eq_true rfl) (rv_X12_byteAt mm l1 h.1) ?_
      have h := h.2
      rintro r_ m_ hz_ ⟨rfl, rfl⟩
      refine g_istore_n (pc := 26) (L' := [(0, .ref 156), (1, .int l1), (2, .int l2), (3, .int (v_X12_byteAt mm l1))]) dX12_scanAll_26 (Nat.le_of_ble_eq_true rfl) rfl ?_
      refine g_iload_n (pc := 27) (x := (v_X12_byteAt mm l1)) dX12_scanAll_27 rfl ?_
      refine g_bipush (pc := 28) (v := (32 : Int32)) dX12_scanAll_28 (by decide) ?_
      refine g_icmp_eq (pc := 30) (tgt := 51) dX12_scanAll_30 (by decide) (fun c30 => ?_) (fun c30 => ?_)
      · have h := h.1 c30
        refine g_iinc (pc := 51) (x := l1) (v := (l1 + (1 : Int32))) (L' := [(0, .ref 156), (1, .int (l1 + (1 : Int32))), (2, .int l2), (3, .int (v_X12_byteAt mm l1))]) dX12_scanAll_51 rfl rfl (Nat.le_of_ble_eq_true rfl) rfl ?_
        refine g_goto (pc := 54) (tgt := 9) dX12_scanAll_54 (by decide) ?_
        refine g_sub (L' := [(0, .ref 156), (1, .int (l1 + (1 : Int32))), (2, .int l2)]) [0, 1, 2] rfl ?_
        exact h
      · have h := h.2 c30
        refine g_iload_n (pc := 33) (x := (v_X12_byteAt mm l1)) dX12_scanAll_33 rfl ?_
        refine g_bipush (pc := 34) (v := (9 : Int32)) dX12_scanAll_34 (by decide) ?_
        refine g_icmp_eq (pc := 36) (tgt := 51) dX12_scanAll_36 (by decide) (fun c36 => ?_) (fun c36 => ?_)
        · have h := h.1 c36
          refine g_iinc (pc := 51) (x := l1) (v := (l1 + (1 : Int32))) (L' := [(0, .ref 156), (1, .int (l1 + (1 : Int32))), (2, .int l2), (3, .int (v_X12_byteAt mm l1))]) dX12_scanAll_51 rfl rfl (Nat.le_of_ble_eq_true rfl) rfl ?_
          refine g_goto (pc := 54) (tgt := 9) dX12_scanAll_54 (by decide) ?_
          refine g_sub (L' := [(0, .ref 156), (1, .int (l1 + (1 : Int32))), (2, .int l2)]) [0, 1, 2] rfl ?_
          exact h
        · have h := h.2 c36
          refine g_iload_n (pc := 39) (x := (v_X12_byteAt mm l1)) dX12_scanAll_39 rfl ?_
          refine g_bipush (pc := 40) (v := (10 : Int32)) dX12_scanAll_40 (by decide) ?_
          refine g_icmp_eq (pc := 42) (tgt := 51) dX12_scanAll_42 (by decide) (fun c42 => ?_) (fun c42 => ?_)
          · have h := h.1 c42
            refine g_iinc (pc := 51) (x := l1) (v := (l1 + (1 : Int32))) (L' := [(0, .ref 156), (1, .int (l1 + (1 : Int32))), (2, .int l2), (3, .int (v_X12_byteAt mm l1))]) dX12_scanAll_51 rfl rfl (Nat.le_of_ble_eq_true rfl) rfl ?_
            refine g_goto (pc := 54) (tgt := 9) dX12_scanAll_54 (by decide) ?_
            refine g_sub (L' := [(0, .ref 156), (1, .int (l1 + (1 : Int32))), (2, .int l2)]) [0, 1, 2] rfl ?_
            exact h
          · have h := h.2 c42
            refine g_iload_n (pc := 45) (x := (v_X12_byteAt mm l1)) dX12_scanAll_45 rfl ?_
            refine g_bipush (pc := 46) (v := (13 : Int32)) dX12_scanAll_46 (by decide) ?_
            refine g_icmp_ne (pc := 48) (tgt := 57) dX12_scanAll_48 (by decide) (fun c48 => ?_) (fun c48 => ?_)
            · have h := h.1 c48
              refine g_aload_n (pc := 57) (x := 156) dX12_scanAll_57 rfl ?_
              refine g_iload_n (pc := 58) (x := l1) dX12_scanAll_58 rfl ?_
              obtain ⟨Pm1, hRm1, h⟩ := h
              refine g_callV (pc := 59) (as := [.int l1]) dX12_scanAll_59 cw_X12_212 (by decide) rfl rfl sh_156 (Nat.le_of_ble_eq_true rfl) hRm1 ?_
              intro r_ m1 hz_ hp_
              obtain ⟨r1, rfl⟩ := hz_
              have h := h r1 m1 hp_
              refine g_istore_n (pc := 62) (L' := [(0, .ref 156), (1, .int r1), (2, .int l2), (3, .int (v_X12_byteAt mm l1))]) dX12_scanAll_62 (Nat.le_of_ble_eq_true rfl) rfl ?_
              refine g_aload_n (pc := 63) (x := 156) dX12_scanAll_63 rfl ?_
              refine g_getR (pc := 64) (dd := 2) dX12_scanAll_64 fo_X12_13 sh_156 rfl ?_
              refine g_aload_n (pc := 67) (x := 156) dX12_scanAll_67 rfl ?_
              refine g_getI (pc := 68) dX12_scanAll_68 fo_X12_135 sh_156 rfl ?_
              refine g_iconst (pc := 71) (v := (1 : Int32)) dX12_scanAll_71 (by decide) ?_
              refine g_isub (pc := 72) dX12_scanAll_72 ?_
              refine g_iaload (pc := 73) dX12_scanAll_73 sh_158 h.1 ?_
              have h := h.2
              refine g_iconst (pc := 74) (v := (5 : Int32)) dX12_scanAll_74 (by decide) ?_
              refine g_icmp_eq (pc := 75) (tgt := 82) dX12_scanAll_75 (by decide) (fun c75 => ?_) (fun c75 => ?_)
              · have h := h.1 c75
                refine g_iconst (pc := 82) (v := (0 : Int32)) dX12_scanAll_82 (by decide) ?_
                refine g_istore_n (pc := 83) (L' := [(0, .ref 156), (1, .int r1), (2, .int (0 : Int32)), (3, .int (v_X12_byteAt mm l1))]) dX12_scanAll_83 (Nat.le_of_ble_eq_true rfl) rfl ?_
                refine g_goto (pc := 84) (tgt := 9) dX12_scanAll_84 (by decide) ?_
                refine g_sub (L' := [(0, .ref 156), (1, .int r1), (2, .int (0 : Int32))]) [0, 1, 2] rfl ?_
                exact h
              · have h := h.2 c75
                refine g_iconst (pc := 78) (v := (1 : Int32)) dX12_scanAll_78 (by decide) ?_
                refine g_goto (pc := 79) (tgt := 83) dX12_scanAll_79 (by decide) ?_
                refine g_istore_n (pc := 83) (L' := [(0, .ref 156), (1, .int r1), (2, .int (1 : Int32)), (3, .int (v_X12_byteAt mm l1))]) dX12_scanAll_83 (Nat.le_of_ble_eq_true rfl) rfl ?_
                refine g_goto (pc := 84) (tgt := 9) dX12_scanAll_84 (by decide) ?_
                refine g_sub (L' := [(0, .ref 156), (1, .int r1), (2, .int (1 : Int32))]) [0, 1, 2] rfl ?_
                exact h
            · have h := h.2 c48
              refine g_iinc (pc := 51) (x := l1) (v := (l1 + (1 : Int32))) (L' := [(0, .ref 156), (1, .int (l1 + (1 : Int32))), (2, .int l2), (3, .int (v_X12_byteAt mm l1))]) dX12_scanAll_51 rfl rfl (Nat.le_of_ble_eq_true rfl) rfl ?_
              refine g_goto (pc := 54) (tgt := 9) dX12_scanAll_54 (by decide) ?_
              refine g_sub (L' := [(0, .ref 156), (1, .int (l1 + (1 : Int32))), (2, .int l2)]) [0, 1, 2] rfl ?_
              exact h
theorem dX12_wrong_0 : decode cX12_wrong 0 = .ok (.aload_n 0, 1) := by decide +kernel
theorem dX12_wrong_1 : decode cX12_wrong 1 = .ok (.iload_n 1, 1) := by decide +kernel
theorem dX12_wrong_2 : decode cX12_wrong 2 = .ok (.putfield 215, 3) := by decide +kernel
theorem dX12_wrong_5 : decode cX12_wrong 5 = .ok (.aload_n 0, 1) := by decide +kernel
theorem dX12_wrong_6 : decode cX12_wrong 6 = .ok (.aload_n 0, 1) := by decide +kernel
theorem dX12_wrong_7 : decode cX12_wrong 7 = .ok (.getfield 16, 3) := by decide +kernel
theorem dX12_wrong_10 : decode cX12_wrong 10 = .ok (.aload_n 0, 1) := by decide +kernel
theorem dX12_wrong_11 : decode cX12_wrong 11 = .ok (.getfield 218, 3) := by decide +kernel
theorem dX12_wrong_14 : decode cX12_wrong 14 = .ok (.iaload, 1) := by decide +kernel
theorem dX12_wrong_15 : decode cX12_wrong 15 = .ok (.putfield 26, 3) := by decide +kernel
theorem dX12_wrong_18 : decode cX12_wrong 18 = .ok (.iconst 0, 1) := by decide +kernel
theorem dX12_wrong_19 : decode cX12_wrong 19 = .ok (.ireturn, 1) := by decide +kernel
theorem b_X12_wrong (mm : MM) (Q : Value → MM → Prop) (a1 : Int32) (h : vp_in ((wI mm 156 8 a1).1 156 7) 2001 ∧ (Q (.int (0 : Int32)) (wI (wI mm 156 8 a1) 156 9 ((wI mm 156 8 a1).1 159 ((wI mm 156 8 a1).1 156 7).toNatClampNeg)))) : Runs e_X12_wrong [.ref 156, .int a1] mm Q := by
  refine runs_of_G (L := [(0, .ref 156), (1, .int a1)]) pl_X12 (Nat.le_of_ble_eq_true rfl) rfl ?_
  refine g_aload_n (pc := 0) (x := 156) dX12_wrong_0 rfl ?_
  refine g_iload_n (pc := 1) (x := a1) dX12_wrong_1 rfl ?_
  refine g_putI (pc := 2) dX12_wrong_2 fo_X12_215 sh_156 rfl rfl rfl ?_
  refine g_aload_n (pc := 5) (x := 156) dX12_wrong_5 rfl ?_
  refine g_aload_n (pc := 6) (x := 156) dX12_wrong_6 rfl ?_
  refine g_getR (pc := 7) (dd := 3) dX12_wrong_7 fo_X12_16 sh_156 rfl ?_
  refine g_aload_n (pc := 10) (x := 156) dX12_wrong_10 rfl ?_
  refine g_getI (pc := 11) dX12_wrong_11 fo_X12_218 sh_156 rfl ?_
  refine g_iaload (pc := 14) dX12_wrong_14 sh_159 h.1 ?_
  have h := h.2
  refine g_putI (pc := 15) dX12_wrong_15 fo_X12_26 sh_156 rfl rfl rfl ?_
  refine g_iconst (pc := 18) (v := (0 : Int32)) dX12_wrong_18 (by decide) ?_
  exact g_iret (pc := 19) dX12_wrong_19 rfl rfl (nar_B isB0) h
theorem dX12_tells_0 : decode cX12_tells 0 = .ok (.aload_n 0, 1) := by decide +kernel
theorem dX12_tells_1 : decode cX12_tells 1 = .ok (.getfield 16, 3) := by decide +kernel
theorem dX12_tells_4 : decode cX12_tells 4 = .ok (.iload_n 2, 1) := by decide +kernel
theorem dX12_tells_5 : decode cX12_tells 5 = .ok (.iaload, 1) := by decide +kernel
theorem dX12_tells_6 : decode cX12_tells 6 = .ok (.istore_n 3, 1) := by decide +kernel
theorem dX12_tells_7 : decode cX12_tells 7 = .ok (.aload_n 0, 1) := by decide +kernel
theorem dX12_tells_8 : decode cX12_tells 8 = .ok (.getfield 221, 3) := by decide +kernel
theorem dX12_tells_11 : decode cX12_tells 11 = .ok (.ifCond .eq 28, 3) := by decide +kernel
theorem dX12_tells_14 : decode cX12_tells 14 = .ok (.iload_n 3, 1) := by decide +kernel
theorem dX12_tells_15 : decode cX12_tells 15 = .ok (.aload_n 0, 1) := by decide +kernel
theorem dX12_tells_16 : decode cX12_tells 16 = .ok (.getfield 224, 3) := by decide +kernel
theorem dX12_tells_19 : decode cX12_tells 19 = .ok (.if_icmp .gt 19, 3) := by decide +kernel
theorem dX12_tells_22 : decode cX12_tells 22 = .ok (.iload_n 3, 1) := by decide +kernel
theorem dX12_tells_23 : decode cX12_tells 23 = .ok (.aload_n 0, 1) := by decide +kernel
theorem dX12_tells_24 : decode cX12_tells 24 = .ok (.getfield 224, 3) := by decide +kernel
theorem dX12_tells_27 : decode cX12_tells 27 = .ok (.if_icmp .ne 12, 3) := by decide +kernel
theorem dX12_tells_30 : decode cX12_tells 30 = .ok (.iload_n 1, 1) := by decide +kernel
theorem dX12_tells_31 : decode cX12_tells 31 = .ok (.aload_n 0, 1) := by decide +kernel
theorem dX12_tells_32 : decode cX12_tells 32 = .ok (.getfield 221, 3) := by decide +kernel
theorem dX12_tells_35 : decode cX12_tells 35 = .ok (.if_icmp .lt 4, 3) := by decide +kernel
theorem dX12_tells_38 : decode cX12_tells 38 = .ok (.return_, 1) := by decide +kernel
theorem dX12_tells_39 : decode cX12_tells 39 = .ok (.aload_n 0, 1) := by decide +kernel
theorem dX12_tells_40 : decode cX12_tells 40 = .ok (.iload_n 1, 1) := by decide +kernel
theorem dX12_tells_41 : decode cX12_tells 41 = .ok (.putfield 221, 3) := by decide +kernel
theorem dX12_tells_44 : decode cX12_tells 44 = .ok (.aload_n 0, 1) := by decide +kernel
theorem dX12_tells_45 : decode cX12_tells 45 = .ok (.iload_n 3, 1) := by decide +kernel
theorem dX12_tells_46 : decode cX12_tells 46 = .ok (.putfield 224, 3) := by decide +kernel
theorem dX12_tells_49 : decode cX12_tells 49 = .ok (.return_, 1) := by decide +kernel
theorem b_X12_tells (mm : MM) (Q : Value → MM → Prop) (a1 : Int32) (a2 : Int32) (h : vp_in a2 2001 ∧ (((mm.1 156 10) = 0 → (Q .null (wI (wI mm 156 10 a1) 156 11 (mm.1 159 a2.toNatClampNeg)))) ∧ (¬ (mm.1 156 10) = 0 → (((mm.1 156 11) < (mm.1 159 a2.toNatClampNeg) → (Q .null mm)) ∧ (¬ (mm.1 156 11) < (mm.1 159 a2.toNatClampNeg) → ((¬ (mm.1 159 a2.toNatClampNeg) = (mm.1 156 11) → (Q .null (wI (wI mm 156 10 a1) 156 11 (mm.1 159 a2.toNatClampNeg)))) ∧ ((mm.1 159 a2.toNatClampNeg) = (mm.1 156 11) → ((a1 < (mm.1 156 10) → (Q .null (wI (wI mm 156 10 a1) 156 11 (mm.1 159 a2.toNatClampNeg)))) ∧ (¬ a1 < (mm.1 156 10) → (Q .null mm)))))))))) : Runs e_X12_tells [.ref 156, .int a1, .int a2] mm Q := by
  refine runs_of_G (L := [(0, .ref 156), (1, .int a1), (2, .int a2)]) pl_X12 (Nat.le_of_ble_eq_true rfl) rfl ?_
  refine g_aload_n (pc := 0) (x := 156) dX12_tells_0 rfl ?_
  refine g_getR (pc := 1) (dd := 3) dX12_tells_1 fo_X12_16 sh_156 rfl ?_
  refine g_iload_n (pc := 4) (x := a2) dX12_tells_4 rfl ?_
  refine g_iaload (pc := 5) dX12_tells_5 sh_159 h.1 ?_
  have h := h.2
  refine g_istore_n (pc := 6) (L' := [(0, .ref 156), (1, .int a1), (2, .int a2), (3, .int (mm.1 159 a2.toNatClampNeg))]) dX12_tells_6 (Nat.le_of_ble_eq_true rfl) rfl ?_
  refine g_aload_n (pc := 7) (x := 156) dX12_tells_7 rfl ?_
  refine g_getI (pc := 8) dX12_tells_8 fo_X12_221 sh_156 rfl ?_
  refine g_if_eq (pc := 11) (tgt := 39) dX12_tells_11 (by decide) (fun c11 => ?_) (fun c11 => ?_)
  · have h := h.1 c11
    refine g_aload_n (pc := 39) (x := 156) dX12_tells_39 rfl ?_
    refine g_iload_n (pc := 40) (x := a1) dX12_tells_40 rfl ?_
    refine g_putI (pc := 41) dX12_tells_41 fo_X12_221 sh_156 rfl rfl rfl ?_
    refine g_aload_n (pc := 44) (x := 156) dX12_tells_44 rfl ?_
    refine g_iload_n (pc := 45) (x := (mm.1 159 a2.toNatClampNeg)) dX12_tells_45 rfl ?_
    refine g_putI (pc := 46) dX12_tells_46 fo_X12_224 sh_156 rfl rfl rfl ?_
    exact g_vret (pc := 49) dX12_tells_49 rfl rfl h
  · have h := h.2 c11
    refine g_iload_n (pc := 14) (x := (mm.1 159 a2.toNatClampNeg)) dX12_tells_14 rfl ?_
    refine g_aload_n (pc := 15) (x := 156) dX12_tells_15 rfl ?_
    refine g_getI (pc := 16) dX12_tells_16 fo_X12_224 sh_156 rfl ?_
    refine g_icmp_gt (pc := 19) (tgt := 38) dX12_tells_19 (by decide) (fun c19 => ?_) (fun c19 => ?_)
    · have h := h.1 c19
      exact g_vret (pc := 38) dX12_tells_38 rfl rfl h
    · have h := h.2 c19
      refine g_iload_n (pc := 22) (x := (mm.1 159 a2.toNatClampNeg)) dX12_tells_22 rfl ?_
      refine g_aload_n (pc := 23) (x := 156) dX12_tells_23 rfl ?_
      refine g_getI (pc := 24) dX12_tells_24 fo_X12_224 sh_156 rfl ?_
      refine g_icmp_ne (pc := 27) (tgt := 39) dX12_tells_27 (by decide) (fun c27 => ?_) (fun c27 => ?_)
      · have h := h.1 c27
        refine g_aload_n (pc := 39) (x := 156) dX12_tells_39 rfl ?_
        refine g_iload_n (pc := 40) (x := a1) dX12_tells_40 rfl ?_
        refine g_putI (pc := 41) dX12_tells_41 fo_X12_221 sh_156 rfl rfl rfl ?_
        refine g_aload_n (pc := 44) (x := 156) dX12_tells_44 rfl ?_
        refine g_iload_n (pc := 45) (x := (mm.1 159 a2.toNatClampNeg)) dX12_tells_45 rfl ?_
        refine g_putI (pc := 46) dX12_tells_46 fo_X12_224 sh_156 rfl rfl rfl ?_
        exact g_vret (pc := 49) dX12_tells_49 rfl rfl h
      · have h := h.2 c27
        refine g_iload_n (pc := 30) (x := a1) dX12_tells_30 rfl ?_
        refine g_aload_n (pc := 31) (x := 156) dX12_tells_31 rfl ?_
        refine g_getI (pc := 32) dX12_tells_32 fo_X12_221 sh_156 rfl ?_
        refine g_icmp_lt (pc := 35) (tgt := 39) dX12_tells_35 (by decide) (fun c35 => ?_) (fun c35 => ?_)
        · have h := h.1 c35
          refine g_aload_n (pc := 39) (x := 156) dX12_tells_39 rfl ?_
          refine g_iload_n (pc := 40) (x := a1) dX12_tells_40 rfl ?_
          refine g_putI (pc := 41) dX12_tells_41 fo_X12_221 sh_156 rfl rfl rfl ?_
          refine g_aload_n (pc := 44) (x := 156) dX12_tells_44 rfl ?_
          refine g_iload_n (pc := 45) (x := (mm.1 159 a2.toNatClampNeg)) dX12_tells_45 rfl ?_
          refine g_putI (pc := 46) dX12_tells_46 fo_X12_224 sh_156 rfl rfl rfl ?_
          exact g_vret (pc := 49) dX12_tells_49 rfl rfl h
        · have h := h.2 c35
          exact g_vret (pc := 38) dX12_tells_38 rfl rfl h
theorem dX12_pass_0 : decode cX12_pass 0 = .ok (.aload_n 0, 1) := by decide +kernel
theorem dX12_pass_1 : decode cX12_pass 1 = .ok (.getfield 218, 3) := by decide +kernel
theorem dX12_pass_4 : decode cX12_pass 4 = .ok (.sipush 400, 3) := by decide +kernel
theorem dX12_pass_7 : decode cX12_pass 7 = .ok (.if_icmp .lt 9, 3) := by decide +kernel
theorem dX12_pass_10 : decode cX12_pass 10 = .ok (.aload_n 0, 1) := by decide +kernel
theorem dX12_pass_11 : decode cX12_pass 11 = .ok (.iconst 2, 1) := by decide +kernel
theorem dX12_pass_12 : decode cX12_pass 12 = .ok (.invokevirtual 227, 3) := by decide +kernel
theorem dX12_pass_15 : decode cX12_pass 15 = .ok (.ireturn, 1) := by decide +kernel
theorem dX12_pass_16 : decode cX12_pass 16 = .ok (.aload_n 0, 1) := by decide +kernel
theorem dX12_pass_17 : decode cX12_pass 17 = .ok (.dup, 1) := by decide +kernel
theorem dX12_pass_18 : decode cX12_pass 18 = .ok (.getfield 218, 3) := by decide +kernel
theorem dX12_pass_21 : decode cX12_pass 21 = .ok (.iconst 1, 1) := by decide +kernel
theorem dX12_pass_22 : decode cX12_pass 22 = .ok (.iadd, 1) := by decide +kernel
theorem dX12_pass_23 : decode cX12_pass 23 = .ok (.putfield 218, 3) := by decide +kernel
theorem dX12_pass_26 : decode cX12_pass 26 = .ok (.iconst 1, 1) := by decide +kernel
theorem dX12_pass_27 : decode cX12_pass 27 = .ok (.ireturn, 1) := by decide +kernel
theorem b_X12_pass (mm : MM) (Q : Value → MM → Prop) (h : ((mm.1 156 7) < (400 : Int32) → (Q (.int (1 : Int32)) (wI mm 156 7 ((mm.1 156 7) + (1 : Int32))))) ∧ (¬ (mm.1 156 7) < (400 : Int32) → (∃ Pm1 : Value → MM → Prop, Runs e_X12_wrong [.ref 156, .int (2 : Int32)] mm Pm1 ∧ (∀ r m1, Pm1 r m1 → r = .int 1 ∨ r = .int 0) ∧ (∀ m1, Pm1 (.int 1) m1 → (Q (.int (1 : Int32)) m1)) ∧ (∀ m1, Pm1 (.int 0) m1 → (Q (.int (0 : Int32)) m1))))) : Runs e_X12_pass [.ref 156] mm Q := by
  refine runs_of_G (L := [(0, .ref 156)]) pl_X12 (Nat.le_of_ble_eq_true rfl) rfl ?_
  refine g_aload_n (pc := 0) (x := 156) dX12_pass_0 rfl ?_
  refine g_getI (pc := 1) dX12_pass_1 fo_X12_218 sh_156 rfl ?_
  refine g_sipush (pc := 4) (v := (400 : Int32)) dX12_pass_4 (by decide) ?_
  refine g_icmp_lt (pc := 7) (tgt := 16) dX12_pass_7 (by decide) (fun c7 => ?_) (fun c7 => ?_)
  · have h := h.1 c7
    refine g_aload_n (pc := 16) (x := 156) dX12_pass_16 rfl ?_
    refine g_dup (pc := 17) dX12_pass_17 rfl ?_
    refine g_getI (pc := 18) dX12_pass_18 fo_X12_218 sh_156 rfl ?_
    refine g_iconst (pc := 21) (v := (1 : Int32)) dX12_pass_21 (by decide) ?_
    refine g_iadd (pc := 22) dX12_pass_22 ?_
    refine g_putI (pc := 23) dX12_pass_23 fo_X12_218 sh_156 rfl rfl rfl ?_
    refine g_iconst (pc := 26) (v := (1 : Int32)) dX12_pass_26 (by decide) ?_
    exact g_iret (pc := 27) dX12_pass_27 rfl rfl (nar_B isB1) h
  · have h := h.2 c7
    refine g_aload_n (pc := 10) (x := 156) dX12_pass_10 rfl ?_
    refine g_iconst (pc := 11) (v := (2 : Int32)) dX12_pass_11 (by decide) ?_
    obtain ⟨Pm1, hRm1, h⟩ := h
    refine g_callV (pc := 12) (as := [.int (2 : Int32)]) dX12_pass_12 cw_X12_227 (by decide) rfl rfl sh_156 (Nat.le_of_ble_eq_true rfl) hRm1 ?_
    intro r_ m1 hz_ hp_
    rcases h.1 r_ m1 hp_ with rfl | rfl
    · have h := h.2.1 m1 hp_
      exact g_iret (pc := 15) dX12_pass_15 rfl rfl (nar_B isB1) h
    · have h := h.2.2 m1 hp_
      exact g_iret (pc := 15) dX12_pass_15 rfl rfl (nar_B isB0) h
theorem dX12_isSign_0 : decode cX12_isSign 0 = .ok (.aload_n 0, 1) := by decide +kernel
theorem dX12_isSign_1 : decode cX12_isSign 1 = .ok (.getfield 13, 3) := by decide +kernel
theorem dX12_isSign_4 : decode cX12_isSign 4 = .ok (.aload_n 0, 1) := by decide +kernel
theorem dX12_isSign_5 : decode cX12_isSign 5 = .ok (.getfield 218, 3) := by decide +kernel
theorem dX12_isSign_8 : decode cX12_isSign 8 = .ok (.iaload, 1) := by decide +kernel
theorem dX12_isSign_9 : decode cX12_isSign 9 = .ok (.iconst 2, 1) := by decide +kernel
theorem dX12_isSign_10 : decode cX12_isSign 10 = .ok (.if_icmp .ne 20, 3) := by decide +kernel
theorem dX12_isSign_13 : decode cX12_isSign 13 = .ok (.aload_n 0, 1) := by decide +kernel
theorem dX12_isSign_14 : decode cX12_isSign 14 = .ok (.getfield 19, 3) := by decide +kernel
theorem dX12_isSign_17 : decode cX12_isSign 17 = .ok (.aload_n 0, 1) := by decide +kernel
theorem dX12_isSign_18 : decode cX12_isSign 18 = .ok (.getfield 218, 3) := by decide +kernel
theorem dX12_isSign_21 : decode cX12_isSign 21 = .ok (.iaload, 1) := by decide +kernel
theorem dX12_isSign_22 : decode cX12_isSign 22 = .ok (.iload_n 1, 1) := by decide +kernel
theorem dX12_isSign_23 : decode cX12_isSign 23 = .ok (.if_icmp .ne 7, 3) := by decide +kernel
theorem dX12_isSign_26 : decode cX12_isSign 26 = .ok (.iconst 1, 1) := by decide +kernel
theorem dX12_isSign_27 : decode cX12_isSign 27 = .ok (.goto 4, 3) := by decide +kernel
theorem dX12_isSign_30 : decode cX12_isSign 30 = .ok (.iconst 0, 1) := by decide +kernel
theorem dX12_isSign_31 : decode cX12_isSign 31 = .ok (.ireturn, 1) := by decide +kernel
def o_X12_isSign (mm : MM) (a1 : Int32) : Prop := vp_in (mm.1 156 7) 2001 ∧ ((¬ (mm.1 158 (mm.1 156 7).toNatClampNeg) = (2 : Int32) → (True)) ∧ ((mm.1 158 (mm.1 156 7).toNatClampNeg) = (2 : Int32) → (vp_in (mm.1 156 7) 2001 ∧ ((¬ (mm.1 160 (mm.1 156 7).toNatClampNeg) = a1 → (True)) ∧ ((mm.1 160 (mm.1 156 7).toNatClampNeg) = a1 → (True))))))
def p_X12_isSign (mm : MM) (a1 : Int32) : Prop := ((mm.1 158 (mm.1 156 7).toNatClampNeg) = (2 : Int32) ∧ (mm.1 160 (mm.1 156 7).toNatClampNeg) = a1)
theorem rv_X12_isSign (mm : MM) (a1 : Int32) (h : o_X12_isSign mm a1) : Runs e_X12_isSign [.ref 156, .int a1] mm (fun r m_ => ((p_X12_isSign mm a1 ∧ r = .int 1) ∨ (¬ p_X12_isSign mm a1 ∧ r = .int 0)) ∧ mm = m_) := by
  refine runs_of_G (L := [(0, .ref 156), (1, .int a1)]) pl_X12 (Nat.le_of_ble_eq_true rfl) rfl ?_
  unfold o_X12_isSign at h
  refine g_aload_n (pc := 0) (x := 156) dX12_isSign_0 rfl ?_
  refine g_getR (pc := 1) (dd := 2) dX12_isSign_1 fo_X12_13 sh_156 rfl ?_
  refine g_aload_n (pc := 4) (x := 156) dX12_isSign_4 rfl ?_
  refine g_getI (pc := 5) dX12_isSign_5 fo_X12_218 sh_156 rfl ?_
  refine g_iaload (pc := 8) dX12_isSign_8 sh_158 h.1 ?_
  have h := h.2
  refine g_iconst (pc := 9) (v := (2 : Int32)) dX12_isSign_9 (by decide) ?_
  refine g_icmp_ne (pc := 10) (tgt := 30) dX12_isSign_10 (by decide) (fun c10 => ?_) (fun c10 => ?_)
  · have c10_0 : ¬ (mm.1 158 (mm.1 156 7).toNatClampNeg) = (2 : Int32) := c10
    have h := h.1 c10
    refine g_iconst (pc := 30) (v := (0 : Int32)) dX12_isSign_30 (by decide) ?_
    exact g_iret (pc := 31) dX12_isSign_31 rfl rfl (nar_B isB0) ⟨Or.inr ⟨(show ¬ p_X12_isSign mm a1 from (fun h_ => (c10_0 h_.1))), rfl⟩, rfl⟩
  · have c10_0 : (mm.1 158 (mm.1 156 7).toNatClampNeg) = (2 : Int32) := c10
    have h := h.2 c10
    refine g_aload_n (pc := 13) (x := 156) dX12_isSign_13 rfl ?_
    refine g_getR (pc := 14) (dd := 4) dX12_isSign_14 fo_X12_19 sh_156 rfl ?_
    refine g_aload_n (pc := 17) (x := 156) dX12_isSign_17 rfl ?_
    refine g_getI (pc := 18) dX12_isSign_18 fo_X12_218 sh_156 rfl ?_
    refine g_iaload (pc := 21) dX12_isSign_21 sh_160 h.1 ?_
    have h := h.2
    refine g_iload_n (pc := 22) (x := a1) dX12_isSign_22 rfl ?_
    refine g_icmp_ne (pc := 23) (tgt := 30) dX12_isSign_23 (by decide) (fun c23 => ?_) (fun c23 => ?_)
    · have c23_1 : ¬ (mm.1 160 (mm.1 156 7).toNatClampNeg) = a1 := c23
      refine g_iconst (pc := 30) (v := (0 : Int32)) dX12_isSign_30 (by decide) ?_
      exact g_iret (pc := 31) dX12_isSign_31 rfl rfl (nar_B isB0) ⟨Or.inr ⟨(show ¬ p_X12_isSign mm a1 from (fun h_ => c23_1 h_.2)), rfl⟩, rfl⟩
    · have c23_1 : (mm.1 160 (mm.1 156 7).toNatClampNeg) = a1 := c23
      refine g_iconst (pc := 26) (v := (1 : Int32)) dX12_isSign_26 (by decide) ?_
      refine g_goto (pc := 27) (tgt := 31) dX12_isSign_27 (by decide) ?_
      exact g_iret (pc := 31) dX12_isSign_31 rfl rfl (nar_B isB1) ⟨Or.inl ⟨(show p_X12_isSign mm a1 from ⟨c10_0, c23_1⟩), rfl⟩, rfl⟩
theorem dX12_isWord_0 : decode cX12_isWord 0 = .ok (.aload_n 0, 1) := by decide +kernel
theorem dX12_isWord_1 : decode cX12_isWord 1 = .ok (.getfield 13, 3) := by decide +kernel
theorem dX12_isWord_4 : decode cX12_isWord 4 = .ok (.aload_n 0, 1) := by decide +kernel
theorem dX12_isWord_5 : decode cX12_isWord 5 = .ok (.getfield 218, 3) := by decide +kernel
theorem dX12_isWord_8 : decode cX12_isWord 8 = .ok (.iaload, 1) := by decide +kernel
theorem dX12_isWord_9 : decode cX12_isWord 9 = .ok (.iconst 3, 1) := by decide +kernel
theorem dX12_isWord_10 : decode cX12_isWord 10 = .ok (.if_icmp .ne 20, 3) := by decide +kernel
theorem dX12_isWord_13 : decode cX12_isWord 13 = .ok (.aload_n 0, 1) := by decide +kernel
theorem dX12_isWord_14 : decode cX12_isWord 14 = .ok (.getfield 19, 3) := by decide +kernel
theorem dX12_isWord_17 : decode cX12_isWord 17 = .ok (.aload_n 0, 1) := by decide +kernel
theorem dX12_isWord_18 : decode cX12_isWord 18 = .ok (.getfield 218, 3) := by decide +kernel
theorem dX12_isWord_21 : decode cX12_isWord 21 = .ok (.iaload, 1) := by decide +kernel
theorem dX12_isWord_22 : decode cX12_isWord 22 = .ok (.iload_n 1, 1) := by decide +kernel
theorem dX12_isWord_23 : decode cX12_isWord 23 = .ok (.if_icmp .ne 7, 3) := by decide +kernel
theorem dX12_isWord_26 : decode cX12_isWord 26 = .ok (.iconst 1, 1) := by decide +kernel
theorem dX12_isWord_27 : decode cX12_isWord 27 = .ok (.goto 4, 3) := by decide +kernel
theorem dX12_isWord_30 : decode cX12_isWord 30 = .ok (.iconst 0, 1) := by decide +kernel
theorem dX12_isWord_31 : decode cX12_isWord 31 = .ok (.ireturn, 1) := by decide +kernel
def o_X12_isWord (mm : MM) (a1 : Int32) : Prop := vp_in (mm.1 156 7) 2001 ∧ ((¬ (mm.1 158 (mm.1 156 7).toNatClampNeg) = (3 : Int32) → (True)) ∧ ((mm.1 158 (mm.1 156 7).toNatClampNeg) = (3 : Int32) → (vp_in (mm.1 156 7) 2001 ∧ ((¬ (mm.1 160 (mm.1 156 7).toNatClampNeg) = a1 → (True)) ∧ ((mm.1 160 (mm.1 156 7).toNatClampNeg) = a1 → (True))))))
def p_X12_isWord (mm : MM) (a1 : Int32) : Prop := ((mm.1 158 (mm.1 156 7).toNatClampNeg) = (3 : Int32) ∧ (mm.1 160 (mm.1 156 7).toNatClampNeg) = a1)
theorem rv_X12_isWord (mm : MM) (a1 : Int32) (h : o_X12_isWord mm a1) : Runs e_X12_isWord [.ref 156, .int a1] mm (fun r m_ => ((p_X12_isWord mm a1 ∧ r = .int 1) ∨ (¬ p_X12_isWord mm a1 ∧ r = .int 0)) ∧ mm = m_) := by
  refine runs_of_G (L := [(0, .ref 156), (1, .int a1)]) pl_X12 (Nat.le_of_ble_eq_true rfl) rfl ?_
  unfold o_X12_isWord at h
  refine g_aload_n (pc := 0) (x := 156) dX12_isWord_0 rfl ?_
  refine g_getR (pc := 1) (dd := 2) dX12_isWord_1 fo_X12_13 sh_156 rfl ?_
  refine g_aload_n (pc := 4) (x := 156) dX12_isWord_4 rfl ?_
  refine g_getI (pc := 5) dX12_isWord_5 fo_X12_218 sh_156 rfl ?_
  refine g_iaload (pc := 8) dX12_isWord_8 sh_158 h.1 ?_
  have h := h.2
  refine g_iconst (pc := 9) (v := (3 : Int32)) dX12_isWord_9 (by decide) ?_
  refine g_icmp_ne (pc := 10) (tgt := 30) dX12_isWord_10 (by decide) (fun c10 => ?_) (fun c10 => ?_)
  · have c10_0 : ¬ (mm.1 158 (mm.1 156 7).toNatClampNeg) = (3 : Int32) := c10
    have h := h.1 c10
    refine g_iconst (pc := 30) (v := (0 : Int32)) dX12_isWord_30 (by decide) ?_
    exact g_iret (pc := 31) dX12_isWord_31 rfl rfl (nar_B isB0) ⟨Or.inr ⟨(show ¬ p_X12_isWord mm a1 from (fun h_ => (c10_0 h_.1))), rfl⟩, rfl⟩
  · have c10_0 : (mm.1 158 (mm.1 156 7).toNatClampNeg) = (3 : Int32) := c10
    have h := h.2 c10
    refine g_aload_n (pc := 13) (x := 156) dX12_isWord_13 rfl ?_
    refine g_getR (pc := 14) (dd := 4) dX12_isWord_14 fo_X12_19 sh_156 rfl ?_
    refine g_aload_n (pc := 17) (x := 156) dX12_isWord_17 rfl ?_
    refine g_getI (pc := 18) dX12_isWord_18 fo_X12_218 sh_156 rfl ?_
    refine g_iaload (pc := 21) dX12_isWord_21 sh_160 h.1 ?_
    have h := h.2
    refine g_iload_n (pc := 22) (x := a1) dX12_isWord_22 rfl ?_
    refine g_icmp_ne (pc := 23) (tgt := 30) dX12_isWord_23 (by decide) (fun c23 => ?_) (fun c23 => ?_)
    · have c23_1 : ¬ (mm.1 160 (mm.1 156 7).toNatClampNeg) = a1 := c23
      refine g_iconst (pc := 30) (v := (0 : Int32)) dX12_isWord_30 (by decide) ?_
      exact g_iret (pc := 31) dX12_isWord_31 rfl rfl (nar_B isB0) ⟨Or.inr ⟨(show ¬ p_X12_isWord mm a1 from (fun h_ => c23_1 h_.2)), rfl⟩, rfl⟩
    · have c23_1 : (mm.1 160 (mm.1 156 7).toNatClampNeg) = a1 := c23
      refine g_iconst (pc := 26) (v := (1 : Int32)) dX12_isWord_26 (by decide) ?_
      refine g_goto (pc := 27) (tgt := 31) dX12_isWord_27 (by decide) ?_
      exact g_iret (pc := 31) dX12_isWord_31 rfl rfl (nar_B isB1) ⟨Or.inl ⟨(show p_X12_isWord mm a1 from ⟨c10_0, c23_1⟩), rfl⟩, rfl⟩
theorem dX12_takes_0 : decode cX12_takes 0 = .ok (.aload_n 0, 1) := by decide +kernel
theorem dX12_takes_1 : decode cX12_takes 1 = .ok (.getfield 13, 3) := by decide +kernel
theorem dX12_takes_4 : decode cX12_takes 4 = .ok (.aload_n 0, 1) := by decide +kernel
theorem dX12_takes_5 : decode cX12_takes 5 = .ok (.getfield 218, 3) := by decide +kernel
theorem dX12_takes_8 : decode cX12_takes 8 = .ok (.iaload, 1) := by decide +kernel
theorem dX12_takes_9 : decode cX12_takes 9 = .ok (.iload_n 1, 1) := by decide +kernel
theorem dX12_takes_10 : decode cX12_takes 10 = .ok (.if_icmp .ne 10, 3) := by decide +kernel
theorem dX12_takes_13 : decode cX12_takes 13 = .ok (.aload_n 0, 1) := by decide +kernel
theorem dX12_takes_14 : decode cX12_takes 14 = .ok (.invokevirtual 230, 3) := by decide +kernel
theorem dX12_takes_17 : decode cX12_takes 17 = .ok (.goto 8, 3) := by decide +kernel
theorem dX12_takes_20 : decode cX12_takes 20 = .ok (.aload_n 0, 1) := by decide +kernel
theorem dX12_takes_21 : decode cX12_takes 21 = .ok (.iconst 1, 1) := by decide +kernel
theorem dX12_takes_22 : decode cX12_takes 22 = .ok (.invokevirtual 227, 3) := by decide +kernel
theorem dX12_takes_25 : decode cX12_takes 25 = .ok (.ireturn, 1) := by decide +kernel
theorem b_X12_takes (mm : MM) (Q : Value → MM → Prop) (a1 : Int32) (h : vp_in (mm.1 156 7) 2001 ∧ ((¬ (mm.1 158 (mm.1 156 7).toNatClampNeg) = a1 → (∃ Pm1 : Value → MM → Prop, Runs e_X12_wrong [.ref 156, .int (1 : Int32)] mm Pm1 ∧ (∀ r m1, Pm1 r m1 → r = .int 1 ∨ r = .int 0) ∧ (∀ m1, Pm1 (.int 1) m1 → (Q (.int (1 : Int32)) m1)) ∧ (∀ m1, Pm1 (.int 0) m1 → (Q (.int (0 : Int32)) m1)))) ∧ ((mm.1 158 (mm.1 156 7).toNatClampNeg) = a1 → (∃ Pm1 : Value → MM → Prop, Runs e_X12_pass [.ref 156] mm Pm1 ∧ (∀ r m1, Pm1 r m1 → r = .int 1 ∨ r = .int 0) ∧ (∀ m1, Pm1 (.int 1) m1 → (Q (.int (1 : Int32)) m1)) ∧ (∀ m1, Pm1 (.int 0) m1 → (Q (.int (0 : Int32)) m1)))))) : Runs e_X12_takes [.ref 156, .int a1] mm Q := by
  refine runs_of_G (L := [(0, .ref 156), (1, .int a1)]) pl_X12 (Nat.le_of_ble_eq_true rfl) rfl ?_
  refine g_aload_n (pc := 0) (x := 156) dX12_takes_0 rfl ?_
  refine g_getR (pc := 1) (dd := 2) dX12_takes_1 fo_X12_13 sh_156 rfl ?_
  refine g_aload_n (pc := 4) (x := 156) dX12_takes_4 rfl ?_
  refine g_getI (pc := 5) dX12_takes_5 fo_X12_218 sh_156 rfl ?_
  refine g_iaload (pc := 8) dX12_takes_8 sh_158 h.1 ?_
  have h := h.2
  refine g_iload_n (pc := 9) (x := a1) dX12_takes_9 rfl ?_
  refine g_icmp_ne (pc := 10) (tgt := 20) dX12_takes_10 (by decide) (fun c10 => ?_) (fun c10 => ?_)
  · have h := h.1 c10
    refine g_aload_n (pc := 20) (x := 156) dX12_takes_20 rfl ?_
    refine g_iconst (pc := 21) (v := (1 : Int32)) dX12_takes_21 (by decide) ?_
    obtain ⟨Pm1, hRm1, h⟩ := h
    refine g_callV (pc := 22) (as := [.int (1 : Int32)]) dX12_takes_22 cw_X12_227 (by decide) rfl rfl sh_156 (Nat.le_of_ble_eq_true rfl) hRm1 ?_
    intro r_ m1 hz_ hp_
    rcases h.1 r_ m1 hp_ with rfl | rfl
    · have h := h.2.1 m1 hp_
      exact g_iret (pc := 25) dX12_takes_25 rfl rfl (nar_B isB1) h
    · have h := h.2.2 m1 hp_
      exact g_iret (pc := 25) dX12_takes_25 rfl rfl (nar_B isB0) h
  · have h := h.2 c10
    refine g_aload_n (pc := 13) (x := 156) dX12_takes_13 rfl ?_
    obtain ⟨Pm1, hRm1, h⟩ := h
    refine g_callV (pc := 14) (as := []) dX12_takes_14 cw_X12_230 (by decide) rfl rfl sh_156 (Nat.le_of_ble_eq_true rfl) hRm1 ?_
    intro r_ m1 hz_ hp_
    rcases h.1 r_ m1 hp_ with rfl | rfl
    · have h := h.2.1 m1 hp_
      refine g_goto (pc := 17) (tgt := 25) dX12_takes_17 (by decide) ?_
      exact g_iret (pc := 25) dX12_takes_25 rfl rfl (nar_B isB1) h
    · have h := h.2.2 m1 hp_
      refine g_goto (pc := 17) (tgt := 25) dX12_takes_17 (by decide) ?_
      exact g_iret (pc := 25) dX12_takes_25 rfl rfl (nar_B isB0) h
theorem dX12_takesInt_0 : decode cX12_takesInt 0 = .ok (.aload_n 0, 1) := by decide +kernel
theorem dX12_takesInt_1 : decode cX12_takesInt 1 = .ok (.getfield 218, 3) := by decide +kernel
theorem dX12_takesInt_4 : decode cX12_takesInt 4 = .ok (.istore_n 3, 1) := by decide +kernel
theorem dX12_takesInt_5 : decode cX12_takesInt 5 = .ok (.aload_n 0, 1) := by decide +kernel
theorem dX12_takesInt_6 : decode cX12_takesInt 6 = .ok (.iconst 1, 1) := by decide +kernel
theorem dX12_takesInt_7 : decode cX12_takesInt 7 = .ok (.invokevirtual 234, 3) := by decide +kernel
theorem dX12_takesInt_10 : decode cX12_takesInt 10 = .ok (.ifCond .ne 5, 3) := by decide +kernel
theorem dX12_takesInt_13 : decode cX12_takesInt 13 = .ok (.iconst 0, 1) := by decide +kernel
theorem dX12_takesInt_14 : decode cX12_takesInt 14 = .ok (.ireturn, 1) := by decide +kernel
theorem dX12_takesInt_15 : decode cX12_takesInt 15 = .ok (.aload_n 0, 1) := by decide +kernel
theorem dX12_takesInt_16 : decode cX12_takesInt 16 = .ok (.aload_n 0, 1) := by decide +kernel
theorem dX12_takesInt_17 : decode cX12_takesInt 17 = .ok (.getfield 19, 3) := by decide +kernel
theorem dX12_takesInt_20 : decode cX12_takesInt 20 = .ok (.iload_n 3, 1) := by decide +kernel
theorem dX12_takesInt_21 : decode cX12_takesInt 21 = .ok (.iaload, 1) := by decide +kernel
theorem dX12_takesInt_22 : decode cX12_takesInt 22 = .ok (.putfield 237, 3) := by decide +kernel
theorem dX12_takesInt_25 : decode cX12_takesInt 25 = .ok (.aload_n 0, 1) := by decide +kernel
theorem dX12_takesInt_26 : decode cX12_takesInt 26 = .ok (.getfield 237, 3) := by decide +kernel
theorem dX12_takesInt_29 : decode cX12_takesInt 29 = .ok (.iload_n 1, 1) := by decide +kernel
theorem dX12_takesInt_30 : decode cX12_takesInt 30 = .ok (.if_icmp .lt 11, 3) := by decide +kernel
theorem dX12_takesInt_33 : decode cX12_takesInt 33 = .ok (.aload_n 0, 1) := by decide +kernel
theorem dX12_takesInt_34 : decode cX12_takesInt 34 = .ok (.getfield 237, 3) := by decide +kernel
theorem dX12_takesInt_37 : decode cX12_takesInt 37 = .ok (.iload_n 2, 1) := by decide +kernel
theorem dX12_takesInt_38 : decode cX12_takesInt 38 = .ok (.if_icmp .le 9, 3) := by decide +kernel
theorem dX12_takesInt_41 : decode cX12_takesInt 41 = .ok (.aload_n 0, 1) := by decide +kernel
theorem dX12_takesInt_42 : decode cX12_takesInt 42 = .ok (.iconst 5, 1) := by decide +kernel
theorem dX12_takesInt_43 : decode cX12_takesInt 43 = .ok (.iload_n 3, 1) := by decide +kernel
theorem dX12_takesInt_44 : decode cX12_takesInt 44 = .ok (.invokevirtual 240, 3) := by decide +kernel
theorem dX12_takesInt_47 : decode cX12_takesInt 47 = .ok (.iconst 1, 1) := by decide +kernel
theorem dX12_takesInt_48 : decode cX12_takesInt 48 = .ok (.ireturn, 1) := by decide +kernel
theorem b_X12_takesInt (mm : MM) (Q : Value → MM → Prop) (a1 : Int32) (a2 : Int32) (h : ∃ Pm1 : Value → MM → Prop, Runs e_X12_takes [.ref 156, .int (1 : Int32)] mm Pm1 ∧ (∀ r m1, Pm1 r m1 → r = .int 1 ∨ r = .int 0) ∧ (∀ m1, Pm1 (.int 1) m1 → (vp_in (mm.1 156 7) 2001 ∧ ((((wI m1 156 29 (m1.1 160 (mm.1 156 7).toNatClampNeg)).1 156 29) < a1 → (∃ Pm2 : Value → MM → Prop, Runs e_X12_tells [.ref 156, .int (5 : Int32), .int (mm.1 156 7)] (wI m1 156 29 (m1.1 160 (mm.1 156 7).toNatClampNeg)) Pm2 ∧ ∀ m2, Pm2 .null m2 → (Q (.int (1 : Int32)) m2))) ∧ (¬ ((wI m1 156 29 (m1.1 160 (mm.1 156 7).toNatClampNeg)).1 156 29) < a1 → ((((wI m1 156 29 (m1.1 160 (mm.1 156 7).toNatClampNeg)).1 156 29) ≤ a2 → (Q (.int (1 : Int32)) (wI m1 156 29 (m1.1 160 (mm.1 156 7).toNatClampNeg)))) ∧ (¬ ((wI m1 156 29 (m1.1 160 (mm.1 156 7).toNatClampNeg)).1 156 29) ≤ a2 → (∃ Pm2 : Value → MM → Prop, Runs e_X12_tells [.ref 156, .int (5 : Int32), .int (mm.1 156 7)] (wI m1 156 29 (m1.1 160 (mm.1 156 7).toNatClampNeg)) Pm2 ∧ ∀ m2, Pm2 .null m2 → (Q (.int (1 : Int32)) m2)))))))) ∧ (∀ m1, Pm1 (.int 0) m1 → (Q (.int (0 : Int32)) m1))) : Runs e_X12_takesInt [.ref 156, .int a1, .int a2] mm Q := by
  refine runs_of_G (L := [(0, .ref 156), (1, .int a1), (2, .int a2)]) pl_X12 (Nat.le_of_ble_eq_true rfl) rfl ?_
  refine g_aload_n (pc := 0) (x := 156) dX12_takesInt_0 rfl ?_
  refine g_getI (pc := 1) dX12_takesInt_1 fo_X12_218 sh_156 rfl ?_
  refine g_istore_n (pc := 4) (L' := [(0, .ref 156), (1, .int a1), (2, .int a2), (3, .int (mm.1 156 7))]) dX12_takesInt_4 (Nat.le_of_ble_eq_true rfl) rfl ?_
  refine g_aload_n (pc := 5) (x := 156) dX12_takesInt_5 rfl ?_
  refine g_iconst (pc := 6) (v := (1 : Int32)) dX12_takesInt_6 (by decide) ?_
  obtain ⟨Pm1, hRm1, h⟩ := h
  refine g_callV (pc := 7) (as := [.int (1 : Int32)]) dX12_takesInt_7 cw_X12_234 (by decide) rfl rfl sh_156 (Nat.le_of_ble_eq_true rfl) hRm1 ?_
  intro r_ m1 hz_ hp_
  rcases h.1 r_ m1 hp_ with rfl | rfl
  · have h := h.2.1 m1 hp_
    refine g_if_ne (pc := 10) (tgt := 15) dX12_takesInt_10 (by decide) (fun _ => ?_) (fun c10 => absurd c10 (by decide))
    refine g_aload_n (pc := 15) (x := 156) dX12_takesInt_15 rfl ?_
    refine g_aload_n (pc := 16) (x := 156) dX12_takesInt_16 rfl ?_
    refine g_getR (pc := 17) (dd := 4) dX12_takesInt_17 fo_X12_19 sh_156 rfl ?_
    refine g_iload_n (pc := 20) (x := (mm.1 156 7)) dX12_takesInt_20 rfl ?_
    refine g_iaload (pc := 21) dX12_takesInt_21 sh_160 h.1 ?_
    have h := h.2
    refine g_putI (pc := 22) dX12_takesInt_22 fo_X12_237 sh_156 rfl rfl rfl ?_
    refine g_aload_n (pc := 25) (x := 156) dX12_takesInt_25 rfl ?_
    refine g_getI (pc := 26) dX12_takesInt_26 fo_X12_237 sh_156 rfl ?_
    refine g_iload_n (pc := 29) (x := a1) dX12_takesInt_29 rfl ?_
    refine g_icmp_lt (pc := 30) (tgt := 41) dX12_takesInt_30 (by decide) (fun c30 => ?_) (fun c30 => ?_)
    · have h := h.1 c30
      refine g_aload_n (pc := 41) (x := 156) dX12_takesInt_41 rfl ?_
      refine g_iconst (pc := 42) (v := (5 : Int32)) dX12_takesInt_42 (by decide) ?_
      refine g_iload_n (pc := 43) (x := (mm.1 156 7)) dX12_takesInt_43 rfl ?_
      obtain ⟨Pm2, hRm2, h⟩ := h
      refine g_callV (pc := 44) (as := [.int (5 : Int32), .int (mm.1 156 7)]) dX12_takesInt_44 cw_X12_240 (by decide) rfl rfl sh_156 (Nat.le_of_ble_eq_true rfl) hRm2 ?_
      intro r_ m2 hz_ hp_
      obtain rfl := hz_
      have h := h m2 hp_
      refine g_iconst (pc := 47) (v := (1 : Int32)) dX12_takesInt_47 (by decide) ?_
      exact g_iret (pc := 48) dX12_takesInt_48 rfl rfl (nar_B isB1) h
    · have h := h.2 c30
      refine g_aload_n (pc := 33) (x := 156) dX12_takesInt_33 rfl ?_
      refine g_getI (pc := 34) dX12_takesInt_34 fo_X12_237 sh_156 rfl ?_
      refine g_iload_n (pc := 37) (x := a2) dX12_takesInt_37 rfl ?_
      refine g_icmp_le (pc := 38) (tgt := 47) dX12_takesInt_38 (by decide) (fun c38 => ?_) (fun c38 => ?_)
      · have h := h.1 c38
        refine g_iconst (pc := 47) (v := (1 : Int32)) dX12_takesInt_47 (by decide) ?_
        exact g_iret (pc := 48) dX12_takesInt_48 rfl rfl (nar_B isB1) h
      · have h := h.2 c38
        refine g_aload_n (pc := 41) (x := 156) dX12_takesInt_41 rfl ?_
        refine g_iconst (pc := 42) (v := (5 : Int32)) dX12_takesInt_42 (by decide) ?_
        refine g_iload_n (pc := 43) (x := (mm.1 156 7)) dX12_takesInt_43 rfl ?_
        obtain ⟨Pm2, hRm2, h⟩ := h
        refine g_callV (pc := 44) (as := [.int (5 : Int32), .int (mm.1 156 7)]) dX12_takesInt_44 cw_X12_240 (by decide) rfl rfl sh_156 (Nat.le_of_ble_eq_true rfl) hRm2 ?_
        intro r_ m2 hz_ hp_
        obtain rfl := hz_
        have h := h m2 hp_
        refine g_iconst (pc := 47) (v := (1 : Int32)) dX12_takesInt_47 (by decide) ?_
        exact g_iret (pc := 48) dX12_takesInt_48 rfl rfl (nar_B isB1) h
  · have h := h.2.2 m1 hp_
    refine g_if_ne (pc := 10) (tgt := 15) dX12_takesInt_10 (by decide) (fun c10 => absurd c10 (by decide)) (fun _ => ?_)
    refine g_iconst (pc := 13) (v := (0 : Int32)) dX12_takesInt_13 (by decide) ?_
    exact g_iret (pc := 14) dX12_takesInt_14 rfl rfl (nar_B isB0) h
theorem dX12_emit_0 : decode cX12_emit 0 = .ok (.aload_n 0, 1) := by decide +kernel
theorem dX12_emit_1 : decode cX12_emit 1 = .ok (.getfield 39, 3) := by decide +kernel
theorem dX12_emit_4 : decode cX12_emit 4 = .ok (.sipush 500, 3) := by decide +kernel
theorem dX12_emit_7 : decode cX12_emit 7 = .ok (.aload_n 0, 1) := by decide +kernel
theorem dX12_emit_8 : decode cX12_emit 8 = .ok (.getfield 36, 3) := by decide +kernel
theorem dX12_emit_11 : decode cX12_emit 11 = .ok (.iconst 1, 1) := by decide +kernel
theorem dX12_emit_12 : decode cX12_emit 12 = .ok (.iaload, 1) := by decide +kernel
theorem dX12_emit_13 : decode cX12_emit 13 = .ok (.iadd, 1) := by decide +kernel
theorem dX12_emit_14 : decode cX12_emit 14 = .ok (.iload_n 1, 1) := by decide +kernel
theorem dX12_emit_15 : decode cX12_emit 15 = .ok (.iastore, 1) := by decide +kernel
theorem dX12_emit_16 : decode cX12_emit 16 = .ok (.aload_n 0, 1) := by decide +kernel
theorem dX12_emit_17 : decode cX12_emit 17 = .ok (.getfield 42, 3) := by decide +kernel
theorem dX12_emit_20 : decode cX12_emit 20 = .ok (.sipush 500, 3) := by decide +kernel
theorem dX12_emit_23 : decode cX12_emit 23 = .ok (.aload_n 0, 1) := by decide +kernel
theorem dX12_emit_24 : decode cX12_emit 24 = .ok (.getfield 36, 3) := by decide +kernel
theorem dX12_emit_27 : decode cX12_emit 27 = .ok (.iconst 1, 1) := by decide +kernel
theorem dX12_emit_28 : decode cX12_emit 28 = .ok (.iaload, 1) := by decide +kernel
theorem dX12_emit_29 : decode cX12_emit 29 = .ok (.iadd, 1) := by decide +kernel
theorem dX12_emit_30 : decode cX12_emit 30 = .ok (.iload_n 2, 1) := by decide +kernel
theorem dX12_emit_31 : decode cX12_emit 31 = .ok (.iastore, 1) := by decide +kernel
theorem dX12_emit_32 : decode cX12_emit 32 = .ok (.aload_n 0, 1) := by decide +kernel
theorem dX12_emit_33 : decode cX12_emit 33 = .ok (.getfield 36, 3) := by decide +kernel
theorem dX12_emit_36 : decode cX12_emit 36 = .ok (.iconst 1, 1) := by decide +kernel
theorem dX12_emit_37 : decode cX12_emit 37 = .ok (.dup2, 1) := by decide +kernel
theorem dX12_emit_38 : decode cX12_emit 38 = .ok (.iaload, 1) := by decide +kernel
theorem dX12_emit_39 : decode cX12_emit 39 = .ok (.iconst 1, 1) := by decide +kernel
theorem dX12_emit_40 : decode cX12_emit 40 = .ok (.iadd, 1) := by decide +kernel
theorem dX12_emit_41 : decode cX12_emit 41 = .ok (.iastore, 1) := by decide +kernel
theorem dX12_emit_42 : decode cX12_emit 42 = .ok (.return_, 1) := by decide +kernel
theorem b_X12_emit (mm : MM) (Q : Value → MM → Prop) (a1 : Int32) (a2 : Int32) (h : vp_in ((500 : Int32) + (mm.1 164 1)) 1000 ∧ (vp_in ((500 : Int32) + ((wI mm 165 (((500 : Int32) + (mm.1 164 1)).toNatClampNeg) a1).1 164 1)) 1000 ∧ (Q .null (wI (wI (wI mm 165 (((500 : Int32) + (mm.1 164 1)).toNatClampNeg) a1) 166 (((500 : Int32) + ((wI mm 165 (((500 : Int32) + (mm.1 164 1)).toNatClampNeg) a1).1 164 1)).toNatClampNeg) a2) 164 1 (((wI (wI mm 165 (((500 : Int32) + (mm.1 164 1)).toNatClampNeg) a1) 166 (((500 : Int32) + ((wI mm 165 (((500 : Int32) + (mm.1 164 1)).toNatClampNeg) a1).1 164 1)).toNatClampNeg) a2).1 164 1) + (1 : Int32)))))) : Runs e_X12_emit [.ref 156, .int a1, .int a2] mm Q := by
  refine runs_of_G (L := [(0, .ref 156), (1, .int a1), (2, .int a2)]) pl_X12 (Nat.le_of_ble_eq_true rfl) rfl ?_
  refine g_aload_n (pc := 0) (x := 156) dX12_emit_0 rfl ?_
  refine g_getR (pc := 1) (dd := 9) dX12_emit_1 fo_X12_39 sh_156 rfl ?_
  refine g_sipush (pc := 4) (v := (500 : Int32)) dX12_emit_4 (by decide) ?_
  refine g_aload_n (pc := 7) (x := 156) dX12_emit_7 rfl ?_
  refine g_getR (pc := 8) (dd := 8) dX12_emit_8 fo_X12_36 sh_156 rfl ?_
  refine g_iconst (pc := 11) (v := (1 : Int32)) dX12_emit_11 (by decide) ?_
  refine g_iaload (pc := 12) dX12_emit_12 sh_164 (vp_in_nI (n := 1) (N := 2) (by decide) (by decide)) ?_
  refine g_iadd (pc := 13) dX12_emit_13 ?_
  refine g_iload_n (pc := 14) (x := a1) dX12_emit_14 rfl ?_
  refine g_iastore (pc := 15) dX12_emit_15 sh_165 h.1 ?_
  have h := h.2
  refine g_aload_n (pc := 16) (x := 156) dX12_emit_16 rfl ?_
  refine g_getR (pc := 17) (dd := 10) dX12_emit_17 fo_X12_42 sh_156 rfl ?_
  refine g_sipush (pc := 20) (v := (500 : Int32)) dX12_emit_20 (by decide) ?_
  refine g_aload_n (pc := 23) (x := 156) dX12_emit_23 rfl ?_
  refine g_getR (pc := 24) (dd := 8) dX12_emit_24 fo_X12_36 sh_156 rfl ?_
  refine g_iconst (pc := 27) (v := (1 : Int32)) dX12_emit_27 (by decide) ?_
  refine g_iaload (pc := 28) dX12_emit_28 sh_164 (vp_in_nI (n := 1) (N := 2) (by decide) (by decide)) ?_
  refine g_iadd (pc := 29) dX12_emit_29 ?_
  refine g_iload_n (pc := 30) (x := a2) dX12_emit_30 rfl ?_
  refine g_iastore (pc := 31) dX12_emit_31 sh_166 h.1 ?_
  have h := h.2
  refine g_aload_n (pc := 32) (x := 156) dX12_emit_32 rfl ?_
  refine g_getR (pc := 33) (dd := 8) dX12_emit_33 fo_X12_36 sh_156 rfl ?_
  refine g_iconst (pc := 36) (v := (1 : Int32)) dX12_emit_36 (by decide) ?_
  refine g_dup2 (pc := 37) dX12_emit_37 rfl rfl ?_
  refine g_iaload (pc := 38) dX12_emit_38 sh_164 (vp_in_nI (n := 1) (N := 2) (by decide) (by decide)) ?_
  refine g_iconst (pc := 39) (v := (1 : Int32)) dX12_emit_39 (by decide) ?_
  refine g_iadd (pc := 40) dX12_emit_40 ?_
  refine g_iastore (pc := 41) dX12_emit_41 sh_164 (vp_in_nI (n := 1) (N := 2) (by decide) (by decide)) ?_
  exact g_vret (pc := 42) dX12_emit_42 rfl rfl h
theorem dX12_rank_0 : decode cX12_rank 0 = .ok (.iload_n 0, 1) := by decide +kernel
theorem dX12_rank_1 : decode cX12_rank 1 = .ok (.iconst 3, 1) := by decide +kernel
theorem dX12_rank_2 : decode cX12_rank 2 = .ok (.if_icmp .le 7, 3) := by decide +kernel
theorem dX12_rank_5 : decode cX12_rank 5 = .ok (.iconst 2, 1) := by decide +kernel
theorem dX12_rank_6 : decode cX12_rank 6 = .ok (.goto 13, 3) := by decide +kernel
theorem dX12_rank_9 : decode cX12_rank 9 = .ok (.iload_n 0, 1) := by decide +kernel
theorem dX12_rank_10 : decode cX12_rank 10 = .ok (.iconst 1, 1) := by decide +kernel
theorem dX12_rank_11 : decode cX12_rank 11 = .ok (.if_icmp .le 7, 3) := by decide +kernel
theorem dX12_rank_14 : decode cX12_rank 14 = .ok (.iconst 1, 1) := by decide +kernel
theorem dX12_rank_15 : decode cX12_rank 15 = .ok (.goto 4, 3) := by decide +kernel
theorem dX12_rank_18 : decode cX12_rank 18 = .ok (.iconst 0, 1) := by decide +kernel
theorem dX12_rank_19 : decode cX12_rank 19 = .ok (.ireturn, 1) := by decide +kernel
noncomputable def v_X12_rank (mm : MM) (a0 : Int32) : Int32 := (cite (a0 ≤ (3 : Int32)) (cite (a0 ≤ (1 : Int32)) (0 : Int32) (1 : Int32)) (2 : Int32))
theorem rv_X12_rank (mm : MM) (a0 : Int32) : Runs e_X12_rank [.int a0] mm (fun r m_ => r = .int (v_X12_rank mm a0) ∧ mm = m_) := by
  refine runs_of_G (L := [(0, .int a0)]) pl_X12 (Nat.le_of_ble_eq_true rfl) rfl ?_
  refine g_iload_n (pc := 0) (x := a0) dX12_rank_0 rfl ?_
  refine g_iconst (pc := 1) (v := (3 : Int32)) dX12_rank_1 (by decide) ?_
  refine g_icmp_le (pc := 2) (tgt := 9) dX12_rank_2 (by decide) (fun c2 => ?_) (fun c2 => ?_)
  · have c2_0 : a0 ≤ (3 : Int32) := c2
    refine g_iload_n (pc := 9) (x := a0) dX12_rank_9 rfl ?_
    refine g_iconst (pc := 10) (v := (1 : Int32)) dX12_rank_10 (by decide) ?_
    refine g_icmp_le (pc := 11) (tgt := 18) dX12_rank_11 (by decide) (fun c11 => ?_) (fun c11 => ?_)
    · have c11_1 : a0 ≤ (1 : Int32) := c11
      refine g_iconst (pc := 18) (v := (0 : Int32)) dX12_rank_18 (by decide) ?_
      exact g_iret (pc := 19) dX12_rank_19 rfl rfl rfl ⟨(by unfold v_X12_rank; rw [cite_pos c2_0, cite_pos c11_1] <;> rfl), rfl⟩
    · have c11_1 : ¬ a0 ≤ (1 : Int32) := c11
      refine g_iconst (pc := 14) (v := (1 : Int32)) dX12_rank_14 (by decide) ?_
      refine g_goto (pc := 15) (tgt := 19) dX12_rank_15 (by decide) ?_
      exact g_iret (pc := 19) dX12_rank_19 rfl rfl rfl ⟨(by unfold v_X12_rank; rw [cite_pos c2_0, cite_neg c11_1] <;> rfl), rfl⟩
  · have c2_0 : ¬ a0 ≤ (3 : Int32) := c2
    refine g_iconst (pc := 5) (v := (2 : Int32)) dX12_rank_5 (by decide) ?_
    refine g_goto (pc := 6) (tgt := 19) dX12_rank_6 (by decide) ?_
    exact g_iret (pc := 19) dX12_rank_19 rfl rfl rfl ⟨(by unfold v_X12_rank; rw [cite_neg c2_0] <;> rfl), rfl⟩
theorem dX12_reduce_0 : decode cX12_reduce 0 = .ok (.aload_n 0, 1) := by decide +kernel
theorem dX12_reduce_1 : decode cX12_reduce 1 = .ok (.getfield 244, 3) := by decide +kernel
theorem dX12_reduce_4 : decode cX12_reduce 4 = .ok (.iload_n 2, 1) := by decide +kernel
theorem dX12_reduce_5 : decode cX12_reduce 5 = .ok (.if_icmp .le 48, 3) := by decide +kernel
theorem dX12_reduce_8 : decode cX12_reduce 8 = .ok (.aload_n 0, 1) := by decide +kernel
theorem dX12_reduce_9 : decode cX12_reduce 9 = .ok (.getfield 79, 3) := by decide +kernel
theorem dX12_reduce_12 : decode cX12_reduce 12 = .ok (.aload_n 0, 1) := by decide +kernel
theorem dX12_reduce_13 : decode cX12_reduce 13 = .ok (.getfield 244, 3) := by decide +kernel
theorem dX12_reduce_16 : decode cX12_reduce 16 = .ok (.iconst 1, 1) := by decide +kernel
theorem dX12_reduce_17 : decode cX12_reduce 17 = .ok (.isub, 1) := by decide +kernel
theorem dX12_reduce_18 : decode cX12_reduce 18 = .ok (.iaload, 1) := by decide +kernel
theorem dX12_reduce_19 : decode cX12_reduce 19 = .ok (.invokestatic 247, 3) := by decide +kernel
theorem dX12_reduce_22 : decode cX12_reduce 22 = .ok (.iload_n 1, 1) := by decide +kernel
theorem dX12_reduce_23 : decode cX12_reduce 23 = .ok (.if_icmp .lt 30, 3) := by decide +kernel
theorem dX12_reduce_26 : decode cX12_reduce 26 = .ok (.aload_n 0, 1) := by decide +kernel
theorem dX12_reduce_27 : decode cX12_reduce 27 = .ok (.dup, 1) := by decide +kernel
theorem dX12_reduce_28 : decode cX12_reduce 28 = .ok (.getfield 244, 3) := by decide +kernel
theorem dX12_reduce_31 : decode cX12_reduce 31 = .ok (.iconst 1, 1) := by decide +kernel
theorem dX12_reduce_32 : decode cX12_reduce 32 = .ok (.isub, 1) := by decide +kernel
theorem dX12_reduce_33 : decode cX12_reduce 33 = .ok (.putfield 244, 3) := by decide +kernel
theorem dX12_reduce_36 : decode cX12_reduce 36 = .ok (.aload_n 0, 1) := by decide +kernel
theorem dX12_reduce_37 : decode cX12_reduce 37 = .ok (.aload_n 0, 1) := by decide +kernel
theorem dX12_reduce_38 : decode cX12_reduce 38 = .ok (.getfield 79, 3) := by decide +kernel
theorem dX12_reduce_41 : decode cX12_reduce 41 = .ok (.aload_n 0, 1) := by decide +kernel
theorem dX12_reduce_42 : decode cX12_reduce 42 = .ok (.getfield 244, 3) := by decide +kernel
theorem dX12_reduce_45 : decode cX12_reduce 45 = .ok (.iaload, 1) := by decide +kernel
theorem dX12_reduce_46 : decode cX12_reduce 46 = .ok (.iconst 0, 1) := by decide +kernel
theorem dX12_reduce_47 : decode cX12_reduce 47 = .ok (.invokevirtual 250, 3) := by decide +kernel
theorem dX12_reduce_50 : decode cX12_reduce 50 = .ok (.goto (-50), 3) := by decide +kernel
theorem dX12_reduce_53 : decode cX12_reduce 53 = .ok (.return_, 1) := by decide +kernel
theorem b_X12_reduce (mm : MM) (Q : Value → MM → Prop) (a1 : Int32) (a2 : Int32) (h : G e_X12_reduce 0 [(0, .ref 156), (1, .int a1), (2, .int a2)] [] mm Q) : Runs e_X12_reduce [.ref 156, .int a1, .int a2] mm Q := by
  refine runs_of_G (L := [(0, .ref 156), (1, .int a1), (2, .int a2)]) pl_X12 (Nat.le_of_ble_eq_true rfl) rfl ?_
  exact h
theorem b_X12_reduce_0 (mm : MM) (Q : Value → MM → Prop) (l1 : Int32) (l2 : Int32) (h : ((mm.1 156 30) ≤ l2 → (Q .null mm)) ∧ (¬ (mm.1 156 30) ≤ l2 → (vp_in ((mm.1 156 30) - (1 : Int32)) 500 ∧ (((v_X12_rank mm (mm.1 178 ((mm.1 156 30) - (1 : Int32)).toNatClampNeg)) < l1 → (Q .null mm)) ∧ (¬ (v_X12_rank mm (mm.1 178 ((mm.1 156 30) - (1 : Int32)).toNatClampNeg)) < l1 → (vp_in ((wI mm 156 30 ((mm.1 156 30) - (1 : Int32))).1 156 30) 500 ∧ (∃ Pm1 : Value → MM → Prop, Runs e_X12_emit [.ref 156, .int ((wI mm 156 30 ((mm.1 156 30) - (1 : Int32))).1 178 ((wI mm 156 30 ((mm.1 156 30) - (1 : Int32))).1 156 30).toNatClampNeg), .int (0 : Int32)] (wI mm 156 30 ((mm.1 156 30) - (1 : Int32))) Pm1 ∧ ∀ m1, Pm1 .null m1 → (G e_X12_reduce 0 [(0, .ref 156), (1, .int l1), (2, .int l2)] [] m1 Q)))))))) : G e_X12_reduce 0 [(0, .ref 156), (1, .int l1), (2, .int l2)] [] mm Q := by
  refine g_aload_n (pc := 0) (x := 156) dX12_reduce_0 rfl ?_
  refine g_getI (pc := 1) dX12_reduce_1 fo_X12_244 sh_156 rfl ?_
  refine g_iload_n (pc := 4) (x := l2) dX12_reduce_4 rfl ?_
  refine g_icmp_le (pc := 5) (tgt := 53) dX12_reduce_5 (by decide) (fun c5 => ?_) (fun c5 => ?_)
  · have h := h.1 c5
    exact g_vret (pc := 53) dX12_reduce_53 rfl rfl h
  · have h := h.2 c5
    refine g_aload_n (pc := 8) (x := 156) dX12_reduce_8 rfl ?_
    refine g_getR (pc := 9) (dd := 22) dX12_reduce_9 fo_X12_79 sh_156 rfl ?_
    refine g_aload_n (pc := 12) (x := 156) dX12_reduce_12 rfl ?_
    refine g_getI (pc := 13) dX12_reduce_13 fo_X12_244 sh_156 rfl ?_
    refine g_iconst (pc := 16) (v := (1 : Int32)) dX12_reduce_16 (by decide) ?_
    refine g_isub (pc := 17) dX12_reduce_17 ?_
    refine g_iaload (pc := 18) dX12_reduce_18 sh_178 h.1 ?_
    have h := h.2
    refine g_callS (pc := 19) (as := [.int (mm.1 178 ((mm.1 156 30) - (1 : Int32)).toNatClampNeg)]) dX12_reduce_19 cw_X12_247 (by decide) rfl rfl (Nat.le_of_ble_eq_true rfl) (rv_X12_rank mm (mm.1 178 ((mm.1 156 30) - (1 : Int32)).toNatClampNeg)) ?_
    rintro r_ m_ hz_ ⟨rfl, rfl⟩
    refine g_iload_n (pc := 22) (x := l1) dX12_reduce_22 rfl ?_
    refine g_icmp_lt (pc := 23) (tgt := 53) dX12_reduce_23 (by decide) (fun c23 => ?_) (fun c23 => ?_)
    · have h := h.1 c23
      exact g_vret (pc := 53) dX12_reduce_53 rfl rfl h
    · have h := h.2 c23
      refine g_aload_n (pc := 26) (x := 156) dX12_reduce_26 rfl ?_
      refine g_dup (pc := 27) dX12_reduce_27 rfl ?_
      refine g_getI (pc := 28) dX12_reduce_28 fo_X12_244 sh_156 rfl ?_
      refine g_iconst (pc := 31) (v := (1 : Int32)) dX12_reduce_31 (by decide) ?_
      refine g_isub (pc := 32) dX12_reduce_32 ?_
      refine g_putI (pc := 33) dX12_reduce_33 fo_X12_244 sh_156 rfl rfl rfl ?_
      refine g_aload_n (pc := 36) (x := 156) dX12_reduce_36 rfl ?_
      refine g_aload_n (pc := 37) (x := 156) dX12_reduce_37 rfl ?_
      refine g_getR (pc := 38) (dd := 22) dX12_reduce_38 fo_X12_79 sh_156 rfl ?_
      refine g_aload_n (pc := 41) (x := 156) dX12_reduce_41 rfl ?_
      refine g_getI (pc := 42) dX12_reduce_42 fo_X12_244 sh_156 rfl ?_
      refine g_iaload (pc := 45) dX12_reduce_45 sh_178 h.1 ?_
      have h := h.2
      refine g_iconst (pc := 46) (v := (0 : Int32)) dX12_reduce_46 (by decide) ?_
      obtain ⟨Pm1, hRm1, h⟩ := h
      refine g_callV (pc := 47) (as := [.int ((wI mm 156 30 ((mm.1 156 30) - (1 : Int32))).1 178 ((wI mm 156 30 ((mm.1 156 30) - (1 : Int32))).1 156 30).toNatClampNeg), .int (0 : Int32)]) dX12_reduce_47 cw_X12_250 (by decide) rfl rfl sh_156 (Nat.le_of_ble_eq_true rfl) hRm1 ?_
      intro r_ m1 hz_ hp_
      obtain rfl := hz_
      have h := h m1 hp_
      refine g_goto (pc := 50) (tgt := 0) dX12_reduce_50 (by decide) ?_
      exact h
theorem dX12_await_0 : decode cX12_await 0 = .ok (.aload_n 0, 1) := by decide +kernel
theorem dX12_await_1 : decode cX12_await 1 = .ok (.getfield 79, 3) := by decide +kernel
theorem dX12_await_4 : decode cX12_await 4 = .ok (.aload_n 0, 1) := by decide +kernel
theorem dX12_await_5 : decode cX12_await 5 = .ok (.getfield 244, 3) := by decide +kernel
theorem dX12_await_8 : decode cX12_await 8 = .ok (.iload_n 1, 1) := by decide +kernel
theorem dX12_await_9 : decode cX12_await 9 = .ok (.iastore, 1) := by decide +kernel
theorem dX12_await_10 : decode cX12_await 10 = .ok (.aload_n 0, 1) := by decide +kernel
theorem dX12_await_11 : decode cX12_await 11 = .ok (.dup, 1) := by decide +kernel
theorem dX12_await_12 : decode cX12_await 12 = .ok (.getfield 244, 3) := by decide +kernel
theorem dX12_await_15 : decode cX12_await 15 = .ok (.iconst 1, 1) := by decide +kernel
theorem dX12_await_16 : decode cX12_await 16 = .ok (.iadd, 1) := by decide +kernel
theorem dX12_await_17 : decode cX12_await 17 = .ok (.putfield 244, 3) := by decide +kernel
theorem dX12_await_20 : decode cX12_await 20 = .ok (.return_, 1) := by decide +kernel
theorem b_X12_await (mm : MM) (Q : Value → MM → Prop) (a1 : Int32) (h : vp_in (mm.1 156 30) 500 ∧ (Q .null (wI (wI mm 178 ((mm.1 156 30).toNatClampNeg) a1) 156 30 (((wI mm 178 ((mm.1 156 30).toNatClampNeg) a1).1 156 30) + (1 : Int32))))) : Runs e_X12_await [.ref 156, .int a1] mm Q := by
  refine runs_of_G (L := [(0, .ref 156), (1, .int a1)]) pl_X12 (Nat.le_of_ble_eq_true rfl) rfl ?_
  refine g_aload_n (pc := 0) (x := 156) dX12_await_0 rfl ?_
  refine g_getR (pc := 1) (dd := 22) dX12_await_1 fo_X12_79 sh_156 rfl ?_
  refine g_aload_n (pc := 4) (x := 156) dX12_await_4 rfl ?_
  refine g_getI (pc := 5) dX12_await_5 fo_X12_244 sh_156 rfl ?_
  refine g_iload_n (pc := 8) (x := a1) dX12_await_8 rfl ?_
  refine g_iastore (pc := 9) dX12_await_9 sh_178 h.1 ?_
  have h := h.2
  refine g_aload_n (pc := 10) (x := 156) dX12_await_10 rfl ?_
  refine g_dup (pc := 11) dX12_await_11 rfl ?_
  refine g_getI (pc := 12) dX12_await_12 fo_X12_244 sh_156 rfl ?_
  refine g_iconst (pc := 15) (v := (1 : Int32)) dX12_await_15 (by decide) ?_
  refine g_iadd (pc := 16) dX12_await_16 ?_
  refine g_putI (pc := 17) dX12_await_17 fo_X12_244 sh_156 rfl rfl rfl ?_
  exact g_vret (pc := 20) dX12_await_20 rfl rfl h
theorem dX12_variableOf_0 : decode cX12_variableOf 0 = .ok (.iload_n 0, 1) := by decide +kernel
theorem dX12_variableOf_1 : decode cX12_variableOf 1 = .ok (.bipush 12, 2) := by decide +kernel
theorem dX12_variableOf_3 : decode cX12_variableOf 3 = .ok (.if_icmp .le 16, 3) := by decide +kernel
theorem dX12_variableOf_6 : decode cX12_variableOf 6 = .ok (.iload_n 0, 1) := by decide +kernel
theorem dX12_variableOf_7 : decode cX12_variableOf 7 = .ok (.bipush 22, 2) := by decide +kernel
theorem dX12_variableOf_9 : decode cX12_variableOf 9 = .ok (.if_icmp .ge 10, 3) := by decide +kernel
theorem dX12_variableOf_12 : decode cX12_variableOf 12 = .ok (.iload_n 0, 1) := by decide +kernel
theorem dX12_variableOf_13 : decode cX12_variableOf 13 = .ok (.bipush 13, 2) := by decide +kernel
theorem dX12_variableOf_15 : decode cX12_variableOf 15 = .ok (.isub, 1) := by decide +kernel
theorem dX12_variableOf_16 : decode cX12_variableOf 16 = .ok (.goto 4, 3) := by decide +kernel
theorem dX12_variableOf_19 : decode cX12_variableOf 19 = .ok (.iconst (-1), 1) := by decide +kernel
theorem dX12_variableOf_20 : decode cX12_variableOf 20 = .ok (.ireturn, 1) := by decide +kernel
noncomputable def v_X12_variableOf (mm : MM) (a0 : Int32) : Int32 := (cite (a0 ≤ (12 : Int32)) (-1 : Int32) (cite ((22 : Int32) ≤ a0) (-1 : Int32) (a0 - (13 : Int32))))
theorem rv_X12_variableOf (mm : MM) (a0 : Int32) : Runs e_X12_variableOf [.int a0] mm (fun r m_ => r = .int (v_X12_variableOf mm a0) ∧ mm = m_) := by
  refine runs_of_G (L := [(0, .int a0)]) pl_X12 (Nat.le_of_ble_eq_true rfl) rfl ?_
  refine g_iload_n (pc := 0) (x := a0) dX12_variableOf_0 rfl ?_
  refine g_bipush (pc := 1) (v := (12 : Int32)) dX12_variableOf_1 (by decide) ?_
  refine g_icmp_le (pc := 3) (tgt := 19) dX12_variableOf_3 (by decide) (fun c3 => ?_) (fun c3 => ?_)
  · have c3_0 : a0 ≤ (12 : Int32) := c3
    refine g_iconst (pc := 19) (v := (-1 : Int32)) dX12_variableOf_19 (by decide) ?_
    exact g_iret (pc := 20) dX12_variableOf_20 rfl rfl rfl ⟨(by unfold v_X12_variableOf; rw [cite_pos c3_0] <;> rfl), rfl⟩
  · have c3_0 : ¬ a0 ≤ (12 : Int32) := c3
    refine g_iload_n (pc := 6) (x := a0) dX12_variableOf_6 rfl ?_
    refine g_bipush (pc := 7) (v := (22 : Int32)) dX12_variableOf_7 (by decide) ?_
    refine g_icmp_ge (pc := 9) (tgt := 19) dX12_variableOf_9 (by decide) (fun c9 => ?_) (fun c9 => ?_)
    · have c9_1 : (22 : Int32) ≤ a0 := c9
      refine g_iconst (pc := 19) (v := (-1 : Int32)) dX12_variableOf_19 (by decide) ?_
      exact g_iret (pc := 20) dX12_variableOf_20 rfl rfl rfl ⟨(by unfold v_X12_variableOf; rw [cite_neg c3_0, cite_pos c9_1] <;> rfl), rfl⟩
    · have c9_1 : ¬ (22 : Int32) ≤ a0 := c9
      refine g_iload_n (pc := 12) (x := a0) dX12_variableOf_12 rfl ?_
      refine g_bipush (pc := 13) (v := (13 : Int32)) dX12_variableOf_13 (by decide) ?_
      refine g_isub (pc := 15) dX12_variableOf_15 ?_
      refine g_goto (pc := 16) (tgt := 20) dX12_variableOf_16 (by decide) ?_
      exact g_iret (pc := 20) dX12_variableOf_20 rfl rfl rfl ⟨(by unfold v_X12_variableOf; rw [cite_neg c3_0, cite_neg c9_1] <;> rfl), rfl⟩
theorem dX12_expr_0 : decode cX12_expr 0 = .ok (.aload_n 0, 1) := by decide +kernel
theorem dX12_expr_1 : decode cX12_expr 1 = .ok (.aload_n 0, 1) := by decide +kernel
theorem dX12_expr_2 : decode cX12_expr 2 = .ok (.getfield 36, 3) := by decide +kernel
theorem dX12_expr_5 : decode cX12_expr 5 = .ok (.iconst 1, 1) := by decide +kernel
theorem dX12_expr_6 : decode cX12_expr 6 = .ok (.iaload, 1) := by decide +kernel
theorem dX12_expr_7 : decode cX12_expr 7 = .ok (.putfield 253, 3) := by decide +kernel
theorem dX12_expr_10 : decode cX12_expr 10 = .ok (.aload_n 0, 1) := by decide +kernel
theorem dX12_expr_11 : decode cX12_expr 11 = .ok (.iconst 0, 1) := by decide +kernel
theorem dX12_expr_12 : decode cX12_expr 12 = .ok (.putfield 244, 3) := by decide +kernel
theorem dX12_expr_15 : decode cX12_expr 15 = .ok (.iconst 0, 1) := by decide +kernel
theorem dX12_expr_16 : decode cX12_expr 16 = .ok (.istore_n 1, 1) := by decide +kernel
theorem dX12_expr_17 : decode cX12_expr 17 = .ok (.iconst 1, 1) := by decide +kernel
theorem dX12_expr_18 : decode cX12_expr 18 = .ok (.istore_n 2, 1) := by decide +kernel
theorem dX12_expr_19 : decode cX12_expr 19 = .ok (.iconst 1, 1) := by decide +kernel
theorem dX12_expr_20 : decode cX12_expr 20 = .ok (.istore_n 3, 1) := by decide +kernel
theorem dX12_expr_21 : decode cX12_expr 21 = .ok (.iload_n 3, 1) := by decide +kernel
theorem dX12_expr_22 : decode cX12_expr 22 = .ok (.ifCond .eq 317, 3) := by decide +kernel
theorem dX12_expr_25 : decode cX12_expr 25 = .ok (.iload_n 2, 1) := by decide +kernel
theorem dX12_expr_26 : decode cX12_expr 26 = .ok (.ifCond .eq 146, 3) := by decide +kernel
theorem dX12_expr_29 : decode cX12_expr 29 = .ok (.aload_n 0, 1) := by decide +kernel
theorem dX12_expr_30 : decode cX12_expr 30 = .ok (.bipush 40, 2) := by decide +kernel
theorem dX12_expr_32 : decode cX12_expr 32 = .ok (.invokevirtual 256, 3) := by decide +kernel
theorem dX12_expr_35 : decode cX12_expr 35 = .ok (.ifCond .eq 35, 3) := by decide +kernel
theorem dX12_expr_38 : decode cX12_expr 38 = .ok (.iload_n 1, 1) := by decide +kernel
theorem dX12_expr_39 : decode cX12_expr 39 = .ok (.bipush 6, 2) := by decide +kernel
theorem dX12_expr_41 : decode cX12_expr 41 = .ok (.if_icmp .ne 9, 3) := by decide +kernel
theorem dX12_expr_44 : decode cX12_expr 44 = .ok (.aload_n 0, 1) := by decide +kernel
theorem dX12_expr_45 : decode cX12_expr 45 = .ok (.iconst 2, 1) := by decide +kernel
theorem dX12_expr_46 : decode cX12_expr 46 = .ok (.invokevirtual 227, 3) := by decide +kernel
theorem dX12_expr_49 : decode cX12_expr 49 = .ok (.ireturn, 1) := by decide +kernel
theorem dX12_expr_50 : decode cX12_expr 50 = .ok (.aload_n 0, 1) := by decide +kernel
theorem dX12_expr_51 : decode cX12_expr 51 = .ok (.invokevirtual 230, 3) := by decide +kernel
theorem dX12_expr_54 : decode cX12_expr 54 = .ok (.ifCond .ne 5, 3) := by decide +kernel
theorem dX12_expr_57 : decode cX12_expr 57 = .ok (.iconst 0, 1) := by decide +kernel
theorem dX12_expr_58 : decode cX12_expr 58 = .ok (.ireturn, 1) := by decide +kernel
theorem dX12_expr_59 : decode cX12_expr 59 = .ok (.iinc 1 1, 3) := by decide +kernel
theorem dX12_expr_62 : decode cX12_expr 62 = .ok (.aload_n 0, 1) := by decide +kernel
theorem dX12_expr_63 : decode cX12_expr 63 = .ok (.iconst 0, 1) := by decide +kernel
theorem dX12_expr_64 : decode cX12_expr 64 = .ok (.invokevirtual 259, 3) := by decide +kernel
theorem dX12_expr_67 : decode cX12_expr 67 = .ok (.goto (-46), 3) := by decide +kernel
theorem dX12_expr_70 : decode cX12_expr 70 = .ok (.aload_n 0, 1) := by decide +kernel
theorem dX12_expr_71 : decode cX12_expr 71 = .ok (.getfield 13, 3) := by decide +kernel
theorem dX12_expr_74 : decode cX12_expr 74 = .ok (.aload_n 0, 1) := by decide +kernel
theorem dX12_expr_75 : decode cX12_expr 75 = .ok (.getfield 218, 3) := by decide +kernel
theorem dX12_expr_78 : decode cX12_expr 78 = .ok (.iaload, 1) := by decide +kernel
theorem dX12_expr_79 : decode cX12_expr 79 = .ok (.iconst 3, 1) := by decide +kernel
theorem dX12_expr_80 : decode cX12_expr 80 = .ok (.if_icmp .ne 18, 3) := by decide +kernel
theorem dX12_expr_83 : decode cX12_expr 83 = .ok (.aload_n 0, 1) := by decide +kernel
theorem dX12_expr_84 : decode cX12_expr 84 = .ok (.getfield 19, 3) := by decide +kernel
theorem dX12_expr_87 : decode cX12_expr 87 = .ok (.aload_n 0, 1) := by decide +kernel
theorem dX12_expr_88 : decode cX12_expr 88 = .ok (.getfield 218, 3) := by decide +kernel
theorem dX12_expr_91 : decode cX12_expr 91 = .ok (.iaload, 1) := by decide +kernel
theorem dX12_expr_92 : decode cX12_expr 92 = .ok (.invokestatic 262, 3) := by decide +kernel
theorem dX12_expr_95 : decode cX12_expr 95 = .ok (.goto 4, 3) := by decide +kernel
theorem dX12_expr_98 : decode cX12_expr 98 = .ok (.iconst (-1), 1) := by decide +kernel
theorem dX12_expr_99 : decode cX12_expr 99 = .ok (.istore 4, 2) := by decide +kernel
theorem dX12_expr_101 : decode cX12_expr 101 = .ok (.aload_n 0, 1) := by decide +kernel
theorem dX12_expr_102 : decode cX12_expr 102 = .ok (.getfield 13, 3) := by decide +kernel
theorem dX12_expr_105 : decode cX12_expr 105 = .ok (.aload_n 0, 1) := by decide +kernel
theorem dX12_expr_106 : decode cX12_expr 106 = .ok (.getfield 218, 3) := by decide +kernel
theorem dX12_expr_109 : decode cX12_expr 109 = .ok (.iaload, 1) := by decide +kernel
theorem dX12_expr_110 : decode cX12_expr 110 = .ok (.iconst 1, 1) := by decide +kernel
theorem dX12_expr_111 : decode cX12_expr 111 = .ok (.if_icmp .eq 14, 3) := by decide +kernel
theorem dX12_expr_114 : decode cX12_expr 114 = .ok (.iload 4, 2) := by decide +kernel
theorem dX12_expr_116 : decode cX12_expr 116 = .ok (.ifCond .ge 9, 3) := by decide +kernel
theorem dX12_expr_119 : decode cX12_expr 119 = .ok (.aload_n 0, 1) := by decide +kernel
theorem dX12_expr_120 : decode cX12_expr 120 = .ok (.iconst 1, 1) := by decide +kernel
theorem dX12_expr_121 : decode cX12_expr 121 = .ok (.invokevirtual 227, 3) := by decide +kernel
theorem dX12_expr_124 : decode cX12_expr 124 = .ok (.ireturn, 1) := by decide +kernel
theorem dX12_expr_125 : decode cX12_expr 125 = .ok (.aload_n 0, 1) := by decide +kernel
theorem dX12_expr_126 : decode cX12_expr 126 = .ok (.iload 4, 2) := by decide +kernel
theorem dX12_expr_128 : decode cX12_expr 128 = .ok (.ifCond .ge 7, 3) := by decide +kernel
theorem dX12_expr_131 : decode cX12_expr 131 = .ok (.iconst 0, 1) := by decide +kernel
theorem dX12_expr_132 : decode cX12_expr 132 = .ok (.goto 4, 3) := by decide +kernel
theorem dX12_expr_135 : decode cX12_expr 135 = .ok (.iconst 1, 1) := by decide +kernel
theorem dX12_expr_136 : decode cX12_expr 136 = .ok (.iload 4, 2) := by decide +kernel
theorem dX12_expr_138 : decode cX12_expr 138 = .ok (.ifCond .ge 15, 3) := by decide +kernel
theorem dX12_expr_141 : decode cX12_expr 141 = .ok (.aload_n 0, 1) := by decide +kernel
theorem dX12_expr_142 : decode cX12_expr 142 = .ok (.getfield 19, 3) := by decide +kernel
theorem dX12_expr_145 : decode cX12_expr 145 = .ok (.aload_n 0, 1) := by decide +kernel
theorem dX12_expr_146 : decode cX12_expr 146 = .ok (.getfield 218, 3) := by decide +kernel
theorem dX12_expr_149 : decode cX12_expr 149 = .ok (.iaload, 1) := by decide +kernel
theorem dX12_expr_150 : decode cX12_expr 150 = .ok (.goto 5, 3) := by decide +kernel
theorem dX12_expr_153 : decode cX12_expr 153 = .ok (.iload 4, 2) := by decide +kernel
theorem dX12_expr_155 : decode cX12_expr 155 = .ok (.invokevirtual 250, 3) := by decide +kernel
theorem dX12_expr_158 : decode cX12_expr 158 = .ok (.aload_n 0, 1) := by decide +kernel
theorem dX12_expr_159 : decode cX12_expr 159 = .ok (.invokevirtual 230, 3) := by decide +kernel
theorem dX12_expr_162 : decode cX12_expr 162 = .ok (.ifCond .ne 5, 3) := by decide +kernel
theorem dX12_expr_165 : decode cX12_expr 165 = .ok (.iconst 0, 1) := by decide +kernel
theorem dX12_expr_166 : decode cX12_expr 166 = .ok (.ireturn, 1) := by decide +kernel
theorem dX12_expr_167 : decode cX12_expr 167 = .ok (.iconst 0, 1) := by decide +kernel
theorem dX12_expr_168 : decode cX12_expr 168 = .ok (.istore_n 2, 1) := by decide +kernel
theorem dX12_expr_169 : decode cX12_expr 169 = .ok (.goto (-148), 3) := by decide +kernel
theorem dX12_expr_172 : decode cX12_expr 172 = .ok (.aload_n 0, 1) := by decide +kernel
theorem dX12_expr_173 : decode cX12_expr 173 = .ok (.bipush 42, 2) := by decide +kernel
theorem dX12_expr_175 : decode cX12_expr 175 = .ok (.invokevirtual 256, 3) := by decide +kernel
theorem dX12_expr_178 : decode cX12_expr 178 = .ok (.ifCond .ne 12, 3) := by decide +kernel
theorem dX12_expr_181 : decode cX12_expr 181 = .ok (.aload_n 0, 1) := by decide +kernel
theorem dX12_expr_182 : decode cX12_expr 182 = .ok (.bipush 47, 2) := by decide +kernel
theorem dX12_expr_184 : decode cX12_expr 184 = .ok (.invokevirtual 256, 3) := by decide +kernel
theorem dX12_expr_187 : decode cX12_expr 187 = .ok (.ifCond .eq 41, 3) := by decide +kernel
theorem dX12_expr_190 : decode cX12_expr 190 = .ok (.aload_n 0, 1) := by decide +kernel
theorem dX12_expr_191 : decode cX12_expr 191 = .ok (.iconst 2, 1) := by decide +kernel
theorem dX12_expr_192 : decode cX12_expr 192 = .ok (.iconst 0, 1) := by decide +kernel
theorem dX12_expr_193 : decode cX12_expr 193 = .ok (.invokevirtual 265, 3) := by decide +kernel
theorem dX12_expr_196 : decode cX12_expr 196 = .ok (.aload_n 0, 1) := by decide +kernel
theorem dX12_expr_197 : decode cX12_expr 197 = .ok (.aload_n 0, 1) := by decide +kernel
theorem dX12_expr_198 : decode cX12_expr 198 = .ok (.bipush 42, 2) := by decide +kernel
theorem dX12_expr_200 : decode cX12_expr 200 = .ok (.invokevirtual 256, 3) := by decide +kernel
theorem dX12_expr_203 : decode cX12_expr 203 = .ok (.ifCond .eq 7, 3) := by decide +kernel
theorem dX12_expr_206 : decode cX12_expr 206 = .ok (.iconst 4, 1) := by decide +kernel
theorem dX12_expr_207 : decode cX12_expr 207 = .ok (.goto 4, 3) := by decide +kernel
theorem dX12_expr_210 : decode cX12_expr 210 = .ok (.iconst 5, 1) := by decide +kernel
theorem dX12_expr_211 : decode cX12_expr 211 = .ok (.invokevirtual 259, 3) := by decide +kernel
theorem dX12_expr_214 : decode cX12_expr 214 = .ok (.aload_n 0, 1) := by decide +kernel
theorem dX12_expr_215 : decode cX12_expr 215 = .ok (.invokevirtual 230, 3) := by decide +kernel
theorem dX12_expr_218 : decode cX12_expr 218 = .ok (.ifCond .ne 5, 3) := by decide +kernel
theorem dX12_expr_221 : decode cX12_expr 221 = .ok (.iconst 0, 1) := by decide +kernel
theorem dX12_expr_222 : decode cX12_expr 222 = .ok (.ireturn, 1) := by decide +kernel
theorem dX12_expr_223 : decode cX12_expr 223 = .ok (.iconst 1, 1) := by decide +kernel
theorem dX12_expr_224 : decode cX12_expr 224 = .ok (.istore_n 2, 1) := by decide +kernel
theorem dX12_expr_225 : decode cX12_expr 225 = .ok (.goto (-204), 3) := by decide +kernel
theorem dX12_expr_228 : decode cX12_expr 228 = .ok (.aload_n 0, 1) := by decide +kernel
theorem dX12_expr_229 : decode cX12_expr 229 = .ok (.bipush 43, 2) := by decide +kernel
theorem dX12_expr_231 : decode cX12_expr 231 = .ok (.invokevirtual 256, 3) := by decide +kernel
theorem dX12_expr_234 : decode cX12_expr 234 = .ok (.ifCond .ne 12, 3) := by decide +kernel
theorem dX12_expr_237 : decode cX12_expr 237 = .ok (.aload_n 0, 1) := by decide +kernel
theorem dX12_expr_238 : decode cX12_expr 238 = .ok (.bipush 45, 2) := by decide +kernel
theorem dX12_expr_240 : decode cX12_expr 240 = .ok (.invokevirtual 256, 3) := by decide +kernel
theorem dX12_expr_243 : decode cX12_expr 243 = .ok (.ifCond .eq 41, 3) := by decide +kernel
theorem dX12_expr_246 : decode cX12_expr 246 = .ok (.aload_n 0, 1) := by decide +kernel
theorem dX12_expr_247 : decode cX12_expr 247 = .ok (.iconst 1, 1) := by decide +kernel
theorem dX12_expr_248 : decode cX12_expr 248 = .ok (.iconst 0, 1) := by decide +kernel
theorem dX12_expr_249 : decode cX12_expr 249 = .ok (.invokevirtual 265, 3) := by decide +kernel
theorem dX12_expr_252 : decode cX12_expr 252 = .ok (.aload_n 0, 1) := by decide +kernel
theorem dX12_expr_253 : decode cX12_expr 253 = .ok (.aload_n 0, 1) := by decide +kernel
theorem dX12_expr_254 : decode cX12_expr 254 = .ok (.bipush 43, 2) := by decide +kernel
theorem dX12_expr_256 : decode cX12_expr 256 = .ok (.invokevirtual 256, 3) := by decide +kernel
theorem dX12_expr_259 : decode cX12_expr 259 = .ok (.ifCond .eq 7, 3) := by decide +kernel
theorem dX12_expr_262 : decode cX12_expr 262 = .ok (.iconst 2, 1) := by decide +kernel
theorem dX12_expr_263 : decode cX12_expr 263 = .ok (.goto 4, 3) := by decide +kernel
theorem dX12_expr_266 : decode cX12_expr 266 = .ok (.iconst 3, 1) := by decide +kernel
theorem dX12_expr_267 : decode cX12_expr 267 = .ok (.invokevirtual 259, 3) := by decide +kernel
theorem dX12_expr_270 : decode cX12_expr 270 = .ok (.aload_n 0, 1) := by decide +kernel
theorem dX12_expr_271 : decode cX12_expr 271 = .ok (.invokevirtual 230, 3) := by decide +kernel
theorem dX12_expr_274 : decode cX12_expr 274 = .ok (.ifCond .ne 5, 3) := by decide +kernel
theorem dX12_expr_277 : decode cX12_expr 277 = .ok (.iconst 0, 1) := by decide +kernel
theorem dX12_expr_278 : decode cX12_expr 278 = .ok (.ireturn, 1) := by decide +kernel
theorem dX12_expr_279 : decode cX12_expr 279 = .ok (.iconst 1, 1) := by decide +kernel
theorem dX12_expr_280 : decode cX12_expr 280 = .ok (.istore_n 2, 1) := by decide +kernel
theorem dX12_expr_281 : decode cX12_expr 281 = .ok (.goto (-260), 3) := by decide +kernel
theorem dX12_expr_284 : decode cX12_expr 284 = .ok (.iload_n 1, 1) := by decide +kernel
theorem dX12_expr_285 : decode cX12_expr 285 = .ok (.ifCond .le 49, 3) := by decide +kernel
theorem dX12_expr_288 : decode cX12_expr 288 = .ok (.aload_n 0, 1) := by decide +kernel
theorem dX12_expr_289 : decode cX12_expr 289 = .ok (.bipush 41, 2) := by decide +kernel
theorem dX12_expr_291 : decode cX12_expr 291 = .ok (.invokevirtual 256, 3) := by decide +kernel
theorem dX12_expr_294 : decode cX12_expr 294 = .ok (.ifCond .ne 9, 3) := by decide +kernel
theorem dX12_expr_297 : decode cX12_expr 297 = .ok (.aload_n 0, 1) := by decide +kernel
theorem dX12_expr_298 : decode cX12_expr 298 = .ok (.iconst 1, 1) := by decide +kernel
theorem dX12_expr_299 : decode cX12_expr 299 = .ok (.invokevirtual 227, 3) := by decide +kernel
theorem dX12_expr_302 : decode cX12_expr 302 = .ok (.ireturn, 1) := by decide +kernel
theorem dX12_expr_303 : decode cX12_expr 303 = .ok (.aload_n 0, 1) := by decide +kernel
theorem dX12_expr_304 : decode cX12_expr 304 = .ok (.invokevirtual 230, 3) := by decide +kernel
theorem dX12_expr_307 : decode cX12_expr 307 = .ok (.ifCond .ne 5, 3) := by decide +kernel
theorem dX12_expr_310 : decode cX12_expr 310 = .ok (.iconst 0, 1) := by decide +kernel
theorem dX12_expr_311 : decode cX12_expr 311 = .ok (.ireturn, 1) := by decide +kernel
theorem dX12_expr_312 : decode cX12_expr 312 = .ok (.aload_n 0, 1) := by decide +kernel
theorem dX12_expr_313 : decode cX12_expr 313 = .ok (.iconst 1, 1) := by decide +kernel
theorem dX12_expr_314 : decode cX12_expr 314 = .ok (.iconst 0, 1) := by decide +kernel
theorem dX12_expr_315 : decode cX12_expr 315 = .ok (.invokevirtual 265, 3) := by decide +kernel
theorem dX12_expr_318 : decode cX12_expr 318 = .ok (.aload_n 0, 1) := by decide +kernel
theorem dX12_expr_319 : decode cX12_expr 319 = .ok (.dup, 1) := by decide +kernel
theorem dX12_expr_320 : decode cX12_expr 320 = .ok (.getfield 244, 3) := by decide +kernel
theorem dX12_expr_323 : decode cX12_expr 323 = .ok (.iconst 1, 1) := by decide +kernel
theorem dX12_expr_324 : decode cX12_expr 324 = .ok (.isub, 1) := by decide +kernel
theorem dX12_expr_325 : decode cX12_expr 325 = .ok (.putfield 244, 3) := by decide +kernel
theorem dX12_expr_328 : decode cX12_expr 328 = .ok (.iinc 1 (-1), 3) := by decide +kernel
theorem dX12_expr_331 : decode cX12_expr 331 = .ok (.goto (-310), 3) := by decide +kernel
theorem dX12_expr_334 : decode cX12_expr 334 = .ok (.iconst 0, 1) := by decide +kernel
theorem dX12_expr_335 : decode cX12_expr 335 = .ok (.istore_n 3, 1) := by decide +kernel
theorem dX12_expr_336 : decode cX12_expr 336 = .ok (.goto (-315), 3) := by decide +kernel
theorem dX12_expr_339 : decode cX12_expr 339 = .ok (.aload_n 0, 1) := by decide +kernel
theorem dX12_expr_340 : decode cX12_expr 340 = .ok (.iconst 1, 1) := by decide +kernel
theorem dX12_expr_341 : decode cX12_expr 341 = .ok (.iconst 0, 1) := by decide +kernel
theorem dX12_expr_342 : decode cX12_expr 342 = .ok (.invokevirtual 265, 3) := by decide +kernel
theorem dX12_expr_345 : decode cX12_expr 345 = .ok (.iconst 1, 1) := by decide +kernel
theorem dX12_expr_346 : decode cX12_expr 346 = .ok (.ireturn, 1) := by decide +kernel
theorem b_X12_expr (mm : MM) (Q : Value → MM → Prop) (h : G e_X12_expr 21 [(0, .ref 156), (1, .int (0 : Int32)), (2, .int (1 : Int32)), (3, .int (1 : Int32))] [] (wI (wI mm 156 32 (mm.1 164 1)) 156 30 (0 : Int32)) Q) : Runs e_X12_expr [.ref 156] mm Q := by
  refine runs_of_G (L := [(0, .ref 156)]) pl_X12 (Nat.le_of_ble_eq_true rfl) rfl ?_
  refine g_aload_n (pc := 0) (x := 156) dX12_expr_0 rfl ?_
  refine g_aload_n (pc := 1) (x := 156) dX12_expr_1 rfl ?_
  refine g_getR (pc := 2) (dd := 8) dX12_expr_2 fo_X12_36 sh_156 rfl ?_
  refine g_iconst (pc := 5) (v := (1 : Int32)) dX12_expr_5 (by decide) ?_
  refine g_iaload (pc := 6) dX12_expr_6 sh_164 (vp_in_nI (n := 1) (N := 2) (by decide) (by decide)) ?_
  refine g_putI (pc := 7) dX12_expr_7 fo_X12_253 sh_156 rfl rfl rfl ?_
  refine g_aload_n (pc := 10) (x := 156) dX12_expr_10 rfl ?_
  refine g_iconst (pc := 11) (v := (0 : Int32)) dX12_expr_11 (by decide) ?_
  refine g_putI (pc := 12) dX12_expr_12 fo_X12_244 sh_156 rfl rfl rfl ?_
  refine g_iconst (pc := 15) (v := (0 : Int32)) dX12_expr_15 (by decide) ?_
  refine g_istore_n (pc := 16) (L' := [(0, .ref 156), (1, .int (0 : Int32))]) dX12_expr_16 (Nat.le_of_ble_eq_true rfl) rfl ?_
  refine g_iconst (pc := 17) (v := (1 : Int32)) dX12_expr_17 (by decide) ?_
  refine g_istore_n (pc := 18) (L' := [(0, .ref 156), (1, .int (0 : Int32)), (2, .int (1 : Int32))]) dX12_expr_18 (Nat.le_of_ble_eq_true rfl) rfl ?_
  refine g_iconst (pc := 19) (v := (1 : Int32)) dX12_expr_19 (by decide) ?_
  refine g_istore_n (pc := 20) (L' := [(0, .ref 156), (1, .int (0 : Int32)), (2, .int (1 : Int32)), (3, .int (1 : Int32))]) dX12_expr_20 (Nat.le_of_ble_eq_true rfl) rfl ?_
  exact h
theorem b_X12_expr_21 (mm : MM) (Q : Value → MM → Prop) (l1 : Int32) (l2 : Int32) (l3 : Int32) (h : (l3 = 0 → (∃ Pm1 : Value → MM → Prop, Runs e_X12_reduce [.ref 156, .int (1 : Int32), .int (0 : Int32)] mm Pm1 ∧ ∀ m1, Pm1 .null m1 → (Q (.int (1 : Int32)) m1))) ∧ (¬ l3 = 0 → ((l2 = 0 → (o_X12_isSign mm (42 : Int32) ∧ ((p_X12_isSign mm (42 : Int32) → (∃ Pm1 : Value → MM → Prop, Runs e_X12_reduce [.ref 156, .int (2 : Int32), .int (0 : Int32)] mm Pm1 ∧ ∀ m1, Pm1 .null m1 → (o_X12_isSign m1 (42 : Int32) ∧ ((p_X12_isSign m1 (42 : Int32) → (∃ Pm2 : Value → MM → Prop, Runs e_X12_await [.ref 156, .int (4 : Int32)] m1 Pm2 ∧ ∀ m2, Pm2 .null m2 → (∃ Pm3 : Value → MM → Prop, Runs e_X12_pass [.ref 156] m2 Pm3 ∧ (∀ r m3, Pm3 r m3 → r = .int 1 ∨ r = .int 0) ∧ (∀ m3, Pm3 (.int 1) m3 → (G e_X12_expr 21 [(0, .ref 156), (1, .int l1), (2, .int (1 : Int32)), (3, .int l3)] [] m3 Q)) ∧ (∀ m3, Pm3 (.int 0) m3 → (Q (.int (0 : Int32)) m3))))) ∧ (¬ p_X12_isSign m1 (42 : Int32) → (∃ Pm2 : Value → MM → Prop, Runs e_X12_await [.ref 156, .int (5 : Int32)] m1 Pm2 ∧ ∀ m2, Pm2 .null m2 → (∃ Pm3 : Value → MM → Prop, Runs e_X12_pass [.ref 156] m2 Pm3 ∧ (∀ r m3, Pm3 r m3 → r = .int 1 ∨ r = .int 0) ∧ (∀ m3, Pm3 (.int 1) m3 → (G e_X12_expr 21 [(0, .ref 156), (1, .int l1), (2, .int (1 : Int32)), (3, .int l3)] [] m3 Q)) ∧ (∀ m3, Pm3 (.int 0) m3 → (Q (.int (0 : Int32)) m3))))))))) ∧ (¬ p_X12_isSign mm (42 : Int32) → (o_X12_isSign mm (47 : Int32) ∧ ((p_X12_isSign mm (47 : Int32) → (∃ Pm1 : Value → MM → Prop, Runs e_X12_reduce [.ref 156, .int (2 : Int32), .int (0 : Int32)] mm Pm1 ∧ ∀ m1, Pm1 .null m1 → (o_X12_isSign m1 (42 : Int32) ∧ ((p_X12_isSign m1 (42 : Int32) → (∃ Pm2 : Value → MM → Prop, Runs e_X12_await [.ref 156, .int (4 : Int32)] m1 Pm2 ∧ ∀ m2, Pm2 .null m2 → (∃ Pm3 : Value → MM → Prop, Runs e_X12_pass [.ref 156] m2 Pm3 ∧ (∀ r m3, Pm3 r m3 → r = .int 1 ∨ r = .int 0) ∧ (∀ m3, Pm3 (.int 1) m3 → (G e_X12_expr 21 [(0, .ref 156), (1, .int l1), (2, .int (1 : Int32)), (3, .int l3)] [] m3 Q)) ∧ (∀ m3, Pm3 (.int 0) m3 → (Q (.int (0 : Int32)) m3))))) ∧ (¬ p_X12_isSign m1 (42 : Int32) → (∃ Pm2 : Value → MM → Prop, Runs e_X12_await [.ref 156, .int (5 : Int32)] m1 Pm2 ∧ ∀ m2, Pm2 .null m2 → (∃ Pm3 : Value → MM → Prop, Runs e_X12_pass [.ref 156] m2 Pm3 ∧ (∀ r m3, Pm3 r m3 → r = .int 1 ∨ r = .int 0) ∧ (∀ m3, Pm3 (.int 1) m3 → (G e_X12_expr 21 [(0, .ref 156), (1, .int l1), (2, .int (1 : Int32)), (3, .int l3)] [] m3 Q)) ∧ (∀ m3, Pm3 (.int 0) m3 → (Q (.int (0 : Int32)) m3))))))))) ∧ (¬ p_X12_isSign mm (47 : Int32) → (o_X12_isSign mm (43 : Int32) ∧ ((p_X12_isSign mm (43 : Int32) → (∃ Pm1 : Value → MM → Prop, Runs e_X12_reduce [.ref 156, .int (1 : Int32), .int (0 : Int32)] mm Pm1 ∧ ∀ m1, Pm1 .null m1 → (o_X12_isSign m1 (43 : Int32) ∧ ((p_X12_isSign m1 (43 : Int32) → (∃ Pm2 : Value → MM → Prop, Runs e_X12_await [.ref 156, .int (2 : Int32)] m1 Pm2 ∧ ∀ m2, Pm2 .null m2 → (∃ Pm3 : Value → MM → Prop, Runs e_X12_pass [.ref 156] m2 Pm3 ∧ (∀ r m3, Pm3 r m3 → r = .int 1 ∨ r = .int 0) ∧ (∀ m3, Pm3 (.int 1) m3 → (G e_X12_expr 21 [(0, .ref 156), (1, .int l1), (2, .int (1 : Int32)), (3, .int l3)] [] m3 Q)) ∧ (∀ m3, Pm3 (.int 0) m3 → (Q (.int (0 : Int32)) m3))))) ∧ (¬ p_X12_isSign m1 (43 : Int32) → (∃ Pm2 : Value → MM → Prop, Runs e_X12_await [.ref 156, .int (3 : Int32)] m1 Pm2 ∧ ∀ m2, Pm2 .null m2 → (∃ Pm3 : Value → MM → Prop, Runs e_X12_pass [.ref 156] m2 Pm3 ∧ (∀ r m3, Pm3 r m3 → r = .int 1 ∨ r = .int 0) ∧ (∀ m3, Pm3 (.int 1) m3 → (G e_X12_expr 21 [(0, .ref 156), (1, .int l1), (2, .int (1 : Int32)), (3, .int l3)] [] m3 Q)) ∧ (∀ m3, Pm3 (.int 0) m3 → (Q (.int (0 : Int32)) m3))))))))) ∧ (¬ p_X12_isSign mm (43 : Int32) → (o_X12_isSign mm (45 : Int32) ∧ ((p_X12_isSign mm (45 : Int32) → (∃ Pm1 : Value → MM → Prop, Runs e_X12_reduce [.ref 156, .int (1 : Int32), .int (0 : Int32)] mm Pm1 ∧ ∀ m1, Pm1 .null m1 → (o_X12_isSign m1 (43 : Int32) ∧ ((p_X12_isSign m1 (43 : Int32) → (∃ Pm2 : Value → MM → Prop, Runs e_X12_await [.ref 156, .int (2 : Int32)] m1 Pm2 ∧ ∀ m2, Pm2 .null m2 → (∃ Pm3 : Value → MM → Prop, Runs e_X12_pass [.ref 156] m2 Pm3 ∧ (∀ r m3, Pm3 r m3 → r = .int 1 ∨ r = .int 0) ∧ (∀ m3, Pm3 (.int 1) m3 → (G e_X12_expr 21 [(0, .ref 156), (1, .int l1), (2, .int (1 : Int32)), (3, .int l3)] [] m3 Q)) ∧ (∀ m3, Pm3 (.int 0) m3 → (Q (.int (0 : Int32)) m3))))) ∧ (¬ p_X12_isSign m1 (43 : Int32) → (∃ Pm2 : Value → MM → Prop, Runs e_X12_await [.ref 156, .int (3 : Int32)] m1 Pm2 ∧ ∀ m2, Pm2 .null m2 → (∃ Pm3 : Value → MM → Prop, Runs e_X12_pass [.ref 156] m2 Pm3 ∧ (∀ r m3, Pm3 r m3 → r = .int 1 ∨ r = .int 0) ∧ (∀ m3, Pm3 (.int 1) m3 → (G e_X12_expr 21 [(0, .ref 156), (1, .int l1), (2, .int (1 : Int32)), (3, .int l3)] [] m3 Q)) ∧ (∀ m3, Pm3 (.int 0) m3 → (Q (.int (0 : Int32)) m3))))))))) ∧ (¬ p_X12_isSign mm (45 : Int32) → ((l1 ≤ 0 → (G e_X12_expr 21 [(0, .ref 156), (1, .int l1), (2, .int l2), (3, .int (0 : Int32))] [] mm Q)) ∧ (¬ l1 ≤ 0 → (o_X12_isSign mm (41 : Int32) ∧ ((p_X12_isSign mm (41 : Int32) → (∃ Pm1 : Value → MM → Prop, Runs e_X12_pass [.ref 156] mm Pm1 ∧ (∀ r m1, Pm1 r m1 → r = .int 1 ∨ r = .int 0) ∧ (∀ m1, Pm1 (.int 1) m1 → (∃ Pm2 : Value → MM → Prop, Runs e_X12_reduce [.ref 156, .int (1 : Int32), .int (0 : Int32)] m1 Pm2 ∧ ∀ m2, Pm2 .null m2 → (G e_X12_expr 21 [(0, .ref 156), (1, .int (l1 + (-1 : Int32))), (2, .int l2), (3, .int l3)] [] (wI m2 156 30 ((m2.1 156 30) - (1 : Int32))) Q))) ∧ (∀ m1, Pm1 (.int 0) m1 → (Q (.int (0 : Int32)) m1)))) ∧ (¬ p_X12_isSign mm (41 : Int32) → (∃ Pm1 : Value → MM → Prop, Runs e_X12_wrong [.ref 156, .int (1 : Int32)] mm Pm1 ∧ (∀ r m1, Pm1 r m1 → r = .int 1 ∨ r = .int 0) ∧ (∀ m1, Pm1 (.int 1) m1 → (Q (.int (1 : Int32)) m1)) ∧ (∀ m1, Pm1 (.int 0) m1 → (Q (.int (0 : Int32)) m1))))))))))))))))))))) ∧ (¬ l2 = 0 → (o_X12_isSign mm (40 : Int32) ∧ ((p_X12_isSign mm (40 : Int32) → ((¬ l1 = (6 : Int32) → (∃ Pm1 : Value → MM → Prop, Runs e_X12_pass [.ref 156] mm Pm1 ∧ (∀ r m1, Pm1 r m1 → r = .int 1 ∨ r = .int 0) ∧ (∀ m1, Pm1 (.int 1) m1 → (∃ Pm2 : Value → MM → Prop, Runs e_X12_await [.ref 156, .int (0 : Int32)] m1 Pm2 ∧ ∀ m2, Pm2 .null m2 → (G e_X12_expr 21 [(0, .ref 156), (1, .int (l1 + (1 : Int32))), (2, .int l2), (3, .int l3)] [] m2 Q))) ∧ (∀ m1, Pm1 (.int 0) m1 → (Q (.int (0 : Int32)) m1)))) ∧ (l1 = (6 : Int32) → (∃ Pm1 : Value → MM → Prop, Runs e_X12_wrong [.ref 156, .int (2 : Int32)] mm Pm1 ∧ (∀ r m1, Pm1 r m1 → r = .int 1 ∨ r = .int 0) ∧ (∀ m1, Pm1 (.int 1) m1 → (Q (.int (1 : Int32)) m1)) ∧ (∀ m1, Pm1 (.int 0) m1 → (Q (.int (0 : Int32)) m1)))))) ∧ (¬ p_X12_isSign mm (40 : Int32) → (vp_in (mm.1 156 7) 2001 ∧ ((¬ (mm.1 158 (mm.1 156 7).toNatClampNeg) = (3 : Int32) → (vp_in (mm.1 156 7) 2001 ∧ (((mm.1 158 (mm.1 156 7).toNatClampNeg) = (1 : Int32) → (vp_in (mm.1 156 7) 2001 ∧ (∃ Pm1 : Value → MM → Prop, Runs e_X12_emit [.ref 156, .int (0 : Int32), .int (mm.1 160 (mm.1 156 7).toNatClampNeg)] mm Pm1 ∧ ∀ m1, Pm1 .null m1 → (∃ Pm2 : Value → MM → Prop, Runs e_X12_pass [.ref 156] m1 Pm2 ∧ (∀ r m2, Pm2 r m2 → r = .int 1 ∨ r = .int 0) ∧ (∀ m2, Pm2 (.int 1) m2 → (G e_X12_expr 21 [(0, .ref 156), (1, .int l1), (2, .int (0 : Int32)), (3, .int l3)] [] m2 Q)) ∧ (∀ m2, Pm2 (.int 0) m2 → (Q (.int (0 : Int32)) m2)))))) ∧ (¬ (mm.1 158 (mm.1 156 7).toNatClampNeg) = (1 : Int32) → (∃ Pm1 : Value → MM → Prop, Runs e_X12_wrong [.ref 156, .int (1 : Int32)] mm Pm1 ∧ (∀ r m1, Pm1 r m1 → r = .int 1 ∨ r = .int 0) ∧ (∀ m1, Pm1 (.int 1) m1 → (Q (.int (1 : Int32)) m1)) ∧ (∀ m1, Pm1 (.int 0) m1 → (Q (.int (0 : Int32)) m1))))))) ∧ ((mm.1 158 (mm.1 156 7).toNatClampNeg) = (3 : Int32) → (vp_in (mm.1 156 7) 2001 ∧ (vp_in (mm.1 156 7) 2001 ∧ (((mm.1 158 (mm.1 156 7).toNatClampNeg) = (1 : Int32) → ((0 ≤ (v_X12_variableOf mm (mm.1 160 (mm.1 156 7).toNatClampNeg)) → ((0 ≤ (v_X12_variableOf mm (mm.1 160 (mm.1 156 7).toNatClampNeg)) → (∃ Pm1 : Value → MM → Prop, Runs e_X12_emit [.ref 156, .int (1 : Int32), .int (v_X12_variableOf mm (mm.1 160 (mm.1 156 7).toNatClampNeg))] mm Pm1 ∧ ∀ m1, Pm1 .null m1 → (∃ Pm2 : Value → MM → Prop, Runs e_X12_pass [.ref 156] m1 Pm2 ∧ (∀ r m2, Pm2 r m2 → r = .int 1 ∨ r = .int 0) ∧ (∀ m2, Pm2 (.int 1) m2 → (G e_X12_expr 21 [(0, .ref 156), (1, .int l1), (2, .int (0 : Int32)), (3, .int l3)] [] m2 Q)) ∧ (∀ m2, Pm2 (.int 0) m2 → (Q (.int (0 : Int32)) m2))))) ∧ (¬ 0 ≤ (v_X12_variableOf mm (mm.1 160 (mm.1 156 7).toNatClampNeg)) → (vp_in (mm.1 156 7) 2001 ∧ (∃ Pm1 : Value → MM → Prop, Runs e_X12_emit [.ref 156, .int (1 : Int32), .int (mm.1 160 (mm.1 156 7).toNatClampNeg)] mm Pm1 ∧ ∀ m1, Pm1 .null m1 → (∃ Pm2 : Value → MM → Prop, Runs e_X12_pass [.ref 156] m1 Pm2 ∧ (∀ r m2, Pm2 r m2 → r = .int 1 ∨ r = .int 0) ∧ (∀ m2, Pm2 (.int 1) m2 → (G e_X12_expr 21 [(0, .ref 156), (1, .int l1), (2, .int (0 : Int32)), (3, .int l3)] [] m2 Q)) ∧ (∀ m2, Pm2 (.int 0) m2 → (Q (.int (0 : Int32)) m2)))))))) ∧ (¬ 0 ≤ (v_X12_variableOf mm (mm.1 160 (mm.1 156 7).toNatClampNeg)) → ((0 ≤ (v_X12_variableOf mm (mm.1 160 (mm.1 156 7).toNatClampNeg)) → (∃ Pm1 : Value → MM → Prop, Runs e_X12_emit [.ref 156, .int (0 : Int32), .int (v_X12_variableOf mm (mm.1 160 (mm.1 156 7).toNatClampNeg))] mm Pm1 ∧ ∀ m1, Pm1 .null m1 → (∃ Pm2 : Value → MM → Prop, Runs e_X12_pass [.ref 156] m1 Pm2 ∧ (∀ r m2, Pm2 r m2 → r = .int 1 ∨ r = .int 0) ∧ (∀ m2, Pm2 (.int 1) m2 → (G e_X12_expr 21 [(0, .ref 156), (1, .int l1), (2, .int (0 : Int32)), (3, .int l3)] [] m2 Q)) ∧ (∀ m2, Pm2 (.int 0) m2 → (Q (.int (0 : Int32)) m2))))) ∧ (¬ 0 ≤ (v_X12_variableOf mm (mm.1 160 (mm.1 156 7).toNatClampNeg)) → (vp_in (mm.1 156 7) 2001 ∧ (∃ Pm1 : Value → MM → Prop, Runs e_X12_emit [.ref 156, .int (0 : Int32), .int (mm.1 160 (mm.1 156 7).toNatClampNeg)] mm Pm1 ∧ ∀ m1, Pm1 .null m1 → (∃ Pm2 : Value → MM → Prop, Runs e_X12_pass [.ref 156] m1 Pm2 ∧ (∀ r m2, Pm2 r m2 → r = .int 1 ∨ r = .int 0) ∧ (∀ m2, Pm2 (.int 1) m2 → (G e_X12_expr 21 [(0, .ref 156), (1, .int l1), (2, .int (0 : Int32)), (3, .int l3)] [] m2 Q)) ∧ (∀ m2, Pm2 (.int 0) m2 → (Q (.int (0 : Int32)) m2)))))))))) ∧ (¬ (mm.1 158 (mm.1 156 7).toNatClampNeg) = (1 : Int32) → ((0 ≤ (v_X12_variableOf mm (mm.1 160 (mm.1 156 7).toNatClampNeg)) → ((0 ≤ (v_X12_variableOf mm (mm.1 160 (mm.1 156 7).toNatClampNeg)) → ((0 ≤ (v_X12_variableOf mm (mm.1 160 (mm.1 156 7).toNatClampNeg)) → (∃ Pm1 : Value → MM → Prop, Runs e_X12_emit [.ref 156, .int (1 : Int32), .int (v_X12_variableOf mm (mm.1 160 (mm.1 156 7).toNatClampNeg))] mm Pm1 ∧ ∀ m1, Pm1 .null m1 → (∃ Pm2 : Value → MM → Prop, Runs e_X12_pass [.ref 156] m1 Pm2 ∧ (∀ r m2, Pm2 r m2 → r = .int 1 ∨ r = .int 0) ∧ (∀ m2, Pm2 (.int 1) m2 → (G e_X12_expr 21 [(0, .ref 156), (1, .int l1), (2, .int (0 : Int32)), (3, .int l3)] [] m2 Q)) ∧ (∀ m2, Pm2 (.int 0) m2 → (Q (.int (0 : Int32)) m2))))) ∧ (¬ 0 ≤ (v_X12_variableOf mm (mm.1 160 (mm.1 156 7).toNatClampNeg)) → (vp_in (mm.1 156 7) 2001 ∧ (∃ Pm1 : Value → MM → Prop, Runs e_X12_emit [.ref 156, .int (1 : Int32), .int (mm.1 160 (mm.1 156 7).toNatClampNeg)] mm Pm1 ∧ ∀ m1, Pm1 .null m1 → (∃ Pm2 : Value → MM → Prop, Runs e_X12_pass [.ref 156] m1 Pm2 ∧ (∀ r m2, Pm2 r m2 → r = .int 1 ∨ r = .int 0) ∧ (∀ m2, Pm2 (.int 1) m2 → (G e_X12_expr 21 [(0, .ref 156), (1, .int l1), (2, .int (0 : Int32)), (3, .int l3)] [] m2 Q)) ∧ (∀ m2, Pm2 (.int 0) m2 → (Q (.int (0 : Int32)) m2)))))))) ∧ (¬ 0 ≤ (v_X12_variableOf mm (mm.1 160 (mm.1 156 7).toNatClampNeg)) → ((0 ≤ (v_X12_variableOf mm (mm.1 160 (mm.1 156 7).toNatClampNeg)) → (∃ Pm1 : Value → MM → Prop, Runs e_X12_emit [.ref 156, .int (0 : Int32), .int (v_X12_variableOf mm (mm.1 160 (mm.1 156 7).toNatClampNeg))] mm Pm1 ∧ ∀ m1, Pm1 .null m1 → (∃ Pm2 : Value → MM → Prop, Runs e_X12_pass [.ref 156] m1 Pm2 ∧ (∀ r m2, Pm2 r m2 → r = .int 1 ∨ r = .int 0) ∧ (∀ m2, Pm2 (.int 1) m2 → (G e_X12_expr 21 [(0, .ref 156), (1, .int l1), (2, .int (0 : Int32)), (3, .int l3)] [] m2 Q)) ∧ (∀ m2, Pm2 (.int 0) m2 → (Q (.int (0 : Int32)) m2))))) ∧ (¬ 0 ≤ (v_X12_variableOf mm (mm.1 160 (mm.1 156 7).toNatClampNeg)) → (vp_in (mm.1 156 7) 2001 ∧ (∃ Pm1 : Value → MM → Prop, Runs e_X12_emit [.ref 156, .int (0 : Int32), .int (mm.1 160 (mm.1 156 7).toNatClampNeg)] mm Pm1 ∧ ∀ m1, Pm1 .null m1 → (∃ Pm2 : Value → MM → Prop, Runs e_X12_pass [.ref 156] m1 Pm2 ∧ (∀ r m2, Pm2 r m2 → r = .int 1 ∨ r = .int 0) ∧ (∀ m2, Pm2 (.int 1) m2 → (G e_X12_expr 21 [(0, .ref 156), (1, .int l1), (2, .int (0 : Int32)), (3, .int l3)] [] m2 Q)) ∧ (∀ m2, Pm2 (.int 0) m2 → (Q (.int (0 : Int32)) m2)))))))))) ∧ (¬ 0 ≤ (v_X12_variableOf mm (mm.1 160 (mm.1 156 7).toNatClampNeg)) → (∃ Pm1 : Value → MM → Prop, Runs e_X12_wrong [.ref 156, .int (1 : Int32)] mm Pm1 ∧ (∀ r m1, Pm1 r m1 → r = .int 1 ∨ r = .int 0) ∧ (∀ m1, Pm1 (.int 1) m1 → (Q (.int (1 : Int32)) m1)) ∧ (∀ m1, Pm1 (.int 0) m1 → (Q (.int (0 : Int32)) m1))))))))))))))))))) : G e_X12_expr 21 [(0, .ref 156), (1, .int l1), (2, .int l2), (3, .int l3)] [] mm Q := by
  refine g_iload_n (pc := 21) (x := l3) dX12_expr_21 rfl ?_
  refine g_if_eq (pc := 22) (tgt := 339) dX12_expr_22 (by decide) (fun c22 => ?_) (fun c22 => ?_)
  · have h := h.1 c22
    refine g_aload_n (pc := 339) (x := 156) dX12_expr_339 rfl ?_
    refine g_iconst (pc := 340) (v := (1 : Int32)) dX12_expr_340 (by decide) ?_
    refine g_iconst (pc := 341) (v := (0 : Int32)) dX12_expr_341 (by decide) ?_
    obtain ⟨Pm1, hRm1, h⟩ := h
    refine g_callV (pc := 342) (as := [.int (1 : Int32), .int (0 : Int32)]) dX12_expr_342 cw_X12_265 (by decide) rfl rfl sh_156 (Nat.le_of_ble_eq_true rfl) hRm1 ?_
    intro r_ m1 hz_ hp_
    obtain rfl := hz_
    have h := h m1 hp_
    refine g_iconst (pc := 345) (v := (1 : Int32)) dX12_expr_345 (by decide) ?_
    exact g_iret (pc := 346) dX12_expr_346 rfl rfl (nar_B isB1) h
  · have h := h.2 c22
    refine g_iload_n (pc := 25) (x := l2) dX12_expr_25 rfl ?_
    refine g_if_eq (pc := 26) (tgt := 172) dX12_expr_26 (by decide) (fun c26 => ?_) (fun c26 => ?_)
    · have h := h.1 c26
      refine g_aload_n (pc := 172) (x := 156) dX12_expr_172 rfl ?_
      refine g_bipush (pc := 173) (v := (42 : Int32)) dX12_expr_173 (by decide) ?_
      refine g_callV (pc := 175) (as := [.int (42 : Int32)]) dX12_expr_175 cw_X12_256 (by decide) rfl rfl sh_156 (Nat.le_of_ble_eq_true rfl) (rv_X12_isSign mm (42 : Int32) h.1) ?_
      have h := h.2
      rintro r_ m_ hz_ ⟨⟨p_, rfl⟩ | ⟨p_, rfl⟩, rfl⟩
      · have h := h.1 p_
        refine g_if_ne (pc := 178) (tgt := 190) dX12_expr_178 (by decide) (fun _ => ?_) (fun c178 => absurd c178 (by decide))
        refine g_aload_n (pc := 190) (x := 156) dX12_expr_190 rfl ?_
        refine g_iconst (pc := 191) (v := (2 : Int32)) dX12_expr_191 (by decide) ?_
        refine g_iconst (pc := 192) (v := (0 : Int32)) dX12_expr_192 (by decide) ?_
        obtain ⟨Pm1, hRm1, h⟩ := h
        refine g_callV (pc := 193) (as := [.int (2 : Int32), .int (0 : Int32)]) dX12_expr_193 cw_X12_265 (by decide) rfl rfl sh_156 (Nat.le_of_ble_eq_true rfl) hRm1 ?_
        intro r_ m1 hz_ hp_
        obtain rfl := hz_
        have h := h m1 hp_
        refine g_aload_n (pc := 196) (x := 156) dX12_expr_196 rfl ?_
        refine g_aload_n (pc := 197) (x := 156) dX12_expr_197 rfl ?_
        refine g_bipush (pc := 198) (v := (42 : Int32)) dX12_expr_198 (by decide) ?_
        refine g_callV (pc := 200) (as := [.int (42 : Int32)]) dX12_expr_200 cw_X12_256 (by decide) rfl rfl sh_156 (Nat.le_of_ble_eq_true rfl) (rv_X12_isSign m1 (42 : Int32) h.1) ?_
        have h := h.2
        rintro r_ m_ hz_ ⟨⟨p_, rfl⟩ | ⟨p_, rfl⟩, rfl⟩
        · have h := h.1 p_
          refine g_if_eq (pc := 203) (tgt := 210) dX12_expr_203 (by decide) (fun c203 => absurd c203 (by decide)) (fun _ => ?_)
          refine g_iconst (pc := 206) (v := (4 : Int32)) dX12_expr_206 (by decide) ?_
          refine g_goto (pc := 207) (tgt := 211) dX12_expr_207 (by decide) ?_
          obtain ⟨Pm2, hRm2, h⟩ := h
          refine g_callV (pc := 211) (as := [.int (4 : Int32)]) dX12_expr_211 cw_X12_259 (by decide) rfl rfl sh_156 (Nat.le_of_ble_eq_true rfl) hRm2 ?_
          intro r_ m2 hz_ hp_
          obtain rfl := hz_
          have h := h m2 hp_
          refine g_aload_n (pc := 214) (x := 156) dX12_expr_214 rfl ?_
          obtain ⟨Pm3, hRm3, h⟩ := h
          refine g_callV (pc := 215) (as := []) dX12_expr_215 cw_X12_230 (by decide) rfl rfl sh_156 (Nat.le_of_ble_eq_true rfl) hRm3 ?_
          intro r_ m3 hz_ hp_
          rcases h.1 r_ m3 hp_ with rfl | rfl
          · have h := h.2.1 m3 hp_
            refine g_if_ne (pc := 218) (tgt := 223) dX12_expr_218 (by decide) (fun _ => ?_) (fun c218 => absurd c218 (by decide))
            refine g_iconst (pc := 223) (v := (1 : Int32)) dX12_expr_223 (by decide) ?_
            refine g_istore_n (pc := 224) (L' := [(0, .ref 156), (1, .int l1), (2, .int (1 : Int32)), (3, .int l3)]) dX12_expr_224 (Nat.le_of_ble_eq_true rfl) rfl ?_
            refine g_goto (pc := 225) (tgt := 21) dX12_expr_225 (by decide) ?_
            exact h
          · have h := h.2.2 m3 hp_
            refine g_if_ne (pc := 218) (tgt := 223) dX12_expr_218 (by decide) (fun c218 => absurd c218 (by decide)) (fun _ => ?_)
            refine g_iconst (pc := 221) (v := (0 : Int32)) dX12_expr_221 (by decide) ?_
            exact g_iret (pc := 222) dX12_expr_222 rfl rfl (nar_B isB0) h
        · have h := h.2 p_
          refine g_if_eq (pc := 203) (tgt := 210) dX12_expr_203 (by decide) (fun _ => ?_) (fun c203 => absurd c203 (by decide))
          refine g_iconst (pc := 210) (v := (5 : Int32)) dX12_expr_210 (by decide) ?_
          obtain ⟨Pm2, hRm2, h⟩ := h
          refine g_callV (pc := 211) (as := [.int (5 : Int32)]) dX12_expr_211 cw_X12_259 (by decide) rfl rfl sh_156 (Nat.le_of_ble_eq_true rfl) hRm2 ?_
          intro r_ m2 hz_ hp_
          obtain rfl := hz_
          have h := h m2 hp_
          refine g_aload_n (pc := 214) (x := 156) dX12_expr_214 rfl ?_
          obtain ⟨Pm3, hRm3, h⟩ := h
          refine g_callV (pc := 215) (as := []) dX12_expr_215 cw_X12_230 (by decide) rfl rfl sh_156 (Nat.le_of_ble_eq_true rfl) hRm3 ?_
          intro r_ m3 hz_ hp_
          rcases h.1 r_ m3 hp_ with rfl | rfl
          · have h := h.2.1 m3 hp_
            refine g_if_ne (pc := 218) (tgt := 223) dX12_expr_218 (by decide) (fun _ => ?_) (fun c218 => absurd c218 (by decide))
            refine g_iconst (pc := 223) (v := (1 : Int32)) dX12_expr_223 (by decide) ?_
            refine g_istore_n (pc := 224) (L' := [(0, .ref 156), (1, .int l1), (2, .int (1 : Int32)), (3, .int l3)]) dX12_expr_224 (Nat.le_of_ble_eq_true rfl) rfl ?_
            refine g_goto (pc := 225) (tgt := 21) dX12_expr_225 (by decide) ?_
            exact h
          · have h := h.2.2 m3 hp_
            refine g_if_ne (pc := 218) (tgt := 223) dX12_expr_218 (by decide) (fun c218 => absurd c218 (by decide)) (fun _ => ?_)
            refine g_iconst (pc := 221) (v := (0 : Int32)) dX12_expr_221 (by decide) ?_
            exact g_iret (pc := 222) dX12_expr_222 rfl rfl (nar_B isB0) h
      · have h := h.2 p_
        refine g_if_ne (pc := 178) (tgt := 190) dX12_expr_178 (by decide) (fun c178 => absurd c178 (by decide)) (fun _ => ?_)
        refine g_aload_n (pc := 181) (x := 156) dX12_expr_181 rfl ?_
        refine g_bipush (pc := 182) (v := (47 : Int32)) dX12_expr_182 (by decide) ?_
        refine g_callV (pc := 184) (as := [.int (47 : Int32)]) dX12_expr_184 cw_X12_256 (by decide) rfl rfl sh_156 (Nat.le_of_ble_eq_true rfl) (rv_X12_isSign mm (47 : Int32) h.1) ?_
        have h := h.2
        rintro r_ m_ hz_ ⟨⟨p_, rfl⟩ | ⟨p_, rfl⟩, rfl⟩
        · have h := h.1 p_
          refine g_if_eq (pc := 187) (tgt := 228) dX12_expr_187 (by decide) (fun c187 => absurd c187 (by decide)) (fun _ => ?_)
          refine g_aload_n (pc := 190) (x := 156) dX12_expr_190 rfl ?_
          refine g_iconst (pc := 191) (v := (2 : Int32)) dX12_expr_191 (by decide) ?_
          refine g_iconst (pc := 192) (v := (0 : Int32)) dX12_expr_192 (by decide) ?_
          obtain ⟨Pm1, hRm1, h⟩ := h
          refine g_callV (pc := 193) (as := [.int (2 : Int32), .int (0 : Int32)]) dX12_expr_193 cw_X12_265 (by decide) rfl rfl sh_156 (Nat.le_of_ble_eq_true rfl) hRm1 ?_
          intro r_ m1 hz_ hp_
          obtain rfl := hz_
          have h := h m1 hp_
          refine g_aload_n (pc := 196) (x := 156) dX12_expr_196 rfl ?_
          refine g_aload_n (pc := 197) (x := 156) dX12_expr_197 rfl ?_
          refine g_bipush (pc := 198) (v := (42 : Int32)) dX12_expr_198 (by decide) ?_
          refine g_callV (pc := 200) (as := [.int (42 : Int32)]) dX12_expr_200 cw_X12_256 (by decide) rfl rfl sh_156 (Nat.le_of_ble_eq_true rfl) (rv_X12_isSign m1 (42 : Int32) h.1) ?_
          have h := h.2
          rintro r_ m_ hz_ ⟨⟨p_, rfl⟩ | ⟨p_, rfl⟩, rfl⟩
          · have h := h.1 p_
            refine g_if_eq (pc := 203) (tgt := 210) dX12_expr_203 (by decide) (fun c203 => absurd c203 (by decide)) (fun _ => ?_)
            refine g_iconst (pc := 206) (v := (4 : Int32)) dX12_expr_206 (by decide) ?_
            refine g_goto (pc := 207) (tgt := 211) dX12_expr_207 (by decide) ?_
            obtain ⟨Pm2, hRm2, h⟩ := h
            refine g_callV (pc := 211) (as := [.int (4 : Int32)]) dX12_expr_211 cw_X12_259 (by decide) rfl rfl sh_156 (Nat.le_of_ble_eq_true rfl) hRm2 ?_
            intro r_ m2 hz_ hp_
            obtain rfl := hz_
            have h := h m2 hp_
            refine g_aload_n (pc := 214) (x := 156) dX12_expr_214 rfl ?_
            obtain ⟨Pm3, hRm3, h⟩ := h
            refine g_callV (pc := 215) (as := []) dX12_expr_215 cw_X12_230 (by decide) rfl rfl sh_156 (Nat.le_of_ble_eq_true rfl) hRm3 ?_
            intro r_ m3 hz_ hp_
            rcases h.1 r_ m3 hp_ with rfl | rfl
            · have h := h.2.1 m3 hp_
              refine g_if_ne (pc := 218) (tgt := 223) dX12_expr_218 (by decide) (fun _ => ?_) (fun c218 => absurd c218 (by decide))
              refine g_iconst (pc := 223) (v := (1 : Int32)) dX12_expr_223 (by decide) ?_
              refine g_istore_n (pc := 224) (L' := [(0, .ref 156), (1, .int l1), (2, .int (1 : Int32)), (3, .int l3)]) dX12_expr_224 (Nat.le_of_ble_eq_true rfl) rfl ?_
              refine g_goto (pc := 225) (tgt := 21) dX12_expr_225 (by decide) ?_
              exact h
            · have h := h.2.2 m3 hp_
              refine g_if_ne (pc := 218) (tgt := 223) dX12_expr_218 (by decide) (fun c218 => absurd c218 (by decide)) (fun _ => ?_)
              refine g_iconst (pc := 221) (v := (0 : Int32)) dX12_expr_221 (by decide) ?_
              exact g_iret (pc := 222) dX12_expr_222 rfl rfl (nar_B isB0) h
          · have h := h.2 p_
            refine g_if_eq (pc := 203) (tgt := 210) dX12_expr_203 (by decide) (fun _ => ?_) (fun c203 => absurd c203 (by decide))
            refine g_iconst (pc := 210) (v := (5 : Int32)) dX12_expr_210 (by decide) ?_
            obtain ⟨Pm2, hRm2, h⟩ := h
            refine g_callV (pc := 211) (as := [.int (5 : Int32)]) dX12_expr_211 cw_X12_259 (by decide) rfl rfl sh_156 (Nat.le_of_ble_eq_true rfl) hRm2 ?_
            intro r_ m2 hz_ hp_
            obtain rfl := hz_
            have h := h m2 hp_
            refine g_aload_n (pc := 214) (x := 156) dX12_expr_214 rfl ?_
            obtain ⟨Pm3, hRm3, h⟩ := h
            refine g_callV (pc := 215) (as := []) dX12_expr_215 cw_X12_230 (by decide) rfl rfl sh_156 (Nat.le_of_ble_eq_true rfl) hRm3 ?_
            intro r_ m3 hz_ hp_
            rcases h.1 r_ m3 hp_ with rfl | rfl
            · have h := h.2.1 m3 hp_
              refine g_if_ne (pc := 218) (tgt := 223) dX12_expr_218 (by decide) (fun _ => ?_) (fun c218 => absurd c218 (by decide))
              refine g_iconst (pc := 223) (v := (1 : Int32)) dX12_expr_223 (by decide) ?_
              refine g_istore_n (pc := 224) (L' := [(0, .ref 156), (1, .int l1), (2, .int (1 : Int32)), (3, .int l3)]) dX12_expr_224 (Nat.le_of_ble_eq_true rfl) rfl ?_
              refine g_goto (pc := 225) (tgt := 21) dX12_expr_225 (by decide) ?_
              exact h
            · have h := h.2.2 m3 hp_
              refine g_if_ne (pc := 218) (tgt := 223) dX12_expr_218 (by decide) (fun c218 => absurd c218 (by decide)) (fun _ => ?_)
              refine g_iconst (pc := 221) (v := (0 : Int32)) dX12_expr_221 (by decide) ?_
              exact g_iret (pc := 222) dX12_expr_222 rfl rfl (nar_B isB0) h
        · have h := h.2 p_
          refine g_if_eq (pc := 187) (tgt := 228) dX12_expr_187 (by decide) (fun _ => ?_) (fun c187 => absurd c187 (by decide))
          refine g_aload_n (pc := 228) (x := 156) dX12_expr_228 rfl ?_
          refine g_bipush (pc := 229) (v := (43 : Int32)) dX12_expr_229 (by decide) ?_
          refine g_callV (pc := 231) (as := [.int (43 : Int32)]) dX12_expr_231 cw_X12_256 (by decide) rfl rfl sh_156 (Nat.le_of_ble_eq_true rfl) (rv_X12_isSign mm (43 : Int32) h.1) ?_
          have h := h.2
          rintro r_ m_ hz_ ⟨⟨p_, rfl⟩ | ⟨p_, rfl⟩, rfl⟩
          · have h := h.1 p_
            refine g_if_ne (pc := 234) (tgt := 246) dX12_expr_234 (by decide) (fun _ => ?_) (fun c234 => absurd c234 (by decide))
            refine g_aload_n (pc := 246) (x := 156) dX12_expr_246 rfl ?_
            refine g_iconst (pc := 247) (v := (1 : Int32)) dX12_expr_247 (by decide) ?_
            refine g_iconst (pc := 248) (v := (0 : Int32)) dX12_expr_248 (by decide) ?_
            obtain ⟨Pm1, hRm1, h⟩ := h
            refine g_callV (pc := 249) (as := [.int (1 : Int32), .int (0 : Int32)]) dX12_expr_249 cw_X12_265 (by decide) rfl rfl sh_156 (Nat.le_of_ble_eq_true rfl) hRm1 ?_
            intro r_ m1 hz_ hp_
            obtain rfl := hz_
            have h := h m1 hp_
            refine g_aload_n (pc := 252) (x := 156) dX12_expr_252 rfl ?_
            refine g_aload_n (pc := 253) (x := 156) dX12_expr_253 rfl ?_
            refine g_bipush (pc := 254) (v := (43 : Int32)) dX12_expr_254 (by decide) ?_
            refine g_callV (pc := 256) (as := [.int (43 : Int32)]) dX12_expr_256 cw_X12_256 (by decide) rfl rfl sh_156 (Nat.le_of_ble_eq_true rfl) (rv_X12_isSign m1 (43 : Int32) h.1) ?_
            have h := h.2
            rintro r_ m_ hz_ ⟨⟨p_, rfl⟩ | ⟨p_, rfl⟩, rfl⟩
            · have h := h.1 p_
              refine g_if_eq (pc := 259) (tgt := 266) dX12_expr_259 (by decide) (fun c259 => absurd c259 (by decide)) (fun _ => ?_)
              refine g_iconst (pc := 262) (v := (2 : Int32)) dX12_expr_262 (by decide) ?_
              refine g_goto (pc := 263) (tgt := 267) dX12_expr_263 (by decide) ?_
              obtain ⟨Pm2, hRm2, h⟩ := h
              refine g_callV (pc := 267) (as := [.int (2 : Int32)]) dX12_expr_267 cw_X12_259 (by decide) rfl rfl sh_156 (Nat.le_of_ble_eq_true rfl) hRm2 ?_
              intro r_ m2 hz_ hp_
              obtain rfl := hz_
              have h := h m2 hp_
              refine g_aload_n (pc := 270) (x := 156) dX12_expr_270 rfl ?_
              obtain ⟨Pm3, hRm3, h⟩ := h
              refine g_callV (pc := 271) (as := []) dX12_expr_271 cw_X12_230 (by decide) rfl rfl sh_156 (Nat.le_of_ble_eq_true rfl) hRm3 ?_
              intro r_ m3 hz_ hp_
              rcases h.1 r_ m3 hp_ with rfl | rfl
              · have h := h.2.1 m3 hp_
                refine g_if_ne (pc := 274) (tgt := 279) dX12_expr_274 (by decide) (fun _ => ?_) (fun c274 => absurd c274 (by decide))
                refine g_iconst (pc := 279) (v := (1 : Int32)) dX12_expr_279 (by decide) ?_
                refine g_istore_n (pc := 280) (L' := [(0, .ref 156), (1, .int l1), (2, .int (1 : Int32)), (3, .int l3)]) dX12_expr_280 (Nat.le_of_ble_eq_true rfl) rfl ?_
                refine g_goto (pc := 281) (tgt := 21) dX12_expr_281 (by decide) ?_
                exact h
              · have h := h.2.2 m3 hp_
                refine g_if_ne (pc := 274) (tgt := 279) dX12_expr_274 (by decide) (fun c274 => absurd c274 (by decide)) (fun _ => ?_)
                refine g_iconst (pc := 277) (v := (0 : Int32)) dX12_expr_277 (by decide) ?_
                exact g_iret (pc := 278) dX12_expr_278 rfl rfl (nar_B isB0) h
            · have h := h.2 p_
              refine g_if_eq (pc := 259) (tgt := 266) dX12_expr_259 (by decide) (fun _ => ?_) (fun c259 => absurd c259 (by decide))
              refine g_iconst (pc := 266) (v := (3 : Int32)) dX12_expr_266 (by decide) ?_
              obtain ⟨Pm2, hRm2, h⟩ := h
              refine g_callV (pc := 267) (as := [.int (3 : Int32)]) dX12_expr_267 cw_X12_259 (by decide) rfl rfl sh_156 (Nat.le_of_ble_eq_true rfl) hRm2 ?_
              intro r_ m2 hz_ hp_
              obtain rfl := hz_
              have h := h m2 hp_
              refine g_aload_n (pc := 270) (x := 156) dX12_expr_270 rfl ?_
              obtain ⟨Pm3, hRm3, h⟩ := h
              refine g_callV (pc := 271) (as := []) dX12_expr_271 cw_X12_230 (by decide) rfl rfl sh_156 (Nat.le_of_ble_eq_true rfl) hRm3 ?_
              intro r_ m3 hz_ hp_
              rcases h.1 r_ m3 hp_ with rfl | rfl
              · have h := h.2.1 m3 hp_
                refine g_if_ne (pc := 274) (tgt := 279) dX12_expr_274 (by decide) (fun _ => ?_) (fun c274 => absurd c274 (by decide))
                refine g_iconst (pc := 279) (v := (1 : Int32)) dX12_expr_279 (by decide) ?_
                refine g_istore_n (pc := 280) (L' := [(0, .ref 156), (1, .int l1), (2, .int (1 : Int32)), (3, .int l3)]) dX12_expr_280 (Nat.le_of_ble_eq_true rfl) rfl ?_
                refine g_goto (pc := 281) (tgt := 21) dX12_expr_281 (by decide) ?_
                exact h
              · have h := h.2.2 m3 hp_
                refine g_if_ne (pc := 274) (tgt := 279) dX12_expr_274 (by decide) (fun c274 => absurd c274 (by decide)) (fun _ => ?_)
                refine g_iconst (pc := 277) (v := (0 : Int32)) dX12_expr_277 (by decide) ?_
                exact g_iret (pc := 278) dX12_expr_278 rfl rfl (nar_B isB0) h
          · have h := h.2 p_
            refine g_if_ne (pc := 234) (tgt := 246) dX12_expr_234 (by decide) (fun c234 => absurd c234 (by decide)) (fun _ => ?_)
            refine g_aload_n (pc := 237) (x := 156) dX12_expr_237 rfl ?_
            refine g_bipush (pc := 238) (v := (45 : Int32)) dX12_expr_238 (by decide) ?_
            refine g_callV (pc := 240) (as := [.int (45 : Int32)]) dX12_expr_240 cw_X12_256 (by decide) rfl rfl sh_156 (Nat.le_of_ble_eq_true rfl) (rv_X12_isSign mm (45 : Int32) h.1) ?_
            have h := h.2
            rintro r_ m_ hz_ ⟨⟨p_, rfl⟩ | ⟨p_, rfl⟩, rfl⟩
            · have h := h.1 p_
              refine g_if_eq (pc := 243) (tgt := 284) dX12_expr_243 (by decide) (fun c243 => absurd c243 (by decide)) (fun _ => ?_)
              refine g_aload_n (pc := 246) (x := 156) dX12_expr_246 rfl ?_
              refine g_iconst (pc := 247) (v := (1 : Int32)) dX12_expr_247 (by decide) ?_
              refine g_iconst (pc := 248) (v := (0 : Int32)) dX12_expr_248 (by decide) ?_
              obtain ⟨Pm1, hRm1, h⟩ := h
              refine g_callV (pc := 249) (as := [.int (1 : Int32), .int (0 : Int32)]) dX12_expr_249 cw_X12_265 (by decide) rfl rfl sh_156 (Nat.le_of_ble_eq_true rfl) hRm1 ?_
              intro r_ m1 hz_ hp_
              obtain rfl := hz_
              have h := h m1 hp_
              refine g_aload_n (pc := 252) (x := 156) dX12_expr_252 rfl ?_
              refine g_aload_n (pc := 253) (x := 156) dX12_expr_253 rfl ?_
              refine g_bipush (pc := 254) (v := (43 : Int32)) dX12_expr_254 (by decide) ?_
              refine g_callV (pc := 256) (as := [.int (43 : Int32)]) dX12_expr_256 cw_X12_256 (by decide) rfl rfl sh_156 (Nat.le_of_ble_eq_true rfl) (rv_X12_isSign m1 (43 : Int32) h.1) ?_
              have h := h.2
              rintro r_ m_ hz_ ⟨⟨p_, rfl⟩ | ⟨p_, rfl⟩, rfl⟩
              · have h := h.1 p_
                refine g_if_eq (pc := 259) (tgt := 266) dX12_expr_259 (by decide) (fun c259 => absurd c259 (by decide)) (fun _ => ?_)
                refine g_iconst (pc := 262) (v := (2 : Int32)) dX12_expr_262 (by decide) ?_
                refine g_goto (pc := 263) (tgt := 267) dX12_expr_263 (by decide) ?_
                obtain ⟨Pm2, hRm2, h⟩ := h
                refine g_callV (pc := 267) (as := [.int (2 : Int32)]) dX12_expr_267 cw_X12_259 (by decide) rfl rfl sh_156 (Nat.le_of_ble_eq_true rfl) hRm2 ?_
                intro r_ m2 hz_ hp_
                obtain rfl := hz_
                have h := h m2 hp_
                refine g_aload_n (pc := 270) (x := 156) dX12_expr_270 rfl ?_
                obtain ⟨Pm3, hRm3, h⟩ := h
                refine g_callV (pc := 271) (as := []) dX12_expr_271 cw_X12_230 (by decide) rfl rfl sh_156 (Nat.le_of_ble_eq_true rfl) hRm3 ?_
                intro r_ m3 hz_ hp_
                rcases h.1 r_ m3 hp_ with rfl | rfl
                · have h := h.2.1 m3 hp_
                  refine g_if_ne (pc := 274) (tgt := 279) dX12_expr_274 (by decide) (fun _ => ?_) (fun c274 => absurd c274 (by decide))
                  refine g_iconst (pc := 279) (v := (1 : Int32)) dX12_expr_279 (by decide) ?_
                  refine g_istore_n (pc := 280) (L' := [(0, .ref 156), (1, .int l1), (2, .int (1 : Int32)), (3, .int l3)]) dX12_expr_280 (Nat.le_of_ble_eq_true rfl) rfl ?_
                  refine g_goto (pc := 281) (tgt := 21) dX12_expr_281 (by decide) ?_
                  exact h
                · have h := h.2.2 m3 hp_
                  refine g_if_ne (pc := 274) (tgt := 279) dX12_expr_274 (by decide) (fun c274 => absurd c274 (by decide)) (fun _ => ?_)
                  refine g_iconst (pc := 277) (v := (0 : Int32)) dX12_expr_277 (by decide) ?_
                  exact g_iret (pc := 278) dX12_expr_278 rfl rfl (nar_B isB0) h
              · have h := h.2 p_
                refine g_if_eq (pc := 259) (tgt := 266) dX12_expr_259 (by decide) (fun _ => ?_) (fun c259 => absurd c259 (by decide))
                refine g_iconst (pc := 266) (v := (3 : Int32)) dX12_expr_266 (by decide) ?_
                obtain ⟨Pm2, hRm2, h⟩ := h
                refine g_callV (pc := 267) (as := [.int (3 : Int32)]) dX12_expr_267 cw_X12_259 (by decide) rfl rfl sh_156 (Nat.le_of_ble_eq_true rfl) hRm2 ?_
                intro r_ m2 hz_ hp_
                obtain rfl := hz_
                have h := h m2 hp_
                refine g_aload_n (pc := 270) (x := 156) dX12_expr_270 rfl ?_
                obtain ⟨Pm3, hRm3, h⟩ := h
                refine g_callV (pc := 271) (as := []) dX12_expr_271 cw_X12_230 (by decide) rfl rfl sh_156 (Nat.le_of_ble_eq_true rfl) hRm3 ?_
                intro r_ m3 hz_ hp_
                rcases h.1 r_ m3 hp_ with rfl | rfl
                · have h := h.2.1 m3 hp_
                  refine g_if_ne (pc := 274) (tgt := 279) dX12_expr_274 (by decide) (fun _ => ?_) (fun c274 => absurd c274 (by decide))
                  refine g_iconst (pc := 279) (v := (1 : Int32)) dX12_expr_279 (by decide) ?_
                  refine g_istore_n (pc := 280) (L' := [(0, .ref 156), (1, .int l1), (2, .int (1 : Int32)), (3, .int l3)]) dX12_expr_280 (Nat.le_of_ble_eq_true rfl) rfl ?_
                  refine g_goto (pc := 281) (tgt := 21) dX12_expr_281 (by decide) ?_
                  exact h
                · have h := h.2.2 m3 hp_
                  refine g_if_ne (pc := 274) (tgt := 279) dX12_expr_274 (by decide) (fun c274 => absurd c274 (by decide)) (fun _ => ?_)
                  refine g_iconst (pc := 277) (v := (0 : Int32)) dX12_expr_277 (by decide) ?_
                  exact g_iret (pc := 278) dX12_expr_278 rfl rfl (nar_B isB0) h
            · have h := h.2 p_
              refine g_if_eq (pc := 243) (tgt := 284) dX12_expr_243 (by decide) (fun _ => ?_) (fun c243 => absurd c243 (by decide))
              refine g_iload_n (pc := 284) (x := l1) dX12_expr_284 rfl ?_
              refine g_if_le (pc := 285) (tgt := 334) dX12_expr_285 (by decide) (fun c285 => ?_) (fun c285 => ?_)
              · have h := h.1 c285
                refine g_iconst (pc := 334) (v := (0 : Int32)) dX12_expr_334 (by decide) ?_
                refine g_istore_n (pc := 335) (L' := [(0, .ref 156), (1, .int l1), (2, .int l2), (3, .int (0 : Int32))]) dX12_expr_335 (Nat.le_of_ble_eq_true rfl) rfl ?_
                refine g_goto (pc := 336) (tgt := 21) dX12_expr_336 (by decide) ?_
                exact h
              · have h := h.2 c285
                refine g_aload_n (pc := 288) (x := 156) dX12_expr_288 rfl ?_
                refine g_bipush (pc := 289) (v := (41 : Int32)) dX12_expr_289 (by decide) ?_
                refine g_callV (pc := 291) (as := [.int (41 : Int32)]) dX12_expr_291 cw_X12_256 (by decide) rfl rfl sh_156 (Nat.le_of_ble_eq_true rfl) (rv_X12_isSign mm (41 : Int32) h.1) ?_
                have h := h.2
                rintro r_ m_ hz_ ⟨⟨p_, rfl⟩ | ⟨p_, rfl⟩, rfl⟩
                · have h := h.1 p_
                  refine g_if_ne (pc := 294) (tgt := 303) dX12_expr_294 (by decide) (fun _ => ?_) (fun c294 => absurd c294 (by decide))
                  refine g_aload_n (pc := 303) (x := 156) dX12_expr_303 rfl ?_
                  obtain ⟨Pm1, hRm1, h⟩ := h
                  refine g_callV (pc := 304) (as := []) dX12_expr_304 cw_X12_230 (by decide) rfl rfl sh_156 (Nat.le_of_ble_eq_true rfl) hRm1 ?_
                  intro r_ m1 hz_ hp_
                  rcases h.1 r_ m1 hp_ with rfl | rfl
                  · have h := h.2.1 m1 hp_
                    refine g_if_ne (pc := 307) (tgt := 312) dX12_expr_307 (by decide) (fun _ => ?_) (fun c307 => absurd c307 (by decide))
                    refine g_aload_n (pc := 312) (x := 156) dX12_expr_312 rfl ?_
                    refine g_iconst (pc := 313) (v := (1 : Int32)) dX12_expr_313 (by decide) ?_
                    refine g_iconst (pc := 314) (v := (0 : Int32)) dX12_expr_314 (by decide) ?_
                    obtain ⟨Pm2, hRm2, h⟩ := h
                    refine g_callV (pc := 315) (as := [.int (1 : Int32), .int (0 : Int32)]) dX12_expr_315 cw_X12_265 (by decide) rfl rfl sh_156 (Nat.le_of_ble_eq_true rfl) hRm2 ?_
                    intro r_ m2 hz_ hp_
                    obtain rfl := hz_
                    have h := h m2 hp_
                    refine g_aload_n (pc := 318) (x := 156) dX12_expr_318 rfl ?_
                    refine g_dup (pc := 319) dX12_expr_319 rfl ?_
                    refine g_getI (pc := 320) dX12_expr_320 fo_X12_244 sh_156 rfl ?_
                    refine g_iconst (pc := 323) (v := (1 : Int32)) dX12_expr_323 (by decide) ?_
                    refine g_isub (pc := 324) dX12_expr_324 ?_
                    refine g_putI (pc := 325) dX12_expr_325 fo_X12_244 sh_156 rfl rfl rfl ?_
                    refine g_iinc (pc := 328) (x := l1) (v := (l1 + (-1 : Int32))) (L' := [(0, .ref 156), (1, .int (l1 + (-1 : Int32))), (2, .int l2), (3, .int l3)]) dX12_expr_328 rfl rfl (Nat.le_of_ble_eq_true rfl) rfl ?_
                    refine g_goto (pc := 331) (tgt := 21) dX12_expr_331 (by decide) ?_
                    exact h
                  · have h := h.2.2 m1 hp_
                    refine g_if_ne (pc := 307) (tgt := 312) dX12_expr_307 (by decide) (fun c307 => absurd c307 (by decide)) (fun _ => ?_)
                    refine g_iconst (pc := 310) (v := (0 : Int32)) dX12_expr_310 (by decide) ?_
                    exact g_iret (pc := 311) dX12_expr_311 rfl rfl (nar_B isB0) h
                · have h := h.2 p_
                  refine g_if_ne (pc := 294) (tgt := 303) dX12_expr_294 (by decide) (fun c294 => absurd c294 (by decide)) (fun _ => ?_)
                  refine g_aload_n (pc := 297) (x := 156) dX12_expr_297 rfl ?_
                  refine g_iconst (pc := 298) (v := (1 : Int32)) dX12_expr_298 (by decide) ?_
                  obtain ⟨Pm1, hRm1, h⟩ := h
                  refine g_callV (pc := 299) (as := [.int (1 : Int32)]) dX12_expr_299 cw_X12_227 (by decide) rfl rfl sh_156 (Nat.le_of_ble_eq_true rfl) hRm1 ?_
                  intro r_ m1 hz_ hp_
                  rcases h.1 r_ m1 hp_ with rfl | rfl
                  · have h := h.2.1 m1 hp_
                    exact g_iret (pc := 302) dX12_expr_302 rfl rfl (nar_B isB1) h
                  · have h := h.2.2 m1 hp_
                    exact g_iret (pc := 302) dX12_expr_302 rfl rfl (nar_B isB0) h
    · have h := h.2 c26
      refine g_aload_n (pc := 29) (x := 156) dX12_expr_29 rfl ?_
      refine g_bipush (pc := 30) (v := (40 : Int32)) dX12_expr_30 (by decide) ?_
      refine g_callV (pc := 32) (as := [.int (40 : Int32)]) dX12_expr_32 cw_X12_256 (by decide) rfl rfl sh_156 (Nat.le_of_ble_eq_true rfl) (rv_X12_isSign mm (40 : Int32) h.1) ?_
      have h := h.2
      rintro r_ m_ hz_ ⟨⟨p_, rfl⟩ | ⟨p_, rfl⟩, rfl⟩
      · have h := h.1 p_
        refine g_if_eq (pc := 35) (tgt := 70) dX12_expr_35 (by decide) (fun c35 => absurd c35 (by decide)) (fun _ => ?_)
        refine g_iload_n (pc := 38) (x := l1) dX12_expr_38 rfl ?_
        refine g_bipush (pc := 39) (v := (6 : Int32)) dX12_expr_39 (by decide) ?_
        refine g_icmp_ne (pc := 41) (tgt := 50) dX12_expr_41 (by decide) (fun c41 => ?_) (fun c41 => ?_)
        · have h := h.1 c41
          refine g_aload_n (pc := 50) (x := 156) dX12_expr_50 rfl ?_
          obtain ⟨Pm1, hRm1, h⟩ := h
          refine g_callV (pc := 51) (as := []) dX12_expr_51 cw_X12_230 (by decide) rfl rfl sh_156 (Nat.le_of_ble_eq_true rfl) hRm1 ?_
          intro r_ m1 hz_ hp_
          rcases h.1 r_ m1 hp_ with rfl | rfl
          · have h := h.2.1 m1 hp_
            refine g_if_ne (pc := 54) (tgt := 59) dX12_expr_54 (by decide) (fun _ => ?_) (fun c54 => absurd c54 (by decide))
            refine g_iinc (pc := 59) (x := l1) (v := (l1 + (1 : Int32))) (L' := [(0, .ref 156), (1, .int (l1 + (1 : Int32))), (2, .int l2), (3, .int l3)]) dX12_expr_59 rfl rfl (Nat.le_of_ble_eq_true rfl) rfl ?_
            refine g_aload_n (pc := 62) (x := 156) dX12_expr_62 rfl ?_
            refine g_iconst (pc := 63) (v := (0 : Int32)) dX12_expr_63 (by decide) ?_
            obtain ⟨Pm2, hRm2, h⟩ := h
            refine g_callV (pc := 64) (as := [.int (0 : Int32)]) dX12_expr_64 cw_X12_259 (by decide) rfl rfl sh_156 (Nat.le_of_ble_eq_true rfl) hRm2 ?_
            intro r_ m2 hz_ hp_
            obtain rfl := hz_
            have h := h m2 hp_
            refine g_goto (pc := 67) (tgt := 21) dX12_expr_67 (by decide) ?_
            exact h
          · have h := h.2.2 m1 hp_
            refine g_if_ne (pc := 54) (tgt := 59) dX12_expr_54 (by decide) (fun c54 => absurd c54 (by decide)) (fun _ => ?_)
            refine g_iconst (pc := 57) (v := (0 : Int32)) dX12_expr_57 (by decide) ?_
            exact g_iret (pc := 58) dX12_expr_58 rfl rfl (nar_B isB0) h
        · have h := h.2 c41
          refine g_aload_n (pc := 44) (x := 156) dX12_expr_44 rfl ?_
          refine g_iconst (pc := 45) (v := (2 : Int32)) dX12_expr_45 (by decide) ?_
          obtain ⟨Pm1, hRm1, h⟩ := h
          refine g_callV (pc := 46) (as := [.int (2 : Int32)]) dX12_expr_46 cw_X12_227 (by decide) rfl rfl sh_156 (Nat.le_of_ble_eq_true rfl) hRm1 ?_
          intro r_ m1 hz_ hp_
          rcases h.1 r_ m1 hp_ with rfl | rfl
          · have h := h.2.1 m1 hp_
            exact g_iret (pc := 49) dX12_expr_49 rfl rfl (nar_B isB1) h
          · have h := h.2.2 m1 hp_
            exact g_iret (pc := 49) dX12_expr_49 rfl rfl (nar_B isB0) h
      · have h := h.2 p_
        refine g_if_eq (pc := 35) (tgt := 70) dX12_expr_35 (by decide) (fun _ => ?_) (fun c35 => absurd c35 (by decide))
        refine g_aload_n (pc := 70) (x := 156) dX12_expr_70 rfl ?_
        refine g_getR (pc := 71) (dd := 2) dX12_expr_71 fo_X12_13 sh_156 rfl ?_
        refine g_aload_n (pc := 74) (x := 156) dX12_expr_74 rfl ?_
        refine g_getI (pc := 75) dX12_expr_75 fo_X12_218 sh_156 rfl ?_
        refine g_iaload (pc := 78) dX12_expr_78 sh_158 h.1 ?_
        have h := h.2
        refine g_iconst (pc := 79) (v := (3 : Int32)) dX12_expr_79 (by decide) ?_
        refine g_icmp_ne (pc := 80) (tgt := 98) dX12_expr_80 (by decide) (fun c80 => ?_) (fun c80 => ?_)
        · have h := h.1 c80
          refine g_iconst (pc := 98) (v := (-1 : Int32)) dX12_expr_98 (by decide) ?_
          refine g_istore (pc := 99) (L' := [(0, .ref 156), (1, .int l1), (2, .int l2), (3, .int l3), (4, .int (-1 : Int32))]) dX12_expr_99 (Nat.le_of_ble_eq_true rfl) rfl ?_
          refine g_aload_n (pc := 101) (x := 156) dX12_expr_101 rfl ?_
          refine g_getR (pc := 102) (dd := 2) dX12_expr_102 fo_X12_13 sh_156 rfl ?_
          refine g_aload_n (pc := 105) (x := 156) dX12_expr_105 rfl ?_
          refine g_getI (pc := 106) dX12_expr_106 fo_X12_218 sh_156 rfl ?_
          refine g_iaload (pc := 109) dX12_expr_109 sh_158 h.1 ?_
          have h := h.2
          refine g_iconst (pc := 110) (v := (1 : Int32)) dX12_expr_110 (by decide) ?_
          refine g_icmp_eq (pc := 111) (tgt := 125) dX12_expr_111 (by decide) (fun c111 => ?_) (fun c111 => ?_)
          · have h := h.1 c111
            refine g_aload_n (pc := 125) (x := 156) dX12_expr_125 rfl ?_
            refine g_iload (pc := 126) (x := (-1 : Int32)) dX12_expr_126 rfl ?_
            refine g_if_ge (pc := 128) (tgt := 135) dX12_expr_128 (by decide) (fun c128 => absurd c128 (by decide)) (fun _ => ?_)
            refine g_iconst (pc := 131) (v := (0 : Int32)) dX12_expr_131 (by decide) ?_
            refine g_goto (pc := 132) (tgt := 136) dX12_expr_132 (by decide) ?_
            refine g_iload (pc := 136) (x := (-1 : Int32)) dX12_expr_136 rfl ?_
            refine g_if_ge (pc := 138) (tgt := 153) dX12_expr_138 (by decide) (fun c138 => absurd c138 (by decide)) (fun _ => ?_)
            refine g_aload_n (pc := 141) (x := 156) dX12_expr_141 rfl ?_
            refine g_getR (pc := 142) (dd := 4) dX12_expr_142 fo_X12_19 sh_156 rfl ?_
            refine g_aload_n (pc := 145) (x := 156) dX12_expr_145 rfl ?_
            refine g_getI (pc := 146) dX12_expr_146 fo_X12_218 sh_156 rfl ?_
            refine g_iaload (pc := 149) dX12_expr_149 sh_160 h.1 ?_
            have h := h.2
            refine g_goto (pc := 150) (tgt := 155) dX12_expr_150 (by decide) ?_
            obtain ⟨Pm1, hRm1, h⟩ := h
            refine g_callV (pc := 155) (as := [.int (0 : Int32), .int (mm.1 160 (mm.1 156 7).toNatClampNeg)]) dX12_expr_155 cw_X12_250 (by decide) rfl rfl sh_156 (Nat.le_of_ble_eq_true rfl) hRm1 ?_
            intro r_ m1 hz_ hp_
            obtain rfl := hz_
            have h := h m1 hp_
            refine g_aload_n (pc := 158) (x := 156) dX12_expr_158 rfl ?_
            obtain ⟨Pm2, hRm2, h⟩ := h
            refine g_callV (pc := 159) (as := []) dX12_expr_159 cw_X12_230 (by decide) rfl rfl sh_156 (Nat.le_of_ble_eq_true rfl) hRm2 ?_
            intro r_ m2 hz_ hp_
            rcases h.1 r_ m2 hp_ with rfl | rfl
            · have h := h.2.1 m2 hp_
              refine g_if_ne (pc := 162) (tgt := 167) dX12_expr_162 (by decide) (fun _ => ?_) (fun c162 => absurd c162 (by decide))
              refine g_iconst (pc := 167) (v := (0 : Int32)) dX12_expr_167 (by decide) ?_
              refine g_istore_n (pc := 168) (L' := [(0, .ref 156), (1, .int l1), (2, .int (0 : Int32)), (3, .int l3), (4, .int (-1 : Int32))]) dX12_expr_168 (Nat.le_of_ble_eq_true rfl) rfl ?_
              refine g_goto (pc := 169) (tgt := 21) dX12_expr_169 (by decide) ?_
              refine g_sub (L' := [(0, .ref 156), (1, .int l1), (2, .int (0 : Int32)), (3, .int l3)]) [0, 1, 2, 3] rfl ?_
              exact h
            · have h := h.2.2 m2 hp_
              refine g_if_ne (pc := 162) (tgt := 167) dX12_expr_162 (by decide) (fun c162 => absurd c162 (by decide)) (fun _ => ?_)
              refine g_iconst (pc := 165) (v := (0 : Int32)) dX12_expr_165 (by decide) ?_
              exact g_iret (pc := 166) dX12_expr_166 rfl rfl (nar_B isB0) h
          · have h := h.2 c111
            refine g_iload (pc := 114) (x := (-1 : Int32)) dX12_expr_114 rfl ?_
            refine g_if_ge (pc := 116) (tgt := 125) dX12_expr_116 (by decide) (fun c116 => absurd c116 (by decide)) (fun _ => ?_)
            refine g_aload_n (pc := 119) (x := 156) dX12_expr_119 rfl ?_
            refine g_iconst (pc := 120) (v := (1 : Int32)) dX12_expr_120 (by decide) ?_
            obtain ⟨Pm1, hRm1, h⟩ := h
            refine g_callV (pc := 121) (as := [.int (1 : Int32)]) dX12_expr_121 cw_X12_227 (by decide) rfl rfl sh_156 (Nat.le_of_ble_eq_true rfl) hRm1 ?_
            intro r_ m1 hz_ hp_
            rcases h.1 r_ m1 hp_ with rfl | rfl
            · have h := h.2.1 m1 hp_
              exact g_iret (pc := 124) dX12_expr_124 rfl rfl (nar_B isB1) h
            · have h := h.2.2 m1 hp_
              exact g_iret (pc := 124) dX12_expr_124 rfl rfl (nar_B isB0) h
        · have h := h.2 c80
          refine g_aload_n (pc := 83) (x := 156) dX12_expr_83 rfl ?_
          refine g_getR (pc := 84) (dd := 4) dX12_expr_84 fo_X12_19 sh_156 rfl ?_
          refine g_aload_n (pc := 87) (x := 156) dX12_expr_87 rfl ?_
          refine g_getI (pc := 88) dX12_expr_88 fo_X12_218 sh_156 rfl ?_
          refine g_iaload (pc := 91) dX12_expr_91 sh_160 h.1 ?_
          have h := h.2
          refine g_callS (pc := 92) (as := [.int (mm.1 160 (mm.1 156 7).toNatClampNeg)]) dX12_expr_92 cw_X12_262 (by decide) rfl rfl (Nat.le_of_ble_eq_true rfl) (rv_X12_variableOf mm (mm.1 160 (mm.1 156 7).toNatClampNeg)) ?_
          rintro r_ m_ hz_ ⟨rfl, rfl⟩
          refine g_goto (pc := 95) (tgt := 99) dX12_expr_95 (by decide) ?_
          refine g_istore (pc := 99) (L' := [(0, .ref 156), (1, .int l1), (2, .int l2), (3, .int l3), (4, .int (v_X12_variableOf mm (mm.1 160 (mm.1 156 7).toNatClampNeg)))]) dX12_expr_99 (Nat.le_of_ble_eq_true rfl) rfl ?_
          refine g_aload_n (pc := 101) (x := 156) dX12_expr_101 rfl ?_
          refine g_getR (pc := 102) (dd := 2) dX12_expr_102 fo_X12_13 sh_156 rfl ?_
          refine g_aload_n (pc := 105) (x := 156) dX12_expr_105 rfl ?_
          refine g_getI (pc := 106) dX12_expr_106 fo_X12_218 sh_156 rfl ?_
          refine g_iaload (pc := 109) dX12_expr_109 sh_158 h.1 ?_
          have h := h.2
          refine g_iconst (pc := 110) (v := (1 : Int32)) dX12_expr_110 (by decide) ?_
          refine g_icmp_eq (pc := 111) (tgt := 125) dX12_expr_111 (by decide) (fun c111 => ?_) (fun c111 => ?_)
          · have h := h.1 c111
            refine g_aload_n (pc := 125) (x := 156) dX12_expr_125 rfl ?_
            refine g_iload (pc := 126) (x := (v_X12_variableOf mm (mm.1 160 (mm.1 156 7).toNatClampNeg))) dX12_expr_126 rfl ?_
            refine g_if_ge (pc := 128) (tgt := 135) dX12_expr_128 (by decide) (fun c128 => ?_) (fun c128 => ?_)
            · have h := h.1 c128
              refine g_iconst (pc := 135) (v := (1 : Int32)) dX12_expr_135 (by decide) ?_
              refine g_iload (pc := 136) (x := (v_X12_variableOf mm (mm.1 160 (mm.1 156 7).toNatClampNeg))) dX12_expr_136 rfl ?_
              refine g_if_ge (pc := 138) (tgt := 153) dX12_expr_138 (by decide) (fun c138 => ?_) (fun c138 => ?_)
              · have h := h.1 c138
                refine g_iload (pc := 153) (x := (v_X12_variableOf mm (mm.1 160 (mm.1 156 7).toNatClampNeg))) dX12_expr_153 rfl ?_
                obtain ⟨Pm1, hRm1, h⟩ := h
                refine g_callV (pc := 155) (as := [.int (1 : Int32), .int (v_X12_variableOf mm (mm.1 160 (mm.1 156 7).toNatClampNeg))]) dX12_expr_155 cw_X12_250 (by decide) rfl rfl sh_156 (Nat.le_of_ble_eq_true rfl) hRm1 ?_
                intro r_ m1 hz_ hp_
                obtain rfl := hz_
                have h := h m1 hp_
                refine g_aload_n (pc := 158) (x := 156) dX12_expr_158 rfl ?_
                obtain ⟨Pm2, hRm2, h⟩ := h
                refine g_callV (pc := 159) (as := []) dX12_expr_159 cw_X12_230 (by decide) rfl rfl sh_156 (Nat.le_of_ble_eq_true rfl) hRm2 ?_
                intro r_ m2 hz_ hp_
                rcases h.1 r_ m2 hp_ with rfl | rfl
                · have h := h.2.1 m2 hp_
                  refine g_if_ne (pc := 162) (tgt := 167) dX12_expr_162 (by decide) (fun _ => ?_) (fun c162 => absurd c162 (by decide))
                  refine g_iconst (pc := 167) (v := (0 : Int32)) dX12_expr_167 (by decide) ?_
                  refine g_istore_n (pc := 168) (L' := [(0, .ref 156), (1, .int l1), (2, .int (0 : Int32)), (3, .int l3), (4, .int (v_X12_variableOf mm (mm.1 160 (mm.1 156 7).toNatClampNeg)))]) dX12_expr_168 (Nat.le_of_ble_eq_true rfl) rfl ?_
                  refine g_goto (pc := 169) (tgt := 21) dX12_expr_169 (by decide) ?_
                  refine g_sub (L' := [(0, .ref 156), (1, .int l1), (2, .int (0 : Int32)), (3, .int l3)]) [0, 1, 2, 3] rfl ?_
                  exact h
                · have h := h.2.2 m2 hp_
                  refine g_if_ne (pc := 162) (tgt := 167) dX12_expr_162 (by decide) (fun c162 => absurd c162 (by decide)) (fun _ => ?_)
                  refine g_iconst (pc := 165) (v := (0 : Int32)) dX12_expr_165 (by decide) ?_
                  exact g_iret (pc := 166) dX12_expr_166 rfl rfl (nar_B isB0) h
              · have h := h.2 c138
                refine g_aload_n (pc := 141) (x := 156) dX12_expr_141 rfl ?_
                refine g_getR (pc := 142) (dd := 4) dX12_expr_142 fo_X12_19 sh_156 rfl ?_
                refine g_aload_n (pc := 145) (x := 156) dX12_expr_145 rfl ?_
                refine g_getI (pc := 146) dX12_expr_146 fo_X12_218 sh_156 rfl ?_
                refine g_iaload (pc := 149) dX12_expr_149 sh_160 h.1 ?_
                have h := h.2
                refine g_goto (pc := 150) (tgt := 155) dX12_expr_150 (by decide) ?_
                obtain ⟨Pm1, hRm1, h⟩ := h
                refine g_callV (pc := 155) (as := [.int (1 : Int32), .int (mm.1 160 (mm.1 156 7).toNatClampNeg)]) dX12_expr_155 cw_X12_250 (by decide) rfl rfl sh_156 (Nat.le_of_ble_eq_true rfl) hRm1 ?_
                intro r_ m1 hz_ hp_
                obtain rfl := hz_
                have h := h m1 hp_
                refine g_aload_n (pc := 158) (x := 156) dX12_expr_158 rfl ?_
                obtain ⟨Pm2, hRm2, h⟩ := h
                refine g_callV (pc := 159) (as := []) dX12_expr_159 cw_X12_230 (by decide) rfl rfl sh_156 (Nat.le_of_ble_eq_true rfl) hRm2 ?_
                intro r_ m2 hz_ hp_
                rcases h.1 r_ m2 hp_ with rfl | rfl
                · have h := h.2.1 m2 hp_
                  refine g_if_ne (pc := 162) (tgt := 167) dX12_expr_162 (by decide) (fun _ => ?_) (fun c162 => absurd c162 (by decide))
                  refine g_iconst (pc := 167) (v := (0 : Int32)) dX12_expr_167 (by decide) ?_
                  refine g_istore_n (pc := 168) (L' := [(0, .ref 156), (1, .int l1), (2, .int (0 : Int32)), (3, .int l3), (4, .int (v_X12_variableOf mm (mm.1 160 (mm.1 156 7).toNatClampNeg)))]) dX12_expr_168 (Nat.le_of_ble_eq_true rfl) rfl ?_
                  refine g_goto (pc := 169) (tgt := 21) dX12_expr_169 (by decide) ?_
                  refine g_sub (L' := [(0, .ref 156), (1, .int l1), (2, .int (0 : Int32)), (3, .int l3)]) [0, 1, 2, 3] rfl ?_
                  exact h
                · have h := h.2.2 m2 hp_
                  refine g_if_ne (pc := 162) (tgt := 167) dX12_expr_162 (by decide) (fun c162 => absurd c162 (by decide)) (fun _ => ?_)
                  refine g_iconst (pc := 165) (v := (0 : Int32)) dX12_expr_165 (by decide) ?_
                  exact g_iret (pc := 166) dX12_expr_166 rfl rfl (nar_B isB0) h
            · have h := h.2 c128
              refine g_iconst (pc := 131) (v := (0 : Int32)) dX12_expr_131 (by decide) ?_
              refine g_goto (pc := 132) (tgt := 136) dX12_expr_132 (by decide) ?_
              refine g_iload (pc := 136) (x := (v_X12_variableOf mm (mm.1 160 (mm.1 156 7).toNatClampNeg))) dX12_expr_136 rfl ?_
              refine g_if_ge (pc := 138) (tgt := 153) dX12_expr_138 (by decide) (fun c138 => ?_) (fun c138 => ?_)
              · have h := h.1 c138
                refine g_iload (pc := 153) (x := (v_X12_variableOf mm (mm.1 160 (mm.1 156 7).toNatClampNeg))) dX12_expr_153 rfl ?_
                obtain ⟨Pm1, hRm1, h⟩ := h
                refine g_callV (pc := 155) (as := [.int (0 : Int32), .int (v_X12_variableOf mm (mm.1 160 (mm.1 156 7).toNatClampNeg))]) dX12_expr_155 cw_X12_250 (by decide) rfl rfl sh_156 (Nat.le_of_ble_eq_true rfl) hRm1 ?_
                intro r_ m1 hz_ hp_
                obtain rfl := hz_
                have h := h m1 hp_
                refine g_aload_n (pc := 158) (x := 156) dX12_expr_158 rfl ?_
                obtain ⟨Pm2, hRm2, h⟩ := h
                refine g_callV (pc := 159) (as := []) dX12_expr_159 cw_X12_230 (by decide) rfl rfl sh_156 (Nat.le_of_ble_eq_true rfl) hRm2 ?_
                intro r_ m2 hz_ hp_
                rcases h.1 r_ m2 hp_ with rfl | rfl
                · have h := h.2.1 m2 hp_
                  refine g_if_ne (pc := 162) (tgt := 167) dX12_expr_162 (by decide) (fun _ => ?_) (fun c162 => absurd c162 (by decide))
                  refine g_iconst (pc := 167) (v := (0 : Int32)) dX12_expr_167 (by decide) ?_
                  refine g_istore_n (pc := 168) (L' := [(0, .ref 156), (1, .int l1), (2, .int (0 : Int32)), (3, .int l3), (4, .int (v_X12_variableOf mm (mm.1 160 (mm.1 156 7).toNatClampNeg)))]) dX12_expr_168 (Nat.le_of_ble_eq_true rfl) rfl ?_
                  refine g_goto (pc := 169) (tgt := 21) dX12_expr_169 (by decide) ?_
                  refine g_sub (L' := [(0, .ref 156), (1, .int l1), (2, .int (0 : Int32)), (3, .int l3)]) [0, 1, 2, 3] rfl ?_
                  exact h
                · have h := h.2.2 m2 hp_
                  refine g_if_ne (pc := 162) (tgt := 167) dX12_expr_162 (by decide) (fun c162 => absurd c162 (by decide)) (fun _ => ?_)
                  refine g_iconst (pc := 165) (v := (0 : Int32)) dX12_expr_165 (by decide) ?_
                  exact g_iret (pc := 166) dX12_expr_166 rfl rfl (nar_B isB0) h
              · have h := h.2 c138
                refine g_aload_n (pc := 141) (x := 156) dX12_expr_141 rfl ?_
                refine g_getR (pc := 142) (dd := 4) dX12_expr_142 fo_X12_19 sh_156 rfl ?_
                refine g_aload_n (pc := 145) (x := 156) dX12_expr_145 rfl ?_
                refine g_getI (pc := 146) dX12_expr_146 fo_X12_218 sh_156 rfl ?_
                refine g_iaload (pc := 149) dX12_expr_149 sh_160 h.1 ?_
                have h := h.2
                refine g_goto (pc := 150) (tgt := 155) dX12_expr_150 (by decide) ?_
                obtain ⟨Pm1, hRm1, h⟩ := h
                refine g_callV (pc := 155) (as := [.int (0 : Int32), .int (mm.1 160 (mm.1 156 7).toNatClampNeg)]) dX12_expr_155 cw_X12_250 (by decide) rfl rfl sh_156 (Nat.le_of_ble_eq_true rfl) hRm1 ?_
                intro r_ m1 hz_ hp_
                obtain rfl := hz_
                have h := h m1 hp_
                refine g_aload_n (pc := 158) (x := 156) dX12_expr_158 rfl ?_
                obtain ⟨Pm2, hRm2, h⟩ := h
                refine g_callV (pc := 159) (as := []) dX12_expr_159 cw_X12_230 (by decide) rfl rfl sh_156 (Nat.le_of_ble_eq_true rfl) hRm2 ?_
                intro r_ m2 hz_ hp_
                rcases h.1 r_ m2 hp_ with rfl | rfl
                · have h := h.2.1 m2 hp_
                  refine g_if_ne (pc := 162) (tgt := 167) dX12_expr_162 (by decide) (fun _ => ?_) (fun c162 => absurd c162 (by decide))
                  refine g_iconst (pc := 167) (v := (0 : Int32)) dX12_expr_167 (by decide) ?_
                  refine g_istore_n (pc := 168) (L' := [(0, .ref 156), (1, .int l1), (2, .int (0 : Int32)), (3, .int l3), (4, .int (v_X12_variableOf mm (mm.1 160 (mm.1 156 7).toNatClampNeg)))]) dX12_expr_168 (Nat.le_of_ble_eq_true rfl) rfl ?_
                  refine g_goto (pc := 169) (tgt := 21) dX12_expr_169 (by decide) ?_
                  refine g_sub (L' := [(0, .ref 156), (1, .int l1), (2, .int (0 : Int32)), (3, .int l3)]) [0, 1, 2, 3] rfl ?_
                  exact h
                · have h := h.2.2 m2 hp_
                  refine g_if_ne (pc := 162) (tgt := 167) dX12_expr_162 (by decide) (fun c162 => absurd c162 (by decide)) (fun _ => ?_)
                  refine g_iconst (pc := 165) (v := (0 : Int32)) dX12_expr_165 (by decide) ?_
                  exact g_iret (pc := 166) dX12_expr_166 rfl rfl (nar_B isB0) h
          · have h := h.2 c111
            refine g_iload (pc := 114) (x := (v_X12_variableOf mm (mm.1 160 (mm.1 156 7).toNatClampNeg))) dX12_expr_114 rfl ?_
            refine g_if_ge (pc := 116) (tgt := 125) dX12_expr_116 (by decide) (fun c116 => ?_) (fun c116 => ?_)
            · have h := h.1 c116
              refine g_aload_n (pc := 125) (x := 156) dX12_expr_125 rfl ?_
              refine g_iload (pc := 126) (x := (v_X12_variableOf mm (mm.1 160 (mm.1 156 7).toNatClampNeg))) dX12_expr_126 rfl ?_
              refine g_if_ge (pc := 128) (tgt := 135) dX12_expr_128 (by decide) (fun c128 => ?_) (fun c128 => ?_)
              · have h := h.1 c128
                refine g_iconst (pc := 135) (v := (1 : Int32)) dX12_expr_135 (by decide) ?_
                refine g_iload (pc := 136) (x := (v_X12_variableOf mm (mm.1 160 (mm.1 156 7).toNatClampNeg))) dX12_expr_136 rfl ?_
                refine g_if_ge (pc := 138) (tgt := 153) dX12_expr_138 (by decide) (fun c138 => ?_) (fun c138 => ?_)
                · have h := h.1 c138
                  refine g_iload (pc := 153) (x := (v_X12_variableOf mm (mm.1 160 (mm.1 156 7).toNatClampNeg))) dX12_expr_153 rfl ?_
                  obtain ⟨Pm1, hRm1, h⟩ := h
                  refine g_callV (pc := 155) (as := [.int (1 : Int32), .int (v_X12_variableOf mm (mm.1 160 (mm.1 156 7).toNatClampNeg))]) dX12_expr_155 cw_X12_250 (by decide) rfl rfl sh_156 (Nat.le_of_ble_eq_true rfl) hRm1 ?_
                  intro r_ m1 hz_ hp_
                  obtain rfl := hz_
                  have h := h m1 hp_
                  refine g_aload_n (pc := 158) (x := 156) dX12_expr_158 rfl ?_
                  obtain ⟨Pm2, hRm2, h⟩ := h
                  refine g_callV (pc := 159) (as := []) dX12_expr_159 cw_X12_230 (by decide) rfl rfl sh_156 (Nat.le_of_ble_eq_true rfl) hRm2 ?_
                  intro r_ m2 hz_ hp_
                  rcases h.1 r_ m2 hp_ with rfl | rfl
                  · have h := h.2.1 m2 hp_
                    refine g_if_ne (pc := 162) (tgt := 167) dX12_expr_162 (by decide) (fun _ => ?_) (fun c162 => absurd c162 (by decide))
                    refine g_iconst (pc := 167) (v := (0 : Int32)) dX12_expr_167 (by decide) ?_
                    refine g_istore_n (pc := 168) (L' := [(0, .ref 156), (1, .int l1), (2, .int (0 : Int32)), (3, .int l3), (4, .int (v_X12_variableOf mm (mm.1 160 (mm.1 156 7).toNatClampNeg)))]) dX12_expr_168 (Nat.le_of_ble_eq_true rfl) rfl ?_
                    refine g_goto (pc := 169) (tgt := 21) dX12_expr_169 (by decide) ?_
                    refine g_sub (L' := [(0, .ref 156), (1, .int l1), (2, .int (0 : Int32)), (3, .int l3)]) [0, 1, 2, 3] rfl ?_
                    exact h
                  · have h := h.2.2 m2 hp_
                    refine g_if_ne (pc := 162) (tgt := 167) dX12_expr_162 (by decide) (fun c162 => absurd c162 (by decide)) (fun _ => ?_)
                    refine g_iconst (pc := 165) (v := (0 : Int32)) dX12_expr_165 (by decide) ?_
                    exact g_iret (pc := 166) dX12_expr_166 rfl rfl (nar_B isB0) h
                · have h := h.2 c138
                  refine g_aload_n (pc := 141) (x := 156) dX12_expr_141 rfl ?_
                  refine g_getR (pc := 142) (dd := 4) dX12_expr_142 fo_X12_19 sh_156 rfl ?_
                  refine g_aload_n (pc := 145) (x := 156) dX12_expr_145 rfl ?_
                  refine g_getI (pc := 146) dX12_expr_146 fo_X12_218 sh_156 rfl ?_
                  refine g_iaload (pc := 149) dX12_expr_149 sh_160 h.1 ?_
                  have h := h.2
                  refine g_goto (pc := 150) (tgt := 155) dX12_expr_150 (by decide) ?_
                  obtain ⟨Pm1, hRm1, h⟩ := h
                  refine g_callV (pc := 155) (as := [.int (1 : Int32), .int (mm.1 160 (mm.1 156 7).toNatClampNeg)]) dX12_expr_155 cw_X12_250 (by decide) rfl rfl sh_156 (Nat.le_of_ble_eq_true rfl) hRm1 ?_
                  intro r_ m1 hz_ hp_
                  obtain rfl := hz_
                  have h := h m1 hp_
                  refine g_aload_n (pc := 158) (x := 156) dX12_expr_158 rfl ?_
                  obtain ⟨Pm2, hRm2, h⟩ := h
                  refine g_callV (pc := 159) (as := []) dX12_expr_159 cw_X12_230 (by decide) rfl rfl sh_156 (Nat.le_of_ble_eq_true rfl) hRm2 ?_
                  intro r_ m2 hz_ hp_
                  rcases h.1 r_ m2 hp_ with rfl | rfl
                  · have h := h.2.1 m2 hp_
                    refine g_if_ne (pc := 162) (tgt := 167) dX12_expr_162 (by decide) (fun _ => ?_) (fun c162 => absurd c162 (by decide))
                    refine g_iconst (pc := 167) (v := (0 : Int32)) dX12_expr_167 (by decide) ?_
                    refine g_istore_n (pc := 168) (L' := [(0, .ref 156), (1, .int l1), (2, .int (0 : Int32)), (3, .int l3), (4, .int (v_X12_variableOf mm (mm.1 160 (mm.1 156 7).toNatClampNeg)))]) dX12_expr_168 (Nat.le_of_ble_eq_true rfl) rfl ?_
                    refine g_goto (pc := 169) (tgt := 21) dX12_expr_169 (by decide) ?_
                    refine g_sub (L' := [(0, .ref 156), (1, .int l1), (2, .int (0 : Int32)), (3, .int l3)]) [0, 1, 2, 3] rfl ?_
                    exact h
                  · have h := h.2.2 m2 hp_
                    refine g_if_ne (pc := 162) (tgt := 167) dX12_expr_162 (by decide) (fun c162 => absurd c162 (by decide)) (fun _ => ?_)
                    refine g_iconst (pc := 165) (v := (0 : Int32)) dX12_expr_165 (by decide) ?_
                    exact g_iret (pc := 166) dX12_expr_166 rfl rfl (nar_B isB0) h
              · have h := h.2 c128
                refine g_iconst (pc := 131) (v := (0 : Int32)) dX12_expr_131 (by decide) ?_
                refine g_goto (pc := 132) (tgt := 136) dX12_expr_132 (by decide) ?_
                refine g_iload (pc := 136) (x := (v_X12_variableOf mm (mm.1 160 (mm.1 156 7).toNatClampNeg))) dX12_expr_136 rfl ?_
                refine g_if_ge (pc := 138) (tgt := 153) dX12_expr_138 (by decide) (fun c138 => ?_) (fun c138 => ?_)
                · have h := h.1 c138
                  refine g_iload (pc := 153) (x := (v_X12_variableOf mm (mm.1 160 (mm.1 156 7).toNatClampNeg))) dX12_expr_153 rfl ?_
                  obtain ⟨Pm1, hRm1, h⟩ := h
                  refine g_callV (pc := 155) (as := [.int (0 : Int32), .int (v_X12_variableOf mm (mm.1 160 (mm.1 156 7).toNatClampNeg))]) dX12_expr_155 cw_X12_250 (by decide) rfl rfl sh_156 (Nat.le_of_ble_eq_true rfl) hRm1 ?_
                  intro r_ m1 hz_ hp_
                  obtain rfl := hz_
                  have h := h m1 hp_
                  refine g_aload_n (pc := 158) (x := 156) dX12_expr_158 rfl ?_
                  obtain ⟨Pm2, hRm2, h⟩ := h
                  refine g_callV (pc := 159) (as := []) dX12_expr_159 cw_X12_230 (by decide) rfl rfl sh_156 (Nat.le_of_ble_eq_true rfl) hRm2 ?_
                  intro r_ m2 hz_ hp_
                  rcases h.1 r_ m2 hp_ with rfl | rfl
                  · have h := h.2.1 m2 hp_
                    refine g_if_ne (pc := 162) (tgt := 167) dX12_expr_162 (by decide) (fun _ => ?_) (fun c162 => absurd c162 (by decide))
                    refine g_iconst (pc := 167) (v := (0 : Int32)) dX12_expr_167 (by decide) ?_
                    refine g_istore_n (pc := 168) (L' := [(0, .ref 156), (1, .int l1), (2, .int (0 : Int32)), (3, .int l3), (4, .int (v_X12_variableOf mm (mm.1 160 (mm.1 156 7).toNatClampNeg)))]) dX12_expr_168 (Nat.le_of_ble_eq_true rfl) rfl ?_
                    refine g_goto (pc := 169) (tgt := 21) dX12_expr_169 (by decide) ?_
                    refine g_sub (L' := [(0, .ref 156), (1, .int l1), (2, .int (0 : Int32)), (3, .int l3)]) [0, 1, 2, 3] rfl ?_
                    exact h
                  · have h := h.2.2 m2 hp_
                    refine g_if_ne (pc := 162) (tgt := 167) dX12_expr_162 (by decide) (fun c162 => absurd c162 (by decide)) (fun _ => ?_)
                    refine g_iconst (pc := 165) (v := (0 : Int32)) dX12_expr_165 (by decide) ?_
                    exact g_iret (pc := 166) dX12_expr_166 rfl rfl (nar_B isB0) h
                · have h := h.2 c138
                  refine g_aload_n (pc := 141) (x := 156) dX12_expr_141 rfl ?_
                  refine g_getR (pc := 142) (dd := 4) dX12_expr_142 fo_X12_19 sh_156 rfl ?_
                  refine g_aload_n (pc := 145) (x := 156) dX12_expr_145 rfl ?_
                  refine g_getI (pc := 146) dX12_expr_146 fo_X12_218 sh_156 rfl ?_
                  refine g_iaload (pc := 149) dX12_expr_149 sh_160 h.1 ?_
                  have h := h.2
                  refine g_goto (pc := 150) (tgt := 155) dX12_expr_150 (by decide) ?_
                  obtain ⟨Pm1, hRm1, h⟩ := h
                  refine g_callV (pc := 155) (as := [.int (0 : Int32), .int (mm.1 160 (mm.1 156 7).toNatClampNeg)]) dX12_expr_155 cw_X12_250 (by decide) rfl rfl sh_156 (Nat.le_of_ble_eq_true rfl) hRm1 ?_
                  intro r_ m1 hz_ hp_
                  obtain rfl := hz_
                  have h := h m1 hp_
                  refine g_aload_n (pc := 158) (x := 156) dX12_expr_158 rfl ?_
                  obtain ⟨Pm2, hRm2, h⟩ := h
                  refine g_callV (pc := 159) (as := []) dX12_expr_159 cw_X12_230 (by decide) rfl rfl sh_156 (Nat.le_of_ble_eq_true rfl) hRm2 ?_
                  intro r_ m2 hz_ hp_
                  rcases h.1 r_ m2 hp_ with rfl | rfl
                  · have h := h.2.1 m2 hp_
                    refine g_if_ne (pc := 162) (tgt := 167) dX12_expr_162 (by decide) (fun _ => ?_) (fun c162 => absurd c162 (by decide))
                    refine g_iconst (pc := 167) (v := (0 : Int32)) dX12_expr_167 (by decide) ?_
                    refine g_istore_n (pc := 168) (L' := [(0, .ref 156), (1, .int l1), (2, .int (0 : Int32)), (3, .int l3), (4, .int (v_X12_variableOf mm (mm.1 160 (mm.1 156 7).toNatClampNeg)))]) dX12_expr_168 (Nat.le_of_ble_eq_true rfl) rfl ?_
                    refine g_goto (pc := 169) (tgt := 21) dX12_expr_169 (by decide) ?_
                    refine g_sub (L' := [(0, .ref 156), (1, .int l1), (2, .int (0 : Int32)), (3, .int l3)]) [0, 1, 2, 3] rfl ?_
                    exact h
                  · have h := h.2.2 m2 hp_
                    refine g_if_ne (pc := 162) (tgt := 167) dX12_expr_162 (by decide) (fun c162 => absurd c162 (by decide)) (fun _ => ?_)
                    refine g_iconst (pc := 165) (v := (0 : Int32)) dX12_expr_165 (by decide) ?_
                    exact g_iret (pc := 166) dX12_expr_166 rfl rfl (nar_B isB0) h
            · have h := h.2 c116
              refine g_aload_n (pc := 119) (x := 156) dX12_expr_119 rfl ?_
              refine g_iconst (pc := 120) (v := (1 : Int32)) dX12_expr_120 (by decide) ?_
              obtain ⟨Pm1, hRm1, h⟩ := h
              refine g_callV (pc := 121) (as := [.int (1 : Int32)]) dX12_expr_121 cw_X12_227 (by decide) rfl rfl sh_156 (Nat.le_of_ble_eq_true rfl) hRm1 ?_
              intro r_ m1 hz_ hp_
              rcases h.1 r_ m1 hp_ with rfl | rfl
              · have h := h.2.1 m1 hp_
                exact g_iret (pc := 124) dX12_expr_124 rfl rfl (nar_B isB1) h
              · have h := h.2.2 m1 hp_
                exact g_iret (pc := 124) dX12_expr_124 rfl rfl (nar_B isB0) h

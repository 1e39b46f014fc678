theorem dX7_isBlank_0 : decode cX7_isBlank 0 = .ok (.iload_n 0, 1) := by decide +kernel
theorem dX7_isBlank_1 : decode cX7_isBlank 1 = .ok (.bipush 9, 2) := by decide +kernel
theorem dX7_isBlank_3 : decode cX7_isBlank 3 = .ok (.if_icmp .eq 21, 3) := by decide +kernel
theorem dX7_isBlank_6 : decode cX7_isBlank 6 = .ok (.iload_n 0, 1) := by decide +kernel
theorem dX7_isBlank_7 : decode cX7_isBlank 7 = .ok (.bipush 10, 2) := by decide +kernel
theorem dX7_isBlank_9 : decode cX7_isBlank 9 = .ok (.if_icmp .eq 15, 3) := by decide +kernel
theorem dX7_isBlank_12 : decode cX7_isBlank 12 = .ok (.iload_n 0, 1) := by decide +kernel
theorem dX7_isBlank_13 : decode cX7_isBlank 13 = .ok (.bipush 13, 2) := by decide +kernel
theorem dX7_isBlank_15 : decode cX7_isBlank 15 = .ok (.if_icmp .eq 9, 3) := by decide +kernel
theorem dX7_isBlank_18 : decode cX7_isBlank 18 = .ok (.iload_n 0, 1) := by decide +kernel
theorem dX7_isBlank_19 : decode cX7_isBlank 19 = .ok (.bipush 32, 2) := by decide +kernel
theorem dX7_isBlank_21 : decode cX7_isBlank 21 = .ok (.if_icmp .ne 7, 3) := by decide +kernel
theorem dX7_isBlank_24 : decode cX7_isBlank 24 = .ok (.iconst 1, 1) := by decide +kernel
theorem dX7_isBlank_25 : decode cX7_isBlank 25 = .ok (.goto 4, 3) := by decide +kernel
theorem dX7_isBlank_28 : decode cX7_isBlank 28 = .ok (.iconst 0, 1) := by decide +kernel
theorem dX7_isBlank_29 : decode cX7_isBlank 29 = .ok (.ireturn, 1) := by decide +kernel
def p_X7_isBlank (mm : MM) (a0 : Int32) : Prop := (a0 = (9 : Int32) ∨ (a0 = (10 : Int32) ∨ (a0 = (13 : Int32) ∨ a0 = (32 : Int32))))
theorem rv_X7_isBlank (mm : MM) (a0 : Int32) : Runs e_X7_isBlank [.int a0] mm (fun r m_ => ((p_X7_isBlank mm a0 ∧ r = .int 1) ∨ (¬ p_X7_isBlank mm a0 ∧ r = .int 0)) ∧ mm = m_) := by
  refine runs_of_G (L := [(0, .int a0)]) pl_X7 (Nat.le_of_ble_eq_true rfl) rfl ?_
  refine g_iload_n (pc := 0) (x := a0) dX7_isBlank_0 rfl ?_
  refine g_bipush (pc := 1) (v := (9 : Int32)) dX7_isBlank_1 (by decide) ?_
  refine g_icmp_eq (pc := 3) (tgt := 24) dX7_isBlank_3 (by decide) (fun c3 => ?_) (fun c3 => ?_)
  · have c3_0 : a0 = (9 : Int32) := c3
    refine g_iconst (pc := 24) (v := (1 : Int32)) dX7_isBlank_24 (by decide) ?_
    refine g_goto (pc := 25) (tgt := 29) dX7_isBlank_25 (by decide) ?_
    exact g_iret (pc := 29) dX7_isBlank_29 rfl rfl (nar_B isB1) ⟨Or.inl ⟨(show p_X7_isBlank mm a0 from (Or.inl c3_0)), rfl⟩, rfl⟩
  · have c3_0 : ¬ a0 = (9 : Int32) := c3
    refine g_iload_n (pc := 6) (x := a0) dX7_isBlank_6 rfl ?_
    refine g_bipush (pc := 7) (v := (10 : Int32)) dX7_isBlank_7 (by decide) ?_
    refine g_icmp_eq (pc := 9) (tgt := 24) dX7_isBlank_9 (by decide) (fun c9 => ?_) (fun c9 => ?_)
    · have c9_1 : a0 = (10 : Int32) := c9
      refine g_iconst (pc := 24) (v := (1 : Int32)) dX7_isBlank_24 (by decide) ?_
      refine g_goto (pc := 25) (tgt := 29) dX7_isBlank_25 (by decide) ?_
      exact g_iret (pc := 29) dX7_isBlank_29 rfl rfl (nar_B isB1) ⟨Or.inl ⟨(show p_X7_isBlank mm a0 from (Or.inr (Or.inl c9_1))), rfl⟩, rfl⟩
    · have c9_1 : ¬ a0 = (10 : Int32) := c9
      refine g_iload_n (pc := 12) (x := a0) dX7_isBlank_12 rfl ?_
      refine g_bipush (pc := 13) (v := (13 : Int32)) dX7_isBlank_13 (by decide) ?_
      refine g_icmp_eq (pc := 15) (tgt := 24) dX7_isBlank_15 (by decide) (fun c15 => ?_) (fun c15 => ?_)
      · have c15_2 : a0 = (13 : Int32) := c15
        refine g_iconst (pc := 24) (v := (1 : Int32)) dX7_isBlank_24 (by decide) ?_
        refine g_goto (pc := 25) (tgt := 29) dX7_isBlank_25 (by decide) ?_
        exact g_iret (pc := 29) dX7_isBlank_29 rfl rfl (nar_B isB1) ⟨Or.inl ⟨(show p_X7_isBlank mm a0 from (Or.inr (Or.inr (Or.inl c15_2)))), rfl⟩, rfl⟩
      · have c15_2 : ¬ a0 = (13 : Int32) := c15
        refine g_iload_n (pc := 18) (x := a0) dX7_isBlank_18 rfl ?_
        refine g_bipush (pc := 19) (v := (32 : Int32)) dX7_isBlank_19 (by decide) ?_
        refine g_icmp_ne (pc := 21) (tgt := 28) dX7_isBlank_21 (by decide) (fun c21 => ?_) (fun c21 => ?_)
        · have c21_3 : ¬ a0 = (32 : Int32) := c21
          refine g_iconst (pc := 28) (v := (0 : Int32)) dX7_isBlank_28 (by decide) ?_
          exact g_iret (pc := 29) dX7_isBlank_29 rfl rfl (nar_B isB0) ⟨Or.inr ⟨(show ¬ p_X7_isBlank mm a0 from (fun h_ => h_.elim (fun z_ => (c3_0 z_)) (fun h_ => h_.elim (fun z_ => (c9_1 z_)) (fun h_ => h_.elim (fun z_ => (c15_2 z_)) c21_3)))), rfl⟩, rfl⟩
        · have c21_3 : a0 = (32 : Int32) := c21
          refine g_iconst (pc := 24) (v := (1 : Int32)) dX7_isBlank_24 (by decide) ?_
          refine g_goto (pc := 25) (tgt := 29) dX7_isBlank_25 (by decide) ?_
          exact g_iret (pc := 29) dX7_isBlank_29 rfl rfl (nar_B isB1) ⟨Or.inl ⟨(show p_X7_isBlank mm a0 from (Or.inr (Or.inr (Or.inr c21_3)))), rfl⟩, rfl⟩
theorem b_X7_pastBlanks_2 (mm : MM) (Q : Value → MM → Prop) (l2 : Int32) (h : ((mm.1 5 4) ≤ l2 → (Q (.int l2) mm)) ∧ (¬ (mm.1 5 4) ≤ l2 → (o_X7_byteAt mm l2 ∧ ((p_X7_isBlank mm (v_X7_byteAt mm l2) → (G e_X7_pastBlanks 2 [(0, .ref 5), (2, .int (l2 + (1 : Int32)))] [] mm Q)) ∧ (¬ p_X7_isBlank mm (v_X7_byteAt mm l2) → (Q (.int l2) mm)))))) : G e_X7_pastBlanks 2 [(0, .ref 5), (2, .int l2)] [] mm Q := by
  refine g_iload_n (pc := 2) (x := l2) dX7_pastBlanks_2 rfl ?_
  refine g_aload_n (pc := 3) (x := 5) dX7_pastBlanks_3 rfl ?_
  refine g_getI (pc := 4) dX7_pastBlanks_4 fo_X7_26 sh_5 rfl ?_
  refine g_icmp_ge (pc := 7) (tgt := 27) dX7_pastBlanks_7 (by decide) (fun c7 => ?_) (fun c7 => ?_)
  · have h := h.1 c7
    refine g_iload_n (pc := 27) (x := l2) dX7_pastBlanks_27 rfl ?_
    exact g_iret (pc := 28) dX7_pastBlanks_28 rfl rfl rfl h
  · have h := h.2 c7
    refine g_aload_n (pc := 10) (x := 5) dX7_pastBlanks_10 rfl ?_
    refine g_iload_n (pc := 11) (x := l2) dX7_pastBlanks_11 rfl ?_
    refine g_callV (pc := 12) (as := [.int l2]) dX7_pastBlanks_12 cw_X7_41 (by decide) rfl rfl sh_5 (Nat.le_of_ble_eq_true rfl) (rv_X7_byteAt mm l2 h.1) ?_
    have h := h.2
    rintro r_ m_ hz_ ⟨rfl, rfl⟩
    refine g_callS (pc := 15) (as := [.int (v_X7_byteAt mm l2)]) dX7_pastBlanks_15 cw_X7_44 (by decide) rfl rfl (Nat.le_of_ble_eq_true rfl) (rv_X7_isBlank mm (v_X7_byteAt mm l2)) ?_
    rintro r_ m_ hz_ ⟨⟨p_, rfl⟩ | ⟨p_, rfl⟩, rfl⟩
    · have h := h.1 p_
      refine g_if_eq (pc := 18) (tgt := 27) dX7_pastBlanks_18 (by decide) (fun c18 => absurd c18 (by decide)) (fun _ => ?_)
      refine g_iinc (pc := 21) (x := l2) (v := (l2 + (1 : Int32))) (L' := [(0, .ref 5), (2, .int (l2 + (1 : Int32)))]) dX7_pastBlanks_21 rfl rfl (Nat.le_of_ble_eq_true rfl) rfl ?_
      refine g_goto (pc := 24) (tgt := 2) dX7_pastBlanks_24 (by decide) ?_
      exact h
    · have h := h.2 p_
      refine g_if_eq (pc := 18) (tgt := 27) dX7_pastBlanks_18 (by decide) (fun _ => ?_) (fun c18 => absurd c18 (by decide))
      refine g_iload_n (pc := 27) (x := l2) dX7_pastBlanks_27 rfl ?_
      exact g_iret (pc := 28) dX7_pastBlanks_28 rfl rfl rfl h
theorem dX7_signKind_0 : decode cX7_signKind 0 = .ok (.iload_n 0, 1) := by decide +kernel
theorem dX7_signKind_1 : decode cX7_signKind 1 = .ok (.tableswitch 194 33 61 #[166, 194, 194, 194, 194, 194, 194, 146, 149, 140, 134, 194, 137, 194, 143, 194, 194, 194, 194, 194, 194, 194, 194, 194, 194, 194, 131, 180, 152], 131) := by decide +kernel
theorem dX7_signKind_132 : decode cX7_signKind 132 = .ok (.bipush 28, 2) := by decide +kernel
theorem dX7_signKind_134 : decode cX7_signKind 134 = .ok (.ireturn, 1) := by decide +kernel
theorem dX7_signKind_135 : decode cX7_signKind 135 = .ok (.bipush 30, 2) := by decide +kernel
theorem dX7_signKind_137 : decode cX7_signKind 137 = .ok (.ireturn, 1) := by decide +kernel
theorem dX7_signKind_138 : decode cX7_signKind 138 = .ok (.bipush 31, 2) := by decide +kernel
theorem dX7_signKind_140 : decode cX7_signKind 140 = .ok (.ireturn, 1) := by decide +kernel
theorem dX7_signKind_141 : decode cX7_signKind 141 = .ok (.bipush 32, 2) := by decide +kernel
theorem dX7_signKind_143 : decode cX7_signKind 143 = .ok (.ireturn, 1) := by decide +kernel
theorem dX7_signKind_144 : decode cX7_signKind 144 = .ok (.bipush 33, 2) := by decide +kernel
theorem dX7_signKind_146 : decode cX7_signKind 146 = .ok (.ireturn, 1) := by decide +kernel
theorem dX7_signKind_147 : decode cX7_signKind 147 = .ok (.bipush 38, 2) := by decide +kernel
theorem dX7_signKind_149 : decode cX7_signKind 149 = .ok (.ireturn, 1) := by decide +kernel
theorem dX7_signKind_150 : decode cX7_signKind 150 = .ok (.bipush 39, 2) := by decide +kernel
theorem dX7_signKind_152 : decode cX7_signKind 152 = .ok (.ireturn, 1) := by decide +kernel
theorem dX7_signKind_153 : decode cX7_signKind 153 = .ok (.iload_n 1, 1) := by decide +kernel
theorem dX7_signKind_154 : decode cX7_signKind 154 = .ok (.bipush 61, 2) := by decide +kernel
theorem dX7_signKind_156 : decode cX7_signKind 156 = .ok (.if_icmp .ne 8, 3) := by decide +kernel
theorem dX7_signKind_159 : decode cX7_signKind 159 = .ok (.bipush 34, 2) := by decide +kernel
theorem dX7_signKind_161 : decode cX7_signKind 161 = .ok (.goto 5, 3) := by decide +kernel
theorem dX7_signKind_164 : decode cX7_signKind 164 = .ok (.bipush 29, 2) := by decide +kernel
theorem dX7_signKind_166 : decode cX7_signKind 166 = .ok (.ireturn, 1) := by decide +kernel
theorem dX7_signKind_167 : decode cX7_signKind 167 = .ok (.iload_n 1, 1) := by decide +kernel
theorem dX7_signKind_168 : decode cX7_signKind 168 = .ok (.bipush 61, 2) := by decide +kernel
theorem dX7_signKind_170 : decode cX7_signKind 170 = .ok (.if_icmp .ne 8, 3) := by decide +kernel
theorem dX7_signKind_173 : decode cX7_signKind 173 = .ok (.bipush 35, 2) := by decide +kernel
theorem dX7_signKind_175 : decode cX7_signKind 175 = .ok (.goto 5, 3) := by decide +kernel
theorem dX7_signKind_178 : decode cX7_signKind 178 = .ok (.bipush 41, 2) := by decide +kernel
theorem dX7_signKind_180 : decode cX7_signKind 180 = .ok (.ireturn, 1) := by decide +kernel
theorem dX7_signKind_181 : decode cX7_signKind 181 = .ok (.iload_n 1, 1) := by decide +kernel
theorem dX7_signKind_182 : decode cX7_signKind 182 = .ok (.bipush 61, 2) := by decide +kernel
theorem dX7_signKind_184 : decode cX7_signKind 184 = .ok (.if_icmp .ne 8, 3) := by decide +kernel
theorem dX7_signKind_187 : decode cX7_signKind 187 = .ok (.bipush 37, 2) := by decide +kernel
theorem dX7_signKind_189 : decode cX7_signKind 189 = .ok (.goto 5, 3) := by decide +kernel
theorem dX7_signKind_192 : decode cX7_signKind 192 = .ok (.bipush 36, 2) := by decide +kernel
theorem dX7_signKind_194 : decode cX7_signKind 194 = .ok (.ireturn, 1) := by decide +kernel
theorem dX7_signKind_195 : decode cX7_signKind 195 = .ok (.bipush 41, 2) := by decide +kernel
theorem dX7_signKind_197 : decode cX7_signKind 197 = .ok (.ireturn, 1) := by decide +kernel
noncomputable def v_X7_signKind (mm : MM) (a0 : Int32) (a1 : Int32) : Int32 := (cite (a0 = (33 : Int32)) (cite (a1 = (61 : Int32)) (35 : Int32) (41 : Int32)) (cite (a0 = (34 : Int32)) (41 : Int32) (cite (a0 = (35 : Int32)) (41 : Int32) (cite (a0 = (36 : Int32)) (41 : Int32) (cite (a0 = (37 : Int32)) (41 : Int32) (cite (a0 = (38 : Int32)) (41 : Int32) (cite (a0 = (39 : Int32)) (41 : Int32) (cite (a0 = (40 : Int32)) (38 : Int32) (cite (a0 = (41 : Int32)) (39 : Int32) (cite (a0 = (42 : Int32)) (32 : Int32) (cite (a0 = (43 : Int32)) (30 : Int32) (cite (a0 = (44 : Int32)) (41 : Int32) (cite (a0 = (45 : Int32)) (31 : Int32) (cite (a0 = (46 : Int32)) (41 : Int32) (cite (a0 = (47 : Int32)) (33 : Int32) (cite (a0 = (48 : Int32)) (41 : Int32) (cite (a0 = (49 : Int32)) (41 : Int32) (cite (a0 = (50 : Int32)) (41 : Int32) (cite (a0 = (51 : Int32)) (41 : Int32) (cite (a0 = (52 : Int32)) (41 : Int32) (cite (a0 = (53 : Int32)) (41 : Int32) (cite (a0 = (54 : Int32)) (41 : Int32) (cite (a0 = (55 : Int32)) (41 : Int32) (cite (a0 = (56 : Int32)) (41 : Int32) (cite (a0 = (57 : Int32)) (41 : Int32) (cite (a0 = (58 : Int32)) (41 : Int32) (cite (a0 = (59 : Int32)) (28 : Int32) (cite (a0 = (60 : Int32)) (cite (a1 = (61 : Int32)) (37 : Int32) (36 : Int32)) (cite (a0 = (61 : Int32)) (cite (a1 = (61 : Int32)) (34 : Int32) (29 : Int32)) (41 : Int32))))))))))))))))))))))))))))))
theorem rv_X7_signKind (mm : MM) (a0 : Int32) (a1 : Int32) : Runs e_X7_signKind [.int a0, .int a1] mm (fun r m_ => r = .int (v_X7_signKind mm a0 a1) ∧ mm = m_) := by
  refine runs_of_G (L := [(0, .int a0), (1, .int a1)]) pl_X7 (Nat.le_of_ble_eq_true rfl) rfl ?_
  refine g_iload_n (pc := 0) (x := a0) dX7_signKind_0 rfl ?_
  by_cases c1_0 : a0 = (33 : Int32)
  · have c1_0_0 : a0 = (33 : Int32) := c1_0
    refine g_tsIn (pc := 1) (off := 166) (tgt := 167) dX7_signKind_1 (by rw [c1_0]; decide) (by rw [c1_0]; decide) (by rw [c1_0]; rfl) (by decide) ?_
    refine g_iload_n (pc := 167) (x := a1) dX7_signKind_167 rfl ?_
    refine g_bipush (pc := 168) (v := (61 : Int32)) dX7_signKind_168 (by decide) ?_
    refine g_icmp_ne (pc := 170) (tgt := 178) dX7_signKind_170 (by decide) (fun c170 => ?_) (fun c170 => ?_)
    · have c170_1 : ¬ a1 = (61 : Int32) := c170
      refine g_bipush (pc := 178) (v := (41 : Int32)) dX7_signKind_178 (by decide) ?_
      exact g_iret (pc := 180) dX7_signKind_180 rfl rfl rfl ⟨(by unfold v_X7_signKind; rw [cite_pos c1_0_0, cite_neg c170_1] <;> rfl), rfl⟩
    · have c170_1 : a1 = (61 : Int32) := c170
      refine g_bipush (pc := 173) (v := (35 : Int32)) dX7_signKind_173 (by decide) ?_
      refine g_goto (pc := 175) (tgt := 180) dX7_signKind_175 (by decide) ?_
      exact g_iret (pc := 180) dX7_signKind_180 rfl rfl rfl ⟨(by unfold v_X7_signKind; rw [cite_pos c1_0_0, cite_pos c170_1] <;> rfl), rfl⟩
  · have c1_0_0 : ¬ a0 = (33 : Int32) := c1_0
    by_cases c1_1 : a0 = (34 : Int32)
    · have c1_1_1 : a0 = (34 : Int32) := c1_1
      refine g_tsIn (pc := 1) (off := 194) (tgt := 195) dX7_signKind_1 (by rw [c1_1]; decide) (by rw [c1_1]; decide) (by rw [c1_1]; rfl) (by decide) ?_
      refine g_bipush (pc := 195) (v := (41 : Int32)) dX7_signKind_195 (by decide) ?_
      exact g_iret (pc := 197) dX7_signKind_197 rfl rfl rfl ⟨(by unfold v_X7_signKind; rw [cite_neg c1_0_0, cite_pos c1_1_1] <;> rfl), rfl⟩
    · have c1_1_1 : ¬ a0 = (34 : Int32) := c1_1
      by_cases c1_2 : a0 = (35 : Int32)
      · have c1_2_2 : a0 = (35 : Int32) := c1_2
        refine g_tsIn (pc := 1) (off := 194) (tgt := 195) dX7_signKind_1 (by rw [c1_2]; decide) (by rw [c1_2]; decide) (by rw [c1_2]; rfl) (by decide) ?_
        refine g_bipush (pc := 195) (v := (41 : Int32)) dX7_signKind_195 (by decide) ?_
        exact g_iret (pc := 197) dX7_signKind_197 rfl rfl rfl ⟨(by unfold v_X7_signKind; rw [cite_neg c1_0_0, cite_neg c1_1_1, cite_pos c1_2_2] <;> rfl), rfl⟩
      · have c1_2_2 : ¬ a0 = (35 : Int32) := c1_2
        by_cases c1_3 : a0 = (36 : Int32)
        · have c1_3_3 : a0 = (36 : Int32) := c1_3
          refine g_tsIn (pc := 1) (off := 194) (tgt := 195) dX7_signKind_1 (by rw [c1_3]; decide) (by rw [c1_3]; decide) (by rw [c1_3]; rfl) (by decide) ?_
          refine g_bipush (pc := 195) (v := (41 : Int32)) dX7_signKind_195 (by decide) ?_
          exact g_iret (pc := 197) dX7_signKind_197 rfl rfl rfl ⟨(by unfold v_X7_signKind; rw [cite_neg c1_0_0, cite_neg c1_1_1, cite_neg c1_2_2, cite_pos c1_3_3] <;> rfl), rfl⟩
        · have c1_3_3 : ¬ a0 = (36 : Int32) := c1_3
          by_cases c1_4 : a0 = (37 : Int32)
          · have c1_4_4 : a0 = (37 : Int32) := c1_4
            refine g_tsIn (pc := 1) (off := 194) (tgt := 195) dX7_signKind_1 (by rw [c1_4]; decide) (by rw [c1_4]; decide) (by rw [c1_4]; rfl) (by decide) ?_
            refine g_bipush (pc := 195) (v := (41 : Int32)) dX7_signKind_195 (by decide) ?_
            exact g_iret (pc := 197) dX7_signKind_197 rfl rfl rfl ⟨(by unfold v_X7_signKind; rw [cite_neg c1_0_0, cite_neg c1_1_1, cite_neg c1_2_2, cite_neg c1_3_3, cite_pos c1_4_4] <;> rfl), rfl⟩
          · have c1_4_4 : ¬ a0 = (37 : Int32) := c1_4
            by_cases c1_5 : a0 = (38 : Int32)
            · have c1_5_5 : a0 = (38 : Int32) := c1_5
              refine g_tsIn (pc := 1) (off := 194) (tgt := 195) dX7_signKind_1 (by rw [c1_5]; decide) (by rw [c1_5]; decide) (by rw [c1_5]; rfl) (by decide) ?_
              refine g_bipush (pc := 195) (v := (41 : Int32)) dX7_signKind_195 (by decide) ?_
              exact g_iret (pc := 197) dX7_signKind_197 rfl rfl rfl ⟨(by unfold v_X7_signKind; rw [cite_neg c1_0_0, cite_neg c1_1_1, cite_neg c1_2_2, cite_neg c1_3_3, cite_neg c1_4_4, cite_pos c1_5_5] <;> rfl), rfl⟩
            · have c1_5_5 : ¬ a0 = (38 : Int32) := c1_5
              by_cases c1_6 : a0 = (39 : Int32)
              · have c1_6_6 : a0 = (39 : Int32) := c1_6
                refine g_tsIn (pc := 1) (off := 194) (tgt := 195) dX7_signKind_1 (by rw [c1_6]; decide) (by rw [c1_6]; decide) (by rw [c1_6]; rfl) (by decide) ?_
                refine g_bipush (pc := 195) (v := (41 : Int32)) dX7_signKind_195 (by decide) ?_
                exact g_iret (pc := 197) dX7_signKind_197 rfl rfl rfl ⟨(by unfold v_X7_signKind; rw [cite_neg c1_0_0, cite_neg c1_1_1, cite_neg c1_2_2, cite_neg c1_3_3, cite_neg c1_4_4, cite_neg c1_5_5, cite_pos c1_6_6] <;> rfl), rfl⟩
              · have c1_6_6 : ¬ a0 = (39 : Int32) := c1_6
                by_cases c1_7 : a0 = (40 : Int32)
                · have c1_7_7 : a0 = (40 : Int32) := c1_7
                  refine g_tsIn (pc := 1) (off := 146) (tgt := 147) dX7_signKind_1 (by rw [c1_7]; decide) (by rw [c1_7]; decide) (by rw [c1_7]; rfl) (by decide) ?_
                  refine g_bipush (pc := 147) (v := (38 : Int32)) dX7_signKind_147 (by decide) ?_
                  exact g_iret (pc := 149) dX7_signKind_149 rfl rfl rfl ⟨(by unfold v_X7_signKind; rw [cite_neg c1_0_0, cite_neg c1_1_1, cite_neg c1_2_2, cite_neg c1_3_3, cite_neg c1_4_4, cite_neg c1_5_5, cite_neg c1_6_6, cite_pos c1_7_7] <;> rfl), rfl⟩
                · have c1_7_7 : ¬ a0 = (40 : Int32) := c1_7
                  by_cases c1_8 : a0 = (41 : Int32)
                  · have c1_8_8 : a0 = (41 : Int32) := c1_8
                    refine g_tsIn (pc := 1) (off := 149) (tgt := 150) dX7_signKind_1 (by rw [c1_8]; decide) (by rw [c1_8]; decide) (by rw [c1_8]; rfl) (by decide) ?_
                    refine g_bipush (pc := 150) (v := (39 : Int32)) dX7_signKind_150 (by decide) ?_
                    exact g_iret (pc := 152) dX7_signKind_152 rfl rfl rfl ⟨(by unfold v_X7_signKind; rw [cite_neg c1_0_0, cite_neg c1_1_1, cite_neg c1_2_2, cite_neg c1_3_3, cite_neg c1_4_4, cite_neg c1_5_5, cite_neg c1_6_6, cite_neg c1_7_7, cite_pos c1_8_8] <;> rfl), rfl⟩
                  · have c1_8_8 : ¬ a0 = (41 : Int32) := c1_8
                    by_cases c1_9 : a0 = (42 : Int32)
                    · have c1_9_9 : a0 = (42 : Int32) := c1_9
                      refine g_tsIn (pc := 1) (off := 140) (tgt := 141) dX7_signKind_1 (by rw [c1_9]; decide) (by rw [c1_9]; decide) (by rw [c1_9]; rfl) (by decide) ?_
                      refine g_bipush (pc := 141) (v := (32 : Int32)) dX7_signKind_141 (by decide) ?_
                      exact g_iret (pc := 143) dX7_signKind_143 rfl rfl rfl ⟨(by unfold v_X7_signKind; rw [cite_neg c1_0_0, cite_neg c1_1_1, cite_neg c1_2_2, cite_neg c1_3_3, cite_neg c1_4_4, cite_neg c1_5_5, cite_neg c1_6_6, cite_neg c1_7_7, cite_neg c1_8_8, cite_pos c1_9_9] <;> rfl), rfl⟩
                    · have c1_9_9 : ¬ a0 = (42 : Int32) := c1_9
                      by_cases c1_10 : a0 = (43 : Int32)
                      · have c1_10_10 : a0 = (43 : Int32) := c1_10
                        refine g_tsIn (pc := 1) (off := 134) (tgt := 135) dX7_signKind_1 (by rw [c1_10]; decide) (by rw [c1_10]; decide) (by rw [c1_10]; rfl) (by decide) ?_
                        refine g_bipush (pc := 135) (v := (30 : Int32)) dX7_signKind_135 (by decide) ?_
                        exact g_iret (pc := 137) dX7_signKind_137 rfl rfl rfl ⟨(by unfold v_X7_signKind; rw [cite_neg c1_0_0, cite_neg c1_1_1, cite_neg c1_2_2, cite_neg c1_3_3, cite_neg c1_4_4, cite_neg c1_5_5, cite_neg c1_6_6, cite_neg c1_7_7, cite_neg c1_8_8, cite_neg c1_9_9, cite_pos c1_10_10] <;> rfl), rfl⟩
                      · have c1_10_10 : ¬ a0 = (43 : Int32) := c1_10
                        by_cases c1_11 : a0 = (44 : Int32)
                        · have c1_11_11 : a0 = (44 : Int32) := c1_11
                          refine g_tsIn (pc := 1) (off := 194) (tgt := 195) dX7_signKind_1 (by rw [c1_11]; decide) (by rw [c1_11]; decide) (by rw [c1_11]; rfl) (by decide) ?_
                          refine g_bipush (pc := 195) (v := (41 : Int32)) dX7_signKind_195 (by decide) ?_
                          exact g_iret (pc := 197) dX7_signKind_197 rfl rfl rfl ⟨(by unfold v_X7_signKind; rw [cite_neg c1_0_0, cite_neg c1_1_1, cite_neg c1_2_2, cite_neg c1_3_3, cite_neg c1_4_4, cite_neg c1_5_5, cite_neg c1_6_6, cite_neg c1_7_7, cite_neg c1_8_8, cite_neg c1_9_9, cite_neg c1_10_10, cite_pos c1_11_11] <;> rfl), rfl⟩
                        · have c1_11_11 : ¬ a0 = (44 : Int32) := c1_11
                          by_cases c1_12 : a0 = (45 : Int32)
                          · have c1_12_12 : a0 = (45 : Int32) := c1_12
                            refine g_tsIn (pc := 1) (off := 137) (tgt := 138) dX7_signKind_1 (by rw [c1_12]; decide) (by rw [c1_12]; decide) (by rw [c1_12]; rfl) (by decide) ?_
                            refine g_bipush (pc := 138) (v := (31 : Int32)) dX7_signKind_138 (by decide) ?_
                            exact g_iret (pc := 140) dX7_signKind_140 rfl rfl rfl ⟨(by unfold v_X7_signKind; rw [cite_neg c1_0_0, cite_neg c1_1_1, cite_neg c1_2_2, cite_neg c1_3_3, cite_neg c1_4_4, cite_neg c1_5_5, cite_neg c1_6_6, cite_neg c1_7_7, cite_neg c1_8_8, cite_neg c1_9_9, cite_neg c1_10_10, cite_neg c1_11_11, cite_pos c1_12_12] <;> rfl), rfl⟩
                          · have c1_12_12 : ¬ a0 = (45 : Int32) := c1_12
                            by_cases c1_13 : a0 = (46 : Int32)
                            · have c1_13_13 : a0 = (46 : Int32) := c1_13
                              refine g_tsIn (pc := 1) (off := 194) (tgt := 195) dX7_signKind_1 (by rw [c1_13]; decide) (by rw [c1_13]; decide) (by rw [c1_13]; rfl) (by decide) ?_
                              refine g_bipush (pc := 195) (v := (41 : Int32)) dX7_signKind_195 (by decide) ?_
                              exact g_iret (pc := 197) dX7_signKind_197 rfl rfl rfl ⟨(by unfold v_X7_signKind; rw [cite_neg c1_0_0, cite_neg c1_1_1, cite_neg c1_2_2, cite_neg c1_3_3, cite_neg c1_4_4, cite_neg c1_5_5, cite_neg c1_6_6, cite_neg c1_7_7, cite_neg c1_8_8, cite_neg c1_9_9, cite_neg c1_10_10, cite_neg c1_11_11, cite_neg c1_12_12, cite_pos c1_13_13] <;> rfl), rfl⟩
                            · have c1_13_13 : ¬ a0 = (46 : Int32) := c1_13
                              by_cases c1_14 : a0 = (47 : Int32)
                              · have c1_14_14 : a0 = (47 : Int32) := c1_14
                                refine g_tsIn (pc := 1) (off := 143) (tgt := 144) dX7_signKind_1 (by rw [c1_14]; decide) (by rw [c1_14]; decide) (by rw [c1_14]; rfl) (by decide) ?_
                                refine g_bipush (pc := 144) (v := (33 : Int32)) dX7_signKind_144 (by decide) ?_
                                exact g_iret (pc := 146) dX7_signKind_146 rfl rfl rfl ⟨(by unfold v_X7_signKind; rw [cite_neg c1_0_0, cite_neg c1_1_1, cite_neg c1_2_2, cite_neg c1_3_3, cite_neg c1_4_4, cite_neg c1_5_5, cite_neg c1_6_6, cite_neg c1_7_7, cite_neg c1_8_8, cite_neg c1_9_9, cite_neg c1_10_10, cite_neg c1_11_11, cite_neg c1_12_12, cite_neg c1_13_13, cite_pos c1_14_14] <;> rfl), rfl⟩
                              · have c1_14_14 : ¬ a0 = (47 : Int32) := c1_14
                                by_cases c1_15 : a0 = (48 : Int32)
                                · have c1_15_15 : a0 = (48 : Int32) := c1_15
                                  refine g_tsIn (pc := 1) (off := 194) (tgt := 195) dX7_signKind_1 (by rw [c1_15]; decide) (by rw [c1_15]; decide) (by rw [c1_15]; rfl) (by decide) ?_
                                  refine g_bipush (pc := 195) (v := (41 : Int32)) dX7_signKind_195 (by decide) ?_
                                  exact g_iret (pc := 197) dX7_signKind_197 rfl rfl rfl ⟨(by unfold v_X7_signKind; rw [cite_neg c1_0_0, cite_neg c1_1_1, cite_neg c1_2_2, cite_neg c1_3_3, cite_neg c1_4_4, cite_neg c1_5_5, cite_neg c1_6_6, cite_neg c1_7_7, cite_neg c1_8_8, cite_neg c1_9_9, cite_neg c1_10_10, cite_neg c1_11_11, cite_neg c1_12_12, cite_neg c1_13_13, cite_neg c1_14_14, cite_pos c1_15_15] <;> rfl), rfl⟩
                                · have c1_15_15 : ¬ a0 = (48 : Int32) := c1_15
                                  by_cases c1_16 : a0 = (49 : Int32)
                                  · have c1_16_16 : a0 = (49 : Int32) := c1_16
                                    refine g_tsIn (pc := 1) (off := 194) (tgt := 195) dX7_signKind_1 (by rw [c1_16]; decide) (by rw [c1_16]; decide) (by rw [c1_16]; rfl) (by decide) ?_
                                    refine g_bipush (pc := 195) (v := (41 : Int32)) dX7_signKind_195 (by decide) ?_
                                    exact g_iret (pc := 197) dX7_signKind_197 rfl rfl rfl ⟨(by unfold v_X7_signKind; rw [cite_neg c1_0_0, cite_neg c1_1_1, cite_neg c1_2_2, cite_neg c1_3_3, cite_neg c1_4_4, cite_neg c1_5_5, cite_neg c1_6_6, cite_neg c1_7_7, cite_neg c1_8_8, cite_neg c1_9_9, cite_neg c1_10_10, cite_neg c1_11_11, cite_neg c1_12_12, cite_neg c1_13_13, cite_neg c1_14_14, cite_neg c1_15_15, cite_pos c1_16_16] <;> rfl), rfl⟩
                                  · have c1_16_16 : ¬ a0 = (49 : Int32) := c1_16
                                    by_cases c1_17 : a0 = (50 : Int32)
                                    · have c1_17_17 : a0 = (50 : Int32) := c1_17
                                      refine g_tsIn (pc := 1) (off := 194) (tgt := 195) dX7_signKind_1 (by rw [c1_17]; decide) (by rw [c1_17]; decide) (by rw [c1_17]; rfl) (by decide) ?_
                                      refine g_bipush (pc := 195) (v := (41 : Int32)) dX7_signKind_195 (by decide) ?_
                                      exact g_iret (pc := 197) dX7_signKind_197 rfl rfl rfl ⟨(by unfold v_X7_signKind; rw [cite_neg c1_0_0, cite_neg c1_1_1, cite_neg c1_2_2, cite_neg c1_3_3, cite_neg c1_4_4, cite_neg c1_5_5, cite_neg c1_6_6, cite_neg c1_7_7, cite_neg c1_8_8, cite_neg c1_9_9, cite_neg c1_10_10, cite_neg c1_11_11, cite_neg c1_12_12, cite_neg c1_13_13, cite_neg c1_14_14, cite_neg c1_15_15, cite_neg c1_16_16, cite_pos c1_17_17] <;> rfl), rfl⟩
                                    · have c1_17_17 : ¬ a0 = (50 : Int32) := c1_17
                                      by_cases c1_18 : a0 = (51 : Int32)
                                      · have c1_18_18 : a0 = (51 : Int32) := c1_18
                                        refine g_tsIn (pc := 1) (off := 194) (tgt := 195) dX7_signKind_1 (by rw [c1_18]; decide) (by rw [c1_18]; decide) (by rw [c1_18]; rfl) (by decide) ?_
                                        refine g_bipush (pc := 195) (v := (41 : Int32)) dX7_signKind_195 (by decide) ?_
                                        exact g_iret (pc := 197) dX7_signKind_197 rfl rfl rfl ⟨(by unfold v_X7_signKind; rw [cite_neg c1_0_0, cite_neg c1_1_1, cite_neg c1_2_2, cite_neg c1_3_3, cite_neg c1_4_4, cite_neg c1_5_5, cite_neg c1_6_6, cite_neg c1_7_7, cite_neg c1_8_8, cite_neg c1_9_9, cite_neg c1_10_10, cite_neg c1_11_11, cite_neg c1_12_12, cite_neg c1_13_13, cite_neg c1_14_14, cite_neg c1_15_15, cite_neg c1_16_16, cite_neg c1_17_17, cite_pos c1_18_18] <;> rfl), rfl⟩
                                      · have c1_18_18 : ¬ a0 = (51 : Int32) := c1_18
                                        by_cases c1_19 : a0 = (52 : Int32)
                                        · have c1_19_19 : a0 = (52 : Int32) := c1_19
                                          refine g_tsIn (pc := 1) (off := 194) (tgt := 195) dX7_signKind_1 (by rw [c1_19]; decide) (by rw [c1_19]; decide) (by rw [c1_19]; rfl) (by decide) ?_
                                          refine g_bipush (pc := 195) (v := (41 : Int32)) dX7_signKind_195 (by decide) ?_
                                          exact g_iret (pc := 197) dX7_signKind_197 rfl rfl rfl ⟨(by unfold v_X7_signKind; rw [cite_neg c1_0_0, cite_neg c1_1_1, cite_neg c1_2_2, cite_neg c1_3_3, cite_neg c1_4_4, cite_neg c1_5_5, cite_neg c1_6_6, cite_neg c1_7_7, cite_neg c1_8_8, cite_neg c1_9_9, cite_neg c1_10_10, cite_neg c1_11_11, cite_neg c1_12_12, cite_neg c1_13_13, cite_neg c1_14_14, cite_neg c1_15_15, cite_neg c1_16_16, cite_neg c1_17_17, cite_neg c1_18_18, cite_pos c1_19_19] <;> rfl), rfl⟩
                                        · have c1_19_19 : ¬ a0 = (52 : Int32) := c1_19
                                          by_cases c1_20 : a0 = (53 : Int32)
                                          · have c1_20_20 : a0 = (53 : Int32) := c1_20
                                            refine g_tsIn (pc := 1) (off := 194) (tgt := 195) dX7_signKind_1 (by rw [c1_20]; decide) (by rw [c1_20]; decide) (by rw [c1_20]; rfl) (by decide) ?_
                                            refine g_bipush (pc := 195) (v := (41 : Int32)) dX7_signKind_195 (by decide) ?_
                                            exact g_iret (pc := 197) dX7_signKind_197 rfl rfl rfl ⟨(by unfold v_X7_signKind; rw [cite_neg c1_0_0, cite_neg c1_1_1, cite_neg c1_2_2, cite_neg c1_3_3, cite_neg c1_4_4, cite_neg c1_5_5, cite_neg c1_6_6, cite_neg c1_7_7, cite_neg c1_8_8, cite_neg c1_9_9, cite_neg c1_10_10, cite_neg c1_11_11, cite_neg c1_12_12, cite_neg c1_13_13, cite_neg c1_14_14, cite_neg c1_15_15, cite_neg c1_16_16, cite_neg c1_17_17, cite_neg c1_18_18, cite_neg c1_19_19, cite_pos c1_20_20] <;> rfl), rfl⟩
                                          · have c1_20_20 : ¬ a0 = (53 : Int32) := c1_20
                                            by_cases c1_21 : a0 = (54 : Int32)
                                            · have c1_21_21 : a0 = (54 : Int32) := c1_21
                                              refine g_tsIn (pc := 1) (off := 194) (tgt := 195) dX7_signKind_1 (by rw [c1_21]; decide) (by rw [c1_21]; decide) (by rw [c1_21]; rfl) (by decide) ?_
                                              refine g_bipush (pc := 195) (v := (41 : Int32)) dX7_signKind_195 (by decide) ?_
                                              exact g_iret (pc := 197) dX7_signKind_197 rfl rfl rfl ⟨(by unfold v_X7_signKind; rw [cite_neg c1_0_0, cite_neg c1_1_1, cite_neg c1_2_2, cite_neg c1_3_3, cite_neg c1_4_4, cite_neg c1_5_5, cite_neg c1_6_6, cite_neg c1_7_7, cite_neg c1_8_8, cite_neg c1_9_9, cite_neg c1_10_10, cite_neg c1_11_11, cite_neg c1_12_12, cite_neg c1_13_13, cite_neg c1_14_14, cite_neg c1_15_15, cite_neg c1_16_16, cite_neg c1_17_17, cite_neg c1_18_18, cite_neg c1_19_19, cite_neg c1_20_20, cite_pos c1_21_21] <;> rfl), rfl⟩
                                            · have c1_21_21 : ¬ a0 = (54 : Int32) := c1_21
                                              by_cases c1_22 : a0 = (55 : Int32)
                                              · have c1_22_22 : a0 = (55 : Int32) := c1_22
                                                refine g_tsIn (pc := 1) (off := 194) (tgt := 195) dX7_signKind_1 (by rw [c1_22]; decide) (by rw [c1_22]; decide) (by rw [c1_22]; rfl) (by decide) ?_
                                                refine g_bipush (pc := 195) (v := (41 : Int32)) dX7_signKind_195 (by decide) ?_
                                                exact g_iret (pc := 197) dX7_signKind_197 rfl rfl rfl ⟨(by unfold v_X7_signKind; rw [cite_neg c1_0_0, cite_neg c1_1_1, cite_neg c1_2_2, cite_neg c1_3_3, cite_neg c1_4_4, cite_neg c1_5_5, cite_neg c1_6_6, cite_neg c1_7_7, cite_neg c1_8_8, cite_neg c1_9_9, cite_neg c1_10_10, cite_neg c1_11_11, cite_neg c1_12_12, cite_neg c1_13_13, cite_neg c1_14_14, cite_neg c1_15_15, cite_neg c1_16_16, cite_neg c1_17_17, cite_neg c1_18_18, cite_neg c1_19_19, cite_neg c1_20_20, cite_neg c1_21_21, cite_pos c1_22_22] <;> rfl), rfl⟩
                                              · have c1_22_22 : ¬ a0 = (55 : Int32) := c1_22
                                                by_cases c1_23 : a0 = (56 : Int32)
                                                · have c1_23_23 : a0 = (56 : Int32) := c1_23
                                                  refine g_tsIn (pc := 1) (off := 194) (tgt := 195) dX7_signKind_1 (by rw [c1_23]; decide) (by rw [c1_23]; decide) (by rw [c1_23]; rfl) (by decide) ?_
                                                  refine g_bipush (pc := 195) (v := (41 : Int32)) dX7_signKind_195 (by decide) ?_
                                                  exact g_iret (pc := 197) dX7_signKind_197 rfl rfl rfl ⟨(by unfold v_X7_signKind; rw [cite_neg c1_0_0, cite_neg c1_1_1, cite_neg c1_2_2, cite_neg c1_3_3, cite_neg c1_4_4, cite_neg c1_5_5, cite_neg c1_6_6, cite_neg c1_7_7, cite_neg c1_8_8, cite_neg c1_9_9, cite_neg c1_10_10, cite_neg c1_11_11, cite_neg c1_12_12, cite_neg c1_13_13, cite_neg c1_14_14, cite_neg c1_15_15, cite_neg c1_16_16, cite_neg c1_17_17, cite_neg c1_18_18, cite_neg c1_19_19, cite_neg c1_20_20, cite_neg c1_21_21, cite_neg c1_22_22, cite_pos c1_23_23] <;> rfl), rfl⟩
                                                · have c1_23_23 : ¬ a0 = (56 : Int32) := c1_23
                                                  by_cases c1_24 : a0 = (57 : Int32)
                                                  · have c1_24_24 : a0 = (57 : Int32) := c1_24
                                                    refine g_tsIn (pc := 1) (off := 194) (tgt := 195) dX7_signKind_1 (by rw [c1_24]; decide) (by rw [c1_24]; decide) (by rw [c1_24]; rfl) (by decide) ?_
                                                    refine g_bipush (pc := 195) (v := (41 : Int32)) dX7_signKind_195 (by decide) ?_
                                                    exact g_iret (pc := 197) dX7_signKind_197 rfl rfl rfl ⟨(by unfold v_X7_signKind; rw [cite_neg c1_0_0, cite_neg c1_1_1, cite_neg c1_2_2, cite_neg c1_3_3, cite_neg c1_4_4, cite_neg c1_5_5, cite_neg c1_6_6, cite_neg c1_7_7, cite_neg c1_8_8, cite_neg c1_9_9, cite_neg c1_10_10, cite_neg c1_11_11, cite_neg c1_12_12, cite_neg c1_13_13, cite_neg c1_14_14, cite_neg c1_15_15, cite_neg c1_16_16, cite_neg c1_17_17, cite_neg c1_18_18, cite_neg c1_19_19, cite_neg c1_20_20, cite_neg c1_21_21, cite_neg c1_22_22, cite_neg c1_23_23, cite_pos c1_24_24] <;> rfl), rfl⟩
                                                  · have c1_24_24 : ¬ a0 = (57 : Int32) := c1_24
                                                    by_cases c1_25 : a0 = (58 : Int32)
                                                    · have c1_25_25 : a0 = (58 : Int32) := c1_25
                                                      refine g_tsIn (pc := 1) (off := 194) (tgt := 195) dX7_signKind_1 (by rw [c1_25]; decide) (by rw [c1_25]; decide) (by rw [c1_25]; rfl) (by decide) ?_
                                                      refine g_bipush (pc := 195) (v := (41 : Int32)) dX7_signKind_195 (by decide) ?_
                                                      exact g_iret (pc := 197) dX7_signKind_197 rfl rfl rfl ⟨(by unfold v_X7_signKind; rw [cite_neg c1_0_0, cite_neg c1_1_1, cite_neg c1_2_2, cite_neg c1_3_3, cite_neg c1_4_4, cite_neg c1_5_5, cite_neg c1_6_6, cite_neg c1_7_7, cite_neg c1_8_8, cite_neg c1_9_9, cite_neg c1_10_10, cite_neg c1_11_11, cite_neg c1_12_12, cite_neg c1_13_13, cite_neg c1_14_14, cite_neg c1_15_15, cite_neg c1_16_16, cite_neg c1_17_17, cite_neg c1_18_18, cite_neg c1_19_19, cite_neg c1_20_20, cite_neg c1_21_21, cite_neg c1_22_22, cite_neg c1_23_23, cite_neg c1_24_24, cite_pos c1_25_25] <;> rfl), rfl⟩
                                                    · have c1_25_25 : ¬ a0 = (58 : Int32) := c1_25
                                                      by_cases c1_26 : a0 = (59 : Int32)
                                                      · have c1_26_26 : a0 = (59 : Int32) := c1_26
                                                        refine g_tsIn (pc := 1) (off := 131) (tgt := 132) dX7_signKind_1 (by rw [c1_26]; decide) (by rw [c1_26]; decide) (by rw [c1_26]; rfl) (by decide) ?_
                                                        refine g_bipush (pc := 132) (v := (28 : Int32)) dX7_signKind_132 (by decide) ?_
                                                        exact g_iret (pc := 134) dX7_signKind_134 rfl rfl rfl ⟨(by unfold v_X7_signKind; rw [cite_neg c1_0_0, cite_neg c1_1_1, cite_neg c1_2_2, cite_neg c1_3_3, cite_neg c1_4_4, cite_neg c1_5_5, cite_neg c1_6_6, cite_neg c1_7_7, cite_neg c1_8_8, cite_neg c1_9_9, cite_neg c1_10_10, cite_neg c1_11_11, cite_neg c1_12_12, cite_neg c1_13_13, cite_neg c1_14_14, cite_neg c1_15_15, cite_neg c1_16_16, cite_neg c1_17_17, cite_neg c1_18_18, cite_neg c1_19_19, cite_neg c1_20_20, cite_neg c1_21_21, cite_neg c1_22_22, cite_neg c1_23_23, cite_neg c1_24_24, cite_neg c1_25_25, cite_pos c1_26_26] <;> rfl), rfl⟩
                                                      · have c1_26_26 : ¬ a0 = (59 : Int32) := c1_26
                                                        by_cases c1_27 : a0 = (60 : Int32)
                                                        · have c1_27_27 : a0 = (60 : Int32) := c1_27
                                                          refine g_tsIn (pc := 1) (off := 180) (tgt := 181) dX7_signKind_1 (by rw [c1_27]; decide) (by rw [c1_27]; decide) (by rw [c1_27]; rfl) (by decide) ?_
                                                          refine g_iload_n (pc := 181) (x := a1) dX7_signKind_181 rfl ?_
                                                          refine g_bipush (pc := 182) (v := (61 : Int32)) dX7_signKind_182 (by decide) ?_
                                                          refine g_icmp_ne (pc := 184) (tgt := 192) dX7_signKind_184 (by decide) (fun c184 => ?_) (fun c184 => ?_)
                                                          · have c184_28 : ¬ a1 = (61 : Int32) := c184
                                                            refine g_bipush (pc := 192) (v := (36 : Int32)) dX7_signKind_192 (by decide) ?_
                                                            exact g_iret (pc := 194) dX7_signKind_194 rfl rfl rfl ⟨(by unfold v_X7_signKind; rw [cite_neg c1_0_0, cite_neg c1_1_1, cite_neg c1_2_2, cite_neg c1_3_3, cite_neg c1_4_4, cite_neg c1_5_5, cite_neg c1_6_6, cite_neg c1_7_7, cite_neg c1_8_8, cite_neg c1_9_9, cite_neg c1_10_10, cite_neg c1_11_11, cite_neg c1_12_12, cite_neg c1_13_13, cite_neg c1_14_14, cite_neg c1_15_15, cite_neg c1_16_16, cite_neg c1_17_17, cite_neg c1_18_18, cite_neg c1_19_19, cite_neg c1_20_20, cite_neg c1_21_21, cite_neg c1_22_22, cite_neg c1_23_23, cite_neg c1_24_24, cite_neg c1_25_25, cite_neg c1_26_26, cite_pos c1_27_27, cite_neg c184_28] <;> rfl), rfl⟩
                                                          · have c184_28 : a1 = (61 : Int32) := c184
                                                            refine g_bipush (pc := 187) (v := (37 : Int32)) dX7_signKind_187 (by decide) ?_
                                                            refine g_goto (pc := 189) (tgt := 194) dX7_signKind_189 (by decide) ?_
                                                            exact g_iret (pc := 194) dX7_signKind_194 rfl rfl rfl ⟨(by unfold v_X7_signKind; rw [cite_neg c1_0_0, cite_neg c1_1_1, cite_neg c1_2_2, cite_neg c1_3_3, cite_neg c1_4_4, cite_neg c1_5_5, cite_neg c1_6_6, cite_neg c1_7_7, cite_neg c1_8_8, cite_neg c1_9_9, cite_neg c1_10_10, cite_neg c1_11_11, cite_neg c1_12_12, cite_neg c1_13_13, cite_neg c1_14_14, cite_neg c1_15_15, cite_neg c1_16_16, cite_neg c1_17_17, cite_neg c1_18_18, cite_neg c1_19_19, cite_neg c1_20_20, cite_neg c1_21_21, cite_neg c1_22_22, cite_neg c1_23_23, cite_neg c1_24_24, cite_neg c1_25_25, cite_neg c1_26_26, cite_pos c1_27_27, cite_pos c184_28] <;> rfl), rfl⟩
                                                        · have c1_27_27 : ¬ a0 = (60 : Int32) := c1_27
                                                          by_cases c1_28 : a0 = (61 : Int32)
                                                          · have c1_28_28 : a0 = (61 : Int32) := c1_28
                                                            refine g_tsIn (pc := 1) (off := 152) (tgt := 153) dX7_signKind_1 (by rw [c1_28]; decide) (by rw [c1_28]; decide) (by rw [c1_28]; rfl) (by decide) ?_
                                                            refine g_iload_n (pc := 153) (x := a1) dX7_signKind_153 rfl ?_
                                                            refine g_bipush (pc := 154) (v := (61 : Int32)) dX7_signKind_154 (by decide) ?_
                                                            refine g_icmp_ne (pc := 156) (tgt := 164) dX7_signKind_156 (by decide) (fun c156 => ?_) (fun c156 => ?_)
                                                            · have c156_29 : ¬ a1 = (61 : Int32) := c156
                                                              refine g_bipush (pc := 164) (v := (29 : Int32)) dX7_signKind_164 (by decide) ?_
                                                              exact g_iret (pc := 166) dX7_signKind_166 rfl rfl rfl ⟨(by unfold v_X7_signKind; rw [cite_neg c1_0_0, cite_neg c1_1_1, cite_neg c1_2_2, cite_neg c1_3_3, cite_neg c1_4_4, cite_neg c1_5_5, cite_neg c1_6_6, cite_neg c1_7_7, cite_neg c1_8_8, cite_neg c1_9_9, cite_neg c1_10_10, cite_neg c1_11_11, cite_neg c1_12_12, cite_neg c1_13_13, cite_neg c1_14_14, cite_neg c1_15_15, cite_neg c1_16_16, cite_neg c1_17_17, cite_neg c1_18_18, cite_neg c1_19_19, cite_neg c1_20_20, cite_neg c1_21_21, cite_neg c1_22_22, cite_neg c1_23_23, cite_neg c1_24_24, cite_neg c1_25_25, cite_neg c1_26_26, cite_neg c1_27_27, cite_pos c1_28_28, cite_neg c156_29] <;> rfl), rfl⟩
                                                            · have c156_29 : a1 = (61 : Int32) := c156
                                                              refine g_bipush (pc := 159) (v := (34 : Int32)) dX7_signKind_159 (by decide) ?_
                                                              refine g_goto (pc := 161) (tgt := 166) dX7_signKind_161 (by decide) ?_
                                                              exact g_iret (pc := 166) dX7_signKind_166 rfl rfl rfl ⟨(by unfold v_X7_signKind; rw [cite_neg c1_0_0, cite_neg c1_1_1, cite_neg c1_2_2, cite_neg c1_3_3, cite_neg c1_4_4, cite_neg c1_5_5, cite_neg c1_6_6, cite_neg c1_7_7, cite_neg c1_8_8, cite_neg c1_9_9, cite_neg c1_10_10, cite_neg c1_11_11, cite_neg c1_12_12, cite_neg c1_13_13, cite_neg c1_14_14, cite_neg c1_15_15, cite_neg c1_16_16, cite_neg c1_17_17, cite_neg c1_18_18, cite_neg c1_19_19, cite_neg c1_20_20, cite_neg c1_21_21, cite_neg c1_22_22, cite_neg c1_23_23, cite_neg c1_24_24, cite_neg c1_25_25, cite_neg c1_26_26, cite_neg c1_27_27, cite_pos c1_28_28, cite_pos c156_29] <;> rfl), rfl⟩
                                                          · have c1_28_28 : ¬ a0 = (61 : Int32) := c1_28
                                                            refine g_tsOut (pc := 1) (tgt := 195) dX7_signKind_1 (by have e0_ := ts_ne (k := 33) c1_0 (by decide); have e1_ := ts_ne (k := 34) c1_1 (by decide); have e2_ := ts_ne (k := 35) c1_2 (by decide); have e3_ := ts_ne (k := 36) c1_3 (by decide); have e4_ := ts_ne (k := 37) c1_4 (by decide); have e5_ := ts_ne (k := 38) c1_5 (by decide); have e6_ := ts_ne (k := 39) c1_6 (by decide); have e7_ := ts_ne (k := 40) c1_7 (by decide); have e8_ := ts_ne (k := 41) c1_8 (by decide); have e9_ := ts_ne (k := 42) c1_9 (by decide); have e10_ := ts_ne (k := 43) c1_10 (by decide); have e11_ := ts_ne (k := 44) c1_11 (by decide); have e12_ := ts_ne (k := 45) c1_12 (by decide); have e13_ := ts_ne (k := 46) c1_13 (by decide); have e14_ := ts_ne (k := 47) c1_14 (by decide); have e15_ := ts_ne (k := 48) c1_15 (by decide); have e16_ := ts_ne (k := 49) c1_16 (by decide); have e17_ := ts_ne (k := 50) c1_17 (by decide); have e18_ := ts_ne (k := 51) c1_18 (by decide); have e19_ := ts_ne (k := 52) c1_19 (by decide); have e20_ := ts_ne (k := 53) c1_20 (by decide); have e21_ := ts_ne (k := 54) c1_21 (by decide); have e22_ := ts_ne (k := 55) c1_22 (by decide); have e23_ := ts_ne (k := 56) c1_23 (by decide); have e24_ := ts_ne (k := 57) c1_24 (by decide); have e25_ := ts_ne (k := 58) c1_25 (by decide); have e26_ := ts_ne (k := 59) c1_26 (by decide); have e27_ := ts_ne (k := 60) c1_27 (by decide); have e28_ := ts_ne (k := 61) c1_28 (by decide); omega) (by decide) ?_
                                                            refine g_bipush (pc := 195) (v := (41 : Int32)) dX7_signKind_195 (by decide) ?_
                                                            exact g_iret (pc := 197) dX7_signKind_197 rfl rfl rfl ⟨(by unfold v_X7_signKind; rw [cite_neg c1_0_0, cite_neg c1_1_1, cite_neg c1_2_2, cite_neg c1_3_3, cite_neg c1_4_4, cite_neg c1_5_5, cite_neg c1_6_6, cite_neg c1_7_7, cite_neg c1_8_8, cite_neg c1_9_9, cite_neg c1_10_10, cite_neg c1_11_11, cite_neg c1_12_12, cite_neg c1_13_13, cite_neg c1_14_14, cite_neg c1_15_15, cite_neg c1_16_16, cite_neg c1_17_17, cite_neg c1_18_18, cite_neg c1_19_19, cite_neg c1_20_20, cite_neg c1_21_21, cite_neg c1_22_22, cite_neg c1_23_23, cite_neg c1_24_24, cite_neg c1_25_25, cite_neg c1_26_26, cite_neg c1_27_27, cite_neg c1_28_28] <;> rfl), rfl⟩
theorem dX7_scanToken_0 : decode cX7_scanToken 0 = .ok (.aload_n 0, 1) := by decide +kernel
theorem dX7_scanToken_1 : decode cX7_scanToken 1 = .ok (.iload_n 2, 1) := by decide +kernel
theorem dX7_scanToken_2 : decode cX7_scanToken 2 = .ok (.invokevirtual 41, 3) := by decide +kernel
theorem dX7_scanToken_5 : decode cX7_scanToken 5 = .ok (.istore_n 3, 1) := by decide +kernel
theorem dX7_scanToken_6 : decode cX7_scanToken 6 = .ok (.aload_n 0, 1) := by decide +kernel
theorem dX7_scanToken_7 : decode cX7_scanToken 7 = .ok (.getfield 22, 3) := by decide +kernel
theorem dX7_scanToken_10 : decode cX7_scanToken 10 = .ok (.iload_n 1, 1) := by decide +kernel
theorem dX7_scanToken_11 : decode cX7_scanToken 11 = .ok (.lconst 0, 1) := by decide +kernel
theorem dX7_scanToken_12 : decode cX7_scanToken 12 = .ok (.lastore, 1) := by decide +kernel
theorem dX7_scanToken_13 : decode cX7_scanToken 13 = .ok (.iload_n 3, 1) := by decide +kernel
theorem dX7_scanToken_14 : decode cX7_scanToken 14 = .ok (.iconst (-1), 1) := by decide +kernel
theorem dX7_scanToken_15 : decode cX7_scanToken 15 = .ok (.if_icmp .ne 13, 3) := by decide +kernel
theorem dX7_scanToken_18 : decode cX7_scanToken 18 = .ok (.aload_n 0, 1) := by decide +kernel
theorem dX7_scanToken_19 : decode cX7_scanToken 19 = .ok (.getfield 15, 3) := by decide +kernel
theorem dX7_scanToken_22 : decode cX7_scanToken 22 = .ok (.iload_n 1, 1) := by decide +kernel
theorem dX7_scanToken_23 : decode cX7_scanToken 23 = .ok (.bipush 40, 2) := by decide +kernel
theorem dX7_scanToken_25 : decode cX7_scanToken 25 = .ok (.iastore, 1) := by decide +kernel
theorem dX7_scanToken_26 : decode cX7_scanToken 26 = .ok (.iload_n 2, 1) := by decide +kernel
theorem dX7_scanToken_27 : decode cX7_scanToken 27 = .ok (.ireturn, 1) := by decide +kernel
theorem dX7_scanToken_28 : decode cX7_scanToken 28 = .ok (.iload_n 3, 1) := by decide +kernel
theorem dX7_scanToken_29 : decode cX7_scanToken 29 = .ok (.bipush 97, 2) := by decide +kernel
theorem dX7_scanToken_31 : decode cX7_scanToken 31 = .ok (.bipush 122, 2) := by decide +kernel
theorem dX7_scanToken_33 : decode cX7_scanToken 33 = .ok (.invokestatic 48, 3) := by decide +kernel
theorem dX7_scanToken_36 : decode cX7_scanToken 36 = .ok (.ifCond .eq 57, 3) := by decide +kernel
theorem dX7_scanToken_39 : decode cX7_scanToken 39 = .ok (.aload_n 0, 1) := by decide +kernel
theorem dX7_scanToken_40 : decode cX7_scanToken 40 = .ok (.iload_n 2, 1) := by decide +kernel
theorem dX7_scanToken_41 : decode cX7_scanToken 41 = .ok (.bipush 97, 2) := by decide +kernel
theorem dX7_scanToken_43 : decode cX7_scanToken 43 = .ok (.bipush 122, 2) := by decide +kernel
theorem dX7_scanToken_45 : decode cX7_scanToken 45 = .ok (.invokevirtual 52, 3) := by decide +kernel
theorem dX7_scanToken_48 : decode cX7_scanToken 48 = .ok (.istore 4, 2) := by decide +kernel
theorem dX7_scanToken_50 : decode cX7_scanToken 50 = .ok (.aload_n 0, 1) := by decide +kernel
theorem dX7_scanToken_51 : decode cX7_scanToken 51 = .ok (.getfield 22, 3) := by decide +kernel
theorem dX7_scanToken_54 : decode cX7_scanToken 54 = .ok (.iload_n 1, 1) := by decide +kernel
theorem dX7_scanToken_55 : decode cX7_scanToken 55 = .ok (.aload_n 0, 1) := by decide +kernel
theorem dX7_scanToken_56 : decode cX7_scanToken 56 = .ok (.iload_n 2, 1) := by decide +kernel
theorem dX7_scanToken_57 : decode cX7_scanToken 57 = .ok (.iload 4, 2) := by decide +kernel
theorem dX7_scanToken_59 : decode cX7_scanToken 59 = .ok (.invokevirtual 56, 3) := by decide +kernel
theorem dX7_scanToken_62 : decode cX7_scanToken 62 = .ok (.lastore, 1) := by decide +kernel
theorem dX7_scanToken_63 : decode cX7_scanToken 63 = .ok (.aload_n 0, 1) := by decide +kernel
theorem dX7_scanToken_64 : decode cX7_scanToken 64 = .ok (.getfield 15, 3) := by decide +kernel
theorem dX7_scanToken_67 : decode cX7_scanToken 67 = .ok (.iload_n 1, 1) := by decide +kernel
theorem dX7_scanToken_68 : decode cX7_scanToken 68 = .ok (.iload 4, 2) := by decide +kernel
theorem dX7_scanToken_70 : decode cX7_scanToken 70 = .ok (.iload_n 2, 1) := by decide +kernel
theorem dX7_scanToken_71 : decode cX7_scanToken 71 = .ok (.isub, 1) := by decide +kernel
theorem dX7_scanToken_72 : decode cX7_scanToken 72 = .ok (.bipush 8, 2) := by decide +kernel
theorem dX7_scanToken_74 : decode cX7_scanToken 74 = .ok (.if_icmp .le 8, 3) := by decide +kernel
theorem dX7_scanToken_77 : decode cX7_scanToken 77 = .ok (.bipush 41, 2) := by decide +kernel
theorem dX7_scanToken_79 : decode cX7_scanToken 79 = .ok (.goto 10, 3) := by decide +kernel
theorem dX7_scanToken_82 : decode cX7_scanToken 82 = .ok (.aload_n 0, 1) := by decide +kernel
theorem dX7_scanToken_83 : decode cX7_scanToken 83 = .ok (.iload_n 2, 1) := by decide +kernel
theorem dX7_scanToken_84 : decode cX7_scanToken 84 = .ok (.iload 4, 2) := by decide +kernel
theorem dX7_scanToken_86 : decode cX7_scanToken 86 = .ok (.invokevirtual 60, 3) := by decide +kernel
theorem dX7_scanToken_89 : decode cX7_scanToken 89 = .ok (.iastore, 1) := by decide +kernel
theorem dX7_scanToken_90 : decode cX7_scanToken 90 = .ok (.iload 4, 2) := by decide +kernel
theorem dX7_scanToken_92 : decode cX7_scanToken 92 = .ok (.ireturn, 1) := by decide +kernel
theorem dX7_scanToken_93 : decode cX7_scanToken 93 = .ok (.iload_n 3, 1) := by decide +kernel
theorem dX7_scanToken_94 : decode cX7_scanToken 94 = .ok (.bipush 48, 2) := by decide +kernel
theorem dX7_scanToken_96 : decode cX7_scanToken 96 = .ok (.bipush 57, 2) := by decide +kernel
theorem dX7_scanToken_98 : decode cX7_scanToken 98 = .ok (.invokestatic 48, 3) := by decide +kernel
theorem dX7_scanToken_101 : decode cX7_scanToken 101 = .ok (.ifCond .eq 52, 3) := by decide +kernel
theorem dX7_scanToken_104 : decode cX7_scanToken 104 = .ok (.aload_n 0, 1) := by decide +kernel
theorem dX7_scanToken_105 : decode cX7_scanToken 105 = .ok (.iload_n 2, 1) := by decide +kernel
theorem dX7_scanToken_106 : decode cX7_scanToken 106 = .ok (.bipush 48, 2) := by decide +kernel
theorem dX7_scanToken_108 : decode cX7_scanToken 108 = .ok (.bipush 57, 2) := by decide +kernel
theorem dX7_scanToken_110 : decode cX7_scanToken 110 = .ok (.invokevirtual 52, 3) := by decide +kernel
theorem dX7_scanToken_113 : decode cX7_scanToken 113 = .ok (.istore 4, 2) := by decide +kernel
theorem dX7_scanToken_115 : decode cX7_scanToken 115 = .ok (.aload_n 0, 1) := by decide +kernel
theorem dX7_scanToken_116 : decode cX7_scanToken 116 = .ok (.getfield 22, 3) := by decide +kernel
theorem dX7_scanToken_119 : decode cX7_scanToken 119 = .ok (.iload_n 1, 1) := by decide +kernel
theorem dX7_scanToken_120 : decode cX7_scanToken 120 = .ok (.aload_n 0, 1) := by decide +kernel
theorem dX7_scanToken_121 : decode cX7_scanToken 121 = .ok (.iload_n 2, 1) := by decide +kernel
theorem dX7_scanToken_122 : decode cX7_scanToken 122 = .ok (.iload 4, 2) := by decide +kernel
theorem dX7_scanToken_124 : decode cX7_scanToken 124 = .ok (.invokevirtual 63, 3) := by decide +kernel
theorem dX7_scanToken_127 : decode cX7_scanToken 127 = .ok (.i2l, 1) := by decide +kernel
theorem dX7_scanToken_128 : decode cX7_scanToken 128 = .ok (.lastore, 1) := by decide +kernel
theorem dX7_scanToken_129 : decode cX7_scanToken 129 = .ok (.aload_n 0, 1) := by decide +kernel
theorem dX7_scanToken_130 : decode cX7_scanToken 130 = .ok (.getfield 15, 3) := by decide +kernel
theorem dX7_scanToken_133 : decode cX7_scanToken 133 = .ok (.iload_n 1, 1) := by decide +kernel
theorem dX7_scanToken_134 : decode cX7_scanToken 134 = .ok (.iload 4, 2) := by decide +kernel
theorem dX7_scanToken_136 : decode cX7_scanToken 136 = .ok (.iload_n 2, 1) := by decide +kernel
theorem dX7_scanToken_137 : decode cX7_scanToken 137 = .ok (.isub, 1) := by decide +kernel
theorem dX7_scanToken_138 : decode cX7_scanToken 138 = .ok (.iconst 4, 1) := by decide +kernel
theorem dX7_scanToken_139 : decode cX7_scanToken 139 = .ok (.if_icmp .le 8, 3) := by decide +kernel
theorem dX7_scanToken_142 : decode cX7_scanToken 142 = .ok (.bipush 41, 2) := by decide +kernel
theorem dX7_scanToken_144 : decode cX7_scanToken 144 = .ok (.goto 5, 3) := by decide +kernel
theorem dX7_scanToken_147 : decode cX7_scanToken 147 = .ok (.bipush 27, 2) := by decide +kernel
theorem dX7_scanToken_149 : decode cX7_scanToken 149 = .ok (.iastore, 1) := by decide +kernel
theorem dX7_scanToken_150 : decode cX7_scanToken 150 = .ok (.iload 4, 2) := by decide +kernel
theorem dX7_scanToken_152 : decode cX7_scanToken 152 = .ok (.ireturn, 1) := by decide +kernel
theorem dX7_scanToken_153 : decode cX7_scanToken 153 = .ok (.aload_n 0, 1) := by decide +kernel
theorem dX7_scanToken_154 : decode cX7_scanToken 154 = .ok (.getfield 15, 3) := by decide +kernel
theorem dX7_scanToken_157 : decode cX7_scanToken 157 = .ok (.iload_n 1, 1) := by decide +kernel
theorem dX7_scanToken_158 : decode cX7_scanToken 158 = .ok (.iload_n 3, 1) := by decide +kernel
theorem dX7_scanToken_159 : decode cX7_scanToken 159 = .ok (.aload_n 0, 1) := by decide +kernel
theorem dX7_scanToken_160 : decode cX7_scanToken 160 = .ok (.iload_n 2, 1) := by decide +kernel
theorem dX7_scanToken_161 : decode cX7_scanToken 161 = .ok (.iconst 1, 1) := by decide +kernel
theorem dX7_scanToken_162 : decode cX7_scanToken 162 = .ok (.iadd, 1) := by decide +kernel
theorem dX7_scanToken_163 : decode cX7_scanToken 163 = .ok (.invokevirtual 41, 3) := by decide +kernel
theorem dX7_scanToken_166 : decode cX7_scanToken 166 = .ok (.invokestatic 66, 3) := by decide +kernel
theorem dX7_scanToken_169 : decode cX7_scanToken 169 = .ok (.iastore, 1) := by decide +kernel
theorem dX7_scanToken_170 : decode cX7_scanToken 170 = .ok (.aload_n 0, 1) := by decide +kernel
theorem dX7_scanToken_171 : decode cX7_scanToken 171 = .ok (.getfield 15, 3) := by decide +kernel
theorem dX7_scanToken_174 : decode cX7_scanToken 174 = .ok (.iload_n 1, 1) := by decide +kernel
theorem dX7_scanToken_175 : decode cX7_scanToken 175 = .ok (.iaload, 1) := by decide +kernel
theorem dX7_scanToken_176 : decode cX7_scanToken 176 = .ok (.bipush 34, 2) := by decide +kernel
theorem dX7_scanToken_178 : decode cX7_scanToken 178 = .ok (.if_icmp .eq 25, 3) := by decide +kernel
theorem dX7_scanToken_181 : decode cX7_scanToken 181 = .ok (.aload_n 0, 1) := by decide +kernel
theorem dX7_scanToken_182 : decode cX7_scanToken 182 = .ok (.getfield 15, 3) := by decide +kernel
theorem dX7_scanToken_185 : decode cX7_scanToken 185 = .ok (.iload_n 1, 1) := by decide +kernel
theorem dX7_scanToken_186 : decode cX7_scanToken 186 = .ok (.iaload, 1) := by decide +kernel
theorem dX7_scanToken_187 : decode cX7_scanToken 187 = .ok (.bipush 35, 2) := by decide +kernel
theorem dX7_scanToken_189 : decode cX7_scanToken 189 = .ok (.if_icmp .eq 14, 3) := by decide +kernel
theorem dX7_scanToken_192 : decode cX7_scanToken 192 = .ok (.aload_n 0, 1) := by decide +kernel
theorem dX7_scanToken_193 : decode cX7_scanToken 193 = .ok (.getfield 15, 3) := by decide +kernel
theorem dX7_scanToken_196 : decode cX7_scanToken 196 = .ok (.iload_n 1, 1) := by decide +kernel
theorem dX7_scanToken_197 : decode cX7_scanToken 197 = .ok (.iaload, 1) := by decide +kernel
theorem dX7_scanToken_198 : decode cX7_scanToken 198 = .ok (.bipush 37, 2) := by decide +kernel
theorem dX7_scanToken_200 : decode cX7_scanToken 200 = .ok (.if_icmp .ne 7, 3) := by decide +kernel
theorem dX7_scanToken_203 : decode cX7_scanToken 203 = .ok (.iconst 1, 1) := by decide +kernel
theorem dX7_scanToken_204 : decode cX7_scanToken 204 = .ok (.goto 4, 3) := by decide +kernel
theorem dX7_scanToken_207 : decode cX7_scanToken 207 = .ok (.iconst 0, 1) := by decide +kernel
theorem dX7_scanToken_208 : decode cX7_scanToken 208 = .ok (.istore 4, 2) := by decide +kernel
theorem dX7_scanToken_210 : decode cX7_scanToken 210 = .ok (.iload 4, 2) := by decide +kernel
theorem dX7_scanToken_212 : decode cX7_scanToken 212 = .ok (.ifCond .eq 9, 3) := by decide +kernel
theorem dX7_scanToken_215 : decode cX7_scanToken 215 = .ok (.iload_n 2, 1) := by decide +kernel
theorem dX7_scanToken_216 : decode cX7_scanToken 216 = .ok (.iconst 2, 1) := by decide +kernel
theorem dX7_scanToken_217 : decode cX7_scanToken 217 = .ok (.iadd, 1) := by decide +kernel
theorem dX7_scanToken_218 : decode cX7_scanToken 218 = .ok (.goto 6, 3) := by decide +kernel
theorem dX7_scanToken_221 : decode cX7_scanToken 221 = .ok (.iload_n 2, 1) := by decide +kernel
theorem dX7_scanToken_222 : decode cX7_scanToken 222 = .ok (.iconst 1, 1) := by decide +kernel
theorem dX7_scanToken_223 : decode cX7_scanToken 223 = .ok (.iadd, 1) := by decide +kernel
theorem dX7_scanToken_224 : decode cX7_scanToken 224 = .ok (.ireturn, 1) := by decide +kernel
theorem b_X7_scanToken (mm : MM) (Q : Value → MM → Prop) (a1 : Int32) (a2 : Int32) (h : o_X7_byteAt mm a2 ∧ (vp_in a1 401 ∧ ((¬ (v_X7_byteAt mm a2) = (-1 : Int32) → ((p_X11_within (wLg mm 9 (a1.toNatClampNeg) (0 : Int64)) (v_X7_byteAt mm a2) (97 : Int32) (122 : Int32) → (∃ Pm1 : Value → MM → Prop, Runs e_X7_pastRun [.ref 5, .int a2, .int (97 : Int32), .int (122 : Int32)] (wLg mm 9 (a1.toNatClampNeg) (0 : Int64)) Pm1 ∧ ∀ (r1 : Int32) (m1 : MM), Pm1 (.int r1) m1 → (∃ Pm2 : Value → MM → Prop, Runs e_X7_packed [.ref 5, .int a2, .int r1] m1 Pm2 ∧ ∀ (r2 : Int64) (m2 : MM), Pm2 (.long r2) m2 → (vp_in a1 401 ∧ (((r1 - a2) ≤ (8 : Int32) → (∃ Pm3 : Value → MM → Prop, Runs e_X7_wordKind [.ref 5, .int a2, .int r1] (wLg m2 9 (a1.toNatClampNeg) r2) Pm3 ∧ ∀ (r3 : Int32) (m3 : MM), Pm3 (.int r3) m3 → (vp_in a1 401 ∧ (Q (.int r1) (wI m3 7 (a1.toNatClampNeg) r3))))) ∧ (¬ (r1 - a2) ≤ (8 : Int32) → (vp_in a1 401 ∧ (Q (.int r1) (wI (wLg m2 9 (a1.toNatClampNeg) r2) 7 (a1.toNatClampNeg) (41 : Int32)))))))))) ∧ (¬ p_X11_within (wLg mm 9 (a1.toNatClampNeg) (0 : Int64)) (v_X7_byteAt mm a2) (97 : Int32) (122 : Int32) → ((p_X11_within (wLg mm 9 (a1.toNatClampNeg) (0 : Int64)) (v_X7_byteAt mm a2) (48 : Int32) (57 : Int32) → (∃ Pm1 : Value → MM → Prop, Runs e_X7_pastRun [.ref 5, .int a2, .int (48 : Int32), .int (57 : Int32)] (wLg mm 9 (a1.toNatClampNeg) (0 : Int64)) Pm1 ∧ ∀ (r1 : Int32) (m1 : MM), Pm1 (.int r1) m1 → (∃ Pm2 : Value → MM → Prop, Runs e_X7_number [.ref 5, .int a2, .int r1] m1 Pm2 ∧ ∀ (r2 : Int32) (m2 : MM), Pm2 (.int r2) m2 → (vp_in a1 401 ∧ (((r1 - a2) ≤ (4 : Int32) → (vp_in a1 401 ∧ (Q (.int r1) (wI (wLg m2 9 (a1.toNatClampNeg) r2.toInt64) 7 (a1.toNatClampNeg) (27 : Int32))))) ∧ (¬ (r1 - a2) ≤ (4 : Int32) → (vp_in a1 401 ∧ (Q (.int r1) (wI (wLg m2 9 (a1.toNatClampNeg) r2.toInt64) 7 (a1.toNatClampNeg) (41 : Int32)))))))))) ∧ (¬ p_X11_within (wLg mm 9 (a1.toNatClampNeg) (0 : Int64)) (v_X7_byteAt mm a2) (48 : Int32) (57 : Int32) → (o_X7_byteAt (wLg mm 9 (a1.toNatClampNeg) (0 : Int64)) (a2 + (1 : Int32)) ∧ (vp_in a1 401 ∧ (vp_in a1 401 ∧ ((((wI (wLg mm 9 (a1.toNatClampNeg) (0 : Int64)) 7 (a1.toNatClampNeg) (v_X7_signKind (wLg mm 9 (a1.toNatClampNeg) (0 : Int64)) (v_X7_byteAt mm a2) (v_X7_byteAt (wLg mm 9 (a1.toNatClampNeg) (0 : Int64)) (a2 + (1 : Int32))))).1 7 a1.toNatClampNeg) = (34 : Int32) → (Q (.int (a2 + (2 : Int32))) (wI (wLg mm 9 (a1.toNatClampNeg) (0 : Int64)) 7 (a1.toNatClampNeg) (v_X7_signKind (wLg mm 9 (a1.toNatClampNeg) (0 : Int64)) (v_X7_byteAt mm a2) (v_X7_byteAt (wLg mm 9 (a1.toNatClampNeg) (0 : Int64)) (a2 + (1 : Int32))))))) ∧ (¬ ((wI (wLg mm 9 (a1.toNatClampNeg) (0 : Int64)) 7 (a1.toNatClampNeg) (v_X7_signKind (wLg mm 9 (a1.toNatClampNeg) (0 : Int64)) (v_X7_byteAt mm a2) (v_X7_byteAt (wLg mm 9 (a1.toNatClampNeg) (0 : Int64)) (a2 + (1 : Int32))))).1 7 a1.toNatClampNeg) = (34 : Int32) → (vp_in a1 401 ∧ ((((wI (wLg mm 9 (a1.toNatClampNeg) (0 : Int64)) 7 (a1.toNatClampNeg) (v_X7_signKind (wLg mm 9 (a1.toNatClampNeg) (0 : Int64)) (v_X7_byteAt mm a2) (v_X7_byteAt (wLg mm 9 (a1.toNatClampNeg) (0 : Int64)) (a2 + (1 : Int32))))).1 7 a1.toNatClampNeg) = (35 : Int32) → (Q (.int (a2 + (2 : Int32))) (wI (wLg mm 9 (a1.toNatClampNeg) (0 : Int64)) 7 (a1.toNatClampNeg) (v_X7_signKind (wLg mm 9 (a1.toNatClampNeg) (0 : Int64)) (v_X7_byteAt mm a2) (v_X7_byteAt (wLg mm 9 (a1.toNatClampNeg) (0 : Int64)) (a2 + (1 : Int32))))))) ∧ (¬ ((wI (wLg mm 9 (a1.toNatClampNeg) (0 : Int64)) 7 (a1.toNatClampNeg) (v_X7_signKind (wLg mm 9 (a1.toNatClampNeg) (0 : Int64)) (v_X7_byteAt mm a2) (v_X7_byteAt (wLg mm 9 (a1.toNatClampNeg) (0 : Int64)) (a2 + (1 : Int32))))).1 7 a1.toNatClampNeg) = (35 : Int32) → (vp_in a1 401 ∧ ((¬ ((wI (wLg mm 9 (a1.toNatClampNeg) (0 : Int64)) 7 (a1.toNatClampNeg) (v_X7_signKind (wLg mm 9 (a1.toNatClampNeg) (0 : Int64)) (v_X7_byteAt mm a2) (v_X7_byteAt (wLg mm 9 (a1.toNatClampNeg) (0 : Int64)) (a2 + (1 : Int32))))).1 7 a1.toNatClampNeg) = (37 : Int32) → (Q (.int (a2 + (1 : Int32))) (wI (wLg mm 9 (a1.toNatClampNeg) (0 : Int64)) 7 (a1.toNatClampNeg) (v_X7_signKind (wLg mm 9 (a1.toNatClampNeg) (0 : Int64)) (v_X7_byteAt mm a2) (v_X7_byteAt (wLg mm 9 (a1.toNatClampNeg) (0 : Int64)) (a2 + (1 : Int32))))))) ∧ (((wI (wLg mm 9 (a1.toNatClampNeg) (0 : Int64)) 7 (a1.toNatClampNeg) (v_X7_signKind (wLg mm 9 (a1.toNatClampNeg) (0 : Int64)) (v_X7_byteAt mm a2) (v_X7_byteAt (wLg mm 9 (a1.toNatClampNeg) (0 : Int64)) (a2 + (1 : Int32))))).1 7 a1.toNatClampNeg) = (37 : Int32) → (Q (.int (a2 + (2 : Int32))) (wI (wLg mm 9 (a1.toNatClampNeg) (0 : Int64)) 7 (a1.toNatClampNeg) (v_X7_signKind (wLg mm 9 (a1.toNatClampNeg) (0 : Int64)) (v_X7_byteAt mm a2) (v_X7_byteAt (wLg mm 9 (a1.toNatClampNeg) (0 : Int64)) (a2 + (1 : Int32)))))))))))))))))))))) ∧ ((v_X7_byteAt mm a2) = (-1 : Int32) → (vp_in a1 401 ∧ (Q (.int a2) (wI (wLg mm 9 (a1.toNatClampNeg) (0 : Int64)) 7 (a1.toNatClampNeg) (40 : Int32)))))))) : Runs e_X7_scanToken [.ref 5, .int a1, .int a2] mm Q := by
  refine runs_of_G (L := [(0, .ref 5), (1, .int a1), (2, .int a2)]) pl_X7 (Nat.le_of_ble_eq_true rfl) rfl ?_
  refine g_aload_n (pc := 0) (x := 5) dX7_scanToken_0 rfl ?_
  refine g_iload_n (pc := 1) (x := a2) dX7_scanToken_1 rfl ?_
  refine g_callV (pc := 2) (as := [.int a2]) dX7_scanToken_2 cw_X7_41 (by decide) rfl rfl sh_5 (Nat.le_of_ble_eq_true rfl) (rv_X7_byteAt mm a2 h.1) ?_
  have h := h.2
  rintro r_ m_ hz_ ⟨rfl, rfl⟩
  refine g_istore_n (pc := 5) (L' := [(0, .ref 5), (1, .int a1), (2, .int a2), (3, .int (v_X7_byteAt mm a2))]) dX7_scanToken_5 (Nat.le_of_ble_eq_true rfl) rfl ?_
  refine g_aload_n (pc := 6) (x := 5) dX7_scanToken_6 rfl ?_
  refine g_getR (pc := 7) (dd := 4) dX7_scanToken_7 fo_X7_22 sh_5 rfl ?_
  refine g_iload_n (pc := 10) (x := a1) dX7_scanToken_10 rfl ?_
  refine g_lconst (pc := 11) (v := (0 : Int64)) dX7_scanToken_11 (by decide) ?_
  refine g_lastore (pc := 12) dX7_scanToken_12 sh_9 h.1 ?_
  have h := h.2
  refine g_iload_n (pc := 13) (x := (v_X7_byteAt mm a2)) dX7_scanToken_13 rfl ?_
  refine g_iconst (pc := 14) (v := (-1 : Int32)) dX7_scanToken_14 (by decide) ?_
  refine g_icmp_ne (pc := 15) (tgt := 28) dX7_scanToken_15 (by decide) (fun c15 => ?_) (fun c15 => ?_)
  · have h := h.1 c15
    refine g_iload_n (pc := 28) (x := (v_X7_byteAt mm a2)) dX7_scanToken_28 rfl ?_
    refine g_bipush (pc := 29) (v := (97 : Int32)) dX7_scanToken_29 (by decide) ?_
    refine g_bipush (pc := 31) (v := (122 : Int32)) dX7_scanToken_31 (by decide) ?_
    refine g_callSN (pc := 33) (as := [.int (v_X7_byteAt mm a2), .int (97 : Int32), .int (122 : Int32)]) dX7_scanToken_33 cw_X7_48 (by decide) rfl rfl (Nat.le_of_ble_eq_true rfl) (rv_X11_within (wLg mm 9 (a1.toNatClampNeg) (0 : Int64)) (v_X7_byteAt mm a2) (97 : Int32) (122 : Int32)) ?_
    rintro r_ m_ hz_ ⟨⟨p_, rfl⟩ | ⟨p_, rfl⟩, rfl⟩
    · have h := h.1 p_
      refine g_if_eq (pc := 36) (tgt := 93) dX7_scanToken_36 (by decide) (fun c36 => absurd c36 (by decide)) (fun _ => ?_)
      refine g_aload_n (pc := 39) (x := 5) dX7_scanToken_39 rfl ?_
      refine g_iload_n (pc := 40) (x := a2) dX7_scanToken_40 rfl ?_
      refine g_bipush (pc := 41) (v := (97 : Int32)) dX7_scanToken_41 (by decide) ?_
      refine g_bipush (pc := 43) (v := (122 : Int32)) dX7_scanToken_43 (by decide) ?_
      obtain ⟨Pm1, hRm1, h⟩ := h
      refine g_callV (pc := 45) (as := [.int a2, .int (97 : Int32), .int (122 : Int32)]) dX7_scanToken_45 cw_X7_52 (by decide) rfl rfl sh_5 (Nat.le_of_ble_eq_true rfl) hRm1 ?_
      intro r_ m1 hz_ hp_
      obtain ⟨r1, rfl⟩ := hz_
      have h := h r1 m1 hp_
      refine g_istore (pc := 48) (L' := [(0, .ref 5), (1, .int a1), (2, .int a2), (3, .int (v_X7_byteAt mm a2)), (4, .int r1)]) dX7_scanToken_48 (Nat.le_of_ble_eq_true rfl) rfl ?_
      refine g_aload_n (pc := 50) (x := 5) dX7_scanToken_50 rfl ?_
      refine g_getR (pc := 51) (dd := 4) dX7_scanToken_51 fo_X7_22 sh_5 rfl ?_
      refine g_iload_n (pc := 54) (x := a1) dX7_scanToken_54 rfl ?_
      refine g_aload_n (pc := 55) (x := 5) dX7_scanToken_55 rfl ?_
      refine g_iload_n (pc := 56) (x := a2) dX7_scanToken_56 rfl ?_
      refine g_iload (pc := 57) (x := r1) dX7_scanToken_57 rfl ?_
      obtain ⟨Pm2, hRm2, h⟩ := h
      refine g_callV (pc := 59) (as := [.int a2, .int r1]) dX7_scanToken_59 cw_X7_56 (by decide) rfl rfl sh_5 (Nat.le_of_ble_eq_true rfl) hRm2 ?_
      intro r_ m2 hz_ hp_
      obtain ⟨r2, rfl⟩ := hz_
      have h := h r2 m2 hp_
      refine g_lastore (pc := 62) dX7_scanToken_62 sh_9 h.1 ?_
      have h := h.2
      refine g_aload_n (pc := 63) (x := 5) dX7_scanToken_63 rfl ?_
      refine g_getR (pc := 64) (dd := 2) dX7_scanToken_64 fo_X7_15 sh_5 rfl ?_
      refine g_iload_n (pc := 67) (x := a1) dX7_scanToken_67 rfl ?_
      refine g_iload (pc := 68) (x := r1) dX7_scanToken_68 rfl ?_
      refine g_iload_n (pc := 70) (x := a2) dX7_scanToken_70 rfl ?_
      refine g_isub (pc := 71) dX7_scanToken_71 ?_
      refine g_bipush (pc := 72) (v := (8 : Int32)) dX7_scanToken_72 (by decide) ?_
      refine g_icmp_le (pc := 74) (tgt := 82) dX7_scanToken_74 (by decide) (fun c74 => ?_) (fun c74 => ?_)
      · have h := h.1 c74
        refine g_aload_n (pc := 82) (x := 5) dX7_scanToken_82 rfl ?_
        refine g_iload_n (pc := 83) (x := a2) dX7_scanToken_83 rfl ?_
        refine g_iload (pc := 84) (x := r1) dX7_scanToken_84 rfl ?_
        obtain ⟨Pm3, hRm3, h⟩ := h
        refine g_callV (pc := 86) (as := [.int a2, .int r1]) dX7_scanToken_86 cw_X7_60 (by decide) rfl rfl sh_5 (Nat.le_of_ble_eq_true rfl) hRm3 ?_
        intro r_ m3 hz_ hp_
        obtain ⟨r3, rfl⟩ := hz_
        have h := h r3 m3 hp_
        refine g_iastore (pc := 89) dX7_scanToken_89 sh_7 h.1 ?_
        have h := h.2
        refine g_iload (pc := 90) (x := r1) dX7_scanToken_90 rfl ?_
        exact g_iret (pc := 92) dX7_scanToken_92 rfl rfl rfl h
      · have h := h.2 c74
        refine g_bipush (pc := 77) (v := (41 : Int32)) dX7_scanToken_77 (by decide) ?_
        refine g_goto (pc := 79) (tgt := 89) dX7_scanToken_79 (by decide) ?_
        refine g_iastore (pc := 89) dX7_scanToken_89 sh_7 h.1 ?_
        have h := h.2
        refine g_iload (pc := 90) (x := r1) dX7_scanToken_90 rfl ?_
        exact g_iret (pc := 92) dX7_scanToken_92 rfl rfl rfl h
    · have h := h.2 p_
      refine g_if_eq (pc := 36) (tgt := 93) dX7_scanToken_36 (by decide) (fun _ => ?_) (fun c36 => absurd c36 (by decide))
      refine g_iload_n (pc := 93) (x := (v_X7_byteAt mm a2)) dX7_scanToken_93 rfl ?_
      refine g_bipush (pc := 94) (v := (48 : Int32)) dX7_scanToken_94 (by decide) ?_
      refine g_bipush (pc := 96) (v := (57 : Int32)) dX7_scanToken_96 (by decide) ?_
      refine g_callSN (pc := 98) (as := [.int (v_X7_byteAt mm a2), .int (48 : Int32), .int (57 : Int32)]) dX7_scanToken_98 cw_X7_48 (by decide) rfl rfl (Nat.le_of_ble_eq_true rfl) (rv_X11_within (wLg mm 9 (a1.toNatClampNeg) (0 : Int64)) (v_X7_byteAt mm a2) (48 : Int32) (57 : Int32)) ?_
      rintro r_ m_ hz_ ⟨⟨p_, rfl⟩ | ⟨p_, rfl⟩, rfl⟩
      · have h := h.1 p_
        refine g_if_eq (pc := 101) (tgt := 153) dX7_scanToken_101 (by decide) (fun c101 => absurd c101 (by decide)) (fun _ => ?_)
        refine g_aload_n (pc := 104) (x := 5) dX7_scanToken_104 rfl ?_
        refine g_iload_n (pc := 105) (x := a2) dX7_scanToken_105 rfl ?_
        refine g_bipush (pc := 106) (v := (48 : Int32)) dX7_scanToken_106 (by decide) ?_
        refine g_bipush (pc := 108) (v := (57 : Int32)) dX7_scanToken_108 (by decide) ?_
        obtain ⟨Pm1, hRm1, h⟩ := h
        refine g_callV (pc := 110) (as := [.int a2, .int (48 : Int32), .int (57 : Int32)]) dX7_scanToken_110 cw_X7_52 (by decide) rfl rfl sh_5 (Nat.le_of_ble_eq_true rfl) hRm1 ?_
        intro r_ m1 hz_ hp_
        obtain ⟨r1, rfl⟩ := hz_
        have h := h r1 m1 hp_
        refine g_istore (pc := 113) (L' := [(0, .ref 5), (1, .int a1), (2, .int a2), (3, .int (v_X7_byteAt mm a2)), (4, .int r1)]) dX7_scanToken_113 (Nat.le_of_ble_eq_true rfl) rfl ?_
        refine g_aload_n (pc := 115) (x := 5) dX7_scanToken_115 rfl ?_
        refine g_getR (pc := 116) (dd := 4) dX7_scanToken_116 fo_X7_22 sh_5 rfl ?_
        refine g_iload_n (pc := 119) (x := a1) dX7_scanToken_119 rfl ?_
        refine g_aload_n (pc := 120) (x := 5) dX7_scanToken_120 rfl ?_
        refine g_iload_n (pc := 121) (x := a2) dX7_scanToken_121 rfl ?_
        refine g_iload (pc := 122) (x := r1) dX7_scanToken_122 rfl ?_
        obtain ⟨Pm2, hRm2, h⟩ := h
        refine g_callV (pc := 124) (as := [.int a2, .int r1]) dX7_scanToken_124 cw_X7_63 (by decide) rfl rfl sh_5 (Nat.le_of_ble_eq_true rfl) hRm2 ?_
        intro r_ m2 hz_ hp_
        obtain ⟨r2, rfl⟩ := hz_
        have h := h r2 m2 hp_
        refine g_i2l (pc := 127) dX7_scanToken_127 ?_
        refine g_lastore (pc := 128) dX7_scanToken_128 sh_9 h.1 ?_
        have h := h.2
        refine g_aload_n (pc := 129) (x := 5) dX7_scanToken_129 rfl ?_
        refine g_getR (pc := 130) (dd := 2) dX7_scanToken_130 fo_X7_15 sh_5 rfl ?_
        refine g_iload_n (pc := 133) (x := a1) dX7_scanToken_133 rfl ?_
        refine g_iload (pc := 134) (x := r1) dX7_scanToken_134 rfl ?_
        refine g_iload_n (pc := 136) (x := a2) dX7_scanToken_136 rfl ?_
        refine g_isub (pc := 137) dX7_scanToken_137 ?_
        refine g_iconst (pc := 138) (v := (4 : Int32)) dX7_scanToken_138 (by decide) ?_
        refine g_icmp_le (pc := 139) (tgt := 147) dX7_scanToken_139 (by decide) (fun c139 => ?_) (fun c139 => ?_)
        · have h := h.1 c139
          refine g_bipush (pc := 147) (v := (27 : Int32)) dX7_scanToken_147 (by decide) ?_
          refine g_iastore (pc := 149) dX7_scanToken_149 sh_7 h.1 ?_
          have h := h.2
          refine g_iload (pc := 150) (x := r1) dX7_scanToken_150 rfl ?_
          exact g_iret (pc := 152) dX7_scanToken_152 rfl rfl rfl h
        · have h := h.2 c139
          refine g_bipush (pc := 142) (v := (41 : Int32)) dX7_scanToken_142 (by decide) ?_
          refine g_goto (pc := 144) (tgt := 149) dX7_scanToken_144 (by decide) ?_
          refine g_iastore (pc := 149) dX7_scanToken_149 sh_7 h.1 ?_
          have h := h.2
          refine g_iload (pc := 150) (x := r1) dX7_scanToken_150 rfl ?_
          exact g_iret (pc := 152) dX7_scanToken_152 rfl rfl rfl h
      · have h := h.2 p_
        refine g_if_eq (pc := 101) (tgt := 153) dX7_scanToken_101 (by decide) (fun _ => ?_) (fun c101 => absurd c101 (by decide))
        refine g_aload_n (pc := 153) (x := 5) dX7_scanToken_153 rfl ?_
        refine g_getR (pc := 154) (dd := 2) dX7_scanToken_154 fo_X7_15 sh_5 rfl ?_
        refine g_iload_n (pc := 157) (x := a1) dX7_scanToken_157 rfl ?_
        refine g_iload_n (pc := 158) (x := (v_X7_byteAt mm a2)) dX7_scanToken_158 rfl ?_
        refine g_aload_n (pc := 159) (x := 5) dX7_scanToken_159 rfl ?_
        refine g_iload_n (pc := 160) (x := a2) dX7_scanToken_160 rfl ?_
        refine g_iconst (pc := 161) (v := (1 : Int32)) dX7_scanToken_161 (by decide) ?_
        refine g_iadd (pc := 162) dX7_scanToken_162 ?_
        refine g_callV (pc := 163) (as := [.int (a2 + (1 : Int32))]) dX7_scanToken_163 cw_X7_41 (by decide) rfl rfl sh_5 (Nat.le_of_ble_eq_true rfl) (rv_X7_byteAt (wLg mm 9 (a1.toNatClampNeg) (0 : Int64)) (a2 + (1 : Int32)) h.1) ?_
        have h := h.2
        rintro r_ m_ hz_ ⟨rfl, rfl⟩
        refine g_callS (pc := 166) (as := [.int (v_X7_byteAt mm a2), .int (v_X7_byteAt (wLg mm 9 (a1.toNatClampNeg) (0 : Int64)) (a2 + (1 : Int32)))]) dX7_scanToken_166 cw_X7_66 (by decide) rfl rfl (Nat.le_of_ble_eq_true rfl) (rv_X7_signKind (wLg mm 9 (a1.toNatClampNeg) (0 : Int64)) (v_X7_byteAt mm a2) (v_X7_byteAt (wLg mm 9 (a1.toNatClampNeg) (0 : Int64)) (a2 + (1 : Int32)))) ?_
        rintro r_ m_ hz_ ⟨rfl, rfl⟩
        refine g_iastore (pc := 169) dX7_scanToken_169 sh_7 h.1 ?_
        have h := h.2
        refine g_aload_n (pc := 170) (x := 5) dX7_scanToken_170 rfl ?_
        refine g_getR (pc := 171) (dd := 2) dX7_scanToken_171 fo_X7_15 sh_5 rfl ?_
        refine g_iload_n (pc := 174) (x := a1) dX7_scanToken_174 rfl ?_
        refine g_iaload (pc := 175) dX7_scanToken_175 sh_7 h.1 ?_
        have h := h.2
        refine g_bipush (pc := 176) (v := (34 : Int32)) dX7_scanToken_176 (by decide) ?_
        refine g_icmp_eq (pc := 178) (tgt := 203) dX7_scanToken_178 (by decide) (fun c178 => ?_) (fun c178 => ?_)
        · have h := h.1 c178
          refine g_iconst (pc := 203) (v := (1 : Int32)) dX7_scanToken_203 (by decide) ?_
          refine g_goto (pc := 204) (tgt := 208) dX7_scanToken_204 (by decide) ?_
          refine g_istore (pc := 208) (L' := [(0, .ref 5), (1, .int a1), (2, .int a2), (3, .int (v_X7_byteAt mm a2)), (4, .int (1 : Int32))]) dX7_scanToken_208 (Nat.le_of_ble_eq_true rfl) rfl ?_
          refine g_iload (pc := 210) (x := (1 : Int32)) dX7_scanToken_210 rfl ?_
          refine g_if_eq (pc := 212) (tgt := 221) dX7_scanToken_212 (by decide) (fun c212 => absurd c212 (by decide)) (fun _ => ?_)
          refine g_iload_n (pc := 215) (x := a2) dX7_scanToken_215 rfl ?_
          refine g_iconst (pc := 216) (v := (2 : Int32)) dX7_scanToken_216 (by decide) ?_
          refine g_iadd (pc := 217) dX7_scanToken_217 ?_
          refine g_goto (pc := 218) (tgt := 224) dX7_scanToken_218 (by decide) ?_
          exact g_iret (pc := 224) dX7_scanToken_224 rfl rfl rfl h
        · have h := h.2 c178
          refine g_aload_n (pc := 181) (x := 5) dX7_scanToken_181 rfl ?_
          refine g_getR (pc := 182) (dd := 2) dX7_scanToken_182 fo_X7_15 sh_5 rfl ?_
          refine g_iload_n (pc := 185) (x := a1) dX7_scanToken_185 rfl ?_
          refine g_iaload (pc := 186) dX7_scanToken_186 sh_7 h.1 ?_
          have h := h.2
          refine g_bipush (pc := 187) (v := (35 : Int32)) dX7_scanToken_187 (by decide) ?_
          refine g_icmp_eq (pc := 189) (tgt := 203) dX7_scanToken_189 (by decide) (fun c189 => ?_) (fun c189 => ?_)
          · have h := h.1 c189
            refine g_iconst (pc := 203) (v := (1 : Int32)) dX7_scanToken_203 (by decide) ?_
            refine g_goto (pc := 204) (tgt := 208) dX7_scanToken_204 (by decide) ?_
            refine g_istore (pc := 208) (L' := [(0, .ref 5), (1, .int a1), (2, .int a2), (3, .int (v_X7_byteAt mm a2)), (4, .int (1 : Int32))]) dX7_scanToken_208 (Nat.le_of_ble_eq_true rfl) rfl ?_
            refine g_iload (pc := 210) (x := (1 : Int32)) dX7_scanToken_210 rfl ?_
            refine g_if_eq (pc := 212) (tgt := 221) dX7_scanToken_212 (by decide) (fun c212 => absurd c212 (by decide)) (fun _ => ?_)
            refine g_iload_n (pc := 215) (x := a2) dX7_scanToken_215 rfl ?_
            refine g_iconst (pc := 216) (v := (2 : Int32)) dX7_scanToken_216 (by decide) ?_
            refine g_iadd (pc := 217) dX7_scanToken_217 ?_
            refine g_goto (pc := 218) (tgt := 224) dX7_scanToken_218 (by decide) ?_
            exact g_iret (pc := 224) dX7_scanToken_224 rfl rfl rfl h
          · have h := h.2 c189
            refine g_aload_n (pc := 192) (x := 5) dX7_scanToken_192 rfl ?_
            refine g_getR (pc := 193) (dd := 2) dX7_scanToken_193 fo_X7_15 sh_5 rfl ?_
            refine g_iload_n (pc := 196) (x := a1) dX7_scanToken_196 rfl ?_
            refine g_iaload (pc := 197) dX7_scanToken_197 sh_7 h.1 ?_
            have h := h.2
            refine g_bipush (pc := 198) (v := (37 : Int32)) dX7_scanToken_198 (by decide) ?_
            refine g_icmp_ne (pc := 200) (tgt := 207) dX7_scanToken_200 (by decide) (fun c200 => ?_) (fun c200 => ?_)
            · have h := h.1 c200
              refine g_iconst (pc := 207) (v := (0 : Int32)) dX7_scanToken_207 (by decide) ?_
              refine g_istore (pc := 208) (L' := [(0, .ref 5), (1, .int a1), (2, .int a2), (3, .int (v_X7_byteAt mm a2)), (4, .int (0 : Int32))]) dX7_scanToken_208 (Nat.le_of_ble_eq_true rfl) rfl ?_
              refine g_iload (pc := 210) (x := (0 : Int32)) dX7_scanToken_210 rfl ?_
              refine g_if_eq (pc := 212) (tgt := 221) dX7_scanToken_212 (by decide) (fun _ => ?_) (fun c212 => absurd c212 (by decide))
              refine g_iload_n (pc := 221) (x := a2) dX7_scanToken_221 rfl ?_
              refine g_iconst (pc := 222) (v := (1 : Int32)) dX7_scanToken_222 (by decide) ?_
              refine g_iadd (pc := 223) dX7_scanToken_223 ?_
              exact g_iret (pc := 224) dX7_scanToken_224 rfl rfl rfl h
            · have h := h.2 c200
              refine g_iconst (pc := 203) (v := (1 : Int32)) dX7_scanToken_203 (by decide) ?_
              refine g_goto (pc := 204) (tgt := 208) dX7_scanToken_204 (by decide) ?_
              refine g_istore (pc := 208) (L' := [(0, .ref 5), (1, .int a1), (2, .int a2), (3, .int (v_X7_byteAt mm a2)), (4, .int (1 : Int32))]) dX7_scanToken_208 (Nat.le_of_ble_eq_true rfl) rfl ?_
              refine g_iload (pc := 210) (x := (1 : Int32)) dX7_scanToken_210 rfl ?_
              refine g_if_eq (pc := 212) (tgt := 221) dX7_scanToken_212 (by decide) (fun c212 => absurd c212 (by decide)) (fun _ => ?_)
              refine g_iload_n (pc := 215) (x := a2) dX7_scanToken_215 rfl ?_
              refine g_iconst (pc := 216) (v := (2 : Int32)) dX7_scanToken_216 (by decide) ?_
              refine g_iadd (pc := 217) dX7_scanToken_217 ?_
              refine g_goto (pc := 218) (tgt := 224) dX7_scanToken_218 (by decide) ?_
              exact g_iret (pc := 224) dX7_scanToken_224 rfl rfl rfl h
  · have h := h.2 c15
    refine g_aload_n (pc := 18) (x := 5) dX7_scanToken_18 rfl ?_
    refine g_getR (pc := 19) (dd := 2) dX7_scanToken_19 fo_X7_15 sh_5 rfl ?_
    refine g_iload_n (pc := 22) (x := a1) dX7_scanToken_22 rfl ?_
    refine g_bipush (pc := 23) (v := (40 : Int32)) dX7_scanToken_23 (by decide) ?_
    refine g_iastore (pc := 25) dX7_scanToken_25 sh_7 h.1 ?_
    have h := h.2
    refine g_iload_n (pc := 26) (x := a2) dX7_scanToken_26 rfl ?_
    exact g_iret (pc := 27) dX7_scanToken_27 rfl rfl rfl h
theorem dX7_pastRun_0 : decode cX7_pastRun 0 = .ok (.iload_n 1, 1) := by decide +kernel
theorem dX7_pastRun_1 : decode cX7_pastRun 1 = .ok (.istore 4, 2) := by decide +kernel
theorem dX7_pastRun_3 : decode cX7_pastRun 3 = .ok (.iload 4, 2) := by decide +kernel
theorem dX7_pastRun_5 : decode cX7_pastRun 5 = .ok (.aload_n 0, 1) := by decide +kernel
theorem dX7_pastRun_6 : decode cX7_pastRun 6 = .ok (.getfield 26, 3) := by decide +kernel
theorem dX7_pastRun_9 : decode cX7_pastRun 9 = .ok (.if_icmp .ge 23, 3) := by decide +kernel
theorem dX7_pastRun_12 : decode cX7_pastRun 12 = .ok (.aload_n 0, 1) := by decide +kernel
theorem dX7_pastRun_13 : decode cX7_pastRun 13 = .ok (.iload 4, 2) := by decide +kernel
theorem dX7_pastRun_15 : decode cX7_pastRun 15 = .ok (.invokevirtual 41, 3) := by decide +kernel
theorem dX7_pastRun_18 : decode cX7_pastRun 18 = .ok (.iload_n 2, 1) := by decide +kernel
theorem dX7_pastRun_19 : decode cX7_pastRun 19 = .ok (.iload_n 3, 1) := by decide +kernel
theorem dX7_pastRun_20 : decode cX7_pastRun 20 = .ok (.invokestatic 48, 3) := by decide +kernel
theorem dX7_pastRun_23 : decode cX7_pastRun 23 = .ok (.ifCond .eq 9, 3) := by decide +kernel
theorem dX7_pastRun_26 : decode cX7_pastRun 26 = .ok (.iinc 4 1, 3) := by decide +kernel
theorem dX7_pastRun_29 : decode cX7_pastRun 29 = .ok (.goto (-26), 3) := by decide +kernel
theorem dX7_pastRun_32 : decode cX7_pastRun 32 = .ok (.iload 4, 2) := by decide +kernel
theorem dX7_pastRun_34 : decode cX7_pastRun 34 = .ok (.ireturn, 1) := by decide +kernel
theorem b_X7_pastRun (mm : MM) (Q : Value → MM → Prop) (a1 : Int32) (a2 : Int32) (a3 : Int32) (h : G e_X7_pastRun 3 [(0, .ref 5), (2, .int a2), (3, .int a3), (4, .int a1)] [] mm Q) : Runs e_X7_pastRun [.ref 5, .int a1, .int a2, .int a3] mm Q := by
  refine runs_of_G (L := [(0, .ref 5), (1, .int a1), (2, .int a2), (3, .int a3)]) pl_X7 (Nat.le_of_ble_eq_true rfl) rfl ?_
  refine g_iload_n (pc := 0) (x := a1) dX7_pastRun_0 rfl ?_
  refine g_istore (pc := 1) (L' := [(0, .ref 5), (1, .int a1), (2, .int a2), (3, .int a3), (4, .int a1)]) dX7_pastRun_1 (Nat.le_of_ble_eq_true rfl) rfl ?_
  refine g_sub (L' := [(0, .ref 5), (2, .int a2), (3, .int a3), (4, .int a1)]) [0, 2, 3, 4] rfl ?_
  exact h
theorem b_X7_pastRun_3 (mm : MM) (Q : Value → MM → Prop) (l2 : Int32) (l3 : Int32) (l4 : Int32) (h : ((mm.1 5 4) ≤ l4 → (Q (.int l4) mm)) ∧ (¬ (mm.1 5 4) ≤ l4 → (o_X7_byteAt mm l4 ∧ ((p_X11_within mm (v_X7_byteAt mm l4) l2 l3 → (G e_X7_pastRun 3 [(0, .ref 5), (2, .int l2), (3, .int l3), (4, .int (l4 + (1 : Int32)))] [] mm Q)) ∧ (¬ p_X11_within mm (v_X7_byteAt mm l4) l2 l3 → (Q (.int l4) mm)))))) : G e_X7_pastRun 3 [(0, .ref 5), (2, .int l2), (3, .int l3), (4, .int l4)] [] mm Q := by
  refine g_iload (pc := 3) (x := l4) dX7_pastRun_3 rfl ?_
  refine g_aload_n (pc := 5) (x := 5) dX7_pastRun_5 rfl ?_
  refine g_getI (pc := 6) dX7_pastRun_6 fo_X7_26 sh_5 rfl ?_
  refine g_icmp_ge (pc := 9) (tgt := 32) dX7_pastRun_9 (by decide) (fun c9 => ?_) (fun c9 => ?_)
  · have h := h.1 c9
    refine g_iload (pc := 32) (x := l4) dX7_pastRun_32 rfl ?_
    exact g_iret (pc := 34) dX7_pastRun_34 rfl rfl rfl h
  · have h := h.2 c9
    refine g_aload_n (pc := 12) (x := 5) dX7_pastRun_12 rfl ?_
    refine g_iload (pc := 13) (x := l4) dX7_pastRun_13 rfl ?_
    refine g_callV (pc := 15) (as := [.int l4]) dX7_pastRun_15 cw_X7_41 (by decide) rfl rfl sh_5 (Nat.le_of_ble_eq_true rfl) (rv_X7_byteAt mm l4 h.1) ?_
    have h := h.2
    rintro r_ m_ hz_ ⟨rfl, rfl⟩
    refine g_iload_n (pc := 18) (x := l2) dX7_pastRun_18 rfl ?_
    refine g_iload_n (pc := 19) (x := l3) dX7_pastRun_19 rfl ?_
    refine g_callSN (pc := 20) (as := [.int (v_X7_byteAt mm l4), .int l2, .int l3]) dX7_pastRun_20 cw_X7_48 (by decide) rfl rfl (Nat.le_of_ble_eq_true rfl) (rv_X11_within mm (v_X7_byteAt mm l4) l2 l3) ?_
    rintro r_ m_ hz_ ⟨⟨p_, rfl⟩ | ⟨p_, rfl⟩, rfl⟩
    · have h := h.1 p_
      refine g_if_eq (pc := 23) (tgt := 32) dX7_pastRun_23 (by decide) (fun c23 => absurd c23 (by decide)) (fun _ => ?_)
      refine g_iinc (pc := 26) (x := l4) (v := (l4 + (1 : Int32))) (L' := [(0, .ref 5), (2, .int l2), (3, .int l3), (4, .int (l4 + (1 : Int32)))]) dX7_pastRun_26 rfl rfl (Nat.le_of_ble_eq_true rfl) rfl ?_
      refine g_goto (pc := 29) (tgt := 3) dX7_pastRun_29 (by decide) ?_
      exact h
    · have h := h.2 p_
      refine g_if_eq (pc := 23) (tgt := 32) dX7_pastRun_23 (by decide) (fun _ => ?_) (fun c23 => absurd c23 (by decide))
      refine g_iload (pc := 32) (x := l4) dX7_pastRun_32 rfl ?_
      exact g_iret (pc := 34) dX7_pastRun_34 rfl rfl rfl h
theorem dX7_packed_0 : decode cX7_packed 0 = .ok (.lconst 0, 1) := by decide +kernel
theorem dX7_packed_1 : decode cX7_packed 1 = .ok (.lstore_n 3, 1) := by decide +kernel
theorem dX7_packed_2 : decode cX7_packed 2 = .ok (.iload_n 1, 1) := by decide +kernel
theorem dX7_packed_3 : decode cX7_packed 3 = .ok (.istore 5, 2) := by decide +kernel
theorem dX7_packed_5 : decode cX7_packed 5 = .ok (.iload 5, 2) := by decide +kernel
theorem dX7_packed_7 : decode cX7_packed 7 = .ok (.iload_n 2, 1) := by decide +kernel
theorem dX7_packed_8 : decode cX7_packed 8 = .ok (.if_icmp .ge 26, 3) := by decide +kernel
theorem dX7_packed_11 : decode cX7_packed 11 = .ok (.lload_n 3, 1) := by decide +kernel
theorem dX7_packed_12 : decode cX7_packed 12 = .ok (.iconst 5, 1) := by decide +kernel
theorem dX7_packed_13 : decode cX7_packed 13 = .ok (.lshl, 1) := by decide +kernel
theorem dX7_packed_14 : decode cX7_packed 14 = .ok (.aload_n 0, 1) := by decide +kernel
theorem dX7_packed_15 : decode cX7_packed 15 = .ok (.iload 5, 2) := by decide +kernel
theorem dX7_packed_17 : decode cX7_packed 17 = .ok (.invokevirtual 41, 3) := by decide +kernel
theorem dX7_packed_20 : decode cX7_packed 20 = .ok (.bipush 97, 2) := by decide +kernel
theorem dX7_packed_22 : decode cX7_packed 22 = .ok (.isub, 1) := by decide +kernel
theorem dX7_packed_23 : decode cX7_packed 23 = .ok (.iconst 1, 1) := by decide +kernel
theorem dX7_packed_24 : decode cX7_packed 24 = .ok (.iadd, 1) := by decide +kernel
theorem dX7_packed_25 : decode cX7_packed 25 = .ok (.i2l, 1) := by decide +kernel
theorem dX7_packed_26 : decode cX7_packed 26 = .ok (.lor, 1) := by decide +kernel
theorem dX7_packed_27 : decode cX7_packed 27 = .ok (.lstore_n 3, 1) := by decide +kernel
theorem dX7_packed_28 : decode cX7_packed 28 = .ok (.iinc 5 1, 3) := by decide +kernel
theorem dX7_packed_31 : decode cX7_packed 31 = .ok (.goto (-26), 3) := by decide +kernel
theorem dX7_packed_34 : decode cX7_packed 34 = .ok (.lload_n 3, 1) := by decide +kernel
theorem dX7_packed_35 : decode cX7_packed 35 = .ok (.lreturn, 1) := by decide +kernel
theorem b_X7_packed (mm : MM) (Q : Value → MM → Prop) (a1 : Int32) (a2 : Int32) (h : G e_X7_packed 5 [(0, .ref 5), (2, .int a2), (3, .long (0 : Int64)), (5, .int a1)] [] mm Q) : Runs e_X7_packed [.ref 5, .int a1, .int a2] mm Q := by
  refine runs_of_G (L := [(0, .ref 5), (1, .int a1), (2, .int a2)]) pl_X7 (Nat.le_of_ble_eq_true rfl) rfl ?_
  refine g_lconst (pc := 0) (v := (0 : Int64)) dX7_packed_0 (by decide) ?_
  refine g_lstore_n (pc := 1) (L' := [(0, .ref 5), (1, .int a1), (2, .int a2), (3, .long (0 : Int64))]) dX7_packed_1 (Nat.le_of_ble_eq_true rfl) rfl ?_
  refine g_iload_n (pc := 2) (x := a1) dX7_packed_2 rfl ?_
  refine g_istore (pc := 3) (L' := [(0, .ref 5), (1, .int a1), (2, .int a2), (3, .long (0 : Int64)), (5, .int a1)]) dX7_packed_3 (Nat.le_of_ble_eq_true rfl) rfl ?_
  refine g_sub (L' := [(0, .ref 5), (2, .int a2), (3, .long (0 : Int64)), (5, .int a1)]) [0, 2, 3, 4] rfl ?_
  exact h
theorem b_X7_packed_5 (mm : MM) (Q : Value → MM → Prop) (l2 : Int32) (l3 : Int64) (l5 : Int32) (h : (l2 ≤ l5 → (Q (.long l3) mm)) ∧ (¬ l2 ≤ l5 → (o_X7_byteAt mm l5 ∧ (G e_X7_packed 5 [(0, .ref 5), (2, .int l2), (3, .long ((l3 <<< ((5 : Int32).toInt64 &&& 63)) ||| (((v_X7_byteAt mm l5) - (97 : Int32)) + (1 : Int32)).toInt64)), (5, .int (l5 + (1 : Int32)))] [] mm Q)))) : G e_X7_packed 5 [(0, .ref 5), (2, .int l2), (3, .long l3), (5, .int l5)] [] mm Q := by
  refine g_iload (pc := 5) (x := l5) dX7_packed_5 rfl ?_
  refine g_iload_n (pc := 7) (x := l2) dX7_packed_7 rfl ?_
  refine g_icmp_ge (pc := 8) (tgt := 34) dX7_packed_8 (by decide) (fun c8 => ?_) (fun c8 => ?_)
  · have h := h.1 c8
    refine g_lload_n (pc := 34) (x := l3) dX7_packed_34 rfl ?_
    exact g_lret (pc := 35) dX7_packed_35 rfl rfl h
  · have h := h.2 c8
    refine g_lload_n (pc := 11) (x := l3) dX7_packed_11 rfl ?_
    refine g_iconst (pc := 12) (v := (5 : Int32)) dX7_packed_12 (by decide) ?_
    refine g_lshl (pc := 13) dX7_packed_13 ?_
    refine g_aload_n (pc := 14) (x := 5) dX7_packed_14 rfl ?_
    refine g_iload (pc := 15) (x := l5) dX7_packed_15 rfl ?_
    refine g_callV (pc := 17) (as := [.int l5]) dX7_packed_17 cw_X7_41 (by decide) rfl rfl sh_5 (Nat.le_of_ble_eq_true rfl) (rv_X7_byteAt mm l5 h.1) ?_
    have h := h.2
    rintro r_ m_ hz_ ⟨rfl, rfl⟩
    refine g_bipush (pc := 20) (v := (97 : Int32)) dX7_packed_20 (by decide) ?_
    refine g_isub (pc := 22) dX7_packed_22 ?_
    refine g_iconst (pc := 23) (v := (1 : Int32)) dX7_packed_23 (by decide) ?_
    refine g_iadd (pc := 24) dX7_packed_24 ?_
    refine g_i2l (pc := 25) dX7_packed_25 ?_
    refine g_lor (pc := 26) dX7_packed_26 ?_
    refine g_lstore_n (pc := 27) (L' := [(0, .ref 5), (2, .int l2), (5, .int l5), (3, .long ((l3 <<< ((5 : Int32).toInt64 &&& 63)) ||| (((v_X7_byteAt mm l5) - (97 : Int32)) + (1 : Int32)).toInt64))]) dX7_packed_27 (Nat.le_of_ble_eq_true rfl) rfl ?_
    refine g_iinc (pc := 28) (x := l5) (v := (l5 + (1 : Int32))) (L' := [(0, .ref 5), (2, .int l2), (5, .int (l5 + (1 : Int32))), (3, .long ((l3 <<< ((5 : Int32).toInt64 &&& 63)) ||| (((v_X7_byteAt mm l5) - (97 : Int32)) + (1 : Int32)).toInt64))]) dX7_packed_28 rfl rfl (Nat.le_of_ble_eq_true rfl) rfl ?_
    refine g_goto (pc := 31) (tgt := 5) dX7_packed_31 (by decide) ?_
    refine g_sub (L' := [(0, .ref 5), (2, .int l2), (3, .long ((l3 <<< ((5 : Int32).toInt64 &&& 63)) ||| (((v_X7_byteAt mm l5) - (97 : Int32)) + (1 : Int32)).toInt64)), (5, .int (l5 + (1 : Int32)))]) [0, 1, 3, 2] rfl ?_
    exact h
theorem dX7_number_0 : decode cX7_number 0 = .ok (.iconst 0, 1) := by decide +kernel
theorem dX7_number_1 : decode cX7_number 1 = .ok (.istore_n 3, 1) := by decide +kernel
theorem dX7_number_2 : decode cX7_number 2 = .ok (.iload_n 1, 1) := by decide +kernel
theorem dX7_number_3 : decode cX7_number 3 = .ok (.istore 4, 2) := by decide +kernel
theorem dX7_number_5 : decode cX7_number 5 = .ok (.iload 4, 2) := by decide +kernel
theorem dX7_number_7 : decode cX7_number 7 = .ok (.iload_n 2, 1) := by decide +kernel
theorem dX7_number_8 : decode cX7_number 8 = .ok (.if_icmp .ge 24, 3) := by decide +kernel
theorem dX7_number_11 : decode cX7_number 11 = .ok (.iload_n 3, 1) := by decide +kernel
theorem dX7_number_12 : decode cX7_number 12 = .ok (.bipush 10, 2) := by decide +kernel
theorem dX7_number_14 : decode cX7_number 14 = .ok (.imul, 1) := by decide +kernel
theorem dX7_number_15 : decode cX7_number 15 = .ok (.aload_n 0, 1) := by decide +kernel
theorem dX7_number_16 : decode cX7_number 16 = .ok (.iload 4, 2) := by decide +kernel
theorem dX7_number_18 : decode cX7_number 18 = .ok (.invokevirtual 41, 3) := by decide +kernel
theorem dX7_number_21 : decode cX7_number 21 = .ok (.iadd, 1) := by decide +kernel
theorem dX7_number_22 : decode cX7_number 22 = .ok (.bipush 48, 2) := by decide +kernel
theorem dX7_number_24 : decode cX7_number 24 = .ok (.isub, 1) := by decide +kernel
theorem dX7_number_25 : decode cX7_number 25 = .ok (.istore_n 3, 1) := by decide +kernel
theorem dX7_number_26 : decode cX7_number 26 = .ok (.iinc 4 1, 3) := by decide +kernel
theorem dX7_number_29 : decode cX7_number 29 = .ok (.goto (-24), 3) := by decide +kernel
theorem dX7_number_32 : decode cX7_number 32 = .ok (.iload_n 3, 1) := by decide +kernel
theorem dX7_number_33 : decode cX7_number 33 = .ok (.ireturn, 1) := by decide +kernel
theorem b_X7_number (mm : MM) (Q : Value → MM → Prop) (a1 : Int32) (a2 : Int32) (h : G e_X7_number 5 [(0, .ref 5), (2, .int a2), (3, .int (0 : Int32)), (4, .int a1)] [] mm Q) : Runs e_X7_number [.ref 5, .int a1, .int a2] mm Q := by
  refine runs_of_G (L := [(0, .ref 5), (1, .int a1), (2, .int a2)]) pl_X7 (Nat.le_of_ble_eq_true rfl) rfl ?_
  refine g_iconst (pc := 0) (v := (0 : Int32)) dX7_number_0 (by decide) ?_
  refine g_istore_n (pc := 1) (L' := [(0, .ref 5), (1, .int a1), (2, .int a2), (3, .int (0 : Int32))]) dX7_number_1 (Nat.le_of_ble_eq_true rfl) rfl ?_
  refine g_iload_n (pc := 2) (x := a1) dX7_number_2 rfl ?_
  refine g_istore (pc := 3) (L' := [(0, .ref 5), (1, .int a1), (2, .int a2), (3, .int (0 : Int32)), (4, .int a1)]) dX7_number_3 (Nat.le_of_ble_eq_true rfl) rfl ?_
  refine g_sub (L' := [(0, .ref 5), (2, .int a2), (3, .int (0 : Int32)), (4, .int a1)]) [0, 2, 3, 4] rfl ?_
  exact h
theorem b_X7_number_5 (mm : MM) (Q : Value → MM → Prop) (l2 : Int32) (l3 : Int32) (l4 : Int32) (h : (l2 ≤ l4 → (Q (.int l3) mm)) ∧ (¬ l2 ≤ l4 → (o_X7_byteAt mm l4 ∧ (G e_X7_number 5 [(0, .ref 5), (2, .int l2), (3, .int (((l3 * (10 : Int32)) + (v_X7_byteAt mm l4)) - (48 : Int32))), (4, .int (l4 + (1 : Int32)))] [] mm Q)))) : G e_X7_number 5 [(0, .ref 5), (2, .int l2), (3, .int l3), (4, .int l4)] [] mm Q := by
  refine g_iload (pc := 5) (x := l4) dX7_number_5 rfl ?_
  refine g_iload_n (pc := 7) (x := l2) dX7_number_7 rfl ?_
  refine g_icmp_ge (pc := 8) (tgt := 32) dX7_number_8 (by decide) (fun c8 => ?_) (fun c8 => ?_)
  · have h := h.1 c8
    refine g_iload_n (pc := 32) (x := l3) dX7_number_32 rfl ?_
    exact g_iret (pc := 33) dX7_number_33 rfl rfl rfl h
  · have h := h.2 c8
    refine g_iload_n (pc := 11) (x := l3) dX7_number_11 rfl ?_
    refine g_bipush (pc := 12) (v := (10 : Int32)) dX7_number_12 (by decide) ?_
    refine g_imul (pc := 14) dX7_number_14 ?_
    refine g_aload_n (pc := 15) (x := 5) dX7_number_15 rfl ?_
    refine g_iload (pc := 16) (x := l4) dX7_number_16 rfl ?_
    refine g_callV (pc := 18) (as := [.int l4]) dX7_number_18 cw_X7_41 (by decide) rfl rfl sh_5 (Nat.le_of_ble_eq_true rfl) (rv_X7_byteAt mm l4 h.1) ?_
    have h := h.2
    rintro r_ m_ hz_ ⟨rfl, rfl⟩
    refine g_iadd (pc := 21) dX7_number_21 ?_
    refine g_bipush (pc := 22) (v := (48 : Int32)) dX7_number_22 (by decide) ?_
    refine g_isub (pc := 24) dX7_number_24 ?_
    refine g_istore_n (pc := 25) (L' := [(0, .ref 5), (2, .int l2), (3, .int (((l3 * (10 : Int32)) + (v_X7_byteAt mm l4)) - (48 : Int32))), (4, .int l4)]) dX7_number_25 (Nat.le_of_ble_eq_true rfl) rfl ?_
    refine g_iinc (pc := 26) (x := l4) (v := (l4 + (1 : Int32))) (L' := [(0, .ref 5), (2, .int l2), (3, .int (((l3 * (10 : Int32)) + (v_X7_byteAt mm l4)) - (48 : Int32))), (4, .int (l4 + (1 : Int32)))]) dX7_number_26 rfl rfl (Nat.le_of_ble_eq_true rfl) rfl ?_
    refine g_goto (pc := 29) (tgt := 5) dX7_number_29 (by decide) ?_
    exact h
theorem dX8_empty_0 : decode cX8_empty 0 = .ok (.aload_n 0, 1) := by decide +kernel
theorem dX8_empty_1 : decode cX8_empty 1 = .ok (.iconst 0, 1) := by decide +kernel
theorem dX8_empty_2 : decode cX8_empty 2 = .ok (.putfield 40, 3) := by decide +kernel
theorem dX8_empty_5 : decode cX8_empty 5 = .ok (.aload_n 0, 1) := by decide +kernel
theorem dX8_empty_6 : decode cX8_empty 6 = .ok (.iconst 0, 1) := by decide +kernel
theorem dX8_empty_7 : decode cX8_empty 7 = .ok (.putfield 44, 3) := by decide +kernel
theorem dX8_empty_10 : decode cX8_empty 10 = .ok (.aload_n 0, 1) := by decide +kernel
theorem dX8_empty_11 : decode cX8_empty 11 = .ok (.iconst 0, 1) := by decide +kernel
theorem dX8_empty_12 : decode cX8_empty 12 = .ok (.putfield 47, 3) := by decide +kernel
theorem dX8_empty_15 : decode cX8_empty 15 = .ok (.aload_n 0, 1) := by decide +kernel
theorem dX8_empty_16 : decode cX8_empty 16 = .ok (.iconst 0, 1) := by decide +kernel
theorem dX8_empty_17 : decode cX8_empty 17 = .ok (.putfield 50, 3) := by decide +kernel
theorem dX8_empty_20 : decode cX8_empty 20 = .ok (.aload_n 0, 1) := by decide +kernel
theorem dX8_empty_21 : decode cX8_empty 21 = .ok (.iconst 0, 1) := by decide +kernel
theorem dX8_empty_22 : decode cX8_empty 22 = .ok (.putfield 53, 3) := by decide +kernel
theorem dX8_empty_25 : decode cX8_empty 25 = .ok (.aload_n 0, 1) := by decide +kernel
theorem dX8_empty_26 : decode cX8_empty 26 = .ok (.iconst 0, 1) := by decide +kernel
theorem dX8_empty_27 : decode cX8_empty 27 = .ok (.putfield 56, 3) := by decide +kernel
theorem dX8_empty_30 : decode cX8_empty 30 = .ok (.aload_n 0, 1) := by decide +kernel
theorem dX8_empty_31 : decode cX8_empty 31 = .ok (.iconst 2, 1) := by decide +kernel
theorem dX8_empty_32 : decode cX8_empty 32 = .ok (.putfield 59, 3) := by decide +kernel
theorem dX8_empty_35 : decode cX8_empty 35 = .ok (.aload_n 0, 1) := by decide +kernel
theorem dX8_empty_36 : decode cX8_empty 36 = .ok (.bipush 10, 2) := by decide +kernel
theorem dX8_empty_38 : decode cX8_empty 38 = .ok (.putfield 62, 3) := by decide +kernel
theorem dX8_empty_41 : decode cX8_empty 41 = .ok (.aload_n 0, 1) := by decide +kernel
theorem dX8_empty_42 : decode cX8_empty 42 = .ok (.getfield 36, 3) := by decide +kernel
theorem dX8_empty_45 : decode cX8_empty 45 = .ok (.invokevirtual 65, 3) := by decide +kernel
theorem dX8_empty_48 : decode cX8_empty 48 = .ok (.return_, 1) := by decide +kernel
theorem b_X8_empty (mm : MM) (Q : Value → MM → Prop) (t0 : Nat) (h0 : AtTown t0) (h : ∃ Pm1 : Value → MM → Prop, Runs e_X1_empty [.ref (t0 + 8)] (wI (wI (wI (wI (wI (wI (wI (wI mm t0 8 (0 : Int32)) t0 9 (0 : Int32)) t0 10 (0 : Int32)) t0 11 (0 : Int32)) t0 12 (0 : Int32)) t0 13 (0 : Int32)) t0 14 (2 : Int32)) t0 15 (10 : Int32)) Pm1 ∧ ∀ m1, Pm1 .null m1 → (Q .null m1)) : Runs e_X8_empty [.ref t0] mm Q := by
  refine runs_of_G (L := [(0, .ref t0)]) pl_X8 (Nat.le_of_ble_eq_true rfl) rfl ?_
  refine g_aload_n (pc := 0) (x := t0) dX8_empty_0 rfl ?_
  refine g_iconst (pc := 1) (v := (0 : Int32)) dX8_empty_1 (by decide) ?_
  refine g_putI (pc := 2) dX8_empty_2 fo_X8_40 (AtTown_0 h0) rfl rfl rfl ?_
  refine g_aload_n (pc := 5) (x := t0) dX8_empty_5 rfl ?_
  refine g_iconst (pc := 6) (v := (0 : Int32)) dX8_empty_6 (by decide) ?_
  refine g_putI (pc := 7) dX8_empty_7 fo_X8_44 (AtTown_0 h0) rfl rfl rfl ?_
  refine g_aload_n (pc := 10) (x := t0) dX8_empty_10 rfl ?_
  refine g_iconst (pc := 11) (v := (0 : Int32)) dX8_empty_11 (by decide) ?_
  refine g_putI (pc := 12) dX8_empty_12 fo_X8_47 (AtTown_0 h0) rfl rfl rfl ?_
  refine g_aload_n (pc := 15) (x := t0) dX8_empty_15 rfl ?_
  refine g_iconst (pc := 16) (v := (0 : Int32)) dX8_empty_16 (by decide) ?_
  refine g_putI (pc := 17) dX8_empty_17 fo_X8_50 (AtTown_0 h0) rfl rfl rfl ?_
  refine g_aload_n (pc := 20) (x := t0) dX8_empty_20 rfl ?_
  refine g_iconst (pc := 21) (v := (0 : Int32)) dX8_empty_21 (by decide) ?_
  refine g_putI (pc := 22) dX8_empty_22 fo_X8_53 (AtTown_0 h0) rfl rfl rfl ?_
  refine g_aload_n (pc := 25) (x := t0) dX8_empty_25 rfl ?_
  refine g_iconst (pc := 26) (v := (0 : Int32)) dX8_empty_26 (by decide) ?_
  refine g_putI (pc := 27) dX8_empty_27 fo_X8_56 (AtTown_0 h0) rfl rfl rfl ?_
  refine g_aload_n (pc := 30) (x := t0) dX8_empty_30 rfl ?_
  refine g_iconst (pc := 31) (v := (2 : Int32)) dX8_empty_31 (by decide) ?_
  refine g_putI (pc := 32) dX8_empty_32 fo_X8_59 (AtTown_0 h0) rfl rfl rfl ?_
  refine g_aload_n (pc := 35) (x := t0) dX8_empty_35 rfl ?_
  refine g_bipush (pc := 36) (v := (10 : Int32)) dX8_empty_36 (by decide) ?_
  refine g_putI (pc := 38) dX8_empty_38 fo_X8_62 (AtTown_0 h0) rfl rfl rfl ?_
  refine g_aload_n (pc := 41) (x := t0) dX8_empty_41 rfl ?_
  refine g_getR (pc := 42) (dd := 8) dX8_empty_42 fo_X8_36 (AtTown_0 h0) rfl ?_
  obtain ⟨Pm1, hRm1, h⟩ := h
  refine g_callV (pc := 45) (as := []) dX8_empty_45 cw_X8_65 (by decide) rfl rfl (AtLaws_0 (AtTown.laws h0)) (Nat.le_of_ble_eq_true rfl) hRm1 ?_
  intro r_ m1 hz_ hp_
  obtain rfl := hz_
  have h := h m1 hp_
  exact g_vret (pc := 48) dX8_empty_48 rfl rfl h
theorem dX8_rankOf_0 : decode cX8_rankOf 0 = .ok (.aload_n 1, 1) := by decide +kernel
theorem dX8_rankOf_1 : decode cX8_rankOf 1 = .ok (.getfield 68, 3) := by decide +kernel
theorem dX8_rankOf_4 : decode cX8_rankOf 4 = .ok (.iload_n 2, 1) := by decide +kernel
theorem dX8_rankOf_5 : decode cX8_rankOf 5 = .ok (.iaload, 1) := by decide +kernel
theorem dX8_rankOf_6 : decode cX8_rankOf 6 = .ok (.istore_n 3, 1) := by decide +kernel
theorem dX8_rankOf_7 : decode cX8_rankOf 7 = .ok (.iload_n 3, 1) := by decide +kernel
theorem dX8_rankOf_8 : decode cX8_rankOf 8 = .ok (.ifCond .lt 20, 3) := by decide +kernel
theorem dX8_rankOf_11 : decode cX8_rankOf 11 = .ok (.iload_n 3, 1) := by decide +kernel
theorem dX8_rankOf_12 : decode cX8_rankOf 12 = .ok (.aload_n 0, 1) := by decide +kernel
theorem dX8_rankOf_13 : decode cX8_rankOf 13 = .ok (.getfield 44, 3) := by decide +kernel
theorem dX8_rankOf_16 : decode cX8_rankOf 16 = .ok (.if_icmp .ge 12, 3) := by decide +kernel
theorem dX8_rankOf_19 : decode cX8_rankOf 19 = .ok (.aload_n 0, 1) := by decide +kernel
theorem dX8_rankOf_20 : decode cX8_rankOf 20 = .ok (.getfield 18, 3) := by decide +kernel
theorem dX8_rankOf_23 : decode cX8_rankOf 23 = .ok (.iload_n 3, 1) := by decide +kernel
theorem dX8_rankOf_24 : decode cX8_rankOf 24 = .ok (.iaload, 1) := by decide +kernel
theorem dX8_rankOf_25 : decode cX8_rankOf 25 = .ok (.goto 4, 3) := by decide +kernel
theorem dX8_rankOf_28 : decode cX8_rankOf 28 = .ok (.iconst 0, 1) := by decide +kernel
theorem dX8_rankOf_29 : decode cX8_rankOf 29 = .ok (.ireturn, 1) := by decide +kernel
def o_X8_rankOf (mm : MM) (t0 : Nat) (a1 : Nat) (a2 : Int32) : Prop := vp_in a2 16 ∧ (((mm.1 (a1 + 2) a2.toNatClampNeg) < 0 → (True)) ∧ (¬ (mm.1 (a1 + 2) a2.toNatClampNeg) < 0 → (((mm.1 t0 9) ≤ (mm.1 (a1 + 2) a2.toNatClampNeg) → (True)) ∧ (¬ (mm.1 t0 9) ≤ (mm.1 (a1 + 2) a2.toNatClampNeg) → (vp_in (mm.1 (a1 + 2) a2.toNatClampNeg) 12 ∧ (True))))))
noncomputable def v_X8_rankOf (mm : MM) (t0 : Nat) (a1 : Nat) (a2 : Int32) : Int32 := (cite ((mm.1 (a1 + 2) a2.toNatClampNeg) < 0) (0 : Int32) (cite ((mm.1 t0 9) ≤ (mm.1 (a1 + 2) a2.toNatClampNeg)) (0 : Int32) (mm.1 (t0 + 3) (mm.1 (a1 + 2) a2.toNatClampNeg).toNatClampNeg)))
theorem rv_X8_rankOf (mm : MM) (t0 : Nat) (a1 : Nat) (a2 : Int32) (h0 : AtTown t0) (h1 : AtState a1) (h : o_X8_rankOf mm t0 a1 a2) : Runs e_X8_rankOf [.ref t0, .ref a1, .int a2] mm (fun r m_ => r = .int (v_X8_rankOf mm t0 a1 a2) ∧ mm = m_) := by
  refine runs_of_G (L := [(0, .ref t0), (1, .ref a1), (2, .int a2)]) pl_X8 (Nat.le_of_ble_eq_true rfl) rfl ?_
  unfold o_X8_rankOf at h
  refine g_aload_n (pc := 0) (x := a1) dX8_rankOf_0 rfl ?_
  refine g_getR (pc := 1) (dd := 2) dX8_rankOf_1 fo_X8_68 (AtState_0 h1) rfl ?_
  refine g_iload_n (pc := 4) (x := a2) dX8_rankOf_4 rfl ?_
  refine g_iaload (pc := 5) dX8_rankOf_5 (AtState_2 h1) h.1 ?_
  have h := h.2
  refine g_istore_n (pc := 6) (L' := [(0, .ref t0), (1, .ref a1), (2, .int a2), (3, .int (mm.1 (a1 + 2) a2.toNatClampNeg))]) dX8_rankOf_6 (Nat.le_of_ble_eq_true rfl) rfl ?_
  refine g_iload_n (pc := 7) (x := (mm.1 (a1 + 2) a2.toNatClampNeg)) dX8_rankOf_7 rfl ?_
  refine g_if_lt (pc := 8) (tgt := 28) dX8_rankOf_8 (by decide) (fun c8 => ?_) (fun c8 => ?_)
  · have c8_0 : (mm.1 (a1 + 2) a2.toNatClampNeg) < 0 := c8
    have h := h.1 c8
    refine g_iconst (pc := 28) (v := (0 : Int32)) dX8_rankOf_28 (by decide) ?_
    exact g_iret (pc := 29) dX8_rankOf_29 rfl rfl rfl ⟨(by unfold v_X8_rankOf; rw [cite_pos c8_0] <;> rfl), rfl⟩
  · have c8_0 : ¬ (mm.1 (a1 + 2) a2.toNatClampNeg) < 0 := c8
    have h := h.2 c8
    refine g_iload_n (pc := 11) (x := (mm.1 (a1 + 2) a2.toNatClampNeg)) dX8_rankOf_11 rfl ?_
    refine g_aload_n (pc := 12) (x := t0) dX8_rankOf_12 rfl ?_
    refine g_getI (pc := 13) dX8_rankOf_13 fo_X8_44 (AtTown_0 h0) rfl ?_
    refine g_icmp_ge (pc := 16) (tgt := 28) dX8_rankOf_16 (by decide) (fun c16 => ?_) (fun c16 => ?_)
    · have c16_1 : (mm.1 t0 9) ≤ (mm.1 (a1 + 2) a2.toNatClampNeg) := c16
      have h := h.1 c16
      refine g_iconst (pc := 28) (v := (0 : Int32)) dX8_rankOf_28 (by decide) ?_
      exact g_iret (pc := 29) dX8_rankOf_29 rfl rfl rfl ⟨(by unfold v_X8_rankOf; rw [cite_neg c8_0, cite_pos c16_1] <;> rfl), rfl⟩
    · have c16_1 : ¬ (mm.1 t0 9) ≤ (mm.1 (a1 + 2) a2.toNatClampNeg) := c16
      have h := h.2 c16
      refine g_aload_n (pc := 19) (x := t0) dX8_rankOf_19 rfl ?_
      refine g_getR (pc := 20) (dd := 3) dX8_rankOf_20 fo_X8_18 (AtTown_0 h0) rfl ?_
      refine g_iload_n (pc := 23) (x := (mm.1 (a1 + 2) a2.toNatClampNeg)) dX8_rankOf_23 rfl ?_
      refine g_iaload (pc := 24) dX8_rankOf_24 (AtTown_3 h0) h.1 ?_
      have h := h.2
      refine g_goto (pc := 25) (tgt := 29) dX8_rankOf_25 (by decide) ?_
      exact g_iret (pc := 29) dX8_rankOf_29 rfl rfl rfl ⟨(by unfold v_X8_rankOf; rw [cite_neg c8_0, cite_neg c16_1] <;> rfl), rfl⟩
theorem dX11_heldTo99_0 : decode cX11_heldTo99 0 = .ok (.iconst 0, 1) := by decide +kernel
theorem dX11_heldTo99_1 : decode cX11_heldTo99 1 = .ok (.bipush 99, 2) := by decide +kernel
theorem dX11_heldTo99_3 : decode cX11_heldTo99 3 = .ok (.iload_n 0, 1) := by decide +kernel
theorem dX11_heldTo99_4 : decode cX11_heldTo99 4 = .ok (.invokestatic 339, 3) := by decide +kernel
theorem dX11_heldTo99_7 : decode cX11_heldTo99 7 = .ok (.invokestatic 236, 3) := by decide +kernel
theorem dX11_heldTo99_10 : decode cX11_heldTo99 10 = .ok (.ireturn, 1) := by decide +kernel
noncomputable def v_X11_heldTo99 (mm : MM) (a0 : Int32) : Int32 := (imax (0 : Int32) (imin (99 : Int32) a0))
theorem rv_X11_heldTo99 (mm : MM) (a0 : Int32) : Runs e_X11_heldTo99 [.int a0] mm (fun r m_ => r = .int (v_X11_heldTo99 mm a0) ∧ mm = m_) := by
  refine runs_of_G (L := [(0, .int a0)]) pl_X11 (Nat.le_of_ble_eq_true rfl) rfl ?_
  refine g_iconst (pc := 0) (v := (0 : Int32)) dX11_heldTo99_0 (by decide) ?_
  refine g_bipush (pc := 1) (v := (99 : Int32)) dX11_heldTo99_1 (by decide) ?_
  refine g_iload_n (pc := 3) (x := a0) dX11_heldTo99_3 rfl ?_
  refine g_mmin (pc := 4) dX11_heldTo99_4 cw_X11_339 (by decide) (Nat.le_of_ble_eq_true rfl) ?_
  refine g_mmax (pc := 7) dX11_heldTo99_7 cw_X11_236 (by decide) (Nat.le_of_ble_eq_true rfl) ?_
  exact g_iret (pc := 10) dX11_heldTo99_10 rfl rfl rfl ⟨rfl, rfl⟩
theorem dX8_tideAt_0 : decode cX8_tideAt 0 = .ok (.aload_n 0, 1) := by decide +kernel
theorem dX8_tideAt_1 : decode cX8_tideAt 1 = .ok (.getfield 36, 3) := by decide +kernel
theorem dX8_tideAt_4 : decode cX8_tideAt 4 = .ok (.invokevirtual 73, 3) := by decide +kernel
theorem dX8_tideAt_7 : decode cX8_tideAt 7 = .ok (.aload_n 0, 1) := by decide +kernel
theorem dX8_tideAt_8 : decode cX8_tideAt 8 = .ok (.getfield 36, 3) := by decide +kernel
theorem dX8_tideAt_11 : decode cX8_tideAt 11 = .ok (.bipush 17, 2) := by decide +kernel
theorem dX8_tideAt_13 : decode cX8_tideAt 13 = .ok (.iload_n 2, 1) := by decide +kernel
theorem dX8_tideAt_14 : decode cX8_tideAt 14 = .ok (.invokevirtual 76, 3) := by decide +kernel
theorem dX8_tideAt_17 : decode cX8_tideAt 17 = .ok (.aload_n 0, 1) := by decide +kernel
theorem dX8_tideAt_18 : decode cX8_tideAt 18 = .ok (.getfield 36, 3) := by decide +kernel
theorem dX8_tideAt_21 : decode cX8_tideAt 21 = .ok (.bipush 18, 2) := by decide +kernel
theorem dX8_tideAt_23 : decode cX8_tideAt 23 = .ok (.aload_n 1, 1) := by decide +kernel
theorem dX8_tideAt_24 : decode cX8_tideAt 24 = .ok (.getfield 80, 3) := by decide +kernel
theorem dX8_tideAt_27 : decode cX8_tideAt 27 = .ok (.invokevirtual 76, 3) := by decide +kernel
theorem dX8_tideAt_30 : decode cX8_tideAt 30 = .ok (.aload_n 0, 1) := by decide +kernel
theorem dX8_tideAt_31 : decode cX8_tideAt 31 = .ok (.getfield 36, 3) := by decide +kernel
theorem dX8_tideAt_34 : decode cX8_tideAt 34 = .ok (.aload_n 0, 1) := by decide +kernel
theorem dX8_tideAt_35 : decode cX8_tideAt 35 = .ok (.getfield 36, 3) := by decide +kernel
theorem dX8_tideAt_38 : decode cX8_tideAt 38 = .ok (.getfield 83, 3) := by decide +kernel
theorem dX8_tideAt_41 : decode cX8_tideAt 41 = .ok (.invokevirtual 86, 3) := by decide +kernel
theorem dX8_tideAt_44 : decode cX8_tideAt 44 = .ok (.invokestatic 90, 3) := by decide +kernel
theorem dX8_tideAt_47 : decode cX8_tideAt 47 = .ok (.ireturn, 1) := by decide +kernel
theorem b_X8_tideAt (mm : MM) (Q : Value → MM → Prop) (t0 : Nat) (a1 : Nat) (a2 : Int32) (h0 : AtTown t0) (h1 : AtState a1) (h : ∃ Pm1 : Value → MM → Prop, Runs e_X1_wipeVars [.ref (t0 + 8)] mm Pm1 ∧ ∀ m1, Pm1 .null m1 → (∃ Pm2 : Value → MM → Prop, Runs e_X1_put [.ref (t0 + 8), .int (17 : Int32), .int a2] m1 Pm2 ∧ ∀ m2, Pm2 .null m2 → (∃ Pm3 : Value → MM → Prop, Runs e_X1_put [.ref (t0 + 8), .int (18 : Int32), .int (m2.1 a1 8)] m2 Pm3 ∧ ∀ m3, Pm3 .null m3 → (∃ Pm4 : Value → MM → Prop, Runs e_X1_value [.ref (t0 + 8), .int (m3.1 (t0 + 8) 8)] m3 Pm4 ∧ ∀ (r4 : Int32) (m4 : MM), Pm4 (.int r4) m4 → (Q (.int (v_X11_heldTo99 m4 r4)) m4))))) : Runs e_X8_tideAt [.ref t0, .ref a1, .int a2] mm Q := by
  refine runs_of_G (L := [(0, .ref t0), (1, .ref a1), (2, .int a2)]) pl_X8 (Nat.le_of_ble_eq_true rfl) rfl ?_
  refine g_aload_n (pc := 0) (x := t0) dX8_tideAt_0 rfl ?_
  refine g_getR (pc := 1) (dd := 8) dX8_tideAt_1 fo_X8_36 (AtTown_0 h0) rfl ?_
  obtain ⟨Pm1, hRm1, h⟩ := h
  refine g_callV (pc := 4) (as := []) dX8_tideAt_4 cw_X8_73 (by decide) rfl rfl (AtLaws_0 (AtTown.laws h0)) (Nat.le_of_ble_eq_true rfl) hRm1 ?_
  intro r_ m1 hz_ hp_
  obtain rfl := hz_
  have h := h m1 hp_
  refine g_aload_n (pc := 7) (x := t0) dX8_tideAt_7 rfl ?_
  refine g_getR (pc := 8) (dd := 8) dX8_tideAt_8 fo_X8_36 (AtTown_0 h0) rfl ?_
  refine g_bipush (pc := 11) (v := (17 : Int32)) dX8_tideAt_11 (by decide) ?_
  refine g_iload_n (pc := 13) (x := a2) dX8_tideAt_13 rfl ?_
  obtain ⟨Pm2, hRm2, h⟩ := h
  refine g_callV (pc := 14) (as := [.int (17 : Int32), .int a2]) dX8_tideAt_14 cw_X8_76 (by decide) rfl rfl (AtLaws_0 (AtTown.laws h0)) (Nat.le_of_ble_eq_true rfl) hRm2 ?_
  intro r_ m2 hz_ hp_
  obtain rfl := hz_
  have h := h m2 hp_
  refine g_aload_n (pc := 17) (x := t0) dX8_tideAt_17 rfl ?_
  refine g_getR (pc := 18) (dd := 8) dX8_tideAt_18 fo_X8_36 (AtTown_0 h0) rfl ?_
  refine g_bipush (pc := 21) (v := (18 : Int32)) dX8_tideAt_21 (by decide) ?_
  refine g_aload_n (pc := 23) (x := a1) dX8_tideAt_23 rfl ?_
  refine g_getI (pc := 24) dX8_tideAt_24 fo_X8_80 (AtState_0 h1) rfl ?_
  obtain ⟨Pm3, hRm3, h⟩ := h
  refine g_callV (pc := 27) (as := [.int (18 : Int32), .int (m2.1 a1 8)]) dX8_tideAt_27 cw_X8_76 (by decide) rfl rfl (AtLaws_0 (AtTown.laws h0)) (Nat.le_of_ble_eq_true rfl) hRm3 ?_
  intro r_ m3 hz_ hp_
  obtain rfl := hz_
  have h := h m3 hp_
  refine g_aload_n (pc := 30) (x := t0) dX8_tideAt_30 rfl ?_
  refine g_getR (pc := 31) (dd := 8) dX8_tideAt_31 fo_X8_36 (AtTown_0 h0) rfl ?_
  refine g_aload_n (pc := 34) (x := t0) dX8_tideAt_34 rfl ?_
  refine g_getR (pc := 35) (dd := 8) dX8_tideAt_35 fo_X8_36 (AtTown_0 h0) rfl ?_
  refine g_getI (pc := 38) dX8_tideAt_38 fo_X8_83 (AtLaws_0 (AtTown.laws h0)) rfl ?_
  obtain ⟨Pm4, hRm4, h⟩ := h
  refine g_callV (pc := 41) (as := [.int (m3.1 (t0 + 8) 8)]) dX8_tideAt_41 cw_X8_86 (by decide) rfl rfl (AtLaws_0 (AtTown.laws h0)) (Nat.le_of_ble_eq_true rfl) hRm4 ?_
  intro r_ m4 hz_ hp_
  obtain ⟨r4, rfl⟩ := hz_
  have h := h r4 m4 hp_
  refine g_callSN (pc := 44) (as := [.int r4]) dX8_tideAt_44 cw_X8_90 (by decide) rfl rfl (Nat.le_of_ble_eq_true rfl) (rv_X11_heldTo99 m4 r4) ?_
  rintro r_ m_ hz_ ⟨rfl, rfl⟩
  exact g_iret (pc := 47) dX8_tideAt_47 rfl rfl rfl h
theorem dX8_dueOf_0 : decode cX8_dueOf 0 = .ok (.aload_n 0, 1) := by decide +kernel
theorem dX8_dueOf_1 : decode cX8_dueOf 1 = .ok (.getfield 36, 3) := by decide +kernel
theorem dX8_dueOf_4 : decode cX8_dueOf 4 = .ok (.getfield 93, 3) := by decide +kernel
theorem dX8_dueOf_7 : decode cX8_dueOf 7 = .ok (.iconst (-1), 1) := by decide +kernel
theorem dX8_dueOf_8 : decode cX8_dueOf 8 = .ok (.if_icmp .ne 10, 3) := by decide +kernel
theorem dX8_dueOf_11 : decode cX8_dueOf 11 = .ok (.aload_n 0, 1) := by decide +kernel
theorem dX8_dueOf_12 : decode cX8_dueOf 12 = .ok (.aload_n 1, 1) := by decide +kernel
theorem dX8_dueOf_13 : decode cX8_dueOf 13 = .ok (.iload_n 2, 1) := by decide +kernel
theorem dX8_dueOf_14 : decode cX8_dueOf 14 = .ok (.invokevirtual 96, 3) := by decide +kernel
theorem dX8_dueOf_17 : decode cX8_dueOf 17 = .ok (.ireturn, 1) := by decide +kernel
theorem dX8_dueOf_18 : decode cX8_dueOf 18 = .ok (.aload_n 0, 1) := by decide +kernel
theorem dX8_dueOf_19 : decode cX8_dueOf 19 = .ok (.aload_n 1, 1) := by decide +kernel
theorem dX8_dueOf_20 : decode cX8_dueOf 20 = .ok (.iload_n 2, 1) := by decide +kernel
theorem dX8_dueOf_21 : decode cX8_dueOf 21 = .ok (.invokevirtual 100, 3) := by decide +kernel
theorem dX8_dueOf_24 : decode cX8_dueOf 24 = .ok (.aload_n 0, 1) := by decide +kernel
theorem dX8_dueOf_25 : decode cX8_dueOf 25 = .ok (.getfield 36, 3) := by decide +kernel
theorem dX8_dueOf_28 : decode cX8_dueOf 28 = .ok (.bipush 13, 2) := by decide +kernel
theorem dX8_dueOf_30 : decode cX8_dueOf 30 = .ok (.iconst 0, 1) := by decide +kernel
theorem dX8_dueOf_31 : decode cX8_dueOf 31 = .ok (.invokevirtual 76, 3) := by decide +kernel
theorem dX8_dueOf_34 : decode cX8_dueOf 34 = .ok (.aload_n 0, 1) := by decide +kernel
theorem dX8_dueOf_35 : decode cX8_dueOf 35 = .ok (.getfield 36, 3) := by decide +kernel
theorem dX8_dueOf_38 : decode cX8_dueOf 38 = .ok (.aload_n 0, 1) := by decide +kernel
theorem dX8_dueOf_39 : decode cX8_dueOf 39 = .ok (.getfield 36, 3) := by decide +kernel
theorem dX8_dueOf_42 : decode cX8_dueOf 42 = .ok (.getfield 93, 3) := by decide +kernel
theorem dX8_dueOf_45 : decode cX8_dueOf 45 = .ok (.invokevirtual 86, 3) := by decide +kernel
theorem dX8_dueOf_48 : decode cX8_dueOf 48 = .ok (.invokestatic 90, 3) := by decide +kernel
theorem dX8_dueOf_51 : decode cX8_dueOf 51 = .ok (.ireturn, 1) := by decide +kernel
theorem b_X8_dueOf (mm : MM) (Q : Value → MM → Prop) (t0 : Nat) (a1 : Nat) (a2 : Int32) (h0 : AtTown t0) (h1 : AtState a1) (h : (¬ (mm.1 (t0 + 8) 9) = (-1 : Int32) → (∃ Pm1 : Value → MM → Prop, Runs e_X8_putVars [.ref t0, .ref a1, .int a2] mm Pm1 ∧ ∀ m1, Pm1 .null m1 → (∃ Pm2 : Value → MM → Prop, Runs e_X1_put [.ref (t0 + 8), .int (13 : Int32), .int (0 : Int32)] m1 Pm2 ∧ ∀ m2, Pm2 .null m2 → (∃ Pm3 : Value → MM → Prop, Runs e_X1_value [.ref (t0 + 8), .int (m2.1 (t0 + 8) 9)] m2 Pm3 ∧ ∀ (r3 : Int32) (m3 : MM), Pm3 (.int r3) m3 → (Q (.int (v_X11_heldTo99 m3 r3)) m3))))) ∧ ((mm.1 (t0 + 8) 9) = (-1 : Int32) → (o_X8_rankOf mm t0 a1 a2 ∧ (Q (.int (v_X8_rankOf mm t0 a1 a2)) mm)))) : Runs e_X8_dueOf [.ref t0, .ref a1, .int a2] mm Q := by
  refine runs_of_G (L := [(0, .ref t0), (1, .ref a1), (2, .int a2)]) pl_X8 (Nat.le_of_ble_eq_true rfl) rfl ?_
  refine g_aload_n (pc := 0) (x := t0) dX8_dueOf_0 rfl ?_
  refine g_getR (pc := 1) (dd := 8) dX8_dueOf_1 fo_X8_36 (AtTown_0 h0) rfl ?_
  refine g_getI (pc := 4) dX8_dueOf_4 fo_X8_93 (AtLaws_0 (AtTown.laws h0)) rfl ?_
  refine g_iconst (pc := 7) (v := (-1 : Int32)) dX8_dueOf_7 (by decide) ?_
  refine g_icmp_ne (pc := 8) (tgt := 18) dX8_dueOf_8 (by decide) (fun c8 => ?_) (fun c8 => ?_)
  · have h := h.1 c8
    refine g_aload_n (pc := 18) (x := t0) dX8_dueOf_18 rfl ?_
    refine g_aload_n (pc := 19) (x := a1) dX8_dueOf_19 rfl ?_
    refine g_iload_n (pc := 20) (x := a2) dX8_dueOf_20 rfl ?_
    obtain ⟨Pm1, hRm1, h⟩ := h
    refine g_callV (pc := 21) (as := [.ref a1, .int a2]) dX8_dueOf_21 cw_X8_100 (by decide) rfl rfl (AtTown_0 h0) (Nat.le_of_ble_eq_true rfl) hRm1 ?_
    intro r_ m1 hz_ hp_
    obtain rfl := hz_
    have h := h m1 hp_
    refine g_aload_n (pc := 24) (x := t0) dX8_dueOf_24 rfl ?_
    refine g_getR (pc := 25) (dd := 8) dX8_dueOf_25 fo_X8_36 (AtTown_0 h0) rfl ?_
    refine g_bipush (pc := 28) (v := (13 : Int32)) dX8_dueOf_28 (by decide) ?_
    refine g_iconst (pc := 30) (v := (0 : Int32)) dX8_dueOf_30 (by decide) ?_
    obtain ⟨Pm2, hRm2, h⟩ := h
    refine g_callV (pc := 31) (as := [.int (13 : Int32), .int (0 : Int32)]) dX8_dueOf_31 cw_X8_76 (by decide) rfl rfl (AtLaws_0 (AtTown.laws h0)) (Nat.le_of_ble_eq_true rfl) hRm2 ?_
    intro r_ m2 hz_ hp_
    obtain rfl := hz_
    have h := h m2 hp_
    refine g_aload_n (pc := 34) (x := t0) dX8_dueOf_34 rfl ?_
    refine g_getR (pc := 35) (dd := 8) dX8_dueOf_35 fo_X8_36 (AtTown_0 h0) rfl ?_
    refine g_aload_n (pc := 38) (x := t0) dX8_dueOf_38 rfl ?_
    refine g_getR (pc := 39) (dd := 8) dX8_dueOf_39 fo_X8_36 (AtTown_0 h0) rfl ?_
    refine g_getI (pc := 42) dX8_dueOf_42 fo_X8_93 (AtLaws_0 (AtTown.laws h0)) rfl ?_
    obtain ⟨Pm3, hRm3, h⟩ := h
    refine g_callV (pc := 45) (as := [.int (m2.1 (t0 + 8) 9)]) dX8_dueOf_45 cw_X8_86 (by decide) rfl rfl (AtLaws_0 (AtTown.laws h0)) (Nat.le_of_ble_eq_true rfl) hRm3 ?_
    intro r_ m3 hz_ hp_
    obtain ⟨r3, rfl⟩ := hz_
    have h := h r3 m3 hp_
    refine g_callSN (pc := 48) (as := [.int r3]) dX8_dueOf_48 cw_X8_90 (by decide) rfl rfl (Nat.le_of_ble_eq_true rfl) (rv_X11_heldTo99 m3 r3) ?_
    rintro r_ m_ hz_ ⟨rfl, rfl⟩
    exact g_iret (pc := 51) dX8_dueOf_51 rfl rfl rfl h
  · have h := h.2 c8
    refine g_aload_n (pc := 11) (x := t0) dX8_dueOf_11 rfl ?_
    refine g_aload_n (pc := 12) (x := a1) dX8_dueOf_12 rfl ?_
    refine g_iload_n (pc := 13) (x := a2) dX8_dueOf_13 rfl ?_
    refine g_callV (pc := 14) (as := [.ref a1, .int a2]) dX8_dueOf_14 cw_X8_96 (by decide) rfl rfl (AtTown_0 h0) (Nat.le_of_ble_eq_true rfl) (rv_X8_rankOf mm t0 a1 a2 h0 h1 h.1) ?_
    have h := h.2
    rintro r_ m_ hz_ ⟨rfl, rfl⟩
    exact g_iret (pc := 17) dX8_dueOf_17 rfl rfl rfl h
theorem dX8_swayOf_0 : decode cX8_swayOf 0 = .ok (.aload_n 0, 1) := by decide +kernel
theorem dX8_swayOf_1 : decode cX8_swayOf 1 = .ok (.aload_n 1, 1) := by decide +kernel
theorem dX8_swayOf_2 : decode cX8_swayOf 2 = .ok (.iload_n 2, 1) := by decide +kernel
theorem dX8_swayOf_3 : decode cX8_swayOf 3 = .ok (.invokevirtual 100, 3) := by decide +kernel
theorem dX8_swayOf_6 : decode cX8_swayOf 6 = .ok (.aload_n 0, 1) := by decide +kernel
theorem dX8_swayOf_7 : decode cX8_swayOf 7 = .ok (.getfield 36, 3) := by decide +kernel
theorem dX8_swayOf_10 : decode cX8_swayOf 10 = .ok (.bipush 18, 2) := by decide +kernel
theorem dX8_swayOf_12 : decode cX8_swayOf 12 = .ok (.aload_n 1, 1) := by decide +kernel
theorem dX8_swayOf_13 : decode cX8_swayOf 13 = .ok (.getfield 80, 3) := by decide +kernel
theorem dX8_swayOf_16 : decode cX8_swayOf 16 = .ok (.invokevirtual 76, 3) := by decide +kernel
theorem dX8_swayOf_19 : decode cX8_swayOf 19 = .ok (.aload_n 0, 1) := by decide +kernel
theorem dX8_swayOf_20 : decode cX8_swayOf 20 = .ok (.getfield 36, 3) := by decide +kernel
theorem dX8_swayOf_23 : decode cX8_swayOf 23 = .ok (.bipush 19, 2) := by decide +kernel
theorem dX8_swayOf_25 : decode cX8_swayOf 25 = .ok (.iload_n 3, 1) := by decide +kernel
theorem dX8_swayOf_26 : decode cX8_swayOf 26 = .ok (.invokevirtual 76, 3) := by decide +kernel
theorem dX8_swayOf_29 : decode cX8_swayOf 29 = .ok (.aload_n 0, 1) := by decide +kernel
theorem dX8_swayOf_30 : decode cX8_swayOf 30 = .ok (.getfield 36, 3) := by decide +kernel
theorem dX8_swayOf_33 : decode cX8_swayOf 33 = .ok (.aload_n 0, 1) := by decide +kernel
theorem dX8_swayOf_34 : decode cX8_swayOf 34 = .ok (.getfield 36, 3) := by decide +kernel
theorem dX8_swayOf_37 : decode cX8_swayOf 37 = .ok (.getfield 104, 3) := by decide +kernel
theorem dX8_swayOf_40 : decode cX8_swayOf 40 = .ok (.invokevirtual 86, 3) := by decide +kernel
theorem dX8_swayOf_43 : decode cX8_swayOf 43 = .ok (.invokestatic 90, 3) := by decide +kernel
theorem dX8_swayOf_46 : decode cX8_swayOf 46 = .ok (.ireturn, 1) := by decide +kernel
theorem b_X8_swayOf (mm : MM) (Q : Value → MM → Prop) (t0 : Nat) (a1 : Nat) (a2 : Int32) (a3 : Int32) (h0 : AtTown t0) (h1 : AtState a1) (h : ∃ Pm1 : Value → MM → Prop, Runs e_X8_putVars [.ref t0, .ref a1, .int a2] mm Pm1 ∧ ∀ m1, Pm1 .null m1 → (∃ Pm2 : Value → MM → Prop, Runs e_X1_put [.ref (t0 + 8), .int (18 : Int32), .int (m1.1 a1 8)] m1 Pm2 ∧ ∀ m2, Pm2 .null m2 → (∃ Pm3 : Value → MM → Prop, Runs e_X1_put [.ref (t0 + 8), .int (19 : Int32), .int a3] m2 Pm3 ∧ ∀ m3, Pm3 .null m3 → (∃ Pm4 : Value → MM → Prop, Runs e_X1_value [.ref (t0 + 8), .int (m3.1 (t0 + 8) 10)] m3 Pm4 ∧ ∀ (r4 : Int32) (m4 : MM), Pm4 (.int r4) m4 → (Q (.int (v_X11_heldTo99 m4 r4)) m4))))) : Runs e_X8_swayOf [.ref t0, .ref a1, .int a2, .int a3] mm Q := by
  refine runs_of_G (L := [(0, .ref t0), (1, .ref a1), (2, .int a2), (3, .int a3)]) pl_X8 (Nat.le_of_ble_eq_true rfl) rfl ?_
  refine g_aload_n (pc := 0) (x := t0) dX8_swayOf_0 rfl ?_
  refine g_aload_n (pc := 1) (x := a1) dX8_swayOf_1 rfl ?_
  refine g_iload_n (pc := 2) (x := a2) dX8_swayOf_2 rfl ?_
  obtain ⟨Pm1, hRm1, h⟩ := h
  refine g_callV (pc := 3) (as := [.ref a1, .int a2]) dX8_swayOf_3 cw_X8_100 (by decide) rfl rfl (AtTown_0 h0) (Nat.le_of_ble_eq_true rfl) hRm1 ?_
  intro r_ m1 hz_ hp_
  obtain rfl := hz_
  have h := h m1 hp_
  refine g_aload_n (pc := 6) (x := t0) dX8_swayOf_6 rfl ?_
  refine g_getR (pc := 7) (dd := 8) dX8_swayOf_7 fo_X8_36 (AtTown_0 h0) rfl ?_
  refine g_bipush (pc := 10) (v := (18 : Int32)) dX8_swayOf_10 (by decide) ?_
  refine g_aload_n (pc := 12) (x := a1) dX8_swayOf_12 rfl ?_
  refine g_getI (pc := 13) dX8_swayOf_13 fo_X8_80 (AtState_0 h1) rfl ?_
  obtain ⟨Pm2, hRm2, h⟩ := h
  refine g_callV (pc := 16) (as := [.int (18 : Int32), .int (m1.1 a1 8)]) dX8_swayOf_16 cw_X8_76 (by decide) rfl rfl (AtLaws_0 (AtTown.laws h0)) (Nat.le_of_ble_eq_true rfl) hRm2 ?_
  intro r_ m2 hz_ hp_
  obtain rfl := hz_
  have h := h m2 hp_
  refine g_aload_n (pc := 19) (x := t0) dX8_swayOf_19 rfl ?_
  refine g_getR (pc := 20) (dd := 8) dX8_swayOf_20 fo_X8_36 (AtTown_0 h0) rfl ?_
  refine g_bipush (pc := 23) (v := (19 : Int32)) dX8_swayOf_23 (by decide) ?_
  refine g_iload_n (pc := 25) (x := a3) dX8_swayOf_25 rfl ?_
  obtain ⟨Pm3, hRm3, h⟩ := h
  refine g_callV (pc := 26) (as := [.int (19 : Int32), .int a3]) dX8_swayOf_26 cw_X8_76 (by decide) rfl rfl (AtLaws_0 (AtTown.laws h0)) (Nat.le_of_ble_eq_true rfl) hRm3 ?_
  intro r_ m3 hz_ hp_
  obtain rfl := hz_
  have h := h m3 hp_
  refine g_aload_n (pc := 29) (x := t0) dX8_swayOf_29 rfl ?_
  refine g_getR (pc := 30) (dd := 8) dX8_swayOf_30 fo_X8_36 (AtTown_0 h0) rfl ?_
  refine g_aload_n (pc := 33) (x := t0) dX8_swayOf_33 rfl ?_
  refine g_getR (pc := 34) (dd := 8) dX8_swayOf_34 fo_X8_36 (AtTown_0 h0) rfl ?_
  refine g_getI (pc := 37) dX8_swayOf_37 fo_X8_104 (AtLaws_0 (AtTown.laws h0)) rfl ?_
  obtain ⟨Pm4, hRm4, h⟩ := h
  refine g_callV (pc := 40) (as := [.int (m3.1 (t0 + 8) 10)]) dX8_swayOf_40 cw_X8_86 (by decide) rfl rfl (AtLaws_0 (AtTown.laws h0)) (Nat.le_of_ble_eq_true rfl) hRm4 ?_
  intro r_ m4 hz_ hp_
  obtain ⟨r4, rfl⟩ := hz_
  have h := h r4 m4 hp_
  refine g_callSN (pc := 43) (as := [.int r4]) dX8_swayOf_43 cw_X8_90 (by decide) rfl rfl (Nat.le_of_ble_eq_true rfl) (rv_X11_heldTo99 m4 r4) ?_
  rintro r_ m_ hz_ ⟨rfl, rfl⟩
  exact g_iret (pc := 46) dX8_swayOf_46 rfl rfl rfl h
theorem dX8_isBad_0 : decode cX8_isBad 0 = .ok (.aload_n 0, 1) := by decide +kernel
theorem dX8_isBad_1 : decode cX8_isBad 1 = .ok (.aload_n 1, 1) := by decide +kernel
theorem dX8_isBad_2 : decode cX8_isBad 2 = .ok (.iload_n 2, 1) := by decide +kernel
theorem dX8_isBad_3 : decode cX8_isBad 3 = .ok (.iconst 0, 1) := by decide +kernel
theorem dX8_isBad_4 : decode cX8_isBad 4 = .ok (.invokevirtual 107, 3) := by decide +kernel
theorem dX8_isBad_7 : decode cX8_isBad 7 = .ok (.istore_n 3, 1) := by decide +kernel
theorem dX8_isBad_8 : decode cX8_isBad 8 = .ok (.aload_n 0, 1) := by decide +kernel
theorem dX8_isBad_9 : decode cX8_isBad 9 = .ok (.getfield 36, 3) := by decide +kernel
theorem dX8_isBad_12 : decode cX8_isBad 12 = .ok (.bipush 12, 2) := by decide +kernel
theorem dX8_isBad_14 : decode cX8_isBad 14 = .ok (.iload_n 3, 1) := by decide +kernel
theorem dX8_isBad_15 : decode cX8_isBad 15 = .ok (.invokevirtual 76, 3) := by decide +kernel
theorem dX8_isBad_18 : decode cX8_isBad 18 = .ok (.aload_n 0, 1) := by decide +kernel
theorem dX8_isBad_19 : decode cX8_isBad 19 = .ok (.getfield 36, 3) := by decide +kernel
theorem dX8_isBad_22 : decode cX8_isBad 22 = .ok (.aload_n 0, 1) := by decide +kernel
theorem dX8_isBad_23 : decode cX8_isBad 23 = .ok (.getfield 36, 3) := by decide +kernel
theorem dX8_isBad_26 : decode cX8_isBad 26 = .ok (.getfield 111, 3) := by decide +kernel
theorem dX8_isBad_29 : decode cX8_isBad 29 = .ok (.aload_n 0, 1) := by decide +kernel
theorem dX8_isBad_30 : decode cX8_isBad 30 = .ok (.getfield 36, 3) := by decide +kernel
theorem dX8_isBad_33 : decode cX8_isBad 33 = .ok (.getfield 114, 3) := by decide +kernel
theorem dX8_isBad_36 : decode cX8_isBad 36 = .ok (.invokevirtual 117, 3) := by decide +kernel
theorem dX8_isBad_39 : decode cX8_isBad 39 = .ok (.ireturn, 1) := by decide +kernel
theorem b_X8_isBad (mm : MM) (Q : Value → MM → Prop) (t0 : Nat) (a1 : Nat) (a2 : Int32) (h0 : AtTown t0) (h1 : AtState a1) (h : ∃ Pm1 : Value → MM → Prop, Runs e_X8_swayOf [.ref t0, .ref a1, .int a2, .int (0 : Int32)] mm Pm1 ∧ ∀ (r1 : Int32) (m1 : MM), Pm1 (.int r1) m1 → (∃ Pm2 : Value → MM → Prop, Runs e_X1_put [.ref (t0 + 8), .int (12 : Int32), .int r1] m1 Pm2 ∧ ∀ m2, Pm2 .null m2 → (∃ Pm3 : Value → MM → Prop, Runs e_X1_someHolds [.ref (t0 + 8), .ref ((t0 + 8) + 3), .int (m2.1 (t0 + 8) 12)] m2 Pm3 ∧ (∀ r m3, Pm3 r m3 → r = .int 1 ∨ r = .int 0) ∧ (∀ m3, Pm3 (.int 1) m3 → (Q (.int (1 : Int32)) m3)) ∧ (∀ m3, Pm3 (.int 0) m3 → (Q (.int (0 : Int32)) m3))))) : Runs e_X8_isBad [.ref t0, .ref a1, .int a2] mm Q := by
  refine runs_of_G (L := [(0, .ref t0), (1, .ref a1), (2, .int a2)]) pl_X8 (Nat.le_of_ble_eq_true rfl) rfl ?_
  refine g_aload_n (pc := 0) (x := t0) dX8_isBad_0 rfl ?_
  refine g_aload_n (pc := 1) (x := a1) dX8_isBad_1 rfl ?_
  refine g_iload_n (pc := 2) (x := a2) dX8_isBad_2 rfl ?_
  refine g_iconst (pc := 3) (v := (0 : Int32)) dX8_isBad_3 (by decide) ?_
  obtain ⟨Pm1, hRm1, h⟩ := h
  refine g_callV (pc := 4) (as := [.ref a1, .int a2, .int (0 : Int32)]) dX8_isBad_4 cw_X8_107 (by decide) rfl rfl (AtTown_0 h0) (Nat.le_of_ble_eq_true rfl) hRm1 ?_
  intro r_ m1 hz_ hp_
  obtain ⟨r1, rfl⟩ := hz_
  have h := h r1 m1 hp_
  refine g_istore_n (pc := 7) (L' := [(0, .ref t0), (1, .ref a1), (2, .int a2), (3, .int r1)]) dX8_isBad_7 (Nat.le_of_ble_eq_true rfl) rfl ?_
  refine g_aload_n (pc := 8) (x := t0) dX8_isBad_8 rfl ?_
  refine g_getR (pc := 9) (dd := 8) dX8_isBad_9 fo_X8_36 (AtTown_0 h0) rfl ?_
  refine g_bipush (pc := 12) (v := (12 : Int32)) dX8_isBad_12 (by decide) ?_
  refine g_iload_n (pc := 14) (x := r1) dX8_isBad_14 rfl ?_
  obtain ⟨Pm2, hRm2, h⟩ := h
  refine g_callV (pc := 15) (as := [.int (12 : Int32), .int r1]) dX8_isBad_15 cw_X8_76 (by decide) rfl rfl (AtLaws_0 (AtTown.laws h0)) (Nat.le_of_ble_eq_true rfl) hRm2 ?_
  intro r_ m2 hz_ hp_
  obtain rfl := hz_
  have h := h m2 hp_
  refine g_aload_n (pc := 18) (x := t0) dX8_isBad_18 rfl ?_
  refine g_getR (pc := 19) (dd := 8) dX8_isBad_19 fo_X8_36 (AtTown_0 h0) rfl ?_
  refine g_aload_n (pc := 22) (x := t0) dX8_isBad_22 rfl ?_
  refine g_getR (pc := 23) (dd := 8) dX8_isBad_23 fo_X8_36 (AtTown_0 h0) rfl ?_
  refine g_getR (pc := 26) (dd := 3) dX8_isBad_26 fo_X8_111 (AtLaws_0 (AtTown.laws h0)) rfl ?_
  refine g_aload_n (pc := 29) (x := t0) dX8_isBad_29 rfl ?_
  refine g_getR (pc := 30) (dd := 8) dX8_isBad_30 fo_X8_36 (AtTown_0 h0) rfl ?_
  refine g_getI (pc := 33) dX8_isBad_33 fo_X8_114 (AtLaws_0 (AtTown.laws h0)) rfl ?_
  obtain ⟨Pm3, hRm3, h⟩ := h
  refine g_callV (pc := 36) (as := [.ref ((t0 + 8) + 3), .int (m2.1 (t0 + 8) 12)]) dX8_isBad_36 cw_X8_117 (by decide) rfl rfl (AtLaws_0 (AtTown.laws h0)) (Nat.le_of_ble_eq_true rfl) hRm3 ?_
  intro r_ m3 hz_ hp_
  rcases h.1 r_ m3 hp_ with rfl | rfl
  · have h := h.2.1 m3 hp_
    exact g_iret (pc := 39) dX8_isBad_39 rfl rfl (nar_B isB1) h
  · have h := h.2.2 m3 hp_
    exact g_iret (pc := 39) dX8_isBad_39 rfl rfl (nar_B isB0) h
theorem dX8_hasToFall_0 : decode cX8_hasToFall 0 = .ok (.aload_n 0, 1) := by decide +kernel
theorem dX8_hasToFall_1 : decode cX8_hasToFall 1 = .ok (.aload_n 1, 1) := by decide +kernel
theorem dX8_hasToFall_2 : decode cX8_hasToFall 2 = .ok (.iload_n 2, 1) := by decide +kernel
theorem dX8_hasToFall_3 : decode cX8_hasToFall 3 = .ok (.iload_n 3, 1) := by decide +kernel
theorem dX8_hasToFall_4 : decode cX8_hasToFall 4 = .ok (.invokevirtual 107, 3) := by decide +kernel
theorem dX8_hasToFall_7 : decode cX8_hasToFall 7 = .ok (.istore 5, 2) := by decide +kernel
theorem dX8_hasToFall_9 : decode cX8_hasToFall 9 = .ok (.aload_n 0, 1) := by decide +kernel
theorem dX8_hasToFall_10 : decode cX8_hasToFall 10 = .ok (.getfield 36, 3) := by decide +kernel
theorem dX8_hasToFall_13 : decode cX8_hasToFall 13 = .ok (.bipush 12, 2) := by decide +kernel
theorem dX8_hasToFall_15 : decode cX8_hasToFall 15 = .ok (.iload 5, 2) := by decide +kernel
theorem dX8_hasToFall_17 : decode cX8_hasToFall 17 = .ok (.invokevirtual 76, 3) := by decide +kernel
theorem dX8_hasToFall_20 : decode cX8_hasToFall 20 = .ok (.aload_n 0, 1) := by decide +kernel
theorem dX8_hasToFall_21 : decode cX8_hasToFall 21 = .ok (.getfield 36, 3) := by decide +kernel
theorem dX8_hasToFall_24 : decode cX8_hasToFall 24 = .ok (.bipush 20, 2) := by decide +kernel
theorem dX8_hasToFall_26 : decode cX8_hasToFall 26 = .ok (.iload 4, 2) := by decide +kernel
theorem dX8_hasToFall_28 : decode cX8_hasToFall 28 = .ok (.invokevirtual 76, 3) := by decide +kernel
theorem dX8_hasToFall_31 : decode cX8_hasToFall 31 = .ok (.aload_n 0, 1) := by decide +kernel
theorem dX8_hasToFall_32 : decode cX8_hasToFall 32 = .ok (.getfield 36, 3) := by decide +kernel
theorem dX8_hasToFall_35 : decode cX8_hasToFall 35 = .ok (.aload_n 0, 1) := by decide +kernel
theorem dX8_hasToFall_36 : decode cX8_hasToFall 36 = .ok (.getfield 36, 3) := by decide +kernel
theorem dX8_hasToFall_39 : decode cX8_hasToFall 39 = .ok (.getfield 121, 3) := by decide +kernel
theorem dX8_hasToFall_42 : decode cX8_hasToFall 42 = .ok (.aload_n 0, 1) := by decide +kernel
theorem dX8_hasToFall_43 : decode cX8_hasToFall 43 = .ok (.getfield 36, 3) := by decide +kernel
theorem dX8_hasToFall_46 : decode cX8_hasToFall 46 = .ok (.getfield 124, 3) := by decide +kernel
theorem dX8_hasToFall_49 : decode cX8_hasToFall 49 = .ok (.invokevirtual 117, 3) := by decide +kernel
theorem dX8_hasToFall_52 : decode cX8_hasToFall 52 = .ok (.ireturn, 1) := by decide +kernel
theorem b_X8_hasToFall (mm : MM) (Q : Value → MM → Prop) (t0 : Nat) (a1 : Nat) (a2 : Int32) (a3 : Int32) (a4 : Int32) (h0 : AtTown t0) (h1 : AtState a1) (h : ∃ Pm1 : Value → MM → Prop, Runs e_X8_swayOf [.ref t0, .ref a1, .int a2, .int a3] mm Pm1 ∧ ∀ (r1 : Int32) (m1 : MM), Pm1 (.int r1) m1 → (∃ Pm2 : Value → MM → Prop, Runs e_X1_put [.ref (t0 + 8), .int (12 : Int32), .int r1] m1 Pm2 ∧ ∀ m2, Pm2 .null m2 → (∃ Pm3 : Value → MM → Prop, Runs e_X1_put [.ref (t0 + 8), .int (20 : Int32), .int a4] m2 Pm3 ∧ ∀ m3, Pm3 .null m3 → (∃ Pm4 : Value → MM → Prop, Runs e_X1_someHolds [.ref (t0 + 8), .ref ((t0 + 8) + 2), .int (m3.1 (t0 + 8) 11)] m3 Pm4 ∧ (∀ r m4, Pm4 r m4 → r = .int 1 ∨ r = .int 0) ∧ (∀ m4, Pm4 (.int 1) m4 → (Q (.int (1 : Int32)) m4)) ∧ (∀ m4, Pm4 (.int 0) m4 → (Q (.int (0 : Int32)) m4)))))) : Runs e_X8_hasToFall [.ref t0, .ref a1, .int a2, .int a3, .int a4] mm Q := by
  refine runs_of_G (L := [(0, .ref t0), (1, .ref a1), (2, .int a2), (3, .int a3), (4, .int a4)]) pl_X8 (Nat.le_of_ble_eq_true rfl) rfl ?_
  refine g_aload_n (pc := 0) (x := t0) dX8_hasToFall_0 rfl ?_
  refine g_aload_n (pc := 1) (x := a1) dX8_hasToFall_1 rfl ?_
  refine g_iload_n (pc := 2) (x := a2) dX8_hasToFall_2 rfl ?_
  refine g_iload_n (pc := 3) (x := a3) dX8_hasToFall_3 rfl ?_
  obtain ⟨Pm1, hRm1, h⟩ := h
  refine g_callV (pc := 4) (as := [.ref a1, .int a2, .int a3]) dX8_hasToFall_4 cw_X8_107 (by decide) rfl rfl (AtTown_0 h0) (Nat.le_of_ble_eq_true rfl) hRm1 ?_
  intro r_ m1 hz_ hp_
  obtain ⟨r1, rfl⟩ := hz_
  have h := h r1 m1 hp_
  refine g_istore (pc := 7) (L' := [(0, .ref t0), (1, .ref a1), (2, .int a2), (3, .int a3), (4, .int a4), (5, .int r1)]) dX8_hasToFall_7 (Nat.le_of_ble_eq_true rfl) rfl ?_
  refine g_aload_n (pc := 9) (x := t0) dX8_hasToFall_9 rfl ?_
  refine g_getR (pc := 10) (dd := 8) dX8_hasToFall_10 fo_X8_36 (AtTown_0 h0) rfl ?_
  refine g_bipush (pc := 13) (v := (12 : Int32)) dX8_hasToFall_13 (by decide) ?_
  refine g_iload (pc := 15) (x := r1) dX8_hasToFall_15 rfl ?_
  obtain ⟨Pm2, hRm2, h⟩ := h
  refine g_callV (pc := 17) (as := [.int (12 : Int32), .int r1]) dX8_hasToFall_17 cw_X8_76 (by decide) rfl rfl (AtLaws_0 (AtTown.laws h0)) (Nat.le_of_ble_eq_true rfl) hRm2 ?_
  intro r_ m2 hz_ hp_
  obtain rfl := hz_
  have h := h m2 hp_
  refine g_aload_n (pc := 20) (x := t0) dX8_hasToFall_20 rfl ?_
  refine g_getR (pc := 21) (dd := 8) dX8_hasToFall_21 fo_X8_36 (AtTown_0 h0) rfl ?_
  refine g_bipush (pc := 24) (v := (20 : Int32)) dX8_hasToFall_24 (by decide) ?_
  refine g_iload (pc := 26) (x := a4) dX8_hasToFall_26 rfl ?_
  obtain ⟨Pm3, hRm3, h⟩ := h
  refine g_callV (pc := 28) (as := [.int (20 : Int32), .int a4]) dX8_hasToFall_28 cw_X8_76 (by decide) rfl rfl (AtLaws_0 (AtTown.laws h0)) (Nat.le_of_ble_eq_true rfl) hRm3 ?_
  intro r_ m3 hz_ hp_
  obtain rfl := hz_
  have h := h m3 hp_
  refine g_aload_n (pc := 31) (x := t0) dX8_hasToFall_31 rfl ?_
  refine g_getR (pc := 32) (dd := 8) dX8_hasToFall_32 fo_X8_36 (AtTown_0 h0) rfl ?_
  refine g_aload_n (pc := 35) (x := t0) dX8_hasToFall_35 rfl ?_
  refine g_getR (pc := 36) (dd := 8) dX8_hasToFall_36 fo_X8_36 (AtTown_0 h0) rfl ?_
  refine g_getR (pc := 39) (dd := 2) dX8_hasToFall_39 fo_X8_121 (AtLaws_0 (AtTown.laws h0)) rfl ?_
  refine g_aload_n (pc := 42) (x := t0) dX8_hasToFall_42 rfl ?_
  refine g_getR (pc := 43) (dd := 8) dX8_hasToFall_43 fo_X8_36 (AtTown_0 h0) rfl ?_
  refine g_getI (pc := 46) dX8_hasToFall_46 fo_X8_124 (AtLaws_0 (AtTown.laws h0)) rfl ?_
  obtain ⟨Pm4, hRm4, h⟩ := h
  refine g_callV (pc := 49) (as := [.ref ((t0 + 8) + 2), .int (m3.1 (t0 + 8) 11)]) dX8_hasToFall_49 cw_X8_117 (by decide) rfl rfl (AtLaws_0 (AtTown.laws h0)) (Nat.le_of_ble_eq_true rfl) hRm4 ?_
  intro r_ m4 hz_ hp_
  rcases h.1 r_ m4 hp_ with rfl | rfl
  · have h := h.2.1 m4 hp_
    exact g_iret (pc := 52) dX8_hasToFall_52 rfl rfl (nar_B isB1) h
  · have h := h.2.2 m4 hp_
    exact g_iret (pc := 52) dX8_hasToFall_52 rfl rfl (nar_B isB0) h
theorem dX8_putVars_0 : decode cX8_putVars 0 = .ok (.aload_n 0, 1) := by decide +kernel
theorem dX8_putVars_1 : decode cX8_putVars 1 = .ok (.getfield 36, 3) := by decide +kernel
theorem dX8_putVars_4 : decode cX8_putVars 4 = .ok (.invokevirtual 73, 3) := by decide +kernel
theorem dX8_putVars_7 : decode cX8_putVars 7 = .ok (.aload_n 0, 1) := by decide +kernel
theorem dX8_putVars_8 : decode cX8_putVars 8 = .ok (.getfield 36, 3) := by decide +kernel
theorem dX8_putVars_11 : decode cX8_putVars 11 = .ok (.bipush 13, 2) := by decide +kernel
theorem dX8_putVars_13 : decode cX8_putVars 13 = .ok (.aload_n 1, 1) := by decide +kernel
theorem dX8_putVars_14 : decode cX8_putVars 14 = .ok (.getfield 127, 3) := by decide +kernel
theorem dX8_putVars_17 : decode cX8_putVars 17 = .ok (.iload_n 2, 1) := by decide +kernel
theorem dX8_putVars_18 : decode cX8_putVars 18 = .ok (.iaload, 1) := by decide +kernel
theorem dX8_putVars_19 : decode cX8_putVars 19 = .ok (.invokevirtual 76, 3) := by decide +kernel
theorem dX8_putVars_22 : decode cX8_putVars 22 = .ok (.aload_n 0, 1) := by decide +kernel
theorem dX8_putVars_23 : decode cX8_putVars 23 = .ok (.getfield 36, 3) := by decide +kernel
theorem dX8_putVars_26 : decode cX8_putVars 26 = .ok (.bipush 14, 2) := by decide +kernel
theorem dX8_putVars_28 : decode cX8_putVars 28 = .ok (.aload_n 0, 1) := by decide +kernel
theorem dX8_putVars_29 : decode cX8_putVars 29 = .ok (.aload_n 1, 1) := by decide +kernel
theorem dX8_putVars_30 : decode cX8_putVars 30 = .ok (.iload_n 2, 1) := by decide +kernel
theorem dX8_putVars_31 : decode cX8_putVars 31 = .ok (.invokevirtual 96, 3) := by decide +kernel
theorem dX8_putVars_34 : decode cX8_putVars 34 = .ok (.invokevirtual 76, 3) := by decide +kernel
theorem dX8_putVars_37 : decode cX8_putVars 37 = .ok (.aload_n 0, 1) := by decide +kernel
theorem dX8_putVars_38 : decode cX8_putVars 38 = .ok (.getfield 36, 3) := by decide +kernel
theorem dX8_putVars_41 : decode cX8_putVars 41 = .ok (.bipush 15, 2) := by decide +kernel
theorem dX8_putVars_43 : decode cX8_putVars 43 = .ok (.aload_n 0, 1) := by decide +kernel
theorem dX8_putVars_44 : decode cX8_putVars 44 = .ok (.getfield 15, 3) := by decide +kernel
theorem dX8_putVars_47 : decode cX8_putVars 47 = .ok (.iload_n 2, 1) := by decide +kernel
theorem dX8_putVars_48 : decode cX8_putVars 48 = .ok (.iaload, 1) := by decide +kernel
theorem dX8_putVars_49 : decode cX8_putVars 49 = .ok (.invokevirtual 76, 3) := by decide +kernel
theorem dX8_putVars_52 : decode cX8_putVars 52 = .ok (.aload_n 0, 1) := by decide +kernel
theorem dX8_putVars_53 : decode cX8_putVars 53 = .ok (.getfield 36, 3) := by decide +kernel
theorem dX8_putVars_56 : decode cX8_putVars 56 = .ok (.bipush 16, 2) := by decide +kernel
theorem dX8_putVars_58 : decode cX8_putVars 58 = .ok (.aload_n 0, 1) := by decide +kernel
theorem dX8_putVars_59 : decode cX8_putVars 59 = .ok (.getfield 9, 3) := by decide +kernel
theorem dX8_putVars_62 : decode cX8_putVars 62 = .ok (.iload_n 2, 1) := by decide +kernel
theorem dX8_putVars_63 : decode cX8_putVars 63 = .ok (.iaload, 1) := by decide +kernel
theorem dX8_putVars_64 : decode cX8_putVars 64 = .ok (.invokevirtual 76, 3) := by decide +kernel
theorem dX8_putVars_67 : decode cX8_putVars 67 = .ok (.return_, 1) := by decide +kernel
theorem b_X8_putVars (mm : MM) (Q : Value → MM → Prop) (t0 : Nat) (a1 : Nat) (a2 : Int32) (h0 : AtTown t0) (h1 : AtState a1) (h : ∃ Pm1 : Value → MM → Prop, Runs e_X1_wipeVars [.ref (t0 + 8)] mm Pm1 ∧ ∀ m1, Pm1 .null m1 → (vp_in a2 16 ∧ (∃ Pm2 : Value → MM → Prop, Runs e_X1_put [.ref (t0 + 8), .int (13 : Int32), .int (m1.1 (a1 + 1) a2.toNatClampNeg)] m1 Pm2 ∧ ∀ m2, Pm2 .null m2 → (o_X8_rankOf m2 t0 a1 a2 ∧ (∃ Pm3 : Value → MM → Prop, Runs e_X1_put [.ref (t0 + 8), .int (14 : Int32), .int (v_X8_rankOf m2 t0 a1 a2)] m2 Pm3 ∧ ∀ m3, Pm3 .null m3 → (vp_in a2 16 ∧ (∃ Pm4 : Value → MM → Prop, Runs e_X1_put [.ref (t0 + 8), .int (15 : Int32), .int (m3.1 (t0 + 2) a2.toNatClampNeg)] m3 Pm4 ∧ ∀ m4, Pm4 .null m4 → (vp_in a2 16 ∧ (∃ Pm5 : Value → MM → Prop, Runs e_X1_put [.ref (t0 + 8), .int (16 : Int32), .int (m4.1 (t0 + 1) a2.toNatClampNeg)] m4 Pm5 ∧ ∀ m5, Pm5 .null m5 → (Q .null m5)))))))))) : Runs e_X8_putVars [.ref t0, .ref a1, .int a2] mm Q := by
  refine runs_of_G (L := [(0, .ref t0), (1, .ref a1), (2, .int a2)]) pl_X8 (Nat.le_of_ble_eq_true rfl) rfl ?_
  refine g_aload_n (pc := 0) (x := t0) dX8_putVars_0 rfl ?_
  refine g_getR (pc := 1) (dd := 8) dX8_putVars_1 fo_X8_36 (AtTown_0 h0) rfl ?_
  obtain ⟨Pm1, hRm1, h⟩ := h
  refine g_callV (pc := 4) (as := []) dX8_putVars_4 cw_X8_73 (by decide) rfl rfl (AtLaws_0 (AtTown.laws h0)) (Nat.le_of_ble_eq_true rfl) hRm1 ?_
  intro r_ m1 hz_ hp_
  obtain rfl := hz_
  have h := h m1 hp_
  refine g_aload_n (pc := 7) (x := t0) dX8_putVars_7 rfl ?_
  refine g_getR (pc := 8) (dd := 8) dX8_putVars_8 fo_X8_36 (AtTown_0 h0) rfl ?_
  refine g_bipush (pc := 11) (v := (13 : Int32)) dX8_putVars_11 (by decide) ?_
  refine g_aload_n (pc := 13) (x := a1) dX8_putVars_13 rfl ?_
  refine g_getR (pc := 14) (dd := 1) dX8_putVars_14 fo_X8_127 (AtState_0 h1) rfl ?_
  refine g_iload_n (pc := 17) (x := a2) dX8_putVars_17 rfl ?_
  refine g_iaload (pc := 18) dX8_putVars_18 (AtState_1 h1) h.1 ?_
  have h := h.2
  obtain ⟨Pm2, hRm2, h⟩ := h
  refine g_callV (pc := 19) (as := [.int (13 : Int32), .int (m1.1 (a1 + 1) a2.toNatClampNeg)]) dX8_putVars_19 cw_X8_76 (by decide) rfl rfl (AtLaws_0 (AtTown.laws h0)) (Nat.le_of_ble_eq_true rfl) hRm2 ?_
  intro r_ m2 hz_ hp_
  obtain rfl := hz_
  have h := h m2 hp_
  refine g_aload_n (pc := 22) (x := t0) dX8_putVars_22 rfl ?_
  refine g_getR (pc := 23) (dd := 8) dX8_putVars_23 fo_X8_36 (AtTown_0 h0) rfl ?_
  refine g_bipush (pc := 26) (v := (14 : Int32)) dX8_putVars_26 (by decide) ?_
  refine g_aload_n (pc := 28) (x := t0) dX8_putVars_28 rfl ?_
  refine g_aload_n (pc := 29) (x := a1) dX8_putVars_29 rfl ?_
  refine g_iload_n (pc := 30) (x := a2) dX8_putVars_30 rfl ?_
  refine g_callV (pc := 31) (as := [.ref a1, .int a2]) dX8_putVars_31 cw_X8_96 (by decide) rfl rfl (AtTown_0 h0) (Nat.le_of_ble_eq_true rfl) (rv_X8_rankOf m2 t0 a1 a2 h0 h1 h.1) ?_
  have h := h.2
  rintro r_ m_ hz_ ⟨rfl, rfl⟩
  obtain ⟨Pm3, hRm3, h⟩ := h
  refine g_callV (pc := 34) (as := [.int (14 : Int32), .int (v_X8_rankOf m2 t0 a1 a2)]) dX8_putVars_34 cw_X8_76 (by decide) rfl rfl (AtLaws_0 (AtTown.laws h0)) (Nat.le_of_ble_eq_true rfl) hRm3 ?_
  intro r_ m3 hz_ hp_
  obtain rfl := hz_
  have h := h m3 hp_
  refine g_aload_n (pc := 37) (x := t0) dX8_putVars_37 rfl ?_
  refine g_getR (pc := 38) (dd := 8) dX8_putVars_38 fo_X8_36 (AtTown_0 h0) rfl ?_
  refine g_bipush (pc := 41) (v := (15 : Int32)) dX8_putVars_41 (by decide) ?_
  refine g_aload_n (pc := 43) (x := t0) dX8_putVars_43 rfl ?_
  refine g_getR (pc := 44) (dd := 2) dX8_putVars_44 fo_X8_15 (AtTown_0 h0) rfl ?_
  refine g_iload_n (pc := 47) (x := a2) dX8_putVars_47 rfl ?_
  refine g_iaload (pc := 48) dX8_putVars_48 (AtTown_2 h0) h.1 ?_
  have h := h.2
  obtain ⟨Pm4, hRm4, h⟩ := h
  refine g_callV (pc := 49) (as := [.int (15 : Int32), .int (m3.1 (t0 + 2) a2.toNatClampNeg)]) dX8_putVars_49 cw_X8_76 (by decide) rfl rfl (AtLaws_0 (AtTown.laws h0)) (Nat.le_of_ble_eq_true rfl) hRm4 ?_
  intro r_ m4 hz_ hp_
  obtain rfl := hz_
  have h := h m4 hp_
  refine g_aload_n (pc := 52) (x := t0) dX8_putVars_52 rfl ?_
  refine g_getR (pc := 53) (dd := 8) dX8_putVars_53 fo_X8_36 (AtTown_0 h0) rfl ?_
  refine g_bipush (pc := 56) (v := (16 : Int32)) dX8_putVars_56 (by decide) ?_
  refine g_aload_n (pc := 58) (x := t0) dX8_putVars_58 rfl ?_
  refine g_getR (pc := 59) (dd := 1) dX8_putVars_59 fo_X8_9 (AtTown_0 h0) rfl ?_
  refine g_iload_n (pc := 62) (x := a2) dX8_putVars_62 rfl ?_
  refine g_iaload (pc := 63) dX8_putVars_63 (AtTown_1 h0) h.1 ?_
  have h := h.2
  obtain ⟨Pm5, hRm5, h⟩ := h
  refine g_callV (pc := 64) (as := [.int (16 : Int32), .int (m4.1 (t0 + 1) a2.toNatClampNeg)]) dX8_putVars_64 cw_X8_76 (by decide) rfl rfl (AtLaws_0 (AtTown.laws h0)) (Nat.le_of_ble_eq_true rfl) hRm5 ?_
  intro r_ m5 hz_ hp_
  obtain rfl := hz_
  have h := h m5 hp_
  exact g_vret (pc := 67) dX8_putVars_67 rfl rfl h
theorem dX8_untrueBits_0 : decode cX8_untrueBits 0 = .ok (.iconst 0, 1) := by decide +kernel
theorem dX8_untrueBits_1 : decode cX8_untrueBits 1 = .ok (.istore_n 2, 1) := by decide +kernel
theorem dX8_untrueBits_2 : decode cX8_untrueBits 2 = .ok (.iconst 0, 1) := by decide +kernel
theorem dX8_untrueBits_3 : decode cX8_untrueBits 3 = .ok (.istore_n 3, 1) := by decide +kernel
theorem dX8_untrueBits_4 : decode cX8_untrueBits 4 = .ok (.iload_n 3, 1) := by decide +kernel
theorem dX8_untrueBits_5 : decode cX8_untrueBits 5 = .ok (.aload_n 0, 1) := by decide +kernel
theorem dX8_untrueBits_6 : decode cX8_untrueBits 6 = .ok (.getfield 40, 3) := by decide +kernel
theorem dX8_untrueBits_9 : decode cX8_untrueBits 9 = .ok (.if_icmp .ge 30, 3) := by decide +kernel
theorem dX8_untrueBits_12 : decode cX8_untrueBits 12 = .ok (.aload_n 1, 1) := by decide +kernel
theorem dX8_untrueBits_13 : decode cX8_untrueBits 13 = .ok (.getfield 127, 3) := by decide +kernel
theorem dX8_untrueBits_16 : decode cX8_untrueBits 16 = .ok (.iload_n 3, 1) := by decide +kernel
theorem dX8_untrueBits_17 : decode cX8_untrueBits 17 = .ok (.iaload, 1) := by decide +kernel
theorem dX8_untrueBits_18 : decode cX8_untrueBits 18 = .ok (.aload_n 0, 1) := by decide +kernel
theorem dX8_untrueBits_19 : decode cX8_untrueBits 19 = .ok (.aload_n 1, 1) := by decide +kernel
theorem dX8_untrueBits_20 : decode cX8_untrueBits 20 = .ok (.iload_n 3, 1) := by decide +kernel
theorem dX8_untrueBits_21 : decode cX8_untrueBits 21 = .ok (.invokevirtual 130, 3) := by decide +kernel
theorem dX8_untrueBits_24 : decode cX8_untrueBits 24 = .ok (.if_icmp .eq 9, 3) := by decide +kernel
theorem dX8_untrueBits_27 : decode cX8_untrueBits 27 = .ok (.iload_n 2, 1) := by decide +kernel
theorem dX8_untrueBits_28 : decode cX8_untrueBits 28 = .ok (.iconst 1, 1) := by decide +kernel
theorem dX8_untrueBits_29 : decode cX8_untrueBits 29 = .ok (.iload_n 3, 1) := by decide +kernel
theorem dX8_untrueBits_30 : decode cX8_untrueBits 30 = .ok (.ishl, 1) := by decide +kernel
theorem dX8_untrueBits_31 : decode cX8_untrueBits 31 = .ok (.ior, 1) := by decide +kernel
theorem dX8_untrueBits_32 : decode cX8_untrueBits 32 = .ok (.istore_n 2, 1) := by decide +kernel
theorem dX8_untrueBits_33 : decode cX8_untrueBits 33 = .ok (.iinc 3 1, 3) := by decide +kernel
theorem dX8_untrueBits_36 : decode cX8_untrueBits 36 = .ok (.goto (-32), 3) := by decide +kernel
theorem dX8_untrueBits_39 : decode cX8_untrueBits 39 = .ok (.iload_n 2, 1) := by decide +kernel
theorem dX8_untrueBits_40 : decode cX8_untrueBits 40 = .ok (.ireturn, 1) := by decide +kernel
theorem b_X8_untrueBits (mm : MM) (Q : Value → MM → Prop) (t0 : Nat) (a1 : Nat) (h0 : AtTown t0) (h1 : AtState a1) (h : G e_X8_untrueBits 4 [(0, .ref t0), (1, .ref a1), (2, .int (0 : Int32)), (3, .int (0 : Int32))] [] mm Q) : Runs e_X8_untrueBits [.ref t0, .ref a1] mm Q := by
  refine runs_of_G (L := [(0, .ref t0), (1, .ref a1)]) pl_X8 (Nat.le_of_ble_eq_true rfl) rfl ?_
  refine g_iconst (pc := 0) (v := (0 : Int32)) dX8_untrueBits_0 (by decide) ?_
  refine g_istore_n (pc := 1) (L' := [(0, .ref t0), (1, .ref a1), (2, .int (0 : Int32))]) dX8_untrueBits_1 (Nat.le_of_ble_eq_true rfl) rfl ?_
  refine g_iconst (pc := 2) (v := (0 : Int32)) dX8_untrueBits_2 (by decide) ?_
  refine g_istore_n (pc := 3) (L' := [(0, .ref t0), (1, .ref a1), (2, .int (0 : Int32)), (3, .int (0 : Int32))]) dX8_untrueBits_3 (Nat.le_of_ble_eq_true rfl) rfl ?_
  exact h
theorem b_X8_untrueBits_4 (mm : MM) (Q : Value → MM → Prop) (l0 : Nat) (l1 : Nat) (l2 : Int32) (l3 : Int32) (k0 : AtTown l0) (k1 : AtState l1) (h : ((mm.1 l0 8) ≤ l3 → (Q (.int l2) mm)) ∧ (¬ (mm.1 l0 8) ≤ l3 → (vp_in l3 16 ∧ (∃ Pm1 : Value → MM → Prop, Runs e_X8_dueOf [.ref l0, .ref l1, .int l3] mm Pm1 ∧ ∀ (r1 : Int32) (m1 : MM), Pm1 (.int r1) m1 → (((mm.1 (l1 + 1) l3.toNatClampNeg) = r1 → (G e_X8_untrueBits 4 [(0, .ref l0), (1, .ref l1), (2, .int l2), (3, .int (l3 + (1 : Int32)))] [] m1 Q)) ∧ (¬ (mm.1 (l1 + 1) l3.toNatClampNeg) = r1 → (G e_X8_untrueBits 4 [(0, .ref l0), (1, .ref l1), (2, .int (l2 ||| ((1 : Int32) <<< (l3 &&& 31)))), (3, .int (l3 + (1 : Int32)))] [] m1 Q))))))) : G e_X8_untrueBits 4 [(0, .ref l0), (1, .ref l1), (2, .int l2), (3, .int l3)] [] mm Q := by
  refine g_iload_n (pc := 4) (x := l3) dX8_untrueBits_4 rfl ?_
  refine g_aload_n (pc := 5) (x := l0) dX8_untrueBits_5 rfl ?_
  refine g_getI (pc := 6) dX8_untrueBits_6 fo_X8_40 (AtTown_0 k0) rfl ?_
  refine g_icmp_ge (pc := 9) (tgt := 39) dX8_untrueBits_9 (by decide) (fun c9 => ?_) (fun c9 => ?_)
  · have h := h.1 c9
    refine g_iload_n (pc := 39) (x := l2) dX8_untrueBits_39 rfl ?_
    exact g_iret (pc := 40) dX8_untrueBits_40 rfl rfl rfl h
  · have h := h.2 c9
    refine g_aload_n (pc := 12) (x := l1) dX8_untrueBits_12 rfl ?_
    refine g_getR (pc := 13) (dd := 1) dX8_untrueBits_13 fo_X8_127 (AtState_0 k1) rfl ?_
    refine g_iload_n (pc := 16) (x := l3) dX8_untrueBits_16 rfl ?_
    refine g_iaload (pc := 17) dX8_untrueBits_17 (AtState_1 k1) h.1 ?_
    have h := h.2
    refine g_aload_n (pc := 18) (x := l0) dX8_untrueBits_18 rfl ?_
    refine g_aload_n (pc := 19) (x := l1) dX8_untrueBits_19 rfl ?_
    refine g_iload_n (pc := 20) (x := l3) dX8_untrueBits_20 rfl ?_
    obtain ⟨Pm1, hRm1, h⟩ := h
    refine g_callV (pc := 21) (as := [.ref l1, .int l3]) dX8_untrueBits_21 cw_X8_130 (by decide) rfl rfl (AtTown_0 k0) (Nat.le_of_ble_eq_true rfl) hRm1 ?_
    intro r_ m1 hz_ hp_
    obtain ⟨r1, rfl⟩ := hz_
    have h := h r1 m1 hp_
    refine g_icmp_eq (pc := 24) (tgt := 33) dX8_untrueBits_24 (by decide) (fun c24 => ?_) (fun c24 => ?_)
    · have h := h.1 c24
      refine g_iinc (pc := 33) (x := l3) (v := (l3 + (1 : Int32))) (L' := [(0, .ref l0), (1, .ref l1), (2, .int l2), (3, .int (l3 + (1 : Int32)))]) dX8_untrueBits_33 rfl rfl (Nat.le_of_ble_eq_true rfl) rfl ?_
      refine g_goto (pc := 36) (tgt := 4) dX8_untrueBits_36 (by decide) ?_
      exact h
    · have h := h.2 c24
      refine g_iload_n (pc := 27) (x := l2) dX8_untrueBits_27 rfl ?_
      refine g_iconst (pc := 28) (v := (1 : Int32)) dX8_untrueBits_28 (by decide) ?_
      refine g_iload_n (pc := 29) (x := l3) dX8_untrueBits_29 rfl ?_
      refine g_ishl (pc := 30) dX8_untrueBits_30 ?_
      refine g_ior (pc := 31) dX8_untrueBits_31 ?_
      refine g_istore_n (pc := 32) (L' := [(0, .ref l0), (1, .ref l1), (2, .int (l2 ||| ((1 : Int32) <<< (l3 &&& 31)))), (3, .int l3)]) dX8_untrueBits_32 (Nat.le_of_ble_eq_true rfl) rfl ?_
      refine g_iinc (pc := 33) (x := l3) (v := (l3 + (1 : Int32))) (L' := [(0, .ref l0), (1, .ref l1), (2, .int (l2 ||| ((1 : Int32) <<< (l3 &&& 31)))), (3, .int (l3 + (1 : Int32)))]) dX8_untrueBits_33 rfl rfl (Nat.le_of_ble_eq_true rfl) rfl ?_
      refine g_goto (pc := 36) (tgt := 4) dX8_untrueBits_36 (by decide) ?_
      exact h
theorem dX8_badBits_0 : decode cX8_badBits 0 = .ok (.iconst 0, 1) := by decide +kernel
theorem dX8_badBits_1 : decode cX8_badBits 1 = .ok (.istore_n 2, 1) := by decide +kernel
theorem dX8_badBits_2 : decode cX8_badBits 2 = .ok (.iconst 0, 1) := by decide +kernel
theorem dX8_badBits_3 : decode cX8_badBits 3 = .ok (.istore_n 3, 1) := by decide +kernel
theorem dX8_badBits_4 : decode cX8_badBits 4 = .ok (.iload_n 3, 1) := by decide +kernel
theorem dX8_badBits_5 : decode cX8_badBits 5 = .ok (.aload_n 0, 1) := by decide +kernel
theorem dX8_badBits_6 : decode cX8_badBits 6 = .ok (.getfield 40, 3) := by decide +kernel
theorem dX8_badBits_9 : decode cX8_badBits 9 = .ok (.if_icmp .ge 24, 3) := by decide +kernel
theorem dX8_badBits_12 : decode cX8_badBits 12 = .ok (.aload_n 0, 1) := by decide +kernel
theorem dX8_badBits_13 : decode cX8_badBits 13 = .ok (.aload_n 1, 1) := by decide +kernel
theorem dX8_badBits_14 : decode cX8_badBits 14 = .ok (.iload_n 3, 1) := by decide +kernel
theorem dX8_badBits_15 : decode cX8_badBits 15 = .ok (.invokevirtual 133, 3) := by decide +kernel
theorem dX8_badBits_18 : decode cX8_badBits 18 = .ok (.ifCond .eq 9, 3) := by decide +kernel
theorem dX8_badBits_21 : decode cX8_badBits 21 = .ok (.iload_n 2, 1) := by decide +kernel
theorem dX8_badBits_22 : decode cX8_badBits 22 = .ok (.iconst 1, 1) := by decide +kernel
theorem dX8_badBits_23 : decode cX8_badBits 23 = .ok (.iload_n 3, 1) := by decide +kernel
theorem dX8_badBits_24 : decode cX8_badBits 24 = .ok (.ishl, 1) := by decide +kernel
theorem dX8_badBits_25 : decode cX8_badBits 25 = .ok (.ior, 1) := by decide +kernel
theorem dX8_badBits_26 : decode cX8_badBits 26 = .ok (.istore_n 2, 1) := by decide +kernel
theorem dX8_badBits_27 : decode cX8_badBits 27 = .ok (.iinc 3 1, 3) := by decide +kernel
theorem dX8_badBits_30 : decode cX8_badBits 30 = .ok (.goto (-26), 3) := by decide +kernel
theorem dX8_badBits_33 : decode cX8_badBits 33 = .ok (.iload_n 2, 1) := by decide +kernel
theorem dX8_badBits_34 : decode cX8_badBits 34 = .ok (.ireturn, 1) := by decide +kernel
theorem b_X8_badBits (mm : MM) (Q : Value → MM → Prop) (t0 : Nat) (a1 : Nat) (h0 : AtTown t0) (h1 : AtState a1) (h : G e_X8_badBits 4 [(0, .ref t0), (1, .ref a1), (2, .int (0 : Int32)), (3, .int (0 : Int32))] [] mm Q) : Runs e_X8_badBits [.ref t0, .ref a1] mm Q := by
  refine runs_of_G (L := [(0, .ref t0), (1, .ref a1)]) pl_X8 (Nat.le_of_ble_eq_true rfl) rfl ?_
  refine g_iconst (pc := 0) (v := (0 : Int32)) dX8_badBits_0 (by decide) ?_
  refine g_istore_n (pc := 1) (L' := [(0, .ref t0), (1, .ref a1), (2, .int (0 : Int32))]) dX8_badBits_1 (Nat.le_of_ble_eq_true rfl) rfl ?_
  refine g_iconst (pc := 2) (v := (0 : Int32)) dX8_badBits_2 (by decide) ?_
  refine g_istore_n (pc := 3) (L' := [(0, .ref t0), (1, .ref a1), (2, .int (0 : Int32)), (3, .int (0 : Int32))]) dX8_badBits_3 (Nat.le_of_ble_eq_true rfl) rfl ?_
  exact h
theorem b_X8_badBits_4 (mm : MM) (Q : Value → MM → Prop) (l0 : Nat) (l1 : Nat) (l2 : Int32) (l3 : Int32) (k0 : AtTown l0) (k1 : AtState l1) (h : ((mm.1 l0 8) ≤ l3 → (Q (.int l2) mm)) ∧ (¬ (mm.1 l0 8) ≤ l3 → (∃ Pm1 : Value → MM → Prop, Runs e_X8_isBad [.ref l0, .ref l1, .int l3] mm Pm1 ∧ (∀ r m1, Pm1 r m1 → r = .int 1 ∨ r = .int 0) ∧ (∀ m1, Pm1 (.int 1) m1 → (G e_X8_badBits 4 [(0, .ref l0), (1, .ref l1), (2, .int (l2 ||| ((1 : Int32) <<< (l3 &&& 31)))), (3, .int (l3 + (1 : Int32)))] [] m1 Q)) ∧ (∀ m1, Pm1 (.int 0) m1 → (G e_X8_badBits 4 [(0, .ref l0), (1, .ref l1), (2, .int l2), (3, .int (l3 + (1 : Int32)))] [] m1 Q))))) : G e_X8_badBits 4 [(0, .ref l0), (1, .ref l1), (2, .int l2), (3, .int l3)] [] mm Q := by
  refine g_iload_n (pc := 4) (x := l3) dX8_badBits_4 rfl ?_
  refine g_aload_n (pc := 5) (x := l0) dX8_badBits_5 rfl ?_
  refine g_getI (pc := 6) dX8_badBits_6 fo_X8_40 (AtTown_0 k0) rfl ?_
  refine g_icmp_ge (pc := 9) (tgt := 33) dX8_badBits_9 (by decide) (fun c9 => ?_) (fun c9 => ?_)
  · have h := h.1 c9
    refine g_iload_n (pc := 33) (x := l2) dX8_badBits_33 rfl ?_
    exact g_iret (pc := 34) dX8_badBits_34 rfl rfl rfl h
  · have h := h.2 c9
    refine g_aload_n (pc := 12) (x := l0) dX8_badBits_12 rfl ?_
    refine g_aload_n (pc := 13) (x := l1) dX8_badBits_13 rfl ?_
    refine g_iload_n (pc := 14) (x := l3) dX8_badBits_14 rfl ?_
    obtain ⟨Pm1, hRm1, h⟩ := h
    refine g_callV (pc := 15) (as := [.ref l1, .int l3]) dX8_badBits_15 cw_X8_133 (by decide) rfl rfl (AtTown_0 k0) (Nat.le_of_ble_eq_true rfl) hRm1 ?_
    intro r_ m1 hz_ hp_
    rcases h.1 r_ m1 hp_ with rfl | rfl
    · have h := h.2.1 m1 hp_
      refine g_if_eq (pc := 18) (tgt := 27) dX8_badBits_18 (by decide) (fun c18 => absurd c18 (by decide)) (fun _ => ?_)
      refine g_iload_n (pc := 21) (x := l2) dX8_badBits_21 rfl ?_
      refine g_iconst (pc := 22) (v := (1 : Int32)) dX8_badBits_22 (by decide) ?_
      refine g_iload_n (pc := 23) (x := l3) dX8_badBits_23 rfl ?_
      refine g_ishl (pc := 24) dX8_badBits_24 ?_
      refine g_ior (pc := 25) dX8_badBits_25 ?_
      refine g_istore_n (pc := 26) (L' := [(0, .ref l0), (1, .ref l1), (2, .int (l2 ||| ((1 : Int32) <<< (l3 &&& 31)))), (3, .int l3)]) dX8_badBits_26 (Nat.le_of_ble_eq_true rfl) rfl ?_
      refine g_iinc (pc := 27) (x := l3) (v := (l3 + (1 : Int32))) (L' := [(0, .ref l0), (1, .ref l1), (2, .int (l2 ||| ((1 : Int32) <<< (l3 &&& 31)))), (3, .int (l3 + (1 : Int32)))]) dX8_badBits_27 rfl rfl (Nat.le_of_ble_eq_true rfl) rfl ?_
      refine g_goto (pc := 30) (tgt := 4) dX8_badBits_30 (by decide) ?_
      exact h
    · have h := h.2.2 m1 hp_
      refine g_if_eq (pc := 18) (tgt := 27) dX8_badBits_18 (by decide) (fun _ => ?_) (fun c18 => absurd c18 (by decide))
      refine g_iinc (pc := 27) (x := l3) (v := (l3 + (1 : Int32))) (L' := [(0, .ref l0), (1, .ref l1), (2, .int l2), (3, .int (l3 + (1 : Int32)))]) dX8_badBits_27 rfl rfl (Nat.le_of_ble_eq_true rfl) rfl ?_
      refine g_goto (pc := 30) (tgt := 4) dX8_badBits_30 (by decide) ?_
      exact h
theorem dX8_turnedPairs_0 : decode cX8_turnedPairs 0 = .ok (.iconst 0, 1) := by decide +kernel
theorem dX8_turnedPairs_1 : decode cX8_turnedPairs 1 = .ok (.istore_n 2, 1) := by decide +kernel
theorem dX8_turnedPairs_2 : decode cX8_turnedPairs 2 = .ok (.iconst 0, 1) := by decide +kernel
theorem dX8_turnedPairs_3 : decode cX8_turnedPairs 3 = .ok (.istore_n 3, 1) := by decide +kernel
theorem dX8_turnedPairs_4 : decode cX8_turnedPairs 4 = .ok (.iload_n 3, 1) := by decide +kernel
theorem dX8_turnedPairs_5 : decode cX8_turnedPairs 5 = .ok (.aload_n 0, 1) := by decide +kernel
theorem dX8_turnedPairs_6 : decode cX8_turnedPairs 6 = .ok (.getfield 40, 3) := by decide +kernel
theorem dX8_turnedPairs_9 : decode cX8_turnedPairs 9 = .ok (.if_icmp .ge 62, 3) := by decide +kernel
theorem dX8_turnedPairs_12 : decode cX8_turnedPairs 12 = .ok (.iconst 0, 1) := by decide +kernel
theorem dX8_turnedPairs_13 : decode cX8_turnedPairs 13 = .ok (.istore 4, 2) := by decide +kernel
theorem dX8_turnedPairs_15 : decode cX8_turnedPairs 15 = .ok (.iload 4, 2) := by decide +kernel
theorem dX8_turnedPairs_17 : decode cX8_turnedPairs 17 = .ok (.aload_n 0, 1) := by decide +kernel
theorem dX8_turnedPairs_18 : decode cX8_turnedPairs 18 = .ok (.getfield 40, 3) := by decide +kernel
theorem dX8_turnedPairs_21 : decode cX8_turnedPairs 21 = .ok (.if_icmp .ge 44, 3) := by decide +kernel
theorem dX8_turnedPairs_24 : decode cX8_turnedPairs 24 = .ok (.aload_n 0, 1) := by decide +kernel
theorem dX8_turnedPairs_25 : decode cX8_turnedPairs 25 = .ok (.aload_n 1, 1) := by decide +kernel
theorem dX8_turnedPairs_26 : decode cX8_turnedPairs 26 = .ok (.iload_n 3, 1) := by decide +kernel
theorem dX8_turnedPairs_27 : decode cX8_turnedPairs 27 = .ok (.invokevirtual 96, 3) := by decide +kernel
theorem dX8_turnedPairs_30 : decode cX8_turnedPairs 30 = .ok (.aload_n 0, 1) := by decide +kernel
theorem dX8_turnedPairs_31 : decode cX8_turnedPairs 31 = .ok (.aload_n 1, 1) := by decide +kernel
theorem dX8_turnedPairs_32 : decode cX8_turnedPairs 32 = .ok (.iload 4, 2) := by decide +kernel
theorem dX8_turnedPairs_34 : decode cX8_turnedPairs 34 = .ok (.invokevirtual 96, 3) := by decide +kernel
theorem dX8_turnedPairs_37 : decode cX8_turnedPairs 37 = .ok (.if_icmp .le 22, 3) := by decide +kernel
theorem dX8_turnedPairs_40 : decode cX8_turnedPairs 40 = .ok (.aload_n 1, 1) := by decide +kernel
theorem dX8_turnedPairs_41 : decode cX8_turnedPairs 41 = .ok (.getfield 127, 3) := by decide +kernel
theorem dX8_turnedPairs_44 : decode cX8_turnedPairs 44 = .ok (.iload_n 3, 1) := by decide +kernel
theorem dX8_turnedPairs_45 : decode cX8_turnedPairs 45 = .ok (.iaload, 1) := by decide +kernel
theorem dX8_turnedPairs_46 : decode cX8_turnedPairs 46 = .ok (.aload_n 1, 1) := by decide +kernel
theorem dX8_turnedPairs_47 : decode cX8_turnedPairs 47 = .ok (.getfield 127, 3) := by decide +kernel
theorem dX8_turnedPairs_50 : decode cX8_turnedPairs 50 = .ok (.iload 4, 2) := by decide +kernel
theorem dX8_turnedPairs_52 : decode cX8_turnedPairs 52 = .ok (.iaload, 1) := by decide +kernel
theorem dX8_turnedPairs_53 : decode cX8_turnedPairs 53 = .ok (.if_icmp .gt 6, 3) := by decide +kernel
theorem dX8_turnedPairs_56 : decode cX8_turnedPairs 56 = .ok (.iinc 2 1, 3) := by decide +kernel
theorem dX8_turnedPairs_59 : decode cX8_turnedPairs 59 = .ok (.iinc 4 1, 3) := by decide +kernel
theorem dX8_turnedPairs_62 : decode cX8_turnedPairs 62 = .ok (.goto (-47), 3) := by decide +kernel
theorem dX8_turnedPairs_65 : decode cX8_turnedPairs 65 = .ok (.iinc 3 1, 3) := by decide +kernel
theorem dX8_turnedPairs_68 : decode cX8_turnedPairs 68 = .ok (.goto (-64), 3) := by decide +kernel
theorem dX8_turnedPairs_71 : decode cX8_turnedPairs 71 = .ok (.iload_n 2, 1) := by decide +kernel
theorem dX8_turnedPairs_72 : decode cX8_turnedPairs 72 = .ok (.ireturn, 1) := by decide +kernel
theorem b_X8_turnedPairs (mm : MM) (Q : Value → MM → Prop) (t0 : Nat) (a1 : Nat) (h0 : AtTown t0) (h1 : AtState a1) (h : G e_X8_turnedPairs 4 [(0, .ref t0), (1, .ref a1), (2, .int (0 : Int32)), (3, .int (0 : Int32))] [] mm Q) : Runs e_X8_turnedPairs [.ref t0, .ref a1] mm Q := by
  refine runs_of_G (L := [(0, .ref t0), (1, .ref a1)]) pl_X8 (Nat.le_of_ble_eq_true rfl) rfl ?_
  refine g_iconst (pc := 0) (v := (0 : Int32)) dX8_turnedPairs_0 (by decide) ?_
  refine g_istore_n (pc := 1) (L' := [(0, .ref t0), (1, .ref a1), (2, .int (0 : Int32))]) dX8_turnedPairs_1 (Nat.le_of_ble_eq_true rfl) rfl ?_
  refine g_iconst (pc := 2) (v := (0 : Int32)) dX8_turnedPairs_2 (by decide) ?_
  refine g_istore_n (pc := 3) (L' := [(0, .ref t0), (1, .ref a1), (2, .int (0 : Int32)), (3, .int (0 : Int32))]) dX8_turnedPairs_3 (Nat.le_of_ble_eq_true rfl) rfl ?_
  exact h
theorem b_X8_turnedPairs_4 (mm : MM) (Q : Value → MM → Prop) (l0 : Nat) (l1 : Nat) (l2 : Int32) (l3 : Int32) (k0 : AtTown l0) (k1 : AtState l1) (h : ((mm.1 l0 8) ≤ l3 → (Q (.int l2) mm)) ∧ (¬ (mm.1 l0 8) ≤ l3 → (G e_X8_turnedPairs 15 [(0, .ref l0), (1, .ref l1), (2, .int l2), (3, .int l3), (4, .int (0 : Int32))] [] mm Q))) : G e_X8_turnedPairs 4 [(0, .ref l0), (1, .ref l1), (2, .int l2), (3, .int l3)] [] mm Q := by
  refine g_iload_n (pc := 4) (x := l3) dX8_turnedPairs_4 rfl ?_
  refine g_aload_n (pc := 5) (x := l0) dX8_turnedPairs_5 rfl ?_
  refine g_getI (pc := 6) dX8_turnedPairs_6 fo_X8_40 (AtTown_0 k0) rfl ?_
  refine g_icmp_ge (pc := 9) (tgt := 71) dX8_turnedPairs_9 (by decide) (fun c9 => ?_) (fun c9 => ?_)
  · have h := h.1 c9
    refine g_iload_n (pc := 71) (x := l2) dX8_turnedPairs_71 rfl ?_
    exact g_iret (pc := 72) dX8_turnedPairs_72 rfl rfl rfl h
  · have h := h.2 c9
    refine g_iconst (pc := 12) (v := (0 : Int32)) dX8_turnedPairs_12 (by decide) ?_
    refine g_istore (pc := 13) (L' := [(0, .ref l0), (1, .ref l1), (2, .int l2), (3, .int l3), (4, .int (0 : Int32))]) dX8_turnedPairs_13 (Nat.le_of_ble_eq_true rfl) rfl ?_
    exact h
theorem b_X8_turnedPairs_15 (mm : MM) (Q : Value → MM → Prop) (l0 : Nat) (l1 : Nat) (l2 : Int32) (l3 : Int32) (l4 : Int32) (k0 : AtTown l0) (k1 : AtState l1) (h : ((mm.1 l0 8) ≤ l4 → (G e_X8_turnedPairs 4 [(0, .ref l0), (1, .ref l1), (2, .int l2), (3, .int (l3 + (1 : Int32)))] [] mm Q)) ∧ (¬ (mm.1 l0 8) ≤ l4 → (o_X8_rankOf mm l0 l1 l3 ∧ (o_X8_rankOf mm l0 l1 l4 ∧ (((v_X8_rankOf mm l0 l1 l3) ≤ (v_X8_rankOf mm l0 l1 l4) → (G e_X8_turnedPairs 15 [(0, .ref l0), (1, .ref l1), (2, .int l2), (3, .int l3), (4, .int (l4 + (1 : Int32)))] [] mm Q)) ∧ (¬ (v_X8_rankOf mm l0 l1 l3) ≤ (v_X8_rankOf mm l0 l1 l4) → (vp_in l3 16 ∧ (vp_in l4 16 ∧ (((mm.1 (l1 + 1) l4.toNatClampNeg) < (mm.1 (l1 + 1) l3.toNatClampNeg) → (G e_X8_turnedPairs 15 [(0, .ref l0), (1, .ref l1), (2, .int l2), (3, .int l3), (4, .int (l4 + (1 : Int32)))] [] mm Q)) ∧ (¬ (mm.1 (l1 + 1) l4.toNatClampNeg) < (mm.1 (l1 + 1) l3.toNatClampNeg) → (G e_X8_turnedPairs 15 [(0, .ref l0), (1, .ref l1), (2, .int (l2 + (1 : Int32))), (3, .int l3), (4, .int (l4 + (1 : Int32)))] [] mm Q))))))))))) : G e_X8_turnedPairs 15 [(0, .ref l0), (1, .ref l1), (2, .int l2), (3, .int l3), (4, .int l4)] [] mm Q := by
  refine g_iload (pc := 15) (x := l4) dX8_turnedPairs_15 rfl ?_
  refine g_aload_n (pc := 17) (x := l0) dX8_turnedPairs_17 rfl ?_
  refine g_getI (pc := 18) dX8_turnedPairs_18 fo_X8_40 (AtTown_0 k0) rfl ?_
  refine g_icmp_ge (pc := 21) (tgt := 65) dX8_turnedPairs_21 (by decide) (fun c21 => ?_) (fun c21 => ?_)
  · have h := h.1 c21
    refine g_iinc (pc := 65) (x := l3) (v := (l3 + (1 : Int32))) (L' := [(0, .ref l0), (1, .ref l1), (2, .int l2), (3, .int (l3 + (1 : Int32))), (4, .int l4)]) dX8_turnedPairs_65 rfl rfl (Nat.le_of_ble_eq_true rfl) rfl ?_
    refine g_goto (pc := 68) (tgt := 4) dX8_turnedPairs_68 (by decide) ?_
    refine g_sub (L' := [(0, .ref l0), (1, .ref l1), (2, .int l2), (3, .int (l3 + (1 : Int32)))]) [0, 1, 2, 3] rfl ?_
    exact h
  · have h := h.2 c21
    refine g_aload_n (pc := 24) (x := l0) dX8_turnedPairs_24 rfl ?_
    refine g_aload_n (pc := 25) (x := l1) dX8_turnedPairs_25 rfl ?_
    refine g_iload_n (pc := 26) (x := l3) dX8_turnedPairs_26 rfl ?_
    refine g_callV (pc := 27) (as := [.ref l1, .int l3]) dX8_turnedPairs_27 cw_X8_96 (by decide) rfl rfl (AtTown_0 k0) (Nat.le_of_ble_eq_true rfl) (rv_X8_rankOf mm l0 l1 l3 k0 k1 h.1) ?_
    have h := h.2
    rintro r_ m_ hz_ ⟨rfl, rfl⟩
    refine g_aload_n (pc := 30) (x := l0) dX8_turnedPairs_30 rfl ?_
    refine g_aload_n (pc := 31) (x := l1) dX8_turnedPairs_31 rfl ?_
    refine g_iload (pc := 32) (x := l4) dX8_turnedPairs_32 rfl ?_
    refine g_callV (pc := 34) (as := [.ref l1, .int l4]) dX8_turnedPairs_34 cw_X8_96 (by decide) rfl rfl (AtTown_0 k0) (Nat.le_of_ble_eq_true rfl) (rv_X8_rankOf mm l0 l1 l4 k0 k1 h.1) ?_
    have h := h.2
    rintro r_ m_ hz_ ⟨rfl, rfl⟩
    refine g_icmp_le (pc := 37) (tgt := 59) dX8_turnedPairs_37 (by decide) (fun c37 => ?_) (fun c37 => ?_)
    · have h := h.1 c37
      refine g_iinc (pc := 59) (x := l4) (v := (l4 + (1 : Int32))) (L' := [(0, .ref l0), (1, .ref l1), (2, .int l2), (3, .int l3), (4, .int (l4 + (1 : Int32)))]) dX8_turnedPairs_59 rfl rfl (Nat.le_of_ble_eq_true rfl) rfl ?_
      refine g_goto (pc := 62) (tgt := 15) dX8_turnedPairs_62 (by decide) ?_
      exact h
    · have h := h.2 c37
      refine g_aload_n (pc := 40) (x := l1) dX8_turnedPairs_40 rfl ?_
      refine g_getR (pc := 41) (dd := 1) dX8_turnedPairs_41 fo_X8_127 (AtState_0 k1) rfl ?_
      refine g_iload_n (pc := 44) (x := l3) dX8_turnedPairs_44 rfl ?_
      refine g_iaload (pc := 45) dX8_turnedPairs_45 (AtState_1 k1) h.1 ?_
      have h := h.2
      refine g_aload_n (pc := 46) (x := l1) dX8_turnedPairs_46 rfl ?_
      refine g_getR (pc := 47) (dd := 1) dX8_turnedPairs_47 fo_X8_127 (AtState_0 k1) rfl ?_
      refine g_iload (pc := 50) (x := l4) dX8_turnedPairs_50 rfl ?_
      refine g_iaload (pc := 52) dX8_turnedPairs_52 (AtState_1 k1) h.1 ?_
      have h := h.2
      refine g_icmp_gt (pc := 53) (tgt := 59) dX8_turnedPairs_53 (by decide) (fun c53 => ?_) (fun c53 => ?_)
      · have h := h.1 c53
        refine g_iinc (pc := 59) (x := l4) (v := (l4 + (1 : Int32))) (L' := [(0, .ref l0), (1, .ref l1), (2, .int l2), (3, .int l3), (4, .int (l4 + (1 : Int32)))]) dX8_turnedPairs_59 rfl rfl (Nat.le_of_ble_eq_true rfl) rfl ?_
        refine g_goto (pc := 62) (tgt := 15) dX8_turnedPairs_62 (by decide) ?_
        exact h
      · have h := h.2 c53
        refine g_iinc (pc := 56) (x := l2) (v := (l2 + (1 : Int32))) (L' := [(0, .ref l0), (1, .ref l1), (2, .int (l2 + (1 : Int32))), (3, .int l3), (4, .int l4)]) dX8_turnedPairs_56 rfl rfl (Nat.le_of_ble_eq_true rfl) rfl ?_
        refine g_iinc (pc := 59) (x := l4) (v := (l4 + (1 : Int32))) (L' := [(0, .ref l0), (1, .ref l1), (2, .int (l2 + (1 : Int32))), (3, .int l3), (4, .int (l4 + (1 : Int32)))]) dX8_turnedPairs_59 rfl rfl (Nat.le_of_ble_eq_true rfl) rfl ?_
        refine g_goto (pc := 62) (tgt := 15) dX8_turnedPairs_62 (by decide) ?_
        exact h
theorem dX8_wetBits_0 : decode cX8_wetBits 0 = .ok (.iconst 0, 1) := by decide +kernel
theorem dX8_wetBits_1 : decode cX8_wetBits 1 = .ok (.istore_n 3, 1) := by decide +kernel
theorem dX8_wetBits_2 : decode cX8_wetBits 2 = .ok (.iconst 0, 1) := by decide +kernel
theorem dX8_wetBits_3 : decode cX8_wetBits 3 = .ok (.istore 4, 2) := by decide +kernel
theorem dX8_wetBits_5 : decode cX8_wetBits 5 = .ok (.iload 4, 2) := by decide +kernel
theorem dX8_wetBits_7 : decode cX8_wetBits 7 = .ok (.aload_n 0, 1) := by decide +kernel
theorem dX8_wetBits_8 : decode cX8_wetBits 8 = .ok (.getfield 40, 3) := by decide +kernel
theorem dX8_wetBits_11 : decode cX8_wetBits 11 = .ok (.if_icmp .ge 24, 3) := by decide +kernel
theorem dX8_wetBits_14 : decode cX8_wetBits 14 = .ok (.aload_n 1, 1) := by decide +kernel
theorem dX8_wetBits_15 : decode cX8_wetBits 15 = .ok (.iload 4, 2) := by decide +kernel
theorem dX8_wetBits_17 : decode cX8_wetBits 17 = .ok (.iaload, 1) := by decide +kernel
theorem dX8_wetBits_18 : decode cX8_wetBits 18 = .ok (.iload_n 2, 1) := by decide +kernel
theorem dX8_wetBits_19 : decode cX8_wetBits 19 = .ok (.if_icmp .ge 10, 3) := by decide +kernel
theorem dX8_wetBits_22 : decode cX8_wetBits 22 = .ok (.iload_n 3, 1) := by decide +kernel
theorem dX8_wetBits_23 : decode cX8_wetBits 23 = .ok (.iconst 1, 1) := by decide +kernel
theorem dX8_wetBits_24 : decode cX8_wetBits 24 = .ok (.iload 4, 2) := by decide +kernel
theorem dX8_wetBits_26 : decode cX8_wetBits 26 = .ok (.ishl, 1) := by decide +kernel
theorem dX8_wetBits_27 : decode cX8_wetBits 27 = .ok (.ior, 1) := by decide +kernel
theorem dX8_wetBits_28 : decode cX8_wetBits 28 = .ok (.istore_n 3, 1) := by decide +kernel
theorem dX8_wetBits_29 : decode cX8_wetBits 29 = .ok (.iinc 4 1, 3) := by decide +kernel
theorem dX8_wetBits_32 : decode cX8_wetBits 32 = .ok (.goto (-27), 3) := by decide +kernel
theorem dX8_wetBits_35 : decode cX8_wetBits 35 = .ok (.iload_n 3, 1) := by decide +kernel
theorem dX8_wetBits_36 : decode cX8_wetBits 36 = .ok (.ireturn, 1) := by decide +kernel
theorem b_X8_wetBits (mm : MM) (Q : Value → MM → Prop) (t0 : Nat) (a1 : Nat) (a2 : Int32) (h0 : AtTown t0) (h1 : SHL[a1]? = some (.inl (0, 16, 0, 0))) (h : G e_X8_wetBits 5 [(0, .ref t0), (1, .ref a1), (2, .int a2), (3, .int (0 : Int32)), (4, .int (0 : Int32))] [] mm Q) : Runs e_X8_wetBits [.ref t0, .ref a1, .int a2] mm Q := by
  refine runs_of_G (L := [(0, .ref t0), (1, .ref a1), (2, .int a2)]) pl_X8 (Nat.le_of_ble_eq_true rfl) rfl ?_
  refine g_iconst (pc := 0) (v := (0 : Int32)) dX8_wetBits_0 (by decide) ?_
  refine g_istore_n (pc := 1) (L' := [(0, .ref t0), (1, .ref a1), (2, .int a2), (3, .int (0 : Int32))]) dX8_wetBits_1 (Nat.le_of_ble_eq_true rfl) rfl ?_
  refine g_iconst (pc := 2) (v := (0 : Int32)) dX8_wetBits_2 (by decide) ?_
  refine g_istore (pc := 3) (L' := [(0, .ref t0), (1, .ref a1), (2, .int a2), (3, .int (0 : Int32)), (4, .int (0 : Int32))]) dX8_wetBits_3 (Nat.le_of_ble_eq_true rfl) rfl ?_
  exact h
theorem b_X8_wetBits_5 (mm : MM) (Q : Value → MM → Prop) (l0 : Nat) (l1 : Nat) (l2 : Int32) (l3 : Int32) (l4 : Int32) (k0 : AtTown l0) (k1 : SHL[l1]? = some (.inl (0, 16, 0, 0))) (h : ((mm.1 l0 8) ≤ l4 → (Q (.int l3) mm)) ∧ (¬ (mm.1 l0 8) ≤ l4 → (vp_in l4 16 ∧ ((l2 ≤ (mm.1 l1 l4.toNatClampNeg) → (G e_X8_wetBits 5 [(0, .ref l0), (1, .ref l1), (2, .int l2), (3, .int l3), (4, .int (l4 + (1 : Int32)))] [] mm Q)) ∧ (¬ l2 ≤ (mm.1 l1 l4.toNatClampNeg) → (G e_X8_wetBits 5 [(0, .ref l0), (1, .ref l1), (2, .int l2), (3, .int (l3 ||| ((1 : Int32) <<< (l4 &&& 31)))), (4, .int (l4 + (1 : Int32)))] [] mm Q)))))) : G e_X8_wetBits 5 [(0, .ref l0), (1, .ref l1), (2, .int l2), (3, .int l3), (4, .int l4)] [] mm Q := by
  refine g_iload (pc := 5) (x := l4) dX8_wetBits_5 rfl ?_
  refine g_aload_n (pc := 7) (x := l0) dX8_wetBits_7 rfl ?_
  refine g_getI (pc := 8) dX8_wetBits_8 fo_X8_40 (AtTown_0 k0) rfl ?_
  refine g_icmp_ge (pc := 11) (tgt := 35) dX8_wetBits_11 (by decide) (fun c11 => ?_) (fun c11 => ?_)
  · have h := h.1 c11
    refine g_iload_n (pc := 35) (x := l3) dX8_wetBits_35 rfl ?_
    exact g_iret (pc := 36) dX8_wetBits_36 rfl rfl rfl h
  · have h := h.2 c11
    refine g_aload_n (pc := 14) (x := l1) dX8_wetBits_14 rfl ?_
    refine g_iload (pc := 15) (x := l4) dX8_wetBits_15 rfl ?_
    refine g_iaload (pc := 17) dX8_wetBits_17 k1 h.1 ?_
    have h := h.2
    refine g_iload_n (pc := 18) (x := l2) dX8_wetBits_18 rfl ?_
    refine g_icmp_ge (pc := 19) (tgt := 29) dX8_wetBits_19 (by decide) (fun c19 => ?_) (fun c19 => ?_)
    · have h := h.1 c19
      refine g_iinc (pc := 29) (x := l4) (v := (l4 + (1 : Int32))) (L' := [(0, .ref l0), (1, .ref l1), (2, .int l2), (3, .int l3), (4, .int (l4 + (1 : Int32)))]) dX8_wetBits_29 rfl rfl (Nat.le_of_ble_eq_true rfl) rfl ?_
      refine g_goto (pc := 32) (tgt := 5) dX8_wetBits_32 (by decide) ?_
      exact h
    · have h := h.2 c19
      refine g_iload_n (pc := 22) (x := l3) dX8_wetBits_22 rfl ?_
      refine g_iconst (pc := 23) (v := (1 : Int32)) dX8_wetBits_23 (by decide) ?_
      refine g_iload (pc := 24) (x := l4) dX8_wetBits_24 rfl ?_
      refine g_ishl (pc := 26) dX8_wetBits_26 ?_
      refine g_ior (pc := 27) dX8_wetBits_27 ?_
      refine g_istore_n (pc := 28) (L' := [(0, .ref l0), (1, .ref l1), (2, .int l2), (3, .int (l3 ||| ((1 : Int32) <<< (l4 &&& 31)))), (4, .int l4)]) dX8_wetBits_28 (Nat.le_of_ble_eq_true rfl) rfl ?_
      refine g_iinc (pc := 29) (x := l4) (v := (l4 + (1 : Int32))) (L' := [(0, .ref l0), (1, .ref l1), (2, .int l2), (3, .int (l3 ||| ((1 : Int32) <<< (l4 &&& 31)))), (4, .int (l4 + (1 : Int32)))]) dX8_wetBits_29 rfl rfl (Nat.le_of_ble_eq_true rfl) rfl ?_
      refine g_goto (pc := 32) (tgt := 5) dX8_wetBits_32 (by decide) ?_
      exact h
theorem dX8_endHeight_0 : decode cX8_endHeight 0 = .ok (.iload_n 1, 1) := by decide +kernel
theorem dX8_endHeight_1 : decode cX8_endHeight 1 = .ok (.ifCond .lt 15, 3) := by decide +kernel
theorem dX8_endHeight_4 : decode cX8_endHeight 4 = .ok (.iload_n 1, 1) := by decide +kernel
theorem dX8_endHeight_5 : decode cX8_endHeight 5 = .ok (.aload_n 0, 1) := by decide +kernel
theorem dX8_endHeight_6 : decode cX8_endHeight 6 = .ok (.arraylength, 1) := by decide +kernel
theorem dX8_endHeight_7 : decode cX8_endHeight 7 = .ok (.if_icmp .ge 9, 3) := by decide +kernel
theorem dX8_endHeight_10 : decode cX8_endHeight 10 = .ok (.aload_n 0, 1) := by decide +kernel
theorem dX8_endHeight_11 : decode cX8_endHeight 11 = .ok (.iload_n 1, 1) := by decide +kernel
theorem dX8_endHeight_12 : decode cX8_endHeight 12 = .ok (.iaload, 1) := by decide +kernel
theorem dX8_endHeight_13 : decode cX8_endHeight 13 = .ok (.goto 4, 3) := by decide +kernel
theorem dX8_endHeight_16 : decode cX8_endHeight 16 = .ok (.iconst 0, 1) := by decide +kernel
theorem dX8_endHeight_17 : decode cX8_endHeight 17 = .ok (.ireturn, 1) := by decide +kernel
def o_X8_endHeight (mm : MM) (a0 : Nat) (a1 : Int32) : Prop := (a1 < 0 → (True)) ∧ (¬ a1 < 0 → (((16 : Int32) ≤ a1 → (True)) ∧ (¬ (16 : Int32) ≤ a1 → (vp_in a1 16 ∧ (True)))))
noncomputable def v_X8_endHeight (mm : MM) (a0 : Nat) (a1 : Int32) : Int32 := (cite (a1 < 0) (0 : Int32) (cite ((16 : Int32) ≤ a1) (0 : Int32) (mm.1 a0 a1.toNatClampNeg)))
theorem rv_X8_endHeight (mm : MM) (a0 : Nat) (a1 : Int32) (h0 : SHL[a0]? = some (.inl (0, 16, 0, 0))) (h : o_X8_endHeight mm a0 a1) : Runs e_X8_endHeight [.ref a0, .int a1] mm (fun r m_ => r = .int (v_X8_endHeight mm a0 a1) ∧ mm = m_) := by
  refine runs_of_G (L := [(0, .ref a0), (1, .int a1)]) pl_X8 (Nat.le_of_ble_eq_true rfl) rfl ?_
  unfold o_X8_endHeight at h
  refine g_iload_n (pc := 0) (x := a1) dX8_endHeight_0 rfl ?_
  refine g_if_lt (pc := 1) (tgt := 16) dX8_endHeight_1 (by decide) (fun c1 => ?_) (fun c1 => ?_)
  · have c1_0 : a1 < 0 := c1
    have h := h.1 c1
    refine g_iconst (pc := 16) (v := (0 : Int32)) dX8_endHeight_16 (by decide) ?_
    exact g_iret (pc := 17) dX8_endHeight_17 rfl rfl rfl ⟨(by unfold v_X8_endHeight; rw [cite_pos c1_0] <;> rfl), rfl⟩
  · have c1_0 : ¬ a1 < 0 := c1
    have h := h.2 c1
    refine g_iload_n (pc := 4) (x := a1) dX8_endHeight_4 rfl ?_
    refine g_aload_n (pc := 5) (x := a0) dX8_endHeight_5 rfl ?_
    refine g_alen (pc := 6) (t := 0) (v := (16 : Int32)) (by decide) dX8_endHeight_6 h0 (by decide) ?_
    refine g_icmp_ge (pc := 7) (tgt := 16) dX8_endHeight_7 (by decide) (fun c7 => ?_) (fun c7 => ?_)
    · have c7_1 : (16 : Int32) ≤ a1 := c7
      have h := h.1 c7
      refine g_iconst (pc := 16) (v := (0 : Int32)) dX8_endHeight_16 (by decide) ?_
      exact g_iret (pc := 17) dX8_endHeight_17 rfl rfl rfl ⟨(by unfold v_X8_endHeight; rw [cite_neg c1_0, cite_pos c7_1] <;> rfl), rfl⟩
    · have c7_1 : ¬ (16 : Int32) ≤ a1 := c7
      have h := h.2 c7
      refine g_aload_n (pc := 10) (x := a0) dX8_endHeight_10 rfl ?_
      refine g_iload_n (pc := 11) (x := a1) dX8_endHeight_11 rfl ?_
      refine g_iaload (pc := 12) dX8_endHeight_12 h0 h.1 ?_
      have h := h.2
      refine g_goto (pc := 13) (tgt := 17) dX8_endHeight_13 (by decide) ?_
      exact g_iret (pc := 17) dX8_endHeight_17 rfl rfl rfl ⟨(by unfold v_X8_endHeight; rw [cite_neg c1_0, cite_neg c7_1] <;> rfl), rfl⟩

/-! the texts' own members (made by genstr.py) -/
def e_J3_checkIndex : ME := (yJ3_checkIndex_8e157, cJ3_checkIndex_8e157, 3, some .int, 1, 1)
def e_J0_checkIndex : ME := (yJ0_checkIndex_df160, cJ0_checkIndex_df160, 2, none, 0, 2)
def e_J1_charAt : ME := (yJ1_charAt_3b067, cJ1_charAt_3b067, 2, some .char, 1, 3)
def e_J0_isLatin1 : ME := (yJ0_isLatin1_aae02, cJ0_isLatin1_aae02, 1, some .boolean, 1, 1)
def e_J0_coder : ME := (yJ0_coder_7d493, cJ0_coder_7d493, 1, some .byte, 1, 1)
def e_J0_charAt : ME := (yJ0_charAt_5068e, cJ0_charAt_5068e, 2, some .char, 1, 4)
def e_J0_length : ME := (yJ0_length_8abf5, cJ0_length_8abf5, 1, some .int, 1, 2)
theorem pl_J0 : plainName RJ0 = true := by decide +kernel
theorem pl_J1 : plainName RJ1 = true := by decide +kernel
theorem pl_J3 : plainName RJ3 = true := by decide +kernel
def CVs (own : String) (idx : Nat) (Y' : ME) (n : Nat) : Prop := Cond.methodLink own idx (mN Y') ∈ bigW ∧ Cond.instanceMethod (mN Y') ∈ bigW ∧ Cond.selects (mN Y').cls (mN Y') (mN Y') ∈ bigW ∧ Cond.initialized (mN Y').cls ∈ bigW ∧ Cond.code (mN Y') (mB Y') (mL Y') (mR Y') ∈ bigW ∧ ((mN Y').cls ≠ "java/lang/invoke/MethodHandle" ∧ (mN Y').cls ≠ "java/lang/invoke/VarHandle" ∧ (parseMethodDescriptor (mN Y').desc).map (fun d => d.parameters.length) = some n) ∧ (mN Y').cls = "java/lang/String" ∧ mL Y' ≤ 13 ∧ mK Y' < 4
theorem cs_len : CVs RX7 77 e_J0_length 0 := ⟨tp_3 (List.mem_of_getElem? (i := 126) rfl) rfl, tp_3 (List.mem_of_getElem? (i := 127) rfl) rfl, tp_3 (List.mem_of_getElem? (i := 128) rfl) rfl, tp_1 (List.mem_of_getElem? (i := 14) rfl) rfl, tp_3 (List.mem_of_getElem? (i := 129) rfl) rfl, ⟨by decide +kernel, by decide +kernel, by decide +kernel⟩, rfl, by decide, by decide⟩
theorem cs_chr : CVs RX7 83 e_J0_charAt 1 := ⟨tp_3 (List.mem_of_getElem? (i := 136) rfl) rfl, tp_3 (List.mem_of_getElem? (i := 137) rfl) rfl, tp_3 (List.mem_of_getElem? (i := 138) rfl) rfl, tp_1 (List.mem_of_getElem? (i := 14) rfl) rfl, tp_3 (List.mem_of_getElem? (i := 139) rfl) rfl, ⟨by decide +kernel, by decide +kernel, by decide +kernel⟩, rfl, by decide, by decide⟩
theorem cs_cod : CVs RJ0 335 e_J0_coder 0 := ⟨tp_3 (List.mem_of_getElem? (i := 130) rfl) rfl, tp_3 (List.mem_of_getElem? (i := 131) rfl) rfl, tp_3 (List.mem_of_getElem? (i := 132) rfl) rfl, tp_1 (List.mem_of_getElem? (i := 14) rfl) rfl, tp_3 (List.mem_of_getElem? (i := 133) rfl) rfl, ⟨by decide +kernel, by decide +kernel, by decide +kernel⟩, rfl, by decide, by decide⟩
theorem cs_lat : CVs RJ0 492 e_J0_isLatin1 0 := ⟨tp_3 (List.mem_of_getElem? (i := 140) rfl) rfl, tp_3 (List.mem_of_getElem? (i := 141) rfl) rfl, tp_3 (List.mem_of_getElem? (i := 142) rfl) rfl, tp_1 (List.mem_of_getElem? (i := 14) rfl) rfl, tp_3 (List.mem_of_getElem? (i := 143) rfl) rfl, ⟨by decide +kernel, by decide +kernel, by decide +kernel⟩, rfl, by decide, by decide⟩
theorem cs_l1 : CS RJ0 495 e_J1_charAt 2 := ⟨tp_3 (List.mem_of_getElem? (i := 144) rfl) rfl, tp_3 (List.mem_of_getElem? (i := 145) rfl) rfl, tp_1 (List.mem_of_getElem? (i := 15) rfl) rfl, tp_3 (List.mem_of_getElem? (i := 146) rfl) rfl, ⟨by decide +kernel, by decide +kernel, by decide +kernel⟩, by decide, by decide⟩
theorem cs_chk : CS RJ1 9 e_J0_checkIndex 2 := ⟨tp_3 (List.mem_of_getElem? (i := 147) rfl) rfl, tp_3 (List.mem_of_getElem? (i := 148) rfl) rfl, tp_1 (List.mem_of_getElem? (i := 14) rfl) rfl, tp_3 (List.mem_of_getElem? (i := 149) rfl) rfl, ⟨by decide +kernel, by decide +kernel, by decide +kernel⟩, by decide, by decide⟩
theorem cs_pre : CS RJ0 1059 e_J3_checkIndex 3 := ⟨tp_3 (List.mem_of_getElem? (i := 152) rfl) rfl, tp_3 (List.mem_of_getElem? (i := 153) rfl) rfl, tp_1 (List.mem_of_getElem? (i := 16) rfl) rfl, tp_3 (List.mem_of_getElem? (i := 154) rfl) rfl, ⟨by decide +kernel, by decide +kernel, by decide +kernel⟩, by decide, by decide⟩
theorem fs_val : Cond.fieldLink RJ0 9 "java/lang/String" "value" "[B" ∈ bigW := tp_9 (List.mem_of_getElem? (i := 228) rfl) rfl
theorem fs_cod : Cond.fieldLink RJ0 15 "java/lang/String" "coder" "B" ∈ bigW := tp_9 (List.mem_of_getElem? (i := 229) rfl) rfl
theorem fs_com : Cond.fieldLink RJ0 38 "java/lang/String" "COMPACT_STRINGS" "Z" ∈ bigW := tp_3 (List.mem_of_getElem? (i := 134) rfl) rfl
theorem fs_fmt : Cond.fieldLink RJ0 1053 "jdk/internal/util/Preconditions" "SIOOBE_FORMATTER" "Ljava/util/function/BiFunction;" ∈ bigW := tp_3 (List.mem_of_getElem? (i := 150) rfl) rfl
/-- what is kept of the texts and of the two statics -/
theorem g_strV {Y : ME} {pc : Nat} {L : List (Nat × Value)} {rest : List Value} {mm : MM} {Q : Value → MM → Prop} {idx i : Nat} (d : decode (mB Y) pc = .ok (.getfield idx, 3)) (hi : i < 27) (hw : Cond.fieldLink (mN Y).cls idx "java/lang/String" "value" "[B" ∈ bigW) (k : G Y (pc + 3) L (.ref (1001 + 2 * i) :: rest) mm Q) : G Y pc L (.ref (1000 + 2 * i) :: rest) mm Q := by
  intro p l e s m args below meth c D ad ca A C H locs ls hP hS hl
  exact vk_getf (C.1) C.2.1 (C.2.2.2.2.2.2.2.2.2.2.2.1.1.1 i hi).2.2.1 hS C.2.2.2.2.2.1 (C.2.2.2.2.2.2.1 _ hw) (fun _ h => h) d (k p l e s m args below meth c D ad ca A C H locs ls hP hS hl)
theorem g_strC {Y : ME} {pc : Nat} {L : List (Nat × Value)} {rest : List Value} {mm : MM} {Q : Value → MM → Prop} {idx i : Nat} (d : decode (mB Y) pc = .ok (.getfield idx, 3)) (hi : i < 27) (hw : Cond.fieldLink (mN Y).cls idx "java/lang/String" "coder" "B" ∈ bigW) (k : G Y (pc + 3) L (.int 0 :: rest) mm Q) : G Y pc L (.ref (1000 + 2 * i) :: rest) mm Q := by
  intro p l e s m args below meth c D ad ca A C H locs ls hP hS hl
  exact vk_getf (C.1) C.2.1 (C.2.2.2.2.2.2.2.2.2.2.2.1.1.1 i hi).2.1 hS C.2.2.2.2.2.1 (C.2.2.2.2.2.2.1 _ hw) (fun _ h => h) d (k p l e s m args below meth c D ad ca A C H locs ls hP hS hl)
theorem g_strL {Y : ME} {pc : Nat} {L : List (Nat × Value)} {rest : List Value} {mm : MM} {Q : Value → MM → Prop} {i : Nat} (d : decode (mB Y) pc = .ok (.arraylength, 1)) (hi : i < 27) (k : G Y (pc + 1) L (.int (nI (strLen.getD i 0)) :: rest) mm Q) : G Y pc L (.ref (1001 + 2 * i) :: rest) mm Q := by
  intro p l e s m args below meth c D ad ca A C H locs ls hP hS hl
  exact va_tlen C.1 C.2.1 (C.2.2.2.2.2.2.2.2.2.2.2.1.1.1 i hi).2.2.2 hS rfl d (k p l e s m args below meth c D ad ca A C H locs ls hP hS hl)
theorem g_strB {Y : ME} {pc : Nat} {L : List (Nat × Value)} {rest : List Value} {mm : MM} {Q : Value → MM → Prop} {i : Nat} {j : Int32} (d : decode (mB Y) pc = .ok (.baload, 1)) (hi : i < 27) (hj : vp_in j (strLen.getD i 0)) (k : G Y (pc + 1) L (.int ((strByt.getD i []).getD j.toNatClampNeg 0) :: rest) mm Q) : G Y pc L (.int j :: .ref (1001 + 2 * i) :: rest) mm Q := by
  intro p l e s m args below meth c D ad ca A C H locs ls hP hS hl
  exact va_tb C.1 C.2.1 (C.2.2.2.2.2.2.2.2.2.2.2.1.1.1 i hi).2.2.2 hS hj rfl d (k p l e s m args below meth c D ad ca A C H locs ls hP hS hl)
theorem g_com {Y : ME} {pc : Nat} {L : List (Nat × Value)} {rest : List Value} {mm : MM} {Q : Value → MM → Prop} {idx : Nat} (d : decode (mB Y) pc = .ok (.getstatic idx, 3)) (hw : Cond.fieldLink (mN Y).cls idx "java/lang/String" "COMPACT_STRINGS" "Z" ∈ bigW) (k : G Y (pc + 3) L (.int 1 :: rest) mm Q) : G Y pc L rest mm Q := by
  intro p l e s m args below meth c D ad ca A C H locs ls hP hS hl
  exact va_gets C.1 C.2.1 C.2.2.2.2.2.2.2.2.2.2.2.1.2.1 hS C.2.2.2.2.2.1 (C.2.2.2.2.2.2.1 _ hw) (fun _ h => h) d (k p l e s m args below meth c D ad ca A C H locs ls hP hS hl)
theorem g_fmt {Y : ME} {pc : Nat} {L : List (Nat × Value)} {rest : List Value} {mm : MM} {Q : Value → MM → Prop} {idx : Nat} (d : decode (mB Y) pc = .ok (.getstatic idx, 3)) (hw : Cond.fieldLink (mN Y).cls idx "jdk/internal/util/Preconditions" "SIOOBE_FORMATTER" "Ljava/util/function/BiFunction;" ∈ bigW) (k1 : G Y (pc + 3) L (.null :: rest) mm Q) (k2 : G Y (pc + 3) L (.ref 6000 :: rest) mm Q) : G Y pc L rest mm Q := by
  intro p l e s m args below meth c D ad ca A C H locs ls hP hS hl
  rcases C.2.2.2.2.2.2.2.2.2.2.2.1.2.2 with hZ | hZ
  · exact va_gets C.1 C.2.1 hZ hS C.2.2.2.2.2.1 (C.2.2.2.2.2.2.1 _ hw) (fun _ h => h) d (k1 p l e s m args below meth c D ad ca A C H locs ls hP hS hl)
  · exact va_gets C.1 C.2.1 hZ hS C.2.2.2.2.2.1 (C.2.2.2.2.2.2.1 _ hw) (fun _ h => h) d (k2 p l e s m args below meth c D ad ca A C H locs ls hP hS hl)
theorem g_callVs {Y Y' : ME} {pc : Nat} {L : List (Nat × Value)} {st rest as : List Value} {mm : MM} {Q P : Value → MM → Prop} {idx n i : Nat} (d : decode (mB Y) pc = .ok (.invokevirtual idx, 3)) (hC : CVs (mN Y).cls idx Y' n) (hi : i < 27) (hD : mD Y' + 1 ≤ mD Y) (hst : st = as.reverse ++ .ref (1000 + 2 * i) :: rest) (hn : as.length = n) (hrest : (rest.map fun v => v.category).sum ≤ 8)
    (hM : Runs Y' (.ref (1000 + 2 * i) :: as) mm P) (k : ∀ r m', rK (mK Y') r → P r m' → G Y (pc + 3) L (pushA (mK Y') r rest) m' Q) : G Y pc L st mm Q := by
  intro p l e s m args below meth c D ad ca A C H locs ls hP hS hl
  obtain ⟨w1, w2, w3, w4, w5, w6, w7, w8, w9⟩ := hC
  have hts := C.2.2.2.2.2.2.1
  have hK := C.2.2.2.2.2.2.2.1
  have hrecv : ∃ cell : Cell, H[ad (1000 + 2 * i)]? = some cell ∧ cell.vm.isStatics = false ∧ s.vm.findClass (mN Y').cls = some cell.cls := by
    rw [w7]
    exact vk_recv (i := i) C.2.2.2.2.2.2.2.2.2.2.2.1.1 hi hS
  have hrun := va_runV (Qc := QcG (mK Y') D ad ca (adA ad H.size) P) (As := cS ad as) (rest := cS ad rest) (cells := 0) (slots := 0) (p := p) (l := l) (e := e) (below := below) (meth := meth) (locs := locs) (nL := mL Y) (Ts := bigW) (own := (mN Y).cls) (args := args) (H := H) (b := ad (1000 + 2 * i)) (C := (mN Y').cls) (index := idx) (n := n) (g := F0 m pc ls (cS ad st))
    ⟨C.1, C.2.1, C.2.2.1, C.2.2.2.2.2.1, hts⟩ (hM l D ad ca H.size C.2.2.2.2.2.2.2.2.1)
    (R := rmD (mD Y)) ⟨⟨rfl, rfl, (room_ok hD w8).1, (room_ok hD w8).2, pay_in hts (good_ws Y' w5), List.mem_cons_self, hts _ w5, hts _ w4, ⟨w6.1, w6.2.1⟩, fun sig h => by have h2 := w6.2.2; rw [h] at h2; simpa using h2.symm, hts _ w1⟩, hts _ w2, hts _ w3⟩
    ⟨pc_blind _ _ _ _ _ _, hrecv, fun U hU hW => ⟨rfl, by rw [hU], by rw [hU]; exact hP, va_K.moved hW.alike hK, ad_size hP, str_at C.2.2.2.2.2.2.2.2.2.2.2 hS C.2.2.2.2.2.2.2.2.2.1 C.2.2.2.2.2.2.2.2.2.2.1 hU hW⟩⟩
    rfl (by simp [cS, hn]) hl.1 (cS_stack hst) (by show 2 * 0 + _ ≤ 8; rw [cS_cat]; omega) d ⟨Nat.le_refl 0, Nat.le_refl 0⟩
  exact g_after w9 hrun hS (adA_sub hS C.2.2.2.2.2.2.2.2.2.1 C.2.2.2.2.2.2.2.2.2.2.1) (fun r u H1 locs1 hz hp hP1 hS1 => k r u hz hp p l e s m args below meth c D ad ca A C H1 locs1 ls hP1 hS1 hl)
def chN (i j : Nat) : Nat := ((strByt.getD i []).getD j 0).toNatClampNeg
theorem ch_ok : ∀ i : Nat, i < 27 → ∀ j : Nat, j < 7 → j < strLen.getD i 0 → (strByt.getD i []).getD j 0 = nI (chN i j) ∧ 97 ≤ chN i j ∧ chN i j ≤ 122 := by decide +kernel
theorem ch_i2c {c : Nat} (h : c < 256) : (((nI c &&& 255)).toUInt32 % 65536).toInt32 = nI c := by
  rw [show (255 : Int32) = nI (2 ^ 8 - 1) from rfl, fa_mask, Nat.mod_eq_of_lt (show c < 2 ^ 8 by omega), pk_char, pk_tn (by omega), Nat.mod_eq_of_lt (by omega)]
theorem dJ3c_0 : decode cJ3_checkIndex_8e157 0 = .ok (.iload_n 0, 1) := by decide +kernel
theorem dJ3c_1 : decode cJ3_checkIndex_8e157 1 = .ok (.ifCond .lt 8, 3) := by decide +kernel
theorem dJ3c_4 : decode cJ3_checkIndex_8e157 4 = .ok (.iload_n 0, 1) := by decide +kernel
theorem dJ3c_5 : decode cJ3_checkIndex_8e157 5 = .ok (.iload_n 1, 1) := by decide +kernel
theorem dJ3c_6 : decode cJ3_checkIndex_8e157 6 = .ok (.if_icmp .lt 10, 3) := by decide +kernel
theorem dJ3c_16 : decode cJ3_checkIndex_8e157 16 = .ok (.iload_n 0, 1) := by decide +kernel
theorem dJ3c_17 : decode cJ3_checkIndex_8e157 17 = .ok (.ireturn, 1) := by decide +kernel
theorem dJ0k_0 : decode cJ0_checkIndex_df160 0 = .ok (.iload_n 0, 1) := by decide +kernel
theorem dJ0k_1 : decode cJ0_checkIndex_df160 1 = .ok (.iload_n 1, 1) := by decide +kernel
theorem dJ0k_2 : decode cJ0_checkIndex_df160 2 = .ok (.getstatic 1053, 3) := by decide +kernel
theorem dJ0k_5 : decode cJ0_checkIndex_df160 5 = .ok (.invokestatic 1059, 3) := by decide +kernel
theorem dJ0k_8 : decode cJ0_checkIndex_df160 8 = .ok (.pop, 1) := by decide +kernel
theorem dJ0k_9 : decode cJ0_checkIndex_df160 9 = .ok (.return_, 1) := by decide +kernel
theorem dJ1c_0 : decode cJ1_charAt_3b067 0 = .ok (.iload_n 1, 1) := by decide +kernel
theorem dJ1c_1 : decode cJ1_charAt_3b067 1 = .ok (.aload_n 0, 1) := by decide +kernel
theorem dJ1c_2 : decode cJ1_charAt_3b067 2 = .ok (.arraylength, 1) := by decide +kernel
theorem dJ1c_3 : decode cJ1_charAt_3b067 3 = .ok (.invokestatic 9, 3) := by decide +kernel
theorem dJ1c_6 : decode cJ1_charAt_3b067 6 = .ok (.aload_n 0, 1) := by decide +kernel
theorem dJ1c_7 : decode cJ1_charAt_3b067 7 = .ok (.iload_n 1, 1) := by decide +kernel
theorem dJ1c_8 : decode cJ1_charAt_3b067 8 = .ok (.baload, 1) := by decide +kernel
theorem dJ1c_9 : decode cJ1_charAt_3b067 9 = .ok (.sipush 255, 3) := by decide +kernel
theorem dJ1c_12 : decode cJ1_charAt_3b067 12 = .ok (.iand, 1) := by decide +kernel
theorem dJ1c_13 : decode cJ1_charAt_3b067 13 = .ok (.i2c, 1) := by decide +kernel
theorem dJ1c_14 : decode cJ1_charAt_3b067 14 = .ok (.ireturn, 1) := by decide +kernel
theorem dJ0l_0 : decode cJ0_isLatin1_aae02 0 = .ok (.getstatic 38, 3) := by decide +kernel
theorem dJ0l_3 : decode cJ0_isLatin1_aae02 3 = .ok (.ifCond .eq 14, 3) := by decide +kernel
theorem dJ0l_6 : decode cJ0_isLatin1_aae02 6 = .ok (.aload_n 0, 1) := by decide +kernel
theorem dJ0l_7 : decode cJ0_isLatin1_aae02 7 = .ok (.getfield 15, 3) := by decide +kernel
theorem dJ0l_10 : decode cJ0_isLatin1_aae02 10 = .ok (.ifCond .ne 7, 3) := by decide +kernel
theorem dJ0l_13 : decode cJ0_isLatin1_aae02 13 = .ok (.iconst 1, 1) := by decide +kernel
theorem dJ0l_14 : decode cJ0_isLatin1_aae02 14 = .ok (.goto 4, 3) := by decide +kernel
theorem dJ0l_18 : decode cJ0_isLatin1_aae02 18 = .ok (.ireturn, 1) := by decide +kernel
theorem dJ0o_0 : decode cJ0_coder_7d493 0 = .ok (.getstatic 38, 3) := by decide +kernel
theorem dJ0o_3 : decode cJ0_coder_7d493 3 = .ok (.ifCond .eq 10, 3) := by decide +kernel
theorem dJ0o_6 : decode cJ0_coder_7d493 6 = .ok (.aload_n 0, 1) := by decide +kernel
theorem dJ0o_7 : decode cJ0_coder_7d493 7 = .ok (.getfield 15, 3) := by decide +kernel
theorem dJ0o_10 : decode cJ0_coder_7d493 10 = .ok (.goto 4, 3) := by decide +kernel
theorem dJ0o_14 : decode cJ0_coder_7d493 14 = .ok (.ireturn, 1) := by decide +kernel
theorem dJ0a_0 : decode cJ0_charAt_5068e 0 = .ok (.aload_n 0, 1) := by decide +kernel
theorem dJ0a_1 : decode cJ0_charAt_5068e 1 = .ok (.invokevirtual 492, 3) := by decide +kernel
theorem dJ0a_4 : decode cJ0_charAt_5068e 4 = .ok (.ifCond .eq 12, 3) := by decide +kernel
theorem dJ0a_7 : decode cJ0_charAt_5068e 7 = .ok (.aload_n 0, 1) := by decide +kernel
theorem dJ0a_8 : decode cJ0_charAt_5068e 8 = .ok (.getfield 9, 3) := by decide +kernel
theorem dJ0a_11 : decode cJ0_charAt_5068e 11 = .ok (.iload_n 1, 1) := by decide +kernel
theorem dJ0a_12 : decode cJ0_charAt_5068e 12 = .ok (.invokestatic 495, 3) := by decide +kernel
theorem dJ0a_15 : decode cJ0_charAt_5068e 15 = .ok (.ireturn, 1) := by decide +kernel
theorem dJ0n_0 : decode cJ0_length_8abf5 0 = .ok (.aload_n 0, 1) := by decide +kernel
theorem dJ0n_1 : decode cJ0_length_8abf5 1 = .ok (.getfield 9, 3) := by decide +kernel
theorem dJ0n_4 : decode cJ0_length_8abf5 4 = .ok (.arraylength, 1) := by decide +kernel
theorem dJ0n_5 : decode cJ0_length_8abf5 5 = .ok (.aload_n 0, 1) := by decide +kernel
theorem dJ0n_6 : decode cJ0_length_8abf5 6 = .ok (.invokevirtual 335, 3) := by decide +kernel
theorem dJ0n_9 : decode cJ0_length_8abf5 9 = .ok (.ishr, 1) := by decide +kernel
theorem dJ0n_10 : decode cJ0_length_8abf5 10 = .ok (.ireturn, 1) := by decide +kernel
theorem dX7s_0 : decode cX7_spells 0 = .ok (.aload_n 1, 1) := by decide +kernel
theorem dX7s_1 : decode cX7_spells 1 = .ok (.invokevirtual 77, 3) := by decide +kernel
theorem dX7s_4 : decode cX7_spells 4 = .ok (.iload_n 3, 1) := by decide +kernel
theorem dX7s_5 : decode cX7_spells 5 = .ok (.iload_n 2, 1) := by decide +kernel
theorem dX7s_6 : decode cX7_spells 6 = .ok (.isub, 1) := by decide +kernel
theorem dX7s_7 : decode cX7_spells 7 = .ok (.if_icmp .eq 5, 3) := by decide +kernel
theorem dX7s_10 : decode cX7_spells 10 = .ok (.iconst 0, 1) := by decide +kernel
theorem dX7s_11 : decode cX7_spells 11 = .ok (.ireturn, 1) := by decide +kernel
theorem dX7s_12 : decode cX7_spells 12 = .ok (.iconst 0, 1) := by decide +kernel
theorem dX7s_13 : decode cX7_spells 13 = .ok (.istore 4, 2) := by decide +kernel
theorem dX7s_15 : decode cX7_spells 15 = .ok (.iload 4, 2) := by decide +kernel
theorem dX7s_17 : decode cX7_spells 17 = .ok (.aload_n 1, 1) := by decide +kernel
theorem dX7s_18 : decode cX7_spells 18 = .ok (.invokevirtual 77, 3) := by decide +kernel
theorem dX7s_21 : decode cX7_spells 21 = .ok (.if_icmp .ge 28, 3) := by decide +kernel
theorem dX7s_24 : decode cX7_spells 24 = .ok (.aload_n 1, 1) := by decide +kernel
theorem dX7s_25 : decode cX7_spells 25 = .ok (.iload 4, 2) := by decide +kernel
theorem dX7s_27 : decode cX7_spells 27 = .ok (.invokevirtual 83, 3) := by decide +kernel
theorem dX7s_30 : decode cX7_spells 30 = .ok (.aload_n 0, 1) := by decide +kernel
theorem dX7s_31 : decode cX7_spells 31 = .ok (.iload_n 2, 1) := by decide +kernel
theorem dX7s_32 : decode cX7_spells 32 = .ok (.iload 4, 2) := by decide +kernel
theorem dX7s_34 : decode cX7_spells 34 = .ok (.iadd, 1) := by decide +kernel
theorem dX7s_35 : decode cX7_spells 35 = .ok (.invokevirtual 41, 3) := by decide +kernel
theorem dX7s_38 : decode cX7_spells 38 = .ok (.if_icmp .eq 5, 3) := by decide +kernel
theorem dX7s_41 : decode cX7_spells 41 = .ok (.iconst 0, 1) := by decide +kernel
theorem dX7s_42 : decode cX7_spells 42 = .ok (.ireturn, 1) := by decide +kernel
theorem dX7s_43 : decode cX7_spells 43 = .ok (.iinc 4 1, 3) := by decide +kernel
theorem dX7s_46 : decode cX7_spells 46 = .ok (.goto (-31), 3) := by decide +kernel
theorem dX7s_49 : decode cX7_spells 49 = .ok (.iconst 1, 1) := by decide +kernel
theorem dX7s_50 : decode cX7_spells 50 = .ok (.ireturn, 1) := by decide +kernel
theorem dX7w_0 : decode cX7_wordKind 0 = .ok (.iconst 0, 1) := by decide +kernel
theorem dX7w_1 : decode cX7_wordKind 1 = .ok (.istore_n 3, 1) := by decide +kernel
theorem dX7w_2 : decode cX7_wordKind 2 = .ok (.iload_n 3, 1) := by decide +kernel
theorem dX7w_3 : decode cX7_wordKind 3 = .ok (.bipush 25, 2) := by decide +kernel
theorem dX7w_5 : decode cX7_wordKind 5 = .ok (.if_icmp .gt 24, 3) := by decide +kernel
theorem dX7w_8 : decode cX7_wordKind 8 = .ok (.aload_n 0, 1) := by decide +kernel
theorem dX7w_9 : decode cX7_wordKind 9 = .ok (.iload_n 3, 1) := by decide +kernel
theorem dX7w_10 : decode cX7_wordKind 10 = .ok (.invokestatic 69, 3) := by decide +kernel
theorem dX7w_13 : decode cX7_wordKind 13 = .ok (.iload_n 1, 1) := by decide +kernel
theorem dX7w_14 : decode cX7_wordKind 14 = .ok (.iload_n 2, 1) := by decide +kernel
theorem dX7w_15 : decode cX7_wordKind 15 = .ok (.invokevirtual 73, 3) := by decide +kernel
theorem dX7w_18 : decode cX7_wordKind 18 = .ok (.ifCond .eq 5, 3) := by decide +kernel
theorem dX7w_21 : decode cX7_wordKind 21 = .ok (.iload_n 3, 1) := by decide +kernel
theorem dX7w_22 : decode cX7_wordKind 22 = .ok (.ireturn, 1) := by decide +kernel
theorem dX7w_23 : decode cX7_wordKind 23 = .ok (.iinc 3 1, 3) := by decide +kernel
theorem dX7w_26 : decode cX7_wordKind 26 = .ok (.goto (-24), 3) := by decide +kernel
theorem dX7w_29 : decode cX7_wordKind 29 = .ok (.bipush 26, 2) := by decide +kernel
theorem dX7w_31 : decode cX7_wordKind 31 = .ok (.ireturn, 1) := by decide +kernel
theorem pre_ok (m : MM) (x : Value) (hx : x = .null ∨ x = .ref 6000) {i n : Nat} (h : i < n) (hn : n < 2 ^ 31) : Runs e_J3_checkIndex [.int (nI i), .int (nI n), x] m (fun r m' => r = .int (nI i) ∧ m' = m) := by
  rcases hx with rfl | rfl
  · refine runs_of_G (L := [(0, .int (nI i)), (1, .int (nI n)), (2, .null)]) pl_J3 (Nat.le_of_ble_eq_true rfl) rfl ?_
    refine g_iload_n (pc := 0) (x := nI i) dJ3c_0 rfl ?_
    refine g_if_lt (pc := 1) (tgt := 9) dJ3c_1 (by decide) (fun z => absurd z (nI_pos (by omega))) fun _ => ?_
    refine g_iload_n (pc := 4) (x := nI i) dJ3c_4 rfl ?_
    refine g_iload_n (pc := 5) (x := nI n) dJ3c_5 rfl ?_
    refine g_icmp_lt (pc := 6) (tgt := 16) dJ3c_6 (by decide) (fun _ => ?_) fun z => absurd (nI_lt h hn) z
    refine g_iload_n (pc := 16) (x := nI i) dJ3c_16 rfl ?_
    exact g_iret (pc := 17) dJ3c_17 rfl rfl rfl ⟨rfl, rfl⟩
  · refine runs_of_G (L := [(0, .int (nI i)), (1, .int (nI n)), (2, .ref 6000)]) pl_J3 (Nat.le_of_ble_eq_true rfl) rfl ?_
    refine g_iload_n (pc := 0) (x := nI i) dJ3c_0 rfl ?_
    refine g_if_lt (pc := 1) (tgt := 9) dJ3c_1 (by decide) (fun z => absurd z (nI_pos (by omega))) fun _ => ?_
    refine g_iload_n (pc := 4) (x := nI i) dJ3c_4 rfl ?_
    refine g_iload_n (pc := 5) (x := nI n) dJ3c_5 rfl ?_
    refine g_icmp_lt (pc := 6) (tgt := 16) dJ3c_6 (by decide) (fun _ => ?_) fun z => absurd (nI_lt h hn) z
    refine g_iload_n (pc := 16) (x := nI i) dJ3c_16 rfl ?_
    exact g_iret (pc := 17) dJ3c_17 rfl rfl rfl ⟨rfl, rfl⟩
theorem chk_ok (m : MM) {i n : Nat} (h : i < n) (hn : n < 2 ^ 31) : Runs e_J0_checkIndex [.int (nI i), .int (nI n)] m (fun r m' => r = .null ∧ m' = m) := by
  refine runs_of_G (L := [(0, .int (nI i)), (1, .int (nI n))]) pl_J0 (Nat.le_of_ble_eq_true rfl) rfl ?_
  refine g_iload_n (pc := 0) (x := nI i) dJ0k_0 rfl ?_
  refine g_iload_n (pc := 1) (x := nI n) dJ0k_1 rfl ?_
  have fin : ∀ r m', rK 1 r → (r = .int (nI i) ∧ m' = m) → G e_J0_checkIndex 8 [(0, .int (nI i)), (1, .int (nI n))] (pushA 1 r []) m' (fun r m' => r = .null ∧ m' = m) := by
    rintro r m' - ⟨rfl, rfl⟩
    refine g_pop (pc := 8) dJ0k_8 rfl ?_
    exact g_vret (pc := 9) dJ0k_9 rfl rfl ⟨rfl, rfl⟩
  refine g_fmt (pc := 2) dJ0k_2 fs_fmt ?_ ?_
  · exact g_callS (pc := 5) (as := [.int (nI i), .int (nI n), .null]) (rest := []) dJ0k_5 cs_pre (by decide) rfl rfl (by decide) (pre_ok m _ (Or.inl rfl) h hn) fin
  · exact g_callS (pc := 5) (as := [.int (nI i), .int (nI n), .ref 6000]) (rest := []) dJ0k_5 cs_pre (by decide) rfl rfl (by decide) (pre_ok m _ (Or.inr rfl) h hn) fin
theorem l1_ok (m : MM) {i j : Nat} (hi : i < 27) (hj : j < strLen.getD i 0) : Runs e_J1_charAt [.ref (1001 + 2 * i), .int (nI j)] m (fun r m' => r = .int (nI (chN i j)) ∧ m' = m) := by
  have h7 := s_small i hi
  obtain ⟨e1, e2, e3⟩ := ch_ok i hi j (by omega) hj
  refine runs_of_G (L := [(0, .ref (1001 + 2 * i)), (1, .int (nI j))]) pl_J1 (Nat.le_of_ble_eq_true rfl) rfl ?_
  refine g_iload_n (pc := 0) (x := nI j) dJ1c_0 rfl ?_
  refine g_aload_n (pc := 1) (x := 1001 + 2 * i) dJ1c_1 rfl ?_
  refine g_strL (pc := 2) dJ1c_2 hi ?_
  refine g_callS (pc := 3) (as := [.int (nI j), .int (nI (strLen.getD i 0))]) (rest := []) dJ1c_3 cs_chk (by decide) rfl rfl (by decide) (chk_ok m hj (by omega)) ?_
  rintro r m' - ⟨rfl, rfl⟩
  refine g_aload_n (pc := 6) (x := 1001 + 2 * i) dJ1c_6 rfl ?_
  refine g_iload_n (pc := 7) (x := nI j) dJ1c_7 rfl ?_
  refine g_strB (pc := 8) dJ1c_8 hi (vp_in_nI hj (by omega)) ?_
  rw [nI_clamp (by omega), e1]
  refine g_sipush (pc := 9) (v := 255) dJ1c_9 (by decide) ?_
  refine g_iand (pc := 12) dJ1c_12 ?_
  refine g_i2c (pc := 13) dJ1c_13 ?_
  rw [ch_i2c (by omega)]
  exact g_iret (pc := 14) dJ1c_14 rfl rfl (pk_charN (by omega)).1 ⟨rfl, rfl⟩
theorem lat_ok (m : MM) {i : Nat} (hi : i < 27) : Runs e_J0_isLatin1 [.ref (1000 + 2 * i)] m (fun r m' => r = .int 1 ∧ m' = m) := by
  refine runs_of_G (L := [(0, .ref (1000 + 2 * i))]) pl_J0 (Nat.le_of_ble_eq_true rfl) rfl ?_
  refine g_com (pc := 0) dJ0l_0 fs_com ?_
  refine g_if_eq (pc := 3) (tgt := 17) dJ0l_3 (by decide) (fun z => absurd z (by decide)) fun _ => ?_
  refine g_aload_n (pc := 6) (x := 1000 + 2 * i) dJ0l_6 rfl ?_
  refine g_strC (pc := 7) dJ0l_7 hi fs_cod ?_
  refine g_if_ne (pc := 10) (tgt := 17) dJ0l_10 (by decide) (fun z => absurd rfl z) fun _ => ?_
  refine g_iconst (pc := 13) (v := 1) dJ0l_13 (by decide) ?_
  refine g_goto (pc := 14) (tgt := 18) dJ0l_14 (by decide) ?_
  exact g_iret (pc := 18) dJ0l_18 rfl rfl rfl ⟨rfl, rfl⟩
theorem cod_ok (m : MM) {i : Nat} (hi : i < 27) : Runs e_J0_coder [.ref (1000 + 2 * i)] m (fun r m' => r = .int 0 ∧ m' = m) := by
  refine runs_of_G (L := [(0, .ref (1000 + 2 * i))]) pl_J0 (Nat.le_of_ble_eq_true rfl) rfl ?_
  refine g_com (pc := 0) dJ0o_0 fs_com ?_
  refine g_if_eq (pc := 3) (tgt := 13) dJ0o_3 (by decide) (fun z => absurd z (by decide)) fun _ => ?_
  refine g_aload_n (pc := 6) (x := 1000 + 2 * i) dJ0o_6 rfl ?_
  refine g_strC (pc := 7) dJ0o_7 hi fs_cod ?_
  refine g_goto (pc := 10) (tgt := 14) dJ0o_10 (by decide) ?_
  exact g_iret (pc := 14) dJ0o_14 rfl rfl rfl ⟨rfl, rfl⟩
theorem charAt_ok (m : MM) {i j : Nat} (hi : i < 27) (hj : j < strLen.getD i 0) : Runs e_J0_charAt [.ref (1000 + 2 * i), .int (nI j)] m (fun r m' => r = .int (nI (chN i j)) ∧ m' = m) := by
  have h7 := s_small i hi
  obtain ⟨e1, e2, e3⟩ := ch_ok i hi j (by omega) hj
  refine runs_of_G (L := [(0, .ref (1000 + 2 * i)), (1, .int (nI j))]) pl_J0 (Nat.le_of_ble_eq_true rfl) rfl ?_
  refine g_aload_n (pc := 0) (x := 1000 + 2 * i) dJ0a_0 rfl ?_
  refine g_callVs (pc := 1) (as := []) (rest := []) dJ0a_1 cs_lat hi (by decide) rfl rfl (by decide) (lat_ok m hi) ?_
  rintro r m' - ⟨rfl, rfl⟩
  refine g_if_eq (pc := 4) (tgt := 16) dJ0a_4 (by decide) (fun z => absurd z (by decide)) fun _ => ?_
  refine g_aload_n (pc := 7) (x := 1000 + 2 * i) dJ0a_7 rfl ?_
  refine g_strV (pc := 8) dJ0a_8 hi fs_val ?_
  refine g_iload_n (pc := 11) (x := nI j) dJ0a_11 rfl ?_
  refine g_callS (pc := 12) (as := [.ref (1001 + 2 * i), .int (nI j)]) (rest := []) dJ0a_12 cs_l1 (by decide) rfl rfl (by decide) (l1_ok m' hi hj) ?_
  rintro r m2 - ⟨rfl, rfl⟩
  exact g_iret (pc := 15) dJ0a_15 rfl rfl (pk_charN (by omega)).1 ⟨rfl, rfl⟩
theorem length_ok (m : MM) {i : Nat} (hi : i < 27) : Runs e_J0_length [.ref (1000 + 2 * i)] m (fun r m' => r = .int (nI (strLen.getD i 0)) ∧ m' = m) := by
  have h7 := s_small i hi
  refine runs_of_G (L := [(0, .ref (1000 + 2 * i))]) pl_J0 (Nat.le_of_ble_eq_true rfl) rfl ?_
  refine g_aload_n (pc := 0) (x := 1000 + 2 * i) dJ0n_0 rfl ?_
  refine g_strV (pc := 1) dJ0n_1 hi fs_val ?_
  refine g_strL (pc := 4) dJ0n_4 hi ?_
  refine g_aload_n (pc := 5) (x := 1000 + 2 * i) dJ0n_5 rfl ?_
  refine g_callVs (pc := 6) (as := []) (rest := [.int (nI (strLen.getD i 0))]) dJ0n_6 cs_cod hi (by decide) rfl rfl (Nat.le_of_ble_eq_true rfl) (cod_ok m hi) ?_
  rintro r m' - ⟨rfl, rfl⟩
  refine g_ishr (pc := 9) dJ0n_9 ?_
  have e : nI (strLen.getD i 0) >>> ((0 : Int32) &&& 31) = nI (strLen.getD i 0) := by
    rw [pk_shrN (by omega) ((0 : Int32) &&& 31) 0 (by decide), Nat.pow_zero, Nat.div_one]
  rw [e]
  exact g_iret (pc := 10) dJ0n_10 rfl rfl rfl ⟨rfl, rfl⟩
/-! the class's members that ask the texts -/
/-- the tape: n bytes f -/
def Tap (m : MM) (n : Nat) (f : Nat → Nat) : Prop := m.1 5 4 = nI n ∧ n ≤ 2000 ∧ ∀ p, p < n → m.1 6 p &&& 255 = nI (f p) ∧ f p < 256
theorem byteX {m : MM} {n p : Nat} {f : Nat → Nat} (h : Tap m n f) (hp : p < n) : o_X7_byteAt m (nI p) ∧ v_X7_byteAt m (nI p) = nI (f p) := by
  obtain ⟨h1, h2, h3⟩ := h
  unfold o_X7_byteAt v_X7_byteAt
  rw [h1, nI_clamp (by omega), cite_neg (nI_pos (by omega)), cite_neg (nI_ge hp (by omega)), (h3 p hp).1]
  exact ⟨⟨fun z => absurd z (nI_pos (by omega)), fun _ => ⟨fun z => absurd z (nI_ge hp (by omega)), fun _ => ⟨vp_in_nI (by omega) (by omega), trivial⟩⟩⟩, rfl⟩
theorem byteX_out {m : MM} {n p : Nat} {f : Nat → Nat} (h : Tap m n f) (hp : n ≤ p) (hp2 : p < 2 ^ 31) : o_X7_byteAt m (nI p) ∧ v_X7_byteAt m (nI p) = -1 := by
  obtain ⟨h1, h2, h3⟩ := h
  unfold o_X7_byteAt v_X7_byteAt
  rw [h1, cite_neg (nI_pos (by omega)), cite_pos (nI_le hp (by omega))]
  exact ⟨⟨fun _ => trivial, fun _ => ⟨fun _ => trivial, fun z => absurd (nI_le hp (by omega)) z⟩⟩, rfl⟩
theorem byteR {m : MM} {n p : Nat} {f : Nat → Nat} (h : Tap m n f) (hp : p < n) : Runs e_X7_byteAt [.ref 5, .int (nI p)] m (fun r m' => r = .int (nI (f p)) ∧ m' = m) := by
  obtain ⟨o, e⟩ := byteX h hp
  refine runs_to (rv_X7_byteAt m (nI p) o) ?_
  rintro r m' ⟨rfl, rfl⟩
  exact ⟨by rw [e], rfl⟩
def spP (f : Nat → Nat) (k a b : Nat) : Prop := strLen.getD k 0 = b - a ∧ ∀ j, j < strLen.getD k 0 → f (a + j) = chN k j
noncomputable def spB (f : Nat → Nat) (k a b : Nat) : Bool := @decide (spP f k a b) (Classical.propDecidable _)
theorem spB_t {f : Nat → Nat} {k a b : Nat} (h : spP f k a b) : spB f k a b = true := @decide_eq_true _ (Classical.propDecidable _) h
theorem spB_f {f : Nat → Nat} {k a b : Nat} (h : ¬ spP f k a b) : spB f k a b = false := @decide_eq_false _ (Classical.propDecidable _) h
theorem spells_ok {m : MM} {n k a b : Nat} {f : Nat → Nat} (h : Tap m n f) (hk : k < 27) (hab : a ≤ b) (hb : b ≤ n) : Runs e_X7_spells [.ref 5, .ref (1000 + 2 * k), .int (nI a), .int (nI b)] m (fun r m' => r = .int (bI (spB f k a b)) ∧ m' = m) := by
  have h7 := s_small k hk
  have h2 := h.2.1
  refine runs_of_G (L := [(0, .ref 5), (1, .ref (1000 + 2 * k)), (2, .int (nI a)), (3, .int (nI b))]) pl_X7 (Nat.le_of_ble_eq_true rfl) rfl ?_
  refine g_aload_n (pc := 0) (x := 1000 + 2 * k) dX7s_0 rfl ?_
  refine g_callVs (pc := 1) (as := []) (rest := []) dX7s_1 cs_len hk (by decide) rfl rfl (by decide) (length_ok m hk) ?_
  rintro r m' - ⟨rfl, rfl⟩
  refine g_iload_n (pc := 4) (x := nI b) dX7s_4 rfl ?_
  refine g_iload_n (pc := 5) (x := nI a) dX7s_5 rfl ?_
  refine g_isub (pc := 6) dX7s_6 ?_
  rw [pk_sub hab]
  refine g_icmp_eq (pc := 7) (tgt := 12) dX7s_7 (by decide) (fun c => ?_) fun c => ?_
  · have c : strLen.getD k 0 = b - a := (nI_eq (by omega) (by omega)).mp c
    refine g_iconst (pc := 12) (v := nI 0) dX7s_12 (by decide) ?_
    refine g_istore (pc := 13) (L' := [(0, .ref 5), (1, .ref (1000 + 2 * k)), (2, .int (nI a)), (3, .int (nI b)), (4, .int (nI 0))]) dX7s_13 (by decide) rfl ?_
    refine for_up (Y := e_X7_spells) (pc := 15) (fun j => [(0, .ref 5), (1, .ref (1000 + 2 * k)), (2, .int (nI a)), (3, .int (nI b)), (4, .int (nI j))]) (fun j m2 => m2 = m' ∧ ∀ i, i < j → f (a + i) = chN k i) (strLen.getD k 0) ?_ ?_ 0 m' (by omega) ⟨rfl, fun i hi => absurd hi (Nat.not_lt_zero _)⟩
    · rintro m2 ⟨rfl, hall⟩
      refine g_iload (pc := 15) (x := nI (strLen.getD k 0)) dX7s_15 rfl ?_
      refine g_aload_n (pc := 17) (x := 1000 + 2 * k) dX7s_17 rfl ?_
      refine g_callVs (pc := 18) (as := []) (rest := [.int (nI (strLen.getD k 0))]) dX7s_18 cs_len hk (by decide) rfl rfl (Nat.le_of_ble_eq_true rfl) (length_ok m2 hk) ?_
      rintro r m3 - ⟨rfl, rfl⟩
      refine g_icmp_ge (pc := 21) (tgt := 49) dX7s_21 (by decide) (fun _ => ?_) fun z => absurd (nI_le (Nat.le_refl _) (by omega)) z
      refine g_iconst (pc := 49) (v := 1) dX7s_49 (by decide) ?_
      exact g_iret (pc := 50) dX7s_50 rfl rfl rfl ⟨by rw [spB_t ⟨c, hall⟩]; rfl, rfl⟩
    · rintro j m2 hj ⟨rfl, hall⟩ hg
      refine g_iload (pc := 15) (x := nI j) dX7s_15 rfl ?_
      refine g_aload_n (pc := 17) (x := 1000 + 2 * k) dX7s_17 rfl ?_
      refine g_callVs (pc := 18) (as := []) (rest := [.int (nI j)]) dX7s_18 cs_len hk (by decide) rfl rfl (Nat.le_of_ble_eq_true rfl) (length_ok m2 hk) ?_
      rintro r m3 - ⟨rfl, rfl⟩
      refine g_icmp_ge (pc := 21) (tgt := 49) dX7s_21 (by decide) (fun z => absurd z (nI_ge hj (by omega))) fun _ => ?_
      refine g_aload_n (pc := 24) (x := 1000 + 2 * k) dX7s_24 rfl ?_
      refine g_iload (pc := 25) (x := nI j) dX7s_25 rfl ?_
      refine g_callVs (pc := 27) (as := [.int (nI j)]) (rest := []) dX7s_27 cs_chr hk (by decide) rfl rfl (by decide) (charAt_ok m3 hk hj) ?_
      rintro r m4 - ⟨rfl, rfl⟩
      refine g_aload_n (pc := 30) (x := 5) dX7s_30 rfl ?_
      refine g_iload_n (pc := 31) (x := nI a) dX7s_31 rfl ?_
      refine g_iload (pc := 32) (x := nI j) dX7s_32 rfl ?_
      refine g_iadd (pc := 34) dX7s_34 ?_
      rw [nI_add]
      refine g_callV (pc := 35) (as := [.int (nI (a + j))]) (rest := [.int (nI (chN k j))]) dX7s_35 cw_X7_41 (by decide) rfl rfl sh_5 (Nat.le_of_ble_eq_true rfl) (byteR h (by omega)) ?_
      rintro r m5 - ⟨rfl, rfl⟩
      obtain ⟨-, e2, e3⟩ := ch_ok k hk j (by omega) hj
      have hf := (h.2.2 (a + j) (by omega)).2
      refine g_icmp_eq (pc := 38) (tgt := 43) dX7s_38 (by decide) (fun z => ?_) fun z => ?_
      · have z : chN k j = f (a + j) := (nI_eq (by omega) (by omega)).mp z
        refine g_iinc (pc := 43) (x := nI j) (v := nI (j + 1)) (L' := [(0, .ref 5), (1, .ref (1000 + 2 * k)), (2, .int (nI a)), (3, .int (nI b)), (4, .int (nI (j + 1)))]) dX7s_43 rfl (nI_1 j) (by decide) rfl ?_
        refine g_goto (pc := 46) (tgt := 15) dX7s_46 (by decide) ?_
        refine hg m5 ⟨rfl, fun i hi => ?_⟩
        by_cases cc : i = j
        · subst cc; exact z.symm
        · exact hall i (by omega)
      · refine g_iconst (pc := 41) (v := 0) dX7s_41 (by decide) ?_
        exact g_iret (pc := 42) dX7s_42 rfl rfl rfl ⟨by rw [spB_f (fun y => z (congrArg nI (y.2 j hj).symm))]; rfl, rfl⟩
  · refine g_iconst (pc := 10) (v := 0) dX7s_10 (by decide) ?_
    exact g_iret (pc := 11) dX7s_11 rfl rfl rfl ⟨by rw [spB_f (fun y => c (congrArg nI y.1))]; rfl, rfl⟩
theorem dX7p_0 : decode cX7_spelling 0 = .ok (.iload_n 0, 1) := by decide +kernel
theorem dX7p_120 : decode cX7_spelling 120 = .ok (.ldc 87, 2) := by decide +kernel
theorem dX7p_122 : decode cX7_spelling 122 = .ok (.areturn, 1) := by decide +kernel
theorem dX7p_123 : decode cX7_spelling 123 = .ok (.ldc 89, 2) := by decide +kernel
theorem dX7p_125 : decode cX7_spelling 125 = .ok (.areturn, 1) := by decide +kernel
theorem dX7p_126 : decode cX7_spelling 126 = .ok (.ldc 91, 2) := by decide +kernel
theorem dX7p_128 : decode cX7_spelling 128 = .ok (.areturn, 1) := by decide +kernel
theorem dX7p_129 : decode cX7_spelling 129 = .ok (.ldc 93, 2) := by decide +kernel
theorem dX7p_131 : decode cX7_spelling 131 = .ok (.areturn, 1) := by decide +kernel
theorem dX7p_132 : decode cX7_spelling 132 = .ok (.ldc 95, 2) := by decide +kernel
theorem dX7p_134 : decode cX7_spelling 134 = .ok (.areturn, 1) := by decide +kernel
theorem dX7p_135 : decode cX7_spelling 135 = .ok (.ldc 97, 2) := by decide +kernel
theorem dX7p_137 : decode cX7_spelling 137 = .ok (.areturn, 1) := by decide +kernel
theorem dX7p_138 : decode cX7_spelling 138 = .ok (.ldc 99, 2) := by decide +kernel
theorem dX7p_140 : decode cX7_spelling 140 = .ok (.areturn, 1) := by decide +kernel
theorem dX7p_141 : decode cX7_spelling 141 = .ok (.ldc 101, 2) := by decide +kernel
theorem dX7p_143 : decode cX7_spelling 143 = .ok (.areturn, 1) := by decide +kernel
theorem dX7p_144 : decode cX7_spelling 144 = .ok (.ldc 103, 2) := by decide +kernel
theorem dX7p_146 : decode cX7_spelling 146 = .ok (.areturn, 1) := by decide +kernel
theorem dX7p_147 : decode cX7_spelling 147 = .ok (.ldc 105, 2) := by decide +kernel
theorem dX7p_149 : decode cX7_spelling 149 = .ok (.areturn, 1) := by decide +kernel
theorem dX7p_150 : decode cX7_spelling 150 = .ok (.ldc 107, 2) := by decide +kernel
theorem dX7p_152 : decode cX7_spelling 152 = .ok (.areturn, 1) := by decide +kernel
theorem dX7p_153 : decode cX7_spelling 153 = .ok (.ldc 109, 2) := by decide +kernel
theorem dX7p_155 : decode cX7_spelling 155 = .ok (.areturn, 1) := by decide +kernel
theorem dX7p_156 : decode cX7_spelling 156 = .ok (.ldc 111, 2) := by decide +kernel
theorem dX7p_158 : decode cX7_spelling 158 = .ok (.areturn, 1) := by decide +kernel
theorem dX7p_159 : decode cX7_spelling 159 = .ok (.ldc 113, 2) := by decide +kernel
theorem dX7p_161 : decode cX7_spelling 161 = .ok (.areturn, 1) := by decide +kernel
theorem dX7p_162 : decode cX7_spelling 162 = .ok (.ldc 115, 2) := by decide +kernel
theorem dX7p_164 : decode cX7_spelling 164 = .ok (.areturn, 1) := by decide +kernel
theorem dX7p_165 : decode cX7_spelling 165 = .ok (.ldc 117, 2) := by decide +kernel
theorem dX7p_167 : decode cX7_spelling 167 = .ok (.areturn, 1) := by decide +kernel
theorem dX7p_168 : decode cX7_spelling 168 = .ok (.ldc 119, 2) := by decide +kernel
theorem dX7p_170 : decode cX7_spelling 170 = .ok (.areturn, 1) := by decide +kernel
theorem dX7p_171 : decode cX7_spelling 171 = .ok (.ldc 121, 2) := by decide +kernel
theorem dX7p_173 : decode cX7_spelling 173 = .ok (.areturn, 1) := by decide +kernel
theorem dX7p_174 : decode cX7_spelling 174 = .ok (.ldc 123, 2) := by decide +kernel
theorem dX7p_176 : decode cX7_spelling 176 = .ok (.areturn, 1) := by decide +kernel
theorem dX7p_177 : decode cX7_spelling 177 = .ok (.ldc 125, 2) := by decide +kernel
theorem dX7p_179 : decode cX7_spelling 179 = .ok (.areturn, 1) := by decide +kernel
theorem dX7p_180 : decode cX7_spelling 180 = .ok (.ldc 127, 2) := by decide +kernel
theorem dX7p_182 : decode cX7_spelling 182 = .ok (.areturn, 1) := by decide +kernel
theorem dX7p_183 : decode cX7_spelling 183 = .ok (.ldc 129, 2) := by decide +kernel
theorem dX7p_185 : decode cX7_spelling 185 = .ok (.areturn, 1) := by decide +kernel
theorem dX7p_186 : decode cX7_spelling 186 = .ok (.ldc 131, 2) := by decide +kernel
theorem dX7p_188 : decode cX7_spelling 188 = .ok (.areturn, 1) := by decide +kernel
theorem dX7p_189 : decode cX7_spelling 189 = .ok (.ldc 133, 2) := by decide +kernel
theorem dX7p_191 : decode cX7_spelling 191 = .ok (.areturn, 1) := by decide +kernel
theorem dX7p_192 : decode cX7_spelling 192 = .ok (.ldc 135, 2) := by decide +kernel
theorem dX7p_194 : decode cX7_spelling 194 = .ok (.areturn, 1) := by decide +kernel
theorem dX7p_195 : decode cX7_spelling 195 = .ok (.ldc 137, 2) := by decide +kernel
theorem dX7p_197 : decode cX7_spelling 197 = .ok (.areturn, 1) := by decide +kernel
theorem dX7p_1 : decode cX7_spelling 1 = .ok (.tableswitch 197 0 25 #[119, 122, 125, 128, 131, 134, 137, 140, 143, 146, 149, 152, 155, 158, 161, 164, 167, 170, 173, 176, 179, 182, 185, 188, 191, 194], 119) := by decide +kernel
theorem spelling_ok (m : MM) : ∀ k : Nat, k < 26 → Runs e_X7_spelling [.int (nI k)] m (fun r m' => r = .ref (1000 + 2 * k) ∧ m' = m) := by
  intro k hk
  match k, hk with
  | 0, _ => exact runs_of_G (L := [(0, .int (nI 0))]) pl_X7 (Nat.le_of_ble_eq_true rfl) rfl (g_iload_n (pc := 0) (x := nI 0) dX7p_0 rfl (g_tsIn (pc := 1) (off := 119) (tgt := 120) dX7p_1 (by decide) (by decide) rfl (by decide) (g_ldcS (pc := 120) (i := 0) dX7p_120 rfl rfl rfl (g_aret (pc := 122) (r := 1000) (nm := "java/lang/String") dX7p_122 rfl rfl ⟨rfl, rfl⟩))))
  | 1, _ => exact runs_of_G (L := [(0, .int (nI 1))]) pl_X7 (Nat.le_of_ble_eq_true rfl) rfl (g_iload_n (pc := 0) (x := nI 1) dX7p_0 rfl (g_tsIn (pc := 1) (off := 122) (tgt := 123) dX7p_1 (by decide) (by decide) rfl (by decide) (g_ldcS (pc := 123) (i := 1) dX7p_123 rfl rfl rfl (g_aret (pc := 125) (r := 1002) (nm := "java/lang/String") dX7p_125 rfl rfl ⟨rfl, rfl⟩))))
  | 2, _ => exact runs_of_G (L := [(0, .int (nI 2))]) pl_X7 (Nat.le_of_ble_eq_true rfl) rfl (g_iload_n (pc := 0) (x := nI 2) dX7p_0 rfl (g_tsIn (pc := 1) (off := 125) (tgt := 126) dX7p_1 (by decide) (by decide) rfl (by decide) (g_ldcS (pc := 126) (i := 2) dX7p_126 rfl rfl rfl (g_aret (pc := 128) (r := 1004) (nm := "java/lang/String") dX7p_128 rfl rfl ⟨rfl, rfl⟩))))
  | 3, _ => exact runs_of_G (L := [(0, .int (nI 3))]) pl_X7 (Nat.le_of_ble_eq_true rfl) rfl (g_iload_n (pc := 0) (x := nI 3) dX7p_0 rfl (g_tsIn (pc := 1) (off := 128) (tgt := 129) dX7p_1 (by decide) (by decide) rfl (by decide) (g_ldcS (pc := 129) (i := 3) dX7p_129 rfl rfl rfl (g_aret (pc := 131) (r := 1006) (nm := "java/lang/String") dX7p_131 rfl rfl ⟨rfl, rfl⟩))))
  | 4, _ => exact runs_of_G (L := [(0, .int (nI 4))]) pl_X7 (Nat.le_of_ble_eq_true rfl) rfl (g_iload_n (pc := 0) (x := nI 4) dX7p_0 rfl (g_tsIn (pc := 1) (off := 131) (tgt := 132) dX7p_1 (by decide) (by decide) rfl (by decide) (g_ldcS (pc := 132) (i := 4) dX7p_132 rfl rfl rfl (g_aret (pc := 134) (r := 1008) (nm := "java/lang/String") dX7p_134 rfl rfl ⟨rfl, rfl⟩))))
  | 5, _ => exact runs_of_G (L := [(0, .int (nI 5))]) pl_X7 (Nat.le_of_ble_eq_true rfl) rfl (g_iload_n (pc := 0) (x := nI 5) dX7p_0 rfl (g_tsIn (pc := 1) (off := 134) (tgt := 135) dX7p_1 (by decide) (by decide) rfl (by decide) (g_ldcS (pc := 135) (i := 5) dX7p_135 rfl rfl rfl (g_aret (pc := 137) (r := 1010) (nm := "java/lang/String") dX7p_137 rfl rfl ⟨rfl, rfl⟩))))
  | 6, _ => exact runs_of_G (L := [(0, .int (nI 6))]) pl_X7 (Nat.le_of_ble_eq_true rfl) rfl (g_iload_n (pc := 0) (x := nI 6) dX7p_0 rfl (g_tsIn (pc := 1) (off := 137) (tgt := 138) dX7p_1 (by decide) (by decide) rfl (by decide) (g_ldcS (pc := 138) (i := 6) dX7p_138 rfl rfl rfl (g_aret (pc := 140) (r := 1012) (nm := "java/lang/String") dX7p_140 rfl rfl ⟨rfl, rfl⟩))))
  | 7, _ => exact runs_of_G (L := [(0, .int (nI 7))]) pl_X7 (Nat.le_of_ble_eq_true rfl) rfl (g_iload_n (pc := 0) (x := nI 7) dX7p_0 rfl (g_tsIn (pc := 1) (off := 140) (tgt := 141) dX7p_1 (by decide) (by decide) rfl (by decide) (g_ldcS (pc := 141) (i := 7) dX7p_141 rfl rfl rfl (g_aret (pc := 143) (r := 1014) (nm := "java/lang/String") dX7p_143 rfl rfl ⟨rfl, rfl⟩))))
  | 8, _ => exact runs_of_G (L := [(0, .int (nI 8))]) pl_X7 (Nat.le_of_ble_eq_true rfl) rfl (g_iload_n (pc := 0) (x := nI 8) dX7p_0 rfl (g_tsIn (pc := 1) (off := 143) (tgt := 144) dX7p_1 (by decide) (by decide) rfl (by decide) (g_ldcS (pc := 144) (i := 8) dX7p_144 rfl rfl rfl (g_aret (pc := 146) (r := 1016) (nm := "java/lang/String") dX7p_146 rfl rfl ⟨rfl, rfl⟩))))
  | 9, _ => exact runs_of_G (L := [(0, .int (nI 9))]) pl_X7 (Nat.le_of_ble_eq_true rfl) rfl (g_iload_n (pc := 0) (x := nI 9) dX7p_0 rfl (g_tsIn (pc := 1) (off := 146) (tgt := 147) dX7p_1 (by decide) (by decide) rfl (by decide) (g_ldcS (pc := 147) (i := 9) dX7p_147 rfl rfl rfl (g_aret (pc := 149) (r := 1018) (nm := "java/lang/String") dX7p_149 rfl rfl ⟨rfl, rfl⟩))))
  | 10, _ => exact runs_of_G (L := [(0, .int (nI 10))]) pl_X7 (Nat.le_of_ble_eq_true rfl) rfl (g_iload_n (pc := 0) (x := nI 10) dX7p_0 rfl (g_tsIn (pc := 1) (off := 149) (tgt := 150) dX7p_1 (by decide) (by decide) rfl (by decide) (g_ldcS (pc := 150) (i := 10) dX7p_150 rfl rfl rfl (g_aret (pc := 152) (r := 1020) (nm := "java/lang/String") dX7p_152 rfl rfl ⟨rfl, rfl⟩))))
  | 11, _ => exact runs_of_G (L := [(0, .int (nI 11))]) pl_X7 (Nat.le_of_ble_eq_true rfl) rfl (g_iload_n (pc := 0) (x := nI 11) dX7p_0 rfl (g_tsIn (pc := 1) (off := 152) (tgt := 153) dX7p_1 (by decide) (by decide) rfl (by decide) (g_ldcS (pc := 153) (i := 11) dX7p_153 rfl rfl rfl (g_aret (pc := 155) (r := 1022) (nm := "java/lang/String") dX7p_155 rfl rfl ⟨rfl, rfl⟩))))
  | 12, _ => exact runs_of_G (L := [(0, .int (nI 12))]) pl_X7 (Nat.le_of_ble_eq_true rfl) rfl (g_iload_n (pc := 0) (x := nI 12) dX7p_0 rfl (g_tsIn (pc := 1) (off := 155) (tgt := 156) dX7p_1 (by decide) (by decide) rfl (by decide) (g_ldcS (pc := 156) (i := 12) dX7p_156 rfl rfl rfl (g_aret (pc := 158) (r := 1024) (nm := "java/lang/String") dX7p_158 rfl rfl ⟨rfl, rfl⟩))))
  | 13, _ => exact runs_of_G (L := [(0, .int (nI 13))]) pl_X7 (Nat.le_of_ble_eq_true rfl) rfl (g_iload_n (pc := 0) (x := nI 13) dX7p_0 rfl (g_tsIn (pc := 1) (off := 158) (tgt := 159) dX7p_1 (by decide) (by decide) rfl (by decide) (g_ldcS (pc := 159) (i := 13) dX7p_159 rfl rfl rfl (g_aret (pc := 161) (r := 1026) (nm := "java/lang/String") dX7p_161 rfl rfl ⟨rfl, rfl⟩))))
  | 14, _ => exact runs_of_G (L := [(0, .int (nI 14))]) pl_X7 (Nat.le_of_ble_eq_true rfl) rfl (g_iload_n (pc := 0) (x := nI 14) dX7p_0 rfl (g_tsIn (pc := 1) (off := 161) (tgt := 162) dX7p_1 (by decide) (by decide) rfl (by decide) (g_ldcS (pc := 162) (i := 14) dX7p_162 rfl rfl rfl (g_aret (pc := 164) (r := 1028) (nm := "java/lang/String") dX7p_164 rfl rfl ⟨rfl, rfl⟩))))
  | 15, _ => exact runs_of_G (L := [(0, .int (nI 15))]) pl_X7 (Nat.le_of_ble_eq_true rfl) rfl (g_iload_n (pc := 0) (x := nI 15) dX7p_0 rfl (g_tsIn (pc := 1) (off := 164) (tgt := 165) dX7p_1 (by decide) (by decide) rfl (by decide) (g_ldcS (pc := 165) (i := 15) dX7p_165 rfl rfl rfl (g_aret (pc := 167) (r := 1030) (nm := "java/lang/String") dX7p_167 rfl rfl ⟨rfl, rfl⟩))))
  | 16, _ => exact runs_of_G (L := [(0, .int (nI 16))]) pl_X7 (Nat.le_of_ble_eq_true rfl) rfl (g_iload_n (pc := 0) (x := nI 16) dX7p_0 rfl (g_tsIn (pc := 1) (off := 167) (tgt := 168) dX7p_1 (by decide) (by decide) rfl (by decide) (g_ldcS (pc := 168) (i := 16) dX7p_168 rfl rfl rfl (g_aret (pc := 170) (r := 1032) (nm := "java/lang/String") dX7p_170 rfl rfl ⟨rfl, rfl⟩))))
  | 17, _ => exact runs_of_G (L := [(0, .int (nI 17))]) pl_X7 (Nat.le_of_ble_eq_true rfl) rfl (g_iload_n (pc := 0) (x := nI 17) dX7p_0 rfl (g_tsIn (pc := 1) (off := 170) (tgt := 171) dX7p_1 (by decide) (by decide) rfl (by decide) (g_ldcS (pc := 171) (i := 17) dX7p_171 rfl rfl rfl (g_aret (pc := 173) (r := 1034) (nm := "java/lang/String") dX7p_173 rfl rfl ⟨rfl, rfl⟩))))
  | 18, _ => exact runs_of_G (L := [(0, .int (nI 18))]) pl_X7 (Nat.le_of_ble_eq_true rfl) rfl (g_iload_n (pc := 0) (x := nI 18) dX7p_0 rfl (g_tsIn (pc := 1) (off := 173) (tgt := 174) dX7p_1 (by decide) (by decide) rfl (by decide) (g_ldcS (pc := 174) (i := 18) dX7p_174 rfl rfl rfl (g_aret (pc := 176) (r := 1036) (nm := "java/lang/String") dX7p_176 rfl rfl ⟨rfl, rfl⟩))))
  | 19, _ => exact runs_of_G (L := [(0, .int (nI 19))]) pl_X7 (Nat.le_of_ble_eq_true rfl) rfl (g_iload_n (pc := 0) (x := nI 19) dX7p_0 rfl (g_tsIn (pc := 1) (off := 176) (tgt := 177) dX7p_1 (by decide) (by decide) rfl (by decide) (g_ldcS (pc := 177) (i := 19) dX7p_177 rfl rfl rfl (g_aret (pc := 179) (r := 1038) (nm := "java/lang/String") dX7p_179 rfl rfl ⟨rfl, rfl⟩))))
  | 20, _ => exact runs_of_G (L := [(0, .int (nI 20))]) pl_X7 (Nat.le_of_ble_eq_true rfl) rfl (g_iload_n (pc := 0) (x := nI 20) dX7p_0 rfl (g_tsIn (pc := 1) (off := 179) (tgt := 180) dX7p_1 (by decide) (by decide) rfl (by decide) (g_ldcS (pc := 180) (i := 20) dX7p_180 rfl rfl rfl (g_aret (pc := 182) (r := 1040) (nm := "java/lang/String") dX7p_182 rfl rfl ⟨rfl, rfl⟩))))
  | 21, _ => exact runs_of_G (L := [(0, .int (nI 21))]) pl_X7 (Nat.le_of_ble_eq_true rfl) rfl (g_iload_n (pc := 0) (x := nI 21) dX7p_0 rfl (g_tsIn (pc := 1) (off := 182) (tgt := 183) dX7p_1 (by decide) (by decide) rfl (by decide) (g_ldcS (pc := 183) (i := 21) dX7p_183 rfl rfl rfl (g_aret (pc := 185) (r := 1042) (nm := "java/lang/String") dX7p_185 rfl rfl ⟨rfl, rfl⟩))))
  | 22, _ => exact runs_of_G (L := [(0, .int (nI 22))]) pl_X7 (Nat.le_of_ble_eq_true rfl) rfl (g_iload_n (pc := 0) (x := nI 22) dX7p_0 rfl (g_tsIn (pc := 1) (off := 185) (tgt := 186) dX7p_1 (by decide) (by decide) rfl (by decide) (g_ldcS (pc := 186) (i := 22) dX7p_186 rfl rfl rfl (g_aret (pc := 188) (r := 1044) (nm := "java/lang/String") dX7p_188 rfl rfl ⟨rfl, rfl⟩))))
  | 23, _ => exact runs_of_G (L := [(0, .int (nI 23))]) pl_X7 (Nat.le_of_ble_eq_true rfl) rfl (g_iload_n (pc := 0) (x := nI 23) dX7p_0 rfl (g_tsIn (pc := 1) (off := 188) (tgt := 189) dX7p_1 (by decide) (by decide) rfl (by decide) (g_ldcS (pc := 189) (i := 23) dX7p_189 rfl rfl rfl (g_aret (pc := 191) (r := 1046) (nm := "java/lang/String") dX7p_191 rfl rfl ⟨rfl, rfl⟩))))
  | 24, _ => exact runs_of_G (L := [(0, .int (nI 24))]) pl_X7 (Nat.le_of_ble_eq_true rfl) rfl (g_iload_n (pc := 0) (x := nI 24) dX7p_0 rfl (g_tsIn (pc := 1) (off := 191) (tgt := 192) dX7p_1 (by decide) (by decide) rfl (by decide) (g_ldcS (pc := 192) (i := 24) dX7p_192 rfl rfl rfl (g_aret (pc := 194) (r := 1048) (nm := "java/lang/String") dX7p_194 rfl rfl ⟨rfl, rfl⟩))))
  | 25, _ => exact runs_of_G (L := [(0, .int (nI 25))]) pl_X7 (Nat.le_of_ble_eq_true rfl) rfl (g_iload_n (pc := 0) (x := nI 25) dX7p_0 rfl (g_tsIn (pc := 1) (off := 194) (tgt := 195) dX7p_1 (by decide) (by decide) rfl (by decide) (g_ldcS (pc := 195) (i := 25) dX7p_195 rfl rfl rfl (g_aret (pc := 197) (r := 1050) (nm := "java/lang/String") dX7p_197 rfl rfl ⟨rfl, rfl⟩))))
  | _ + 26, h => exact absurd h (by omega)
noncomputable def wkN (f : Nat → Nat) (a b : Nat) : Nat := fa_first (fun k => spB f k a b) 26
theorem wordKind_ok {m : MM} {n a b : Nat} {f : Nat → Nat} (h : Tap m n f) (hab : a ≤ b) (hb : b ≤ n) : Runs e_X7_wordKind [.ref 5, .int (nI a), .int (nI b)] m (fun r m' => r = .int (nI (wkN f a b)) ∧ m' = m) := by
  refine runs_of_G (L := [(0, .ref 5), (1, .int (nI a)), (2, .int (nI b))]) pl_X7 (Nat.le_of_ble_eq_true rfl) rfl ?_
  refine g_iconst (pc := 0) (v := nI 0) dX7w_0 (by decide) ?_
  refine g_istore_n (pc := 1) (L' := [(0, .ref 5), (1, .int (nI a)), (2, .int (nI b)), (3, .int (nI 0))]) dX7w_1 (by decide) rfl ?_
  refine for_up (Y := e_X7_wordKind) (pc := 2) (fun k => [(0, .ref 5), (1, .int (nI a)), (2, .int (nI b)), (3, .int (nI k))]) (fun k m2 => m2 = m ∧ ∀ i, i < k → spB f i a b = false) 26 ?_ ?_ 0 m (by omega) ⟨rfl, fun i hi => absurd hi (Nat.not_lt_zero _)⟩
  · rintro m2 ⟨rfl, hall⟩
    refine g_iload_n (pc := 2) (x := nI 26) dX7w_2 rfl ?_
    refine g_bipush (pc := 3) (v := nI 25) dX7w_3 (by decide) ?_
    refine g_icmp_gt (pc := 5) (tgt := 29) dX7w_5 (by decide) (fun _ => ?_) fun z => absurd (by decide) z
    refine g_bipush (pc := 29) (v := nI 26) dX7w_29 (by decide) ?_
    refine g_iret (pc := 31) dX7w_31 rfl rfl rfl ⟨?_, rfl⟩
    unfold wkN
    rw [fa_first_none hall]
  · rintro k m2 hk ⟨rfl, hall⟩ hg
    refine g_iload_n (pc := 2) (x := nI k) dX7w_2 rfl ?_
    refine g_bipush (pc := 3) (v := nI 25) dX7w_3 (by decide) ?_
    refine g_icmp_gt (pc := 5) (tgt := 29) dX7w_5 (by decide) (fun z => absurd z (nI_nlt (a := 25) (b := k) (by omega) (by omega))) fun _ => ?_
    refine g_aload_n (pc := 8) (x := 5) dX7w_8 rfl ?_
    refine g_iload_n (pc := 9) (x := nI k) dX7w_9 rfl ?_
    refine g_callS (pc := 10) (as := [.int (nI k)]) (rest := [.ref 5]) dX7w_10 cw_X7_69 (by decide) rfl rfl (by decide) (spelling_ok m2 k hk) ?_
    rintro r m3 - ⟨rfl, rfl⟩
    refine g_iload_n (pc := 13) (x := nI a) dX7w_13 rfl ?_
    refine g_iload_n (pc := 14) (x := nI b) dX7w_14 rfl ?_
    refine g_callV (pc := 15) (as := [.ref (1000 + 2 * k), .int (nI a), .int (nI b)]) (rest := []) dX7w_15 cw_X7_73 (by decide) rfl rfl sh_5 (by decide) (spells_ok h (show k < 27 by omega) hab hb) ?_
    rintro r m4 - ⟨rfl, rfl⟩
    refine g_if_eq (pc := 18) (tgt := 23) dX7w_18 (by decide) (fun z => ?_) fun z => ?_
    · have hb0 : spB f k a b = false := by
        cases e : spB f k a b with
        | false => rfl
        | true => rw [e] at z; exact absurd z (by decide)
      refine g_iinc (pc := 23) (x := nI k) (v := nI (k + 1)) (L' := [(0, .ref 5), (1, .int (nI a)), (2, .int (nI b)), (3, .int (nI (k + 1)))]) dX7w_23 rfl (nI_1 k) (by decide) rfl ?_
      refine g_goto (pc := 26) (tgt := 2) dX7w_26 (by decide) ?_
      refine hg m4 ⟨rfl, fun i hi => ?_⟩
      by_cases cc : i = k
      · subst cc; exact hb0
      · exact hall i (by omega)
    · have hb1 : spB f k a b = true := by
        cases e : spB f k a b with
        | true => rfl
        | false => rw [e] at z; exact absurd rfl z
      refine g_iload_n (pc := 21) (x := nI k) dX7w_21 rfl ?_
      refine g_iret (pc := 22) dX7w_22 rfl rfl rfl ⟨?_, rfl⟩
      unfold wkN
      rw [fa_first_at hk hb1 hall]

/-! the law over the numbered world: 5000 stands for the script -/
def CxL (Ln : Nat) (xs : Nat → Int32) (p : Program) (s : State) (m : MethodId) (meth : Method) (c : Code) (D : va_G) (ad : Nat → Nat) (ca : Nat → ClassId) : Prop :=
  lw_At p s m meth c (ad 5000) Ln xs ∧ va_K D classes (tysOf ca) s ∧ adI ad ∧ (∀ i, i < nS → s.heap.size ≤ ad i) ∧ StrX ad (fun q => s.heap.size ≤ q) s s.heap
def GL (Ln : Nat) (xs : Nat → Int32) (kc ks pc : Nat) (L : List (Nat × Value)) (st : List Value) (mm : MM) : Prop :=
  ∀ (p : Program) (l : Launch) (e : Env) (s : State) (m : MethodId) (below : List Frame) (meth : Method) (c : Code) (D : va_G) (ad : Nat → Nat) (ca : Nat → ClassId), CxL Ln xs p s m meth c D ad ca →
  ∀ (H : Heap) (locs : List Loc) (ls : Array Slot), va_P D classes (wsOf ad ca mm) H → va_S (fun q => s.heap.size ≤ q) s.heap H locs → lv_has ls 4 (cL ad L) →
  W p l e room_1 s m #[Value.ref (ad 5000)] below meth c H locs kc ks (lw_Z below #[Value.ref (ad 5000)] s) (F0 m pc ls (cS ad st))
section GLR
variable {Ln : Nat} {xs : Nat → Int32} {kc ks pc : Nat} {L : List (Nat × Value)} {rest : List Value} {mm : MM}
theorem l_iconst {n : Int} {v : Int32} (d : decode code pc = .ok (.iconst n, 1)) (hv : Int32.ofInt n = v) (k : GL Ln xs kc ks (pc + 1) L (.int v :: rest) mm) : GL Ln xs kc ks pc L (rest) mm := by
  intro p l e s m below meth c D ad ca C H locs ls hP hS hl
  exact lv_iconst C.1.1 C.1.2.1 d hv (k p l e s m below meth c D ad ca C H locs ls hP hS hl)
theorem l_bipush {n : Int} {v : Int32} (d : decode code pc = .ok (.bipush n, 2)) (hv : (Int8.ofInt n).toInt32 = v) (k : GL Ln xs kc ks (pc + 2) L (.int v :: rest) mm) : GL Ln xs kc ks pc L (rest) mm := by
  intro p l e s m below meth c D ad ca C H locs ls hP hS hl
  exact lv_bipush C.1.1 C.1.2.1 d hv (k p l e s m below meth c D ad ca C H locs ls hP hS hl)
theorem l_iload_n {j : Fin 4} {x : Int32} (d : decode code pc = .ok (.iload_n j, 1)) (hg : lget (j : Nat) L = some (.int x)) (k : GL Ln xs kc ks (pc + 1) L (.int x :: rest) mm) : GL Ln xs kc ks pc L (rest) mm := by
  intro p l e s m below meth c D ad ca C H locs ls hP hS hl
  exact lv_iload_n C.1.1 C.1.2.1 d rfl (lv_get hl hg) (k p l e s m below meth c D ad ca C H locs ls hP hS hl)
theorem l_aload_n {j : Fin 4} {x : Nat} (d : decode code pc = .ok (.aload_n j, 1)) (hg : lget (j : Nat) L = some (.ref x)) (k : GL Ln xs kc ks (pc + 1) L (.ref x :: rest) mm) : GL Ln xs kc ks pc L (rest) mm := by
  intro p l e s m below meth c D ad ca C H locs ls hP hS hl
  exact lv_aload_n C.1.1 C.1.2.1 d rfl (lv_get hl hg) (k p l e s m below meth c D ad ca C H locs ls hP hS hl)
theorem l_iadd {x y : Int32} (d : decode code pc = .ok (.iadd, 1)) (k : GL Ln xs kc ks (pc + 1) L (.int (x + y) :: rest) mm) : GL Ln xs kc ks pc L (.int y :: .int x :: rest) mm := by
  intro p l e s m below meth c D ad ca C H locs ls hP hS hl
  exact lv_iadd C.1.1 C.1.2.1 d (k p l e s m below meth c D ad ca C H locs ls hP hS hl)
theorem l_isub {x y : Int32} (d : decode code pc = .ok (.isub, 1)) (k : GL Ln xs kc ks (pc + 1) L (.int (x - y) :: rest) mm) : GL Ln xs kc ks pc L (.int y :: .int x :: rest) mm := by
  intro p l e s m below meth c D ad ca C H locs ls hP hS hl
  exact lv_isub C.1.1 C.1.2.1 d (k p l e s m below meth c D ad ca C H locs ls hP hS hl)
theorem l_iand {x y : Int32} (d : decode code pc = .ok (.iand, 1)) (k : GL Ln xs kc ks (pc + 1) L (.int (x &&& y) :: rest) mm) : GL Ln xs kc ks pc L (.int y :: .int x :: rest) mm := by
  intro p l e s m below meth c D ad ca C H locs ls hP hS hl
  exact lv_iand C.1.1 C.1.2.1 d (k p l e s m below meth c D ad ca C H locs ls hP hS hl)
theorem l_iinc {i : Nat} {n : Int} {x v : Int32} {L' : List (Nat × Value)} (d : decode code pc = .ok (.iinc i n, 3)) (hg : lget i L = some (.int x)) (hv : x + Int32.ofInt n = v) (hn : i < 4) (hL : lrep i (.int v) L = L') (k : GL Ln xs kc ks (pc + 3) L' rest mm) : GL Ln xs kc ks pc L rest mm := by
  intro p l e s m below meth c D ad ca C H locs ls hP hS hl
  obtain ⟨z, hz⟩ := lget_place hg
  exact lv_iinc C.1.1 C.1.2.1 d hl (show (cL ad L)[z]? = some (i, .int x) by unfold cL; rw [List.getElem?_map, hz]; rfl) hv hn rfl (fun ls' hl' => k p l e s m below meth c D ad ca C H locs ls' hP hS (lv_rep hl' hL))
theorem l_goto {off : Int} {tgt : Nat} (d : decode code pc = .ok (.goto off, 3)) (ht : (pc : Int) + off = (tgt : Int)) (k : GL Ln xs kc ks tgt L rest mm) : GL Ln xs kc ks pc L rest mm := by
  intro p l e s m below meth c D ad ca C H locs ls hP hS hl
  exact lv_goto C.1.1 C.1.2.1 d ht (k p l e s m below meth c D ad ca C H locs ls hP hS hl)
theorem l_icmp_eq {x y : Int32} {off : Int} {tgt : Nat} (d : decode code pc = .ok (.if_icmp .eq off, 3)) (ht : (pc : Int) + off = (tgt : Int)) (kt : x = y → GL Ln xs kc ks tgt L rest mm) (kf : ¬ x = y → GL Ln xs kc ks (pc + 3) L rest mm) : GL Ln xs kc ks pc L (.int y :: .int x :: rest) mm := by
  intro p l e s m below meth c D ad ca C H locs ls hP hS hl
  exact lv_icmp_eq C.1.1 C.1.2.1 d ht (fun z => kt z p l e s m below meth c D ad ca C H locs ls hP hS hl) (fun z => kf z p l e s m below meth c D ad ca C H locs ls hP hS hl)
theorem l_icmp_gt {x y : Int32} {off : Int} {tgt : Nat} (d : decode code pc = .ok (.if_icmp .gt off, 3)) (ht : (pc : Int) + off = (tgt : Int)) (kt : y < x → GL Ln xs kc ks tgt L rest mm) (kf : ¬ y < x → GL Ln xs kc ks (pc + 3) L rest mm) : GL Ln xs kc ks pc L (.int y :: .int x :: rest) mm := by
  intro p l e s m below meth c D ad ca C H locs ls hP hS hl
  exact lv_icmp_gt C.1.1 C.1.2.1 d ht (fun z => kt z p l e s m below meth c D ad ca C H locs ls hP hS hl) (fun z => kf z p l e s m below meth c D ad ca C H locs ls hP hS hl)
theorem l_if_eq {x : Int32} {off : Int} {tgt : Nat} (d : decode code pc = .ok (.ifCond .eq off, 3)) (ht : (pc : Int) + off = (tgt : Int)) (kt : x = 0 → GL Ln xs kc ks tgt L rest mm) (kf : ¬ x = 0 → GL Ln xs kc ks (pc + 3) L rest mm) : GL Ln xs kc ks pc L (.int x :: rest) mm := by
  intro p l e s m below meth c D ad ca C H locs ls hP hS hl
  exact lv_if_eq C.1.1 C.1.2.1 d ht (fun z => kt z p l e s m below meth c D ad ca C H locs ls hP hS hl) (fun z => kf z p l e s m below meth c D ad ca C H locs ls hP hS hl)
theorem l_tsIn {dflt lo hi : Int} {offs : Array Int} {len : Nat} {x : Int32} {off : Int} {tgt : Nat} (d : decode code pc = .ok (.tableswitch dflt lo hi offs, len)) (h1 : ¬ x.toInt < lo) (h2 : ¬ hi < x.toInt) (ho : offs[(x.toInt - lo).toNat]? = some off) (ht : (pc : Int) + off = (tgt : Int)) (k : GL Ln xs kc ks tgt L rest mm) : GL Ln xs kc ks pc L (.int x :: rest) mm := by
  intro p l e s m below meth c D ad ca C H locs ls hP hS hl
  exact lv_tableIn C.1.1 C.1.2.1 d h1 h2 ho ht (k p l e s m below meth c D ad ca C H locs ls hP hS hl)
theorem l_tsOut {dflt lo hi : Int} {offs : Array Int} {len : Nat} {x : Int32} {tgt : Nat} (d : decode code pc = .ok (.tableswitch dflt lo hi offs, len)) (h : x.toInt < lo ∨ hi < x.toInt) (ht : (pc : Int) + dflt = (tgt : Int)) (k : GL Ln xs kc ks tgt L rest mm) : GL Ln xs kc ks pc L (.int x :: rest) mm := by
  intro p l e s m below meth c D ad ca C H locs ls hP hS hl
  exact lv_tableOut C.1.1 C.1.2.1 d h ht (k p l e s m below meth c D ad ca C H locs ls hP hS hl)
theorem l_sld {i : Int32} (d : decode code pc = .ok (.iaload, 1)) (hin : vp_in i Ln) (k : GL Ln xs kc ks (pc + 1) L (.int (xs i.toNatClampNeg) :: rest) mm) : GL Ln xs kc ks pc L (.int i :: .ref 5000 :: rest) mm := by
  intro p l e s m below meth c D ad ca C H locs ls hP hS hl
  exact va_sld C.1.1 C.1.2.1 C.1.2.2.2.2.2.2.1 C.1.2.2.2.2.2.2.2.1 (Nat.not_le.mpr C.1.2.2.2.2.2.2.2.1) hS hin d (k p l e s m below meth c D ad ca C H locs ls hP hS hl)
theorem l_slen (d : decode code pc = .ok (.arraylength, 1)) (k : GL Ln xs kc ks (pc + 1) L (.int (nI Ln) :: rest) mm) : GL Ln xs kc ks pc L (.ref 5000 :: rest) mm := by
  intro p l e s m below meth c D ad ca C H locs ls hP hS hl
  exact va_slen C.1.1 C.1.2.1 C.1.2.2.2.2.2.2.1 C.1.2.2.2.2.2.2.2.1 (Nat.not_le.mpr C.1.2.2.2.2.2.2.2.1) hS d (k p l e s m below meth c D ad ca C H locs ls hP hS hl)
theorem l_ret1 (d : decode code pc = .ok (.ireturn, 1)) (hc : kc ≤ 600000) (hs : ks ≤ 7302250) : GL Ln xs kc ks pc L [.int 1] mm := by
  intro p l e s m below meth c D ad ca C H locs ls hP hS hl
  refine va_forget (fun q hq => hS.2.2 q hq) ?_
  refine W.widen (k := 600000) (n := 7302250) hc hs ?_
  exact lw_ret C.1.1 C.1.2.1 C.1.2.2.1 C.1.2.2.2.2.2.2.2.2.1 d
theorem l_call {Y' : ME} {st as : List Value} {P : Value → MM → Prop} {idx n ci b : Nat} {sks : List Nat} (d : decode code pc = .ok (.invokevirtual idx, 3)) (hC : CV R_law idx Y' n ci) (hD : mD Y' ≤ 10) (hst : st = as.reverse ++ .ref b :: rest) (hn : as.length = n) (sh : SHL[b]? = some (.inr (ci, sks))) (hrest : (rest.map fun v => v.category).sum ≤ 8) (hc : kc ≤ 600000) (hs : ks ≤ 7302250)
    (hM : Runs Y' (.ref b :: as) mm P) (k : ∀ r m', rK (mK Y') r → P r m' → GL Ln xs kc ks (pc + 3) L (pushA (mK Y') r rest) m') : GL Ln xs kc ks pc L st mm := by
  intro p l e s m below meth c D ad ca C H locs ls hP hS hl
  obtain ⟨w1, w2, w3, w4, w5, w6, ⟨T, N, w7⟩, w8, w9⟩ := hC
  have hts : ∀ w ∈ bigW, w.before #[Value.ref (ad 5000)] s = true := fun w hw => C.1.2.2.2.2.2.1 w (bg hw).1
  have hK := C.2.1
  have hrun := va_runV (Qc := QcG (mK Y') D ad ca (adA ad H.size) P) (As := cS ad as) (rest := cS ad rest) (cells := kc) (slots := ks) (p := p) (l := l) (e := e) (below := below) (meth := meth) (locs := locs) (nL := 4) (Ts := bigW) (own := R_law) (args := #[Value.ref (ad 5000)]) (H := H) (b := ad b) (C := (mN Y').cls) (index := idx) (n := n) (g := F0 m pc ls (cS ad st))
    ⟨C.1.1, C.1.2.1, C.1.2.2.2.1, C.1.2.2.2.2.1, hts⟩ (hM l D ad ca H.size C.2.2.1)
    (R := room_1) ⟨⟨rfl, rfl, by show mD Y' + 1 ≤ 12; omega, by show 8 + (mL Y' + 11) + (32 * mD Y' + 40) ≤ 444; omega, pay_in hts (good_ws Y' w5), List.mem_cons_self, hts _ w5, hts _ w4, ⟨w6.1, w6.2.1⟩, fun sig h => by have h2 := w6.2.2; rw [h] at h2; simpa using h2.symm, hts _ w1⟩, hts _ w2, hts _ w3⟩
    ⟨pc_blind _ _ _ _ _ _, va_recv hK hP w7 (ws_at sh), fun U hU hW => ⟨rfl, by rw [hU], by rw [hU]; exact hP, va_K.moved hW.alike hK, ad_size hP, str_at C.2.2.2.2 hS C.2.2.2.1 (fun _ h => h) hU hW⟩⟩
    rfl (by simp [cS, hn]) hl.1 (cS_stack hst) (by show 2 * 0 + _ ≤ 8; rw [cS_cat]; omega) d ⟨hc, hs⟩
  have hf : ∀ q, adA ad H.size q → s.heap.size ≤ q := fun q h => by
    rcases h with ⟨i, hi, rfl⟩ | h
    · exact C.2.2.2.1 i hi
    · exact Nat.le_trans hS.1 h
  have go : ∀ (r : Value) (u : MM) (H1 : Heap) (locs1 : List Loc), rK (mK Y') r → P r u → va_P D classes (wsOf ad ca u) H1 → va_S (fun q => s.heap.size ≤ q) s.heap H1 locs1 → W p l e room_1 s m #[Value.ref (ad 5000)] below meth c H1 locs1 kc ks (lw_Z below #[Value.ref (ad 5000)] s) (F0 m (pc + 3) ls (cS ad (pushA (mK Y') r rest))) := fun r u H1 locs1 hz hp hP1 hS1 => k r u hz hp p l e s m below meth c D ad ca C H1 locs1 ls hP1 hS1 hl
  generalize mK Y' = kd at hrun w9 go
  match kd, w9 with
  | 0, _ => exact va_callv (a := (cS ad (.ref b :: as)).toArray) hrun hS (fun q _ h => hf q h) hf (fun u t H1 locs1 ht hvm hw hB hz hk hS1 => go .null u H1 locs1 rfl hw (by rw [← ht]; exact hB.1) hS1)
  | 1, _ => exact va_calli (a := (cS ad (.ref b :: as)).toArray) hrun hS (fun q _ h => hf q h) hf (fun r u t H1 locs1 ht hvm hw hB hz hk hS1 => go (.int r) u H1 locs1 ⟨r, rfl⟩ hw (by rw [← ht]; exact hB.1) hS1)
  | 2, _ => exact va_calll (a := (cS ad (.ref b :: as)).toArray) hrun hS (fun q _ h => hf q h) hf (fun r u t H1 locs1 ht hvm hw hB hz hk hS1 => go (.long r) u H1 locs1 ⟨r, rfl⟩ hw (by rw [← ht]; exact hB.1) hS1)
  | 3, _ => exact va_callr (a := (cS ad (.ref b :: as)).toArray) hrun hS (fun q _ h => hf q h) hf (fun u q t H1 locs1 ht hvm hw hB hz hk hS1 => by
      have := go (.ref u.2) u.1 H1 locs1 ⟨u.2, rfl⟩ hw (by rw [← ht]; exact hB.2.1) hS1
      have e1 := hB.1
      subst e1
      exact this)
end GLR
/-- one call of both: alike, and the relation holds again -/
def StepOK (RR : MM → Prop) (eX eM : ME) (as : List Value) : Prop := ∀ mm, RR mm → ∃ P : Value → MM → Prop, Runs eX (.ref 0 :: as) mm P ∧ ∀ r m1, P r m1 → ∃ P' : Value → MM → Prop, Runs eM (.ref 156 :: as) m1 P' ∧ ∀ r' m2, P' r' m2 → r' = r ∧ RR m2
theorem dL_law_0 : decode code 0 = .ok (.new 7, 3) := by decide +kernel
theorem dL_law_3 : decode code 3 = .ok (.dup, 1) := by decide +kernel
theorem dL_law_4 : decode code 4 = .ok (.invokespecial 9, 3) := by decide +kernel
theorem dL_law_7 : decode code 7 = .ok (.astore_n 1, 1) := by decide +kernel
theorem dL_law_8 : decode code 8 = .ok (.new 10, 3) := by decide +kernel
theorem dL_law_11 : decode code 11 = .ok (.dup, 1) := by decide +kernel
theorem dL_law_12 : decode code 12 = .ok (.invokespecial 12, 3) := by decide +kernel
theorem dL_law_15 : decode code 15 = .ok (.astore_n 2, 1) := by decide +kernel
theorem dL_law_16 : decode code 16 = .ok (.iconst 0, 1) := by decide +kernel
theorem dL_law_17 : decode code 17 = .ok (.istore_n 3, 1) := by decide +kernel
theorem dL_law_18 : decode code 18 = .ok (.iload_n 3, 1) := by decide +kernel
theorem dL_law_19 : decode code 19 = .ok (.aload_n 0, 1) := by decide +kernel
theorem dL_law_20 : decode code 20 = .ok (.arraylength, 1) := by decide +kernel
theorem dL_law_21 : decode code 21 = .ok (.bipush 7, 2) := by decide +kernel
theorem dL_law_23 : decode code 23 = .ok (.isub, 1) := by decide +kernel
theorem dL_law_24 : decode code 24 = .ok (.if_icmp .gt 1515, 3) := by decide +kernel
theorem dL_law_27 : decode code 27 = .ok (.aload_n 0, 1) := by decide +kernel
theorem dL_law_28 : decode code 28 = .ok (.iload_n 3, 1) := by decide +kernel
theorem dL_law_29 : decode code 29 = .ok (.iaload, 1) := by decide +kernel
theorem dL_law_30 : decode code 30 = .ok (.bipush 63, 2) := by decide +kernel
theorem dL_law_32 : decode code 32 = .ok (.iand, 1) := by decide +kernel
theorem dL_law_33 : decode code 33 = .ok (.tableswitch 1500 0 42 #[187, 250, 273, 286, 299, 332, 365, 388, 411, 434, 457, 480, 503, 526, 585, 634, 657, 680, 713, 756, 769, 782, 795, 808, 831, 864, 887, 920, 963, 986, 1009, 1022, 1085, 1160, 1203, 1246, 1269, 1312, 1345, 1398, 1431, 1454, 1477], 187) := by decide +kernel
theorem dL_law_220 : decode code 220 = .ok (.aload_n 1, 1) := by decide +kernel
theorem dL_law_221 : decode code 221 = .ok (.aload_n 0, 1) := by decide +kernel
theorem dL_law_222 : decode code 222 = .ok (.iload_n 3, 1) := by decide +kernel
theorem dL_law_223 : decode code 223 = .ok (.iconst 1, 1) := by decide +kernel
theorem dL_law_224 : decode code 224 = .ok (.iadd, 1) := by decide +kernel
theorem dL_law_225 : decode code 225 = .ok (.iaload, 1) := by decide +kernel
theorem dL_law_226 : decode code 226 = .ok (.aload_n 0, 1) := by decide +kernel
theorem dL_law_227 : decode code 227 = .ok (.iload_n 3, 1) := by decide +kernel
theorem dL_law_228 : decode code 228 = .ok (.iconst 2, 1) := by decide +kernel
theorem dL_law_229 : decode code 229 = .ok (.iadd, 1) := by decide +kernel
theorem dL_law_230 : decode code 230 = .ok (.iaload, 1) := by decide +kernel
theorem dL_law_231 : decode code 231 = .ok (.aload_n 0, 1) := by decide +kernel
theorem dL_law_232 : decode code 232 = .ok (.iload_n 3, 1) := by decide +kernel
theorem dL_law_233 : decode code 233 = .ok (.iconst 3, 1) := by decide +kernel
theorem dL_law_234 : decode code 234 = .ok (.iadd, 1) := by decide +kernel
theorem dL_law_235 : decode code 235 = .ok (.iaload, 1) := by decide +kernel
theorem dL_law_236 : decode code 236 = .ok (.aload_n 0, 1) := by decide +kernel
theorem dL_law_237 : decode code 237 = .ok (.iload_n 3, 1) := by decide +kernel
theorem dL_law_238 : decode code 238 = .ok (.iconst 4, 1) := by decide +kernel
theorem dL_law_239 : decode code 239 = .ok (.iadd, 1) := by decide +kernel
theorem dL_law_240 : decode code 240 = .ok (.iaload, 1) := by decide +kernel
theorem dL_law_241 : decode code 241 = .ok (.aload_n 0, 1) := by decide +kernel
theorem dL_law_242 : decode code 242 = .ok (.iload_n 3, 1) := by decide +kernel
theorem dL_law_243 : decode code 243 = .ok (.iconst 5, 1) := by decide +kernel
theorem dL_law_244 : decode code 244 = .ok (.iadd, 1) := by decide +kernel
theorem dL_law_245 : decode code 245 = .ok (.iaload, 1) := by decide +kernel
theorem dL_law_246 : decode code 246 = .ok (.invokevirtual 13, 3) := by decide +kernel
theorem dL_law_249 : decode code 249 = .ok (.aload_n 2, 1) := by decide +kernel
theorem dL_law_250 : decode code 250 = .ok (.aload_n 0, 1) := by decide +kernel
theorem dL_law_251 : decode code 251 = .ok (.iload_n 3, 1) := by decide +kernel
theorem dL_law_252 : decode code 252 = .ok (.iconst 1, 1) := by decide +kernel
theorem dL_law_253 : decode code 253 = .ok (.iadd, 1) := by decide +kernel
theorem dL_law_254 : decode code 254 = .ok (.iaload, 1) := by decide +kernel
theorem dL_law_255 : decode code 255 = .ok (.aload_n 0, 1) := by decide +kernel
theorem dL_law_256 : decode code 256 = .ok (.iload_n 3, 1) := by decide +kernel
theorem dL_law_257 : decode code 257 = .ok (.iconst 2, 1) := by decide +kernel
theorem dL_law_258 : decode code 258 = .ok (.iadd, 1) := by decide +kernel
theorem dL_law_259 : decode code 259 = .ok (.iaload, 1) := by decide +kernel
theorem dL_law_260 : decode code 260 = .ok (.aload_n 0, 1) := by decide +kernel
theorem dL_law_261 : decode code 261 = .ok (.iload_n 3, 1) := by decide +kernel
theorem dL_law_262 : decode code 262 = .ok (.iconst 3, 1) := by decide +kernel
theorem dL_law_263 : decode code 263 = .ok (.iadd, 1) := by decide +kernel
theorem dL_law_264 : decode code 264 = .ok (.iaload, 1) := by decide +kernel
theorem dL_law_265 : decode code 265 = .ok (.aload_n 0, 1) := by decide +kernel
theorem dL_law_266 : decode code 266 = .ok (.iload_n 3, 1) := by decide +kernel
theorem dL_law_267 : decode code 267 = .ok (.iconst 4, 1) := by decide +kernel
theorem dL_law_268 : decode code 268 = .ok (.iadd, 1) := by decide +kernel
theorem dL_law_269 : decode code 269 = .ok (.iaload, 1) := by decide +kernel
theorem dL_law_270 : decode code 270 = .ok (.aload_n 0, 1) := by decide +kernel
theorem dL_law_271 : decode code 271 = .ok (.iload_n 3, 1) := by decide +kernel
theorem dL_law_272 : decode code 272 = .ok (.iconst 5, 1) := by decide +kernel
theorem dL_law_273 : decode code 273 = .ok (.iadd, 1) := by decide +kernel
theorem dL_law_274 : decode code 274 = .ok (.iaload, 1) := by decide +kernel
theorem dL_law_275 : decode code 275 = .ok (.invokevirtual 17, 3) := by decide +kernel
theorem dL_law_278 : decode code 278 = .ok (.if_icmp .eq 1255, 3) := by decide +kernel
theorem dL_law_281 : decode code 281 = .ok (.iconst 0, 1) := by decide +kernel
theorem dL_law_282 : decode code 282 = .ok (.ireturn, 1) := by decide +kernel
theorem dL_law_283 : decode code 283 = .ok (.aload_n 1, 1) := by decide +kernel
theorem dL_law_284 : decode code 284 = .ok (.aload_n 0, 1) := by decide +kernel
theorem dL_law_285 : decode code 285 = .ok (.iload_n 3, 1) := by decide +kernel
theorem dL_law_286 : decode code 286 = .ok (.iconst 1, 1) := by decide +kernel
theorem dL_law_287 : decode code 287 = .ok (.iadd, 1) := by decide +kernel
theorem dL_law_288 : decode code 288 = .ok (.iaload, 1) := by decide +kernel
theorem dL_law_289 : decode code 289 = .ok (.invokevirtual 18, 3) := by decide +kernel
theorem dL_law_292 : decode code 292 = .ok (.aload_n 2, 1) := by decide +kernel
theorem dL_law_293 : decode code 293 = .ok (.aload_n 0, 1) := by decide +kernel
theorem dL_law_294 : decode code 294 = .ok (.iload_n 3, 1) := by decide +kernel
theorem dL_law_295 : decode code 295 = .ok (.iconst 1, 1) := by decide +kernel
theorem dL_law_296 : decode code 296 = .ok (.iadd, 1) := by decide +kernel
theorem dL_law_297 : decode code 297 = .ok (.iaload, 1) := by decide +kernel
theorem dL_law_298 : decode code 298 = .ok (.invokevirtual 22, 3) := by decide +kernel
theorem dL_law_301 : decode code 301 = .ok (.if_icmp .eq 1232, 3) := by decide +kernel
theorem dL_law_304 : decode code 304 = .ok (.iconst 0, 1) := by decide +kernel
theorem dL_law_305 : decode code 305 = .ok (.ireturn, 1) := by decide +kernel
theorem dL_law_306 : decode code 306 = .ok (.aload_n 1, 1) := by decide +kernel
theorem dL_law_307 : decode code 307 = .ok (.invokevirtual 23, 3) := by decide +kernel
theorem dL_law_310 : decode code 310 = .ok (.aload_n 2, 1) := by decide +kernel
theorem dL_law_311 : decode code 311 = .ok (.invokevirtual 27, 3) := by decide +kernel
theorem dL_law_314 : decode code 314 = .ok (.if_icmp .eq 1219, 3) := by decide +kernel
theorem dL_law_317 : decode code 317 = .ok (.iconst 0, 1) := by decide +kernel
theorem dL_law_318 : decode code 318 = .ok (.ireturn, 1) := by decide +kernel
theorem dL_law_319 : decode code 319 = .ok (.aload_n 1, 1) := by decide +kernel
theorem dL_law_320 : decode code 320 = .ok (.invokevirtual 28, 3) := by decide +kernel
theorem dL_law_323 : decode code 323 = .ok (.aload_n 2, 1) := by decide +kernel
theorem dL_law_324 : decode code 324 = .ok (.invokevirtual 31, 3) := by decide +kernel
theorem dL_law_327 : decode code 327 = .ok (.if_icmp .eq 1206, 3) := by decide +kernel
theorem dL_law_330 : decode code 330 = .ok (.iconst 0, 1) := by decide +kernel
theorem dL_law_331 : decode code 331 = .ok (.ireturn, 1) := by decide +kernel
theorem dL_law_332 : decode code 332 = .ok (.aload_n 1, 1) := by decide +kernel
theorem dL_law_333 : decode code 333 = .ok (.aload_n 0, 1) := by decide +kernel
theorem dL_law_334 : decode code 334 = .ok (.iload_n 3, 1) := by decide +kernel
theorem dL_law_335 : decode code 335 = .ok (.iconst 1, 1) := by decide +kernel
theorem dL_law_336 : decode code 336 = .ok (.iadd, 1) := by decide +kernel
theorem dL_law_337 : decode code 337 = .ok (.iaload, 1) := by decide +kernel
theorem dL_law_338 : decode code 338 = .ok (.aload_n 0, 1) := by decide +kernel
theorem dL_law_339 : decode code 339 = .ok (.iload_n 3, 1) := by decide +kernel
theorem dL_law_340 : decode code 340 = .ok (.iconst 2, 1) := by decide +kernel
theorem dL_law_341 : decode code 341 = .ok (.iadd, 1) := by decide +kernel
theorem dL_law_342 : decode code 342 = .ok (.iaload, 1) := by decide +kernel
theorem dL_law_343 : decode code 343 = .ok (.invokevirtual 32, 3) := by decide +kernel
theorem dL_law_346 : decode code 346 = .ok (.aload_n 2, 1) := by decide +kernel
theorem dL_law_347 : decode code 347 = .ok (.aload_n 0, 1) := by decide +kernel
theorem dL_law_348 : decode code 348 = .ok (.iload_n 3, 1) := by decide +kernel
theorem dL_law_349 : decode code 349 = .ok (.iconst 1, 1) := by decide +kernel
theorem dL_law_350 : decode code 350 = .ok (.iadd, 1) := by decide +kernel
theorem dL_law_351 : decode code 351 = .ok (.iaload, 1) := by decide +kernel
theorem dL_law_352 : decode code 352 = .ok (.aload_n 0, 1) := by decide +kernel
theorem dL_law_353 : decode code 353 = .ok (.iload_n 3, 1) := by decide +kernel
theorem dL_law_354 : decode code 354 = .ok (.iconst 2, 1) := by decide +kernel
theorem dL_law_355 : decode code 355 = .ok (.iadd, 1) := by decide +kernel
theorem dL_law_356 : decode code 356 = .ok (.iaload, 1) := by decide +kernel
theorem dL_law_357 : decode code 357 = .ok (.invokevirtual 36, 3) := by decide +kernel
theorem dL_law_360 : decode code 360 = .ok (.if_icmp .eq 1173, 3) := by decide +kernel
theorem dL_law_363 : decode code 363 = .ok (.iconst 0, 1) := by decide +kernel
theorem dL_law_364 : decode code 364 = .ok (.ireturn, 1) := by decide +kernel
theorem dL_law_365 : decode code 365 = .ok (.aload_n 1, 1) := by decide +kernel
theorem dL_law_366 : decode code 366 = .ok (.aload_n 0, 1) := by decide +kernel
theorem dL_law_367 : decode code 367 = .ok (.iload_n 3, 1) := by decide +kernel
theorem dL_law_368 : decode code 368 = .ok (.iconst 1, 1) := by decide +kernel
theorem dL_law_369 : decode code 369 = .ok (.iadd, 1) := by decide +kernel
theorem dL_law_370 : decode code 370 = .ok (.iaload, 1) := by decide +kernel
theorem dL_law_371 : decode code 371 = .ok (.aload_n 0, 1) := by decide +kernel
theorem dL_law_372 : decode code 372 = .ok (.iload_n 3, 1) := by decide +kernel
theorem dL_law_373 : decode code 373 = .ok (.iconst 2, 1) := by decide +kernel
theorem dL_law_374 : decode code 374 = .ok (.iadd, 1) := by decide +kernel
theorem dL_law_375 : decode code 375 = .ok (.iaload, 1) := by decide +kernel
theorem dL_law_376 : decode code 376 = .ok (.invokevirtual 37, 3) := by decide +kernel
theorem dL_law_379 : decode code 379 = .ok (.aload_n 2, 1) := by decide +kernel
theorem dL_law_380 : decode code 380 = .ok (.aload_n 0, 1) := by decide +kernel
theorem dL_law_381 : decode code 381 = .ok (.iload_n 3, 1) := by decide +kernel
theorem dL_law_382 : decode code 382 = .ok (.iconst 1, 1) := by decide +kernel
theorem dL_law_383 : decode code 383 = .ok (.iadd, 1) := by decide +kernel
theorem dL_law_384 : decode code 384 = .ok (.iaload, 1) := by decide +kernel
theorem dL_law_385 : decode code 385 = .ok (.aload_n 0, 1) := by decide +kernel
theorem dL_law_386 : decode code 386 = .ok (.iload_n 3, 1) := by decide +kernel
theorem dL_law_387 : decode code 387 = .ok (.iconst 2, 1) := by decide +kernel
theorem dL_law_388 : decode code 388 = .ok (.iadd, 1) := by decide +kernel
theorem dL_law_389 : decode code 389 = .ok (.iaload, 1) := by decide +kernel
theorem dL_law_390 : decode code 390 = .ok (.invokevirtual 41, 3) := by decide +kernel
theorem dL_law_393 : decode code 393 = .ok (.if_icmp .eq 1140, 3) := by decide +kernel
theorem dL_law_396 : decode code 396 = .ok (.iconst 0, 1) := by decide +kernel
theorem dL_law_397 : decode code 397 = .ok (.ireturn, 1) := by decide +kernel
theorem dL_law_398 : decode code 398 = .ok (.aload_n 1, 1) := by decide +kernel
theorem dL_law_399 : decode code 399 = .ok (.aload_n 0, 1) := by decide +kernel
theorem dL_law_400 : decode code 400 = .ok (.iload_n 3, 1) := by decide +kernel
theorem dL_law_401 : decode code 401 = .ok (.iconst 1, 1) := by decide +kernel
theorem dL_law_402 : decode code 402 = .ok (.iadd, 1) := by decide +kernel
theorem dL_law_403 : decode code 403 = .ok (.iaload, 1) := by decide +kernel
theorem dL_law_404 : decode code 404 = .ok (.invokevirtual 42, 3) := by decide +kernel
theorem dL_law_407 : decode code 407 = .ok (.aload_n 2, 1) := by decide +kernel
theorem dL_law_408 : decode code 408 = .ok (.aload_n 0, 1) := by decide +kernel
theorem dL_law_409 : decode code 409 = .ok (.iload_n 3, 1) := by decide +kernel
theorem dL_law_410 : decode code 410 = .ok (.iconst 1, 1) := by decide +kernel
theorem dL_law_411 : decode code 411 = .ok (.iadd, 1) := by decide +kernel
theorem dL_law_412 : decode code 412 = .ok (.iaload, 1) := by decide +kernel
theorem dL_law_413 : decode code 413 = .ok (.invokevirtual 45, 3) := by decide +kernel
theorem dL_law_416 : decode code 416 = .ok (.if_icmp .eq 1117, 3) := by decide +kernel
theorem dL_law_419 : decode code 419 = .ok (.iconst 0, 1) := by decide +kernel
theorem dL_law_420 : decode code 420 = .ok (.ireturn, 1) := by decide +kernel
theorem dL_law_421 : decode code 421 = .ok (.aload_n 1, 1) := by decide +kernel
theorem dL_law_422 : decode code 422 = .ok (.aload_n 0, 1) := by decide +kernel
theorem dL_law_423 : decode code 423 = .ok (.iload_n 3, 1) := by decide +kernel
theorem dL_law_424 : decode code 424 = .ok (.iconst 1, 1) := by decide +kernel
theorem dL_law_425 : decode code 425 = .ok (.iadd, 1) := by decide +kernel
theorem dL_law_426 : decode code 426 = .ok (.iaload, 1) := by decide +kernel
theorem dL_law_427 : decode code 427 = .ok (.invokevirtual 46, 3) := by decide +kernel
theorem dL_law_430 : decode code 430 = .ok (.aload_n 2, 1) := by decide +kernel
theorem dL_law_431 : decode code 431 = .ok (.aload_n 0, 1) := by decide +kernel
theorem dL_law_432 : decode code 432 = .ok (.iload_n 3, 1) := by decide +kernel
theorem dL_law_433 : decode code 433 = .ok (.iconst 1, 1) := by decide +kernel
theorem dL_law_434 : decode code 434 = .ok (.iadd, 1) := by decide +kernel
theorem dL_law_435 : decode code 435 = .ok (.iaload, 1) := by decide +kernel
theorem dL_law_436 : decode code 436 = .ok (.invokevirtual 49, 3) := by decide +kernel
theorem dL_law_439 : decode code 439 = .ok (.if_icmp .eq 1094, 3) := by decide +kernel
theorem dL_law_442 : decode code 442 = .ok (.iconst 0, 1) := by decide +kernel
theorem dL_law_443 : decode code 443 = .ok (.ireturn, 1) := by decide +kernel
theorem dL_law_444 : decode code 444 = .ok (.aload_n 1, 1) := by decide +kernel
theorem dL_law_445 : decode code 445 = .ok (.aload_n 0, 1) := by decide +kernel
theorem dL_law_446 : decode code 446 = .ok (.iload_n 3, 1) := by decide +kernel
theorem dL_law_447 : decode code 447 = .ok (.iconst 1, 1) := by decide +kernel
theorem dL_law_448 : decode code 448 = .ok (.iadd, 1) := by decide +kernel
theorem dL_law_449 : decode code 449 = .ok (.iaload, 1) := by decide +kernel
theorem dL_law_450 : decode code 450 = .ok (.invokevirtual 50, 3) := by decide +kernel
theorem dL_law_453 : decode code 453 = .ok (.aload_n 2, 1) := by decide +kernel
theorem dL_law_454 : decode code 454 = .ok (.aload_n 0, 1) := by decide +kernel
theorem dL_law_455 : decode code 455 = .ok (.iload_n 3, 1) := by decide +kernel
theorem dL_law_456 : decode code 456 = .ok (.iconst 1, 1) := by decide +kernel
theorem dL_law_457 : decode code 457 = .ok (.iadd, 1) := by decide +kernel
theorem dL_law_458 : decode code 458 = .ok (.iaload, 1) := by decide +kernel
theorem dL_law_459 : decode code 459 = .ok (.invokevirtual 53, 3) := by decide +kernel
theorem dL_law_462 : decode code 462 = .ok (.if_icmp .eq 1071, 3) := by decide +kernel
theorem dL_law_465 : decode code 465 = .ok (.iconst 0, 1) := by decide +kernel
theorem dL_law_466 : decode code 466 = .ok (.ireturn, 1) := by decide +kernel
theorem dL_law_467 : decode code 467 = .ok (.aload_n 1, 1) := by decide +kernel
theorem dL_law_468 : decode code 468 = .ok (.aload_n 0, 1) := by decide +kernel
theorem dL_law_469 : decode code 469 = .ok (.iload_n 3, 1) := by decide +kernel
theorem dL_law_470 : decode code 470 = .ok (.iconst 1, 1) := by decide +kernel
theorem dL_law_471 : decode code 471 = .ok (.iadd, 1) := by decide +kernel
theorem dL_law_472 : decode code 472 = .ok (.iaload, 1) := by decide +kernel
theorem dL_law_473 : decode code 473 = .ok (.invokevirtual 54, 3) := by decide +kernel
theorem dL_law_476 : decode code 476 = .ok (.aload_n 2, 1) := by decide +kernel
theorem dL_law_477 : decode code 477 = .ok (.aload_n 0, 1) := by decide +kernel
theorem dL_law_478 : decode code 478 = .ok (.iload_n 3, 1) := by decide +kernel
theorem dL_law_479 : decode code 479 = .ok (.iconst 1, 1) := by decide +kernel
theorem dL_law_480 : decode code 480 = .ok (.iadd, 1) := by decide +kernel
theorem dL_law_481 : decode code 481 = .ok (.iaload, 1) := by decide +kernel
theorem dL_law_482 : decode code 482 = .ok (.invokevirtual 57, 3) := by decide +kernel
theorem dL_law_485 : decode code 485 = .ok (.if_icmp .eq 1048, 3) := by decide +kernel
theorem dL_law_488 : decode code 488 = .ok (.iconst 0, 1) := by decide +kernel
theorem dL_law_489 : decode code 489 = .ok (.ireturn, 1) := by decide +kernel
theorem dL_law_490 : decode code 490 = .ok (.aload_n 1, 1) := by decide +kernel
theorem dL_law_491 : decode code 491 = .ok (.aload_n 0, 1) := by decide +kernel
theorem dL_law_492 : decode code 492 = .ok (.iload_n 3, 1) := by decide +kernel
theorem dL_law_493 : decode code 493 = .ok (.iconst 1, 1) := by decide +kernel
theorem dL_law_494 : decode code 494 = .ok (.iadd, 1) := by decide +kernel
theorem dL_law_495 : decode code 495 = .ok (.iaload, 1) := by decide +kernel
theorem dL_law_496 : decode code 496 = .ok (.invokevirtual 58, 3) := by decide +kernel
theorem dL_law_499 : decode code 499 = .ok (.aload_n 2, 1) := by decide +kernel
theorem dL_law_500 : decode code 500 = .ok (.aload_n 0, 1) := by decide +kernel
theorem dL_law_501 : decode code 501 = .ok (.iload_n 3, 1) := by decide +kernel
theorem dL_law_502 : decode code 502 = .ok (.iconst 1, 1) := by decide +kernel
theorem dL_law_503 : decode code 503 = .ok (.iadd, 1) := by decide +kernel
theorem dL_law_504 : decode code 504 = .ok (.iaload, 1) := by decide +kernel
theorem dL_law_505 : decode code 505 = .ok (.invokevirtual 61, 3) := by decide +kernel
theorem dL_law_508 : decode code 508 = .ok (.if_icmp .eq 1025, 3) := by decide +kernel
theorem dL_law_511 : decode code 511 = .ok (.iconst 0, 1) := by decide +kernel
theorem dL_law_512 : decode code 512 = .ok (.ireturn, 1) := by decide +kernel
theorem dL_law_513 : decode code 513 = .ok (.aload_n 1, 1) := by decide +kernel
theorem dL_law_514 : decode code 514 = .ok (.aload_n 0, 1) := by decide +kernel
theorem dL_law_515 : decode code 515 = .ok (.iload_n 3, 1) := by decide +kernel
theorem dL_law_516 : decode code 516 = .ok (.iconst 1, 1) := by decide +kernel
theorem dL_law_517 : decode code 517 = .ok (.iadd, 1) := by decide +kernel
theorem dL_law_518 : decode code 518 = .ok (.iaload, 1) := by decide +kernel
theorem dL_law_519 : decode code 519 = .ok (.invokevirtual 62, 3) := by decide +kernel
theorem dL_law_522 : decode code 522 = .ok (.aload_n 2, 1) := by decide +kernel
theorem dL_law_523 : decode code 523 = .ok (.aload_n 0, 1) := by decide +kernel
theorem dL_law_524 : decode code 524 = .ok (.iload_n 3, 1) := by decide +kernel
theorem dL_law_525 : decode code 525 = .ok (.iconst 1, 1) := by decide +kernel
theorem dL_law_526 : decode code 526 = .ok (.iadd, 1) := by decide +kernel
theorem dL_law_527 : decode code 527 = .ok (.iaload, 1) := by decide +kernel
theorem dL_law_528 : decode code 528 = .ok (.invokevirtual 65, 3) := by decide +kernel
theorem dL_law_531 : decode code 531 = .ok (.if_icmp .eq 1002, 3) := by decide +kernel
theorem dL_law_534 : decode code 534 = .ok (.iconst 0, 1) := by decide +kernel
theorem dL_law_535 : decode code 535 = .ok (.ireturn, 1) := by decide +kernel
theorem dL_law_536 : decode code 536 = .ok (.aload_n 1, 1) := by decide +kernel
theorem dL_law_537 : decode code 537 = .ok (.aload_n 0, 1) := by decide +kernel
theorem dL_law_538 : decode code 538 = .ok (.iload_n 3, 1) := by decide +kernel
theorem dL_law_539 : decode code 539 = .ok (.iconst 1, 1) := by decide +kernel
theorem dL_law_540 : decode code 540 = .ok (.iadd, 1) := by decide +kernel
theorem dL_law_541 : decode code 541 = .ok (.iaload, 1) := by decide +kernel
theorem dL_law_542 : decode code 542 = .ok (.invokevirtual 66, 3) := by decide +kernel
theorem dL_law_545 : decode code 545 = .ok (.aload_n 2, 1) := by decide +kernel
theorem dL_law_546 : decode code 546 = .ok (.aload_n 0, 1) := by decide +kernel
theorem dL_law_547 : decode code 547 = .ok (.iload_n 3, 1) := by decide +kernel
theorem dL_law_548 : decode code 548 = .ok (.iconst 1, 1) := by decide +kernel
theorem dL_law_549 : decode code 549 = .ok (.iadd, 1) := by decide +kernel
theorem dL_law_550 : decode code 550 = .ok (.iaload, 1) := by decide +kernel
theorem dL_law_551 : decode code 551 = .ok (.invokevirtual 69, 3) := by decide +kernel
theorem dL_law_554 : decode code 554 = .ok (.if_icmp .eq 979, 3) := by decide +kernel
theorem dL_law_557 : decode code 557 = .ok (.iconst 0, 1) := by decide +kernel
theorem dL_law_558 : decode code 558 = .ok (.ireturn, 1) := by decide +kernel
theorem dL_law_559 : decode code 559 = .ok (.aload_n 1, 1) := by decide +kernel
theorem dL_law_560 : decode code 560 = .ok (.aload_n 0, 1) := by decide +kernel
theorem dL_law_561 : decode code 561 = .ok (.iload_n 3, 1) := by decide +kernel
theorem dL_law_562 : decode code 562 = .ok (.iconst 1, 1) := by decide +kernel
theorem dL_law_563 : decode code 563 = .ok (.iadd, 1) := by decide +kernel
theorem dL_law_564 : decode code 564 = .ok (.iaload, 1) := by decide +kernel
theorem dL_law_565 : decode code 565 = .ok (.aload_n 0, 1) := by decide +kernel
theorem dL_law_566 : decode code 566 = .ok (.iload_n 3, 1) := by decide +kernel
theorem dL_law_567 : decode code 567 = .ok (.iconst 2, 1) := by decide +kernel
theorem dL_law_568 : decode code 568 = .ok (.iadd, 1) := by decide +kernel
theorem dL_law_569 : decode code 569 = .ok (.iaload, 1) := by decide +kernel
theorem dL_law_570 : decode code 570 = .ok (.ifCond .eq 7, 3) := by decide +kernel
theorem dL_law_573 : decode code 573 = .ok (.iconst 1, 1) := by decide +kernel
theorem dL_law_574 : decode code 574 = .ok (.goto 4, 3) := by decide +kernel
theorem dL_law_577 : decode code 577 = .ok (.iconst 0, 1) := by decide +kernel
theorem dL_law_578 : decode code 578 = .ok (.aload_n 0, 1) := by decide +kernel
theorem dL_law_579 : decode code 579 = .ok (.iload_n 3, 1) := by decide +kernel
theorem dL_law_580 : decode code 580 = .ok (.iconst 3, 1) := by decide +kernel
theorem dL_law_581 : decode code 581 = .ok (.iadd, 1) := by decide +kernel
theorem dL_law_582 : decode code 582 = .ok (.iaload, 1) := by decide +kernel
theorem dL_law_583 : decode code 583 = .ok (.invokevirtual 70, 3) := by decide +kernel
theorem dL_law_586 : decode code 586 = .ok (.aload_n 2, 1) := by decide +kernel
theorem dL_law_587 : decode code 587 = .ok (.aload_n 0, 1) := by decide +kernel
theorem dL_law_588 : decode code 588 = .ok (.iload_n 3, 1) := by decide +kernel
theorem dL_law_589 : decode code 589 = .ok (.iconst 1, 1) := by decide +kernel
theorem dL_law_590 : decode code 590 = .ok (.iadd, 1) := by decide +kernel
theorem dL_law_591 : decode code 591 = .ok (.iaload, 1) := by decide +kernel
theorem dL_law_592 : decode code 592 = .ok (.aload_n 0, 1) := by decide +kernel
theorem dL_law_593 : decode code 593 = .ok (.iload_n 3, 1) := by decide +kernel
theorem dL_law_594 : decode code 594 = .ok (.iconst 2, 1) := by decide +kernel
theorem dL_law_595 : decode code 595 = .ok (.iadd, 1) := by decide +kernel
theorem dL_law_596 : decode code 596 = .ok (.iaload, 1) := by decide +kernel
theorem dL_law_597 : decode code 597 = .ok (.ifCond .eq 7, 3) := by decide +kernel
theorem dL_law_600 : decode code 600 = .ok (.iconst 1, 1) := by decide +kernel
theorem dL_law_601 : decode code 601 = .ok (.goto 4, 3) := by decide +kernel
theorem dL_law_604 : decode code 604 = .ok (.iconst 0, 1) := by decide +kernel
theorem dL_law_605 : decode code 605 = .ok (.aload_n 0, 1) := by decide +kernel
theorem dL_law_606 : decode code 606 = .ok (.iload_n 3, 1) := by decide +kernel
theorem dL_law_607 : decode code 607 = .ok (.iconst 3, 1) := by decide +kernel
theorem dL_law_608 : decode code 608 = .ok (.iadd, 1) := by decide +kernel
theorem dL_law_609 : decode code 609 = .ok (.iaload, 1) := by decide +kernel
theorem dL_law_610 : decode code 610 = .ok (.invokevirtual 74, 3) := by decide +kernel
theorem dL_law_613 : decode code 613 = .ok (.if_icmp .eq 920, 3) := by decide +kernel
theorem dL_law_616 : decode code 616 = .ok (.iconst 0, 1) := by decide +kernel
theorem dL_law_617 : decode code 617 = .ok (.ireturn, 1) := by decide +kernel
theorem dL_law_618 : decode code 618 = .ok (.aload_n 1, 1) := by decide +kernel
theorem dL_law_619 : decode code 619 = .ok (.aload_n 0, 1) := by decide +kernel
theorem dL_law_620 : decode code 620 = .ok (.iload_n 3, 1) := by decide +kernel
theorem dL_law_621 : decode code 621 = .ok (.iconst 1, 1) := by decide +kernel
theorem dL_law_622 : decode code 622 = .ok (.iadd, 1) := by decide +kernel
theorem dL_law_623 : decode code 623 = .ok (.iaload, 1) := by decide +kernel
theorem dL_law_624 : decode code 624 = .ok (.ifCond .eq 7, 3) := by decide +kernel
theorem dL_law_627 : decode code 627 = .ok (.iconst 1, 1) := by decide +kernel
theorem dL_law_628 : decode code 628 = .ok (.goto 4, 3) := by decide +kernel
theorem dL_law_631 : decode code 631 = .ok (.iconst 0, 1) := by decide +kernel
theorem dL_law_632 : decode code 632 = .ok (.aload_n 0, 1) := by decide +kernel
theorem dL_law_633 : decode code 633 = .ok (.iload_n 3, 1) := by decide +kernel
theorem dL_law_634 : decode code 634 = .ok (.iconst 2, 1) := by decide +kernel
theorem dL_law_635 : decode code 635 = .ok (.iadd, 1) := by decide +kernel
theorem dL_law_636 : decode code 636 = .ok (.iaload, 1) := by decide +kernel
theorem dL_law_637 : decode code 637 = .ok (.invokevirtual 75, 3) := by decide +kernel
theorem dL_law_640 : decode code 640 = .ok (.aload_n 2, 1) := by decide +kernel
theorem dL_law_641 : decode code 641 = .ok (.aload_n 0, 1) := by decide +kernel
theorem dL_law_642 : decode code 642 = .ok (.iload_n 3, 1) := by decide +kernel
theorem dL_law_643 : decode code 643 = .ok (.iconst 1, 1) := by decide +kernel
theorem dL_law_644 : decode code 644 = .ok (.iadd, 1) := by decide +kernel
theorem dL_law_645 : decode code 645 = .ok (.iaload, 1) := by decide +kernel
theorem dL_law_646 : decode code 646 = .ok (.ifCond .eq 7, 3) := by decide +kernel
theorem dL_law_649 : decode code 649 = .ok (.iconst 1, 1) := by decide +kernel
theorem dL_law_650 : decode code 650 = .ok (.goto 4, 3) := by decide +kernel
theorem dL_law_653 : decode code 653 = .ok (.iconst 0, 1) := by decide +kernel
theorem dL_law_654 : decode code 654 = .ok (.aload_n 0, 1) := by decide +kernel
theorem dL_law_655 : decode code 655 = .ok (.iload_n 3, 1) := by decide +kernel
theorem dL_law_656 : decode code 656 = .ok (.iconst 2, 1) := by decide +kernel
theorem dL_law_657 : decode code 657 = .ok (.iadd, 1) := by decide +kernel
theorem dL_law_658 : decode code 658 = .ok (.iaload, 1) := by decide +kernel
theorem dL_law_659 : decode code 659 = .ok (.invokevirtual 79, 3) := by decide +kernel
theorem dL_law_662 : decode code 662 = .ok (.if_icmp .eq 871, 3) := by decide +kernel
theorem dL_law_665 : decode code 665 = .ok (.iconst 0, 1) := by decide +kernel
theorem dL_law_666 : decode code 666 = .ok (.ireturn, 1) := by decide +kernel
theorem dL_law_667 : decode code 667 = .ok (.aload_n 1, 1) := by decide +kernel
theorem dL_law_668 : decode code 668 = .ok (.aload_n 0, 1) := by decide +kernel
theorem dL_law_669 : decode code 669 = .ok (.iload_n 3, 1) := by decide +kernel
theorem dL_law_670 : decode code 670 = .ok (.iconst 1, 1) := by decide +kernel
theorem dL_law_671 : decode code 671 = .ok (.iadd, 1) := by decide +kernel
theorem dL_law_672 : decode code 672 = .ok (.iaload, 1) := by decide +kernel
theorem dL_law_673 : decode code 673 = .ok (.invokevirtual 80, 3) := by decide +kernel
theorem dL_law_676 : decode code 676 = .ok (.aload_n 2, 1) := by decide +kernel
theorem dL_law_677 : decode code 677 = .ok (.aload_n 0, 1) := by decide +kernel
theorem dL_law_678 : decode code 678 = .ok (.iload_n 3, 1) := by decide +kernel
theorem dL_law_679 : decode code 679 = .ok (.iconst 1, 1) := by decide +kernel
theorem dL_law_680 : decode code 680 = .ok (.iadd, 1) := by decide +kernel
theorem dL_law_681 : decode code 681 = .ok (.iaload, 1) := by decide +kernel
theorem dL_law_682 : decode code 682 = .ok (.invokevirtual 83, 3) := by decide +kernel
theorem dL_law_685 : decode code 685 = .ok (.if_icmp .eq 848, 3) := by decide +kernel
theorem dL_law_688 : decode code 688 = .ok (.iconst 0, 1) := by decide +kernel
theorem dL_law_689 : decode code 689 = .ok (.ireturn, 1) := by decide +kernel
theorem dL_law_690 : decode code 690 = .ok (.aload_n 1, 1) := by decide +kernel
theorem dL_law_691 : decode code 691 = .ok (.aload_n 0, 1) := by decide +kernel
theorem dL_law_692 : decode code 692 = .ok (.iload_n 3, 1) := by decide +kernel
theorem dL_law_693 : decode code 693 = .ok (.iconst 1, 1) := by decide +kernel
theorem dL_law_694 : decode code 694 = .ok (.iadd, 1) := by decide +kernel
theorem dL_law_695 : decode code 695 = .ok (.iaload, 1) := by decide +kernel
theorem dL_law_696 : decode code 696 = .ok (.invokevirtual 84, 3) := by decide +kernel
theorem dL_law_699 : decode code 699 = .ok (.aload_n 2, 1) := by decide +kernel
theorem dL_law_700 : decode code 700 = .ok (.aload_n 0, 1) := by decide +kernel
theorem dL_law_701 : decode code 701 = .ok (.iload_n 3, 1) := by decide +kernel
theorem dL_law_702 : decode code 702 = .ok (.iconst 1, 1) := by decide +kernel
theorem dL_law_703 : decode code 703 = .ok (.iadd, 1) := by decide +kernel
theorem dL_law_704 : decode code 704 = .ok (.iaload, 1) := by decide +kernel
theorem dL_law_705 : decode code 705 = .ok (.invokevirtual 87, 3) := by decide +kernel
theorem dL_law_708 : decode code 708 = .ok (.if_icmp .eq 825, 3) := by decide +kernel
theorem dL_law_711 : decode code 711 = .ok (.iconst 0, 1) := by decide +kernel
theorem dL_law_712 : decode code 712 = .ok (.ireturn, 1) := by decide +kernel
theorem dL_law_713 : decode code 713 = .ok (.aload_n 1, 1) := by decide +kernel
theorem dL_law_714 : decode code 714 = .ok (.aload_n 0, 1) := by decide +kernel
theorem dL_law_715 : decode code 715 = .ok (.iload_n 3, 1) := by decide +kernel
theorem dL_law_716 : decode code 716 = .ok (.iconst 1, 1) := by decide +kernel
theorem dL_law_717 : decode code 717 = .ok (.iadd, 1) := by decide +kernel
theorem dL_law_718 : decode code 718 = .ok (.iaload, 1) := by decide +kernel
theorem dL_law_719 : decode code 719 = .ok (.aload_n 0, 1) := by decide +kernel
theorem dL_law_720 : decode code 720 = .ok (.iload_n 3, 1) := by decide +kernel
theorem dL_law_721 : decode code 721 = .ok (.iconst 2, 1) := by decide +kernel
theorem dL_law_722 : decode code 722 = .ok (.iadd, 1) := by decide +kernel
theorem dL_law_723 : decode code 723 = .ok (.iaload, 1) := by decide +kernel
theorem dL_law_724 : decode code 724 = .ok (.invokevirtual 88, 3) := by decide +kernel
theorem dL_law_727 : decode code 727 = .ok (.aload_n 2, 1) := by decide +kernel
theorem dL_law_728 : decode code 728 = .ok (.aload_n 0, 1) := by decide +kernel
theorem dL_law_729 : decode code 729 = .ok (.iload_n 3, 1) := by decide +kernel
theorem dL_law_730 : decode code 730 = .ok (.iconst 1, 1) := by decide +kernel
theorem dL_law_731 : decode code 731 = .ok (.iadd, 1) := by decide +kernel
theorem dL_law_732 : decode code 732 = .ok (.iaload, 1) := by decide +kernel
theorem dL_law_733 : decode code 733 = .ok (.aload_n 0, 1) := by decide +kernel
theorem dL_law_734 : decode code 734 = .ok (.iload_n 3, 1) := by decide +kernel
theorem dL_law_735 : decode code 735 = .ok (.iconst 2, 1) := by decide +kernel
theorem dL_law_736 : decode code 736 = .ok (.iadd, 1) := by decide +kernel
theorem dL_law_737 : decode code 737 = .ok (.iaload, 1) := by decide +kernel
theorem dL_law_738 : decode code 738 = .ok (.invokevirtual 91, 3) := by decide +kernel
theorem dL_law_741 : decode code 741 = .ok (.if_icmp .eq 792, 3) := by decide +kernel
theorem dL_law_744 : decode code 744 = .ok (.iconst 0, 1) := by decide +kernel
theorem dL_law_745 : decode code 745 = .ok (.ireturn, 1) := by decide +kernel
theorem dL_law_746 : decode code 746 = .ok (.aload_n 1, 1) := by decide +kernel
theorem dL_law_747 : decode code 747 = .ok (.aload_n 0, 1) := by decide +kernel
theorem dL_law_748 : decode code 748 = .ok (.iload_n 3, 1) := by decide +kernel
theorem dL_law_749 : decode code 749 = .ok (.iconst 1, 1) := by decide +kernel
theorem dL_law_750 : decode code 750 = .ok (.iadd, 1) := by decide +kernel
theorem dL_law_751 : decode code 751 = .ok (.iaload, 1) := by decide +kernel
theorem dL_law_752 : decode code 752 = .ok (.aload_n 0, 1) := by decide +kernel
theorem dL_law_753 : decode code 753 = .ok (.iload_n 3, 1) := by decide +kernel
theorem dL_law_754 : decode code 754 = .ok (.iconst 2, 1) := by decide +kernel
theorem dL_law_755 : decode code 755 = .ok (.iadd, 1) := by decide +kernel
theorem dL_law_756 : decode code 756 = .ok (.iaload, 1) := by decide +kernel
theorem dL_law_757 : decode code 757 = .ok (.aload_n 0, 1) := by decide +kernel
theorem dL_law_758 : decode code 758 = .ok (.iload_n 3, 1) := by decide +kernel
theorem dL_law_759 : decode code 759 = .ok (.iconst 3, 1) := by decide +kernel
theorem dL_law_760 : decode code 760 = .ok (.iadd, 1) := by decide +kernel
theorem dL_law_761 : decode code 761 = .ok (.iaload, 1) := by decide +kernel
theorem dL_law_762 : decode code 762 = .ok (.invokevirtual 92, 3) := by decide +kernel
theorem dL_law_765 : decode code 765 = .ok (.aload_n 2, 1) := by decide +kernel
theorem dL_law_766 : decode code 766 = .ok (.aload_n 0, 1) := by decide +kernel
theorem dL_law_767 : decode code 767 = .ok (.iload_n 3, 1) := by decide +kernel
theorem dL_law_768 : decode code 768 = .ok (.iconst 1, 1) := by decide +kernel
theorem dL_law_769 : decode code 769 = .ok (.iadd, 1) := by decide +kernel
theorem dL_law_770 : decode code 770 = .ok (.iaload, 1) := by decide +kernel
theorem dL_law_771 : decode code 771 = .ok (.aload_n 0, 1) := by decide +kernel
theorem dL_law_772 : decode code 772 = .ok (.iload_n 3, 1) := by decide +kernel
theorem dL_law_773 : decode code 773 = .ok (.iconst 2, 1) := by decide +kernel
theorem dL_law_774 : decode code 774 = .ok (.iadd, 1) := by decide +kernel
theorem dL_law_775 : decode code 775 = .ok (.iaload, 1) := by decide +kernel
theorem dL_law_776 : decode code 776 = .ok (.aload_n 0, 1) := by decide +kernel
theorem dL_law_777 : decode code 777 = .ok (.iload_n 3, 1) := by decide +kernel
theorem dL_law_778 : decode code 778 = .ok (.iconst 3, 1) := by decide +kernel
theorem dL_law_779 : decode code 779 = .ok (.iadd, 1) := by decide +kernel
theorem dL_law_780 : decode code 780 = .ok (.iaload, 1) := by decide +kernel
theorem dL_law_781 : decode code 781 = .ok (.invokevirtual 96, 3) := by decide +kernel
theorem dL_law_784 : decode code 784 = .ok (.if_icmp .eq 749, 3) := by decide +kernel
theorem dL_law_787 : decode code 787 = .ok (.iconst 0, 1) := by decide +kernel
theorem dL_law_788 : decode code 788 = .ok (.ireturn, 1) := by decide +kernel
theorem dL_law_789 : decode code 789 = .ok (.aload_n 1, 1) := by decide +kernel
theorem dL_law_790 : decode code 790 = .ok (.invokevirtual 97, 3) := by decide +kernel
theorem dL_law_793 : decode code 793 = .ok (.aload_n 2, 1) := by decide +kernel
theorem dL_law_794 : decode code 794 = .ok (.invokevirtual 100, 3) := by decide +kernel
theorem dL_law_797 : decode code 797 = .ok (.if_icmp .eq 736, 3) := by decide +kernel
theorem dL_law_800 : decode code 800 = .ok (.iconst 0, 1) := by decide +kernel
theorem dL_law_801 : decode code 801 = .ok (.ireturn, 1) := by decide +kernel
theorem dL_law_802 : decode code 802 = .ok (.aload_n 1, 1) := by decide +kernel
theorem dL_law_803 : decode code 803 = .ok (.invokevirtual 101, 3) := by decide +kernel
theorem dL_law_806 : decode code 806 = .ok (.aload_n 2, 1) := by decide +kernel
theorem dL_law_807 : decode code 807 = .ok (.invokevirtual 104, 3) := by decide +kernel
theorem dL_law_810 : decode code 810 = .ok (.if_icmp .eq 723, 3) := by decide +kernel
theorem dL_law_813 : decode code 813 = .ok (.iconst 0, 1) := by decide +kernel
theorem dL_law_814 : decode code 814 = .ok (.ireturn, 1) := by decide +kernel
theorem dL_law_815 : decode code 815 = .ok (.aload_n 1, 1) := by decide +kernel
theorem dL_law_816 : decode code 816 = .ok (.invokevirtual 105, 3) := by decide +kernel
theorem dL_law_819 : decode code 819 = .ok (.aload_n 2, 1) := by decide +kernel
theorem dL_law_820 : decode code 820 = .ok (.invokevirtual 108, 3) := by decide +kernel
theorem dL_law_823 : decode code 823 = .ok (.if_icmp .eq 710, 3) := by decide +kernel
theorem dL_law_826 : decode code 826 = .ok (.iconst 0, 1) := by decide +kernel
theorem dL_law_827 : decode code 827 = .ok (.ireturn, 1) := by decide +kernel
theorem dL_law_828 : decode code 828 = .ok (.aload_n 1, 1) := by decide +kernel
theorem dL_law_829 : decode code 829 = .ok (.invokevirtual 109, 3) := by decide +kernel
theorem dL_law_832 : decode code 832 = .ok (.aload_n 2, 1) := by decide +kernel
theorem dL_law_833 : decode code 833 = .ok (.invokevirtual 113, 3) := by decide +kernel
theorem dL_law_836 : decode code 836 = .ok (.if_icmp .eq 697, 3) := by decide +kernel
theorem dL_law_839 : decode code 839 = .ok (.iconst 0, 1) := by decide +kernel
theorem dL_law_840 : decode code 840 = .ok (.ireturn, 1) := by decide +kernel
theorem dL_law_841 : decode code 841 = .ok (.aload_n 1, 1) := by decide +kernel
theorem dL_law_842 : decode code 842 = .ok (.aload_n 0, 1) := by decide +kernel
theorem dL_law_843 : decode code 843 = .ok (.iload_n 3, 1) := by decide +kernel
theorem dL_law_844 : decode code 844 = .ok (.iconst 1, 1) := by decide +kernel
theorem dL_law_845 : decode code 845 = .ok (.iadd, 1) := by decide +kernel
theorem dL_law_846 : decode code 846 = .ok (.iaload, 1) := by decide +kernel
theorem dL_law_847 : decode code 847 = .ok (.invokevirtual 114, 3) := by decide +kernel
theorem dL_law_850 : decode code 850 = .ok (.aload_n 2, 1) := by decide +kernel
theorem dL_law_851 : decode code 851 = .ok (.aload_n 0, 1) := by decide +kernel
theorem dL_law_852 : decode code 852 = .ok (.iload_n 3, 1) := by decide +kernel
theorem dL_law_853 : decode code 853 = .ok (.iconst 1, 1) := by decide +kernel
theorem dL_law_854 : decode code 854 = .ok (.iadd, 1) := by decide +kernel
theorem dL_law_855 : decode code 855 = .ok (.iaload, 1) := by decide +kernel
theorem dL_law_856 : decode code 856 = .ok (.invokevirtual 117, 3) := by decide +kernel
theorem dL_law_859 : decode code 859 = .ok (.if_icmp .eq 674, 3) := by decide +kernel
theorem dL_law_862 : decode code 862 = .ok (.iconst 0, 1) := by decide +kernel
theorem dL_law_863 : decode code 863 = .ok (.ireturn, 1) := by decide +kernel
theorem dL_law_864 : decode code 864 = .ok (.aload_n 1, 1) := by decide +kernel
theorem dL_law_865 : decode code 865 = .ok (.aload_n 0, 1) := by decide +kernel
theorem dL_law_866 : decode code 866 = .ok (.iload_n 3, 1) := by decide +kernel
theorem dL_law_867 : decode code 867 = .ok (.iconst 1, 1) := by decide +kernel
theorem dL_law_868 : decode code 868 = .ok (.iadd, 1) := by decide +kernel
theorem dL_law_869 : decode code 869 = .ok (.iaload, 1) := by decide +kernel
theorem dL_law_870 : decode code 870 = .ok (.aload_n 0, 1) := by decide +kernel
theorem dL_law_871 : decode code 871 = .ok (.iload_n 3, 1) := by decide +kernel
theorem dL_law_872 : decode code 872 = .ok (.iconst 2, 1) := by decide +kernel
theorem dL_law_873 : decode code 873 = .ok (.iadd, 1) := by decide +kernel
theorem dL_law_874 : decode code 874 = .ok (.iaload, 1) := by decide +kernel
theorem dL_law_875 : decode code 875 = .ok (.invokevirtual 118, 3) := by decide +kernel
theorem dL_law_878 : decode code 878 = .ok (.aload_n 2, 1) := by decide +kernel
theorem dL_law_879 : decode code 879 = .ok (.aload_n 0, 1) := by decide +kernel
theorem dL_law_880 : decode code 880 = .ok (.iload_n 3, 1) := by decide +kernel
theorem dL_law_881 : decode code 881 = .ok (.iconst 1, 1) := by decide +kernel
theorem dL_law_882 : decode code 882 = .ok (.iadd, 1) := by decide +kernel
theorem dL_law_883 : decode code 883 = .ok (.iaload, 1) := by decide +kernel
theorem dL_law_884 : decode code 884 = .ok (.aload_n 0, 1) := by decide +kernel
theorem dL_law_885 : decode code 885 = .ok (.iload_n 3, 1) := by decide +kernel
theorem dL_law_886 : decode code 886 = .ok (.iconst 2, 1) := by decide +kernel
theorem dL_law_887 : decode code 887 = .ok (.iadd, 1) := by decide +kernel
theorem dL_law_888 : decode code 888 = .ok (.iaload, 1) := by decide +kernel
theorem dL_law_889 : decode code 889 = .ok (.invokevirtual 121, 3) := by decide +kernel
theorem dL_law_892 : decode code 892 = .ok (.if_icmp .eq 641, 3) := by decide +kernel
theorem dL_law_895 : decode code 895 = .ok (.iconst 0, 1) := by decide +kernel
theorem dL_law_896 : decode code 896 = .ok (.ireturn, 1) := by decide +kernel
theorem dL_law_897 : decode code 897 = .ok (.aload_n 1, 1) := by decide +kernel
theorem dL_law_898 : decode code 898 = .ok (.aload_n 0, 1) := by decide +kernel
theorem dL_law_899 : decode code 899 = .ok (.iload_n 3, 1) := by decide +kernel
theorem dL_law_900 : decode code 900 = .ok (.iconst 1, 1) := by decide +kernel
theorem dL_law_901 : decode code 901 = .ok (.iadd, 1) := by decide +kernel
theorem dL_law_902 : decode code 902 = .ok (.iaload, 1) := by decide +kernel
theorem dL_law_903 : decode code 903 = .ok (.invokevirtual 122, 3) := by decide +kernel
theorem dL_law_906 : decode code 906 = .ok (.aload_n 2, 1) := by decide +kernel
theorem dL_law_907 : decode code 907 = .ok (.aload_n 0, 1) := by decide +kernel
theorem dL_law_908 : decode code 908 = .ok (.iload_n 3, 1) := by decide +kernel
theorem dL_law_909 : decode code 909 = .ok (.iconst 1, 1) := by decide +kernel
theorem dL_law_910 : decode code 910 = .ok (.iadd, 1) := by decide +kernel
theorem dL_law_911 : decode code 911 = .ok (.iaload, 1) := by decide +kernel
theorem dL_law_912 : decode code 912 = .ok (.invokevirtual 125, 3) := by decide +kernel
theorem dL_law_915 : decode code 915 = .ok (.if_icmp .eq 618, 3) := by decide +kernel
theorem dL_law_918 : decode code 918 = .ok (.iconst 0, 1) := by decide +kernel
theorem dL_law_919 : decode code 919 = .ok (.ireturn, 1) := by decide +kernel
theorem dL_law_920 : decode code 920 = .ok (.aload_n 1, 1) := by decide +kernel
theorem dL_law_921 : decode code 921 = .ok (.aload_n 0, 1) := by decide +kernel
theorem dL_law_922 : decode code 922 = .ok (.iload_n 3, 1) := by decide +kernel
theorem dL_law_923 : decode code 923 = .ok (.iconst 1, 1) := by decide +kernel
theorem dL_law_924 : decode code 924 = .ok (.iadd, 1) := by decide +kernel
theorem dL_law_925 : decode code 925 = .ok (.iaload, 1) := by decide +kernel
theorem dL_law_926 : decode code 926 = .ok (.aload_n 0, 1) := by decide +kernel
theorem dL_law_927 : decode code 927 = .ok (.iload_n 3, 1) := by decide +kernel
theorem dL_law_928 : decode code 928 = .ok (.iconst 2, 1) := by decide +kernel
theorem dL_law_929 : decode code 929 = .ok (.iadd, 1) := by decide +kernel
theorem dL_law_930 : decode code 930 = .ok (.iaload, 1) := by decide +kernel
theorem dL_law_931 : decode code 931 = .ok (.invokevirtual 126, 3) := by decide +kernel
theorem dL_law_934 : decode code 934 = .ok (.aload_n 2, 1) := by decide +kernel
theorem dL_law_935 : decode code 935 = .ok (.aload_n 0, 1) := by decide +kernel
theorem dL_law_936 : decode code 936 = .ok (.iload_n 3, 1) := by decide +kernel
theorem dL_law_937 : decode code 937 = .ok (.iconst 1, 1) := by decide +kernel
theorem dL_law_938 : decode code 938 = .ok (.iadd, 1) := by decide +kernel
theorem dL_law_939 : decode code 939 = .ok (.iaload, 1) := by decide +kernel
theorem dL_law_940 : decode code 940 = .ok (.aload_n 0, 1) := by decide +kernel
theorem dL_law_941 : decode code 941 = .ok (.iload_n 3, 1) := by decide +kernel
theorem dL_law_942 : decode code 942 = .ok (.iconst 2, 1) := by decide +kernel
theorem dL_law_943 : decode code 943 = .ok (.iadd, 1) := by decide +kernel
theorem dL_law_944 : decode code 944 = .ok (.iaload, 1) := by decide +kernel
theorem dL_law_945 : decode code 945 = .ok (.invokevirtual 129, 3) := by decide +kernel
theorem dL_law_948 : decode code 948 = .ok (.if_icmp .eq 585, 3) := by decide +kernel
theorem dL_law_951 : decode code 951 = .ok (.iconst 0, 1) := by decide +kernel
theorem dL_law_952 : decode code 952 = .ok (.ireturn, 1) := by decide +kernel
theorem dL_law_953 : decode code 953 = .ok (.aload_n 1, 1) := by decide +kernel
theorem dL_law_954 : decode code 954 = .ok (.aload_n 0, 1) := by decide +kernel
theorem dL_law_955 : decode code 955 = .ok (.iload_n 3, 1) := by decide +kernel
theorem dL_law_956 : decode code 956 = .ok (.iconst 1, 1) := by decide +kernel
theorem dL_law_957 : decode code 957 = .ok (.iadd, 1) := by decide +kernel
theorem dL_law_958 : decode code 958 = .ok (.iaload, 1) := by decide +kernel
theorem dL_law_959 : decode code 959 = .ok (.aload_n 0, 1) := by decide +kernel
theorem dL_law_960 : decode code 960 = .ok (.iload_n 3, 1) := by decide +kernel
theorem dL_law_961 : decode code 961 = .ok (.iconst 2, 1) := by decide +kernel
theorem dL_law_962 : decode code 962 = .ok (.iadd, 1) := by decide +kernel
theorem dL_law_963 : decode code 963 = .ok (.iaload, 1) := by decide +kernel
theorem dL_law_964 : decode code 964 = .ok (.aload_n 0, 1) := by decide +kernel
theorem dL_law_965 : decode code 965 = .ok (.iload_n 3, 1) := by decide +kernel
theorem dL_law_966 : decode code 966 = .ok (.iconst 3, 1) := by decide +kernel
theorem dL_law_967 : decode code 967 = .ok (.iadd, 1) := by decide +kernel
theorem dL_law_968 : decode code 968 = .ok (.iaload, 1) := by decide +kernel
theorem dL_law_969 : decode code 969 = .ok (.invokevirtual 130, 3) := by decide +kernel
theorem dL_law_972 : decode code 972 = .ok (.aload_n 2, 1) := by decide +kernel
theorem dL_law_973 : decode code 973 = .ok (.aload_n 0, 1) := by decide +kernel
theorem dL_law_974 : decode code 974 = .ok (.iload_n 3, 1) := by decide +kernel
theorem dL_law_975 : decode code 975 = .ok (.iconst 1, 1) := by decide +kernel
theorem dL_law_976 : decode code 976 = .ok (.iadd, 1) := by decide +kernel
theorem dL_law_977 : decode code 977 = .ok (.iaload, 1) := by decide +kernel
theorem dL_law_978 : decode code 978 = .ok (.aload_n 0, 1) := by decide +kernel
theorem dL_law_979 : decode code 979 = .ok (.iload_n 3, 1) := by decide +kernel
theorem dL_law_980 : decode code 980 = .ok (.iconst 2, 1) := by decide +kernel
theorem dL_law_981 : decode code 981 = .ok (.iadd, 1) := by decide +kernel
theorem dL_law_982 : decode code 982 = .ok (.iaload, 1) := by decide +kernel
theorem dL_law_983 : decode code 983 = .ok (.aload_n 0, 1) := by decide +kernel
theorem dL_law_984 : decode code 984 = .ok (.iload_n 3, 1) := by decide +kernel
theorem dL_law_985 : decode code 985 = .ok (.iconst 3, 1) := by decide +kernel
theorem dL_law_986 : decode code 986 = .ok (.iadd, 1) := by decide +kernel
theorem dL_law_987 : decode code 987 = .ok (.iaload, 1) := by decide +kernel
theorem dL_law_988 : decode code 988 = .ok (.invokevirtual 133, 3) := by decide +kernel
theorem dL_law_991 : decode code 991 = .ok (.if_icmp .eq 542, 3) := by decide +kernel
theorem dL_law_994 : decode code 994 = .ok (.iconst 0, 1) := by decide +kernel
theorem dL_law_995 : decode code 995 = .ok (.ireturn, 1) := by decide +kernel
theorem dL_law_996 : decode code 996 = .ok (.aload_n 1, 1) := by decide +kernel
theorem dL_law_997 : decode code 997 = .ok (.aload_n 0, 1) := by decide +kernel
theorem dL_law_998 : decode code 998 = .ok (.iload_n 3, 1) := by decide +kernel
theorem dL_law_999 : decode code 999 = .ok (.iconst 1, 1) := by decide +kernel
theorem dL_law_1000 : decode code 1000 = .ok (.iadd, 1) := by decide +kernel
theorem dL_law_1001 : decode code 1001 = .ok (.iaload, 1) := by decide +kernel
theorem dL_law_1002 : decode code 1002 = .ok (.invokevirtual 134, 3) := by decide +kernel
theorem dL_law_1005 : decode code 1005 = .ok (.aload_n 2, 1) := by decide +kernel
theorem dL_law_1006 : decode code 1006 = .ok (.aload_n 0, 1) := by decide +kernel
theorem dL_law_1007 : decode code 1007 = .ok (.iload_n 3, 1) := by decide +kernel
theorem dL_law_1008 : decode code 1008 = .ok (.iconst 1, 1) := by decide +kernel
theorem dL_law_1009 : decode code 1009 = .ok (.iadd, 1) := by decide +kernel
theorem dL_law_1010 : decode code 1010 = .ok (.iaload, 1) := by decide +kernel
theorem dL_law_1011 : decode code 1011 = .ok (.invokevirtual 137, 3) := by decide +kernel
theorem dL_law_1014 : decode code 1014 = .ok (.if_icmp .eq 519, 3) := by decide +kernel
theorem dL_law_1017 : decode code 1017 = .ok (.iconst 0, 1) := by decide +kernel
theorem dL_law_1018 : decode code 1018 = .ok (.ireturn, 1) := by decide +kernel
theorem dL_law_1019 : decode code 1019 = .ok (.aload_n 1, 1) := by decide +kernel
theorem dL_law_1020 : decode code 1020 = .ok (.aload_n 0, 1) := by decide +kernel
theorem dL_law_1021 : decode code 1021 = .ok (.iload_n 3, 1) := by decide +kernel
theorem dL_law_1022 : decode code 1022 = .ok (.iconst 1, 1) := by decide +kernel
theorem dL_law_1023 : decode code 1023 = .ok (.iadd, 1) := by decide +kernel
theorem dL_law_1024 : decode code 1024 = .ok (.iaload, 1) := by decide +kernel
theorem dL_law_1025 : decode code 1025 = .ok (.invokevirtual 138, 3) := by decide +kernel
theorem dL_law_1028 : decode code 1028 = .ok (.aload_n 2, 1) := by decide +kernel
theorem dL_law_1029 : decode code 1029 = .ok (.aload_n 0, 1) := by decide +kernel
theorem dL_law_1030 : decode code 1030 = .ok (.iload_n 3, 1) := by decide +kernel
theorem dL_law_1031 : decode code 1031 = .ok (.iconst 1, 1) := by decide +kernel
theorem dL_law_1032 : decode code 1032 = .ok (.iadd, 1) := by decide +kernel
theorem dL_law_1033 : decode code 1033 = .ok (.iaload, 1) := by decide +kernel
theorem dL_law_1034 : decode code 1034 = .ok (.invokevirtual 141, 3) := by decide +kernel
theorem dL_law_1037 : decode code 1037 = .ok (.if_icmp .eq 496, 3) := by decide +kernel
theorem dL_law_1040 : decode code 1040 = .ok (.iconst 0, 1) := by decide +kernel
theorem dL_law_1041 : decode code 1041 = .ok (.ireturn, 1) := by decide +kernel
theorem dL_law_1042 : decode code 1042 = .ok (.aload_n 1, 1) := by decide +kernel
theorem dL_law_1043 : decode code 1043 = .ok (.invokevirtual 142, 3) := by decide +kernel
theorem dL_law_1046 : decode code 1046 = .ok (.aload_n 2, 1) := by decide +kernel
theorem dL_law_1047 : decode code 1047 = .ok (.invokevirtual 145, 3) := by decide +kernel
theorem dL_law_1050 : decode code 1050 = .ok (.if_icmp .eq 483, 3) := by decide +kernel
theorem dL_law_1053 : decode code 1053 = .ok (.iconst 0, 1) := by decide +kernel
theorem dL_law_1054 : decode code 1054 = .ok (.ireturn, 1) := by decide +kernel
theorem dL_law_1055 : decode code 1055 = .ok (.aload_n 1, 1) := by decide +kernel
theorem dL_law_1056 : decode code 1056 = .ok (.aload_n 0, 1) := by decide +kernel
theorem dL_law_1057 : decode code 1057 = .ok (.iload_n 3, 1) := by decide +kernel
theorem dL_law_1058 : decode code 1058 = .ok (.iconst 1, 1) := by decide +kernel
theorem dL_law_1059 : decode code 1059 = .ok (.iadd, 1) := by decide +kernel
theorem dL_law_1060 : decode code 1060 = .ok (.iaload, 1) := by decide +kernel
theorem dL_law_1061 : decode code 1061 = .ok (.aload_n 0, 1) := by decide +kernel
theorem dL_law_1062 : decode code 1062 = .ok (.iload_n 3, 1) := by decide +kernel
theorem dL_law_1063 : decode code 1063 = .ok (.iconst 2, 1) := by decide +kernel
theorem dL_law_1064 : decode code 1064 = .ok (.iadd, 1) := by decide +kernel
theorem dL_law_1065 : decode code 1065 = .ok (.iaload, 1) := by decide +kernel
theorem dL_law_1066 : decode code 1066 = .ok (.aload_n 0, 1) := by decide +kernel
theorem dL_law_1067 : decode code 1067 = .ok (.iload_n 3, 1) := by decide +kernel
theorem dL_law_1068 : decode code 1068 = .ok (.iconst 3, 1) := by decide +kernel
theorem dL_law_1069 : decode code 1069 = .ok (.iadd, 1) := by decide +kernel
theorem dL_law_1070 : decode code 1070 = .ok (.iaload, 1) := by decide +kernel
theorem dL_law_1071 : decode code 1071 = .ok (.aload_n 0, 1) := by decide +kernel
theorem dL_law_1072 : decode code 1072 = .ok (.iload_n 3, 1) := by decide +kernel
theorem dL_law_1073 : decode code 1073 = .ok (.iconst 4, 1) := by decide +kernel
theorem dL_law_1074 : decode code 1074 = .ok (.iadd, 1) := by decide +kernel
theorem dL_law_1075 : decode code 1075 = .ok (.iaload, 1) := by decide +kernel
theorem dL_law_1076 : decode code 1076 = .ok (.aload_n 0, 1) := by decide +kernel
theorem dL_law_1077 : decode code 1077 = .ok (.iload_n 3, 1) := by decide +kernel
theorem dL_law_1078 : decode code 1078 = .ok (.iconst 5, 1) := by decide +kernel
theorem dL_law_1079 : decode code 1079 = .ok (.iadd, 1) := by decide +kernel
theorem dL_law_1080 : decode code 1080 = .ok (.iaload, 1) := by decide +kernel
theorem dL_law_1081 : decode code 1081 = .ok (.invokevirtual 146, 3) := by decide +kernel
theorem dL_law_1084 : decode code 1084 = .ok (.aload_n 2, 1) := by decide +kernel
theorem dL_law_1085 : decode code 1085 = .ok (.aload_n 0, 1) := by decide +kernel
theorem dL_law_1086 : decode code 1086 = .ok (.iload_n 3, 1) := by decide +kernel
theorem dL_law_1087 : decode code 1087 = .ok (.iconst 1, 1) := by decide +kernel
theorem dL_law_1088 : decode code 1088 = .ok (.iadd, 1) := by decide +kernel
theorem dL_law_1089 : decode code 1089 = .ok (.iaload, 1) := by decide +kernel
theorem dL_law_1090 : decode code 1090 = .ok (.aload_n 0, 1) := by decide +kernel
theorem dL_law_1091 : decode code 1091 = .ok (.iload_n 3, 1) := by decide +kernel
theorem dL_law_1092 : decode code 1092 = .ok (.iconst 2, 1) := by decide +kernel
theorem dL_law_1093 : decode code 1093 = .ok (.iadd, 1) := by decide +kernel
theorem dL_law_1094 : decode code 1094 = .ok (.iaload, 1) := by decide +kernel
theorem dL_law_1095 : decode code 1095 = .ok (.aload_n 0, 1) := by decide +kernel
theorem dL_law_1096 : decode code 1096 = .ok (.iload_n 3, 1) := by decide +kernel
theorem dL_law_1097 : decode code 1097 = .ok (.iconst 3, 1) := by decide +kernel
theorem dL_law_1098 : decode code 1098 = .ok (.iadd, 1) := by decide +kernel
theorem dL_law_1099 : decode code 1099 = .ok (.iaload, 1) := by decide +kernel
theorem dL_law_1100 : decode code 1100 = .ok (.aload_n 0, 1) := by decide +kernel
theorem dL_law_1101 : decode code 1101 = .ok (.iload_n 3, 1) := by decide +kernel
theorem dL_law_1102 : decode code 1102 = .ok (.iconst 4, 1) := by decide +kernel
theorem dL_law_1103 : decode code 1103 = .ok (.iadd, 1) := by decide +kernel
theorem dL_law_1104 : decode code 1104 = .ok (.iaload, 1) := by decide +kernel
theorem dL_law_1105 : decode code 1105 = .ok (.aload_n 0, 1) := by decide +kernel
theorem dL_law_1106 : decode code 1106 = .ok (.iload_n 3, 1) := by decide +kernel
theorem dL_law_1107 : decode code 1107 = .ok (.iconst 5, 1) := by decide +kernel
theorem dL_law_1108 : decode code 1108 = .ok (.iadd, 1) := by decide +kernel
theorem dL_law_1109 : decode code 1109 = .ok (.iaload, 1) := by decide +kernel
theorem dL_law_1110 : decode code 1110 = .ok (.invokevirtual 149, 3) := by decide +kernel
theorem dL_law_1113 : decode code 1113 = .ok (.if_icmp .eq 420, 3) := by decide +kernel
theorem dL_law_1116 : decode code 1116 = .ok (.iconst 0, 1) := by decide +kernel
theorem dL_law_1117 : decode code 1117 = .ok (.ireturn, 1) := by decide +kernel
theorem dL_law_1118 : decode code 1118 = .ok (.aload_n 1, 1) := by decide +kernel
theorem dL_law_1119 : decode code 1119 = .ok (.aload_n 0, 1) := by decide +kernel
theorem dL_law_1120 : decode code 1120 = .ok (.iload_n 3, 1) := by decide +kernel
theorem dL_law_1121 : decode code 1121 = .ok (.iconst 1, 1) := by decide +kernel
theorem dL_law_1122 : decode code 1122 = .ok (.iadd, 1) := by decide +kernel
theorem dL_law_1123 : decode code 1123 = .ok (.iaload, 1) := by decide +kernel
theorem dL_law_1124 : decode code 1124 = .ok (.aload_n 0, 1) := by decide +kernel
theorem dL_law_1125 : decode code 1125 = .ok (.iload_n 3, 1) := by decide +kernel
theorem dL_law_1126 : decode code 1126 = .ok (.iconst 2, 1) := by decide +kernel
theorem dL_law_1127 : decode code 1127 = .ok (.iadd, 1) := by decide +kernel
theorem dL_law_1128 : decode code 1128 = .ok (.iaload, 1) := by decide +kernel
theorem dL_law_1129 : decode code 1129 = .ok (.aload_n 0, 1) := by decide +kernel
theorem dL_law_1130 : decode code 1130 = .ok (.iload_n 3, 1) := by decide +kernel
theorem dL_law_1131 : decode code 1131 = .ok (.iconst 3, 1) := by decide +kernel
theorem dL_law_1132 : decode code 1132 = .ok (.iadd, 1) := by decide +kernel
theorem dL_law_1133 : decode code 1133 = .ok (.iaload, 1) := by decide +kernel
theorem dL_law_1134 : decode code 1134 = .ok (.aload_n 0, 1) := by decide +kernel
theorem dL_law_1135 : decode code 1135 = .ok (.iload_n 3, 1) := by decide +kernel
theorem dL_law_1136 : decode code 1136 = .ok (.iconst 4, 1) := by decide +kernel
theorem dL_law_1137 : decode code 1137 = .ok (.iadd, 1) := by decide +kernel
theorem dL_law_1138 : decode code 1138 = .ok (.iaload, 1) := by decide +kernel
theorem dL_law_1139 : decode code 1139 = .ok (.aload_n 0, 1) := by decide +kernel
theorem dL_law_1140 : decode code 1140 = .ok (.iload_n 3, 1) := by decide +kernel
theorem dL_law_1141 : decode code 1141 = .ok (.iconst 5, 1) := by decide +kernel
theorem dL_law_1142 : decode code 1142 = .ok (.iadd, 1) := by decide +kernel
theorem dL_law_1143 : decode code 1143 = .ok (.iaload, 1) := by decide +kernel
theorem dL_law_1144 : decode code 1144 = .ok (.aload_n 0, 1) := by decide +kernel
theorem dL_law_1145 : decode code 1145 = .ok (.iload_n 3, 1) := by decide +kernel
theorem dL_law_1146 : decode code 1146 = .ok (.bipush 6, 2) := by decide +kernel
theorem dL_law_1148 : decode code 1148 = .ok (.iadd, 1) := by decide +kernel
theorem dL_law_1149 : decode code 1149 = .ok (.iaload, 1) := by decide +kernel
theorem dL_law_1150 : decode code 1150 = .ok (.invokevirtual 150, 3) := by decide +kernel
theorem dL_law_1153 : decode code 1153 = .ok (.aload_n 2, 1) := by decide +kernel
theorem dL_law_1154 : decode code 1154 = .ok (.aload_n 0, 1) := by decide +kernel
theorem dL_law_1155 : decode code 1155 = .ok (.iload_n 3, 1) := by decide +kernel
theorem dL_law_1156 : decode code 1156 = .ok (.iconst 1, 1) := by decide +kernel
theorem dL_law_1157 : decode code 1157 = .ok (.iadd, 1) := by decide +kernel
theorem dL_law_1158 : decode code 1158 = .ok (.iaload, 1) := by decide +kernel
theorem dL_law_1159 : decode code 1159 = .ok (.aload_n 0, 1) := by decide +kernel
theorem dL_law_1160 : decode code 1160 = .ok (.iload_n 3, 1) := by decide +kernel
theorem dL_law_1161 : decode code 1161 = .ok (.iconst 2, 1) := by decide +kernel
theorem dL_law_1162 : decode code 1162 = .ok (.iadd, 1) := by decide +kernel
theorem dL_law_1163 : decode code 1163 = .ok (.iaload, 1) := by decide +kernel
theorem dL_law_1164 : decode code 1164 = .ok (.aload_n 0, 1) := by decide +kernel
theorem dL_law_1165 : decode code 1165 = .ok (.iload_n 3, 1) := by decide +kernel
theorem dL_law_1166 : decode code 1166 = .ok (.iconst 3, 1) := by decide +kernel
theorem dL_law_1167 : decode code 1167 = .ok (.iadd, 1) := by decide +kernel
theorem dL_law_1168 : decode code 1168 = .ok (.iaload, 1) := by decide +kernel
theorem dL_law_1169 : decode code 1169 = .ok (.aload_n 0, 1) := by decide +kernel
theorem dL_law_1170 : decode code 1170 = .ok (.iload_n 3, 1) := by decide +kernel
theorem dL_law_1171 : decode code 1171 = .ok (.iconst 4, 1) := by decide +kernel
theorem dL_law_1172 : decode code 1172 = .ok (.iadd, 1) := by decide +kernel
theorem dL_law_1173 : decode code 1173 = .ok (.iaload, 1) := by decide +kernel
theorem dL_law_1174 : decode code 1174 = .ok (.aload_n 0, 1) := by decide +kernel
theorem dL_law_1175 : decode code 1175 = .ok (.iload_n 3, 1) := by decide +kernel
theorem dL_law_1176 : decode code 1176 = .ok (.iconst 5, 1) := by decide +kernel
theorem dL_law_1177 : decode code 1177 = .ok (.iadd, 1) := by decide +kernel
theorem dL_law_1178 : decode code 1178 = .ok (.iaload, 1) := by decide +kernel
theorem dL_law_1179 : decode code 1179 = .ok (.aload_n 0, 1) := by decide +kernel
theorem dL_law_1180 : decode code 1180 = .ok (.iload_n 3, 1) := by decide +kernel
theorem dL_law_1181 : decode code 1181 = .ok (.bipush 6, 2) := by decide +kernel
theorem dL_law_1183 : decode code 1183 = .ok (.iadd, 1) := by decide +kernel
theorem dL_law_1184 : decode code 1184 = .ok (.iaload, 1) := by decide +kernel
theorem dL_law_1185 : decode code 1185 = .ok (.invokevirtual 154, 3) := by decide +kernel
theorem dL_law_1188 : decode code 1188 = .ok (.if_icmp .eq 345, 3) := by decide +kernel
theorem dL_law_1191 : decode code 1191 = .ok (.iconst 0, 1) := by decide +kernel
theorem dL_law_1192 : decode code 1192 = .ok (.ireturn, 1) := by decide +kernel
theorem dL_law_1193 : decode code 1193 = .ok (.aload_n 1, 1) := by decide +kernel
theorem dL_law_1194 : decode code 1194 = .ok (.aload_n 0, 1) := by decide +kernel
theorem dL_law_1195 : decode code 1195 = .ok (.iload_n 3, 1) := by decide +kernel
theorem dL_law_1196 : decode code 1196 = .ok (.iconst 1, 1) := by decide +kernel
theorem dL_law_1197 : decode code 1197 = .ok (.iadd, 1) := by decide +kernel
theorem dL_law_1198 : decode code 1198 = .ok (.iaload, 1) := by decide +kernel
theorem dL_law_1199 : decode code 1199 = .ok (.aload_n 0, 1) := by decide +kernel
theorem dL_law_1200 : decode code 1200 = .ok (.iload_n 3, 1) := by decide +kernel
theorem dL_law_1201 : decode code 1201 = .ok (.iconst 2, 1) := by decide +kernel
theorem dL_law_1202 : decode code 1202 = .ok (.iadd, 1) := by decide +kernel
theorem dL_law_1203 : decode code 1203 = .ok (.iaload, 1) := by decide +kernel
theorem dL_law_1204 : decode code 1204 = .ok (.aload_n 0, 1) := by decide +kernel
theorem dL_law_1205 : decode code 1205 = .ok (.iload_n 3, 1) := by decide +kernel
theorem dL_law_1206 : decode code 1206 = .ok (.iconst 3, 1) := by decide +kernel
theorem dL_law_1207 : decode code 1207 = .ok (.iadd, 1) := by decide +kernel
theorem dL_law_1208 : decode code 1208 = .ok (.iaload, 1) := by decide +kernel
theorem dL_law_1209 : decode code 1209 = .ok (.invokevirtual 155, 3) := by decide +kernel
theorem dL_law_1212 : decode code 1212 = .ok (.aload_n 2, 1) := by decide +kernel
theorem dL_law_1213 : decode code 1213 = .ok (.aload_n 0, 1) := by decide +kernel
theorem dL_law_1214 : decode code 1214 = .ok (.iload_n 3, 1) := by decide +kernel
theorem dL_law_1215 : decode code 1215 = .ok (.iconst 1, 1) := by decide +kernel
theorem dL_law_1216 : decode code 1216 = .ok (.iadd, 1) := by decide +kernel
theorem dL_law_1217 : decode code 1217 = .ok (.iaload, 1) := by decide +kernel
theorem dL_law_1218 : decode code 1218 = .ok (.aload_n 0, 1) := by decide +kernel
theorem dL_law_1219 : decode code 1219 = .ok (.iload_n 3, 1) := by decide +kernel
theorem dL_law_1220 : decode code 1220 = .ok (.iconst 2, 1) := by decide +kernel
theorem dL_law_1221 : decode code 1221 = .ok (.iadd, 1) := by decide +kernel
theorem dL_law_1222 : decode code 1222 = .ok (.iaload, 1) := by decide +kernel
theorem dL_law_1223 : decode code 1223 = .ok (.aload_n 0, 1) := by decide +kernel
theorem dL_law_1224 : decode code 1224 = .ok (.iload_n 3, 1) := by decide +kernel
theorem dL_law_1225 : decode code 1225 = .ok (.iconst 3, 1) := by decide +kernel
theorem dL_law_1226 : decode code 1226 = .ok (.iadd, 1) := by decide +kernel
theorem dL_law_1227 : decode code 1227 = .ok (.iaload, 1) := by decide +kernel
theorem dL_law_1228 : decode code 1228 = .ok (.invokevirtual 158, 3) := by decide +kernel
theorem dL_law_1231 : decode code 1231 = .ok (.if_icmp .eq 302, 3) := by decide +kernel
theorem dL_law_1234 : decode code 1234 = .ok (.iconst 0, 1) := by decide +kernel
theorem dL_law_1235 : decode code 1235 = .ok (.ireturn, 1) := by decide +kernel
theorem dL_law_1236 : decode code 1236 = .ok (.aload_n 1, 1) := by decide +kernel
theorem dL_law_1237 : decode code 1237 = .ok (.aload_n 0, 1) := by decide +kernel
theorem dL_law_1238 : decode code 1238 = .ok (.iload_n 3, 1) := by decide +kernel
theorem dL_law_1239 : decode code 1239 = .ok (.iconst 1, 1) := by decide +kernel
theorem dL_law_1240 : decode code 1240 = .ok (.iadd, 1) := by decide +kernel
theorem dL_law_1241 : decode code 1241 = .ok (.iaload, 1) := by decide +kernel
theorem dL_law_1242 : decode code 1242 = .ok (.aload_n 0, 1) := by decide +kernel
theorem dL_law_1243 : decode code 1243 = .ok (.iload_n 3, 1) := by decide +kernel
theorem dL_law_1244 : decode code 1244 = .ok (.iconst 2, 1) := by decide +kernel
theorem dL_law_1245 : decode code 1245 = .ok (.iadd, 1) := by decide +kernel
theorem dL_law_1246 : decode code 1246 = .ok (.iaload, 1) := by decide +kernel
theorem dL_law_1247 : decode code 1247 = .ok (.aload_n 0, 1) := by decide +kernel
theorem dL_law_1248 : decode code 1248 = .ok (.iload_n 3, 1) := by decide +kernel
theorem dL_law_1249 : decode code 1249 = .ok (.iconst 3, 1) := by decide +kernel
theorem dL_law_1250 : decode code 1250 = .ok (.iadd, 1) := by decide +kernel
theorem dL_law_1251 : decode code 1251 = .ok (.iaload, 1) := by decide +kernel
theorem dL_law_1252 : decode code 1252 = .ok (.invokevirtual 159, 3) := by decide +kernel
theorem dL_law_1255 : decode code 1255 = .ok (.aload_n 2, 1) := by decide +kernel
theorem dL_law_1256 : decode code 1256 = .ok (.aload_n 0, 1) := by decide +kernel
theorem dL_law_1257 : decode code 1257 = .ok (.iload_n 3, 1) := by decide +kernel
theorem dL_law_1258 : decode code 1258 = .ok (.iconst 1, 1) := by decide +kernel
theorem dL_law_1259 : decode code 1259 = .ok (.iadd, 1) := by decide +kernel
theorem dL_law_1260 : decode code 1260 = .ok (.iaload, 1) := by decide +kernel
theorem dL_law_1261 : decode code 1261 = .ok (.aload_n 0, 1) := by decide +kernel
theorem dL_law_1262 : decode code 1262 = .ok (.iload_n 3, 1) := by decide +kernel
theorem dL_law_1263 : decode code 1263 = .ok (.iconst 2, 1) := by decide +kernel
theorem dL_law_1264 : decode code 1264 = .ok (.iadd, 1) := by decide +kernel
theorem dL_law_1265 : decode code 1265 = .ok (.iaload, 1) := by decide +kernel
theorem dL_law_1266 : decode code 1266 = .ok (.aload_n 0, 1) := by decide +kernel
theorem dL_law_1267 : decode code 1267 = .ok (.iload_n 3, 1) := by decide +kernel
theorem dL_law_1268 : decode code 1268 = .ok (.iconst 3, 1) := by decide +kernel
theorem dL_law_1269 : decode code 1269 = .ok (.iadd, 1) := by decide +kernel
theorem dL_law_1270 : decode code 1270 = .ok (.iaload, 1) := by decide +kernel
theorem dL_law_1271 : decode code 1271 = .ok (.invokevirtual 162, 3) := by decide +kernel
theorem dL_law_1274 : decode code 1274 = .ok (.if_icmp .eq 259, 3) := by decide +kernel
theorem dL_law_1277 : decode code 1277 = .ok (.iconst 0, 1) := by decide +kernel
theorem dL_law_1278 : decode code 1278 = .ok (.ireturn, 1) := by decide +kernel
theorem dL_law_1279 : decode code 1279 = .ok (.aload_n 1, 1) := by decide +kernel
theorem dL_law_1280 : decode code 1280 = .ok (.aload_n 0, 1) := by decide +kernel
theorem dL_law_1281 : decode code 1281 = .ok (.iload_n 3, 1) := by decide +kernel
theorem dL_law_1282 : decode code 1282 = .ok (.iconst 1, 1) := by decide +kernel
theorem dL_law_1283 : decode code 1283 = .ok (.iadd, 1) := by decide +kernel
theorem dL_law_1284 : decode code 1284 = .ok (.iaload, 1) := by decide +kernel
theorem dL_law_1285 : decode code 1285 = .ok (.invokevirtual 163, 3) := by decide +kernel
theorem dL_law_1288 : decode code 1288 = .ok (.aload_n 2, 1) := by decide +kernel
theorem dL_law_1289 : decode code 1289 = .ok (.aload_n 0, 1) := by decide +kernel
theorem dL_law_1290 : decode code 1290 = .ok (.iload_n 3, 1) := by decide +kernel
theorem dL_law_1291 : decode code 1291 = .ok (.iconst 1, 1) := by decide +kernel
theorem dL_law_1292 : decode code 1292 = .ok (.iadd, 1) := by decide +kernel
theorem dL_law_1293 : decode code 1293 = .ok (.iaload, 1) := by decide +kernel
theorem dL_law_1294 : decode code 1294 = .ok (.invokevirtual 166, 3) := by decide +kernel
theorem dL_law_1297 : decode code 1297 = .ok (.if_icmp .eq 236, 3) := by decide +kernel
theorem dL_law_1300 : decode code 1300 = .ok (.iconst 0, 1) := by decide +kernel
theorem dL_law_1301 : decode code 1301 = .ok (.ireturn, 1) := by decide +kernel
theorem dL_law_1302 : decode code 1302 = .ok (.aload_n 1, 1) := by decide +kernel
theorem dL_law_1303 : decode code 1303 = .ok (.aload_n 0, 1) := by decide +kernel
theorem dL_law_1304 : decode code 1304 = .ok (.iload_n 3, 1) := by decide +kernel
theorem dL_law_1305 : decode code 1305 = .ok (.iconst 1, 1) := by decide +kernel
theorem dL_law_1306 : decode code 1306 = .ok (.iadd, 1) := by decide +kernel
theorem dL_law_1307 : decode code 1307 = .ok (.iaload, 1) := by decide +kernel
theorem dL_law_1308 : decode code 1308 = .ok (.aload_n 0, 1) := by decide +kernel
theorem dL_law_1309 : decode code 1309 = .ok (.iload_n 3, 1) := by decide +kernel
theorem dL_law_1310 : decode code 1310 = .ok (.iconst 2, 1) := by decide +kernel
theorem dL_law_1311 : decode code 1311 = .ok (.iadd, 1) := by decide +kernel
theorem dL_law_1312 : decode code 1312 = .ok (.iaload, 1) := by decide +kernel
theorem dL_law_1313 : decode code 1313 = .ok (.aload_n 0, 1) := by decide +kernel
theorem dL_law_1314 : decode code 1314 = .ok (.iload_n 3, 1) := by decide +kernel
theorem dL_law_1315 : decode code 1315 = .ok (.iconst 3, 1) := by decide +kernel
theorem dL_law_1316 : decode code 1316 = .ok (.iadd, 1) := by decide +kernel
theorem dL_law_1317 : decode code 1317 = .ok (.iaload, 1) := by decide +kernel
theorem dL_law_1318 : decode code 1318 = .ok (.invokevirtual 167, 3) := by decide +kernel
theorem dL_law_1321 : decode code 1321 = .ok (.aload_n 2, 1) := by decide +kernel
theorem dL_law_1322 : decode code 1322 = .ok (.aload_n 0, 1) := by decide +kernel
theorem dL_law_1323 : decode code 1323 = .ok (.iload_n 3, 1) := by decide +kernel
theorem dL_law_1324 : decode code 1324 = .ok (.iconst 1, 1) := by decide +kernel
theorem dL_law_1325 : decode code 1325 = .ok (.iadd, 1) := by decide +kernel
theorem dL_law_1326 : decode code 1326 = .ok (.iaload, 1) := by decide +kernel
theorem dL_law_1327 : decode code 1327 = .ok (.aload_n 0, 1) := by decide +kernel
theorem dL_law_1328 : decode code 1328 = .ok (.iload_n 3, 1) := by decide +kernel
theorem dL_law_1329 : decode code 1329 = .ok (.iconst 2, 1) := by decide +kernel
theorem dL_law_1330 : decode code 1330 = .ok (.iadd, 1) := by decide +kernel
theorem dL_law_1331 : decode code 1331 = .ok (.iaload, 1) := by decide +kernel
theorem dL_law_1332 : decode code 1332 = .ok (.aload_n 0, 1) := by decide +kernel
theorem dL_law_1333 : decode code 1333 = .ok (.iload_n 3, 1) := by decide +kernel
theorem dL_law_1334 : decode code 1334 = .ok (.iconst 3, 1) := by decide +kernel
theorem dL_law_1335 : decode code 1335 = .ok (.iadd, 1) := by decide +kernel
theorem dL_law_1336 : decode code 1336 = .ok (.iaload, 1) := by decide +kernel
theorem dL_law_1337 : decode code 1337 = .ok (.invokevirtual 170, 3) := by decide +kernel
theorem dL_law_1340 : decode code 1340 = .ok (.if_icmp .eq 193, 3) := by decide +kernel
theorem dL_law_1343 : decode code 1343 = .ok (.iconst 0, 1) := by decide +kernel
theorem dL_law_1344 : decode code 1344 = .ok (.ireturn, 1) := by decide +kernel
theorem dL_law_1345 : decode code 1345 = .ok (.aload_n 1, 1) := by decide +kernel
theorem dL_law_1346 : decode code 1346 = .ok (.aload_n 0, 1) := by decide +kernel
theorem dL_law_1347 : decode code 1347 = .ok (.iload_n 3, 1) := by decide +kernel
theorem dL_law_1348 : decode code 1348 = .ok (.iconst 1, 1) := by decide +kernel
theorem dL_law_1349 : decode code 1349 = .ok (.iadd, 1) := by decide +kernel
theorem dL_law_1350 : decode code 1350 = .ok (.iaload, 1) := by decide +kernel
theorem dL_law_1351 : decode code 1351 = .ok (.aload_n 0, 1) := by decide +kernel
theorem dL_law_1352 : decode code 1352 = .ok (.iload_n 3, 1) := by decide +kernel
theorem dL_law_1353 : decode code 1353 = .ok (.iconst 2, 1) := by decide +kernel
theorem dL_law_1354 : decode code 1354 = .ok (.iadd, 1) := by decide +kernel
theorem dL_law_1355 : decode code 1355 = .ok (.iaload, 1) := by decide +kernel
theorem dL_law_1356 : decode code 1356 = .ok (.invokevirtual 171, 3) := by decide +kernel
theorem dL_law_1359 : decode code 1359 = .ok (.aload_n 2, 1) := by decide +kernel
theorem dL_law_1360 : decode code 1360 = .ok (.aload_n 0, 1) := by decide +kernel
theorem dL_law_1361 : decode code 1361 = .ok (.iload_n 3, 1) := by decide +kernel
theorem dL_law_1362 : decode code 1362 = .ok (.iconst 1, 1) := by decide +kernel
theorem dL_law_1363 : decode code 1363 = .ok (.iadd, 1) := by decide +kernel
theorem dL_law_1364 : decode code 1364 = .ok (.iaload, 1) := by decide +kernel
theorem dL_law_1365 : decode code 1365 = .ok (.aload_n 0, 1) := by decide +kernel
theorem dL_law_1366 : decode code 1366 = .ok (.iload_n 3, 1) := by decide +kernel
theorem dL_law_1367 : decode code 1367 = .ok (.iconst 2, 1) := by decide +kernel
theorem dL_law_1368 : decode code 1368 = .ok (.iadd, 1) := by decide +kernel
theorem dL_law_1369 : decode code 1369 = .ok (.iaload, 1) := by decide +kernel
theorem dL_law_1370 : decode code 1370 = .ok (.invokevirtual 174, 3) := by decide +kernel
theorem dL_law_1373 : decode code 1373 = .ok (.if_icmp .eq 160, 3) := by decide +kernel
theorem dL_law_1376 : decode code 1376 = .ok (.iconst 0, 1) := by decide +kernel
theorem dL_law_1377 : decode code 1377 = .ok (.ireturn, 1) := by decide +kernel
theorem dL_law_1378 : decode code 1378 = .ok (.aload_n 1, 1) := by decide +kernel
theorem dL_law_1379 : decode code 1379 = .ok (.aload_n 0, 1) := by decide +kernel
theorem dL_law_1380 : decode code 1380 = .ok (.iload_n 3, 1) := by decide +kernel
theorem dL_law_1381 : decode code 1381 = .ok (.iconst 1, 1) := by decide +kernel
theorem dL_law_1382 : decode code 1382 = .ok (.iadd, 1) := by decide +kernel
theorem dL_law_1383 : decode code 1383 = .ok (.iaload, 1) := by decide +kernel
theorem dL_law_1384 : decode code 1384 = .ok (.aload_n 0, 1) := by decide +kernel
theorem dL_law_1385 : decode code 1385 = .ok (.iload_n 3, 1) := by decide +kernel
theorem dL_law_1386 : decode code 1386 = .ok (.iconst 2, 1) := by decide +kernel
theorem dL_law_1387 : decode code 1387 = .ok (.iadd, 1) := by decide +kernel
theorem dL_law_1388 : decode code 1388 = .ok (.iaload, 1) := by decide +kernel
theorem dL_law_1389 : decode code 1389 = .ok (.aload_n 0, 1) := by decide +kernel
theorem dL_law_1390 : decode code 1390 = .ok (.iload_n 3, 1) := by decide +kernel
theorem dL_law_1391 : decode code 1391 = .ok (.iconst 3, 1) := by decide +kernel
theorem dL_law_1392 : decode code 1392 = .ok (.iadd, 1) := by decide +kernel
theorem dL_law_1393 : decode code 1393 = .ok (.iaload, 1) := by decide +kernel
theorem dL_law_1394 : decode code 1394 = .ok (.aload_n 0, 1) := by decide +kernel
theorem dL_law_1395 : decode code 1395 = .ok (.iload_n 3, 1) := by decide +kernel
theorem dL_law_1396 : decode code 1396 = .ok (.iconst 4, 1) := by decide +kernel
theorem dL_law_1397 : decode code 1397 = .ok (.iadd, 1) := by decide +kernel
theorem dL_law_1398 : decode code 1398 = .ok (.iaload, 1) := by decide +kernel
theorem dL_law_1399 : decode code 1399 = .ok (.invokevirtual 175, 3) := by decide +kernel
theorem dL_law_1402 : decode code 1402 = .ok (.aload_n 2, 1) := by decide +kernel
theorem dL_law_1403 : decode code 1403 = .ok (.aload_n 0, 1) := by decide +kernel
theorem dL_law_1404 : decode code 1404 = .ok (.iload_n 3, 1) := by decide +kernel
theorem dL_law_1405 : decode code 1405 = .ok (.iconst 1, 1) := by decide +kernel
theorem dL_law_1406 : decode code 1406 = .ok (.iadd, 1) := by decide +kernel
theorem dL_law_1407 : decode code 1407 = .ok (.iaload, 1) := by decide +kernel
theorem dL_law_1408 : decode code 1408 = .ok (.aload_n 0, 1) := by decide +kernel
theorem dL_law_1409 : decode code 1409 = .ok (.iload_n 3, 1) := by decide +kernel
theorem dL_law_1410 : decode code 1410 = .ok (.iconst 2, 1) := by decide +kernel
theorem dL_law_1411 : decode code 1411 = .ok (.iadd, 1) := by decide +kernel
theorem dL_law_1412 : decode code 1412 = .ok (.iaload, 1) := by decide +kernel
theorem dL_law_1413 : decode code 1413 = .ok (.aload_n 0, 1) := by decide +kernel
theorem dL_law_1414 : decode code 1414 = .ok (.iload_n 3, 1) := by decide +kernel
theorem dL_law_1415 : decode code 1415 = .ok (.iconst 3, 1) := by decide +kernel
theorem dL_law_1416 : decode code 1416 = .ok (.iadd, 1) := by decide +kernel
theorem dL_law_1417 : decode code 1417 = .ok (.iaload, 1) := by decide +kernel
theorem dL_law_1418 : decode code 1418 = .ok (.aload_n 0, 1) := by decide +kernel
theorem dL_law_1419 : decode code 1419 = .ok (.iload_n 3, 1) := by decide +kernel
theorem dL_law_1420 : decode code 1420 = .ok (.iconst 4, 1) := by decide +kernel
theorem dL_law_1421 : decode code 1421 = .ok (.iadd, 1) := by decide +kernel
theorem dL_law_1422 : decode code 1422 = .ok (.iaload, 1) := by decide +kernel
theorem dL_law_1423 : decode code 1423 = .ok (.invokevirtual 179, 3) := by decide +kernel
theorem dL_law_1426 : decode code 1426 = .ok (.if_icmp .eq 107, 3) := by decide +kernel
theorem dL_law_1429 : decode code 1429 = .ok (.iconst 0, 1) := by decide +kernel
theorem dL_law_1430 : decode code 1430 = .ok (.ireturn, 1) := by decide +kernel
theorem dL_law_1431 : decode code 1431 = .ok (.aload_n 1, 1) := by decide +kernel
theorem dL_law_1432 : decode code 1432 = .ok (.aload_n 0, 1) := by decide +kernel
theorem dL_law_1433 : decode code 1433 = .ok (.iload_n 3, 1) := by decide +kernel
theorem dL_law_1434 : decode code 1434 = .ok (.iconst 1, 1) := by decide +kernel
theorem dL_law_1435 : decode code 1435 = .ok (.iadd, 1) := by decide +kernel
theorem dL_law_1436 : decode code 1436 = .ok (.iaload, 1) := by decide +kernel
theorem dL_law_1437 : decode code 1437 = .ok (.aload_n 0, 1) := by decide +kernel
theorem dL_law_1438 : decode code 1438 = .ok (.iload_n 3, 1) := by decide +kernel
theorem dL_law_1439 : decode code 1439 = .ok (.iconst 2, 1) := by decide +kernel
theorem dL_law_1440 : decode code 1440 = .ok (.iadd, 1) := by decide +kernel
theorem dL_law_1441 : decode code 1441 = .ok (.iaload, 1) := by decide +kernel
theorem dL_law_1442 : decode code 1442 = .ok (.invokevirtual 180, 3) := by decide +kernel
theorem dL_law_1445 : decode code 1445 = .ok (.aload_n 2, 1) := by decide +kernel
theorem dL_law_1446 : decode code 1446 = .ok (.aload_n 0, 1) := by decide +kernel
theorem dL_law_1447 : decode code 1447 = .ok (.iload_n 3, 1) := by decide +kernel
theorem dL_law_1448 : decode code 1448 = .ok (.iconst 1, 1) := by decide +kernel
theorem dL_law_1449 : decode code 1449 = .ok (.iadd, 1) := by decide +kernel
theorem dL_law_1450 : decode code 1450 = .ok (.iaload, 1) := by decide +kernel
theorem dL_law_1451 : decode code 1451 = .ok (.aload_n 0, 1) := by decide +kernel
theorem dL_law_1452 : decode code 1452 = .ok (.iload_n 3, 1) := by decide +kernel
theorem dL_law_1453 : decode code 1453 = .ok (.iconst 2, 1) := by decide +kernel
theorem dL_law_1454 : decode code 1454 = .ok (.iadd, 1) := by decide +kernel
theorem dL_law_1455 : decode code 1455 = .ok (.iaload, 1) := by decide +kernel
theorem dL_law_1456 : decode code 1456 = .ok (.invokevirtual 183, 3) := by decide +kernel
theorem dL_law_1459 : decode code 1459 = .ok (.if_icmp .eq 74, 3) := by decide +kernel
theorem dL_law_1462 : decode code 1462 = .ok (.iconst 0, 1) := by decide +kernel
theorem dL_law_1463 : decode code 1463 = .ok (.ireturn, 1) := by decide +kernel
theorem dL_law_1464 : decode code 1464 = .ok (.aload_n 1, 1) := by decide +kernel
theorem dL_law_1465 : decode code 1465 = .ok (.aload_n 0, 1) := by decide +kernel
theorem dL_law_1466 : decode code 1466 = .ok (.iload_n 3, 1) := by decide +kernel
theorem dL_law_1467 : decode code 1467 = .ok (.iconst 1, 1) := by decide +kernel
theorem dL_law_1468 : decode code 1468 = .ok (.iadd, 1) := by decide +kernel
theorem dL_law_1469 : decode code 1469 = .ok (.iaload, 1) := by decide +kernel
theorem dL_law_1470 : decode code 1470 = .ok (.invokevirtual 184, 3) := by decide +kernel
theorem dL_law_1473 : decode code 1473 = .ok (.aload_n 2, 1) := by decide +kernel
theorem dL_law_1474 : decode code 1474 = .ok (.aload_n 0, 1) := by decide +kernel
theorem dL_law_1475 : decode code 1475 = .ok (.iload_n 3, 1) := by decide +kernel
theorem dL_law_1476 : decode code 1476 = .ok (.iconst 1, 1) := by decide +kernel
theorem dL_law_1477 : decode code 1477 = .ok (.iadd, 1) := by decide +kernel
theorem dL_law_1478 : decode code 1478 = .ok (.iaload, 1) := by decide +kernel
theorem dL_law_1479 : decode code 1479 = .ok (.invokevirtual 188, 3) := by decide +kernel
theorem dL_law_1482 : decode code 1482 = .ok (.if_icmp .eq 51, 3) := by decide +kernel
theorem dL_law_1485 : decode code 1485 = .ok (.iconst 0, 1) := by decide +kernel
theorem dL_law_1486 : decode code 1486 = .ok (.ireturn, 1) := by decide +kernel
theorem dL_law_1487 : decode code 1487 = .ok (.aload_n 1, 1) := by decide +kernel
theorem dL_law_1488 : decode code 1488 = .ok (.aload_n 0, 1) := by decide +kernel
theorem dL_law_1489 : decode code 1489 = .ok (.iload_n 3, 1) := by decide +kernel
theorem dL_law_1490 : decode code 1490 = .ok (.iconst 1, 1) := by decide +kernel
theorem dL_law_1491 : decode code 1491 = .ok (.iadd, 1) := by decide +kernel
theorem dL_law_1492 : decode code 1492 = .ok (.iaload, 1) := by decide +kernel
theorem dL_law_1493 : decode code 1493 = .ok (.invokevirtual 189, 3) := by decide +kernel
theorem dL_law_1496 : decode code 1496 = .ok (.aload_n 2, 1) := by decide +kernel
theorem dL_law_1497 : decode code 1497 = .ok (.aload_n 0, 1) := by decide +kernel
theorem dL_law_1498 : decode code 1498 = .ok (.iload_n 3, 1) := by decide +kernel
theorem dL_law_1499 : decode code 1499 = .ok (.iconst 1, 1) := by decide +kernel
theorem dL_law_1500 : decode code 1500 = .ok (.iadd, 1) := by decide +kernel
theorem dL_law_1501 : decode code 1501 = .ok (.iaload, 1) := by decide +kernel
theorem dL_law_1502 : decode code 1502 = .ok (.invokevirtual 192, 3) := by decide +kernel
theorem dL_law_1505 : decode code 1505 = .ok (.if_icmp .eq 28, 3) := by decide +kernel
theorem dL_law_1508 : decode code 1508 = .ok (.iconst 0, 1) := by decide +kernel
theorem dL_law_1509 : decode code 1509 = .ok (.ireturn, 1) := by decide +kernel
theorem dL_law_1510 : decode code 1510 = .ok (.aload_n 1, 1) := by decide +kernel
theorem dL_law_1511 : decode code 1511 = .ok (.aload_n 0, 1) := by decide +kernel
theorem dL_law_1512 : decode code 1512 = .ok (.iload_n 3, 1) := by decide +kernel
theorem dL_law_1513 : decode code 1513 = .ok (.iconst 1, 1) := by decide +kernel
theorem dL_law_1514 : decode code 1514 = .ok (.iadd, 1) := by decide +kernel
theorem dL_law_1515 : decode code 1515 = .ok (.iaload, 1) := by decide +kernel
theorem dL_law_1516 : decode code 1516 = .ok (.invokevirtual 193, 3) := by decide +kernel
theorem dL_law_1519 : decode code 1519 = .ok (.aload_n 2, 1) := by decide +kernel
theorem dL_law_1520 : decode code 1520 = .ok (.aload_n 0, 1) := by decide +kernel
theorem dL_law_1521 : decode code 1521 = .ok (.iload_n 3, 1) := by decide +kernel
theorem dL_law_1522 : decode code 1522 = .ok (.iconst 1, 1) := by decide +kernel
theorem dL_law_1523 : decode code 1523 = .ok (.iadd, 1) := by decide +kernel
theorem dL_law_1524 : decode code 1524 = .ok (.iaload, 1) := by decide +kernel
theorem dL_law_1525 : decode code 1525 = .ok (.invokevirtual 196, 3) := by decide +kernel
theorem dL_law_1528 : decode code 1528 = .ok (.if_icmp .eq 5, 3) := by decide +kernel
theorem dL_law_1531 : decode code 1531 = .ok (.iconst 0, 1) := by decide +kernel
theorem dL_law_1532 : decode code 1532 = .ok (.ireturn, 1) := by decide +kernel
theorem dL_law_1533 : decode code 1533 = .ok (.iinc 3 7, 3) := by decide +kernel
theorem dL_law_1536 : decode code 1536 = .ok (.goto (-1518), 3) := by decide +kernel
theorem dL_law_1539 : decode code 1539 = .ok (.iconst 1, 1) := by decide +kernel
theorem dL_law_1540 : decode code 1540 = .ok (.ireturn, 1) := by decide +kernel
theorem cl_13 : CV R_law 13 e_X11_feed 5 11 := ⟨w_522, w_523, w_524, w_1, w_525, ⟨by decide +kernel, by decide +kernel, by decide +kernel⟩, ⟨_, _, rfl⟩, by decide, by decide⟩
theorem cl_17 : CV R_law 17 e_X12_feed 5 12 := ⟨w_1580, w_1581, w_1582, w_13, w_1583, ⟨by decide +kernel, by decide +kernel, by decide +kernel⟩, ⟨_, _, rfl⟩, by decide, by decide⟩
theorem cl_18 : CV R_law 18 e_X11_back 1 11 := ⟨w_530, w_531, w_532, w_1, w_533, ⟨by decide +kernel, by decide +kernel, by decide +kernel⟩, ⟨_, _, rfl⟩, by decide, by decide⟩
theorem cl_22 : CV R_law 22 e_X12_back 1 12 := ⟨w_1588, w_1589, w_1590, w_13, w_1591, ⟨by decide +kernel, by decide +kernel, by decide +kernel⟩, ⟨_, _, rfl⟩, by decide, by decide⟩
theorem cl_23 : CV R_law 23 e_X11_read 0 11 := ⟨w_534, w_535, w_536, w_1, w_537, ⟨by decide +kernel, by decide +kernel, by decide +kernel⟩, ⟨_, _, rfl⟩, by decide, by decide⟩
theorem cl_27 : CV R_law 27 e_X12_read 0 12 := ⟨w_1592, w_1593, w_1594, w_13, w_1595, ⟨by decide +kernel, by decide +kernel, by decide +kernel⟩, ⟨_, _, rfl⟩, by decide, by decide⟩
theorem cl_28 : CV R_law 28 e_X11_place 0 11 := ⟨w_841, w_842, w_843, w_1, w_844, ⟨by decide +kernel, by decide +kernel, by decide +kernel⟩, ⟨_, _, rfl⟩, by decide, by decide⟩
theorem cl_31 : CV R_law 31 e_X12_place 0 12 := ⟨w_1777, w_1778, w_1779, w_13, w_1780, ⟨by decide +kernel, by decide +kernel, by decide +kernel⟩, ⟨_, _, rfl⟩, by decide, by decide⟩
theorem cl_32 : CV R_law 32 e_X11_house 2 11 := ⟨w_845, w_846, w_847, w_1, w_848, ⟨by decide +kernel, by decide +kernel, by decide +kernel⟩, ⟨_, _, rfl⟩, by decide, by decide⟩
theorem cl_36 : CV R_law 36 e_X12_house 2 12 := ⟨w_1781, w_1782, w_1783, w_13, w_1784, ⟨by decide +kernel, by decide +kernel, by decide +kernel⟩, ⟨_, _, rfl⟩, by decide, by decide⟩
theorem cl_37 : CV R_law 37 e_X11_give 2 11 := ⟨w_909, w_910, w_911, w_1, w_912, ⟨by decide +kernel, by decide +kernel, by decide +kernel⟩, ⟨_, _, rfl⟩, by decide, by decide⟩
theorem cl_41 : CV R_law 41 e_X12_give 2 12 := ⟨w_1820, w_1821, w_1822, w_13, w_1823, ⟨by decide +kernel, by decide +kernel, by decide +kernel⟩, ⟨_, _, rfl⟩, by decide, by decide⟩
theorem cl_42 : CV R_law 42 e_X11_holder 1 11 := ⟨w_918, w_919, w_920, w_1, w_921, ⟨by decide +kernel, by decide +kernel, by decide +kernel⟩, ⟨_, _, rfl⟩, by decide, by decide⟩
theorem cl_45 : CV R_law 45 e_X12_holder 1 12 := ⟨w_1828, w_1829, w_1830, w_13, w_1831, ⟨by decide +kernel, by decide +kernel, by decide +kernel⟩, ⟨_, _, rfl⟩, by decide, by decide⟩
theorem cl_46 : CV R_law 46 e_X11_months 1 11 := ⟨w_926, w_927, w_928, w_1, w_929, ⟨by decide +kernel, by decide +kernel, by decide +kernel⟩, ⟨_, _, rfl⟩, by decide, by decide⟩
theorem cl_49 : CV R_law 49 e_X12_months 1 12 := ⟨w_1832, w_1833, w_1834, w_13, w_1835, ⟨by decide +kernel, by decide +kernel, by decide +kernel⟩, ⟨_, _, rfl⟩, by decide, by decide⟩
theorem cl_50 : CV R_law 50 e_X11_tide 1 11 := ⟨w_931, w_932, w_933, w_1, w_934, ⟨by decide +kernel, by decide +kernel, by decide +kernel⟩, ⟨_, _, rfl⟩, by decide, by decide⟩
theorem cl_53 : CV R_law 53 e_X12_tide 1 12 := ⟨w_1839, w_1840, w_1841, w_13, w_1842, ⟨by decide +kernel, by decide +kernel, by decide +kernel⟩, ⟨_, _, rfl⟩, by decide, by decide⟩
theorem cl_54 : CV R_law 54 e_X11_wet 1 11 := ⟨w_942, w_943, w_944, w_1, w_945, ⟨by decide +kernel, by decide +kernel, by decide +kernel⟩, ⟨_, _, rfl⟩, by decide, by decide⟩
theorem cl_57 : CV R_law 57 e_X12_wet 1 12 := ⟨w_1850, w_1851, w_1852, w_13, w_1853, ⟨by decide +kernel, by decide +kernel, by decide +kernel⟩, ⟨_, _, rfl⟩, by decide, by decide⟩
theorem cl_58 : CV R_law 58 e_X11_reached 1 11 := ⟨w_950, w_951, w_952, w_1, w_953, ⟨by decide +kernel, by decide +kernel, by decide +kernel⟩, ⟨_, _, rfl⟩, by decide, by decide⟩
theorem cl_61 : CV R_law 61 e_X12_reached 1 12 := ⟨w_1854, w_1855, w_1856, w_13, w_1857, ⟨by decide +kernel, by decide +kernel, by decide +kernel⟩, ⟨_, _, rfl⟩, by decide, by decide⟩
theorem cl_62 : CV R_law 62 e_X11_hours 1 11 := ⟨w_978, w_979, w_980, w_1, w_981, ⟨by decide +kernel, by decide +kernel, by decide +kernel⟩, ⟨_, _, rfl⟩, by decide, by decide⟩
theorem cl_65 : CV R_law 65 e_X12_hours 1 12 := ⟨w_1866, w_1867, w_1868, w_13, w_1869, ⟨by decide +kernel, by decide +kernel, by decide +kernel⟩, ⟨_, _, rfl⟩, by decide, by decide⟩
theorem cl_66 : CV R_law 66 e_X11_meets 1 11 := ⟨w_982, w_983, w_984, w_1, w_985, ⟨by decide +kernel, by decide +kernel, by decide +kernel⟩, ⟨_, _, rfl⟩, by decide, by decide⟩
theorem cl_69 : CV R_law 69 e_X12_meets 1 12 := ⟨w_1870, w_1871, w_1872, w_13, w_1873, ⟨by decide +kernel, by decide +kernel, by decide +kernel⟩, ⟨_, _, rfl⟩, by decide, by decide⟩
theorem cl_70 : CV R_law 70 e_X11_cut 3 11 := ⟨w_991, w_992, w_993, w_1, w_994, ⟨by decide +kernel, by decide +kernel, by decide +kernel⟩, ⟨_, _, rfl⟩, by decide, by decide⟩
theorem cl_74 : CV R_law 74 e_X12_cut 3 12 := ⟨w_1874, w_1875, w_1876, w_13, w_1877, ⟨by decide +kernel, by decide +kernel, by decide +kernel⟩, ⟨_, _, rfl⟩, by decide, by decide⟩
theorem cl_75 : CV R_law 75 e_X11_worst 2 11 := ⟨w_1006, w_1007, w_1008, w_1, w_1009, ⟨by decide +kernel, by decide +kernel, by decide +kernel⟩, ⟨_, _, rfl⟩, by decide, by decide⟩
theorem cl_79 : CV R_law 79 e_X12_worst 2 12 := ⟨w_1889, w_1890, w_1891, w_13, w_1892, ⟨by decide +kernel, by decide +kernel, by decide +kernel⟩, ⟨_, _, rfl⟩, by decide, by decide⟩
theorem cl_80 : CV R_law 80 e_X11_law 1 11 := ⟨w_1010, w_1011, w_1012, w_1, w_1013, ⟨by decide +kernel, by decide +kernel, by decide +kernel⟩, ⟨_, _, rfl⟩, by decide, by decide⟩
theorem cl_83 : CV R_law 83 e_X12_law 1 12 := ⟨w_1893, w_1894, w_1895, w_13, w_1896, ⟨by decide +kernel, by decide +kernel, by decide +kernel⟩, ⟨_, _, rfl⟩, by decide, by decide⟩
theorem cl_84 : CV R_law 84 e_X11_wood 1 11 := ⟨w_1041, w_1042, w_1043, w_1, w_1044, ⟨by decide +kernel, by decide +kernel, by decide +kernel⟩, ⟨_, _, rfl⟩, by decide, by decide⟩
theorem cl_87 : CV R_law 87 e_X12_wood 1 12 := ⟨w_1929, w_1930, w_1931, w_13, w_1932, ⟨by decide +kernel, by decide +kernel, by decide +kernel⟩, ⟨_, _, rfl⟩, by decide, by decide⟩
theorem cl_88 : CV R_law 88 e_X11_jack 2 11 := ⟨w_1049, w_1050, w_1051, w_1, w_1052, ⟨by decide +kernel, by decide +kernel, by decide +kernel⟩, ⟨_, _, rfl⟩, by decide, by decide⟩
theorem cl_91 : CV R_law 91 e_X12_jack 2 12 := ⟨w_1933, w_1934, w_1935, w_13, w_1936, ⟨by decide +kernel, by decide +kernel, by decide +kernel⟩, ⟨_, _, rfl⟩, by decide, by decide⟩
theorem cl_92 : CV R_law 92 e_X11_work 3 11 := ⟨w_1067, w_1068, w_1069, w_1, w_1070, ⟨by decide +kernel, by decide +kernel, by decide +kernel⟩, ⟨_, _, rfl⟩, by decide, by decide⟩
theorem cl_96 : CV R_law 96 e_X12_work 3 12 := ⟨w_1945, w_1946, w_1947, w_13, w_1948, ⟨by decide +kernel, by decide +kernel, by decide +kernel⟩, ⟨_, _, rfl⟩, by decide, by decide⟩
theorem cl_97 : CV R_law 97 e_X11_forget 0 11 := ⟨w_1075, w_1076, w_1077, w_1, w_1078, ⟨by decide +kernel, by decide +kernel, by decide +kernel⟩, ⟨_, _, rfl⟩, by decide, by decide⟩
theorem cl_100 : CV R_law 100 e_X12_forget 0 12 := ⟨w_1949, w_1950, w_1951, w_13, w_1952, ⟨by decide +kernel, by decide +kernel, by decide +kernel⟩, ⟨_, _, rfl⟩, by decide, by decide⟩
theorem cl_101 : CV R_law 101 e_X11_judge 0 11 := ⟨w_1079, w_1080, w_1081, w_1, w_1082, ⟨by decide +kernel, by decide +kernel, by decide +kernel⟩, ⟨_, _, rfl⟩, by decide, by decide⟩
theorem cl_104 : CV R_law 104 e_X12_judge 0 12 := ⟨w_1953, w_1954, w_1955, w_13, w_1956, ⟨by decide +kernel, by decide +kernel, by decide +kernel⟩, ⟨_, _, rfl⟩, by decide, by decide⟩
theorem cl_105 : CV R_law 105 e_X11_done 0 11 := ⟨w_1115, w_1116, w_1117, w_1, w_1118, ⟨by decide +kernel, by decide +kernel, by decide +kernel⟩, ⟨_, _, rfl⟩, by decide, by decide⟩
theorem cl_108 : CV R_law 108 e_X12_done 0 12 := ⟨w_1973, w_1974, w_1975, w_13, w_1976, ⟨by decide +kernel, by decide +kernel, by decide +kernel⟩, ⟨_, _, rfl⟩, by decide, by decide⟩
theorem cl_109 : CV R_law 109 e_X11_undo 0 11 := ⟨w_1123, w_1124, w_1125, w_1, w_1126, ⟨by decide +kernel, by decide +kernel, by decide +kernel⟩, ⟨_, _, rfl⟩, by decide, by decide⟩
theorem cl_113 : CV R_law 113 e_X12_undo 0 12 := ⟨w_1977, w_1978, w_1979, w_13, w_1980, ⟨by decide +kernel, by decide +kernel, by decide +kernel⟩, ⟨_, _, rfl⟩, by decide, by decide⟩
theorem cl_114 : CV R_law 114 e_X11_nights 1 11 := ⟨w_1131, w_1132, w_1133, w_1, w_1134, ⟨by decide +kernel, by decide +kernel, by decide +kernel⟩, ⟨_, _, rfl⟩, by decide, by decide⟩
theorem cl_117 : CV R_law 117 e_X12_nights 1 12 := ⟨w_1981, w_1982, w_1983, w_13, w_1984, ⟨by decide +kernel, by decide +kernel, by decide +kernel⟩, ⟨_, _, rfl⟩, by decide, by decide⟩
theorem cl_118 : CV R_law 118 e_X11_looks 2 11 := ⟨w_1165, w_1166, w_1167, w_1, w_1168, ⟨by decide +kernel, by decide +kernel, by decide +kernel⟩, ⟨_, _, rfl⟩, by decide, by decide⟩
theorem cl_121 : CV R_law 121 e_X12_looks 2 12 := ⟨w_1997, w_1998, w_1999, w_13, w_2000, ⟨by decide +kernel, by decide +kernel, by decide +kernel⟩, ⟨_, _, rfl⟩, by decide, by decide⟩
theorem cl_122 : CV R_law 122 e_X11_light 1 11 := ⟨w_1173, w_1174, w_1175, w_1, w_1176, ⟨by decide +kernel, by decide +kernel, by decide +kernel⟩, ⟨_, _, rfl⟩, by decide, by decide⟩
theorem cl_125 : CV R_law 125 e_X12_light 1 12 := ⟨w_2009, w_2010, w_2011, w_13, w_2012, ⟨by decide +kernel, by decide +kernel, by decide +kernel⟩, ⟨_, _, rfl⟩, by decide, by decide⟩
theorem cl_126 : CV R_law 126 e_X11_sway 2 11 := ⟨w_1181, w_1182, w_1183, w_1, w_1184, ⟨by decide +kernel, by decide +kernel, by decide +kernel⟩, ⟨_, _, rfl⟩, by decide, by decide⟩
theorem cl_129 : CV R_law 129 e_X12_sway 2 12 := ⟨w_2013, w_2014, w_2015, w_13, w_2016, ⟨by decide +kernel, by decide +kernel, by decide +kernel⟩, ⟨_, _, rfl⟩, by decide, by decide⟩
theorem cl_130 : CV R_law 130 e_X11_chain 3 11 := ⟨w_1189, w_1190, w_1191, w_1, w_1192, ⟨by decide +kernel, by decide +kernel, by decide +kernel⟩, ⟨_, _, rfl⟩, by decide, by decide⟩
theorem cl_133 : CV R_law 133 e_X12_chain 3 12 := ⟨w_2020, w_2021, w_2022, w_13, w_2023, ⟨by decide +kernel, by decide +kernel, by decide +kernel⟩, ⟨_, _, rfl⟩, by decide, by decide⟩
theorem cl_134 : CV R_law 134 e_X11_dread 1 11 := ⟨w_1219, w_1220, w_1221, w_1, w_1222, ⟨by decide +kernel, by decide +kernel, by decide +kernel⟩, ⟨_, _, rfl⟩, by decide, by decide⟩
theorem cl_137 : CV R_law 137 e_X12_dread 1 12 := ⟨w_2036, w_2037, w_2038, w_13, w_2039, ⟨by decide +kernel, by decide +kernel, by decide +kernel⟩, ⟨_, _, rfl⟩, by decide, by decide⟩
theorem cl_138 : CV R_law 138 e_X11_year 1 11 := ⟨w_1223, w_1224, w_1225, w_1, w_1226, ⟨by decide +kernel, by decide +kernel, by decide +kernel⟩, ⟨_, _, rfl⟩, by decide, by decide⟩
theorem cl_141 : CV R_law 141 e_X12_year 1 12 := ⟨w_2040, w_2041, w_2042, w_13, w_2043, ⟨by decide +kernel, by decide +kernel, by decide +kernel⟩, ⟨_, _, rfl⟩, by decide, by decide⟩
theorem cl_142 : CV R_law 142 e_X11_clear 0 11 := ⟨w_1231, w_1232, w_1233, w_1, w_1234, ⟨by decide +kernel, by decide +kernel, by decide +kernel⟩, ⟨_, _, rfl⟩, by decide, by decide⟩
theorem cl_145 : CV R_law 145 e_X12_clear 0 12 := ⟨w_2044, w_2045, w_2046, w_13, w_2047, ⟨by decide +kernel, by decide +kernel, by decide +kernel⟩, ⟨_, _, rfl⟩, by decide, by decide⟩
theorem cl_146 : CV R_law 146 e_X11_posts 5 11 := ⟨w_1235, w_1236, w_1237, w_1, w_1238, ⟨by decide +kernel, by decide +kernel, by decide +kernel⟩, ⟨_, _, rfl⟩, by decide, by decide⟩
theorem cl_149 : CV R_law 149 e_X12_posts 5 12 := ⟨w_2048, w_2049, w_2050, w_13, w_2051, ⟨by decide +kernel, by decide +kernel, by decide +kernel⟩, ⟨_, _, rfl⟩, by decide, by decide⟩
theorem cl_150 : CV R_law 150 e_X11_postAt 6 11 := ⟨w_1273, w_1274, w_1275, w_1, w_1276, ⟨by decide +kernel, by decide +kernel, by decide +kernel⟩, ⟨_, _, rfl⟩, by decide, by decide⟩
theorem cl_154 : CV R_law 154 e_X12_postAt 6 12 := ⟨w_2066, w_2067, w_2068, w_13, w_2069, ⟨by decide +kernel, by decide +kernel, by decide +kernel⟩, ⟨_, _, rfl⟩, by decide, by decide⟩
theorem cl_155 : CV R_law 155 e_X11_vote 3 11 := ⟨w_1289, w_1290, w_1291, w_1, w_1292, ⟨by decide +kernel, by decide +kernel, by decide +kernel⟩, ⟨_, _, rfl⟩, by decide, by decide⟩
theorem cl_158 : CV R_law 158 e_X12_vote 3 12 := ⟨w_2070, w_2071, w_2072, w_13, w_2073, ⟨by decide +kernel, by decide +kernel, by decide +kernel⟩, ⟨_, _, rfl⟩, by decide, by decide⟩
theorem cl_159 : CV R_law 159 e_X11_mark 3 11 := ⟨w_1297, w_1298, w_1299, w_1, w_1300, ⟨by decide +kernel, by decide +kernel, by decide +kernel⟩, ⟨_, _, rfl⟩, by decide, by decide⟩
theorem cl_162 : CV R_law 162 e_X12_mark 3 12 := ⟨w_2078, w_2079, w_2080, w_13, w_2081, ⟨by decide +kernel, by decide +kernel, by decide +kernel⟩, ⟨_, _, rfl⟩, by decide, by decide⟩
theorem cl_163 : CV R_law 163 e_X11_annul 1 11 := ⟨w_1301, w_1302, w_1303, w_1, w_1304, ⟨by decide +kernel, by decide +kernel, by decide +kernel⟩, ⟨_, _, rfl⟩, by decide, by decide⟩
theorem cl_166 : CV R_law 166 e_X12_annul 1 12 := ⟨w_2082, w_2083, w_2084, w_13, w_2085, ⟨by decide +kernel, by decide +kernel, by decide +kernel⟩, ⟨_, _, rfl⟩, by decide, by decide⟩
theorem cl_167 : CV R_law 167 e_X11_votes 3 11 := ⟨w_1309, w_1310, w_1311, w_1, w_1312, ⟨by decide +kernel, by decide +kernel, by decide +kernel⟩, ⟨_, _, rfl⟩, by decide, by decide⟩
theorem cl_170 : CV R_law 170 e_X12_votes 3 12 := ⟨w_2086, w_2087, w_2088, w_13, w_2089, ⟨by decide +kernel, by decide +kernel, by decide +kernel⟩, ⟨_, _, rfl⟩, by decide, by decide⟩
theorem cl_171 : CV R_law 171 e_X11_winner 2 11 := ⟨w_1329, w_1330, w_1331, w_1, w_1332, ⟨by decide +kernel, by decide +kernel, by decide +kernel⟩, ⟨_, _, rfl⟩, by decide, by decide⟩
theorem cl_174 : CV R_law 174 e_X12_winner 2 12 := ⟨w_2106, w_2107, w_2108, w_13, w_2109, ⟨by decide +kernel, by decide +kernel, by decide +kernel⟩, ⟨_, _, rfl⟩, by decide, by decide⟩
theorem cl_175 : CV R_law 175 e_X11_ends 4 11 := ⟨w_1337, w_1338, w_1339, w_1, w_1340, ⟨by decide +kernel, by decide +kernel, by decide +kernel⟩, ⟨_, _, rfl⟩, by decide, by decide⟩
theorem cl_179 : CV R_law 179 e_X12_ends 4 12 := ⟨w_2110, w_2111, w_2112, w_13, w_2113, ⟨by decide +kernel, by decide +kernel, by decide +kernel⟩, ⟨_, _, rfl⟩, by decide, by decide⟩
theorem cl_180 : CV R_law 180 e_X11_years 2 11 := ⟨w_1356, w_1357, w_1358, w_1, w_1359, ⟨by decide +kernel, by decide +kernel, by decide +kernel⟩, ⟨_, _, rfl⟩, by decide, by decide⟩
theorem cl_183 : CV R_law 183 e_X12_years 2 12 := ⟨w_2117, w_2118, w_2119, w_13, w_2120, ⟨by decide +kernel, by decide +kernel, by decide +kernel⟩, ⟨_, _, rfl⟩, by decide, by decide⟩
theorem cl_184 : CV R_law 184 e_X11_hold 1 11 := ⟨w_1376, w_1377, w_1378, w_1, w_1379, ⟨by decide +kernel, by decide +kernel, by decide +kernel⟩, ⟨_, _, rfl⟩, by decide, by decide⟩
theorem cl_188 : CV R_law 188 e_X12_hold 1 12 := ⟨w_2132, w_2133, w_2134, w_13, w_2135, ⟨by decide +kernel, by decide +kernel, by decide +kernel⟩, ⟨_, _, rfl⟩, by decide, by decide⟩
theorem cl_189 : CV R_law 189 e_X11_restore 1 11 := ⟨w_1390, w_1391, w_1392, w_1, w_1393, ⟨by decide +kernel, by decide +kernel, by decide +kernel⟩, ⟨_, _, rfl⟩, by decide, by decide⟩
theorem cl_192 : CV R_law 192 e_X12_restore 1 12 := ⟨w_2140, w_2141, w_2142, w_13, w_2143, ⟨by decide +kernel, by decide +kernel, by decide +kernel⟩, ⟨_, _, rfl⟩, by decide, by decide⟩
theorem cl_193 : CV R_law 193 e_X11_count 1 11 := ⟨w_1394, w_1395, w_1396, w_1, w_1397, ⟨by decide +kernel, by decide +kernel, by decide +kernel⟩, ⟨_, _, rfl⟩, by decide, by decide⟩
theorem cl_196 : CV R_law 196 e_X12_count 1 12 := ⟨w_2144, w_2145, w_2146, w_13, w_2147, ⟨by decide +kernel, by decide +kernel, by decide +kernel⟩, ⟨_, _, rfl⟩, by decide, by decide⟩
theorem lc_0 (Ln : Nat) (xs : Nat → Int32) (kc ks i : Nat) (hkc : kc ≤ 600000) (hks : ks ≤ 7302250) (hi : i + 7 ≤ Ln) (hL : Ln ≤ 3584) (RR : MM → Prop) (mm : MM) (hR : RR mm) (hstep : StepOK RR e_X11_feed e_X12_feed [.int (xs (i + 1)), .int (xs (i + 2)), .int (xs (i + 3)), .int (xs (i + 4)), .int (xs (i + 5))]) (hk : ∀ m2, RR m2 → GL Ln xs kc ks 1533 [(0, .ref 5000), (1, .ref 0), (2, .ref 156), (3, .int (nI i))] [] m2) : GL Ln xs kc ks 220 [(0, .ref 5000), (1, .ref 0), (2, .ref 156), (3, .int (nI i))] [] mm := by
  refine l_aload_n (pc := 220) (x := 0) dL_law_220 rfl ?_
  refine l_aload_n (pc := 221) (x := 5000) dL_law_221 rfl ?_
  refine l_iload_n (pc := 222) (x := nI i) dL_law_222 rfl ?_
  refine l_iconst (pc := 223) (v := nI 1) dL_law_223 rfl ?_
  refine l_iadd (pc := 224) dL_law_224 ?_
  rw [nI_add]
  refine l_sld (pc := 225) dL_law_225 (vp_in_nI (by omega) (by omega)) ?_
  rw [nI_clamp (show i + 1 < 2 ^ 31 by omega)]
  refine l_aload_n (pc := 226) (x := 5000) dL_law_226 rfl ?_
  refine l_iload_n (pc := 227) (x := nI i) dL_law_227 rfl ?_
  refine l_iconst (pc := 228) (v := nI 2) dL_law_228 rfl ?_
  refine l_iadd (pc := 229) dL_law_229 ?_
  rw [nI_add]
  refine l_sld (pc := 230) dL_law_230 (vp_in_nI (by omega) (by omega)) ?_
  rw [nI_clamp (show i + 2 < 2 ^ 31 by omega)]
  refine l_aload_n (pc := 231) (x := 5000) dL_law_231 rfl ?_
  refine l_iload_n (pc := 232) (x := nI i) dL_law_232 rfl ?_
  refine l_iconst (pc := 233) (v := nI 3) dL_law_233 rfl ?_
  refine l_iadd (pc := 234) dL_law_234 ?_
  rw [nI_add]
  refine l_sld (pc := 235) dL_law_235 (vp_in_nI (by omega) (by omega)) ?_
  rw [nI_clamp (show i + 3 < 2 ^ 31 by omega)]
  refine l_aload_n (pc := 236) (x := 5000) dL_law_236 rfl ?_
  refine l_iload_n (pc := 237) (x := nI i) dL_law_237 rfl ?_
  refine l_iconst (pc := 238) (v := nI 4) dL_law_238 rfl ?_
  refine l_iadd (pc := 239) dL_law_239 ?_
  rw [nI_add]
  refine l_sld (pc := 240) dL_law_240 (vp_in_nI (by omega) (by omega)) ?_
  rw [nI_clamp (show i + 4 < 2 ^ 31 by omega)]
  refine l_aload_n (pc := 241) (x := 5000) dL_law_241 rfl ?_
  refine l_iload_n (pc := 242) (x := nI i) dL_law_242 rfl ?_
  refine l_iconst (pc := 243) (v := nI 5) dL_law_243 rfl ?_
  refine l_iadd (pc := 244) dL_law_244 ?_
  rw [nI_add]
  refine l_sld (pc := 245) dL_law_245 (vp_in_nI (by omega) (by omega)) ?_
  rw [nI_clamp (show i + 5 < 2 ^ 31 by omega)]
  obtain ⟨P1, hP1, hk1⟩ := hstep mm hR
  refine l_call (pc := 246) (as := [.int (xs (i + 1)), .int (xs (i + 2)), .int (xs (i + 3)), .int (xs (i + 4)), .int (xs (i + 5))]) dL_law_246 cl_13 (by decide) rfl rfl sh_0 (Nat.le_of_ble_eq_true rfl) hkc hks hP1 ?_
  intro r1 m1 hz1 hp1
  obtain ⟨v1, rfl⟩ := hz1
  obtain ⟨P2, hP2, hk2⟩ := hk1 _ _ hp1
  refine l_aload_n (pc := 249) (x := 156) dL_law_249 rfl ?_
  refine l_aload_n (pc := 250) (x := 5000) dL_law_250 rfl ?_
  refine l_iload_n (pc := 251) (x := nI i) dL_law_251 rfl ?_
  refine l_iconst (pc := 252) (v := nI 1) dL_law_252 rfl ?_
  refine l_iadd (pc := 253) dL_law_253 ?_
  rw [nI_add]
  refine l_sld (pc := 254) dL_law_254 (vp_in_nI (by omega) (by omega)) ?_
  rw [nI_clamp (show i + 1 < 2 ^ 31 by omega)]
  refine l_aload_n (pc := 255) (x := 5000) dL_law_255 rfl ?_
  refine l_iload_n (pc := 256) (x := nI i) dL_law_256 rfl ?_
  refine l_iconst (pc := 257) (v := nI 2) dL_law_257 rfl ?_
  refine l_iadd (pc := 258) dL_law_258 ?_
  rw [nI_add]
  refine l_sld (pc := 259) dL_law_259 (vp_in_nI (by omega) (by omega)) ?_
  rw [nI_clamp (show i + 2 < 2 ^ 31 by omega)]
  refine l_aload_n (pc := 260) (x := 5000) dL_law_260 rfl ?_
  refine l_iload_n (pc := 261) (x := nI i) dL_law_261 rfl ?_
  refine l_iconst (pc := 262) (v := nI 3) dL_law_262 rfl ?_
  refine l_iadd (pc := 263) dL_law_263 ?_
  rw [nI_add]
  refine l_sld (pc := 264) dL_law_264 (vp_in_nI (by omega) (by omega)) ?_
  rw [nI_clamp (show i + 3 < 2 ^ 31 by omega)]
  refine l_aload_n (pc := 265) (x := 5000) dL_law_265 rfl ?_
  refine l_iload_n (pc := 266) (x := nI i) dL_law_266 rfl ?_
  refine l_iconst (pc := 267) (v := nI 4) dL_law_267 rfl ?_
  refine l_iadd (pc := 268) dL_law_268 ?_
  rw [nI_add]
  refine l_sld (pc := 269) dL_law_269 (vp_in_nI (by omega) (by omega)) ?_
  rw [nI_clamp (show i + 4 < 2 ^ 31 by omega)]
  refine l_aload_n (pc := 270) (x := 5000) dL_law_270 rfl ?_
  refine l_iload_n (pc := 271) (x := nI i) dL_law_271 rfl ?_
  refine l_iconst (pc := 272) (v := nI 5) dL_law_272 rfl ?_
  refine l_iadd (pc := 273) dL_law_273 ?_
  rw [nI_add]
  refine l_sld (pc := 274) dL_law_274 (vp_in_nI (by omega) (by omega)) ?_
  rw [nI_clamp (show i + 5 < 2 ^ 31 by omega)]
  refine l_call (pc := 275) (as := [.int (xs (i + 1)), .int (xs (i + 2)), .int (xs (i + 3)), .int (xs (i + 4)), .int (xs (i + 5))]) dL_law_275 cl_17 (by decide) rfl rfl sh_156 (Nat.le_of_ble_eq_true rfl) hkc hks hP2 ?_
  intro r2 m2 hz2 hp2
  obtain ⟨rfl, hR2⟩ := hk2 _ _ hp2
  refine l_icmp_eq (pc := 278) (tgt := 1533) dL_law_278 (by decide) (fun _ => ?_) (fun z_ => absurd rfl z_)
  exact hk m2 hR2
theorem lc_1 (Ln : Nat) (xs : Nat → Int32) (kc ks i : Nat) (hkc : kc ≤ 600000) (hks : ks ≤ 7302250) (hi : i + 7 ≤ Ln) (hL : Ln ≤ 3584) (RR : MM → Prop) (mm : MM) (hR : RR mm) (hstep : StepOK RR e_X11_back e_X12_back [.int (xs (i + 1))]) (hk : ∀ m2, RR m2 → GL Ln xs kc ks 1533 [(0, .ref 5000), (1, .ref 0), (2, .ref 156), (3, .int (nI i))] [] m2) : GL Ln xs kc ks 283 [(0, .ref 5000), (1, .ref 0), (2, .ref 156), (3, .int (nI i))] [] mm := by
  refine l_aload_n (pc := 283) (x := 0) dL_law_283 rfl ?_
  refine l_aload_n (pc := 284) (x := 5000) dL_law_284 rfl ?_
  refine l_iload_n (pc := 285) (x := nI i) dL_law_285 rfl ?_
  refine l_iconst (pc := 286) (v := nI 1) dL_law_286 rfl ?_
  refine l_iadd (pc := 287) dL_law_287 ?_
  rw [nI_add]
  refine l_sld (pc := 288) dL_law_288 (vp_in_nI (by omega) (by omega)) ?_
  rw [nI_clamp (show i + 1 < 2 ^ 31 by omega)]
  obtain ⟨P1, hP1, hk1⟩ := hstep mm hR
  refine l_call (pc := 289) (as := [.int (xs (i + 1))]) dL_law_289 cl_18 (by decide) rfl rfl sh_0 (Nat.le_of_ble_eq_true rfl) hkc hks hP1 ?_
  intro r1 m1 hz1 hp1
  obtain ⟨v1, rfl⟩ := hz1
  obtain ⟨P2, hP2, hk2⟩ := hk1 _ _ hp1
  refine l_aload_n (pc := 292) (x := 156) dL_law_292 rfl ?_
  refine l_aload_n (pc := 293) (x := 5000) dL_law_293 rfl ?_
  refine l_iload_n (pc := 294) (x := nI i) dL_law_294 rfl ?_
  refine l_iconst (pc := 295) (v := nI 1) dL_law_295 rfl ?_
  refine l_iadd (pc := 296) dL_law_296 ?_
  rw [nI_add]
  refine l_sld (pc := 297) dL_law_297 (vp_in_nI (by omega) (by omega)) ?_
  rw [nI_clamp (show i + 1 < 2 ^ 31 by omega)]
  refine l_call (pc := 298) (as := [.int (xs (i + 1))]) dL_law_298 cl_22 (by decide) rfl rfl sh_156 (Nat.le_of_ble_eq_true rfl) hkc hks hP2 ?_
  intro r2 m2 hz2 hp2
  obtain ⟨rfl, hR2⟩ := hk2 _ _ hp2
  refine l_icmp_eq (pc := 301) (tgt := 1533) dL_law_301 (by decide) (fun _ => ?_) (fun z_ => absurd rfl z_)
  exact hk m2 hR2
theorem lc_2 (Ln : Nat) (xs : Nat → Int32) (kc ks i : Nat) (hkc : kc ≤ 600000) (hks : ks ≤ 7302250) (hi : i + 7 ≤ Ln) (hL : Ln ≤ 3584) (RR : MM → Prop) (mm : MM) (hR : RR mm) (hstep : StepOK RR e_X11_read e_X12_read []) (hk : ∀ m2, RR m2 → GL Ln xs kc ks 1533 [(0, .ref 5000), (1, .ref 0), (2, .ref 156), (3, .int (nI i))] [] m2) : GL Ln xs kc ks 306 [(0, .ref 5000), (1, .ref 0), (2, .ref 156), (3, .int (nI i))] [] mm := by
  refine l_aload_n (pc := 306) (x := 0) dL_law_306 rfl ?_
  obtain ⟨P1, hP1, hk1⟩ := hstep mm hR
  refine l_call (pc := 307) (as := []) dL_law_307 cl_23 (by decide) rfl rfl sh_0 (Nat.le_of_ble_eq_true rfl) hkc hks hP1 ?_
  intro r1 m1 hz1 hp1
  obtain ⟨v1, rfl⟩ := hz1
  obtain ⟨P2, hP2, hk2⟩ := hk1 _ _ hp1
  refine l_aload_n (pc := 310) (x := 156) dL_law_310 rfl ?_
  refine l_call (pc := 311) (as := []) dL_law_311 cl_27 (by decide) rfl rfl sh_156 (Nat.le_of_ble_eq_true rfl) hkc hks hP2 ?_
  intro r2 m2 hz2 hp2
  obtain ⟨rfl, hR2⟩ := hk2 _ _ hp2
  refine l_icmp_eq (pc := 314) (tgt := 1533) dL_law_314 (by decide) (fun _ => ?_) (fun z_ => absurd rfl z_)
  exact hk m2 hR2
theorem lc_3 (Ln : Nat) (xs : Nat → Int32) (kc ks i : Nat) (hkc : kc ≤ 600000) (hks : ks ≤ 7302250) (hi : i + 7 ≤ Ln) (hL : Ln ≤ 3584) (RR : MM → Prop) (mm : MM) (hR : RR mm) (hstep : StepOK RR e_X11_place e_X12_place []) (hk : ∀ m2, RR m2 → GL Ln xs kc ks 1533 [(0, .ref 5000), (1, .ref 0), (2, .ref 156), (3, .int (nI i))] [] m2) : GL Ln xs kc ks 319 [(0, .ref 5000), (1, .ref 0), (2, .ref 156), (3, .int (nI i))] [] mm := by
  refine l_aload_n (pc := 319) (x := 0) dL_law_319 rfl ?_
  obtain ⟨P1, hP1, hk1⟩ := hstep mm hR
  refine l_call (pc := 320) (as := []) dL_law_320 cl_28 (by decide) rfl rfl sh_0 (Nat.le_of_ble_eq_true rfl) hkc hks hP1 ?_
  intro r1 m1 hz1 hp1
  obtain ⟨v1, rfl⟩ := hz1
  obtain ⟨P2, hP2, hk2⟩ := hk1 _ _ hp1
  refine l_aload_n (pc := 323) (x := 156) dL_law_323 rfl ?_
  refine l_call (pc := 324) (as := []) dL_law_324 cl_31 (by decide) rfl rfl sh_156 (Nat.le_of_ble_eq_true rfl) hkc hks hP2 ?_
  intro r2 m2 hz2 hp2
  obtain ⟨rfl, hR2⟩ := hk2 _ _ hp2
  refine l_icmp_eq (pc := 327) (tgt := 1533) dL_law_327 (by decide) (fun _ => ?_) (fun z_ => absurd rfl z_)
  exact hk m2 hR2
theorem lc_4 (Ln : Nat) (xs : Nat → Int32) (kc ks i : Nat) (hkc : kc ≤ 600000) (hks : ks ≤ 7302250) (hi : i + 7 ≤ Ln) (hL : Ln ≤ 3584) (RR : MM → Prop) (mm : MM) (hR : RR mm) (hstep : StepOK RR e_X11_house e_X12_house [.int (xs (i + 1)), .int (xs (i + 2))]) (hk : ∀ m2, RR m2 → GL Ln xs kc ks 1533 [(0, .ref 5000), (1, .ref 0), (2, .ref 156), (3, .int (nI i))] [] m2) : GL Ln xs kc ks 332 [(0, .ref 5000), (1, .ref 0), (2, .ref 156), (3, .int (nI i))] [] mm := by
  refine l_aload_n (pc := 332) (x := 0) dL_law_332 rfl ?_
  refine l_aload_n (pc := 333) (x := 5000) dL_law_333 rfl ?_
  refine l_iload_n (pc := 334) (x := nI i) dL_law_334 rfl ?_
  refine l_iconst (pc := 335) (v := nI 1) dL_law_335 rfl ?_
  refine l_iadd (pc := 336) dL_law_336 ?_
  rw [nI_add]
  refine l_sld (pc := 337) dL_law_337 (vp_in_nI (by omega) (by omega)) ?_
  rw [nI_clamp (show i + 1 < 2 ^ 31 by omega)]
  refine l_aload_n (pc := 338) (x := 5000) dL_law_338 rfl ?_
  refine l_iload_n (pc := 339) (x := nI i) dL_law_339 rfl ?_
  refine l_iconst (pc := 340) (v := nI 2) dL_law_340 rfl ?_
  refine l_iadd (pc := 341) dL_law_341 ?_
  rw [nI_add]
  refine l_sld (pc := 342) dL_law_342 (vp_in_nI (by omega) (by omega)) ?_
  rw [nI_clamp (show i + 2 < 2 ^ 31 by omega)]
  obtain ⟨P1, hP1, hk1⟩ := hstep mm hR
  refine l_call (pc := 343) (as := [.int (xs (i + 1)), .int (xs (i + 2))]) dL_law_343 cl_32 (by decide) rfl rfl sh_0 (Nat.le_of_ble_eq_true rfl) hkc hks hP1 ?_
  intro r1 m1 hz1 hp1
  obtain ⟨v1, rfl⟩ := hz1
  obtain ⟨P2, hP2, hk2⟩ := hk1 _ _ hp1
  refine l_aload_n (pc := 346) (x := 156) dL_law_346 rfl ?_
  refine l_aload_n (pc := 347) (x := 5000) dL_law_347 rfl ?_
  refine l_iload_n (pc := 348) (x := nI i) dL_law_348 rfl ?_
  refine l_iconst (pc := 349) (v := nI 1) dL_law_349 rfl ?_
  refine l_iadd (pc := 350) dL_law_350 ?_
  rw [nI_add]
  refine l_sld (pc := 351) dL_law_351 (vp_in_nI (by omega) (by omega)) ?_
  rw [nI_clamp (show i + 1 < 2 ^ 31 by omega)]
  refine l_aload_n (pc := 352) (x := 5000) dL_law_352 rfl ?_
  refine l_iload_n (pc := 353) (x := nI i) dL_law_353 rfl ?_
  refine l_iconst (pc := 354) (v := nI 2) dL_law_354 rfl ?_
  refine l_iadd (pc := 355) dL_law_355 ?_
  rw [nI_add]
  refine l_sld (pc := 356) dL_law_356 (vp_in_nI (by omega) (by omega)) ?_
  rw [nI_clamp (show i + 2 < 2 ^ 31 by omega)]
  refine l_call (pc := 357) (as := [.int (xs (i + 1)), .int (xs (i + 2))]) dL_law_357 cl_36 (by decide) rfl rfl sh_156 (Nat.le_of_ble_eq_true rfl) hkc hks hP2 ?_
  intro r2 m2 hz2 hp2
  obtain ⟨rfl, hR2⟩ := hk2 _ _ hp2
  refine l_icmp_eq (pc := 360) (tgt := 1533) dL_law_360 (by decide) (fun _ => ?_) (fun z_ => absurd rfl z_)
  exact hk m2 hR2
theorem lc_5 (Ln : Nat) (xs : Nat → Int32) (kc ks i : Nat) (hkc : kc ≤ 600000) (hks : ks ≤ 7302250) (hi : i + 7 ≤ Ln) (hL : Ln ≤ 3584) (RR : MM → Prop) (mm : MM) (hR : RR mm) (hstep : StepOK RR e_X11_give e_X12_give [.int (xs (i + 1)), .int (xs (i + 2))]) (hk : ∀ m2, RR m2 → GL Ln xs kc ks 1533 [(0, .ref 5000), (1, .ref 0), (2, .ref 156), (3, .int (nI i))] [] m2) : GL Ln xs kc ks 365 [(0, .ref 5000), (1, .ref 0), (2, .ref 156), (3, .int (nI i))] [] mm := by
  refine l_aload_n (pc := 365) (x := 0) dL_law_365 rfl ?_
  refine l_aload_n (pc := 366) (x := 5000) dL_law_366 rfl ?_
  refine l_iload_n (pc := 367) (x := nI i) dL_law_367 rfl ?_
  refine l_iconst (pc := 368) (v := nI 1) dL_law_368 rfl ?_
  refine l_iadd (pc := 369) dL_law_369 ?_
  rw [nI_add]
  refine l_sld (pc := 370) dL_law_370 (vp_in_nI (by omega) (by omega)) ?_
  rw [nI_clamp (show i + 1 < 2 ^ 31 by omega)]
  refine l_aload_n (pc := 371) (x := 5000) dL_law_371 rfl ?_
  refine l_iload_n (pc := 372) (x := nI i) dL_law_372 rfl ?_
  refine l_iconst (pc := 373) (v := nI 2) dL_law_373 rfl ?_
  refine l_iadd (pc := 374) dL_law_374 ?_
  rw [nI_add]
  refine l_sld (pc := 375) dL_law_375 (vp_in_nI (by omega) (by omega)) ?_
  rw [nI_clamp (show i + 2 < 2 ^ 31 by omega)]
  obtain ⟨P1, hP1, hk1⟩ := hstep mm hR
  refine l_call (pc := 376) (as := [.int (xs (i + 1)), .int (xs (i + 2))]) dL_law_376 cl_37 (by decide) rfl rfl sh_0 (Nat.le_of_ble_eq_true rfl) hkc hks hP1 ?_
  intro r1 m1 hz1 hp1
  obtain ⟨v1, rfl⟩ := hz1
  obtain ⟨P2, hP2, hk2⟩ := hk1 _ _ hp1
  refine l_aload_n (pc := 379) (x := 156) dL_law_379 rfl ?_
  refine l_aload_n (pc := 380) (x := 5000) dL_law_380 rfl ?_
  refine l_iload_n (pc := 381) (x := nI i) dL_law_381 rfl ?_
  refine l_iconst (pc := 382) (v := nI 1) dL_law_382 rfl ?_
  refine l_iadd (pc := 383) dL_law_383 ?_
  rw [nI_add]
  refine l_sld (pc := 384) dL_law_384 (vp_in_nI (by omega) (by omega)) ?_
  rw [nI_clamp (show i + 1 < 2 ^ 31 by omega)]
  refine l_aload_n (pc := 385) (x := 5000) dL_law_385 rfl ?_
  refine l_iload_n (pc := 386) (x := nI i) dL_law_386 rfl ?_
  refine l_iconst (pc := 387) (v := nI 2) dL_law_387 rfl ?_
  refine l_iadd (pc := 388) dL_law_388 ?_
  rw [nI_add]
  refine l_sld (pc := 389) dL_law_389 (vp_in_nI (by omega) (by omega)) ?_
  rw [nI_clamp (show i + 2 < 2 ^ 31 by omega)]
  refine l_call (pc := 390) (as := [.int (xs (i + 1)), .int (xs (i + 2))]) dL_law_390 cl_41 (by decide) rfl rfl sh_156 (Nat.le_of_ble_eq_true rfl) hkc hks hP2 ?_
  intro r2 m2 hz2 hp2
  obtain ⟨rfl, hR2⟩ := hk2 _ _ hp2
  refine l_icmp_eq (pc := 393) (tgt := 1533) dL_law_393 (by decide) (fun _ => ?_) (fun z_ => absurd rfl z_)
  exact hk m2 hR2
theorem lc_6 (Ln : Nat) (xs : Nat → Int32) (kc ks i : Nat) (hkc : kc ≤ 600000) (hks : ks ≤ 7302250) (hi : i + 7 ≤ Ln) (hL : Ln ≤ 3584) (RR : MM → Prop) (mm : MM) (hR : RR mm) (hstep : StepOK RR e_X11_holder e_X12_holder [.int (xs (i + 1))]) (hk : ∀ m2, RR m2 → GL Ln xs kc ks 1533 [(0, .ref 5000), (1, .ref 0), (2, .ref 156), (3, .int (nI i))] [] m2) : GL Ln xs kc ks 398 [(0, .ref 5000), (1, .ref 0), (2, .ref 156), (3, .int (nI i))] [] mm := by
  refine l_aload_n (pc := 398) (x := 0) dL_law_398 rfl ?_
  refine l_aload_n (pc := 399) (x := 5000) dL_law_399 rfl ?_
  refine l_iload_n (pc := 400) (x := nI i) dL_law_400 rfl ?_
  refine l_iconst (pc := 401) (v := nI 1) dL_law_401 rfl ?_
  refine l_iadd (pc := 402) dL_law_402 ?_
  rw [nI_add]
  refine l_sld (pc := 403) dL_law_403 (vp_in_nI (by omega) (by omega)) ?_
  rw [nI_clamp (show i + 1 < 2 ^ 31 by omega)]
  obtain ⟨P1, hP1, hk1⟩ := hstep mm hR
  refine l_call (pc := 404) (as := [.int (xs (i + 1))]) dL_law_404 cl_42 (by decide) rfl rfl sh_0 (Nat.le_of_ble_eq_true rfl) hkc hks hP1 ?_
  intro r1 m1 hz1 hp1
  obtain ⟨v1, rfl⟩ := hz1
  obtain ⟨P2, hP2, hk2⟩ := hk1 _ _ hp1
  refine l_aload_n (pc := 407) (x := 156) dL_law_407 rfl ?_
  refine l_aload_n (pc := 408) (x := 5000) dL_law_408 rfl ?_
  refine l_iload_n (pc := 409) (x := nI i) dL_law_409 rfl ?_
  refine l_iconst (pc := 410) (v := nI 1) dL_law_410 rfl ?_
  refine l_iadd (pc := 411) dL_law_411 ?_
  rw [nI_add]
  refine l_sld (pc := 412) dL_law_412 (vp_in_nI (by omega) (by omega)) ?_
  rw [nI_clamp (show i + 1 < 2 ^ 31 by omega)]
  refine l_call (pc := 413) (as := [.int (xs (i + 1))]) dL_law_413 cl_45 (by decide) rfl rfl sh_156 (Nat.le_of_ble_eq_true rfl) hkc hks hP2 ?_
  intro r2 m2 hz2 hp2
  obtain ⟨rfl, hR2⟩ := hk2 _ _ hp2
  refine l_icmp_eq (pc := 416) (tgt := 1533) dL_law_416 (by decide) (fun _ => ?_) (fun z_ => absurd rfl z_)
  exact hk m2 hR2
theorem lc_7 (Ln : Nat) (xs : Nat → Int32) (kc ks i : Nat) (hkc : kc ≤ 600000) (hks : ks ≤ 7302250) (hi : i + 7 ≤ Ln) (hL : Ln ≤ 3584) (RR : MM → Prop) (mm : MM) (hR : RR mm) (hstep : StepOK RR e_X11_months e_X12_months [.int (xs (i + 1))]) (hk : ∀ m2, RR m2 → GL Ln xs kc ks 1533 [(0, .ref 5000), (1, .ref 0), (2, .ref 156), (3, .int (nI i))] [] m2) : GL Ln xs kc ks 421 [(0, .ref 5000), (1, .ref 0), (2, .ref 156), (3, .int (nI i))] [] mm := by
  refine l_aload_n (pc := 421) (x := 0) dL_law_421 rfl ?_
  refine l_aload_n (pc := 422) (x := 5000) dL_law_422 rfl ?_
  refine l_iload_n (pc := 423) (x := nI i) dL_law_423 rfl ?_
  refine l_iconst (pc := 424) (v := nI 1) dL_law_424 rfl ?_
  refine l_iadd (pc := 425) dL_law_425 ?_
  rw [nI_add]
  refine l_sld (pc := 426) dL_law_426 (vp_in_nI (by omega) (by omega)) ?_
  rw [nI_clamp (show i + 1 < 2 ^ 31 by omega)]
  obtain ⟨P1, hP1, hk1⟩ := hstep mm hR
  refine l_call (pc := 427) (as := [.int (xs (i + 1))]) dL_law_427 cl_46 (by decide) rfl rfl sh_0 (Nat.le_of_ble_eq_true rfl) hkc hks hP1 ?_
  intro r1 m1 hz1 hp1
  obtain ⟨v1, rfl⟩ := hz1
  obtain ⟨P2, hP2, hk2⟩ := hk1 _ _ hp1
  refine l_aload_n (pc := 430) (x := 156) dL_law_430 rfl ?_
  refine l_aload_n (pc := 431) (x := 5000) dL_law_431 rfl ?_
  refine l_iload_n (pc := 432) (x := nI i) dL_law_432 rfl ?_
  refine l_iconst (pc := 433) (v := nI 1) dL_law_433 rfl ?_
  refine l_iadd (pc := 434) dL_law_434 ?_
  rw [nI_add]
  refine l_sld (pc := 435) dL_law_435 (vp_in_nI (by omega) (by omega)) ?_
  rw [nI_clamp (show i + 1 < 2 ^ 31 by omega)]
  refine l_call (pc := 436) (as := [.int (xs (i + 1))]) dL_law_436 cl_49 (by decide) rfl rfl sh_156 (Nat.le_of_ble_eq_true rfl) hkc hks hP2 ?_
  intro r2 m2 hz2 hp2
  obtain ⟨rfl, hR2⟩ := hk2 _ _ hp2
  refine l_icmp_eq (pc := 439) (tgt := 1533) dL_law_439 (by decide) (fun _ => ?_) (fun z_ => absurd rfl z_)
  exact hk m2 hR2
theorem lc_8 (Ln : Nat) (xs : Nat → Int32) (kc ks i : Nat) (hkc : kc ≤ 600000) (hks : ks ≤ 7302250) (hi : i + 7 ≤ Ln) (hL : Ln ≤ 3584) (RR : MM → Prop) (mm : MM) (hR : RR mm) (hstep : StepOK RR e_X11_tide e_X12_tide [.int (xs (i + 1))]) (hk : ∀ m2, RR m2 → GL Ln xs kc ks 1533 [(0, .ref 5000), (1, .ref 0), (2, .ref 156), (3, .int (nI i))] [] m2) : GL Ln xs kc ks 444 [(0, .ref 5000), (1, .ref 0), (2, .ref 156), (3, .int (nI i))] [] mm := by
  refine l_aload_n (pc := 444) (x := 0) dL_law_444 rfl ?_
  refine l_aload_n (pc := 445) (x := 5000) dL_law_445 rfl ?_
  refine l_iload_n (pc := 446) (x := nI i) dL_law_446 rfl ?_
  refine l_iconst (pc := 447) (v := nI 1) dL_law_447 rfl ?_
  refine l_iadd (pc := 448) dL_law_448 ?_
  rw [nI_add]
  refine l_sld (pc := 449) dL_law_449 (vp_in_nI (by omega) (by omega)) ?_
  rw [nI_clamp (show i + 1 < 2 ^ 31 by omega)]
  obtain ⟨P1, hP1, hk1⟩ := hstep mm hR
  refine l_call (pc := 450) (as := [.int (xs (i + 1))]) dL_law_450 cl_50 (by decide) rfl rfl sh_0 (Nat.le_of_ble_eq_true rfl) hkc hks hP1 ?_
  intro r1 m1 hz1 hp1
  obtain ⟨v1, rfl⟩ := hz1
  obtain ⟨P2, hP2, hk2⟩ := hk1 _ _ hp1
  refine l_aload_n (pc := 453) (x := 156) dL_law_453 rfl ?_
  refine l_aload_n (pc := 454) (x := 5000) dL_law_454 rfl ?_
  refine l_iload_n (pc := 455) (x := nI i) dL_law_455 rfl ?_
  refine l_iconst (pc := 456) (v := nI 1) dL_law_456 rfl ?_
  refine l_iadd (pc := 457) dL_law_457 ?_
  rw [nI_add]
  refine l_sld (pc := 458) dL_law_458 (vp_in_nI (by omega) (by omega)) ?_
  rw [nI_clamp (show i + 1 < 2 ^ 31 by omega)]
  refine l_call (pc := 459) (as := [.int (xs (i + 1))]) dL_law_459 cl_53 (by decide) rfl rfl sh_156 (Nat.le_of_ble_eq_true rfl) hkc hks hP2 ?_
  intro r2 m2 hz2 hp2
  obtain ⟨rfl, hR2⟩ := hk2 _ _ hp2
  refine l_icmp_eq (pc := 462) (tgt := 1533) dL_law_462 (by decide) (fun _ => ?_) (fun z_ => absurd rfl z_)
  exact hk m2 hR2
theorem lc_9 (Ln : Nat) (xs : Nat → Int32) (kc ks i : Nat) (hkc : kc ≤ 600000) (hks : ks ≤ 7302250) (hi : i + 7 ≤ Ln) (hL : Ln ≤ 3584) (RR : MM → Prop) (mm : MM) (hR : RR mm) (hstep : StepOK RR e_X11_wet e_X12_wet [.int (xs (i + 1))]) (hk : ∀ m2, RR m2 → GL Ln xs kc ks 1533 [(0, .ref 5000), (1, .ref 0), (2, .ref 156), (3, .int (nI i))] [] m2) : GL Ln xs kc ks 467 [(0, .ref 5000), (1, .ref 0), (2, .ref 156), (3, .int (nI i))] [] mm := by
  refine l_aload_n (pc := 467) (x := 0) dL_law_467 rfl ?_
  refine l_aload_n (pc := 468) (x := 5000) dL_law_468 rfl ?_
  refine l_iload_n (pc := 469) (x := nI i) dL_law_469 rfl ?_
  refine l_iconst (pc := 470) (v := nI 1) dL_law_470 rfl ?_
  refine l_iadd (pc := 471) dL_law_471 ?_
  rw [nI_add]
  refine l_sld (pc := 472) dL_law_472 (vp_in_nI (by omega) (by omega)) ?_
  rw [nI_clamp (show i + 1 < 2 ^ 31 by omega)]
  obtain ⟨P1, hP1, hk1⟩ := hstep mm hR
  refine l_call (pc := 473) (as := [.int (xs (i + 1))]) dL_law_473 cl_54 (by decide) rfl rfl sh_0 (Nat.le_of_ble_eq_true rfl) hkc hks hP1 ?_
  intro r1 m1 hz1 hp1
  obtain ⟨v1, rfl⟩ := hz1
  obtain ⟨P2, hP2, hk2⟩ := hk1 _ _ hp1
  refine l_aload_n (pc := 476) (x := 156) dL_law_476 rfl ?_
  refine l_aload_n (pc := 477) (x := 5000) dL_law_477 rfl ?_
  refine l_iload_n (pc := 478) (x := nI i) dL_law_478 rfl ?_
  refine l_iconst (pc := 479) (v := nI 1) dL_law_479 rfl ?_
  refine l_iadd (pc := 480) dL_law_480 ?_
  rw [nI_add]
  refine l_sld (pc := 481) dL_law_481 (vp_in_nI (by omega) (by omega)) ?_
  rw [nI_clamp (show i + 1 < 2 ^ 31 by omega)]
  refine l_call (pc := 482) (as := [.int (xs (i + 1))]) dL_law_482 cl_57 (by decide) rfl rfl sh_156 (Nat.le_of_ble_eq_true rfl) hkc hks hP2 ?_
  intro r2 m2 hz2 hp2
  obtain ⟨rfl, hR2⟩ := hk2 _ _ hp2
  refine l_icmp_eq (pc := 485) (tgt := 1533) dL_law_485 (by decide) (fun _ => ?_) (fun z_ => absurd rfl z_)
  exact hk m2 hR2
theorem lc_10 (Ln : Nat) (xs : Nat → Int32) (kc ks i : Nat) (hkc : kc ≤ 600000) (hks : ks ≤ 7302250) (hi : i + 7 ≤ Ln) (hL : Ln ≤ 3584) (RR : MM → Prop) (mm : MM) (hR : RR mm) (hstep : StepOK RR e_X11_reached e_X12_reached [.int (xs (i + 1))]) (hk : ∀ m2, RR m2 → GL Ln xs kc ks 1533 [(0, .ref 5000), (1, .ref 0), (2, .ref 156), (3, .int (nI i))] [] m2) : GL Ln xs kc ks 490 [(0, .ref 5000), (1, .ref 0), (2, .ref 156), (3, .int (nI i))] [] mm := by
  refine l_aload_n (pc := 490) (x := 0) dL_law_490 rfl ?_
  refine l_aload_n (pc := 491) (x := 5000) dL_law_491 rfl ?_
  refine l_iload_n (pc := 492) (x := nI i) dL_law_492 rfl ?_
  refine l_iconst (pc := 493) (v := nI 1) dL_law_493 rfl ?_
  refine l_iadd (pc := 494) dL_law_494 ?_
  rw [nI_add]
  refine l_sld (pc := 495) dL_law_495 (vp_in_nI (by omega) (by omega)) ?_
  rw [nI_clamp (show i + 1 < 2 ^ 31 by omega)]
  obtain ⟨P1, hP1, hk1⟩ := hstep mm hR
  refine l_call (pc := 496) (as := [.int (xs (i + 1))]) dL_law_496 cl_58 (by decide) rfl rfl sh_0 (Nat.le_of_ble_eq_true rfl) hkc hks hP1 ?_
  intro r1 m1 hz1 hp1
  obtain ⟨v1, rfl⟩ := hz1
  obtain ⟨P2, hP2, hk2⟩ := hk1 _ _ hp1
  refine l_aload_n (pc := 499) (x := 156) dL_law_499 rfl ?_
  refine l_aload_n (pc := 500) (x := 5000) dL_law_500 rfl ?_
  refine l_iload_n (pc := 501) (x := nI i) dL_law_501 rfl ?_
  refine l_iconst (pc := 502) (v := nI 1) dL_law_502 rfl ?_
  refine l_iadd (pc := 503) dL_law_503 ?_
  rw [nI_add]
  refine l_sld (pc := 504) dL_law_504 (vp_in_nI (by omega) (by omega)) ?_
  rw [nI_clamp (show i + 1 < 2 ^ 31 by omega)]
  refine l_call (pc := 505) (as := [.int (xs (i + 1))]) dL_law_505 cl_61 (by decide) rfl rfl sh_156 (Nat.le_of_ble_eq_true rfl) hkc hks hP2 ?_
  intro r2 m2 hz2 hp2
  obtain ⟨rfl, hR2⟩ := hk2 _ _ hp2
  refine l_icmp_eq (pc := 508) (tgt := 1533) dL_law_508 (by decide) (fun _ => ?_) (fun z_ => absurd rfl z_)
  exact hk m2 hR2
theorem lc_11 (Ln : Nat) (xs : Nat → Int32) (kc ks i : Nat) (hkc : kc ≤ 600000) (hks : ks ≤ 7302250) (hi : i + 7 ≤ Ln) (hL : Ln ≤ 3584) (RR : MM → Prop) (mm : MM) (hR : RR mm) (hstep : StepOK RR e_X11_hours e_X12_hours [.int (xs (i + 1))]) (hk : ∀ m2, RR m2 → GL Ln xs kc ks 1533 [(0, .ref 5000), (1, .ref 0), (2, .ref 156), (3, .int (nI i))] [] m2) : GL Ln xs kc ks 513 [(0, .ref 5000), (1, .ref 0), (2, .ref 156), (3, .int (nI i))] [] mm := by
  refine l_aload_n (pc := 513) (x := 0) dL_law_513 rfl ?_
  refine l_aload_n (pc := 514) (x := 5000) dL_law_514 rfl ?_
  refine l_iload_n (pc := 515) (x := nI i) dL_law_515 rfl ?_
  refine l_iconst (pc := 516) (v := nI 1) dL_law_516 rfl ?_
  refine l_iadd (pc := 517) dL_law_517 ?_
  rw [nI_add]
  refine l_sld (pc := 518) dL_law_518 (vp_in_nI (by omega) (by omega)) ?_
  rw [nI_clamp (show i + 1 < 2 ^ 31 by omega)]
  obtain ⟨P1, hP1, hk1⟩ := hstep mm hR
  refine l_call (pc := 519) (as := [.int (xs (i + 1))]) dL_law_519 cl_62 (by decide) rfl rfl sh_0 (Nat.le_of_ble_eq_true rfl) hkc hks hP1 ?_
  intro r1 m1 hz1 hp1
  obtain ⟨v1, rfl⟩ := hz1
  obtain ⟨P2, hP2, hk2⟩ := hk1 _ _ hp1
  refine l_aload_n (pc := 522) (x := 156) dL_law_522 rfl ?_
  refine l_aload_n (pc := 523) (x := 5000) dL_law_523 rfl ?_
  refine l_iload_n (pc := 524) (x := nI i) dL_law_524 rfl ?_
  refine l_iconst (pc := 525) (v := nI 1) dL_law_525 rfl ?_
  refine l_iadd (pc := 526) dL_law_526 ?_
  rw [nI_add]
  refine l_sld (pc := 527) dL_law_527 (vp_in_nI (by omega) (by omega)) ?_
  rw [nI_clamp (show i + 1 < 2 ^ 31 by omega)]
  refine l_call (pc := 528) (as := [.int (xs (i + 1))]) dL_law_528 cl_65 (by decide) rfl rfl sh_156 (Nat.le_of_ble_eq_true rfl) hkc hks hP2 ?_
  intro r2 m2 hz2 hp2
  obtain ⟨rfl, hR2⟩ := hk2 _ _ hp2
  refine l_icmp_eq (pc := 531) (tgt := 1533) dL_law_531 (by decide) (fun _ => ?_) (fun z_ => absurd rfl z_)
  exact hk m2 hR2
theorem lc_12 (Ln : Nat) (xs : Nat → Int32) (kc ks i : Nat) (hkc : kc ≤ 600000) (hks : ks ≤ 7302250) (hi : i + 7 ≤ Ln) (hL : Ln ≤ 3584) (RR : MM → Prop) (mm : MM) (hR : RR mm) (hstep : StepOK RR e_X11_meets e_X12_meets [.int (xs (i + 1))]) (hk : ∀ m2, RR m2 → GL Ln xs kc ks 1533 [(0, .ref 5000), (1, .ref 0), (2, .ref 156), (3, .int (nI i))] [] m2) : GL Ln xs kc ks 536 [(0, .ref 5000), (1, .ref 0), (2, .ref 156), (3, .int (nI i))] [] mm := by
  refine l_aload_n (pc := 536) (x := 0) dL_law_536 rfl ?_
  refine l_aload_n (pc := 537) (x := 5000) dL_law_537 rfl ?_
  refine l_iload_n (pc := 538) (x := nI i) dL_law_538 rfl ?_
  refine l_iconst (pc := 539) (v := nI 1) dL_law_539 rfl ?_
  refine l_iadd (pc := 540) dL_law_540 ?_
  rw [nI_add]
  refine l_sld (pc := 541) dL_law_541 (vp_in_nI (by omega) (by omega)) ?_
  rw [nI_clamp (show i + 1 < 2 ^ 31 by omega)]
  obtain ⟨P1, hP1, hk1⟩ := hstep mm hR
  refine l_call (pc := 542) (as := [.int (xs (i + 1))]) dL_law_542 cl_66 (by decide) rfl rfl sh_0 (Nat.le_of_ble_eq_true rfl) hkc hks hP1 ?_
  intro r1 m1 hz1 hp1
  obtain ⟨v1, rfl⟩ := hz1
  obtain ⟨P2, hP2, hk2⟩ := hk1 _ _ hp1
  refine l_aload_n (pc := 545) (x := 156) dL_law_545 rfl ?_
  refine l_aload_n (pc := 546) (x := 5000) dL_law_546 rfl ?_
  refine l_iload_n (pc := 547) (x := nI i) dL_law_547 rfl ?_
  refine l_iconst (pc := 548) (v := nI 1) dL_law_548 rfl ?_
  refine l_iadd (pc := 549) dL_law_549 ?_
  rw [nI_add]
  refine l_sld (pc := 550) dL_law_550 (vp_in_nI (by omega) (by omega)) ?_
  rw [nI_clamp (show i + 1 < 2 ^ 31 by omega)]
  refine l_call (pc := 551) (as := [.int (xs (i + 1))]) dL_law_551 cl_69 (by decide) rfl rfl sh_156 (Nat.le_of_ble_eq_true rfl) hkc hks hP2 ?_
  intro r2 m2 hz2 hp2
  obtain ⟨rfl, hR2⟩ := hk2 _ _ hp2
  refine l_icmp_eq (pc := 554) (tgt := 1533) dL_law_554 (by decide) (fun _ => ?_) (fun z_ => absurd rfl z_)
  exact hk m2 hR2
theorem lc_13_0 (Ln : Nat) (xs : Nat → Int32) (kc ks i : Nat) (hkc : kc ≤ 600000) (hks : ks ≤ 7302250) (hi : i + 7 ≤ Ln) (hL : Ln ≤ 3584) (RR : MM → Prop) (mm : MM) (hR : RR mm) (hb2 : ¬ (xs (i + 2)) = 0) (hstep : StepOK RR e_X11_cut e_X12_cut [.int (xs (i + 1)), .int (1 : Int32), .int (xs (i + 3))]) (hk : ∀ m2, RR m2 → GL Ln xs kc ks 1533 [(0, .ref 5000), (1, .ref 0), (2, .ref 156), (3, .int (nI i))] [] m2) : GL Ln xs kc ks 559 [(0, .ref 5000), (1, .ref 0), (2, .ref 156), (3, .int (nI i))] [] mm := by
  refine l_aload_n (pc := 559) (x := 0) dL_law_559 rfl ?_
  refine l_aload_n (pc := 560) (x := 5000) dL_law_560 rfl ?_
  refine l_iload_n (pc := 561) (x := nI i) dL_law_561 rfl ?_
  refine l_iconst (pc := 562) (v := nI 1) dL_law_562 rfl ?_
  refine l_iadd (pc := 563) dL_law_563 ?_
  rw [nI_add]
  refine l_sld (pc := 564) dL_law_564 (vp_in_nI (by omega) (by omega)) ?_
  rw [nI_clamp (show i + 1 < 2 ^ 31 by omega)]
  refine l_aload_n (pc := 565) (x := 5000) dL_law_565 rfl ?_
  refine l_iload_n (pc := 566) (x := nI i) dL_law_566 rfl ?_
  refine l_iconst (pc := 567) (v := nI 2) dL_law_567 rfl ?_
  refine l_iadd (pc := 568) dL_law_568 ?_
  rw [nI_add]
  refine l_sld (pc := 569) dL_law_569 (vp_in_nI (by omega) (by omega)) ?_
  rw [nI_clamp (show i + 2 < 2 ^ 31 by omega)]
  refine l_if_eq (pc := 570) (tgt := 577) dL_law_570 (by decide) (fun z_ => absurd z_ hb2) (fun _ => ?_)
  refine l_iconst (pc := 573) (v := (1 : Int32)) dL_law_573 (by decide) ?_
  refine l_goto (pc := 574) (tgt := 578) dL_law_574 (by decide) ?_
  refine l_aload_n (pc := 578) (x := 5000) dL_law_578 rfl ?_
  refine l_iload_n (pc := 579) (x := nI i) dL_law_579 rfl ?_
  refine l_iconst (pc := 580) (v := nI 3) dL_law_580 rfl ?_
  refine l_iadd (pc := 581) dL_law_581 ?_
  rw [nI_add]
  refine l_sld (pc := 582) dL_law_582 (vp_in_nI (by omega) (by omega)) ?_
  rw [nI_clamp (show i + 3 < 2 ^ 31 by omega)]
  obtain ⟨P1, hP1, hk1⟩ := hstep mm hR
  refine l_call (pc := 583) (as := [.int (xs (i + 1)), .int (1 : Int32), .int (xs (i + 3))]) dL_law_583 cl_70 (by decide) rfl rfl sh_0 (Nat.le_of_ble_eq_true rfl) hkc hks hP1 ?_
  intro r1 m1 hz1 hp1
  obtain ⟨v1, rfl⟩ := hz1
  obtain ⟨P2, hP2, hk2⟩ := hk1 _ _ hp1
  refine l_aload_n (pc := 586) (x := 156) dL_law_586 rfl ?_
  refine l_aload_n (pc := 587) (x := 5000) dL_law_587 rfl ?_
  refine l_iload_n (pc := 588) (x := nI i) dL_law_588 rfl ?_
  refine l_iconst (pc := 589) (v := nI 1) dL_law_589 rfl ?_
  refine l_iadd (pc := 590) dL_law_590 ?_
  rw [nI_add]
  refine l_sld (pc := 591) dL_law_591 (vp_in_nI (by omega) (by omega)) ?_
  rw [nI_clamp (show i + 1 < 2 ^ 31 by omega)]
  refine l_aload_n (pc := 592) (x := 5000) dL_law_592 rfl ?_
  refine l_iload_n (pc := 593) (x := nI i) dL_law_593 rfl ?_
  refine l_iconst (pc := 594) (v := nI 2) dL_law_594 rfl ?_
  refine l_iadd (pc := 595) dL_law_595 ?_
  rw [nI_add]
  refine l_sld (pc := 596) dL_law_596 (vp_in_nI (by omega) (by omega)) ?_
  rw [nI_clamp (show i + 2 < 2 ^ 31 by omega)]
  refine l_if_eq (pc := 597) (tgt := 604) dL_law_597 (by decide) (fun z_ => absurd z_ hb2) (fun _ => ?_)
  refine l_iconst (pc := 600) (v := (1 : Int32)) dL_law_600 (by decide) ?_
  refine l_goto (pc := 601) (tgt := 605) dL_law_601 (by decide) ?_
  refine l_aload_n (pc := 605) (x := 5000) dL_law_605 rfl ?_
  refine l_iload_n (pc := 606) (x := nI i) dL_law_606 rfl ?_
  refine l_iconst (pc := 607) (v := nI 3) dL_law_607 rfl ?_
  refine l_iadd (pc := 608) dL_law_608 ?_
  rw [nI_add]
  refine l_sld (pc := 609) dL_law_609 (vp_in_nI (by omega) (by omega)) ?_
  rw [nI_clamp (show i + 3 < 2 ^ 31 by omega)]
  refine l_call (pc := 610) (as := [.int (xs (i + 1)), .int (1 : Int32), .int (xs (i + 3))]) dL_law_610 cl_74 (by decide) rfl rfl sh_156 (Nat.le_of_ble_eq_true rfl) hkc hks hP2 ?_
  intro r2 m2 hz2 hp2
  obtain ⟨rfl, hR2⟩ := hk2 _ _ hp2
  refine l_icmp_eq (pc := 613) (tgt := 1533) dL_law_613 (by decide) (fun _ => ?_) (fun z_ => absurd rfl z_)
  exact hk m2 hR2
theorem lc_13_1 (Ln : Nat) (xs : Nat → Int32) (kc ks i : Nat) (hkc : kc ≤ 600000) (hks : ks ≤ 7302250) (hi : i + 7 ≤ Ln) (hL : Ln ≤ 3584) (RR : MM → Prop) (mm : MM) (hR : RR mm) (hb2 : (xs (i + 2)) = 0) (hstep : StepOK RR e_X11_cut e_X12_cut [.int (xs (i + 1)), .int (0 : Int32), .int (xs (i + 3))]) (hk : ∀ m2, RR m2 → GL Ln xs kc ks 1533 [(0, .ref 5000), (1, .ref 0), (2, .ref 156), (3, .int (nI i))] [] m2) : GL Ln xs kc ks 559 [(0, .ref 5000), (1, .ref 0), (2, .ref 156), (3, .int (nI i))] [] mm := by
  refine l_aload_n (pc := 559) (x := 0) dL_law_559 rfl ?_
  refine l_aload_n (pc := 560) (x := 5000) dL_law_560 rfl ?_
  refine l_iload_n (pc := 561) (x := nI i) dL_law_561 rfl ?_
  refine l_iconst (pc := 562) (v := nI 1) dL_law_562 rfl ?_
  refine l_iadd (pc := 563) dL_law_563 ?_
  rw [nI_add]
  refine l_sld (pc := 564) dL_law_564 (vp_in_nI (by omega) (by omega)) ?_
  rw [nI_clamp (show i + 1 < 2 ^ 31 by omega)]
  refine l_aload_n (pc := 565) (x := 5000) dL_law_565 rfl ?_
  refine l_iload_n (pc := 566) (x := nI i) dL_law_566 rfl ?_
  refine l_iconst (pc := 567) (v := nI 2) dL_law_567 rfl ?_
  refine l_iadd (pc := 568) dL_law_568 ?_
  rw [nI_add]
  refine l_sld (pc := 569) dL_law_569 (vp_in_nI (by omega) (by omega)) ?_
  rw [nI_clamp (show i + 2 < 2 ^ 31 by omega)]
  refine l_if_eq (pc := 570) (tgt := 577) dL_law_570 (by decide) (fun _ => ?_) (fun z_ => absurd hb2 z_)
  refine l_iconst (pc := 577) (v := (0 : Int32)) dL_law_577 (by decide) ?_
  refine l_aload_n (pc := 578) (x := 5000) dL_law_578 rfl ?_
  refine l_iload_n (pc := 579) (x := nI i) dL_law_579 rfl ?_
  refine l_iconst (pc := 580) (v := nI 3) dL_law_580 rfl ?_
  refine l_iadd (pc := 581) dL_law_581 ?_
  rw [nI_add]
  refine l_sld (pc := 582) dL_law_582 (vp_in_nI (by omega) (by omega)) ?_
  rw [nI_clamp (show i + 3 < 2 ^ 31 by omega)]
  obtain ⟨P1, hP1, hk1⟩ := hstep mm hR
  refine l_call (pc := 583) (as := [.int (xs (i + 1)), .int (0 : Int32), .int (xs (i + 3))]) dL_law_583 cl_70 (by decide) rfl rfl sh_0 (Nat.le_of_ble_eq_true rfl) hkc hks hP1 ?_
  intro r1 m1 hz1 hp1
  obtain ⟨v1, rfl⟩ := hz1
  obtain ⟨P2, hP2, hk2⟩ := hk1 _ _ hp1
  refine l_aload_n (pc := 586) (x := 156) dL_law_586 rfl ?_
  refine l_aload_n (pc := 587) (x := 5000) dL_law_587 rfl ?_
  refine l_iload_n (pc := 588) (x := nI i) dL_law_588 rfl ?_
  refine l_iconst (pc := 589) (v := nI 1) dL_law_589 rfl ?_
  refine l_iadd (pc := 590) dL_law_590 ?_
  rw [nI_add]
  refine l_sld (pc := 591) dL_law_591 (vp_in_nI (by omega) (by omega)) ?_
  rw [nI_clamp (show i + 1 < 2 ^ 31 by omega)]
  refine l_aload_n (pc := 592) (x := 5000) dL_law_592 rfl ?_
  refine l_iload_n (pc := 593) (x := nI i) dL_law_593 rfl ?_
  refine l_iconst (pc := 594) (v := nI 2) dL_law_594 rfl ?_
  refine l_iadd (pc := 595) dL_law_595 ?_
  rw [nI_add]
  refine l_sld (pc := 596) dL_law_596 (vp_in_nI (by omega) (by omega)) ?_
  rw [nI_clamp (show i + 2 < 2 ^ 31 by omega)]
  refine l_if_eq (pc := 597) (tgt := 604) dL_law_597 (by decide) (fun _ => ?_) (fun z_ => absurd hb2 z_)
  refine l_iconst (pc := 604) (v := (0 : Int32)) dL_law_604 (by decide) ?_
  refine l_aload_n (pc := 605) (x := 5000) dL_law_605 rfl ?_
  refine l_iload_n (pc := 606) (x := nI i) dL_law_606 rfl ?_
  refine l_iconst (pc := 607) (v := nI 3) dL_law_607 rfl ?_
  refine l_iadd (pc := 608) dL_law_608 ?_
  rw [nI_add]
  refine l_sld (pc := 609) dL_law_609 (vp_in_nI (by omega) (by omega)) ?_
  rw [nI_clamp (show i + 3 < 2 ^ 31 by omega)]
  refine l_call (pc := 610) (as := [.int (xs (i + 1)), .int (0 : Int32), .int (xs (i + 3))]) dL_law_610 cl_74 (by decide) rfl rfl sh_156 (Nat.le_of_ble_eq_true rfl) hkc hks hP2 ?_
  intro r2 m2 hz2 hp2
  obtain ⟨rfl, hR2⟩ := hk2 _ _ hp2
  refine l_icmp_eq (pc := 613) (tgt := 1533) dL_law_613 (by decide) (fun _ => ?_) (fun z_ => absurd rfl z_)
  exact hk m2 hR2
theorem lc_14_0 (Ln : Nat) (xs : Nat → Int32) (kc ks i : Nat) (hkc : kc ≤ 600000) (hks : ks ≤ 7302250) (hi : i + 7 ≤ Ln) (hL : Ln ≤ 3584) (RR : MM → Prop) (mm : MM) (hR : RR mm) (hb1 : ¬ (xs (i + 1)) = 0) (hstep : StepOK RR e_X11_worst e_X12_worst [.int (1 : Int32), .int (xs (i + 2))]) (hk : ∀ m2, RR m2 → GL Ln xs kc ks 1533 [(0, .ref 5000), (1, .ref 0), (2, .ref 156), (3, .int (nI i))] [] m2) : GL Ln xs kc ks 618 [(0, .ref 5000), (1, .ref 0), (2, .ref 156), (3, .int (nI i))] [] mm := by
  refine l_aload_n (pc := 618) (x := 0) dL_law_618 rfl ?_
  refine l_aload_n (pc := 619) (x := 5000) dL_law_619 rfl ?_
  refine l_iload_n (pc := 620) (x := nI i) dL_law_620 rfl ?_
  refine l_iconst (pc := 621) (v := nI 1) dL_law_621 rfl ?_
  refine l_iadd (pc := 622) dL_law_622 ?_
  rw [nI_add]
  refine l_sld (pc := 623) dL_law_623 (vp_in_nI (by omega) (by omega)) ?_
  rw [nI_clamp (show i + 1 < 2 ^ 31 by omega)]
  refine l_if_eq (pc := 624) (tgt := 631) dL_law_624 (by decide) (fun z_ => absurd z_ hb1) (fun _ => ?_)
  refine l_iconst (pc := 627) (v := (1 : Int32)) dL_law_627 (by decide) ?_
  refine l_goto (pc := 628) (tgt := 632) dL_law_628 (by decide) ?_
  refine l_aload_n (pc := 632) (x := 5000) dL_law_632 rfl ?_
  refine l_iload_n (pc := 633) (x := nI i) dL_law_633 rfl ?_
  refine l_iconst (pc := 634) (v := nI 2) dL_law_634 rfl ?_
  refine l_iadd (pc := 635) dL_law_635 ?_
  rw [nI_add]
  refine l_sld (pc := 636) dL_law_636 (vp_in_nI (by omega) (by omega)) ?_
  rw [nI_clamp (show i + 2 < 2 ^ 31 by omega)]
  obtain ⟨P1, hP1, hk1⟩ := hstep mm hR
  refine l_call (pc := 637) (as := [.int (1 : Int32), .int (xs (i + 2))]) dL_law_637 cl_75 (by decide) rfl rfl sh_0 (Nat.le_of_ble_eq_true rfl) hkc hks hP1 ?_
  intro r1 m1 hz1 hp1
  obtain ⟨v1, rfl⟩ := hz1
  obtain ⟨P2, hP2, hk2⟩ := hk1 _ _ hp1
  refine l_aload_n (pc := 640) (x := 156) dL_law_640 rfl ?_
  refine l_aload_n (pc := 641) (x := 5000) dL_law_641 rfl ?_
  refine l_iload_n (pc := 642) (x := nI i) dL_law_642 rfl ?_
  refine l_iconst (pc := 643) (v := nI 1) dL_law_643 rfl ?_
  refine l_iadd (pc := 644) dL_law_644 ?_
  rw [nI_add]
  refine l_sld (pc := 645) dL_law_645 (vp_in_nI (by omega) (by omega)) ?_
  rw [nI_clamp (show i + 1 < 2 ^ 31 by omega)]
  refine l_if_eq (pc := 646) (tgt := 653) dL_law_646 (by decide) (fun z_ => absurd z_ hb1) (fun _ => ?_)
  refine l_iconst (pc := 649) (v := (1 : Int32)) dL_law_649 (by decide) ?_
  refine l_goto (pc := 650) (tgt := 654) dL_law_650 (by decide) ?_
  refine l_aload_n (pc := 654) (x := 5000) dL_law_654 rfl ?_
  refine l_iload_n (pc := 655) (x := nI i) dL_law_655 rfl ?_
  refine l_iconst (pc := 656) (v := nI 2) dL_law_656 rfl ?_
  refine l_iadd (pc := 657) dL_law_657 ?_
  rw [nI_add]
  refine l_sld (pc := 658) dL_law_658 (vp_in_nI (by omega) (by omega)) ?_
  rw [nI_clamp (show i + 2 < 2 ^ 31 by omega)]
  refine l_call (pc := 659) (as := [.int (1 : Int32), .int (xs (i + 2))]) dL_law_659 cl_79 (by decide) rfl rfl sh_156 (Nat.le_of_ble_eq_true rfl) hkc hks hP2 ?_
  intro r2 m2 hz2 hp2
  obtain ⟨rfl, hR2⟩ := hk2 _ _ hp2
  refine l_icmp_eq (pc := 662) (tgt := 1533) dL_law_662 (by decide) (fun _ => ?_) (fun z_ => absurd rfl z_)
  exact hk m2 hR2
theorem lc_14_1 (Ln : Nat) (xs : Nat → Int32) (kc ks i : Nat) (hkc : kc ≤ 600000) (hks : ks ≤ 7302250) (hi : i + 7 ≤ Ln) (hL : Ln ≤ 3584) (RR : MM → Prop) (mm : MM) (hR : RR mm) (hb1 : (xs (i + 1)) = 0) (hstep : StepOK RR e_X11_worst e_X12_worst [.int (0 : Int32), .int (xs (i + 2))]) (hk : ∀ m2, RR m2 → GL Ln xs kc ks 1533 [(0, .ref 5000), (1, .ref 0), (2, .ref 156), (3, .int (nI i))] [] m2) : GL Ln xs kc ks 618 [(0, .ref 5000), (1, .ref 0), (2, .ref 156), (3, .int (nI i))] [] mm := by
  refine l_aload_n (pc := 618) (x := 0) dL_law_618 rfl ?_
  refine l_aload_n (pc := 619) (x := 5000) dL_law_619 rfl ?_
  refine l_iload_n (pc := 620) (x := nI i) dL_law_620 rfl ?_
  refine l_iconst (pc := 621) (v := nI 1) dL_law_621 rfl ?_
  refine l_iadd (pc := 622) dL_law_622 ?_
  rw [nI_add]
  refine l_sld (pc := 623) dL_law_623 (vp_in_nI (by omega) (by omega)) ?_
  rw [nI_clamp (show i + 1 < 2 ^ 31 by omega)]
  refine l_if_eq (pc := 624) (tgt := 631) dL_law_624 (by decide) (fun _ => ?_) (fun z_ => absurd hb1 z_)
  refine l_iconst (pc := 631) (v := (0 : Int32)) dL_law_631 (by decide) ?_
  refine l_aload_n (pc := 632) (x := 5000) dL_law_632 rfl ?_
  refine l_iload_n (pc := 633) (x := nI i) dL_law_633 rfl ?_
  refine l_iconst (pc := 634) (v := nI 2) dL_law_634 rfl ?_
  refine l_iadd (pc := 635) dL_law_635 ?_
  rw [nI_add]
  refine l_sld (pc := 636) dL_law_636 (vp_in_nI (by omega) (by omega)) ?_
  rw [nI_clamp (show i + 2 < 2 ^ 31 by omega)]
  obtain ⟨P1, hP1, hk1⟩ := hstep mm hR
  refine l_call (pc := 637) (as := [.int (0 : Int32), .int (xs (i + 2))]) dL_law_637 cl_75 (by decide) rfl rfl sh_0 (Nat.le_of_ble_eq_true rfl) hkc hks hP1 ?_
  intro r1 m1 hz1 hp1
  obtain ⟨v1, rfl⟩ := hz1
  obtain ⟨P2, hP2, hk2⟩ := hk1 _ _ hp1
  refine l_aload_n (pc := 640) (x := 156) dL_law_640 rfl ?_
  refine l_aload_n (pc := 641) (x := 5000) dL_law_641 rfl ?_
  refine l_iload_n (pc := 642) (x := nI i) dL_law_642 rfl ?_
  refine l_iconst (pc := 643) (v := nI 1) dL_law_643 rfl ?_
  refine l_iadd (pc := 644) dL_law_644 ?_
  rw [nI_add]
  refine l_sld (pc := 645) dL_law_645 (vp_in_nI (by omega) (by omega)) ?_
  rw [nI_clamp (show i + 1 < 2 ^ 31 by omega)]
  refine l_if_eq (pc := 646) (tgt := 653) dL_law_646 (by decide) (fun _ => ?_) (fun z_ => absurd hb1 z_)
  refine l_iconst (pc := 653) (v := (0 : Int32)) dL_law_653 (by decide) ?_
  refine l_aload_n (pc := 654) (x := 5000) dL_law_654 rfl ?_
  refine l_iload_n (pc := 655) (x := nI i) dL_law_655 rfl ?_
  refine l_iconst (pc := 656) (v := nI 2) dL_law_656 rfl ?_
  refine l_iadd (pc := 657) dL_law_657 ?_
  rw [nI_add]
  refine l_sld (pc := 658) dL_law_658 (vp_in_nI (by omega) (by omega)) ?_
  rw [nI_clamp (show i + 2 < 2 ^ 31 by omega)]
  refine l_call (pc := 659) (as := [.int (0 : Int32), .int (xs (i + 2))]) dL_law_659 cl_79 (by decide) rfl rfl sh_156 (Nat.le_of_ble_eq_true rfl) hkc hks hP2 ?_
  intro r2 m2 hz2 hp2
  obtain ⟨rfl, hR2⟩ := hk2 _ _ hp2
  refine l_icmp_eq (pc := 662) (tgt := 1533) dL_law_662 (by decide) (fun _ => ?_) (fun z_ => absurd rfl z_)
  exact hk m2 hR2
theorem lc_15 (Ln : Nat) (xs : Nat → Int32) (kc ks i : Nat) (hkc : kc ≤ 600000) (hks : ks ≤ 7302250) (hi : i + 7 ≤ Ln) (hL : Ln ≤ 3584) (RR : MM → Prop) (mm : MM) (hR : RR mm) (hstep : StepOK RR e_X11_law e_X12_law [.int (xs (i + 1))]) (hk : ∀ m2, RR m2 → GL Ln xs kc ks 1533 [(0, .ref 5000), (1, .ref 0), (2, .ref 156), (3, .int (nI i))] [] m2) : GL Ln xs kc ks 667 [(0, .ref 5000), (1, .ref 0), (2, .ref 156), (3, .int (nI i))] [] mm := by
  refine l_aload_n (pc := 667) (x := 0) dL_law_667 rfl ?_
  refine l_aload_n (pc := 668) (x := 5000) dL_law_668 rfl ?_
  refine l_iload_n (pc := 669) (x := nI i) dL_law_669 rfl ?_
  refine l_iconst (pc := 670) (v := nI 1) dL_law_670 rfl ?_
  refine l_iadd (pc := 671) dL_law_671 ?_
  rw [nI_add]
  refine l_sld (pc := 672) dL_law_672 (vp_in_nI (by omega) (by omega)) ?_
  rw [nI_clamp (show i + 1 < 2 ^ 31 by omega)]
  obtain ⟨P1, hP1, hk1⟩ := hstep mm hR
  refine l_call (pc := 673) (as := [.int (xs (i + 1))]) dL_law_673 cl_80 (by decide) rfl rfl sh_0 (Nat.le_of_ble_eq_true rfl) hkc hks hP1 ?_
  intro r1 m1 hz1 hp1
  obtain ⟨v1, rfl⟩ := hz1
  obtain ⟨P2, hP2, hk2⟩ := hk1 _ _ hp1
  refine l_aload_n (pc := 676) (x := 156) dL_law_676 rfl ?_
  refine l_aload_n (pc := 677) (x := 5000) dL_law_677 rfl ?_
  refine l_iload_n (pc := 678) (x := nI i) dL_law_678 rfl ?_
  refine l_iconst (pc := 679) (v := nI 1) dL_law_679 rfl ?_
  refine l_iadd (pc := 680) dL_law_680 ?_
  rw [nI_add]
  refine l_sld (pc := 681) dL_law_681 (vp_in_nI (by omega) (by omega)) ?_
  rw [nI_clamp (show i + 1 < 2 ^ 31 by omega)]
  refine l_call (pc := 682) (as := [.int (xs (i + 1))]) dL_law_682 cl_83 (by decide) rfl rfl sh_156 (Nat.le_of_ble_eq_true rfl) hkc hks hP2 ?_
  intro r2 m2 hz2 hp2
  obtain ⟨rfl, hR2⟩ := hk2 _ _ hp2
  refine l_icmp_eq (pc := 685) (tgt := 1533) dL_law_685 (by decide) (fun _ => ?_) (fun z_ => absurd rfl z_)
  exact hk m2 hR2
theorem lc_16 (Ln : Nat) (xs : Nat → Int32) (kc ks i : Nat) (hkc : kc ≤ 600000) (hks : ks ≤ 7302250) (hi : i + 7 ≤ Ln) (hL : Ln ≤ 3584) (RR : MM → Prop) (mm : MM) (hR : RR mm) (hstep : StepOK RR e_X11_wood e_X12_wood [.int (xs (i + 1))]) (hk : ∀ m2, RR m2 → GL Ln xs kc ks 1533 [(0, .ref 5000), (1, .ref 0), (2, .ref 156), (3, .int (nI i))] [] m2) : GL Ln xs kc ks 690 [(0, .ref 5000), (1, .ref 0), (2, .ref 156), (3, .int (nI i))] [] mm := by
  refine l_aload_n (pc := 690) (x := 0) dL_law_690 rfl ?_
  refine l_aload_n (pc := 691) (x := 5000) dL_law_691 rfl ?_
  refine l_iload_n (pc := 692) (x := nI i) dL_law_692 rfl ?_
  refine l_iconst (pc := 693) (v := nI 1) dL_law_693 rfl ?_
  refine l_iadd (pc := 694) dL_law_694 ?_
  rw [nI_add]
  refine l_sld (pc := 695) dL_law_695 (vp_in_nI (by omega) (by omega)) ?_
  rw [nI_clamp (show i + 1 < 2 ^ 31 by omega)]
  obtain ⟨P1, hP1, hk1⟩ := hstep mm hR
  refine l_call (pc := 696) (as := [.int (xs (i + 1))]) dL_law_696 cl_84 (by decide) rfl rfl sh_0 (Nat.le_of_ble_eq_true rfl) hkc hks hP1 ?_
  intro r1 m1 hz1 hp1
  obtain ⟨v1, rfl⟩ := hz1
  obtain ⟨P2, hP2, hk2⟩ := hk1 _ _ hp1
  refine l_aload_n (pc := 699) (x := 156) dL_law_699 rfl ?_
  refine l_aload_n (pc := 700) (x := 5000) dL_law_700 rfl ?_
  refine l_iload_n (pc := 701) (x := nI i) dL_law_701 rfl ?_
  refine l_iconst (pc := 702) (v := nI 1) dL_law_702 rfl ?_
  refine l_iadd (pc := 703) dL_law_703 ?_
  rw [nI_add]
  refine l_sld (pc := 704) dL_law_704 (vp_in_nI (by omega) (by omega)) ?_
  rw [nI_clamp (show i + 1 < 2 ^ 31 by omega)]
  refine l_call (pc := 705) (as := [.int (xs (i + 1))]) dL_law_705 cl_87 (by decide) rfl rfl sh_156 (Nat.le_of_ble_eq_true rfl) hkc hks hP2 ?_
  intro r2 m2 hz2 hp2
  obtain ⟨rfl, hR2⟩ := hk2 _ _ hp2
  refine l_icmp_eq (pc := 708) (tgt := 1533) dL_law_708 (by decide) (fun _ => ?_) (fun z_ => absurd rfl z_)
  exact hk m2 hR2
theorem lc_17 (Ln : Nat) (xs : Nat → Int32) (kc ks i : Nat) (hkc : kc ≤ 600000) (hks : ks ≤ 7302250) (hi : i + 7 ≤ Ln) (hL : Ln ≤ 3584) (RR : MM → Prop) (mm : MM) (hR : RR mm) (hstep : StepOK RR e_X11_jack e_X12_jack [.int (xs (i + 1)), .int (xs (i + 2))]) (hk : ∀ m2, RR m2 → GL Ln xs kc ks 1533 [(0, .ref 5000), (1, .ref 0), (2, .ref 156), (3, .int (nI i))] [] m2) : GL Ln xs kc ks 713 [(0, .ref 5000), (1, .ref 0), (2, .ref 156), (3, .int (nI i))] [] mm := by
  refine l_aload_n (pc := 713) (x := 0) dL_law_713 rfl ?_
  refine l_aload_n (pc := 714) (x := 5000) dL_law_714 rfl ?_
  refine l_iload_n (pc := 715) (x := nI i) dL_law_715 rfl ?_
  refine l_iconst (pc := 716) (v := nI 1) dL_law_716 rfl ?_
  refine l_iadd (pc := 717) dL_law_717 ?_
  rw [nI_add]
  refine l_sld (pc := 718) dL_law_718 (vp_in_nI (by omega) (by omega)) ?_
  rw [nI_clamp (show i + 1 < 2 ^ 31 by omega)]
  refine l_aload_n (pc := 719) (x := 5000) dL_law_719 rfl ?_
  refine l_iload_n (pc := 720) (x := nI i) dL_law_720 rfl ?_
  refine l_iconst (pc := 721) (v := nI 2) dL_law_721 rfl ?_
  refine l_iadd (pc := 722) dL_law_722 ?_
  rw [nI_add]
  refine l_sld (pc := 723) dL_law_723 (vp_in_nI (by omega) (by omega)) ?_
  rw [nI_clamp (show i + 2 < 2 ^ 31 by omega)]
  obtain ⟨P1, hP1, hk1⟩ := hstep mm hR
  refine l_call (pc := 724) (as := [.int (xs (i + 1)), .int (xs (i + 2))]) dL_law_724 cl_88 (by decide) rfl rfl sh_0 (Nat.le_of_ble_eq_true rfl) hkc hks hP1 ?_
  intro r1 m1 hz1 hp1
  obtain ⟨v1, rfl⟩ := hz1
  obtain ⟨P2, hP2, hk2⟩ := hk1 _ _ hp1
  refine l_aload_n (pc := 727) (x := 156) dL_law_727 rfl ?_
  refine l_aload_n (pc := 728) (x := 5000) dL_law_728 rfl ?_
  refine l_iload_n (pc := 729) (x := nI i) dL_law_729 rfl ?_
  refine l_iconst (pc := 730) (v := nI 1) dL_law_730 rfl ?_
  refine l_iadd (pc := 731) dL_law_731 ?_
  rw [nI_add]
  refine l_sld (pc := 732) dL_law_732 (vp_in_nI (by omega) (by omega)) ?_
  rw [nI_clamp (show i + 1 < 2 ^ 31 by omega)]
  refine l_aload_n (pc := 733) (x := 5000) dL_law_733 rfl ?_
  refine l_iload_n (pc := 734) (x := nI i) dL_law_734 rfl ?_
  refine l_iconst (pc := 735) (v := nI 2) dL_law_735 rfl ?_
  refine l_iadd (pc := 736) dL_law_736 ?_
  rw [nI_add]
  refine l_sld (pc := 737) dL_law_737 (vp_in_nI (by omega) (by omega)) ?_
  rw [nI_clamp (show i + 2 < 2 ^ 31 by omega)]
  refine l_call (pc := 738) (as := [.int (xs (i + 1)), .int (xs (i + 2))]) dL_law_738 cl_91 (by decide) rfl rfl sh_156 (Nat.le_of_ble_eq_true rfl) hkc hks hP2 ?_
  intro r2 m2 hz2 hp2
  obtain ⟨rfl, hR2⟩ := hk2 _ _ hp2
  refine l_icmp_eq (pc := 741) (tgt := 1533) dL_law_741 (by decide) (fun _ => ?_) (fun z_ => absurd rfl z_)
  exact hk m2 hR2
theorem lc_18 (Ln : Nat) (xs : Nat → Int32) (kc ks i : Nat) (hkc : kc ≤ 600000) (hks : ks ≤ 7302250) (hi : i + 7 ≤ Ln) (hL : Ln ≤ 3584) (RR : MM → Prop) (mm : MM) (hR : RR mm) (hstep : StepOK RR e_X11_work e_X12_work [.int (xs (i + 1)), .int (xs (i + 2)), .int (xs (i + 3))]) (hk : ∀ m2, RR m2 → GL Ln xs kc ks 1533 [(0, .ref 5000), (1, .ref 0), (2, .ref 156), (3, .int (nI i))] [] m2) : GL Ln xs kc ks 746 [(0, .ref 5000), (1, .ref 0), (2, .ref 156), (3, .int (nI i))] [] mm := by
  refine l_aload_n (pc := 746) (x := 0) dL_law_746 rfl ?_
  refine l_aload_n (pc := 747) (x := 5000) dL_law_747 rfl ?_
  refine l_iload_n (pc := 748) (x := nI i) dL_law_748 rfl ?_
  refine l_iconst (pc := 749) (v := nI 1) dL_law_749 rfl ?_
  refine l_iadd (pc := 750) dL_law_750 ?_
  rw [nI_add]
  refine l_sld (pc := 751) dL_law_751 (vp_in_nI (by omega) (by omega)) ?_
  rw [nI_clamp (show i + 1 < 2 ^ 31 by omega)]
  refine l_aload_n (pc := 752) (x := 5000) dL_law_752 rfl ?_
  refine l_iload_n (pc := 753) (x := nI i) dL_law_753 rfl ?_
  refine l_iconst (pc := 754) (v := nI 2) dL_law_754 rfl ?_
  refine l_iadd (pc := 755) dL_law_755 ?_
  rw [nI_add]
  refine l_sld (pc := 756) dL_law_756 (vp_in_nI (by omega) (by omega)) ?_
  rw [nI_clamp (show i + 2 < 2 ^ 31 by omega)]
  refine l_aload_n (pc := 757) (x := 5000) dL_law_757 rfl ?_
  refine l_iload_n (pc := 758) (x := nI i) dL_law_758 rfl ?_
  refine l_iconst (pc := 759) (v := nI 3) dL_law_759 rfl ?_
  refine l_iadd (pc := 760) dL_law_760 ?_
  rw [nI_add]
  refine l_sld (pc := 761) dL_law_761 (vp_in_nI (by omega) (by omega)) ?_
  rw [nI_clamp (show i + 3 < 2 ^ 31 by omega)]
  obtain ⟨P1, hP1, hk1⟩ := hstep mm hR
  refine l_call (pc := 762) (as := [.int (xs (i + 1)), .int (xs (i + 2)), .int (xs (i + 3))]) dL_law_762 cl_92 (by decide) rfl rfl sh_0 (Nat.le_of_ble_eq_true rfl) hkc hks hP1 ?_
  intro r1 m1 hz1 hp1
  obtain ⟨v1, rfl⟩ := hz1
  obtain ⟨P2, hP2, hk2⟩ := hk1 _ _ hp1
  refine l_aload_n (pc := 765) (x := 156) dL_law_765 rfl ?_
  refine l_aload_n (pc := 766) (x := 5000) dL_law_766 rfl ?_
  refine l_iload_n (pc := 767) (x := nI i) dL_law_767 rfl ?_
  refine l_iconst (pc := 768) (v := nI 1) dL_law_768 rfl ?_
  refine l_iadd (pc := 769) dL_law_769 ?_
  rw [nI_add]
  refine l_sld (pc := 770) dL_law_770 (vp_in_nI (by omega) (by omega)) ?_
  rw [nI_clamp (show i + 1 < 2 ^ 31 by omega)]
  refine l_aload_n (pc := 771) (x := 5000) dL_law_771 rfl ?_
  refine l_iload_n (pc := 772) (x := nI i) dL_law_772 rfl ?_
  refine l_iconst (pc := 773) (v := nI 2) dL_law_773 rfl ?_
  refine l_iadd (pc := 774) dL_law_774 ?_
  rw [nI_add]
  refine l_sld (pc := 775) dL_law_775 (vp_in_nI (by omega) (by omega)) ?_
  rw [nI_clamp (show i + 2 < 2 ^ 31 by omega)]
  refine l_aload_n (pc := 776) (x := 5000) dL_law_776 rfl ?_
  refine l_iload_n (pc := 777) (x := nI i) dL_law_777 rfl ?_
  refine l_iconst (pc := 778) (v := nI 3) dL_law_778 rfl ?_
  refine l_iadd (pc := 779) dL_law_779 ?_
  rw [nI_add]
  refine l_sld (pc := 780) dL_law_780 (vp_in_nI (by omega) (by omega)) ?_
  rw [nI_clamp (show i + 3 < 2 ^ 31 by omega)]
  refine l_call (pc := 781) (as := [.int (xs (i + 1)), .int (xs (i + 2)), .int (xs (i + 3))]) dL_law_781 cl_96 (by decide) rfl rfl sh_156 (Nat.le_of_ble_eq_true rfl) hkc hks hP2 ?_
  intro r2 m2 hz2 hp2
  obtain ⟨rfl, hR2⟩ := hk2 _ _ hp2
  refine l_icmp_eq (pc := 784) (tgt := 1533) dL_law_784 (by decide) (fun _ => ?_) (fun z_ => absurd rfl z_)
  exact hk m2 hR2
theorem lc_19 (Ln : Nat) (xs : Nat → Int32) (kc ks i : Nat) (hkc : kc ≤ 600000) (hks : ks ≤ 7302250) (hi : i + 7 ≤ Ln) (hL : Ln ≤ 3584) (RR : MM → Prop) (mm : MM) (hR : RR mm) (hstep : StepOK RR e_X11_forget e_X12_forget []) (hk : ∀ m2, RR m2 → GL Ln xs kc ks 1533 [(0, .ref 5000), (1, .ref 0), (2, .ref 156), (3, .int (nI i))] [] m2) : GL Ln xs kc ks 789 [(0, .ref 5000), (1, .ref 0), (2, .ref 156), (3, .int (nI i))] [] mm := by
  refine l_aload_n (pc := 789) (x := 0) dL_law_789 rfl ?_
  obtain ⟨P1, hP1, hk1⟩ := hstep mm hR
  refine l_call (pc := 790) (as := []) dL_law_790 cl_97 (by decide) rfl rfl sh_0 (Nat.le_of_ble_eq_true rfl) hkc hks hP1 ?_
  intro r1 m1 hz1 hp1
  obtain ⟨v1, rfl⟩ := hz1
  obtain ⟨P2, hP2, hk2⟩ := hk1 _ _ hp1
  refine l_aload_n (pc := 793) (x := 156) dL_law_793 rfl ?_
  refine l_call (pc := 794) (as := []) dL_law_794 cl_100 (by decide) rfl rfl sh_156 (Nat.le_of_ble_eq_true rfl) hkc hks hP2 ?_
  intro r2 m2 hz2 hp2
  obtain ⟨rfl, hR2⟩ := hk2 _ _ hp2
  refine l_icmp_eq (pc := 797) (tgt := 1533) dL_law_797 (by decide) (fun _ => ?_) (fun z_ => absurd rfl z_)
  exact hk m2 hR2
theorem lc_20 (Ln : Nat) (xs : Nat → Int32) (kc ks i : Nat) (hkc : kc ≤ 600000) (hks : ks ≤ 7302250) (hi : i + 7 ≤ Ln) (hL : Ln ≤ 3584) (RR : MM → Prop) (mm : MM) (hR : RR mm) (hstep : StepOK RR e_X11_judge e_X12_judge []) (hk : ∀ m2, RR m2 → GL Ln xs kc ks 1533 [(0, .ref 5000), (1, .ref 0), (2, .ref 156), (3, .int (nI i))] [] m2) : GL Ln xs kc ks 802 [(0, .ref 5000), (1, .ref 0), (2, .ref 156), (3, .int (nI i))] [] mm := by
  refine l_aload_n (pc := 802) (x := 0) dL_law_802 rfl ?_
  obtain ⟨P1, hP1, hk1⟩ := hstep mm hR
  refine l_call (pc := 803) (as := []) dL_law_803 cl_101 (by decide) rfl rfl sh_0 (Nat.le_of_ble_eq_true rfl) hkc hks hP1 ?_
  intro r1 m1 hz1 hp1
  obtain ⟨v1, rfl⟩ := hz1
  obtain ⟨P2, hP2, hk2⟩ := hk1 _ _ hp1
  refine l_aload_n (pc := 806) (x := 156) dL_law_806 rfl ?_
  refine l_call (pc := 807) (as := []) dL_law_807 cl_104 (by decide) rfl rfl sh_156 (Nat.le_of_ble_eq_true rfl) hkc hks hP2 ?_
  intro r2 m2 hz2 hp2
  obtain ⟨rfl, hR2⟩ := hk2 _ _ hp2
  refine l_icmp_eq (pc := 810) (tgt := 1533) dL_law_810 (by decide) (fun _ => ?_) (fun z_ => absurd rfl z_)
  exact hk m2 hR2
theorem lc_21 (Ln : Nat) (xs : Nat → Int32) (kc ks i : Nat) (hkc : kc ≤ 600000) (hks : ks ≤ 7302250) (hi : i + 7 ≤ Ln) (hL : Ln ≤ 3584) (RR : MM → Prop) (mm : MM) (hR : RR mm) (hstep : StepOK RR e_X11_done e_X12_done []) (hk : ∀ m2, RR m2 → GL Ln xs kc ks 1533 [(0, .ref 5000), (1, .ref 0), (2, .ref 156), (3, .int (nI i))] [] m2) : GL Ln xs kc ks 815 [(0, .ref 5000), (1, .ref 0), (2, .ref 156), (3, .int (nI i))] [] mm := by
  refine l_aload_n (pc := 815) (x := 0) dL_law_815 rfl ?_
  obtain ⟨P1, hP1, hk1⟩ := hstep mm hR
  refine l_call (pc := 816) (as := []) dL_law_816 cl_105 (by decide) rfl rfl sh_0 (Nat.le_of_ble_eq_true rfl) hkc hks hP1 ?_
  intro r1 m1 hz1 hp1
  obtain ⟨v1, rfl⟩ := hz1
  obtain ⟨P2, hP2, hk2⟩ := hk1 _ _ hp1
  refine l_aload_n (pc := 819) (x := 156) dL_law_819 rfl ?_
  refine l_call (pc := 820) (as := []) dL_law_820 cl_108 (by decide) rfl rfl sh_156 (Nat.le_of_ble_eq_true rfl) hkc hks hP2 ?_
  intro r2 m2 hz2 hp2
  obtain ⟨rfl, hR2⟩ := hk2 _ _ hp2
  refine l_icmp_eq (pc := 823) (tgt := 1533) dL_law_823 (by decide) (fun _ => ?_) (fun z_ => absurd rfl z_)
  exact hk m2 hR2
theorem lc_22 (Ln : Nat) (xs : Nat → Int32) (kc ks i : Nat) (hkc : kc ≤ 600000) (hks : ks ≤ 7302250) (hi : i + 7 ≤ Ln) (hL : Ln ≤ 3584) (RR : MM → Prop) (mm : MM) (hR : RR mm) (hstep : StepOK RR e_X11_undo e_X12_undo []) (hk : ∀ m2, RR m2 → GL Ln xs kc ks 1533 [(0, .ref 5000), (1, .ref 0), (2, .ref 156), (3, .int (nI i))] [] m2) : GL Ln xs kc ks 828 [(0, .ref 5000), (1, .ref 0), (2, .ref 156), (3, .int (nI i))] [] mm := by
  refine l_aload_n (pc := 828) (x := 0) dL_law_828 rfl ?_
  obtain ⟨P1, hP1, hk1⟩ := hstep mm hR
  refine l_call (pc := 829) (as := []) dL_law_829 cl_109 (by decide) rfl rfl sh_0 (Nat.le_of_ble_eq_true rfl) hkc hks hP1 ?_
  intro r1 m1 hz1 hp1
  obtain ⟨v1, rfl⟩ := hz1
  obtain ⟨P2, hP2, hk2⟩ := hk1 _ _ hp1
  refine l_aload_n (pc := 832) (x := 156) dL_law_832 rfl ?_
  refine l_call (pc := 833) (as := []) dL_law_833 cl_113 (by decide) rfl rfl sh_156 (Nat.le_of_ble_eq_true rfl) hkc hks hP2 ?_
  intro r2 m2 hz2 hp2
  obtain ⟨rfl, hR2⟩ := hk2 _ _ hp2
  refine l_icmp_eq (pc := 836) (tgt := 1533) dL_law_836 (by decide) (fun _ => ?_) (fun z_ => absurd rfl z_)
  exact hk m2 hR2
theorem lc_23 (Ln : Nat) (xs : Nat → Int32) (kc ks i : Nat) (hkc : kc ≤ 600000) (hks : ks ≤ 7302250) (hi : i + 7 ≤ Ln) (hL : Ln ≤ 3584) (RR : MM → Prop) (mm : MM) (hR : RR mm) (hstep : StepOK RR e_X11_nights e_X12_nights [.int (xs (i + 1))]) (hk : ∀ m2, RR m2 → GL Ln xs kc ks 1533 [(0, .ref 5000), (1, .ref 0), (2, .ref 156), (3, .int (nI i))] [] m2) : GL Ln xs kc ks 841 [(0, .ref 5000), (1, .ref 0), (2, .ref 156), (3, .int (nI i))] [] mm := by
  refine l_aload_n (pc := 841) (x := 0) dL_law_841 rfl ?_
  refine l_aload_n (pc := 842) (x := 5000) dL_law_842 rfl ?_
  refine l_iload_n (pc := 843) (x := nI i) dL_law_843 rfl ?_
  refine l_iconst (pc := 844) (v := nI 1) dL_law_844 rfl ?_
  refine l_iadd (pc := 845) dL_law_845 ?_
  rw [nI_add]
  refine l_sld (pc := 846) dL_law_846 (vp_in_nI (by omega) (by omega)) ?_
  rw [nI_clamp (show i + 1 < 2 ^ 31 by omega)]
  obtain ⟨P1, hP1, hk1⟩ := hstep mm hR
  refine l_call (pc := 847) (as := [.int (xs (i + 1))]) dL_law_847 cl_114 (by decide) rfl rfl sh_0 (Nat.le_of_ble_eq_true rfl) hkc hks hP1 ?_
  intro r1 m1 hz1 hp1
  obtain ⟨v1, rfl⟩ := hz1
  obtain ⟨P2, hP2, hk2⟩ := hk1 _ _ hp1
  refine l_aload_n (pc := 850) (x := 156) dL_law_850 rfl ?_
  refine l_aload_n (pc := 851) (x := 5000) dL_law_851 rfl ?_
  refine l_iload_n (pc := 852) (x := nI i) dL_law_852 rfl ?_
  refine l_iconst (pc := 853) (v := nI 1) dL_law_853 rfl ?_
  refine l_iadd (pc := 854) dL_law_854 ?_
  rw [nI_add]
  refine l_sld (pc := 855) dL_law_855 (vp_in_nI (by omega) (by omega)) ?_
  rw [nI_clamp (show i + 1 < 2 ^ 31 by omega)]
  refine l_call (pc := 856) (as := [.int (xs (i + 1))]) dL_law_856 cl_117 (by decide) rfl rfl sh_156 (Nat.le_of_ble_eq_true rfl) hkc hks hP2 ?_
  intro r2 m2 hz2 hp2
  obtain ⟨rfl, hR2⟩ := hk2 _ _ hp2
  refine l_icmp_eq (pc := 859) (tgt := 1533) dL_law_859 (by decide) (fun _ => ?_) (fun z_ => absurd rfl z_)
  exact hk m2 hR2
theorem lc_24 (Ln : Nat) (xs : Nat → Int32) (kc ks i : Nat) (hkc : kc ≤ 600000) (hks : ks ≤ 7302250) (hi : i + 7 ≤ Ln) (hL : Ln ≤ 3584) (RR : MM → Prop) (mm : MM) (hR : RR mm) (hstep : StepOK RR e_X11_looks e_X12_looks [.int (xs (i + 1)), .int (xs (i + 2))]) (hk : ∀ m2, RR m2 → GL Ln xs kc ks 1533 [(0, .ref 5000), (1, .ref 0), (2, .ref 156), (3, .int (nI i))] [] m2) : GL Ln xs kc ks 864 [(0, .ref 5000), (1, .ref 0), (2, .ref 156), (3, .int (nI i))] [] mm := by
  refine l_aload_n (pc := 864) (x := 0) dL_law_864 rfl ?_
  refine l_aload_n (pc := 865) (x := 5000) dL_law_865 rfl ?_
  refine l_iload_n (pc := 866) (x := nI i) dL_law_866 rfl ?_
  refine l_iconst (pc := 867) (v := nI 1) dL_law_867 rfl ?_
  refine l_iadd (pc := 868) dL_law_868 ?_
  rw [nI_add]
  refine l_sld (pc := 869) dL_law_869 (vp_in_nI (by omega) (by omega)) ?_
  rw [nI_clamp (show i + 1 < 2 ^ 31 by omega)]
  refine l_aload_n (pc := 870) (x := 5000) dL_law_870 rfl ?_
  refine l_iload_n (pc := 871) (x := nI i) dL_law_871 rfl ?_
  refine l_iconst (pc := 872) (v := nI 2) dL_law_872 rfl ?_
  refine l_iadd (pc := 873) dL_law_873 ?_
  rw [nI_add]
  refine l_sld (pc := 874) dL_law_874 (vp_in_nI (by omega) (by omega)) ?_
  rw [nI_clamp (show i + 2 < 2 ^ 31 by omega)]
  obtain ⟨P1, hP1, hk1⟩ := hstep mm hR
  refine l_call (pc := 875) (as := [.int (xs (i + 1)), .int (xs (i + 2))]) dL_law_875 cl_118 (by decide) rfl rfl sh_0 (Nat.le_of_ble_eq_true rfl) hkc hks hP1 ?_
  intro r1 m1 hz1 hp1
  obtain ⟨v1, rfl⟩ := hz1
  obtain ⟨P2, hP2, hk2⟩ := hk1 _ _ hp1
  refine l_aload_n (pc := 878) (x := 156) dL_law_878 rfl ?_
  refine l_aload_n (pc := 879) (x := 5000) dL_law_879 rfl ?_
  refine l_iload_n (pc := 880) (x := nI i) dL_law_880 rfl ?_
  refine l_iconst (pc := 881) (v := nI 1) dL_law_881 rfl ?_
  refine l_iadd (pc := 882) dL_law_882 ?_
  rw [nI_add]
  refine l_sld (pc := 883) dL_law_883 (vp_in_nI (by omega) (by omega)) ?_
  rw [nI_clamp (show i + 1 < 2 ^ 31 by omega)]
  refine l_aload_n (pc := 884) (x := 5000) dL_law_884 rfl ?_
  refine l_iload_n (pc := 885) (x := nI i) dL_law_885 rfl ?_
  refine l_iconst (pc := 886) (v := nI 2) dL_law_886 rfl ?_
  refine l_iadd (pc := 887) dL_law_887 ?_
  rw [nI_add]
  refine l_sld (pc := 888) dL_law_888 (vp_in_nI (by omega) (by omega)) ?_
  rw [nI_clamp (show i + 2 < 2 ^ 31 by omega)]
  refine l_call (pc := 889) (as := [.int (xs (i + 1)), .int (xs (i + 2))]) dL_law_889 cl_121 (by decide) rfl rfl sh_156 (Nat.le_of_ble_eq_true rfl) hkc hks hP2 ?_
  intro r2 m2 hz2 hp2
  obtain ⟨rfl, hR2⟩ := hk2 _ _ hp2
  refine l_icmp_eq (pc := 892) (tgt := 1533) dL_law_892 (by decide) (fun _ => ?_) (fun z_ => absurd rfl z_)
  exact hk m2 hR2
theorem lc_25 (Ln : Nat) (xs : Nat → Int32) (kc ks i : Nat) (hkc : kc ≤ 600000) (hks : ks ≤ 7302250) (hi : i + 7 ≤ Ln) (hL : Ln ≤ 3584) (RR : MM → Prop) (mm : MM) (hR : RR mm) (hstep : StepOK RR e_X11_light e_X12_light [.int (xs (i + 1))]) (hk : ∀ m2, RR m2 → GL Ln xs kc ks 1533 [(0, .ref 5000), (1, .ref 0), (2, .ref 156), (3, .int (nI i))] [] m2) : GL Ln xs kc ks 897 [(0, .ref 5000), (1, .ref 0), (2, .ref 156), (3, .int (nI i))] [] mm := by
  refine l_aload_n (pc := 897) (x := 0) dL_law_897 rfl ?_
  refine l_aload_n (pc := 898) (x := 5000) dL_law_898 rfl ?_
  refine l_iload_n (pc := 899) (x := nI i) dL_law_899 rfl ?_
  refine l_iconst (pc := 900) (v := nI 1) dL_law_900 rfl ?_
  refine l_iadd (pc := 901) dL_law_901 ?_
  rw [nI_add]
  refine l_sld (pc := 902) dL_law_902 (vp_in_nI (by omega) (by omega)) ?_
  rw [nI_clamp (show i + 1 < 2 ^ 31 by omega)]
  obtain ⟨P1, hP1, hk1⟩ := hstep mm hR
  refine l_call (pc := 903) (as := [.int (xs (i + 1))]) dL_law_903 cl_122 (by decide) rfl rfl sh_0 (Nat.le_of_ble_eq_true rfl) hkc hks hP1 ?_
  intro r1 m1 hz1 hp1
  obtain ⟨v1, rfl⟩ := hz1
  obtain ⟨P2, hP2, hk2⟩ := hk1 _ _ hp1
  refine l_aload_n (pc := 906) (x := 156) dL_law_906 rfl ?_
  refine l_aload_n (pc := 907) (x := 5000) dL_law_907 rfl ?_
  refine l_iload_n (pc := 908) (x := nI i) dL_law_908 rfl ?_
  refine l_iconst (pc := 909) (v := nI 1) dL_law_909 rfl ?_
  refine l_iadd (pc := 910) dL_law_910 ?_
  rw [nI_add]
  refine l_sld (pc := 911) dL_law_911 (vp_in_nI (by omega) (by omega)) ?_
  rw [nI_clamp (show i + 1 < 2 ^ 31 by omega)]
  refine l_call (pc := 912) (as := [.int (xs (i + 1))]) dL_law_912 cl_125 (by decide) rfl rfl sh_156 (Nat.le_of_ble_eq_true rfl) hkc hks hP2 ?_
  intro r2 m2 hz2 hp2
  obtain ⟨rfl, hR2⟩ := hk2 _ _ hp2
  refine l_icmp_eq (pc := 915) (tgt := 1533) dL_law_915 (by decide) (fun _ => ?_) (fun z_ => absurd rfl z_)
  exact hk m2 hR2
theorem lc_26 (Ln : Nat) (xs : Nat → Int32) (kc ks i : Nat) (hkc : kc ≤ 600000) (hks : ks ≤ 7302250) (hi : i + 7 ≤ Ln) (hL : Ln ≤ 3584) (RR : MM → Prop) (mm : MM) (hR : RR mm) (hstep : StepOK RR e_X11_sway e_X12_sway [.int (xs (i + 1)), .int (xs (i + 2))]) (hk : ∀ m2, RR m2 → GL Ln xs kc ks 1533 [(0, .ref 5000), (1, .ref 0), (2, .ref 156), (3, .int (nI i))] [] m2) : GL Ln xs kc ks 920 [(0, .ref 5000), (1, .ref 0), (2, .ref 156), (3, .int (nI i))] [] mm := by
  refine l_aload_n (pc := 920) (x := 0) dL_law_920 rfl ?_
  refine l_aload_n (pc := 921) (x := 5000) dL_law_921 rfl ?_
  refine l_iload_n (pc := 922) (x := nI i) dL_law_922 rfl ?_
  refine l_iconst (pc := 923) (v := nI 1) dL_law_923 rfl ?_
  refine l_iadd (pc := 924) dL_law_924 ?_
  rw [nI_add]
  refine l_sld (pc := 925) dL_law_925 (vp_in_nI (by omega) (by omega)) ?_
  rw [nI_clamp (show i + 1 < 2 ^ 31 by omega)]
  refine l_aload_n (pc := 926) (x := 5000) dL_law_926 rfl ?_
  refine l_iload_n (pc := 927) (x := nI i) dL_law_927 rfl ?_
  refine l_iconst (pc := 928) (v := nI 2) dL_law_928 rfl ?_
  refine l_iadd (pc := 929) dL_law_929 ?_
  rw [nI_add]
  refine l_sld (pc := 930) dL_law_930 (vp_in_nI (by omega) (by omega)) ?_
  rw [nI_clamp (show i + 2 < 2 ^ 31 by omega)]
  obtain ⟨P1, hP1, hk1⟩ := hstep mm hR
  refine l_call (pc := 931) (as := [.int (xs (i + 1)), .int (xs (i + 2))]) dL_law_931 cl_126 (by decide) rfl rfl sh_0 (Nat.le_of_ble_eq_true rfl) hkc hks hP1 ?_
  intro r1 m1 hz1 hp1
  obtain ⟨v1, rfl⟩ := hz1
  obtain ⟨P2, hP2, hk2⟩ := hk1 _ _ hp1
  refine l_aload_n (pc := 934) (x := 156) dL_law_934 rfl ?_
  refine l_aload_n (pc := 935) (x := 5000) dL_law_935 rfl ?_
  refine l_iload_n (pc := 936) (x := nI i) dL_law_936 rfl ?_
  refine l_iconst (pc := 937) (v := nI 1) dL_law_937 rfl ?_
  refine l_iadd (pc := 938) dL_law_938 ?_
  rw [nI_add]
  refine l_sld (pc := 939) dL_law_939 (vp_in_nI (by omega) (by omega)) ?_
  rw [nI_clamp (show i + 1 < 2 ^ 31 by omega)]
  refine l_aload_n (pc := 940) (x := 5000) dL_law_940 rfl ?_
  refine l_iload_n (pc := 941) (x := nI i) dL_law_941 rfl ?_
  refine l_iconst (pc := 942) (v := nI 2) dL_law_942 rfl ?_
  refine l_iadd (pc := 943) dL_law_943 ?_
  rw [nI_add]
  refine l_sld (pc := 944) dL_law_944 (vp_in_nI (by omega) (by omega)) ?_
  rw [nI_clamp (show i + 2 < 2 ^ 31 by omega)]
  refine l_call (pc := 945) (as := [.int (xs (i + 1)), .int (xs (i + 2))]) dL_law_945 cl_129 (by decide) rfl rfl sh_156 (Nat.le_of_ble_eq_true rfl) hkc hks hP2 ?_
  intro r2 m2 hz2 hp2
  obtain ⟨rfl, hR2⟩ := hk2 _ _ hp2
  refine l_icmp_eq (pc := 948) (tgt := 1533) dL_law_948 (by decide) (fun _ => ?_) (fun z_ => absurd rfl z_)
  exact hk m2 hR2
theorem lc_27 (Ln : Nat) (xs : Nat → Int32) (kc ks i : Nat) (hkc : kc ≤ 600000) (hks : ks ≤ 7302250) (hi : i + 7 ≤ Ln) (hL : Ln ≤ 3584) (RR : MM → Prop) (mm : MM) (hR : RR mm) (hstep : StepOK RR e_X11_chain e_X12_chain [.int (xs (i + 1)), .int (xs (i + 2)), .int (xs (i + 3))]) (hk : ∀ m2, RR m2 → GL Ln xs kc ks 1533 [(0, .ref 5000), (1, .ref 0), (2, .ref 156), (3, .int (nI i))] [] m2) : GL Ln xs kc ks 953 [(0, .ref 5000), (1, .ref 0), (2, .ref 156), (3, .int (nI i))] [] mm := by
  refine l_aload_n (pc := 953) (x := 0) dL_law_953 rfl ?_
  refine l_aload_n (pc := 954) (x := 5000) dL_law_954 rfl ?_
  refine l_iload_n (pc := 955) (x := nI i) dL_law_955 rfl ?_
  refine l_iconst (pc := 956) (v := nI 1) dL_law_956 rfl ?_
  refine l_iadd (pc := 957) dL_law_957 ?_
  rw [nI_add]
  refine l_sld (pc := 958) dL_law_958 (vp_in_nI (by omega) (by omega)) ?_
  rw [nI_clamp (show i + 1 < 2 ^ 31 by omega)]
  refine l_aload_n (pc := 959) (x := 5000) dL_law_959 rfl ?_
  refine l_iload_n (pc := 960) (x := nI i) dL_law_960 rfl ?_
  refine l_iconst (pc := 961) (v := nI 2) dL_law_961 rfl ?_
  refine l_iadd (pc := 962) dL_law_962 ?_
  rw [nI_add]
  refine l_sld (pc := 963) dL_law_963 (vp_in_nI (by omega) (by omega)) ?_
  rw [nI_clamp (show i + 2 < 2 ^ 31 by omega)]
  refine l_aload_n (pc := 964) (x := 5000) dL_law_964 rfl ?_
  refine l_iload_n (pc := 965) (x := nI i) dL_law_965 rfl ?_
  refine l_iconst (pc := 966) (v := nI 3) dL_law_966 rfl ?_
  refine l_iadd (pc := 967) dL_law_967 ?_
  rw [nI_add]
  refine l_sld (pc := 968) dL_law_968 (vp_in_nI (by omega) (by omega)) ?_
  rw [nI_clamp (show i + 3 < 2 ^ 31 by omega)]
  obtain ⟨P1, hP1, hk1⟩ := hstep mm hR
  refine l_call (pc := 969) (as := [.int (xs (i + 1)), .int (xs (i + 2)), .int (xs (i + 3))]) dL_law_969 cl_130 (by decide) rfl rfl sh_0 (Nat.le_of_ble_eq_true rfl) hkc hks hP1 ?_
  intro r1 m1 hz1 hp1
  obtain ⟨v1, rfl⟩ := hz1
  obtain ⟨P2, hP2, hk2⟩ := hk1 _ _ hp1
  refine l_aload_n (pc := 972) (x := 156) dL_law_972 rfl ?_
  refine l_aload_n (pc := 973) (x := 5000) dL_law_973 rfl ?_
  refine l_iload_n (pc := 974) (x := nI i) dL_law_974 rfl ?_
  refine l_iconst (pc := 975) (v := nI 1) dL_law_975 rfl ?_
  refine l_iadd (pc := 976) dL_law_976 ?_
  rw [nI_add]
  refine l_sld (pc := 977) dL_law_977 (vp_in_nI (by omega) (by omega)) ?_
  rw [nI_clamp (show i + 1 < 2 ^ 31 by omega)]
  refine l_aload_n (pc := 978) (x := 5000) dL_law_978 rfl ?_
  refine l_iload_n (pc := 979) (x := nI i) dL_law_979 rfl ?_
  refine l_iconst (pc := 980) (v := nI 2) dL_law_980 rfl ?_
  refine l_iadd (pc := 981) dL_law_981 ?_
  rw [nI_add]
  refine l_sld (pc := 982) dL_law_982 (vp_in_nI (by omega) (by omega)) ?_
  rw [nI_clamp (show i + 2 < 2 ^ 31 by omega)]
  refine l_aload_n (pc := 983) (x := 5000) dL_law_983 rfl ?_
  refine l_iload_n (pc := 984) (x := nI i) dL_law_984 rfl ?_
  refine l_iconst (pc := 985) (v := nI 3) dL_law_985 rfl ?_
  refine l_iadd (pc := 986) dL_law_986 ?_
  rw [nI_add]
  refine l_sld (pc := 987) dL_law_987 (vp_in_nI (by omega) (by omega)) ?_
  rw [nI_clamp (show i + 3 < 2 ^ 31 by omega)]
  refine l_call (pc := 988) (as := [.int (xs (i + 1)), .int (xs (i + 2)), .int (xs (i + 3))]) dL_law_988 cl_133 (by decide) rfl rfl sh_156 (Nat.le_of_ble_eq_true rfl) hkc hks hP2 ?_
  intro r2 m2 hz2 hp2
  obtain ⟨rfl, hR2⟩ := hk2 _ _ hp2
  refine l_icmp_eq (pc := 991) (tgt := 1533) dL_law_991 (by decide) (fun _ => ?_) (fun z_ => absurd rfl z_)
  exact hk m2 hR2
theorem lc_28 (Ln : Nat) (xs : Nat → Int32) (kc ks i : Nat) (hkc : kc ≤ 600000) (hks : ks ≤ 7302250) (hi : i + 7 ≤ Ln) (hL : Ln ≤ 3584) (RR : MM → Prop) (mm : MM) (hR : RR mm) (hstep : StepOK RR e_X11_dread e_X12_dread [.int (xs (i + 1))]) (hk : ∀ m2, RR m2 → GL Ln xs kc ks 1533 [(0, .ref 5000), (1, .ref 0), (2, .ref 156), (3, .int (nI i))] [] m2) : GL Ln xs kc ks 996 [(0, .ref 5000), (1, .ref 0), (2, .ref 156), (3, .int (nI i))] [] mm := by
  refine l_aload_n (pc := 996) (x := 0) dL_law_996 rfl ?_
  refine l_aload_n (pc := 997) (x := 5000) dL_law_997 rfl ?_
  refine l_iload_n (pc := 998) (x := nI i) dL_law_998 rfl ?_
  refine l_iconst (pc := 999) (v := nI 1) dL_law_999 rfl ?_
  refine l_iadd (pc := 1000) dL_law_1000 ?_
  rw [nI_add]
  refine l_sld (pc := 1001) dL_law_1001 (vp_in_nI (by omega) (by omega)) ?_
  rw [nI_clamp (show i + 1 < 2 ^ 31 by omega)]
  obtain ⟨P1, hP1, hk1⟩ := hstep mm hR
  refine l_call (pc := 1002) (as := [.int (xs (i + 1))]) dL_law_1002 cl_134 (by decide) rfl rfl sh_0 (Nat.le_of_ble_eq_true rfl) hkc hks hP1 ?_
  intro r1 m1 hz1 hp1
  obtain ⟨v1, rfl⟩ := hz1
  obtain ⟨P2, hP2, hk2⟩ := hk1 _ _ hp1
  refine l_aload_n (pc := 1005) (x := 156) dL_law_1005 rfl ?_
  refine l_aload_n (pc := 1006) (x := 5000) dL_law_1006 rfl ?_
  refine l_iload_n (pc := 1007) (x := nI i) dL_law_1007 rfl ?_
  refine l_iconst (pc := 1008) (v := nI 1) dL_law_1008 rfl ?_
  refine l_iadd (pc := 1009) dL_law_1009 ?_
  rw [nI_add]
  refine l_sld (pc := 1010) dL_law_1010 (vp_in_nI (by omega) (by omega)) ?_
  rw [nI_clamp (show i + 1 < 2 ^ 31 by omega)]
  refine l_call (pc := 1011) (as := [.int (xs (i + 1))]) dL_law_1011 cl_137 (by decide) rfl rfl sh_156 (Nat.le_of_ble_eq_true rfl) hkc hks hP2 ?_
  intro r2 m2 hz2 hp2
  obtain ⟨rfl, hR2⟩ := hk2 _ _ hp2
  refine l_icmp_eq (pc := 1014) (tgt := 1533) dL_law_1014 (by decide) (fun _ => ?_) (fun z_ => absurd rfl z_)
  exact hk m2 hR2
theorem lc_29 (Ln : Nat) (xs : Nat → Int32) (kc ks i : Nat) (hkc : kc ≤ 600000) (hks : ks ≤ 7302250) (hi : i + 7 ≤ Ln) (hL : Ln ≤ 3584) (RR : MM → Prop) (mm : MM) (hR : RR mm) (hstep : StepOK RR e_X11_year e_X12_year [.int (xs (i + 1))]) (hk : ∀ m2, RR m2 → GL Ln xs kc ks 1533 [(0, .ref 5000), (1, .ref 0), (2, .ref 156), (3, .int (nI i))] [] m2) : GL Ln xs kc ks 1019 [(0, .ref 5000), (1, .ref 0), (2, .ref 156), (3, .int (nI i))] [] mm := by
  refine l_aload_n (pc := 1019) (x := 0) dL_law_1019 rfl ?_
  refine l_aload_n (pc := 1020) (x := 5000) dL_law_1020 rfl ?_
  refine l_iload_n (pc := 1021) (x := nI i) dL_law_1021 rfl ?_
  refine l_iconst (pc := 1022) (v := nI 1) dL_law_1022 rfl ?_
  refine l_iadd (pc := 1023) dL_law_1023 ?_
  rw [nI_add]
  refine l_sld (pc := 1024) dL_law_1024 (vp_in_nI (by omega) (by omega)) ?_
  rw [nI_clamp (show i + 1 < 2 ^ 31 by omega)]
  obtain ⟨P1, hP1, hk1⟩ := hstep mm hR
  refine l_call (pc := 1025) (as := [.int (xs (i + 1))]) dL_law_1025 cl_138 (by decide) rfl rfl sh_0 (Nat.le_of_ble_eq_true rfl) hkc hks hP1 ?_
  intro r1 m1 hz1 hp1
  obtain ⟨v1, rfl⟩ := hz1
  obtain ⟨P2, hP2, hk2⟩ := hk1 _ _ hp1
  refine l_aload_n (pc := 1028) (x := 156) dL_law_1028 rfl ?_
  refine l_aload_n (pc := 1029) (x := 5000) dL_law_1029 rfl ?_
  refine l_iload_n (pc := 1030) (x := nI i) dL_law_1030 rfl ?_
  refine l_iconst (pc := 1031) (v := nI 1) dL_law_1031 rfl ?_
  refine l_iadd (pc := 1032) dL_law_1032 ?_
  rw [nI_add]
  refine l_sld (pc := 1033) dL_law_1033 (vp_in_nI (by omega) (by omega)) ?_
  rw [nI_clamp (show i + 1 < 2 ^ 31 by omega)]
  refine l_call (pc := 1034) (as := [.int (xs (i + 1))]) dL_law_1034 cl_141 (by decide) rfl rfl sh_156 (Nat.le_of_ble_eq_true rfl) hkc hks hP2 ?_
  intro r2 m2 hz2 hp2
  obtain ⟨rfl, hR2⟩ := hk2 _ _ hp2
  refine l_icmp_eq (pc := 1037) (tgt := 1533) dL_law_1037 (by decide) (fun _ => ?_) (fun z_ => absurd rfl z_)
  exact hk m2 hR2
theorem lc_30 (Ln : Nat) (xs : Nat → Int32) (kc ks i : Nat) (hkc : kc ≤ 600000) (hks : ks ≤ 7302250) (hi : i + 7 ≤ Ln) (hL : Ln ≤ 3584) (RR : MM → Prop) (mm : MM) (hR : RR mm) (hstep : StepOK RR e_X11_clear e_X12_clear []) (hk : ∀ m2, RR m2 → GL Ln xs kc ks 1533 [(0, .ref 5000), (1, .ref 0), (2, .ref 156), (3, .int (nI i))] [] m2) : GL Ln xs kc ks 1042 [(0, .ref 5000), (1, .ref 0), (2, .ref 156), (3, .int (nI i))] [] mm := by
  refine l_aload_n (pc := 1042) (x := 0) dL_law_1042 rfl ?_
  obtain ⟨P1, hP1, hk1⟩ := hstep mm hR
  refine l_call (pc := 1043) (as := []) dL_law_1043 cl_142 (by decide) rfl rfl sh_0 (Nat.le_of_ble_eq_true rfl) hkc hks hP1 ?_
  intro r1 m1 hz1 hp1
  obtain ⟨v1, rfl⟩ := hz1
  obtain ⟨P2, hP2, hk2⟩ := hk1 _ _ hp1
  refine l_aload_n (pc := 1046) (x := 156) dL_law_1046 rfl ?_
  refine l_call (pc := 1047) (as := []) dL_law_1047 cl_145 (by decide) rfl rfl sh_156 (Nat.le_of_ble_eq_true rfl) hkc hks hP2 ?_
  intro r2 m2 hz2 hp2
  obtain ⟨rfl, hR2⟩ := hk2 _ _ hp2
  refine l_icmp_eq (pc := 1050) (tgt := 1533) dL_law_1050 (by decide) (fun _ => ?_) (fun z_ => absurd rfl z_)
  exact hk m2 hR2
theorem lc_31 (Ln : Nat) (xs : Nat → Int32) (kc ks i : Nat) (hkc : kc ≤ 600000) (hks : ks ≤ 7302250) (hi : i + 7 ≤ Ln) (hL : Ln ≤ 3584) (RR : MM → Prop) (mm : MM) (hR : RR mm) (hstep : StepOK RR e_X11_posts e_X12_posts [.int (xs (i + 1)), .int (xs (i + 2)), .int (xs (i + 3)), .int (xs (i + 4)), .int (xs (i + 5))]) (hk : ∀ m2, RR m2 → GL Ln xs kc ks 1533 [(0, .ref 5000), (1, .ref 0), (2, .ref 156), (3, .int (nI i))] [] m2) : GL Ln xs kc ks 1055 [(0, .ref 5000), (1, .ref 0), (2, .ref 156), (3, .int (nI i))] [] mm := by
  refine l_aload_n (pc := 1055) (x := 0) dL_law_1055 rfl ?_
  refine l_aload_n (pc := 1056) (x := 5000) dL_law_1056 rfl ?_
  refine l_iload_n (pc := 1057) (x := nI i) dL_law_1057 rfl ?_
  refine l_iconst (pc := 1058) (v := nI 1) dL_law_1058 rfl ?_
  refine l_iadd (pc := 1059) dL_law_1059 ?_
  rw [nI_add]
  refine l_sld (pc := 1060) dL_law_1060 (vp_in_nI (by omega) (by omega)) ?_
  rw [nI_clamp (show i + 1 < 2 ^ 31 by omega)]
  refine l_aload_n (pc := 1061) (x := 5000) dL_law_1061 rfl ?_
  refine l_iload_n (pc := 1062) (x := nI i) dL_law_1062 rfl ?_
  refine l_iconst (pc := 1063) (v := nI 2) dL_law_1063 rfl ?_
  refine l_iadd (pc := 1064) dL_law_1064 ?_
  rw [nI_add]
  refine l_sld (pc := 1065) dL_law_1065 (vp_in_nI (by omega) (by omega)) ?_
  rw [nI_clamp (show i + 2 < 2 ^ 31 by omega)]
  refine l_aload_n (pc := 1066) (x := 5000) dL_law_1066 rfl ?_
  refine l_iload_n (pc := 1067) (x := nI i) dL_law_1067 rfl ?_
  refine l_iconst (pc := 1068) (v := nI 3) dL_law_1068 rfl ?_
  refine l_iadd (pc := 1069) dL_law_1069 ?_
  rw [nI_add]
  refine l_sld (pc := 1070) dL_law_1070 (vp_in_nI (by omega) (by omega)) ?_
  rw [nI_clamp (show i + 3 < 2 ^ 31 by omega)]
  refine l_aload_n (pc := 1071) (x := 5000) dL_law_1071 rfl ?_
  refine l_iload_n (pc := 1072) (x := nI i) dL_law_1072 rfl ?_
  refine l_iconst (pc := 1073) (v := nI 4) dL_law_1073 rfl ?_
  refine l_iadd (pc := 1074) dL_law_1074 ?_
  rw [nI_add]
  refine l_sld (pc := 1075) dL_law_1075 (vp_in_nI (by omega) (by omega)) ?_
  rw [nI_clamp (show i + 4 < 2 ^ 31 by omega)]
  refine l_aload_n (pc := 1076) (x := 5000) dL_law_1076 rfl ?_
  refine l_iload_n (pc := 1077) (x := nI i) dL_law_1077 rfl ?_
  refine l_iconst (pc := 1078) (v := nI 5) dL_law_1078 rfl ?_
  refine l_iadd (pc := 1079) dL_law_1079 ?_
  rw [nI_add]
  refine l_sld (pc := 1080) dL_law_1080 (vp_in_nI (by omega) (by omega)) ?_
  rw [nI_clamp (show i + 5 < 2 ^ 31 by omega)]
  obtain ⟨P1, hP1, hk1⟩ := hstep mm hR
  refine l_call (pc := 1081) (as := [.int (xs (i + 1)), .int (xs (i + 2)), .int (xs (i + 3)), .int (xs (i + 4)), .int (xs (i + 5))]) dL_law_1081 cl_146 (by decide) rfl rfl sh_0 (Nat.le_of_ble_eq_true rfl) hkc hks hP1 ?_
  intro r1 m1 hz1 hp1
  obtain ⟨v1, rfl⟩ := hz1
  obtain ⟨P2, hP2, hk2⟩ := hk1 _ _ hp1
  refine l_aload_n (pc := 1084) (x := 156) dL_law_1084 rfl ?_
  refine l_aload_n (pc := 1085) (x := 5000) dL_law_1085 rfl ?_
  refine l_iload_n (pc := 1086) (x := nI i) dL_law_1086 rfl ?_
  refine l_iconst (pc := 1087) (v := nI 1) dL_law_1087 rfl ?_
  refine l_iadd (pc := 1088) dL_law_1088 ?_
  rw [nI_add]
  refine l_sld (pc := 1089) dL_law_1089 (vp_in_nI (by omega) (by omega)) ?_
  rw [nI_clamp (show i + 1 < 2 ^ 31 by omega)]
  refine l_aload_n (pc := 1090) (x := 5000) dL_law_1090 rfl ?_
  refine l_iload_n (pc := 1091) (x := nI i) dL_law_1091 rfl ?_
  refine l_iconst (pc := 1092) (v := nI 2) dL_law_1092 rfl ?_
  refine l_iadd (pc := 1093) dL_law_1093 ?_
  rw [nI_add]
  refine l_sld (pc := 1094) dL_law_1094 (vp_in_nI (by omega) (by omega)) ?_
  rw [nI_clamp (show i + 2 < 2 ^ 31 by omega)]
  refine l_aload_n (pc := 1095) (x := 5000) dL_law_1095 rfl ?_
  refine l_iload_n (pc := 1096) (x := nI i) dL_law_1096 rfl ?_
  refine l_iconst (pc := 1097) (v := nI 3) dL_law_1097 rfl ?_
  refine l_iadd (pc := 1098) dL_law_1098 ?_
  rw [nI_add]
  refine l_sld (pc := 1099) dL_law_1099 (vp_in_nI (by omega) (by omega)) ?_
  rw [nI_clamp (show i + 3 < 2 ^ 31 by omega)]
  refine l_aload_n (pc := 1100) (x := 5000) dL_law_1100 rfl ?_
  refine l_iload_n (pc := 1101) (x := nI i) dL_law_1101 rfl ?_
  refine l_iconst (pc := 1102) (v := nI 4) dL_law_1102 rfl ?_
  refine l_iadd (pc := 1103) dL_law_1103 ?_
  rw [nI_add]
  refine l_sld (pc := 1104) dL_law_1104 (vp_in_nI (by omega) (by omega)) ?_
  rw [nI_clamp (show i + 4 < 2 ^ 31 by omega)]
  refine l_aload_n (pc := 1105) (x := 5000) dL_law_1105 rfl ?_
  refine l_iload_n (pc := 1106) (x := nI i) dL_law_1106 rfl ?_
  refine l_iconst (pc := 1107) (v := nI 5) dL_law_1107 rfl ?_
  refine l_iadd (pc := 1108) dL_law_1108 ?_
  rw [nI_add]
  refine l_sld (pc := 1109) dL_law_1109 (vp_in_nI (by omega) (by omega)) ?_
  rw [nI_clamp (show i + 5 < 2 ^ 31 by omega)]
  refine l_call (pc := 1110) (as := [.int (xs (i + 1)), .int (xs (i + 2)), .int (xs (i + 3)), .int (xs (i + 4)), .int (xs (i + 5))]) dL_law_1110 cl_149 (by decide) rfl rfl sh_156 (Nat.le_of_ble_eq_true rfl) hkc hks hP2 ?_
  intro r2 m2 hz2 hp2
  obtain ⟨rfl, hR2⟩ := hk2 _ _ hp2
  refine l_icmp_eq (pc := 1113) (tgt := 1533) dL_law_1113 (by decide) (fun _ => ?_) (fun z_ => absurd rfl z_)
  exact hk m2 hR2
theorem lc_32 (Ln : Nat) (xs : Nat → Int32) (kc ks i : Nat) (hkc : kc ≤ 600000) (hks : ks ≤ 7302250) (hi : i + 7 ≤ Ln) (hL : Ln ≤ 3584) (RR : MM → Prop) (mm : MM) (hR : RR mm) (hstep : StepOK RR e_X11_postAt e_X12_postAt [.int (xs (i + 1)), .int (xs (i + 2)), .int (xs (i + 3)), .int (xs (i + 4)), .int (xs (i + 5)), .int (xs (i + 6))]) (hk : ∀ m2, RR m2 → GL Ln xs kc ks 1533 [(0, .ref 5000), (1, .ref 0), (2, .ref 156), (3, .int (nI i))] [] m2) : GL Ln xs kc ks 1118 [(0, .ref 5000), (1, .ref 0), (2, .ref 156), (3, .int (nI i))] [] mm := by
  refine l_aload_n (pc := 1118) (x := 0) dL_law_1118 rfl ?_
  refine l_aload_n (pc := 1119) (x := 5000) dL_law_1119 rfl ?_
  refine l_iload_n (pc := 1120) (x := nI i) dL_law_1120 rfl ?_
  refine l_iconst (pc := 1121) (v := nI 1) dL_law_1121 rfl ?_
  refine l_iadd (pc := 1122) dL_law_1122 ?_
  rw [nI_add]
  refine l_sld (pc := 1123) dL_law_1123 (vp_in_nI (by omega) (by omega)) ?_
  rw [nI_clamp (show i + 1 < 2 ^ 31 by omega)]
  refine l_aload_n (pc := 1124) (x := 5000) dL_law_1124 rfl ?_
  refine l_iload_n (pc := 1125) (x := nI i) dL_law_1125 rfl ?_
  refine l_iconst (pc := 1126) (v := nI 2) dL_law_1126 rfl ?_
  refine l_iadd (pc := 1127) dL_law_1127 ?_
  rw [nI_add]
  refine l_sld (pc := 1128) dL_law_1128 (vp_in_nI (by omega) (by omega)) ?_
  rw [nI_clamp (show i + 2 < 2 ^ 31 by omega)]
  refine l_aload_n (pc := 1129) (x := 5000) dL_law_1129 rfl ?_
  refine l_iload_n (pc := 1130) (x := nI i) dL_law_1130 rfl ?_
  refine l_iconst (pc := 1131) (v := nI 3) dL_law_1131 rfl ?_
  refine l_iadd (pc := 1132) dL_law_1132 ?_
  rw [nI_add]
  refine l_sld (pc := 1133) dL_law_1133 (vp_in_nI (by omega) (by omega)) ?_
  rw [nI_clamp (show i + 3 < 2 ^ 31 by omega)]
  refine l_aload_n (pc := 1134) (x := 5000) dL_law_1134 rfl ?_
  refine l_iload_n (pc := 1135) (x := nI i) dL_law_1135 rfl ?_
  refine l_iconst (pc := 1136) (v := nI 4) dL_law_1136 rfl ?_
  refine l_iadd (pc := 1137) dL_law_1137 ?_
  rw [nI_add]
  refine l_sld (pc := 1138) dL_law_1138 (vp_in_nI (by omega) (by omega)) ?_
  rw [nI_clamp (show i + 4 < 2 ^ 31 by omega)]
  refine l_aload_n (pc := 1139) (x := 5000) dL_law_1139 rfl ?_
  refine l_iload_n (pc := 1140) (x := nI i) dL_law_1140 rfl ?_
  refine l_iconst (pc := 1141) (v := nI 5) dL_law_1141 rfl ?_
  refine l_iadd (pc := 1142) dL_law_1142 ?_
  rw [nI_add]
  refine l_sld (pc := 1143) dL_law_1143 (vp_in_nI (by omega) (by omega)) ?_
  rw [nI_clamp (show i + 5 < 2 ^ 31 by omega)]
  refine l_aload_n (pc := 1144) (x := 5000) dL_law_1144 rfl ?_
  refine l_iload_n (pc := 1145) (x := nI i) dL_law_1145 rfl ?_
  refine l_bipush (pc := 1146) (v := nI 6) dL_law_1146 rfl ?_
  refine l_iadd (pc := 1148) dL_law_1148 ?_
  rw [nI_add]
  refine l_sld (pc := 1149) dL_law_1149 (vp_in_nI (by omega) (by omega)) ?_
  rw [nI_clamp (show i + 6 < 2 ^ 31 by omega)]
  obtain ⟨P1, hP1, hk1⟩ := hstep mm hR
  refine l_call (pc := 1150) (as := [.int (xs (i + 1)), .int (xs (i + 2)), .int (xs (i + 3)), .int (xs (i + 4)), .int (xs (i + 5)), .int (xs (i + 6))]) dL_law_1150 cl_150 (by decide) rfl rfl sh_0 (Nat.le_of_ble_eq_true rfl) hkc hks hP1 ?_
  intro r1 m1 hz1 hp1
  obtain ⟨v1, rfl⟩ := hz1
  obtain ⟨P2, hP2, hk2⟩ := hk1 _ _ hp1
  refine l_aload_n (pc := 1153) (x := 156) dL_law_1153 rfl ?_
  refine l_aload_n (pc := 1154) (x := 5000) dL_law_1154 rfl ?_
  refine l_iload_n (pc := 1155) (x := nI i) dL_law_1155 rfl ?_
  refine l_iconst (pc := 1156) (v := nI 1) dL_law_1156 rfl ?_
  refine l_iadd (pc := 1157) dL_law_1157 ?_
  rw [nI_add]
  refine l_sld (pc := 1158) dL_law_1158 (vp_in_nI (by omega) (by omega)) ?_
  rw [nI_clamp (show i + 1 < 2 ^ 31 by omega)]
  refine l_aload_n (pc := 1159) (x := 5000) dL_law_1159 rfl ?_
  refine l_iload_n (pc := 1160) (x := nI i) dL_law_1160 rfl ?_
  refine l_iconst (pc := 1161) (v := nI 2) dL_law_1161 rfl ?_
  refine l_iadd (pc := 1162) dL_law_1162 ?_
  rw [nI_add]
  refine l_sld (pc := 1163) dL_law_1163 (vp_in_nI (by omega) (by omega)) ?_
  rw [nI_clamp (show i + 2 < 2 ^ 31 by omega)]
  refine l_aload_n (pc := 1164) (x := 5000) dL_law_1164 rfl ?_
  refine l_iload_n (pc := 1165) (x := nI i) dL_law_1165 rfl ?_
  refine l_iconst (pc := 1166) (v := nI 3) dL_law_1166 rfl ?_
  refine l_iadd (pc := 1167) dL_law_1167 ?_
  rw [nI_add]
  refine l_sld (pc := 1168) dL_law_1168 (vp_in_nI (by omega) (by omega)) ?_
  rw [nI_clamp (show i + 3 < 2 ^ 31 by omega)]
  refine l_aload_n (pc := 1169) (x := 5000) dL_law_1169 rfl ?_
  refine l_iload_n (pc := 1170) (x := nI i) dL_law_1170 rfl ?_
  refine l_iconst (pc := 1171) (v := nI 4) dL_law_1171 rfl ?_
  refine l_iadd (pc := 1172) dL_law_1172 ?_
  rw [nI_add]
  refine l_sld (pc := 1173) dL_law_1173 (vp_in_nI (by omega) (by omega)) ?_
  rw [nI_clamp (show i + 4 < 2 ^ 31 by omega)]
  refine l_aload_n (pc := 1174) (x := 5000) dL_law_1174 rfl ?_
  refine l_iload_n (pc := 1175) (x := nI i) dL_law_1175 rfl ?_
  refine l_iconst (pc := 1176) (v := nI 5) dL_law_1176 rfl ?_
  refine l_iadd (pc := 1177) dL_law_1177 ?_
  rw [nI_add]
  refine l_sld (pc := 1178) dL_law_1178 (vp_in_nI (by omega) (by omega)) ?_
  rw [nI_clamp (show i + 5 < 2 ^ 31 by omega)]
  refine l_aload_n (pc := 1179) (x := 5000) dL_law_1179 rfl ?_
  refine l_iload_n (pc := 1180) (x := nI i) dL_law_1180 rfl ?_
  refine l_bipush (pc := 1181) (v := nI 6) dL_law_1181 rfl ?_
  refine l_iadd (pc := 1183) dL_law_1183 ?_
  rw [nI_add]
  refine l_sld (pc := 1184) dL_law_1184 (vp_in_nI (by omega) (by omega)) ?_
  rw [nI_clamp (show i + 6 < 2 ^ 31 by omega)]
  refine l_call (pc := 1185) (as := [.int (xs (i + 1)), .int (xs (i + 2)), .int (xs (i + 3)), .int (xs (i + 4)), .int (xs (i + 5)), .int (xs (i + 6))]) dL_law_1185 cl_154 (by decide) rfl rfl sh_156 (Nat.le_of_ble_eq_true rfl) hkc hks hP2 ?_
  intro r2 m2 hz2 hp2
  obtain ⟨rfl, hR2⟩ := hk2 _ _ hp2
  refine l_icmp_eq (pc := 1188) (tgt := 1533) dL_law_1188 (by decide) (fun _ => ?_) (fun z_ => absurd rfl z_)
  exact hk m2 hR2
theorem lc_33 (Ln : Nat) (xs : Nat → Int32) (kc ks i : Nat) (hkc : kc ≤ 600000) (hks : ks ≤ 7302250) (hi : i + 7 ≤ Ln) (hL : Ln ≤ 3584) (RR : MM → Prop) (mm : MM) (hR : RR mm) (hstep : StepOK RR e_X11_vote e_X12_vote [.int (xs (i + 1)), .int (xs (i + 2)), .int (xs (i + 3))]) (hk : ∀ m2, RR m2 → GL Ln xs kc ks 1533 [(0, .ref 5000), (1, .ref 0), (2, .ref 156), (3, .int (nI i))] [] m2) : GL Ln xs kc ks 1193 [(0, .ref 5000), (1, .ref 0), (2, .ref 156), (3, .int (nI i))] [] mm := by
  refine l_aload_n (pc := 1193) (x := 0) dL_law_1193 rfl ?_
  refine l_aload_n (pc := 1194) (x := 5000) dL_law_1194 rfl ?_
  refine l_iload_n (pc := 1195) (x := nI i) dL_law_1195 rfl ?_
  refine l_iconst (pc := 1196) (v := nI 1) dL_law_1196 rfl ?_
  refine l_iadd (pc := 1197) dL_law_1197 ?_
  rw [nI_add]
  refine l_sld (pc := 1198) dL_law_1198 (vp_in_nI (by omega) (by omega)) ?_
  rw [nI_clamp (show i + 1 < 2 ^ 31 by omega)]
  refine l_aload_n (pc := 1199) (x := 5000) dL_law_1199 rfl ?_
  refine l_iload_n (pc := 1200) (x := nI i) dL_law_1200 rfl ?_
  refine l_iconst (pc := 1201) (v := nI 2) dL_law_1201 rfl ?_
  refine l_iadd (pc := 1202) dL_law_1202 ?_
  rw [nI_add]
  refine l_sld (pc := 1203) dL_law_1203 (vp_in_nI (by omega) (by omega)) ?_
  rw [nI_clamp (show i + 2 < 2 ^ 31 by omega)]
  refine l_aload_n (pc := 1204) (x := 5000) dL_law_1204 rfl ?_
  refine l_iload_n (pc := 1205) (x := nI i) dL_law_1205 rfl ?_
  refine l_iconst (pc := 1206) (v := nI 3) dL_law_1206 rfl ?_
  refine l_iadd (pc := 1207) dL_law_1207 ?_
  rw [nI_add]
  refine l_sld (pc := 1208) dL_law_1208 (vp_in_nI (by omega) (by omega)) ?_
  rw [nI_clamp (show i + 3 < 2 ^ 31 by omega)]
  obtain ⟨P1, hP1, hk1⟩ := hstep mm hR
  refine l_call (pc := 1209) (as := [.int (xs (i + 1)), .int (xs (i + 2)), .int (xs (i + 3))]) dL_law_1209 cl_155 (by decide) rfl rfl sh_0 (Nat.le_of_ble_eq_true rfl) hkc hks hP1 ?_
  intro r1 m1 hz1 hp1
  obtain ⟨v1, rfl⟩ := hz1
  obtain ⟨P2, hP2, hk2⟩ := hk1 _ _ hp1
  refine l_aload_n (pc := 1212) (x := 156) dL_law_1212 rfl ?_
  refine l_aload_n (pc := 1213) (x := 5000) dL_law_1213 rfl ?_
  refine l_iload_n (pc := 1214) (x := nI i) dL_law_1214 rfl ?_
  refine l_iconst (pc := 1215) (v := nI 1) dL_law_1215 rfl ?_
  refine l_iadd (pc := 1216) dL_law_1216 ?_
  rw [nI_add]
  refine l_sld (pc := 1217) dL_law_1217 (vp_in_nI (by omega) (by omega)) ?_
  rw [nI_clamp (show i + 1 < 2 ^ 31 by omega)]
  refine l_aload_n (pc := 1218) (x := 5000) dL_law_1218 rfl ?_
  refine l_iload_n (pc := 1219) (x := nI i) dL_law_1219 rfl ?_
  refine l_iconst (pc := 1220) (v := nI 2) dL_law_1220 rfl ?_
  refine l_iadd (pc := 1221) dL_law_1221 ?_
  rw [nI_add]
  refine l_sld (pc := 1222) dL_law_1222 (vp_in_nI (by omega) (by omega)) ?_
  rw [nI_clamp (show i + 2 < 2 ^ 31 by omega)]
  refine l_aload_n (pc := 1223) (x := 5000) dL_law_1223 rfl ?_
  refine l_iload_n (pc := 1224) (x := nI i) dL_law_1224 rfl ?_
  refine l_iconst (pc := 1225) (v := nI 3) dL_law_1225 rfl ?_
  refine l_iadd (pc := 1226) dL_law_1226 ?_
  rw [nI_add]
  refine l_sld (pc := 1227) dL_law_1227 (vp_in_nI (by omega) (by omega)) ?_
  rw [nI_clamp (show i + 3 < 2 ^ 31 by omega)]
  refine l_call (pc := 1228) (as := [.int (xs (i + 1)), .int (xs (i + 2)), .int (xs (i + 3))]) dL_law_1228 cl_158 (by decide) rfl rfl sh_156 (Nat.le_of_ble_eq_true rfl) hkc hks hP2 ?_
  intro r2 m2 hz2 hp2
  obtain ⟨rfl, hR2⟩ := hk2 _ _ hp2
  refine l_icmp_eq (pc := 1231) (tgt := 1533) dL_law_1231 (by decide) (fun _ => ?_) (fun z_ => absurd rfl z_)
  exact hk m2 hR2
theorem lc_34 (Ln : Nat) (xs : Nat → Int32) (kc ks i : Nat) (hkc : kc ≤ 600000) (hks : ks ≤ 7302250) (hi : i + 7 ≤ Ln) (hL : Ln ≤ 3584) (RR : MM → Prop) (mm : MM) (hR : RR mm) (hstep : StepOK RR e_X11_mark e_X12_mark [.int (xs (i + 1)), .int (xs (i + 2)), .int (xs (i + 3))]) (hk : ∀ m2, RR m2 → GL Ln xs kc ks 1533 [(0, .ref 5000), (1, .ref 0), (2, .ref 156), (3, .int (nI i))] [] m2) : GL Ln xs kc ks 1236 [(0, .ref 5000), (1, .ref 0), (2, .ref 156), (3, .int (nI i))] [] mm := by
  refine l_aload_n (pc := 1236) (x := 0) dL_law_1236 rfl ?_
  refine l_aload_n (pc := 1237) (x := 5000) dL_law_1237 rfl ?_
  refine l_iload_n (pc := 1238) (x := nI i) dL_law_1238 rfl ?_
  refine l_iconst (pc := 1239) (v := nI 1) dL_law_1239 rfl ?_
  refine l_iadd (pc := 1240) dL_law_1240 ?_
  rw [nI_add]
  refine l_sld (pc := 1241) dL_law_1241 (vp_in_nI (by omega) (by omega)) ?_
  rw [nI_clamp (show i + 1 < 2 ^ 31 by omega)]
  refine l_aload_n (pc := 1242) (x := 5000) dL_law_1242 rfl ?_
  refine l_iload_n (pc := 1243) (x := nI i) dL_law_1243 rfl ?_
  refine l_iconst (pc := 1244) (v := nI 2) dL_law_1244 rfl ?_
  refine l_iadd (pc := 1245) dL_law_1245 ?_
  rw [nI_add]
  refine l_sld (pc := 1246) dL_law_1246 (vp_in_nI (by omega) (by omega)) ?_
  rw [nI_clamp (show i + 2 < 2 ^ 31 by omega)]
  refine l_aload_n (pc := 1247) (x := 5000) dL_law_1247 rfl ?_
  refine l_iload_n (pc := 1248) (x := nI i) dL_law_1248 rfl ?_
  refine l_iconst (pc := 1249) (v := nI 3) dL_law_1249 rfl ?_
  refine l_iadd (pc := 1250) dL_law_1250 ?_
  rw [nI_add]
  refine l_sld (pc := 1251) dL_law_1251 (vp_in_nI (by omega) (by omega)) ?_
  rw [nI_clamp (show i + 3 < 2 ^ 31 by omega)]
  obtain ⟨P1, hP1, hk1⟩ := hstep mm hR
  refine l_call (pc := 1252) (as := [.int (xs (i + 1)), .int (xs (i + 2)), .int (xs (i + 3))]) dL_law_1252 cl_159 (by decide) rfl rfl sh_0 (Nat.le_of_ble_eq_true rfl) hkc hks hP1 ?_
  intro r1 m1 hz1 hp1
  obtain ⟨v1, rfl⟩ := hz1
  obtain ⟨P2, hP2, hk2⟩ := hk1 _ _ hp1
  refine l_aload_n (pc := 1255) (x := 156) dL_law_1255 rfl ?_
  refine l_aload_n (pc := 1256) (x := 5000) dL_law_1256 rfl ?_
  refine l_iload_n (pc := 1257) (x := nI i) dL_law_1257 rfl ?_
  refine l_iconst (pc := 1258) (v := nI 1) dL_law_1258 rfl ?_
  refine l_iadd (pc := 1259) dL_law_1259 ?_
  rw [nI_add]
  refine l_sld (pc := 1260) dL_law_1260 (vp_in_nI (by omega) (by omega)) ?_
  rw [nI_clamp (show i + 1 < 2 ^ 31 by omega)]
  refine l_aload_n (pc := 1261) (x := 5000) dL_law_1261 rfl ?_
  refine l_iload_n (pc := 1262) (x := nI i) dL_law_1262 rfl ?_
  refine l_iconst (pc := 1263) (v := nI 2) dL_law_1263 rfl ?_
  refine l_iadd (pc := 1264) dL_law_1264 ?_
  rw [nI_add]
  refine l_sld (pc := 1265) dL_law_1265 (vp_in_nI (by omega) (by omega)) ?_
  rw [nI_clamp (show i + 2 < 2 ^ 31 by omega)]
  refine l_aload_n (pc := 1266) (x := 5000) dL_law_1266 rfl ?_
  refine l_iload_n (pc := 1267) (x := nI i) dL_law_1267 rfl ?_
  refine l_iconst (pc := 1268) (v := nI 3) dL_law_1268 rfl ?_
  refine l_iadd (pc := 1269) dL_law_1269 ?_
  rw [nI_add]
  refine l_sld (pc := 1270) dL_law_1270 (vp_in_nI (by omega) (by omega)) ?_
  rw [nI_clamp (show i + 3 < 2 ^ 31 by omega)]
  refine l_call (pc := 1271) (as := [.int (xs (i + 1)), .int (xs (i + 2)), .int (xs (i + 3))]) dL_law_1271 cl_162 (by decide) rfl rfl sh_156 (Nat.le_of_ble_eq_true rfl) hkc hks hP2 ?_
  intro r2 m2 hz2 hp2
  obtain ⟨rfl, hR2⟩ := hk2 _ _ hp2
  refine l_icmp_eq (pc := 1274) (tgt := 1533) dL_law_1274 (by decide) (fun _ => ?_) (fun z_ => absurd rfl z_)
  exact hk m2 hR2
theorem lc_35 (Ln : Nat) (xs : Nat → Int32) (kc ks i : Nat) (hkc : kc ≤ 600000) (hks : ks ≤ 7302250) (hi : i + 7 ≤ Ln) (hL : Ln ≤ 3584) (RR : MM → Prop) (mm : MM) (hR : RR mm) (hstep : StepOK RR e_X11_annul e_X12_annul [.int (xs (i + 1))]) (hk : ∀ m2, RR m2 → GL Ln xs kc ks 1533 [(0, .ref 5000), (1, .ref 0), (2, .ref 156), (3, .int (nI i))] [] m2) : GL Ln xs kc ks 1279 [(0, .ref 5000), (1, .ref 0), (2, .ref 156), (3, .int (nI i))] [] mm := by
  refine l_aload_n (pc := 1279) (x := 0) dL_law_1279 rfl ?_
  refine l_aload_n (pc := 1280) (x := 5000) dL_law_1280 rfl ?_
  refine l_iload_n (pc := 1281) (x := nI i) dL_law_1281 rfl ?_
  refine l_iconst (pc := 1282) (v := nI 1) dL_law_1282 rfl ?_
  refine l_iadd (pc := 1283) dL_law_1283 ?_
  rw [nI_add]
  refine l_sld (pc := 1284) dL_law_1284 (vp_in_nI (by omega) (by omega)) ?_
  rw [nI_clamp (show i + 1 < 2 ^ 31 by omega)]
  obtain ⟨P1, hP1, hk1⟩ := hstep mm hR
  refine l_call (pc := 1285) (as := [.int (xs (i + 1))]) dL_law_1285 cl_163 (by decide) rfl rfl sh_0 (Nat.le_of_ble_eq_true rfl) hkc hks hP1 ?_
  intro r1 m1 hz1 hp1
  obtain ⟨v1, rfl⟩ := hz1
  obtain ⟨P2, hP2, hk2⟩ := hk1 _ _ hp1
  refine l_aload_n (pc := 1288) (x := 156) dL_law_1288 rfl ?_
  refine l_aload_n (pc := 1289) (x := 5000) dL_law_1289 rfl ?_
  refine l_iload_n (pc := 1290) (x := nI i) dL_law_1290 rfl ?_
  refine l_iconst (pc := 1291) (v := nI 1) dL_law_1291 rfl ?_
  refine l_iadd (pc := 1292) dL_law_1292 ?_
  rw [nI_add]
  refine l_sld (pc := 1293) dL_law_1293 (vp_in_nI (by omega) (by omega)) ?_
  rw [nI_clamp (show i + 1 < 2 ^ 31 by omega)]
  refine l_call (pc := 1294) (as := [.int (xs (i + 1))]) dL_law_1294 cl_166 (by decide) rfl rfl sh_156 (Nat.le_of_ble_eq_true rfl) hkc hks hP2 ?_
  intro r2 m2 hz2 hp2
  obtain ⟨rfl, hR2⟩ := hk2 _ _ hp2
  refine l_icmp_eq (pc := 1297) (tgt := 1533) dL_law_1297 (by decide) (fun _ => ?_) (fun z_ => absurd rfl z_)
  exact hk m2 hR2
theorem lc_36 (Ln : Nat) (xs : Nat → Int32) (kc ks i : Nat) (hkc : kc ≤ 600000) (hks : ks ≤ 7302250) (hi : i + 7 ≤ Ln) (hL : Ln ≤ 3584) (RR : MM → Prop) (mm : MM) (hR : RR mm) (hstep : StepOK RR e_X11_votes e_X12_votes [.int (xs (i + 1)), .int (xs (i + 2)), .int (xs (i + 3))]) (hk : ∀ m2, RR m2 → GL Ln xs kc ks 1533 [(0, .ref 5000), (1, .ref 0), (2, .ref 156), (3, .int (nI i))] [] m2) : GL Ln xs kc ks 1302 [(0, .ref 5000), (1, .ref 0), (2, .ref 156), (3, .int (nI i))] [] mm := by
  refine l_aload_n (pc := 1302) (x := 0) dL_law_1302 rfl ?_
  refine l_aload_n (pc := 1303) (x := 5000) dL_law_1303 rfl ?_
  refine l_iload_n (pc := 1304) (x := nI i) dL_law_1304 rfl ?_
  refine l_iconst (pc := 1305) (v := nI 1) dL_law_1305 rfl ?_
  refine l_iadd (pc := 1306) dL_law_1306 ?_
  rw [nI_add]
  refine l_sld (pc := 1307) dL_law_1307 (vp_in_nI (by omega) (by omega)) ?_
  rw [nI_clamp (show i + 1 < 2 ^ 31 by omega)]
  refine l_aload_n (pc := 1308) (x := 5000) dL_law_1308 rfl ?_
  refine l_iload_n (pc := 1309) (x := nI i) dL_law_1309 rfl ?_
  refine l_iconst (pc := 1310) (v := nI 2) dL_law_1310 rfl ?_
  refine l_iadd (pc := 1311) dL_law_1311 ?_
  rw [nI_add]
  refine l_sld (pc := 1312) dL_law_1312 (vp_in_nI (by omega) (by omega)) ?_
  rw [nI_clamp (show i + 2 < 2 ^ 31 by omega)]
  refine l_aload_n (pc := 1313) (x := 5000) dL_law_1313 rfl ?_
  refine l_iload_n (pc := 1314) (x := nI i) dL_law_1314 rfl ?_
  refine l_iconst (pc := 1315) (v := nI 3) dL_law_1315 rfl ?_
  refine l_iadd (pc := 1316) dL_law_1316 ?_
  rw [nI_add]
  refine l_sld (pc := 1317) dL_law_1317 (vp_in_nI (by omega) (by omega)) ?_
  rw [nI_clamp (show i + 3 < 2 ^ 31 by omega)]
  obtain ⟨P1, hP1, hk1⟩ := hstep mm hR
  refine l_call (pc := 1318) (as := [.int (xs (i + 1)), .int (xs (i + 2)), .int (xs (i + 3))]) dL_law_1318 cl_167 (by decide) rfl rfl sh_0 (Nat.le_of_ble_eq_true rfl) hkc hks hP1 ?_
  intro r1 m1 hz1 hp1
  obtain ⟨v1, rfl⟩ := hz1
  obtain ⟨P2, hP2, hk2⟩ := hk1 _ _ hp1
  refine l_aload_n (pc := 1321) (x := 156) dL_law_1321 rfl ?_
  refine l_aload_n (pc := 1322) (x := 5000) dL_law_1322 rfl ?_
  refine l_iload_n (pc := 1323) (x := nI i) dL_law_1323 rfl ?_
  refine l_iconst (pc := 1324) (v := nI 1) dL_law_1324 rfl ?_
  refine l_iadd (pc := 1325) dL_law_1325 ?_
  rw [nI_add]
  refine l_sld (pc := 1326) dL_law_1326 (vp_in_nI (by omega) (by omega)) ?_
  rw [nI_clamp (show i + 1 < 2 ^ 31 by omega)]
  refine l_aload_n (pc := 1327) (x := 5000) dL_law_1327 rfl ?_
  refine l_iload_n (pc := 1328) (x := nI i) dL_law_1328 rfl ?_
  refine l_iconst (pc := 1329) (v := nI 2) dL_law_1329 rfl ?_
  refine l_iadd (pc := 1330) dL_law_1330 ?_
  rw [nI_add]
  refine l_sld (pc := 1331) dL_law_1331 (vp_in_nI (by omega) (by omega)) ?_
  rw [nI_clamp (show i + 2 < 2 ^ 31 by omega)]
  refine l_aload_n (pc := 1332) (x := 5000) dL_law_1332 rfl ?_
  refine l_iload_n (pc := 1333) (x := nI i) dL_law_1333 rfl ?_
  refine l_iconst (pc := 1334) (v := nI 3) dL_law_1334 rfl ?_
  refine l_iadd (pc := 1335) dL_law_1335 ?_
  rw [nI_add]
  refine l_sld (pc := 1336) dL_law_1336 (vp_in_nI (by omega) (by omega)) ?_
  rw [nI_clamp (show i + 3 < 2 ^ 31 by omega)]
  refine l_call (pc := 1337) (as := [.int (xs (i + 1)), .int (xs (i + 2)), .int (xs (i + 3))]) dL_law_1337 cl_170 (by decide) rfl rfl sh_156 (Nat.le_of_ble_eq_true rfl) hkc hks hP2 ?_
  intro r2 m2 hz2 hp2
  obtain ⟨rfl, hR2⟩ := hk2 _ _ hp2
  refine l_icmp_eq (pc := 1340) (tgt := 1533) dL_law_1340 (by decide) (fun _ => ?_) (fun z_ => absurd rfl z_)
  exact hk m2 hR2
theorem lc_37 (Ln : Nat) (xs : Nat → Int32) (kc ks i : Nat) (hkc : kc ≤ 600000) (hks : ks ≤ 7302250) (hi : i + 7 ≤ Ln) (hL : Ln ≤ 3584) (RR : MM → Prop) (mm : MM) (hR : RR mm) (hstep : StepOK RR e_X11_winner e_X12_winner [.int (xs (i + 1)), .int (xs (i + 2))]) (hk : ∀ m2, RR m2 → GL Ln xs kc ks 1533 [(0, .ref 5000), (1, .ref 0), (2, .ref 156), (3, .int (nI i))] [] m2) : GL Ln xs kc ks 1345 [(0, .ref 5000), (1, .ref 0), (2, .ref 156), (3, .int (nI i))] [] mm := by
  refine l_aload_n (pc := 1345) (x := 0) dL_law_1345 rfl ?_
  refine l_aload_n (pc := 1346) (x := 5000) dL_law_1346 rfl ?_
  refine l_iload_n (pc := 1347) (x := nI i) dL_law_1347 rfl ?_
  refine l_iconst (pc := 1348) (v := nI 1) dL_law_1348 rfl ?_
  refine l_iadd (pc := 1349) dL_law_1349 ?_
  rw [nI_add]
  refine l_sld (pc := 1350) dL_law_1350 (vp_in_nI (by omega) (by omega)) ?_
  rw [nI_clamp (show i + 1 < 2 ^ 31 by omega)]
  refine l_aload_n (pc := 1351) (x := 5000) dL_law_1351 rfl ?_
  refine l_iload_n (pc := 1352) (x := nI i) dL_law_1352 rfl ?_
  refine l_iconst (pc := 1353) (v := nI 2) dL_law_1353 rfl ?_
  refine l_iadd (pc := 1354) dL_law_1354 ?_
  rw [nI_add]
  refine l_sld (pc := 1355) dL_law_1355 (vp_in_nI (by omega) (by omega)) ?_
  rw [nI_clamp (show i + 2 < 2 ^ 31 by omega)]
  obtain ⟨P1, hP1, hk1⟩ := hstep mm hR
  refine l_call (pc := 1356) (as := [.int (xs (i + 1)), .int (xs (i + 2))]) dL_law_1356 cl_171 (by decide) rfl rfl sh_0 (Nat.le_of_ble_eq_true rfl) hkc hks hP1 ?_
  intro r1 m1 hz1 hp1
  obtain ⟨v1, rfl⟩ := hz1
  obtain ⟨P2, hP2, hk2⟩ := hk1 _ _ hp1
  refine l_aload_n (pc := 1359) (x := 156) dL_law_1359 rfl ?_
  refine l_aload_n (pc := 1360) (x := 5000) dL_law_1360 rfl ?_
  refine l_iload_n (pc := 1361) (x := nI i) dL_law_1361 rfl ?_
  refine l_iconst (pc := 1362) (v := nI 1) dL_law_1362 rfl ?_
  refine l_iadd (pc := 1363) dL_law_1363 ?_
  rw [nI_add]
  refine l_sld (pc := 1364) dL_law_1364 (vp_in_nI (by omega) (by omega)) ?_
  rw [nI_clamp (show i + 1 < 2 ^ 31 by omega)]
  refine l_aload_n (pc := 1365) (x := 5000) dL_law_1365 rfl ?_
  refine l_iload_n (pc := 1366) (x := nI i) dL_law_1366 rfl ?_
  refine l_iconst (pc := 1367) (v := nI 2) dL_law_1367 rfl ?_
  refine l_iadd (pc := 1368) dL_law_1368 ?_
  rw [nI_add]
  refine l_sld (pc := 1369) dL_law_1369 (vp_in_nI (by omega) (by omega)) ?_
  rw [nI_clamp (show i + 2 < 2 ^ 31 by omega)]
  refine l_call (pc := 1370) (as := [.int (xs (i + 1)), .int (xs (i + 2))]) dL_law_1370 cl_174 (by decide) rfl rfl sh_156 (Nat.le_of_ble_eq_true rfl) hkc hks hP2 ?_
  intro r2 m2 hz2 hp2
  obtain ⟨rfl, hR2⟩ := hk2 _ _ hp2
  refine l_icmp_eq (pc := 1373) (tgt := 1533) dL_law_1373 (by decide) (fun _ => ?_) (fun z_ => absurd rfl z_)
  exact hk m2 hR2
theorem lc_38 (Ln : Nat) (xs : Nat → Int32) (kc ks i : Nat) (hkc : kc ≤ 600000) (hks : ks ≤ 7302250) (hi : i + 7 ≤ Ln) (hL : Ln ≤ 3584) (RR : MM → Prop) (mm : MM) (hR : RR mm) (hstep : StepOK RR e_X11_ends e_X12_ends [.int (xs (i + 1)), .int (xs (i + 2)), .int (xs (i + 3)), .int (xs (i + 4))]) (hk : ∀ m2, RR m2 → GL Ln xs kc ks 1533 [(0, .ref 5000), (1, .ref 0), (2, .ref 156), (3, .int (nI i))] [] m2) : GL Ln xs kc ks 1378 [(0, .ref 5000), (1, .ref 0), (2, .ref 156), (3, .int (nI i))] [] mm := by
  refine l_aload_n (pc := 1378) (x := 0) dL_law_1378 rfl ?_
  refine l_aload_n (pc := 1379) (x := 5000) dL_law_1379 rfl ?_
  refine l_iload_n (pc := 1380) (x := nI i) dL_law_1380 rfl ?_
  refine l_iconst (pc := 1381) (v := nI 1) dL_law_1381 rfl ?_
  refine l_iadd (pc := 1382) dL_law_1382 ?_
  rw [nI_add]
  refine l_sld (pc := 1383) dL_law_1383 (vp_in_nI (by omega) (by omega)) ?_
  rw [nI_clamp (show i + 1 < 2 ^ 31 by omega)]
  refine l_aload_n (pc := 1384) (x := 5000) dL_law_1384 rfl ?_
  refine l_iload_n (pc := 1385) (x := nI i) dL_law_1385 rfl ?_
  refine l_iconst (pc := 1386) (v := nI 2) dL_law_1386 rfl ?_
  refine l_iadd (pc := 1387) dL_law_1387 ?_
  rw [nI_add]
  refine l_sld (pc := 1388) dL_law_1388 (vp_in_nI (by omega) (by omega)) ?_
  rw [nI_clamp (show i + 2 < 2 ^ 31 by omega)]
  refine l_aload_n (pc := 1389) (x := 5000) dL_law_1389 rfl ?_
  refine l_iload_n (pc := 1390) (x := nI i) dL_law_1390 rfl ?_
  refine l_iconst (pc := 1391) (v := nI 3) dL_law_1391 rfl ?_
  refine l_iadd (pc := 1392) dL_law_1392 ?_
  rw [nI_add]
  refine l_sld (pc := 1393) dL_law_1393 (vp_in_nI (by omega) (by omega)) ?_
  rw [nI_clamp (show i + 3 < 2 ^ 31 by omega)]
  refine l_aload_n (pc := 1394) (x := 5000) dL_law_1394 rfl ?_
  refine l_iload_n (pc := 1395) (x := nI i) dL_law_1395 rfl ?_
  refine l_iconst (pc := 1396) (v := nI 4) dL_law_1396 rfl ?_
  refine l_iadd (pc := 1397) dL_law_1397 ?_
  rw [nI_add]
  refine l_sld (pc := 1398) dL_law_1398 (vp_in_nI (by omega) (by omega)) ?_
  rw [nI_clamp (show i + 4 < 2 ^ 31 by omega)]
  obtain ⟨P1, hP1, hk1⟩ := hstep mm hR
  refine l_call (pc := 1399) (as := [.int (xs (i + 1)), .int (xs (i + 2)), .int (xs (i + 3)), .int (xs (i + 4))]) dL_law_1399 cl_175 (by decide) rfl rfl sh_0 (Nat.le_of_ble_eq_true rfl) hkc hks hP1 ?_
  intro r1 m1 hz1 hp1
  obtain ⟨v1, rfl⟩ := hz1
  obtain ⟨P2, hP2, hk2⟩ := hk1 _ _ hp1
  refine l_aload_n (pc := 1402) (x := 156) dL_law_1402 rfl ?_
  refine l_aload_n (pc := 1403) (x := 5000) dL_law_1403 rfl ?_
  refine l_iload_n (pc := 1404) (x := nI i) dL_law_1404 rfl ?_
  refine l_iconst (pc := 1405) (v := nI 1) dL_law_1405 rfl ?_
  refine l_iadd (pc := 1406) dL_law_1406 ?_
  rw [nI_add]
  refine l_sld (pc := 1407) dL_law_1407 (vp_in_nI (by omega) (by omega)) ?_
  rw [nI_clamp (show i + 1 < 2 ^ 31 by omega)]
  refine l_aload_n (pc := 1408) (x := 5000) dL_law_1408 rfl ?_
  refine l_iload_n (pc := 1409) (x := nI i) dL_law_1409 rfl ?_
  refine l_iconst (pc := 1410) (v := nI 2) dL_law_1410 rfl ?_
  refine l_iadd (pc := 1411) dL_law_1411 ?_
  rw [nI_add]
  refine l_sld (pc := 1412) dL_law_1412 (vp_in_nI (by omega) (by omega)) ?_
  rw [nI_clamp (show i + 2 < 2 ^ 31 by omega)]
  refine l_aload_n (pc := 1413) (x := 5000) dL_law_1413 rfl ?_
  refine l_iload_n (pc := 1414) (x := nI i) dL_law_1414 rfl ?_
  refine l_iconst (pc := 1415) (v := nI 3) dL_law_1415 rfl ?_
  refine l_iadd (pc := 1416) dL_law_1416 ?_
  rw [nI_add]
  refine l_sld (pc := 1417) dL_law_1417 (vp_in_nI (by omega) (by omega)) ?_
  rw [nI_clamp (show i + 3 < 2 ^ 31 by omega)]
  refine l_aload_n (pc := 1418) (x := 5000) dL_law_1418 rfl ?_
  refine l_iload_n (pc := 1419) (x := nI i) dL_law_1419 rfl ?_
  refine l_iconst (pc := 1420) (v := nI 4) dL_law_1420 rfl ?_
  refine l_iadd (pc := 1421) dL_law_1421 ?_
  rw [nI_add]
  refine l_sld (pc := 1422) dL_law_1422 (vp_in_nI (by omega) (by omega)) ?_
  rw [nI_clamp (show i + 4 < 2 ^ 31 by omega)]
  refine l_call (pc := 1423) (as := [.int (xs (i + 1)), .int (xs (i + 2)), .int (xs (i + 3)), .int (xs (i + 4))]) dL_law_1423 cl_179 (by decide) rfl rfl sh_156 (Nat.le_of_ble_eq_true rfl) hkc hks hP2 ?_
  intro r2 m2 hz2 hp2
  obtain ⟨rfl, hR2⟩ := hk2 _ _ hp2
  refine l_icmp_eq (pc := 1426) (tgt := 1533) dL_law_1426 (by decide) (fun _ => ?_) (fun z_ => absurd rfl z_)
  exact hk m2 hR2
theorem lc_39 (Ln : Nat) (xs : Nat → Int32) (kc ks i : Nat) (hkc : kc ≤ 600000) (hks : ks ≤ 7302250) (hi : i + 7 ≤ Ln) (hL : Ln ≤ 3584) (RR : MM → Prop) (mm : MM) (hR : RR mm) (hstep : StepOK RR e_X11_years e_X12_years [.int (xs (i + 1)), .int (xs (i + 2))]) (hk : ∀ m2, RR m2 → GL Ln xs kc ks 1533 [(0, .ref 5000), (1, .ref 0), (2, .ref 156), (3, .int (nI i))] [] m2) : GL Ln xs kc ks 1431 [(0, .ref 5000), (1, .ref 0), (2, .ref 156), (3, .int (nI i))] [] mm := by
  refine l_aload_n (pc := 1431) (x := 0) dL_law_1431 rfl ?_
  refine l_aload_n (pc := 1432) (x := 5000) dL_law_1432 rfl ?_
  refine l_iload_n (pc := 1433) (x := nI i) dL_law_1433 rfl ?_
  refine l_iconst (pc := 1434) (v := nI 1) dL_law_1434 rfl ?_
  refine l_iadd (pc := 1435) dL_law_1435 ?_
  rw [nI_add]
  refine l_sld (pc := 1436) dL_law_1436 (vp_in_nI (by omega) (by omega)) ?_
  rw [nI_clamp (show i + 1 < 2 ^ 31 by omega)]
  refine l_aload_n (pc := 1437) (x := 5000) dL_law_1437 rfl ?_
  refine l_iload_n (pc := 1438) (x := nI i) dL_law_1438 rfl ?_
  refine l_iconst (pc := 1439) (v := nI 2) dL_law_1439 rfl ?_
  refine l_iadd (pc := 1440) dL_law_1440 ?_
  rw [nI_add]
  refine l_sld (pc := 1441) dL_law_1441 (vp_in_nI (by omega) (by omega)) ?_
  rw [nI_clamp (show i + 2 < 2 ^ 31 by omega)]
  obtain ⟨P1, hP1, hk1⟩ := hstep mm hR
  refine l_call (pc := 1442) (as := [.int (xs (i + 1)), .int (xs (i + 2))]) dL_law_1442 cl_180 (by decide) rfl rfl sh_0 (Nat.le_of_ble_eq_true rfl) hkc hks hP1 ?_
  intro r1 m1 hz1 hp1
  obtain ⟨v1, rfl⟩ := hz1
  obtain ⟨P2, hP2, hk2⟩ := hk1 _ _ hp1
  refine l_aload_n (pc := 1445) (x := 156) dL_law_1445 rfl ?_
  refine l_aload_n (pc := 1446) (x := 5000) dL_law_1446 rfl ?_
  refine l_iload_n (pc := 1447) (x := nI i) dL_law_1447 rfl ?_
  refine l_iconst (pc := 1448) (v := nI 1) dL_law_1448 rfl ?_
  refine l_iadd (pc := 1449) dL_law_1449 ?_
  rw [nI_add]
  refine l_sld (pc := 1450) dL_law_1450 (vp_in_nI (by omega) (by omega)) ?_
  rw [nI_clamp (show i + 1 < 2 ^ 31 by omega)]
  refine l_aload_n (pc := 1451) (x := 5000) dL_law_1451 rfl ?_
  refine l_iload_n (pc := 1452) (x := nI i) dL_law_1452 rfl ?_
  refine l_iconst (pc := 1453) (v := nI 2) dL_law_1453 rfl ?_
  refine l_iadd (pc := 1454) dL_law_1454 ?_
  rw [nI_add]
  refine l_sld (pc := 1455) dL_law_1455 (vp_in_nI (by omega) (by omega)) ?_
  rw [nI_clamp (show i + 2 < 2 ^ 31 by omega)]
  refine l_call (pc := 1456) (as := [.int (xs (i + 1)), .int (xs (i + 2))]) dL_law_1456 cl_183 (by decide) rfl rfl sh_156 (Nat.le_of_ble_eq_true rfl) hkc hks hP2 ?_
  intro r2 m2 hz2 hp2
  obtain ⟨rfl, hR2⟩ := hk2 _ _ hp2
  refine l_icmp_eq (pc := 1459) (tgt := 1533) dL_law_1459 (by decide) (fun _ => ?_) (fun z_ => absurd rfl z_)
  exact hk m2 hR2
theorem lc_40 (Ln : Nat) (xs : Nat → Int32) (kc ks i : Nat) (hkc : kc ≤ 600000) (hks : ks ≤ 7302250) (hi : i + 7 ≤ Ln) (hL : Ln ≤ 3584) (RR : MM → Prop) (mm : MM) (hR : RR mm) (hstep : StepOK RR e_X11_hold e_X12_hold [.int (xs (i + 1))]) (hk : ∀ m2, RR m2 → GL Ln xs kc ks 1533 [(0, .ref 5000), (1, .ref 0), (2, .ref 156), (3, .int (nI i))] [] m2) : GL Ln xs kc ks 1464 [(0, .ref 5000), (1, .ref 0), (2, .ref 156), (3, .int (nI i))] [] mm := by
  refine l_aload_n (pc := 1464) (x := 0) dL_law_1464 rfl ?_
  refine l_aload_n (pc := 1465) (x := 5000) dL_law_1465 rfl ?_
  refine l_iload_n (pc := 1466) (x := nI i) dL_law_1466 rfl ?_
  refine l_iconst (pc := 1467) (v := nI 1) dL_law_1467 rfl ?_
  refine l_iadd (pc := 1468) dL_law_1468 ?_
  rw [nI_add]
  refine l_sld (pc := 1469) dL_law_1469 (vp_in_nI (by omega) (by omega)) ?_
  rw [nI_clamp (show i + 1 < 2 ^ 31 by omega)]
  obtain ⟨P1, hP1, hk1⟩ := hstep mm hR
  refine l_call (pc := 1470) (as := [.int (xs (i + 1))]) dL_law_1470 cl_184 (by decide) rfl rfl sh_0 (Nat.le_of_ble_eq_true rfl) hkc hks hP1 ?_
  intro r1 m1 hz1 hp1
  obtain ⟨v1, rfl⟩ := hz1
  obtain ⟨P2, hP2, hk2⟩ := hk1 _ _ hp1
  refine l_aload_n (pc := 1473) (x := 156) dL_law_1473 rfl ?_
  refine l_aload_n (pc := 1474) (x := 5000) dL_law_1474 rfl ?_
  refine l_iload_n (pc := 1475) (x := nI i) dL_law_1475 rfl ?_
  refine l_iconst (pc := 1476) (v := nI 1) dL_law_1476 rfl ?_
  refine l_iadd (pc := 1477) dL_law_1477 ?_
  rw [nI_add]
  refine l_sld (pc := 1478) dL_law_1478 (vp_in_nI (by omega) (by omega)) ?_
  rw [nI_clamp (show i + 1 < 2 ^ 31 by omega)]
  refine l_call (pc := 1479) (as := [.int (xs (i + 1))]) dL_law_1479 cl_188 (by decide) rfl rfl sh_156 (Nat.le_of_ble_eq_true rfl) hkc hks hP2 ?_
  intro r2 m2 hz2 hp2
  obtain ⟨rfl, hR2⟩ := hk2 _ _ hp2
  refine l_icmp_eq (pc := 1482) (tgt := 1533) dL_law_1482 (by decide) (fun _ => ?_) (fun z_ => absurd rfl z_)
  exact hk m2 hR2
theorem lc_41 (Ln : Nat) (xs : Nat → Int32) (kc ks i : Nat) (hkc : kc ≤ 600000) (hks : ks ≤ 7302250) (hi : i + 7 ≤ Ln) (hL : Ln ≤ 3584) (RR : MM → Prop) (mm : MM) (hR : RR mm) (hstep : StepOK RR e_X11_restore e_X12_restore [.int (xs (i + 1))]) (hk : ∀ m2, RR m2 → GL Ln xs kc ks 1533 [(0, .ref 5000), (1, .ref 0), (2, .ref 156), (3, .int (nI i))] [] m2) : GL Ln xs kc ks 1487 [(0, .ref 5000), (1, .ref 0), (2, .ref 156), (3, .int (nI i))] [] mm := by
  refine l_aload_n (pc := 1487) (x := 0) dL_law_1487 rfl ?_
  refine l_aload_n (pc := 1488) (x := 5000) dL_law_1488 rfl ?_
  refine l_iload_n (pc := 1489) (x := nI i) dL_law_1489 rfl ?_
  refine l_iconst (pc := 1490) (v := nI 1) dL_law_1490 rfl ?_
  refine l_iadd (pc := 1491) dL_law_1491 ?_
  rw [nI_add]
  refine l_sld (pc := 1492) dL_law_1492 (vp_in_nI (by omega) (by omega)) ?_
  rw [nI_clamp (show i + 1 < 2 ^ 31 by omega)]
  obtain ⟨P1, hP1, hk1⟩ := hstep mm hR
  refine l_call (pc := 1493) (as := [.int (xs (i + 1))]) dL_law_1493 cl_189 (by decide) rfl rfl sh_0 (Nat.le_of_ble_eq_true rfl) hkc hks hP1 ?_
  intro r1 m1 hz1 hp1
  obtain ⟨v1, rfl⟩ := hz1
  obtain ⟨P2, hP2, hk2⟩ := hk1 _ _ hp1
  refine l_aload_n (pc := 1496) (x := 156) dL_law_1496 rfl ?_
  refine l_aload_n (pc := 1497) (x := 5000) dL_law_1497 rfl ?_
  refine l_iload_n (pc := 1498) (x := nI i) dL_law_1498 rfl ?_
  refine l_iconst (pc := 1499) (v := nI 1) dL_law_1499 rfl ?_
  refine l_iadd (pc := 1500) dL_law_1500 ?_
  rw [nI_add]
  refine l_sld (pc := 1501) dL_law_1501 (vp_in_nI (by omega) (by omega)) ?_
  rw [nI_clamp (show i + 1 < 2 ^ 31 by omega)]
  refine l_call (pc := 1502) (as := [.int (xs (i + 1))]) dL_law_1502 cl_192 (by decide) rfl rfl sh_156 (Nat.le_of_ble_eq_true rfl) hkc hks hP2 ?_
  intro r2 m2 hz2 hp2
  obtain ⟨rfl, hR2⟩ := hk2 _ _ hp2
  refine l_icmp_eq (pc := 1505) (tgt := 1533) dL_law_1505 (by decide) (fun _ => ?_) (fun z_ => absurd rfl z_)
  exact hk m2 hR2
theorem lc_42 (Ln : Nat) (xs : Nat → Int32) (kc ks i : Nat) (hkc : kc ≤ 600000) (hks : ks ≤ 7302250) (hi : i + 7 ≤ Ln) (hL : Ln ≤ 3584) (RR : MM → Prop) (mm : MM) (hR : RR mm) (hstep : StepOK RR e_X11_count e_X12_count [.int (xs (i + 1))]) (hk : ∀ m2, RR m2 → GL Ln xs kc ks 1533 [(0, .ref 5000), (1, .ref 0), (2, .ref 156), (3, .int (nI i))] [] m2) : GL Ln xs kc ks 1510 [(0, .ref 5000), (1, .ref 0), (2, .ref 156), (3, .int (nI i))] [] mm := by
  refine l_aload_n (pc := 1510) (x := 0) dL_law_1510 rfl ?_
  refine l_aload_n (pc := 1511) (x := 5000) dL_law_1511 rfl ?_
  refine l_iload_n (pc := 1512) (x := nI i) dL_law_1512 rfl ?_
  refine l_iconst (pc := 1513) (v := nI 1) dL_law_1513 rfl ?_
  refine l_iadd (pc := 1514) dL_law_1514 ?_
  rw [nI_add]
  refine l_sld (pc := 1515) dL_law_1515 (vp_in_nI (by omega) (by omega)) ?_
  rw [nI_clamp (show i + 1 < 2 ^ 31 by omega)]
  obtain ⟨P1, hP1, hk1⟩ := hstep mm hR
  refine l_call (pc := 1516) (as := [.int (xs (i + 1))]) dL_law_1516 cl_193 (by decide) rfl rfl sh_0 (Nat.le_of_ble_eq_true rfl) hkc hks hP1 ?_
  intro r1 m1 hz1 hp1
  obtain ⟨v1, rfl⟩ := hz1
  obtain ⟨P2, hP2, hk2⟩ := hk1 _ _ hp1
  refine l_aload_n (pc := 1519) (x := 156) dL_law_1519 rfl ?_
  refine l_aload_n (pc := 1520) (x := 5000) dL_law_1520 rfl ?_
  refine l_iload_n (pc := 1521) (x := nI i) dL_law_1521 rfl ?_
  refine l_iconst (pc := 1522) (v := nI 1) dL_law_1522 rfl ?_
  refine l_iadd (pc := 1523) dL_law_1523 ?_
  rw [nI_add]
  refine l_sld (pc := 1524) dL_law_1524 (vp_in_nI (by omega) (by omega)) ?_
  rw [nI_clamp (show i + 1 < 2 ^ 31 by omega)]
  refine l_call (pc := 1525) (as := [.int (xs (i + 1))]) dL_law_1525 cl_196 (by decide) rfl rfl sh_156 (Nat.le_of_ble_eq_true rfl) hkc hks hP2 ?_
  intro r2 m2 hz2 hp2
  obtain ⟨rfl, hR2⟩ := hk2 _ _ hp2
  refine l_icmp_eq (pc := 1528) (tgt := 1533) dL_law_1528 (by decide) (fun _ => ?_) (fun z_ => absurd rfl z_)
  exact hk m2 hR2
/-- every call that the law makes -/
def AllSteps (RR : MM → Prop) : Prop := (∀ (a1 : Int32) (a2 : Int32) (a3 : Int32) (a4 : Int32) (a5 : Int32), StepOK RR e_X11_feed e_X12_feed [.int a1, .int a2, .int a3, .int a4, .int a5]) ∧ (∀ (a1 : Int32), StepOK RR e_X11_back e_X12_back [.int a1]) ∧ (StepOK RR e_X11_read e_X12_read []) ∧ (StepOK RR e_X11_place e_X12_place []) ∧ (∀ (a1 : Int32) (a2 : Int32), StepOK RR e_X11_house e_X12_house [.int a1, .int a2]) ∧ (∀ (a1 : Int32) (a2 : Int32), StepOK RR e_X11_give e_X12_give [.int a1, .int a2]) ∧ (∀ (a1 : Int32), StepOK RR e_X11_holder e_X12_holder [.int a1]) ∧ (∀ (a1 : Int32), StepOK RR e_X11_months e_X12_months [.int a1]) ∧ (∀ (a1 : Int32), StepOK RR e_X11_tide e_X12_tide [.int a1]) ∧ (∀ (a1 : Int32), StepOK RR e_X11_wet e_X12_wet [.int a1]) ∧ (∀ (a1 : Int32), StepOK RR e_X11_reached e_X12_reached [.int a1]) ∧ (∀ (a1 : Int32), StepOK RR e_X11_hours e_X12_hours [.int a1]) ∧ (∀ (a1 : Int32), StepOK RR e_X11_meets e_X12_meets [.int a1]) ∧ (∀ (a1 : Int32) (a3 : Int32), StepOK RR e_X11_cut e_X12_cut [.int a1, .int (1 : Int32), .int a3]) ∧ (∀ (a1 : Int32) (a3 : Int32), StepOK RR e_X11_cut e_X12_cut [.int a1, .int (0 : Int32), .int a3]) ∧ (∀ (a2 : Int32), StepOK RR e_X11_worst e_X12_worst [.int (1 : Int32), .int a2]) ∧ (∀ (a2 : Int32), StepOK RR e_X11_worst e_X12_worst [.int (0 : Int32), .int a2]) ∧ (∀ (a1 : Int32), StepOK RR e_X11_law e_X12_law [.int a1]) ∧ (∀ (a1 : Int32), StepOK RR e_X11_wood e_X12_wood [.int a1]) ∧ (∀ (a1 : Int32) (a2 : Int32), StepOK RR e_X11_jack e_X12_jack [.int a1, .int a2]) ∧ (∀ (a1 : Int32) (a2 : Int32) (a3 : Int32), StepOK RR e_X11_work e_X12_work [.int a1, .int a2, .int a3]) ∧ (StepOK RR e_X11_forget e_X12_forget []) ∧ (StepOK RR e_X11_judge e_X12_judge []) ∧ (StepOK RR e_X11_done e_X12_done []) ∧ (StepOK RR e_X11_undo e_X12_undo []) ∧ (∀ (a1 : Int32), StepOK RR e_X11_nights e_X12_nights [.int a1]) ∧ (∀ (a1 : Int32) (a2 : Int32), StepOK RR e_X11_looks e_X12_looks [.int a1, .int a2]) ∧ (∀ (a1 : Int32), StepOK RR e_X11_light e_X12_light [.int a1]) ∧ (∀ (a1 : Int32) (a2 : Int32), StepOK RR e_X11_sway e_X12_sway [.int a1, .int a2]) ∧ (∀ (a1 : Int32) (a2 : Int32) (a3 : Int32), StepOK RR e_X11_chain e_X12_chain [.int a1, .int a2, .int a3]) ∧ (∀ (a1 : Int32), StepOK RR e_X11_dread e_X12_dread [.int a1]) ∧ (∀ (a1 : Int32), StepOK RR e_X11_year e_X12_year [.int a1]) ∧ (StepOK RR e_X11_clear e_X12_clear []) ∧ (∀ (a1 : Int32) (a2 : Int32) (a3 : Int32) (a4 : Int32) (a5 : Int32), StepOK RR e_X11_posts e_X12_posts [.int a1, .int a2, .int a3, .int a4, .int a5]) ∧ (∀ (a1 : Int32) (a2 : Int32) (a3 : Int32) (a4 : Int32) (a5 : Int32) (a6 : Int32), StepOK RR e_X11_postAt e_X12_postAt [.int a1, .int a2, .int a3, .int a4, .int a5, .int a6]) ∧ (∀ (a1 : Int32) (a2 : Int32) (a3 : Int32), StepOK RR e_X11_vote e_X12_vote [.int a1, .int a2, .int a3]) ∧ (∀ (a1 : Int32) (a2 : Int32) (a3 : Int32), StepOK RR e_X11_mark e_X12_mark [.int a1, .int a2, .int a3]) ∧ (∀ (a1 : Int32), StepOK RR e_X11_annul e_X12_annul [.int a1]) ∧ (∀ (a1 : Int32) (a2 : Int32) (a3 : Int32), StepOK RR e_X11_votes e_X12_votes [.int a1, .int a2, .int a3]) ∧ (∀ (a1 : Int32) (a2 : Int32), StepOK RR e_X11_winner e_X12_winner [.int a1, .int a2]) ∧ (∀ (a1 : Int32) (a2 : Int32) (a3 : Int32) (a4 : Int32), StepOK RR e_X11_ends e_X12_ends [.int a1, .int a2, .int a3, .int a4]) ∧ (∀ (a1 : Int32) (a2 : Int32), StepOK RR e_X11_years e_X12_years [.int a1, .int a2]) ∧ (∀ (a1 : Int32), StepOK RR e_X11_hold e_X12_hold [.int a1]) ∧ (∀ (a1 : Int32), StepOK RR e_X11_restore e_X12_restore [.int a1]) ∧ (∀ (a1 : Int32), StepOK RR e_X11_count e_X12_count [.int a1])
theorem law_loop (RR : MM → Prop) (hA : AllSteps RR) (Ln : Nat) (xs : Nat → Int32) (kc ks : Nat) (hkc : kc ≤ 600000) (hks : ks ≤ 7302250) (hL : Ln ≤ 3584) : ∀ (n i : Nat) (mm : MM), Ln + 7 ≤ i + n → i ≤ Ln → RR mm → GL Ln xs kc ks 18 [(0, .ref 5000), (1, .ref 0), (2, .ref 156), (3, .int (nI i))] [] mm := by
  intro n
  induction n with
  | zero => intro i mm h1 h2; exact absurd h1 (by omega)
  | succ n ih =>
    intro i mm h1 h2 hR
    refine l_iload_n (pc := 18) (x := nI i) dL_law_18 rfl ?_
    refine l_aload_n (pc := 19) (x := 5000) dL_law_19 rfl ?_
    refine l_slen (pc := 20) dL_law_20 ?_
    refine l_bipush (pc := 21) (v := nI 7) dL_law_21 rfl ?_
    refine l_isub (pc := 23) dL_law_23 ?_
    refine l_icmp_gt (pc := 24) (tgt := 1539) dL_law_24 (by decide) (fun _ => ?_) (fun c24 => ?_)
    · refine l_iconst (pc := 1539) (v := 1) dL_law_1539 rfl ?_
      exact l_ret1 (pc := 1540) dL_law_1540 hkc hks
    · have hi : i + 7 ≤ Ln := by
        have z := Int32.not_lt.mp c24
        have z2 := Int32.le_iff_toInt_le.mp z
        rw [pk_sub_toInt (by omega) (by omega), nI_toInt (by omega)] at z2
        omega
      have hk : ∀ m2, RR m2 → GL Ln xs kc ks 1533 [(0, .ref 5000), (1, .ref 0), (2, .ref 156), (3, .int (nI i))] [] m2 := by
        intro m2 hR2
        refine l_iinc (pc := 1533) (x := nI i) (v := nI (i + 7)) (L' := [(0, .ref 5000), (1, .ref 0), (2, .ref 156), (3, .int (nI (i + 7)))]) dL_law_1533 rfl (nI_add i 7) (by decide) rfl ?_
        refine l_goto (pc := 1536) (tgt := 18) dL_law_1536 (by decide) ?_
        exact ih (i + 7) m2 (by omega) (by omega) hR2
      refine l_aload_n (pc := 27) (x := 5000) dL_law_27 rfl ?_
      refine l_iload_n (pc := 28) (x := nI i) dL_law_28 rfl ?_
      refine l_sld (pc := 29) dL_law_29 (vp_in_nI (by omega) (by omega)) ?_
      rw [nI_clamp (show i < 2 ^ 31 by omega)]
      refine l_bipush (pc := 30) (v := 63) dL_law_30 (by decide) ?_
      refine l_iand (pc := 32) dL_law_32 ?_
      generalize xs i &&& 63 = sw
      by_cases c0 : sw = nI 0
      · refine l_tsIn (pc := 33) (off := 187) (tgt := 220) dL_law_33 (by rw [c0]; decide) (by rw [c0]; decide) (by rw [c0]; rfl) (by decide) ?_
        exact lc_0 Ln xs kc ks i hkc hks hi hL RR mm hR (hA.1 (xs (i + 1)) (xs (i + 2)) (xs (i + 3)) (xs (i + 4)) (xs (i + 5))) hk
      by_cases c1 : sw = nI 1
      · refine l_tsIn (pc := 33) (off := 250) (tgt := 283) dL_law_33 (by rw [c1]; decide) (by rw [c1]; decide) (by rw [c1]; rfl) (by decide) ?_
        exact lc_1 Ln xs kc ks i hkc hks hi hL RR mm hR (hA.2.1 (xs (i + 1))) hk
      by_cases c2 : sw = nI 2
      · refine l_tsIn (pc := 33) (off := 273) (tgt := 306) dL_law_33 (by rw [c2]; decide) (by rw [c2]; decide) (by rw [c2]; rfl) (by decide) ?_
        exact lc_2 Ln xs kc ks i hkc hks hi hL RR mm hR (hA.2.2.1) hk
      by_cases c3 : sw = nI 3
      · refine l_tsIn (pc := 33) (off := 286) (tgt := 319) dL_law_33 (by rw [c3]; decide) (by rw [c3]; decide) (by rw [c3]; rfl) (by decide) ?_
        exact lc_3 Ln xs kc ks i hkc hks hi hL RR mm hR (hA.2.2.2.1) hk
      by_cases c4 : sw = nI 4
      · refine l_tsIn (pc := 33) (off := 299) (tgt := 332) dL_law_33 (by rw [c4]; decide) (by rw [c4]; decide) (by rw [c4]; rfl) (by decide) ?_
        exact lc_4 Ln xs kc ks i hkc hks hi hL RR mm hR (hA.2.2.2.2.1 (xs (i + 1)) (xs (i + 2))) hk
      by_cases c5 : sw = nI 5
      · refine l_tsIn (pc := 33) (off := 332) (tgt := 365) dL_law_33 (by rw [c5]; decide) (by rw [c5]; decide) (by rw [c5]; rfl) (by decide) ?_
        exact lc_5 Ln xs kc ks i hkc hks hi hL RR mm hR (hA.2.2.2.2.2.1 (xs (i + 1)) (xs (i + 2))) hk
      by_cases c6 : sw = nI 6
      · refine l_tsIn (pc := 33) (off := 365) (tgt := 398) dL_law_33 (by rw [c6]; decide) (by rw [c6]; decide) (by rw [c6]; rfl) (by decide) ?_
        exact lc_6 Ln xs kc ks i hkc hks hi hL RR mm hR (hA.2.2.2.2.2.2.1 (xs (i + 1))) hk
      by_cases c7 : sw = nI 7
      · refine l_tsIn (pc := 33) (off := 388) (tgt := 421) dL_law_33 (by rw [c7]; decide) (by rw [c7]; decide) (by rw [c7]; rfl) (by decide) ?_
        exact lc_7 Ln xs kc ks i hkc hks hi hL RR mm hR (hA.2.2.2.2.2.2.2.1 (xs (i + 1))) hk
      by_cases c8 : sw = nI 8
      · refine l_tsIn (pc := 33) (off := 411) (tgt := 444) dL_law_33 (by rw [c8]; decide) (by rw [c8]; decide) (by rw [c8]; rfl) (by decide) ?_
        exact lc_8 Ln xs kc ks i hkc hks hi hL RR mm hR (hA.2.2.2.2.2.2.2.2.1 (xs (i + 1))) hk
      by_cases c9 : sw = nI 9
      · refine l_tsIn (pc := 33) (off := 434) (tgt := 467) dL_law_33 (by rw [c9]; decide) (by rw [c9]; decide) (by rw [c9]; rfl) (by decide) ?_
        exact lc_9 Ln xs kc ks i hkc hks hi hL RR mm hR (hA.2.2.2.2.2.2.2.2.2.1 (xs (i + 1))) hk
      by_cases c10 : sw = nI 10
      · refine l_tsIn (pc := 33) (off := 457) (tgt := 490) dL_law_33 (by rw [c10]; decide) (by rw [c10]; decide) (by rw [c10]; rfl) (by decide) ?_
        exact lc_10 Ln xs kc ks i hkc hks hi hL RR mm hR (hA.2.2.2.2.2.2.2.2.2.2.1 (xs (i + 1))) hk
      by_cases c11 : sw = nI 11
      · refine l_tsIn (pc := 33) (off := 480) (tgt := 513) dL_law_33 (by rw [c11]; decide) (by rw [c11]; decide) (by rw [c11]; rfl) (by decide) ?_
        exact lc_11 Ln xs kc ks i hkc hks hi hL RR mm hR (hA.2.2.2.2.2.2.2.2.2.2.2.1 (xs (i + 1))) hk
      by_cases c12 : sw = nI 12
      · refine l_tsIn (pc := 33) (off := 503) (tgt := 536) dL_law_33 (by rw [c12]; decide) (by rw [c12]; decide) (by rw [c12]; rfl) (by decide) ?_
        exact lc_12 Ln xs kc ks i hkc hks hi hL RR mm hR (hA.2.2.2.2.2.2.2.2.2.2.2.2.1 (xs (i + 1))) hk
      by_cases c13 : sw = nI 13
      · refine l_tsIn (pc := 33) (off := 526) (tgt := 559) dL_law_33 (by rw [c13]; decide) (by rw [c13]; decide) (by rw [c13]; rfl) (by decide) ?_
        by_cases hb : xs (i + 2) = 0
        · exact lc_13_1 Ln xs kc ks i hkc hks hi hL RR mm hR hb (hA.2.2.2.2.2.2.2.2.2.2.2.2.2.2.1 (xs (i + 1)) (xs (i + 3))) hk
        · exact lc_13_0 Ln xs kc ks i hkc hks hi hL RR mm hR hb (hA.2.2.2.2.2.2.2.2.2.2.2.2.2.1 (xs (i + 1)) (xs (i + 3))) hk
      by_cases c14 : sw = nI 14
      · refine l_tsIn (pc := 33) (off := 585) (tgt := 618) dL_law_33 (by rw [c14]; decide) (by rw [c14]; decide) (by rw [c14]; rfl) (by decide) ?_
        by_cases hb : xs (i + 1) = 0
        · exact lc_14_1 Ln xs kc ks i hkc hks hi hL RR mm hR hb (hA.2.2.2.2.2.2.2.2.2.2.2.2.2.2.2.2.1 (xs (i + 2))) hk
        · exact lc_14_0 Ln xs kc ks i hkc hks hi hL RR mm hR hb (hA.2.2.2.2.2.2.2.2.2.2.2.2.2.2.2.1 (xs (i + 2))) hk
      by_cases c15 : sw = nI 15
      · refine l_tsIn (pc := 33) (off := 634) (tgt := 667) dL_law_33 (by rw [c15]; decide) (by rw [c15]; decide) (by rw [c15]; rfl) (by decide) ?_
        exact lc_15 Ln xs kc ks i hkc hks hi hL RR mm hR (hA.2.2.2.2.2.2.2.2.2.2.2.2.2.2.2.2.2.1 (xs (i + 1))) hk
      by_cases c16 : sw = nI 16
      · refine l_tsIn (pc := 33) (off := 657) (tgt := 690) dL_law_33 (by rw [c16]; decide) (by rw [c16]; decide) (by rw [c16]; rfl) (by decide) ?_
        exact lc_16 Ln xs kc ks i hkc hks hi hL RR mm hR (hA.2.2.2.2.2.2.2.2.2.2.2.2.2.2.2.2.2.2.1 (xs (i + 1))) hk
      by_cases c17 : sw = nI 17
      · refine l_tsIn (pc := 33) (off := 680) (tgt := 713) dL_law_33 (by rw [c17]; decide) (by rw [c17]; decide) (by rw [c17]; rfl) (by decide) ?_
        exact lc_17 Ln xs kc ks i hkc hks hi hL RR mm hR (hA.2.2.2.2.2.2.2.2.2.2.2.2.2.2.2.2.2.2.2.1 (xs (i + 1)) (xs (i + 2))) hk
      by_cases c18 : sw = nI 18
      · refine l_tsIn (pc := 33) (off := 713) (tgt := 746) dL_law_33 (by rw [c18]; decide) (by rw [c18]; decide) (by rw [c18]; rfl) (by decide) ?_
        exact lc_18 Ln xs kc ks i hkc hks hi hL RR mm hR (hA.2.2.2.2.2.2.2.2.2.2.2.2.2.2.2.2.2.2.2.2.1 (xs (i + 1)) (xs (i + 2)) (xs (i + 3))) hk
      by_cases c19 : sw = nI 19
      · refine l_tsIn (pc := 33) (off := 756) (tgt := 789) dL_law_33 (by rw [c19]; decide) (by rw [c19]; decide) (by rw [c19]; rfl) (by decide) ?_
        exact lc_19 Ln xs kc ks i hkc hks hi hL RR mm hR (hA.2.2.2.2.2.2.2.2.2.2.2.2.2.2.2.2.2.2.2.2.2.1) hk
      by_cases c20 : sw = nI 20
      · refine l_tsIn (pc := 33) (off := 769) (tgt := 802) dL_law_33 (by rw [c20]; decide) (by rw [c20]; decide) (by rw [c20]; rfl) (by decide) ?_
        exact lc_20 Ln xs kc ks i hkc hks hi hL RR mm hR (hA.2.2.2.2.2.2.2.2.2.2.2.2.2.2.2.2.2.2.2.2.2.2.1) hk
      by_cases c21 : sw = nI 21
      · refine l_tsIn (pc := 33) (off := 782) (tgt := 815) dL_law_33 (by rw [c21]; decide) (by rw [c21]; decide) (by rw [c21]; rfl) (by decide) ?_
        exact lc_21 Ln xs kc ks i hkc hks hi hL RR mm hR (hA.2.2.2.2.2.2.2.2.2.2.2.2.2.2.2.2.2.2.2.2.2.2.2.1) hk
      by_cases c22 : sw = nI 22
      · refine l_tsIn (pc := 33) (off := 795) (tgt := 828) dL_law_33 (by rw [c22]; decide) (by rw [c22]; decide) (by rw [c22]; rfl) (by decide) ?_
        exact lc_22 Ln xs kc ks i hkc hks hi hL RR mm hR (hA.2.2.2.2.2.2.2.2.2.2.2.2.2.2.2.2.2.2.2.2.2.2.2.2.1) hk
      by_cases c23 : sw = nI 23
      · refine l_tsIn (pc := 33) (off := 808) (tgt := 841) dL_law_33 (by rw [c23]; decide) (by rw [c23]; decide) (by rw [c23]; rfl) (by decide) ?_
        exact lc_23 Ln xs kc ks i hkc hks hi hL RR mm hR (hA.2.2.2.2.2.2.2.2.2.2.2.2.2.2.2.2.2.2.2.2.2.2.2.2.2.1 (xs (i + 1))) hk
      by_cases c24 : sw = nI 24
      · refine l_tsIn (pc := 33) (off := 831) (tgt := 864) dL_law_33 (by rw [c24]; decide) (by rw [c24]; decide) (by rw [c24]; rfl) (by decide) ?_
        exact lc_24 Ln xs kc ks i hkc hks hi hL RR mm hR (hA.2.2.2.2.2.2.2.2.2.2.2.2.2.2.2.2.2.2.2.2.2.2.2.2.2.2.1 (xs (i + 1)) (xs (i + 2))) hk
      by_cases c25 : sw = nI 25
      · refine l_tsIn (pc := 33) (off := 864) (tgt := 897) dL_law_33 (by rw [c25]; decide) (by rw [c25]; decide) (by rw [c25]; rfl) (by decide) ?_
        exact lc_25 Ln xs kc ks i hkc hks hi hL RR mm hR (hA.2.2.2.2.2.2.2.2.2.2.2.2.2.2.2.2.2.2.2.2.2.2.2.2.2.2.2.1 (xs (i + 1))) hk
      by_cases c26 : sw = nI 26
      · refine l_tsIn (pc := 33) (off := 887) (tgt := 920) dL_law_33 (by rw [c26]; decide) (by rw [c26]; decide) (by rw [c26]; rfl) (by decide) ?_
        exact lc_26 Ln xs kc ks i hkc hks hi hL RR mm hR (hA.2.2.2.2.2.2.2.2.2.2.2.2.2.2.2.2.2.2.2.2.2.2.2.2.2.2.2.2.1 (xs (i + 1)) (xs (i + 2))) hk
      by_cases c27 : sw = nI 27
      · refine l_tsIn (pc := 33) (off := 920) (tgt := 953) dL_law_33 (by rw [c27]; decide) (by rw [c27]; decide) (by rw [c27]; rfl) (by decide) ?_
        exact lc_27 Ln xs kc ks i hkc hks hi hL RR mm hR (hA.2.2.2.2.2.2.2.2.2.2.2.2.2.2.2.2.2.2.2.2.2.2.2.2.2.2.2.2.2.1 (xs (i + 1)) (xs (i + 2)) (xs (i + 3))) hk
      by_cases c28 : sw = nI 28
      · refine l_tsIn (pc := 33) (off := 963) (tgt := 996) dL_law_33 (by rw [c28]; decide) (by rw [c28]; decide) (by rw [c28]; rfl) (by decide) ?_
        exact lc_28 Ln xs kc ks i hkc hks hi hL RR mm hR (hA.2.2.2.2.2.2.2.2.2.2.2.2.2.2.2.2.2.2.2.2.2.2.2.2.2.2.2.2.2.2.1 (xs (i + 1))) hk
      by_cases c29 : sw = nI 29
      · refine l_tsIn (pc := 33) (off := 986) (tgt := 1019) dL_law_33 (by rw [c29]; decide) (by rw [c29]; decide) (by rw [c29]; rfl) (by decide) ?_
        exact lc_29 Ln xs kc ks i hkc hks hi hL RR mm hR (hA.2.2.2.2.2.2.2.2.2.2.2.2.2.2.2.2.2.2.2.2.2.2.2.2.2.2.2.2.2.2.2.1 (xs (i + 1))) hk
      by_cases c30 : sw = nI 30
      · refine l_tsIn (pc := 33) (off := 1009) (tgt := 1042) dL_law_33 (by rw [c30]; decide) (by rw [c30]; decide) (by rw [c30]; rfl) (by decide) ?_
        exact lc_30 Ln xs kc ks i hkc hks hi hL RR mm hR (hA.2.2.2.2.2.2.2.2.2.2.2.2.2.2.2.2.2.2.2.2.2.2.2.2.2.2.2.2.2.2.2.2.1) hk
      by_cases c31 : sw = nI 31
      · refine l_tsIn (pc := 33) (off := 1022) (tgt := 1055) dL_law_33 (by rw [c31]; decide) (by rw [c31]; decide) (by rw [c31]; rfl) (by decide) ?_
        exact lc_31 Ln xs kc ks i hkc hks hi hL RR mm hR (hA.2.2.2.2.2.2.2.2.2.2.2.2.2.2.2.2.2.2.2.2.2.2.2.2.2.2.2.2.2.2.2.2.2.1 (xs (i + 1)) (xs (i + 2)) (xs (i + 3)) (xs (i + 4)) (xs (i + 5))) hk
      by_cases c32 : sw = nI 32
      · refine l_tsIn (pc := 33) (off := 1085) (tgt := 1118) dL_law_33 (by rw [c32]; decide) (by rw [c32]; decide) (by rw [c32]; rfl) (by decide) ?_
        exact lc_32 Ln xs kc ks i hkc hks hi hL RR mm hR (hA.2.2.2.2.2.2.2.2.2.2.2.2.2.2.2.2.2.2.2.2.2.2.2.2.2.2.2.2.2.2.2.2.2.2.1 (xs (i + 1)) (xs (i + 2)) (xs (i + 3)) (xs (i + 4)) (xs (i + 5)) (xs (i + 6))) hk
      by_cases c33 : sw = nI 33
      · refine l_tsIn (pc := 33) (off := 1160) (tgt := 1193) dL_law_33 (by rw [c33]; decide) (by rw [c33]; decide) (by rw [c33]; rfl) (by decide) ?_
        exact lc_33 Ln xs kc ks i hkc hks hi hL RR mm hR (hA.2.2.2.2.2.2.2.2.2.2.2.2.2.2.2.2.2.2.2.2.2.2.2.2.2.2.2.2.2.2.2.2.2.2.2.1 (xs (i + 1)) (xs (i + 2)) (xs (i + 3))) hk
      by_cases c34 : sw = nI 34
      · refine l_tsIn (pc := 33) (off := 1203) (tgt := 1236) dL_law_33 (by rw [c34]; decide) (by rw [c34]; decide) (by rw [c34]; rfl) (by decide) ?_
        exact lc_34 Ln xs kc ks i hkc hks hi hL RR mm hR (hA.2.2.2.2.2.2.2.2.2.2.2.2.2.2.2.2.2.2.2.2.2.2.2.2.2.2.2.2.2.2.2.2.2.2.2.2.1 (xs (i + 1)) (xs (i + 2)) (xs (i + 3))) hk
      by_cases c35 : sw = nI 35
      · refine l_tsIn (pc := 33) (off := 1246) (tgt := 1279) dL_law_33 (by rw [c35]; decide) (by rw [c35]; decide) (by rw [c35]; rfl) (by decide) ?_
        exact lc_35 Ln xs kc ks i hkc hks hi hL RR mm hR (hA.2.2.2.2.2.2.2.2.2.2.2.2.2.2.2.2.2.2.2.2.2.2.2.2.2.2.2.2.2.2.2.2.2.2.2.2.2.1 (xs (i + 1))) hk
      by_cases c36 : sw = nI 36
      · refine l_tsIn (pc := 33) (off := 1269) (tgt := 1302) dL_law_33 (by rw [c36]; decide) (by rw [c36]; decide) (by rw [c36]; rfl) (by decide) ?_
        exact lc_36 Ln xs kc ks i hkc hks hi hL RR mm hR (hA.2.2.2.2.2.2.2.2.2.2.2.2.2.2.2.2.2.2.2.2.2.2.2.2.2.2.2.2.2.2.2.2.2.2.2.2.2.2.1 (xs (i + 1)) (xs (i + 2)) (xs (i + 3))) hk
      by_cases c37 : sw = nI 37
      · refine l_tsIn (pc := 33) (off := 1312) (tgt := 1345) dL_law_33 (by rw [c37]; decide) (by rw [c37]; decide) (by rw [c37]; rfl) (by decide) ?_
        exact lc_37 Ln xs kc ks i hkc hks hi hL RR mm hR (hA.2.2.2.2.2.2.2.2.2.2.2.2.2.2.2.2.2.2.2.2.2.2.2.2.2.2.2.2.2.2.2.2.2.2.2.2.2.2.2.1 (xs (i + 1)) (xs (i + 2))) hk
      by_cases c38 : sw = nI 38
      · refine l_tsIn (pc := 33) (off := 1345) (tgt := 1378) dL_law_33 (by rw [c38]; decide) (by rw [c38]; decide) (by rw [c38]; rfl) (by decide) ?_
        exact lc_38 Ln xs kc ks i hkc hks hi hL RR mm hR (hA.2.2.2.2.2.2.2.2.2.2.2.2.2.2.2.2.2.2.2.2.2.2.2.2.2.2.2.2.2.2.2.2.2.2.2.2.2.2.2.2.1 (xs (i + 1)) (xs (i + 2)) (xs (i + 3)) (xs (i + 4))) hk
      by_cases c39 : sw = nI 39
      · refine l_tsIn (pc := 33) (off := 1398) (tgt := 1431) dL_law_33 (by rw [c39]; decide) (by rw [c39]; decide) (by rw [c39]; rfl) (by decide) ?_
        exact lc_39 Ln xs kc ks i hkc hks hi hL RR mm hR (hA.2.2.2.2.2.2.2.2.2.2.2.2.2.2.2.2.2.2.2.2.2.2.2.2.2.2.2.2.2.2.2.2.2.2.2.2.2.2.2.2.2.1 (xs (i + 1)) (xs (i + 2))) hk
      by_cases c40 : sw = nI 40
      · refine l_tsIn (pc := 33) (off := 1431) (tgt := 1464) dL_law_33 (by rw [c40]; decide) (by rw [c40]; decide) (by rw [c40]; rfl) (by decide) ?_
        exact lc_40 Ln xs kc ks i hkc hks hi hL RR mm hR (hA.2.2.2.2.2.2.2.2.2.2.2.2.2.2.2.2.2.2.2.2.2.2.2.2.2.2.2.2.2.2.2.2.2.2.2.2.2.2.2.2.2.2.1 (xs (i + 1))) hk
      by_cases c41 : sw = nI 41
      · refine l_tsIn (pc := 33) (off := 1454) (tgt := 1487) dL_law_33 (by rw [c41]; decide) (by rw [c41]; decide) (by rw [c41]; rfl) (by decide) ?_
        exact lc_41 Ln xs kc ks i hkc hks hi hL RR mm hR (hA.2.2.2.2.2.2.2.2.2.2.2.2.2.2.2.2.2.2.2.2.2.2.2.2.2.2.2.2.2.2.2.2.2.2.2.2.2.2.2.2.2.2.2.1 (xs (i + 1))) hk
      by_cases c42 : sw = nI 42
      · refine l_tsIn (pc := 33) (off := 1477) (tgt := 1510) dL_law_33 (by rw [c42]; decide) (by rw [c42]; decide) (by rw [c42]; rfl) (by decide) ?_
        exact lc_42 Ln xs kc ks i hkc hks hi hL RR mm hR (hA.2.2.2.2.2.2.2.2.2.2.2.2.2.2.2.2.2.2.2.2.2.2.2.2.2.2.2.2.2.2.2.2.2.2.2.2.2.2.2.2.2.2.2.2 (xs (i + 1))) hk
      refine l_tsOut (pc := 33) (tgt := 1533) dL_law_33 (by have e0 := ts_ne (k := 0) c0 (by decide); have e1 := ts_ne (k := 1) c1 (by decide); have e2 := ts_ne (k := 2) c2 (by decide); have e3 := ts_ne (k := 3) c3 (by decide); have e4 := ts_ne (k := 4) c4 (by decide); have e5 := ts_ne (k := 5) c5 (by decide); have e6 := ts_ne (k := 6) c6 (by decide); have e7 := ts_ne (k := 7) c7 (by decide); have e8 := ts_ne (k := 8) c8 (by decide); have e9 := ts_ne (k := 9) c9 (by decide); have e10 := ts_ne (k := 10) c10 (by decide); have e11 := ts_ne (k := 11) c11 (by decide); have e12 := ts_ne (k := 12) c12 (by decide); have e13 := ts_ne (k := 13) c13 (by decide); have e14 := ts_ne (k := 14) c14 (by decide); have e15 := ts_ne (k := 15) c15 (by decide); have e16 := ts_ne (k := 16) c16 (by decide); have e17 := ts_ne (k := 17) c17 (by decide); have e18 := ts_ne (k := 18) c18 (by decide); have e19 := ts_ne (k := 19) c19 (by decide); have e20 := ts_ne (k := 20) c20 (by decide); have e21 := ts_ne (k := 21) c21 (by decide); have e22 := ts_ne (k := 22) c22 (by decide); have e23 := ts_ne (k := 23) c23 (by decide); have e24 := ts_ne (k := 24) c24 (by decide); have e25 := ts_ne (k := 25) c25 (by decide); have e26 := ts_ne (k := 26) c26 (by decide); have e27 := ts_ne (k := 27) c27 (by decide); have e28 := ts_ne (k := 28) c28 (by decide); have e29 := ts_ne (k := 29) c29 (by decide); have e30 := ts_ne (k := 30) c30 (by decide); have e31 := ts_ne (k := 31) c31 (by decide); have e32 := ts_ne (k := 32) c32 (by decide); have e33 := ts_ne (k := 33) c33 (by decide); have e34 := ts_ne (k := 34) c34 (by decide); have e35 := ts_ne (k := 35) c35 (by decide); have e36 := ts_ne (k := 36) c36 (by decide); have e37 := ts_ne (k := 37) c37 (by decide); have e38 := ts_ne (k := 38) c38 (by decide); have e39 := ts_ne (k := 39) c39 (by decide); have e40 := ts_ne (k := 40) c40 (by decide); have e41 := ts_ne (k := 41) c41 (by decide); have e42 := ts_ne (k := 42) c42 (by decide); omega) (by decide) ?_
      exact hk mm hR

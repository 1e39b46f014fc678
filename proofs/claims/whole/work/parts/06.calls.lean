/-- returns -/
theorem va_S.forget {A : Nat → Prop} {H0 H : Heap} {locs : List Loc} (h : va_S A H0 H locs) : ∀ q ∈ locs, A q.base := h.2.2
theorem g_iret {Y : ME} {pc : Nat} {L : List (Nat × Value)} {mm : MM} {Q : Value → MM → Prop} {v : Int32} {ty : FieldType} (d : decode (mB Y) pc = .ok (.ireturn, 1)) (hr : mR Y = some ty) (hk : mK Y = 1) (hn : narrow ty (.int v) = .int v) (k : Q (.int v) mm) : G Y pc L [.int v] mm Q := by
  intro p l e s m args below meth c D ad ca A C H locs ls hP hS hl
  rw [hk]
  exact W.zret (v := v) C.1 C.2.1 (C.2.2.2.1.trans hr) hn (fun t ht hW => ⟨⟨v, mm, rfl, k, by rw [ht]; exact hP, va_K.moved hW.alike C.2.2.2.2.2.2.2.1⟩, hS.F ht⟩) hS.2.2 d C.2.2.2.2.1
theorem g_lret {Y : ME} {pc : Nat} {L : List (Nat × Value)} {mm : MM} {Q : Value → MM → Prop} {v : Int64} (d : decode (mB Y) pc = .ok (.lreturn, 1)) (hr : mR Y = some .long) (hk : mK Y = 2) (k : Q (.long v) mm) : G Y pc L [.long v] mm Q := by
  intro p l e s m args below meth c D ad ca A C H locs ls hP hS hl
  rw [hk]
  exact W.lret (v := v) C.1 C.2.1 (C.2.2.2.1.trans hr) (fun t ht hW => ⟨⟨v, mm, rfl, k, by rw [ht]; exact hP, va_K.moved hW.alike C.2.2.2.2.2.2.2.1⟩, hS.F ht⟩) hS.2.2 d C.2.2.2.2.1
theorem g_vret {Y : ME} {pc : Nat} {L : List (Nat × Value)} {mm : MM} {Q : Value → MM → Prop} (d : decode (mB Y) pc = .ok (.return_, 1)) (hr : mR Y = none) (hk : mK Y = 0) (k : Q .null mm) : G Y pc L [] mm Q := by
  intro p l e s m args below meth c D ad ca A C H locs ls hP hS hl
  rw [hk]
  exact W.vret C.1 C.2.1 (C.2.2.2.1.trans hr) (fun t ht hW => ⟨⟨mm, rfl, k, by rw [ht]; exact hP, va_K.moved hW.alike C.2.2.2.2.2.2.2.1⟩, hS.F ht⟩) hS.2.2 d C.2.2.2.2.1
theorem g_aret {Y : ME} {pc : Nat} {L : List (Nat × Value)} {mm : MM} {Q : Value → MM → Prop} {r : Nat} {nm : String} (d : decode (mB Y) pc = .ok (.areturn, 1)) (hr : mR Y = some (.object nm)) (hk : mK Y = 3) (k : Q (.ref r) mm) : G Y pc L [.ref r] mm Q := by
  intro p l e s m args below meth c D ad ca A C H locs ls hP hS hl
  rw [hk]
  exact W.aret (v := .ref (ad r)) C.1 C.2.1 (C.2.2.2.1.trans hr) (Or.inl ⟨nm, rfl⟩) (Or.inr ⟨_, rfl⟩) (fun t ht hW => ⟨⟨(mm, r), ad r, rfl, k, rfl, by rw [ht]; exact hP, va_K.moved hW.alike C.2.2.2.2.2.2.2.1⟩, hS.F ht⟩) hS.2.2 d C.2.2.2.2.1
/-- the words of a method -/
def wsM (Y : ME) : List Cond := Cond.code (mN Y) (mB Y) (mL Y) (mR Y) :: bigW
/-- what a call finds -/
def PcG (as : List Value) (mm : MM) (D : va_G) (ad : Nat → Nat) (ca : Nat → ClassId) (sz : Nat) : Array Value → State → Prop :=
  va_Pc (cS ad as) (fun U => U.heap.size = sz ∧ va_P D classes (wsOf ad ca mm) U.heap ∧ va_K D classes (tysOf ca) U ∧ (∀ i, i < nS → ad i < sz) ∧ StrX ad (adA ad sz) U U.heap)
/-- called with these arguments over this memory, Y comes back with Q -/
def Runs (Y : ME) (as : List Value) (mm : MM) (Q : Value → MM → Prop) : Prop :=
  ∀ (l : Launch) (D : va_G) (ad : Nat → Nat) (ca : Nat → ClassId) (sz : Nat), adI ad → Met l (mN Y) (wsM Y) (rmD (mD Y)) (PcG as mm D ad ca sz) (QcG (mK Y) D ad ca (adA ad sz) Q) 0 0 (adA ad sz)
def largs : Nat → List Value → List (Nat × Value)
  | _, [] => []
  | i, v :: vs => (i, v) :: largs (if v.category = 2 then i + 2 else i + 1) vs
theorem largs_lv (ad : Nat → Nat) : ∀ (vs : List Value) (i : Nat), lv_args i (cS ad vs) = cL ad (largs i vs)
  | [], i => rfl
  | v :: vs, i => by
    show (i, cv ad v) :: lv_args (if (cv ad v).category = 2 then i + 2 else i + 1) (cS ad vs) = (i, cv ad v) :: cL ad (largs (if v.category = 2 then i + 2 else i + 1) vs)
    rw [cv_cat, largs_lv ad vs]
theorem lg_len (ad : Nat → Nat) : ∀ (vs : List Value), (lg_sl (cS ad vs)).length = (vs.map fun v => v.category).sum
  | [] => rfl
  | v :: vs => by
    have ih := lg_len ad vs
    have e : lg_sl (cS ad (v :: vs)) = (if (cv ad v).category = 2 then [.val (cv ad v), .second] else [.val (cv ad v)]) ++ lg_sl (cS ad vs) := rfl
    rw [e, cv_cat, List.length_append, ih]
    simp only [List.map_cons, List.sum_cons]
    cases v <;> simp [Value.category] <;> omega
theorem ZX.moved {ad : Nat → Nat} {A : Nat → Prop} {u U : State} {H : Heap} (hv : u.vm.Alike U.vm) (h : ZX ad A u H) : ZX ad A U H := ⟨va_Z.moved hv h.1, h.2.imp (va_Z.moved hv) (va_Z.moved hv)⟩
theorem ZX.kept {ad : Nat → Nat} {A : Nat → Prop} {U : State} {H H1 : Heap} (h : ZX ad A U H) (hq : ∀ a : Nat, a < H.size → ¬ A a → H1[a]? = H[a]?) : ZX ad A U H1 := ⟨h.1.kept hq, h.2.imp (fun z => z.kept hq) (fun z => z.kept hq)⟩
theorem ZX.narrow {ad : Nat → Nat} {A B : Nat → Prop} {U : State} {H : Heap} (h : ZX ad A U H) (hAB : ∀ q, B q → A q) : ZX ad B U H := ⟨h.1.narrow hAB, h.2.imp (fun z => z.narrow hAB) (fun z => z.narrow hAB)⟩
theorem ZX.ad {ad ad' : Nat → Nat} {A : Nat → Prop} {U : State} {H : Heap} (e : ad' 6000 = ad 6000) (h : ZX ad A U H) : ZX ad' A U H := by
  unfold ZX
  rw [e]
  exact h
theorem StrX.moved {ad : Nat → Nat} {A : Nat → Prop} {u U : State} {H : Heap} (hv : U.vm = u.vm) (h : StrX ad A u H) : StrX ad A U H :=
  ⟨⟨vk_S.moved (by rw [hv]; exact Vm.Alike.refl _) h.1.1, ZX.moved (by rw [hv]; exact Vm.Alike.refl _) h.1.2⟩, fun i q hq => (h.2.1 i q hq).same hv, fun q hq => va_Nw.same rfl hv.symm (h.2.2 q hq)⟩
theorem runs_of_G {Y : ME} {as : List Value} {L : List (Nat × Value)} {mm : MM} {Q : Value → MM → Prop} (hp : plainName (mN Y).cls = true) (hn : (as.map fun v => v.category).sum ≤ mL Y) (hL : largs 0 as = L) (h : G Y 0 L [] mm Q) : Runs Y as mm Q := by
  intro l D ad ca sz hI
  refine Met.ofW (cc := mB Y) (maxL := mL Y) (ret := mR Y) hp rfl ?_
  intro p e s m args below meth c s₁ B hml hv
  obtain ⟨rfl, hsz, hP, hK, hX, hE⟩ := hv
  have hx := B.exec
  have hb := B.bytes
  have hr := B.returns
  have hts := atoms_spec (ws := wsM Y) B.pre
  have hown : s.vm.findClass (mN Y).cls = some m.cls := findClass_of_methodNamed B.named
  have hlocks := B.notSynchronized
  subst hsz
  have hS : va_S (adA ad s.heap.size) s.heap s.heap [] := va_S.rf
  have hl := lv_entry (cS ad as) (n := mL Y) (by rw [lg_len]; exact hn)
  rw [lg_entry_eq]
  generalize (lg_sl (cS ad as) ++ List.replicate (mL Y - (lg_sl (cS ad as)).length) Slot.unset).toArray = ls at hl ⊢
  rw [largs_lv, hL] at hl
  exact h p l e s m _ below meth c D ad ca (adA ad s.heap.size) ⟨hx, hb, hml, hr, hlocks, hown, fun w hw => hts w (List.mem_cons_of_mem _ hw), hK, hI, fun i hi => Or.inl ⟨i, hi, rfl⟩, fun q hq => Or.inr hq, hE⟩ s.heap [] ls hP hS hl
def rK (kd : Nat) (r : Value) : Prop := match kd with
  | 0 => r = .null
  | 1 => ∃ x : Int32, r = .int x
  | 2 => ∃ x : Int64, r = .long x
  | _ => ∃ x : Nat, r = .ref x
/-- behind a call -/
def pushA (kd : Nat) (r : Value) (rest : List Value) : List Value := match kd with
  | 0 => rest
  | _ => r :: rest
section GA
variable {p : Program} {l : Launch} {e : Env} {R : Room} {s : State} {m : MethodId} {args : Array Value} {below : List Frame} {meth : Method} {c : Code} {H : Heap} {locs : List Loc} {Q : State → Prop}
variable {pc : Nat} {ls : Array Slot} {st0 : List Value} {a : Array Value} {A0 A1 : Nat → Prop}
theorem g_after {D : va_G} {ad : Nat → Nat} {ca : Nat → ClassId} {kd : Nat} (hkd : kd < 4) {P : Value → MM → Prop} {rest : List Value} (hr : va_Run p l e R s m args below meth c H locs 0 0 0 0 (F0 m pc ls st0) (cS ad rest) (QcG kd D ad ca A1 P a) A1) (hS : va_S A0 s.heap H locs) (hf : ∀ q, A1 q → A0 q)
    (kk : ∀ (r : Value) (u : MM) (H1 : Heap) (locs1 : List Loc), rK kd r → P r u → va_P D classes (wsOf ad ca u) H1 → va_S A0 s.heap H1 locs1 → W p l e R s m args below meth c H1 locs1 0 0 Q (F0 m (pc + 3) ls (cS ad (pushA kd r rest)))) : W p l e R s m args below meth c H locs 0 0 Q (F0 m pc ls st0) := by
  match kd, hkd with
  | 0, _ => exact va_callv (a := a) hr hS (fun q _ h => hf q h) hf (fun u t H1 locs1 ht hvm hw hB hz hk hS1 => kk .null u H1 locs1 rfl hw (by rw [← ht]; exact hB.1) hS1)
  | 1, _ => exact va_calli (a := a) hr hS (fun q _ h => hf q h) hf (fun r u t H1 locs1 ht hvm hw hB hz hk hS1 => kk (.int r) u H1 locs1 ⟨r, rfl⟩ hw (by rw [← ht]; exact hB.1) hS1)
  | 2, _ => exact va_calll (a := a) hr hS (fun q _ h => hf q h) hf (fun r u t H1 locs1 ht hvm hw hB hz hk hS1 => kk (.long r) u H1 locs1 ⟨r, rfl⟩ hw (by rw [← ht]; exact hB.1) hS1)
  | 3, _ => exact va_callr (a := a) hr hS (fun q _ h => hf q h) hf (fun u q t H1 locs1 ht hvm hw hB hz hk hS1 => by
      have := kk (.ref u.2) u.1 H1 locs1 ⟨u.2, rfl⟩ hw (by rw [← ht]; exact hB.2.1) hS1
      have e1 := hB.1
      subst e1
      exact this)
end GA
theorem good_ws (Y : ME) (h : Cond.code (mN Y) (mB Y) (mL Y) (mR Y) ∈ bigW) : GoodIn bigW (wsM Y) := by
  intro w hw
  have hb : w ∈ bigW := by
    rcases List.mem_cons.mp hw with e | e
    · rw [e]; exact h
    · exact e
  exact ⟨hb, good_of_word (bg hb).2⟩
theorem room_ok {Y Y' : ME} (h : mD Y' + 1 ≤ mD Y) (hL : mL Y' ≤ 13) : (rmD (mD Y')).frames + 1 ≤ (rmD (mD Y)).frames ∧ 8 + (mL Y' + 11) + (rmD (mD Y')).locals ≤ (rmD (mD Y)).locals := by
  refine ⟨h, ?_⟩
  show 8 + (mL Y' + 11) + (32 * mD Y' + 40) ≤ 32 * mD Y + 40
  omega
theorem pc_blind (as : List Value) (mm : MM) (D : va_G) (ad : Nat → Nat) (ca : Nat → ClassId) (sz : Nat) : FrameBlind (PcG as mm D ad ca sz) := by
  intro a U g mk q
  obtain ⟨q0, q1, q2, q3, q4, q5⟩ := q
  exact ⟨q0, q1, q2, va_K.moved (u := U) (U := U.calling g mk a) (Vm.Alike.refl U.vm) q3, q4, StrX.moved (u := U) rfl q5⟩
theorem str_at {ad : Nat → Nat} {A : Nat → Prop} {s U : State} {H : Heap} {locs : List Loc} (hE : StrX ad A s s.heap) (hS : va_S A s.heap H locs) (hA : ∀ i, i < nS → A (ad i)) (hZ : ∀ q, s.heap.size ≤ q → A q) (hU : U.heap = H) (hW : s.WarmedH U.vm) : StrX ad (adA ad H.size) U U.heap := by
  refine ⟨?_, fun i q hq => (hE.2.1 i q hq).warm hW, fun q hq => va_Nw.warmM hW (hE.2.2 q hq)⟩
  rw [hU]
  have hAB : ∀ q, adA ad H.size q → A q := fun q h => by
    rcases h with ⟨i, hi, rfl⟩ | h
    · exact hA i hi
    · exact hZ q (Nat.le_trans hS.1 h)
  exact ⟨vk_S.narrow (vk_S.moved hW.alike (hE.1.1.kept hS.2.1)) hAB, ZX.narrow (ZX.moved hW.alike (hE.1.2.kept hS.2.1)) hAB⟩
theorem adA_sub {ad : Nat → Nat} {A : Nat → Prop} {H0 H : Heap} {locs : List Loc} (hS : va_S A H0 H locs) (hA : ∀ i, i < nS → A (ad i)) (hZ : ∀ q, H0.size ≤ q → A q) : ∀ q, adA ad H.size q → A q := by
  intro q h
  rcases h with ⟨i, hi, rfl⟩ | h
  · exact hA i hi
  · exact hZ q (Nat.le_trans hS.1 h)
theorem at_size {D : va_G} {cl : List vw_C} {q : Nat × va_E} {H : Heap} (h : va_at D cl q H) : q.1 < H.size := by
  unfold va_at at h
  split at h
  · exact (Array.getElem?_eq_some_iff.mp h).1
  · obtain ⟨r, -, cell, g1, -⟩ := h
    exact (Array.getElem?_eq_some_iff.mp g1).1
theorem ad_size {D : va_G} {ad : Nat → Nat} {ca : Nat → ClassId} {mm : MM} {H : Heap} (hP : va_P D classes (wsOf ad ca mm) H) : ∀ i, i < nS → ad i < H.size := by
  intro i hi
  have hl : i < SHL.length := by rw [nS_ok]; exact hi
  have h := hP i _ (ws_at (ad := ad) (ca := ca) (mm := mm) (List.getElem?_eq_getElem hl))
  exact at_size h
/-- the words of a call of an object's method -/
def CV (own : String) (idx : Nat) (Y' : ME) (n ci : Nat) : Prop := Cond.methodLink own idx (mN Y') ∈ bigW ∧ Cond.instanceMethod (mN Y') ∈ bigW ∧ Cond.selects (mN Y').cls (mN Y') (mN Y') ∈ bigW ∧ Cond.initialized (mN Y').cls ∈ bigW ∧ Cond.code (mN Y') (mB Y') (mL Y') (mR Y') ∈ bigW ∧ ((mN Y').cls ≠ "java/lang/invoke/MethodHandle" ∧ (mN Y').cls ≠ "java/lang/invoke/VarHandle" ∧ (parseMethodDescriptor (mN Y').desc).map (fun d => d.parameters.length) = some n) ∧ (∃ T N, classes[ci]? = some ((mN Y').cls, T, N)) ∧ mL Y' ≤ 13 ∧ mK Y' < 4
def CVN (own : String) (idx : Nat) (Y' : ME) (n ci : Nat) : Prop := (∃ host, (own, idx, mN Y', host) ∈ nestTab) ∧ Cond.instanceMethod (mN Y') ∈ bigW ∧ Cond.selects (mN Y').cls (mN Y') (mN Y') ∈ bigW ∧ Cond.initialized (mN Y').cls ∈ bigW ∧ Cond.code (mN Y') (mB Y') (mL Y') (mR Y') ∈ bigW ∧ ((mN Y').cls ≠ "java/lang/invoke/MethodHandle" ∧ (mN Y').cls ≠ "java/lang/invoke/VarHandle" ∧ (parseMethodDescriptor (mN Y').desc).map (fun d => d.parameters.length) = some n) ∧ (∃ T N, classes[ci]? = some ((mN Y').cls, T, N)) ∧ mL Y' ≤ 13 ∧ mK Y' < 4
def CS (own : String) (idx : Nat) (Y' : ME) (n : Nat) : Prop := Cond.methodLink own idx (mN Y') ∈ bigW ∧ Cond.static (mN Y') ∈ bigW ∧ Cond.initialized (mN Y').cls ∈ bigW ∧ Cond.code (mN Y') (mB Y') (mL Y') (mR Y') ∈ bigW ∧ ((mN Y').cls ≠ "java/lang/invoke/MethodHandle" ∧ (mN Y').cls ≠ "java/lang/invoke/VarHandle" ∧ (parseMethodDescriptor (mN Y').desc).map (fun d => d.parameters.length) = some n) ∧ mL Y' ≤ 13 ∧ mK Y' < 4
def CSN (own : String) (idx : Nat) (Y' : ME) (n : Nat) : Prop := (∃ host, (own, idx, mN Y', host) ∈ nestTab) ∧ Cond.static (mN Y') ∈ bigW ∧ Cond.initialized (mN Y').cls ∈ bigW ∧ Cond.code (mN Y') (mB Y') (mL Y') (mR Y') ∈ bigW ∧ ((mN Y').cls ≠ "java/lang/invoke/MethodHandle" ∧ (mN Y').cls ≠ "java/lang/invoke/VarHandle" ∧ (parseMethodDescriptor (mN Y').desc).map (fun d => d.parameters.length) = some n) ∧ mL Y' ≤ 13 ∧ mK Y' < 4
theorem cS_stack {ad : Nat → Nat} {st rest as : List Value} {b : Nat} (h : st = as.reverse ++ .ref b :: rest) : cS ad st = (cS ad as).reverse ++ .ref (ad b) :: cS ad rest := by
  subst h
  simp [cS, cv]
theorem cS_stackS {ad : Nat → Nat} {st rest as : List Value} (h : st = as.reverse ++ rest) : cS ad st = (cS ad as).reverse ++ cS ad rest := by
  subst h
  simp [cS]
theorem g_callV {Y Y' : ME} {pc : Nat} {L : List (Nat × Value)} {st rest as : List Value} {mm : MM} {Q P : Value → MM → Prop} {idx n ci b : Nat} {sks : List Nat} (d : decode (mB Y) pc = .ok (.invokevirtual idx, 3)) (hC : CV (mN Y).cls idx Y' n ci) (hD : mD Y' + 1 ≤ mD Y) (hst : st = as.reverse ++ .ref b :: rest) (hn : as.length = n) (sh : SHL[b]? = some (.inr (ci, sks))) (hrest : (rest.map fun v => v.category).sum ≤ 8)
    (hM : Runs Y' (.ref b :: as) mm P) (k : ∀ r m', rK (mK Y') r → P r m' → G Y (pc + 3) L (pushA (mK Y') r rest) m' Q) : G Y pc L st mm Q := by
  intro p l e s m args below meth c D ad ca A C H locs ls hP hS hl
  obtain ⟨w1, w2, w3, w4, w5, w6, ⟨T, N, w7⟩, w8, w9⟩ := hC
  have hts := C.2.2.2.2.2.2.1
  have hK := C.2.2.2.2.2.2.2.1
  have hrun := va_runV (Qc := QcG (mK Y') D ad ca (adA ad H.size) P) (As := cS ad as) (rest := cS ad rest) (cells := 0) (slots := 0) (p := p) (l := l) (e := e) (below := below) (meth := meth) (locs := locs) (nL := mL Y) (Ts := bigW) (own := (mN Y).cls) (args := args) (H := H) (b := ad b) (C := (mN Y').cls) (index := idx) (n := n) (g := F0 m pc ls (cS ad st))
    ⟨C.1, C.2.1, C.2.2.1, C.2.2.2.2.2.1, hts⟩ (hM l D ad ca H.size C.2.2.2.2.2.2.2.2.1)
    (R := rmD (mD Y)) ⟨⟨rfl, rfl, (room_ok hD w8).1, (room_ok hD w8).2, pay_in hts (good_ws Y' w5), List.mem_cons_self, hts _ w5, hts _ w4, ⟨w6.1, w6.2.1⟩, fun sig h => by have h2 := w6.2.2; rw [h] at h2; simpa using h2.symm, hts _ w1⟩, hts _ w2, hts _ w3⟩
    ⟨pc_blind _ _ _ _ _ _, va_recv hK hP w7 (ws_at sh), fun U hU hW => ⟨rfl, by rw [hU], by rw [hU]; exact hP, va_K.moved hW.alike hK, ad_size hP, str_at C.2.2.2.2.2.2.2.2.2.2.2 hS C.2.2.2.2.2.2.2.2.2.1 C.2.2.2.2.2.2.2.2.2.2.1 hU hW⟩⟩
    rfl (by simp [cS, hn]) hl.1 (cS_stack hst) (by show 2 * 0 + _ ≤ 8; rw [cS_cat]; omega) d ⟨Nat.le_refl 0, Nat.le_refl 0⟩
  exact g_after w9 hrun hS (adA_sub hS C.2.2.2.2.2.2.2.2.2.1 C.2.2.2.2.2.2.2.2.2.2.1) (fun r u H1 locs1 hz hp hP1 hS1 => k r u hz hp p l e s m args below meth c D ad ca A C H1 locs1 ls hP1 hS1 hl)
theorem g_callVN {Y Y' : ME} {pc : Nat} {L : List (Nat × Value)} {st rest as : List Value} {mm : MM} {Q P : Value → MM → Prop} {idx n ci b : Nat} {sks : List Nat} (d : decode (mB Y) pc = .ok (.invokevirtual idx, 3)) (hC : CVN (mN Y).cls idx Y' n ci) (hD : mD Y' + 1 ≤ mD Y) (hst : st = as.reverse ++ .ref b :: rest) (hn : as.length = n) (sh : SHL[b]? = some (.inr (ci, sks))) (hrest : (rest.map fun v => v.category).sum ≤ 8)
    (hM : Runs Y' (.ref b :: as) mm P) (k : ∀ r m', rK (mK Y') r → P r m' → G Y (pc + 3) L (pushA (mK Y') r rest) m' Q) : G Y pc L st mm Q := by
  intro p l e s m args below meth c D ad ca A C H locs ls hP hS hl
  obtain ⟨⟨host, w1⟩, w2, w3, w4, w5, w6, ⟨T, N, w7⟩, w8, w9⟩ := hC
  have hts := C.2.2.2.2.2.2.1
  have hK := C.2.2.2.2.2.2.2.1
  have hrun := va_runVN (Qc := QcG (mK Y') D ad ca (adA ad H.size) P) (As := cS ad as) (rest := cS ad rest) (cells := 0) (slots := 0) (p := p) (l := l) (e := e) (below := below) (meth := meth) (locs := locs) (nL := mL Y) (Ts := bigW) (own := (mN Y).cls) (host := host) (args := args) (H := H) (b := ad b) (C := (mN Y').cls) (index := idx) (n := n) (g := F0 m pc ls (cS ad st))
    ⟨C.1, C.2.1, C.2.2.1, C.2.2.2.2.2.1, hts⟩ (hM l D ad ca H.size C.2.2.2.2.2.2.2.2.1)
    (R := rmD (mD Y)) ⟨va_cnB n hts (good_ws Y' w5) rfl rfl rfl (C.2.2.2.2.2.2.2.2.2.2.2.2.2 _ w1) (hts _ w4) w6 (room_ok hD w8), hts _ w2, hts _ w3⟩
    ⟨pc_blind _ _ _ _ _ _, va_recv hK hP w7 (ws_at sh), fun U hU hW => ⟨rfl, by rw [hU], by rw [hU]; exact hP, va_K.moved hW.alike hK, ad_size hP, str_at C.2.2.2.2.2.2.2.2.2.2.2 hS C.2.2.2.2.2.2.2.2.2.1 C.2.2.2.2.2.2.2.2.2.2.1 hU hW⟩⟩
    rfl (by simp [cS, hn]) hl.1 (cS_stack hst) (by show 2 * 0 + _ ≤ 8; rw [cS_cat]; omega) d ⟨Nat.le_refl 0, Nat.le_refl 0⟩
  exact g_after w9 hrun hS (adA_sub hS C.2.2.2.2.2.2.2.2.2.1 C.2.2.2.2.2.2.2.2.2.2.1) (fun r u H1 locs1 hz hp hP1 hS1 => k r u hz hp p l e s m args below meth c D ad ca A C H1 locs1 ls hP1 hS1 hl)
theorem g_callS {Y Y' : ME} {pc : Nat} {L : List (Nat × Value)} {st rest as : List Value} {mm : MM} {Q P : Value → MM → Prop} {idx n : Nat} (d : decode (mB Y) pc = .ok (.invokestatic idx, 3)) (hC : CS (mN Y).cls idx Y' n) (hD : mD Y' + 1 ≤ mD Y) (hst : st = as.reverse ++ rest) (hn : as.length = n) (hrest : (rest.map fun v => v.category).sum ≤ 8)
    (hM : Runs Y' as mm P) (k : ∀ r m', rK (mK Y') r → P r m' → G Y (pc + 3) L (pushA (mK Y') r rest) m' Q) : G Y pc L st mm Q := by
  intro p l e s m args below meth c D ad ca A C H locs ls hP hS hl
  obtain ⟨w1, w2, w4, w5, w6, w8, w9⟩ := hC
  have hts := C.2.2.2.2.2.2.1
  have hK := C.2.2.2.2.2.2.2.1
  have hrun := va_runS (Qc := QcG (mK Y') D ad ca (adA ad H.size) P) (As := cS ad as) (rest := cS ad rest) (cells := 0) (slots := 0) (p := p) (l := l) (e := e) (below := below) (meth := meth) (locs := locs) (nL := mL Y) (Ts := bigW) (own := (mN Y).cls) (args := args) (H := H) (index := idx) (n := n) (g := F0 m pc ls (cS ad st))
    ⟨C.1, C.2.1, C.2.2.1, C.2.2.2.2.2.1, hts⟩ (hM l D ad ca H.size C.2.2.2.2.2.2.2.2.1)
    (R := rmD (mD Y)) ⟨⟨rfl, rfl, (room_ok hD w8).1, (room_ok hD w8).2, pay_in hts (good_ws Y' w5), List.mem_cons_self, hts _ w5, hts _ w4, ⟨w6.1, w6.2.1⟩, fun sig h => by have h2 := w6.2.2; rw [h] at h2; simpa using h2.symm, hts _ w1⟩, hts _ w2⟩
    ⟨pc_blind _ _ _ _ _ _, fun U hU hW => ⟨rfl, by rw [hU], by rw [hU]; exact hP, va_K.moved hW.alike hK, ad_size hP, str_at C.2.2.2.2.2.2.2.2.2.2.2 hS C.2.2.2.2.2.2.2.2.2.1 C.2.2.2.2.2.2.2.2.2.2.1 hU hW⟩⟩
    rfl (by simp [cS, hn]) hl.1 (cS_stackS hst) (by show 2 * 0 + _ ≤ 8; rw [cS_cat]; omega) d ⟨Nat.le_refl 0, Nat.le_refl 0⟩
  exact g_after w9 hrun hS (adA_sub hS C.2.2.2.2.2.2.2.2.2.1 C.2.2.2.2.2.2.2.2.2.2.1) (fun r u H1 locs1 hz hp hP1 hS1 => k r u hz hp p l e s m args below meth c D ad ca A C H1 locs1 ls hP1 hS1 hl)
theorem g_callSN {Y Y' : ME} {pc : Nat} {L : List (Nat × Value)} {st rest as : List Value} {mm : MM} {Q P : Value → MM → Prop} {idx n : Nat} (d : decode (mB Y) pc = .ok (.invokestatic idx, 3)) (hC : CSN (mN Y).cls idx Y' n) (hD : mD Y' + 1 ≤ mD Y) (hst : st = as.reverse ++ rest) (hn : as.length = n) (hrest : (rest.map fun v => v.category).sum ≤ 8)
    (hM : Runs Y' as mm P) (k : ∀ r m', rK (mK Y') r → P r m' → G Y (pc + 3) L (pushA (mK Y') r rest) m' Q) : G Y pc L st mm Q := by
  intro p l e s m args below meth c D ad ca A C H locs ls hP hS hl
  obtain ⟨⟨host, w1⟩, w2, w4, w5, w6, w8, w9⟩ := hC
  have hts := C.2.2.2.2.2.2.1
  have hK := C.2.2.2.2.2.2.2.1
  have hrun := va_runSN (Qc := QcG (mK Y') D ad ca (adA ad H.size) P) (As := cS ad as) (rest := cS ad rest) (cells := 0) (slots := 0) (p := p) (l := l) (e := e) (below := below) (meth := meth) (locs := locs) (nL := mL Y) (Ts := bigW) (own := (mN Y).cls) (host := host) (args := args) (H := H) (index := idx) (n := n) (g := F0 m pc ls (cS ad st))
    ⟨C.1, C.2.1, C.2.2.1, C.2.2.2.2.2.1, hts⟩ (hM l D ad ca H.size C.2.2.2.2.2.2.2.2.1)
    (R := rmD (mD Y)) ⟨va_cnB n hts (good_ws Y' w5) rfl rfl rfl (C.2.2.2.2.2.2.2.2.2.2.2.2.2 _ w1) (hts _ w4) w6 (room_ok hD w8), hts _ w2, trivial⟩
    ⟨pc_blind _ _ _ _ _ _, fun U hU hW => ⟨rfl, by rw [hU], by rw [hU]; exact hP, va_K.moved hW.alike hK, ad_size hP, str_at C.2.2.2.2.2.2.2.2.2.2.2 hS C.2.2.2.2.2.2.2.2.2.1 C.2.2.2.2.2.2.2.2.2.2.1 hU hW⟩⟩
    rfl (by simp [cS, hn]) hl.1 (cS_stackS hst) (by show 2 * 0 + _ ≤ 8; rw [cS_cat]; omega) d ⟨Nat.le_refl 0, Nat.le_refl 0⟩
  exact g_after w9 hrun hS (adA_sub hS C.2.2.2.2.2.2.2.2.2.1 C.2.2.2.2.2.2.2.2.2.2.1) (fun r u H1 locs1 hz hp hP1 hS1 => k r u hz hp p l e s m args below meth c D ad ca A C H1 locs1 ls hP1 hS1 hl)

theorem g_getVt {Y : ME} {pc : Nat} {L : List (Nat × Value)} {rest : List Value} {mm : MM} {Q : Value → MM → Prop} {idx ci k j t : Nat} {ty : FieldType} {fin : Bool} {sks : List Nat} (d : decode (mB Y) pc = .ok (.getfield idx, 3)) (hF : FO (mN Y).cls idx ci j ty fin) (sh : SHL[k]? = some (.inr (ci, sks))) (hj : sks[j]? = some 1) (he : mm.2.2 k j = t) (kk : G Y (pc + 3) L (.ref t :: rest) mm Q) : G Y pc L (.ref k :: rest) mm Q := by
  subst he
  exact g_getV d hF sh hj kk
/-- one of two, whichever way the condition is -/
noncomputable def cite {α : Type} (p : Prop) (a b : α) : α := @ite α p (Classical.propDecidable p) a b
theorem cite_pos {α : Type} {p : Prop} {a b : α} (h : p) : cite p a b = a := if_pos h
theorem cite_neg {α : Type} {p : Prop} {a b : α} (h : ¬ p) : cite p a b = b := if_neg h
def isB (v : Int32) : Prop := v = 0 ∨ v = 1
theorem nar_B {v : Int32} (h : isB v) : narrow .boolean (.int v) = .int v := by rcases h with rfl | rfl <;> rfl
theorem fit_B {v : Int32} (h : isB v) : fits .boolean (.int v) = true := by rcases h with rfl | rfl <;> rfl
theorem isB0 : isB 0 := Or.inl rfl
theorem isB1 : isB 1 := Or.inr rfl

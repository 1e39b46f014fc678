/-! from the making to the numbered world -/
def shV : SHP → SHP
  | .inl (t, n, _, _) => .inl (t, n, 0, 0)
  | .inr (ci, sks) => .inr (ci, sks.map (fun k => if k = 0 then 0 else 1))
def okS (mm : MM) (k : Nat) : SHP → Prop
  | .inl (t, n, d, e) => t < 4 ∨ ∀ j, mm.2.2 k j = (if j < n then k + d + e * j else 0) ∧ (j < n → k + d + e * j ≠ 0)
  | .inr (_, sks) => ∀ j sk, sks[j]? = some sk → sk = 0 ∨ (sk = 1 ∧ mm.2.2 k j ≠ 0) ∨ (∃ d, sk = d + 2 ∧ mm.2.2 k j = k + d ∧ k + d ≠ 0)
def OKM (mm : MM) : Prop := ∀ k s, SHL[k]? = some s → okS mm k s
theorem cellA_V {ad : Nat → Nat} {ca : Nat → ClassId} {mm : MM} {k : Nat} {s : SHP} (h : okS mm k s) : cellA ad ca mm k (shV s) = cellV ad ca mm k s := by
  rcases s with ⟨t, n, d, e⟩ | ⟨ci, sks⟩
  · match t with
    | 0 => rfl
    | 1 => rfl
    | 2 => rfl
    | 3 => rfl
    | t + 4 =>
      have h : ∀ j, mm.2.2 k j = (if j < n then k + d + e * j else 0) ∧ (j < n → k + d + e * j ≠ 0) := h.resolve_left (by omega)
      have ef : (fun j => if mm.2.2 k j = 0 then none else some (ad (mm.2.2 k j))) = (fun j => if j < n then some (ad (k + d + e * j)) else none) := by
        funext j
        obtain ⟨h1, h2⟩ := h j
        rw [h1]
        by_cases hj : j < n
        · simp only [hj, if_true, h2 hj, if_false]
        · simp [hj]
      show (Sum.inl (ca (t + 4), n, Sum.inr (Sum.inr (Sum.inr (Sum.inr (fun j => if mm.2.2 k j = 0 then none else some (ad (mm.2.2 k j))))))) : va_E) = _
      rw [ef]
      rfl
  · have e1 : slotsA ad mm k 0 (sks.map (fun k => if k = 0 then 0 else 1)) = slotsV ad mm k 0 sks := by
      apply List.ext_getElem?
      intro i
      rw [slotsA_at, slotsV_at, List.getElem?_map]
      cases hs : sks[i]? with
      | none => rfl
      | some sk =>
        simp only [Option.map_some, Option.some.injEq, Nat.zero_add]
        rcases h i sk hs with rfl | ⟨rfl, h0⟩ | ⟨d, rfl, h1, h0⟩
        · rfl
        · simp [slotA, slotV, rfz, h0]
        · have e2 : (if d + 2 = 0 then 0 else 1) = 1 := by simp
          rw [e2]
          show rfz ad (mm.2.2 k i) = .ref (ad (k + d))
          rw [h1]
          exact if_neg h0
    show (Sum.inr (ci, slotsA ad mm k 0 _) : va_E) = Sum.inr (ci, slotsV ad mm k 0 sks)
    rw [e1]
theorem wsA_V {ad : Nat → Nat} {ca : Nat → ClassId} {mm : MM} (h : OKM mm) : wsA ad ca mm 0 (SHL.map shV) = wsOf ad ca mm := by
  apply List.ext_getElem?
  intro i
  unfold wsOf
  rw [wsA_at, wsG_at, List.getElem?_map]
  cases hs : SHL[i]? with
  | none => rfl
  | some s => simp [cellA_V (h i s hs)]
theorem OKM.refs {mm m2 : MM} (h : OKM mm) (e9 : m2.2.2 = mm.2.2) : OKM m2 := by
  intro k s hs
  have := h k s hs
  rcases s with ⟨t, n, d, e⟩ | ⟨ci, sks⟩ <;> simp only [okS, e9] at this ⊢ <;> exact this
section GAG
variable {Y : ME} {mc ms n0 : Nat} {S' : List SHP} {mm' : MM} {pc : Nat} {L : List (Nat × Value)} {rest : List Value} {mm : MM} {cells slots : Nat}
/-- a method of the finished world, called by a constructor -/
theorem a_callG {Y' : ME} {idx n ci b : Nat} {st as : List Value} {m2 : MM} {sks : List Nat} (d : decode (mB Y) pc = .ok (.invokevirtual idx, 3)) (hC : CV (mN Y).cls idx Y' n ci) (hD1 : mD Y' + 1 ≤ mD Y) (hK0 : mK Y' = 0) (hst : st = as.reverse ++ .ref b :: rest) (hn : as.length = n) (sh : SHL[b]? = some (.inr (ci, sks))) (hrest : (rest.map fun v => v.category).sum ≤ 8) (ho : OKM mm) (ho2 : OKM m2) (hc : cells ≤ mc) (hs : slots ≤ ms)
    (hM : Runs Y' (.ref b :: as) mm (fun _ m => m = m2)) (k : GA Y mc ms n0 S' mm' (SHL.map shV) (pc + 3) L rest m2 cells slots) : GA Y mc ms n0 S' mm' (SHL.map shV) pc L st mm cells slots := by
  intro p l e s m args below meth c D ca A ad0 C E ad H locs ls hA hP hD hS hl
  obtain ⟨w1, w2, w3, w4, w5, w6, ⟨T, N, w7⟩, w8, w9⟩ := hC
  have hts := C.2.2.2.2.2.2.1
  have hK := C.2.2.2.2.2.2.2.1
  have hlen : (SHL.map shV).length = nS := by rw [List.length_map, nS_ok]
  have hsub := adB_sub hD hS C.2.2.2.2.2.2.2.2.1
  rw [hlen] at hsub
  rw [wsA_V ho] at hP hD
  have hI : adI ad := fun i j hi hj e => by
    have hi' : i < SHL.length := by rw [nS_ok]; exact hi
    have hj' : j < SHL.length := by rw [nS_ok]; exact hj
    exact hD.1 i j _ _ (ws_at (List.getElem?_eq_getElem hi')) (ws_at (List.getElem?_eq_getElem hj')) e
  have hrun := va_runV (Qc := QcG (mK Y') D ad ca (adA ad H.size) (fun _ m => m = m2)) (As := cS ad as) (rest := cS ad rest) (cells := cells) (slots := slots) (p := p) (l := l) (e := e) (below := below) (meth := meth) (locs := locs) (nL := mL Y) (Ts := bigW) (own := (mN Y).cls) (args := args) (H := H) (b := ad b) (C := (mN Y').cls) (index := idx) (n := n) (g := F0 m pc ls (cS ad st))
    ⟨C.1, C.2.1, C.2.2.1, C.2.2.2.2.2.1, hts⟩ (hM l D ad ca H.size hI)
    (R := rmA (mD Y) mc ms) ⟨⟨rfl, rfl, hD1, by show 8 + (mL Y' + 11) + (32 * mD Y' + 40) ≤ 32 * mD Y + 40; omega, pay_in hts (good_ws Y' w5), List.mem_cons_self, hts _ w5, hts _ w4, ⟨w6.1, w6.2.1⟩, fun sig h => by have h2 := w6.2.2; rw [h] at h2; simpa using h2.symm, hts _ w1⟩, hts _ w2, hts _ w3⟩
    ⟨pc_blind _ _ _ _ _ _, va_recv hK hP w7 (ws_at sh), fun U hU hW => ⟨rfl, by rw [hU], by rw [hU]; exact hP, va_K.moved hW.alike hK, ad_size hP, strA_at E hA hS hsub hU hW⟩⟩
    rfl (by simp [cS, hn]) hl.1 (cS_stack hst) (by show 2 * 0 + _ ≤ 8; rw [cS_cat]; omega) d ⟨hc, hs⟩
  rw [hK0] at hrun
  refine va_callv (a := (cS ad (.ref b :: as)).toArray) hrun hS (fun q _ h => hsub q h) hsub (fun u t H1 locs1 ht hvm hw hB hz1 hk1 hS1 => ?_)
  subst hw
  have b1 := hB.1
  rw [ht] at b1
  have := k p l e s m args below meth c D ca A ad0 C E ad H1 locs1 ls hA (by rw [wsA_V ho2]; exact b1) (by rw [wsA_V ho2]; exact ws_D hI (fun i hi => hsub _ (Or.inl ⟨i, hi, rfl⟩))) hS1 hl
  exact this
end GAG
/-! THE CLAIM OUT OF ONE WALK OF THE LAW'S BODY. Your part is whole_start (and what it stands on); all else here is the same for every law, but numbers. -/
def R_law : String := "StiltTownLaw"
def lw_P (b : Addr) (xs : List Int32) (args : Array Value) (s : State) : Prop := args = #[.ref b] ∧ s.IntsAt b xs ∧ xs.length ≤ 3584 ∧ (Jvm.Cond.and given_1 narrow_1).before args s = true
def lw_Q (_ : Array Value) (s : State) (o : Outcome) (t : State) : Prop := o = .returned (some (.int 1)) ∧ Framed s o t [] 600000 7302250
def lw_Z (below : List Frame) (a : Array Value) (s : State) : State → Prop := fun t => ∃ o, t.status = .running ∧ Ended t below o ∧ lw_Q a s o t
/-- the law's own end, with 1 on the stack, nothing written that was there before, its room as the claim has it -/
theorem lw_ret {p : Program} {l : Launch} {e : Env} {s : State} {m : MethodId} {below : List Frame} {meth : Method} {c : Code} {b : Nat} (hx : p.tables.exec = Jvm.exec) (hb : c.code = code) (hr : meth.sig.returnType = ret) (hlocks : meth.locks = false) {pc : Nat} {H : Heap} {ls : Array Slot} (hdg : decode code pc = .ok (.ireturn, 1)) : W p l e room_1 s m #[Value.ref b] below meth c H [] 600000 7302250 (lw_Z below #[Value.ref b] s) (F0 m pc ls [.int 1]) := by
  intro T hT X
  obtain ⟨fs, hret, hrun, hended, hW, hframe⟩ := X.leave (v := some (.int 1)) (hlocks := hlocks) (fun h => by rw [hr] at h; cases h)
  have hmeth' : T.vm.method? m = some meth := X.method'
  refine ⟨T.setFrames fs, ?_, .returned (some (.int 1)), hrun, hended, rfl, ⟨_, rfl⟩, hW, hframe⟩
  jvm_step X.here [X.here.top, hx, hb, hdg, hmeth', hr, ret, narrow_b1]
  (try refine ⟨rfl, ?_⟩); (try refine ⟨rfl, ?_⟩)
  first | (intro acts; rw [hret _ acts rfl rfl rfl]) | rw [hret _ _ rfl rfl rfl]
  exact Steps.refl _
/-- what holds at the law's entry: the machine, the code, the tables' words (any of lw_tbl by 'hts w (by decide +kernel)'), the script of L ints xs at the cell b, what the Statement gives of the start (any of its parts by flat_of_before) -/
def lw_At (p : Program) (s : State) (m : MethodId) (meth : Method) (c : Code) (b L : Nat) (xs : Nat → Int32) : Prop :=
  p.tables.exec = Jvm.exec ∧ c.code = code ∧ meth.sig.returnType = ret ∧ c.maxLocals = 4 ∧ s.vm.findClass R_law = some m.cls ∧ (∀ w ∈ lw_tbl, w.before #[Value.ref b] s = true) ∧ va_X b L xs s s.heap ∧ b < s.heap.size ∧ meth.locks = false ∧ (Jvm.Cond.and given_1 narrow_1).before #[Value.ref b] s = true

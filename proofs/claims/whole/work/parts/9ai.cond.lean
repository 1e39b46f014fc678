/-! reading: the model's condition, a literal at a time -/
def condT (l1 l3 l4 : Int32) (Q : Value → MM → Prop) (m3 : MM) : Prop := (vp_in l3 400 ∧ (vp_in l3 400 ∧ (vp_in l3 400 ∧ (o_X12_isWord (wI (wI (wI (wI m3 172 (l3.toNatClampNeg) (m3.1 164 1)) 168 (l3.toNatClampNeg) (vp_nar .boolean l4)) 173 (l3.toNatClampNeg) l1) 167 1 (((wI (wI (wI m3 172 (l3.toNatClampNeg) (m3.1 164 1)) 168 (l3.toNatClampNeg) (vp_nar .boolean l4)) 173 (l3.toNatClampNeg) l1).1 167 1) + (1 : Int32))) (11 : Int32) ∧ ((p_X12_isWord (wI (wI (wI (wI m3 172 (l3.toNatClampNeg) (m3.1 164 1)) 168 (l3.toNatClampNeg) (vp_nar .boolean l4)) 173 (l3.toNatClampNeg) l1) 167 1 (((wI (wI (wI m3 172 (l3.toNatClampNeg) (m3.1 164 1)) 168 (l3.toNatClampNeg) (vp_nar .boolean l4)) 173 (l3.toNatClampNeg) l1).1 167 1) + (1 : Int32))) (11 : Int32) → (o_X12_isWord (wI (wI (wI (wI m3 172 (l3.toNatClampNeg) (m3.1 164 1)) 168 (l3.toNatClampNeg) (vp_nar .boolean l4)) 173 (l3.toNatClampNeg) l1) 167 1 (((wI (wI (wI m3 172 (l3.toNatClampNeg) (m3.1 164 1)) 168 (l3.toNatClampNeg) (vp_nar .boolean l4)) 173 (l3.toNatClampNeg) l1).1 167 1) + (1 : Int32))) (12 : Int32) ∧ ((p_X12_isWord (wI (wI (wI (wI m3 172 (l3.toNatClampNeg) (m3.1 164 1)) 168 (l3.toNatClampNeg) (vp_nar .boolean l4)) 173 (l3.toNatClampNeg) l1) 167 1 (((wI (wI (wI m3 172 (l3.toNatClampNeg) (m3.1 164 1)) 168 (l3.toNatClampNeg) (vp_nar .boolean l4)) 173 (l3.toNatClampNeg) l1).1 167 1) + (1 : Int32))) (12 : Int32) → (∃ Pm4 : Value → MM → Prop, Runs e_X12_pass [.ref 156] (wI (wI (wI (wI m3 172 (l3.toNatClampNeg) (m3.1 164 1)) 168 (l3.toNatClampNeg) (vp_nar .boolean l4)) 173 (l3.toNatClampNeg) l1) 167 1 (((wI (wI (wI m3 172 (l3.toNatClampNeg) (m3.1 164 1)) 168 (l3.toNatClampNeg) (vp_nar .boolean l4)) 173 (l3.toNatClampNeg) l1).1 167 1) + (1 : Int32))) Pm4 ∧ (∀ r m4, Pm4 r m4 → r = .int 1 ∨ r = .int 0) ∧ (∀ m4, Pm4 (.int 1) m4 → (G e_X12_cond 14 [(0, .ref 156), (1, .int (l1 + (1 : Int32))), (2, .int (1 : Int32))] [] m4 Q)) ∧ (∀ m4, Pm4 (.int 0) m4 → (Q (.int (0 : Int32)) m4)))) ∧ (¬ p_X12_isWord (wI (wI (wI (wI m3 172 (l3.toNatClampNeg) (m3.1 164 1)) 168 (l3.toNatClampNeg) (vp_nar .boolean l4)) 173 (l3.toNatClampNeg) l1) 167 1 (((wI (wI (wI m3 172 (l3.toNatClampNeg) (m3.1 164 1)) 168 (l3.toNatClampNeg) (vp_nar .boolean l4)) 173 (l3.toNatClampNeg) l1).1 167 1) + (1 : Int32))) (12 : Int32) → (∃ Pm4 : Value → MM → Prop, Runs e_X12_pass [.ref 156] (wI (wI (wI (wI m3 172 (l3.toNatClampNeg) (m3.1 164 1)) 168 (l3.toNatClampNeg) (vp_nar .boolean l4)) 173 (l3.toNatClampNeg) l1) 167 1 (((wI (wI (wI m3 172 (l3.toNatClampNeg) (m3.1 164 1)) 168 (l3.toNatClampNeg) (vp_nar .boolean l4)) 173 (l3.toNatClampNeg) l1).1 167 1) + (1 : Int32))) Pm4 ∧ (∀ r m4, Pm4 r m4 → r = .int 1 ∨ r = .int 0) ∧ (∀ m4, Pm4 (.int 1) m4 → (G e_X12_cond 14 [(0, .ref 156), (1, .int l1), (2, .int (1 : Int32))] [] m4 Q)) ∧ (∀ m4, Pm4 (.int 0) m4 → (Q (.int (0 : Int32)) m4))))))) ∧ (¬ p_X12_isWord (wI (wI (wI (wI m3 172 (l3.toNatClampNeg) (m3.1 164 1)) 168 (l3.toNatClampNeg) (vp_nar .boolean l4)) 173 (l3.toNatClampNeg) l1) 167 1 (((wI (wI (wI m3 172 (l3.toNatClampNeg) (m3.1 164 1)) 168 (l3.toNatClampNeg) (vp_nar .boolean l4)) 173 (l3.toNatClampNeg) l1).1 167 1) + (1 : Int32))) (11 : Int32) → (o_X12_isWord (wI (wI (wI (wI m3 172 (l3.toNatClampNeg) (m3.1 164 1)) 168 (l3.toNatClampNeg) (vp_nar .boolean l4)) 173 (l3.toNatClampNeg) l1) 167 1 (((wI (wI (wI m3 172 (l3.toNatClampNeg) (m3.1 164 1)) 168 (l3.toNatClampNeg) (vp_nar .boolean l4)) 173 (l3.toNatClampNeg) l1).1 167 1) + (1 : Int32))) (12 : Int32) ∧ ((p_X12_isWord (wI (wI (wI (wI m3 172 (l3.toNatClampNeg) (m3.1 164 1)) 168 (l3.toNatClampNeg) (vp_nar .boolean l4)) 173 (l3.toNatClampNeg) l1) 167 1 (((wI (wI (wI m3 172 (l3.toNatClampNeg) (m3.1 164 1)) 168 (l3.toNatClampNeg) (vp_nar .boolean l4)) 173 (l3.toNatClampNeg) l1).1 167 1) + (1 : Int32))) (12 : Int32) → (o_X12_isWord (wI (wI (wI (wI m3 172 (l3.toNatClampNeg) (m3.1 164 1)) 168 (l3.toNatClampNeg) (vp_nar .boolean l4)) 173 (l3.toNatClampNeg) l1) 167 1 (((wI (wI (wI m3 172 (l3.toNatClampNeg) (m3.1 164 1)) 168 (l3.toNatClampNeg) (vp_nar .boolean l4)) 173 (l3.toNatClampNeg) l1).1 167 1) + (1 : Int32))) (12 : Int32) ∧ ((p_X12_isWord (wI (wI (wI (wI m3 172 (l3.toNatClampNeg) (m3.1 164 1)) 168 (l3.toNatClampNeg) (vp_nar .boolean l4)) 173 (l3.toNatClampNeg) l1) 167 1 (((wI (wI (wI m3 172 (l3.toNatClampNeg) (m3.1 164 1)) 168 (l3.toNatClampNeg) (vp_nar .boolean l4)) 173 (l3.toNatClampNeg) l1).1 167 1) + (1 : Int32))) (12 : Int32) → (∃ Pm4 : Value → MM → Prop, Runs e_X12_pass [.ref 156] (wI (wI (wI (wI m3 172 (l3.toNatClampNeg) (m3.1 164 1)) 168 (l3.toNatClampNeg) (vp_nar .boolean l4)) 173 (l3.toNatClampNeg) l1) 167 1 (((wI (wI (wI m3 172 (l3.toNatClampNeg) (m3.1 164 1)) 168 (l3.toNatClampNeg) (vp_nar .boolean l4)) 173 (l3.toNatClampNeg) l1).1 167 1) + (1 : Int32))) Pm4 ∧ (∀ r m4, Pm4 r m4 → r = .int 1 ∨ r = .int 0) ∧ (∀ m4, Pm4 (.int 1) m4 → (G e_X12_cond 14 [(0, .ref 156), (1, .int (l1 + (1 : Int32))), (2, .int (1 : Int32))] [] m4 Q)) ∧ (∀ m4, Pm4 (.int 0) m4 → (Q (.int (0 : Int32)) m4)))) ∧ (¬ p_X12_isWord (wI (wI (wI (wI m3 172 (l3.toNatClampNeg) (m3.1 164 1)) 168 (l3.toNatClampNeg) (vp_nar .boolean l4)) 173 (l3.toNatClampNeg) l1) 167 1 (((wI (wI (wI m3 172 (l3.toNatClampNeg) (m3.1 164 1)) 168 (l3.toNatClampNeg) (vp_nar .boolean l4)) 173 (l3.toNatClampNeg) l1).1 167 1) + (1 : Int32))) (12 : Int32) → (∃ Pm4 : Value → MM → Prop, Runs e_X12_pass [.ref 156] (wI (wI (wI (wI m3 172 (l3.toNatClampNeg) (m3.1 164 1)) 168 (l3.toNatClampNeg) (vp_nar .boolean l4)) 173 (l3.toNatClampNeg) l1) 167 1 (((wI (wI (wI m3 172 (l3.toNatClampNeg) (m3.1 164 1)) 168 (l3.toNatClampNeg) (vp_nar .boolean l4)) 173 (l3.toNatClampNeg) l1).1 167 1) + (1 : Int32))) Pm4 ∧ (∀ r m4, Pm4 r m4 → r = .int 1 ∨ r = .int 0) ∧ (∀ m4, Pm4 (.int 1) m4 → (G e_X12_cond 14 [(0, .ref 156), (1, .int l1), (2, .int (1 : Int32))] [] m4 Q)) ∧ (∀ m4, Pm4 (.int 0) m4 → (Q (.int (0 : Int32)) m4))))))) ∧ (¬ p_X12_isWord (wI (wI (wI (wI m3 172 (l3.toNatClampNeg) (m3.1 164 1)) 168 (l3.toNatClampNeg) (vp_nar .boolean l4)) 173 (l3.toNatClampNeg) l1) 167 1 (((wI (wI (wI m3 172 (l3.toNatClampNeg) (m3.1 164 1)) 168 (l3.toNatClampNeg) (vp_nar .boolean l4)) 173 (l3.toNatClampNeg) l1).1 167 1) + (1 : Int32))) (12 : Int32) → (o_X12_isWord (wI (wI (wI (wI m3 172 (l3.toNatClampNeg) (m3.1 164 1)) 168 (l3.toNatClampNeg) (vp_nar .boolean l4)) 173 (l3.toNatClampNeg) l1) 167 1 (((wI (wI (wI m3 172 (l3.toNatClampNeg) (m3.1 164 1)) 168 (l3.toNatClampNeg) (vp_nar .boolean l4)) 173 (l3.toNatClampNeg) l1).1 167 1) + (1 : Int32))) (12 : Int32) ∧ ((p_X12_isWord (wI (wI (wI (wI m3 172 (l3.toNatClampNeg) (m3.1 164 1)) 168 (l3.toNatClampNeg) (vp_nar .boolean l4)) 173 (l3.toNatClampNeg) l1) 167 1 (((wI (wI (wI m3 172 (l3.toNatClampNeg) (m3.1 164 1)) 168 (l3.toNatClampNeg) (vp_nar .boolean l4)) 173 (l3.toNatClampNeg) l1).1 167 1) + (1 : Int32))) (12 : Int32) → (G e_X12_cond 14 [(0, .ref 156), (1, .int (l1 + (1 : Int32))), (2, .int (0 : Int32))] [] (wI (wI (wI (wI m3 172 (l3.toNatClampNeg) (m3.1 164 1)) 168 (l3.toNatClampNeg) (vp_nar .boolean l4)) 173 (l3.toNatClampNeg) l1) 167 1 (((wI (wI (wI m3 172 (l3.toNatClampNeg) (m3.1 164 1)) 168 (l3.toNatClampNeg) (vp_nar .boolean l4)) 173 (l3.toNatClampNeg) l1).1 167 1) + (1 : Int32))) Q)) ∧ (¬ p_X12_isWord (wI (wI (wI (wI m3 172 (l3.toNatClampNeg) (m3.1 164 1)) 168 (l3.toNatClampNeg) (vp_nar .boolean l4)) 173 (l3.toNatClampNeg) l1) 167 1 (((wI (wI (wI m3 172 (l3.toNatClampNeg) (m3.1 164 1)) 168 (l3.toNatClampNeg) (vp_nar .boolean l4)) 173 (l3.toNatClampNeg) l1).1 167 1) + (1 : Int32))) (12 : Int32) → (G e_X12_cond 14 [(0, .ref 156), (1, .int l1), (2, .int (0 : Int32))] [] (wI (wI (wI (wI m3 172 (l3.toNatClampNeg) (m3.1 164 1)) 168 (l3.toNatClampNeg) (vp_nar .boolean l4)) 173 (l3.toNatClampNeg) l1) 167 1 (((wI (wI (wI m3 172 (l3.toNatClampNeg) (m3.1 164 1)) 168 (l3.toNatClampNeg) (vp_nar .boolean l4)) 173 (l3.toNatClampNeg) l1).1 167 1) + (1 : Int32))) Q)))))))))))))
section
variable {x v : MM} {M a : Nat} {K ts : Nat → Nat}
def aaV (v : MM) (m : Nat) : MM := wI (wI v 170 (200 + m) (v.1 156 32)) 171 (200 + m) (v.1 164 1)
def bbV (v : MM) (m q : Nat) : MM := wI (aaV v m) 169 (200 + m) (nI (smN q))
def ddV (v : MM) (m c g : Nat) (neg : Bool) : MM := wI (wI (wI (wI v 172 (200 + m) (v.1 164 1)) 168 (200 + m) (bI neg)) 173 (200 + m) (nI g)) 167 1 (nI (c + 1))
theorem DV.r {v' : MM} (h : DV v v') {r : Nat} (hr : r ≠ 156 ∧ r ≠ 158 ∧ r ≠ 159 ∧ r ≠ 160) (j : Nat) (w : Int32) : DV v (wI v' r j w) := ⟨h.1, by rw [wI_o (Ne.symm hr.2.1)]; exact h.2.1, by rw [wI_o (Ne.symm hr.2.2.1)]; exact h.2.2.1, by rw [wI_o (Ne.symm hr.2.2.2)]; exact h.2.2.2.1, fun y y1 y2 => by rw [wI_o (Ne.symm hr.1)]; exact h.2.2.2.2 y y1 y2⟩
theorem DV.aa {m : Nat} : DV v (aaV v m) := ((DV.rf v).r (by decide) _ _).r (by decide) _ _
theorem DV.bb {m q : Nat} : DV v (bbV v m q) := DV.aa.r (by decide) _ _
theorem DV.dd {m c g : Nat} {neg : Bool} : DV v (ddV v m c g neg) := ((((DV.rf v).r (by decide) _ _).r (by decide) _ _).r (by decide) _ _).r (by decide) _ _
theorem nar_b (neg : Bool) : vp_nar .boolean (bI neg) = bI neg := by cases neg <;> rfl
/-- a NOT -/
theorem mC_not {l1 l3 : Int32} {neg : Bool} (h : RC x v M K ts a) (hk : K a = 25) (y : MM) {Q : Value → MM → Prop}
    (hQ : ∃ Pm1 : Value → MM → Prop, Runs e_X12_pass [.ref 156] (catR y v) Pm1 ∧ (∀ r m1, Pm1 r m1 → r = .int 1 ∨ r = .int 0) ∧ (∀ m1, Pm1 (.int 1) m1 → G e_X12_cond 32 [(0, .ref 156), (1, .int l1), (3, .int l3), (4, .int (bI (!neg)))] [] m1 Q) ∧ (∀ m1, Pm1 (.int 0) m1 → (Q (.int (0 : Int32)) m1))) :
    G e_X12_cond 32 [(0, .ref 156), (1, .int l1), (3, .int l3), (4, .int (bI neg))] [] (catR y v) Q := by
  obtain ⟨o1, p1⟩ := wordM h y (k := 25) (by decide)
  obtain ⟨Pm, h1, h2, h3, h4⟩ := hQ
  apply b_X12_cond_32
  refine ⟨o1, fun _ => ⟨Pm, h1, h2, fun m1 hm => ?_, h4⟩, fun z => absurd (p1.mpr hk) z⟩
  cases neg with
  | false => exact ⟨fun z => absurd rfl z, fun _ => h3 m1 hm⟩
  | true => exact ⟨fun _ => h3 m1 hm, fun z => absurd z (by decide)⟩
theorem mC_f1 {l1 l3 l4 : Int32} {v1 : MM} (h : RC x v M K ts a) (hk : ¬ K a = 25) (y : MM) (e1 : Runs e_X12_expr [.ref 156] (catR y v) (fun r m => r = .int (bI false) ∧ m = catR y v1)) {Q : Value → MM → Prop} (hQ : Q (.int 0) (catR y v1)) :
    G e_X12_cond 32 [(0, .ref 156), (1, .int l1), (3, .int l3), (4, .int l4)] [] (catR y v) Q := by
  obtain ⟨o1, p1⟩ := wordM h y (k := 25) (by decide)
  apply b_X12_cond_32
  refine ⟨o1, fun z => absurd (p1.mp z) hk, fun _ => bcall e1 (fun z => nomatch z) ?_⟩
  rintro - m rfl
  exact hQ
theorem sgn34 {xh : MM} (h : RC xh v M K ts a) (y : MM) : (o_X12_isSign (catR y v) 300 = True ∧ p_X12_isSign (catR y v) 300 = (K a = 34)) ∧ (o_X12_isSign (catR y v) 301 = True ∧ p_X12_isSign (catR y v) 301 = (K a = 35)) ∧
    (o_X12_isSign (catR y v) 60 = True ∧ p_X12_isSign (catR y v) 60 = (K a = 36)) ∧ (o_X12_isSign (catR y v) 302 = True ∧ p_X12_isSign (catR y v) 302 = (K a = 37)) := by
  obtain ⟨a1, a2⟩ := signM h y (k := 34) (by decide)
  obtain ⟨b1, b2⟩ := signM h y (k := 35) (by decide)
  obtain ⟨c1, c2⟩ := signM h y (k := 36) (by decide)
  obtain ⟨d1, d2⟩ := signM h y (k := 37) (by decide)
  exact ⟨⟨eq_true a1, propext a2⟩, ⟨eq_true b1, propext b2⟩, ⟨eq_true c1, propext c2⟩, ⟨eq_true d1, propext d2⟩⟩
/-- behind the left side -/
theorem mC_2 {l1 l4 : Int32} {v1 xh : MM} {m a1 : Nat} (h : RC x v M K ts a) (hk : ¬ K a = 25) (hm : m < 200) (y : MM) (e1 : Runs e_X12_expr [.ref 156] (catR y v) (fun r m => r = .int (bI true) ∧ m = catR y v1)) (h1 : RC xh v1 M K ts a1) {Q : Value → MM → Prop}
    (hc : 34 ≤ K a1 ∧ K a1 ≤ 37 → ∃ Pm2 : Value → MM → Prop, Runs e_X12_pass [.ref 156] (catR y (bbV v1 m (K a1))) Pm2 ∧ (∀ r m2, Pm2 r m2 → r = .int 1 ∨ r = .int 0) ∧ (∀ m2, Pm2 (.int 1) m2 → (∃ Pm3 : Value → MM → Prop, Runs e_X12_expr [.ref 156] m2 Pm3 ∧ (∀ r m3, Pm3 r m3 → r = .int 1 ∨ r = .int 0) ∧ (∀ m3, Pm3 (.int 1) m3 → condT l1 (nI (200 + m)) l4 Q m3) ∧ (∀ m3, Pm3 (.int 0) m3 → (Q (.int (0 : Int32)) m3)))) ∧ (∀ m2, Pm2 (.int 0) m2 → (Q (.int (0 : Int32)) m2)))
    (hw : ¬ (34 ≤ K a1 ∧ K a1 ≤ 37) → ∃ Pm1 : Value → MM → Prop, Runs e_X12_wrong [.ref 156, .int 1] (catR y (aaV v1 m)) Pm1 ∧ (∀ r m1, Pm1 r m1 → r = .int 1 ∨ r = .int 0) ∧ (∀ m1, Pm1 (.int 1) m1 → Q (.int 1) m1) ∧ (∀ m1, Pm1 (.int 0) m1 → (Q (.int (0 : Int32)) m1))) :
    G e_X12_cond 32 [(0, .ref 156), (1, .int l1), (3, .int (nI (200 + m))), (4, .int l4)] [] (catR y v) Q := by
  obtain ⟨o1, p1⟩ := wordM h y (k := 25) (by decide)
  have hA : RC xh (aaV v1 m) M K ts a1 := h1.mix (DX.rf xh) DV.aa
  obtain ⟨⟨a1', a2⟩, ⟨b1, b2⟩, ⟨c1, c2⟩, ⟨d1, d2⟩⟩ := sgn34 hA y
  have m4 := h1.1.2.2.1.2.1
  have ha := h1.2.1
  apply b_X12_cond_32
  refine ⟨o1, fun z => absurd (p1.mp z) hk, fun _ => bcall e1 ?_ (fun z => nomatch z)⟩
  rintro - m' rfl
  have ecl : (nI (200 + m)).toNatClampNeg = 200 + m := nI_clamp (by omega)
  have vi : vp_in (nI (200 + m)) 400 = True := eq_true (vp_in_nI (by omega) (by omega))
  have e32 : (catR y v1).1 156 32 = v1.1 156 32 := by rw [cr_1 (by decide)]
  have eA : wI (wI (catR y v1) 170 (200 + m) ((catR y v1).1 156 32)) 171 (200 + m) ((wI (catR y v1) 170 (200 + m) ((catR y v1).1 156 32)).1 164 1) = catR y (aaV v1 m) := by
    rw [wI_o (a := 164) (by decide), e32, cr_1 (by decide), cr_w (by decide), cr_w (by decide)]
    rfl
  have e7 : (catR y (aaV v1 m)).1 156 7 = nI a1 := by rw [cr_1 (by decide)]; exact hA.2.2.2.1
  have eca : (nI a1).toNatClampNeg = a1 := nI_clamp (by omega)
  have va : vp_in (nI a1) 2001 = True := eq_true (vp_in_nI (by omega) (by omega))
  have eB : ∀ q, K a1 = q → 34 ≤ q ∧ q ≤ 37 → wI (catR y (aaV v1 m)) 169 (200 + m) ((catR y (aaV v1 m)).1 160 a1) = catR y (bbV v1 m q) := fun q hq hq2 => by
    have := (hA.1.cat y a1 ha).2.2.2 (by omega)
    rw [this, hq, cr_w (by decide)]
    rfl
  have fold : ∀ m3, condT l1 (nI (200 + m)) l4 Q m3 → condT l1 (nI (200 + m)) l4 Q m3 := fun _ z => z
  simp only [ecl, vi, eA, a1', a2, b1, b2, c1, c2, d1, d2, e7, eca, va, true_and]
  unfold condT at hc
  simp only [ecl, vi, true_and] at hc
  refine ⟨fun z => ?_, fun n34 => ⟨fun z => ?_, fun n35 => ⟨fun z => ?_, fun n37 => ⟨fun z => ?_, fun n36 => hw (by omega)⟩⟩⟩⟩
  · rw [eB 34 z (by decide)]; rw [z] at hc; exact hc (by decide)
  · rw [eB 35 z (by decide)]; rw [z] at hc; exact hc (by decide)
  · rw [eB 37 z (by decide)]; rw [z] at hc; exact hc (by decide)
  · rw [eB 36 z (by decide)]; rw [z] at hc; exact hc (by decide)
/-- behind the right side -/
theorem mC_3 {v3 xh : MM} {m c g a3 : Nat} {neg : Bool} (hm : m < 200) (y : MM) (h3 : RC xh v3 M K ts a3) (hcn : v3.1 167 1 = nI c) {Q : Value → MM → Prop}
    (hand : K a3 = 24 → ∃ Pm : Value → MM → Prop, Runs e_X12_pass [.ref 156] (catR y (ddV v3 m c g neg)) Pm ∧ (∀ r m1, Pm r m1 → r = .int 1 ∨ r = .int 0) ∧ (∀ m1, Pm (.int 1) m1 → G e_X12_cond 14 [(0, .ref 156), (1, .int (nI g)), (2, .int 1)] [] m1 Q) ∧ (∀ m1, Pm (.int 0) m1 → Q (.int 0) m1))
    (hor : K a3 = 23 → ∃ Pm : Value → MM → Prop, Runs e_X12_pass [.ref 156] (catR y (ddV v3 m c g neg)) Pm ∧ (∀ r m1, Pm r m1 → r = .int 1 ∨ r = .int 0) ∧ (∀ m1, Pm (.int 1) m1 → G e_X12_cond 14 [(0, .ref 156), (1, .int (nI (g + 1))), (2, .int 1)] [] m1 Q) ∧ (∀ m1, Pm (.int 0) m1 → Q (.int 0) m1))
    (hend : ¬ K a3 = 24 → ¬ K a3 = 23 → G e_X12_cond 14 [(0, .ref 156), (1, .int (nI g)), (2, .int 0)] [] (catR y (ddV v3 m c g neg)) Q) : condT (nI g) (nI (200 + m)) (bI neg) Q (catR y v3) := by
  have hD : RC xh (ddV v3 m c g neg) M K ts a3 := h3.mix (DX.rf xh) DV.dd
  obtain ⟨o1, p1⟩ := wordM hD y (k := 24) (by decide)
  obtain ⟨o2, p2⟩ := wordM hD y (k := 23) (by decide)
  have q1 : o_X12_isWord (catR y (ddV v3 m c g neg)) 11 = True := eq_true o1
  have q2 : o_X12_isWord (catR y (ddV v3 m c g neg)) 12 = True := eq_true o2
  have r1 : p_X12_isWord (catR y (ddV v3 m c g neg)) 11 = (K a3 = 24) := propext p1
  have r2 : p_X12_isWord (catR y (ddV v3 m c g neg)) 12 = (K a3 = 23) := propext p2
  have ecl : (nI (200 + m)).toNatClampNeg = 200 + m := nI_clamp (by omega)
  have vi : vp_in (nI (200 + m)) 400 = True := eq_true (vp_in_nI (by omega) (by omega))
  have e164 : (catR y v3).1 164 1 = v3.1 164 1 := by rw [cr_1 (by decide)]
  have e167 : (catR y v3).1 167 1 = nI c := by rw [cr_1 (by decide)]; exact hcn
  have eD : wI (wI (wI (wI (catR y v3) 172 (200 + m) (v3.1 164 1)) 168 (200 + m) (bI neg)) 173 (200 + m) (nI g)) 167 1 (nI (c + 1)) = catR y (ddV v3 m c g neg) := by
    rw [cr_w (by decide), cr_w (by decide), cr_w (by decide), cr_w (by decide)]
    rfl
  unfold condT
  simp only [ecl, vi, e164, nar_b, wI_o (show (167 : Nat) ≠ 173 by decide), wI_o (show (167 : Nat) ≠ 168 by decide), wI_o (show (167 : Nat) ≠ 172 by decide), e167, nI_1, eD, q1, q2, r1, r2, true_and]
  refine ⟨fun z => ⟨fun z2 => by omega, fun _ => hand z⟩, fun z => ⟨fun z2 => ⟨fun _ => hor z2, fun z3 => absurd z2 z3⟩, fun z2 => ⟨fun z3 => absurd z3 z2, fun _ => hend z z2⟩⟩⟩
theorem mC_end {l1 : Int32} (m : MM) {Q : Value → MM → Prop} (h : Q (.int 1) m) : G e_X12_cond 14 [(0, .ref 156), (1, .int l1), (2, .int 0)] [] m Q := by
  apply b_X12_cond_14
  exact ⟨fun _ => h, fun z => absurd rfl z⟩
theorem mC_go {l1 : Int32} {m : Nat} (hm : v.1 167 1 = nI m) (y : MM) {Q : Value → MM → Prop} (h : G e_X12_cond 32 [(0, .ref 156), (1, .int l1), (3, .int (nI (200 + m))), (4, .int (bI false))] [] (catR y v) Q) : G e_X12_cond 14 [(0, .ref 156), (1, .int l1), (2, .int 1)] [] (catR y v) Q := by
  have e167 : (catR y v).1 167 1 = nI m := by rw [cr_1 (by decide)]; exact hm
  apply b_X12_cond_14
  refine ⟨fun z => absurd z (by decide), fun _ => ?_⟩
  rw [e167, show (200 : Int32) = nI 200 from rfl, nI_add]
  exact h
end

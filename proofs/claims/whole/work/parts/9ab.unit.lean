/-! reading: one unit of an expression -/
section
variable {x v : MM} {M a : Nat} {K ts : Nat → Nat}
theorem FV.tk (v : MM) (ts : Nat → Nat) (a e : Nat) : FV v (tkV v ts a e) := by
  unfold tkV
  split
  · exact (FV.rf v).w (by omega) _
  · exact FV.wr _ _ _
theorem DV.tk {v v' : MM} (h : DV v v') (ts : Nat → Nat) (a e : Nat) : DV (tkV v ts a e) (tkV v' ts a e) := by
  unfold tkV
  split
  · refine ⟨h.1, by rw [wI_o (by decide), wI_o (by decide)]; exact h.2.1, by rw [wI_o (by decide), wI_o (by decide)]; exact h.2.2.1, by rw [wI_o (by decide), wI_o (by decide)]; exact h.2.2.2.1, fun y y1 y2 => ?_⟩
    rw [wI_k, wI_k]
    by_cases c : y = 7
    · subst c; rw [pk_us, pk_us]
    · rw [pk_un c, pk_un c]; exact h.2.2.2.2 y y1 y2
  · unfold wrM
    refine ⟨h.1, by rw [wI_o (by decide), wI_o (by decide), wI_o (by decide), wI_o (by decide)]; exact h.2.1, by rw [wI_o (by decide), wI_o (by decide), wI_o (by decide), wI_o (by decide)]; exact h.2.2.1, by rw [wI_o (by decide), wI_o (by decide), wI_o (by decide), wI_o (by decide)]; exact h.2.2.2.1, fun y y1 y2 => ?_⟩
    rw [wI_k, wI_k, wI_k, wI_k]
    by_cases c : y = 9
    · subst c; rw [pk_us, pk_us]
    · rw [pk_un c, pk_un c]
      by_cases c8 : y = 8
      · subst c8; rw [pk_us, pk_us]
      · rw [pk_un c8, pk_un c8]; exact h.2.2.2.2 y y1 y2
theorem VS.tk (v : MM) (ts : Nat → Nat) (a e : Nat) : VS v (tkV v ts a e) := fun y h => by
  unfold tkV
  split
  · rw [wI_k, pk_un (by omega)]
  · unfold wrM; rw [wI_k, pk_un (by omega), wI_k, pk_un (by omega)]
theorem VS.em {n : Nat} {o w : Int32} : VS v (emV v n o w) := fun y _ => by rw [emV_o (by decide) (by decide) (by decide)]
def CE (x : MM) (sd l1 : Nat) (w : Bool) : Prop := x.1 1 14 = nI sd ∧ x.1 1 15 = nI l1 ∧ x.1 1 16 = bI w
theorem EI.wX {rt st k0 k fr n : Nat} {U P : List Nat} {w : Bool} (h : EI x v rt st k0 k fr n a U P w) {j : Nat} (hj : j ≠ 13) (z : Int32) : EI (wI x 1 j z) v rt st k0 k fr n a U P w := by
  have hc : rt = 10 ∨ rt = 100 := h.1.2
  have e1 : cdX (wI x 1 j z) rt = cdX x rt := by unfold cdX; rw [wI_o (by omega)]
  unfold EI wtX at *
  rw [e1, wI_o (a := rt + 8) (by omega), wI_k, pk_un (Ne.symm hj), wI_o (a := 4) (by decide)]
  exact h
theorem EI.wV {rt st k0 k fr n : Nat} {U P : List Nat} {w : Bool} (h : EI x v rt st k0 k fr n a U P w) {j : Nat} (hj : j ≠ 30) (z : Int32) : EI x (wI v 156 j z) rt st k0 k fr n a U P w := by
  have e2 : opV (wI v 156 j z) = opV v := by unfold opV; rw [wI_o (by decide)]
  have e3 : vaV (wI v 156 j z) = vaV v := by unfold vaV; rw [wI_o (by decide)]
  unfold EI wtV at *
  rw [e2, e3, wI_o (a := 164) (by decide), wI_k, pk_un (Ne.symm hj), wI_o (a := 178) (by decide)]
  exact h
/-- one more number or variable in both codes -/
theorem EI.unit {rt st k0 k fr n o : Nat} {U P : List Nat} {wx wv : Int32} (h : EI x v rt st k0 k fr n a U P true) (h4 : a < 401) (ho : o ≤ 1)
    (hA : ∀ cd op va, AV cd op va st k0 k fr n → dp op fr n ≤ 28 → cd (st + k) = wx → op (fr + n) = nI o → va (fr + n) = wv → AV cd op va st k0 (k + 1) fr (n + 1)) (hC : ∀ cd, Coded cd st k → cd (st + k) = wx → Coded cd st (k + 1)) (h1 : o = 1 → ∃ j : Nat, j < 9 ∧ wv = nI j) :
    EI (adX x rt (st + k) wx) (emV v (fr + n) (nI o) wv) rt st k0 (k + 1) fr (n + 1) (a + 1) U P false := by
  obtain ⟨⟨r1, ht⟩, ⟨h5, h6⟩, ⟨hw, hv⟩, ⟨hAV, hS, hCd⟩, ⟨hd, hg, hop⟩, b1, b2, b3, b4⟩ := h
  have hc : rt = 10 ∨ rt = 100 := ht
  have hd : dp (opV v) fr n = pc U := hd
  have hpc := gd_pc hg
  have hr0 := rk0_le U
  have e1 : ∀ i, i ≠ fr + n → opV (emV v (fr + n) (nI o) wv) i = opV v i ∧ vaV (emV v (fr + n) (nI o) wv) i = vaV v i := fun i hi => emV_op hi
  have edp : dp (opV (emV v (fr + n) (nI o) wv)) fr n = dp (opV v) fr n := dp_cong fun i hi => (e1 _ (by omega)).1
  have eo : opV (emV v (fr + n) (nI o) wv) (fr + n) < 2 := by rw [emV_at.1]; exact nI_lt (a := o) (b := 2) (by omega) (by omega)
  refine ⟨⟨r1, ht⟩, ⟨adX_5, emV_n⟩, ⟨?_, ?_⟩, ⟨?_, hS.up e1 (by omega) emV_at.1 (fun z => ?_) (fun z => by omega), ?_⟩, ⟨?_, hg, hop⟩, by omega, by omega, by omega, by omega⟩
  · unfold wtX
    rw [adX_o (by omega) (by omega), adX_o (by omega) (by omega)]
    exact hw
  · unfold wtV
    rw [emV_o (by decide) (by decide) (by decide), emV_o (by decide) (by decide) (by decide)]
    exact hv
  · rw [adX_c]
    exact hA _ _ _ (AV.cong hAV b1 (fun i hi => pk_un (by omega)) fun i hi => e1 _ (by omega)) (by rw [edp, hd]; omega) pk_us emV_at.1 emV_at.2
  · rw [emV_at.2]; exact h1 z
  · rw [adX_c]
    exact hC _ (hCd.cong fun i hi => pk_un (by omega)) pk_us
  · rw [dp_up eo, edp, hd]; rfl
/-- what the model's loop does where a unit is wanted -/
theorem mU_open {l1 : Nat} (h : RC x v M K ts a) (hk : K a = 38) (hl : l1 < 6) (y : MM) {Q : Value → MM → Prop}
    (hQ : ∃ Pm1 : Value → MM → Prop, Runs e_X12_pass [.ref 156] (catR y v) Pm1 ∧ (∀ r m1, Pm1 r m1 → r = .int 1 ∨ r = .int 0) ∧ (∀ m1, Pm1 (.int 1) m1 → (∃ Pm2 : Value → MM → Prop, Runs e_X12_await [.ref 156, .int (0 : Int32)] m1 Pm2 ∧ ∀ m2, Pm2 .null m2 → (G e_X12_expr 21 [(0, .ref 156), (1, .int (nI (l1 + 1))), (2, .int 1), (3, .int 1)] [] m2 Q))) ∧ (∀ m1, Pm1 (.int 0) m1 → (Q (.int (0 : Int32)) m1))) :
    G e_X12_expr 21 [(0, .ref 156), (1, .int (nI l1)), (2, .int 1), (3, .int 1)] [] (catR y v) Q := by
  obtain ⟨o1, p1⟩ := signM h y (k := 38) (by decide)
  have z : ((1 : Int32) = 0) = False := by decide
  have n6 : (nI l1 = (6 : Int32)) = False := s_eqF (b := 6) (by omega) (by omega) (by omega)
  have o1 : o_X12_isSign (catR y v) 40 = True := eq_true o1
  have p1 : p_X12_isSign (catR y v) 40 = True := eq_true (p1.mpr hk)
  apply b_X12_expr_21
  simp only [z, n6, o1, p1, nI_1, not_true, not_false_eq_true, true_implies, false_implies, true_and, and_true]
  exact hQ
theorem mU_open6 (h : RC x v M K ts a) (hk : K a = 38) (y : MM) {Q : Value → MM → Prop}
    (hQ : ∃ Pm1 : Value → MM → Prop, Runs e_X12_wrong [.ref 156, .int 2] (catR y v) Pm1 ∧ (∀ r m1, Pm1 r m1 → r = .int 1 ∨ r = .int 0) ∧ (∀ m1, Pm1 (.int 1) m1 → Q (.int 1) m1) ∧ (∀ m1, Pm1 (.int 0) m1 → (Q (.int (0 : Int32)) m1))) :
    G e_X12_expr 21 [(0, .ref 156), (1, .int (nI 6)), (2, .int 1), (3, .int 1)] [] (catR y v) Q := by
  obtain ⟨o1, p1⟩ := signM h y (k := 38) (by decide)
  have z : ((1 : Int32) = 0) = False := by decide
  have n6 : (nI 6 = (6 : Int32)) = True := eq_true rfl
  have o1 : o_X12_isSign (catR y v) 40 = True := eq_true o1
  have p1 : p_X12_isSign (catR y v) 40 = True := eq_true (p1.mpr hk)
  apply b_X12_expr_21
  simp only [z, n6, o1, p1, nI_1, not_true, not_false_eq_true, true_implies, false_implies, true_and, and_true]
  exact hQ
theorem mU_other {l1 : Int32} (h : RC x v M K ts a) (hk : ¬ K a = 38) (y : MM) {Q : Value → MM → Prop}
    (hi : K a = 27 → ∃ Pm1 : Value → MM → Prop, Runs e_X12_emit [.ref 156, .int (0 : Int32), .int (v.1 160 a)] (catR y v) Pm1 ∧ ∀ m1, Pm1 .null m1 → (∃ Pm2 : Value → MM → Prop, Runs e_X12_pass [.ref 156] m1 Pm2 ∧ (∀ r m2, Pm2 r m2 → r = .int 1 ∨ r = .int 0) ∧ (∀ m2, Pm2 (.int 1) m2 → (G e_X12_expr 21 [(0, .ref 156), (1, .int l1), (2, .int (0 : Int32)), (3, .int 1)] [] m2 Q)) ∧ (∀ m2, Pm2 (.int 0) m2 → (Q (.int (0 : Int32)) m2))))
    (hv : 12 ≤ K a ∧ K a ≤ 20 → ∃ Pm1 : Value → MM → Prop, Runs e_X12_emit [.ref 156, .int (1 : Int32), .int (nI ((K a - 12 + 8) % 9))] (catR y v) Pm1 ∧ ∀ m1, Pm1 .null m1 → (∃ Pm2 : Value → MM → Prop, Runs e_X12_pass [.ref 156] m1 Pm2 ∧ (∀ r m2, Pm2 r m2 → r = .int 1 ∨ r = .int 0) ∧ (∀ m2, Pm2 (.int 1) m2 → (G e_X12_expr 21 [(0, .ref 156), (1, .int l1), (2, .int (0 : Int32)), (3, .int 1)] [] m2 Q)) ∧ (∀ m2, Pm2 (.int 0) m2 → (Q (.int (0 : Int32)) m2))))
    (hw : ¬ (K a = 27 ∨ 12 ≤ K a ∧ K a ≤ 20) → ∃ Pm1 : Value → MM → Prop, Runs e_X12_wrong [.ref 156, .int 1] (catR y v) Pm1 ∧ (∀ r m1, Pm1 r m1 → r = .int 1 ∨ r = .int 0) ∧ (∀ m1, Pm1 (.int 1) m1 → Q (.int 1) m1) ∧ (∀ m1, Pm1 (.int 0) m1 → (Q (.int (0 : Int32)) m1))) :
    G e_X12_expr 21 [(0, .ref 156), (1, .int l1), (2, .int 1), (3, .int 1)] [] (catR y v) Q := by
  obtain ⟨o1, p1⟩ := signM h y (k := 38) (by decide)
  have m4 := h.1.2.2.1.2.1
  have ha := h.2.1
  have hk41 := (h.1.2.2.2.1 a ha).1
  obtain ⟨c1, c2, c3, c4⟩ := h.1.cat y a ha
  obtain ⟨i1, i2, i3, i4, i5⟩ := k_int (K a) (by omega)
  have hm : mS (K a) ≤ 5 := by unfold mS; repeat' split
                               all_goals omega
  have z : ((1 : Int32) = 0) = False := by decide
  have o1 : o_X12_isSign (catR y v) 40 = True := eq_true o1
  have p1 : p_X12_isSign (catR y v) 40 = False := eq_false fun w => hk (p1.mp w)
  have e7 : (catR y v).1 156 7 = nI a := by rw [cr_1 (by decide)]; exact h.2.2.2.1
  have ecl : (nI a).toNatClampNeg = a := nI_clamp (by omega)
  have vi : vp_in (nI a) 2001 = True := eq_true (vp_in_nI (by omega) (by omega))
  have q3 : ((catR y v).1 158 a = (3 : Int32)) = (K a < 26) := by
    rw [c1, show (3 : Int32) = nI 3 from rfl]
    exact propext ((nI_eq (by omega) (by omega)).trans i4)
  have q1 : ((catR y v).1 158 a = (1 : Int32)) = (K a = 27) := by
    rw [c1, show (1 : Int32) = nI 1 from rfl]
    exact propext ((nI_eq (by omega) (by omega)).trans i1)
  have e160 : (catR y v).1 160 a = v.1 160 a := by rw [cr_1 (by decide)]
  apply b_X12_expr_21
  simp only [z, o1, p1, e7, ecl, vi, q3, q1, not_false_eq_true, true_implies, false_implies, true_and]
  refine ⟨fun w3 => ⟨fun w1 => ?_, fun w1 => hw (by omega)⟩, fun w3 => ⟨fun w1 => by omega, fun w1 => ?_⟩⟩
  · rw [e160]; exact hi w1
  · have hsm : ∀ k : Nat, k < 26 → wmN k < 400 := by decide
    have hvr : ∀ k : Nat, k < 26 → (12 ≤ k ∧ k ≤ 20 → v_X12_variableOf (catR y v) (nI (wmN k)) = nI ((k - 12 + 8) % 9)) ∧ (¬ (12 ≤ k ∧ k ≤ 20) → v_X12_variableOf (catR y v) (nI (wmN k)) = -1) := by
      unfold v_X12_variableOf
      simp only [cite_ite]
      decide
    obtain ⟨hv1, hv2⟩ := hvr (K a) w3
    have e3 : (catR y v).1 160 a = nI (wmN (K a)) := c3 w3
    simp only [e3]
    by_cases cv : 12 ≤ K a ∧ K a ≤ 20
    · rw [hv1 cv]
      have hp : (0 ≤ nI ((K a - 12 + 8) % 9)) = True := eq_true (Int32.not_lt.mp (nI_pos (by omega)))
      simp only [hp, not_true, true_implies, false_implies, and_true, true_and]
      exact hv cv
    · rw [hv2 cv]
      have hp : (0 ≤ (-1 : Int32)) = False := by decide
      simp only [hp, not_false_eq_true, true_implies, false_implies, and_true, true_and]
      exact hw (by omega)
end

/-! what is asked of the rules, as the model asks -/
theorem As.u {m : MM} {a : Nat → Int32} (h : As m a) (j : Nat) {v v' : Int32} (e : v = v') : As (wI m 179 j v) (upd a j v') := fun i hi => by
  subst e
  rw [wI_k]
  by_cases c : i = j
  · subst c; rw [pk_us, pk_us]
  · rw [pk_un c, pk_un c]; exact h i hi
theorem askNone_ok {mm : MM} (m : MM) (hm : Kq mm m) : Runs e_X12_askNone [.ref 156] m (fun r m' => r = .null ∧ Kq mm m' ∧ As m' (fun _ => 0)) := by
  apply b_X12_askNone
  refine for_up (fun k => [(0, .ref 156), (1, .int (nI k))]) (fun k m => Kq mm m ∧ ∀ j, j < k → m.1 179 j = 0) 9 ?_ ?_ 0 _ (Nat.zero_le _) ⟨hm, fun j hj => absurd hj (Nat.not_lt_zero _)⟩
  · rintro m ⟨k1, k2⟩
    apply b_X12_askNone_2
    simp (disch := omega) only [lin, nI_add, pk_mul, s_sub, s_addneg, s_leT, s_leF, s_ltT, s_ltF, s_eqF, s_inT, s_neF, s_neF', s_neE, s_nleT, s_nleF, s_nltF, s_nltT, eq_self, nI_clamp, s_wIk, s_wIo, pk_us, pk_un, Nat.reduceAdd, Nat.reduceMul, Nat.reduceSub, Nat.zero_add, Nat.add_zero, Nat.mul_zero, true_implies, false_implies, implies_true, not_true, not_false, and_true, true_and, not_true_eq_false, not_false_eq_true, forall_const]
    exact ⟨k1, k2⟩
  · rintro k m hk ⟨k1, k2⟩ hn
    apply b_X12_askNone_2
    simp (disch := omega) only [lin, nI_add, pk_mul, s_sub, s_addneg, s_leT, s_leF, s_ltT, s_ltF, s_eqF, s_inT, s_neF, s_neF', s_neE, s_nleT, s_nleF, s_nltF, s_nltT, eq_self, nI_clamp, s_wIk, s_wIo, pk_us, pk_un, Nat.reduceAdd, Nat.reduceMul, Nat.reduceSub, Nat.zero_add, Nat.add_zero, Nat.mul_zero, true_implies, false_implies, implies_true, not_true, not_false, and_true, true_and, not_true_eq_false, not_false_eq_true, forall_const]
    refine hn _ ⟨k1.w _ rfl, fun j hj => ?_⟩
    rw [wI_k]
    by_cases c : j = k
    · subst c; rw [pk_us]; rfl
    · rw [pk_un c]; exact k2 j (by omega)
def RankOK (c : Nat → Nat → Int32) (h : Nat) : Prop := c 163 (30 + h) = -nI 2 ∨ ∃ o : Nat, o < 12 ∧ c 163 (30 + h) = nI o
def rkV (c : Nat → Nat → Int32) (h : Nat) : Int32 := if 0 ≤ c 163 (30 + h) then c 162 (70 + (c 163 (30 + h)).toNatClampNeg) else 0
theorem rk_v {mm m : MM} {h : Nat} (hm : Kq mm m) (hh : h < 16) (hr : RankOK mm.1 h) : v_X12_rankOf m (nI h) = rkV mm.1 h := by
  unfold v_X12_rankOf rkV
  rcases hr with e | ⟨o, ho, e⟩
  · simp (disch := omega) only [lin, nI_add, pk_mul, s_sub, s_addneg, s_leT, s_leF, s_ltT, s_ltF, s_eqF, s_inT, s_neF, s_neF', s_neE, s_nleT, s_nleF, s_nltF, s_nltT, eq_self, nI_clamp, s_wIk, s_wIo, pk_us, pk_un, Nat.reduceAdd, Nat.reduceMul, Nat.reduceSub, Nat.zero_add, Nat.add_zero, Nat.mul_zero, true_implies, false_implies, implies_true, not_true, not_false, and_true, true_and, not_true_eq_false, not_false_eq_true, forall_const, hm.r163, e]
    rw [cite_neg (by decide), if_neg (by decide)]
  · simp (disch := omega) only [lin, nI_add, pk_mul, s_sub, s_addneg, s_leT, s_leF, s_ltT, s_ltF, s_eqF, s_inT, s_neF, s_neF', s_neE, s_nleT, s_nleF, s_nltF, s_nltT, eq_self, nI_clamp, s_wIk, s_wIo, pk_us, pk_un, Nat.reduceAdd, Nat.reduceMul, Nat.reduceSub, Nat.zero_add, Nat.add_zero, Nat.mul_zero, true_implies, false_implies, implies_true, not_true, not_false, and_true, true_and, not_true_eq_false, not_false_eq_true, forall_const, hm.r163, hm.r162, e]
    rw [cite_pos (by trivial), if_pos (by trivial)]
theorem rk_o {mm m : MM} {h : Nat} (hm : Kq mm m) (hh : h < 16) (hr : RankOK mm.1 h) : o_X12_rankOf m (nI h) := by
  unfold o_X12_rankOf
  rcases hr with e | ⟨o, ho, e⟩
  · simp (disch := omega) only [lin, nI_add, pk_mul, s_sub, s_addneg, s_leT, s_leF, s_ltT, s_ltF, s_eqF, s_inT, s_neF, s_neF', s_neE, s_nleT, s_nleF, s_nltF, s_nltT, eq_self, nI_clamp, s_wIk, s_wIo, pk_us, pk_un, Nat.reduceAdd, Nat.reduceMul, Nat.reduceSub, Nat.zero_add, Nat.add_zero, Nat.mul_zero, true_implies, false_implies, implies_true, not_true, not_false, and_true, true_and, not_true_eq_false, not_false_eq_true, forall_const, hm.r163, e]
  · simp (disch := omega) only [lin, nI_add, pk_mul, s_sub, s_addneg, s_leT, s_leF, s_ltT, s_ltF, s_eqF, s_inT, s_neF, s_neF', s_neE, s_nleT, s_nleF, s_nltF, s_nltT, eq_self, nI_clamp, s_wIk, s_wIo, pk_us, pk_un, Nat.reduceAdd, Nat.reduceMul, Nat.reduceSub, Nat.zero_add, Nat.add_zero, Nat.mul_zero, true_implies, false_implies, implies_true, not_true, not_false, and_true, true_and, not_true_eq_false, not_false_eq_true, forall_const, hm.r163, hm.r162, e]
theorem x_v {mm m : MM} {h : Nat} (hm : Kq mm m) (hh : h < 16) : v_X12_xOf m (nI h) = mm.1 162 (20 + 3 * h) := by
  unfold v_X12_xOf
  simp (disch := omega) only [lin, nI_add, pk_mul, s_sub, s_addneg, s_leT, s_leF, s_ltT, s_ltF, s_eqF, s_inT, s_neF, s_neF', s_neE, s_nleT, s_nleF, s_nltF, s_nltT, eq_self, nI_clamp, s_wIk, s_wIo, pk_us, pk_un, Nat.reduceAdd, Nat.reduceMul, Nat.reduceSub, Nat.zero_add, Nat.add_zero, Nat.mul_zero, true_implies, false_implies, implies_true, not_true, not_false, and_true, true_and, not_true_eq_false, not_false_eq_true, forall_const, hm.r162]
theorem x_o {m : MM} {h : Nat} (hh : h < 16) : o_X12_xOf m (nI h) := by
  unfold o_X12_xOf
  simp (disch := omega) only [lin, nI_add, pk_mul, s_sub, s_addneg, s_leT, s_leF, s_ltT, s_ltF, s_eqF, s_inT, s_neF, s_neF', s_neE, s_nleT, s_nleF, s_nltF, s_nltT, eq_self, nI_clamp, s_wIk, s_wIo, pk_us, pk_un, Nat.reduceAdd, Nat.reduceMul, Nat.reduceSub, Nat.zero_add, Nat.add_zero, Nat.mul_zero, true_implies, false_implies, implies_true, not_true, not_false, and_true, true_and, not_true_eq_false, not_false_eq_true, forall_const]
theorem h_v {mm m : MM} {h : Nat} (hm : Kq mm m) (hh : h < 16) : v_X12_heightOf m (nI h) = mm.1 163 (10 + h) := by
  unfold v_X12_heightOf
  simp (disch := omega) only [lin, nI_add, pk_mul, s_sub, s_addneg, s_leT, s_leF, s_ltT, s_ltF, s_eqF, s_inT, s_neF, s_neF', s_neE, s_nleT, s_nleF, s_nltF, s_nltT, eq_self, nI_clamp, s_wIk, s_wIo, pk_us, pk_un, Nat.reduceAdd, Nat.reduceMul, Nat.reduceSub, Nat.zero_add, Nat.add_zero, Nat.mul_zero, true_implies, false_implies, implies_true, not_true, not_false, and_true, true_and, not_true_eq_false, not_false_eq_true, forall_const, hm.r163]
theorem h_o {m : MM} {h : Nat} (hh : h < 16) : o_X12_heightOf m (nI h) := by
  unfold o_X12_heightOf
  simp (disch := omega) only [lin, nI_add, pk_mul, s_sub, s_addneg, s_leT, s_leF, s_ltT, s_ltF, s_eqF, s_inT, s_neF, s_neF', s_neE, s_nleT, s_nleF, s_nltF, s_nltT, eq_self, nI_clamp, s_wIk, s_wIo, pk_us, pk_un, Nat.reduceAdd, Nat.reduceMul, Nat.reduceSub, Nat.zero_add, Nat.add_zero, Nat.mul_zero, true_implies, false_implies, implies_true, not_true, not_false, and_true, true_and, not_true_eq_false, not_false_eq_true, forall_const]
def askD (c : Nat → Nat → Int32) (h : Nat) : Nat → Int32 := upd (upd (upd (fun _ => 0) 1 (rkV c h)) 2 (c 162 (20 + 3 * h + 2))) 3 (c 162 (20 + 3 * h))
def askT (c : Nat → Nat → Int32) (hr : Int32) : Nat → Int32 := upd (upd (fun _ => 0) 4 hr) 5 (c 163 0)
def askL (c : Nat → Nat → Int32) (h : Nat) (w : Int32) : Nat → Int32 := upd (upd (upd (upd (upd (upd (fun _ => 0) 0 (c 163 (10 + h))) 1 (rkV c h)) 2 (c 162 (20 + 3 * h + 2))) 3 (c 162 (20 + 3 * h))) 5 (c 163 0)) 6 w
def dueV (c : Nat → Nat → Int32) (h : Nat) : Int32 := saysV c (askD c h) 1 (rkV c h)
def tideV (c : Nat → Nat → Int32) (hr : Int32) : Int32 := saysV c (askT c hr) 0 0
def swayV (c : Nat → Nat → Int32) (h : Nat) (w : Int32) : Int32 := saysV c (askL c h w) 2 0
def badV (c : Nat → Nat → Int32) (h : Nat) : Bool := anyV (ruleV c (upd (askL c h 0) 8 (swayV c h 0)) 200) (c 162 9).toNatClampNeg
def fallV (c : Nat → Nat → Int32) (h : Nat) (w g : Int32) : Bool := anyV (ruleV c (upd (upd (askL c h w) 7 g) 8 (swayV c h w)) 190) (c 162 8).toNatClampNeg
theorem due_ok {mm : MM} {h : Nat} (hh : h < 16) (hr : RankOK mm.1 h) (hL : LawM mm.1 1) (m : MM) (hm : Kq mm m) : Runs e_X12_dueOf [.ref 156, .int (nI h)] m (fun r m' => r = .int (dueV mm.1 h) ∧ Kq mm m') := by
  apply b_X12_dueOf
  refine vcall (askNone_ok m hm) ?_
  rintro m1 ⟨q1, q2⟩
  have K2 : ∀ v w, Kq mm (wI (wI m1 179 1 v) 179 2 w) := fun v w => (q1.w _ rfl).w _ rfl
  refine ⟨rk_o q1 hh hr, by simp (disch := omega) only [lin, nI_add, pk_mul, s_sub, s_addneg, s_leT, s_leF, s_ltT, s_ltF, s_eqF, s_inT, s_neF, s_neF', s_neE, s_nleT, s_nleF, s_nltF, s_nltT, eq_self, nI_clamp, s_wIk, s_wIo, pk_us, pk_un, Nat.reduceAdd, Nat.reduceMul, Nat.reduceSub, Nat.zero_add, Nat.add_zero, Nat.mul_zero, true_implies, false_implies, implies_true, not_true, not_false, and_true, true_and, not_true_eq_false, not_false_eq_true, forall_const], x_o hh, rk_o ((K2 _ _).w _ rfl) hh hr, ?_⟩
  rw [rk_v ((K2 _ _).w _ rfl) hh hr]
  refine icall (says_ok (l := 1) (a := askD mm.1 h) (by omega) hL _ ((K2 _ _).w _ rfl) (((q2.u 1 (rk_v q1 hh hr)).u 2 (by simp (disch := omega) only [lin, nI_add, pk_mul, s_sub, s_addneg, s_leT, s_leF, s_ltT, s_ltF, s_eqF, s_inT, s_neF, s_neF', s_neE, s_nleT, s_nleF, s_nltF, s_nltT, eq_self, nI_clamp, s_wIk, s_wIo, pk_us, pk_un, Nat.reduceAdd, Nat.reduceMul, Nat.reduceSub, Nat.zero_add, Nat.add_zero, Nat.mul_zero, true_implies, false_implies, implies_true, not_true, not_false, and_true, true_and, not_true_eq_false, not_false_eq_true, forall_const, q1.r162])).u 3 (x_v (K2 _ _) hh))) ?_
  rintro m2 ⟨q3, -⟩
  exact ⟨rfl, q3⟩
theorem tide_ok {mm : MM} (hr : Int32) (hL : LawM mm.1 0) (m : MM) (hm : Kq mm m) : Runs e_X12_tideOf [.ref 156, .int hr] m (fun r m' => r = .int (tideV mm.1 hr) ∧ Kq mm m') := by
  apply b_X12_tideOf
  refine vcall (askNone_ok m hm) ?_
  rintro m1 ⟨q1, q2⟩
  refine icall (says_ok (l := 0) (a := askT mm.1 hr) (by omega) hL _ ((q1.w _ rfl).w _ rfl) ((q2.u 4 rfl).u 5 (by rw [wI_o (by decide), q1.r163]))) ?_
  rintro m2 ⟨q3, -⟩
  exact ⟨rfl, q3⟩
theorem look_ok {mm : MM} {h : Nat} (w : Int32) (hh : h < 16) (hr : RankOK mm.1 h) (m : MM) (hm : Kq mm m) : Runs e_X12_look [.ref 156, .int (nI h), .int w] m (fun r m' => r = .null ∧ Kq mm m' ∧ As m' (askL mm.1 h w)) := by
  apply b_X12_look
  refine vcall (askNone_ok m hm) ?_
  rintro m1 ⟨q1, q2⟩
  have K1 : ∀ v, Kq mm (wI m1 179 0 v) := fun v => q1.w _ rfl
  have K3 : ∀ u v w, Kq mm (wI (wI (wI m1 179 0 u) 179 1 v) 179 2 w) := fun u v w => ((q1.w _ rfl).w _ rfl).w _ rfl
  refine ⟨h_o hh, rk_o (K1 _) hh hr, by simp (disch := omega) only [lin, nI_add, pk_mul, s_sub, s_addneg, s_leT, s_leF, s_ltT, s_ltF, s_eqF, s_inT, s_neF, s_neF', s_neE, s_nleT, s_nleF, s_nltF, s_nltT, eq_self, nI_clamp, s_wIk, s_wIo, pk_us, pk_un, Nat.reduceAdd, Nat.reduceMul, Nat.reduceSub, Nat.zero_add, Nat.add_zero, Nat.mul_zero, true_implies, false_implies, implies_true, not_true, not_false, and_true, true_and, not_true_eq_false, not_false_eq_true, forall_const], x_o hh, rfl, (((K3 _ _ _).w _ rfl).w _ rfl).w _ rfl, ?_⟩
  exact (((((q2.u 0 (h_v q1 hh)).u 1 (rk_v (K1 _) hh hr)).u 2 (by simp (disch := omega) only [lin, nI_add, pk_mul, s_sub, s_addneg, s_leT, s_leF, s_ltT, s_ltF, s_eqF, s_inT, s_neF, s_neF', s_neE, s_nleT, s_nleF, s_nltF, s_nltT, eq_self, nI_clamp, s_wIk, s_wIo, pk_us, pk_un, Nat.reduceAdd, Nat.reduceMul, Nat.reduceSub, Nat.zero_add, Nat.add_zero, Nat.mul_zero, true_implies, false_implies, implies_true, not_true, not_false, and_true, true_and, not_true_eq_false, not_false_eq_true, forall_const, q1.r162])).u 3 (x_v (K3 _ _ _) hh)).u 5 (by simp (disch := omega) only [lin, nI_add, pk_mul, s_sub, s_addneg, s_leT, s_leF, s_ltT, s_ltF, s_eqF, s_inT, s_neF, s_neF', s_neE, s_nleT, s_nleF, s_nltF, s_nltT, eq_self, nI_clamp, s_wIk, s_wIo, pk_us, pk_un, Nat.reduceAdd, Nat.reduceMul, Nat.reduceSub, Nat.zero_add, Nat.add_zero, Nat.mul_zero, true_implies, false_implies, implies_true, not_true, not_false, and_true, true_and, not_true_eq_false, not_false_eq_true, forall_const, q1.r163])).u 6 rfl
theorem sway_ok {mm : MM} {h : Nat} (w : Int32) (hh : h < 16) (hr : RankOK mm.1 h) (hL : LawM mm.1 2) (m : MM) (hm : Kq mm m) : Runs e_X12_swayOf [.ref 156, .int (nI h), .int w] m (fun r m' => r = .int (swayV mm.1 h w) ∧ Kq mm m') := by
  apply b_X12_swayOf
  refine vcall (look_ok w hh hr m hm) ?_
  rintro m1 ⟨q1, q2⟩
  refine icall (says_ok (l := 2) (by omega) hL m1 q1 q2) ?_
  rintro m2 ⟨q3, -⟩
  exact ⟨rfl, q3⟩
theorem bad_ok {mm : MM} {h B : Nat} (hh : h < 16) (hr : RankOK mm.1 h) (hL : LawM mm.1 2) (hB : mm.1 162 9 = nI B) (hB4 : B ≤ 4) (hR : ∀ k, k < B → RuleOK mm.1 200 k) (m : MM) (hm : Kq mm m) : Runs e_X12_isBad [.ref 156, .int (nI h)] m (fun r m' => r = .int (bI (badV mm.1 h)) ∧ Kq mm m') := by
  have hv : badV mm.1 h = anyV (ruleV mm.1 (upd (askL mm.1 h 0) 8 (swayV mm.1 h 0)) 200) B := by unfold badV; rw [hB, nI_clamp (by omega)]
  apply b_X12_isBad
  refine icall (sway_ok 0 hh hr hL m hm) ?_
  intro m1 q1
  refine vcall (look_ok 0 hh hr m1 q1) ?_
  rintro m2 ⟨q2, q3⟩
  refine bcall (isRule_ok (q := 9) (b := 200) (by omega) (Or.inr rfl) hB hB4 hR _ (q2.w _ rfl) (q3.u 8 rfl)) ?_ ?_
  · rintro el m3 ⟨q4, -⟩
    exact ⟨by rw [hv, el]; rfl, q4⟩
  · rintro el m3 ⟨q4, -⟩
    exact ⟨by rw [hv, el]; rfl, q4⟩

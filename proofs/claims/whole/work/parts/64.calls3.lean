/-! law, house, holder, place, wood, sway -/
noncomputable def untV (c : Nat → Nat → Int32) (H : Nat) : Nat := bs (fun h => decide (¬ c 163 (10 + h) = dueV c h)) H
noncomputable def badsV (c : Nat → Nat → Int32) (H : Nat) : Nat := bs (badV c) H
noncomputable def trnV (c : Nat → Nat → Int32) (H : Nat) (a : Nat) : Nat := fb_ct (fun b => decide (¬ rkV c a ≤ rkV c b) && decide (¬ c 163 (10 + b) < c 163 (10 + a))) H
theorem bs16 {p : Nat → Bool} {H : Nat} (h : H ≤ 16) : bs p H < 65536 := Nat.lt_of_lt_of_le (bs_lt _ _) (Nat.pow_le_pow_right (by decide) h)
section Law
variable {mm : MM} {t s H O S Qn W C J F B : Nat}
theorem untC_ok (ht : isT t) (hs : isN s) (hb : BodyR mm.1 t s H O S Qn W C J F B) (m : MM) (hm : Kq mm m) : Runs e_X8_untrueBits [.ref t, .ref s] m (fun r m' => r = .int (nI (untV mm.1 H)) ∧ Kq mm m') := by
  have z1 := hb.sz.1
  apply b_X8_untrueBits _ _ _ _ ht.at hs.s.at
  refine for_up (fun q => [(0, .ref t), (1, .ref s), (2, .int (nI (bs (fun h => decide (¬ mm.1 163 (10 + h) = dueV mm.1 h)) q))), (3, .int (nI q))]) (fun q m => Kq mm m) H ?_ ?_ 0 _ (Nat.zero_le _) hm
  · intro m k
    apply b_X8_untrueBits_4 _ _ _ _ _ _ ht.at hs.s.at
    simp (disch := omega) only [lin, nI_add, pk_mul, s_sub, s_addneg, s_leT, s_leF, s_ltT, s_ltF, s_eqF, s_inT, s_neF, s_neF', s_neE, s_nleT, s_nleF, s_nltF, s_nltT, eq_self, nI_clamp, s_wIk, s_wIo, pk_us, pk_un, Nat.reduceAdd, Nat.reduceMul, Nat.reduceSub, Nat.zero_add, Nat.add_zero, Nat.mul_zero, true_implies, false_implies, implies_true, not_true, not_false, and_true, true_and, not_true_eq_false, not_false_eq_true, forall_const, k.t0 ht, hb.nc.1]
    exact ⟨rfl, k⟩
  · intro q m hq k hn
    apply b_X8_untrueBits_4 _ _ _ _ _ _ ht.at hs.s.at
    rw [nI_clamp (show q < 2 ^ 31 by omega), k.s hs.s 1 (by omega), hb.hh q (by omega), k.t0 ht, hb.nc.1]
    refine ⟨fun z => absurd z (nI_ge hq (by omega)), fun _ => ⟨vp_in_nI (by omega) (by omega), icall (dueC_ok ht hs.s hb.law1 (hb.hou q hq) m k) fun m k => ?_⟩⟩
    have hn2 := hn m k
    simp only [bs_succ] at hn2
    rw [ib q (by omega), fa_or, nI_1 q]
    by_cases e : mm.1 163 (10 + q) = dueV mm.1 q
    · simp only [e, not_true, decide_false, cond_false] at hn2
      exact ⟨fun _ => hn2, fun z => absurd e z⟩
    · simp only [e, not_false_eq_true, decide_true, cond_true] at hn2
      exact ⟨fun z => absurd z e, fun _ => hn2⟩
theorem untM_ok (hb : BodyR mm.1 t s H O S Qn W C J F B) (m : MM) (hm : Kq mm m) : Runs e_X12_untrue [.ref 156] m (fun r m' => r = .int (nI (untV mm.1 H)) ∧ Kq mm m') := by
  have z1 := hb.sz.1
  apply b_X12_untrue
  refine for_up (fun q => [(0, .ref 156), (1, .int (nI (bs (fun h => decide (¬ mm.1 163 (10 + h) = dueV mm.1 h)) q))), (2, .int (nI q))]) (fun q m => Kq mm m) H ?_ ?_ 0 _ (Nat.zero_le _) hm
  · intro m k
    apply b_X12_untrue_4
    simp (disch := omega) only [lin, nI_add, pk_mul, s_sub, s_addneg, s_leT, s_leF, s_ltT, s_ltF, s_eqF, s_inT, s_neF, s_neF', s_neE, s_nleT, s_nleF, s_nltF, s_nltT, eq_self, nI_clamp, s_wIk, s_wIo, pk_us, pk_un, Nat.reduceAdd, Nat.reduceMul, Nat.reduceSub, Nat.zero_add, Nat.add_zero, Nat.mul_zero, true_implies, false_implies, implies_true, not_true, not_false, and_true, true_and, not_true_eq_false, not_false_eq_true, forall_const, k.r162, hb.nm.1]
    exact ⟨rfl, k⟩
  · intro q m hq k hn
    apply b_X12_untrue_4
    rw [h_v k (by omega), k.r162, hb.nm.1]
    refine ⟨fun z => absurd z (nI_ge hq (by omega)), fun _ => ⟨h_o (by omega), icall (due_ok (by omega) (hb.rank q (by omega)).m hb.law1.m m k) fun m k => ?_⟩⟩
    have hn2 := hn m k
    simp only [bs_succ] at hn2
    rw [ib q (by omega), fa_or, nI_1 q]
    by_cases e : mm.1 163 (10 + q) = dueV mm.1 q
    · simp only [e, not_true, decide_false, cond_false] at hn2
      exact ⟨fun _ => hn2, fun z => absurd e z⟩
    · simp only [e, not_false_eq_true, decide_true, cond_true] at hn2
      exact ⟨fun z => absurd z e, fun _ => hn2⟩
theorem badsC_ok (ht : isT t) (hs : isN s) (hb : BodyR mm.1 t s H O S Qn W C J F B) (m : MM) (hm : Kq mm m) : Runs e_X8_badBits [.ref t, .ref s] m (fun r m' => r = .int (nI (badsV mm.1 H)) ∧ Kq mm m') := by
  have z1 := hb.sz.1
  apply b_X8_badBits _ _ _ _ ht.at hs.s.at
  refine for_up (fun q => [(0, .ref t), (1, .ref s), (2, .int (nI (bs (badV mm.1) q))), (3, .int (nI q))]) (fun q m => Kq mm m) H ?_ ?_ 0 _ (Nat.zero_le _) hm
  · intro m k
    apply b_X8_badBits_4 _ _ _ _ _ _ ht.at hs.s.at
    simp (disch := omega) only [lin, nI_add, pk_mul, s_sub, s_addneg, s_leT, s_leF, s_ltT, s_ltF, s_eqF, s_inT, s_neF, s_neF', s_neE, s_nleT, s_nleF, s_nltF, s_nltT, eq_self, nI_clamp, s_wIk, s_wIo, pk_us, pk_un, Nat.reduceAdd, Nat.reduceMul, Nat.reduceSub, Nat.zero_add, Nat.add_zero, Nat.mul_zero, true_implies, false_implies, implies_true, not_true, not_false, and_true, true_and, not_true_eq_false, not_false_eq_true, forall_const, k.t0 ht, hb.nc.1]
    exact ⟨rfl, k⟩
  · intro q m hq k hn
    apply b_X8_badBits_4 _ _ _ _ _ _ ht.at hs.s.at
    rw [k.t0 ht, hb.nc.1, ib q (by omega), fa_or, nI_1 q]
    refine ⟨fun z => absurd z (nI_ge hq (by omega)), fun _ => bcall (badC_ok ht hs.s hb.law2 hb.mon (hb.hou q hq) hb.nm.2.2.2.2.2.2.2.2 hb.nc.2.2.2.2.2.2.2.2.2 hb.sz.2.2.2.2.2.2.2.2 hb.bad m k) ?_ ?_⟩
    · intro e m k
      have hn2 := hn m k
      simp only [bs_succ, e, cond_true] at hn2
      exact hn2
    · intro e m k
      have hn2 := hn m k
      simp only [bs_succ, e, cond_false] at hn2
      exact hn2
theorem badsM_ok {a : Int32} {R : Value → MM → Prop} (hb : BodyR mm.1 t s H O S Qn W C J F B) (hk : ∀ m, Kq mm m → (¬ a = 2 → R (.int (nI (badsV mm.1 H))) m) ∧ (a = 2 → R (.int (nI (popN (badsV mm.1 H)))) m)) (m : MM) (hm : Kq mm m) : G e_X12_law 54 [(0, .ref 156), (1, .int a), (2, .int (0 : Int32)), (3, .int (0 : Int32))] [] m R := by
  have z1 := hb.sz.1
  refine for_up (fun q => [(0, .ref 156), (1, .int a), (2, .int (nI (bs (badV mm.1) q))), (3, .int (nI q))]) (fun q m => Kq mm m) H ?_ ?_ 0 _ (Nat.zero_le _) hm
  · intro m k
    apply b_X12_law_54
    rw [k.r162, hb.nm.1]
    refine ⟨fun _ => ⟨(hk m k).1, fun e => icall (bitsOf_ok (bs16 z1) m k) fun m k => (hk m k).2 e⟩, fun z => absurd (nI_le (Nat.le_refl H) (by omega)) z⟩
  · intro q m hq k hn
    apply b_X12_law_54
    rw [k.r162, hb.nm.1, ib q (by omega), fa_or, nI_1 q]
    refine ⟨fun z => absurd z (nI_ge hq (by omega)), fun _ => bcall (bad_ok (by omega) (hb.rank q (by omega)).m hb.law2.m hb.nm.2.2.2.2.2.2.2.2 hb.sz.2.2.2.2.2.2.2.2 (fun k hk => (hb.bad k hk).m) m k) ?_ ?_⟩
    · intro e m k
      have hn2 := hn m k
      simp only [bs_succ, e, cond_true] at hn2
      exact hn2
    · intro e m k
      have hn2 := hn m k
      simp only [bs_succ, e, cond_false] at hn2
      exact hn2
theorem trnC_ok (ht : isT t) (hs : isN s) (hb : BodyR mm.1 t s H O S Qn W C J F B) (m : MM) (hm : Kq mm m) : Runs e_X8_turnedPairs [.ref t, .ref s] m (fun r m' => r = .int (nI (fb_sm (trnV mm.1 H) H)) ∧ Kq mm m') := by
  have z1 := hb.sz.1
  apply b_X8_turnedPairs _ _ _ _ ht.at hs.s.at
  refine for_up (fun q => [(0, .ref t), (1, .ref s), (2, .int (nI (fb_sm (trnV mm.1 H) q))), (3, .int (nI q))]) (fun q m => Kq mm m) H ?_ ?_ 0 _ (Nat.zero_le _) hm
  · intro m k
    apply b_X8_turnedPairs_4 _ _ _ _ _ _ ht.at hs.s.at
    simp (disch := omega) only [lin, nI_add, pk_mul, s_sub, s_addneg, s_leT, s_leF, s_ltT, s_ltF, s_eqF, s_inT, s_neF, s_neF', s_neE, s_nleT, s_nleF, s_nltF, s_nltT, eq_self, nI_clamp, s_wIk, s_wIo, pk_us, pk_un, Nat.reduceAdd, Nat.reduceMul, Nat.reduceSub, Nat.zero_add, Nat.add_zero, Nat.mul_zero, true_implies, false_implies, implies_true, not_true, not_false, and_true, true_and, not_true_eq_false, not_false_eq_true, forall_const, k.t0 ht, hb.nc.1]
    exact k
  · intro q m hq k hn
    apply b_X8_turnedPairs_4 _ _ _ _ _ _ ht.at hs.s.at
    rw [k.t0 ht, hb.nc.1]
    refine ⟨fun z => absurd z (nI_ge hq (by omega)), fun _ => ?_⟩
    refine for_up (fun p => [(0, .ref t), (1, .ref s), (2, .int (nI (fb_sm (trnV mm.1 H) q + fb_ct (fun b => decide (¬ rkV mm.1 q ≤ rkV mm.1 b) && decide (¬ mm.1 163 (10 + b) < mm.1 163 (10 + q))) p))), (3, .int (nI q)), (4, .int (nI p))]) (fun p m => Kq mm m) H ?_ ?_ 0 _ (Nat.zero_le _) k
    · intro m k
      have hn2 := hn m k
      apply b_X8_turnedPairs_15 _ _ _ _ _ _ _ ht.at hs.s.at
      rw [k.t0 ht, hb.nc.1, nI_1 q]
      exact ⟨fun _ => hn2, fun z => absurd (nI_le (Nat.le_refl H) (by omega)) z⟩
    · intro p m hp k hn
      have hn2 := hn m k
      apply b_X8_turnedPairs_15 _ _ _ _ _ _ _ ht.at hs.s.at
      rw [rkC_v ht hs.s k (by omega) (hb.rank q (by omega)), rkC_v ht hs.s k (by omega) (hb.rank p (by omega)), k.t0 ht, hb.nc.1, nI_clamp (show q < 2 ^ 31 by omega), nI_clamp (show p < 2 ^ 31 by omega), k.s hs.s 1 (by omega), hb.hh q (by omega), hb.hh p (by omega)]
      simp only [fb_ct_succ] at hn2
      refine ⟨fun z => absurd z (nI_ge hp (by omega)), fun _ => ⟨rkC_o ht hs.s k (by omega) (hb.rank q (by omega)), rkC_o ht hs.s k (by omega) (hb.rank p (by omega)), fun c => ?_, fun c => ⟨vp_in_nI (by omega) (by omega), vp_in_nI (by omega) (by omega), fun d => ?_, fun d => ?_⟩⟩⟩
      · simp only [c, not_true, decide_false, Bool.false_and, Bool.false_eq_true, if_false, Nat.add_zero, nI_succ] at hn2
        exact hn2
      · have d : mm.1 163 (10 + p) < mm.1 163 (10 + q) := d
        simp only [c, d, not_true, decide_false, Bool.and_false, Bool.false_eq_true, if_false, Nat.add_zero, nI_succ] at hn2
        exact hn2
      · have d : ¬ mm.1 163 (10 + p) < mm.1 163 (10 + q) := d
        simp only [c, d, not_false_eq_true, decide_true, Bool.and_self, if_true, ← Nat.add_assoc, nI_succ] at hn2
        exact hn2
theorem trnM_ok (hb : BodyR mm.1 t s H O S Qn W C J F B) (m : MM) (hm : Kq mm m) : Runs e_X12_turned [.ref 156] m (fun r m' => r = .int (nI (fb_sm (trnV mm.1 H) H)) ∧ Kq mm m') := by
  have z1 := hb.sz.1
  apply b_X12_turned
  refine for_up (fun q => [(0, .ref 156), (1, .int (nI (fb_sm (trnV mm.1 H) q))), (2, .int (nI q))]) (fun q m => Kq mm m) H ?_ ?_ 0 _ (Nat.zero_le _) hm
  · intro m k
    apply b_X12_turned_4
    simp (disch := omega) only [lin, nI_add, pk_mul, s_sub, s_addneg, s_leT, s_leF, s_ltT, s_ltF, s_eqF, s_inT, s_neF, s_neF', s_neE, s_nleT, s_nleF, s_nltF, s_nltT, eq_self, nI_clamp, s_wIk, s_wIo, pk_us, pk_un, Nat.reduceAdd, Nat.reduceMul, Nat.reduceSub, Nat.zero_add, Nat.add_zero, Nat.mul_zero, true_implies, false_implies, implies_true, not_true, not_false, and_true, true_and, not_true_eq_false, not_false_eq_true, forall_const, k.r162, hb.nm.1]
    exact k
  · intro q m hq k hn
    apply b_X12_turned_4
    rw [k.r162, hb.nm.1]
    refine ⟨fun z => absurd z (nI_ge hq (by omega)), fun _ => ?_⟩
    refine for_up (fun p => [(0, .ref 156), (1, .int (nI (fb_sm (trnV mm.1 H) q + fb_ct (fun b => decide (¬ rkV mm.1 q ≤ rkV mm.1 b) && decide (¬ mm.1 163 (10 + b) < mm.1 163 (10 + q))) p))), (2, .int (nI q)), (3, .int (nI p))]) (fun p m => Kq mm m) H ?_ ?_ 0 _ (Nat.zero_le _) k
    · intro m k
      have hn2 := hn m k
      apply b_X12_turned_16
      rw [k.r162, hb.nm.1, nI_1 q]
      exact ⟨fun _ => hn2, fun z => absurd (nI_le (Nat.le_refl H) (by omega)) z⟩
    · intro p m hp k hn
      have hn2 := hn m k
      apply b_X12_turned_16
      rw [rk_v k (by omega) (hb.rank q (by omega)).m, rk_v k (by omega) (hb.rank p (by omega)).m, h_v k (show q < 16 by omega), h_v k (show p < 16 by omega), k.r162, hb.nm.1, Int32.add_zero]
      simp only [fb_ct_succ] at hn2
      refine ⟨fun z => absurd z (nI_ge hp (by omega)), fun _ => ⟨rk_o k (by omega) (hb.rank q (by omega)).m, rk_o k (by omega) (hb.rank p (by omega)).m, fun c => ?_, fun c => ⟨h_o (by omega), h_o (by omega), fun d => ?_, fun d => ?_⟩⟩⟩
      · simp only [c, not_true, decide_false, Bool.false_and, Bool.false_eq_true, if_false, Nat.add_zero, nI_succ] at hn2
        exact hn2
      · simp only [c, d, not_true, decide_false, Bool.and_false, Bool.false_eq_true, if_false, Nat.add_zero, nI_succ] at hn2
        exact hn2
      · simp only [c, d, not_false_eq_true, decide_true, Bool.and_self, if_true, ← Nat.add_assoc, nI_succ] at hn2
        exact hn2
end Law
theorem st_law (a : Int32) : StepOK RR e_X11_law e_X12_law [.int a] := by
  apply step_q
  rintro mm ⟨t, s, H, O, S, Qn, W, C, J, F, B, ht, hs, hr, hb, -⟩
  obtain ⟨z1, z2, z3, z4, z5, z6, z7, z8, z9⟩ := hb.sz
  obtain ⟨n1, n2, n3, n4, n5, n6, n7, n8, n9⟩ := hb.nm
  obtain ⟨c1, c2, c3, c4, c5, c6, c7, c8, c9, c10⟩ := hb.nc
  have rf := Kp.rf (kp := kq) mm
  have hu := fun m k => untC_ok ht hs hb m k
  have hbd := fun m k => badsC_ok ht hs hb m k
  by_cases e0 : a = nI 0
  · subst e0
    refine ⟨.int (nI (popN (untV mm.1 H))), ?_, fun m k => ?_⟩
    · apply b_X11_law
      rw [hr.1, hr.2.1]
      simp (disch := omega) only [lin, nI_add, pk_mul, s_sub, s_addneg, s_leT, s_leF, s_ltT, s_ltF, s_eqF, s_inT, s_neF, s_neF', s_neE, s_nleT, s_nleF, s_nltF, s_nltT, eq_self, nI_clamp, s_wIk, s_wIo, pk_us, pk_un, Nat.reduceAdd, Nat.reduceMul, Nat.reduceSub, Nat.zero_add, Nat.add_zero, Nat.mul_zero, true_implies, false_implies, implies_true, not_true, not_false, and_true, true_and, not_true_eq_false, not_false_eq_true, forall_const, eq_true ht.at, eq_true hs.s.at]
      refine icall (hu mm rf) fun m k => ⟨?_, k⟩
      rw [bitCount_v m (show untV mm.1 H < 65536 from bs16 z1)]
    · apply b_X12_law
      simp (disch := omega) only [lin, nI_add, pk_mul, s_sub, s_addneg, s_leT, s_leF, s_ltT, s_ltF, s_eqF, s_inT, s_neF, s_neF', s_neE, s_nleT, s_nleF, s_nltF, s_nltT, eq_self, nI_clamp, s_wIk, s_wIo, pk_us, pk_un, Nat.reduceAdd, Nat.reduceMul, Nat.reduceSub, Nat.zero_add, Nat.add_zero, Nat.mul_zero, true_implies, false_implies, implies_true, not_true, not_false, and_true, true_and, not_true_eq_false, not_false_eq_true, forall_const]
      exact icall (untM_ok hb m k) fun m k => icall (bitsOf_ok (bs16 z1) m k) fun m k => ⟨rfl, k⟩
  by_cases e1 : a = nI 1
  · subst e1
    refine ⟨.int (nI (fb_sm (trnV mm.1 H) H)), ?_, fun m k => ?_⟩
    · apply b_X11_law
      rw [hr.1, hr.2.1]
      simp (disch := omega) only [lin, nI_add, pk_mul, s_sub, s_addneg, s_leT, s_leF, s_ltT, s_ltF, s_eqF, s_inT, s_neF, s_neF', s_neE, s_nleT, s_nleF, s_nltF, s_nltT, eq_self, nI_clamp, s_wIk, s_wIo, pk_us, pk_un, Nat.reduceAdd, Nat.reduceMul, Nat.reduceSub, Nat.zero_add, Nat.add_zero, Nat.mul_zero, true_implies, false_implies, implies_true, not_true, not_false, and_true, true_and, not_true_eq_false, not_false_eq_true, forall_const, eq_true ht.at, eq_true hs.s.at]
      exact icall (trnC_ok ht hs hb mm rf) fun m k => ⟨rfl, k⟩
    · apply b_X12_law
      simp (disch := omega) only [lin, nI_add, pk_mul, s_sub, s_addneg, s_leT, s_leF, s_ltT, s_ltF, s_eqF, s_inT, s_neF, s_neF', s_neE, s_nleT, s_nleF, s_nltF, s_nltT, eq_self, nI_clamp, s_wIk, s_wIo, pk_us, pk_un, Nat.reduceAdd, Nat.reduceMul, Nat.reduceSub, Nat.zero_add, Nat.add_zero, Nat.mul_zero, true_implies, false_implies, implies_true, not_true, not_false, and_true, true_and, not_true_eq_false, not_false_eq_true, forall_const]
      exact icall (trnM_ok hb m k) fun m k => ⟨rfl, k⟩
  by_cases e2 : a = nI 2
  · subst e2
    refine ⟨.int (nI (popN (badsV mm.1 H))), ?_, fun m k => ?_⟩
    · apply b_X11_law
      rw [hr.1, hr.2.1]
      simp (disch := omega) only [lin, nI_add, pk_mul, s_sub, s_addneg, s_leT, s_leF, s_ltT, s_ltF, s_eqF, s_inT, s_neF, s_neF', s_neE, s_nleT, s_nleF, s_nltF, s_nltT, eq_self, nI_clamp, s_wIk, s_wIo, pk_us, pk_un, Nat.reduceAdd, Nat.reduceMul, Nat.reduceSub, Nat.zero_add, Nat.add_zero, Nat.mul_zero, true_implies, false_implies, implies_true, not_true, not_false, and_true, true_and, not_true_eq_false, not_false_eq_true, forall_const, eq_true ht.at, eq_true hs.s.at]
      refine icall (hbd mm rf) fun m k => ⟨?_, k⟩
      rw [bitCount_v m (show badsV mm.1 H < 65536 from bs16 z1)]
    · apply b_X12_law
      simp (disch := omega) only [lin, nI_add, pk_mul, s_sub, s_addneg, s_leT, s_leF, s_ltT, s_ltF, s_eqF, s_inT, s_neF, s_neF', s_neE, s_nleT, s_nleF, s_nltF, s_nltT, eq_self, nI_clamp, s_wIk, s_wIo, pk_us, pk_un, Nat.reduceAdd, Nat.reduceMul, Nat.reduceSub, Nat.zero_add, Nat.add_zero, Nat.mul_zero, true_implies, false_implies, implies_true, not_true, not_false, and_true, true_and, not_true_eq_false, not_false_eq_true, forall_const]
      exact badsM_ok hb (fun m k => ⟨fun z => absurd rfl z, fun _ => ⟨rfl, k⟩⟩) m k
  by_cases e3 : a = nI 3
  · subst e3
    refine ⟨.int (nI (untV mm.1 H)), ?_, fun m k => ?_⟩
    · apply b_X11_law
      rw [hr.1, hr.2.1]
      simp (disch := omega) only [lin, nI_add, pk_mul, s_sub, s_addneg, s_leT, s_leF, s_ltT, s_ltF, s_eqF, s_inT, s_neF, s_neF', s_neE, s_nleT, s_nleF, s_nltF, s_nltT, eq_self, nI_clamp, s_wIk, s_wIo, pk_us, pk_un, Nat.reduceAdd, Nat.reduceMul, Nat.reduceSub, Nat.zero_add, Nat.add_zero, Nat.mul_zero, true_implies, false_implies, implies_true, not_true, not_false, and_true, true_and, not_true_eq_false, not_false_eq_true, forall_const, eq_true ht.at, eq_true hs.s.at]
      exact icall (hu mm rf) fun m k => ⟨rfl, k⟩
    · apply b_X12_law
      simp (disch := omega) only [lin, nI_add, pk_mul, s_sub, s_addneg, s_leT, s_leF, s_ltT, s_ltF, s_eqF, s_inT, s_neF, s_neF', s_neE, s_nleT, s_nleF, s_nltF, s_nltT, eq_self, nI_clamp, s_wIk, s_wIo, pk_us, pk_un, Nat.reduceAdd, Nat.reduceMul, Nat.reduceSub, Nat.zero_add, Nat.add_zero, Nat.mul_zero, true_implies, false_implies, implies_true, not_true, not_false, and_true, true_and, not_true_eq_false, not_false_eq_true, forall_const]
      exact icall (untM_ok hb m k) fun m k => ⟨rfl, k⟩
  by_cases e4 : a = nI 4
  · subst e4
    refine ⟨.int (nI (badsV mm.1 H)), ?_, fun m k => ?_⟩
    · apply b_X11_law
      rw [hr.1, hr.2.1]
      simp (disch := omega) only [lin, nI_add, pk_mul, s_sub, s_addneg, s_leT, s_leF, s_ltT, s_ltF, s_eqF, s_inT, s_neF, s_neF', s_neE, s_nleT, s_nleF, s_nltF, s_nltT, eq_self, nI_clamp, s_wIk, s_wIo, pk_us, pk_un, Nat.reduceAdd, Nat.reduceMul, Nat.reduceSub, Nat.zero_add, Nat.add_zero, Nat.mul_zero, true_implies, false_implies, implies_true, not_true, not_false, and_true, true_and, not_true_eq_false, not_false_eq_true, forall_const, eq_true ht.at, eq_true hs.s.at]
      exact icall (hbd mm rf) fun m k => ⟨rfl, k⟩
    · apply b_X12_law
      simp (disch := omega) only [lin, nI_add, pk_mul, s_sub, s_addneg, s_leT, s_leF, s_ltT, s_ltF, s_eqF, s_inT, s_neF, s_neF', s_neE, s_nleT, s_nleF, s_nltF, s_nltT, eq_self, nI_clamp, s_wIk, s_wIo, pk_us, pk_un, Nat.reduceAdd, Nat.reduceMul, Nat.reduceSub, Nat.zero_add, Nat.add_zero, Nat.mul_zero, true_implies, false_implies, implies_true, not_true, not_false, and_true, true_and, not_true_eq_false, not_false_eq_true, forall_const]
      exact badsM_ok hb (fun m k => ⟨fun _ => ⟨rfl, k⟩, fun z => absurd z (by decide)⟩) m k
  refine ⟨.int (-nI 1), ?_, fun m k => ?_⟩
  · apply b_X11_law
    simp (disch := omega) only [lin, nI_add, pk_mul, s_sub, s_addneg, s_leT, s_leF, s_ltT, s_ltF, s_eqF, s_inT, s_neF, s_neF', s_neE, s_nleT, s_nleF, s_nltF, s_nltT, eq_self, nI_clamp, s_wIk, s_wIo, pk_us, pk_un, Nat.reduceAdd, Nat.reduceMul, Nat.reduceSub, Nat.zero_add, Nat.add_zero, Nat.mul_zero, true_implies, false_implies, implies_true, not_true, not_false, and_true, true_and, not_true_eq_false, not_false_eq_true, forall_const, e0, e1, e2, e3, e4]
    exact rf
  · apply b_X12_law
    simp (disch := omega) only [lin, nI_add, pk_mul, s_sub, s_addneg, s_leT, s_leF, s_ltT, s_ltF, s_eqF, s_inT, s_neF, s_neF', s_neE, s_nleT, s_nleF, s_nltF, s_nltT, eq_self, nI_clamp, s_wIk, s_wIo, pk_us, pk_un, Nat.reduceAdd, Nat.reduceMul, Nat.reduceSub, Nat.zero_add, Nat.add_zero, Nat.mul_zero, true_implies, false_implies, implies_true, not_true, not_false, and_true, true_and, not_true_eq_false, not_false_eq_true, forall_const, e0, e1, e2, e3, e4]
    exact k

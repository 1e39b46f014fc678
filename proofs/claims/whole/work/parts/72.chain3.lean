/-! chain and dread -/
theorem sub10 {a : Int32} {j : Nat} (hj : j < 16) (h : a - 10 = nI j) : a = nI (10 + j) := by
  have e : a = (a - 10) + 10 := (Int32.sub_add_cancel a 10).symm
  rw [e, h, show (10 : Int32) = nI 10 from rfl, nI_add, Nat.add_comm]
theorem st_chain (a w b : Int32) : StepOK RR e_X11_chain e_X12_chain [.int a, .int w, .int b] := by
  apply step_q
  rintro mm ⟨t, s, H, O, S, Qn, W, C, J, F, B, ht, hs, hr, hb, -⟩
  obtain ⟨z1, z2, z3, z4, z5, z6, z7, z8, z9⟩ := hb.sz
  obtain ⟨n1, n2, n3, n4, n5, n6, n7, n8, n9⟩ := hb.nm
  obtain ⟨c1, c2, c3, c4, c5, c6, c7, c8, c9, c10⟩ := hb.nc
  have rf := Kp.rf (kp := kq) mm
  obtain ⟨o1, o2⟩ := isH_X (a := a) ht hr c1 z1
  obtain ⟨o3, o4⟩ := isH_X (a := b - 10) ht hr c1 z1
  have iM := fun (a : Int32) (m : MM) (k : Kq mm m) => isH_M (a := a) ((k.g 162 0 rfl).trans n1) z1
  by_cases hin : inR a H
  · by_cases hin2 : inR w 100
    · obtain ⟨x, hx, rfl⟩ := id hin
      have hC : ∀ (P : MM → Prop), (∀ (r5 : Int32) m5, r5 = nI (popN (chX mm.1 w H x (chR mm.1 w H x))) → Kq mm m5 → m5.1 91 3 = nI (chR mm.1 w H x) → (∀ h, h < 16 → m5.1 92 h = rdV mm.1 w H x (chR mm.1 w H x) h) → P m5) → True := fun _ _ => trivial
      have hX := chX_lt (c := mm.1) (w := w) z1 hx (chR mm.1 w H x)
      have i0 : ∀ m, p_X12_isIn m (nI 0) 0 1 := fun m => by unfold p_X12_isIn; simp (disch := omega) only [lin, nI_add, pk_mul, s_sub, s_addneg, s_leT, s_leF, s_ltT, s_ltF, s_eqF, s_inT, s_neF, s_neF', s_neE, s_nleT, s_nleF, s_nltF, s_nltT, eq_self, nI_clamp, s_wIk, s_wIo, pk_us, pk_un, Nat.reduceAdd, Nat.reduceMul, Nat.reduceSub, Nat.zero_add, Nat.add_zero, Nat.mul_zero, true_implies, false_implies, implies_true, not_true, not_false, and_true, true_and, not_true_eq_false, not_false_eq_true, forall_const]
      have i1 : ∀ m, p_X12_isIn m (nI 1) 0 1 := fun m => by unfold p_X12_isIn; simp (disch := omega) only [lin, nI_add, pk_mul, s_sub, s_addneg, s_leT, s_leF, s_ltT, s_ltF, s_eqF, s_inT, s_neF, s_neF', s_neE, s_nleT, s_nleF, s_nltF, s_nltT, eq_self, nI_clamp, s_wIk, s_wIo, pk_us, pk_un, Nat.reduceAdd, Nat.reduceMul, Nat.reduceSub, Nat.zero_add, Nat.add_zero, Nat.mul_zero, true_implies, false_implies, implies_true, not_true, not_false, and_true, true_and, not_true_eq_false, not_false_eq_true, forall_const]
      have i0' : ∀ m, p_X12_isIn m (nI 0) (nI 0) (nI 1) := i0
      have i1' : ∀ m, p_X12_isIn m (nI 1) (nI 0) (nI 1) := i1
      by_cases e0 : b = nI 0
      · subst e0
        refine ⟨.int (nI (popN (chX mm.1 w H x (chR mm.1 w H x)))), ?_, fun m k => ?_⟩
        · apply b_X11_chain
          rw [hr.1]
          simp (disch := omega) only [lin, nI_add, pk_mul, s_sub, s_addneg, s_leT, s_leF, s_ltT, s_ltF, s_eqF, s_inT, s_neF, s_neF', s_neE, s_nleT, s_nleF, s_nltF, s_nltT, eq_self, nI_clamp, s_wIk, s_wIo, pk_us, pk_un, Nat.reduceAdd, Nat.reduceMul, Nat.reduceSub, Nat.zero_add, Nat.add_zero, Nat.mul_zero, true_implies, false_implies, implies_true, not_true, not_false, and_true, true_and, not_true_eq_false, not_false_eq_true, forall_const, o1, o2, hin, isWd_X, hin2, eq_true ht.at]
          refine vcall (prepare_ok ht hb w mm rf) ?_
          rintro m2 ⟨q1, q2⟩
          rw [q1.2, hr.1, hr.2.1]
          refine ⟨ht.at, hs.s.at, icall (startAt_ok ht hs hb hx m2 q1 q2) ?_⟩
          rintro m5 ⟨p1, p2, p3, p4⟩
          exact ⟨rfl, p1⟩
        · apply b_X12_chain
          simp (disch := omega) only [lin, nI_add, pk_mul, s_sub, s_addneg, s_leT, s_leF, s_ltT, s_ltF, s_eqF, s_inT, s_neF, s_neF', s_neE, s_nleT, s_nleF, s_nltF, s_nltT, eq_self, nI_clamp, s_wIk, s_wIo, pk_us, pk_un, Nat.reduceAdd, Nat.reduceMul, Nat.reduceSub, Nat.zero_add, Nat.add_zero, Nat.mul_zero, true_implies, false_implies, implies_true, not_true, not_false, and_true, true_and, not_true_eq_false, not_false_eq_true, forall_const, iM (nI x) m k, hin, isWd_M, hin2, i0']
          refine vcall (chains_ok ht hs hb hx m k) ?_
          rintro m1 ⟨q1, q2, q3, q4⟩
          rw [q2]
          exact icall (bitsOf_ok hX m1 q1) fun m k => ⟨rfl, k⟩
      by_cases e1 : b = nI 1
      · subst e1
        refine ⟨.int (nI (chR mm.1 w H x)), ?_, fun m k => ?_⟩
        · apply b_X11_chain
          rw [hr.1]
          simp (disch := omega) only [lin, nI_add, pk_mul, s_sub, s_addneg, s_leT, s_leF, s_ltT, s_ltF, s_eqF, s_inT, s_neF, s_neF', s_neE, s_nleT, s_nleF, s_nltF, s_nltT, eq_self, nI_clamp, s_wIk, s_wIo, pk_us, pk_un, Nat.reduceAdd, Nat.reduceMul, Nat.reduceSub, Nat.zero_add, Nat.add_zero, Nat.mul_zero, true_implies, false_implies, implies_true, not_true, not_false, and_true, true_and, not_true_eq_false, not_false_eq_true, forall_const, o1, o2, hin, isWd_X, hin2, eq_true ht.at]
          refine vcall (prepare_ok ht hb w mm rf) ?_
          rintro m2 ⟨q1, q2⟩
          rw [q1.2, hr.1, hr.2.1]
          refine ⟨ht.at, hs.s.at, icall (startAt_ok ht hs hb hx m2 q1 q2) ?_⟩
          rintro m5 ⟨p1, p2, p3, p4⟩
          exact ⟨by rw [p3], p1⟩
        · apply b_X12_chain
          simp (disch := omega) only [lin, nI_add, pk_mul, s_sub, s_addneg, s_leT, s_leF, s_ltT, s_ltF, s_eqF, s_inT, s_neF, s_neF', s_neE, s_nleT, s_nleF, s_nltF, s_nltT, eq_self, nI_clamp, s_wIk, s_wIo, pk_us, pk_un, Nat.reduceAdd, Nat.reduceMul, Nat.reduceSub, Nat.zero_add, Nat.add_zero, Nat.mul_zero, true_implies, false_implies, implies_true, not_true, not_false, and_true, true_and, not_true_eq_false, not_false_eq_true, forall_const, iM (nI x) m k, hin, isWd_M, hin2, i1']
          refine vcall (chains_ok ht hs hb hx m k) ?_
          rintro m1 ⟨q1, q2, q3, q4⟩
          exact ⟨by rw [q3], q1⟩
      have ni : ∀ m, ¬ p_X12_isIn m b 0 1 := by
        rintro m ⟨h1, h2⟩
        obtain ⟨j, hj, e⟩ := (inR_iff' (n := 1) (by omega)).mp ⟨h1, h2⟩
        have : j = 0 ∨ j = 1 := by omega
        rcases this with rfl | rfl
        · exact e0 e
        · exact e1 e
      have ni' : ∀ m, ¬ p_X12_isIn m b (nI 0) (nI 1) := ni
      by_cases e2 : inR (b - 10) H
      · obtain ⟨y, hy, ey⟩ := id e2
        have eb := sub10 (by omega) ey
        subst eb
        refine ⟨.int (rdV mm.1 w H x (chR mm.1 w H x) y), ?_, fun m k => ?_⟩
        · have eS : nI (10 + y) - nI 10 = nI y := ey
          have o3' : o_X11_isHouse mm (nI y) := by have := o3; rw [ey] at this; exact this
          have o4' : p_X11_isHouse mm (nI y) := by have := o4.mpr e2; rw [ey] at this; exact this
          apply b_X11_chain
          rw [hr.1]
          have s1 : nI (10 + y) - (10 : Int32) = nI y := ey
          rw [s1]
          simp (disch := omega) only [lin, nI_add, pk_mul, s_sub, s_addneg, s_leT, s_leF, s_ltT, s_ltF, s_eqF, s_inT, s_neF, s_neF', s_neE, s_nleT, s_nleF, s_nltF, s_nltT, eq_self, nI_clamp, s_wIk, s_wIo, pk_us, pk_un, Nat.reduceAdd, Nat.reduceMul, Nat.reduceSub, Nat.zero_add, Nat.add_zero, Nat.mul_zero, true_implies, false_implies, implies_true, not_true, not_false, and_true, true_and, not_true_eq_false, not_false_eq_true, forall_const, o1, o2, hin, isWd_X, hin2, eq_true ht.at, o3', o4']
          refine vcall (prepare_ok ht hb w mm rf) ?_
          rintro m2 ⟨q1, q2⟩
          rw [q1.2, hr.1, hr.2.1]
          refine ⟨ht.at, hs.s.at, icall (startAt_ok ht hs hb hx m2 q1 q2) ?_⟩
          rintro m5 ⟨p1, p2, p3, p4⟩
          exact ⟨by rw [p4 y (by omega)], p1⟩
        · have s1 : nI (10 + y) - (10 : Int32) = nI y := ey
          have hy2 : inR (nI y) H := ⟨y, hy, rfl⟩
          apply b_X12_chain
          rw [s1]
          simp (disch := omega) only [lin, nI_add, pk_mul, s_sub, s_addneg, s_leT, s_leF, s_ltT, s_ltF, s_eqF, s_inT, s_neF, s_neF', s_neE, s_nleT, s_nleF, s_nltF, s_nltT, eq_self, nI_clamp, s_wIk, s_wIo, pk_us, pk_un, Nat.reduceAdd, Nat.reduceMul, Nat.reduceSub, Nat.zero_add, Nat.add_zero, Nat.mul_zero, true_implies, false_implies, implies_true, not_true, not_false, and_true, true_and, not_true_eq_false, not_false_eq_true, forall_const, iM (nI x) m k, iM (nI y) m k, hy2, hin, isWd_M, hin2, ni']
          refine vcall (chains_ok ht hs hb hx m k) ?_
          rintro m1 ⟨q1, q2, q3, q4⟩
          exact ⟨by rw [q4 y (by omega)], q1⟩
      · refine ⟨.int (-nI 1), ?_, fun m k => ?_⟩
        · have nb : ¬ p_X11_isHouse mm (b - nI 10) := fun z => e2 (o4.mp z)
          have ob : o_X11_isHouse mm (b - nI 10) := o3
          apply b_X11_chain
          by_cases hb10 : b < 10
          · refine ⟨fun _ => ?_, fun z => absurd hb10 z⟩
            simp (disch := omega) only [lin, nI_add, pk_mul, s_sub, s_addneg, s_leT, s_leF, s_ltT, s_ltF, s_eqF, s_inT, s_neF, s_neF', s_neE, s_nleT, s_nleF, s_nltF, s_nltT, eq_self, nI_clamp, s_wIk, s_wIo, pk_us, pk_un, Nat.reduceAdd, Nat.reduceMul, Nat.reduceSub, Nat.zero_add, Nat.add_zero, Nat.mul_zero, true_implies, false_implies, implies_true, not_true, not_false, and_true, true_and, not_true_eq_false, not_false_eq_true, forall_const, o1, o2, hin, isWd_X, hin2, e0, e1]
            exact rf
          · refine ⟨fun z => absurd z hb10, fun _ => ?_⟩
            simp (disch := omega) only [lin, nI_add, pk_mul, s_sub, s_addneg, s_leT, s_leF, s_ltT, s_ltF, s_eqF, s_inT, s_neF, s_neF', s_neE, s_nleT, s_nleF, s_nltF, s_nltT, eq_self, nI_clamp, s_wIk, s_wIo, pk_us, pk_un, Nat.reduceAdd, Nat.reduceMul, Nat.reduceSub, Nat.zero_add, Nat.add_zero, Nat.mul_zero, true_implies, false_implies, implies_true, not_true, not_false, and_true, true_and, not_true_eq_false, not_false_eq_true, forall_const, o1, o2, hin, isWd_X, hin2, e0, e1, nb, ob]
            exact rf
        · have nb : ¬ p_X12_isHouse m (b - nI 10) := fun z => e2 ((iM (b - 10) m k).mp z)
          apply b_X12_chain
          simp (disch := omega) only [lin, nI_add, pk_mul, s_sub, s_addneg, s_leT, s_leF, s_ltT, s_ltF, s_eqF, s_inT, s_neF, s_neF', s_neE, s_nleT, s_nleF, s_nltF, s_nltT, eq_self, nI_clamp, s_wIk, s_wIo, pk_us, pk_un, Nat.reduceAdd, Nat.reduceMul, Nat.reduceSub, Nat.zero_add, Nat.add_zero, Nat.mul_zero, true_implies, false_implies, implies_true, not_true, not_false, and_true, true_and, not_true_eq_false, not_false_eq_true, forall_const, iM (nI x) m k, hin, isWd_M, hin2, ni', nb]
          exact k
    · refine ⟨.int (-nI 1), ?_, fun m k => ?_⟩
      · have ob : o_X11_isHouse mm (b - nI 10) := o3
        apply b_X11_chain
        by_cases hb10 : b < 10
        · refine ⟨fun _ => ?_, fun z => absurd hb10 z⟩
          simp (disch := omega) only [lin, nI_add, pk_mul, s_sub, s_addneg, s_leT, s_leF, s_ltT, s_ltF, s_eqF, s_inT, s_neF, s_neF', s_neE, s_nleT, s_nleF, s_nltF, s_nltT, eq_self, nI_clamp, s_wIk, s_wIo, pk_us, pk_un, Nat.reduceAdd, Nat.reduceMul, Nat.reduceSub, Nat.zero_add, Nat.add_zero, Nat.mul_zero, true_implies, false_implies, implies_true, not_true, not_false, and_true, true_and, not_true_eq_false, not_false_eq_true, forall_const, o1, o2, hin, isWd_X, hin2]
          exact rf
        · refine ⟨fun z => absurd z hb10, fun _ => ?_⟩
          simp (disch := omega) only [lin, nI_add, pk_mul, s_sub, s_addneg, s_leT, s_leF, s_ltT, s_ltF, s_eqF, s_inT, s_neF, s_neF', s_neE, s_nleT, s_nleF, s_nltF, s_nltT, eq_self, nI_clamp, s_wIk, s_wIo, pk_us, pk_un, Nat.reduceAdd, Nat.reduceMul, Nat.reduceSub, Nat.zero_add, Nat.add_zero, Nat.mul_zero, true_implies, false_implies, implies_true, not_true, not_false, and_true, true_and, not_true_eq_false, not_false_eq_true, forall_const, o1, o2, hin, isWd_X, hin2, ob]
          exact ⟨fun _ => rf, fun _ => rf⟩
      · apply b_X12_chain
        simp (disch := omega) only [lin, nI_add, pk_mul, s_sub, s_addneg, s_leT, s_leF, s_ltT, s_ltF, s_eqF, s_inT, s_neF, s_neF', s_neE, s_nleT, s_nleF, s_nltF, s_nltT, eq_self, nI_clamp, s_wIk, s_wIo, pk_us, pk_un, Nat.reduceAdd, Nat.reduceMul, Nat.reduceSub, Nat.zero_add, Nat.add_zero, Nat.mul_zero, true_implies, false_implies, implies_true, not_true, not_false, and_true, true_and, not_true_eq_false, not_false_eq_true, forall_const, iM a m k, hin, isWd_M, hin2]
        exact k
  · refine ⟨.int (-nI 1), ?_, fun m k => ?_⟩
    · have ob : o_X11_isHouse mm (b - nI 10) := o3
      apply b_X11_chain
      by_cases hb10 : b < 10
      · refine ⟨fun _ => ?_, fun z => absurd hb10 z⟩
        simp (disch := omega) only [lin, nI_add, pk_mul, s_sub, s_addneg, s_leT, s_leF, s_ltT, s_ltF, s_eqF, s_inT, s_neF, s_neF', s_neE, s_nleT, s_nleF, s_nltF, s_nltT, eq_self, nI_clamp, s_wIk, s_wIo, pk_us, pk_un, Nat.reduceAdd, Nat.reduceMul, Nat.reduceSub, Nat.zero_add, Nat.add_zero, Nat.mul_zero, true_implies, false_implies, implies_true, not_true, not_false, and_true, true_and, not_true_eq_false, not_false_eq_true, forall_const, o1, o2, hin]
        exact rf
      · refine ⟨fun z => absurd z hb10, fun _ => ?_⟩
        simp (disch := omega) only [lin, nI_add, pk_mul, s_sub, s_addneg, s_leT, s_leF, s_ltT, s_ltF, s_eqF, s_inT, s_neF, s_neF', s_neE, s_nleT, s_nleF, s_nltF, s_nltT, eq_self, nI_clamp, s_wIk, s_wIo, pk_us, pk_un, Nat.reduceAdd, Nat.reduceMul, Nat.reduceSub, Nat.zero_add, Nat.add_zero, Nat.mul_zero, true_implies, false_implies, implies_true, not_true, not_false, and_true, true_and, not_true_eq_false, not_false_eq_true, forall_const, o1, o2, hin, ob]
        exact ⟨fun _ => rf, fun _ => rf⟩
    · apply b_X12_chain
      simp (disch := omega) only [lin, nI_add, pk_mul, s_sub, s_addneg, s_leT, s_leF, s_ltT, s_ltF, s_eqF, s_inT, s_neF, s_neF', s_neE, s_nleT, s_nleF, s_nltF, s_nltT, eq_self, nI_clamp, s_wIk, s_wIo, pk_us, pk_un, Nat.reduceAdd, Nat.reduceMul, Nat.reduceSub, Nat.zero_add, Nat.add_zero, Nat.mul_zero, true_implies, false_implies, implies_true, not_true, not_false, and_true, true_and, not_true_eq_false, not_false_eq_true, forall_const, iM a m k, hin]
      exact k
theorem st_dread (w : Int32) : StepOK RR e_X11_dread e_X12_dread [.int w] := by
  apply step_q
  rintro mm ⟨t, s, H, O, S, Qn, W, C, J, F, B, ht, hs, hr, hb, -⟩
  obtain ⟨z1, z2, z3, z4, z5, z6, z7, z8, z9⟩ := hb.sz
  obtain ⟨n1, n2, n3, n4, n5, n6, n7, n8, n9⟩ := hb.nm
  obtain ⟨c1, c2, c3, c4, c5, c6, c7, c8, c9, c10⟩ := hb.nc
  have rf := Kp.rf (kp := kq) mm
  by_cases hin2 : inR w 100
  · obtain ⟨f, h1, h2, h3, h4⟩ : ∃ f : Nat → Nat, (∀ x, f x ≤ 16) ∧ (∀ x, x < H → 1 ≤ f x) ∧
        (∀ x, x < H → ∀ m, Kq mm m → VC mm.1 w m → Runs e_X0_startAt [.ref 91, .ref t, .ref s, .int (nI x), .int w] m (fun r m' => r = .int (nI (f x)) ∧ Kq mm m' ∧ VC mm.1 w m')) ∧
        (∀ x, x < H → ∀ m, Kq mm m → Runs e_X12_chains [.ref 156, .int (nI x), .int w] m (fun r m' => r = .null ∧ Kq mm m' ∧ ∃ X : Nat, X < 65536 ∧ m'.1 156 48 = nI X ∧ popN X = f x)) := by
      refine ⟨fun x => popN (chX mm.1 w H x (chR mm.1 w H x)), fun x => pop_le _, fun x hx => ?_, fun x hx m k kv => ?_, fun x hx m k => ?_⟩
      · have := chX_ct (c := mm.1) (w := w) z1 hx (chR mm.1 w H x) (chR_ok z1 hx).2.2
        show 1 ≤ fb_ct (chX mm.1 w H x (chR mm.1 w H x)).testBit 16
        exact Nat.le_trans (Nat.le_add_left 1 _) this
      · refine runs_to (startAt_ok ht hs hb hx m k kv) ?_
        rintro r m' ⟨a1, a2, a3, -, -⟩
        exact ⟨a1, a2, a3⟩
      · refine runs_to (chains_ok ht hs hb hx m k) ?_
        rintro r m' ⟨a1, a2, a3, -, -⟩
        exact ⟨a1, a2, _, chX_lt (c := mm.1) (w := w) z1 hx (chR mm.1 w H x), a3, rfl⟩
    have hle := best_le h1
    refine ⟨.int (if H = 0 then -nI 2 else nI (best f (H - 1)).1), ?_, fun m k => ?_⟩
    · apply b_X11_dread
      rw [hr.1]
      refine ⟨fun _ => ⟨ht.at, vcall (prepare_ok ht hb w mm rf) ?_⟩, fun z => absurd ((isWd_X _ _).mpr hin2) z⟩
      rintro m2 ⟨q1, q2⟩
      refine for_up (fun q => [(0, .ref 0), (1, .int w), (2, .int (if q = 0 then -nI 2 else nI (best f (q - 1)).1)), (3, .int (if q = 0 then 0 else nI (best f (q - 1)).2)), (4, .int (nI q))]) (fun q m => Kq mm m ∧ VC mm.1 w m) H ?_ ?_ 0 _ (Nat.zero_le _) ⟨q1, q2⟩
      · rintro m ⟨k, -⟩
        apply b_X11_dread_28
        rw [k.2, hr.1, k.t0 ht, c1]
        exact ⟨ht.at, fun _ => ⟨rfl, k⟩, fun z => absurd (nI_le (Nat.le_refl H) (by omega)) z⟩
      · rintro q m hq ⟨k, kv⟩ hn
        apply b_X11_dread_28
        rw [k.2, hr.1, hr.2.1, k.t0 ht, c1]
        refine ⟨ht.at, fun z => absurd z (nI_ge hq (by omega)), fun _ => ⟨ht.at, hs.s.at, icall (h3 q hq m k kv) ?_⟩⟩
        rintro m5 ⟨p1, p2⟩
        have hn2 := hn m5 ⟨p1, p2⟩
        have hc := h1 q
        have hp := h2 q hq
        match q, hn2, hc, hp with
        | 0, hn2, hc, hp =>
          exact ⟨fun z => absurd z (nI_nle (by omega) (by omega)), fun _ => hn2⟩
        | q + 1, hn2, hc, hp =>
          obtain ⟨l1, l2⟩ := hle q
          have e : best f (q + 1) = if (best f q).2 < f (q + 1) then (q + 1, f (q + 1)) else best f q := rfl
          simp only [show ¬ q + 1 + 1 = 0 from by omega, if_false, show q + 1 + 1 - 1 = q + 1 from rfl, e] at hn2
          simp only [show ¬ q + 1 = 0 from by omega, if_false, show q + 1 - 1 = q from rfl]
          rw [nI_1 (q + 1)]
          by_cases c : (best f q).2 < f (q + 1)
          · rw [if_pos c] at hn2
            exact ⟨fun z => absurd z (nI_ge c (by omega)), fun _ => hn2⟩
          · rw [if_neg c] at hn2
            exact ⟨fun _ => hn2, fun z => absurd (nI_le (Nat.le_of_not_lt c) (by omega)) z⟩
    · apply b_X12_dread
      refine ⟨fun _ => ?_, fun z => absurd ((isWd_M _ _).mpr hin2) z⟩
      refine for_up (fun q => [(0, .ref 156), (1, .int w), (2, .int (if q = 0 then -nI 2 else nI (best f (q - 1)).1)), (3, .int (if q = 0 then 0 else nI (best f (q - 1)).2)), (4, .int (nI q))]) (fun q m => Kq mm m) H ?_ ?_ 0 _ (Nat.zero_le _) k
      · intro m k
        apply b_X12_dread_17
        rw [k.r162, n1]
        exact ⟨fun _ => ⟨rfl, k⟩, fun z => absurd (nI_le (Nat.le_refl H) (by omega)) z⟩
      · intro q m hq k hn
        apply b_X12_dread_17
        rw [k.r162, n1]
        refine ⟨fun z => absurd z (nI_ge hq (by omega)), fun _ => vcall (h4 q hq m k) ?_⟩
        rintro m1 ⟨q1, X, hX, q2, q3⟩
        rw [q2]
        have hc := h1 q
        match q, hn, hc, q3 with
        | 0, hn, hc, q3 =>
          refine ⟨fun _ => icall (bitsOf_ok hX m1 q1) fun m k => ?_, fun z => absurd (show (-nI 2 : Int32) < 0 by decide) z⟩
          rw [q3]
          exact hn m k
        | q + 1, hn, hc, q3 =>
          obtain ⟨l1, l2⟩ := hle q
          have e : best f (q + 1) = if (best f q).2 < f (q + 1) then (q + 1, f (q + 1)) else best f q := rfl
          simp only [show ¬ q + 1 + 1 = 0 from by omega, if_false, show q + 1 + 1 - 1 = q + 1 from rfl, e] at hn
          simp only [show ¬ q + 1 = 0 from by omega, if_false, show q + 1 - 1 = q from rfl]
          refine ⟨fun z => absurd z (nI_pos (by omega)), fun _ => icall (bitsOf_eq hX m1) ?_⟩
          rintro m2 rfl
          rw [nI_1 (q + 1), q3]
          by_cases c : (best f q).2 < f (q + 1)
          · refine ⟨fun _ => ?_, fun z => absurd (nI_lt c (by omega)) z⟩
            rw [q2]
            refine icall (bitsOf_ok hX m2 q1) fun m k => ?_
            have hn2 := hn m k
            rw [if_pos c] at hn2
            rw [q3]
            exact hn2
          · have hn2 := hn m2 q1
            rw [if_neg c] at hn2
            exact ⟨fun z => absurd z (nI_nlt (Nat.le_of_not_lt c) (by omega)), fun _ => hn2⟩
  · refine ⟨.int (-1), ?_, fun m k => ?_⟩
    · apply b_X11_dread
      exact ⟨fun z => absurd ((isWd_X _ _).mp z) hin2, fun _ => ⟨rfl, rf⟩⟩
    · apply b_X12_dread
      exact ⟨fun z => absurd ((isWd_M _ _).mp z) hin2, fun _ => ⟨rfl, k⟩⟩

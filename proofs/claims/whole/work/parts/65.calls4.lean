/-! house, holder, place, wood, sway, light, looks -/
theorem st_sway (a w : Int32) : StepOK RR e_X11_sway e_X12_sway [.int a, .int w] := by
  apply step_q
  rintro mm ⟨t, s, H, O, S, Qn, W, C, J, F, B, ht, hs, hr, hb, -⟩
  obtain ⟨z1, z2, z3, z4, z5, z6, z7, z8, z9⟩ := hb.sz
  obtain ⟨n1, n2, n3, n4, n5, n6, n7, n8, n9⟩ := hb.nm
  obtain ⟨c1, c2, c3, c4, c5, c6, c7, c8, c9, c10⟩ := hb.nc
  have rf := Kp.rf (kp := kq) mm
  obtain ⟨o1, o2⟩ := isH_X (a := a) ht hr c1 z1
  by_cases hin : inR a H
  · by_cases hin2 : inR w 100
    · obtain ⟨h, hh, rfl⟩ := id hin
      refine ⟨.int (swayV mm.1 h w), ?_, fun m k => ?_⟩
      · apply b_X11_sway
        rw [hr.1, hr.2.1]
        simp only [true_implies, false_implies, not_true, not_false_eq_true, not_false, implies_true, and_true, true_and, not_true_eq_false, forall_const, eq_self, o1, o2, hin, isWd_X, hin2]
        exact ⟨ht.at, hs.s.at, icall (swayC_ok ht hs.s hb.law2 hb.mon (hb.hou h hh) w mm rf) fun m k => ⟨rfl, k.1⟩⟩
      · apply b_X12_sway
        simp only [true_implies, false_implies, not_true, not_false_eq_true, not_false, implies_true, and_true, true_and, not_true_eq_false, forall_const, eq_self, isH_M ((k.g 162 0 rfl).trans n1) z1, hin, isWd_M, hin2]
        exact icall (sway_ok w (by omega) (hb.rank h (by omega)).m hb.law2.m m k) fun m k => ⟨rfl, k⟩
    · refine ⟨.int (-1), ?_, fun m k => ?_⟩
      · apply b_X11_sway
        simp only [true_implies, false_implies, not_true, not_false_eq_true, not_false, implies_true, and_true, true_and, not_true_eq_false, forall_const, eq_self, o1, o2, hin, isWd_X, hin2]
        exact rf
      · apply b_X12_sway
        simp only [true_implies, false_implies, not_true, not_false_eq_true, not_false, implies_true, and_true, true_and, not_true_eq_false, forall_const, eq_self, isH_M ((k.g 162 0 rfl).trans n1) z1, hin, isWd_M, hin2]
        exact k
  · refine ⟨.int (-1), ?_, fun m k => ?_⟩
    · apply b_X11_sway
      simp only [true_implies, false_implies, not_true, not_false_eq_true, not_false, implies_true, and_true, true_and, not_true_eq_false, forall_const, eq_self, o1, o2, hin]
      exact rf
    · apply b_X12_sway
      simp only [true_implies, false_implies, not_true, not_false_eq_true, not_false, implies_true, and_true, true_and, not_true_eq_false, forall_const, eq_self, isH_M ((k.g 162 0 rfl).trans n1) z1, hin]
      exact k
theorem st_place : StepOK RR e_X11_place e_X12_place [] := by
  apply step_q
  rintro mm ⟨t, s, H, O, S, Qn, W, C, J, F, B, ht, hs, hr, hb, -⟩
  obtain ⟨z1, z2, z3, z4, z5, z6, z7, z8, z9⟩ := hb.sz
  obtain ⟨n1, n2, n3, n4, n5, n6, n7, n8, n9⟩ := hb.nm
  obtain ⟨c1, c2, c3, c4, c5, c6, c7, c8, c9, c10⟩ := hb.nc
  have rf := Kp.rf (kp := kq) mm
  refine ⟨.int (mm.1 1 8), ?_, fun m k => ?_⟩
  · refine runs_to (rv_X11_place mm) ?_
    rintro r m ⟨rfl, rfl⟩
    exact ⟨rfl, rf⟩
  · refine runs_to (rv_X12_place m) ?_
    rintro r m' ⟨rfl, rfl⟩
    refine ⟨?_, k⟩
    unfold v_X12_place
    rw [k.g 156 9 rfl, hb.2.2.2.2.2.2]
theorem st_wood (a : Int32) : StepOK RR e_X11_wood e_X12_wood [.int a] := by
  apply step_q
  rintro mm ⟨t, s, H, O, S, Qn, W, C, J, F, B, ht, hs, hr, hb, -⟩
  obtain ⟨z1, z2, z3, z4, z5, z6, z7, z8, z9⟩ := hb.sz
  obtain ⟨n1, n2, n3, n4, n5, n6, n7, n8, n9⟩ := hb.nm
  obtain ⟨c1, c2, c3, c4, c5, c6, c7, c8, c9, c10⟩ := hb.nc
  have rf := Kp.rf (kp := kq) mm
  obtain ⟨o1, o2⟩ := isW_X (a := a) ht hr c6 (by omega)
  by_cases hin : inR a W
  · obtain ⟨w, hw, rfl⟩ := id hin
    have e := (hb.2.1.wd w hw).2
    refine ⟨.int (mm.1 163 (50 + w)), ?_, fun m k => ?_⟩
    · refine runs_to (rv_X11_wood mm (nI w) ?_) ?_
      · unfold o_X11_wood
        rw [hr.2.1]
        exact ⟨o1, fun _ => ⟨hs.s.at, vp_in_nI (by omega) (by omega), trivial⟩, fun _ => trivial⟩
      · rintro r m' ⟨rfl, rfl⟩
        refine ⟨?_, rf⟩
        unfold v_X11_wood
        rw [hr.2.1, cite_pos (o2.mpr hin), nI_clamp (by omega), e]
    · refine runs_to (rv_X12_wood m (nI w) ?_) ?_
      · unfold o_X12_wood
        rw [k.r162, n5]
        simp (disch := omega) only [lin, nI_add, pk_mul, s_sub, s_addneg, s_leT, s_leF, s_ltT, s_ltF, s_eqF, s_inT, s_neF, s_neF', s_neE, s_nleT, s_nleF, s_nltF, s_nltT, eq_self, nI_clamp, s_wIk, s_wIo, pk_us, pk_un, Nat.reduceAdd, Nat.reduceMul, Nat.reduceSub, Nat.zero_add, Nat.add_zero, Nat.mul_zero, true_implies, false_implies, implies_true, not_true, not_false, and_true, true_and, not_true_eq_false, not_false_eq_true, forall_const]
      · rintro r m' ⟨rfl, rfl⟩
        refine ⟨?_, k⟩
        unfold v_X12_wood
        rw [k.r162, n5, cite_neg (nI_pos (by omega)), cite_pos (nI_lt hw (by omega)), k.r163]
        simp (disch := omega) only [lin, nI_add, pk_mul, s_sub, s_addneg, s_leT, s_leF, s_ltT, s_ltF, s_eqF, s_inT, s_neF, s_neF', s_neE, s_nleT, s_nleF, s_nltF, s_nltT, eq_self, nI_clamp, s_wIk, s_wIo, pk_us, pk_un, Nat.reduceAdd, Nat.reduceMul, Nat.reduceSub, Nat.zero_add, Nat.add_zero, Nat.mul_zero, true_implies, false_implies, implies_true, not_true, not_false, and_true, true_and, not_true_eq_false, not_false_eq_true, forall_const]
  · refine ⟨.int (-1), ?_, fun m k => ?_⟩
    · refine runs_to (rv_X11_wood mm a ?_) ?_
      · unfold o_X11_wood
        exact ⟨o1, fun z => absurd (o2.mp z) hin, fun _ => trivial⟩
      · rintro r m' ⟨rfl, rfl⟩
        refine ⟨?_, rf⟩
        unfold v_X11_wood
        rw [cite_neg (fun z => hin (o2.mp z))]
    · have hno : ∀ (A : Prop), ¬ a < 0 → a < nI W → A := fun A h1 h2 => absurd ((inR_iff (by omega)).mp ⟨h1, Int32.not_le.mpr h2⟩) hin
      refine runs_to (rv_X12_wood m a ?_) ?_
      · unfold o_X12_wood
        rw [k.r162, n5]
        exact ⟨fun _ => trivial, fun h1 => ⟨fun h2 => hno _ h1 h2, fun _ => trivial⟩⟩
      · rintro r m' ⟨rfl, rfl⟩
        refine ⟨?_, k⟩
        unfold v_X12_wood
        rw [k.r162, n5]
        by_cases h1 : a < 0
        · rw [cite_pos h1]
        · rw [cite_neg h1, cite_neg (fun h2 => hno _ h1 h2)]
/-- who is in an office, by the class -/
theorem who_ok {mm : MM} {t s H O S Qn W C J F B : Nat} (hs : isN s) (hb : BodyR mm.1 t s H O S Qn W C J F B) {o : Nat} (ho : o < O) (m : MM) (hm : Kq mm m) : Runs e_X6_whoIsIn [.ref s, .int (nI o)] m (fun r m' => r = .int (holdR (mm.1 163) H (nI o)) ∧ Kq mm m') := by
  have z1 := hb.sz.1
  have z2 := hb.sz.2.1
  have heq : ∀ h, h < 16 → ((mm.1 (s + 2) h = nI o) ↔ (h < H ∧ mm.1 163 (30 + h) = nI o)) := by
    intro h hh
    rcases hb.2.1.of (by omega) h hh with ⟨e1, e2⟩ | ⟨o', ho', hH, e1, e2⟩
    · rw [e1, e2]
      constructor
      · intro z
        exact absurd z.symm (of_eq_false (s_neF (b := 1) (Or.inr (by omega)) (by omega) (by omega)))
      · rintro ⟨-, z⟩
        exact absurd z.symm (of_eq_false (s_neF (b := 2) (Or.inr (by omega)) (by omega) (by omega)))
    · rw [e1, e2]
      exact ⟨fun z => ⟨hH, z⟩, fun z => z.2⟩
  apply b_X6_whoIsIn _ _ _ _ hs.s.at
  refine for_up (fun q => [(0, .ref s), (1, .int (nI o)), (2, .int (nI q))]) (fun q m => Kq mm m ∧ ∀ h, h < q → ¬ (h < H ∧ mm.1 163 (30 + h) = nI o)) 16 ?_ ?_ 0 _ (Nat.zero_le _) ⟨hm, fun h hh => absurd hh (Nat.not_lt_zero _)⟩
  · rintro m ⟨k, hno⟩
    apply b_X6_whoIsIn_2 _ _ _ _ _ hs.s.at
    simp (disch := omega) only [lin, nI_add, pk_mul, s_sub, s_addneg, s_leT, s_leF, s_ltT, s_ltF, s_eqF, s_inT, s_neF, s_neF', s_neE, s_nleT, s_nleF, s_nltF, s_nltT, eq_self, nI_clamp, s_wIk, s_wIo, pk_us, pk_un, Nat.reduceAdd, Nat.reduceMul, Nat.reduceSub, Nat.zero_add, Nat.add_zero, Nat.mul_zero, true_implies, false_implies, implies_true, not_true, not_false, and_true, true_and, not_true_eq_false, not_false_eq_true, forall_const]
    refine ⟨?_, k⟩
    have e : fa_first (fun h => decide (mm.1 163 (30 + h) = nI o)) H = H := fa_first_none (fun j hj => by
      have := hno j (by omega)
      simp only [hj, true_and] at this
      simpa using this)
    unfold holdR
    rw [e, if_neg (by omega)]
    rfl
  · rintro q m hq ⟨k, hno⟩ hn
    apply b_X6_whoIsIn_2 _ _ _ _ _ hs.s.at
    rw [nI_clamp (by omega), k.s hs.s 2 (by omega), nI_1 q]
    refine ⟨fun z => absurd z (nI_ge (a := q) (b := 16) hq (by omega)), fun _ => ⟨vp_in_nI (by omega) (by omega), fun z => ?_, fun z => ?_⟩⟩
    · refine hn m ⟨k, fun h hh => ?_⟩
      by_cases e : h = q
      · subst e; exact fun y => z ((heq h (by omega)).mpr y)
      · exact hno h (by omega)
    · obtain ⟨y1, y2⟩ := (heq q (by omega)).mp z
      have e : fa_first (fun h => decide (mm.1 163 (30 + h) = nI o)) H = q := fa_first_at y1 (by simpa using y2) (fun j hj => by
        have := hno j hj
        simp only [show j < H from by omega, true_and] at this
        simpa using this)
      unfold holdR
      rw [e, if_pos y1]
      exact ⟨rfl, k⟩
theorem holdM_ok {mm : MM} {H : Nat} (n1 : mm.1 162 0 = nI H) (z1 : H ≤ 16) (o : Int32) (m : MM) (hm : Kq mm m) : Runs e_X12_holderOf [.ref 156, .int o] m (fun r m' => r = .int (holdR (mm.1 163) H o) ∧ Kq mm m') := by
  refine runs_to (holderOf_ok m o H ((hm.g 162 0 rfl).trans n1) z1) ?_
  rintro r m' ⟨rfl, rfl⟩
  exact ⟨by rw [hm.r163], hm⟩
theorem st_holder (a : Int32) : StepOK RR e_X11_holder e_X12_holder [.int a] := by
  apply step_q
  rintro mm ⟨t, s, H, O, S, Qn, W, C, J, F, B, ht, hs, hr, hb, -⟩
  obtain ⟨z1, z2, z3, z4, z5, z6, z7, z8, z9⟩ := hb.sz
  obtain ⟨n1, n2, n3, n4, n5, n6, n7, n8, n9⟩ := hb.nm
  obtain ⟨c1, c2, c3, c4, c5, c6, c7, c8, c9, c10⟩ := hb.nc
  have rf := Kp.rf (kp := kq) mm
  obtain ⟨o1, o2⟩ := isO_X (a := a) ht hr c2 z2
  by_cases hin : inR a O
  · obtain ⟨o, ho, rfl⟩ := id hin
    refine ⟨.int (holdR (mm.1 163) H (nI o)), ?_, fun m k => ?_⟩
    · apply b_X11_holder
      rw [hr.2.1]
      simp only [true_implies, false_implies, not_true, not_false_eq_true, not_false, implies_true, and_true, true_and, not_true_eq_false, forall_const, eq_self, o1, o2, hin]
      exact ⟨hs.s.at, icall (who_ok hs hb ho mm rf) fun m k => ⟨rfl, k⟩⟩
    · apply b_X12_holder
      simp only [true_implies, false_implies, not_true, not_false_eq_true, not_false, implies_true, and_true, true_and, not_true_eq_false, forall_const, eq_self, isO_M ((k.g 162 1 rfl).trans n2) (by omega), hin]
      exact icall (holdM_ok n1 z1 (nI o) m k) fun m k => ⟨rfl, k⟩
  · refine ⟨.int (-1), ?_, fun m k => ?_⟩
    · apply b_X11_holder
      simp only [true_implies, false_implies, not_true, not_false_eq_true, not_false, implies_true, and_true, true_and, not_true_eq_false, forall_const, eq_self, o1, o2, hin]
      exact rf
    · apply b_X12_holder
      simp only [true_implies, false_implies, not_true, not_false_eq_true, not_false, implies_true, and_true, true_and, not_true_eq_false, forall_const, eq_self, isO_M ((k.g 162 1 rfl).trans n2) (by omega), hin]
      exact k
theorem st_house (a b : Int32) : StepOK RR e_X11_house e_X12_house [.int a, .int b] := by
  apply step_q
  rintro mm ⟨t, s, H, O, S, Qn, W, C, J, F, B, ht, hs, hr, hb, -⟩
  obtain ⟨z1, z2, z3, z4, z5, z6, z7, z8, z9⟩ := hb.sz
  obtain ⟨n1, n2, n3, n4, n5, n6, n7, n8, n9⟩ := hb.nm
  obtain ⟨c1, c2, c3, c4, c5, c6, c7, c8, c9, c10⟩ := hb.nc
  have rf := Kp.rf (kp := kq) mm
  obtain ⟨o1, o2⟩ := isH_X (a := a) ht hr c1 z1
  by_cases hin : inR a H
  · obtain ⟨h, hh, rfl⟩ := id hin
    obtain ⟨h16, r1, r2, r3, r4⟩ := hb.hou h hh
    have iM := fun (m : MM) (k : Kq mm m) => isH_M (a := nI h) ((k.g 162 0 rfl).trans n1) z1
    by_cases e0 : b = nI 0
    · subst e0
      refine ⟨.int (mm.1 162 (20 + 3 * h)), ?_, fun m k => ?_⟩
      · apply b_X11_house
        rw [hr.1, hr.2.1]
        simp (disch := omega) only [lin, nI_add, pk_mul, s_sub, s_addneg, s_leT, s_leF, s_ltT, s_ltF, s_eqF, s_inT, s_neF, s_neF', s_neE, s_nleT, s_nleF, s_nltF, s_nltT, eq_self, nI_clamp, s_wIk, s_wIo, pk_us, pk_un, Nat.reduceAdd, Nat.reduceMul, Nat.reduceSub, Nat.zero_add, Nat.add_zero, Nat.mul_zero, true_implies, false_implies, implies_true, not_true, not_false, and_true, true_and, not_true_eq_false, not_false_eq_true, forall_const, o1, o2, hin, r4, eq_true ht.at]
        exact rf
      · apply b_X12_house
        rw [x_v k h16]
        simp (disch := omega) only [lin, nI_add, pk_mul, s_sub, s_addneg, s_leT, s_leF, s_ltT, s_ltF, s_eqF, s_inT, s_neF, s_neF', s_neE, s_nleT, s_nleF, s_nltF, s_nltT, eq_self, nI_clamp, s_wIk, s_wIo, pk_us, pk_un, Nat.reduceAdd, Nat.reduceMul, Nat.reduceSub, Nat.zero_add, Nat.add_zero, Nat.mul_zero, true_implies, false_implies, implies_true, not_true, not_false, and_true, true_and, not_true_eq_false, not_false_eq_true, forall_const, iM m k, hin, x_o h16]
        exact k
    by_cases e1 : b = nI 1
    · subst e1
      refine ⟨.int (mm.1 163 (10 + h)), ?_, fun m k => ?_⟩
      · apply b_X11_house
        rw [hr.1, hr.2.1]
        simp (disch := omega) only [lin, nI_add, pk_mul, s_sub, s_addneg, s_leT, s_leF, s_ltT, s_ltF, s_eqF, s_inT, s_neF, s_neF', s_neE, s_nleT, s_nleF, s_nltF, s_nltT, eq_self, nI_clamp, s_wIk, s_wIo, pk_us, pk_un, Nat.reduceAdd, Nat.reduceMul, Nat.reduceSub, Nat.zero_add, Nat.add_zero, Nat.mul_zero, true_implies, false_implies, implies_true, not_true, not_false, and_true, true_and, not_true_eq_false, not_false_eq_true, forall_const, o1, o2, hin, r2, eq_true hs.s.at]
        exact rf
      · apply b_X12_house
        rw [h_v k h16]
        simp (disch := omega) only [lin, nI_add, pk_mul, s_sub, s_addneg, s_leT, s_leF, s_ltT, s_ltF, s_eqF, s_inT, s_neF, s_neF', s_neE, s_nleT, s_nleF, s_nltF, s_nltT, eq_self, nI_clamp, s_wIk, s_wIo, pk_us, pk_un, Nat.reduceAdd, Nat.reduceMul, Nat.reduceSub, Nat.zero_add, Nat.add_zero, Nat.mul_zero, true_implies, false_implies, implies_true, not_true, not_false, and_true, true_and, not_true_eq_false, not_false_eq_true, forall_const, iM m k, hin, h_o h16]
        exact k
    by_cases e2 : b = nI 2
    · subst e2
      refine ⟨.int (mm.1 162 (20 + 3 * h + 2)), ?_, fun m k => ?_⟩
      · apply b_X11_house
        rw [hr.1, hr.2.1]
        simp (disch := omega) only [lin, nI_add, pk_mul, s_sub, s_addneg, s_leT, s_leF, s_ltT, s_ltF, s_eqF, s_inT, s_neF, s_neF', s_neE, s_nleT, s_nleF, s_nltF, s_nltT, eq_self, nI_clamp, s_wIk, s_wIo, pk_us, pk_un, Nat.reduceAdd, Nat.reduceMul, Nat.reduceSub, Nat.zero_add, Nat.add_zero, Nat.mul_zero, true_implies, false_implies, implies_true, not_true, not_false, and_true, true_and, not_true_eq_false, not_false_eq_true, forall_const, o1, o2, hin, r3, eq_true ht.at]
        exact rf
      · apply b_X12_house
        simp (disch := omega) only [lin, nI_add, pk_mul, s_sub, s_addneg, s_leT, s_leF, s_ltT, s_ltF, s_eqF, s_inT, s_neF, s_neF', s_neE, s_nleT, s_nleF, s_nltF, s_nltT, eq_self, nI_clamp, s_wIk, s_wIo, pk_us, pk_un, Nat.reduceAdd, Nat.reduceMul, Nat.reduceSub, Nat.zero_add, Nat.add_zero, Nat.mul_zero, true_implies, false_implies, implies_true, not_true, not_false, and_true, true_and, not_true_eq_false, not_false_eq_true, forall_const, iM m k, hin, k.r162]
        exact k
    by_cases e3 : b = nI 3
    · subst e3
      refine ⟨.int (mm.1 163 (30 + h)), ?_, fun m k => ?_⟩
      · apply b_X11_house
        rw [hr.1, hr.2.1]
        rcases hb.2.1.of (by omega) h h16 with ⟨y1, y2⟩ | ⟨o, ho, -, y1, y2⟩
        · simp (disch := omega) only [lin, nI_add, pk_mul, s_sub, s_addneg, s_leT, s_leF, s_ltT, s_ltF, s_eqF, s_inT, s_neF, s_neF', s_neE, s_nleT, s_nleF, s_nltF, s_nltT, eq_self, nI_clamp, s_wIk, s_wIo, pk_us, pk_un, Nat.reduceAdd, Nat.reduceMul, Nat.reduceSub, Nat.zero_add, Nat.add_zero, Nat.mul_zero, true_implies, false_implies, implies_true, not_true, not_false, and_true, true_and, not_true_eq_false, not_false_eq_true, forall_const, o1, o2, hin, y1, y2, eq_true hs.s.at]
          exact rf
        · simp (disch := omega) only [lin, nI_add, pk_mul, s_sub, s_addneg, s_leT, s_leF, s_ltT, s_ltF, s_eqF, s_inT, s_neF, s_neF', s_neE, s_nleT, s_nleF, s_nltF, s_nltT, eq_self, nI_clamp, s_wIk, s_wIo, pk_us, pk_un, Nat.reduceAdd, Nat.reduceMul, Nat.reduceSub, Nat.zero_add, Nat.add_zero, Nat.mul_zero, true_implies, false_implies, implies_true, not_true, not_false, and_true, true_and, not_true_eq_false, not_false_eq_true, forall_const, o1, o2, hin, y1, y2, eq_true hs.s.at]
          exact rf
      · apply b_X12_house
        simp (disch := omega) only [lin, nI_add, pk_mul, s_sub, s_addneg, s_leT, s_leF, s_ltT, s_ltF, s_eqF, s_inT, s_neF, s_neF', s_neE, s_nleT, s_nleF, s_nltF, s_nltT, eq_self, nI_clamp, s_wIk, s_wIo, pk_us, pk_un, Nat.reduceAdd, Nat.reduceMul, Nat.reduceSub, Nat.zero_add, Nat.add_zero, Nat.mul_zero, true_implies, false_implies, implies_true, not_true, not_false, and_true, true_and, not_true_eq_false, not_false_eq_true, forall_const, iM m k, hin, k.r163]
        exact k
    by_cases e4 : b = nI 4
    · subst e4
      refine ⟨.int (rkV mm.1 h), ?_, fun m k => ?_⟩
      · apply b_X11_house
        rw [hr.1, hr.2.1, rkC_v ht hs.s rf h16 r1]
        simp (disch := omega) only [lin, nI_add, pk_mul, s_sub, s_addneg, s_leT, s_leF, s_ltT, s_ltF, s_eqF, s_inT, s_neF, s_neF', s_neE, s_nleT, s_nleF, s_nltF, s_nltT, eq_self, nI_clamp, s_wIk, s_wIo, pk_us, pk_un, Nat.reduceAdd, Nat.reduceMul, Nat.reduceSub, Nat.zero_add, Nat.add_zero, Nat.mul_zero, true_implies, false_implies, implies_true, not_true, not_false, and_true, true_and, not_true_eq_false, not_false_eq_true, forall_const, o1, o2, hin, eq_true ht.at, eq_true hs.s.at, rkC_o ht hs.s rf h16 r1]
        exact rf
      · apply b_X12_house
        rw [rk_v k h16 r1.m]
        simp (disch := omega) only [lin, nI_add, pk_mul, s_sub, s_addneg, s_leT, s_leF, s_ltT, s_ltF, s_eqF, s_inT, s_neF, s_neF', s_neE, s_nleT, s_nleF, s_nltF, s_nltT, eq_self, nI_clamp, s_wIk, s_wIo, pk_us, pk_un, Nat.reduceAdd, Nat.reduceMul, Nat.reduceSub, Nat.zero_add, Nat.add_zero, Nat.mul_zero, true_implies, false_implies, implies_true, not_true, not_false, and_true, true_and, not_true_eq_false, not_false_eq_true, forall_const, iM m k, hin, rk_o k h16 r1.m]
        exact k
    by_cases e5 : b = nI 5
    · subst e5
      refine ⟨.int (dueV mm.1 h), ?_, fun m k => ?_⟩
      · apply b_X11_house
        rw [hr.1, hr.2.1]
        simp (disch := omega) only [lin, nI_add, pk_mul, s_sub, s_addneg, s_leT, s_leF, s_ltT, s_ltF, s_eqF, s_inT, s_neF, s_neF', s_neE, s_nleT, s_nleF, s_nltF, s_nltT, eq_self, nI_clamp, s_wIk, s_wIo, pk_us, pk_un, Nat.reduceAdd, Nat.reduceMul, Nat.reduceSub, Nat.zero_add, Nat.add_zero, Nat.mul_zero, true_implies, false_implies, implies_true, not_true, not_false, and_true, true_and, not_true_eq_false, not_false_eq_true, forall_const, o1, o2, hin, eq_true ht.at, eq_true hs.s.at]
        exact icall (dueC_ok ht hs.s hb.law1 (hb.hou h hh) mm rf) fun m k => ⟨rfl, k⟩
      · apply b_X12_house
        simp (disch := omega) only [lin, nI_add, pk_mul, s_sub, s_addneg, s_leT, s_leF, s_ltT, s_ltF, s_eqF, s_inT, s_neF, s_neF', s_neE, s_nleT, s_nleF, s_nltF, s_nltT, eq_self, nI_clamp, s_wIk, s_wIo, pk_us, pk_un, Nat.reduceAdd, Nat.reduceMul, Nat.reduceSub, Nat.zero_add, Nat.add_zero, Nat.mul_zero, true_implies, false_implies, implies_true, not_true, not_false, and_true, true_and, not_true_eq_false, not_false_eq_true, forall_const, iM m k, hin]
        exact icall (due_ok h16 r1.m hb.law1.m m k) fun m k => ⟨rfl, k⟩
    refine ⟨.int (-nI 1), ?_, fun m k => ?_⟩
    · apply b_X11_house
      simp (disch := omega) only [lin, nI_add, pk_mul, s_sub, s_addneg, s_leT, s_leF, s_ltT, s_ltF, s_eqF, s_inT, s_neF, s_neF', s_neE, s_nleT, s_nleF, s_nltF, s_nltT, eq_self, nI_clamp, s_wIk, s_wIo, pk_us, pk_un, Nat.reduceAdd, Nat.reduceMul, Nat.reduceSub, Nat.zero_add, Nat.add_zero, Nat.mul_zero, true_implies, false_implies, implies_true, not_true, not_false, and_true, true_and, not_true_eq_false, not_false_eq_true, forall_const, o1, o2, hin, e0, e1, e2, e3, e4, e5]
      exact rf
    · apply b_X12_house
      simp (disch := omega) only [lin, nI_add, pk_mul, s_sub, s_addneg, s_leT, s_leF, s_ltT, s_ltF, s_eqF, s_inT, s_neF, s_neF', s_neE, s_nleT, s_nleF, s_nltF, s_nltT, eq_self, nI_clamp, s_wIk, s_wIo, pk_us, pk_un, Nat.reduceAdd, Nat.reduceMul, Nat.reduceSub, Nat.zero_add, Nat.add_zero, Nat.mul_zero, true_implies, false_implies, implies_true, not_true, not_false, and_true, true_and, not_true_eq_false, not_false_eq_true, forall_const, iM m k, hin, e0, e1, e2, e3, e4, e5]
      exact k
  · refine ⟨.int (-1), ?_, fun m k => ?_⟩
    · apply b_X11_house
      simp only [true_implies, false_implies, not_true, not_false_eq_true, not_false, implies_true, and_true, true_and, not_true_eq_false, forall_const, eq_self, o1, o2, hin]
      exact rf
    · apply b_X12_house
      simp only [true_implies, false_implies, not_true, not_false_eq_true, not_false, implies_true, and_true, true_and, not_true_eq_false, forall_const, eq_self, isH_M ((k.g 162 0 rfl).trans n1) z1, hin]
      exact k

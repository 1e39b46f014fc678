/-! calls that ask: tide, wet, reached, hours, meets, cut, worst -/
theorem least_ex {A D S n : Nat} (hD : D < 2 ^ n) {act : Nat → Bool} {Cd : Nat → Nat → Prop} {f : Nat → Nat → Nat} (hf : ∀ s, s < S → act s = true → StepG D (Cd s) (f s)) : ∀ d R, Open A D S act Cd R → n - fb_ct R.testBit n < d → ∃ R', Least A S act Cd R'
  | 0, R, _, h => absurd h (Nat.not_lt_zero _)
  | d + 1, R, ho, h => by
    by_cases e : pass act f S R = R
    · exact ⟨R, ho.done hf e⟩
    · have km := ho.more hD hf e
      have hl : fb_ct (pass act f S R).testBit n ≤ n := fb_ct_le _ _
      generalize hz : fb_ct (pass act f S R).testBit n = z at km hl
      exact least_ex hD hf d (pass act f S R) (ho.go hf) (by rw [hz]; omega)
theorem dry_lt {st : Nat → Int32} (hv : Nat → Int32) (tide nh : Int32) (hT : TownM st) : dryV st hv tide nh < 2 ^ 16 := by
  obtain ⟨H, S, Qn, h16, -, -, eH, -⟩ := hT
  unfold dryV
  rw [eH, nI_clamp (by omega)]
  exact Nat.lt_of_lt_of_le (bs_lt _ _) (Nat.pow_le_pow_right (by decide) h16)
theorem rch_L {st : Nat → Int32} (hv : Nat → Int32) (tide ns nh : Int32) (hT : TownM st) : LeastR st hv tide ns nh (rchV st hv tide ns nh) := by
  have hD := dry_lt hv tide nh hT
  obtain ⟨R, hR⟩ := least_ex (A := quayN st &&& dryV st hv tide nh) hD (act := actV st hv ns) (S := (st 3).toNatClampNeg) (fun s _ _ => fC_G st (decide (tide = 0)) (dryV st hv tide nh) s) 17 (quayN st &&& dryV st hv tide nh) ⟨sub.rf _, sub.and_r _ _, fun R' h _ => h⟩ (by have := fb_ct_le (quayN st &&& dryV st hv tide nh).testBit 16; omega)
  rw [rchV_of hR]
  exact hR
theorem rch_sub {st : Nat → Int32} (hv : Nat → Int32) (tide ns nh : Int32) (hT : TownM st) : sub (rchV st hv tide ns nh) (dryV st hv tide nh) := by
  refine (rch_L hv tide ns nh hT).2 _ (sub.and_r _ _) (fun s _ _ => ?_)
  unfold condS
  split
  · exact fun _ h => h
  · exact ⟨fun _ h => h, fun _ h => h⟩
theorem rch_lt {st : Nat → Int32} (hv : Nat → Int32) (tide ns nh : Int32) (hT : TownM st) : rchV st hv tide ns nh < 65536 := sub_lt (rch_sub hv tide ns nh hT) (dry_lt hv tide nh hT)
theorem reachB_ok {mm : MM} {t hc : Nat} {hv : Nat → Int32} {tide : Int32} (ht : isT t) (hsh : SHL[hc]? = some (.inl (0, 16, 0, 0))) (hT : TownM (mm.1 162)) (hC : TownC mm.1 t) (hH : HgtM hv) (m : MM) (hm : Kq mm m) (hh : ∀ h, h < 16 → m.1 hc h = hv h) :
    Runs e_X8_reachedBits [.ref t, .ref hc, .int tide] m (fun r m' => r = .int (nI (rchV (mm.1 162) hv tide (-nI 1) (-nI 1))) ∧ m' = m) := by
  apply b_X8_reachedBits _ _ _ _ _ ht.at hsh
  refine icall (reachC_ok ht hsh hT hC hH (Or.inl rfl) m hm hh) ?_
  rintro m1 rfl
  exact ⟨rfl, rfl⟩
theorem st_tide (a : Int32) : StepOK RR e_X11_tide e_X12_tide [.int a] := by
  apply step_q
  rintro mm ⟨t, s, H, O, S, Qn, W, C, J, F, B, ht, hs, hr, hb, -⟩
  obtain ⟨z1, z2, z3, z4, z5, z6, z7, z8, z9⟩ := hb.sz
  obtain ⟨n1, n2, n3, n4, n5, n6, n7, n8, n9⟩ := hb.nm
  obtain ⟨c1, c2, c3, c4, c5, c6, c7, c8, c9, c10⟩ := hb.nc
  have rf := Kp.rf (kp := kq) mm
  by_cases hin : inR a 24
  · refine ⟨.int (tideV mm.1 a), ?_, fun m k => ?_⟩
    · apply b_X11_tide
      rw [hr.1, hr.2.1]
      simp only [true_implies, false_implies, not_true, not_false_eq_true, not_false, implies_true, and_true, true_and, not_true_eq_false, forall_const, eq_self, isHr_X, hin]
      exact ⟨ht.at, hs.s.at, icall (tideC_ok ht hs.s hb.law0 hb.mon a mm rf) fun m k => ⟨rfl, k⟩⟩
    · apply b_X12_tide
      simp only [true_implies, false_implies, not_true, not_false_eq_true, not_false, implies_true, and_true, true_and, not_true_eq_false, forall_const, eq_self, isHr_M, hin]
      exact icall (tide_ok a hb.law0.m m k) fun m k => ⟨rfl, k⟩
  · refine ⟨.int (-1), ?_, fun m k => ?_⟩
    · apply b_X11_tide
      simp only [true_implies, false_implies, not_true, not_false_eq_true, not_false, implies_true, and_true, true_and, not_true_eq_false, forall_const, eq_self, isHr_X, hin]
      exact rf
    · apply b_X12_tide
      simp only [true_implies, false_implies, not_true, not_false_eq_true, not_false, implies_true, and_true, true_and, not_true_eq_false, forall_const, eq_self, isHr_M, hin]
      exact k
theorem st_wet (a : Int32) : StepOK RR e_X11_wet e_X12_wet [.int a] := by
  apply step_q
  rintro mm ⟨t, s, H, O, S, Qn, W, C, J, F, B, ht, hs, hr, hb, -⟩
  obtain ⟨z1, z2, z3, z4, z5, z6, z7, z8, z9⟩ := hb.sz
  obtain ⟨n1, n2, n3, n4, n5, n6, n7, n8, n9⟩ := hb.nm
  obtain ⟨c1, c2, c3, c4, c5, c6, c7, c8, c9, c10⟩ := hb.nc
  have rf := Kp.rf (kp := kq) mm
  by_cases hin : inR a 24
  · refine ⟨.int (nI (bs (fun h => decide (mm.1 163 (10 + h) < tideV mm.1 a)) H)), ?_, fun m k => ?_⟩
    · apply b_X11_wet
      rw [hr.1, hr.2.1]
      simp only [true_implies, false_implies, not_true, not_false_eq_true, not_false, implies_true, and_true, true_and, not_true_eq_false, forall_const, eq_self, isHr_X, hin]
      refine ⟨ht.at, hs.s.at, ht.at, hs.s.at, icall (tideC_ok ht hs.s hb.law0 hb.mon a mm rf) fun m k => ?_⟩
      refine icall (wet_ok (hv := fun h => mm.1 163 (10 + h)) ht (AtState_1 hs.s.at) z1 n1 hb.townC m k (fun h hh => by rw [k.s hs.s 1 (by omega)]; exact hb.hh h hh)) ?_
      rintro m1 rfl
      exact ⟨rfl, k⟩
    · apply b_X12_wet
      simp only [true_implies, false_implies, not_true, not_false_eq_true, not_false, implies_true, and_true, true_and, not_true_eq_false, forall_const, eq_self, isHr_M, hin]
      refine icall (tide_ok a hb.law0.m m k) fun m k => ?_
      refine for_up (fun q => [(0, .ref 156), (2, .int (tideV mm.1 a)), (3, .int (nI (bs (fun h => decide (mm.1 163 (10 + h) < tideV mm.1 a)) q))), (4, .int (nI q))]) (fun q m => Kq mm m) H ?_ ?_ 0 _ (Nat.zero_le _) k
      · intro m k
        apply b_X12_wet_20
        simp (disch := omega) only [lin, nI_add, pk_mul, s_sub, s_addneg, s_leT, s_leF, s_ltT, s_ltF, s_eqF, s_inT, s_neF, s_neF', s_neE, s_nleT, s_nleF, s_nltF, s_nltT, eq_self, nI_clamp, s_wIk, s_wIo, pk_us, pk_un, Nat.reduceAdd, Nat.reduceMul, Nat.reduceSub, Nat.zero_add, Nat.add_zero, Nat.mul_zero, true_implies, false_implies, implies_true, not_true, not_false, and_true, true_and, not_true_eq_false, not_false_eq_true, forall_const, k.r162, n1]
        exact k
      · intro q m hq k hn
        have hn2 := hn m k
        simp only [bs_succ] at hn2
        apply b_X12_wet_20
        rw [h_v k (by omega)]
        have ho := h_o (m := m) (show q < 16 by omega)
        by_cases c1 : mm.1 163 (10 + q) < tideV mm.1 a
        · have c2 : ¬ tideV mm.1 a ≤ mm.1 163 (10 + q) := Int32.not_le.mpr c1
          simp only [c1, decide_true, cond_true] at hn2
          simp (disch := omega) only [lin, nI_add, pk_mul, s_sub, s_addneg, s_leT, s_leF, s_ltT, s_ltF, s_eqF, s_inT, s_neF, s_neF', s_neE, s_nleT, s_nleF, s_nltF, s_nltT, eq_self, nI_clamp, s_wIk, s_wIo, pk_us, pk_un, Nat.reduceAdd, Nat.reduceMul, Nat.reduceSub, Nat.zero_add, Nat.add_zero, Nat.mul_zero, true_implies, false_implies, implies_true, not_true, not_false, and_true, true_and, not_true_eq_false, not_false_eq_true, forall_const, k.r162, n1, ho, c2, ib', ib2, fa_or]
          exact hn2
        · have c2 : tideV mm.1 a ≤ mm.1 163 (10 + q) := Int32.not_lt.mp c1
          simp only [c1, decide_false, cond_false] at hn2
          simp (disch := omega) only [lin, nI_add, pk_mul, s_sub, s_addneg, s_leT, s_leF, s_ltT, s_ltF, s_eqF, s_inT, s_neF, s_neF', s_neE, s_nleT, s_nleF, s_nltF, s_nltT, eq_self, nI_clamp, s_wIk, s_wIo, pk_us, pk_un, Nat.reduceAdd, Nat.reduceMul, Nat.reduceSub, Nat.zero_add, Nat.add_zero, Nat.mul_zero, true_implies, false_implies, implies_true, not_true, not_false, and_true, true_and, not_true_eq_false, not_false_eq_true, forall_const, k.r162, n1, ho, c2]
          exact hn2
  · refine ⟨.int (-1), ?_, fun m k => ?_⟩
    · apply b_X11_wet
      simp only [true_implies, false_implies, not_true, not_false_eq_true, not_false, implies_true, and_true, true_and, not_true_eq_false, forall_const, eq_self, isHr_X, hin]
      exact rf
    · apply b_X12_wet
      simp only [true_implies, false_implies, not_true, not_false_eq_true, not_false, implies_true, and_true, true_and, not_true_eq_false, forall_const, eq_self, isHr_M, hin]
      exact k
/-- the reached ones at an hour, as all calls without a thing left out have them -/
noncomputable def rchH (c : Nat → Nat → Int32) (hr : Int32) : Nat := rchV (c 162) (fun h => c 163 (10 + h)) (tideV c hr) (-nI 1) (-nI 1)
theorem st_reached (a : Int32) : StepOK RR e_X11_reached e_X12_reached [.int a] := by
  apply step_q
  rintro mm ⟨t, s, H, O, S, Qn, W, C, J, F, B, ht, hs, hr, hb, -⟩
  obtain ⟨z1, z2, z3, z4, z5, z6, z7, z8, z9⟩ := hb.sz
  obtain ⟨n1, n2, n3, n4, n5, n6, n7, n8, n9⟩ := hb.nm
  obtain ⟨c1, c2, c3, c4, c5, c6, c7, c8, c9, c10⟩ := hb.nc
  have rf := Kp.rf (kp := kq) mm
  by_cases hin : inR a 24
  · refine ⟨.int (nI (rchH mm.1 a)), ?_, fun m k => ?_⟩
    · apply b_X11_reached
      rw [hr.1, hr.2.1]
      simp only [true_implies, false_implies, not_true, not_false_eq_true, not_false, implies_true, and_true, true_and, not_true_eq_false, forall_const, eq_self, isHr_X, hin]
      refine ⟨ht.at, hs.s.at, ht.at, hs.s.at, icall (tideC_ok ht hs.s hb.law0 hb.mon a mm rf) fun m k => ?_⟩
      refine icall (reachB_ok ht (AtState_1 hs.s.at) hb.townM hb.townC hb.hgt m k (fun h hh => by rw [k.s hs.s 1 (by omega)]; exact hb.hh h hh)) ?_
      rintro m1 rfl
      exact ⟨rfl, k⟩
    · apply b_X12_reached
      simp only [true_implies, false_implies, not_true, not_false_eq_true, not_false, implies_true, and_true, true_and, not_true_eq_false, forall_const, eq_self, isHr_M, hin]
      refine icall (reach_ok (ns := -nI 1) (nh := -nI 1) hb.law0.m rfl hb.townM hb.hgt m k) ?_
      rintro m1 ⟨k1, -⟩
      exact ⟨rfl, k1⟩
  · refine ⟨.int (-1), ?_, fun m k => ?_⟩
    · apply b_X11_reached
      simp only [true_implies, false_implies, not_true, not_false_eq_true, not_false, implies_true, and_true, true_and, not_true_eq_false, forall_const, eq_self, isHr_X, hin]
      exact rf
    · apply b_X12_reached
      simp only [true_implies, false_implies, not_true, not_false_eq_true, not_false, implies_true, and_true, true_and, not_true_eq_false, forall_const, eq_self, isHr_M, hin]
      exact k
theorem st_hours (a : Int32) : StepOK RR e_X11_hours e_X12_hours [.int a] := by
  apply step_q
  rintro mm ⟨t, s, H, O, S, Qn, W, C, J, F, B, ht, hs, hr, hb, -⟩
  obtain ⟨z1, z2, z3, z4, z5, z6, z7, z8, z9⟩ := hb.sz
  obtain ⟨n1, n2, n3, n4, n5, n6, n7, n8, n9⟩ := hb.nm
  obtain ⟨c1, c2, c3, c4, c5, c6, c7, c8, c9, c10⟩ := hb.nc
  have rf := Kp.rf (kp := kq) mm
  obtain ⟨o1, o2⟩ := isH_X (a := a) ht hr c1 z1
  by_cases hin : inR a H
  · obtain ⟨h, hh, rfl⟩ := hin
    have hin : inR (nI h) H := ⟨h, hh, rfl⟩
    refine ⟨.int (nI (fb_ct (fun q => (rchH mm.1 (nI q)).testBit h) 24)), ?_, fun m k => ?_⟩
    · apply b_X11_hours
      simp only [true_implies, false_implies, not_true, not_false_eq_true, not_false, implies_true, and_true, true_and, not_true_eq_false, forall_const, eq_self, o1, o2, hin]
      refine for_up (fun q => [(0, .ref 0), (1, .int (nI h)), (2, .int (nI (fb_ct (fun q => (rchH mm.1 (nI q)).testBit h) q))), (3, .int (nI q))]) (fun q m => Kq mm m) 24 ?_ ?_ 0 _ (Nat.zero_le _) rf
      · intro m k
        apply b_X11_hours_14
        simp (disch := omega) only [lin, nI_add, pk_mul, s_sub, s_addneg, s_leT, s_leF, s_ltT, s_ltF, s_eqF, s_inT, s_neF, s_neF', s_neE, s_nleT, s_nleF, s_nltF, s_nltT, eq_self, nI_clamp, s_wIk, s_wIo, pk_us, pk_un, Nat.reduceAdd, Nat.reduceMul, Nat.reduceSub, Nat.zero_add, Nat.add_zero, Nat.mul_zero, true_implies, false_implies, implies_true, not_true, not_false, and_true, true_and, not_true_eq_false, not_false_eq_true, forall_const]
        exact k
      · intro q m hq k hn
        apply b_X11_hours_14
        rw [k.2, hr.1, hr.2.1]
        refine ⟨fun z => absurd z (nI_ge (a := q) (b := 24) hq (by omega)), fun _ => ⟨ht.at, hs.s.at, ht.at, hs.s.at, icall (tideC_ok ht hs.s hb.law0 hb.mon (nI q) m k) fun m k => ?_⟩⟩
        refine icall (reachB_ok ht (AtState_1 hs.s.at) hb.townM hb.townC hb.hgt m k (fun h hh => by rw [k.s hs.s 1 (by omega)]; exact hb.hh h hh)) ?_
        rintro m1 rfl
        have hn2 := hn m1 k
        rw [fb_ct_succ] at hn2
        have e := shr_bit (n := rchH mm.1 (nI q)) (k := h) (Nat.lt_trans (rch_lt _ _ _ _ hb.townM) (by omega)) (by omega)
        unfold rchH at e hn2
        rw [e]
        simp (disch := omega) only [lin, nI_add, pk_mul, s_sub, s_addneg, s_leT, s_leF, s_ltT, s_ltF, s_eqF, s_inT, s_neF, s_neF', s_neE, s_nleT, s_nleF, s_nltF, s_nltT, eq_self, nI_clamp, s_wIk, s_wIo, pk_us, pk_un, Nat.reduceAdd, Nat.reduceMul, Nat.reduceSub, Nat.zero_add, Nat.add_zero, Nat.mul_zero, true_implies, false_implies, implies_true, not_true, not_false, and_true, true_and, not_true_eq_false, not_false_eq_true, forall_const]
        exact hn2
    · apply b_X12_hours
      simp only [true_implies, false_implies, not_true, not_false_eq_true, not_false, implies_true, and_true, true_and, not_true_eq_false, forall_const, eq_self, isH_M ((k.g 162 0 rfl).trans n1) z1, hin]
      refine for_up (fun q => [(0, .ref 156), (1, .int (nI h)), (2, .int (nI (fb_ct (fun q => (rchH mm.1 (nI q)).testBit h) q))), (3, .int (nI q))]) (fun q m => Kq mm m) 24 ?_ ?_ 0 _ (Nat.zero_le _) k
      · intro m k
        apply b_X12_hours_14
        simp (disch := omega) only [lin, nI_add, pk_mul, s_sub, s_addneg, s_leT, s_leF, s_ltT, s_ltF, s_eqF, s_inT, s_neF, s_neF', s_neE, s_nleT, s_nleF, s_nltF, s_nltT, eq_self, nI_clamp, s_wIk, s_wIo, pk_us, pk_un, Nat.reduceAdd, Nat.reduceMul, Nat.reduceSub, Nat.zero_add, Nat.add_zero, Nat.mul_zero, true_implies, false_implies, implies_true, not_true, not_false, and_true, true_and, not_true_eq_false, not_false_eq_true, forall_const]
        exact k
      · intro q m hq k hn
        apply b_X12_hours_14
        refine ⟨fun z => absurd z (nI_ge (a := q) (b := 24) hq (by omega)), fun _ => ?_⟩
        refine icall (reach_ok (ns := -nI 1) (nh := -nI 1) hb.law0.m rfl hb.townM hb.hgt m k) ?_
        rintro m1 ⟨k1, -⟩
        have hn2 := hn m1 k1
        rw [fb_ct_succ] at hn2
        have e := shr_bit (n := rchH mm.1 (nI q)) (k := h) (Nat.lt_trans (rch_lt _ _ _ _ hb.townM) (by omega)) (by omega)
        unfold rchH at e hn2
        rw [e]
        simp (disch := omega) only [lin, nI_add, pk_mul, s_sub, s_addneg, s_leT, s_leF, s_ltT, s_ltF, s_eqF, s_inT, s_neF, s_neF', s_neE, s_nleT, s_nleF, s_nltF, s_nltT, eq_self, nI_clamp, s_wIk, s_wIo, pk_us, pk_un, Nat.reduceAdd, Nat.reduceMul, Nat.reduceSub, Nat.zero_add, Nat.add_zero, Nat.mul_zero, true_implies, false_implies, implies_true, not_true, not_false, and_true, true_and, not_true_eq_false, not_false_eq_true, forall_const]
        exact hn2
  · refine ⟨.int (-1), ?_, fun m k => ?_⟩
    · apply b_X11_hours
      simp only [true_implies, false_implies, not_true, not_false_eq_true, not_false, implies_true, and_true, true_and, not_true_eq_false, forall_const, eq_self, o1, o2, hin]
      exact rf
    · apply b_X12_hours
      simp only [true_implies, false_implies, not_true, not_false_eq_true, not_false, implies_true, and_true, true_and, not_true_eq_false, forall_const, eq_self, isH_M ((k.g 162 0 rfl).trans n1) z1, hin]
      exact k
theorem st_meets (a : Int32) : StepOK RR e_X11_meets e_X12_meets [.int a] := by
  apply step_q
  rintro mm ⟨t, s, H, O, S, Qn, W, C, J, F, B, ht, hs, hr, hb, -⟩
  obtain ⟨z1, z2, z3, z4, z5, z6, z7, z8, z9⟩ := hb.sz
  obtain ⟨n1, n2, n3, n4, n5, n6, n7, n8, n9⟩ := hb.nm
  obtain ⟨c1, c2, c3, c4, c5, c6, c7, c8, c9, c10⟩ := hb.nc
  have rf := Kp.rf (kp := kq) mm
  obtain ⟨o1, o2⟩ := isSt_X (a := a) ht hr c3 z3
  by_cases hin : inR a S
  · obtain ⟨h, hh, rfl⟩ := hin
    have hin : inR (nI h) S := ⟨h, hh, rfl⟩
    obtain ⟨H', S', Qn', y1, y2, y3, y4, y5, y6, y7, y8⟩ := hb.townM
    have eS : S' = S := (nI_eq (by omega) (by omega)).mp (y5.symm.trans n3)
    subst eS
    obtain ⟨p1, p2⟩ := meetC ht rf y2 n3 hh (y7 h hh) hb.townC hb.hgt (fun k hk => hb.hh k hk) (hc := s + 1)
    refine ⟨.int (bI (meetV (mm.1 162) (fun h => mm.1 163 (10 + h)) h)), ?_, fun m k => ?_⟩
    · refine runs_to (rv_X11_meets mm (nI h) ?_) ?_
      · unfold o_X11_meets
        rw [hr.1, hr.2.1]
        exact ⟨o1, fun _ => ⟨ht.at, hs.s.at, p1, fun _ => trivial, fun _ => trivial⟩, fun _ => trivial⟩
      · rintro r m' ⟨rfl, rfl⟩
        refine ⟨?_, rf⟩
        unfold v_X11_meets
        rw [hr.1, hr.2.1, cite_pos (o2.mpr hin)]
        cases hv : meetV (mm.1 162) (fun h => mm.1 163 (10 + h)) h with
        | true => rw [cite_pos (p2.mpr hv)]; rfl
        | false => rw [cite_neg (fun z => by rw [p2.mp z] at hv; cases hv)]; rfl
    · obtain ⟨q1, q2⟩ := meetM k (show h < 12 by omega) (y7 h hh) hb.hgt
      refine runs_to (rv_X12_meets m (nI h) ?_) ?_
      · unfold o_X12_meets
        exact ⟨fun _ => trivial, fun _ => ⟨fun _ => ⟨q1, fun _ => trivial, fun _ => trivial⟩, fun _ => trivial⟩⟩
      · rintro r m' ⟨rfl, rfl⟩
        refine ⟨?_, k⟩
        unfold v_X12_meets
        rw [cite_neg (nI_pos (by omega)), k.r162, n3, cite_pos (nI_lt hh (by omega))]
        cases hv : meetV (mm.1 162) (fun h => mm.1 163 (10 + h)) h with
        | true => rw [cite_pos (q2.mpr hv)]; rfl
        | false => rw [cite_neg (fun z => by rw [q2.mp z] at hv; cases hv)]; rfl
  · refine ⟨.int (-1), ?_, fun m k => ?_⟩
    · refine runs_to (rv_X11_meets mm a ?_) ?_
      · unfold o_X11_meets
        exact ⟨o1, fun z => absurd (o2.mp z) hin, fun _ => trivial⟩
      · rintro r m' ⟨rfl, rfl⟩
        refine ⟨?_, rf⟩
        unfold v_X11_meets
        rw [cite_neg (fun z => hin (o2.mp z))]
    · have hno : ∀ (A : Prop), ¬ a < 0 → a < nI S → A := fun A h1 h2 => absurd ((inR_iff (by omega)).mp ⟨h1, Int32.not_le.mpr h2⟩) hin
      refine runs_to (rv_X12_meets m a ?_) ?_
      · unfold o_X12_meets
        rw [k.r162, n3]
        exact ⟨fun _ => trivial, fun h1 => ⟨fun h2 => hno _ h1 h2, fun _ => trivial⟩⟩
      · rintro r m' ⟨rfl, rfl⟩
        refine ⟨?_, k⟩
        unfold v_X12_meets
        rw [k.r162, n3]
        by_cases h1 : a < 0
        · rw [cite_pos h1]
        · rw [cite_neg h1, cite_neg (fun h2 => hno _ h1 h2)]

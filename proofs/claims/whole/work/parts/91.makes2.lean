/-! makes -/
def WkM (m : MM) (W : Nat) (q : (Nat → Nat) × (Nat → Nat) × Nat) : Prop := (∀ h, h < 16 → m.1 163 (10 + h) = nI (q.1 h) ∧ q.1 h ≤ 99) ∧ (∀ w, w < W → m.1 163 (50 + w) = nI (q.2.1 w) ∧ q.2.1 w ≤ 99) ∧ m.1 156 41 = nI q.2.2
def FrL (m m' : MM) : Prop := m'.2 = m.2 ∧ (∀ x, x ≠ 163 → x ≠ 156 → x ≠ 181 → x ≠ 182 → m'.1 x = m.1 x) ∧ (∀ j, j ≠ 41 → m'.1 156 j = m.1 156 j) ∧ ∀ j, (j < 10 ∨ 26 ≤ j ∧ j < 50 ∨ 58 ≤ j) → m'.1 163 j = m.1 163 j
theorem FrL.rf (m : MM) : FrL m m := ⟨rfl, fun _ _ _ _ _ => rfl, fun _ _ => rfl, fun _ _ => rfl⟩
theorem FrM.l {m m' : MM} (h : FrM m m') : FrL m m' := ⟨h.1, fun x _ _ h1 h2 => h.2 x h1 h2, fun j _ => by rw [h.2 156 (by decide) (by decide)], fun j _ => by rw [h.2 163 (by decide) (by decide)]⟩
theorem makes_ok {m : MM} {W J C h e i ma : Nat} {ln : Nat → Nat} {q : (Nat → Nat) × (Nat → Nat) × Nat} {up : Bool} (h8 : W ≤ 8) (hh : h < 16) (he1 : 1 ≤ e) (he : e ≤ 99) (hJ : J ≤ 99) (hC : C ≤ 9) (hma : ma ≤ C) (hi : i < 40) (e5 : m.1 162 5 = nI W) (e6 : m.1 162 6 = nI C) (e7 : m.1 162 7 = nI J) (eh : m.1 163 (60 + 3 * i + 1) = nI h) (ed : m.1 163 (60 + 3 * i + 2) = bif up then nI e else -nI e) (hw : ∀ w, w < W → 1 ≤ ln w ∧ ln w ≤ 60 ∧ m.1 162 (170 + 2 * w) = nI (ln w)) (hq : WkM m W q) :
    Runs e_X12_makes [.ref 156, .int (nI i), .int (nI ma)] m (fun r m' => r = .int (nI (if ma = C then 1 else (wrk W J ln q.1 q.2.1 q.2.2 h e up).1)) ∧ (FrL m m' ∧ (¬ ma = C → (wrk W J ln q.1 q.2.1 q.2.2 h e up).1 = 0 → WkM m' W (wrk W J ln q.1 q.2.1 q.2.2 h e up).2))) := by
  obtain ⟨hv, pv, tk⟩ := q
  obtain ⟨q1, q2, q3⟩ := hq
  obtain ⟨v1, v2⟩ := q1 h hh
  have v1 : m.1 163 (10 + h) = nI (hv h) := v1
  have v2 : hv h ≤ 99 := v2
  have q3 : m.1 156 41 = nI tk := q3
  have q2 : ∀ w, w < W → m.1 163 (50 + w) = nI (pv w) ∧ pv w ≤ 99 := q2
  have q1 : ∀ h, h < 16 → m.1 163 (10 + h) = nI (hv h) ∧ hv h ≤ 99 := q1
  have i1 : ((60 : Int32) + 3 * nI i + 1).toNatClampNeg = 60 + 3 * i + 1 := by simp (disch := omega) only [lin, nI_add, pk_mul, s_sub, s_addneg, s_leT, s_leF, s_ltT, s_ltF, s_eqF, s_inT, s_neF, s_neF', s_neE, s_nleT, s_nleF, s_nltF, s_nltT, eq_self, nI_clamp, s_wIk, s_wIo, pk_us, pk_un, Nat.reduceAdd, Nat.reduceMul, Nat.reduceSub, Nat.zero_add, Nat.add_zero, Nat.mul_zero, true_implies, false_implies, implies_true, not_true, not_false, and_true, true_and, not_true_eq_false, not_false_eq_true, forall_const]
  have i2 : ((60 : Int32) + 3 * nI i + 2).toNatClampNeg = 60 + 3 * i + 2 := by simp (disch := omega) only [lin, nI_add, pk_mul, s_sub, s_addneg, s_leT, s_leF, s_ltT, s_ltF, s_eqF, s_inT, s_neF, s_neF', s_neE, s_nleT, s_nleF, s_nltF, s_nltT, eq_self, nI_clamp, s_wIk, s_wIo, pk_us, pk_un, Nat.reduceAdd, Nat.reduceMul, Nat.reduceSub, Nat.zero_add, Nat.add_zero, Nat.mul_zero, true_implies, false_implies, implies_true, not_true, not_false, and_true, true_and, not_true_eq_false, not_false_eq_true, forall_const]
  have w1 : vp_in ((60 : Int32) + 3 * nI i + 1) 1260 := by simp (disch := omega) only [lin, nI_add, pk_mul, s_sub, s_addneg, s_leT, s_leF, s_ltT, s_ltF, s_eqF, s_inT, s_neF, s_neF', s_neE, s_nleT, s_nleF, s_nltF, s_nltT, eq_self, nI_clamp, s_wIk, s_wIo, pk_us, pk_un, Nat.reduceAdd, Nat.reduceMul, Nat.reduceSub, Nat.zero_add, Nat.add_zero, Nat.mul_zero, true_implies, false_implies, implies_true, not_true, not_false, and_true, true_and, not_true_eq_false, not_false_eq_true, forall_const]
  have w2 : vp_in ((60 : Int32) + 3 * nI i + 2) 1260 := by simp (disch := omega) only [lin, nI_add, pk_mul, s_sub, s_addneg, s_leT, s_leF, s_ltT, s_ltF, s_eqF, s_inT, s_neF, s_neF', s_neE, s_nleT, s_nleF, s_nltF, s_nltT, eq_self, nI_clamp, s_wIk, s_wIo, pk_us, pk_un, Nat.reduceAdd, Nat.reduceMul, Nat.reduceSub, Nat.zero_add, Nat.add_zero, Nat.mul_zero, true_implies, false_implies, implies_true, not_true, not_false, and_true, true_and, not_true_eq_false, not_false_eq_true, forall_const]
  apply b_X12_makes
  rw [i1, i2, eh, ed, e6, e7, h_v (Kp.rf m) hh, v1]
  refine ⟨w1, w2, ?_⟩
  by_cases cC : ma = C
  · simp only [if_pos cC]
    exact ⟨fun z => absurd (congrArg nI cC) z, fun _ => ⟨rfl, FrL.rf m, fun z => absurd cC z⟩⟩
  simp only [if_neg cC]
  refine ⟨fun _ => ?_, fun z => absurd ((nI_eq (by omega) (by omega)).mp z) cC⟩
  unfold wrk
  cases up with
  | true =>
    simp only [cond_true]
    rw [nI_add]
    refine ⟨fun _ => ?_, fun z => absurd (show nI 0 ≤ nI e from nI_le (by omega) (by omega)) z⟩
    by_cases cJ : J < e
    · simp only [if_pos cJ]
      exact ⟨fun z => absurd z (nI_ge cJ (by omega)), fun _ => ⟨rfl, FrL.rf m, fun _ z => absurd (show (2 : Nat) = 0 from z) (by decide)⟩⟩
    · simp only [if_neg cJ]
      refine ⟨fun _ => ⟨h_o hh, ?_⟩, fun z => absurd (nI_le (by omega) (by omega)) z⟩
      have hin : p_X12_isIn m (nI (hv h + e)) 0 99 ↔ ¬ 99 < hv h + e := within_up (m := m) (by omega)
      by_cases c3 : 99 < hv h + e
      · simp only [if_pos c3]
        exact ⟨fun z => absurd c3 (hin.mp z), fun _ => ⟨rfl, FrL.rf m, fun _ z => absurd (show (3 : Nat) = 0 from z) (by decide)⟩⟩
      · simp only [if_neg c3]
        refine ⟨fun _ => ⟨fun z => absurd (show nI e ≤ nI 0 from z) (nI_ge (by omega) (by omega)), fun _ => ?_⟩, fun z => absurd (hin.mpr c3) z⟩
        have cM := jacks_ok (mm := m) (n := e) (ln := ln) (pc := pv) h8 he e5 fun w hw' => by
          obtain ⟨l1, l2, l3⟩ := hw w hw'
          exact ⟨⟨l1, l2, l3⟩, (q2 w hw').2, (q2 w hw').1⟩
        refine icall cM ?_
        rintro m1 ⟨k1, k2⟩
        by_cases c : fw 1000 W ln pv W e < 1000
        · simp only [if_pos c]
          refine ⟨fun _ => ?_, fun z => absurd (show nI _ < nI 1000000 from nI_lt (by omega) (by omega)) z⟩
          rw [k1.2 156 (by decide) (by decide), q3, nI_add]
          have eU := k2 c
          refine makes123_ok (W := W) (x := hv h) (u := fun w => usw W ln pv w (lf W ln pv e w)) (pv := pv) h8 hh (by omega) (by rw [wI_o (by decide), k1.2 163 (by decide) (by decide)]; exact v1) (fun w hw' => ⟨us_le, (q2 w hw').2, by rw [wI_o (by decide)]; exact eU w hw', by rw [wI_o (by decide), k1.2 163 (by decide) (by decide)]; exact (q2 w hw').1⟩) ?_
          intro m' g1 g2 g3 g4 g5
          refine ⟨rfl, ⟨g1.trans k1.1, fun x h1 h2 h3 h4 => by rw [g2 x h1, wI_o h2, k1.2 x h3 h4], fun j hj => by rw [g2 156 (by decide), wI_k, pk_un hj, k1.2 156 (by decide) (by decide)], fun j hj => by rw [g3 j (by omega) (by omega), wI_o (by decide), k1.2 163 (by decide) (by decide)]⟩, fun _ _ => ⟨fun x hx => ?_, fun w hw' => ⟨g5 w hw', ?_⟩, by rw [g2 156 (by decide), wI_k, pk_us]⟩⟩
          · by_cases cc : x = h
            · subst cc
              rw [g4]
              refine ⟨?_, ?_⟩
              · show _ = nI (if x = x then hv x + e else hv x)
                rw [if_pos rfl]
              · show (if x = x then hv x + e else hv x) ≤ 99
                rw [if_pos rfl]; omega
            · rw [g3 _ (by omega) (by omega), wI_o (by decide), k1.2 163 (by decide) (by decide)]
              show _ = nI (if x = h then hv h + e else hv x) ∧ (if x = h then hv h + e else hv x) ≤ 99
              rw [if_neg cc]
              exact q1 x hx
          · have := (q2 w hw').2
            show pv w - usw W ln pv w (lf W ln pv e w) ≤ 99
            omega
        · simp only [if_neg c]
          exact ⟨fun z => absurd z (by decide), fun _ => ⟨rfl, k1.l, fun _ z => absurd (show (4 : Nat) = 0 from z) (by decide)⟩⟩
  | false =>
    simp only [cond_false]
    have n0 : ¬ (0 : Int32) ≤ -nI e := by
      have := s_nleF (a := 0) (b := e) (by omega) (by omega) (by omega)
      rw [show (0 : Int32) = nI 0 from rfl, this]; exact fun z => z
    rw [Int32.neg_neg]
    refine ⟨fun z => absurd z n0, fun _ => ?_⟩
    by_cases cJ : J < e
    · simp only [if_pos cJ]
      exact ⟨fun z => absurd z (nI_ge cJ (by omega)), fun _ => ⟨rfl, FrL.rf m, fun _ z => absurd (show (2 : Nat) = 0 from z) (by decide)⟩⟩
    · simp only [if_neg cJ]
      refine ⟨fun _ => ⟨h_o hh, ?_⟩, fun z => absurd (nI_le (by omega) (by omega)) z⟩
      have hin : p_X12_isIn m (nI (hv h) + -nI e) 0 99 ↔ ¬ hv h < e := within_dn (m := m) v2 he
      by_cases c3 : hv h < e
      · simp only [if_pos c3]
        exact ⟨fun z => absurd c3 (hin.mp z), fun _ => ⟨rfl, FrL.rf m, fun _ z => absurd (show (3 : Nat) = 0 from z) (by decide)⟩⟩
      · simp only [if_neg c3]
        have nle : -nI e ≤ (0 : Int32) := by
          have := s_nleT (a := 0) (b := e) (by omega) (by omega)
          rw [show (0 : Int32) = nI 0 from rfl, this]; trivial
        refine ⟨fun _ => ⟨fun _ => ?_, fun z => absurd nle z⟩, fun z => absurd (hin.mpr c3) z⟩
        refine makes162_ok (W := W) (x := hv h) (ln := ln) (pv := pv) h8 hh v2 (by omega) v1 e5 (fun w hw' => ?_) ?_
        · obtain ⟨l1, l2, l3⟩ := hw w hw'
          exact ⟨l2, l3, (q2 w hw').2, (q2 w hw').1⟩
        · intro m' g1 g2 g3 g4 g5
          refine ⟨rfl, ⟨g1, fun x h1 h2 h3 h4 => g2 x h1, fun j hj => by rw [g2 156 (by decide)], fun j hj => g3 j (by omega) (by omega)⟩, fun _ _ => ⟨fun x hx => ?_, fun w hw' => ⟨g5 w hw', ?_⟩, by rw [g2 156 (by decide)]; exact q3⟩⟩
          · by_cases cc : x = h
            · subst cc
              rw [g4]
              refine ⟨?_, ?_⟩
              · show _ = nI (if x = x then hv x - e else hv x)
                rw [if_pos rfl]
              · show (if x = x then hv x - e else hv x) ≤ 99
                rw [if_pos rfl]; omega
            · rw [g3 _ (by omega) (by omega)]
              show _ = nI (if x = h then hv h - e else hv x) ∧ (if x = h then hv h - e else hv x) ≤ 99
              rw [if_neg cc]
              exact q1 x hx
          · have := (q2 w hw').2
            show kpP W ln pv e w ≤ 99
            unfold kpP
            split <;> omega

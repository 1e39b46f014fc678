/-! the model's search -/
theorem tb_ne {n j : Nat} (hj : j < 31) : (n.testBit j = true) → ¬ nI (n &&& 2 ^ j) = nI 0 := by
  intro h e
  have e2 : nI n &&& nI (2 ^ j) = 0 := by rw [fa_and]; exact e
  rw [(fa_bit hj).mp e2] at h
  cases h
theorem tb_eq {n j : Nat} (hj : j < 31) : (n.testBit j = false) → nI (n &&& 2 ^ j) = nI 0 := by
  intro h
  have e2 := (fa_bit (n := n) hj).mpr h
  rw [fa_and] at e2
  exact e2
theorem pass_S (act : Nat → Bool) (f : Nat → Nat → Nat) (k R : Nat) : pass act f (k + 1) R = bif act k then f k (pass act f k R) else pass act f k R := rfl
theorem reach_ok {mm : MM} {tide ns nh hr : Int32} (hL : LawM mm.1 0) (ht : tideV mm.1 hr = tide) (hT : TownM (mm.1 162)) (hH : HgtM (fun h => mm.1 163 (10 + h))) (m : MM) (hm : Kq mm m) :
    Runs e_X12_reachedAt [.ref 156, .int hr, .int ns, .int nh] m (fun r m' => r = .int (nI (rchV (mm.1 162) (fun h => mm.1 163 (10 + h)) tide ns nh)) ∧ Kq mm m' ∧ LeastR (mm.1 162) (fun h => mm.1 163 (10 + h)) tide ns nh (rchV (mm.1 162) (fun h => mm.1 163 (10 + h)) tide ns nh)) := by
  obtain ⟨H, S, Qn, h16, s12, q4, eH, eS, eQ, hS, hQ⟩ := hT
  apply b_X12_reachedAt
  refine icall (tide_ok hr hL m hm) ?_
  intro m1 q1
  rw [ht]
  refine for_up (fun k => [(0, .ref 156), (2, .int ns), (3, .int nh), (4, .int tide), (5, .int (nI (bs (fun h => decide (¬ mm.1 163 (10 + h) < tide) && decide (¬ nI h = nh)) k))), (6, .int (nI k))]) (fun k m => Kq mm m) H ?_ ?_ 0 _ (Nat.zero_le _) q1
  · intro m k1
    have eD : bs (fun h => decide (¬ mm.1 163 (10 + h) < tide) && decide (¬ nI h = nh)) H = dryV (mm.1 162) (fun h => mm.1 163 (10 + h)) tide nh := by
      unfold dryV
      rw [eH, nI_clamp (by omega)]
    have hD : dryV (mm.1 162) (fun h => mm.1 163 (10 + h)) tide nh < 2 ^ 16 := by
      rw [← eD]
      exact Nat.lt_of_lt_of_le (bs_lt _ _) (Nat.pow_le_pow_right (by decide) h16)
    rw [eD]
    generalize hDD : dryV (mm.1 162) (fun h => mm.1 163 (10 + h)) tide nh = D at hD
    apply b_X12_reachedAt_13
    simp (disch := omega) only [lin, nI_add, pk_mul, s_sub, s_addneg, s_leT, s_leF, s_ltT, s_ltF, s_eqF, s_inT, s_neF, s_neF', s_neE, s_nleT, s_nleF, s_nltF, s_nltT, eq_self, nI_clamp, s_wIk, s_wIo, pk_us, pk_un, Nat.reduceAdd, Nat.reduceMul, Nat.reduceSub, Nat.zero_add, Nat.add_zero, Nat.mul_zero, true_implies, false_implies, implies_true, not_true, not_false, and_true, true_and, not_true_eq_false, not_false_eq_true, forall_const, k1.r162, eH]
    refine G_eq (L := [(0, .ref 156), (2, .int ns), (4, .int tide), (5, .int (nI D)), (6, .int (nI (qs (mm.1 162) 0 &&& D))), (7, .int (nI 0))]) (by rw [show qs (mm.1 162) 0 = 0 from rfl, Nat.zero_and]) ?_
    refine for_up (fun k => [(0, .ref 156), (2, .int ns), (4, .int tide), (5, .int (nI D)), (6, .int (nI (qs (mm.1 162) k &&& D))), (7, .int (nI k))]) (fun k m => Kq mm m) Qn ?_ ?_ 0 _ (Nat.zero_le _) k1
    · intro m k1
      have eA : qs (mm.1 162) Qn = quayN (mm.1 162) := by unfold quayN; rw [eQ, nI_clamp (by omega)]
      rw [eA]
      apply b_X12_reachedAt_62
      simp (disch := omega) only [lin, nI_add, pk_mul, s_sub, s_addneg, s_leT, s_leF, s_ltT, s_ltF, s_eqF, s_inT, s_neF, s_neF', s_neE, s_nleT, s_nleF, s_nltF, s_nltT, eq_self, nI_clamp, s_wIk, s_wIo, pk_us, pk_un, Nat.reduceAdd, Nat.reduceMul, Nat.reduceSub, Nat.zero_add, Nat.add_zero, Nat.mul_zero, true_implies, false_implies, implies_true, not_true, not_false, and_true, true_and, not_true_eq_false, not_false_eq_true, forall_const, k1.r162, eQ]
      have hG : ∀ s, s < (mm.1 162 3).toNatClampNeg → actV (mm.1 162) (fun h => mm.1 163 (10 + h)) ns s = true → StepG D (condS (mm.1 162) (decide (tide = 0)) D s) (fM (mm.1 162) (decide (tide = 0)) D s) := fun s _ _ => fM_G _ _ _ _
      have hfin : ∀ (R : Nat) (m : MM), Kq mm m → LeastR (mm.1 162) (fun h => mm.1 163 (10 + h)) tide ns nh R → Value.int (nI R) = Value.int (nI (rchV (mm.1 162) (fun h => mm.1 163 (10 + h)) tide ns nh)) ∧ Kq mm m ∧ LeastR (mm.1 162) (fun h => mm.1 163 (10 + h)) tide ns nh (rchV (mm.1 162) (fun h => mm.1 163 (10 + h)) tide ns nh) := by
        intro R m hm hR
        rw [rchV_of hR]
        exact ⟨rfl, hm, hR⟩
      have inner : ∀ (R : Nat) (m : MM), Kq mm m → sub R D → (∀ m', Kq mm m' → G e_X12_reachedAt 103 [(0, .ref 156), (2, .int ns), (4, .int tide), (5, .int (nI D)), (6, .int (nI (pass (actV (mm.1 162) (fun h => mm.1 163 (10 + h)) ns) (fM (mm.1 162) (decide (tide = 0)) D) S R))), (7, .int (if pass (actV (mm.1 162) (fun h => mm.1 163 (10 + h)) ns) (fM (mm.1 162) (decide (tide = 0)) D) S R = R then 0 else 1))] [] m' (fun r m' => r = .int (nI (rchV (mm.1 162) (fun h => mm.1 163 (10 + h)) tide ns nh)) ∧ Kq mm m' ∧ LeastR (mm.1 162) (fun h => mm.1 163 (10 + h)) tide ns nh (rchV (mm.1 162) (fun h => mm.1 163 (10 + h)) tide ns nh))) →
          G e_X12_reachedAt 115 [(0, .ref 156), (2, .int ns), (4, .int tide), (5, .int (nI D)), (6, .int (nI R)), (8, .int (nI R)), (9, .int (0 : Int32))] [] m (fun r m' => r = .int (nI (rchV (mm.1 162) (fun h => mm.1 163 (10 + h)) tide ns nh)) ∧ Kq mm m' ∧ LeastR (mm.1 162) (fun h => mm.1 163 (10 + h)) tide ns nh (rchV (mm.1 162) (fun h => mm.1 163 (10 + h)) tide ns nh)) := by
        intro R m hm hR hout
        have hR16 : R < 2 ^ 16 := sub_lt hR hD
        refine for_up (fun k => [(0, .ref 156), (2, .int ns), (4, .int tide), (5, .int (nI D)), (6, .int (nI (pass (actV (mm.1 162) (fun h => mm.1 163 (10 + h)) ns) (fM (mm.1 162) (decide (tide = 0)) D) k R))), (8, .int (nI R)), (9, .int (nI k))]) (fun k m => Kq mm m) S ?_ ?_ 0 _ (Nat.zero_le _) hm
        · intro m k1
          have hP := (pass_ok (fun s (_ : s < S) (_ : actV (mm.1 162) (fun h => mm.1 163 (10 + h)) ns s = true) => fM_G (mm.1 162) (decide (tide = 0)) D s) hR S (Nat.le_refl _)).2.1
          have ho := hout m k1
          apply b_X12_reachedAt_115
          generalize pass (actV (mm.1 162) (fun h => mm.1 163 (10 + h)) ns) (fM (mm.1 162) (decide (tide = 0)) D) S R = P at hP ho
          have hP16 : P < 2 ^ 16 := sub_lt hP hD
          by_cases e : P = R
          · rw [if_pos e] at ho
            subst e
            simp (disch := omega) only [lin, nI_add, pk_mul, s_sub, s_addneg, s_leT, s_leF, s_ltT, s_ltF, s_eqF, s_inT, s_neF, s_neF', s_neE, s_nleT, s_nleF, s_nltF, s_nltT, eq_self, nI_clamp, s_wIk, s_wIo, pk_us, pk_un, Nat.reduceAdd, Nat.reduceMul, Nat.reduceSub, Nat.zero_add, Nat.add_zero, Nat.mul_zero, true_implies, false_implies, implies_true, not_true, not_false, and_true, true_and, not_true_eq_false, not_false_eq_true, forall_const, k1.r162, eS]
            exact ho
          · rw [if_neg e] at ho
            simp (disch := omega) only [lin, nI_add, pk_mul, s_sub, s_addneg, s_leT, s_leF, s_ltT, s_ltF, s_eqF, s_inT, s_neF, s_neF', s_neE, s_nleT, s_nleF, s_nltF, s_nltT, eq_self, nI_clamp, s_wIk, s_wIo, pk_us, pk_un, Nat.reduceAdd, Nat.reduceMul, Nat.reduceSub, Nat.zero_add, Nat.add_zero, Nat.mul_zero, true_implies, false_implies, implies_true, not_true, not_false, and_true, true_and, not_true_eq_false, not_false_eq_true, forall_const, k1.r162, eS]
            exact ho
        · intro k m hk k1 hn
          have hP := (pass_ok (fun s (_ : s < S) (_ : actV (mm.1 162) (fun h => mm.1 163 (10 + h)) ns s = true) => fM_G (mm.1 162) (decide (tide = 0)) D s) hR k (Nat.le_of_lt hk)).2.1
          have hn2 := hn m k1
          simp only [pass_S] at hn2
          generalize pass (actV (mm.1 162) (fun h => mm.1 163 (10 + h)) ns) (fM (mm.1 162) (decide (tide = 0)) D) k R = P at hP hn2
          have hP16 : P < 2 ^ 16 := sub_lt hP hD
          apply b_X12_reachedAt_115
          by_cases c1 : nI k = ns
          · have ea : actV (mm.1 162) (fun h => mm.1 163 (10 + h)) ns k = false := by unfold actV; simp [c1]
            simp only [ea, cond_false] at hn2
            simp (disch := omega) only [lin, nI_add, pk_mul, s_sub, s_addneg, s_leT, s_leF, s_ltT, s_ltF, s_eqF, s_inT, s_neF, s_neF', s_neE, s_nleT, s_nleF, s_nltF, s_nltT, eq_self, nI_clamp, s_wIk, s_wIo, pk_us, pk_un, Nat.reduceAdd, Nat.reduceMul, Nat.reduceSub, Nat.zero_add, Nat.add_zero, Nat.mul_zero, true_implies, false_implies, implies_true, not_true, not_false, and_true, true_and, not_true_eq_false, not_false_eq_true, forall_const, k1.r162, eS, eq_true c1]
            exact hn2
          · obtain ⟨o1, o2⟩ := meetM k1 (show k < 12 by omega) (hS k hk) hH
            by_cases c2 : meetV (mm.1 162) (fun h => mm.1 163 (10 + h)) k = true
            · have ea : actV (mm.1 162) (fun h => mm.1 163 (10 + h)) ns k = true := by unfold actV; simp [c1, c2]
              simp only [ea, cond_true] at hn2
              have c2 := o2.mpr c2
              obtain ⟨a, r, ha, hr, e1, e2, e3⟩ := hS k hk
              have hA : stA (mm.1 162) k = a := by unfold stA; rw [e1, nI_clamp (by omega)]
              unfold fM at hn2
              rw [hA] at hn2
              rcases e3 with e3 | ⟨b, hb, hba, e3⟩
              · rw [e3, if_pos (show (-nI 1 : Int32) < 0 by decide)] at hn2
                by_cases c3 : tide = 0
                · have c3' : tide = nI 0 := c3
                  rw [decide_eq_true c3, cond_true] at hn2
                  simp (disch := omega) only [lin, nI_add, pk_mul, s_sub, s_addneg, s_leT, s_leF, s_ltT, s_ltF, s_eqF, s_inT, s_neF, s_neF', s_neE, s_nleT, s_nleF, s_nltF, s_nltT, eq_self, nI_clamp, s_wIk, s_wIo, pk_us, pk_un, Nat.reduceAdd, Nat.reduceMul, Nat.reduceSub, Nat.zero_add, Nat.add_zero, Nat.mul_zero, true_implies, false_implies, implies_true, not_true, not_false, and_true, true_and, not_true_eq_false, not_false_eq_true, forall_const, k1.r162, eS, c1, o1, c2, e1, e3, eq_true c3', ib', ib2, fa_and, fa_or]
                  exact hn2
                · have c3' : ¬ tide = nI 0 := c3
                  rw [decide_eq_false c3, cond_false] at hn2
                  simp (disch := omega) only [lin, nI_add, pk_mul, s_sub, s_addneg, s_leT, s_leF, s_ltT, s_ltF, s_eqF, s_inT, s_neF, s_neF', s_neE, s_nleT, s_nleF, s_nltF, s_nltT, eq_self, nI_clamp, s_wIk, s_wIo, pk_us, pk_un, Nat.reduceAdd, Nat.reduceMul, Nat.reduceSub, Nat.zero_add, Nat.add_zero, Nat.mul_zero, true_implies, false_implies, implies_true, not_true, not_false, and_true, true_and, not_true_eq_false, not_false_eq_true, forall_const, k1.r162, eS, c1, o1, c2, e1, e3, c3', ib', ib2, fa_and, fa_or]
                  exact hn2
              · have hB : stB (mm.1 162) k = b := by unfold stB; rw [e3, nI_clamp (by omega)]
                rw [e3, if_neg (nI_pos (by omega)), hB] at hn2
                cases ta : P.testBit a with
                | false =>
                  have ta' := tb_eq (by omega) ta
                  rw [ta] at hn2
                  simp only [cond_false] at hn2
                  cases tb : P.testBit b with
                  | false =>
                    have tb' := tb_eq (by omega) tb
                    simp only [tb, cond_true, cond_false] at hn2
                    simp (disch := omega) only [lin, nI_add, pk_mul, s_sub, s_addneg, s_leT, s_leF, s_ltT, s_ltF, s_eqF, s_inT, s_neF, s_neF', s_neE, s_nleT, s_nleF, s_nltF, s_nltT, eq_self, nI_clamp, s_wIk, s_wIo, pk_us, pk_un, Nat.reduceAdd, Nat.reduceMul, Nat.reduceSub, Nat.zero_add, Nat.add_zero, Nat.mul_zero, true_implies, false_implies, implies_true, not_true, not_false, and_true, true_and, not_true_eq_false, not_false_eq_true, forall_const, k1.r162, eS, c1, o1, c2, e1, e3, ib', ib2, fa_and, fa_or, ta', tb']
                    exact hn2
                  | true =>
                    have tb' := tb_ne (by omega) tb
                    simp only [tb, cond_true, cond_false] at hn2
                    simp (disch := omega) only [lin, nI_add, pk_mul, s_sub, s_addneg, s_leT, s_leF, s_ltT, s_ltF, s_eqF, s_inT, s_neF, s_neF', s_neE, s_nleT, s_nleF, s_nltF, s_nltT, eq_self, nI_clamp, s_wIk, s_wIo, pk_us, pk_un, Nat.reduceAdd, Nat.reduceMul, Nat.reduceSub, Nat.zero_add, Nat.add_zero, Nat.mul_zero, true_implies, false_implies, implies_true, not_true, not_false, and_true, true_and, not_true_eq_false, not_false_eq_true, forall_const, k1.r162, eS, c1, o1, c2, e1, e3, ib', ib2, fa_and, fa_or, ta', tb']
                    exact hn2
                | true =>
                  have ta' := tb_ne (by omega) ta
                  rw [ta] at hn2
                  simp only [cond_true] at hn2
                  cases tb : (P ||| 2 ^ b &&& D).testBit b with
                  | false =>
                    have tb' := tb_eq (by omega) tb
                    simp only [tb, cond_true, cond_false] at hn2
                    simp (disch := omega) only [lin, nI_add, pk_mul, s_sub, s_addneg, s_leT, s_leF, s_ltT, s_ltF, s_eqF, s_inT, s_neF, s_neF', s_neE, s_nleT, s_nleF, s_nltF, s_nltT, eq_self, nI_clamp, s_wIk, s_wIo, pk_us, pk_un, Nat.reduceAdd, Nat.reduceMul, Nat.reduceSub, Nat.zero_add, Nat.add_zero, Nat.mul_zero, true_implies, false_implies, implies_true, not_true, not_false, and_true, true_and, not_true_eq_false, not_false_eq_true, forall_const, k1.r162, eS, c1, o1, c2, e1, e3, ib', ib2, fa_and, fa_or, ta', tb']
                    exact hn2
                  | true =>
                    have tb' := tb_ne (by omega) tb
                    simp only [tb, cond_true, cond_false] at hn2
                    simp (disch := omega) only [lin, nI_add, pk_mul, s_sub, s_addneg, s_leT, s_leF, s_ltT, s_ltF, s_eqF, s_inT, s_neF, s_neF', s_neE, s_nleT, s_nleF, s_nltF, s_nltT, eq_self, nI_clamp, s_wIk, s_wIo, pk_us, pk_un, Nat.reduceAdd, Nat.reduceMul, Nat.reduceSub, Nat.zero_add, Nat.add_zero, Nat.mul_zero, true_implies, false_implies, implies_true, not_true, not_false, and_true, true_and, not_true_eq_false, not_false_eq_true, forall_const, k1.r162, eS, c1, o1, c2, e1, e3, ib', ib2, fa_and, fa_or, ta', tb']
                    exact hn2
            · have ea : actV (mm.1 162) (fun h => mm.1 163 (10 + h)) ns k = false := by unfold actV; simp [c2]
              simp only [ea, cond_false] at hn2
              have c2' : ¬ p_X12_isMeeting m (nI k) := fun z => c2 (o2.mp z)
              simp (disch := omega) only [lin, nI_add, pk_mul, s_sub, s_addneg, s_leT, s_leF, s_ltT, s_ltF, s_eqF, s_inT, s_neF, s_neF', s_neE, s_nleT, s_nleF, s_nltF, s_nltT, eq_self, nI_clamp, s_wIk, s_wIo, pk_us, pk_un, Nat.reduceAdd, Nat.reduceMul, Nat.reduceSub, Nat.zero_add, Nat.add_zero, Nat.mul_zero, true_implies, false_implies, implies_true, not_true, not_false, and_true, true_and, not_true_eq_false, not_false_eq_true, forall_const, k1.r162, eS, c1, o1, c2']
              exact hn2
      have eSS : (mm.1 162 3).toNatClampNeg = S := by rw [eS, nI_clamp (by omega)]
      refine loop_mu (σ := Nat × Bool) (fun q => [(0, .ref 156), (2, .int ns), (4, .int tide), (5, .int (nI D)), (6, .int (nI q.1)), (7, .int (bI q.2))]) (fun q m => Kq mm m ∧ Open (quayN (mm.1 162) &&& D) D S (actV (mm.1 162) (fun h => mm.1 163 (10 + h)) ns) (condS (mm.1 162) (decide (tide = 0)) D) q.1 ∧ (q.2 = false → LeastR (mm.1 162) (fun h => mm.1 163 (10 + h)) tide ns nh q.1)) (fun q => 2 * (16 - fb_ct q.1.testBit 16) + (bif q.2 then 1 else 0)) ?_ (quayN (mm.1 162) &&& D, true) m ⟨k1, ⟨sub.rf _, sub.and_r _ _, fun R' h _ => h⟩, fun z => Bool.noConfusion z⟩
      rintro ⟨R, b⟩ m ⟨k1, k2, k3⟩ hn
      have k2 : Open (quayN (mm.1 162) &&& D) D S (actV (mm.1 162) (fun h => mm.1 163 (10 + h)) ns) (condS (mm.1 162) (decide (tide = 0)) D) R := k2
      apply b_X12_reachedAt_103
      cases b with
      | false =>
        have k3 := k3 rfl
        refine ⟨fun _ => hfin R m k1 k3, fun z => absurd rfl z⟩
      | true =>
        refine ⟨fun z => absurd (show bI true = 0 from z) (by decide), fun _ => ?_⟩
        refine inner R m k1 k2.2.1 (fun m' k1' => ?_)
        have hG2 : ∀ s, s < S → actV (mm.1 162) (fun h => mm.1 163 (10 + h)) ns s = true → StepG D (condS (mm.1 162) (decide (tide = 0)) D s) (fM (mm.1 162) (decide (tide = 0)) D s) := fun s _ _ => fM_G _ _ _ _
        have kp := k2.go hG2
        have hle : fb_ct R.testBit 16 ≤ 16 := fb_ct_le _ _
        by_cases e : pass (actV (mm.1 162) (fun h => mm.1 163 (10 + h)) ns) (fM (mm.1 162) (decide (tide = 0)) D) S R = R
        · have kd := k2.done hG2 e
          rw [if_pos e, e]
          refine hn (R, false) m' ⟨k1', k2, fun _ => ?_⟩ ?_
          · unfold LeastR
            rw [hDD, eSS]
            exact kd
          · show 2 * (16 - fb_ct R.testBit 16) + 0 < 2 * (16 - fb_ct R.testBit 16) + 1
            omega
        · have km := k2.more hD hG2 e
          rw [if_neg e]
          have hle2 : fb_ct (pass (actV (mm.1 162) (fun h => mm.1 163 (10 + h)) ns) (fM (mm.1 162) (decide (tide = 0)) D) S R).testBit 16 ≤ 16 := fb_ct_le _ _
          refine hn (pass (actV (mm.1 162) (fun h => mm.1 163 (10 + h)) ns) (fM (mm.1 162) (decide (tide = 0)) D) S R, true) m' ⟨k1', kp, fun z => Bool.noConfusion z⟩ ?_
          show 2 * (16 - fb_ct (pass (actV (mm.1 162) (fun h => mm.1 163 (10 + h)) ns) (fM (mm.1 162) (decide (tide = 0)) D) S R).testBit 16) + 1 < 2 * (16 - fb_ct R.testBit 16) + 1
          generalize fb_ct (pass (actV (mm.1 162) (fun h => mm.1 163 (10 + h)) ns) (fM (mm.1 162) (decide (tide = 0)) D) S R).testBit 16 = z1 at km hle2 ⊢
          generalize fb_ct R.testBit 16 = z2 at km hle ⊢
          omega
    · intro k m hk k1 hn
      obtain ⟨a, ha, ea⟩ := hQ k hk
      have hn2 := hn m k1
      have e : qs (mm.1 162) (k + 1) &&& D = (qs (mm.1 162) k &&& D) ||| (2 ^ a &&& D) := by
        show (qs (mm.1 162) k ||| 2 ^ (mm.1 162 (160 + k)).toNatClampNeg) &&& D = _
        rw [ea, nI_clamp (by omega), Nat.and_or_distrib_right]
      simp only [e] at hn2
      apply b_X12_reachedAt_62
      simp (disch := omega) only [lin, nI_add, pk_mul, s_sub, s_addneg, s_leT, s_leF, s_ltT, s_ltF, s_eqF, s_inT, s_neF, s_neF', s_neE, s_nleT, s_nleF, s_nltF, s_nltT, eq_self, nI_clamp, s_wIk, s_wIo, pk_us, pk_un, Nat.reduceAdd, Nat.reduceMul, Nat.reduceSub, Nat.zero_add, Nat.add_zero, Nat.mul_zero, true_implies, false_implies, implies_true, not_true, not_false, and_true, true_and, not_true_eq_false, not_false_eq_true, forall_const, k1.r162, eQ, ea, ib', ib2, fa_and, fa_or]
      exact hn2
  · intro k m hk k1 hn
    have hn2 := hn m k1
    simp only [bs_succ] at hn2
    apply b_X12_reachedAt_13
    rw [h_v k1 (by omega)]
    have ho := h_o (m := m) (show k < 16 by omega)
    by_cases c1 : mm.1 163 (10 + k) < tide
    · simp only [c1, not_true, decide_false, Bool.false_and, cond_false] at hn2
      simp (disch := omega) only [lin, nI_add, pk_mul, s_sub, s_addneg, s_leT, s_leF, s_ltT, s_ltF, s_eqF, s_inT, s_neF, s_neF', s_neE, s_nleT, s_nleF, s_nltF, s_nltT, eq_self, nI_clamp, s_wIk, s_wIo, pk_us, pk_un, Nat.reduceAdd, Nat.reduceMul, Nat.reduceSub, Nat.zero_add, Nat.add_zero, Nat.mul_zero, true_implies, false_implies, implies_true, not_true, not_false, and_true, true_and, not_true_eq_false, not_false_eq_true, forall_const, k1.r162, eH, ho, c1]
      exact hn2
    · by_cases c2 : nI k = nh
      · simp only [c2, not_true, decide_false, Bool.and_false, cond_false] at hn2
        simp (disch := omega) only [lin, nI_add, pk_mul, s_sub, s_addneg, s_leT, s_leF, s_ltT, s_ltF, s_eqF, s_inT, s_neF, s_neF', s_neE, s_nleT, s_nleF, s_nltF, s_nltT, eq_self, nI_clamp, s_wIk, s_wIo, pk_us, pk_un, Nat.reduceAdd, Nat.reduceMul, Nat.reduceSub, Nat.zero_add, Nat.add_zero, Nat.mul_zero, true_implies, false_implies, implies_true, not_true, not_false, and_true, true_and, not_true_eq_false, not_false_eq_true, forall_const, k1.r162, eH, ho, c1, eq_true c2]
        exact hn2
      · simp only [c1, c2, not_false_eq_true, decide_true, Bool.and_self, cond_true] at hn2
        simp (disch := omega) only [lin, nI_add, pk_mul, s_sub, s_addneg, s_leT, s_leF, s_ltT, s_ltF, s_eqF, s_inT, s_neF, s_neF', s_neE, s_nleT, s_nleF, s_nltF, s_nltT, eq_self, nI_clamp, s_wIk, s_wIo, pk_us, pk_un, Nat.reduceAdd, Nat.reduceMul, Nat.reduceSub, Nat.zero_add, Nat.add_zero, Nat.mul_zero, true_implies, false_implies, implies_true, not_true, not_false, and_true, true_and, not_true_eq_false, not_false_eq_true, forall_const, k1.r162, eH, ho, c1, c2, ib', ib2, fa_or]
        exact hn2

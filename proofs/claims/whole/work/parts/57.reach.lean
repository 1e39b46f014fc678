/-! who is reached -/
def stA (st : Nat → Int32) (s : Nat) : Nat := (st (120 + 3 * s)).toNatClampNeg
def stB (st : Nat → Int32) (s : Nat) : Nat := (st (120 + 3 * s + 1)).toNatClampNeg
def meetV (st hv : Nat → Int32) (s : Nat) : Bool :=
  decide (hv (stA st s) ≤ (if st (120 + 3 * s + 1) < 0 then 0 else hv (stB st s)) + st (120 + 3 * s + 2) ∧ (if st (120 + 3 * s + 1) < 0 then 0 else hv (stB st s)) ≤ hv (stA st s) + st (120 + 3 * s + 2))
def dryV (st hv : Nat → Int32) (tide nh : Int32) : Nat := bs (fun h => decide (¬ hv h < tide) && decide (¬ nI h = nh)) (st 0).toNatClampNeg
def qs (st : Nat → Int32) : Nat → Nat
  | 0 => 0
  | n + 1 => qs st n ||| 2 ^ (st (160 + n)).toNatClampNeg
def condS (st : Nat → Int32) (t0 : Bool) (D s R : Nat) : Prop :=
  if st (120 + 3 * s + 1) < 0 then (t0 = true → D.testBit (stA st s) = true → R.testBit (stA st s) = true)
  else (R.testBit (stA st s) = true → D.testBit (stB st s) = true → R.testBit (stB st s) = true) ∧ (R.testBit (stB st s) = true → D.testBit (stA st s) = true → R.testBit (stA st s) = true)
def fM (st : Nat → Int32) (t0 : Bool) (D s R : Nat) : Nat :=
  if st (120 + 3 * s + 1) < 0 then (bif t0 then R ||| (2 ^ stA st s &&& D) else R)
  else bif (bif R.testBit (stA st s) then R ||| (2 ^ stB st s &&& D) else R).testBit (stB st s)
    then (bif R.testBit (stA st s) then R ||| (2 ^ stB st s &&& D) else R) ||| (2 ^ stA st s &&& D)
    else (bif R.testBit (stA st s) then R ||| (2 ^ stB st s &&& D) else R)
def fC (st : Nat → Int32) (t0 : Bool) (D s R : Nat) : Nat :=
  if st (120 + 3 * s + 1) < 0 then (bif t0 then R ||| (2 ^ stA st s &&& D) else R)
  else bif R.testBit (stA st s) || R.testBit (stB st s) then R ||| ((2 ^ stA st s ||| 2 ^ stB st s) &&& D) else R
theorem or_sub {R X : Nat} (e : R ||| X = R) : sub X R := fun i hi => by rw [← e, Nat.testBit_or, hi, Bool.or_true]
theorem sub_pow_at {a D R : Nat} (h : sub (2 ^ a &&& D) R) (hD : D.testBit a = true) : R.testBit a = true := h a (by rw [Nat.testBit_and, tb_pow, hD]; simp)
theorem fM_G (st : Nat → Int32) (t0 : Bool) (D s : Nat) : StepG D (condS st t0 D s) (fM st t0 D s) := by
  unfold StepG condS fM
  by_cases hg : st (120 + 3 * s + 1) < 0
  · simp only [if_pos hg]
    cases t0 with
    | false => exact ⟨fun R hR => ⟨sub.rf R, hR⟩, fun R R' _ _ h => h, fun R _ _ z => absurd z (by decide)⟩
    | true => exact ⟨fun R hR => ⟨sub.or_l _ _, sub.or_r hR (sub.and_r _ _)⟩, fun R R' _ hc h => sub.or_r h (sub.pow (hc rfl)), fun R _ e _ => sub_pow_at (or_sub e)⟩
  · simp only [if_neg hg]
    generalize stA st s = a
    generalize stB st s = b
    have h1 : ∀ R, sub R D → sub R (bif R.testBit a then R ||| (2 ^ b &&& D) else R) ∧ sub (bif R.testBit a then R ||| (2 ^ b &&& D) else R) D := by
      intro R hR
      cases R.testBit a with
      | false => exact ⟨sub.rf R, hR⟩
      | true => exact ⟨sub.or_l _ _, sub.or_r hR (sub.and_r _ _)⟩
    refine ⟨fun R hR => ?_, fun R R' hR hc h => ?_, fun R hR e => ?_⟩
    · obtain ⟨i1, i2⟩ := h1 R hR
      generalize (bif R.testBit a then R ||| (2 ^ b &&& D) else R) = P at i1 i2
      cases P.testBit b with
      | false => exact ⟨i1, i2⟩
      | true => exact ⟨i1.tr (sub.or_l _ _), sub.or_r i2 (sub.and_r _ _)⟩
    · have i3 : sub (bif R.testBit a then R ||| (2 ^ b &&& D) else R) R' := by
        cases ha : R.testBit a with
        | false => exact h
        | true => exact sub.or_r h (sub.pow (hc.1 (h a ha)))
      generalize (bif R.testBit a then R ||| (2 ^ b &&& D) else R) = P at i3
      cases hb : P.testBit b with
      | false => exact i3
      | true => exact sub.or_r i3 (sub.pow (hc.2 (i3 b hb)))
    · obtain ⟨i1, i2⟩ := h1 R hR
      have e2 : (bif R.testBit a then R ||| (2 ^ b &&& D) else R) = R := by
        refine (sub.eq i1 ?_).symm
        intro i hi
        rw [← e]
        generalize (bif R.testBit a then R ||| (2 ^ b &&& D) else R) = P at hi
        cases P.testBit b with
        | false => exact hi
        | true => exact sub.or_l _ _ i hi
      rw [e2] at e
      refine ⟨fun ha => ?_, fun hb => ?_⟩
      · rw [ha] at e2
        exact sub_pow_at (or_sub e2)
      · rw [hb] at e
        exact sub_pow_at (or_sub e)
theorem fC_G (st : Nat → Int32) (t0 : Bool) (D s : Nat) : StepG D (condS st t0 D s) (fC st t0 D s) := by
  unfold StepG condS fC
  by_cases hg : st (120 + 3 * s + 1) < 0
  · simp only [if_pos hg]
    cases t0 with
    | false => exact ⟨fun R hR => ⟨sub.rf R, hR⟩, fun R R' _ _ h => h, fun R _ _ z => absurd z (by decide)⟩
    | true => exact ⟨fun R hR => ⟨sub.or_l _ _, sub.or_r hR (sub.and_r _ _)⟩, fun R R' _ hc h => sub.or_r h (sub.pow (hc rfl)), fun R _ e _ => sub_pow_at (or_sub e)⟩
  · simp only [if_neg hg]
    generalize stA st s = a
    generalize stB st s = b
    refine ⟨fun R hR => ?_, fun R R' hR hc h => ?_, fun R hR e => ?_⟩
    · cases (R.testBit a || R.testBit b) with
      | false => exact ⟨sub.rf R, hR⟩
      | true => exact ⟨sub.or_l _ _, sub.or_r hR (sub.and_r _ _)⟩
    · cases hab : (R.testBit a || R.testBit b) with
      | false => exact h
      | true =>
        refine sub.or_r h (fun i hi => ?_)
        rw [Nat.testBit_and, Nat.testBit_or, tb_pow, tb_pow, Bool.and_eq_true, Bool.or_eq_true] at hi
        obtain ⟨h1, h2⟩ := hi
        rw [Bool.or_eq_true] at hab
        rcases h1 with h1 | h1
        · have e := of_decide_eq_true h1
          subst e
          rcases hab with z | z
          · exact h _ z
          · exact hc.2 (h _ z) h2
        · have e := of_decide_eq_true h1
          subst e
          rcases hab with z | z
          · exact hc.1 (h _ z) h2
          · exact h _ z
    · have key : ∀ x, (x = a ∨ x = b) → (R.testBit a || R.testBit b) = true → D.testBit x = true → R.testBit x = true := by
        intro x hx hab hD
        rw [hab] at e
        refine or_sub e x ?_
        rw [Nat.testBit_and, Nat.testBit_or, tb_pow, tb_pow, hD]
        rcases hx with rfl | rfl <;> simp
      exact ⟨fun ha hD => key b (Or.inr rfl) (by rw [ha]; rfl) hD, fun hb hD => key a (Or.inl rfl) (by rw [hb, Bool.or_true]) hD⟩
def actV (st hv : Nat → Int32) (ns : Int32) (s : Nat) : Bool := decide (¬ nI s = ns) && meetV st hv s
def quayN (st : Nat → Int32) : Nat := qs st (st 4).toNatClampNeg
def LeastR (st hv : Nat → Int32) (tide ns nh : Int32) (R : Nat) : Prop := Least (quayN st &&& dryV st hv tide nh) (st 3).toNatClampNeg (actV st hv ns) (condS st (decide (tide = 0)) (dryV st hv tide nh)) R
noncomputable def rchV (st hv : Nat → Int32) (tide ns nh : Int32) : Nat := @dite Nat (∃ R, LeastR st hv tide ns nh R) (Classical.propDecidable _) (fun h => Classical.choose h) (fun _ => 0)
theorem rchV_of {st hv : Nat → Int32} {tide ns nh : Int32} {R : Nat} (h : LeastR st hv tide ns nh R) : rchV st hv tide ns nh = R := by
  unfold rchV
  rw [dif_pos ⟨R, h⟩]
  exact Least.one (Classical.choose_spec (⟨R, h⟩ : ∃ R, LeastR st hv tide ns nh R)) h
/-- what the search needs of the town -/
def StairM (st : Nat → Int32) (s : Nat) : Prop := ∃ a r : Nat, a < 16 ∧ r ≤ 99 ∧ st (120 + 3 * s) = nI a ∧ st (120 + 3 * s + 2) = nI r ∧ (st (120 + 3 * s + 1) = -nI 1 ∨ ∃ b : Nat, b < 16 ∧ b ≠ a ∧ st (120 + 3 * s + 1) = nI b)
def TownM (st : Nat → Int32) : Prop := ∃ H S Qn : Nat, H ≤ 16 ∧ S ≤ 12 ∧ Qn ≤ 4 ∧ st 0 = nI H ∧ st 3 = nI S ∧ st 4 = nI Qn ∧ (∀ s, s < S → StairM st s) ∧ ∀ q, q < Qn → ∃ a : Nat, a < 16 ∧ st (160 + q) = nI a
def HgtM (hv : Nat → Int32) : Prop := ∀ h, h < 16 → ∃ x : Nat, x ≤ 99 ∧ hv h = nI x
theorem meetM {mm m : MM} {s : Nat} (hm : Kq mm m) (hs : s < 12) (hS : StairM (mm.1 162) s) (hH : HgtM (fun h => mm.1 163 (10 + h))) : o_X12_isMeeting m (nI s) ∧ (p_X12_isMeeting m (nI s) ↔ meetV (mm.1 162) (fun h => mm.1 163 (10 + h)) s = true) := by
  obtain ⟨a, r, ha, hr, ea, er, hb⟩ := hS
  obtain ⟨x, hx, ex⟩ := hH a ha
  have ex : mm.1 163 (10 + a) = nI x := ex
  have hA : stA (mm.1 162) s = a := by unfold stA; rw [ea, nI_clamp (by omega)]
  unfold o_X12_isMeeting p_X12_isMeeting o_X12_heightOf v_X12_heightOf meetV
  rw [hA]
  rcases hb with eb | ⟨b, hb, hba, eb⟩
  · rw [eb, if_pos (show (-nI 1 : Int32) < 0 by decide)]
    by_cases c1 : x ≤ 0
    · have e0 : x = 0 := by omega
      subst e0
      refine ⟨by simp (disch := omega) only [lin, nI_add, pk_mul, s_sub, s_addneg, s_leT, s_leF, s_ltT, s_ltF, s_eqF, s_inT, s_neF, s_neF', s_neE, s_nleT, s_nleF, s_nltF, s_nltT, eq_self, nI_clamp, s_wIk, s_wIo, pk_us, pk_un, Nat.reduceAdd, Nat.reduceMul, Nat.reduceSub, Nat.zero_add, Nat.add_zero, Nat.mul_zero, true_implies, false_implies, implies_true, not_true, not_false, and_true, true_and, not_true_eq_false, not_false_eq_true, forall_const, hm.r162, hm.r163, ea, er, eb, ex], ?_⟩
      simp (disch := omega) only [lin, nI_add, pk_mul, s_sub, s_addneg, s_leT, s_leF, s_ltT, s_ltF, s_eqF, s_inT, s_neF, s_neF', s_neE, s_nleT, s_nleF, s_nltF, s_nltT, eq_self, nI_clamp, s_wIk, s_wIo, pk_us, pk_un, Nat.reduceAdd, Nat.reduceMul, Nat.reduceSub, Nat.zero_add, Nat.add_zero, Nat.mul_zero, true_implies, false_implies, implies_true, not_true, not_false, and_true, true_and, not_true_eq_false, not_false_eq_true, forall_const, hm.r162, hm.r163, ea, er, eb, ex]
      simp
    · by_cases c2 : x ≤ r
      · refine ⟨by simp (disch := omega) only [lin, nI_add, pk_mul, s_sub, s_addneg, s_leT, s_leF, s_ltT, s_ltF, s_eqF, s_inT, s_neF, s_neF', s_neE, s_nleT, s_nleF, s_nltF, s_nltT, eq_self, nI_clamp, s_wIk, s_wIo, pk_us, pk_un, Nat.reduceAdd, Nat.reduceMul, Nat.reduceSub, Nat.zero_add, Nat.add_zero, Nat.mul_zero, true_implies, false_implies, implies_true, not_true, not_false, and_true, true_and, not_true_eq_false, not_false_eq_true, forall_const, hm.r162, hm.r163, ea, er, eb, ex], ?_⟩
        simp (disch := omega) only [lin, nI_add, pk_mul, s_sub, s_addneg, s_leT, s_leF, s_ltT, s_ltF, s_eqF, s_inT, s_neF, s_neF', s_neE, s_nleT, s_nleF, s_nltF, s_nltT, eq_self, nI_clamp, s_wIk, s_wIo, pk_us, pk_un, Nat.reduceAdd, Nat.reduceMul, Nat.reduceSub, Nat.zero_add, Nat.add_zero, Nat.mul_zero, true_implies, false_implies, implies_true, not_true, not_false, and_true, true_and, not_true_eq_false, not_false_eq_true, forall_const, hm.r162, hm.r163, ea, er, eb, ex, Nat.sub_zero]
        simp
      · refine ⟨by simp (disch := omega) only [lin, nI_add, pk_mul, s_sub, s_addneg, s_leT, s_leF, s_ltT, s_ltF, s_eqF, s_inT, s_neF, s_neF', s_neE, s_nleT, s_nleF, s_nltF, s_nltT, eq_self, nI_clamp, s_wIk, s_wIo, pk_us, pk_un, Nat.reduceAdd, Nat.reduceMul, Nat.reduceSub, Nat.zero_add, Nat.add_zero, Nat.mul_zero, true_implies, false_implies, implies_true, not_true, not_false, and_true, true_and, not_true_eq_false, not_false_eq_true, forall_const, hm.r162, hm.r163, ea, er, eb, ex, Nat.sub_zero], ?_⟩
        simp (disch := omega) only [lin, nI_add, pk_mul, s_sub, s_addneg, s_leT, s_leF, s_ltT, s_ltF, s_eqF, s_inT, s_neF, s_neF', s_neE, s_nleT, s_nleF, s_nltF, s_nltT, eq_self, nI_clamp, s_wIk, s_wIo, pk_us, pk_un, Nat.reduceAdd, Nat.reduceMul, Nat.reduceSub, Nat.zero_add, Nat.add_zero, Nat.mul_zero, true_implies, false_implies, implies_true, not_true, not_false, and_true, true_and, not_true_eq_false, not_false_eq_true, forall_const, hm.r162, hm.r163, ea, er, eb, ex, Nat.sub_zero]
        simp
  · obtain ⟨y, hy, ey⟩ := hH b hb
    have ey : mm.1 163 (10 + b) = nI y := ey
    have hB : stB (mm.1 162) s = b := by unfold stB; rw [eb, nI_clamp (by omega)]
    rw [hB, eb, if_neg (nI_pos (by omega))]
    by_cases c1 : x ≤ y
    · by_cases c2 : y - x ≤ r
      · refine ⟨by simp (disch := omega) only [lin, nI_add, pk_mul, s_sub, s_addneg, s_leT, s_leF, s_ltT, s_ltF, s_eqF, s_inT, s_neF, s_neF', s_neE, s_nleT, s_nleF, s_nltF, s_nltT, eq_self, nI_clamp, s_wIk, s_wIo, pk_us, pk_un, Nat.reduceAdd, Nat.reduceMul, Nat.reduceSub, Nat.zero_add, Nat.add_zero, Nat.mul_zero, true_implies, false_implies, implies_true, not_true, not_false, and_true, true_and, not_true_eq_false, not_false_eq_true, forall_const, hm.r162, hm.r163, ea, er, eb, ex, ey], ?_⟩
        simp (disch := omega) only [lin, nI_add, pk_mul, s_sub, s_addneg, s_leT, s_leF, s_ltT, s_ltF, s_eqF, s_inT, s_neF, s_neF', s_neE, s_nleT, s_nleF, s_nltF, s_nltT, eq_self, nI_clamp, s_wIk, s_wIo, pk_us, pk_un, Nat.reduceAdd, Nat.reduceMul, Nat.reduceSub, Nat.zero_add, Nat.add_zero, Nat.mul_zero, true_implies, false_implies, implies_true, not_true, not_false, and_true, true_and, not_true_eq_false, not_false_eq_true, forall_const, hm.r162, hm.r163, ea, er, eb, ex, ey]
        simp
      · refine ⟨by simp (disch := omega) only [lin, nI_add, pk_mul, s_sub, s_addneg, s_leT, s_leF, s_ltT, s_ltF, s_eqF, s_inT, s_neF, s_neF', s_neE, s_nleT, s_nleF, s_nltF, s_nltT, eq_self, nI_clamp, s_wIk, s_wIo, pk_us, pk_un, Nat.reduceAdd, Nat.reduceMul, Nat.reduceSub, Nat.zero_add, Nat.add_zero, Nat.mul_zero, true_implies, false_implies, implies_true, not_true, not_false, and_true, true_and, not_true_eq_false, not_false_eq_true, forall_const, hm.r162, hm.r163, ea, er, eb, ex, ey], ?_⟩
        simp (disch := omega) only [lin, nI_add, pk_mul, s_sub, s_addneg, s_leT, s_leF, s_ltT, s_ltF, s_eqF, s_inT, s_neF, s_neF', s_neE, s_nleT, s_nleF, s_nltF, s_nltT, eq_self, nI_clamp, s_wIk, s_wIo, pk_us, pk_un, Nat.reduceAdd, Nat.reduceMul, Nat.reduceSub, Nat.zero_add, Nat.add_zero, Nat.mul_zero, true_implies, false_implies, implies_true, not_true, not_false, and_true, true_and, not_true_eq_false, not_false_eq_true, forall_const, hm.r162, hm.r163, ea, er, eb, ex, ey]
        simp
    · by_cases c2 : x - y ≤ r
      · refine ⟨by simp (disch := omega) only [lin, nI_add, pk_mul, s_sub, s_addneg, s_leT, s_leF, s_ltT, s_ltF, s_eqF, s_inT, s_neF, s_neF', s_neE, s_nleT, s_nleF, s_nltF, s_nltT, eq_self, nI_clamp, s_wIk, s_wIo, pk_us, pk_un, Nat.reduceAdd, Nat.reduceMul, Nat.reduceSub, Nat.zero_add, Nat.add_zero, Nat.mul_zero, true_implies, false_implies, implies_true, not_true, not_false, and_true, true_and, not_true_eq_false, not_false_eq_true, forall_const, hm.r162, hm.r163, ea, er, eb, ex, ey], ?_⟩
        simp (disch := omega) only [lin, nI_add, pk_mul, s_sub, s_addneg, s_leT, s_leF, s_ltT, s_ltF, s_eqF, s_inT, s_neF, s_neF', s_neE, s_nleT, s_nleF, s_nltF, s_nltT, eq_self, nI_clamp, s_wIk, s_wIo, pk_us, pk_un, Nat.reduceAdd, Nat.reduceMul, Nat.reduceSub, Nat.zero_add, Nat.add_zero, Nat.mul_zero, true_implies, false_implies, implies_true, not_true, not_false, and_true, true_and, not_true_eq_false, not_false_eq_true, forall_const, hm.r162, hm.r163, ea, er, eb, ex, ey]
        simp
      · refine ⟨by simp (disch := omega) only [lin, nI_add, pk_mul, s_sub, s_addneg, s_leT, s_leF, s_ltT, s_ltF, s_eqF, s_inT, s_neF, s_neF', s_neE, s_nleT, s_nleF, s_nltF, s_nltT, eq_self, nI_clamp, s_wIk, s_wIo, pk_us, pk_un, Nat.reduceAdd, Nat.reduceMul, Nat.reduceSub, Nat.zero_add, Nat.add_zero, Nat.mul_zero, true_implies, false_implies, implies_true, not_true, not_false, and_true, true_and, not_true_eq_false, not_false_eq_true, forall_const, hm.r162, hm.r163, ea, er, eb, ex, ey], ?_⟩
        simp (disch := omega) only [lin, nI_add, pk_mul, s_sub, s_addneg, s_leT, s_leF, s_ltT, s_ltF, s_eqF, s_inT, s_neF, s_neF', s_neE, s_nleT, s_nleF, s_nltF, s_nltT, eq_self, nI_clamp, s_wIk, s_wIo, pk_us, pk_un, Nat.reduceAdd, Nat.reduceMul, Nat.reduceSub, Nat.zero_add, Nat.add_zero, Nat.mul_zero, true_implies, false_implies, implies_true, not_true, not_false, and_true, true_and, not_true_eq_false, not_false_eq_true, forall_const, hm.r162, hm.r163, ea, er, eb, ex, ey]
        simp
theorem fM_lt {st : Nat → Int32} {t0 : Bool} {D s R : Nat} (hR : sub R D) (hD : D < 2 ^ 16) : fM st t0 D s R < 2 ^ 16 := sub_lt ((fM_G st t0 D s).1 R hR).2 hD

/-! the class's search -/
def TownC (c : Nat → Nat → Int32) (t : Nat) : Prop := c t 8 = c 162 0 ∧ c t 10 = c 162 3 ∧ c t 12 = nI (quayN (c 162)) ∧ ∀ s, nI s < c 162 3 → s < 12 → c (t + 4) s = c 162 (120 + 3 * s) ∧ c (t + 5) s = c 162 (120 + 3 * s + 1) ∧ c (t + 6) s = c 162 (120 + 3 * s + 2)
theorem bitOf_v (m : MM) {a : Nat} (ha : a < 16) : v_X8_bitOf m (nI a) = nI (2 ^ a) := by
  unfold v_X8_bitOf
  rw [cite_neg (nI_pos (by omega)), cite_neg (show ¬ (16 : Int32) ≤ nI a from nI_ge (a := a) (b := 16) (by omega) (by omega)), ib a (by omega)]
theorem bitOf_m (m : MM) : v_X8_bitOf m (-nI 1) = 0 := by
  unfold v_X8_bitOf
  rw [cite_pos (by decide)]
theorem wet_ok {mm : MM} {t hc H : Nat} {hv : Nat → Int32} {tide : Int32} (ht : isT t) (hsh : SHL[hc]? = some (.inl (0, 16, 0, 0))) (h16 : H ≤ 16) (eH : mm.1 162 0 = nI H) (hC : TownC mm.1 t) (m : MM) (hm : Kq mm m) (hh : ∀ h, h < 16 → m.1 hc h = hv h) :
    Runs e_X8_wetBits [.ref t, .ref hc, .int tide] m (fun r m' => r = .int (nI (bs (fun h => decide (hv h < tide)) H)) ∧ m' = m) := by
  have e8 : m.1 t 8 = nI H := by rw [hm.t0 ht, hC.1, eH]
  apply b_X8_wetBits _ _ _ _ _ ht.at hsh
  refine for_up (fun k => [(0, .ref t), (1, .ref hc), (2, .int tide), (3, .int (nI (bs (fun h => decide (hv h < tide)) k))), (4, .int (nI k))]) (fun k m' => m' = m) H ?_ ?_ 0 _ (Nat.zero_le _) rfl
  · rintro m' rfl
    apply b_X8_wetBits_5 _ _ _ _ _ _ _ ht.at hsh
    simp (disch := omega) only [lin, nI_add, pk_mul, s_sub, s_addneg, s_leT, s_leF, s_ltT, s_ltF, s_eqF, s_inT, s_neF, s_neF', s_neE, s_nleT, s_nleF, s_nltF, s_nltT, eq_self, nI_clamp, s_wIk, s_wIo, pk_us, pk_un, Nat.reduceAdd, Nat.reduceMul, Nat.reduceSub, Nat.zero_add, Nat.add_zero, Nat.mul_zero, true_implies, false_implies, implies_true, not_true, not_false, and_true, true_and, not_true_eq_false, not_false_eq_true, forall_const, e8]
  · rintro k m' hk rfl hn
    have hn2 := hn m' rfl
    simp only [bs_succ] at hn2
    apply b_X8_wetBits_5 _ _ _ _ _ _ _ ht.at hsh
    have e1 := hh k (by omega)
    by_cases c1 : hv k < tide
    · have c2 : ¬ tide ≤ hv k := Int32.not_le.mpr c1
      simp only [c1, decide_true, cond_true] at hn2
      simp (disch := omega) only [lin, nI_add, pk_mul, s_sub, s_addneg, s_leT, s_leF, s_ltT, s_ltF, s_eqF, s_inT, s_neF, s_neF', s_neE, s_nleT, s_nleF, s_nltF, s_nltT, eq_self, nI_clamp, s_wIk, s_wIo, pk_us, pk_un, Nat.reduceAdd, Nat.reduceMul, Nat.reduceSub, Nat.zero_add, Nat.add_zero, Nat.mul_zero, true_implies, false_implies, implies_true, not_true, not_false, and_true, true_and, not_true_eq_false, not_false_eq_true, forall_const, e8, e1, c2, ib', ib2, fa_or]
      exact hn2
    · have c2 : tide ≤ hv k := Int32.not_lt.mp c1
      simp only [c1, decide_false, cond_false] at hn2
      simp (disch := omega) only [lin, nI_add, pk_mul, s_sub, s_addneg, s_leT, s_leF, s_ltT, s_ltF, s_eqF, s_inT, s_neF, s_neF', s_neE, s_nleT, s_nleF, s_nltF, s_nltT, eq_self, nI_clamp, s_wIk, s_wIo, pk_us, pk_un, Nat.reduceAdd, Nat.reduceMul, Nat.reduceSub, Nat.zero_add, Nat.add_zero, Nat.mul_zero, true_implies, false_implies, implies_true, not_true, not_false, and_true, true_and, not_true_eq_false, not_false_eq_true, forall_const, e8, e1, c2]
      exact hn2
def behN (st : Nat → Int32) (t0 : Bool) (s P : Nat) : Nat := if st (120 + 3 * s + 1) < 0 then (bif t0 then 2 ^ stA st s else 0) else bif P.testBit (stA st s) || P.testBit (stB st s) then 2 ^ stA st s ||| 2 ^ stB st s else 0
theorem fC_beh (st : Nat → Int32) (t0 : Bool) (D s P : Nat) : P ||| (behN st t0 s P &&& D) = fC st t0 D s P := by
  unfold behN fC
  by_cases hg : st (120 + 3 * s + 1) < 0
  · simp only [if_pos hg]
    cases t0 <;> simp
  · simp only [if_neg hg]
    cases (P.testBit (stA st s) || P.testBit (stB st s)) <;> simp
theorem beh_ok {mm m : MM} {t s P S : Nat} {tide : Int32} (ht : isT t) (hm : Kq mm m) (s12 : S ≤ 12) (eS : mm.1 162 3 = nI S) (hs : s < S) (hS : StairM (mm.1 162) s) (hC : TownC mm.1 t) (hP : P < 2 ^ 16) :
    o_X8_behindStair m t (nI s) (nI P) tide ∧ v_X8_behindStair m t (nI s) (nI P) tide = nI (behN (mm.1 162) (decide (tide = 0)) s P) := by
  obtain ⟨a, r, ha, hr, ea, er, hb⟩ := hS
  obtain ⟨e4, e5, e6⟩ := hC.2.2.2 s (by rw [eS]; exact nI_lt hs (by omega)) (by omega)
  have hA : stA (mm.1 162) s = a := by unfold stA; rw [ea, nI_clamp (by omega)]
  unfold o_X8_behindStair v_X8_behindStair behN
  rw [hA, hm.t4 ht, hm.t5 ht, nI_clamp (show s < 2 ^ 31 by omega), e4, e5, ea, bitOf_v m ha]
  refine ⟨?_, ?_⟩
  · refine ⟨vp_in_nI (by omega) (by omega), vp_in_nI (by omega) (by omega), vp_in_nI (by omega) (by omega), ?_⟩
    simp
  · rcases hb with eb | ⟨b, hb, hba, eb⟩
    · rw [eb, if_pos (show (-nI 1 : Int32) < 0 by decide), cite_pos (by decide)]
      by_cases c3 : tide = 0
      · rw [cite_pos c3, decide_eq_true c3]; rfl
      · rw [cite_neg c3, decide_eq_false c3]; rfl
    · have hB : stB (mm.1 162) s = b := by unfold stB; rw [eb, nI_clamp (by omega)]
      rw [eb, if_neg (nI_pos (by omega)), hB, bitOf_v m hb, cite_neg (show ¬ nI b = -1 from fun e => of_eq_false (s_neF (b := 1) (Or.inr (by omega)) (by omega) (by omega)) e), fa_and, fa_and, fa_or]
      cases ta : P.testBit a with
      | true =>
        rw [cite_neg (show ¬ nI (P &&& 2 ^ a) = 0 from tb_ne (by omega) ta)]
        rfl
      | false =>
        rw [cite_pos (show nI (P &&& 2 ^ a) = 0 from tb_eq (by omega) ta)]
        cases tb : P.testBit b with
        | true =>
          rw [cite_neg (show ¬ nI (P &&& 2 ^ b) = 0 from tb_ne (by omega) tb)]
          rfl
        | false =>
          rw [cite_pos (show nI (P &&& 2 ^ b) = 0 from tb_eq (by omega) tb)]
          rfl
theorem end_v {m : MM} {hc : Nat} {a : Nat} (ha : a < 16) : v_X8_endHeight m hc (nI a) = m.1 hc a := by
  unfold v_X8_endHeight
  rw [cite_neg (nI_pos (by omega)), cite_neg (show ¬ (16 : Int32) ≤ nI a from nI_ge (a := a) (b := 16) (by omega) (by omega)), nI_clamp (by omega)]
theorem end_m {m : MM} {hc : Nat} : v_X8_endHeight m hc (-nI 1) = 0 := by
  unfold v_X8_endHeight
  rw [cite_pos (by decide)]
theorem meetC {mm m : MM} {t hc s S : Nat} {hv : Nat → Int32} (ht : isT t) (hm : Kq mm m) (s12 : S ≤ 12) (eS : mm.1 162 3 = nI S) (hs : s < S) (hS : StairM (mm.1 162) s) (hC : TownC mm.1 t) (hH : HgtM hv) (hh : ∀ h, h < 16 → m.1 hc h = hv h) :
    o_X8_stairMeets m t hc (nI s) ∧ (p_X8_stairMeets m t hc (nI s) ↔ meetV (mm.1 162) hv s = true) := by
  obtain ⟨a, r, ha, hr, ea, er, hb⟩ := hS
  obtain ⟨e4, e5, e6⟩ := hC.2.2.2 s (by rw [eS]; exact nI_lt hs (by omega)) (by omega)
  obtain ⟨x, hx, ex⟩ := hH a ha
  have hA : stA (mm.1 162) s = a := by unfold stA; rw [ea, nI_clamp (by omega)]
  have oo : ∀ z : Int32, o_X8_endHeight m hc z := by
    intro z
    unfold o_X8_endHeight
    refine ⟨fun _ => trivial, fun h0 => ⟨fun _ => trivial, fun h1 => ⟨?_, trivial⟩⟩⟩
    rw [vp_in_iff]
    rw [Int32.lt_iff_toInt_lt] at h0
    rw [Int32.le_iff_toInt_le] at h1
    have z0 : (0 : Int32).toInt = 0 := by decide
    have z16 : (16 : Int32).toInt = 16 := by decide
    rw [z0] at h0
    rw [z16] at h1
    omega
  unfold o_X8_stairMeets p_X8_stairMeets meetV
  rw [hA, hm.t4 ht, hm.t5 ht, hm.t6 ht, nI_clamp (show s < 2 ^ 31 by omega), e4, e5, e6, ea, er, end_v ha, hh a ha, ex]
  refine ⟨⟨vp_in_nI (by omega) (by omega), oo _, vp_in_nI (by omega) (by omega), oo _, vp_in_nI (by omega) (by omega), by simp⟩, ?_⟩
  rcases hb with eb | ⟨b, hb, hba, eb⟩
  · rw [eb, if_pos (show (-nI 1 : Int32) < 0 by decide), end_m]
    unfold iabs
    have e0 : nI x - 0 = nI x := by rw [show (0 : Int32) = nI 0 from rfl, s_sub (by omega)]; rfl
    rw [e0, if_pos (nI_pos' (by omega))]
    by_cases c2 : x ≤ r
    · simp (disch := omega) only [lin, nI_add, pk_mul, s_sub, s_addneg, s_leT, s_leF, s_ltT, s_ltF, s_eqF, s_inT, s_neF, s_neF', s_neE, s_nleT, s_nleF, s_nltF, s_nltT, eq_self, nI_clamp, s_wIk, s_wIo, pk_us, pk_un, Nat.reduceAdd, Nat.reduceMul, Nat.reduceSub, Nat.zero_add, Nat.add_zero, Nat.mul_zero, true_implies, false_implies, implies_true, not_true, not_false, and_true, true_and, not_true_eq_false, not_false_eq_true, forall_const]
      simp
    · simp (disch := omega) only [lin, nI_add, pk_mul, s_sub, s_addneg, s_leT, s_leF, s_ltT, s_ltF, s_eqF, s_inT, s_neF, s_neF', s_neE, s_nleT, s_nleF, s_nltF, s_nltT, eq_self, nI_clamp, s_wIk, s_wIo, pk_us, pk_un, Nat.reduceAdd, Nat.reduceMul, Nat.reduceSub, Nat.zero_add, Nat.add_zero, Nat.mul_zero, true_implies, false_implies, implies_true, not_true, not_false, and_true, true_and, not_true_eq_false, not_false_eq_true, forall_const]
      simp
  · obtain ⟨y, hy, ey⟩ := hH b hb
    have hB : stB (mm.1 162) s = b := by unfold stB; rw [eb, nI_clamp (by omega)]
    rw [hB, eb, if_neg (nI_pos (by omega)), end_v hb, hh b hb, ey]
    unfold iabs
    by_cases c1 : y ≤ x
    · rw [s_sub c1, if_pos (nI_pos' (by omega))]
      by_cases c2 : x - y ≤ r
      · simp (disch := omega) only [lin, nI_add, pk_mul, s_sub, s_addneg, s_leT, s_leF, s_ltT, s_ltF, s_eqF, s_inT, s_neF, s_neF', s_neE, s_nleT, s_nleF, s_nltF, s_nltT, eq_self, nI_clamp, s_wIk, s_wIo, pk_us, pk_un, Nat.reduceAdd, Nat.reduceMul, Nat.reduceSub, Nat.zero_add, Nat.add_zero, Nat.mul_zero, true_implies, false_implies, implies_true, not_true, not_false, and_true, true_and, not_true_eq_false, not_false_eq_true, forall_const]
        simp
      · simp (disch := omega) only [lin, nI_add, pk_mul, s_sub, s_addneg, s_leT, s_leF, s_ltT, s_ltF, s_eqF, s_inT, s_neF, s_neF', s_neE, s_nleT, s_nleF, s_nltF, s_nltT, eq_self, nI_clamp, s_wIk, s_wIo, pk_us, pk_un, Nat.reduceAdd, Nat.reduceMul, Nat.reduceSub, Nat.zero_add, Nat.add_zero, Nat.mul_zero, true_implies, false_implies, implies_true, not_true, not_false, and_true, true_and, not_true_eq_false, not_false_eq_true, forall_const]
        simp
    · have hneg : (nI x - nI y).toInt = (x : Int) - y := pk_sub_toInt (by omega) (by omega)
      have hz : ¬ (0 : Int32) ≤ nI x - nI y := by
        rw [Int32.le_iff_toInt_le, hneg]
        show ¬ (0 : Int) ≤ _
        omega
      have hs : (0 : Int32) - (nI x - nI y) = nI (y - x) := by
        apply Int32.toInt_inj.mp
        have z0 : (0 : Int32).toInt = 0 := by decide
        rw [fb_subI (by rw [z0, hneg]; omega) (by rw [z0, hneg]; omega), z0, hneg, nI_toInt (by omega)]
        omega
      rw [if_neg hz, hs]
      by_cases c2 : y - x ≤ r
      · simp (disch := omega) only [lin, nI_add, pk_mul, s_sub, s_addneg, s_leT, s_leF, s_ltT, s_ltF, s_eqF, s_inT, s_neF, s_neF', s_neE, s_nleT, s_nleF, s_nltF, s_nltT, eq_self, nI_clamp, s_wIk, s_wIo, pk_us, pk_un, Nat.reduceAdd, Nat.reduceMul, Nat.reduceSub, Nat.zero_add, Nat.add_zero, Nat.mul_zero, true_implies, false_implies, implies_true, not_true, not_false, and_true, true_and, not_true_eq_false, not_false_eq_true, forall_const]
        simp
      · simp (disch := omega) only [lin, nI_add, pk_mul, s_sub, s_addneg, s_leT, s_leF, s_ltT, s_ltF, s_eqF, s_inT, s_neF, s_neF', s_neE, s_nleT, s_nleF, s_nltF, s_nltT, eq_self, nI_clamp, s_wIk, s_wIo, pk_us, pk_un, Nat.reduceAdd, Nat.reduceMul, Nat.reduceSub, Nat.zero_add, Nat.add_zero, Nat.mul_zero, true_implies, false_implies, implies_true, not_true, not_false, and_true, true_and, not_true_eq_false, not_false_eq_true, forall_const]
        simp
theorem canN {H w nb : Nat} (hv : Nat → Int32) (tide nh : Int32) (h16 : H ≤ 16) (hw : w = bs (fun h => decide (hv h < tide)) H) (hb : ∀ i, i < 16 → nb.testBit i = decide (nI i = nh)) :
    ((2 ^ H - 1) &&& (w ^^^ 4294967295)) &&& (nb ^^^ 4294967295) = bs (fun h => decide (¬ hv h < tide) && decide (¬ nI h = nh)) H := by
  apply Nat.eq_of_testBit_eq
  intro i
  rw [Nat.testBit_and, Nat.testBit_and, Nat.testBit_two_pow_sub_one, bs_bit]
  by_cases hi : i < H
  · rw [tb_not (by omega), tb_not (by omega), hb i (by omega), hw, bs_bit, decide_eq_true hi]
    simp only [Bool.true_and, decide_not]
  · simp [hi]
theorem reachC_ok {mm : MM} {t hc : Nat} {hv : Nat → Int32} {tide ns nh : Int32} (ht : isT t) (hsh : SHL[hc]? = some (.inl (0, 16, 0, 0))) (hT : TownM (mm.1 162)) (hC : TownC mm.1 t) (hH : HgtM hv) (hnh : nh = -nI 1 ∨ ∃ j : Nat, j < 16 ∧ nh = nI j) (m : MM) (hm : Kq mm m) (hh : ∀ h, h < 16 → m.1 hc h = hv h) :
    Runs e_X8_reachedWithout [.ref t, .ref hc, .int tide, .int ns, .int nh] m (fun r m' => r = .int (nI (rchV (mm.1 162) hv tide ns nh)) ∧ m' = m) := by
  obtain ⟨H, S, Qn, h16, s12, q4, eH, eS, eQ, hS, hQ⟩ := hT
  have e8 : m.1 t 8 = nI H := by rw [hm.t0 ht, hC.1, eH]
  have e10 : m.1 t 10 = nI S := by rw [hm.t0 ht, hC.2.1, eS]
  have e12 : m.1 t 12 = nI (quayN (mm.1 162)) := by rw [hm.t0 ht, hC.2.2.1]
  apply b_X8_reachedWithout _ _ _ _ _ _ _ ht.at hsh
  refine icall (wet_ok ht hsh h16 eH hC m hm hh) ?_
  rintro m1 rfl
  have eb : ∃ nb : Nat, v_X8_bitOf m1 nh = nI nb ∧ ∀ i, i < 16 → nb.testBit i = decide (nI i = nh) := by
    rcases hnh with rfl | ⟨j, hj, rfl⟩
    · refine ⟨0, bitOf_m m1, fun i hi => ?_⟩
      rw [decide_eq_false (of_eq_false (s_neF (Or.inr (by omega)) (by omega) (by omega)))]
      simp
    · refine ⟨2 ^ j, bitOf_v m1 hj, fun i hi => ?_⟩
      rw [tb_pow]
      by_cases e : j = i
      · subst e; simp
      · rw [decide_eq_false e, decide_eq_false (fun z => e ((nI_eq (by omega) (by omega)).mp z).symm)]
  obtain ⟨nb, eb, hnb⟩ := eb
  have eD : dryV (mm.1 162) hv tide nh = bs (fun h => decide (¬ hv h < tide) && decide (¬ nI h = nh)) H := by
    unfold dryV
    rw [eH, nI_clamp (by omega)]
  have hDH : dryV (mm.1 162) hv tide nh < 2 ^ H := by rw [eD]; exact bs_lt _ _
  have hD : dryV (mm.1 162) hv tide nh < 2 ^ 16 := Nat.lt_of_lt_of_le hDH (Nat.pow_le_pow_right (by decide) h16)
  have e5 : ((((1 : Int32) <<< ((m1.1 t 8) &&& 31)) - (1 : Int32)) &&& (nI (bs (fun h => decide (hv h < tide)) H) ^^^ (-1 : Int32))) &&& ((v_X8_bitOf m1 nh) ^^^ (-1 : Int32)) = nI (dryV (mm.1 162) hv tide nh) := by
    rw [e8, eb, ib H (by omega), m1_nI, nx_xor, nx_xor, show (1 : Int32) = nI 1 from rfl, s_sub (Nat.one_le_two_pow), fa_and, fa_and, canN hv tide nh h16 rfl hnb, eD]
  rw [e5, e12, fa_and]
  generalize hDD : dryV (mm.1 162) hv tide nh = D at hD hDH
  have hG : ∀ s, s < S → actV (mm.1 162) hv ns s = true → StepG D (condS (mm.1 162) (decide (tide = 0)) D s) (fC (mm.1 162) (decide (tide = 0)) D s) := fun s _ _ => fC_G _ _ _ _
  have eSS : (mm.1 162 3).toNatClampNeg = S := by rw [eS, nI_clamp (by omega)]
  refine loop_mu (σ := Nat × Nat) (fun q => [(0, .ref t), (1, .ref hc), (2, .int tide), (3, .int ns), (5, .int (nI D)), (6, .int (nI q.1)), (7, .int (nI q.2))]) (fun q m' => m' = m1 ∧ Open (quayN (mm.1 162) &&& D) D S (actV (mm.1 162) hv ns) (condS (mm.1 162) (decide (tide = 0)) D) q.1 ∧ q.2 ≤ fb_ct q.1.testBit H) (fun q => H + 1 - q.2) ?_ (quayN (mm.1 162) &&& D, 0) m1 ⟨rfl, ⟨sub.rf _, sub.and_r _ _, fun R' h _ => h⟩, Nat.zero_le _⟩
  rintro ⟨R, p⟩ m' ⟨rfl, k2, k3⟩ hn
  have k3 : p ≤ fb_ct R.testBit H := k3
  have k2 : Open (quayN (mm.1 162) &&& D) D S (actV (mm.1 162) hv ns) (condS (mm.1 162) (decide (tide = 0)) D) R := k2
  have hle : fb_ct R.testBit H ≤ H := fb_ct_le _ _
  have hR : sub R D := k2.2.1
  apply b_X8_reachedWithout_39 _ _ _ _ _ _ _ _ _ ht.at hsh
  simp (disch := omega) only [lin, nI_add, pk_mul, s_sub, s_addneg, s_leT, s_leF, s_ltT, s_ltF, s_eqF, s_inT, s_neF, s_neF', s_neE, s_nleT, s_nleF, s_nltF, s_nltT, eq_self, nI_clamp, s_wIk, s_wIo, pk_us, pk_un, Nat.reduceAdd, Nat.reduceMul, Nat.reduceSub, Nat.zero_add, Nat.add_zero, Nat.mul_zero, true_implies, false_implies, implies_true, not_true, not_false, and_true, true_and, not_true_eq_false, not_false_eq_true, forall_const, e8]
  refine for_up (fun k => [(0, .ref t), (1, .ref hc), (2, .int tide), (3, .int ns), (5, .int (nI D)), (6, .int (nI (pass (actV (mm.1 162) hv ns) (fC (mm.1 162) (decide (tide = 0)) D) k R))), (7, .int (nI p)), (8, .int (nI R)), (9, .int (nI k))]) (fun k m => m = m') S ?_ ?_ 0 _ (Nat.zero_le _) rfl
  · rintro m2 rfl
    have kp := k2.go hG
    apply b_X8_reachedWithout_55 _ _ _ _ _ _ _ _ _ _ _ ht.at hsh
    by_cases e : pass (actV (mm.1 162) hv ns) (fC (mm.1 162) (decide (tide = 0)) D) S R = R
    · have kd := k2.done hG e
      rw [e]
      simp (disch := omega) only [lin, nI_add, pk_mul, s_sub, s_addneg, s_leT, s_leF, s_ltT, s_ltF, s_eqF, s_inT, s_neF, s_neF', s_neE, s_nleT, s_nleF, s_nltF, s_nltT, eq_self, nI_clamp, s_wIk, s_wIo, pk_us, pk_un, Nat.reduceAdd, Nat.reduceMul, Nat.reduceSub, Nat.zero_add, Nat.add_zero, Nat.mul_zero, true_implies, false_implies, implies_true, not_true, not_false, and_true, true_and, not_true_eq_false, not_false_eq_true, forall_const, e10]
      have hL : LeastR (mm.1 162) hv tide ns nh R := by
        unfold LeastR
        rw [hDD, eSS]
        exact kd
      rw [rchV_of hL]
    · have km := k2.more hDH hG e
      have hP16 := sub_lt kp.2.1 hD
      have hR16 := sub_lt hR hD
      have ho := hn (pass (actV (mm.1 162) hv ns) (fC (mm.1 162) (decide (tide = 0)) D) S R, p + 1) m2 ⟨rfl, kp, Nat.lt_of_le_of_lt k3 km⟩ (by show H + 1 - (p + 1) < H + 1 - p; omega)
      generalize pass (actV (mm.1 162) hv ns) (fC (mm.1 162) (decide (tide = 0)) D) S R = P at e hP16 ho
      simp (disch := omega) only [lin, nI_add, pk_mul, s_sub, s_addneg, s_leT, s_leF, s_ltT, s_ltF, s_eqF, s_inT, s_neF, s_neF', s_neE, s_nleT, s_nleF, s_nltF, s_nltT, eq_self, nI_clamp, s_wIk, s_wIo, pk_us, pk_un, Nat.reduceAdd, Nat.reduceMul, Nat.reduceSub, Nat.zero_add, Nat.add_zero, Nat.mul_zero, true_implies, false_implies, implies_true, not_true, not_false, and_true, true_and, not_true_eq_false, not_false_eq_true, forall_const, e10]
      exact ho
  · rintro k m2 hk rfl hn
    have hP := (pass_ok hG hR k (Nat.le_of_lt hk)).2.1
    have hn2 := hn m2 rfl
    simp only [pass_S] at hn2
    generalize pass (actV (mm.1 162) hv ns) (fC (mm.1 162) (decide (tide = 0)) D) k R = P at hP hn2
    have hP16 : P < 2 ^ 16 := sub_lt hP hD
    apply b_X8_reachedWithout_55 _ _ _ _ _ _ _ _ _ _ _ ht.at hsh
    by_cases c1 : nI k = ns
    · have ea : actV (mm.1 162) hv ns k = false := by unfold actV; simp [c1]
      simp only [ea, cond_false] at hn2
      simp (disch := omega) only [lin, nI_add, pk_mul, s_sub, s_addneg, s_leT, s_leF, s_ltT, s_ltF, s_eqF, s_inT, s_neF, s_neF', s_neE, s_nleT, s_nleF, s_nltF, s_nltT, eq_self, nI_clamp, s_wIk, s_wIo, pk_us, pk_un, Nat.reduceAdd, Nat.reduceMul, Nat.reduceSub, Nat.zero_add, Nat.add_zero, Nat.mul_zero, true_implies, false_implies, implies_true, not_true, not_false, and_true, true_and, not_true_eq_false, not_false_eq_true, forall_const, e10, eq_true c1]
      exact hn2
    · obtain ⟨o1, o2⟩ := meetC ht hm s12 eS hk (hS k hk) hC hH hh
      by_cases c2 : meetV (mm.1 162) hv k = true
      · have ea : actV (mm.1 162) hv ns k = true := by unfold actV; simp [c1, c2]
        simp only [ea, cond_true, ← fC_beh] at hn2
        have c2 := o2.mpr c2
        obtain ⟨b1, b2⟩ := beh_ok (tide := tide) ht hm s12 eS hk (hS k hk) hC hP16
        simp (disch := omega) only [lin, nI_add, pk_mul, s_sub, s_addneg, s_leT, s_leF, s_ltT, s_ltF, s_eqF, s_inT, s_neF, s_neF', s_neE, s_nleT, s_nleF, s_nltF, s_nltT, eq_self, nI_clamp, s_wIk, s_wIo, pk_us, pk_un, Nat.reduceAdd, Nat.reduceMul, Nat.reduceSub, Nat.zero_add, Nat.add_zero, Nat.mul_zero, true_implies, false_implies, implies_true, not_true, not_false, and_true, true_and, not_true_eq_false, not_false_eq_true, forall_const, e10, c1, o1, c2, b1, b2, fa_and, fa_or]
        exact hn2
      · have ea : actV (mm.1 162) hv ns k = false := by unfold actV; simp [c2]
        simp only [ea, cond_false] at hn2
        have c2' : ¬ p_X8_stairMeets m2 t hc (nI k) := fun z => c2 (o2.mp z)
        simp (disch := omega) only [lin, nI_add, pk_mul, s_sub, s_addneg, s_leT, s_leF, s_ltT, s_ltF, s_eqF, s_inT, s_neF, s_neF', s_neE, s_nleT, s_nleF, s_nltF, s_nltT, eq_self, nI_clamp, s_wIk, s_wIo, pk_us, pk_un, Nat.reduceAdd, Nat.reduceMul, Nat.reduceSub, Nat.zero_add, Nat.add_zero, Nat.mul_zero, true_implies, false_implies, implies_true, not_true, not_false, and_true, true_and, not_true_eq_false, not_false_eq_true, forall_const, e10, c1, o1, c2']
        exact hn2

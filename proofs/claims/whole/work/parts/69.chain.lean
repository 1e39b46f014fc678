/-! chains: neighbours, verdicts, rounds -/
theorem ke_of_kq {a b : Nat} (h : kq a b = true) : ke a b = true := by
  by_cases e1 : a = 18
  · subst e1; exact h
  by_cases e2 : a = 108
  · subst e2; exact h
  by_cases e3 : a = 156
  · subst e3
    by_cases f : b = 35
    · subst f; cases h
    · show (!(b == 35)) = true
      simp [f]
  by_cases e4 : a = 22
  · subst e4; cases h
  by_cases e5 : a = 23
  · subst e5; cases h
  by_cases e6 : a = 112
  · subst e6; cases h
  by_cases e7 : a = 113
  · subst e7; cases h
  by_cases e8 : a = 179
  · subst e8; cases h
  by_cases e9 : a = 180
  · subst e9; cases h
  unfold ke
  simp [e1, e2, e3, e4, e5, e6, e7, e8, e9]
theorem Ke.q {mm m m2 : MM} (h : Kq mm m) (h2 : Ke m m2) : Kq mm m2 := ⟨fun a b e => (h2.1 a b (ke_of_kq e)).trans (h.1 a b e), h2.2.trans h.2⟩
theorem restr_eq {mm m : MM} (h : Kq mm m) : restr m.1 = restr mm.1 := by
  funext a b
  unfold restr
  cases hb : kq a b with
  | false => rfl
  | true => exact h.1 a b hb
theorem fallV_kq {mm m : MM} (h : Kq mm m) (x : Nat) (w g : Int32) : fallV m.1 x w g = fallV mm.1 x w g := by
  show fallV (restr m.1) x w g = fallV (restr mm.1) x w g
  rw [restr_eq h]
theorem dueV_kq {mm m : MM} (h : Kq mm m) (x : Nat) : dueV m.1 x = dueV mm.1 x := by
  show dueV (restr m.1) x = dueV (restr mm.1) x
  rw [restr_eq h]
theorem tideV_kq {mm m : MM} (h : Kq mm m) (x : Int32) : tideV m.1 x = tideV mm.1 x := by
  show tideV (restr m.1) x = tideV (restr mm.1) x
  rw [restr_eq h]
theorem bitsOf_eq {n : Nat} (hn : n < 65536) (m : MM) : Runs e_X12_bitsOf [.int (nI n)] m (fun r m' => r = .int (nI (popN n)) ∧ m' = m) := by
  apply b_X12_bitsOf
  refine for_up (fun k => [(0, .int (nI n)), (1, .int (nI (fb_ct n.testBit k))), (2, .int (nI k))]) (fun k m' => m' = m) 16 ?_ ?_ 0 _ (Nat.zero_le _) rfl
  · intro m k1
    apply b_X12_bitsOf_4
    simp (disch := omega) only [lin, nI_add, pk_mul, s_sub, s_addneg, s_leT, s_leF, s_ltT, s_ltF, s_eqF, s_inT, s_neF, s_neF', s_neE, s_nleT, s_nleF, s_nltF, s_nltT, eq_self, nI_clamp, s_wIk, s_wIo, pk_us, pk_un, Nat.reduceAdd, Nat.reduceMul, Nat.reduceSub, Nat.zero_add, Nat.add_zero, Nat.mul_zero, true_implies, false_implies, implies_true, not_true, not_false, and_true, true_and, not_true_eq_false, not_false_eq_true, forall_const]
    exact ⟨rfl, k1⟩
  · intro k m hk k1 hn2
    have e := hn2 m k1
    rw [fb_ct_succ] at e
    have e2 := shr_bit (n := n) (k := k) (by omega) (by omega)
    apply b_X12_bitsOf_4
    rw [e2]
    simp (disch := omega) only [lin, nI_add, pk_mul, s_sub, s_addneg, s_leT, s_leF, s_ltT, s_ltF, s_eqF, s_inT, s_neF, s_neF', s_neE, s_nleT, s_nleF, s_nltF, s_nltT, eq_self, nI_clamp, s_wIk, s_wIo, pk_us, pk_un, Nat.reduceAdd, Nat.reduceMul, Nat.reduceSub, Nat.zero_add, Nat.add_zero, Nat.mul_zero, true_implies, false_implies, implies_true, not_true, not_false, and_true, true_and, not_true_eq_false, not_false_eq_true, forall_const]
    exact e
def nbS (st : Nat → Int32) (h : Nat) : Nat → Nat
  | 0 => 0
  | s + 1 => if st (120 + 3 * s + 1) < 0 then nbS st h s else
    bif decide (stB st s = h) then (bif decide (stA st s = h) then nbS st h s ||| 2 ^ stB st s else nbS st h s) ||| 2 ^ stA st s
    else (bif decide (stA st s = h) then nbS st h s ||| 2 ^ stB st s else nbS st h s)
def nbN (st : Nat → Int32) (h : Nat) : Nat := nbS st h (st 3).toNatClampNeg
theorem StairM.ab {st : Nat → Int32} {s : Nat} (h : StairM st s) : stA st s < 16 ∧ st (120 + 3 * s) = nI (stA st s) ∧ (st (120 + 3 * s + 1) = -nI 1 ∨ (stB st s < 16 ∧ stB st s ≠ stA st s ∧ st (120 + 3 * s + 1) = nI (stB st s))) := by
  obtain ⟨a, r, ha, hr, ea, er, hb⟩ := h
  have hA : stA st s = a := by unfold stA; rw [ea, nI_clamp (by omega)]
  rw [hA]
  refine ⟨ha, ea, ?_⟩
  rcases hb with eb | ⟨b, hb, hba, eb⟩
  · exact Or.inl eb
  · have hB : stB st s = b := by unfold stB; rw [eb, nI_clamp (by omega)]
    rw [hB]
    exact Or.inr ⟨hb, hba, eb⟩
theorem nbS_ok {st : Nat → Int32} {h S : Nat} (hS : ∀ s, s < S → StairM st s) : ∀ s, s ≤ S → nbS st h s < 2 ^ 16 ∧ (nbS st h s).testBit h = false
  | 0, _ => ⟨by show 0 < 2 ^ 16; decide, by simp [nbS]⟩
  | s + 1, hs => by
    obtain ⟨i1, i2⟩ := nbS_ok hS s (by omega)
    obtain ⟨a1, a2, a3⟩ := (hS s (by omega)).ab
    unfold nbS
    rcases a3 with e | ⟨b1, b2, b3⟩
    · rw [e, if_pos (by decide)]
      exact ⟨i1, i2⟩
    · rw [b3, if_neg (nI_pos (by omega))]
      have pa : 2 ^ stA st s < 2 ^ 16 := Nat.pow_lt_pow_right (by decide) a1
      have pb : 2 ^ stB st s < 2 ^ 16 := Nat.pow_lt_pow_right (by decide) b1
      by_cases c1 : stB st s = h
      · have c2 : ¬ stA st s = h := fun z => b2 (c1.trans z.symm)
        simp only [c1, c2, decide_true, decide_false, cond_true, cond_false]
        exact ⟨Nat.or_lt_two_pow i1 pa, by rw [Nat.testBit_or, i2, tb_pow]; simp [c2]⟩
      · by_cases c2 : stA st s = h
        · simp only [c1, c2, decide_true, decide_false, cond_true, cond_false]
          exact ⟨Nat.or_lt_two_pow i1 pb, by rw [Nat.testBit_or, i2, tb_pow]; simp [c1]⟩
        · simp only [c1, c2, decide_false, cond_false]
          exact ⟨i1, i2⟩
theorem pop_lt {n h : Nat} (hh : h < 16) (hb : n.testBit h = false) : popN n < 16 := by
  have h1 : popN n ≤ 16 := fb_ct_le _ _
  rcases Nat.lt_or_ge (popN n) 16 with h2 | h2
  · exact h2
  · have h3 : fb_ct n.testBit 16 = 16 := Nat.le_antisymm h1 h2
    have := (fb_ct_all.mp h3) h hh
    rw [hb] at this
    cases this
theorem nbC_ok {mm : MM} {t h : Nat} (ht : isT t) (hT : TownM (mm.1 162)) (hC : TownC mm.1 t) (hh : h < 16) (m : MM) (hm : Kq mm m) : Runs e_X8_neighbours [.ref t, .int (nI h)] m (fun r m' => r = .int (nI (nbN (mm.1 162) h)) ∧ m' = m) := by
  obtain ⟨H, S, Qn, h16, s12, q4, eH, eS, eQ, hS, hQ⟩ := hT
  have eN : nbN (mm.1 162) h = nbS (mm.1 162) h S := by unfold nbN; rw [eS, nI_clamp (by omega)]
  rw [eN]
  have e10 : m.1 t 10 = nI S := by rw [hm.t0 ht, hC.2.1, eS]
  apply b_X8_neighbours _ _ _ _ ht.at
  refine for_up (fun q => [(0, .ref t), (1, .int (nI h)), (2, .int (nI (nbS (mm.1 162) h q))), (3, .int (nI q))]) (fun q m' => m' = m) S ?_ ?_ 0 _ (Nat.zero_le _) rfl
  · rintro m' rfl
    apply b_X8_neighbours_4 _ _ _ _ _ _ ht.at
    simp (disch := omega) only [lin, nI_add, pk_mul, s_sub, s_addneg, s_leT, s_leF, s_ltT, s_ltF, s_eqF, s_inT, s_neF, s_neF', s_neE, s_nleT, s_nleF, s_nltF, s_nltT, eq_self, nI_clamp, s_wIk, s_wIo, pk_us, pk_un, Nat.reduceAdd, Nat.reduceMul, Nat.reduceSub, Nat.zero_add, Nat.add_zero, Nat.mul_zero, true_implies, false_implies, implies_true, not_true, not_false, and_true, true_and, not_true_eq_false, not_false_eq_true, forall_const, e10]
  · rintro q m' hq rfl hn
    obtain ⟨a1, a2, a3⟩ := (hS q hq).ab
    obtain ⟨e4, e5, e6⟩ := hC.2.2.2 q (by rw [eS]; exact nI_lt hq (by omega)) (by omega)
    have hn2 := hn m' rfl
    have eu : nbS (mm.1 162) h (q + 1) = if mm.1 162 (120 + 3 * q + 1) < 0 then nbS (mm.1 162) h q else
      bif decide (stB (mm.1 162) q = h) then (bif decide (stA (mm.1 162) q = h) then nbS (mm.1 162) h q ||| 2 ^ stB (mm.1 162) q else nbS (mm.1 162) h q) ||| 2 ^ stA (mm.1 162) q
      else (bif decide (stA (mm.1 162) q = h) then nbS (mm.1 162) h q ||| 2 ^ stB (mm.1 162) q else nbS (mm.1 162) h q) := rfl
    simp only [eu] at hn2
    have v := vp_in_nI (n := q) (N := 12) (by omega) (by omega)
    apply b_X8_neighbours_4 _ _ _ _ _ _ ht.at
    rw [hm.t4 ht, hm.t5 ht, nI_clamp (show q < 2 ^ 31 by omega), e4, e5, e10, a2, bitOf_v m' a1, nI_1 q]
    have hA : (nI (stA (mm.1 162) q) = nI h) ↔ stA (mm.1 162) q = h := nI_eq (by omega) (by omega)
    rcases a3 with e | ⟨b1, b2, b3⟩
    · rw [e, if_pos (by decide)] at hn2
      have hB : ¬ (-nI 1 : Int32) = nI h := fun z => of_eq_false (s_neF' (b := 1) (Or.inr (by omega)) (by omega) (by omega)) z
      rw [e, bitOf_m]
      have e0 : nI (nbS (mm.1 162) h q) ||| 0 = nI (nbS (mm.1 162) h q) := by rw [show (0 : Int32) = nI 0 from rfl, fa_or, Nat.or_zero]
      rw [e0]
      exact ⟨fun z => absurd z (nI_ge hq (by omega)), fun _ => ⟨v, fun _ => ⟨v, fun _ => hn2, fun z => absurd z hB⟩, fun _ => ⟨v, v, fun _ => hn2, fun z => absurd z hB⟩⟩⟩
    · rw [b3, if_neg (nI_pos (by omega))] at hn2
      have hB : (nI (stB (mm.1 162) q) = nI h) ↔ stB (mm.1 162) q = h := nI_eq (by omega) (by omega)
      rw [b3, bitOf_v m' b1, fa_or, fa_or, fa_or, hA, hB]
      refine ⟨fun z => absurd z (nI_ge hq (by omega)), fun _ => ⟨v, fun d1 => ⟨v, fun d2 => ?_, fun d2 => ⟨v, ?_⟩⟩, fun d1 => ⟨v, v, fun d2 => ?_, fun d2 => ⟨v, ?_⟩⟩⟩⟩
      · simp only [d1, d2, decide_true, decide_false, cond_true, cond_false] at hn2
        exact hn2
      · rw [decide_eq_true d2, decide_eq_false d1] at hn2
        exact hn2
      · rw [decide_eq_false d2, decide_eq_true d1] at hn2
        exact hn2
      · rw [decide_eq_true d2, decide_eq_true d1] at hn2
        exact hn2
theorem gone_ok {mm : MM} {h X : Nat} (hT : TownM (mm.1 162)) (hh : h < 16) (hX : X < 65536) (m : MM) (hm : m.1 162 = mm.1 162) : Runs e_X12_goneBeside [.ref 156, .int (nI h), .int (nI X)] m (fun r m' => r = .int (nI (popN (nbN (mm.1 162) h &&& X))) ∧ m' = m) := by
  obtain ⟨H, S, Qn, h16, s12, q4, eH, eS, eQ, hS, hQ⟩ := hT
  have eN : nbN (mm.1 162) h = nbS (mm.1 162) h S := by unfold nbN; rw [eS, nI_clamp (by omega)]
  rw [eN]
  apply b_X12_goneBeside
  refine for_up (fun q => [(0, .ref 156), (1, .int (nI h)), (2, .int (nI X)), (3, .int (nI (nbS (mm.1 162) h q))), (4, .int (nI q))]) (fun q m' => m' = m) S ?_ ?_ 0 _ (Nat.zero_le _) rfl
  · rintro m' rfl
    apply b_X12_goneBeside_5
    rw [hm, eS, fa_and]
    refine ⟨fun _ => icall (bitsOf_eq (Nat.lt_of_le_of_lt Nat.and_le_right hX) m') fun m k => ⟨rfl, k⟩, fun z => absurd (nI_le (Nat.le_refl S) (by omega)) z⟩
  · rintro q m' hq rfl hn
    obtain ⟨a1, a2, a3⟩ := (hS q hq).ab
    have hn2 := hn m' rfl
    have eu : nbS (mm.1 162) h (q + 1) = if mm.1 162 (120 + 3 * q + 1) < 0 then nbS (mm.1 162) h q else
      bif decide (stB (mm.1 162) q = h) then (bif decide (stA (mm.1 162) q = h) then nbS (mm.1 162) h q ||| 2 ^ stB (mm.1 162) q else nbS (mm.1 162) h q) ||| 2 ^ stA (mm.1 162) q
      else (bif decide (stA (mm.1 162) q = h) then nbS (mm.1 162) h q ||| 2 ^ stB (mm.1 162) q else nbS (mm.1 162) h q) := rfl
    simp only [eu] at hn2
    apply b_X12_goneBeside_5
    have i1 : ((120 : Int32) + 3 * nI q).toNatClampNeg = 120 + 3 * q := by simp (disch := omega) only [lin, nI_add, pk_mul, s_sub, s_addneg, s_leT, s_leF, s_ltT, s_ltF, s_eqF, s_inT, s_neF, s_neF', s_neE, s_nleT, s_nleF, s_nltF, s_nltT, eq_self, nI_clamp, s_wIk, s_wIo, pk_us, pk_un, Nat.reduceAdd, Nat.reduceMul, Nat.reduceSub, Nat.zero_add, Nat.add_zero, Nat.mul_zero, true_implies, false_implies, implies_true, not_true, not_false, and_true, true_and, not_true_eq_false, not_false_eq_true, forall_const]
    have i2 : ((120 : Int32) + 3 * nI q + 1).toNatClampNeg = 120 + 3 * q + 1 := by simp (disch := omega) only [lin, nI_add, pk_mul, s_sub, s_addneg, s_leT, s_leF, s_ltT, s_ltF, s_eqF, s_inT, s_neF, s_neF', s_neE, s_nleT, s_nleF, s_nltF, s_nltT, eq_self, nI_clamp, s_wIk, s_wIo, pk_us, pk_un, Nat.reduceAdd, Nat.reduceMul, Nat.reduceSub, Nat.zero_add, Nat.add_zero, Nat.mul_zero, true_implies, false_implies, implies_true, not_true, not_false, and_true, true_and, not_true_eq_false, not_false_eq_true, forall_const]
    have v1 : vp_in ((120 : Int32) + 3 * nI q) 420 := by simp (disch := omega) only [lin, nI_add, pk_mul, s_sub, s_addneg, s_leT, s_leF, s_ltT, s_ltF, s_eqF, s_inT, s_neF, s_neF', s_neE, s_nleT, s_nleF, s_nltF, s_nltT, eq_self, nI_clamp, s_wIk, s_wIo, pk_us, pk_un, Nat.reduceAdd, Nat.reduceMul, Nat.reduceSub, Nat.zero_add, Nat.add_zero, Nat.mul_zero, true_implies, false_implies, implies_true, not_true, not_false, and_true, true_and, not_true_eq_false, not_false_eq_true, forall_const]
    have v2 : vp_in ((120 : Int32) + 3 * nI q + 1) 420 := by simp (disch := omega) only [lin, nI_add, pk_mul, s_sub, s_addneg, s_leT, s_leF, s_ltT, s_ltF, s_eqF, s_inT, s_neF, s_neF', s_neE, s_nleT, s_nleF, s_nltF, s_nltT, eq_self, nI_clamp, s_wIk, s_wIo, pk_us, pk_un, Nat.reduceAdd, Nat.reduceMul, Nat.reduceSub, Nat.zero_add, Nat.add_zero, Nat.mul_zero, true_implies, false_implies, implies_true, not_true, not_false, and_true, true_and, not_true_eq_false, not_false_eq_true, forall_const]
    rw [hm, i1, i2, eS, a2, ib _ (show stA (mm.1 162) q < 32 by omega), nI_1 q]
    have hA : (nI (stA (mm.1 162) q) = nI h) ↔ stA (mm.1 162) q = h := nI_eq (by omega) (by omega)
    rcases a3 with e | ⟨b1, b2, b3⟩
    · rw [e, if_pos (by decide)] at hn2
      rw [e]
      exact ⟨fun z => absurd z (nI_ge hq (by omega)), fun _ => ⟨v1, v2, fun z => absurd z (by decide), fun _ => hn2⟩⟩
    · rw [b3, if_neg (nI_pos (by omega))] at hn2
      have hB : (nI (stB (mm.1 162) q) = nI h) ↔ stB (mm.1 162) q = h := nI_eq (by omega) (by omega)
      rw [b3, ib _ (show stB (mm.1 162) q < 32 by omega), fa_or, fa_or, fa_or, hA, hB]
      refine ⟨fun z => absurd z (nI_ge hq (by omega)), fun _ => ⟨v1, v2, fun _ => ⟨fun d1 => ⟨fun d2 => ?_, fun d2 => ?_⟩, fun d1 => ⟨fun d2 => ?_, fun d2 => ?_⟩⟩, fun z => absurd (nI_pos' (by omega)) z⟩⟩
      · rw [decide_eq_false d2, decide_eq_false d1] at hn2
        exact hn2
      · rw [decide_eq_true d2, decide_eq_false d1] at hn2
        exact hn2
      · rw [decide_eq_false d2, decide_eq_true d1] at hn2
        exact hn2
      · rw [decide_eq_true d2, decide_eq_true d1] at hn2
        exact hn2
theorem isFalling_ok {mm : MM} {h X F : Nat} (hh : h < 16) (hX : X < 65536) (hT : TownM (mm.1 162)) (hr : RankOK mm.1 h) (hL : LawM mm.1 2) (hF : mm.1 162 8 = nI F) (hF4 : F ≤ 4) (hR : ∀ k, k < F → RuleOK mm.1 190 k) (w : Int32) (m : MM) (hm : Ke mm m) : Runs e_X12_isFalling [.ref 156, .int (nI h), .int w, .int (nI X)] m (fun r m' => r = .int (bI (fallV mm.1 h w (nI (popN (nbN (mm.1 162) h &&& X))))) ∧ Ke mm m') := by
  have hv : fallV mm.1 h w (nI (popN (nbN (mm.1 162) h &&& X))) = anyV (ruleV mm.1 (upd (upd (askL mm.1 h w) 7 (nI (popN (nbN (mm.1 162) h &&& X)))) 8 (swayV mm.1 h w)) 190) F := by unfold fallV; rw [hF, nI_clamp (by omega)]
  apply b_X12_isFalling
  refine icall (sway_okE w hh hr hL m hm) ?_
  intro m1 q1
  refine vcall (look_okE w hh hr m1 q1) ?_
  rintro m2 ⟨q2, q3⟩
  refine icall (gone_ok hT hh hX m2 q2.r162) ?_
  rintro m3 rfl
  refine bcall (isRule_okE (q := 8) (b := 190) (by omega) (Or.inl rfl) hF hF4 hR _ ((q2.w _ rfl).w _ rfl) ((q3.u 7 rfl).u 8 rfl)) ?_ ?_
  · rintro el m3 ⟨q4, -⟩
    exact ⟨by rw [hv, el]; rfl, q4⟩
  · rintro el m3 ⟨q4, -⟩
    exact ⟨by rw [hv, el]; rfl, q4⟩

/-! the judging of WORKS, the model's pieces -/
theorem makes162_ok {m : MM} {Q : Value → MM → Prop} {W h e x : Nat} {ln pv : Nat → Nat} (h8 : W ≤ 8) (hh : h < 16) (hx : x ≤ 99) (he : e ≤ x) (ex : m.1 163 (10 + h) = nI x) (e5 : m.1 162 5 = nI W) (hw : ∀ w, w < W → ln w ≤ 60 ∧ m.1 162 (170 + 2 * w) = nI (ln w) ∧ pv w ≤ 99 ∧ m.1 163 (50 + w) = nI (pv w))
    (hQ : ∀ m' : MM, m'.2 = m.2 → (∀ y, y ≠ 163 → m'.1 y = m.1 y) → (∀ j, j ≠ 10 + h → (j < 50 ∨ 58 ≤ j) → m'.1 163 j = m.1 163 j) → m'.1 163 (10 + h) = nI (x - e) → (∀ w, w < W → m'.1 163 (50 + w) = nI (kpP W ln pv e w)) → Q (.int 0) m') :
    G e_X12_makes 162 [(0, .ref 156), (3, .int (nI h)), (4, .int (-nI e)), (5, .int (nI 0))] [] m Q := by
  have ih : ((10 : Int32) + nI h).toNatClampNeg = 10 + h := by simp (disch := omega) only [lin, nI_add, pk_mul, s_sub, s_addneg, s_leT, s_leF, s_ltT, s_ltF, s_eqF, s_inT, s_neF, s_neF', s_neE, s_nleT, s_nleF, s_nltF, s_nltT, eq_self, nI_clamp, s_wIk, s_wIo, pk_us, pk_un, Nat.reduceAdd, Nat.reduceMul, Nat.reduceSub, Nat.zero_add, Nat.add_zero, Nat.mul_zero, true_implies, false_implies, implies_true, not_true, not_false, and_true, true_and, not_true_eq_false, not_false_eq_true, forall_const]
  have vh : vp_in ((10 : Int32) + nI h) 1260 := by simp (disch := omega) only [lin, nI_add, pk_mul, s_sub, s_addneg, s_leT, s_leF, s_ltT, s_ltF, s_eqF, s_inT, s_neF, s_neF', s_neE, s_nleT, s_nleF, s_nltF, s_nltT, eq_self, nI_clamp, s_wIk, s_wIo, pk_us, pk_un, Nat.reduceAdd, Nat.reduceMul, Nat.reduceSub, Nat.zero_add, Nat.add_zero, Nat.mul_zero, true_implies, false_implies, implies_true, not_true, not_false, and_true, true_and, not_true_eq_false, not_false_eq_true, forall_const]
  refine for_up (Y := e_X12_makes) (pc := 162) (fun k => [(0, .ref 156), (3, .int (nI h)), (4, .int (-nI e)), (5, .int (nI k))]) (fun k m' => m' = m ∧ ∀ j, j < k → ln j ≠ e) W ?_ ?_ 0 m (by omega) ⟨rfl, fun j hj => absurd hj (by omega)⟩
  · rintro m' ⟨rfl, hno⟩
    refine b_X12_makes_162 _ _ _ _ _ ?_
    rw [ih, e5, ex, s_addneg he]
    refine ⟨fun _ => ⟨vh, vh, hQ _ rfl (fun y hy => wI_o hy) (fun j h1 _ => by rw [wI_k, pk_un h1]) (by rw [wI_k, pk_us]) fun w hw' => ?_⟩, fun z => absurd (nI_le (Nat.le_refl _) (by omega)) z⟩
    have e : fa_first (fun w => decide (ln w = e)) W = W := fa_first_none (fun j hj => by simpa using hno j hj)
    rw [wI_k, pk_un (by omega)]
    unfold kpP
    rw [e, if_neg (by omega)]
    exact (hw w hw').2.2.2
  · rintro k m' hk ⟨rfl, hno⟩ hg
    obtain ⟨l1, l2, p1, p2⟩ := hw k hk
    have i5 : ((50 : Int32) + nI k).toNatClampNeg = 50 + k := by simp (disch := omega) only [lin, nI_add, pk_mul, s_sub, s_addneg, s_leT, s_leF, s_ltT, s_ltF, s_eqF, s_inT, s_neF, s_neF', s_neE, s_nleT, s_nleF, s_nltF, s_nltT, eq_self, nI_clamp, s_wIk, s_wIo, pk_us, pk_un, Nat.reduceAdd, Nat.reduceMul, Nat.reduceSub, Nat.zero_add, Nat.add_zero, Nat.mul_zero, true_implies, false_implies, implies_true, not_true, not_false, and_true, true_and, not_true_eq_false, not_false_eq_true, forall_const]
    have v5 : vp_in ((50 : Int32) + nI k) 1260 := by simp (disch := omega) only [lin, nI_add, pk_mul, s_sub, s_addneg, s_leT, s_leF, s_ltT, s_ltF, s_eqF, s_inT, s_neF, s_neF', s_neE, s_nleT, s_nleF, s_nltF, s_nltT, eq_self, nI_clamp, s_wIk, s_wIo, pk_us, pk_un, Nat.reduceAdd, Nat.reduceMul, Nat.reduceSub, Nat.zero_add, Nat.add_zero, Nat.mul_zero, true_implies, false_implies, implies_true, not_true, not_false, and_true, true_and, not_true_eq_false, not_false_eq_true, forall_const]
    have i7 : ((170 : Int32) + 2 * nI k).toNatClampNeg = 170 + 2 * k := by simp (disch := omega) only [lin, nI_add, pk_mul, s_sub, s_addneg, s_leT, s_leF, s_ltT, s_ltF, s_eqF, s_inT, s_neF, s_neF', s_neE, s_nleT, s_nleF, s_nltF, s_nltT, eq_self, nI_clamp, s_wIk, s_wIo, pk_us, pk_un, Nat.reduceAdd, Nat.reduceMul, Nat.reduceSub, Nat.zero_add, Nat.add_zero, Nat.mul_zero, true_implies, false_implies, implies_true, not_true, not_false, and_true, true_and, not_true_eq_false, not_false_eq_true, forall_const]
    have v7 : vp_in ((170 : Int32) + 2 * nI k) 420 := by simp (disch := omega) only [lin, nI_add, pk_mul, s_sub, s_addneg, s_leT, s_leF, s_ltT, s_ltF, s_eqF, s_inT, s_neF, s_neF', s_neE, s_nleT, s_nleF, s_nltF, s_nltT, eq_self, nI_clamp, s_wIk, s_wIo, pk_us, pk_un, Nat.reduceAdd, Nat.reduceMul, Nat.reduceSub, Nat.zero_add, Nat.add_zero, Nat.mul_zero, true_implies, false_implies, implies_true, not_true, not_false, and_true, true_and, not_true_eq_false, not_false_eq_true, forall_const]
    refine b_X12_makes_162 _ _ _ _ _ ?_
    rw [ih, e5, i7, l2, i5, p2, Int32.neg_neg]
    refine ⟨fun z => absurd z (nI_ge hk (by omega)), fun _ => ⟨v7, fun c => ?_, fun c => ?_⟩⟩
    · have c : ln k = e := (nI_eq (by omega) (by omega)).mp c
      have e2 : fa_first (fun w => decide (ln w = e)) W = k := fa_first_at hk (by simpa using c) (fun j hj => by simpa using hno j hj)
      have kp : ∀ w, kpP W ln pv e w = if w < W ∧ w = k then min 99 (pv w + 1) else pv w := fun w => by unfold kpP; rw [e2]
      refine ⟨v5, fun c9 => ⟨vh, vh, ?_⟩, fun c9 => ⟨v5, v5, vh, vh, ?_⟩⟩
      · have c9 : ¬ pv k < 99 := fun z => absurd c9 (nI_ge (a := pv k) (b := 99) z (by omega))
        rw [ex, s_addneg he]
        refine hQ _ rfl (fun y hy => wI_o hy) (fun j h1 _ => by rw [wI_k, pk_un h1]) (by rw [wI_k, pk_us]) fun w hw' => ?_
        rw [wI_k, pk_un (by omega), kp]
        by_cases cc : w = k
        · subst cc
          rw [if_pos ⟨hw', rfl⟩, show min 99 (pv w + 1) = pv w by omega]; exact p2
        · rw [if_neg (fun z => cc z.2)]; exact (hw w hw').2.2.2
      · have c9 : pv k < 99 := by
          rcases Nat.lt_or_ge (pv k) 99 with z | z
          · exact z
          · exact absurd (nI_le (a := 99) (b := pv k) z (by omega)) c9
        have e10 : (wI m' 163 (50 + k) (nI (pv k) + 1)).1 163 (10 + h) = nI x := by rw [wI_k, pk_un (by omega)]; exact ex
        rw [e10, s_addneg he, nI_1]
        refine hQ _ rfl (fun y hy => by rw [wI_o hy, wI_o hy]) (fun j h1 h2 => by rw [wI_k, pk_un h1, wI_k, pk_un (by omega)]) (by rw [wI_k, pk_us]) fun w hw' => ?_
        rw [wI_k, pk_un (by omega), wI_k, kp]
        by_cases cc : w = k
        · subst cc
          rw [if_pos ⟨hw', rfl⟩, pk_us, show min 99 (pv w + 1) = pv w + 1 by omega]
        · rw [if_neg (fun z => cc z.2), pk_un (by omega)]; exact (hw w hw').2.2.2
    · rw [nI_1]
      exact hg m' ⟨rfl, fun j hj => by
        by_cases cc : j = k
        · intro z; exact c (by rw [← cc, z])
        · exact hno j (by omega)⟩
theorem makes123_ok {m : MM} {Q : Value → MM → Prop} {W h e x : Nat} {u pv : Nat → Nat} (h8 : W ≤ 8) (hh : h < 16) (hx : x + e ≤ 99) (ex : m.1 163 (10 + h) = nI x) (hw : ∀ w, w < W → u w ≤ pv w ∧ pv w ≤ 99 ∧ m.1 182 w = nI (u w) ∧ m.1 163 (50 + w) = nI (pv w))
    (hQ : ∀ m' : MM, m'.2 = m.2 → (∀ y, y ≠ 163 → m'.1 y = m.1 y) → (∀ j, j ≠ 10 + h → (j < 50 ∨ 58 ≤ j) → m'.1 163 j = m.1 163 j) → m'.1 163 (10 + h) = nI (x + e) → (∀ w, w < W → m'.1 163 (50 + w) = nI (pv w - u w)) → Q (.int 0) m') :
    G e_X12_makes 123 [(0, .ref 156), (3, .int (nI h)), (4, .int (nI e)), (6, .int (nI 0))] [] m Q := by
  have ih : ((10 : Int32) + nI h).toNatClampNeg = 10 + h := by simp (disch := omega) only [lin, nI_add, pk_mul, s_sub, s_addneg, s_leT, s_leF, s_ltT, s_ltF, s_eqF, s_inT, s_neF, s_neF', s_neE, s_nleT, s_nleF, s_nltF, s_nltT, eq_self, nI_clamp, s_wIk, s_wIo, pk_us, pk_un, Nat.reduceAdd, Nat.reduceMul, Nat.reduceSub, Nat.zero_add, Nat.add_zero, Nat.mul_zero, true_implies, false_implies, implies_true, not_true, not_false, and_true, true_and, not_true_eq_false, not_false_eq_true, forall_const]
  have vh : vp_in ((10 : Int32) + nI h) 1260 := by simp (disch := omega) only [lin, nI_add, pk_mul, s_sub, s_addneg, s_leT, s_leF, s_ltT, s_ltF, s_eqF, s_inT, s_neF, s_neF', s_neE, s_nleT, s_nleF, s_nltF, s_nltT, eq_self, nI_clamp, s_wIk, s_wIo, pk_us, pk_un, Nat.reduceAdd, Nat.reduceMul, Nat.reduceSub, Nat.zero_add, Nat.add_zero, Nat.mul_zero, true_implies, false_implies, implies_true, not_true, not_false, and_true, true_and, not_true_eq_false, not_false_eq_true, forall_const]
  refine for_up (Y := e_X12_makes) (pc := 123) (fun k => [(0, .ref 156), (3, .int (nI h)), (4, .int (nI e)), (6, .int (nI k))]) (fun k m' => m'.2 = m.2 ∧ (∀ y, y ≠ 163 → m'.1 y = m.1 y) ∧ (∀ j, (j < 50 ∨ 58 ≤ j) → m'.1 163 j = m.1 163 j) ∧ (∀ w, w < k → w < W → m'.1 163 (50 + w) = nI (pv w - u w)) ∧ ∀ w, k ≤ w → m'.1 163 (50 + w) = m.1 163 (50 + w)) 8 ?_ ?_ 0 m (by omega) ⟨rfl, fun _ _ => rfl, fun _ _ => rfl, fun w hw' => absurd hw' (by omega), fun _ _ => rfl⟩
  · rintro m' ⟨q1, q2, q3, q4, -⟩
    refine b_X12_makes_123 _ _ _ _ _ ?_
    rw [ih, q3 (10 + h) (by omega), ex, nI_add]
    exact ⟨fun _ => ⟨vh, vh, hQ _ q1 (fun y hy => by rw [wI_o hy]; exact q2 y hy) (fun j h1 h2 => by rw [wI_k, pk_un h1]; exact q3 j h2) (by rw [wI_k, pk_us]) fun w hw' => by rw [wI_k, pk_un (by omega)]; exact q4 w (by omega) hw'⟩, fun z => absurd (by rfl) z⟩
  · rintro k m' hk ⟨q1, q2, q3, q4, q5⟩ hg
    have i5 : ((50 : Int32) + nI k).toNatClampNeg = 50 + k := by simp (disch := omega) only [lin, nI_add, pk_mul, s_sub, s_addneg, s_leT, s_leF, s_ltT, s_ltF, s_eqF, s_inT, s_neF, s_neF', s_neE, s_nleT, s_nleF, s_nltF, s_nltT, eq_self, nI_clamp, s_wIk, s_wIo, pk_us, pk_un, Nat.reduceAdd, Nat.reduceMul, Nat.reduceSub, Nat.zero_add, Nat.add_zero, Nat.mul_zero, true_implies, false_implies, implies_true, not_true, not_false, and_true, true_and, not_true_eq_false, not_false_eq_true, forall_const]
    have v5 : vp_in ((50 : Int32) + nI k) 1260 := by simp (disch := omega) only [lin, nI_add, pk_mul, s_sub, s_addneg, s_leT, s_leF, s_ltT, s_ltF, s_eqF, s_inT, s_neF, s_neF', s_neE, s_nleT, s_nleF, s_nltF, s_nltT, eq_self, nI_clamp, s_wIk, s_wIo, pk_us, pk_un, Nat.reduceAdd, Nat.reduceMul, Nat.reduceSub, Nat.zero_add, Nat.add_zero, Nat.mul_zero, true_implies, false_implies, implies_true, not_true, not_false, and_true, true_and, not_true_eq_false, not_false_eq_true, forall_const]
    refine b_X12_makes_123 _ _ _ _ _ ?_
    rw [i5, nI_clamp (by omega), nI_1]
    refine ⟨fun z => absurd (show nI 8 ≤ nI k from z) (nI_ge hk (by omega)), fun _ => ⟨v5, vp_in_nI (by omega) (by omega), v5, hg _ ⟨q1, fun y hy => by rw [wI_o hy]; exact q2 y hy, fun j hj => by rw [wI_k, pk_un (by omega)]; exact q3 j hj, fun w h1 h2 => ?_, fun w h1 => by rw [wI_k, pk_un (by omega)]; exact q5 w (by omega)⟩⟩⟩
    rw [wI_k]
    by_cases cc : w = k
    · subst cc
      obtain ⟨u1, u2, u3, u4⟩ := hw w h2
      rw [pk_us, q5 w (Nat.le_refl _), u4, q2 182 (by decide), u3, s_sub u1]
    · rw [pk_un (by omega)]; exact q4 w (by omega) h2

/-! the same for what only a formula's reckoning writes -/
def ke (a b : Nat) : Bool := bif a == 18 || a == 108 then !(b == 6 || b == 7) else bif a == 156 then !(b == 35) else !(a == 22 || a == 23 || a == 112 || a == 113 || a == 179 || a == 180)
abbrev Ke (mm m : MM) : Prop := Kp ke mm m
theorem Ke.r157 {mm m : MM} (h : Ke mm m) : m.1 157 = mm.1 157 := h.row 157 fun _ => rfl
theorem Ke.r162 {mm m : MM} (h : Ke mm m) : m.1 162 = mm.1 162 := h.row 162 fun _ => rfl
theorem Ke.r163 {mm m : MM} (h : Ke mm m) : m.1 163 = mm.1 163 := h.row 163 fun _ => rfl
theorem Ke.r165 {mm m : MM} (h : Ke mm m) : m.1 165 = mm.1 165 := h.row 165 fun _ => rfl
theorem Ke.r166 {mm m : MM} (h : Ke mm m) : m.1 166 = mm.1 166 := h.row 166 fun _ => rfl
theorem Ke.r168 {mm m : MM} (h : Ke mm m) : m.1 168 = mm.1 168 := h.row 168 fun _ => rfl
theorem Ke.r169 {mm m : MM} (h : Ke mm m) : m.1 169 = mm.1 169 := h.row 169 fun _ => rfl
theorem Ke.r170 {mm m : MM} (h : Ke mm m) : m.1 170 = mm.1 170 := h.row 170 fun _ => rfl
theorem Ke.r171 {mm m : MM} (h : Ke mm m) : m.1 171 = mm.1 171 := h.row 171 fun _ => rfl
theorem Ke.r172 {mm m : MM} (h : Ke mm m) : m.1 172 = mm.1 172 := h.row 172 fun _ => rfl
theorem Ke.r173 {mm m : MM} (h : Ke mm m) : m.1 173 = mm.1 173 := h.row 173 fun _ => rfl
theorem Ke.r174 {mm m : MM} (h : Ke mm m) : m.1 174 = mm.1 174 := h.row 174 fun _ => rfl
theorem Ke.r189 {mm m : MM} (h : Ke mm m) : m.1 189 = mm.1 189 := h.row 189 fun _ => rfl
theorem Ke.r96 {mm m : MM} (h : Ke mm m) : m.1 96 = mm.1 96 := h.row 96 fun _ => rfl
theorem Ke.r99 {mm m : MM} (h : Ke mm m) : m.1 99 = mm.1 99 := h.row 99 fun _ => rfl
theorem Ke.r6 {mm m : MM} (h : Ke mm m) : m.1 6 = mm.1 6 := h.row 6 fun _ => rfl
theorem Ke.tn {mm m : MM} (h : Ke mm m) {t : Nat} (ht : isT t) (i : Nat) (hi : i < 8) : m.1 (t + i) = mm.1 (t + i) := by
  refine h.row _ fun b => ?_
  have e : i = 0 ∨ i = 1 ∨ i = 2 ∨ i = 3 ∨ i = 4 ∨ i = 5 ∨ i = 6 ∨ i = 7 := by omega
  rcases ht with rfl | rfl <;> rcases e with rfl | rfl | rfl | rfl | rfl | rfl | rfl | rfl <;> rfl
theorem Ke.t0 {mm m : MM} (h : Ke mm m) {t : Nat} (ht : isT t) : m.1 t = mm.1 t := h.tn ht 0 (by omega)
theorem Ke.t1 {mm m : MM} (h : Ke mm m) {t : Nat} (ht : isT t) : m.1 (t + 1) = mm.1 (t + 1) := h.tn ht 1 (by omega)
theorem Ke.t2 {mm m : MM} (h : Ke mm m) {t : Nat} (ht : isT t) : m.1 (t + 2) = mm.1 (t + 2) := h.tn ht 2 (by omega)
theorem Ke.t3 {mm m : MM} (h : Ke mm m) {t : Nat} (ht : isT t) : m.1 (t + 3) = mm.1 (t + 3) := h.tn ht 3 (by omega)
theorem Ke.t4 {mm m : MM} (h : Ke mm m) {t : Nat} (ht : isT t) : m.1 (t + 4) = mm.1 (t + 4) := h.tn ht 4 (by omega)
theorem Ke.t5 {mm m : MM} (h : Ke mm m) {t : Nat} (ht : isT t) : m.1 (t + 5) = mm.1 (t + 5) := h.tn ht 5 (by omega)
theorem Ke.t6 {mm m : MM} (h : Ke mm m) {t : Nat} (ht : isT t) : m.1 (t + 6) = mm.1 (t + 6) := h.tn ht 6 (by omega)
theorem Ke.t7 {mm m : MM} (h : Ke mm m) {t : Nat} (ht : isT t) : m.1 (t + 7) = mm.1 (t + 7) := h.tn ht 7 (by omega)
theorem Ke.t9 {mm m : MM} (h : Ke mm m) {t : Nat} (ht : isT t) : m.1 (t + 8 + 1) = mm.1 (t + 8 + 1) := by
  refine h.row _ fun b => ?_
  rcases ht with rfl | rfl <;> rfl
theorem Ke.t10 {mm m : MM} (h : Ke mm m) {t : Nat} (ht : isT t) : m.1 (t + 8 + 2) = mm.1 (t + 8 + 2) := by
  refine h.row _ fun b => ?_
  rcases ht with rfl | rfl <;> rfl
theorem Ke.t11 {mm m : MM} (h : Ke mm m) {t : Nat} (ht : isT t) : m.1 (t + 8 + 3) = mm.1 (t + 8 + 3) := by
  refine h.row _ fun b => ?_
  rcases ht with rfl | rfl <;> rfl
theorem Ke.l {mm m : MM} (h : Ke mm m) {t : Nat} (ht : isT t) (j : Nat) (hj : (j == 6 || j == 7) = false) : m.1 (t + 8) j = mm.1 (t + 8) j := by
  refine h.g _ _ ?_
  rcases ht with rfl | rfl <;> (show (!(j == 6 || j == 7)) = true; rw [hj]; rfl)
theorem ke_l6 {t : Nat} (ht : isT t) : ke (t + 8) 6 = false := by rcases ht with rfl | rfl <;> rfl
theorem ke_l7 {t : Nat} (ht : isT t) : ke (t + 8) 7 = false := by rcases ht with rfl | rfl <;> rfl
theorem ke_vars {t : Nat} (ht : isT t) (b : Nat) : ke (t + 8 + 4) b = false := by rcases ht with rfl | rfl <;> rfl
theorem ke_stk {t : Nat} (ht : isT t) (b : Nat) : ke (t + 8 + 5) b = false := by rcases ht with rfl | rfl <;> rfl
theorem Ke.s {mm m : MM} (h : Ke mm m) {s : Nat} (hs : isS s) (i : Nat) (hi : i < 12) : m.1 (s + i) = mm.1 (s + i) := by
  refine h.row _ fun b => ?_
  have e : i = 0 ∨ i = 1 ∨ i = 2 ∨ i = 3 ∨ i = 4 ∨ i = 5 ∨ i = 6 ∨ i = 7 ∨ i = 8 ∨ i = 9 ∨ i = 10 ∨ i = 11 := by omega
  rcases hs with rfl | rfl | rfl | rfl <;> rcases e with rfl | rfl | rfl | rfl | rfl | rfl | rfl | rfl | rfl | rfl | rfl | rfl <;> rfl
theorem Ke.s0 {mm m : MM} (h : Ke mm m) {s : Nat} (hs : isS s) : m.1 s = mm.1 s := h.s hs 0 (by omega)
theorem sum_okE {mm : MM} {fr n : Nat} {a : Nat → Int32} (hs : SegOK (mm.1 165) (mm.1 166) fr n) (h1 : fr + n ≤ 1000) (h5 : n ≤ 500) (m : MM) (hm : Ke mm m) (ha : As m a) :
    Runs e_X12_sum [.ref 156, .int (nI fr), .int (nI (fr + n))] m (fun r m' => r = .int (sv (mr (mm.1 165) (mm.1 166) a fr n)) ∧ Ke mm m' ∧ As m' a ∧ m'.1 156 35 = bI (mr (mm.1 165) (mm.1 166) a fr n).isNone) := by
  apply b_X12_sum
  refine for_up (fun k => [(0, .ref 156), (2, .int (nI (fr + n))), (3, .int (nI (dp (mm.1 165) fr k))), (4, .int (nI (fr + k)))]) (fun k m => Ke mm m ∧ As m a ∧ m.1 156 35 = 0 ∧ ∃ S, mr (mm.1 165) (mm.1 166) a fr k = some S ∧ stk (m.1 180) S) n ?_ ?_ 0 _ (Nat.zero_le _) ⟨hm.w _ rfl, ha.o (by decide), by rw [wI_k, pk_us], [], rfl, trivial⟩
  · rintro m ⟨k1, k2, k3, S, k4, k5⟩
    apply b_X12_sum_10
    simp (disch := omega) only [lin, nI_add, pk_mul, s_sub, s_addneg, s_leT, s_leF, s_ltT, s_ltF, s_eqF, s_inT, s_neF, s_neF', s_neE, s_nleT, s_nleF, s_nltF, s_nltT, eq_self, nI_clamp, s_wIk, s_wIo, pk_us, pk_un, Nat.reduceAdd, Nat.reduceMul, Nat.reduceSub, Nat.zero_add, Nat.add_zero, Nat.mul_zero, true_implies, false_implies, implies_true, not_true, not_false, and_true, true_and, not_true_eq_false, not_false_eq_true, forall_const]
    refine ⟨?_, k1, k2, ?_⟩
    · have hl := mr_len hs.1 (Nat.le_refl n) k4
      rw [hs.2] at hl
      match S, hl, k4, k5 with
      | [v], _, k4, k5 =>
        rw [k4]
        exact congrArg Value.int k5.1
    · rw [k3, k4]; rfl
  · rintro k m hk ⟨k1, k2, k3, S, k4, k5⟩ hn
    obtain ⟨o, ho, eo, e1, e2⟩ := hs.1 k hk
    have hl := mr_len hs.1 (Nat.le_of_lt hk) k4
    have hd := dp_le (mm.1 165) fr k
    have em : mr (mm.1 165) (mm.1 166) a fr (k + 1) = ms (mm.1 165) (mm.1 166) a (fr + k) S := by
      show (mr (mm.1 165) (mm.1 166) a fr k).bind _ = _
      rw [k4]; rfl
    have ed : dp (mm.1 165) fr (k + 1) = if nI o < 2 then dp (mm.1 165) fr k + 1 else dp (mm.1 165) fr k - 1 := by rw [← eo]; rfl
    unfold ms at em
    rw [eo] at em
    rw [ed, ← hl] at hn
    rw [← hl]
    apply b_X12_sum_10
    rw [k1.r165, k1.r166]
    have ho' : o = 0 ∨ o = 1 ∨ o = 2 ∨ o = 3 ∨ o = 4 ∨ o = 5 := by omega
    rcases ho' with rfl | rfl | rfl | rfl | rfl | rfl
    · rw [if_pos (show nI 0 = 0 from rfl)] at em
      rw [if_pos (by decide)] at hn
      simp (disch := omega) only [lin, nI_add, pk_mul, s_sub, s_addneg, s_leT, s_leF, s_ltT, s_ltF, s_eqF, s_inT, s_neF, s_neF', s_neE, s_nleT, s_nleF, s_nltF, s_nltT, eq_self, nI_clamp, s_wIk, s_wIo, pk_us, pk_un, Nat.reduceAdd, Nat.reduceMul, Nat.reduceSub, Nat.zero_add, Nat.add_zero, Nat.mul_zero, true_implies, false_implies, implies_true, not_true, not_false, and_true, true_and, not_true_eq_false, not_false_eq_true, forall_const, eo]
      exact hn _ ⟨k1.w _ rfl, k2.o (by decide), by rw [wI_o (by decide)]; exact k3, _, em, by rw [wI_k]; exact stk_push k5⟩
    · obtain ⟨j, hj, ej⟩ := e1 rfl
      rw [if_neg (show ¬ nI 1 = 0 by decide), if_pos (show nI 1 = 1 from rfl), ej, nI_clamp (by omega)] at em
      rw [if_pos (by decide)] at hn
      have ea := k2 j hj
      simp (disch := omega) only [lin, nI_add, pk_mul, s_sub, s_addneg, s_leT, s_leF, s_ltT, s_ltF, s_eqF, s_inT, s_neF, s_neF', s_neE, s_nleT, s_nleF, s_nltF, s_nltT, eq_self, nI_clamp, s_wIk, s_wIo, pk_us, pk_un, Nat.reduceAdd, Nat.reduceMul, Nat.reduceSub, Nat.zero_add, Nat.add_zero, Nat.mul_zero, true_implies, false_implies, implies_true, not_true, not_false, and_true, true_and, not_true_eq_false, not_false_eq_true, forall_const, eo, ej, ea]
      exact hn _ ⟨k1.w _ rfl, k2.o (by decide), by rw [wI_o (by decide)]; exact k3, _, em, by rw [wI_k]; exact stk_push k5⟩
    all_goals
      have h2 := e2 (by omega)
      rw [← hl] at h2
      match S, h2, k4, k5, em, hn, hl with
      | y :: x :: T, h2, k4, ⟨y1, x1, T1⟩, em, hn, hl =>
        have hT : T.length + 2 ≤ k := by have : (y :: x :: T).length = T.length + 2 := rfl; omega
        have y2 : m.1 180 (T.length + 2 - 1) = y := y1
        have x2 : m.1 180 (T.length + 2 - 2) = x := x1
        have hlen : (y :: x :: T).length = T.length + 2 := rfl
        simp (config := { decide := true }) only [if_true, if_false, ar, and_false, false_and, true_and] at em
        rw [if_neg (by decide), hlen] at hn
        simp only [hlen]
        by_cases hy : y = 0
        · subst hy
          try simp only [if_true] at em
          simp (disch := omega) only [lin, nI_add, pk_mul, s_sub, s_addneg, s_leT, s_leF, s_ltT, s_ltF, s_eqF, s_inT, s_neF, s_neF', s_neE, s_nleT, s_nleF, s_nltF, s_nltT, eq_self, nI_clamp, s_wIk, s_wIo, pk_us, pk_un, Nat.reduceAdd, Nat.reduceMul, Nat.reduceSub, Nat.zero_add, Nat.add_zero, Nat.mul_zero, true_implies, false_implies, implies_true, not_true, not_false, and_true, true_and, not_true_eq_false, not_false_eq_true, forall_const, eo, y2, x2, em]
          first
          | exact hn _ ⟨k1.w _ rfl, k2.o (by decide), by rw [wI_o (by decide)]; exact k3, _, em, by rw [wI_k]; exact stk_push T1⟩
          | exact ⟨by rw [mr_none em (by omega)]; rfl, k1.w _ rfl, k2.o (by decide), by rw [mr_none em (by omega)]; rfl⟩
        · try simp only [hy, if_false] at em
          have hy' : ¬ y = nI 0 := hy
          simp (disch := omega) only [lin, nI_add, pk_mul, s_sub, s_addneg, s_leT, s_leF, s_ltT, s_ltF, s_eqF, s_inT, s_neF, s_neF', s_neE, s_nleT, s_nleF, s_nltF, s_nltT, eq_self, nI_clamp, s_wIk, s_wIo, pk_us, pk_un, Nat.reduceAdd, Nat.reduceMul, Nat.reduceSub, Nat.zero_add, Nat.add_zero, Nat.mul_zero, true_implies, false_implies, implies_true, not_true, not_false, and_true, true_and, not_true_eq_false, not_false_eq_true, forall_const, eo, y2, x2, hy']
          exact hn _ ⟨k1.w _ rfl, k2.o (by decide), by rw [wI_o (by decide)]; exact k3, _, em, by rw [wI_k]; exact stk_push T1⟩
theorem lit_okE {mm : MM} {k : Nat} {a : Nat → Int32} (hl : LitOK mm.1 k) (hk : k < 400) (m : MM) (hm : Ke mm m) (ha : As m a) :
    Runs e_X12_isLit [.ref 156, .int (nI k)] m (fun r m' => r = .int (bI (litV mm.1 a k)) ∧ Ke mm m' ∧ As m' a) := by
  obtain ⟨A, n1, n2, h1, h2, h3, h4, s1, s2, hb⟩ := hl
  have hv : litV mm.1 a k = (if (mr (mm.1 165) (mm.1 166) a A n1).isNone ∨ (mr (mm.1 165) (mm.1 166) a (A + n1) n2).isNone then decide (¬ mm.1 168 k = 0) else (cmpV (mm.1 169 k) (sv (mr (mm.1 165) (mm.1 166) a A n1)) (sv (mr (mm.1 165) (mm.1 166) a (A + n1) n2))) != decide (¬ mm.1 168 k = 0)) := by
    unfold litV
    rw [h1, h2, h3, segV_at (by omega), segV_at (by omega)]
  have hlb : bI (decide (¬ mm.1 168 k = 0)) = mm.1 168 k := by rcases hb with e | e <;> rw [e] <;> decide
  apply b_X12_isLit
  simp (disch := omega) only [lin, nI_add, pk_mul, s_sub, s_addneg, s_leT, s_leF, s_ltT, s_ltF, s_eqF, s_inT, s_neF, s_neF', s_neE, s_nleT, s_nleF, s_nltF, s_nltT, eq_self, nI_clamp, s_wIk, s_wIo, pk_us, pk_un, Nat.reduceAdd, Nat.reduceMul, Nat.reduceSub, Nat.zero_add, Nat.add_zero, Nat.mul_zero, true_implies, false_implies, implies_true, not_true, not_false, and_true, true_and, not_true_eq_false, not_false_eq_true, forall_const, hm.r170, hm.r171, h1, h2]
  refine icall (sum_okE s1 (by omega) (by omega) m hm ha) ?_
  rintro m1 ⟨q1, q2, q3⟩
  cases hx : mr (mm.1 165) (mm.1 166) a A n1 with
  | none =>
    rw [hx] at q3
    simp only [hx] at hv
    refine ⟨fun e => absurd (q3.symm.trans e) (by decide), fun _ => ⟨?_, ?_⟩⟩
    · rw [q1.r168]; exact hb
    · rw [q1.r168, hv]
      refine ⟨?_, q1, q2⟩
      simp only [Option.isNone_none, true_or, if_true, hlb]
  | some S1 =>
    rw [hx] at q3
    simp only [hx] at hv
    refine ⟨fun _ => ?_, fun e => absurd q3 e⟩
    simp (disch := omega) only [lin, nI_add, pk_mul, s_sub, s_addneg, s_leT, s_leF, s_ltT, s_ltF, s_eqF, s_inT, s_neF, s_neF', s_neE, s_nleT, s_nleF, s_nltF, s_nltT, eq_self, nI_clamp, s_wIk, s_wIo, pk_us, pk_un, Nat.reduceAdd, Nat.reduceMul, Nat.reduceSub, Nat.zero_add, Nat.add_zero, Nat.mul_zero, true_implies, false_implies, implies_true, not_true, not_false, and_true, true_and, not_true_eq_false, not_false_eq_true, forall_const, q1.r171, q1.r172, h2, h3]
    refine icall (sum_okE s2 (by omega) (by omega) m1 q1 q2) ?_
    rintro m2 ⟨q4, q5, q6⟩
    cases hy : mr (mm.1 165) (mm.1 166) a (A + n1) n2 with
    | none =>
      rw [hy] at q6
      simp only [hy] at hv
      refine ⟨fun e => absurd (q6.symm.trans e) (by decide), fun _ => ⟨?_, ?_⟩⟩
      · rw [q4.r168]; exact hb
      · rw [q4.r168, hv]
        refine ⟨?_, q4, q5⟩
        simp only [Option.isNone_none, or_true, if_true, hlb]
    | some S2 =>
      rw [hy] at q6
      simp only [hy, Option.isNone_some, or_self, if_false, Bool.false_eq_true] at hv
      refine ⟨fun _ => ?_, fun e => absurd q6 e⟩
      rw [q4.r168, q4.r169]
      rw [hv]
      simp only [ne_bI hb]
      generalize sv (some S1) = x
      generalize sv (some S2) = y
      generalize mm.1 168 k = b at hb
      generalize mm.1 169 k = o
      unfold cmpV
      by_cases o1 : o = nI 300
      · subst o1
        by_cases xy : x = y
        · subst xy
          rcases hb with rfl | rfl <;> simp (disch := omega) only [lin, nI_add, pk_mul, s_sub, s_addneg, s_leT, s_leF, s_ltT, s_ltF, s_eqF, s_inT, s_neF, s_neF', s_neE, s_nleT, s_nleF, s_nltF, s_nltT, eq_self, nI_clamp, s_wIk, s_wIo, pk_us, pk_un, Nat.reduceAdd, Nat.reduceMul, Nat.reduceSub, Nat.zero_add, Nat.add_zero, Nat.mul_zero, true_implies, false_implies, implies_true, not_true, not_false, and_true, true_and, not_true_eq_false, not_false_eq_true, forall_const, bI, q4, q5, if_true, if_false, decide_true, decide_false, cond_true, cond_false]
        · rcases hb with rfl | rfl <;> simp (disch := omega) only [lin, nI_add, pk_mul, s_sub, s_addneg, s_leT, s_leF, s_ltT, s_ltF, s_eqF, s_inT, s_neF, s_neF', s_neE, s_nleT, s_nleF, s_nltF, s_nltT, eq_self, nI_clamp, s_wIk, s_wIo, pk_us, pk_un, Nat.reduceAdd, Nat.reduceMul, Nat.reduceSub, Nat.zero_add, Nat.add_zero, Nat.mul_zero, true_implies, false_implies, implies_true, not_true, not_false, and_true, true_and, not_true_eq_false, not_false_eq_true, forall_const, bI, q4, q5, xy, if_true, if_false, decide_true, decide_false, cond_true, cond_false]
      · by_cases o2 : o = nI 301
        · subst o2
          by_cases xy : x = y
          · subst xy
            rcases hb with rfl | rfl <;> simp (disch := omega) only [lin, nI_add, pk_mul, s_sub, s_addneg, s_leT, s_leF, s_ltT, s_ltF, s_eqF, s_inT, s_neF, s_neF', s_neE, s_nleT, s_nleF, s_nltF, s_nltT, eq_self, nI_clamp, s_wIk, s_wIo, pk_us, pk_un, Nat.reduceAdd, Nat.reduceMul, Nat.reduceSub, Nat.zero_add, Nat.add_zero, Nat.mul_zero, true_implies, false_implies, implies_true, not_true, not_false, and_true, true_and, not_true_eq_false, not_false_eq_true, forall_const, bI, q4, q5, if_true, if_false, decide_true, decide_false, cond_true, cond_false]
          · rcases hb with rfl | rfl <;> simp (disch := omega) only [lin, nI_add, pk_mul, s_sub, s_addneg, s_leT, s_leF, s_ltT, s_ltF, s_eqF, s_inT, s_neF, s_neF', s_neE, s_nleT, s_nleF, s_nltF, s_nltT, eq_self, nI_clamp, s_wIk, s_wIo, pk_us, pk_un, Nat.reduceAdd, Nat.reduceMul, Nat.reduceSub, Nat.zero_add, Nat.add_zero, Nat.mul_zero, true_implies, false_implies, implies_true, not_true, not_false, and_true, true_and, not_true_eq_false, not_false_eq_true, forall_const, bI, q4, q5, xy, if_true, if_false, decide_true, decide_false, cond_true, cond_false]
        · by_cases o3 : o = nI 302
          · subst o3
            by_cases xy : x ≤ y
            · have xy2 : ¬ y < x := Int32.not_lt.mpr xy
              rcases hb with rfl | rfl <;> simp (disch := omega) only [lin, nI_add, pk_mul, s_sub, s_addneg, s_leT, s_leF, s_ltT, s_ltF, s_eqF, s_inT, s_neF, s_neF', s_neE, s_nleT, s_nleF, s_nltF, s_nltT, eq_self, nI_clamp, s_wIk, s_wIo, pk_us, pk_un, Nat.reduceAdd, Nat.reduceMul, Nat.reduceSub, Nat.zero_add, Nat.add_zero, Nat.mul_zero, true_implies, false_implies, implies_true, not_true, not_false, and_true, true_and, not_true_eq_false, not_false_eq_true, forall_const, bI, q4, q5, xy, xy2, if_true, if_false, decide_true, decide_false, cond_true, cond_false]
            · have xy2 : y < x := Int32.not_le.mp xy
              rcases hb with rfl | rfl <;> simp (disch := omega) only [lin, nI_add, pk_mul, s_sub, s_addneg, s_leT, s_leF, s_ltT, s_ltF, s_eqF, s_inT, s_neF, s_neF', s_neE, s_nleT, s_nleF, s_nltF, s_nltT, eq_self, nI_clamp, s_wIk, s_wIo, pk_us, pk_un, Nat.reduceAdd, Nat.reduceMul, Nat.reduceSub, Nat.zero_add, Nat.add_zero, Nat.mul_zero, true_implies, false_implies, implies_true, not_true, not_false, and_true, true_and, not_true_eq_false, not_false_eq_true, forall_const, bI, q4, q5, xy, xy2, if_true, if_false, decide_true, decide_false, cond_true, cond_false]
          · by_cases xy : x < y
            · have xy2 : ¬ y ≤ x := Int32.not_le.mpr xy
              rcases hb with rfl | rfl <;> simp (disch := omega) only [lin, nI_add, pk_mul, s_sub, s_addneg, s_leT, s_leF, s_ltT, s_ltF, s_eqF, s_inT, s_neF, s_neF', s_neE, s_nleT, s_nleF, s_nltF, s_nltT, eq_self, nI_clamp, s_wIk, s_wIo, pk_us, pk_un, Nat.reduceAdd, Nat.reduceMul, Nat.reduceSub, Nat.zero_add, Nat.add_zero, Nat.mul_zero, true_implies, false_implies, implies_true, not_true, not_false, and_true, true_and, not_true_eq_false, not_false_eq_true, forall_const, bI, q4, q5, xy, xy2, o1, o2, o3, if_true, if_false, decide_true, decide_false, cond_true, cond_false]
            · have xy2 : y ≤ x := Int32.not_lt.mp xy
              rcases hb with rfl | rfl <;> simp (disch := omega) only [lin, nI_add, pk_mul, s_sub, s_addneg, s_leT, s_leF, s_ltT, s_ltF, s_eqF, s_inT, s_neF, s_neF', s_neE, s_nleT, s_nleF, s_nltF, s_nltT, eq_self, nI_clamp, s_wIk, s_wIo, pk_us, pk_un, Nat.reduceAdd, Nat.reduceMul, Nat.reduceSub, Nat.zero_add, Nat.add_zero, Nat.mul_zero, true_implies, false_implies, implies_true, not_true, not_false, and_true, true_and, not_true_eq_false, not_false_eq_true, forall_const, bI, q4, q5, xy, xy2, o1, o2, o3, if_true, if_false, decide_true, decide_false, cond_true, cond_false]
theorem held_18E {mm : MM} {a : Nat → Int32} {T : Nat} (hT : T ≤ 400) {Q : Value → MM → Prop} : ∀ n k, k + n = T → (∀ i, i < n → LitOK mm.1 (k + i)) → ∀ (r : Int32) (all : Bool) (m : MM), Ke mm m → As m a →
    (∀ m', Ke mm m' → As m' a → Q (.int (bI (hrun (mm.1 173) (litV mm.1 a) n k r all))) m') → G e_X12_isHeld 18 [(0, .ref 156), (2, .int (nI T)), (3, .int (nI k)), (4, .int r), (5, .int (bI all))] [] m Q := by
  intro n
  induction n with
  | zero =>
    intro k hk hl r all m hm ha hq
    have e : k = T := by omega
    subst e
    apply b_X12_isHeld_18
    simp (disch := omega) only [lin, nI_add, pk_mul, s_sub, s_addneg, s_leT, s_leF, s_ltT, s_ltF, s_eqF, s_inT, s_neF, s_neF', s_neE, s_nleT, s_nleF, s_nltF, s_nltT, eq_self, nI_clamp, s_wIk, s_wIo, pk_us, pk_un, Nat.reduceAdd, Nat.reduceMul, Nat.reduceSub, Nat.zero_add, Nat.add_zero, Nat.mul_zero, true_implies, false_implies, implies_true, not_true, not_false, and_true, true_and, not_true_eq_false, not_false_eq_true, forall_const]
    refine ⟨fun e => ?_, fun e => ?_⟩
    · apply b_X12_isHeld_2
      simp (disch := omega) only [lin, nI_add, pk_mul, s_sub, s_addneg, s_leT, s_leF, s_ltT, s_ltF, s_eqF, s_inT, s_neF, s_neF', s_neE, s_nleT, s_nleF, s_nltF, s_nltT, eq_self, nI_clamp, s_wIk, s_wIo, pk_us, pk_un, Nat.reduceAdd, Nat.reduceMul, Nat.reduceSub, Nat.zero_add, Nat.add_zero, Nat.mul_zero, true_implies, false_implies, implies_true, not_true, not_false, and_true, true_and, not_true_eq_false, not_false_eq_true, forall_const]
      have e2 := (bI_eq all).mp e
      subst e2
      exact hq m hm ha
    · have e2 := (bI_ne all).mp e
      subst e2
      exact hq m hm ha
  | succ n ih =>
    intro k hk hl r all m hm ha hq
    have hA : ∀ (all : Bool) (m : MM), Ke mm m → As m a → (∀ m', Ke mm m' → As m' a → Q (.int (bI (hrun (mm.1 173) (litV mm.1 a) n (k + 1) (mm.1 173 k) (all && litV mm.1 a k)))) m') → G e_X12_isHeld 18 [(0, .ref 156), (2, .int (nI T)), (3, .int (nI k)), (4, .int (mm.1 173 k)), (5, .int (bI all))] [] m Q := by
      intro all m hm ha hq
      have ih' := ih (k + 1) (by omega) (fun i hi => by rw [Nat.add_assoc, Nat.add_comm 1 i]; exact hl (i + 1) (by omega)) (mm.1 173 k)
      apply b_X12_isHeld_18
      simp (disch := omega) only [lin, nI_add, pk_mul, s_sub, s_addneg, s_leT, s_leF, s_ltT, s_ltF, s_eqF, s_inT, s_neF, s_neF', s_neE, s_nleT, s_nleF, s_nltF, s_nltT, eq_self, nI_clamp, s_wIk, s_wIo, pk_us, pk_un, Nat.reduceAdd, Nat.reduceMul, Nat.reduceSub, Nat.zero_add, Nat.add_zero, Nat.mul_zero, true_implies, false_implies, implies_true, not_true, not_false, and_true, true_and, not_true_eq_false, not_false_eq_true, forall_const, hm.r173]
      refine ⟨fun e => ?_, fun e => ?_⟩
      · have e2 := (bI_eq all).mp e
        subst e2
        exact ih' false m hm ha hq
      · have e2 := (bI_ne all).mp e
        subst e2
        refine bcall (lit_okE (hl 0 (by omega)) (by omega) m hm ha) ?_ ?_
        · rintro el m1 ⟨q1, q2⟩
          exact ih' true m1 q1 q2 (fun m' h1 h2 => by have := hq m' h1 h2; have el : litV mm.1 a k = _ := el; rw [el] at this; exact this)
        · rintro el m1 ⟨q1, q2⟩
          exact ih' false m1 q1 q2 (fun m' h1 h2 => by have := hq m' h1 h2; have el : litV mm.1 a k = _ := el; rw [el] at this; exact this)
    by_cases er : mm.1 173 k = r
    · subst er
      refine hA all m hm ha (fun m' h1 h2 => ?_)
      have := hq m' h1 h2
      rw [show hrun (mm.1 173) (litV mm.1 a) (n + 1) k (mm.1 173 k) all = hrun (mm.1 173) (litV mm.1 a) n (k + 1) (mm.1 173 k) (all && litV mm.1 a k) from if_pos rfl] at this
      exact this
    · have hh : hrun (mm.1 173) (litV mm.1 a) (n + 1) k r all = if all then true else hrun (mm.1 173) (litV mm.1 a) n (k + 1) (mm.1 173 k) (litV mm.1 a k) := if_neg er
      rw [hh] at hq
      apply b_X12_isHeld_18
      simp (disch := omega) only [lin, nI_add, pk_mul, s_sub, s_addneg, s_leT, s_leF, s_ltT, s_ltF, s_eqF, s_inT, s_neF, s_neF', s_neE, s_nleT, s_nleF, s_nltF, s_nltT, eq_self, nI_clamp, s_wIk, s_wIo, pk_us, pk_un, Nat.reduceAdd, Nat.reduceMul, Nat.reduceSub, Nat.zero_add, Nat.add_zero, Nat.mul_zero, true_implies, false_implies, implies_true, not_true, not_false, and_true, true_and, not_true_eq_false, not_false_eq_true, forall_const, hm.r173, er]
      refine ⟨fun e => ?_, fun e => ?_⟩
      · have e2 := (bI_eq all).mp e
        subst e2
        apply b_X12_isHeld_2
        simp (disch := omega) only [lin, nI_add, pk_mul, s_sub, s_addneg, s_leT, s_leF, s_ltT, s_ltF, s_eqF, s_inT, s_neF, s_neF', s_neE, s_nleT, s_nleF, s_nltF, s_nltT, eq_self, nI_clamp, s_wIk, s_wIo, pk_us, pk_un, Nat.reduceAdd, Nat.reduceMul, Nat.reduceSub, Nat.zero_add, Nat.add_zero, Nat.mul_zero, true_implies, false_implies, implies_true, not_true, not_false, and_true, true_and, not_true_eq_false, not_false_eq_true, forall_const, hm.r173]
        exact hA true m hm ha hq
      · have e2 := (bI_ne all).mp e
        subst e2
        exact hq m hm ha
theorem held_okE {mm : MM} {a : Nat → Int32} {f n : Nat} (hn : 1 ≤ n) (hT : f + n ≤ 400) (hl : ∀ i, i < n → LitOK mm.1 (f + i)) (m : MM) (hm : Ke mm m) (ha : As m a) :
    Runs e_X12_isHeld [.ref 156, .int (nI f), .int (nI (f + n))] m (fun r m' => r = .int (bI (heldV mm.1 a f n)) ∧ Ke mm m' ∧ As m' a) := by
  apply b_X12_isHeld
  apply b_X12_isHeld_2
  simp (disch := omega) only [lin, nI_add, pk_mul, s_sub, s_addneg, s_leT, s_leF, s_ltT, s_ltF, s_eqF, s_inT, s_neF, s_neF', s_neE, s_nleT, s_nleF, s_nltF, s_nltT, eq_self, nI_clamp, s_wIk, s_wIo, pk_us, pk_un, Nat.reduceAdd, Nat.reduceMul, Nat.reduceSub, Nat.zero_add, Nat.add_zero, Nat.mul_zero, true_implies, false_implies, implies_true, not_true, not_false, and_true, true_and, not_true_eq_false, not_false_eq_true, forall_const, hm.r173]
  exact held_18E hT n f rfl hl _ true m hm ha (fun m' h1 h2 => ⟨rfl, h1, h2⟩)
theorem isRule_okE {mm : MM} {a : Nat → Int32} {q b N : Nat} (hq : q < 10) (hb : b = 190 ∨ b = 200) (hN : mm.1 162 q = nI N) (hN4 : N ≤ 4) (hr : ∀ k, k < N → RuleOK mm.1 b k) (m : MM) (hm : Ke mm m) (ha : As m a) :
    Runs e_X12_isRule [.ref 156, .int (nI q), .int (nI b)] m (fun r m' => r = .int (bI (anyV (ruleV mm.1 a b) N)) ∧ Ke mm m' ∧ As m' a) := by
  have hb2 : b ≤ 200 := by omega
  apply b_X12_isRule
  refine for_up (fun k => [(0, .ref 156), (1, .int (nI q)), (2, .int (nI b)), (3, .int (nI k))]) (fun k m => Ke mm m ∧ As m a ∧ anyV (ruleV mm.1 a b) k = false) N ?_ ?_ 0 _ (Nat.zero_le _) ⟨hm, ha, rfl⟩
  · rintro m ⟨k1, k2, k3⟩
    apply b_X12_isRule_2
    simp (disch := omega) only [lin, nI_add, pk_mul, s_sub, s_addneg, s_leT, s_leF, s_ltT, s_ltF, s_eqF, s_inT, s_neF, s_neF', s_neE, s_nleT, s_nleF, s_nltF, s_nltT, eq_self, nI_clamp, s_wIk, s_wIo, pk_us, pk_un, Nat.reduceAdd, Nat.reduceMul, Nat.reduceSub, Nat.zero_add, Nat.add_zero, Nat.mul_zero, true_implies, false_implies, implies_true, not_true, not_false, and_true, true_and, not_true_eq_false, not_false_eq_true, forall_const, k1.r162, hN]
    exact ⟨by rw [k3]; rfl, k1, k2⟩
  · rintro k m hk ⟨k1, k2, k3⟩ hn
    obtain ⟨f, n, e1, e2, e3, e4, e5⟩ := hr k hk
    have hv : ruleV mm.1 a b k = heldV mm.1 a f n := by
      unfold ruleV
      rw [e1, e2, nI_clamp (by omega), nI_clamp (by omega), show f + n - f = n by omega]
    apply b_X12_isRule_2
    simp (disch := omega) only [lin, nI_add, pk_mul, s_sub, s_addneg, s_leT, s_leF, s_ltT, s_ltF, s_eqF, s_inT, s_neF, s_neF', s_neE, s_nleT, s_nleF, s_nltF, s_nltT, eq_self, nI_clamp, s_wIk, s_wIo, pk_us, pk_un, Nat.reduceAdd, Nat.reduceMul, Nat.reduceSub, Nat.zero_add, Nat.add_zero, Nat.mul_zero, true_implies, false_implies, implies_true, not_true, not_false, and_true, true_and, not_true_eq_false, not_false_eq_true, forall_const, k1.r162, hN, e1, e2]
    refine bcall (held_okE e3 (by omega) e5 m k1 k2) ?_ ?_
    · rintro el m1 ⟨q1, q2⟩
      exact ⟨by rw [anyV_yes (hv.trans el) hk]; rfl, q1, q2⟩
    · rintro el m1 ⟨q1, q2⟩
      exact hn m1 ⟨q1, q2, by unfold anyV; rw [k3, hv, el]; rfl⟩
theorem says_okE {mm : MM} {a : Nat → Int32} {l : Nat} {o : Int32} (hl : l < 3) (hL : LawM mm.1 l) (m : MM) (hm : Ke mm m) (ha : As m a) :
    Runs e_X12_says [.ref 156, .int (nI l), .int o] m (fun r m' => r = .int (saysV mm.1 a l o) ∧ Ke mm m' ∧ As m' a) := by
  apply b_X12_says
  rcases hL with e | ⟨fr, n, e1, e2, e3, e4⟩
  · have hv : saysV mm.1 a l o = w99 o := by unfold saysV; rw [e, if_pos (by decide)]
    rw [within_w99]
    simp (disch := omega) only [lin, nI_add, pk_mul, s_sub, s_addneg, s_leT, s_leF, s_ltT, s_ltF, s_eqF, s_inT, s_neF, s_neF', s_neE, s_nleT, s_nleF, s_nltF, s_nltT, eq_self, nI_clamp, s_wIk, s_wIo, pk_us, pk_un, Nat.reduceAdd, Nat.reduceMul, Nat.reduceSub, Nat.zero_add, Nat.add_zero, Nat.mul_zero, true_implies, false_implies, implies_true, not_true, not_false, and_true, true_and, not_true_eq_false, not_false_eq_true, forall_const, hm.r162, e]
    exact ⟨by rw [hv], hm, ha⟩
  · have hv : saysV mm.1 a l o = w99 (sv (mr (mm.1 165) (mm.1 166) a fr n)) := by
      unfold saysV
      rw [e1, e2, segV_at e3, if_neg (nI_pos (by omega))]
    simp (disch := omega) only [lin, nI_add, pk_mul, s_sub, s_addneg, s_leT, s_leF, s_ltT, s_ltF, s_eqF, s_inT, s_neF, s_neF', s_neE, s_nleT, s_nleF, s_nltF, s_nltT, eq_self, nI_clamp, s_wIk, s_wIo, pk_us, pk_un, Nat.reduceAdd, Nat.reduceMul, Nat.reduceSub, Nat.zero_add, Nat.add_zero, Nat.mul_zero, true_implies, false_implies, implies_true, not_true, not_false, and_true, true_and, not_true_eq_false, not_false_eq_true, forall_const, hm.r162, e1, e2]
    refine icall (sum_okE e4 (by omega) (by omega) m hm ha) ?_
    rintro m1 ⟨q1, q2, -⟩
    refine ⟨?_, q1, q2⟩
    rw [hv]
    exact congrArg Value.int (within_w99 m1 _)
theorem askNone_okE {mm : MM} (m : MM) (hm : Ke mm m) : Runs e_X12_askNone [.ref 156] m (fun r m' => r = .null ∧ Ke mm m' ∧ As m' (fun _ => 0)) := by
  apply b_X12_askNone
  refine for_up (fun k => [(0, .ref 156), (1, .int (nI k))]) (fun k m => Ke mm m ∧ ∀ j, j < k → m.1 179 j = 0) 9 ?_ ?_ 0 _ (Nat.zero_le _) ⟨hm, fun j hj => absurd hj (Nat.not_lt_zero _)⟩
  · rintro m ⟨k1, k2⟩
    apply b_X12_askNone_2
    simp (disch := omega) only [lin, nI_add, pk_mul, s_sub, s_addneg, s_leT, s_leF, s_ltT, s_ltF, s_eqF, s_inT, s_neF, s_neF', s_neE, s_nleT, s_nleF, s_nltF, s_nltT, eq_self, nI_clamp, s_wIk, s_wIo, pk_us, pk_un, Nat.reduceAdd, Nat.reduceMul, Nat.reduceSub, Nat.zero_add, Nat.add_zero, Nat.mul_zero, true_implies, false_implies, implies_true, not_true, not_false, and_true, true_and, not_true_eq_false, not_false_eq_true, forall_const]
    exact ⟨k1, k2⟩
  · rintro k m hk ⟨k1, k2⟩ hn
    apply b_X12_askNone_2
    simp (disch := omega) only [lin, nI_add, pk_mul, s_sub, s_addneg, s_leT, s_leF, s_ltT, s_ltF, s_eqF, s_inT, s_neF, s_neF', s_neE, s_nleT, s_nleF, s_nltF, s_nltT, eq_self, nI_clamp, s_wIk, s_wIo, pk_us, pk_un, Nat.reduceAdd, Nat.reduceMul, Nat.reduceSub, Nat.zero_add, Nat.add_zero, Nat.mul_zero, true_implies, false_implies, implies_true, not_true, not_false, and_true, true_and, not_true_eq_false, not_false_eq_true, forall_const]
    refine hn _ ⟨k1.w _ rfl, fun j hj => ?_⟩
    rw [wI_k]
    by_cases c : j = k
    · subst c; rw [pk_us]; rfl
    · rw [pk_un c]; exact k2 j (by omega)
theorem rk_vE {mm m : MM} {h : Nat} (hm : Ke mm m) (hh : h < 16) (hr : RankOK mm.1 h) : v_X12_rankOf m (nI h) = rkV mm.1 h := by
  unfold v_X12_rankOf rkV
  rcases hr with e | ⟨o, ho, e⟩
  · simp (disch := omega) only [lin, nI_add, pk_mul, s_sub, s_addneg, s_leT, s_leF, s_ltT, s_ltF, s_eqF, s_inT, s_neF, s_neF', s_neE, s_nleT, s_nleF, s_nltF, s_nltT, eq_self, nI_clamp, s_wIk, s_wIo, pk_us, pk_un, Nat.reduceAdd, Nat.reduceMul, Nat.reduceSub, Nat.zero_add, Nat.add_zero, Nat.mul_zero, true_implies, false_implies, implies_true, not_true, not_false, and_true, true_and, not_true_eq_false, not_false_eq_true, forall_const, hm.r163, e]
    rw [cite_neg (by decide), if_neg (by decide)]
  · simp (disch := omega) only [lin, nI_add, pk_mul, s_sub, s_addneg, s_leT, s_leF, s_ltT, s_ltF, s_eqF, s_inT, s_neF, s_neF', s_neE, s_nleT, s_nleF, s_nltF, s_nltT, eq_self, nI_clamp, s_wIk, s_wIo, pk_us, pk_un, Nat.reduceAdd, Nat.reduceMul, Nat.reduceSub, Nat.zero_add, Nat.add_zero, Nat.mul_zero, true_implies, false_implies, implies_true, not_true, not_false, and_true, true_and, not_true_eq_false, not_false_eq_true, forall_const, hm.r163, hm.r162, e]
    rw [cite_pos (by trivial), if_pos (by trivial)]
theorem rk_oE {mm m : MM} {h : Nat} (hm : Ke mm m) (hh : h < 16) (hr : RankOK mm.1 h) : o_X12_rankOf m (nI h) := by
  unfold o_X12_rankOf
  rcases hr with e | ⟨o, ho, e⟩
  · simp (disch := omega) only [lin, nI_add, pk_mul, s_sub, s_addneg, s_leT, s_leF, s_ltT, s_ltF, s_eqF, s_inT, s_neF, s_neF', s_neE, s_nleT, s_nleF, s_nltF, s_nltT, eq_self, nI_clamp, s_wIk, s_wIo, pk_us, pk_un, Nat.reduceAdd, Nat.reduceMul, Nat.reduceSub, Nat.zero_add, Nat.add_zero, Nat.mul_zero, true_implies, false_implies, implies_true, not_true, not_false, and_true, true_and, not_true_eq_false, not_false_eq_true, forall_const, hm.r163, e]
  · simp (disch := omega) only [lin, nI_add, pk_mul, s_sub, s_addneg, s_leT, s_leF, s_ltT, s_ltF, s_eqF, s_inT, s_neF, s_neF', s_neE, s_nleT, s_nleF, s_nltF, s_nltT, eq_self, nI_clamp, s_wIk, s_wIo, pk_us, pk_un, Nat.reduceAdd, Nat.reduceMul, Nat.reduceSub, Nat.zero_add, Nat.add_zero, Nat.mul_zero, true_implies, false_implies, implies_true, not_true, not_false, and_true, true_and, not_true_eq_false, not_false_eq_true, forall_const, hm.r163, hm.r162, e]
theorem x_vE {mm m : MM} {h : Nat} (hm : Ke mm m) (hh : h < 16) : v_X12_xOf m (nI h) = mm.1 162 (20 + 3 * h) := by
  unfold v_X12_xOf
  simp (disch := omega) only [lin, nI_add, pk_mul, s_sub, s_addneg, s_leT, s_leF, s_ltT, s_ltF, s_eqF, s_inT, s_neF, s_neF', s_neE, s_nleT, s_nleF, s_nltF, s_nltT, eq_self, nI_clamp, s_wIk, s_wIo, pk_us, pk_un, Nat.reduceAdd, Nat.reduceMul, Nat.reduceSub, Nat.zero_add, Nat.add_zero, Nat.mul_zero, true_implies, false_implies, implies_true, not_true, not_false, and_true, true_and, not_true_eq_false, not_false_eq_true, forall_const, hm.r162]
theorem h_vE {mm m : MM} {h : Nat} (hm : Ke mm m) (hh : h < 16) : v_X12_heightOf m (nI h) = mm.1 163 (10 + h) := by
  unfold v_X12_heightOf
  simp (disch := omega) only [lin, nI_add, pk_mul, s_sub, s_addneg, s_leT, s_leF, s_ltT, s_ltF, s_eqF, s_inT, s_neF, s_neF', s_neE, s_nleT, s_nleF, s_nltF, s_nltT, eq_self, nI_clamp, s_wIk, s_wIo, pk_us, pk_un, Nat.reduceAdd, Nat.reduceMul, Nat.reduceSub, Nat.zero_add, Nat.add_zero, Nat.mul_zero, true_implies, false_implies, implies_true, not_true, not_false, and_true, true_and, not_true_eq_false, not_false_eq_true, forall_const, hm.r163]
theorem due_okE {mm : MM} {h : Nat} (hh : h < 16) (hr : RankOK mm.1 h) (hL : LawM mm.1 1) (m : MM) (hm : Ke mm m) : Runs e_X12_dueOf [.ref 156, .int (nI h)] m (fun r m' => r = .int (dueV mm.1 h) ∧ Ke mm m') := by
  apply b_X12_dueOf
  refine vcall (askNone_okE m hm) ?_
  rintro m1 ⟨q1, q2⟩
  have K2 : ∀ v w, Ke mm (wI (wI m1 179 1 v) 179 2 w) := fun v w => (q1.w _ rfl).w _ rfl
  refine ⟨rk_oE q1 hh hr, by simp (disch := omega) only [lin, nI_add, pk_mul, s_sub, s_addneg, s_leT, s_leF, s_ltT, s_ltF, s_eqF, s_inT, s_neF, s_neF', s_neE, s_nleT, s_nleF, s_nltF, s_nltT, eq_self, nI_clamp, s_wIk, s_wIo, pk_us, pk_un, Nat.reduceAdd, Nat.reduceMul, Nat.reduceSub, Nat.zero_add, Nat.add_zero, Nat.mul_zero, true_implies, false_implies, implies_true, not_true, not_false, and_true, true_and, not_true_eq_false, not_false_eq_true, forall_const], x_o hh, rk_oE ((K2 _ _).w _ rfl) hh hr, ?_⟩
  rw [rk_vE ((K2 _ _).w _ rfl) hh hr]
  refine icall (says_okE (l := 1) (a := askD mm.1 h) (by omega) hL _ ((K2 _ _).w _ rfl) (((q2.u 1 (rk_vE q1 hh hr)).u 2 (by simp (disch := omega) only [lin, nI_add, pk_mul, s_sub, s_addneg, s_leT, s_leF, s_ltT, s_ltF, s_eqF, s_inT, s_neF, s_neF', s_neE, s_nleT, s_nleF, s_nltF, s_nltT, eq_self, nI_clamp, s_wIk, s_wIo, pk_us, pk_un, Nat.reduceAdd, Nat.reduceMul, Nat.reduceSub, Nat.zero_add, Nat.add_zero, Nat.mul_zero, true_implies, false_implies, implies_true, not_true, not_false, and_true, true_and, not_true_eq_false, not_false_eq_true, forall_const, q1.r162])).u 3 (x_vE (K2 _ _) hh))) ?_
  rintro m2 ⟨q3, -⟩
  exact ⟨rfl, q3⟩
theorem tide_okE {mm : MM} (hr : Int32) (hL : LawM mm.1 0) (m : MM) (hm : Ke mm m) : Runs e_X12_tideOf [.ref 156, .int hr] m (fun r m' => r = .int (tideV mm.1 hr) ∧ Ke mm m') := by
  apply b_X12_tideOf
  refine vcall (askNone_okE m hm) ?_
  rintro m1 ⟨q1, q2⟩
  refine icall (says_okE (l := 0) (a := askT mm.1 hr) (by omega) hL _ ((q1.w _ rfl).w _ rfl) ((q2.u 4 rfl).u 5 (by rw [wI_o (by decide), q1.r163]))) ?_
  rintro m2 ⟨q3, -⟩
  exact ⟨rfl, q3⟩
theorem look_okE {mm : MM} {h : Nat} (w : Int32) (hh : h < 16) (hr : RankOK mm.1 h) (m : MM) (hm : Ke mm m) : Runs e_X12_look [.ref 156, .int (nI h), .int w] m (fun r m' => r = .null ∧ Ke mm m' ∧ As m' (askL mm.1 h w)) := by
  apply b_X12_look
  refine vcall (askNone_okE m hm) ?_
  rintro m1 ⟨q1, q2⟩
  have K1 : ∀ v, Ke mm (wI m1 179 0 v) := fun v => q1.w _ rfl
  have K3 : ∀ u v w, Ke mm (wI (wI (wI m1 179 0 u) 179 1 v) 179 2 w) := fun u v w => ((q1.w _ rfl).w _ rfl).w _ rfl
  refine ⟨h_o hh, rk_oE (K1 _) hh hr, by simp (disch := omega) only [lin, nI_add, pk_mul, s_sub, s_addneg, s_leT, s_leF, s_ltT, s_ltF, s_eqF, s_inT, s_neF, s_neF', s_neE, s_nleT, s_nleF, s_nltF, s_nltT, eq_self, nI_clamp, s_wIk, s_wIo, pk_us, pk_un, Nat.reduceAdd, Nat.reduceMul, Nat.reduceSub, Nat.zero_add, Nat.add_zero, Nat.mul_zero, true_implies, false_implies, implies_true, not_true, not_false, and_true, true_and, not_true_eq_false, not_false_eq_true, forall_const], x_o hh, rfl, (((K3 _ _ _).w _ rfl).w _ rfl).w _ rfl, ?_⟩
  exact (((((q2.u 0 (h_vE q1 hh)).u 1 (rk_vE (K1 _) hh hr)).u 2 (by simp (disch := omega) only [lin, nI_add, pk_mul, s_sub, s_addneg, s_leT, s_leF, s_ltT, s_ltF, s_eqF, s_inT, s_neF, s_neF', s_neE, s_nleT, s_nleF, s_nltF, s_nltT, eq_self, nI_clamp, s_wIk, s_wIo, pk_us, pk_un, Nat.reduceAdd, Nat.reduceMul, Nat.reduceSub, Nat.zero_add, Nat.add_zero, Nat.mul_zero, true_implies, false_implies, implies_true, not_true, not_false, and_true, true_and, not_true_eq_false, not_false_eq_true, forall_const, q1.r162])).u 3 (x_vE (K3 _ _ _) hh)).u 5 (by simp (disch := omega) only [lin, nI_add, pk_mul, s_sub, s_addneg, s_leT, s_leF, s_ltT, s_ltF, s_eqF, s_inT, s_neF, s_neF', s_neE, s_nleT, s_nleF, s_nltF, s_nltT, eq_self, nI_clamp, s_wIk, s_wIo, pk_us, pk_un, Nat.reduceAdd, Nat.reduceMul, Nat.reduceSub, Nat.zero_add, Nat.add_zero, Nat.mul_zero, true_implies, false_implies, implies_true, not_true, not_false, and_true, true_and, not_true_eq_false, not_false_eq_true, forall_const, q1.r163])).u 6 rfl
theorem sway_okE {mm : MM} {h : Nat} (w : Int32) (hh : h < 16) (hr : RankOK mm.1 h) (hL : LawM mm.1 2) (m : MM) (hm : Ke mm m) : Runs e_X12_swayOf [.ref 156, .int (nI h), .int w] m (fun r m' => r = .int (swayV mm.1 h w) ∧ Ke mm m') := by
  apply b_X12_swayOf
  refine vcall (look_okE w hh hr m hm) ?_
  rintro m1 ⟨q1, q2⟩
  refine icall (says_okE (l := 2) (by omega) hL m1 q1 q2) ?_
  rintro m2 ⟨q3, -⟩
  exact ⟨rfl, q3⟩
theorem bad_okE {mm : MM} {h B : Nat} (hh : h < 16) (hr : RankOK mm.1 h) (hL : LawM mm.1 2) (hB : mm.1 162 9 = nI B) (hB4 : B ≤ 4) (hR : ∀ k, k < B → RuleOK mm.1 200 k) (m : MM) (hm : Ke mm m) : Runs e_X12_isBad [.ref 156, .int (nI h)] m (fun r m' => r = .int (bI (badV mm.1 h)) ∧ Ke mm m') := by
  have hv : badV mm.1 h = anyV (ruleV mm.1 (upd (askL mm.1 h 0) 8 (swayV mm.1 h 0)) 200) B := by unfold badV; rw [hB, nI_clamp (by omega)]
  apply b_X12_isBad
  refine icall (sway_okE 0 hh hr hL m hm) ?_
  intro m1 q1
  refine vcall (look_okE 0 hh hr m1 q1) ?_
  rintro m2 ⟨q2, q3⟩
  refine bcall (isRule_okE (q := 9) (b := 200) (by omega) (Or.inr rfl) hB hB4 hR _ (q2.w _ rfl) (q3.u 8 rfl)) ?_ ?_
  · rintro el m3 ⟨q4, -⟩
    exact ⟨by rw [hv, el]; rfl, q4⟩
  · rintro el m3 ⟨q4, -⟩
    exact ⟨by rw [hv, el]; rfl, q4⟩
theorem push_okE {mm : MM} {t : Nat} (ht : isT t) {cv : Nat → Int32} {S : List Int32} {b : Bool} {x : Int32} (hl : S.length < 32) (m : MM) (hm : Ke mm m) (hs : Sk t cv S b m) :
    Runs e_X1_push [.ref (t + 8), .int x] m (fun r m' => r = .null ∧ Ke mm m' ∧ Sk t cv (x :: S) b m') := by
  obtain ⟨s1, s2, s3, s4, s5⟩ := hs
  apply b_X1_push _ _ _ _ ht.at.laws
  simp (disch := omega) only [lin, nI_add, pk_mul, s_sub, s_addneg, s_leT, s_leF, s_ltT, s_ltF, s_eqF, s_inT, s_neF, s_neF', s_neE, s_nleT, s_nleF, s_nltF, s_nltT, eq_self, nI_clamp, s_wIk, s_wIo, pk_us, pk_un, Nat.reduceAdd, Nat.reduceMul, Nat.reduceSub, Nat.zero_add, Nat.add_zero, Nat.mul_zero, true_implies, false_implies, implies_true, not_true, not_false, and_true, true_and, not_true_eq_false, not_false_eq_true, forall_const, s2]
  refine ⟨(hm.w _ (ke_stk ht _)).w _ (ke_l6 ht), fun i hi => ?_, ?_, ?_, ?_, hl⟩
  · simp (disch := omega) only [lin, nI_add, pk_mul, s_sub, s_addneg, s_leT, s_leF, s_ltT, s_ltF, s_eqF, s_inT, s_neF, s_neF', s_neE, s_nleT, s_nleF, s_nltF, s_nltT, eq_self, nI_clamp, s_wIk, s_wIo, pk_us, pk_un, Nat.reduceAdd, Nat.reduceMul, Nat.reduceSub, Nat.zero_add, Nat.add_zero, Nat.mul_zero, true_implies, false_implies, implies_true, not_true, not_false, and_true, true_and, not_true_eq_false, not_false_eq_true, forall_const, s1 i hi]
  · simp (disch := omega) only [lin, nI_add, pk_mul, s_sub, s_addneg, s_leT, s_leF, s_ltT, s_ltF, s_eqF, s_inT, s_neF, s_neF', s_neE, s_nleT, s_nleF, s_nltF, s_nltT, eq_self, nI_clamp, s_wIk, s_wIo, pk_us, pk_un, Nat.reduceAdd, Nat.reduceMul, Nat.reduceSub, Nat.zero_add, Nat.add_zero, Nat.mul_zero, true_implies, false_implies, implies_true, not_true, not_false, and_true, true_and, not_true_eq_false, not_false_eq_true, forall_const]
    rfl
  · simp (disch := omega) only [lin, nI_add, pk_mul, s_sub, s_addneg, s_leT, s_leF, s_ltT, s_ltF, s_eqF, s_inT, s_neF, s_neF', s_neE, s_nleT, s_nleF, s_nltF, s_nltT, eq_self, nI_clamp, s_wIk, s_wIo, pk_us, pk_un, Nat.reduceAdd, Nat.reduceMul, Nat.reduceSub, Nat.zero_add, Nat.add_zero, Nat.mul_zero, true_implies, false_implies, implies_true, not_true, not_false, and_true, true_and, not_true_eq_false, not_false_eq_true, forall_const, s3]
  · simp (disch := omega) only [lin, nI_add, pk_mul, s_sub, s_addneg, s_leT, s_leF, s_ltT, s_ltF, s_eqF, s_inT, s_neF, s_neF', s_neE, s_nleT, s_nleF, s_nltF, s_nltT, eq_self, nI_clamp, s_wIk, s_wIo, pk_us, pk_un, Nat.reduceAdd, Nat.reduceMul, Nat.reduceSub, Nat.zero_add, Nat.add_zero, Nat.mul_zero, true_implies, false_implies, implies_true, not_true, not_false, and_true, true_and, not_true_eq_false, not_false_eq_true, forall_const]
    exact stk_push s4
theorem turn_okE {mm : MM} {t : Nat} (ht : isT t) {cv : Nat → Int32} {T : List Int32} {x : Int32} {b : Bool} (m : MM) (hm : Ke mm m) (hs : Sk t cv (x :: T) b m) :
    Runs e_X1_turnRound [.ref (t + 8)] m (fun r m' => r = .null ∧ Ke mm m' ∧ Sk t cv ((1 - x) :: T) b m') := by
  obtain ⟨s1, s2, s3, ⟨s4, s6⟩, s5⟩ := hs
  have hl : (x :: T).length = T.length + 1 := rfl
  rw [hl] at s2 s5
  have x1 : m.1 (t + 8 + 5) (T.length + 1 - 1) = x := s4
  apply b_X1_turnRound _ _ _ ht.at.laws
  simp (disch := omega) only [lin, nI_add, pk_mul, s_sub, s_addneg, s_leT, s_leF, s_ltT, s_ltF, s_eqF, s_inT, s_neF, s_neF', s_neE, s_nleT, s_nleF, s_nltF, s_nltT, eq_self, nI_clamp, s_wIk, s_wIo, pk_us, pk_un, Nat.reduceAdd, Nat.reduceMul, Nat.reduceSub, Nat.zero_add, Nat.add_zero, Nat.mul_zero, true_implies, false_implies, implies_true, not_true, not_false, and_true, true_and, not_true_eq_false, not_false_eq_true, forall_const, s2, x1]
  refine ⟨hm.w _ (ke_stk ht _), fun i hi => ?_, ?_, ?_, ?_, s5⟩
  · simp (disch := omega) only [lin, nI_add, pk_mul, s_sub, s_addneg, s_leT, s_leF, s_ltT, s_ltF, s_eqF, s_inT, s_neF, s_neF', s_neE, s_nleT, s_nleF, s_nltF, s_nltT, eq_self, nI_clamp, s_wIk, s_wIo, pk_us, pk_un, Nat.reduceAdd, Nat.reduceMul, Nat.reduceSub, Nat.zero_add, Nat.add_zero, Nat.mul_zero, true_implies, false_implies, implies_true, not_true, not_false, and_true, true_and, not_true_eq_false, not_false_eq_true, forall_const, s1 i hi]
  · simp (disch := omega) only [lin, nI_add, pk_mul, s_sub, s_addneg, s_leT, s_leF, s_ltT, s_ltF, s_eqF, s_inT, s_neF, s_neF', s_neE, s_nleT, s_nleF, s_nltF, s_nltT, eq_self, nI_clamp, s_wIk, s_wIo, pk_us, pk_un, Nat.reduceAdd, Nat.reduceMul, Nat.reduceSub, Nat.zero_add, Nat.add_zero, Nat.mul_zero, true_implies, false_implies, implies_true, not_true, not_false, and_true, true_and, not_true_eq_false, not_false_eq_true, forall_const, s2]
    rfl
  · simp (disch := omega) only [lin, nI_add, pk_mul, s_sub, s_addneg, s_leT, s_leF, s_ltT, s_ltF, s_eqF, s_inT, s_neF, s_neF', s_neE, s_nleT, s_nleF, s_nltF, s_nltT, eq_self, nI_clamp, s_wIk, s_wIo, pk_us, pk_un, Nat.reduceAdd, Nat.reduceMul, Nat.reduceSub, Nat.zero_add, Nat.add_zero, Nat.mul_zero, true_implies, false_implies, implies_true, not_true, not_false, and_true, true_and, not_true_eq_false, not_false_eq_true, forall_const, s3]
  · simp (disch := omega) only [lin, nI_add, pk_mul, s_sub, s_addneg, s_leT, s_leF, s_ltT, s_ltF, s_eqF, s_inT, s_neF, s_neF', s_neE, s_nleT, s_nleF, s_nltF, s_nltT, eq_self, nI_clamp, s_wIk, s_wIo, pk_us, pk_un, Nat.reduceAdd, Nat.reduceMul, Nat.reduceSub, Nat.zero_add, Nat.add_zero, Nat.mul_zero, true_implies, false_implies, implies_true, not_true, not_false, and_true, true_and, not_true_eq_false, not_false_eq_true, forall_const]
    exact stk_push s6
theorem reckon_okE {mm : MM} {t q : Nat} (ht : isT t) (hq : 30 ≤ q ∧ q ≤ 33) {x y : Int32} (m : MM) (hm : Ke mm m) :
    Runs e_X1_reckon [.ref (t + 8), .int (nI q), .int x, .int y] m (fun r m' => r = .int (if q = 33 ∧ y = 0 then 0 else arC (nI q) x y) ∧ m' = if q = 33 ∧ y = 0 then wI m (t + 8) 7 1 else m) := by
  apply b_X1_reckon _ _ _ _ _ _ ht.at.laws
  have hq' : q = 30 ∨ q = 31 ∨ q = 32 ∨ q = 33 := by omega
  unfold arC
  rcases hq' with rfl | rfl | rfl | rfl
  · simp (disch := omega) only [lin, nI_add, pk_mul, s_sub, s_addneg, s_leT, s_leF, s_ltT, s_ltF, s_eqF, s_inT, s_neF, s_neF', s_neE, s_nleT, s_nleF, s_nltF, s_nltT, eq_self, nI_clamp, s_wIk, s_wIo, pk_us, pk_un, Nat.reduceAdd, Nat.reduceMul, Nat.reduceSub, Nat.zero_add, Nat.add_zero, Nat.mul_zero, true_implies, false_implies, implies_true, not_true, not_false, and_true, true_and, not_true_eq_false, not_false_eq_true, forall_const]
    simp
  · simp (disch := omega) only [lin, nI_add, pk_mul, s_sub, s_addneg, s_leT, s_leF, s_ltT, s_ltF, s_eqF, s_inT, s_neF, s_neF', s_neE, s_nleT, s_nleF, s_nltF, s_nltT, eq_self, nI_clamp, s_wIk, s_wIo, pk_us, pk_un, Nat.reduceAdd, Nat.reduceMul, Nat.reduceSub, Nat.zero_add, Nat.add_zero, Nat.mul_zero, true_implies, false_implies, implies_true, not_true, not_false, and_true, true_and, not_true_eq_false, not_false_eq_true, forall_const]
    simp
  · simp (disch := omega) only [lin, nI_add, pk_mul, s_sub, s_addneg, s_leT, s_leF, s_ltT, s_ltF, s_eqF, s_inT, s_neF, s_neF', s_neE, s_nleT, s_nleF, s_nltF, s_nltT, eq_self, nI_clamp, s_wIk, s_wIo, pk_us, pk_un, Nat.reduceAdd, Nat.reduceMul, Nat.reduceSub, Nat.zero_add, Nat.add_zero, Nat.mul_zero, true_implies, false_implies, implies_true, not_true, not_false, and_true, true_and, not_true_eq_false, not_false_eq_true, forall_const]
    simp
  · by_cases hy : y = 0
    · subst hy
      simp (disch := omega) only [lin, nI_add, pk_mul, s_sub, s_addneg, s_leT, s_leF, s_ltT, s_ltF, s_eqF, s_inT, s_neF, s_neF', s_neE, s_nleT, s_nleF, s_nltF, s_nltT, eq_self, nI_clamp, s_wIk, s_wIo, pk_us, pk_un, Nat.reduceAdd, Nat.reduceMul, Nat.reduceSub, Nat.zero_add, Nat.add_zero, Nat.mul_zero, true_implies, false_implies, implies_true, not_true, not_false, and_true, true_and, not_true_eq_false, not_false_eq_true, forall_const, if_true, if_false, and_self]
    · have hy' : ¬ y = nI 0 := hy
      simp (disch := omega) only [lin, nI_add, pk_mul, s_sub, s_addneg, s_leT, s_leF, s_ltT, s_ltF, s_eqF, s_inT, s_neF, s_neF', s_neE, s_nleT, s_nleF, s_nltF, s_nltT, eq_self, nI_clamp, s_wIk, s_wIo, pk_us, pk_un, Nat.reduceAdd, Nat.reduceMul, Nat.reduceSub, Nat.zero_add, Nat.add_zero, Nat.mul_zero, true_implies, false_implies, implies_true, not_true, not_false, and_true, true_and, not_true_eq_false, not_false_eq_true, forall_const, hy', if_true, if_false, and_false]
theorem join_okE {mm : MM} {t q : Nat} (ht : isT t) (hq : q < 40) {cv : Nat → Int32} {T : List Int32} {x y : Int32} {b : Bool} (m : MM) (hm : Ke mm m) (hs : Sk t cv (y :: x :: T) b m) :
    Runs e_X1_join [.ref (t + 8), .int (nI q)] m (fun r m' => r = .null ∧ Ke mm m' ∧ (if 34 ≤ q ∧ q ≤ 37 then Sk t cv (bI (!b && holdsV (nI q) x y) :: T) false m'
      else if 30 ≤ q ∧ q ≤ 33 then (if q = 33 ∧ y = 0 then Sk t cv (0 :: T) true m' else Sk t cv (arC (nI q) x y :: T) b m')
      else Sk t cv ((if q = 24 then x &&& y else x ||| y) :: T) b m')) := by
  obtain ⟨s1, s2, s3, ⟨s4, s6, s7⟩, s5⟩ := hs
  have hl : (y :: x :: T).length = T.length + 2 := rfl
  have hl1 : (x :: T).length = T.length + 1 := rfl
  rw [hl] at s2 s5
  have y1 : m.1 (t + 8 + 5) (T.length + 2 - 1) = y := s4
  have x1 : m.1 (t + 8 + 5) (T.length + 2 - 2) = x := s6
  have K6 : ∀ v, Ke mm (wI m (t + 8) 6 v) := fun v => hm.w _ (ke_l6 ht)
  by_cases c1 : 34 ≤ q ∧ q ≤ 37
  · simp only [if_pos c1]
    apply b_X1_join _ _ _ _ ht.at.laws
    have pc : ∀ m, p_X11_compares m (nI q) := fun m => by unfold p_X11_compares; simp (disch := omega) only [lin, nI_add, pk_mul, s_sub, s_addneg, s_leT, s_leF, s_ltT, s_ltF, s_eqF, s_inT, s_neF, s_neF', s_neE, s_nleT, s_nleF, s_nltF, s_nltT, eq_self, nI_clamp, s_wIk, s_wIo, pk_us, pk_un, Nat.reduceAdd, Nat.reduceMul, Nat.reduceSub, Nat.zero_add, Nat.add_zero, Nat.mul_zero, true_implies, false_implies, implies_true, not_true, not_false, and_true, true_and, not_true_eq_false, not_false_eq_true, forall_const]
    have fin : ∀ w : Int32, Ke mm (wI (wI (wI m (t + 8) 6 (nI (T.length + 2 - 1))) (t + 8 + 5) (T.length + 2 - 1 - 1) w) (t + 8) 7 (nI 0)) ∧ Sk t cv (w :: T) false (wI (wI (wI m (t + 8) 6 (nI (T.length + 2 - 1))) (t + 8 + 5) (T.length + 2 - 1 - 1) w) (t + 8) 7 (nI 0)) := by
      intro w
      refine ⟨((K6 _).w _ (ke_stk ht _)).w _ (ke_l7 ht), fun i hi => ?_, ?_, ?_, ?_, by show T.length + 1 ≤ 32; omega⟩
      · simp (disch := omega) only [lin, nI_add, pk_mul, s_sub, s_addneg, s_leT, s_leF, s_ltT, s_ltF, s_eqF, s_inT, s_neF, s_neF', s_neE, s_nleT, s_nleF, s_nltF, s_nltT, eq_self, nI_clamp, s_wIk, s_wIo, pk_us, pk_un, Nat.reduceAdd, Nat.reduceMul, Nat.reduceSub, Nat.zero_add, Nat.add_zero, Nat.mul_zero, true_implies, false_implies, implies_true, not_true, not_false, and_true, true_and, not_true_eq_false, not_false_eq_true, forall_const, s1 i hi]
      · simp (disch := omega) only [lin, nI_add, pk_mul, s_sub, s_addneg, s_leT, s_leF, s_ltT, s_ltF, s_eqF, s_inT, s_neF, s_neF', s_neE, s_nleT, s_nleF, s_nltF, s_nltT, eq_self, nI_clamp, s_wIk, s_wIo, pk_us, pk_un, Nat.reduceAdd, Nat.reduceMul, Nat.reduceSub, Nat.zero_add, Nat.add_zero, Nat.mul_zero, true_implies, false_implies, implies_true, not_true, not_false, and_true, true_and, not_true_eq_false, not_false_eq_true, forall_const]
        rfl
      · simp (disch := omega) only [lin, nI_add, pk_mul, s_sub, s_addneg, s_leT, s_leF, s_ltT, s_ltF, s_eqF, s_inT, s_neF, s_neF', s_neE, s_nleT, s_nleF, s_nltF, s_nltT, eq_self, nI_clamp, s_wIk, s_wIo, pk_us, pk_un, Nat.reduceAdd, Nat.reduceMul, Nat.reduceSub, Nat.zero_add, Nat.add_zero, Nat.mul_zero, true_implies, false_implies, implies_true, not_true, not_false, and_true, true_and, not_true_eq_false, not_false_eq_true, forall_const]
        rfl
      · simp (disch := omega) only [lin, nI_add, pk_mul, s_sub, s_addneg, s_leT, s_leF, s_ltT, s_ltF, s_eqF, s_inT, s_neF, s_neF', s_neE, s_nleT, s_nleF, s_nltF, s_nltT, eq_self, nI_clamp, s_wIk, s_wIo, pk_us, pk_un, Nat.reduceAdd, Nat.reduceMul, Nat.reduceSub, Nat.zero_add, Nat.add_zero, Nat.mul_zero, true_implies, false_implies, implies_true, not_true, not_false, and_true, true_and, not_true_eq_false, not_false_eq_true, forall_const]
        exact stk_push s7
    cases b with
    | true =>
      have s3' : m.1 (t + 8) 7 = nI 1 := s3
      simp (disch := omega) only [lin, nI_add, pk_mul, s_sub, s_addneg, s_leT, s_leF, s_ltT, s_ltF, s_eqF, s_inT, s_neF, s_neF', s_neE, s_nleT, s_nleF, s_nltF, s_nltT, eq_self, nI_clamp, s_wIk, s_wIo, pk_us, pk_un, Nat.reduceAdd, Nat.reduceMul, Nat.reduceSub, Nat.zero_add, Nat.add_zero, Nat.mul_zero, true_implies, false_implies, implies_true, not_true, not_false, and_true, true_and, not_true_eq_false, not_false_eq_true, forall_const, s2, s3', x1, y1, pc]
      exact fin _
    | false =>
      have s3' : m.1 (t + 8) 7 = nI 0 := s3
      by_cases hh : holdsV (nI q) x y = true
      · have ph : ∀ m, p_X1_holds m (nI q) x y := fun m => (holds_iff m _ _ _).mpr hh
        simp (disch := omega) only [lin, nI_add, pk_mul, s_sub, s_addneg, s_leT, s_leF, s_ltT, s_ltF, s_eqF, s_inT, s_neF, s_neF', s_neE, s_nleT, s_nleF, s_nltF, s_nltT, eq_self, nI_clamp, s_wIk, s_wIo, pk_us, pk_un, Nat.reduceAdd, Nat.reduceMul, Nat.reduceSub, Nat.zero_add, Nat.add_zero, Nat.mul_zero, true_implies, false_implies, implies_true, not_true, not_false, and_true, true_and, not_true_eq_false, not_false_eq_true, forall_const, s2, s3', x1, y1, pc, ph]
        rw [hh]
        exact fin _
      · have ph : ∀ m, ¬ p_X1_holds m (nI q) x y := fun m z => hh ((holds_iff m _ _ _).mp z)
        simp (disch := omega) only [lin, nI_add, pk_mul, s_sub, s_addneg, s_leT, s_leF, s_ltT, s_ltF, s_eqF, s_inT, s_neF, s_neF', s_neE, s_nleT, s_nleF, s_nltF, s_nltT, eq_self, nI_clamp, s_wIk, s_wIo, pk_us, pk_un, Nat.reduceAdd, Nat.reduceMul, Nat.reduceSub, Nat.zero_add, Nat.add_zero, Nat.mul_zero, true_implies, false_implies, implies_true, not_true, not_false, and_true, true_and, not_true_eq_false, not_false_eq_true, forall_const, s2, s3', x1, y1, pc, ph]
        rw [Bool.eq_false_iff.mpr hh]
        exact fin _
  · simp only [if_neg c1]
    apply b_X1_join _ _ _ _ ht.at.laws
    have pc : ∀ m, ¬ p_X11_compares m (nI q) := fun m => by
      unfold p_X11_compares
      rintro ⟨z1, z2⟩
      have z1 : ¬ nI q < nI 34 := z1
      have z2 : ¬ nI 37 < nI q := z2
      rw [nI_ltI (by omega) (by omega)] at z1 z2
      omega
    have fin : ∀ (w : Int32) (m1 : MM), Ke mm m1 → (∀ i, i < 9 → m1.1 (t + 8 + 4) i = cv i) → m1.1 (t + 8) 6 = nI (T.length + 2 - 1) → (∀ b', m1.1 (t + 8) 7 = bI b' → stk (m1.1 (t + 8 + 5)) T → Ke mm (wI m1 (t + 8 + 5) (T.length + 2 - 1 - 1) w) ∧ Sk t cv (w :: T) b' (wI m1 (t + 8 + 5) (T.length + 2 - 1 - 1) w)) := by
      intro w m1 k1 k2 k3 b' k4 k5
      refine ⟨k1.w _ (ke_stk ht _), fun i hi => ?_, ?_, ?_, ?_, by show T.length + 1 ≤ 32; omega⟩
      · simp (disch := omega) only [lin, nI_add, pk_mul, s_sub, s_addneg, s_leT, s_leF, s_ltT, s_ltF, s_eqF, s_inT, s_neF, s_neF', s_neE, s_nleT, s_nleF, s_nltF, s_nltT, eq_self, nI_clamp, s_wIk, s_wIo, pk_us, pk_un, Nat.reduceAdd, Nat.reduceMul, Nat.reduceSub, Nat.zero_add, Nat.add_zero, Nat.mul_zero, true_implies, false_implies, implies_true, not_true, not_false, and_true, true_and, not_true_eq_false, not_false_eq_true, forall_const, k2 i hi]
      · simp (disch := omega) only [lin, nI_add, pk_mul, s_sub, s_addneg, s_leT, s_leF, s_ltT, s_ltF, s_eqF, s_inT, s_neF, s_neF', s_neE, s_nleT, s_nleF, s_nltF, s_nltT, eq_self, nI_clamp, s_wIk, s_wIo, pk_us, pk_un, Nat.reduceAdd, Nat.reduceMul, Nat.reduceSub, Nat.zero_add, Nat.add_zero, Nat.mul_zero, true_implies, false_implies, implies_true, not_true, not_false, and_true, true_and, not_true_eq_false, not_false_eq_true, forall_const, k3]
        rfl
      · simp (disch := omega) only [lin, nI_add, pk_mul, s_sub, s_addneg, s_leT, s_leF, s_ltT, s_ltF, s_eqF, s_inT, s_neF, s_neF', s_neE, s_nleT, s_nleF, s_nltF, s_nltT, eq_self, nI_clamp, s_wIk, s_wIo, pk_us, pk_un, Nat.reduceAdd, Nat.reduceMul, Nat.reduceSub, Nat.zero_add, Nat.add_zero, Nat.mul_zero, true_implies, false_implies, implies_true, not_true, not_false, and_true, true_and, not_true_eq_false, not_false_eq_true, forall_const, k4]
      · simp (disch := omega) only [lin, nI_add, pk_mul, s_sub, s_addneg, s_leT, s_leF, s_ltT, s_ltF, s_eqF, s_inT, s_neF, s_neF', s_neE, s_nleT, s_nleF, s_nltF, s_nltT, eq_self, nI_clamp, s_wIk, s_wIo, pk_us, pk_un, Nat.reduceAdd, Nat.reduceMul, Nat.reduceSub, Nat.zero_add, Nat.add_zero, Nat.mul_zero, true_implies, false_implies, implies_true, not_true, not_false, and_true, true_and, not_true_eq_false, not_false_eq_true, forall_const]
        exact stk_push k5
    have v6 : ∀ i, i < 9 → (wI m (t + 8) 6 (nI (T.length + 2 - 1))).1 (t + 8 + 4) i = cv i := fun i hi => by simp (disch := omega) only [lin, nI_add, pk_mul, s_sub, s_addneg, s_leT, s_leF, s_ltT, s_ltF, s_eqF, s_inT, s_neF, s_neF', s_neE, s_nleT, s_nleF, s_nltF, s_nltT, eq_self, nI_clamp, s_wIk, s_wIo, pk_us, pk_un, Nat.reduceAdd, Nat.reduceMul, Nat.reduceSub, Nat.zero_add, Nat.add_zero, Nat.mul_zero, true_implies, false_implies, implies_true, not_true, not_false, and_true, true_and, not_true_eq_false, not_false_eq_true, forall_const, s1 i hi]
    have t6 : (wI m (t + 8) 6 (nI (T.length + 2 - 1))).1 (t + 8) 6 = nI (T.length + 2 - 1) := by simp (disch := omega) only [lin, nI_add, pk_mul, s_sub, s_addneg, s_leT, s_leF, s_ltT, s_ltF, s_eqF, s_inT, s_neF, s_neF', s_neE, s_nleT, s_nleF, s_nltF, s_nltT, eq_self, nI_clamp, s_wIk, s_wIo, pk_us, pk_un, Nat.reduceAdd, Nat.reduceMul, Nat.reduceSub, Nat.zero_add, Nat.add_zero, Nat.mul_zero, true_implies, false_implies, implies_true, not_true, not_false, and_true, true_and, not_true_eq_false, not_false_eq_true, forall_const]
    have b6 : (wI m (t + 8) 6 (nI (T.length + 2 - 1))).1 (t + 8) 7 = bI b := by simp (disch := omega) only [lin, nI_add, pk_mul, s_sub, s_addneg, s_leT, s_leF, s_ltT, s_ltF, s_eqF, s_inT, s_neF, s_neF', s_neE, s_nleT, s_nleF, s_nltF, s_nltT, eq_self, nI_clamp, s_wIk, s_wIo, pk_us, pk_un, Nat.reduceAdd, Nat.reduceMul, Nat.reduceSub, Nat.zero_add, Nat.add_zero, Nat.mul_zero, true_implies, false_implies, implies_true, not_true, not_false, and_true, true_and, not_true_eq_false, not_false_eq_true, forall_const, s3]
    have k6 : stk ((wI m (t + 8) 6 (nI (T.length + 2 - 1))).1 (t + 8 + 5)) T := by
      simp (disch := omega) only [lin, nI_add, pk_mul, s_sub, s_addneg, s_leT, s_leF, s_ltT, s_ltF, s_eqF, s_inT, s_neF, s_neF', s_neE, s_nleT, s_nleF, s_nltF, s_nltT, eq_self, nI_clamp, s_wIk, s_wIo, pk_us, pk_un, Nat.reduceAdd, Nat.reduceMul, Nat.reduceSub, Nat.zero_add, Nat.add_zero, Nat.mul_zero, true_implies, false_implies, implies_true, not_true, not_false, and_true, true_and, not_true_eq_false, not_false_eq_true, forall_const]
      exact s7
    by_cases c2 : 30 ≤ q ∧ q ≤ 33
    · simp only [if_pos c2]
      have pr : ∀ m, p_X11_reckons m (nI q) := fun m => by unfold p_X11_reckons; simp (disch := omega) only [lin, nI_add, pk_mul, s_sub, s_addneg, s_leT, s_leF, s_ltT, s_ltF, s_eqF, s_inT, s_neF, s_neF', s_neE, s_nleT, s_nleF, s_nltF, s_nltT, eq_self, nI_clamp, s_wIk, s_wIo, pk_us, pk_un, Nat.reduceAdd, Nat.reduceMul, Nat.reduceSub, Nat.zero_add, Nat.add_zero, Nat.mul_zero, true_implies, false_implies, implies_true, not_true, not_false, and_true, true_and, not_true_eq_false, not_false_eq_true, forall_const]
      simp (disch := omega) only [lin, nI_add, pk_mul, s_sub, s_addneg, s_leT, s_leF, s_ltT, s_ltF, s_eqF, s_inT, s_neF, s_neF', s_neE, s_nleT, s_nleF, s_nltF, s_nltT, eq_self, nI_clamp, s_wIk, s_wIo, pk_us, pk_un, Nat.reduceAdd, Nat.reduceMul, Nat.reduceSub, Nat.zero_add, Nat.add_zero, Nat.mul_zero, true_implies, false_implies, implies_true, not_true, not_false, and_true, true_and, not_true_eq_false, not_false_eq_true, forall_const, s2, x1, y1, pc, pr]
      refine icall (reckon_okE ht c2 _ (K6 _)) ?_
      rintro m1 rfl
      by_cases c3 : q = 33 ∧ y = 0
      · have c3' : q = 33 ∧ y = nI 0 := c3
        simp only [if_pos c3, if_pos c3']
        exact fin _ _ ((K6 (nI (T.length + 2 - 1))).w _ (ke_l7 ht)) (fun i hi => by rw [wI_o (by omega)]; exact v6 i hi) (by rw [wI_k, pk_un (by decide)]; exact t6) true (by rw [wI_k, pk_us]; rfl) (by rw [wI_o (by omega)]; exact k6)
      · have c3' : ¬ (q = 33 ∧ y = nI 0) := c3
        simp only [if_neg c3, if_neg c3']
        exact fin _ _ (K6 _) v6 t6 b b6 k6
    · simp only [if_neg c2]
      have pr : ∀ m, ¬ p_X11_reckons m (nI q) := fun m => by
        unfold p_X11_reckons
        rintro ⟨z1, z2⟩
        have z1 : ¬ nI q < nI 30 := z1
        have z2 : ¬ nI 33 < nI q := z2
        rw [nI_ltI (by omega) (by omega)] at z1 z2
        omega
      by_cases c4 : q = 24
      · subst c4
        simp (disch := omega) only [lin, nI_add, pk_mul, s_sub, s_addneg, s_leT, s_leF, s_ltT, s_ltF, s_eqF, s_inT, s_neF, s_neF', s_neE, s_nleT, s_nleF, s_nltF, s_nltT, eq_self, nI_clamp, s_wIk, s_wIo, pk_us, pk_un, Nat.reduceAdd, Nat.reduceMul, Nat.reduceSub, Nat.zero_add, Nat.add_zero, Nat.mul_zero, true_implies, false_implies, implies_true, not_true, not_false, and_true, true_and, not_true_eq_false, not_false_eq_true, forall_const, s2, x1, y1, pc, pr]
        simp only [if_true]
        exact fin _ _ (K6 _) v6 t6 b b6 k6
      · simp (disch := omega) only [lin, nI_add, pk_mul, s_sub, s_addneg, s_leT, s_leF, s_ltT, s_ltF, s_eqF, s_inT, s_neF, s_neF', s_neE, s_nleT, s_nleF, s_nltF, s_nltT, eq_self, nI_clamp, s_wIk, s_wIo, pk_us, pk_un, Nat.reduceAdd, Nat.reduceMul, Nat.reduceSub, Nat.zero_add, Nat.add_zero, Nat.mul_zero, true_implies, false_implies, implies_true, not_true, not_false, and_true, true_and, not_true_eq_false, not_false_eq_true, forall_const, s2, x1, y1, pc, pr]
        simp only [if_neg c4]
        exact fin _ _ (K6 _) v6 t6 b b6 k6
theorem value_okE {mm : MM} {t : Nat} (ht : isT t) {cv : Nat → Int32} {st n sz : Nat} {v : Int32} {b : Bool} (hc : cr (mm.1 (t + 8 + 1)) cv st n = some ([v], b)) (hcod : Coded (mm.1 (t + 8 + 1)) st n) (hend : mm.1 (t + 8 + 1) (st + n) = -1 - nI 28) (hsz : mm.1 (t + 8) 5 = nI sz) (h1 : st + n < sz) (h4 : sz ≤ 400)
    (m : MM) (hm : Ke mm m) (hv : ∀ i, i < 9 → m.1 (t + 8 + 4) i = cv i) : Runs e_X1_value [.ref (t + 8), .int (nI st)] m (fun r m' => r = .int (bif b then 0 else v) ∧ Ke mm m' ∧ ∀ i, i < 9 → m'.1 (t + 8 + 4) i = cv i) := by
  apply b_X1_value _ _ _ _ ht.at.laws
  refine for_up (fun k => [(0, .ref (t + 8)), (2, .int (nI (st + k)))]) (fun k m => Ke mm m ∧ ∃ S b, cr (mm.1 (t + 8 + 1)) cv st k = some (S, b) ∧ Sk t cv S b m) n ?_ ?_ 0 _ (Nat.zero_le _) ⟨(hm.w _ (ke_l6 ht)).w _ (ke_l7 ht), [], false, rfl, fun i hi => ?_, ?_, ?_, trivial, Nat.zero_le _⟩
  · rintro m ⟨k1, S, b', k2, s1, s2, s3, s4, s5⟩
    rw [hc] at k2
    obtain ⟨rfl, rfl⟩ := Prod.mk.inj (Option.some.inj k2)
    have e2 : (-nI 1) - mm.1 (t + 8 + 1) (st + n) = nI 28 := by rw [hend]; exact tg_sign (by omega)
    have s2' : m.1 (t + 8) 6 = nI 1 := s2
    have s40 : m.1 (t + 8 + 5) 0 = v := s4.1
    apply b_X1_value_12 _ _ _ _ ht.at.laws
    cases b with
    | true =>
      have s3' : m.1 (t + 8) 7 = nI 1 := s3
      simp (disch := omega) only [lin, nI_add, pk_mul, s_sub, s_addneg, s_leT, s_leF, s_ltT, s_ltF, s_eqF, s_inT, s_neF, s_neF', s_neE, s_nleT, s_nleF, s_nltF, s_nltT, eq_self, nI_clamp, s_wIk, s_wIo, pk_us, pk_un, Nat.reduceAdd, Nat.reduceMul, Nat.reduceSub, Nat.zero_add, Nat.add_zero, Nat.mul_zero, true_implies, false_implies, implies_true, not_true, not_false, and_true, true_and, not_true_eq_false, not_false_eq_true, forall_const, k1.l ht 5 rfl, hsz, k1.t9 ht, e2, s2', s3']
      exact ⟨rfl, k1, s1⟩
    | false =>
      have s3' : m.1 (t + 8) 7 = nI 0 := s3
      simp (disch := omega) only [lin, nI_add, pk_mul, s_sub, s_addneg, s_leT, s_leF, s_ltT, s_ltF, s_eqF, s_inT, s_neF, s_neF', s_neE, s_nleT, s_nleF, s_nltF, s_nltT, eq_self, nI_clamp, s_wIk, s_wIo, pk_us, pk_un, Nat.reduceAdd, Nat.reduceMul, Nat.reduceSub, Nat.zero_add, Nat.add_zero, Nat.mul_zero, true_implies, false_implies, implies_true, not_true, not_false, and_true, true_and, not_true_eq_false, not_false_eq_true, forall_const, k1.l ht 5 rfl, hsz, k1.t9 ht, e2, s2', s3', s40]
      exact ⟨rfl, k1, s1⟩
  · rintro k m hk ⟨k1, S, b', k2, hs⟩ hn
    obtain ⟨r', hr'⟩ := cr_pre hc (show k + 1 ≤ n from hk)
    have hst : cs (mm.1 (t + 8 + 1)) cv (st + k) S b' = some r' := by
      have := hr'
      unfold cr at this
      rw [k2] at this
      exact this
    apply b_X1_value_12 _ _ _ _ ht.at.laws
    rcases hcod k hk with ⟨x, hx, ex⟩ | ⟨q, hq, hq2, eq⟩
    · rw [cs_num hx ex] at hst
      by_cases hl : S.length < 32
      · rw [if_pos hl] at hst
        have hst := Option.some.inj hst
        subst hst
        have e2 : (-nI 1) - nI x = -nI (x + 1) := tg_num hx
        simp (disch := omega) only [lin, nI_add, pk_mul, s_sub, s_addneg, s_leT, s_leF, s_ltT, s_ltF, s_eqF, s_inT, s_neF, s_neF', s_neE, s_nleT, s_nleF, s_nltF, s_nltT, eq_self, nI_clamp, s_wIk, s_wIo, pk_us, pk_un, Nat.reduceAdd, Nat.reduceMul, Nat.reduceSub, Nat.zero_add, Nat.add_zero, Nat.mul_zero, true_implies, false_implies, implies_true, not_true, not_false, and_true, true_and, not_true_eq_false, not_false_eq_true, forall_const, k1.l ht 5 rfl, hsz, k1.t9 ht, ex, e2]
        refine vcall (push_okE ht hl m k1 hs) ?_
        rintro m1 ⟨q1, q2⟩
        exact hn m1 ⟨q1, _, _, hr', q2⟩
      · rw [if_neg hl] at hst
        cases hst
    · rw [cs_sign (by omega) eq] at hst
      have e2 : (-nI 1) - mm.1 (t + 8 + 1) (st + k) = nI q := by rw [eq]; exact tg_sign (by omega)
      by_cases c1 : 12 ≤ q ∧ q ≤ 20
      · have pv : ∀ m, p_X11_isVar m (nI q) := fun m => by unfold p_X11_isVar; simp (disch := omega) only [lin, nI_add, pk_mul, s_sub, s_addneg, s_leT, s_leF, s_ltT, s_ltF, s_eqF, s_inT, s_neF, s_neF', s_neE, s_nleT, s_nleF, s_nltF, s_nltT, eq_self, nI_clamp, s_wIk, s_wIo, pk_us, pk_un, Nat.reduceAdd, Nat.reduceMul, Nat.reduceSub, Nat.zero_add, Nat.add_zero, Nat.mul_zero, true_implies, false_implies, implies_true, not_true, not_false, and_true, true_and, not_true_eq_false, not_false_eq_true, forall_const]
        unfold csq at hst
        rw [if_pos c1] at hst
        by_cases hl : S.length < 32
        · rw [if_pos hl] at hst
          have hst := Option.some.inj hst
          subst hst
          have ev := hs.1 (q - 12) (by omega)
          simp (disch := omega) only [lin, nI_add, pk_mul, s_sub, s_addneg, s_leT, s_leF, s_ltT, s_ltF, s_eqF, s_inT, s_neF, s_neF', s_neE, s_nleT, s_nleF, s_nltF, s_nltT, eq_self, nI_clamp, s_wIk, s_wIo, pk_us, pk_un, Nat.reduceAdd, Nat.reduceMul, Nat.reduceSub, Nat.zero_add, Nat.add_zero, Nat.mul_zero, true_implies, false_implies, implies_true, not_true, not_false, and_true, true_and, not_true_eq_false, not_false_eq_true, forall_const, k1.l ht 5 rfl, hsz, k1.t9 ht, e2, pv, ev]
          refine vcall (push_okE ht hl m k1 hs) ?_
          rintro m1 ⟨q1, q2⟩
          exact hn m1 ⟨q1, _, _, hr', q2⟩
        · rw [if_neg hl] at hst
          cases hst
      · have pv : ∀ m, ¬ p_X11_isVar m (nI q) := fun m => by
          unfold p_X11_isVar
          rintro ⟨z1, z2⟩
          have z1 : ¬ nI q < nI 12 := z1
          have z2 : ¬ nI 20 < nI q := z2
          rw [nI_ltI (by omega) (by omega)] at z1 z2
          omega
        by_cases c2 : q = 25
        · subst c2
          match S, hst, hs with
          | x :: T, hst, hs =>
            have hst : some ((1 - x) :: T, b') = some r' := hst
            have hst := Option.some.inj hst
            subst hst
            simp (disch := omega) only [lin, nI_add, pk_mul, s_sub, s_addneg, s_leT, s_leF, s_ltT, s_ltF, s_eqF, s_inT, s_neF, s_neF', s_neE, s_nleT, s_nleF, s_nltF, s_nltT, eq_self, nI_clamp, s_wIk, s_wIo, pk_us, pk_un, Nat.reduceAdd, Nat.reduceMul, Nat.reduceSub, Nat.zero_add, Nat.add_zero, Nat.mul_zero, true_implies, false_implies, implies_true, not_true, not_false, and_true, true_and, not_true_eq_false, not_false_eq_true, forall_const, k1.l ht 5 rfl, hsz, k1.t9 ht, e2, pv]
            refine vcall (turn_okE ht m k1 hs) ?_
            rintro m1 ⟨q1, q2⟩
            exact hn m1 ⟨q1, _, _, hr', q2⟩
        · unfold csq at hst
          rw [if_neg c1, if_neg c2] at hst
          match S, hst, hs with
          | y :: x :: T, hst, hs =>
            simp (disch := omega) only [lin, nI_add, pk_mul, s_sub, s_addneg, s_leT, s_leF, s_ltT, s_ltF, s_eqF, s_inT, s_neF, s_neF', s_neE, s_nleT, s_nleF, s_nltF, s_nltT, eq_self, nI_clamp, s_wIk, s_wIo, pk_us, pk_un, Nat.reduceAdd, Nat.reduceMul, Nat.reduceSub, Nat.zero_add, Nat.add_zero, Nat.mul_zero, true_implies, false_implies, implies_true, not_true, not_false, and_true, true_and, not_true_eq_false, not_false_eq_true, forall_const, k1.l ht 5 rfl, hsz, k1.t9 ht, e2, pv]
            refine vcall (join_okE ht (by omega) m k1 hs) ?_
            rintro m1 ⟨q1, q2⟩
            simp only at hst
            by_cases d1 : 34 ≤ q ∧ q ≤ 37
            · rw [if_pos d1] at hst q2
              have hst := Option.some.inj hst
              subst hst
              exact hn m1 ⟨q1, _, _, hr', q2⟩
            · rw [if_neg d1] at hst q2
              by_cases d2 : 30 ≤ q ∧ q ≤ 33
              · rw [if_pos d2] at hst q2
                by_cases d3 : q = 33 ∧ y = 0
                · rw [if_pos d3] at hst q2
                  have hst := Option.some.inj hst
                  subst hst
                  exact hn m1 ⟨q1, _, _, hr', q2⟩
                · rw [if_neg d3] at hst q2
                  have hst := Option.some.inj hst
                  subst hst
                  exact hn m1 ⟨q1, _, _, hr', q2⟩
              · rw [if_neg d2] at hst q2
                have hst := Option.some.inj hst
                subst hst
                exact hn m1 ⟨q1, _, _, hr', q2⟩
  · simp (disch := omega) only [lin, nI_add, pk_mul, s_sub, s_addneg, s_leT, s_leF, s_ltT, s_ltF, s_eqF, s_inT, s_neF, s_neF', s_neE, s_nleT, s_nleF, s_nltF, s_nltT, eq_self, nI_clamp, s_wIk, s_wIo, pk_us, pk_un, Nat.reduceAdd, Nat.reduceMul, Nat.reduceSub, Nat.zero_add, Nat.add_zero, Nat.mul_zero, true_implies, false_implies, implies_true, not_true, not_false, and_true, true_and, not_true_eq_false, not_false_eq_true, forall_const, hv i hi]
  · simp (disch := omega) only [lin, nI_add, pk_mul, s_sub, s_addneg, s_leT, s_leF, s_ltT, s_ltF, s_eqF, s_inT, s_neF, s_neF', s_neE, s_nleT, s_nleF, s_nltF, s_nltT, eq_self, nI_clamp, s_wIk, s_wIo, pk_us, pk_un, Nat.reduceAdd, Nat.reduceMul, Nat.reduceSub, Nat.zero_add, Nat.add_zero, Nat.mul_zero, true_implies, false_implies, implies_true, not_true, not_false, and_true, true_and, not_true_eq_false, not_false_eq_true, forall_const]
    rfl
  · simp (disch := omega) only [lin, nI_add, pk_mul, s_sub, s_addneg, s_leT, s_leF, s_ltT, s_ltF, s_eqF, s_inT, s_neF, s_neF', s_neE, s_nleT, s_nleF, s_nltF, s_nltT, eq_self, nI_clamp, s_wIk, s_wIo, pk_us, pk_un, Nat.reduceAdd, Nat.reduceMul, Nat.reduceSub, Nat.zero_add, Nat.add_zero, Nat.mul_zero, true_implies, false_implies, implies_true, not_true, not_false, and_true, true_and, not_true_eq_false, not_false_eq_true, forall_const]
    rfl
theorem value_noneE {mm : MM} {t : Nat} (ht : isT t) {cv : Nat → Int32} (m : MM) (hm : Ke mm m) (hv : ∀ i, i < 9 → m.1 (t + 8 + 4) i = cv i) : Runs e_X1_value [.ref (t + 8), .int (-nI 1)] m (fun r m' => r = .int 0 ∧ Ke mm m' ∧ ∀ i, i < 9 → m'.1 (t + 8 + 4) i = cv i) := by
  apply b_X1_value _ _ _ _ ht.at.laws
  apply b_X1_value_12 _ _ _ _ ht.at.laws
  simp (disch := omega) only [lin, nI_add, pk_mul, s_sub, s_addneg, s_leT, s_leF, s_ltT, s_ltF, s_eqF, s_inT, s_neF, s_neF', s_neE, s_nleT, s_nleF, s_nltF, s_nltT, eq_self, nI_clamp, s_wIk, s_wIo, pk_us, pk_un, Nat.reduceAdd, Nat.reduceMul, Nat.reduceSub, Nat.zero_add, Nat.add_zero, Nat.mul_zero, true_implies, false_implies, implies_true, not_true, not_false, and_true, true_and, not_true_eq_false, not_false_eq_true, forall_const]
  exact ⟨(hm.w _ (ke_l6 ht)).w _ (ke_l7 ht), fun i hi => by simp (disch := omega) only [lin, nI_add, pk_mul, s_sub, s_addneg, s_leT, s_leF, s_ltT, s_ltF, s_eqF, s_inT, s_neF, s_neF', s_neE, s_nleT, s_nleF, s_nltF, s_nltT, eq_self, nI_clamp, s_wIk, s_wIo, pk_us, pk_un, Nat.reduceAdd, Nat.reduceMul, Nat.reduceSub, Nat.zero_add, Nat.add_zero, Nat.mul_zero, true_implies, false_implies, implies_true, not_true, not_false, and_true, true_and, not_true_eq_false, not_false_eq_true, forall_const, hv i hi]⟩
theorem wipe_okE {mm : MM} {t : Nat} (ht : isT t) (m : MM) (hm : Ke mm m) : Runs e_X1_wipeVars [.ref (t + 8)] m (fun r m' => r = .null ∧ Ke mm m' ∧ Vs t m' (fun _ => 0)) := by
  apply b_X1_wipeVars _ _ _ ht.at.laws
  refine for_up (fun k => [(0, .ref (t + 8)), (1, .int (nI k))]) (fun k m => Ke mm m ∧ ∀ j, j < k → m.1 (t + 8 + 4) j = 0) 9 ?_ ?_ 0 _ (Nat.zero_le _) ⟨hm, fun j hj => absurd hj (Nat.not_lt_zero _)⟩
  · rintro m ⟨k1, k2⟩
    apply b_X1_wipeVars_2 _ _ _ _ ht.at.laws
    simp (disch := omega) only [lin, nI_add, pk_mul, s_sub, s_addneg, s_leT, s_leF, s_ltT, s_ltF, s_eqF, s_inT, s_neF, s_neF', s_neE, s_nleT, s_nleF, s_nltF, s_nltT, eq_self, nI_clamp, s_wIk, s_wIo, pk_us, pk_un, Nat.reduceAdd, Nat.reduceMul, Nat.reduceSub, Nat.zero_add, Nat.add_zero, Nat.mul_zero, true_implies, false_implies, implies_true, not_true, not_false, and_true, true_and, not_true_eq_false, not_false_eq_true, forall_const]
    exact ⟨k1, k2⟩
  · rintro k m hk ⟨k1, k2⟩ hn
    apply b_X1_wipeVars_2 _ _ _ _ ht.at.laws
    simp (disch := omega) only [lin, nI_add, pk_mul, s_sub, s_addneg, s_leT, s_leF, s_ltT, s_ltF, s_eqF, s_inT, s_neF, s_neF', s_neE, s_nleT, s_nleF, s_nltF, s_nltT, eq_self, nI_clamp, s_wIk, s_wIo, pk_us, pk_un, Nat.reduceAdd, Nat.reduceMul, Nat.reduceSub, Nat.zero_add, Nat.add_zero, Nat.mul_zero, true_implies, false_implies, implies_true, not_true, not_false, and_true, true_and, not_true_eq_false, not_false_eq_true, forall_const]
    refine hn _ ⟨k1.w _ (ke_vars ht _), fun j hj => ?_⟩
    rw [wI_k]
    by_cases c : j = k
    · subst c; rw [pk_us]; rfl
    · rw [pk_un c]; exact k2 j (by omega)
theorem put_okE {mm : MM} {t q : Nat} (ht : isT t) (hq : 12 ≤ q ∧ q ≤ 20) {cv : Nat → Int32} {v v' : Int32} (ev : v = v') (m : MM) (hm : Ke mm m) (hv : Vs t m cv) : Runs e_X1_put [.ref (t + 8), .int (nI q), .int v] m (fun r m' => r = .null ∧ Ke mm m' ∧ Vs t m' (upd cv (q - 12) v')) := by
  subst ev
  have pv : ∀ m, p_X11_isVar m (nI q) := fun m => by unfold p_X11_isVar; simp (disch := omega) only [lin, nI_add, pk_mul, s_sub, s_addneg, s_leT, s_leF, s_ltT, s_ltF, s_eqF, s_inT, s_neF, s_neF', s_neE, s_nleT, s_nleF, s_nltF, s_nltT, eq_self, nI_clamp, s_wIk, s_wIo, pk_us, pk_un, Nat.reduceAdd, Nat.reduceMul, Nat.reduceSub, Nat.zero_add, Nat.add_zero, Nat.mul_zero, true_implies, false_implies, implies_true, not_true, not_false, and_true, true_and, not_true_eq_false, not_false_eq_true, forall_const]
  apply b_X1_put _ _ _ _ _ ht.at.laws
  simp (disch := omega) only [lin, nI_add, pk_mul, s_sub, s_addneg, s_leT, s_leF, s_ltT, s_ltF, s_eqF, s_inT, s_neF, s_neF', s_neE, s_nleT, s_nleF, s_nltF, s_nltT, eq_self, nI_clamp, s_wIk, s_wIo, pk_us, pk_un, Nat.reduceAdd, Nat.reduceMul, Nat.reduceSub, Nat.zero_add, Nat.add_zero, Nat.mul_zero, true_implies, false_implies, implies_true, not_true, not_false, and_true, true_and, not_true_eq_false, not_false_eq_true, forall_const, pv]
  refine ⟨hm.w _ (ke_vars ht _), fun i hi => ?_⟩
  rw [wI_k]
  by_cases c : i = q - 12
  · subst c; rw [pk_us, pk_us]
  · rw [pk_un c, pk_un c]; exact hv i hi
theorem lawC_okE {mm : MM} {t l : Nat} (ht : isT t) (hl : LawR mm.1 t l) {vs : Nat → Int32} {o : Int32} (ho : mm.1 162 (10 + 2 * l) = -nI 1 → w99 o = 0) (m : MM) (hm : Ke mm m) (hv : Vs t m (cvOf vs)) :
    Runs e_X1_value [.ref (t + 8), .int (mm.1 (t + 8) (8 + l))] m (fun r m' => (∃ x, r = .int x ∧ w99 x = saysV mm.1 vs l o) ∧ Ke mm m' ∧ Vs t m' (cvOf vs)) := by
  rcases hl with ⟨e1, e2⟩ | ⟨fr, n, st, k, sz, e1, e2, e3, e4, e5, e6, e7, e8, e9, e10, e11⟩
  · rw [e2]
    refine runs_to (value_noneE ht m hm hv) ?_
    rintro r m' ⟨rfl, q1⟩
    refine ⟨⟨0, rfl, ?_⟩, q1⟩
    unfold saysV
    rw [e1, if_pos (by decide), ho e1]
    decide
  · obtain ⟨v, b, f1, f2⟩ := e11 vs
    rw [e5]
    refine runs_to (value_okE ht f1 e6 e7 e8 e9 e10 m hm hv) ?_
    rintro r m' ⟨rfl, q1⟩
    refine ⟨⟨_, rfl, ?_⟩, q1⟩
    unfold saysV
    rw [e1, e2, segV_at e3, if_neg (nI_pos (by omega)), f2]
theorem rkC_vE {mm m : MM} {t s h : Nat} (ht : isT t) (hs : isS s) (hm : Ke mm m) (hh : h < 16) (hr : RankR mm.1 t s h) : v_X8_rankOf m t s (nI h) = rkV mm.1 h := by
  unfold v_X8_rankOf rkV
  rw [nI_clamp (by omega), hm.s hs 2 (by omega), hm.t0 ht, hm.t3 ht]
  rcases hr with ⟨e, e2⟩ | ⟨o, O, r, h1, h2, h3, h4, h5, h6, h7, h8⟩
  · rw [e2, e, cite_pos (by decide), if_neg (by decide)]
  · rw [h5, h4, h3, cite_neg (nI_pos (by omega)), cite_neg (nI_ge h1 (by omega)), if_pos (nI_pos' (by omega)), nI_clamp (by omega), h6]
theorem rkC_oE {mm m : MM} {t s h : Nat} (ht : isT t) (hs : isS s) (hm : Ke mm m) (hh : h < 16) (hr : RankR mm.1 t s h) : o_X8_rankOf m t s (nI h) := by
  unfold o_X8_rankOf
  rw [nI_clamp (by omega), hm.s hs 2 (by omega), hm.t0 ht]
  rcases hr with ⟨e, e2⟩ | ⟨o, O, r, h1, h2, h3, h4, h5, h6, h7, h8⟩
  · rw [e2]
    simp (disch := omega) only [lin, nI_add, pk_mul, s_sub, s_addneg, s_leT, s_leF, s_ltT, s_ltF, s_eqF, s_inT, s_neF, s_neF', s_neE, s_nleT, s_nleF, s_nltF, s_nltT, eq_self, nI_clamp, s_wIk, s_wIo, pk_us, pk_un, Nat.reduceAdd, Nat.reduceMul, Nat.reduceSub, Nat.zero_add, Nat.add_zero, Nat.mul_zero, true_implies, false_implies, implies_true, not_true, not_false, and_true, true_and, not_true_eq_false, not_false_eq_true, forall_const]
  · rw [h5, h3]
    simp (disch := omega) only [lin, nI_add, pk_mul, s_sub, s_addneg, s_leT, s_leF, s_ltT, s_ltF, s_eqF, s_inT, s_neF, s_neF', s_neE, s_nleT, s_nleF, s_nltF, s_nltT, eq_self, nI_clamp, s_wIk, s_wIo, pk_us, pk_un, Nat.reduceAdd, Nat.reduceMul, Nat.reduceSub, Nat.zero_add, Nat.add_zero, Nat.mul_zero, true_implies, false_implies, implies_true, not_true, not_false, and_true, true_and, not_true_eq_false, not_false_eq_true, forall_const]
theorem putVars_okE {mm : MM} {t s h : Nat} (ht : isT t) (hs : isS s) (hR : HouR mm.1 t s h) (m : MM) (hm : Ke mm m) :
    Runs e_X8_putVars [.ref t, .ref s, .int (nI h)] m (fun r m' => r = .null ∧ Ke mm m' ∧ Vs t m' (upd (upd (upd (upd (fun _ => 0) 1 (mm.1 163 (10 + h))) 2 (rkV mm.1 h)) 3 (mm.1 162 (20 + 3 * h + 2))) 4 (mm.1 162 (20 + 3 * h)))) := by
  obtain ⟨hh, r1, r2, r3, r4⟩ := hR
  apply b_X8_putVars _ _ _ _ _ ht.at hs.at
  refine vcall (wipe_okE ht m hm) ?_
  rintro m1 ⟨q1, v1⟩
  refine ⟨vp_in_nI hh (by omega), ?_⟩
  refine vcall (put_okE (q := 13) (v' := mm.1 163 (10 + h)) ht (by omega) (by rw [nI_clamp (by omega), q1.s hs 1 (by omega)]; exact r2) m1 q1 v1) ?_
  rintro m2 ⟨q2, v2⟩
  refine ⟨rkC_oE ht hs q2 hh r1, ?_⟩
  refine vcall (put_okE (q := 14) ht (by omega) (rkC_vE ht hs q2 hh r1) m2 q2 v2) ?_
  rintro m3 ⟨q3, v3⟩
  refine ⟨vp_in_nI hh (by omega), ?_⟩
  refine vcall (put_okE (q := 15) (v' := mm.1 162 (20 + 3 * h + 2)) ht (by omega) (by rw [nI_clamp (by omega), q3.t2 ht]; exact r3) m3 q3 v3) ?_
  rintro m4 ⟨q4, v4⟩
  refine ⟨vp_in_nI hh (by omega), ?_⟩
  refine vcall (put_okE (q := 16) (v' := mm.1 162 (20 + 3 * h)) ht (by omega) (by rw [nI_clamp (by omega), q4.t1 ht]; exact r4) m4 q4 v4) ?_
  rintro m5 ⟨q5, v5⟩
  exact ⟨rfl, q5, v5⟩
theorem tideC_okE {mm : MM} {t s : Nat} (ht : isT t) (hs : isS s) (hL : LawR mm.1 t 0) (hM : mm.1 s 8 = mm.1 163 0) (hr : Int32) (m : MM) (hm : Ke mm m) :
    Runs e_X8_tideAt [.ref t, .ref s, .int hr] m (fun r m' => r = .int (tideV mm.1 hr) ∧ Ke mm m') := by
  apply b_X8_tideAt _ _ _ _ _ ht.at hs.at
  refine vcall (wipe_okE ht m hm) ?_
  rintro m1 ⟨q1, v1⟩
  refine vcall (put_okE (q := 17) ht (by omega) rfl m1 q1 v1) ?_
  rintro m2 ⟨q2, v2⟩
  refine vcall (put_okE (q := 18) (v' := mm.1 163 0) ht (by omega) (by rw [q2.s0 hs]; exact hM) m2 q2 v2) ?_
  rintro m3 ⟨q3, v3⟩
  have v4 : Vs t m3 (cvOf (askT mm.1 hr)) := v3.of (nine rfl rfl rfl rfl rfl rfl rfl rfl rfl)
  rw [q3.l ht 8 rfl]
  refine lcall (lawC_okE (l := 0) (o := 0) ht hL (fun _ => by decide) m3 q3 v4) ?_
  rintro x m4 hx ⟨q4, -⟩
  exact ⟨by rw [held99, hx]; rfl, q4⟩
theorem swayC_okE {mm : MM} {t s h : Nat} (ht : isT t) (hs : isS s) (hL : LawR mm.1 t 2) (hM : mm.1 s 8 = mm.1 163 0) (hR : HouR mm.1 t s h) (w : Int32) (m : MM) (hm : Ke mm m) :
    Runs e_X8_swayOf [.ref t, .ref s, .int (nI h), .int w] m (fun r m' => r = .int (swayV mm.1 h w) ∧ Ke mm m' ∧ Vs t m' (cvOf (askL mm.1 h w))) := by
  apply b_X8_swayOf _ _ _ _ _ _ ht.at hs.at
  refine vcall (putVars_okE ht hs hR m hm) ?_
  rintro m1 ⟨q1, v1⟩
  refine vcall (put_okE (q := 18) (v' := mm.1 163 0) ht (by omega) (by rw [q1.s0 hs]; exact hM) m1 q1 v1) ?_
  rintro m2 ⟨q2, v2⟩
  refine vcall (put_okE (q := 19) ht (by omega) rfl m2 q2 v2) ?_
  rintro m3 ⟨q3, v3⟩
  have v4 : Vs t m3 (cvOf (askL mm.1 h w)) := v3.of (nine rfl rfl rfl rfl rfl rfl rfl rfl rfl)
  rw [q3.l ht 10 rfl]
  refine lcall (lawC_okE (l := 2) (o := 0) ht hL (fun _ => by decide) m3 q3 v4) ?_
  rintro x m4 hx ⟨q4, v5⟩
  exact ⟨by rw [held99, hx]; rfl, q4, v5⟩
theorem dueC_okE {mm : MM} {t s h : Nat} (ht : isT t) (hs : isS s) (hL : LawR mm.1 t 1) (hR : HouR mm.1 t s h) (m : MM) (hm : Ke mm m) :
    Runs e_X8_dueOf [.ref t, .ref s, .int (nI h)] m (fun r m' => r = .int (dueV mm.1 h) ∧ Ke mm m') := by
  apply b_X8_dueOf _ _ _ _ _ ht.at hs.at
  rw [hm.l ht 9 rfl]
  have hcase : mm.1 (t + 8) 9 = -nI 1 ∧ mm.1 162 12 = -nI 1 ∨ ∃ st fr : Nat, st < 2 ^ 31 ∧ mm.1 (t + 8) 9 = nI st ∧ fr < 2 ^ 31 ∧ mm.1 162 12 = nI fr := by
    rcases hL with ⟨e1, e2⟩ | ⟨fr, n, st, k, sz, e1, e2, e3, e4, e5, e6, e7, e8, e9, e10, e11⟩
    · exact Or.inl ⟨e2, e1⟩
    · exact Or.inr ⟨st, fr, by omega, e5, by omega, e1⟩
  rcases hcase with ⟨e, e2⟩ | ⟨st, fr, hst, e, hfr, e2⟩
  · refine ⟨fun z => absurd e z, fun _ => ⟨rkC_oE ht hs hm hR.1 hR.2.1, ?_, hm⟩⟩
    rw [rkC_vE ht hs hm hR.1 hR.2.1]
    unfold dueV saysV
    rw [show 10 + 2 * 1 = 12 from rfl, e2, if_pos (by decide), hR.2.1.w]
  · refine ⟨fun _ => ?_, fun z => ?_⟩
    · refine vcall (putVars_okE ht hs hR m hm) ?_
      rintro m1 ⟨q1, v1⟩
      refine vcall (put_okE (q := 13) ht (by omega) rfl m1 q1 v1) ?_
      rintro m2 ⟨q2, v2⟩
      have v4 : Vs t m2 (cvOf (askD mm.1 h)) := v2.of (nine rfl rfl rfl rfl rfl rfl rfl rfl rfl)
      rw [q2.l ht 9 rfl]
      refine lcall (lawC_okE (l := 1) (o := rkV mm.1 h) ht hL (fun z => ?_) m2 q2 v4) ?_
      · rw [show 10 + 2 * 1 = 12 from rfl, e2] at z
        exact absurd z (of_eq_false (s_neF (b := 1) (Or.inr (by omega)) hfr (by omega)))
      · rintro x m4 hx ⟨q4, -⟩
        exact ⟨by rw [held99, hx]; rfl, q4⟩
    · rw [e] at z
      exact absurd z (of_eq_false (s_neF (b := 1) (Or.inr (by omega)) hst (by omega)))
theorem someHolds_okE {mm : MM} {t o b N : Nat} (ht : isT t) (ho : o = 2 ∨ o = 3) (hN4 : N ≤ 4) {vs : Nat → Int32} (hr : ∀ k, k < N → RuleR mm.1 t o b k) (m : MM) (hm : Ke mm m) (hv : Vs t m (cvOf vs)) :
    Runs e_X1_someHolds [.ref (t + 8), .ref (t + 8 + o), .int (nI N)] m (fun r m' => r = .int (bI (anyV (ruleV mm.1 vs b) N)) ∧ Ke mm m') := by
  have hsh : SHL[t + 8 + o]? = some (.inl (0, 4, 0, 0)) := by
    rcases ho with rfl | rfl
    · exact AtLaws_2 ht.at.laws
    · exact AtLaws_3 ht.at.laws
  have hrow : ∀ m, Ke mm m → m.1 (t + 8 + o) = mm.1 (t + 8 + o) := by
    intro m hm
    rcases ho with rfl | rfl
    · exact hm.t10 ht
    · exact hm.t11 ht
  apply b_X1_someHolds _ _ _ _ _ ht.at.laws hsh
  refine for_up (fun k => [(0, .ref (t + 8)), (1, .ref (t + 8 + o)), (2, .int (nI N)), (3, .int (nI k))]) (fun k m => Ke mm m ∧ Vs t m (cvOf vs) ∧ anyV (ruleV mm.1 vs b) k = false) N ?_ ?_ 0 _ (Nat.zero_le _) ⟨hm, hv, rfl⟩
  · rintro m ⟨k1, k2, k3⟩
    apply b_X1_someHolds_2 _ _ _ _ _ _ ht.at.laws hsh
    simp (disch := omega) only [lin, nI_add, pk_mul, s_sub, s_addneg, s_leT, s_leF, s_ltT, s_ltF, s_eqF, s_inT, s_neF, s_neF', s_neE, s_nleT, s_nleF, s_nltF, s_nltT, eq_self, nI_clamp, s_wIk, s_wIo, pk_us, pk_un, Nat.reduceAdd, Nat.reduceMul, Nat.reduceSub, Nat.zero_add, Nat.add_zero, Nat.mul_zero, true_implies, false_implies, implies_true, not_true, not_false, and_true, true_and, not_true_eq_false, not_false_eq_true, forall_const]
    exact ⟨by rw [k3]; rfl, k1⟩
  · rintro k m hk ⟨k1, k2, k3⟩ hn
    obtain ⟨f, n, st, kk, sz, e1, e2, e3, e4, e5, e6, e7, e8, e9, e10, e11, e12⟩ := hr k hk
    obtain ⟨v, bb, f1, f2⟩ := e12 vs
    have hvv : ruleV mm.1 vs b k = heldV mm.1 vs f n := by
      unfold ruleV
      rw [e1, e2, nI_clamp (by omega), nI_clamp (by omega), show f + n - f = n by omega]
    apply b_X1_someHolds_2 _ _ _ _ _ _ ht.at.laws hsh
    simp (disch := omega) only [lin, nI_add, pk_mul, s_sub, s_addneg, s_leT, s_leF, s_ltT, s_ltF, s_eqF, s_inT, s_neF, s_neF', s_neE, s_nleT, s_nleF, s_nltF, s_nltT, eq_self, nI_clamp, s_wIk, s_wIo, pk_us, pk_un, Nat.reduceAdd, Nat.reduceMul, Nat.reduceSub, Nat.zero_add, Nat.add_zero, Nat.mul_zero, true_implies, false_implies, implies_true, not_true, not_false, and_true, true_and, not_true_eq_false, not_false_eq_true, forall_const, hrow m k1, e6]
    refine icall (value_okE ht f1 e7 e8 e9 e10 e11 m k1 k2) ?_
    rintro m1 ⟨q1, q2⟩
    refine ⟨fun z => ?_, fun z => ?_⟩
    · refine hn m1 ⟨q1, q2, ?_⟩
      unfold anyV
      have z : (bif bb then 0 else v) = (0 : Int32) := z
      rw [k3, hvv, ← f2, z]
      decide
    · refine ⟨?_, q1⟩
      rw [anyV_yes (k := k) (hvv.trans (by rw [← f2]; exact decide_eq_true z)) hk]
      rfl
theorem badC_okE {mm : MM} {t s h B : Nat} (ht : isT t) (hs : isS s) (hL : LawR mm.1 t 2) (hM : mm.1 s 8 = mm.1 163 0) (hR : HouR mm.1 t s h) (hB : mm.1 162 9 = nI B) (hB2 : mm.1 (t + 8) 12 = nI B) (hB4 : B ≤ 4) (hr : ∀ k, k < B → RuleR mm.1 t 3 200 k) (m : MM) (hm : Ke mm m) :
    Runs e_X8_isBad [.ref t, .ref s, .int (nI h)] m (fun r m' => r = .int (bI (badV mm.1 h)) ∧ Ke mm m') := by
  have hv : badV mm.1 h = anyV (ruleV mm.1 (upd (askL mm.1 h 0) 8 (swayV mm.1 h 0)) 200) B := by unfold badV; rw [hB, nI_clamp (by omega)]
  apply b_X8_isBad _ _ _ _ _ ht.at hs.at
  refine icall (swayC_okE ht hs hL hM hR 0 m hm) ?_
  rintro m1 ⟨q1, v1⟩
  refine vcall (put_okE (q := 12) ht (by omega) rfl m1 q1 v1) ?_
  rintro m2 ⟨q2, v2⟩
  have v4 : Vs t m2 (cvOf (upd (askL mm.1 h 0) 8 (swayV mm.1 h 0))) := v2.of (nine rfl rfl rfl rfl rfl rfl rfl rfl rfl)
  rw [q2.l ht 12 rfl, hB2]
  refine bcall (someHolds_okE ht (Or.inr rfl) hB4 hr m2 q2 v4) ?_ ?_
  · intro el m3 q4
    exact ⟨by rw [hv, el]; rfl, q4⟩
  · intro el m3 q4
    exact ⟨by rw [hv, el]; rfl, q4⟩
theorem fallC_okE {mm : MM} {t s h B : Nat} (ht : isT t) (hs : isS s) (hL : LawR mm.1 t 2) (hM : mm.1 s 8 = mm.1 163 0) (hR : HouR mm.1 t s h) (hB : mm.1 162 8 = nI B) (hB2 : mm.1 (t + 8) 11 = nI B) (hB4 : B ≤ 4) (hr : ∀ k, k < B → RuleR mm.1 t 2 190 k) (w g : Int32) (m : MM) (hm : Ke mm m) :
    Runs e_X8_hasToFall [.ref t, .ref s, .int (nI h), .int w, .int g] m (fun r m' => r = .int (bI (fallV mm.1 h w g)) ∧ Ke mm m') := by
  have hv : fallV mm.1 h w g = anyV (ruleV mm.1 (upd (upd (askL mm.1 h w) 7 g) 8 (swayV mm.1 h w)) 190) B := by unfold fallV; rw [hB, nI_clamp (by omega)]
  apply b_X8_hasToFall _ _ _ _ _ _ _ ht.at hs.at
  refine icall (swayC_okE ht hs hL hM hR w m hm) ?_
  rintro m1 ⟨q1, v1⟩
  refine vcall (put_okE (q := 12) ht (by omega) rfl m1 q1 v1) ?_
  rintro m2 ⟨q2, v2⟩
  refine vcall (put_okE (q := 20) ht (by omega) rfl m2 q2 v2) ?_
  rintro m3 ⟨q3, v3⟩
  have v4 : Vs t m3 (cvOf (upd (upd (askL mm.1 h w) 7 g) 8 (swayV mm.1 h w))) := v3.of (nine rfl rfl rfl rfl rfl rfl rfl rfl rfl)
  rw [q3.l ht 11 rfl, hB2]
  refine bcall (someHolds_okE ht (Or.inl rfl) hB4 hr m3 q3 v4) ?_ ?_
  · intro el m3 q4
    exact ⟨by rw [hv, el]; rfl, q4⟩
  · intro el m3 q4
    exact ⟨by rw [hv, el]; rfl, q4⟩
theorem meetME {mm m : MM} {s : Nat} (hm : Ke mm m) (hs : s < 12) (hS : StairM (mm.1 162) s) (hH : HgtM (fun h => mm.1 163 (10 + h))) : o_X12_isMeeting m (nI s) ∧ (p_X12_isMeeting m (nI s) ↔ meetV (mm.1 162) (fun h => mm.1 163 (10 + h)) s = true) := by
  obtain ⟨a, r, ha, hr, ea, er, hb⟩ := hS
  obtain ⟨x, hx, ex⟩ := hH a ha
  have ex : mm.1 163 (10 + a) = nI x := ex
  have hA : stA (mm.1 162) s = a := by unfold stA; rw [ea, nI_clamp (by omega)]
  unfold o_X12_isMeeting p_X12_isMeeting o_X12_heightOf v_X12_heightOf meetV
  rw [hA]
  rcases hb with eb | ⟨b, hb, hba, eb⟩
  · rw [eb, if_pos (show (-nI 1 : Int32) < 0 by decide)]
    by_cases c1 : x ≤ 0
    · have e0 : x = 0 := by omega
      subst e0
      refine ⟨by simp (disch := omega) only [lin, nI_add, pk_mul, s_sub, s_addneg, s_leT, s_leF, s_ltT, s_ltF, s_eqF, s_inT, s_neF, s_neF', s_neE, s_nleT, s_nleF, s_nltF, s_nltT, eq_self, nI_clamp, s_wIk, s_wIo, pk_us, pk_un, Nat.reduceAdd, Nat.reduceMul, Nat.reduceSub, Nat.zero_add, Nat.add_zero, Nat.mul_zero, true_implies, false_implies, implies_true, not_true, not_false, and_true, true_and, not_true_eq_false, not_false_eq_true, forall_const, hm.r162, hm.r163, ea, er, eb, ex], ?_⟩
      simp (disch := omega) only [lin, nI_add, pk_mul, s_sub, s_addneg, s_leT, s_leF, s_ltT, s_ltF, s_eqF, s_inT, s_neF, s_neF', s_neE, s_nleT, s_nleF, s_nltF, s_nltT, eq_self, nI_clamp, s_wIk, s_wIo, pk_us, pk_un, Nat.reduceAdd, Nat.reduceMul, Nat.reduceSub, Nat.zero_add, Nat.add_zero, Nat.mul_zero, true_implies, false_implies, implies_true, not_true, not_false, and_true, true_and, not_true_eq_false, not_false_eq_true, forall_const, hm.r162, hm.r163, ea, er, eb, ex]
      simp
    · by_cases c2 : x ≤ r
      · refine ⟨by simp (disch := omega) only [lin, nI_add, pk_mul, s_sub, s_addneg, s_leT, s_leF, s_ltT, s_ltF, s_eqF, s_inT, s_neF, s_neF', s_neE, s_nleT, s_nleF, s_nltF, s_nltT, eq_self, nI_clamp, s_wIk, s_wIo, pk_us, pk_un, Nat.reduceAdd, Nat.reduceMul, Nat.reduceSub, Nat.zero_add, Nat.add_zero, Nat.mul_zero, true_implies, false_implies, implies_true, not_true, not_false, and_true, true_and, not_true_eq_false, not_false_eq_true, forall_const, hm.r162, hm.r163, ea, er, eb, ex], ?_⟩
        simp (disch := omega) only [lin, nI_add, pk_mul, s_sub, s_addneg, s_leT, s_leF, s_ltT, s_ltF, s_eqF, s_inT, s_neF, s_neF', s_neE, s_nleT, s_nleF, s_nltF, s_nltT, eq_self, nI_clamp, s_wIk, s_wIo, pk_us, pk_un, Nat.reduceAdd, Nat.reduceMul, Nat.reduceSub, Nat.zero_add, Nat.add_zero, Nat.mul_zero, true_implies, false_implies, implies_true, not_true, not_false, and_true, true_and, not_true_eq_false, not_false_eq_true, forall_const, hm.r162, hm.r163, ea, er, eb, ex, Nat.sub_zero]
        simp
      · refine ⟨by simp (disch := omega) only [lin, nI_add, pk_mul, s_sub, s_addneg, s_leT, s_leF, s_ltT, s_ltF, s_eqF, s_inT, s_neF, s_neF', s_neE, s_nleT, s_nleF, s_nltF, s_nltT, eq_self, nI_clamp, s_wIk, s_wIo, pk_us, pk_un, Nat.reduceAdd, Nat.reduceMul, Nat.reduceSub, Nat.zero_add, Nat.add_zero, Nat.mul_zero, true_implies, false_implies, implies_true, not_true, not_false, and_true, true_and, not_true_eq_false, not_false_eq_true, forall_const, hm.r162, hm.r163, ea, er, eb, ex, Nat.sub_zero], ?_⟩
        simp (disch := omega) only [lin, nI_add, pk_mul, s_sub, s_addneg, s_leT, s_leF, s_ltT, s_ltF, s_eqF, s_inT, s_neF, s_neF', s_neE, s_nleT, s_nleF, s_nltF, s_nltT, eq_self, nI_clamp, s_wIk, s_wIo, pk_us, pk_un, Nat.reduceAdd, Nat.reduceMul, Nat.reduceSub, Nat.zero_add, Nat.add_zero, Nat.mul_zero, true_implies, false_implies, implies_true, not_true, not_false, and_true, true_and, not_true_eq_false, not_false_eq_true, forall_const, hm.r162, hm.r163, ea, er, eb, ex, Nat.sub_zero]
        simp
  · obtain ⟨y, hy, ey⟩ := hH b hb
    have ey : mm.1 163 (10 + b) = nI y := ey
    have hB : stB (mm.1 162) s = b := by unfold stB; rw [eb, nI_clamp (by omega)]
    rw [hB, eb, if_neg (nI_pos (by omega))]
    by_cases c1 : x ≤ y
    · by_cases c2 : y - x ≤ r
      · refine ⟨by simp (disch := omega) only [lin, nI_add, pk_mul, s_sub, s_addneg, s_leT, s_leF, s_ltT, s_ltF, s_eqF, s_inT, s_neF, s_neF', s_neE, s_nleT, s_nleF, s_nltF, s_nltT, eq_self, nI_clamp, s_wIk, s_wIo, pk_us, pk_un, Nat.reduceAdd, Nat.reduceMul, Nat.reduceSub, Nat.zero_add, Nat.add_zero, Nat.mul_zero, true_implies, false_implies, implies_true, not_true, not_false, and_true, true_and, not_true_eq_false, not_false_eq_true, forall_const, hm.r162, hm.r163, ea, er, eb, ex, ey], ?_⟩
        simp (disch := omega) only [lin, nI_add, pk_mul, s_sub, s_addneg, s_leT, s_leF, s_ltT, s_ltF, s_eqF, s_inT, s_neF, s_neF', s_neE, s_nleT, s_nleF, s_nltF, s_nltT, eq_self, nI_clamp, s_wIk, s_wIo, pk_us, pk_un, Nat.reduceAdd, Nat.reduceMul, Nat.reduceSub, Nat.zero_add, Nat.add_zero, Nat.mul_zero, true_implies, false_implies, implies_true, not_true, not_false, and_true, true_and, not_true_eq_false, not_false_eq_true, forall_const, hm.r162, hm.r163, ea, er, eb, ex, ey]
        simp
      · refine ⟨by simp (disch := omega) only [lin, nI_add, pk_mul, s_sub, s_addneg, s_leT, s_leF, s_ltT, s_ltF, s_eqF, s_inT, s_neF, s_neF', s_neE, s_nleT, s_nleF, s_nltF, s_nltT, eq_self, nI_clamp, s_wIk, s_wIo, pk_us, pk_un, Nat.reduceAdd, Nat.reduceMul, Nat.reduceSub, Nat.zero_add, Nat.add_zero, Nat.mul_zero, true_implies, false_implies, implies_true, not_true, not_false, and_true, true_and, not_true_eq_false, not_false_eq_true, forall_const, hm.r162, hm.r163, ea, er, eb, ex, ey], ?_⟩
        simp (disch := omega) only [lin, nI_add, pk_mul, s_sub, s_addneg, s_leT, s_leF, s_ltT, s_ltF, s_eqF, s_inT, s_neF, s_neF', s_neE, s_nleT, s_nleF, s_nltF, s_nltT, eq_self, nI_clamp, s_wIk, s_wIo, pk_us, pk_un, Nat.reduceAdd, Nat.reduceMul, Nat.reduceSub, Nat.zero_add, Nat.add_zero, Nat.mul_zero, true_implies, false_implies, implies_true, not_true, not_false, and_true, true_and, not_true_eq_false, not_false_eq_true, forall_const, hm.r162, hm.r163, ea, er, eb, ex, ey]
        simp
    · by_cases c2 : x - y ≤ r
      · refine ⟨by simp (disch := omega) only [lin, nI_add, pk_mul, s_sub, s_addneg, s_leT, s_leF, s_ltT, s_ltF, s_eqF, s_inT, s_neF, s_neF', s_neE, s_nleT, s_nleF, s_nltF, s_nltT, eq_self, nI_clamp, s_wIk, s_wIo, pk_us, pk_un, Nat.reduceAdd, Nat.reduceMul, Nat.reduceSub, Nat.zero_add, Nat.add_zero, Nat.mul_zero, true_implies, false_implies, implies_true, not_true, not_false, and_true, true_and, not_true_eq_false, not_false_eq_true, forall_const, hm.r162, hm.r163, ea, er, eb, ex, ey], ?_⟩
        simp (disch := omega) only [lin, nI_add, pk_mul, s_sub, s_addneg, s_leT, s_leF, s_ltT, s_ltF, s_eqF, s_inT, s_neF, s_neF', s_neE, s_nleT, s_nleF, s_nltF, s_nltT, eq_self, nI_clamp, s_wIk, s_wIo, pk_us, pk_un, Nat.reduceAdd, Nat.reduceMul, Nat.reduceSub, Nat.zero_add, Nat.add_zero, Nat.mul_zero, true_implies, false_implies, implies_true, not_true, not_false, and_true, true_and, not_true_eq_false, not_false_eq_true, forall_const, hm.r162, hm.r163, ea, er, eb, ex, ey]
        simp
      · refine ⟨by simp (disch := omega) only [lin, nI_add, pk_mul, s_sub, s_addneg, s_leT, s_leF, s_ltT, s_ltF, s_eqF, s_inT, s_neF, s_neF', s_neE, s_nleT, s_nleF, s_nltF, s_nltT, eq_self, nI_clamp, s_wIk, s_wIo, pk_us, pk_un, Nat.reduceAdd, Nat.reduceMul, Nat.reduceSub, Nat.zero_add, Nat.add_zero, Nat.mul_zero, true_implies, false_implies, implies_true, not_true, not_false, and_true, true_and, not_true_eq_false, not_false_eq_true, forall_const, hm.r162, hm.r163, ea, er, eb, ex, ey], ?_⟩
        simp (disch := omega) only [lin, nI_add, pk_mul, s_sub, s_addneg, s_leT, s_leF, s_ltT, s_ltF, s_eqF, s_inT, s_neF, s_neF', s_neE, s_nleT, s_nleF, s_nltF, s_nltT, eq_self, nI_clamp, s_wIk, s_wIo, pk_us, pk_un, Nat.reduceAdd, Nat.reduceMul, Nat.reduceSub, Nat.zero_add, Nat.add_zero, Nat.mul_zero, true_implies, false_implies, implies_true, not_true, not_false, and_true, true_and, not_true_eq_false, not_false_eq_true, forall_const, hm.r162, hm.r163, ea, er, eb, ex, ey]
        simp
theorem reach_okE {mm : MM} {tide ns nh hr : Int32} (hL : LawM mm.1 0) (ht : tideV mm.1 hr = tide) (hT : TownM (mm.1 162)) (hH : HgtM (fun h => mm.1 163 (10 + h))) (m : MM) (hm : Ke mm m) :
    Runs e_X12_reachedAt [.ref 156, .int hr, .int ns, .int nh] m (fun r m' => r = .int (nI (rchV (mm.1 162) (fun h => mm.1 163 (10 + h)) tide ns nh)) ∧ Ke mm m' ∧ LeastR (mm.1 162) (fun h => mm.1 163 (10 + h)) tide ns nh (rchV (mm.1 162) (fun h => mm.1 163 (10 + h)) tide ns nh)) := by
  obtain ⟨H, S, Qn, h16, s12, q4, eH, eS, eQ, hS, hQ⟩ := hT
  apply b_X12_reachedAt
  refine icall (tide_okE hr hL m hm) ?_
  intro m1 q1
  rw [ht]
  refine for_up (fun k => [(0, .ref 156), (2, .int ns), (3, .int nh), (4, .int tide), (5, .int (nI (bs (fun h => decide (¬ mm.1 163 (10 + h) < tide) && decide (¬ nI h = nh)) k))), (6, .int (nI k))]) (fun k m => Ke mm m) H ?_ ?_ 0 _ (Nat.zero_le _) q1
  · intro m k1
    have eD : bs (fun h => decide (¬ mm.1 163 (10 + h) < tide) && decide (¬ nI h = nh)) H = dryV (mm.1 162) (fun h => mm.1 163 (10 + h)) tide nh := by
      unfold dryV
      rw [eH, nI_clamp (by omega)]
    have hD : dryV (mm.1 162) (fun h => mm.1 163 (10 + h)) tide nh < 2 ^ 16 := by
      rw [← eD]
      exact Nat.lt_of_lt_of_le (bs_lt _ _) (Nat.pow_le_pow_right (by decide) h16)
    rw [eD]
    generalize hDD : dryV (mm.1 162) (fun h => mm.1 163 (10 + h)) tide nh = D at hD
    apply b_X12_reachedAt_13
    simp (disch := omega) only [lin, nI_add, pk_mul, s_sub, s_addneg, s_leT, s_leF, s_ltT, s_ltF, s_eqF, s_inT, s_neF, s_neF', s_neE, s_nleT, s_nleF, s_nltF, s_nltT, eq_self, nI_clamp, s_wIk, s_wIo, pk_us, pk_un, Nat.reduceAdd, Nat.reduceMul, Nat.reduceSub, Nat.zero_add, Nat.add_zero, Nat.mul_zero, true_implies, false_implies, implies_true, not_true, not_false, and_true, true_and, not_true_eq_false, not_false_eq_true, forall_const, k1.r162, eH]
    refine G_eq (L := [(0, .ref 156), (2, .int ns), (4, .int tide), (5, .int (nI D)), (6, .int (nI (qs (mm.1 162) 0 &&& D))), (7, .int (nI 0))]) (by rw [show qs (mm.1 162) 0 = 0 from rfl, Nat.zero_and]) ?_
    refine for_up (fun k => [(0, .ref 156), (2, .int ns), (4, .int tide), (5, .int (nI D)), (6, .int (nI (qs (mm.1 162) k &&& D))), (7, .int (nI k))]) (fun k m => Ke mm m) Qn ?_ ?_ 0 _ (Nat.zero_le _) k1
    · intro m k1
      have eA : qs (mm.1 162) Qn = quayN (mm.1 162) := by unfold quayN; rw [eQ, nI_clamp (by omega)]
      rw [eA]
      apply b_X12_reachedAt_62
      simp (disch := omega) only [lin, nI_add, pk_mul, s_sub, s_addneg, s_leT, s_leF, s_ltT, s_ltF, s_eqF, s_inT, s_neF, s_neF', s_neE, s_nleT, s_nleF, s_nltF, s_nltT, eq_self, nI_clamp, s_wIk, s_wIo, pk_us, pk_un, Nat.reduceAdd, Nat.reduceMul, Nat.reduceSub, Nat.zero_add, Nat.add_zero, Nat.mul_zero, true_implies, false_implies, implies_true, not_true, not_false, and_true, true_and, not_true_eq_false, not_false_eq_true, forall_const, k1.r162, eQ]
      have hG : ∀ s, s < (mm.1 162 3).toNatClampNeg → actV (mm.1 162) (fun h => mm.1 163 (10 + h)) ns s = true → StepG D (condS (mm.1 162) (decide (tide = 0)) D s) (fM (mm.1 162) (decide (tide = 0)) D s) := fun s _ _ => fM_G _ _ _ _
      have hfin : ∀ (R : Nat) (m : MM), Ke mm m → LeastR (mm.1 162) (fun h => mm.1 163 (10 + h)) tide ns nh R → Value.int (nI R) = Value.int (nI (rchV (mm.1 162) (fun h => mm.1 163 (10 + h)) tide ns nh)) ∧ Ke mm m ∧ LeastR (mm.1 162) (fun h => mm.1 163 (10 + h)) tide ns nh (rchV (mm.1 162) (fun h => mm.1 163 (10 + h)) tide ns nh) := by
        intro R m hm hR
        rw [rchV_of hR]
        exact ⟨rfl, hm, hR⟩
      have inner : ∀ (R : Nat) (m : MM), Ke mm m → sub R D → (∀ m', Ke mm m' → G e_X12_reachedAt 103 [(0, .ref 156), (2, .int ns), (4, .int tide), (5, .int (nI D)), (6, .int (nI (pass (actV (mm.1 162) (fun h => mm.1 163 (10 + h)) ns) (fM (mm.1 162) (decide (tide = 0)) D) S R))), (7, .int (if pass (actV (mm.1 162) (fun h => mm.1 163 (10 + h)) ns) (fM (mm.1 162) (decide (tide = 0)) D) S R = R then 0 else 1))] [] m' (fun r m' => r = .int (nI (rchV (mm.1 162) (fun h => mm.1 163 (10 + h)) tide ns nh)) ∧ Ke mm m' ∧ LeastR (mm.1 162) (fun h => mm.1 163 (10 + h)) tide ns nh (rchV (mm.1 162) (fun h => mm.1 163 (10 + h)) tide ns nh))) →
          G e_X12_reachedAt 115 [(0, .ref 156), (2, .int ns), (4, .int tide), (5, .int (nI D)), (6, .int (nI R)), (8, .int (nI R)), (9, .int (0 : Int32))] [] m (fun r m' => r = .int (nI (rchV (mm.1 162) (fun h => mm.1 163 (10 + h)) tide ns nh)) ∧ Ke mm m' ∧ LeastR (mm.1 162) (fun h => mm.1 163 (10 + h)) tide ns nh (rchV (mm.1 162) (fun h => mm.1 163 (10 + h)) tide ns nh)) := by
        intro R m hm hR hout
        have hR16 : R < 2 ^ 16 := sub_lt hR hD
        refine for_up (fun k => [(0, .ref 156), (2, .int ns), (4, .int tide), (5, .int (nI D)), (6, .int (nI (pass (actV (mm.1 162) (fun h => mm.1 163 (10 + h)) ns) (fM (mm.1 162) (decide (tide = 0)) D) k R))), (8, .int (nI R)), (9, .int (nI k))]) (fun k m => Ke mm m) S ?_ ?_ 0 _ (Nat.zero_le _) hm
        · intro m k1
          have hP := (pass_ok (fun s (_ : s < S) (_ : actV (mm.1 162) (fun h => mm.1 163 (10 + h)) ns s = true) => fM_G (mm.1 162) (decide (tide = 0)) D s) hR S (Nat.le_refl _)).2.1
          have ho := hout m k1
          apply b_X12_reachedAt_115
          generalize pass (actV (mm.1 162) (fun h => mm.1 163 (10 + h)) ns) (fM (mm.1 162) (decide (tide = 0)) D) S R = P at hP ho
          have hP16 : P < 2 ^ 16 := sub_lt hP hD
          by_cases e : P = R
          · rw [if_pos e] at ho
            subst e
            simp (disch := omega) only [lin, nI_add, pk_mul, s_sub, s_addneg, s_leT, s_leF, s_ltT, s_ltF, s_eqF, s_inT, s_neF, s_neF', s_neE, s_nleT, s_nleF, s_nltF, s_nltT, eq_self, nI_clamp, s_wIk, s_wIo, pk_us, pk_un, Nat.reduceAdd, Nat.reduceMul, Nat.reduceSub, Nat.zero_add, Nat.add_zero, Nat.mul_zero, true_implies, false_implies, implies_true, not_true, not_false, and_true, true_and, not_true_eq_false, not_false_eq_true, forall_const, k1.r162, eS]
            exact ho
          · rw [if_neg e] at ho
            simp (disch := omega) only [lin, nI_add, pk_mul, s_sub, s_addneg, s_leT, s_leF, s_ltT, s_ltF, s_eqF, s_inT, s_neF, s_neF', s_neE, s_nleT, s_nleF, s_nltF, s_nltT, eq_self, nI_clamp, s_wIk, s_wIo, pk_us, pk_un, Nat.reduceAdd, Nat.reduceMul, Nat.reduceSub, Nat.zero_add, Nat.add_zero, Nat.mul_zero, true_implies, false_implies, implies_true, not_true, not_false, and_true, true_and, not_true_eq_false, not_false_eq_true, forall_const, k1.r162, eS]
            exact ho
        · intro k m hk k1 hn
          have hP := (pass_ok (fun s (_ : s < S) (_ : actV (mm.1 162) (fun h => mm.1 163 (10 + h)) ns s = true) => fM_G (mm.1 162) (decide (tide = 0)) D s) hR k (Nat.le_of_lt hk)).2.1
          have hn2 := hn m k1
          simp only [pass_S] at hn2
          generalize pass (actV (mm.1 162) (fun h => mm.1 163 (10 + h)) ns) (fM (mm.1 162) (decide (tide = 0)) D) k R = P at hP hn2
          have hP16 : P < 2 ^ 16 := sub_lt hP hD
          apply b_X12_reachedAt_115
          by_cases c1 : nI k = ns
          · have ea : actV (mm.1 162) (fun h => mm.1 163 (10 + h)) ns k = false := by unfold actV; simp [c1]
            simp only [ea, cond_false] at hn2
            simp (disch := omega) only [lin, nI_add, pk_mul, s_sub, s_addneg, s_leT, s_leF, s_ltT, s_ltF, s_eqF, s_inT, s_neF, s_neF', s_neE, s_nleT, s_nleF, s_nltF, s_nltT, eq_self, nI_clamp, s_wIk, s_wIo, pk_us, pk_un, Nat.reduceAdd, Nat.reduceMul, Nat.reduceSub, Nat.zero_add, Nat.add_zero, Nat.mul_zero, true_implies, false_implies, implies_true, not_true, not_false, and_true, true_and, not_true_eq_false, not_false_eq_true, forall_const, k1.r162, eS, eq_true c1]
            exact hn2
          · obtain ⟨o1, o2⟩ := meetME k1 (show k < 12 by omega) (hS k hk) hH
            by_cases c2 : meetV (mm.1 162) (fun h => mm.1 163 (10 + h)) k = true
            · have ea : actV (mm.1 162) (fun h => mm.1 163 (10 + h)) ns k = true := by unfold actV; simp [c1, c2]
              simp only [ea, cond_true] at hn2
              have c2 := o2.mpr c2
              obtain ⟨a, r, ha, hr, e1, e2, e3⟩ := hS k hk
              have hA : stA (mm.1 162) k = a := by unfold stA; rw [e1, nI_clamp (by omega)]
              unfold fM at hn2
              rw [hA] at hn2
              rcases e3 with e3 | ⟨b, hb, hba, e3⟩
              · rw [e3, if_pos (show (-nI 1 : Int32) < 0 by decide)] at hn2
                by_cases c3 : tide = 0
                · have c3' : tide = nI 0 := c3
                  rw [decide_eq_true c3, cond_true] at hn2
                  simp (disch := omega) only [lin, nI_add, pk_mul, s_sub, s_addneg, s_leT, s_leF, s_ltT, s_ltF, s_eqF, s_inT, s_neF, s_neF', s_neE, s_nleT, s_nleF, s_nltF, s_nltT, eq_self, nI_clamp, s_wIk, s_wIo, pk_us, pk_un, Nat.reduceAdd, Nat.reduceMul, Nat.reduceSub, Nat.zero_add, Nat.add_zero, Nat.mul_zero, true_implies, false_implies, implies_true, not_true, not_false, and_true, true_and, not_true_eq_false, not_false_eq_true, forall_const, k1.r162, eS, c1, o1, c2, e1, e3, eq_true c3', ib', ib2, fa_and, fa_or]
                  exact hn2
                · have c3' : ¬ tide = nI 0 := c3
                  rw [decide_eq_false c3, cond_false] at hn2
                  simp (disch := omega) only [lin, nI_add, pk_mul, s_sub, s_addneg, s_leT, s_leF, s_ltT, s_ltF, s_eqF, s_inT, s_neF, s_neF', s_neE, s_nleT, s_nleF, s_nltF, s_nltT, eq_self, nI_clamp, s_wIk, s_wIo, pk_us, pk_un, Nat.reduceAdd, Nat.reduceMul, Nat.reduceSub, Nat.zero_add, Nat.add_zero, Nat.mul_zero, true_implies, false_implies, implies_true, not_true, not_false, and_true, true_and, not_true_eq_false, not_false_eq_true, forall_const, k1.r162, eS, c1, o1, c2, e1, e3, c3', ib', ib2, fa_and, fa_or]
                  exact hn2
              · have hB : stB (mm.1 162) k = b := by unfold stB; rw [e3, nI_clamp (by omega)]
                rw [e3, if_neg (nI_pos (by omega)), hB] at hn2
                cases ta : P.testBit a with
                | false =>
                  have ta' := tb_eq (by omega) ta
                  rw [ta] at hn2
                  simp only [cond_false] at hn2
                  cases tb : P.testBit b with
                  | false =>
                    have tb' := tb_eq (by omega) tb
                    simp only [tb, cond_true, cond_false] at hn2
                    simp (disch := omega) only [lin, nI_add, pk_mul, s_sub, s_addneg, s_leT, s_leF, s_ltT, s_ltF, s_eqF, s_inT, s_neF, s_neF', s_neE, s_nleT, s_nleF, s_nltF, s_nltT, eq_self, nI_clamp, s_wIk, s_wIo, pk_us, pk_un, Nat.reduceAdd, Nat.reduceMul, Nat.reduceSub, Nat.zero_add, Nat.add_zero, Nat.mul_zero, true_implies, false_implies, implies_true, not_true, not_false, and_true, true_and, not_true_eq_false, not_false_eq_true, forall_const, k1.r162, eS, c1, o1, c2, e1, e3, ib', ib2, fa_and, fa_or, ta', tb']
                    exact hn2
                  | true =>
                    have tb' := tb_ne (by omega) tb
                    simp only [tb, cond_true, cond_false] at hn2
                    simp (disch := omega) only [lin, nI_add, pk_mul, s_sub, s_addneg, s_leT, s_leF, s_ltT, s_ltF, s_eqF, s_inT, s_neF, s_neF', s_neE, s_nleT, s_nleF, s_nltF, s_nltT, eq_self, nI_clamp, s_wIk, s_wIo, pk_us, pk_un, Nat.reduceAdd, Nat.reduceMul, Nat.reduceSub, Nat.zero_add, Nat.add_zero, Nat.mul_zero, true_implies, false_implies, implies_true, not_true, not_false, and_true, true_and, not_true_eq_false, not_false_eq_true, forall_const, k1.r162, eS, c1, o1, c2, e1, e3, ib', ib2, fa_and, fa_or, ta', tb']
                    exact hn2
                | true =>
                  have ta' := tb_ne (by omega) ta
                  rw [ta] at hn2
                  simp only [cond_true] at hn2
                  cases tb : (P ||| 2 ^ b &&& D).testBit b with
                  | false =>
                    have tb' := tb_eq (by omega) tb
                    simp only [tb, cond_true, cond_false] at hn2
                    simp (disch := omega) only [lin, nI_add, pk_mul, s_sub, s_addneg, s_leT, s_leF, s_ltT, s_ltF, s_eqF, s_inT, s_neF, s_neF', s_neE, s_nleT, s_nleF, s_nltF, s_nltT, eq_self, nI_clamp, s_wIk, s_wIo, pk_us, pk_un, Nat.reduceAdd, Nat.reduceMul, Nat.reduceSub, Nat.zero_add, Nat.add_zero, Nat.mul_zero, true_implies, false_implies, implies_true, not_true, not_false, and_true, true_and, not_true_eq_false, not_false_eq_true, forall_const, k1.r162, eS, c1, o1, c2, e1, e3, ib', ib2, fa_and, fa_or, ta', tb']
                    exact hn2
                  | true =>
                    have tb' := tb_ne (by omega) tb
                    simp only [tb, cond_true, cond_false] at hn2
                    simp (disch := omega) only [lin, nI_add, pk_mul, s_sub, s_addneg, s_leT, s_leF, s_ltT, s_ltF, s_eqF, s_inT, s_neF, s_neF', s_neE, s_nleT, s_nleF, s_nltF, s_nltT, eq_self, nI_clamp, s_wIk, s_wIo, pk_us, pk_un, Nat.reduceAdd, Nat.reduceMul, Nat.reduceSub, Nat.zero_add, Nat.add_zero, Nat.mul_zero, true_implies, false_implies, implies_true, not_true, not_false, and_true, true_and, not_true_eq_false, not_false_eq_true, forall_const, k1.r162, eS, c1, o1, c2, e1, e3, ib', ib2, fa_and, fa_or, ta', tb']
                    exact hn2
            · have ea : actV (mm.1 162) (fun h => mm.1 163 (10 + h)) ns k = false := by unfold actV; simp [c2]
              simp only [ea, cond_false] at hn2
              have c2' : ¬ p_X12_isMeeting m (nI k) := fun z => c2 (o2.mp z)
              simp (disch := omega) only [lin, nI_add, pk_mul, s_sub, s_addneg, s_leT, s_leF, s_ltT, s_ltF, s_eqF, s_inT, s_neF, s_neF', s_neE, s_nleT, s_nleF, s_nltF, s_nltT, eq_self, nI_clamp, s_wIk, s_wIo, pk_us, pk_un, Nat.reduceAdd, Nat.reduceMul, Nat.reduceSub, Nat.zero_add, Nat.add_zero, Nat.mul_zero, true_implies, false_implies, implies_true, not_true, not_false, and_true, true_and, not_true_eq_false, not_false_eq_true, forall_const, k1.r162, eS, c1, o1, c2']
              exact hn2
      have eSS : (mm.1 162 3).toNatClampNeg = S := by rw [eS, nI_clamp (by omega)]
      refine loop_mu (σ := Nat × Bool) (fun q => [(0, .ref 156), (2, .int ns), (4, .int tide), (5, .int (nI D)), (6, .int (nI q.1)), (7, .int (bI q.2))]) (fun q m => Ke mm m ∧ Open (quayN (mm.1 162) &&& D) D S (actV (mm.1 162) (fun h => mm.1 163 (10 + h)) ns) (condS (mm.1 162) (decide (tide = 0)) D) q.1 ∧ (q.2 = false → LeastR (mm.1 162) (fun h => mm.1 163 (10 + h)) tide ns nh q.1)) (fun q => 2 * (16 - fb_ct q.1.testBit 16) + (bif q.2 then 1 else 0)) ?_ (quayN (mm.1 162) &&& D, true) m ⟨k1, ⟨sub.rf _, sub.and_r _ _, fun R' h _ => h⟩, fun z => Bool.noConfusion z⟩
      rintro ⟨R, b⟩ m ⟨k1, k2, k3⟩ hn
      have k2 : Open (quayN (mm.1 162) &&& D) D S (actV (mm.1 162) (fun h => mm.1 163 (10 + h)) ns) (condS (mm.1 162) (decide (tide = 0)) D) R := k2
      apply b_X12_reachedAt_103
      cases b with
      | false =>
        have k3 := k3 rfl
        refine ⟨fun _ => hfin R m k1 k3, fun z => absurd rfl z⟩
      | true =>
        refine ⟨fun z => absurd (show bI true = 0 from z) (by decide), fun _ => ?_⟩
        refine inner R m k1 k2.2.1 (fun m' k1' => ?_)
        have hG2 : ∀ s, s < S → actV (mm.1 162) (fun h => mm.1 163 (10 + h)) ns s = true → StepG D (condS (mm.1 162) (decide (tide = 0)) D s) (fM (mm.1 162) (decide (tide = 0)) D s) := fun s _ _ => fM_G _ _ _ _
        have kp := k2.go hG2
        have hle : fb_ct R.testBit 16 ≤ 16 := fb_ct_le _ _
        by_cases e : pass (actV (mm.1 162) (fun h => mm.1 163 (10 + h)) ns) (fM (mm.1 162) (decide (tide = 0)) D) S R = R
        · have kd := k2.done hG2 e
          rw [if_pos e, e]
          refine hn (R, false) m' ⟨k1', k2, fun _ => ?_⟩ ?_
          · unfold LeastR
            rw [hDD, eSS]
            exact kd
          · show 2 * (16 - fb_ct R.testBit 16) + 0 < 2 * (16 - fb_ct R.testBit 16) + 1
            omega
        · have km := k2.more hD hG2 e
          rw [if_neg e]
          have hle2 : fb_ct (pass (actV (mm.1 162) (fun h => mm.1 163 (10 + h)) ns) (fM (mm.1 162) (decide (tide = 0)) D) S R).testBit 16 ≤ 16 := fb_ct_le _ _
          refine hn (pass (actV (mm.1 162) (fun h => mm.1 163 (10 + h)) ns) (fM (mm.1 162) (decide (tide = 0)) D) S R, true) m' ⟨k1', kp, fun z => Bool.noConfusion z⟩ ?_
          show 2 * (16 - fb_ct (pass (actV (mm.1 162) (fun h => mm.1 163 (10 + h)) ns) (fM (mm.1 162) (decide (tide = 0)) D) S R).testBit 16) + 1 < 2 * (16 - fb_ct R.testBit 16) + 1
          generalize fb_ct (pass (actV (mm.1 162) (fun h => mm.1 163 (10 + h)) ns) (fM (mm.1 162) (decide (tide = 0)) D) S R).testBit 16 = z1 at km hle2 ⊢
          generalize fb_ct R.testBit 16 = z2 at km hle ⊢
          omega
    · intro k m hk k1 hn
      obtain ⟨a, ha, ea⟩ := hQ k hk
      have hn2 := hn m k1
      have e : qs (mm.1 162) (k + 1) &&& D = (qs (mm.1 162) k &&& D) ||| (2 ^ a &&& D) := by
        show (qs (mm.1 162) k ||| 2 ^ (mm.1 162 (160 + k)).toNatClampNeg) &&& D = _
        rw [ea, nI_clamp (by omega), Nat.and_or_distrib_right]
      simp only [e] at hn2
      apply b_X12_reachedAt_62
      simp (disch := omega) only [lin, nI_add, pk_mul, s_sub, s_addneg, s_leT, s_leF, s_ltT, s_ltF, s_eqF, s_inT, s_neF, s_neF', s_neE, s_nleT, s_nleF, s_nltF, s_nltT, eq_self, nI_clamp, s_wIk, s_wIo, pk_us, pk_un, Nat.reduceAdd, Nat.reduceMul, Nat.reduceSub, Nat.zero_add, Nat.add_zero, Nat.mul_zero, true_implies, false_implies, implies_true, not_true, not_false, and_true, true_and, not_true_eq_false, not_false_eq_true, forall_const, k1.r162, eQ, ea, ib', ib2, fa_and, fa_or]
      exact hn2
  · intro k m hk k1 hn
    have hn2 := hn m k1
    simp only [bs_succ] at hn2
    apply b_X12_reachedAt_13
    rw [h_vE k1 (by omega)]
    have ho := h_o (m := m) (show k < 16 by omega)
    by_cases c1 : mm.1 163 (10 + k) < tide
    · simp only [c1, not_true, decide_false, Bool.false_and, cond_false] at hn2
      simp (disch := omega) only [lin, nI_add, pk_mul, s_sub, s_addneg, s_leT, s_leF, s_ltT, s_ltF, s_eqF, s_inT, s_neF, s_neF', s_neE, s_nleT, s_nleF, s_nltF, s_nltT, eq_self, nI_clamp, s_wIk, s_wIo, pk_us, pk_un, Nat.reduceAdd, Nat.reduceMul, Nat.reduceSub, Nat.zero_add, Nat.add_zero, Nat.mul_zero, true_implies, false_implies, implies_true, not_true, not_false, and_true, true_and, not_true_eq_false, not_false_eq_true, forall_const, k1.r162, eH, ho, c1]
      exact hn2
    · by_cases c2 : nI k = nh
      · simp only [c2, not_true, decide_false, Bool.and_false, cond_false] at hn2
        simp (disch := omega) only [lin, nI_add, pk_mul, s_sub, s_addneg, s_leT, s_leF, s_ltT, s_ltF, s_eqF, s_inT, s_neF, s_neF', s_neE, s_nleT, s_nleF, s_nltF, s_nltT, eq_self, nI_clamp, s_wIk, s_wIo, pk_us, pk_un, Nat.reduceAdd, Nat.reduceMul, Nat.reduceSub, Nat.zero_add, Nat.add_zero, Nat.mul_zero, true_implies, false_implies, implies_true, not_true, not_false, and_true, true_and, not_true_eq_false, not_false_eq_true, forall_const, k1.r162, eH, ho, c1, eq_true c2]
        exact hn2
      · simp only [c1, c2, not_false_eq_true, decide_true, Bool.and_self, cond_true] at hn2
        simp (disch := omega) only [lin, nI_add, pk_mul, s_sub, s_addneg, s_leT, s_leF, s_ltT, s_ltF, s_eqF, s_inT, s_neF, s_neF', s_neE, s_nleT, s_nleF, s_nltF, s_nltT, eq_self, nI_clamp, s_wIk, s_wIo, pk_us, pk_un, Nat.reduceAdd, Nat.reduceMul, Nat.reduceSub, Nat.zero_add, Nat.add_zero, Nat.mul_zero, true_implies, false_implies, implies_true, not_true, not_false, and_true, true_and, not_true_eq_false, not_false_eq_true, forall_const, k1.r162, eH, ho, c1, c2, ib', ib2, fa_or]
        exact hn2

/-! literals, rules, laws as the model has them -/
theorem bI_0 : bI false = 0 := rfl
theorem bI_1 : bI true = 1 := rfl
theorem bI_ne (b : Bool) : (¬ bI b = 0) ↔ b = true := by cases b <;> decide
theorem bI_eq (b : Bool) : (bI b = 0) ↔ b = false := by cases b <;> decide
def cmpV (o x y : Int32) : Bool := if o = 300 then decide (x = y) else if o = 301 then decide (¬ x = y) else if o = 302 then decide (x ≤ y) else decide (x < y)
def segV (c : Nat → Nat → Int32) (vs : Nat → Int32) (f t : Int32) : Option (List Int32) := mr (c 165) (c 166) vs f.toNatClampNeg (t.toNatClampNeg - f.toNatClampNeg)
def litV (c : Nat → Nat → Int32) (vs : Nat → Int32) (k : Nat) : Bool :=
  if (segV c vs (c 170 k) (c 171 k)).isNone ∨ (segV c vs (c 171 k) (c 172 k)).isNone then decide (¬ c 168 k = 0)
  else (cmpV (c 169 k) (sv (segV c vs (c 170 k) (c 171 k))) (sv (segV c vs (c 171 k) (c 172 k)))) != decide (¬ c 168 k = 0)
def LitOK (c : Nat → Nat → Int32) (k : Nat) : Prop := ∃ A n1 n2 : Nat, c 170 k = nI A ∧ c 171 k = nI (A + n1) ∧ c 172 k = nI (A + n1 + n2) ∧ A + n1 + n2 ≤ 500 ∧ SegOK (c 165) (c 166) A n1 ∧ SegOK (c 165) (c 166) (A + n1) n2 ∧ isB (c 168 k)
theorem segV_at {c : Nat → Nat → Int32} {vs : Nat → Int32} {A n : Nat} (h : A + n ≤ 500) : segV c vs (nI A) (nI (A + n)) = mr (c 165) (c 166) vs A n := by
  unfold segV
  rw [nI_clamp (by omega), nI_clamp (by omega), show A + n - A = n by omega]
theorem ne_bI {b : Int32} (h : isB b) (x : Bool) : bI (x != decide (¬ b = 0)) = if bI x = b then 0 else 1 := by
  rcases h with rfl | rfl <;> cases x <;> decide
theorem lit_ok {mm : MM} {k : Nat} {a : Nat → Int32} (hl : LitOK mm.1 k) (hk : k < 400) (m : MM) (hm : Kq mm m) (ha : As m a) :
    Runs e_X12_isLit [.ref 156, .int (nI k)] m (fun r m' => r = .int (bI (litV mm.1 a k)) ∧ Kq mm m' ∧ As m' a) := by
  obtain ⟨A, n1, n2, h1, h2, h3, h4, s1, s2, hb⟩ := hl
  have hv : litV mm.1 a k = (if (mr (mm.1 165) (mm.1 166) a A n1).isNone ∨ (mr (mm.1 165) (mm.1 166) a (A + n1) n2).isNone then decide (¬ mm.1 168 k = 0) else (cmpV (mm.1 169 k) (sv (mr (mm.1 165) (mm.1 166) a A n1)) (sv (mr (mm.1 165) (mm.1 166) a (A + n1) n2))) != decide (¬ mm.1 168 k = 0)) := by
    unfold litV
    rw [h1, h2, h3, segV_at (by omega), segV_at (by omega)]
  have hlb : bI (decide (¬ mm.1 168 k = 0)) = mm.1 168 k := by rcases hb with e | e <;> rw [e] <;> decide
  apply b_X12_isLit
  simp (disch := omega) only [lin, nI_add, pk_mul, s_sub, s_addneg, s_leT, s_leF, s_ltT, s_ltF, s_eqF, s_inT, s_neF, s_neF', s_neE, s_nleT, s_nleF, s_nltF, s_nltT, eq_self, nI_clamp, s_wIk, s_wIo, pk_us, pk_un, Nat.reduceAdd, Nat.reduceMul, Nat.reduceSub, Nat.zero_add, Nat.add_zero, Nat.mul_zero, true_implies, false_implies, implies_true, not_true, not_false, and_true, true_and, not_true_eq_false, not_false_eq_true, forall_const, hm.r170, hm.r171, h1, h2]
  refine icall (sum_ok s1 (by omega) (by omega) m hm ha) ?_
  rintro m1 ⟨q1, q2, q3⟩
  cases hx : mr (mm.1 165) (mm.1 166) a A n1 with
  | none =>
    rw [hx] at q3
    simp only [hx] at hv
    refine ⟨fun e => absurd (q3.symm.trans e) (by decide), fun _ => ⟨?_, ?_⟩⟩
    · rw [q1.r168]; exact hb
    · rw [q1.r168, hv]
      refine ⟨?_, q1, q2⟩
      simp only [Option.isNone_none, true_or, if_true, hlb]
  | some S1 =>
    rw [hx] at q3
    simp only [hx] at hv
    refine ⟨fun _ => ?_, fun e => absurd q3 e⟩
    simp (disch := omega) only [lin, nI_add, pk_mul, s_sub, s_addneg, s_leT, s_leF, s_ltT, s_ltF, s_eqF, s_inT, s_neF, s_neF', s_neE, s_nleT, s_nleF, s_nltF, s_nltT, eq_self, nI_clamp, s_wIk, s_wIo, pk_us, pk_un, Nat.reduceAdd, Nat.reduceMul, Nat.reduceSub, Nat.zero_add, Nat.add_zero, Nat.mul_zero, true_implies, false_implies, implies_true, not_true, not_false, and_true, true_and, not_true_eq_false, not_false_eq_true, forall_const, q1.r171, q1.r172, h2, h3]
    refine icall (sum_ok s2 (by omega) (by omega) m1 q1 q2) ?_
    rintro m2 ⟨q4, q5, q6⟩
    cases hy : mr (mm.1 165) (mm.1 166) a (A + n1) n2 with
    | none =>
      rw [hy] at q6
      simp only [hy] at hv
      refine ⟨fun e => absurd (q6.symm.trans e) (by decide), fun _ => ⟨?_, ?_⟩⟩
      · rw [q4.r168]; exact hb
      · rw [q4.r168, hv]
        refine ⟨?_, q4, q5⟩
        simp only [Option.isNone_none, or_true, if_true, hlb]
    | some S2 =>
      rw [hy] at q6
      simp only [hy, Option.isNone_some, or_self, if_false, Bool.false_eq_true] at hv
      refine ⟨fun _ => ?_, fun e => absurd q6 e⟩
      rw [q4.r168, q4.r169]
      rw [hv]
      simp only [ne_bI hb]
      generalize sv (some S1) = x
      generalize sv (some S2) = y
      generalize mm.1 168 k = b at hb
      generalize mm.1 169 k = o
      unfold cmpV
      by_cases o1 : o = nI 300
      · subst o1
        by_cases xy : x = y
        · subst xy
          rcases hb with rfl | rfl <;> simp (disch := omega) only [lin, nI_add, pk_mul, s_sub, s_addneg, s_leT, s_leF, s_ltT, s_ltF, s_eqF, s_inT, s_neF, s_neF', s_neE, s_nleT, s_nleF, s_nltF, s_nltT, eq_self, nI_clamp, s_wIk, s_wIo, pk_us, pk_un, Nat.reduceAdd, Nat.reduceMul, Nat.reduceSub, Nat.zero_add, Nat.add_zero, Nat.mul_zero, true_implies, false_implies, implies_true, not_true, not_false, and_true, true_and, not_true_eq_false, not_false_eq_true, forall_const, bI, q4, q5, if_true, if_false, decide_true, decide_false, cond_true, cond_false]
        · rcases hb with rfl | rfl <;> simp (disch := omega) only [lin, nI_add, pk_mul, s_sub, s_addneg, s_leT, s_leF, s_ltT, s_ltF, s_eqF, s_inT, s_neF, s_neF', s_neE, s_nleT, s_nleF, s_nltF, s_nltT, eq_self, nI_clamp, s_wIk, s_wIo, pk_us, pk_un, Nat.reduceAdd, Nat.reduceMul, Nat.reduceSub, Nat.zero_add, Nat.add_zero, Nat.mul_zero, true_implies, false_implies, implies_true, not_true, not_false, and_true, true_and, not_true_eq_false, not_false_eq_true, forall_const, bI, q4, q5, xy, if_true, if_false, decide_true, decide_false, cond_true, cond_false]
      · by_cases o2 : o = nI 301
        · subst o2
          by_cases xy : x = y
          · subst xy
            rcases hb with rfl | rfl <;> simp (disch := omega) only [lin, nI_add, pk_mul, s_sub, s_addneg, s_leT, s_leF, s_ltT, s_ltF, s_eqF, s_inT, s_neF, s_neF', s_neE, s_nleT, s_nleF, s_nltF, s_nltT, eq_self, nI_clamp, s_wIk, s_wIo, pk_us, pk_un, Nat.reduceAdd, Nat.reduceMul, Nat.reduceSub, Nat.zero_add, Nat.add_zero, Nat.mul_zero, true_implies, false_implies, implies_true, not_true, not_false, and_true, true_and, not_true_eq_false, not_false_eq_true, forall_const, bI, q4, q5, if_true, if_false, decide_true, decide_false, cond_true, cond_false]
          · rcases hb with rfl | rfl <;> simp (disch := omega) only [lin, nI_add, pk_mul, s_sub, s_addneg, s_leT, s_leF, s_ltT, s_ltF, s_eqF, s_inT, s_neF, s_neF', s_neE, s_nleT, s_nleF, s_nltF, s_nltT, eq_self, nI_clamp, s_wIk, s_wIo, pk_us, pk_un, Nat.reduceAdd, Nat.reduceMul, Nat.reduceSub, Nat.zero_add, Nat.add_zero, Nat.mul_zero, true_implies, false_implies, implies_true, not_true, not_false, and_true, true_and, not_true_eq_false, not_false_eq_true, forall_const, bI, q4, q5, xy, if_true, if_false, decide_true, decide_false, cond_true, cond_false]
        · by_cases o3 : o = nI 302
          · subst o3
            by_cases xy : x ≤ y
            · have xy2 : ¬ y < x := Int32.not_lt.mpr xy
              rcases hb with rfl | rfl <;> simp (disch := omega) only [lin, nI_add, pk_mul, s_sub, s_addneg, s_leT, s_leF, s_ltT, s_ltF, s_eqF, s_inT, s_neF, s_neF', s_neE, s_nleT, s_nleF, s_nltF, s_nltT, eq_self, nI_clamp, s_wIk, s_wIo, pk_us, pk_un, Nat.reduceAdd, Nat.reduceMul, Nat.reduceSub, Nat.zero_add, Nat.add_zero, Nat.mul_zero, true_implies, false_implies, implies_true, not_true, not_false, and_true, true_and, not_true_eq_false, not_false_eq_true, forall_const, bI, q4, q5, xy, xy2, if_true, if_false, decide_true, decide_false, cond_true, cond_false]
            · have xy2 : y < x := Int32.not_le.mp xy
              rcases hb with rfl | rfl <;> simp (disch := omega) only [lin, nI_add, pk_mul, s_sub, s_addneg, s_leT, s_leF, s_ltT, s_ltF, s_eqF, s_inT, s_neF, s_neF', s_neE, s_nleT, s_nleF, s_nltF, s_nltT, eq_self, nI_clamp, s_wIk, s_wIo, pk_us, pk_un, Nat.reduceAdd, Nat.reduceMul, Nat.reduceSub, Nat.zero_add, Nat.add_zero, Nat.mul_zero, true_implies, false_implies, implies_true, not_true, not_false, and_true, true_and, not_true_eq_false, not_false_eq_true, forall_const, bI, q4, q5, xy, xy2, if_true, if_false, decide_true, decide_false, cond_true, cond_false]
          · by_cases xy : x < y
            · have xy2 : ¬ y ≤ x := Int32.not_le.mpr xy
              rcases hb with rfl | rfl <;> simp (disch := omega) only [lin, nI_add, pk_mul, s_sub, s_addneg, s_leT, s_leF, s_ltT, s_ltF, s_eqF, s_inT, s_neF, s_neF', s_neE, s_nleT, s_nleF, s_nltF, s_nltT, eq_self, nI_clamp, s_wIk, s_wIo, pk_us, pk_un, Nat.reduceAdd, Nat.reduceMul, Nat.reduceSub, Nat.zero_add, Nat.add_zero, Nat.mul_zero, true_implies, false_implies, implies_true, not_true, not_false, and_true, true_and, not_true_eq_false, not_false_eq_true, forall_const, bI, q4, q5, xy, xy2, o1, o2, o3, if_true, if_false, decide_true, decide_false, cond_true, cond_false]
            · have xy2 : y ≤ x := Int32.not_lt.mp xy
              rcases hb with rfl | rfl <;> simp (disch := omega) only [lin, nI_add, pk_mul, s_sub, s_addneg, s_leT, s_leF, s_ltT, s_ltF, s_eqF, s_inT, s_neF, s_neF', s_neE, s_nleT, s_nleF, s_nltF, s_nltT, eq_self, nI_clamp, s_wIk, s_wIo, pk_us, pk_un, Nat.reduceAdd, Nat.reduceMul, Nat.reduceSub, Nat.zero_add, Nat.add_zero, Nat.mul_zero, true_implies, false_implies, implies_true, not_true, not_false, and_true, true_and, not_true_eq_false, not_false_eq_true, forall_const, bI, q4, q5, xy, xy2, o1, o2, o3, if_true, if_false, decide_true, decide_false, cond_true, cond_false]
def hrun (rw : Nat → Int32) (lt : Nat → Bool) : Nat → Nat → Int32 → Bool → Bool
  | 0, _, _, all => all
  | n + 1, k, r, all => if rw k = r then hrun rw lt n (k + 1) r (all && lt k) else if all then true else hrun rw lt n (k + 1) (rw k) (lt k)
def heldV (c : Nat → Nat → Int32) (a : Nat → Int32) (f n : Nat) : Bool := hrun (c 173) (litV c a) n f (c 173 f) true
theorem held_18 {mm : MM} {a : Nat → Int32} {T : Nat} (hT : T ≤ 400) {Q : Value → MM → Prop} : ∀ n k, k + n = T → (∀ i, i < n → LitOK mm.1 (k + i)) → ∀ (r : Int32) (all : Bool) (m : MM), Kq mm m → As m a →
    (∀ m', Kq mm m' → As m' a → Q (.int (bI (hrun (mm.1 173) (litV mm.1 a) n k r all))) m') → G e_X12_isHeld 18 [(0, .ref 156), (2, .int (nI T)), (3, .int (nI k)), (4, .int r), (5, .int (bI all))] [] m Q := by
  intro n
  induction n with
  | zero =>
    intro k hk hl r all m hm ha hq
    have e : k = T := by omega
    subst e
    apply b_X12_isHeld_18
    simp (disch := omega) only [lin, nI_add, pk_mul, s_sub, s_addneg, s_leT, s_leF, s_ltT, s_ltF, s_eqF, s_inT, s_neF, s_neF', s_neE, s_nleT, s_nleF, s_nltF, s_nltT, eq_self, nI_clamp, s_wIk, s_wIo, pk_us, pk_un, Nat.reduceAdd, Nat.reduceMul, Nat.reduceSub, Nat.zero_add, Nat.add_zero, Nat.mul_zero, true_implies, false_implies, implies_true, not_true, not_false, and_true, true_and, not_true_eq_false, not_false_eq_true, forall_const]
    refine ⟨fun e => ?_, fun e => ?_⟩
    · apply b_X12_isHeld_2
      simp (disch := omega) only [lin, nI_add, pk_mul, s_sub, s_addneg, s_leT, s_leF, s_ltT, s_ltF, s_eqF, s_inT, s_neF, s_neF', s_neE, s_nleT, s_nleF, s_nltF, s_nltT, eq_self, nI_clamp, s_wIk, s_wIo, pk_us, pk_un, Nat.reduceAdd, Nat.reduceMul, Nat.reduceSub, Nat.zero_add, Nat.add_zero, Nat.mul_zero, true_implies, false_implies, implies_true, not_true, not_false, and_true, true_and, not_true_eq_false, not_false_eq_true, forall_const]
      have e2 := (bI_eq all).mp e
      subst e2
      exact hq m hm ha
    · have e2 := (bI_ne all).mp e
      subst e2
      exact hq m hm ha
  | succ n ih =>
    intro k hk hl r all m hm ha hq
    have hA : ∀ (all : Bool) (m : MM), Kq mm m → As m a → (∀ m', Kq mm m' → As m' a → Q (.int (bI (hrun (mm.1 173) (litV mm.1 a) n (k + 1) (mm.1 173 k) (all && litV mm.1 a k)))) m') → G e_X12_isHeld 18 [(0, .ref 156), (2, .int (nI T)), (3, .int (nI k)), (4, .int (mm.1 173 k)), (5, .int (bI all))] [] m Q := by
      intro all m hm ha hq
      have ih' := ih (k + 1) (by omega) (fun i hi => by rw [Nat.add_assoc, Nat.add_comm 1 i]; exact hl (i + 1) (by omega)) (mm.1 173 k)
      apply b_X12_isHeld_18
      simp (disch := omega) only [lin, nI_add, pk_mul, s_sub, s_addneg, s_leT, s_leF, s_ltT, s_ltF, s_eqF, s_inT, s_neF, s_neF', s_neE, s_nleT, s_nleF, s_nltF, s_nltT, eq_self, nI_clamp, s_wIk, s_wIo, pk_us, pk_un, Nat.reduceAdd, Nat.reduceMul, Nat.reduceSub, Nat.zero_add, Nat.add_zero, Nat.mul_zero, true_implies, false_implies, implies_true, not_true, not_false, and_true, true_and, not_true_eq_false, not_false_eq_true, forall_const, hm.r173]
      refine ⟨fun e => ?_, fun e => ?_⟩
      · have e2 := (bI_eq all).mp e
        subst e2
        exact ih' false m hm ha hq
      · have e2 := (bI_ne all).mp e
        subst e2
        refine bcall (lit_ok (hl 0 (by omega)) (by omega) m hm ha) ?_ ?_
        · rintro el m1 ⟨q1, q2⟩
          exact ih' true m1 q1 q2 (fun m' h1 h2 => by have := hq m' h1 h2; have el : litV mm.1 a k = _ := el; rw [el] at this; exact this)
        · rintro el m1 ⟨q1, q2⟩
          exact ih' false m1 q1 q2 (fun m' h1 h2 => by have := hq m' h1 h2; have el : litV mm.1 a k = _ := el; rw [el] at this; exact this)
    by_cases er : mm.1 173 k = r
    · subst er
      refine hA all m hm ha (fun m' h1 h2 => ?_)
      have := hq m' h1 h2
      rw [show hrun (mm.1 173) (litV mm.1 a) (n + 1) k (mm.1 173 k) all = hrun (mm.1 173) (litV mm.1 a) n (k + 1) (mm.1 173 k) (all && litV mm.1 a k) from if_pos rfl] at this
      exact this
    · have hh : hrun (mm.1 173) (litV mm.1 a) (n + 1) k r all = if all then true else hrun (mm.1 173) (litV mm.1 a) n (k + 1) (mm.1 173 k) (litV mm.1 a k) := if_neg er
      rw [hh] at hq
      apply b_X12_isHeld_18
      simp (disch := omega) only [lin, nI_add, pk_mul, s_sub, s_addneg, s_leT, s_leF, s_ltT, s_ltF, s_eqF, s_inT, s_neF, s_neF', s_neE, s_nleT, s_nleF, s_nltF, s_nltT, eq_self, nI_clamp, s_wIk, s_wIo, pk_us, pk_un, Nat.reduceAdd, Nat.reduceMul, Nat.reduceSub, Nat.zero_add, Nat.add_zero, Nat.mul_zero, true_implies, false_implies, implies_true, not_true, not_false, and_true, true_and, not_true_eq_false, not_false_eq_true, forall_const, hm.r173, er]
      refine ⟨fun e => ?_, fun e => ?_⟩
      · have e2 := (bI_eq all).mp e
        subst e2
        apply b_X12_isHeld_2
        simp (disch := omega) only [lin, nI_add, pk_mul, s_sub, s_addneg, s_leT, s_leF, s_ltT, s_ltF, s_eqF, s_inT, s_neF, s_neF', s_neE, s_nleT, s_nleF, s_nltF, s_nltT, eq_self, nI_clamp, s_wIk, s_wIo, pk_us, pk_un, Nat.reduceAdd, Nat.reduceMul, Nat.reduceSub, Nat.zero_add, Nat.add_zero, Nat.mul_zero, true_implies, false_implies, implies_true, not_true, not_false, and_true, true_and, not_true_eq_false, not_false_eq_true, forall_const, hm.r173]
        exact hA true m hm ha hq
      · have e2 := (bI_ne all).mp e
        subst e2
        exact hq m hm ha
theorem held_ok {mm : MM} {a : Nat → Int32} {f n : Nat} (hn : 1 ≤ n) (hT : f + n ≤ 400) (hl : ∀ i, i < n → LitOK mm.1 (f + i)) (m : MM) (hm : Kq mm m) (ha : As m a) :
    Runs e_X12_isHeld [.ref 156, .int (nI f), .int (nI (f + n))] m (fun r m' => r = .int (bI (heldV mm.1 a f n)) ∧ Kq mm m' ∧ As m' a) := by
  apply b_X12_isHeld
  apply b_X12_isHeld_2
  simp (disch := omega) only [lin, nI_add, pk_mul, s_sub, s_addneg, s_leT, s_leF, s_ltT, s_ltF, s_eqF, s_inT, s_neF, s_neF', s_neE, s_nleT, s_nleF, s_nltF, s_nltT, eq_self, nI_clamp, s_wIk, s_wIo, pk_us, pk_un, Nat.reduceAdd, Nat.reduceMul, Nat.reduceSub, Nat.zero_add, Nat.add_zero, Nat.mul_zero, true_implies, false_implies, implies_true, not_true, not_false, and_true, true_and, not_true_eq_false, not_false_eq_true, forall_const, hm.r173]
  exact held_18 hT n f rfl hl _ true m hm ha (fun m' h1 h2 => ⟨rfl, h1, h2⟩)
/-- some one of the first N -/
def anyV (p : Nat → Bool) : Nat → Bool
  | 0 => false
  | n + 1 => anyV p n || p n
theorem anyV_yes {p : Nat → Bool} {k : Nat} (hp : p k = true) : ∀ {N : Nat}, k < N → anyV p N = true
  | 0, h => absurd h (Nat.not_lt_zero _)
  | N + 1, h => by
    unfold anyV
    by_cases e : k = N
    · subst e; rw [hp, Bool.or_true]
    · rw [anyV_yes hp (N := N) (by omega), Bool.true_or]
theorem anyV_cong {p q : Nat → Bool} : ∀ {N : Nat}, (∀ k, k < N → p k = q k) → anyV p N = anyV q N
  | 0, _ => rfl
  | N + 1, h => by
    unfold anyV
    rw [anyV_cong (N := N) (fun k hk => h k (by omega)), h N (by omega)]
def ruleV (c : Nat → Nat → Int32) (a : Nat → Int32) (b k : Nat) : Bool := heldV c a (c 162 (b + 2 * k)).toNatClampNeg ((c 162 (b + 2 * k + 1)).toNatClampNeg - (c 162 (b + 2 * k)).toNatClampNeg)
def RuleOK (c : Nat → Nat → Int32) (b k : Nat) : Prop := ∃ f n : Nat, c 162 (b + 2 * k) = nI f ∧ c 162 (b + 2 * k + 1) = nI (f + n) ∧ 1 ≤ n ∧ f + n ≤ 200 ∧ ∀ i, i < n → LitOK c (f + i)
theorem isRule_ok {mm : MM} {a : Nat → Int32} {q b N : Nat} (hq : q < 10) (hb : b = 190 ∨ b = 200) (hN : mm.1 162 q = nI N) (hN4 : N ≤ 4) (hr : ∀ k, k < N → RuleOK mm.1 b k) (m : MM) (hm : Kq mm m) (ha : As m a) :
    Runs e_X12_isRule [.ref 156, .int (nI q), .int (nI b)] m (fun r m' => r = .int (bI (anyV (ruleV mm.1 a b) N)) ∧ Kq mm m' ∧ As m' a) := by
  have hb2 : b ≤ 200 := by omega
  apply b_X12_isRule
  refine for_up (fun k => [(0, .ref 156), (1, .int (nI q)), (2, .int (nI b)), (3, .int (nI k))]) (fun k m => Kq mm m ∧ As m a ∧ anyV (ruleV mm.1 a b) k = false) N ?_ ?_ 0 _ (Nat.zero_le _) ⟨hm, ha, rfl⟩
  · rintro m ⟨k1, k2, k3⟩
    apply b_X12_isRule_2
    simp (disch := omega) only [lin, nI_add, pk_mul, s_sub, s_addneg, s_leT, s_leF, s_ltT, s_ltF, s_eqF, s_inT, s_neF, s_neF', s_neE, s_nleT, s_nleF, s_nltF, s_nltT, eq_self, nI_clamp, s_wIk, s_wIo, pk_us, pk_un, Nat.reduceAdd, Nat.reduceMul, Nat.reduceSub, Nat.zero_add, Nat.add_zero, Nat.mul_zero, true_implies, false_implies, implies_true, not_true, not_false, and_true, true_and, not_true_eq_false, not_false_eq_true, forall_const, k1.r162, hN]
    exact ⟨by rw [k3]; rfl, k1, k2⟩
  · rintro k m hk ⟨k1, k2, k3⟩ hn
    obtain ⟨f, n, e1, e2, e3, e4, e5⟩ := hr k hk
    have hv : ruleV mm.1 a b k = heldV mm.1 a f n := by
      unfold ruleV
      rw [e1, e2, nI_clamp (by omega), nI_clamp (by omega), show f + n - f = n by omega]
    apply b_X12_isRule_2
    simp (disch := omega) only [lin, nI_add, pk_mul, s_sub, s_addneg, s_leT, s_leF, s_ltT, s_ltF, s_eqF, s_inT, s_neF, s_neF', s_neE, s_nleT, s_nleF, s_nltF, s_nltT, eq_self, nI_clamp, s_wIk, s_wIo, pk_us, pk_un, Nat.reduceAdd, Nat.reduceMul, Nat.reduceSub, Nat.zero_add, Nat.add_zero, Nat.mul_zero, true_implies, false_implies, implies_true, not_true, not_false, and_true, true_and, not_true_eq_false, not_false_eq_true, forall_const, k1.r162, hN, e1, e2]
    refine bcall (held_ok e3 (by omega) e5 m k1 k2) ?_ ?_
    · rintro el m1 ⟨q1, q2⟩
      exact ⟨by rw [anyV_yes (hv.trans el) hk]; rfl, q1, q2⟩
    · rintro el m1 ⟨q1, q2⟩
      exact hn m1 ⟨q1, q2, by unfold anyV; rw [k3, hv, el]; rfl⟩
def w99 (x : Int32) : Int32 := if 0 ≤ x then if x ≤ 99 then x else 99 else 0
theorem within_w99 (mm : MM) (x : Int32) : v_X12_within mm x 0 99 = w99 x := by
  unfold v_X12_within w99
  by_cases h : (0 : Int32) ≤ x
  · rw [cite_pos h, if_pos h]
    by_cases h2 : x ≤ 99
    · rw [cite_pos h2, if_pos h2]
    · rw [cite_neg h2, if_neg h2]
  · rw [cite_neg h, if_neg h]
def LawM (c : Nat → Nat → Int32) (l : Nat) : Prop := c 162 (10 + 2 * l) = -nI 1 ∨ ∃ fr n : Nat, c 162 (10 + 2 * l) = nI fr ∧ c 162 (10 + 2 * l + 1) = nI (fr + n) ∧ fr + n ≤ 500 ∧ SegOK (c 165) (c 166) fr n
def saysV (c : Nat → Nat → Int32) (a : Nat → Int32) (l : Nat) (o : Int32) : Int32 := if c 162 (10 + 2 * l) < 0 then w99 o else w99 (sv (segV c a (c 162 (10 + 2 * l)) (c 162 (10 + 2 * l + 1))))
theorem says_ok {mm : MM} {a : Nat → Int32} {l : Nat} {o : Int32} (hl : l < 3) (hL : LawM mm.1 l) (m : MM) (hm : Kq mm m) (ha : As m a) :
    Runs e_X12_says [.ref 156, .int (nI l), .int o] m (fun r m' => r = .int (saysV mm.1 a l o) ∧ Kq mm m' ∧ As m' a) := by
  apply b_X12_says
  rcases hL with e | ⟨fr, n, e1, e2, e3, e4⟩
  · have hv : saysV mm.1 a l o = w99 o := by unfold saysV; rw [e, if_pos (by decide)]
    rw [within_w99]
    simp (disch := omega) only [lin, nI_add, pk_mul, s_sub, s_addneg, s_leT, s_leF, s_ltT, s_ltF, s_eqF, s_inT, s_neF, s_neF', s_neE, s_nleT, s_nleF, s_nltF, s_nltT, eq_self, nI_clamp, s_wIk, s_wIo, pk_us, pk_un, Nat.reduceAdd, Nat.reduceMul, Nat.reduceSub, Nat.zero_add, Nat.add_zero, Nat.mul_zero, true_implies, false_implies, implies_true, not_true, not_false, and_true, true_and, not_true_eq_false, not_false_eq_true, forall_const, hm.r162, e]
    exact ⟨by rw [hv], hm, ha⟩
  · have hv : saysV mm.1 a l o = w99 (sv (mr (mm.1 165) (mm.1 166) a fr n)) := by
      unfold saysV
      rw [e1, e2, segV_at e3, if_neg (nI_pos (by omega))]
    simp (disch := omega) only [lin, nI_add, pk_mul, s_sub, s_addneg, s_leT, s_leF, s_ltT, s_ltF, s_eqF, s_inT, s_neF, s_neF', s_neE, s_nleT, s_nleF, s_nltF, s_nltT, eq_self, nI_clamp, s_wIk, s_wIo, pk_us, pk_un, Nat.reduceAdd, Nat.reduceMul, Nat.reduceSub, Nat.zero_add, Nat.add_zero, Nat.mul_zero, true_implies, false_implies, implies_true, not_true, not_false, and_true, true_and, not_true_eq_false, not_false_eq_true, forall_const, hm.r162, e1, e2]
    refine icall (sum_ok e4 (by omega) (by omega) m hm ha) ?_
    rintro m1 ⟨q1, q2, -⟩
    refine ⟨?_, q1, q2⟩
    rw [hv]
    exact congrArg Value.int (within_w99 m1 _)

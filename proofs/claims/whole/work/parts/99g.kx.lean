/-! the class's asking, over a memory whose model's half is another one's (made by genkx.py) -/
def catM (u mm : MM) : MM := (fun a => if a < 156 then mm.1 a else u.1 a, mm.2.1, mm.2.2)
theorem cat_lo {u mm : MM} {a : Nat} (h : a < 156) : (catM u mm).1 a = mm.1 a := if_pos h
theorem cat_hi {u mm : MM} {a : Nat} (h : 156 ≤ a) : (catM u mm).1 a = u.1 a := if_neg (Nat.not_lt.mpr h)
def kx (a b : Nat) : Bool := !(Nat.blt a 156) || ke a b
abbrev Kx (u mm m : MM) : Prop := Kp kx (catM u mm) m
theorem Kx.tn {u mm m : MM} (h : Kx u mm m) {t : Nat} (ht : isT t) (i : Nat) (hi : i < 8) : m.1 (t + i) = mm.1 (t + i) := by
  have ht' : t = 10 ∨ t = 100 := ht
  refine (Kp.row h (t + i) fun b => ?_).trans (cat_lo (by omega))
  have e : i = 0 ∨ i = 1 ∨ i = 2 ∨ i = 3 ∨ i = 4 ∨ i = 5 ∨ i = 6 ∨ i = 7 := by omega
  rcases ht with rfl | rfl <;> rcases e with rfl | rfl | rfl | rfl | rfl | rfl | rfl | rfl <;> rfl
theorem Kx.t0 {u mm m : MM} (h : Kx u mm m) {t : Nat} (ht : isT t) : m.1 t = mm.1 t := Kx.tn h ht 0 (by omega)
theorem Kx.t1 {u mm m : MM} (h : Kx u mm m) {t : Nat} (ht : isT t) : m.1 (t + 1) = mm.1 (t + 1) := Kx.tn h ht 1 (by omega)
theorem Kx.t2 {u mm m : MM} (h : Kx u mm m) {t : Nat} (ht : isT t) : m.1 (t + 2) = mm.1 (t + 2) := Kx.tn h ht 2 (by omega)
theorem Kx.t3 {u mm m : MM} (h : Kx u mm m) {t : Nat} (ht : isT t) : m.1 (t + 3) = mm.1 (t + 3) := Kx.tn h ht 3 (by omega)
theorem Kx.t9 {u mm m : MM} (h : Kx u mm m) {t : Nat} (ht : isT t) : m.1 (t + 8 + 1) = mm.1 (t + 8 + 1) := by
  have ht' : t = 10 ∨ t = 100 := ht
  refine (Kp.row h (t + 8 + 1) fun b => ?_).trans (cat_lo (by omega))
  rcases ht with rfl | rfl <;> rfl
theorem Kx.l {u mm m : MM} (h : Kx u mm m) {t : Nat} (ht : isT t) (j : Nat) (hj : (j == 6 || j == 7) = false) : m.1 (t + 8) j = mm.1 (t + 8) j := by
  have ht' : t = 10 ∨ t = 100 := ht
  refine (Kp.g h (t + 8) j ?_).trans (congrFun (cat_lo (by omega)) j)
  rcases ht with rfl | rfl <;> (show (!(j == 6 || j == 7)) = true; rw [hj]; rfl)
theorem kx_l6 {t : Nat} (ht : isT t) : kx (t + 8) 6 = false := by rcases ht with rfl | rfl <;> rfl
theorem kx_l7 {t : Nat} (ht : isT t) : kx (t + 8) 7 = false := by rcases ht with rfl | rfl <;> rfl
theorem kx_vars {t : Nat} (ht : isT t) (b : Nat) : kx (t + 8 + 4) b = false := by rcases ht with rfl | rfl <;> rfl
theorem kx_stk {t : Nat} (ht : isT t) (b : Nat) : kx (t + 8 + 5) b = false := by rcases ht with rfl | rfl <;> rfl
theorem Kx.s {u mm m : MM} (h : Kx u mm m) {s : Nat} (hs : isS s) (i : Nat) (hi : i < 12) : m.1 (s + i) = mm.1 (s + i) := by
  have hs' : s = 24 ∨ s = 114 ∨ s = 128 ∨ s = 142 := hs
  refine (Kp.row h (s + i) fun b => ?_).trans (cat_lo (by omega))
  have e : i = 0 ∨ i = 1 ∨ i = 2 ∨ i = 3 ∨ i = 4 ∨ i = 5 ∨ i = 6 ∨ i = 7 ∨ i = 8 ∨ i = 9 ∨ i = 10 ∨ i = 11 := by omega
  rcases hs with rfl | rfl | rfl | rfl <;> rcases e with rfl | rfl | rfl | rfl | rfl | rfl | rfl | rfl | rfl | rfl | rfl | rfl <;> rfl
theorem Kx.s0 {u mm m : MM} (h : Kx u mm m) {s : Nat} (hs : isS s) : m.1 s = mm.1 s := Kx.s h hs 0 (by omega)
theorem push_okX {u mm : MM} {t : Nat} (ht : isT t) {cv : Nat → Int32} {S : List Int32} {b : Bool} {x : Int32} (hl : S.length < 32) (m : MM) (hm : Kx u mm m) (hs : Sk t cv S b m) :
    Runs e_X1_push [.ref (t + 8), .int x] m (fun r m' => r = .null ∧ Kx u mm m' ∧ Sk t cv (x :: S) b m') := by
  obtain ⟨s1, s2, s3, s4, s5⟩ := hs
  apply b_X1_push _ _ _ _ ht.at.laws
  simp (disch := omega) only [lin, nI_add, pk_mul, s_sub, s_addneg, s_leT, s_leF, s_ltT, s_ltF, s_eqF, s_inT, s_neF, s_neF', s_neE, s_nleT, s_nleF, s_nltF, s_nltT, eq_self, nI_clamp, s_wIk, s_wIo, pk_us, pk_un, Nat.reduceAdd, Nat.reduceMul, Nat.reduceSub, Nat.zero_add, Nat.add_zero, Nat.mul_zero, true_implies, false_implies, implies_true, not_true, not_false, and_true, true_and, not_true_eq_false, not_false_eq_true, forall_const, s2]
  refine ⟨(hm.w _ (kx_stk ht _)).w _ (kx_l6 ht), fun i hi => ?_, ?_, ?_, ?_, hl⟩
  · simp (disch := omega) only [lin, nI_add, pk_mul, s_sub, s_addneg, s_leT, s_leF, s_ltT, s_ltF, s_eqF, s_inT, s_neF, s_neF', s_neE, s_nleT, s_nleF, s_nltF, s_nltT, eq_self, nI_clamp, s_wIk, s_wIo, pk_us, pk_un, Nat.reduceAdd, Nat.reduceMul, Nat.reduceSub, Nat.zero_add, Nat.add_zero, Nat.mul_zero, true_implies, false_implies, implies_true, not_true, not_false, and_true, true_and, not_true_eq_false, not_false_eq_true, forall_const, s1 i hi]
  · simp (disch := omega) only [lin, nI_add, pk_mul, s_sub, s_addneg, s_leT, s_leF, s_ltT, s_ltF, s_eqF, s_inT, s_neF, s_neF', s_neE, s_nleT, s_nleF, s_nltF, s_nltT, eq_self, nI_clamp, s_wIk, s_wIo, pk_us, pk_un, Nat.reduceAdd, Nat.reduceMul, Nat.reduceSub, Nat.zero_add, Nat.add_zero, Nat.mul_zero, true_implies, false_implies, implies_true, not_true, not_false, and_true, true_and, not_true_eq_false, not_false_eq_true, forall_const]
    rfl
  · simp (disch := omega) only [lin, nI_add, pk_mul, s_sub, s_addneg, s_leT, s_leF, s_ltT, s_ltF, s_eqF, s_inT, s_neF, s_neF', s_neE, s_nleT, s_nleF, s_nltF, s_nltT, eq_self, nI_clamp, s_wIk, s_wIo, pk_us, pk_un, Nat.reduceAdd, Nat.reduceMul, Nat.reduceSub, Nat.zero_add, Nat.add_zero, Nat.mul_zero, true_implies, false_implies, implies_true, not_true, not_false, and_true, true_and, not_true_eq_false, not_false_eq_true, forall_const, s3]
  · simp (disch := omega) only [lin, nI_add, pk_mul, s_sub, s_addneg, s_leT, s_leF, s_ltT, s_ltF, s_eqF, s_inT, s_neF, s_neF', s_neE, s_nleT, s_nleF, s_nltF, s_nltT, eq_self, nI_clamp, s_wIk, s_wIo, pk_us, pk_un, Nat.reduceAdd, Nat.reduceMul, Nat.reduceSub, Nat.zero_add, Nat.add_zero, Nat.mul_zero, true_implies, false_implies, implies_true, not_true, not_false, and_true, true_and, not_true_eq_false, not_false_eq_true, forall_const]
    exact stk_push s4
theorem turn_okX {u mm : MM} {t : Nat} (ht : isT t) {cv : Nat → Int32} {T : List Int32} {x : Int32} {b : Bool} (m : MM) (hm : Kx u mm m) (hs : Sk t cv (x :: T) b m) :
    Runs e_X1_turnRound [.ref (t + 8)] m (fun r m' => r = .null ∧ Kx u mm m' ∧ Sk t cv ((1 - x) :: T) b m') := by
  obtain ⟨s1, s2, s3, ⟨s4, s6⟩, s5⟩ := hs
  have hl : (x :: T).length = T.length + 1 := rfl
  rw [hl] at s2 s5
  have x1 : m.1 (t + 8 + 5) (T.length + 1 - 1) = x := s4
  apply b_X1_turnRound _ _ _ ht.at.laws
  simp (disch := omega) only [lin, nI_add, pk_mul, s_sub, s_addneg, s_leT, s_leF, s_ltT, s_ltF, s_eqF, s_inT, s_neF, s_neF', s_neE, s_nleT, s_nleF, s_nltF, s_nltT, eq_self, nI_clamp, s_wIk, s_wIo, pk_us, pk_un, Nat.reduceAdd, Nat.reduceMul, Nat.reduceSub, Nat.zero_add, Nat.add_zero, Nat.mul_zero, true_implies, false_implies, implies_true, not_true, not_false, and_true, true_and, not_true_eq_false, not_false_eq_true, forall_const, s2, x1]
  refine ⟨hm.w _ (kx_stk ht _), fun i hi => ?_, ?_, ?_, ?_, s5⟩
  · simp (disch := omega) only [lin, nI_add, pk_mul, s_sub, s_addneg, s_leT, s_leF, s_ltT, s_ltF, s_eqF, s_inT, s_neF, s_neF', s_neE, s_nleT, s_nleF, s_nltF, s_nltT, eq_self, nI_clamp, s_wIk, s_wIo, pk_us, pk_un, Nat.reduceAdd, Nat.reduceMul, Nat.reduceSub, Nat.zero_add, Nat.add_zero, Nat.mul_zero, true_implies, false_implies, implies_true, not_true, not_false, and_true, true_and, not_true_eq_false, not_false_eq_true, forall_const, s1 i hi]
  · simp (disch := omega) only [lin, nI_add, pk_mul, s_sub, s_addneg, s_leT, s_leF, s_ltT, s_ltF, s_eqF, s_inT, s_neF, s_neF', s_neE, s_nleT, s_nleF, s_nltF, s_nltT, eq_self, nI_clamp, s_wIk, s_wIo, pk_us, pk_un, Nat.reduceAdd, Nat.reduceMul, Nat.reduceSub, Nat.zero_add, Nat.add_zero, Nat.mul_zero, true_implies, false_implies, implies_true, not_true, not_false, and_true, true_and, not_true_eq_false, not_false_eq_true, forall_const, s2]
    rfl
  · simp (disch := omega) only [lin, nI_add, pk_mul, s_sub, s_addneg, s_leT, s_leF, s_ltT, s_ltF, s_eqF, s_inT, s_neF, s_neF', s_neE, s_nleT, s_nleF, s_nltF, s_nltT, eq_self, nI_clamp, s_wIk, s_wIo, pk_us, pk_un, Nat.reduceAdd, Nat.reduceMul, Nat.reduceSub, Nat.zero_add, Nat.add_zero, Nat.mul_zero, true_implies, false_implies, implies_true, not_true, not_false, and_true, true_and, not_true_eq_false, not_false_eq_true, forall_const, s3]
  · simp (disch := omega) only [lin, nI_add, pk_mul, s_sub, s_addneg, s_leT, s_leF, s_ltT, s_ltF, s_eqF, s_inT, s_neF, s_neF', s_neE, s_nleT, s_nleF, s_nltF, s_nltT, eq_self, nI_clamp, s_wIk, s_wIo, pk_us, pk_un, Nat.reduceAdd, Nat.reduceMul, Nat.reduceSub, Nat.zero_add, Nat.add_zero, Nat.mul_zero, true_implies, false_implies, implies_true, not_true, not_false, and_true, true_and, not_true_eq_false, not_false_eq_true, forall_const]
    exact stk_push s6
theorem reckon_okX {u mm : MM} {t q : Nat} (ht : isT t) (hq : 30 ≤ q ∧ q ≤ 33) {x y : Int32} (m : MM) (hm : Kx u mm m) :
    Runs e_X1_reckon [.ref (t + 8), .int (nI q), .int x, .int y] m (fun r m' => r = .int (if q = 33 ∧ y = 0 then 0 else arC (nI q) x y) ∧ m' = if q = 33 ∧ y = 0 then wI m (t + 8) 7 1 else m) := by
  apply b_X1_reckon _ _ _ _ _ _ ht.at.laws
  have hq' : q = 30 ∨ q = 31 ∨ q = 32 ∨ q = 33 := by omega
  unfold arC
  rcases hq' with rfl | rfl | rfl | rfl
  · simp (disch := omega) only [lin, nI_add, pk_mul, s_sub, s_addneg, s_leT, s_leF, s_ltT, s_ltF, s_eqF, s_inT, s_neF, s_neF', s_neE, s_nleT, s_nleF, s_nltF, s_nltT, eq_self, nI_clamp, s_wIk, s_wIo, pk_us, pk_un, Nat.reduceAdd, Nat.reduceMul, Nat.reduceSub, Nat.zero_add, Nat.add_zero, Nat.mul_zero, true_implies, false_implies, implies_true, not_true, not_false, and_true, true_and, not_true_eq_false, not_false_eq_true, forall_const]
    simp
  · simp (disch := omega) only [lin, nI_add, pk_mul, s_sub, s_addneg, s_leT, s_leF, s_ltT, s_ltF, s_eqF, s_inT, s_neF, s_neF', s_neE, s_nleT, s_nleF, s_nltF, s_nltT, eq_self, nI_clamp, s_wIk, s_wIo, pk_us, pk_un, Nat.reduceAdd, Nat.reduceMul, Nat.reduceSub, Nat.zero_add, Nat.add_zero, Nat.mul_zero, true_implies, false_implies, implies_true, not_true, not_false, and_true, true_and, not_true_eq_false, not_false_eq_true, forall_const]
    simp
  · simp (disch := omega) only [lin, nI_add, pk_mul, s_sub, s_addneg, s_leT, s_leF, s_ltT, s_ltF, s_eqF, s_inT, s_neF, s_neF', s_neE, s_nleT, s_nleF, s_nltF, s_nltT, eq_self, nI_clamp, s_wIk, s_wIo, pk_us, pk_un, Nat.reduceAdd, Nat.reduceMul, Nat.reduceSub, Nat.zero_add, Nat.add_zero, Nat.mul_zero, true_implies, false_implies, implies_true, not_true, not_false, and_true, true_and, not_true_eq_false, not_false_eq_true, forall_const]
    simp
  · by_cases hy : y = 0
    · subst hy
      simp (disch := omega) only [lin, nI_add, pk_mul, s_sub, s_addneg, s_leT, s_leF, s_ltT, s_ltF, s_eqF, s_inT, s_neF, s_neF', s_neE, s_nleT, s_nleF, s_nltF, s_nltT, eq_self, nI_clamp, s_wIk, s_wIo, pk_us, pk_un, Nat.reduceAdd, Nat.reduceMul, Nat.reduceSub, Nat.zero_add, Nat.add_zero, Nat.mul_zero, true_implies, false_implies, implies_true, not_true, not_false, and_true, true_and, not_true_eq_false, not_false_eq_true, forall_const, if_true, if_false, and_self]
    · have hy' : ¬ y = nI 0 := hy
      simp (disch := omega) only [lin, nI_add, pk_mul, s_sub, s_addneg, s_leT, s_leF, s_ltT, s_ltF, s_eqF, s_inT, s_neF, s_neF', s_neE, s_nleT, s_nleF, s_nltF, s_nltT, eq_self, nI_clamp, s_wIk, s_wIo, pk_us, pk_un, Nat.reduceAdd, Nat.reduceMul, Nat.reduceSub, Nat.zero_add, Nat.add_zero, Nat.mul_zero, true_implies, false_implies, implies_true, not_true, not_false, and_true, true_and, not_true_eq_false, not_false_eq_true, forall_const, hy', if_true, if_false, and_false]
theorem join_okX {u mm : MM} {t q : Nat} (ht : isT t) (hq : q < 40) {cv : Nat → Int32} {T : List Int32} {x y : Int32} {b : Bool} (m : MM) (hm : Kx u mm m) (hs : Sk t cv (y :: x :: T) b m) :
    Runs e_X1_join [.ref (t + 8), .int (nI q)] m (fun r m' => r = .null ∧ Kx u mm m' ∧ (if 34 ≤ q ∧ q ≤ 37 then Sk t cv (bI (!b && holdsV (nI q) x y) :: T) false m'
      else if 30 ≤ q ∧ q ≤ 33 then (if q = 33 ∧ y = 0 then Sk t cv (0 :: T) true m' else Sk t cv (arC (nI q) x y :: T) b m')
      else Sk t cv ((if q = 24 then x &&& y else x ||| y) :: T) b m')) := by
  obtain ⟨s1, s2, s3, ⟨s4, s6, s7⟩, s5⟩ := hs
  have hl : (y :: x :: T).length = T.length + 2 := rfl
  have hl1 : (x :: T).length = T.length + 1 := rfl
  rw [hl] at s2 s5
  have y1 : m.1 (t + 8 + 5) (T.length + 2 - 1) = y := s4
  have x1 : m.1 (t + 8 + 5) (T.length + 2 - 2) = x := s6
  have K6 : ∀ v, Kx u mm (wI m (t + 8) 6 v) := fun v => hm.w _ (kx_l6 ht)
  by_cases c1 : 34 ≤ q ∧ q ≤ 37
  · simp only [if_pos c1]
    apply b_X1_join _ _ _ _ ht.at.laws
    have pc : ∀ m, p_X11_compares m (nI q) := fun m => by unfold p_X11_compares; simp (disch := omega) only [lin, nI_add, pk_mul, s_sub, s_addneg, s_leT, s_leF, s_ltT, s_ltF, s_eqF, s_inT, s_neF, s_neF', s_neE, s_nleT, s_nleF, s_nltF, s_nltT, eq_self, nI_clamp, s_wIk, s_wIo, pk_us, pk_un, Nat.reduceAdd, Nat.reduceMul, Nat.reduceSub, Nat.zero_add, Nat.add_zero, Nat.mul_zero, true_implies, false_implies, implies_true, not_true, not_false, and_true, true_and, not_true_eq_false, not_false_eq_true, forall_const]
    have fin : ∀ w : Int32, Kx u mm (wI (wI (wI m (t + 8) 6 (nI (T.length + 2 - 1))) (t + 8 + 5) (T.length + 2 - 1 - 1) w) (t + 8) 7 (nI 0)) ∧ Sk t cv (w :: T) false (wI (wI (wI m (t + 8) 6 (nI (T.length + 2 - 1))) (t + 8 + 5) (T.length + 2 - 1 - 1) w) (t + 8) 7 (nI 0)) := by
      intro w
      refine ⟨((K6 _).w _ (kx_stk ht _)).w _ (kx_l7 ht), fun i hi => ?_, ?_, ?_, ?_, by show T.length + 1 ≤ 32; omega⟩
      · simp (disch := omega) only [lin, nI_add, pk_mul, s_sub, s_addneg, s_leT, s_leF, s_ltT, s_ltF, s_eqF, s_inT, s_neF, s_neF', s_neE, s_nleT, s_nleF, s_nltF, s_nltT, eq_self, nI_clamp, s_wIk, s_wIo, pk_us, pk_un, Nat.reduceAdd, Nat.reduceMul, Nat.reduceSub, Nat.zero_add, Nat.add_zero, Nat.mul_zero, true_implies, false_implies, implies_true, not_true, not_false, and_true, true_and, not_true_eq_false, not_false_eq_true, forall_const, s1 i hi]
      · simp (disch := omega) only [lin, nI_add, pk_mul, s_sub, s_addneg, s_leT, s_leF, s_ltT, s_ltF, s_eqF, s_inT, s_neF, s_neF', s_neE, s_nleT, s_nleF, s_nltF, s_nltT, eq_self, nI_clamp, s_wIk, s_wIo, pk_us, pk_un, Nat.reduceAdd, Nat.reduceMul, Nat.reduceSub, Nat.zero_add, Nat.add_zero, Nat.mul_zero, true_implies, false_implies, implies_true, not_true, not_false, and_true, true_and, not_true_eq_false, not_false_eq_true, forall_const]
        rfl
      · simp (disch := omega) only [lin, nI_add, pk_mul, s_sub, s_addneg, s_leT, s_leF, s_ltT, s_ltF, s_eqF, s_inT, s_neF, s_neF', s_neE, s_nleT, s_nleF, s_nltF, s_nltT, eq_self, nI_clamp, s_wIk, s_wIo, pk_us, pk_un, Nat.reduceAdd, Nat.reduceMul, Nat.reduceSub, Nat.zero_add, Nat.add_zero, Nat.mul_zero, true_implies, false_implies, implies_true, not_true, not_false, and_true, true_and, not_true_eq_false, not_false_eq_true, forall_const]
        rfl
      · simp (disch := omega) only [lin, nI_add, pk_mul, s_sub, s_addneg, s_leT, s_leF, s_ltT, s_ltF, s_eqF, s_inT, s_neF, s_neF', s_neE, s_nleT, s_nleF, s_nltF, s_nltT, eq_self, nI_clamp, s_wIk, s_wIo, pk_us, pk_un, Nat.reduceAdd, Nat.reduceMul, Nat.reduceSub, Nat.zero_add, Nat.add_zero, Nat.mul_zero, true_implies, false_implies, implies_true, not_true, not_false, and_true, true_and, not_true_eq_false, not_false_eq_true, forall_const]
        exact stk_push s7
    cases b with
    | true =>
      have s3' : m.1 (t + 8) 7 = nI 1 := s3
      simp (disch := omega) only [lin, nI_add, pk_mul, s_sub, s_addneg, s_leT, s_leF, s_ltT, s_ltF, s_eqF, s_inT, s_neF, s_neF', s_neE, s_nleT, s_nleF, s_nltF, s_nltT, eq_self, nI_clamp, s_wIk, s_wIo, pk_us, pk_un, Nat.reduceAdd, Nat.reduceMul, Nat.reduceSub, Nat.zero_add, Nat.add_zero, Nat.mul_zero, true_implies, false_implies, implies_true, not_true, not_false, and_true, true_and, not_true_eq_false, not_false_eq_true, forall_const, s2, s3', x1, y1, pc]
      exact fin _
    | false =>
      have s3' : m.1 (t + 8) 7 = nI 0 := s3
      by_cases hh : holdsV (nI q) x y = true
      · have ph : ∀ m, p_X1_holds m (nI q) x y := fun m => (holds_iff m _ _ _).mpr hh
        simp (disch := omega) only [lin, nI_add, pk_mul, s_sub, s_addneg, s_leT, s_leF, s_ltT, s_ltF, s_eqF, s_inT, s_neF, s_neF', s_neE, s_nleT, s_nleF, s_nltF, s_nltT, eq_self, nI_clamp, s_wIk, s_wIo, pk_us, pk_un, Nat.reduceAdd, Nat.reduceMul, Nat.reduceSub, Nat.zero_add, Nat.add_zero, Nat.mul_zero, true_implies, false_implies, implies_true, not_true, not_false, and_true, true_and, not_true_eq_false, not_false_eq_true, forall_const, s2, s3', x1, y1, pc, ph]
        rw [hh]
        exact fin _
      · have ph : ∀ m, ¬ p_X1_holds m (nI q) x y := fun m z => hh ((holds_iff m _ _ _).mp z)
        simp (disch := omega) only [lin, nI_add, pk_mul, s_sub, s_addneg, s_leT, s_leF, s_ltT, s_ltF, s_eqF, s_inT, s_neF, s_neF', s_neE, s_nleT, s_nleF, s_nltF, s_nltT, eq_self, nI_clamp, s_wIk, s_wIo, pk_us, pk_un, Nat.reduceAdd, Nat.reduceMul, Nat.reduceSub, Nat.zero_add, Nat.add_zero, Nat.mul_zero, true_implies, false_implies, implies_true, not_true, not_false, and_true, true_and, not_true_eq_false, not_false_eq_true, forall_const, s2, s3', x1, y1, pc, ph]
        rw [Bool.eq_false_iff.mpr hh]
        exact fin _
  · simp only [if_neg c1]
    apply b_X1_join _ _ _ _ ht.at.laws
    have pc : ∀ m, ¬ p_X11_compares m (nI q) := fun m => by
      unfold p_X11_compares
      rintro ⟨z1, z2⟩
      have z1 : ¬ nI q < nI 34 := z1
      have z2 : ¬ nI 37 < nI q := z2
      rw [nI_ltI (by omega) (by omega)] at z1 z2
      omega
    have fin : ∀ (w : Int32) (m1 : MM), Kx u mm m1 → (∀ i, i < 9 → m1.1 (t + 8 + 4) i = cv i) → m1.1 (t + 8) 6 = nI (T.length + 2 - 1) → (∀ b', m1.1 (t + 8) 7 = bI b' → stk (m1.1 (t + 8 + 5)) T → Kx u mm (wI m1 (t + 8 + 5) (T.length + 2 - 1 - 1) w) ∧ Sk t cv (w :: T) b' (wI m1 (t + 8 + 5) (T.length + 2 - 1 - 1) w)) := by
      intro w m1 k1 k2 k3 b' k4 k5
      refine ⟨k1.w _ (kx_stk ht _), fun i hi => ?_, ?_, ?_, ?_, by show T.length + 1 ≤ 32; omega⟩
      · simp (disch := omega) only [lin, nI_add, pk_mul, s_sub, s_addneg, s_leT, s_leF, s_ltT, s_ltF, s_eqF, s_inT, s_neF, s_neF', s_neE, s_nleT, s_nleF, s_nltF, s_nltT, eq_self, nI_clamp, s_wIk, s_wIo, pk_us, pk_un, Nat.reduceAdd, Nat.reduceMul, Nat.reduceSub, Nat.zero_add, Nat.add_zero, Nat.mul_zero, true_implies, false_implies, implies_true, not_true, not_false, and_true, true_and, not_true_eq_false, not_false_eq_true, forall_const, k2 i hi]
      · simp (disch := omega) only [lin, nI_add, pk_mul, s_sub, s_addneg, s_leT, s_leF, s_ltT, s_ltF, s_eqF, s_inT, s_neF, s_neF', s_neE, s_nleT, s_nleF, s_nltF, s_nltT, eq_self, nI_clamp, s_wIk, s_wIo, pk_us, pk_un, Nat.reduceAdd, Nat.reduceMul, Nat.reduceSub, Nat.zero_add, Nat.add_zero, Nat.mul_zero, true_implies, false_implies, implies_true, not_true, not_false, and_true, true_and, not_true_eq_false, not_false_eq_true, forall_const, k3]
        rfl
      · simp (disch := omega) only [lin, nI_add, pk_mul, s_sub, s_addneg, s_leT, s_leF, s_ltT, s_ltF, s_eqF, s_inT, s_neF, s_neF', s_neE, s_nleT, s_nleF, s_nltF, s_nltT, eq_self, nI_clamp, s_wIk, s_wIo, pk_us, pk_un, Nat.reduceAdd, Nat.reduceMul, Nat.reduceSub, Nat.zero_add, Nat.add_zero, Nat.mul_zero, true_implies, false_implies, implies_true, not_true, not_false, and_true, true_and, not_true_eq_false, not_false_eq_true, forall_const, k4]
      · simp (disch := omega) only [lin, nI_add, pk_mul, s_sub, s_addneg, s_leT, s_leF, s_ltT, s_ltF, s_eqF, s_inT, s_neF, s_neF', s_neE, s_nleT, s_nleF, s_nltF, s_nltT, eq_self, nI_clamp, s_wIk, s_wIo, pk_us, pk_un, Nat.reduceAdd, Nat.reduceMul, Nat.reduceSub, Nat.zero_add, Nat.add_zero, Nat.mul_zero, true_implies, false_implies, implies_true, not_true, not_false, and_true, true_and, not_true_eq_false, not_false_eq_true, forall_const]
        exact stk_push k5
    have v6 : ∀ i, i < 9 → (wI m (t + 8) 6 (nI (T.length + 2 - 1))).1 (t + 8 + 4) i = cv i := fun i hi => by simp (disch := omega) only [lin, nI_add, pk_mul, s_sub, s_addneg, s_leT, s_leF, s_ltT, s_ltF, s_eqF, s_inT, s_neF, s_neF', s_neE, s_nleT, s_nleF, s_nltF, s_nltT, eq_self, nI_clamp, s_wIk, s_wIo, pk_us, pk_un, Nat.reduceAdd, Nat.reduceMul, Nat.reduceSub, Nat.zero_add, Nat.add_zero, Nat.mul_zero, true_implies, false_implies, implies_true, not_true, not_false, and_true, true_and, not_true_eq_false, not_false_eq_true, forall_const, s1 i hi]
    have t6 : (wI m (t + 8) 6 (nI (T.length + 2 - 1))).1 (t + 8) 6 = nI (T.length + 2 - 1) := by simp (disch := omega) only [lin, nI_add, pk_mul, s_sub, s_addneg, s_leT, s_leF, s_ltT, s_ltF, s_eqF, s_inT, s_neF, s_neF', s_neE, s_nleT, s_nleF, s_nltF, s_nltT, eq_self, nI_clamp, s_wIk, s_wIo, pk_us, pk_un, Nat.reduceAdd, Nat.reduceMul, Nat.reduceSub, Nat.zero_add, Nat.add_zero, Nat.mul_zero, true_implies, false_implies, implies_true, not_true, not_false, and_true, true_and, not_true_eq_false, not_false_eq_true, forall_const]
    have b6 : (wI m (t + 8) 6 (nI (T.length + 2 - 1))).1 (t + 8) 7 = bI b := by simp (disch := omega) only [lin, nI_add, pk_mul, s_sub, s_addneg, s_leT, s_leF, s_ltT, s_ltF, s_eqF, s_inT, s_neF, s_neF', s_neE, s_nleT, s_nleF, s_nltF, s_nltT, eq_self, nI_clamp, s_wIk, s_wIo, pk_us, pk_un, Nat.reduceAdd, Nat.reduceMul, Nat.reduceSub, Nat.zero_add, Nat.add_zero, Nat.mul_zero, true_implies, false_implies, implies_true, not_true, not_false, and_true, true_and, not_true_eq_false, not_false_eq_true, forall_const, s3]
    have k6 : stk ((wI m (t + 8) 6 (nI (T.length + 2 - 1))).1 (t + 8 + 5)) T := by
      simp (disch := omega) only [lin, nI_add, pk_mul, s_sub, s_addneg, s_leT, s_leF, s_ltT, s_ltF, s_eqF, s_inT, s_neF, s_neF', s_neE, s_nleT, s_nleF, s_nltF, s_nltT, eq_self, nI_clamp, s_wIk, s_wIo, pk_us, pk_un, Nat.reduceAdd, Nat.reduceMul, Nat.reduceSub, Nat.zero_add, Nat.add_zero, Nat.mul_zero, true_implies, false_implies, implies_true, not_true, not_false, and_true, true_and, not_true_eq_false, not_false_eq_true, forall_const]
      exact s7
    by_cases c2 : 30 ≤ q ∧ q ≤ 33
    · simp only [if_pos c2]
      have pr : ∀ m, p_X11_reckons m (nI q) := fun m => by unfold p_X11_reckons; simp (disch := omega) only [lin, nI_add, pk_mul, s_sub, s_addneg, s_leT, s_leF, s_ltT, s_ltF, s_eqF, s_inT, s_neF, s_neF', s_neE, s_nleT, s_nleF, s_nltF, s_nltT, eq_self, nI_clamp, s_wIk, s_wIo, pk_us, pk_un, Nat.reduceAdd, Nat.reduceMul, Nat.reduceSub, Nat.zero_add, Nat.add_zero, Nat.mul_zero, true_implies, false_implies, implies_true, not_true, not_false, and_true, true_and, not_true_eq_false, not_false_eq_true, forall_const]
      simp (disch := omega) only [lin, nI_add, pk_mul, s_sub, s_addneg, s_leT, s_leF, s_ltT, s_ltF, s_eqF, s_inT, s_neF, s_neF', s_neE, s_nleT, s_nleF, s_nltF, s_nltT, eq_self, nI_clamp, s_wIk, s_wIo, pk_us, pk_un, Nat.reduceAdd, Nat.reduceMul, Nat.reduceSub, Nat.zero_add, Nat.add_zero, Nat.mul_zero, true_implies, false_implies, implies_true, not_true, not_false, and_true, true_and, not_true_eq_false, not_false_eq_true, forall_const, s2, x1, y1, pc, pr]
      refine icall (reckon_okX ht c2 _ (K6 _)) ?_
      rintro m1 rfl
      by_cases c3 : q = 33 ∧ y = 0
      · have c3' : q = 33 ∧ y = nI 0 := c3
        simp only [if_pos c3, if_pos c3']
        exact fin _ _ ((K6 (nI (T.length + 2 - 1))).w _ (kx_l7 ht)) (fun i hi => by rw [wI_o (by omega)]; exact v6 i hi) (by rw [wI_k, pk_un (by decide)]; exact t6) true (by rw [wI_k, pk_us]; rfl) (by rw [wI_o (by omega)]; exact k6)
      · have c3' : ¬ (q = 33 ∧ y = nI 0) := c3
        simp only [if_neg c3, if_neg c3']
        exact fin _ _ (K6 _) v6 t6 b b6 k6
    · simp only [if_neg c2]
      have pr : ∀ m, ¬ p_X11_reckons m (nI q) := fun m => by
        unfold p_X11_reckons
        rintro ⟨z1, z2⟩
        have z1 : ¬ nI q < nI 30 := z1
        have z2 : ¬ nI 33 < nI q := z2
        rw [nI_ltI (by omega) (by omega)] at z1 z2
        omega
      by_cases c4 : q = 24
      · subst c4
        simp (disch := omega) only [lin, nI_add, pk_mul, s_sub, s_addneg, s_leT, s_leF, s_ltT, s_ltF, s_eqF, s_inT, s_neF, s_neF', s_neE, s_nleT, s_nleF, s_nltF, s_nltT, eq_self, nI_clamp, s_wIk, s_wIo, pk_us, pk_un, Nat.reduceAdd, Nat.reduceMul, Nat.reduceSub, Nat.zero_add, Nat.add_zero, Nat.mul_zero, true_implies, false_implies, implies_true, not_true, not_false, and_true, true_and, not_true_eq_false, not_false_eq_true, forall_const, s2, x1, y1, pc, pr]
        simp only [if_true]
        exact fin _ _ (K6 _) v6 t6 b b6 k6
      · simp (disch := omega) only [lin, nI_add, pk_mul, s_sub, s_addneg, s_leT, s_leF, s_ltT, s_ltF, s_eqF, s_inT, s_neF, s_neF', s_neE, s_nleT, s_nleF, s_nltF, s_nltT, eq_self, nI_clamp, s_wIk, s_wIo, pk_us, pk_un, Nat.reduceAdd, Nat.reduceMul, Nat.reduceSub, Nat.zero_add, Nat.add_zero, Nat.mul_zero, true_implies, false_implies, implies_true, not_true, not_false, and_true, true_and, not_true_eq_false, not_false_eq_true, forall_const, s2, x1, y1, pc, pr]
        simp only [if_neg c4]
        exact fin _ _ (K6 _) v6 t6 b b6 k6
theorem value_okX {u mm : MM} {t : Nat} (ht : isT t) {cv : Nat → Int32} {st n sz : Nat} {v : Int32} {b : Bool} (hc : cr (mm.1 (t + 8 + 1)) cv st n = some ([v], b)) (hcod : Coded (mm.1 (t + 8 + 1)) st n) (hend : mm.1 (t + 8 + 1) (st + n) = -1 - nI 28) (hsz : mm.1 (t + 8) 5 = nI sz) (h1 : st + n < sz) (h4 : sz ≤ 400)
    (m : MM) (hm : Kx u mm m) (hv : ∀ i, i < 9 → m.1 (t + 8 + 4) i = cv i) : Runs e_X1_value [.ref (t + 8), .int (nI st)] m (fun r m' => r = .int (bif b then 0 else v) ∧ Kx u mm m' ∧ ∀ i, i < 9 → m'.1 (t + 8 + 4) i = cv i) := by
  apply b_X1_value _ _ _ _ ht.at.laws
  refine for_up (fun k => [(0, .ref (t + 8)), (2, .int (nI (st + k)))]) (fun k m => Kx u mm m ∧ ∃ S b, cr (mm.1 (t + 8 + 1)) cv st k = some (S, b) ∧ Sk t cv S b m) n ?_ ?_ 0 _ (Nat.zero_le _) ⟨(hm.w _ (kx_l6 ht)).w _ (kx_l7 ht), [], false, rfl, fun i hi => ?_, ?_, ?_, trivial, Nat.zero_le _⟩
  · rintro m ⟨k1, S, b', k2, s1, s2, s3, s4, s5⟩
    rw [hc] at k2
    obtain ⟨rfl, rfl⟩ := Prod.mk.inj (Option.some.inj k2)
    have e2 : (-nI 1) - mm.1 (t + 8 + 1) (st + n) = nI 28 := by rw [hend]; exact tg_sign (by omega)
    have s2' : m.1 (t + 8) 6 = nI 1 := s2
    have s40 : m.1 (t + 8 + 5) 0 = v := s4.1
    apply b_X1_value_12 _ _ _ _ ht.at.laws
    cases b with
    | true =>
      have s3' : m.1 (t + 8) 7 = nI 1 := s3
      simp (disch := omega) only [lin, nI_add, pk_mul, s_sub, s_addneg, s_leT, s_leF, s_ltT, s_ltF, s_eqF, s_inT, s_neF, s_neF', s_neE, s_nleT, s_nleF, s_nltF, s_nltT, eq_self, nI_clamp, s_wIk, s_wIo, pk_us, pk_un, Nat.reduceAdd, Nat.reduceMul, Nat.reduceSub, Nat.zero_add, Nat.add_zero, Nat.mul_zero, true_implies, false_implies, implies_true, not_true, not_false, and_true, true_and, not_true_eq_false, not_false_eq_true, forall_const, k1.l ht 5 rfl, hsz, k1.t9 ht, e2, s2', s3']
      exact ⟨rfl, k1, s1⟩
    | false =>
      have s3' : m.1 (t + 8) 7 = nI 0 := s3
      simp (disch := omega) only [lin, nI_add, pk_mul, s_sub, s_addneg, s_leT, s_leF, s_ltT, s_ltF, s_eqF, s_inT, s_neF, s_neF', s_neE, s_nleT, s_nleF, s_nltF, s_nltT, eq_self, nI_clamp, s_wIk, s_wIo, pk_us, pk_un, Nat.reduceAdd, Nat.reduceMul, Nat.reduceSub, Nat.zero_add, Nat.add_zero, Nat.mul_zero, true_implies, false_implies, implies_true, not_true, not_false, and_true, true_and, not_true_eq_false, not_false_eq_true, forall_const, k1.l ht 5 rfl, hsz, k1.t9 ht, e2, s2', s3', s40]
      exact ⟨rfl, k1, s1⟩
  · rintro k m hk ⟨k1, S, b', k2, hs⟩ hn
    obtain ⟨r', hr'⟩ := cr_pre hc (show k + 1 ≤ n from hk)
    have hst : cs (mm.1 (t + 8 + 1)) cv (st + k) S b' = some r' := by
      have := hr'
      unfold cr at this
      rw [k2] at this
      exact this
    apply b_X1_value_12 _ _ _ _ ht.at.laws
    rcases hcod k hk with ⟨x, hx, ex⟩ | ⟨q, hq, hq2, eq⟩
    · rw [cs_num hx ex] at hst
      by_cases hl : S.length < 32
      · rw [if_pos hl] at hst
        have hst := Option.some.inj hst
        subst hst
        have e2 : (-nI 1) - nI x = -nI (x + 1) := tg_num hx
        simp (disch := omega) only [lin, nI_add, pk_mul, s_sub, s_addneg, s_leT, s_leF, s_ltT, s_ltF, s_eqF, s_inT, s_neF, s_neF', s_neE, s_nleT, s_nleF, s_nltF, s_nltT, eq_self, nI_clamp, s_wIk, s_wIo, pk_us, pk_un, Nat.reduceAdd, Nat.reduceMul, Nat.reduceSub, Nat.zero_add, Nat.add_zero, Nat.mul_zero, true_implies, false_implies, implies_true, not_true, not_false, and_true, true_and, not_true_eq_false, not_false_eq_true, forall_const, k1.l ht 5 rfl, hsz, k1.t9 ht, ex, e2]
        refine vcall (push_okX ht hl m k1 hs) ?_
        rintro m1 ⟨q1, q2⟩
        exact hn m1 ⟨q1, _, _, hr', q2⟩
      · rw [if_neg hl] at hst
        cases hst
    · rw [cs_sign (by omega) eq] at hst
      have e2 : (-nI 1) - mm.1 (t + 8 + 1) (st + k) = nI q := by rw [eq]; exact tg_sign (by omega)
      by_cases c1 : 12 ≤ q ∧ q ≤ 20
      · have pv : ∀ m, p_X11_isVar m (nI q) := fun m => by unfold p_X11_isVar; simp (disch := omega) only [lin, nI_add, pk_mul, s_sub, s_addneg, s_leT, s_leF, s_ltT, s_ltF, s_eqF, s_inT, s_neF, s_neF', s_neE, s_nleT, s_nleF, s_nltF, s_nltT, eq_self, nI_clamp, s_wIk, s_wIo, pk_us, pk_un, Nat.reduceAdd, Nat.reduceMul, Nat.reduceSub, Nat.zero_add, Nat.add_zero, Nat.mul_zero, true_implies, false_implies, implies_true, not_true, not_false, and_true, true_and, not_true_eq_false, not_false_eq_true, forall_const]
        unfold csq at hst
        rw [if_pos c1] at hst
        by_cases hl : S.length < 32
        · rw [if_pos hl] at hst
          have hst := Option.some.inj hst
          subst hst
          have ev := hs.1 (q - 12) (by omega)
          simp (disch := omega) only [lin, nI_add, pk_mul, s_sub, s_addneg, s_leT, s_leF, s_ltT, s_ltF, s_eqF, s_inT, s_neF, s_neF', s_neE, s_nleT, s_nleF, s_nltF, s_nltT, eq_self, nI_clamp, s_wIk, s_wIo, pk_us, pk_un, Nat.reduceAdd, Nat.reduceMul, Nat.reduceSub, Nat.zero_add, Nat.add_zero, Nat.mul_zero, true_implies, false_implies, implies_true, not_true, not_false, and_true, true_and, not_true_eq_false, not_false_eq_true, forall_const, k1.l ht 5 rfl, hsz, k1.t9 ht, e2, pv, ev]
          refine vcall (push_okX ht hl m k1 hs) ?_
          rintro m1 ⟨q1, q2⟩
          exact hn m1 ⟨q1, _, _, hr', q2⟩
        · rw [if_neg hl] at hst
          cases hst
      · have pv : ∀ m, ¬ p_X11_isVar m (nI q) := fun m => by
          unfold p_X11_isVar
          rintro ⟨z1, z2⟩
          have z1 : ¬ nI q < nI 12 := z1
          have z2 : ¬ nI 20 < nI q := z2
          rw [nI_ltI (by omega) (by omega)] at z1 z2
          omega
        by_cases c2 : q = 25
        · subst c2
          match S, hst, hs with
          | x :: T, hst, hs =>
            have hst : some ((1 - x) :: T, b') = some r' := hst
            have hst := Option.some.inj hst
            subst hst
            simp (disch := omega) only [lin, nI_add, pk_mul, s_sub, s_addneg, s_leT, s_leF, s_ltT, s_ltF, s_eqF, s_inT, s_neF, s_neF', s_neE, s_nleT, s_nleF, s_nltF, s_nltT, eq_self, nI_clamp, s_wIk, s_wIo, pk_us, pk_un, Nat.reduceAdd, Nat.reduceMul, Nat.reduceSub, Nat.zero_add, Nat.add_zero, Nat.mul_zero, true_implies, false_implies, implies_true, not_true, not_false, and_true, true_and, not_true_eq_false, not_false_eq_true, forall_const, k1.l ht 5 rfl, hsz, k1.t9 ht, e2, pv]
            refine vcall (turn_okX ht m k1 hs) ?_
            rintro m1 ⟨q1, q2⟩
            exact hn m1 ⟨q1, _, _, hr', q2⟩
        · unfold csq at hst
          rw [if_neg c1, if_neg c2] at hst
          match S, hst, hs with
          | y :: x :: T, hst, hs =>
            simp (disch := omega) only [lin, nI_add, pk_mul, s_sub, s_addneg, s_leT, s_leF, s_ltT, s_ltF, s_eqF, s_inT, s_neF, s_neF', s_neE, s_nleT, s_nleF, s_nltF, s_nltT, eq_self, nI_clamp, s_wIk, s_wIo, pk_us, pk_un, Nat.reduceAdd, Nat.reduceMul, Nat.reduceSub, Nat.zero_add, Nat.add_zero, Nat.mul_zero, true_implies, false_implies, implies_true, not_true, not_false, and_true, true_and, not_true_eq_false, not_false_eq_true, forall_const, k1.l ht 5 rfl, hsz, k1.t9 ht, e2, pv]
            refine vcall (join_okX ht (by omega) m k1 hs) ?_
            rintro m1 ⟨q1, q2⟩
            simp only at hst
            by_cases d1 : 34 ≤ q ∧ q ≤ 37
            · rw [if_pos d1] at hst q2
              have hst := Option.some.inj hst
              subst hst
              exact hn m1 ⟨q1, _, _, hr', q2⟩
            · rw [if_neg d1] at hst q2
              by_cases d2 : 30 ≤ q ∧ q ≤ 33
              · rw [if_pos d2] at hst q2
                by_cases d3 : q = 33 ∧ y = 0
                · rw [if_pos d3] at hst q2
                  have hst := Option.some.inj hst
                  subst hst
                  exact hn m1 ⟨q1, _, _, hr', q2⟩
                · rw [if_neg d3] at hst q2
                  have hst := Option.some.inj hst
                  subst hst
                  exact hn m1 ⟨q1, _, _, hr', q2⟩
              · rw [if_neg d2] at hst q2
                have hst := Option.some.inj hst
                subst hst
                exact hn m1 ⟨q1, _, _, hr', q2⟩
  · simp (disch := omega) only [lin, nI_add, pk_mul, s_sub, s_addneg, s_leT, s_leF, s_ltT, s_ltF, s_eqF, s_inT, s_neF, s_neF', s_neE, s_nleT, s_nleF, s_nltF, s_nltT, eq_self, nI_clamp, s_wIk, s_wIo, pk_us, pk_un, Nat.reduceAdd, Nat.reduceMul, Nat.reduceSub, Nat.zero_add, Nat.add_zero, Nat.mul_zero, true_implies, false_implies, implies_true, not_true, not_false, and_true, true_and, not_true_eq_false, not_false_eq_true, forall_const, hv i hi]
  · simp (disch := omega) only [lin, nI_add, pk_mul, s_sub, s_addneg, s_leT, s_leF, s_ltT, s_ltF, s_eqF, s_inT, s_neF, s_neF', s_neE, s_nleT, s_nleF, s_nltF, s_nltT, eq_self, nI_clamp, s_wIk, s_wIo, pk_us, pk_un, Nat.reduceAdd, Nat.reduceMul, Nat.reduceSub, Nat.zero_add, Nat.add_zero, Nat.mul_zero, true_implies, false_implies, implies_true, not_true, not_false, and_true, true_and, not_true_eq_false, not_false_eq_true, forall_const]
    rfl
  · simp (disch := omega) only [lin, nI_add, pk_mul, s_sub, s_addneg, s_leT, s_leF, s_ltT, s_ltF, s_eqF, s_inT, s_neF, s_neF', s_neE, s_nleT, s_nleF, s_nltF, s_nltT, eq_self, nI_clamp, s_wIk, s_wIo, pk_us, pk_un, Nat.reduceAdd, Nat.reduceMul, Nat.reduceSub, Nat.zero_add, Nat.add_zero, Nat.mul_zero, true_implies, false_implies, implies_true, not_true, not_false, and_true, true_and, not_true_eq_false, not_false_eq_true, forall_const]
    rfl
theorem value_noneX {u mm : MM} {t : Nat} (ht : isT t) {cv : Nat → Int32} (m : MM) (hm : Kx u mm m) (hv : ∀ i, i < 9 → m.1 (t + 8 + 4) i = cv i) : Runs e_X1_value [.ref (t + 8), .int (-nI 1)] m (fun r m' => r = .int 0 ∧ Kx u mm m' ∧ ∀ i, i < 9 → m'.1 (t + 8 + 4) i = cv i) := by
  apply b_X1_value _ _ _ _ ht.at.laws
  apply b_X1_value_12 _ _ _ _ ht.at.laws
  simp (disch := omega) only [lin, nI_add, pk_mul, s_sub, s_addneg, s_leT, s_leF, s_ltT, s_ltF, s_eqF, s_inT, s_neF, s_neF', s_neE, s_nleT, s_nleF, s_nltF, s_nltT, eq_self, nI_clamp, s_wIk, s_wIo, pk_us, pk_un, Nat.reduceAdd, Nat.reduceMul, Nat.reduceSub, Nat.zero_add, Nat.add_zero, Nat.mul_zero, true_implies, false_implies, implies_true, not_true, not_false, and_true, true_and, not_true_eq_false, not_false_eq_true, forall_const]
  exact ⟨(hm.w _ (kx_l6 ht)).w _ (kx_l7 ht), fun i hi => by simp (disch := omega) only [lin, nI_add, pk_mul, s_sub, s_addneg, s_leT, s_leF, s_ltT, s_ltF, s_eqF, s_inT, s_neF, s_neF', s_neE, s_nleT, s_nleF, s_nltF, s_nltT, eq_self, nI_clamp, s_wIk, s_wIo, pk_us, pk_un, Nat.reduceAdd, Nat.reduceMul, Nat.reduceSub, Nat.zero_add, Nat.add_zero, Nat.mul_zero, true_implies, false_implies, implies_true, not_true, not_false, and_true, true_and, not_true_eq_false, not_false_eq_true, forall_const, hv i hi]⟩
theorem wipe_okX {u mm : MM} {t : Nat} (ht : isT t) (m : MM) (hm : Kx u mm m) : Runs e_X1_wipeVars [.ref (t + 8)] m (fun r m' => r = .null ∧ Kx u mm m' ∧ Vs t m' (fun _ => 0)) := by
  apply b_X1_wipeVars _ _ _ ht.at.laws
  refine for_up (fun k => [(0, .ref (t + 8)), (1, .int (nI k))]) (fun k m => Kx u mm m ∧ ∀ j, j < k → m.1 (t + 8 + 4) j = 0) 9 ?_ ?_ 0 _ (Nat.zero_le _) ⟨hm, fun j hj => absurd hj (Nat.not_lt_zero _)⟩
  · rintro m ⟨k1, k2⟩
    apply b_X1_wipeVars_2 _ _ _ _ ht.at.laws
    simp (disch := omega) only [lin, nI_add, pk_mul, s_sub, s_addneg, s_leT, s_leF, s_ltT, s_ltF, s_eqF, s_inT, s_neF, s_neF', s_neE, s_nleT, s_nleF, s_nltF, s_nltT, eq_self, nI_clamp, s_wIk, s_wIo, pk_us, pk_un, Nat.reduceAdd, Nat.reduceMul, Nat.reduceSub, Nat.zero_add, Nat.add_zero, Nat.mul_zero, true_implies, false_implies, implies_true, not_true, not_false, and_true, true_and, not_true_eq_false, not_false_eq_true, forall_const]
    exact ⟨k1, k2⟩
  · rintro k m hk ⟨k1, k2⟩ hn
    apply b_X1_wipeVars_2 _ _ _ _ ht.at.laws
    simp (disch := omega) only [lin, nI_add, pk_mul, s_sub, s_addneg, s_leT, s_leF, s_ltT, s_ltF, s_eqF, s_inT, s_neF, s_neF', s_neE, s_nleT, s_nleF, s_nltF, s_nltT, eq_self, nI_clamp, s_wIk, s_wIo, pk_us, pk_un, Nat.reduceAdd, Nat.reduceMul, Nat.reduceSub, Nat.zero_add, Nat.add_zero, Nat.mul_zero, true_implies, false_implies, implies_true, not_true, not_false, and_true, true_and, not_true_eq_false, not_false_eq_true, forall_const]
    refine hn _ ⟨k1.w _ (kx_vars ht _), fun j hj => ?_⟩
    rw [wI_k]
    by_cases c : j = k
    · subst c; rw [pk_us]; rfl
    · rw [pk_un c]; exact k2 j (by omega)
theorem put_okX {u mm : MM} {t q : Nat} (ht : isT t) (hq : 12 ≤ q ∧ q ≤ 20) {cv : Nat → Int32} {v v' : Int32} (ev : v = v') (m : MM) (hm : Kx u mm m) (hv : Vs t m cv) : Runs e_X1_put [.ref (t + 8), .int (nI q), .int v] m (fun r m' => r = .null ∧ Kx u mm m' ∧ Vs t m' (upd cv (q - 12) v')) := by
  subst ev
  have pv : ∀ m, p_X11_isVar m (nI q) := fun m => by unfold p_X11_isVar; simp (disch := omega) only [lin, nI_add, pk_mul, s_sub, s_addneg, s_leT, s_leF, s_ltT, s_ltF, s_eqF, s_inT, s_neF, s_neF', s_neE, s_nleT, s_nleF, s_nltF, s_nltT, eq_self, nI_clamp, s_wIk, s_wIo, pk_us, pk_un, Nat.reduceAdd, Nat.reduceMul, Nat.reduceSub, Nat.zero_add, Nat.add_zero, Nat.mul_zero, true_implies, false_implies, implies_true, not_true, not_false, and_true, true_and, not_true_eq_false, not_false_eq_true, forall_const]
  apply b_X1_put _ _ _ _ _ ht.at.laws
  simp (disch := omega) only [lin, nI_add, pk_mul, s_sub, s_addneg, s_leT, s_leF, s_ltT, s_ltF, s_eqF, s_inT, s_neF, s_neF', s_neE, s_nleT, s_nleF, s_nltF, s_nltT, eq_self, nI_clamp, s_wIk, s_wIo, pk_us, pk_un, Nat.reduceAdd, Nat.reduceMul, Nat.reduceSub, Nat.zero_add, Nat.add_zero, Nat.mul_zero, true_implies, false_implies, implies_true, not_true, not_false, and_true, true_and, not_true_eq_false, not_false_eq_true, forall_const, pv]
  refine ⟨hm.w _ (kx_vars ht _), fun i hi => ?_⟩
  rw [wI_k]
  by_cases c : i = q - 12
  · subst c; rw [pk_us, pk_us]
  · rw [pk_un c, pk_un c]; exact hv i hi
theorem lawC_okX {u mm : MM} {t l : Nat} (ht : isT t) (hl : LawR mm.1 t l) {vs : Nat → Int32} {o : Int32} (ho : mm.1 162 (10 + 2 * l) = -nI 1 → w99 o = 0) (m : MM) (hm : Kx u mm m) (hv : Vs t m (cvOf vs)) :
    Runs e_X1_value [.ref (t + 8), .int (mm.1 (t + 8) (8 + l))] m (fun r m' => (∃ x, r = .int x ∧ w99 x = saysV mm.1 vs l o) ∧ Kx u mm m' ∧ Vs t m' (cvOf vs)) := by
  rcases hl with ⟨e1, e2⟩ | ⟨fr, n, st, k, sz, e1, e2, e3, e4, e5, e6, e7, e8, e9, e10, e11⟩
  · rw [e2]
    refine runs_to (value_noneX ht m hm hv) ?_
    rintro r m' ⟨rfl, q1⟩
    refine ⟨⟨0, rfl, ?_⟩, q1⟩
    unfold saysV
    rw [e1, if_pos (by decide), ho e1]
    decide
  · obtain ⟨v, b, f1, f2⟩ := e11 vs
    rw [e5]
    refine runs_to (value_okX ht f1 e6 e7 e8 e9 e10 m hm hv) ?_
    rintro r m' ⟨rfl, q1⟩
    refine ⟨⟨_, rfl, ?_⟩, q1⟩
    unfold saysV
    rw [e1, e2, segV_at e3, if_neg (nI_pos (by omega)), f2]
theorem rkC_vX {u mm m : MM} {t s h : Nat} (ht : isT t) (hs : isS s) (hm : Kx u mm m) (hh : h < 16) (hr : RankR mm.1 t s h) : v_X8_rankOf m t s (nI h) = rkV mm.1 h := by
  unfold v_X8_rankOf rkV
  rw [nI_clamp (by omega), hm.s hs 2 (by omega), hm.t0 ht, hm.t3 ht]
  rcases hr with ⟨e, e2⟩ | ⟨o, O, r, h1, h2, h3, h4, h5, h6, h7, h8⟩
  · rw [e2, e, cite_pos (by decide), if_neg (by decide)]
  · rw [h5, h4, h3, cite_neg (nI_pos (by omega)), cite_neg (nI_ge h1 (by omega)), if_pos (nI_pos' (by omega)), nI_clamp (by omega), h6]
theorem rkC_oX {u mm m : MM} {t s h : Nat} (ht : isT t) (hs : isS s) (hm : Kx u mm m) (hh : h < 16) (hr : RankR mm.1 t s h) : o_X8_rankOf m t s (nI h) := by
  unfold o_X8_rankOf
  rw [nI_clamp (by omega), hm.s hs 2 (by omega), hm.t0 ht]
  rcases hr with ⟨e, e2⟩ | ⟨o, O, r, h1, h2, h3, h4, h5, h6, h7, h8⟩
  · rw [e2]
    simp (disch := omega) only [lin, nI_add, pk_mul, s_sub, s_addneg, s_leT, s_leF, s_ltT, s_ltF, s_eqF, s_inT, s_neF, s_neF', s_neE, s_nleT, s_nleF, s_nltF, s_nltT, eq_self, nI_clamp, s_wIk, s_wIo, pk_us, pk_un, Nat.reduceAdd, Nat.reduceMul, Nat.reduceSub, Nat.zero_add, Nat.add_zero, Nat.mul_zero, true_implies, false_implies, implies_true, not_true, not_false, and_true, true_and, not_true_eq_false, not_false_eq_true, forall_const]
  · rw [h5, h3]
    simp (disch := omega) only [lin, nI_add, pk_mul, s_sub, s_addneg, s_leT, s_leF, s_ltT, s_ltF, s_eqF, s_inT, s_neF, s_neF', s_neE, s_nleT, s_nleF, s_nltF, s_nltT, eq_self, nI_clamp, s_wIk, s_wIo, pk_us, pk_un, Nat.reduceAdd, Nat.reduceMul, Nat.reduceSub, Nat.zero_add, Nat.add_zero, Nat.mul_zero, true_implies, false_implies, implies_true, not_true, not_false, and_true, true_and, not_true_eq_false, not_false_eq_true, forall_const]
theorem putVars_okX {u mm : MM} {t s h : Nat} (ht : isT t) (hs : isS s) (hR : HouR mm.1 t s h) (m : MM) (hm : Kx u mm m) :
    Runs e_X8_putVars [.ref t, .ref s, .int (nI h)] m (fun r m' => r = .null ∧ Kx u mm m' ∧ Vs t m' (upd (upd (upd (upd (fun _ => 0) 1 (mm.1 163 (10 + h))) 2 (rkV mm.1 h)) 3 (mm.1 162 (20 + 3 * h + 2))) 4 (mm.1 162 (20 + 3 * h)))) := by
  obtain ⟨hh, r1, r2, r3, r4⟩ := hR
  apply b_X8_putVars _ _ _ _ _ ht.at hs.at
  refine vcall (wipe_okX ht m hm) ?_
  rintro m1 ⟨q1, v1⟩
  refine ⟨vp_in_nI hh (by omega), ?_⟩
  refine vcall (put_okX (q := 13) (v' := mm.1 163 (10 + h)) ht (by omega) (by rw [nI_clamp (by omega), q1.s hs 1 (by omega)]; exact r2) m1 q1 v1) ?_
  rintro m2 ⟨q2, v2⟩
  refine ⟨rkC_oX ht hs q2 hh r1, ?_⟩
  refine vcall (put_okX (q := 14) ht (by omega) (rkC_vX ht hs q2 hh r1) m2 q2 v2) ?_
  rintro m3 ⟨q3, v3⟩
  refine ⟨vp_in_nI hh (by omega), ?_⟩
  refine vcall (put_okX (q := 15) (v' := mm.1 162 (20 + 3 * h + 2)) ht (by omega) (by rw [nI_clamp (by omega), q3.t2 ht]; exact r3) m3 q3 v3) ?_
  rintro m4 ⟨q4, v4⟩
  refine ⟨vp_in_nI hh (by omega), ?_⟩
  refine vcall (put_okX (q := 16) (v' := mm.1 162 (20 + 3 * h)) ht (by omega) (by rw [nI_clamp (by omega), q4.t1 ht]; exact r4) m4 q4 v4) ?_
  rintro m5 ⟨q5, v5⟩
  exact ⟨rfl, q5, v5⟩
theorem dueC_okX {u mm : MM} {t s h : Nat} (ht : isT t) (hs : isS s) (hL : LawR mm.1 t 1) (hR : HouR mm.1 t s h) (m : MM) (hm : Kx u mm m) :
    Runs e_X8_dueOf [.ref t, .ref s, .int (nI h)] m (fun r m' => r = .int (dueV mm.1 h) ∧ Kx u mm m') := by
  apply b_X8_dueOf _ _ _ _ _ ht.at hs.at
  rw [hm.l ht 9 rfl]
  have hcase : mm.1 (t + 8) 9 = -nI 1 ∧ mm.1 162 12 = -nI 1 ∨ ∃ st fr : Nat, st < 2 ^ 31 ∧ mm.1 (t + 8) 9 = nI st ∧ fr < 2 ^ 31 ∧ mm.1 162 12 = nI fr := by
    rcases hL with ⟨e1, e2⟩ | ⟨fr, n, st, k, sz, e1, e2, e3, e4, e5, e6, e7, e8, e9, e10, e11⟩
    · exact Or.inl ⟨e2, e1⟩
    · exact Or.inr ⟨st, fr, by omega, e5, by omega, e1⟩
  rcases hcase with ⟨e, e2⟩ | ⟨st, fr, hst, e, hfr, e2⟩
  · refine ⟨fun z => absurd e z, fun _ => ⟨rkC_oX ht hs hm hR.1 hR.2.1, ?_, hm⟩⟩
    rw [rkC_vX ht hs hm hR.1 hR.2.1]
    unfold dueV saysV
    rw [show 10 + 2 * 1 = 12 from rfl, e2, if_pos (by decide), hR.2.1.w]
  · refine ⟨fun _ => ?_, fun z => ?_⟩
    · refine vcall (putVars_okX ht hs hR m hm) ?_
      rintro m1 ⟨q1, v1⟩
      refine vcall (put_okX (q := 13) ht (by omega) rfl m1 q1 v1) ?_
      rintro m2 ⟨q2, v2⟩
      have v4 : Vs t m2 (cvOf (askD mm.1 h)) := v2.of (nine rfl rfl rfl rfl rfl rfl rfl rfl rfl)
      rw [q2.l ht 9 rfl]
      refine lcall (lawC_okX (l := 1) (o := rkV mm.1 h) ht hL (fun z => ?_) m2 q2 v4) ?_
      · rw [show 10 + 2 * 1 = 12 from rfl, e2] at z
        exact absurd z (of_eq_false (s_neF (b := 1) (Or.inr (by omega)) hfr (by omega)))
      · rintro x m4 hx ⟨q4, -⟩
        exact ⟨by rw [held99, hx]; rfl, q4⟩
    · rw [e] at z
      exact absurd z (of_eq_false (s_neF (b := 1) (Or.inr (by omega)) hst (by omega)))
theorem who_okX {u mm : MM} {t s H O S Qn W C J F B : Nat} (hs : isN s) (hb : BodyR mm.1 t s H O S Qn W C J F B) {o : Nat} (ho : o < O) (m : MM) (hm : Kx u mm m) : Runs e_X6_whoIsIn [.ref s, .int (nI o)] m (fun r m' => r = .int (holdR (mm.1 163) H (nI o)) ∧ Kx u mm m') := by
  have z1 := hb.sz.1
  have z2 := hb.sz.2.1
  have heq : ∀ h, h < 16 → ((mm.1 (s + 2) h = nI o) ↔ (h < H ∧ mm.1 163 (30 + h) = nI o)) := by
    intro h hh
    rcases hb.2.1.of (by omega) h hh with ⟨e1, e2⟩ | ⟨o', ho', hH, e1, e2⟩
    · rw [e1, e2]
      constructor
      · intro z
        exact absurd z.symm (of_eq_false (s_neF (b := 1) (Or.inr (by omega)) (by omega) (by omega)))
      · rintro ⟨-, z⟩
        exact absurd z.symm (of_eq_false (s_neF (b := 2) (Or.inr (by omega)) (by omega) (by omega)))
    · rw [e1, e2]
      exact ⟨fun z => ⟨hH, z⟩, fun z => z.2⟩
  apply b_X6_whoIsIn _ _ _ _ hs.s.at
  refine for_up (fun q => [(0, .ref s), (1, .int (nI o)), (2, .int (nI q))]) (fun q m => Kx u mm m ∧ ∀ h, h < q → ¬ (h < H ∧ mm.1 163 (30 + h) = nI o)) 16 ?_ ?_ 0 _ (Nat.zero_le _) ⟨hm, fun h hh => absurd hh (Nat.not_lt_zero _)⟩
  · rintro m ⟨k, hno⟩
    apply b_X6_whoIsIn_2 _ _ _ _ _ hs.s.at
    simp (disch := omega) only [lin, nI_add, pk_mul, s_sub, s_addneg, s_leT, s_leF, s_ltT, s_ltF, s_eqF, s_inT, s_neF, s_neF', s_neE, s_nleT, s_nleF, s_nltF, s_nltT, eq_self, nI_clamp, s_wIk, s_wIo, pk_us, pk_un, Nat.reduceAdd, Nat.reduceMul, Nat.reduceSub, Nat.zero_add, Nat.add_zero, Nat.mul_zero, true_implies, false_implies, implies_true, not_true, not_false, and_true, true_and, not_true_eq_false, not_false_eq_true, forall_const]
    refine ⟨?_, k⟩
    have e : fa_first (fun h => decide (mm.1 163 (30 + h) = nI o)) H = H := fa_first_none (fun j hj => by
      have := hno j (by omega)
      simp only [hj, true_and] at this
      simpa using this)
    unfold holdR
    rw [e, if_neg (by omega)]
    rfl
  · rintro q m hq ⟨k, hno⟩ hn
    apply b_X6_whoIsIn_2 _ _ _ _ _ hs.s.at
    rw [nI_clamp (by omega), k.s hs.s 2 (by omega), nI_1 q]
    refine ⟨fun z => absurd z (nI_ge (a := q) (b := 16) hq (by omega)), fun _ => ⟨vp_in_nI (by omega) (by omega), fun z => ?_, fun z => ?_⟩⟩
    · refine hn m ⟨k, fun h hh => ?_⟩
      by_cases e : h = q
      · subst e; exact fun y => z ((heq h (by omega)).mpr y)
      · exact hno h (by omega)
    · obtain ⟨y1, y2⟩ := (heq q (by omega)).mp z
      have e : fa_first (fun h => decide (mm.1 163 (30 + h) = nI o)) H = q := fa_first_at y1 (by simpa using y2) (fun j hj => by
        have := hno j hj
        simp only [show j < H from by omega, true_and] at this
        simpa using this)
      unfold holdR
      rw [e, if_pos y1]
      exact ⟨rfl, k⟩

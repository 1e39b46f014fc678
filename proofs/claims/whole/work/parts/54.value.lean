/-! the class's code as a run over a list -/
def holdsV (q x y : Int32) : Bool := if q = 34 then decide (x = y) else if q = 35 then decide (¬ x = y) else if q = 36 then decide (x < y) else decide (x ≤ y)
def arC (q x y : Int32) : Int32 := if q = 30 then x + y else if q = 31 then x - y else if q = 32 then x * y else x / y
def csq (cv : Nat → Int32) (q : Nat) (S : List Int32) (b : Bool) : Option (List Int32 × Bool) :=
  if 12 ≤ q ∧ q ≤ 20 then (if S.length < 32 then some (cv (q - 12) :: S, b) else none)
  else if q = 25 then (match S with
    | x :: T => some ((1 - x) :: T, b)
    | [] => none)
  else match S with
    | y :: x :: T =>
      if 34 ≤ q ∧ q ≤ 37 then some (bI (!b && holdsV (nI q) x y) :: T, false)
      else if 30 ≤ q ∧ q ≤ 33 then (if q = 33 ∧ y = 0 then some (0 :: T, true) else some (arC (nI q) x y :: T, b))
      else some ((if q = 24 then x &&& y else x ||| y) :: T, b)
    | _ => none
def cs (cd cv : Nat → Int32) (k : Nat) (S : List Int32) (b : Bool) : Option (List Int32 × Bool) :=
  if 0 ≤ cd k then (if S.length < 32 then some (cd k :: S, b) else none) else csq cv (-1 - cd k).toNatClampNeg S b
def cr (cd cv : Nat → Int32) (st : Nat) : Nat → Option (List Int32 × Bool)
  | 0 => some ([], false)
  | n + 1 => (cr cd cv st n).bind (fun r => cs cd cv (st + n) r.1 r.2)
theorem cr_pre {cd cv : Nat → Int32} {st : Nat} : ∀ {n k : Nat} {r : List Int32 × Bool}, cr cd cv st n = some r → k ≤ n → ∃ r', cr cd cv st k = some r'
  | 0, k, r, h, hk => by
    have e : k = 0 := by omega
    subst e; exact ⟨_, h⟩
  | n + 1, k, r, h, hk => by
    by_cases e : k = n + 1
    · subst e; exact ⟨_, h⟩
    · cases h1 : cr cd cv st n with
      | none =>
        unfold cr at h
        rw [h1] at h
        cases h
      | some r1 => exact cr_pre (n := n) h1 (by omega)
/-- code that is a run: each place a number or a sign's number -/
def Coded (cd : Nat → Int32) (st n : Nat) : Prop := ∀ i, i < n → (∃ v : Nat, v < 2 ^ 30 ∧ cd (st + i) = nI v) ∨ (∃ q : Nat, q < 28 + 12 ∧ q ≠ 28 ∧ cd (st + i) = -1 - nI q)
theorem m1_toInt : (-1 : Int32).toInt = -1 := by decide
theorem tg_toInt {v : Nat} (h : v < 2 ^ 30) : ((-1 : Int32) - nI v).toInt = -1 - (v : Int) := by
  rw [fb_subI (by rw [m1_toInt, nI_toInt (by omega)]; omega) (by rw [m1_toInt, nI_toInt (by omega)]; omega), m1_toInt, nI_toInt (by omega)]
theorem tg_num {v : Nat} (h : v < 2 ^ 30) : (-nI 1) - nI v = -nI (v + 1) := by
  apply Int32.toInt_inj.mp
  have e := tg_toInt h
  have e2 : (-nI 1 - nI v).toInt = -1 - (v : Int) := e
  rw [e2, nI_toIntN (by omega)]
  omega
theorem tg_sign {q : Nat} (h : q < 2 ^ 30) : (-nI 1) - (-1 - nI q) = nI q := by
  apply Int32.toInt_inj.mp
  have e := tg_toInt h
  have m1 : (-nI 1).toInt = -1 := m1_toInt
  rw [fb_subI (by rw [m1, e]; omega) (by rw [m1, e]; omega), m1, e, nI_toInt (by omega)]
  omega
/-- the class's stack -/
def Sk (t : Nat) (cv : Nat → Int32) (S : List Int32) (b : Bool) (m : MM) : Prop := (∀ i, i < 9 → m.1 (t + 8 + 4) i = cv i) ∧ m.1 (t + 8) 6 = nI S.length ∧ m.1 (t + 8) 7 = bI b ∧ stk (m.1 (t + 8 + 5)) S ∧ S.length ≤ 32
theorem push_ok {mm : MM} {t : Nat} (ht : isT t) {cv : Nat → Int32} {S : List Int32} {b : Bool} {x : Int32} (hl : S.length < 32) (m : MM) (hm : Kq mm m) (hs : Sk t cv S b m) :
    Runs e_X1_push [.ref (t + 8), .int x] m (fun r m' => r = .null ∧ Kq mm m' ∧ Sk t cv (x :: S) b m') := by
  obtain ⟨s1, s2, s3, s4, s5⟩ := hs
  apply b_X1_push _ _ _ _ ht.at.laws
  simp (disch := omega) only [lin, nI_add, pk_mul, s_sub, s_addneg, s_leT, s_leF, s_ltT, s_ltF, s_eqF, s_inT, s_neF, s_neF', s_neE, s_nleT, s_nleF, s_nltF, s_nltT, eq_self, nI_clamp, s_wIk, s_wIo, pk_us, pk_un, Nat.reduceAdd, Nat.reduceMul, Nat.reduceSub, Nat.zero_add, Nat.add_zero, Nat.mul_zero, true_implies, false_implies, implies_true, not_true, not_false, and_true, true_and, not_true_eq_false, not_false_eq_true, forall_const, s2]
  refine ⟨(hm.w _ (kq_stk ht _)).w _ (kq_l6 ht), fun i hi => ?_, ?_, ?_, ?_, hl⟩
  · simp (disch := omega) only [lin, nI_add, pk_mul, s_sub, s_addneg, s_leT, s_leF, s_ltT, s_ltF, s_eqF, s_inT, s_neF, s_neF', s_neE, s_nleT, s_nleF, s_nltF, s_nltT, eq_self, nI_clamp, s_wIk, s_wIo, pk_us, pk_un, Nat.reduceAdd, Nat.reduceMul, Nat.reduceSub, Nat.zero_add, Nat.add_zero, Nat.mul_zero, true_implies, false_implies, implies_true, not_true, not_false, and_true, true_and, not_true_eq_false, not_false_eq_true, forall_const, s1 i hi]
  · simp (disch := omega) only [lin, nI_add, pk_mul, s_sub, s_addneg, s_leT, s_leF, s_ltT, s_ltF, s_eqF, s_inT, s_neF, s_neF', s_neE, s_nleT, s_nleF, s_nltF, s_nltT, eq_self, nI_clamp, s_wIk, s_wIo, pk_us, pk_un, Nat.reduceAdd, Nat.reduceMul, Nat.reduceSub, Nat.zero_add, Nat.add_zero, Nat.mul_zero, true_implies, false_implies, implies_true, not_true, not_false, and_true, true_and, not_true_eq_false, not_false_eq_true, forall_const]
    rfl
  · simp (disch := omega) only [lin, nI_add, pk_mul, s_sub, s_addneg, s_leT, s_leF, s_ltT, s_ltF, s_eqF, s_inT, s_neF, s_neF', s_neE, s_nleT, s_nleF, s_nltF, s_nltT, eq_self, nI_clamp, s_wIk, s_wIo, pk_us, pk_un, Nat.reduceAdd, Nat.reduceMul, Nat.reduceSub, Nat.zero_add, Nat.add_zero, Nat.mul_zero, true_implies, false_implies, implies_true, not_true, not_false, and_true, true_and, not_true_eq_false, not_false_eq_true, forall_const, s3]
  · simp (disch := omega) only [lin, nI_add, pk_mul, s_sub, s_addneg, s_leT, s_leF, s_ltT, s_ltF, s_eqF, s_inT, s_neF, s_neF', s_neE, s_nleT, s_nleF, s_nltF, s_nltT, eq_self, nI_clamp, s_wIk, s_wIo, pk_us, pk_un, Nat.reduceAdd, Nat.reduceMul, Nat.reduceSub, Nat.zero_add, Nat.add_zero, Nat.mul_zero, true_implies, false_implies, implies_true, not_true, not_false, and_true, true_and, not_true_eq_false, not_false_eq_true, forall_const]
    exact stk_push s4
theorem turn_ok {mm : MM} {t : Nat} (ht : isT t) {cv : Nat → Int32} {T : List Int32} {x : Int32} {b : Bool} (m : MM) (hm : Kq mm m) (hs : Sk t cv (x :: T) b m) :
    Runs e_X1_turnRound [.ref (t + 8)] m (fun r m' => r = .null ∧ Kq mm m' ∧ Sk t cv ((1 - x) :: T) b m') := by
  obtain ⟨s1, s2, s3, ⟨s4, s6⟩, s5⟩ := hs
  have hl : (x :: T).length = T.length + 1 := rfl
  rw [hl] at s2 s5
  have x1 : m.1 (t + 8 + 5) (T.length + 1 - 1) = x := s4
  apply b_X1_turnRound _ _ _ ht.at.laws
  simp (disch := omega) only [lin, nI_add, pk_mul, s_sub, s_addneg, s_leT, s_leF, s_ltT, s_ltF, s_eqF, s_inT, s_neF, s_neF', s_neE, s_nleT, s_nleF, s_nltF, s_nltT, eq_self, nI_clamp, s_wIk, s_wIo, pk_us, pk_un, Nat.reduceAdd, Nat.reduceMul, Nat.reduceSub, Nat.zero_add, Nat.add_zero, Nat.mul_zero, true_implies, false_implies, implies_true, not_true, not_false, and_true, true_and, not_true_eq_false, not_false_eq_true, forall_const, s2, x1]
  refine ⟨hm.w _ (kq_stk ht _), fun i hi => ?_, ?_, ?_, ?_, s5⟩
  · simp (disch := omega) only [lin, nI_add, pk_mul, s_sub, s_addneg, s_leT, s_leF, s_ltT, s_ltF, s_eqF, s_inT, s_neF, s_neF', s_neE, s_nleT, s_nleF, s_nltF, s_nltT, eq_self, nI_clamp, s_wIk, s_wIo, pk_us, pk_un, Nat.reduceAdd, Nat.reduceMul, Nat.reduceSub, Nat.zero_add, Nat.add_zero, Nat.mul_zero, true_implies, false_implies, implies_true, not_true, not_false, and_true, true_and, not_true_eq_false, not_false_eq_true, forall_const, s1 i hi]
  · simp (disch := omega) only [lin, nI_add, pk_mul, s_sub, s_addneg, s_leT, s_leF, s_ltT, s_ltF, s_eqF, s_inT, s_neF, s_neF', s_neE, s_nleT, s_nleF, s_nltF, s_nltT, eq_self, nI_clamp, s_wIk, s_wIo, pk_us, pk_un, Nat.reduceAdd, Nat.reduceMul, Nat.reduceSub, Nat.zero_add, Nat.add_zero, Nat.mul_zero, true_implies, false_implies, implies_true, not_true, not_false, and_true, true_and, not_true_eq_false, not_false_eq_true, forall_const, s2]
    rfl
  · simp (disch := omega) only [lin, nI_add, pk_mul, s_sub, s_addneg, s_leT, s_leF, s_ltT, s_ltF, s_eqF, s_inT, s_neF, s_neF', s_neE, s_nleT, s_nleF, s_nltF, s_nltT, eq_self, nI_clamp, s_wIk, s_wIo, pk_us, pk_un, Nat.reduceAdd, Nat.reduceMul, Nat.reduceSub, Nat.zero_add, Nat.add_zero, Nat.mul_zero, true_implies, false_implies, implies_true, not_true, not_false, and_true, true_and, not_true_eq_false, not_false_eq_true, forall_const, s3]
  · simp (disch := omega) only [lin, nI_add, pk_mul, s_sub, s_addneg, s_leT, s_leF, s_ltT, s_ltF, s_eqF, s_inT, s_neF, s_neF', s_neE, s_nleT, s_nleF, s_nltF, s_nltT, eq_self, nI_clamp, s_wIk, s_wIo, pk_us, pk_un, Nat.reduceAdd, Nat.reduceMul, Nat.reduceSub, Nat.zero_add, Nat.add_zero, Nat.mul_zero, true_implies, false_implies, implies_true, not_true, not_false, and_true, true_and, not_true_eq_false, not_false_eq_true, forall_const]
    exact stk_push s6
theorem holds_iff (m : MM) (q x y : Int32) : p_X1_holds m q x y ↔ holdsV q x y = true := by
  unfold p_X1_holds holdsV
  by_cases h1 : q = 34
  · simp [h1]
  · by_cases h2 : q = 35
    · simp [h1, h2]
    · by_cases h3 : q = 36
      · simp [h1, h2, h3, Int32.not_le]
      · simp [h1, h2, h3, Int32.not_lt]
theorem reckon_ok {mm : MM} {t q : Nat} (ht : isT t) (hq : 30 ≤ q ∧ q ≤ 33) {x y : Int32} (m : MM) (hm : Kq mm m) :
    Runs e_X1_reckon [.ref (t + 8), .int (nI q), .int x, .int y] m (fun r m' => r = .int (if q = 33 ∧ y = 0 then 0 else arC (nI q) x y) ∧ m' = if q = 33 ∧ y = 0 then wI m (t + 8) 7 1 else m) := by
  apply b_X1_reckon _ _ _ _ _ _ ht.at.laws
  have hq' : q = 30 ∨ q = 31 ∨ q = 32 ∨ q = 33 := by omega
  unfold arC
  rcases hq' with rfl | rfl | rfl | rfl
  · simp (disch := omega) only [lin, nI_add, pk_mul, s_sub, s_addneg, s_leT, s_leF, s_ltT, s_ltF, s_eqF, s_inT, s_neF, s_neF', s_neE, s_nleT, s_nleF, s_nltF, s_nltT, eq_self, nI_clamp, s_wIk, s_wIo, pk_us, pk_un, Nat.reduceAdd, Nat.reduceMul, Nat.reduceSub, Nat.zero_add, Nat.add_zero, Nat.mul_zero, true_implies, false_implies, implies_true, not_true, not_false, and_true, true_and, not_true_eq_false, not_false_eq_true, forall_const]
    simp
  · simp (disch := omega) only [lin, nI_add, pk_mul, s_sub, s_addneg, s_leT, s_leF, s_ltT, s_ltF, s_eqF, s_inT, s_neF, s_neF', s_neE, s_nleT, s_nleF, s_nltF, s_nltT, eq_self, nI_clamp, s_wIk, s_wIo, pk_us, pk_un, Nat.reduceAdd, Nat.reduceMul, Nat.reduceSub, Nat.zero_add, Nat.add_zero, Nat.mul_zero, true_implies, false_implies, implies_true, not_true, not_false, and_true, true_and, not_true_eq_false, not_false_eq_true, forall_const]
    simp
  · simp (disch := omega) only [lin, nI_add, pk_mul, s_sub, s_addneg, s_leT, s_leF, s_ltT, s_ltF, s_eqF, s_inT, s_neF, s_neF', s_neE, s_nleT, s_nleF, s_nltF, s_nltT, eq_self, nI_clamp, s_wIk, s_wIo, pk_us, pk_un, Nat.reduceAdd, Nat.reduceMul, Nat.reduceSub, Nat.zero_add, Nat.add_zero, Nat.mul_zero, true_implies, false_implies, implies_true, not_true, not_false, and_true, true_and, not_true_eq_false, not_false_eq_true, forall_const]
    simp
  · by_cases hy : y = 0
    · subst hy
      simp (disch := omega) only [lin, nI_add, pk_mul, s_sub, s_addneg, s_leT, s_leF, s_ltT, s_ltF, s_eqF, s_inT, s_neF, s_neF', s_neE, s_nleT, s_nleF, s_nltF, s_nltT, eq_self, nI_clamp, s_wIk, s_wIo, pk_us, pk_un, Nat.reduceAdd, Nat.reduceMul, Nat.reduceSub, Nat.zero_add, Nat.add_zero, Nat.mul_zero, true_implies, false_implies, implies_true, not_true, not_false, and_true, true_and, not_true_eq_false, not_false_eq_true, forall_const, if_true, if_false, and_self]
    · have hy' : ¬ y = nI 0 := hy
      simp (disch := omega) only [lin, nI_add, pk_mul, s_sub, s_addneg, s_leT, s_leF, s_ltT, s_ltF, s_eqF, s_inT, s_neF, s_neF', s_neE, s_nleT, s_nleF, s_nltF, s_nltT, eq_self, nI_clamp, s_wIk, s_wIo, pk_us, pk_un, Nat.reduceAdd, Nat.reduceMul, Nat.reduceSub, Nat.zero_add, Nat.add_zero, Nat.mul_zero, true_implies, false_implies, implies_true, not_true, not_false, and_true, true_and, not_true_eq_false, not_false_eq_true, forall_const, hy', if_true, if_false, and_false]
theorem join_ok {mm : MM} {t q : Nat} (ht : isT t) (hq : q < 40) {cv : Nat → Int32} {T : List Int32} {x y : Int32} {b : Bool} (m : MM) (hm : Kq mm m) (hs : Sk t cv (y :: x :: T) b m) :
    Runs e_X1_join [.ref (t + 8), .int (nI q)] m (fun r m' => r = .null ∧ Kq mm m' ∧ (if 34 ≤ q ∧ q ≤ 37 then Sk t cv (bI (!b && holdsV (nI q) x y) :: T) false m'
      else if 30 ≤ q ∧ q ≤ 33 then (if q = 33 ∧ y = 0 then Sk t cv (0 :: T) true m' else Sk t cv (arC (nI q) x y :: T) b m')
      else Sk t cv ((if q = 24 then x &&& y else x ||| y) :: T) b m')) := by
  obtain ⟨s1, s2, s3, ⟨s4, s6, s7⟩, s5⟩ := hs
  have hl : (y :: x :: T).length = T.length + 2 := rfl
  have hl1 : (x :: T).length = T.length + 1 := rfl
  rw [hl] at s2 s5
  have y1 : m.1 (t + 8 + 5) (T.length + 2 - 1) = y := s4
  have x1 : m.1 (t + 8 + 5) (T.length + 2 - 2) = x := s6
  have K6 : ∀ v, Kq mm (wI m (t + 8) 6 v) := fun v => hm.w _ (kq_l6 ht)
  by_cases c1 : 34 ≤ q ∧ q ≤ 37
  · simp only [if_pos c1]
    apply b_X1_join _ _ _ _ ht.at.laws
    have pc : ∀ m, p_X11_compares m (nI q) := fun m => by unfold p_X11_compares; simp (disch := omega) only [lin, nI_add, pk_mul, s_sub, s_addneg, s_leT, s_leF, s_ltT, s_ltF, s_eqF, s_inT, s_neF, s_neF', s_neE, s_nleT, s_nleF, s_nltF, s_nltT, eq_self, nI_clamp, s_wIk, s_wIo, pk_us, pk_un, Nat.reduceAdd, Nat.reduceMul, Nat.reduceSub, Nat.zero_add, Nat.add_zero, Nat.mul_zero, true_implies, false_implies, implies_true, not_true, not_false, and_true, true_and, not_true_eq_false, not_false_eq_true, forall_const]
    have fin : ∀ w : Int32, Kq mm (wI (wI (wI m (t + 8) 6 (nI (T.length + 2 - 1))) (t + 8 + 5) (T.length + 2 - 1 - 1) w) (t + 8) 7 (nI 0)) ∧ Sk t cv (w :: T) false (wI (wI (wI m (t + 8) 6 (nI (T.length + 2 - 1))) (t + 8 + 5) (T.length + 2 - 1 - 1) w) (t + 8) 7 (nI 0)) := by
      intro w
      refine ⟨((K6 _).w _ (kq_stk ht _)).w _ (kq_l7 ht), fun i hi => ?_, ?_, ?_, ?_, by show T.length + 1 ≤ 32; omega⟩
      · simp (disch := omega) only [lin, nI_add, pk_mul, s_sub, s_addneg, s_leT, s_leF, s_ltT, s_ltF, s_eqF, s_inT, s_neF, s_neF', s_neE, s_nleT, s_nleF, s_nltF, s_nltT, eq_self, nI_clamp, s_wIk, s_wIo, pk_us, pk_un, Nat.reduceAdd, Nat.reduceMul, Nat.reduceSub, Nat.zero_add, Nat.add_zero, Nat.mul_zero, true_implies, false_implies, implies_true, not_true, not_false, and_true, true_and, not_true_eq_false, not_false_eq_true, forall_const, s1 i hi]
      · simp (disch := omega) only [lin, nI_add, pk_mul, s_sub, s_addneg, s_leT, s_leF, s_ltT, s_ltF, s_eqF, s_inT, s_neF, s_neF', s_neE, s_nleT, s_nleF, s_nltF, s_nltT, eq_self, nI_clamp, s_wIk, s_wIo, pk_us, pk_un, Nat.reduceAdd, Nat.reduceMul, Nat.reduceSub, Nat.zero_add, Nat.add_zero, Nat.mul_zero, true_implies, false_implies, implies_true, not_true, not_false, and_true, true_and, not_true_eq_false, not_false_eq_true, forall_const]
        rfl
      · simp (disch := omega) only [lin, nI_add, pk_mul, s_sub, s_addneg, s_leT, s_leF, s_ltT, s_ltF, s_eqF, s_inT, s_neF, s_neF', s_neE, s_nleT, s_nleF, s_nltF, s_nltT, eq_self, nI_clamp, s_wIk, s_wIo, pk_us, pk_un, Nat.reduceAdd, Nat.reduceMul, Nat.reduceSub, Nat.zero_add, Nat.add_zero, Nat.mul_zero, true_implies, false_implies, implies_true, not_true, not_false, and_true, true_and, not_true_eq_false, not_false_eq_true, forall_const]
        rfl
      · simp (disch := omega) only [lin, nI_add, pk_mul, s_sub, s_addneg, s_leT, s_leF, s_ltT, s_ltF, s_eqF, s_inT, s_neF, s_neF', s_neE, s_nleT, s_nleF, s_nltF, s_nltT, eq_self, nI_clamp, s_wIk, s_wIo, pk_us, pk_un, Nat.reduceAdd, Nat.reduceMul, Nat.reduceSub, Nat.zero_add, Nat.add_zero, Nat.mul_zero, true_implies, false_implies, implies_true, not_true, not_false, and_true, true_and, not_true_eq_false, not_false_eq_true, forall_const]
        exact stk_push s7
    cases b with
    | true =>
      have s3' : m.1 (t + 8) 7 = nI 1 := s3
      simp (disch := omega) only [lin, nI_add, pk_mul, s_sub, s_addneg, s_leT, s_leF, s_ltT, s_ltF, s_eqF, s_inT, s_neF, s_neF', s_neE, s_nleT, s_nleF, s_nltF, s_nltT, eq_self, nI_clamp, s_wIk, s_wIo, pk_us, pk_un, Nat.reduceAdd, Nat.reduceMul, Nat.reduceSub, Nat.zero_add, Nat.add_zero, Nat.mul_zero, true_implies, false_implies, implies_true, not_true, not_false, and_true, true_and, not_true_eq_false, not_false_eq_true, forall_const, s2, s3', x1, y1, pc]
      exact fin _
    | false =>
      have s3' : m.1 (t + 8) 7 = nI 0 := s3
      by_cases hh : holdsV (nI q) x y = true
      · have ph : ∀ m, p_X1_holds m (nI q) x y := fun m => (holds_iff m _ _ _).mpr hh
        simp (disch := omega) only [lin, nI_add, pk_mul, s_sub, s_addneg, s_leT, s_leF, s_ltT, s_ltF, s_eqF, s_inT, s_neF, s_neF', s_neE, s_nleT, s_nleF, s_nltF, s_nltT, eq_self, nI_clamp, s_wIk, s_wIo, pk_us, pk_un, Nat.reduceAdd, Nat.reduceMul, Nat.reduceSub, Nat.zero_add, Nat.add_zero, Nat.mul_zero, true_implies, false_implies, implies_true, not_true, not_false, and_true, true_and, not_true_eq_false, not_false_eq_true, forall_const, s2, s3', x1, y1, pc, ph]
        rw [hh]
        exact fin _
      · have ph : ∀ m, ¬ p_X1_holds m (nI q) x y := fun m z => hh ((holds_iff m _ _ _).mp z)
        simp (disch := omega) only [lin, nI_add, pk_mul, s_sub, s_addneg, s_leT, s_leF, s_ltT, s_ltF, s_eqF, s_inT, s_neF, s_neF', s_neE, s_nleT, s_nleF, s_nltF, s_nltT, eq_self, nI_clamp, s_wIk, s_wIo, pk_us, pk_un, Nat.reduceAdd, Nat.reduceMul, Nat.reduceSub, Nat.zero_add, Nat.add_zero, Nat.mul_zero, true_implies, false_implies, implies_true, not_true, not_false, and_true, true_and, not_true_eq_false, not_false_eq_true, forall_const, s2, s3', x1, y1, pc, ph]
        rw [Bool.eq_false_iff.mpr hh]
        exact fin _
  · simp only [if_neg c1]
    apply b_X1_join _ _ _ _ ht.at.laws
    have pc : ∀ m, ¬ p_X11_compares m (nI q) := fun m => by
      unfold p_X11_compares
      rintro ⟨z1, z2⟩
      have z1 : ¬ nI q < nI 34 := z1
      have z2 : ¬ nI 37 < nI q := z2
      rw [nI_ltI (by omega) (by omega)] at z1 z2
      omega
    have fin : ∀ (w : Int32) (m1 : MM), Kq mm m1 → (∀ i, i < 9 → m1.1 (t + 8 + 4) i = cv i) → m1.1 (t + 8) 6 = nI (T.length + 2 - 1) → (∀ b', m1.1 (t + 8) 7 = bI b' → stk (m1.1 (t + 8 + 5)) T → Kq mm (wI m1 (t + 8 + 5) (T.length + 2 - 1 - 1) w) ∧ Sk t cv (w :: T) b' (wI m1 (t + 8 + 5) (T.length + 2 - 1 - 1) w)) := by
      intro w m1 k1 k2 k3 b' k4 k5
      refine ⟨k1.w _ (kq_stk ht _), fun i hi => ?_, ?_, ?_, ?_, by show T.length + 1 ≤ 32; omega⟩
      · simp (disch := omega) only [lin, nI_add, pk_mul, s_sub, s_addneg, s_leT, s_leF, s_ltT, s_ltF, s_eqF, s_inT, s_neF, s_neF', s_neE, s_nleT, s_nleF, s_nltF, s_nltT, eq_self, nI_clamp, s_wIk, s_wIo, pk_us, pk_un, Nat.reduceAdd, Nat.reduceMul, Nat.reduceSub, Nat.zero_add, Nat.add_zero, Nat.mul_zero, true_implies, false_implies, implies_true, not_true, not_false, and_true, true_and, not_true_eq_false, not_false_eq_true, forall_const, k2 i hi]
      · simp (disch := omega) only [lin, nI_add, pk_mul, s_sub, s_addneg, s_leT, s_leF, s_ltT, s_ltF, s_eqF, s_inT, s_neF, s_neF', s_neE, s_nleT, s_nleF, s_nltF, s_nltT, eq_self, nI_clamp, s_wIk, s_wIo, pk_us, pk_un, Nat.reduceAdd, Nat.reduceMul, Nat.reduceSub, Nat.zero_add, Nat.add_zero, Nat.mul_zero, true_implies, false_implies, implies_true, not_true, not_false, and_true, true_and, not_true_eq_false, not_false_eq_true, forall_const, k3]
        rfl
      · simp (disch := omega) only [lin, nI_add, pk_mul, s_sub, s_addneg, s_leT, s_leF, s_ltT, s_ltF, s_eqF, s_inT, s_neF, s_neF', s_neE, s_nleT, s_nleF, s_nltF, s_nltT, eq_self, nI_clamp, s_wIk, s_wIo, pk_us, pk_un, Nat.reduceAdd, Nat.reduceMul, Nat.reduceSub, Nat.zero_add, Nat.add_zero, Nat.mul_zero, true_implies, false_implies, implies_true, not_true, not_false, and_true, true_and, not_true_eq_false, not_false_eq_true, forall_const, k4]
      · simp (disch := omega) only [lin, nI_add, pk_mul, s_sub, s_addneg, s_leT, s_leF, s_ltT, s_ltF, s_eqF, s_inT, s_neF, s_neF', s_neE, s_nleT, s_nleF, s_nltF, s_nltT, eq_self, nI_clamp, s_wIk, s_wIo, pk_us, pk_un, Nat.reduceAdd, Nat.reduceMul, Nat.reduceSub, Nat.zero_add, Nat.add_zero, Nat.mul_zero, true_implies, false_implies, implies_true, not_true, not_false, and_true, true_and, not_true_eq_false, not_false_eq_true, forall_const]
        exact stk_push k5
    have v6 : ∀ i, i < 9 → (wI m (t + 8) 6 (nI (T.length + 2 - 1))).1 (t + 8 + 4) i = cv i := fun i hi => by simp (disch := omega) only [lin, nI_add, pk_mul, s_sub, s_addneg, s_leT, s_leF, s_ltT, s_ltF, s_eqF, s_inT, s_neF, s_neF', s_neE, s_nleT, s_nleF, s_nltF, s_nltT, eq_self, nI_clamp, s_wIk, s_wIo, pk_us, pk_un, Nat.reduceAdd, Nat.reduceMul, Nat.reduceSub, Nat.zero_add, Nat.add_zero, Nat.mul_zero, true_implies, false_implies, implies_true, not_true, not_false, and_true, true_and, not_true_eq_false, not_false_eq_true, forall_const, s1 i hi]
    have t6 : (wI m (t + 8) 6 (nI (T.length + 2 - 1))).1 (t + 8) 6 = nI (T.length + 2 - 1) := by simp (disch := omega) only [lin, nI_add, pk_mul, s_sub, s_addneg, s_leT, s_leF, s_ltT, s_ltF, s_eqF, s_inT, s_neF, s_neF', s_neE, s_nleT, s_nleF, s_nltF, s_nltT, eq_self, nI_clamp, s_wIk, s_wIo, pk_us, pk_un, Nat.reduceAdd, Nat.reduceMul, Nat.reduceSub, Nat.zero_add, Nat.add_zero, Nat.mul_zero, true_implies, false_implies, implies_true, not_true, not_false, and_true, true_and, not_true_eq_false, not_false_eq_true, forall_const]
    have b6 : (wI m (t + 8) 6 (nI (T.length + 2 - 1))).1 (t + 8) 7 = bI b := by simp (disch := omega) only [lin, nI_add, pk_mul, s_sub, s_addneg, s_leT, s_leF, s_ltT, s_ltF, s_eqF, s_inT, s_neF, s_neF', s_neE, s_nleT, s_nleF, s_nltF, s_nltT, eq_self, nI_clamp, s_wIk, s_wIo, pk_us, pk_un, Nat.reduceAdd, Nat.reduceMul, Nat.reduceSub, Nat.zero_add, Nat.add_zero, Nat.mul_zero, true_implies, false_implies, implies_true, not_true, not_false, and_true, true_and, not_true_eq_false, not_false_eq_true, forall_const, s3]
    have k6 : stk ((wI m (t + 8) 6 (nI (T.length + 2 - 1))).1 (t + 8 + 5)) T := by
      simp (disch := omega) only [lin, nI_add, pk_mul, s_sub, s_addneg, s_leT, s_leF, s_ltT, s_ltF, s_eqF, s_inT, s_neF, s_neF', s_neE, s_nleT, s_nleF, s_nltF, s_nltT, eq_self, nI_clamp, s_wIk, s_wIo, pk_us, pk_un, Nat.reduceAdd, Nat.reduceMul, Nat.reduceSub, Nat.zero_add, Nat.add_zero, Nat.mul_zero, true_implies, false_implies, implies_true, not_true, not_false, and_true, true_and, not_true_eq_false, not_false_eq_true, forall_const]
      exact s7
    by_cases c2 : 30 ≤ q ∧ q ≤ 33
    · simp only [if_pos c2]
      have pr : ∀ m, p_X11_reckons m (nI q) := fun m => by unfold p_X11_reckons; simp (disch := omega) only [lin, nI_add, pk_mul, s_sub, s_addneg, s_leT, s_leF, s_ltT, s_ltF, s_eqF, s_inT, s_neF, s_neF', s_neE, s_nleT, s_nleF, s_nltF, s_nltT, eq_self, nI_clamp, s_wIk, s_wIo, pk_us, pk_un, Nat.reduceAdd, Nat.reduceMul, Nat.reduceSub, Nat.zero_add, Nat.add_zero, Nat.mul_zero, true_implies, false_implies, implies_true, not_true, not_false, and_true, true_and, not_true_eq_false, not_false_eq_true, forall_const]
      simp (disch := omega) only [lin, nI_add, pk_mul, s_sub, s_addneg, s_leT, s_leF, s_ltT, s_ltF, s_eqF, s_inT, s_neF, s_neF', s_neE, s_nleT, s_nleF, s_nltF, s_nltT, eq_self, nI_clamp, s_wIk, s_wIo, pk_us, pk_un, Nat.reduceAdd, Nat.reduceMul, Nat.reduceSub, Nat.zero_add, Nat.add_zero, Nat.mul_zero, true_implies, false_implies, implies_true, not_true, not_false, and_true, true_and, not_true_eq_false, not_false_eq_true, forall_const, s2, x1, y1, pc, pr]
      refine icall (reckon_ok ht c2 _ (K6 _)) ?_
      rintro m1 rfl
      by_cases c3 : q = 33 ∧ y = 0
      · have c3' : q = 33 ∧ y = nI 0 := c3
        simp only [if_pos c3, if_pos c3']
        exact fin _ _ ((K6 (nI (T.length + 2 - 1))).w _ (kq_l7 ht)) (fun i hi => by rw [wI_o (by omega)]; exact v6 i hi) (by rw [wI_k, pk_un (by decide)]; exact t6) true (by rw [wI_k, pk_us]; rfl) (by rw [wI_o (by omega)]; exact k6)
      · have c3' : ¬ (q = 33 ∧ y = nI 0) := c3
        simp only [if_neg c3, if_neg c3']
        exact fin _ _ (K6 _) v6 t6 b b6 k6
    · simp only [if_neg c2]
      have pr : ∀ m, ¬ p_X11_reckons m (nI q) := fun m => by
        unfold p_X11_reckons
        rintro ⟨z1, z2⟩
        have z1 : ¬ nI q < nI 30 := z1
        have z2 : ¬ nI 33 < nI q := z2
        rw [nI_ltI (by omega) (by omega)] at z1 z2
        omega
      by_cases c4 : q = 24
      · subst c4
        simp (disch := omega) only [lin, nI_add, pk_mul, s_sub, s_addneg, s_leT, s_leF, s_ltT, s_ltF, s_eqF, s_inT, s_neF, s_neF', s_neE, s_nleT, s_nleF, s_nltF, s_nltT, eq_self, nI_clamp, s_wIk, s_wIo, pk_us, pk_un, Nat.reduceAdd, Nat.reduceMul, Nat.reduceSub, Nat.zero_add, Nat.add_zero, Nat.mul_zero, true_implies, false_implies, implies_true, not_true, not_false, and_true, true_and, not_true_eq_false, not_false_eq_true, forall_const, s2, x1, y1, pc, pr]
        simp only [if_true]
        exact fin _ _ (K6 _) v6 t6 b b6 k6
      · simp (disch := omega) only [lin, nI_add, pk_mul, s_sub, s_addneg, s_leT, s_leF, s_ltT, s_ltF, s_eqF, s_inT, s_neF, s_neF', s_neE, s_nleT, s_nleF, s_nltF, s_nltT, eq_self, nI_clamp, s_wIk, s_wIo, pk_us, pk_un, Nat.reduceAdd, Nat.reduceMul, Nat.reduceSub, Nat.zero_add, Nat.add_zero, Nat.mul_zero, true_implies, false_implies, implies_true, not_true, not_false, and_true, true_and, not_true_eq_false, not_false_eq_true, forall_const, s2, x1, y1, pc, pr]
        simp only [if_neg c4]
        exact fin _ _ (K6 _) v6 t6 b b6 k6
theorem cs_num {cd cv : Nat → Int32} {k v : Nat} {S : List Int32} {b : Bool} (hv : v < 2 ^ 30) (e : cd k = nI v) : cs cd cv k S b = if S.length < 32 then some (nI v :: S, b) else none := by
  unfold cs
  rw [e, if_pos (nI_pos' (by omega))]
theorem cs_sign {cd cv : Nat → Int32} {k q : Nat} {S : List Int32} {b : Bool} (hq : q < 40) (e : cd k = -1 - nI q) : cs cd cv k S b = csq cv q S b := by
  unfold cs
  have e2 : (-1 : Int32) - (-1 - nI q) = nI q := tg_sign (by omega)
  rw [e, if_neg, e2, nI_clamp (by omega)]
  rw [Int32.le_iff_toInt_le, tg_toInt (by omega)]
  show ¬ (0 : Int) ≤ _
  omega
theorem value_ok {mm : MM} {t : Nat} (ht : isT t) {cv : Nat → Int32} {st n sz : Nat} {v : Int32} {b : Bool} (hc : cr (mm.1 (t + 8 + 1)) cv st n = some ([v], b)) (hcod : Coded (mm.1 (t + 8 + 1)) st n) (hend : mm.1 (t + 8 + 1) (st + n) = -1 - nI 28) (hsz : mm.1 (t + 8) 5 = nI sz) (h1 : st + n < sz) (h4 : sz ≤ 400)
    (m : MM) (hm : Kq mm m) (hv : ∀ i, i < 9 → m.1 (t + 8 + 4) i = cv i) : Runs e_X1_value [.ref (t + 8), .int (nI st)] m (fun r m' => r = .int (bif b then 0 else v) ∧ Kq mm m' ∧ ∀ i, i < 9 → m'.1 (t + 8 + 4) i = cv i) := by
  apply b_X1_value _ _ _ _ ht.at.laws
  refine for_up (fun k => [(0, .ref (t + 8)), (2, .int (nI (st + k)))]) (fun k m => Kq mm m ∧ ∃ S b, cr (mm.1 (t + 8 + 1)) cv st k = some (S, b) ∧ Sk t cv S b m) n ?_ ?_ 0 _ (Nat.zero_le _) ⟨(hm.w _ (kq_l6 ht)).w _ (kq_l7 ht), [], false, rfl, fun i hi => ?_, ?_, ?_, trivial, Nat.zero_le _⟩
  · rintro m ⟨k1, S, b', k2, s1, s2, s3, s4, s5⟩
    rw [hc] at k2
    obtain ⟨rfl, rfl⟩ := Prod.mk.inj (Option.some.inj k2)
    have e2 : (-nI 1) - mm.1 (t + 8 + 1) (st + n) = nI 28 := by rw [hend]; exact tg_sign (by omega)
    have s2' : m.1 (t + 8) 6 = nI 1 := s2
    have s40 : m.1 (t + 8 + 5) 0 = v := s4.1
    apply b_X1_value_12 _ _ _ _ ht.at.laws
    cases b with
    | true =>
      have s3' : m.1 (t + 8) 7 = nI 1 := s3
      simp (disch := omega) only [lin, nI_add, pk_mul, s_sub, s_addneg, s_leT, s_leF, s_ltT, s_ltF, s_eqF, s_inT, s_neF, s_neF', s_neE, s_nleT, s_nleF, s_nltF, s_nltT, eq_self, nI_clamp, s_wIk, s_wIo, pk_us, pk_un, Nat.reduceAdd, Nat.reduceMul, Nat.reduceSub, Nat.zero_add, Nat.add_zero, Nat.mul_zero, true_implies, false_implies, implies_true, not_true, not_false, and_true, true_and, not_true_eq_false, not_false_eq_true, forall_const, k1.l ht 5 rfl, hsz, k1.t9 ht, e2, s2', s3']
      exact ⟨rfl, k1, s1⟩
    | false =>
      have s3' : m.1 (t + 8) 7 = nI 0 := s3
      simp (disch := omega) only [lin, nI_add, pk_mul, s_sub, s_addneg, s_leT, s_leF, s_ltT, s_ltF, s_eqF, s_inT, s_neF, s_neF', s_neE, s_nleT, s_nleF, s_nltF, s_nltT, eq_self, nI_clamp, s_wIk, s_wIo, pk_us, pk_un, Nat.reduceAdd, Nat.reduceMul, Nat.reduceSub, Nat.zero_add, Nat.add_zero, Nat.mul_zero, true_implies, false_implies, implies_true, not_true, not_false, and_true, true_and, not_true_eq_false, not_false_eq_true, forall_const, k1.l ht 5 rfl, hsz, k1.t9 ht, e2, s2', s3', s40]
      exact ⟨rfl, k1, s1⟩
  · rintro k m hk ⟨k1, S, b', k2, hs⟩ hn
    obtain ⟨r', hr'⟩ := cr_pre hc (show k + 1 ≤ n from hk)
    have hst : cs (mm.1 (t + 8 + 1)) cv (st + k) S b' = some r' := by
      have := hr'
      unfold cr at this
      rw [k2] at this
      exact this
    apply b_X1_value_12 _ _ _ _ ht.at.laws
    rcases hcod k hk with ⟨x, hx, ex⟩ | ⟨q, hq, hq2, eq⟩
    · rw [cs_num hx ex] at hst
      by_cases hl : S.length < 32
      · rw [if_pos hl] at hst
        have hst := Option.some.inj hst
        subst hst
        have e2 : (-nI 1) - nI x = -nI (x + 1) := tg_num hx
        simp (disch := omega) only [lin, nI_add, pk_mul, s_sub, s_addneg, s_leT, s_leF, s_ltT, s_ltF, s_eqF, s_inT, s_neF, s_neF', s_neE, s_nleT, s_nleF, s_nltF, s_nltT, eq_self, nI_clamp, s_wIk, s_wIo, pk_us, pk_un, Nat.reduceAdd, Nat.reduceMul, Nat.reduceSub, Nat.zero_add, Nat.add_zero, Nat.mul_zero, true_implies, false_implies, implies_true, not_true, not_false, and_true, true_and, not_true_eq_false, not_false_eq_true, forall_const, k1.l ht 5 rfl, hsz, k1.t9 ht, ex, e2]
        refine vcall (push_ok ht hl m k1 hs) ?_
        rintro m1 ⟨q1, q2⟩
        exact hn m1 ⟨q1, _, _, hr', q2⟩
      · rw [if_neg hl] at hst
        cases hst
    · rw [cs_sign (by omega) eq] at hst
      have e2 : (-nI 1) - mm.1 (t + 8 + 1) (st + k) = nI q := by rw [eq]; exact tg_sign (by omega)
      by_cases c1 : 12 ≤ q ∧ q ≤ 20
      · have pv : ∀ m, p_X11_isVar m (nI q) := fun m => by unfold p_X11_isVar; simp (disch := omega) only [lin, nI_add, pk_mul, s_sub, s_addneg, s_leT, s_leF, s_ltT, s_ltF, s_eqF, s_inT, s_neF, s_neF', s_neE, s_nleT, s_nleF, s_nltF, s_nltT, eq_self, nI_clamp, s_wIk, s_wIo, pk_us, pk_un, Nat.reduceAdd, Nat.reduceMul, Nat.reduceSub, Nat.zero_add, Nat.add_zero, Nat.mul_zero, true_implies, false_implies, implies_true, not_true, not_false, and_true, true_and, not_true_eq_false, not_false_eq_true, forall_const]
        unfold csq at hst
        rw [if_pos c1] at hst
        by_cases hl : S.length < 32
        · rw [if_pos hl] at hst
          have hst := Option.some.inj hst
          subst hst
          have ev := hs.1 (q - 12) (by omega)
          simp (disch := omega) only [lin, nI_add, pk_mul, s_sub, s_addneg, s_leT, s_leF, s_ltT, s_ltF, s_eqF, s_inT, s_neF, s_neF', s_neE, s_nleT, s_nleF, s_nltF, s_nltT, eq_self, nI_clamp, s_wIk, s_wIo, pk_us, pk_un, Nat.reduceAdd, Nat.reduceMul, Nat.reduceSub, Nat.zero_add, Nat.add_zero, Nat.mul_zero, true_implies, false_implies, implies_true, not_true, not_false, and_true, true_and, not_true_eq_false, not_false_eq_true, forall_const, k1.l ht 5 rfl, hsz, k1.t9 ht, e2, pv, ev]
          refine vcall (push_ok ht hl m k1 hs) ?_
          rintro m1 ⟨q1, q2⟩
          exact hn m1 ⟨q1, _, _, hr', q2⟩
        · rw [if_neg hl] at hst
          cases hst
      · have pv : ∀ m, ¬ p_X11_isVar m (nI q) := fun m => by
          unfold p_X11_isVar
          rintro ⟨z1, z2⟩
          have z1 : ¬ nI q < nI 12 := z1
          have z2 : ¬ nI 20 < nI q := z2
          rw [nI_ltI (by omega) (by omega)] at z1 z2
          omega
        by_cases c2 : q = 25
        · subst c2
          match S, hst, hs with
          | x :: T, hst, hs =>
            have hst : some ((1 - x) :: T, b') = some r' := hst
            have hst := Option.some.inj hst
            subst hst
            simp (disch := omega) only [lin, nI_add, pk_mul, s_sub, s_addneg, s_leT, s_leF, s_ltT, s_ltF, s_eqF, s_inT, s_neF, s_neF', s_neE, s_nleT, s_nleF, s_nltF, s_nltT, eq_self, nI_clamp, s_wIk, s_wIo, pk_us, pk_un, Nat.reduceAdd, Nat.reduceMul, Nat.reduceSub, Nat.zero_add, Nat.add_zero, Nat.mul_zero, true_implies, false_implies, implies_true, not_true, not_false, and_true, true_and, not_true_eq_false, not_false_eq_true, forall_const, k1.l ht 5 rfl, hsz, k1.t9 ht, e2, pv]
            refine vcall (turn_ok ht m k1 hs) ?_
            rintro m1 ⟨q1, q2⟩
            exact hn m1 ⟨q1, _, _, hr', q2⟩
        · unfold csq at hst
          rw [if_neg c1, if_neg c2] at hst
          match S, hst, hs with
          | y :: x :: T, hst, hs =>
            simp (disch := omega) only [lin, nI_add, pk_mul, s_sub, s_addneg, s_leT, s_leF, s_ltT, s_ltF, s_eqF, s_inT, s_neF, s_neF', s_neE, s_nleT, s_nleF, s_nltF, s_nltT, eq_self, nI_clamp, s_wIk, s_wIo, pk_us, pk_un, Nat.reduceAdd, Nat.reduceMul, Nat.reduceSub, Nat.zero_add, Nat.add_zero, Nat.mul_zero, true_implies, false_implies, implies_true, not_true, not_false, and_true, true_and, not_true_eq_false, not_false_eq_true, forall_const, k1.l ht 5 rfl, hsz, k1.t9 ht, e2, pv]
            refine vcall (join_ok ht (by omega) m k1 hs) ?_
            rintro m1 ⟨q1, q2⟩
            simp only at hst
            by_cases d1 : 34 ≤ q ∧ q ≤ 37
            · rw [if_pos d1] at hst q2
              have hst := Option.some.inj hst
              subst hst
              exact hn m1 ⟨q1, _, _, hr', q2⟩
            · rw [if_neg d1] at hst q2
              by_cases d2 : 30 ≤ q ∧ q ≤ 33
              · rw [if_pos d2] at hst q2
                by_cases d3 : q = 33 ∧ y = 0
                · rw [if_pos d3] at hst q2
                  have hst := Option.some.inj hst
                  subst hst
                  exact hn m1 ⟨q1, _, _, hr', q2⟩
                · rw [if_neg d3] at hst q2
                  have hst := Option.some.inj hst
                  subst hst
                  exact hn m1 ⟨q1, _, _, hr', q2⟩
              · rw [if_neg d2] at hst q2
                have hst := Option.some.inj hst
                subst hst
                exact hn m1 ⟨q1, _, _, hr', q2⟩
  · simp (disch := omega) only [lin, nI_add, pk_mul, s_sub, s_addneg, s_leT, s_leF, s_ltT, s_ltF, s_eqF, s_inT, s_neF, s_neF', s_neE, s_nleT, s_nleF, s_nltF, s_nltT, eq_self, nI_clamp, s_wIk, s_wIo, pk_us, pk_un, Nat.reduceAdd, Nat.reduceMul, Nat.reduceSub, Nat.zero_add, Nat.add_zero, Nat.mul_zero, true_implies, false_implies, implies_true, not_true, not_false, and_true, true_and, not_true_eq_false, not_false_eq_true, forall_const, hv i hi]
  · simp (disch := omega) only [lin, nI_add, pk_mul, s_sub, s_addneg, s_leT, s_leF, s_ltT, s_ltF, s_eqF, s_inT, s_neF, s_neF', s_neE, s_nleT, s_nleF, s_nltF, s_nltT, eq_self, nI_clamp, s_wIk, s_wIo, pk_us, pk_un, Nat.reduceAdd, Nat.reduceMul, Nat.reduceSub, Nat.zero_add, Nat.add_zero, Nat.mul_zero, true_implies, false_implies, implies_true, not_true, not_false, and_true, true_and, not_true_eq_false, not_false_eq_true, forall_const]
    rfl
  · simp (disch := omega) only [lin, nI_add, pk_mul, s_sub, s_addneg, s_leT, s_leF, s_ltT, s_ltF, s_eqF, s_inT, s_neF, s_neF', s_neE, s_nleT, s_nleF, s_nltF, s_nltT, eq_self, nI_clamp, s_wIk, s_wIo, pk_us, pk_un, Nat.reduceAdd, Nat.reduceMul, Nat.reduceSub, Nat.zero_add, Nat.add_zero, Nat.mul_zero, true_implies, false_implies, implies_true, not_true, not_false, and_true, true_and, not_true_eq_false, not_false_eq_true, forall_const]
    rfl
theorem value_none {mm : MM} {t : Nat} (ht : isT t) {cv : Nat → Int32} (m : MM) (hm : Kq mm m) (hv : ∀ i, i < 9 → m.1 (t + 8 + 4) i = cv i) : Runs e_X1_value [.ref (t + 8), .int (-nI 1)] m (fun r m' => r = .int 0 ∧ Kq mm m' ∧ ∀ i, i < 9 → m'.1 (t + 8 + 4) i = cv i) := by
  apply b_X1_value _ _ _ _ ht.at.laws
  apply b_X1_value_12 _ _ _ _ ht.at.laws
  simp (disch := omega) only [lin, nI_add, pk_mul, s_sub, s_addneg, s_leT, s_leF, s_ltT, s_ltF, s_eqF, s_inT, s_neF, s_neF', s_neE, s_nleT, s_nleF, s_nltF, s_nltT, eq_self, nI_clamp, s_wIk, s_wIo, pk_us, pk_un, Nat.reduceAdd, Nat.reduceMul, Nat.reduceSub, Nat.zero_add, Nat.add_zero, Nat.mul_zero, true_implies, false_implies, implies_true, not_true, not_false, and_true, true_and, not_true_eq_false, not_false_eq_true, forall_const]
  exact ⟨(hm.w _ (kq_l6 ht)).w _ (kq_l7 ht), fun i hi => by simp (disch := omega) only [lin, nI_add, pk_mul, s_sub, s_addneg, s_leT, s_leF, s_ltT, s_ltF, s_eqF, s_inT, s_neF, s_neF', s_neE, s_nleT, s_nleF, s_nltF, s_nltT, eq_self, nI_clamp, s_wIk, s_wIo, pk_us, pk_un, Nat.reduceAdd, Nat.reduceMul, Nat.reduceSub, Nat.zero_add, Nat.add_zero, Nat.mul_zero, true_implies, false_implies, implies_true, not_true, not_false, and_true, true_and, not_true_eq_false, not_false_eq_true, forall_const, hv i hi]⟩

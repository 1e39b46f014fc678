/-! sets of houses as numbers -/
theorem ib : ∀ h, h < 32 → (1 : Int32) <<< (nI h &&& 31) = nI (2 ^ h) := by decide +kernel
theorem ib' (h : Nat) (hh : h < 32) : nI 1 <<< (nI h &&& nI 31) = nI (2 ^ h) := ib h hh
theorem ib2 (h : Nat) (hh : h < 32) : nI 1 <<< nI (h &&& 31) = nI (2 ^ h) := by
  rw [← fa_and]
  exact ib h hh
theorem m1_nI : (-1 : Int32) = nI 4294967295 := by decide
theorem m1_nI' : -nI 1 = nI 4294967295 := by decide
theorem tb_all (i : Nat) : (4294967295).testBit i = decide (i < 32) := Nat.testBit_two_pow_sub_one (n := 32) (i := i)
theorem tb_not {a i : Nat} (hi : i < 32) : (a ^^^ 4294967295).testBit i = !a.testBit i := by
  rw [Nat.testBit_xor, tb_all]
  simp [hi]
theorem tb_pow (a i : Nat) : (2 ^ a).testBit i = decide (a = i) := Nat.testBit_two_pow
theorem tb_lt {a n i : Nat} (h : a < 2 ^ n) (hi : n ≤ i) : a.testBit i = false := Nat.testBit_lt_two_pow (Nat.lt_of_lt_of_le h (Nat.pow_le_pow_right (by decide) hi))
theorem tb_and_pow (R a : Nat) : R &&& 2 ^ a = 0 ↔ R.testBit a = false := fb_bit_nat R a
/-- the set of those below n for which p holds -/
def bs (p : Nat → Bool) : Nat → Nat
  | 0 => 0
  | n + 1 => bif p n then bs p n ||| 2 ^ n else bs p n
theorem bs_bit (p : Nat → Bool) : ∀ n i, (bs p n).testBit i = (decide (i < n) && p i)
  | 0, i => by simp [bs]
  | n + 1, i => by
    unfold bs
    have ih := bs_bit p n i
    cases hp : p n with
    | true =>
      simp only [cond_true, Nat.testBit_or, ih, tb_pow]
      by_cases e : n = i
      · subst e; simp [hp]
      · by_cases h : i < n
        · simp [h, e, show i < n + 1 by omega]
        · simp [h, e, show ¬ i < n + 1 by omega]
    | false =>
      simp only [cond_false, ih]
      by_cases e : n = i
      · subst e; simp [hp]
      · by_cases h : i < n
        · simp [h, show i < n + 1 by omega]
        · simp [h, show ¬ i < n + 1 by omega]
theorem bs_lt (p : Nat → Bool) : ∀ n, bs p n < 2 ^ n
  | 0 => by simp [bs]
  | n + 1 => by
    have ih := bs_lt p n
    have h2 : 2 ^ n < 2 ^ (n + 1) := Nat.pow_lt_pow_right (by decide) (Nat.lt_succ_self n)
    unfold bs
    cases p n with
    | true => exact Nat.or_lt_two_pow (Nat.lt_trans ih h2) h2
    | false => exact Nat.lt_trans ih h2
theorem bs_cong {p q : Nat → Bool} : ∀ {n : Nat}, (∀ k, k < n → p k = q k) → bs p n = bs q n
  | 0, _ => rfl
  | n + 1, h => by
    unfold bs
    rw [bs_cong (n := n) (fun k hk => h k (by omega)), h n (by omega)]
theorem bs_succ (p : Nat → Bool) (n : Nat) : bs p (n + 1) = bif p n then bs p n ||| 2 ^ n else bs p n := rfl
def sub (X R : Nat) : Prop := ∀ i, X.testBit i = true → R.testBit i = true
theorem sub.rf (X : Nat) : sub X X := fun _ h => h
theorem sub.tr {X Y Z : Nat} (h : sub X Y) (h2 : sub Y Z) : sub X Z := fun i hi => h2 i (h i hi)
theorem sub.eq {X Y : Nat} (h : sub X Y) (h2 : sub Y X) : X = Y := by
  apply Nat.eq_of_testBit_eq
  intro i
  have a := h i
  have b := h2 i
  cases hx : X.testBit i <;> cases hy : Y.testBit i <;> simp_all
theorem sub.or_r {X Y Z : Nat} (h : sub X Z) (h2 : sub Y Z) : sub (X ||| Y) Z := fun i hi => by
  rw [Nat.testBit_or, Bool.or_eq_true] at hi
  rcases hi with hi | hi
  · exact h i hi
  · exact h2 i hi
theorem sub.or_l (X Y : Nat) : sub X (X ||| Y) := fun i hi => by rw [Nat.testBit_or, hi, Bool.true_or]
theorem sub.and_r (X Y : Nat) : sub (X &&& Y) Y := fun i hi => by
  rw [Nat.testBit_and, Bool.and_eq_true] at hi
  exact hi.2
theorem sub.pow {a D R : Nat} (h : D.testBit a = true → R.testBit a = true) : sub (2 ^ a &&& D) R := fun i hi => by
  rw [Nat.testBit_and, Bool.and_eq_true, tb_pow] at hi
  obtain ⟨h1, h2⟩ := hi
  have e : a = i := of_decide_eq_true h1
  subst e
  exact h h2
theorem sub_lt {X D n : Nat} (h : sub X D) (hD : D < 2 ^ n) : X < 2 ^ n := by
  apply Nat.lt_pow_two_of_testBit
  intro i hi
  cases hx : X.testBit i with
  | false => rfl
  | true =>
    have := h i hx
    rw [tb_lt hD hi] at this
    cases this
theorem sub_ct {X Y n : Nat} (h : sub X Y) (hY : Y < 2 ^ n) (hne : X ≠ Y) : fb_ct X.testBit n < fb_ct Y.testBit n := by
  have h1 : fb_ct X.testBit n ≤ fb_ct Y.testBit n := fb_ct_sub (fun k _ => h k)
  rcases Nat.lt_or_ge (fb_ct X.testBit n) (fb_ct Y.testBit n) with h2 | h2
  · exact h2
  · exfalso
    apply hne
    have aux : ∀ n, fb_ct Y.testBit n ≤ fb_ct X.testBit n → ∀ k, k < n → Y.testBit k = X.testBit k := by
      intro n
      induction n with
      | zero => intro _ k hk; exact absurd hk (Nat.not_lt_zero _)
      | succ n ih =>
        intro hle k hk
        have h3 : fb_ct X.testBit n ≤ fb_ct Y.testBit n := fb_ct_sub (fun k _ => h k)
        rw [fb_ct_succ, fb_ct_succ] at hle
        have h4 := h n
        by_cases ex : X.testBit n = true
        · rw [ex, h4 ex] at hle
          simp only [if_true] at hle
          by_cases e : k = n
          · subst e; rw [ex, h4 ex]
          · exact ih (by omega) k (by omega)
        · by_cases ey : Y.testBit n = true
          · simp only [ey, ex, if_true] at hle
            simp at hle
            omega
          · by_cases e : k = n
            · subst e; simp_all
            · simp only [ey, ex] at hle
              simp at hle
              exact ih (by omega) k (by omega)
    apply Nat.eq_of_testBit_eq
    intro i
    by_cases hi : i < n
    · exact (aux n h2 i hi).symm
    · rw [tb_lt hY (by omega), tb_lt (sub_lt h hY) (by omega)]
/-! passes -/
/-- a step that makes what is reached grow by no more than what must be -/
def StepG (D : Nat) (C : Nat → Prop) (f : Nat → Nat) : Prop := (∀ R, sub R D → sub R (f R) ∧ sub (f R) D) ∧ (∀ R R', sub R D → C R' → sub R R' → sub (f R) R') ∧ (∀ R, sub R D → f R = R → C R)
def pass (act : Nat → Bool) (f : Nat → Nat → Nat) : Nat → Nat → Nat
  | 0, R => R
  | k + 1, R => bif act k then f k (pass act f k R) else pass act f k R
theorem pass_ok {D : Nat} {act : Nat → Bool} {f : Nat → Nat → Nat} {C : Nat → Nat → Prop} {S : Nat} (hf : ∀ s, s < S → act s = true → StepG D (C s) (f s)) {R : Nat} (hR : sub R D) :
    ∀ k, k ≤ S → sub R (pass act f k R) ∧ sub (pass act f k R) D ∧ (∀ R', (∀ s, s < S → act s = true → C s R') → sub R R' → sub (pass act f k R) R') ∧ (pass act f k R = R → ∀ s, s < k → act s = true → C s R)
  | 0, _ => ⟨sub.rf R, hR, fun _ _ h => h, fun _ s hs => absurd hs (Nat.not_lt_zero _)⟩
  | k + 1, hk => by
    obtain ⟨i1, i2, i3, i4⟩ := pass_ok hf hR k (by omega)
    unfold pass
    cases ha : act k with
    | false =>
      refine ⟨i1, i2, i3, fun e s hs hact => ?_⟩
      by_cases c : s = k
      · subst c; rw [ha] at hact; cases hact
      · exact i4 e s (by omega) hact
    | true =>
      obtain ⟨g1, g2, g3⟩ := hf k (by omega) ha
      obtain ⟨g4, g5⟩ := g1 _ i2
      refine ⟨i1.tr g4, g5, fun R' hC hs => g2 _ _ i2 (hC k (by omega) ha) (i3 R' hC hs), fun e s hs hact => ?_⟩
      have e : f k (pass act f k R) = R := e
      have e2 : pass act f k R = R := by
        rw [e] at g4
        exact sub.eq g4 i1
      by_cases c : s = k
      · subst c
        rw [e2] at e
        exact g3 R hR e
      · exact i4 e2 s (by omega) hact
/-- the least set that holds A and is closed -/
def Least (A S : Nat) (act : Nat → Bool) (C : Nat → Nat → Prop) (R : Nat) : Prop := (sub A R ∧ ∀ s, s < S → act s = true → C s R) ∧ ∀ R', sub A R' → (∀ s, s < S → act s = true → C s R') → sub R R'
theorem Least.one {A S : Nat} {act : Nat → Bool} {C : Nat → Nat → Prop} {R R' : Nat} (h : Least A S act C R) (h' : Least A S act C R') : R = R' :=
  sub.eq (h.2 R' h'.1.1 h'.1.2) (h'.2 R h.1.1 h.1.2)
/-- what an unfinished search holds -/
def Open (A D S : Nat) (act : Nat → Bool) (C : Nat → Nat → Prop) (R : Nat) : Prop := sub A R ∧ sub R D ∧ ∀ R', sub A R' → (∀ s, s < S → act s = true → C s R') → sub R R'
theorem Open.go {A D S : Nat} {act : Nat → Bool} {C : Nat → Nat → Prop} {f : Nat → Nat → Nat} (hf : ∀ s, s < S → act s = true → StepG D (C s) (f s)) {R : Nat} (h : Open A D S act C R) : Open A D S act C (pass act f S R) := by
  obtain ⟨i1, i2, i3, i4⟩ := pass_ok hf h.2.1 S (Nat.le_refl _)
  exact ⟨h.1.tr i1, i2, fun R' a b => i3 R' b (h.2.2 R' a b)⟩
theorem Open.done {A D S : Nat} {act : Nat → Bool} {C : Nat → Nat → Prop} {f : Nat → Nat → Nat} (hf : ∀ s, s < S → act s = true → StepG D (C s) (f s)) {R : Nat} (h : Open A D S act C R) (e : pass act f S R = R) : Least A S act C R := by
  obtain ⟨i1, i2, i3, i4⟩ := pass_ok hf h.2.1 S (Nat.le_refl _)
  exact ⟨⟨h.1, i4 e⟩, h.2.2⟩
theorem Open.more {A D S n : Nat} (hD : D < 2 ^ n) {act : Nat → Bool} {C : Nat → Nat → Prop} {f : Nat → Nat → Nat} (hf : ∀ s, s < S → act s = true → StepG D (C s) (f s)) {R : Nat} (h : Open A D S act C R) (e : pass act f S R ≠ R) : fb_ct R.testBit n < fb_ct (pass act f S R).testBit n := by
  obtain ⟨i1, i2, i3, i4⟩ := pass_ok hf h.2.1 S (Nat.le_refl _)
  exact sub_ct i1 (sub_lt i2 hD) (Ne.symm e)

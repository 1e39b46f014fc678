/-! done, the class's half: what the last verdict was reached on becomes so -/
def coX (m : MM) (s k nx p : Nat) : MM := wI (wR (wR (wI (wI (wR (wR m (45 + nx) (va_cpy (m.1 (s + 1)) (m.1 (45 + nx)) 0 0 16)) (66 + nx) (va_cpy (m.1 (s + 3)) (m.1 (66 + nx)) 0 0 8)) 41 5 (nI p)) 41 4 (nI (min 20 (k + 1)))) (s + 1) (va_cpy (m.1 42) (m.1 (s + 1)) 0 0 16)) (s + 3) (va_cpy (m.1 43) (m.1 (s + 3)) 0 0 8)) s 7 (nI 0)
theorem carryOut_ok {m : MM} {s k nx p : Nat} (hs : isN s) (hk : k ≤ 20) (hx : nx < 20) (e4 : m.1 41 4 = nI k) (e5 : m.1 41 5 = nI nx) (hp : p = if nx + 1 < 20 then nx + 1 else 0) : Runs e_X9_carryOut [.ref 41, .ref s] m (fun r m' => r = .null ∧ m' = coX m s k nx p) := by
  have hs' : s = 24 ∨ s = 114 := hs
  have a1 := shl45 nx hx
  have a2 := shl66 nx hx
  rw [Nat.one_mul] at a1 a2
  refine b_X9_carryOut _ _ _ hs.s.at ?_
  by_cases h : nx + 1 < 20
  · rw [if_pos h] at hp
    subst hp
    simp (disch := omega) only [lin, nI_add, pk_mul, s_sub, s_addneg, s_leT, s_leF, s_ltT, s_ltF, s_eqF, s_inT, s_neF, s_neF', s_neE, s_nleT, s_nleF, s_nltF, s_nltT, eq_self, nI_clamp, s_wIk, s_wIo, pk_us, pk_un, Nat.reduceAdd, Nat.reduceMul, Nat.reduceSub, Nat.zero_add, Nat.add_zero, Nat.mul_zero, true_implies, false_implies, implies_true, not_true, not_false, and_true, true_and, not_true_eq_false, not_false_eq_true, forall_const, e4, e5, imin_nI, s_wRo, s_wRk, Nat.one_mul]
    exact ⟨a1, a2, rfl⟩
  · rw [if_neg h] at hp
    subst hp
    simp (disch := omega) only [lin, nI_add, pk_mul, s_sub, s_addneg, s_leT, s_leF, s_ltT, s_ltF, s_eqF, s_inT, s_neF, s_neF', s_neE, s_nleT, s_nleF, s_nltF, s_nltT, eq_self, nI_clamp, s_wIk, s_wIo, pk_us, pk_un, Nat.reduceAdd, Nat.reduceMul, Nat.reduceSub, Nat.zero_add, Nat.add_zero, Nat.mul_zero, true_implies, false_implies, implies_true, not_true, not_false, and_true, true_and, not_true_eq_false, not_false_eq_true, forall_const, e4, e5, imin_nI, s_wRo, s_wRk, Nat.one_mul]
    exact ⟨a1, a2, rfl⟩

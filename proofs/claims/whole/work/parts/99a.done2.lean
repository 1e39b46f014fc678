/-! done, the model's keeping of the lot -/
theorem done80_ok {m : MM} {kp : Nat} {Q : Value → MM → Prop} (hk : kp < 20) (e : m.1 156 40 = nI kp)
    (hQ : ∀ m' : MM, m'.2 = m.2 → (∀ x, x ≠ 183 → x ≠ 156 → x ≠ 163 → m'.1 x = m.1 x) → (∀ j, m'.1 156 j = upd (m.1 156) 40 (nI (kp + 1)) j) → (∀ j, m'.1 163 j = upd (m.1 163) 1 0 j) → (∀ j, (j < 24 * kp ∨ 24 * kp + 24 ≤ j) → m'.1 183 j = m.1 183 j) → (∀ y, y < 24 → m'.1 183 (24 * kp + y) = m.1 183 (480 + y)) → Q (.int (m.1 156 41)) m') :
    G e_X12_done 80 [(0, .ref 156), (1, .int (nI 0))] [] m Q := by
  refine for_up (Y := e_X12_done) (pc := 80) (fun k => [(0, .ref 156), (1, .int (nI k))]) (fun k m' => m'.2 = m.2 ∧ (∀ x, x ≠ 183 → m'.1 x = m.1 x) ∧ (∀ j, (j < 24 * kp ∨ 24 * kp + 24 ≤ j) → m'.1 183 j = m.1 183 j) ∧ ∀ y, y < k → m'.1 183 (24 * kp + y) = m.1 183 (480 + y)) 24 ?_ ?_ 0 m (by omega) ⟨rfl, fun _ _ => rfl, fun _ _ => rfl, fun y hy => absurd hy (by omega)⟩
  · rintro m' ⟨q1, q2, q3, q4⟩
    apply b_X12_done_80
    refine ⟨fun _ => ?_, fun z => absurd (by rfl) z⟩
    have e41 : (wI (wI m' 156 40 (m'.1 156 40 + 1)) 163 1 0).1 156 41 = m.1 156 41 := by
      rw [wI_o (by decide), wI_k, pk_un (by decide), q2 156 (by decide)]
    rw [e41]
    refine hQ _ q1 (fun x h1 h2 h3 => by rw [wI_o h3, wI_o h2]; exact q2 x h1) (fun j => ?_) (fun j => ?_) (fun j hj => by rw [wI_o (by decide), wI_o (by decide)]; exact q3 j hj) fun y hy => by rw [wI_o (by decide), wI_o (by decide)]; exact q4 y hy
    · rw [wI_o (by decide), wI_k, q2 156 (by decide), e, nI_1]
    · rw [wI_k, wI_o (by decide), q2 163 (by decide)]
  · rintro k m' hk' ⟨q1, q2, q3, q4⟩ hg
    have e' : m'.1 156 40 = nI kp := by rw [q2 156 (by decide)]; exact e
    apply b_X12_done_80
    simp (disch := omega) only [lin, nI_add, pk_mul, s_sub, s_addneg, s_leT, s_leF, s_ltT, s_ltF, s_eqF, s_inT, s_neF, s_neF', s_neE, s_nleT, s_nleF, s_nltF, s_nltT, eq_self, nI_clamp, s_wIk, s_wIo, pk_us, pk_un, Nat.reduceAdd, Nat.reduceMul, Nat.reduceSub, Nat.zero_add, Nat.add_zero, Nat.mul_zero, true_implies, false_implies, implies_true, not_true, not_false, and_true, true_and, not_true_eq_false, not_false_eq_true, forall_const, e']
    refine hg _ ⟨q1, fun x hx => by rw [wI_o hx]; exact q2 x hx, fun j hj => by rw [wI_k, pk_un (by omega)]; exact q3 j hj, fun y hy => ?_⟩
    rw [wI_k]
    by_cases c : y = k
    · subst c
      rw [pk_us, q3 _ (by omega)]
    · rw [pk_un (by omega)]; exact q4 y (by omega)
theorem done44_ok {m : MM} {Q : Value → MM → Prop}
    (hQ : ∀ m' : MM, m'.2 = m.2 → (∀ x, x ≠ 183 → x ≠ 156 → x ≠ 163 → m'.1 x = m.1 x) → (∀ j, m'.1 156 j = upd (m.1 156) 40 (nI 20) j) → (∀ j, m'.1 163 j = upd (m.1 163) 1 0 j) → (∀ j, j < 456 → m'.1 183 j = m.1 183 (j + 24)) → (∀ y, y < 24 → m'.1 183 (456 + y) = m.1 183 (480 + y)) → Q (.int (m.1 156 41)) m') :
    G e_X12_done 44 [(0, .ref 156), (1, .int (nI 0))] [] m Q := by
  refine for_up (Y := e_X12_done) (pc := 44) (fun k => [(0, .ref 156), (1, .int (nI k))]) (fun k m' => m'.2 = m.2 ∧ (∀ x, x ≠ 183 → m'.1 x = m.1 x) ∧ (∀ j, k ≤ j → m'.1 183 j = m.1 183 j) ∧ ∀ j, j < k → m'.1 183 j = m.1 183 (j + 24)) 456 ?_ ?_ 0 m (by omega) ⟨rfl, fun _ _ => rfl, fun _ _ => rfl, fun y hy => absurd hy (by omega)⟩
  · rintro m' ⟨q1, q2, q3, q4⟩
    apply b_X12_done_44
    refine ⟨fun _ => ?_, fun z => absurd (by rfl) z⟩
    refine done80_ok (kp := 19) (by omega) (by rw [wI_k, pk_us]; rfl) ?_
    intro m2 g1 g2 g3 g4 g5 g6
    have e41 : (wI m' 156 40 19).1 156 41 = m.1 156 41 := by rw [wI_k, pk_un (by decide), q2 156 (by decide)]
    rw [e41]
    refine hQ m2 (g1.trans q1) (fun x h1 h2 h3 => by rw [g2 x h1 h2 h3, wI_o h2]; exact q2 x h1) (fun j => ?_) (fun j => by rw [g4, wI_o (by decide), q2 163 (by decide)]) (fun j hj => by rw [g5 j (by omega), wI_o (by decide)]; exact q4 j hj) fun y hy => ?_
    · rw [g3, wI_k, q2 156 (by decide)]
      by_cases c : j = 40
      · subst c; rw [pk_us, pk_us]
      · rw [pk_un c, pk_un c, pk_un c]
    · have := g6 y hy
      rw [show 24 * 19 + y = 456 + y by omega, wI_o (by decide), q3 _ (by omega)] at this
      exact this
  · rintro k m' hk' ⟨q1, q2, q3, q4⟩ hg
    apply b_X12_done_44
    simp (disch := omega) only [lin, nI_add, pk_mul, s_sub, s_addneg, s_leT, s_leF, s_ltT, s_ltF, s_eqF, s_inT, s_neF, s_neF', s_neE, s_nleT, s_nleF, s_nltF, s_nltT, eq_self, nI_clamp, s_wIk, s_wIo, pk_us, pk_un, Nat.reduceAdd, Nat.reduceMul, Nat.reduceSub, Nat.zero_add, Nat.add_zero, Nat.mul_zero, true_implies, false_implies, implies_true, not_true, not_false, and_true, true_and, not_true_eq_false, not_false_eq_true, forall_const]
    refine hg _ ⟨q1, fun x hx => by rw [wI_o hx]; exact q2 x hx, fun j hj => by rw [wI_k, pk_un (by omega)]; exact q3 j (by omega), fun j hj => ?_⟩
    rw [wI_k]
    by_cases c : j = k
    · subst c
      rw [pk_us, q3 _ (by omega)]
    · rw [pk_un c]; exact q4 j (by omega)

/-! the knapsack, both sides -/
def usw (W : Nat) (ln pc : Nat → Nat) (i v : Nat) : Nat := mo (fw 1000 W ln pc (W - (i + 1))) (fw 1000 W ln pc (W - i) v) (ln i) v (pc i + 1)
def lf (W : Nat) (ln pc : Nat → Nat) (n : Nat) : Nat → Nat
  | 0 => n
  | i + 1 => lf W ln pc n i - usw W ln pc i (lf W ln pc n i) * ln i
theorem lf_le {W : Nat} {ln pc : Nat → Nat} {n : Nat} : ∀ i, lf W ln pc n i ≤ n
  | 0 => Nat.le_refl _
  | i + 1 => Nat.le_trans (Nat.sub_le _ _) (lf_le i)
def Fr (mm m : MM) : Prop := m.2 = mm.2 ∧ ∀ x, x ≠ 38 → x ≠ 39 → x ≠ 40 → m.1 x = mm.1 x
theorem Fr.w {mm m : MM} (h : Fr mm m) {k : Nat} (hk : k = 38 ∨ k = 39 ∨ k = 40) (j : Nat) (v : Int32) : Fr mm (wI m k j v) := ⟨h.1, fun x h1 h2 h3 => by rw [wI_o (by omega)]; exact h.2 x h1 h2 h3⟩
theorem Fr.kq {mm m : MM} (h : Fr mm m) : Kq mm m := by
  refine ⟨fun a b e => ?_, by rw [h.1]⟩
  by_cases c1 : a = 38
  · subst c1; cases e
  · by_cases c2 : a = 39
    · subst c2; cases e
    · by_cases c3 : a = 40
      · subst c3; cases e
      · rw [h.2 a c1 c2 c3]
theorem choose_ok {mm : MM} {t wc W n : Nat} {ln pc : Nat → Nat} (ht : isT t) (h2 : SHL[wc]? = some (.inl (0, 8, 0, 0))) (hwc : wc < 38 ∨ 40 < wc) (h8 : W ≤ 8) (hn : n ≤ 99) (e13 : mm.1 t 13 = nI W) (hw : ∀ w, w < W → (1 ≤ ln w ∧ ln w ≤ 60 ∧ mm.1 (t + 7) w = nI (ln w)) ∧ pc w ≤ 99 ∧ mm.1 wc w = nI (pc w)) :
    Runs e_X10_choose [.ref 38, .ref t, .ref wc, .int (nI n)] mm (fun r m' => r = .int (bI (decide (fw 1000 W ln pc W n < 1000))) ∧ Fr mm m' ∧ (fw 1000 W ln pc W n < 1000 → m'.1 38 2 = nI (fw 1000 W ln pc W n) ∧ ∀ w, w < W → m'.1 40 w = nI (usw W ln pc w (lf W ln pc n w)))) := by
  have ht' : t = 10 ∨ t = 100 := ht
  refine b_X10_choose _ _ _ _ _ ht.at h2 ⟨fun _ => ?_, fun z => absurd ((w99_X mm _).mpr ⟨n, by omega, rfl⟩) z⟩
  refine for_up (Y := e_X10_choose) (pc := 15) (fun k => [(0, .ref 38), (1, .ref t), (2, .ref wc), (3, .int (nI n)), (4, .int (nI k))]) (fun k m' => Fr mm m' ∧ ∀ u, u < k → m'.1 39 (W * 100 + u) = nI (fw 1000 W ln pc 0 u)) (n + 1) ?_ ?_ 0 mm (by omega) ⟨⟨rfl, fun _ _ _ _ => rfl⟩, fun u hu => absurd hu (by omega)⟩
  · rintro m ⟨hF, hr0⟩
    refine b_X10_choose_15 _ _ _ _ _ _ ht.at h2 ⟨fun _ => ?_, fun z => absurd (nI_lt (by omega) (by omega)) z⟩
    rw [hF.2 t (by omega) (by omega) (by omega), e13]
    refine for_up (Y := e_X10_choose) (pc := 62) (fun d => [(0, .ref 38), (1, .ref t), (2, .ref wc), (3, .int (nI n)), (4, .int (nI (W - d) - 1))]) (fun d m' => Fr mm m' ∧ ∀ e, e ≤ d → ∀ u, u ≤ n → m'.1 39 ((W - e) * 100 + u) = nI (fw 1000 W ln pc e u)) W ?_ ?_ 0 m (by omega) ⟨hF, fun e he u hu => ?_⟩
    · rintro m ⟨hF, hrow⟩
      have eA : m.1 39 n = nI (fw 1000 W ln pc W n) := by
        have := hrow W (Nat.le_refl _) n (Nat.le_refl _)
        rwa [Nat.sub_self, Nat.zero_mul, Nat.zero_add] at this
      have hA := fw_le (N := 1000) (W := W) (ln := ln) (pc := pc) W n
      rw [Nat.sub_self]
      refine b_X10_choose_62 _ _ _ _ _ _ ht.at h2 ⟨fun _ => ⟨vp_in_nI (by omega) (by omega), ?_⟩, fun z => absurd (by decide) z⟩
      rw [nI_clamp (by omega), eA, wI_k, pk_us]
      by_cases c : fw 1000 W ln pc W n < 1000
      · rw [decide_eq_true c]
        refine ⟨fun _ => ?_, fun z => absurd (show nI _ < nI 1000 from nI_lt c (by omega)) z⟩
        refine for_up (Y := e_X10_choose) (pc := 148) (fun i => [(0, .ref 38), (1, .ref t), (2, .ref wc), (4, .int (nI (lf W ln pc n i))), (5, .int (nI i))]) (fun i m' => Fr mm m' ∧ m'.1 38 2 = nI (fw 1000 W ln pc W n) ∧ (∀ e, e ≤ W → ∀ u, u ≤ n → m'.1 39 ((W - e) * 100 + u) = nI (fw 1000 W ln pc e u)) ∧ ∀ w, w < i → m'.1 40 w = nI (usw W ln pc w (lf W ln pc n w))) W ?_ ?_ 0 _ (by omega) ⟨hF.w (Or.inl rfl) _ _, by rw [wI_k, pk_us], fun e he u hu => by rw [wI_o (by decide)]; exact hrow e he u hu, fun w hw => absurd hw (by omega)⟩
        · rintro m' ⟨q1, q2, q3, q4⟩
          refine b_X10_choose_148 _ _ _ _ _ _ ht.at h2 ?_
          rw [q1.2 t (by omega) (by omega) (by omega), e13]
          exact ⟨fun _ => ⟨rfl, q1, fun _ => ⟨q2, q4⟩⟩, fun z => absurd (nI_le (Nat.le_refl _) (by omega)) z⟩
        · rintro i m' hi ⟨q1, q2, q3, q4⟩ hg
          obtain ⟨⟨l1, l2, l3⟩, p1, p2⟩ := hw i hi
          have hlf := lf_le (W := W) (ln := ln) (pc := pc) (n := n) i
          refine b_X10_choose_148 _ _ _ _ _ _ ht.at h2 ?_
          rw [q1.2 t (by omega) (by omega) (by omega), e13, q1.2 (t + 7) (by omega) (by omega) (by omega), q1.2 wc (by omega) (by omega) (by omega), nI_clamp (by omega), l3, p2]
          refine ⟨fun z => absurd z (nI_ge hi (by omega)), fun _ => ⟨vp_in_nI (by omega) (by omega), vp_in_nI (by omega) (by omega), ?_⟩⟩
          have row1 := q3 (W - i) (by omega) (lf W ln pc n i) hlf
          rw [show W - (W - i) = i by omega] at row1
          refine icall (mostC_ok (m := m') (i := i) (v := lf W ln pc n i) (f := fw 1000 W ln pc (W - (i + 1))) (by omega) (by omega) l2 p1 (fw_le (N := 1000) _ _) row1 fun u hu => ?_) ?_
          · have := q3 (W - (i + 1)) (by omega) u (by omega)
            rw [show W - (W - (i + 1)) = i + 1 by omega] at this
            exact ⟨this, fw_le _ _⟩
          · rintro m1 rfl
            have hus := (mo_le (f := fw 1000 W ln pc (W - (i + 1))) (t := fw 1000 W ln pc (W - i) (lf W ln pc n i)) (sz := ln i) (v := lf W ln pc n i) (pc i + 1)).1
            refine ⟨vp_in_nI (by omega) (by omega), vp_in_nI (by omega) (by omega), vp_in_nI (by omega) (by omega), ?_⟩
            rw [wI_k, pk_us, wI_o (show t + 7 ≠ 40 by omega), q1.2 (t + 7) (by omega) (by omega) (by omega), l3, pk_mul, s_sub hus, nI_1]
            refine hg _ ⟨q1.w (Or.inr (Or.inr rfl)) _ _, by rw [wI_o (by decide)]; exact q2, fun e he u hu => by rw [wI_o (by decide)]; exact q3 e he u hu, fun w hw' => ?_⟩
            rw [wI_k]
            by_cases cc : w = i
            · subst cc; rw [pk_us]; rfl
            · rw [pk_un cc]; exact q4 w (by omega)
      · rw [decide_eq_false c]
        exact ⟨fun z => absurd (show nI _ < nI 1000 from z) (nI_nlt (by omega) (by omega)), fun _ => ⟨rfl, hF.w (Or.inl rfl) _ _, fun z => absurd z c⟩⟩
    · rintro d m hd ⟨hF, hrow⟩ hg
      obtain ⟨i, hi⟩ : ∃ i, W - d = i + 1 := ⟨W - d - 1, by omega⟩
      obtain ⟨⟨l1, l2, l3⟩, p1, p2⟩ := hw i (by omega)
      have hi2 : W - (d + 1) = i := by omega
      rw [hi, nI_pred]
      refine b_X10_choose_62 _ _ _ _ _ _ ht.at h2 ⟨fun z => absurd z (nI_pos (by omega)), fun _ => ?_⟩
      refine for_up (Y := e_X10_choose) (pc := 70) (fun u => [(0, .ref 38), (1, .ref t), (2, .ref wc), (3, .int (nI n)), (4, .int (nI i)), (5, .int (nI u))]) (fun k m' => Fr mm m' ∧ (∀ e, e ≤ d → ∀ u, u ≤ n → m'.1 39 ((W - e) * 100 + u) = nI (fw 1000 W ln pc e u)) ∧ ∀ u, u < k → m'.1 39 (i * 100 + u) = nI (fw 1000 W ln pc (d + 1) u)) (n + 1) ?_ ?_ 0 m (by omega) ⟨hF, hrow, fun u hu => absurd hu (by omega)⟩
      · rintro m' ⟨q1, q2, q3⟩
        refine b_X10_choose_70 _ _ _ _ _ _ _ ht.at h2 ⟨fun _ => ?_, fun z => absurd (nI_lt (by omega) (by omega)) z⟩
        rw [show nI i + (-1) = nI (W - (d + 1)) - 1 by rw [hi2, Int32.sub_eq_add_neg]]
        refine hg _ ⟨q1, fun e he u hu => ?_⟩
        by_cases c : e = d + 1
        · subst c; rw [hi2]; exact q3 u (by omega)
        · exact q2 e (by omega) u hu
      · rintro u m' hu ⟨q1, q2, q3⟩ hg'
        refine b_X10_choose_70 _ _ _ _ _ _ _ ht.at h2 ?_
        rw [q1.2 (t + 7) (by omega) (by omega) (by omega), q1.2 wc (by omega) (by omega) (by omega), nI_clamp (by omega), l3, p2]
        refine ⟨fun z => absurd z (nI_nlt (by omega) (by omega)), fun _ => ⟨vp_in_nI (by omega) (by omega), vp_in_nI (by omega) (by omega), ?_⟩⟩
        refine icall (fewestC_ok (m := m') (i := i) (v := u) (f := fw 1000 W ln pc d) (by omega) (by omega) l2 p1 fun x hx => ?_) ?_
        · have := q2 d (Nat.le_refl _) x (by omega)
          rw [hi] at this
          exact ⟨this, fw_le _ _⟩
        · rintro m1 rfl
          simp (disch := omega) only [lin, nI_add, pk_mul, s_sub, s_addneg, s_leT, s_leF, s_ltT, s_ltF, s_eqF, s_inT, s_neF, s_neF', s_neE, s_nleT, s_nleF, s_nltF, s_nltT, eq_self, nI_clamp, s_wIk, s_wIo, pk_us, pk_un, Nat.reduceAdd, Nat.reduceMul, Nat.reduceSub, Nat.zero_add, Nat.add_zero, Nat.mul_zero, true_implies, false_implies, implies_true, not_true, not_false, and_true, true_and, not_true_eq_false, not_false_eq_true, forall_const]
          refine hg' _ ⟨q1.w (Or.inr (Or.inl rfl)) _ _, fun e he x hx => ?_, fun x hx => ?_⟩
          · rw [wI_k, pk_un (by omega)]; exact q2 e he x hx
          · rw [wI_k]
            by_cases c : x = u
            · subst c
              rw [pk_us]
              show _ = nI (mn 1000 (fw 1000 W ln pc d) (ln (W - (d + 1))) x (pc (W - (d + 1)) + 1))
              rw [hi2]
            · rw [pk_un (by omega)]; exact q3 x (by omega)
    · obtain rfl : e = 0 := by omega
      exact hr0 u (by omega)
  · rintro k m hk ⟨hF, hr0⟩ hg
    refine b_X10_choose_15 _ _ _ _ _ _ ht.at h2 ?_
    rw [hF.2 t (by omega) (by omega) (by omega), e13]
    by_cases c : k = 0
    · subst c
      simp (disch := omega) only [lin, nI_add, pk_mul, s_sub, s_addneg, s_leT, s_leF, s_ltT, s_ltF, s_eqF, s_inT, s_neF, s_neF', s_neE, s_nleT, s_nleF, s_nltF, s_nltT, eq_self, nI_clamp, s_wIk, s_wIo, pk_us, pk_un, Nat.reduceAdd, Nat.reduceMul, Nat.reduceSub, Nat.zero_add, Nat.add_zero, Nat.mul_zero, true_implies, false_implies, implies_true, not_true, not_false, and_true, true_and, not_true_eq_false, not_false_eq_true, forall_const]
      refine hg _ ⟨hF.w (Or.inr (Or.inl rfl)) _ _, fun u hu => ?_⟩
      obtain rfl : u = 0 := by omega
      rw [wI_k, Nat.add_zero, pk_us]; rfl
    · simp (disch := omega) only [lin, nI_add, pk_mul, s_sub, s_addneg, s_leT, s_leF, s_ltT, s_ltF, s_eqF, s_inT, s_neF, s_neF', s_neE, s_nleT, s_nleF, s_nltF, s_nltT, eq_self, nI_clamp, s_wIk, s_wIo, pk_us, pk_un, Nat.reduceAdd, Nat.reduceMul, Nat.reduceSub, Nat.zero_add, Nat.add_zero, Nat.mul_zero, true_implies, false_implies, implies_true, not_true, not_false, and_true, true_and, not_true_eq_false, not_false_eq_true, forall_const]
      refine hg _ ⟨hF.w (Or.inr (Or.inl rfl)) _ _, fun u hu => ?_⟩
      rw [wI_k]
      by_cases cc : u = k
      · subst cc
        rw [pk_us]
        show _ = nI (if u = 0 then 0 else 1000)
        rw [if_neg c]
      · rw [pk_un (by omega)]; exact hr0 u (by omega)

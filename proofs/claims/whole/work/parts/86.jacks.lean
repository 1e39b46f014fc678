/-! the model's knapsack -/
theorem mn_ex {N sz v : Nat} {f : Nat → Nat} : ∀ k, mn N f sz v k < N → ∃ j, j < k ∧ j * sz ≤ v ∧ f (v - j * sz) + j = mn N f sz v k
  | 0, h => absurd h (Nat.lt_irrefl _)
  | k + 1, h => by
    have e : mn N f sz v (k + 1) = if k * sz ≤ v then min (mn N f sz v k) (f (v - k * sz) + k) else mn N f sz v k := rfl
    rw [e] at h ⊢
    by_cases c : k * sz ≤ v
    · rw [if_pos c] at h ⊢
      by_cases c2 : f (v - k * sz) + k ≤ mn N f sz v k
      · exact ⟨k, by omega, c, by omega⟩
      · obtain ⟨j, j1, j2, j3⟩ := mn_ex (N := N) (sz := sz) (v := v) (f := f) k (by omega)
        exact ⟨j, by omega, j2, by omega⟩
    · rw [if_neg c] at h ⊢
      obtain ⟨j, j1, j2, j3⟩ := mn_ex (N := N) (sz := sz) (v := v) (f := f) k h
      exact ⟨j, by omega, j2, j3⟩
theorem mo_ex {t sz v : Nat} {f : Nat → Nat} : ∀ k, (∃ j, j < k ∧ j * sz ≤ v ∧ f (v - j * sz) + j = t) → mo f t sz v k < k ∧ mo f t sz v k * sz ≤ v ∧ f (v - mo f t sz v k * sz) + mo f t sz v k = t
  | 0, ⟨j, hj, _⟩ => absurd hj (Nat.not_lt_zero _)
  | k + 1, ⟨j, h1, h2, h3⟩ => by
    have e : mo f t sz v (k + 1) = if k * sz ≤ v ∧ f (v - k * sz) + k = t then k else mo f t sz v k := rfl
    rw [e]
    by_cases c : k * sz ≤ v ∧ f (v - k * sz) + k = t
    · rw [if_pos c]; exact ⟨by omega, c⟩
    · rw [if_neg c]
      have hj : j ≠ k := fun z => c (z ▸ ⟨h2, h3⟩)
      obtain ⟨q1, q2⟩ := mo_ex k ⟨j, by omega, h2, h3⟩
      exact ⟨by omega, q2⟩
theorem lf_fin {W : Nat} {ln pc : Nat → Nat} {n : Nat} (h : fw 1000 W ln pc W n < 1000) : ∀ i, i ≤ W → fw 1000 W ln pc (W - i) (lf W ln pc n i) < 1000
  | 0, _ => h
  | i + 1, hi => by
    have ih := lf_fin h i (by omega)
    have e : W - i = (W - (i + 1)) + 1 := by omega
    have e2 : W - (W - (i + 1) + 1) = i := by omega
    have ih2 : fw 1000 W ln pc (W - i) (lf W ln pc n i) = mn 1000 (fw 1000 W ln pc (W - (i + 1))) (ln i) (lf W ln pc n i) (pc i + 1) := by
      rw [e]
      show mn 1000 _ (ln (W - (W - (i + 1) + 1))) _ (pc (W - (W - (i + 1) + 1)) + 1) = _
      rw [e2]
    have ex := mn_ex (pc i + 1) (ih2 ▸ ih)
    rw [← ih2] at ex
    have q := (mo_ex (pc i + 1) ex).2.2
    show fw 1000 W ln pc (W - (i + 1)) (lf W ln pc n i - usw W ln pc i (lf W ln pc n i) * ln i) < 1000
    unfold usw
    omega
theorem us_ex {W : Nat} {ln pc : Nat → Nat} {n i : Nat} (h : fw 1000 W ln pc W n < 1000) (hi : i < W) : ∃ j, j < pc i + 1 ∧ j * ln i ≤ lf W ln pc n i ∧ fw 1000 W ln pc (W - (i + 1)) (lf W ln pc n i - j * ln i) + j = fw 1000 W ln pc (W - i) (lf W ln pc n i) := by
  have ih := lf_fin h i (by omega)
  have e : W - i = (W - (i + 1)) + 1 := by omega
  have e2 : W - (W - (i + 1) + 1) = i := by omega
  have ih2 : fw 1000 W ln pc (W - i) (lf W ln pc n i) = mn 1000 (fw 1000 W ln pc (W - (i + 1))) (ln i) (lf W ln pc n i) (pc i + 1) := by
    rw [e]
    show mn 1000 _ (ln (W - (W - (i + 1) + 1))) _ (pc (W - (W - (i + 1) + 1)) + 1) = _
    rw [e2]
  have ex := mn_ex (pc i + 1) (ih2 ▸ ih)
  rw [← ih2] at ex
  exact ex
def FrM (mm m : MM) : Prop := m.2 = mm.2 ∧ ∀ x, x ≠ 181 → x ≠ 182 → m.1 x = mm.1 x
theorem FrM.w {mm m : MM} (h : FrM mm m) {k : Nat} (hk : k = 181 ∨ k = 182) (j : Nat) (v : Int32) : FrM mm (wI m k j v) := ⟨h.1, fun x h1 h2 => by rw [wI_o (by omega)]; exact h.2 x h1 h2⟩
theorem FrM.kq {mm m : MM} (h : FrM mm m) : Kq mm m := by
  refine ⟨fun a b e => ?_, by rw [h.1]⟩
  by_cases c1 : a = 181
  · subst c1; cases e
  · by_cases c2 : a = 182
    · subst c2; cases e
    · rw [h.2 a c1 c2]
theorem least_nI {m : MM} {a b : Nat} (ha : a < 2 ^ 31) (hb : b < 2 ^ 31) : v_X12_least m (nI a) (nI b) = nI (min a b) := by
  unfold v_X12_least
  by_cases h : b ≤ a
  · rw [cite_pos (nI_le h ha), Nat.min_eq_right h]
  · rw [cite_neg (nI_ge (by omega) hb), Nat.min_eq_left (by omega)]
theorem mn_one {f : Nat → Nat} {u : Nat} (h : f u ≤ 1000000) : mn 1000000 f 1 u (0 + 1) = f u := by
  show (if 0 * 1 ≤ u then min 1000000 (f (u - 0 * 1) + 0) else 1000000) = f u
  rw [if_pos (by omega), Nat.zero_mul, Nat.sub_zero, Nat.add_zero, Nat.min_eq_right h]
theorem jacks_ok {mm : MM} {W n : Nat} {ln pc : Nat → Nat} (h8 : W ≤ 8) (hn : n ≤ 99) (e5 : mm.1 162 5 = nI W) (hw : ∀ w, w < W → (1 ≤ ln w ∧ ln w ≤ 60 ∧ mm.1 162 (170 + 2 * w) = nI (ln w)) ∧ pc w ≤ 99 ∧ mm.1 163 (50 + w) = nI (pc w)) :
    Runs e_X12_jacks [.ref 156, .int (nI n)] mm (fun r m' => r = .int (if fw 1000 W ln pc W n < 1000 then nI (fw 1000 W ln pc W n) else 1000000) ∧ (FrM mm m' ∧ (fw 1000 W ln pc W n < 1000 → ∀ w, w < W → m'.1 182 w = nI (usw W ln pc w (lf W ln pc n w))))) := by
  have hl1 : ∀ w, w < W → 1 ≤ ln w := fun w h => (hw w h).1.1
  have f0 : ∀ u, fw 1000000 W ln pc 0 u = if u = 0 then 0 else 1000000 := fun _ => rfl
  apply b_X12_jacks
  refine for_up (Y := e_X12_jacks) (pc := 2) (fun k => [(0, .ref 156), (1, .int (nI n)), (2, .int (nI k))]) (fun k m' => FrM mm m' ∧ ∀ u, u < k → m'.1 181 (800 + u) = nI (fw 1000000 W ln pc 0 u)) (n + 1) ?_ ?_ 0 mm (by omega) ⟨⟨rfl, fun _ _ _ => rfl⟩, fun u hu => absurd hu (by omega)⟩
  · rintro m ⟨hF, hr0⟩
    refine b_X12_jacks_2 _ _ _ _ ⟨fun _ => ?_, fun z => absurd (nI_lt (by omega) (by omega)) z⟩
    refine for_up (Y := e_X12_jacks) (pc := 37) (fun d => [(0, .ref 156), (1, .int (nI n)), (2, .int (nI (8 - d) - 1))]) (fun d m' => FrM mm m' ∧ ∀ w, 8 - d ≤ w → w ≤ 8 → ∀ u, u ≤ n → m'.1 181 (100 * w + u) = nI (fw 1000000 W ln pc (W - w) u)) 8 ?_ ?_ 0 m (by omega) ⟨hF, fun w h1 h2 u hu => ?_⟩
    · rintro m ⟨hF, hrow⟩
      have hrow : ∀ w, w ≤ 8 → ∀ u, u ≤ n → m.1 181 (100 * w + u) = nI (fw 1000000 W ln pc (W - w) u) := fun w h => hrow w (by omega) h
      have eA : m.1 181 n = nI (fw 1000000 W ln pc W n) := by
        have := hrow 0 (by omega) n (Nat.le_refl _)
        rwa [Nat.mul_zero, Nat.zero_add, Nat.sub_zero] at this
      have hB := fw_le (N := 1000000) (W := W) (ln := ln) (pc := pc) W n
      have hrel := fw_rel (W := W) (ln := ln) (pc := pc) hl1 W (Nat.le_refl _) n hn
      refine b_X12_jacks_37 _ _ _ _ ⟨fun _ => ⟨vp_in_nI (by omega) (by omega), ?_⟩, fun z => absurd (by decide) z⟩
      rw [nI_clamp (by omega), eA]
      by_cases c : fw 1000 W ln pc W n < 1000
      · rw [if_pos c]
        have eAB : fw 1000000 W ln pc W n = fw 1000 W ln pc W n := by unfold Fin2 at hrel; omega
        refine ⟨fun _ => ?_, fun z => absurd (show nI _ < nI 1000000 from nI_lt (by omega) (by omega)) z⟩
        refine for_up (Y := e_X12_jacks) (pc := 208) (fun i => [(0, .ref 156), (1, .int (nI n)), (2, .int (nI (lf W ln pc n (min i W)))), (3, .int (nI i))]) (fun i m' => FrM mm m' ∧ (∀ w, w ≤ 8 → ∀ u, u ≤ n → m'.1 181 (100 * w + u) = nI (fw 1000000 W ln pc (W - w) u)) ∧ ∀ w, w < i → w < W → m'.1 182 w = nI (usw W ln pc w (lf W ln pc n w))) 8 ?_ ?_ 0 m (by omega) ⟨hF, hrow, fun w h => absurd h (by omega)⟩
        · rintro m' ⟨q1, q2, q3⟩
          refine b_X12_jacks_208 _ _ _ _ _ ⟨fun _ => ⟨vp_in_nI (by omega) (by omega), ?_⟩, fun z => absurd (by rfl) z⟩
          rw [nI_clamp (by omega)]
          have := q2 0 (by omega) n (Nat.le_refl _)
          rw [Nat.mul_zero, Nat.zero_add, Nat.sub_zero, eAB] at this
          rw [this]
          exact ⟨rfl, q1, fun _ w hw' => q3 w (by omega) hw'⟩
        · rintro i m' hi ⟨q1, q2, q3⟩ hg
          have e5' : m'.1 162 5 = nI W := by rw [q1.2 162 (by decide) (by decide)]; exact e5
          by_cases ci : i < W
          · obtain ⟨⟨l1, l2, l3⟩, p1, p2⟩ := hw i ci
            have l3' : m'.1 162 (170 + 2 * i) = nI (ln i) := by rw [q1.2 162 (by decide) (by decide)]; exact l3
            have p2' : m'.1 163 (50 + i) = nI (pc i) := by rw [q1.2 163 (by decide) (by decide)]; exact p2
            rw [Nat.min_eq_left (by omega : i ≤ W)]
            rw [Nat.min_eq_left (by omega : i + 1 ≤ W)] at hg
            have hlf := lf_le (W := W) (ln := ln) (pc := pc) (n := n) i
            have hfin := lf_fin c i (by omega)
            have hex := us_ex c ci
            have usd : usw W ln pc i (lf W ln pc n i) = mo (fw 1000 W ln pc (W - (i + 1))) (fw 1000 W ln pc (W - i) (lf W ln pc n i)) (ln i) (lf W ln pc n i) (pc i + 1) := rfl
            have lfd : lf W ln pc n (i + 1) = lf W ln pc n i - usw W ln pc i (lf W ln pc n i) * ln i := rfl
            have hR := q2 i (by omega) _ hlf
            have hRel0 := fw_rel (W := W) (ln := ln) (pc := pc) hl1 (W - i) (by omega) (lf W ln pc n i) (by omega)
            have hdv : lf W ln pc n i / ln i ≤ lf W ln pc n i := Nat.div_le_self _ _
            rw [lfd, usd] at hg
            generalize ev : lf W ln pc n i = v at *
            generalize et : fw 1000 W ln pc (W - i) v = t at *
            refine b_X12_jacks_208 _ _ _ _ _ ?_
            simp (disch := omega) only [lin, nI_add, pk_mul, s_sub, s_addneg, s_leT, s_leF, s_ltT, s_ltF, s_eqF, s_inT, s_neF, s_neF', s_neE, s_nleT, s_nleF, s_nltF, s_nltT, eq_self, nI_clamp, s_wIk, s_wIo, pk_us, pk_un, Nat.reduceAdd, Nat.reduceMul, Nat.reduceSub, Nat.zero_add, Nat.add_zero, Nat.mul_zero, true_implies, false_implies, implies_true, not_true, not_false, and_true, true_and, not_true_eq_false, not_false_eq_true, forall_const, e5', l3', p2', pk_div, least_nI]
            have k0 : min (pc i) (v / ln i) * ln i ≤ v := Nat.le_trans (Nat.mul_le_mul_right _ (Nat.min_le_right _ _)) (Nat.div_mul_le_self _ _)
            refine loop_mu (Y := e_X12_jacks) (pc := 274) (fun k : Nat => [(0, .ref 156), (1, .int (nI n)), (2, .int (nI v)), (3, .int (nI i)), (4, .int (nI (ln i))), (5, .int (nI k))]) (fun k m'' => m'' = m' ∧ k ≤ pc i ∧ k * ln i ≤ v ∧ (∃ j, j < k + 1 ∧ j * ln i ≤ v ∧ fw 1000 W ln pc (W - (i + 1)) (v - j * ln i) + j = t) ∧ mo (fw 1000 W ln pc (W - (i + 1))) t (ln i) v (k + 1) = mo (fw 1000 W ln pc (W - (i + 1))) t (ln i) v (pc i + 1)) (fun k => k) ?_ (min (pc i) (v / ln i)) m' ⟨rfl, Nat.min_le_left _ _, k0, ?_, ?_⟩
            · rintro k m'' ⟨rfl, r1, r2, r3, r4⟩ hgo
              have hq : k * ln i ≤ 6000 := le_hundred (by omega) l2
              have hR1 := q2 (i + 1) (by omega) (v - k * ln i) (by omega)
              rw [show 100 * (i + 1) + (v - k * ln i) = 100 * i + 100 + v - k * ln i by omega] at hR1
              have hRel1 := fw_rel (W := W) (ln := ln) (pc := pc) hl1 (W - (i + 1)) (by omega) (v - k * ln i) (by omega)
              have ek : mo (fw 1000 W ln pc (W - (i + 1))) t (ln i) v (k + 1) = if k * ln i ≤ v ∧ fw 1000 W ln pc (W - (i + 1)) (v - k * ln i) + k = t then k else mo (fw 1000 W ln pc (W - (i + 1))) t (ln i) v k := rfl
              have hb1 := fw_le (N := 1000000) (W := W) (ln := ln) (pc := pc) (W - (i + 1)) (v - k * ln i)
              have hb0 := fw_le (N := 1000000) (W := W) (ln := ln) (pc := pc) (W - i) v
              refine b_X12_jacks_274 _ _ _ _ _ _ _ ?_
              by_cases cq : fw 1000 W ln pc (W - (i + 1)) (v - k * ln i) + k = t
              · rw [if_pos ⟨r2, cq⟩] at ek
                have cM : fw 1000000 W ln pc (W - (i + 1)) (v - k * ln i) + k = fw 1000000 W ln pc (W - i) v := by
                  unfold Fin2 at hRel0 hRel1; omega
                simp (disch := omega) only [lin, nI_add, pk_mul, s_sub, s_addneg, s_leT, s_leF, s_ltT, s_ltF, s_eqF, s_inT, s_neF, s_neF', s_neE, s_nleT, s_nleF, s_nltF, s_nltT, eq_self, nI_clamp, s_wIk, s_wIo, pk_us, pk_un, Nat.reduceAdd, Nat.reduceMul, Nat.reduceSub, Nat.zero_add, Nat.add_zero, Nat.mul_zero, true_implies, false_implies, implies_true, not_true, not_false, and_true, true_and, not_true_eq_false, not_false_eq_true, forall_const, hR1, hR, cM]
                have := hg (wI m'' 182 i (nI k)) ⟨q1.w (Or.inr rfl) _ _, fun w hw' u hu => by rw [wI_o (by decide)]; exact q2 w hw' u hu, fun w h1 h2 => ?_⟩
                · rw [← r4, ek] at this
                  exact this
                · rw [wI_k]
                  by_cases cc : w = i
                  · subst cc
                    rw [pk_us, ev, ← ek, r4]
                    unfold usw
                    rw [et]
                  · rw [pk_un cc]; exact q3 w (by omega) h2
              · rw [if_neg (fun z => cq z.2)] at ek
                have cM : fw 1000000 W ln pc (W - (i + 1)) (v - k * ln i) + k ≠ fw 1000000 W ln pc (W - i) v := by
                  unfold Fin2 at hRel0 hRel1; omega
                obtain ⟨j, j1, j2, j3⟩ := r3
                have hj : j ≠ k := fun z => cq (z ▸ j3)
                obtain ⟨k', rfl⟩ : ∃ k', k = k' + 1 := ⟨k - 1, by omega⟩
                have hk' : k' * ln i ≤ v := Nat.le_trans (Nat.mul_le_mul_right _ (Nat.le_succ k')) r2
                simp (disch := omega) only [lin, nI_add, pk_mul, s_sub, s_addneg, s_leT, s_leF, s_ltT, s_ltF, s_eqF, s_inT, s_neF, s_neF', s_neE, s_nleT, s_nleF, s_nltF, s_nltT, eq_self, nI_clamp, s_wIk, s_wIo, pk_us, pk_un, Nat.reduceAdd, Nat.reduceMul, Nat.reduceSub, Nat.zero_add, Nat.add_zero, Nat.mul_zero, true_implies, false_implies, implies_true, not_true, not_false, and_true, true_and, not_true_eq_false, not_false_eq_true, forall_const, hR1, hR]
                exact hgo k' m'' ⟨rfl, by omega, hk', ⟨j, by omega, j2, j3⟩, ek ▸ r4⟩ (Nat.lt_succ_self _)
            · obtain ⟨j, j1, j2, j3⟩ := hex
              have : j ≤ v / ln i := (Nat.le_div_iff_mul_le (by omega)).mpr j2
              exact ⟨j, by omega, j2, j3⟩
            · by_cases cp : pc i ≤ v / ln i
              · rw [Nat.min_eq_left cp]
              · rw [Nat.min_eq_right (by omega)]
                refine (mo_stop ?_ _ (by omega)).symm
                have := Nat.lt_mul_div_succ v (show 0 < ln i by omega)
                rwa [Nat.mul_comm] at this
          · rw [Nat.min_eq_right (by omega : W ≤ i)]
            rw [Nat.min_eq_right (by omega : W ≤ i + 1)] at hg
            have hlf := lf_le (W := W) (ln := ln) (pc := pc) (n := n) W
            have r1 := q2 i (by omega) _ hlf
            have r2 := q2 (i + 1) (by omega) _ hlf
            rw [show W - i = 0 by omega] at r1
            rw [show W - (i + 1) = 0 by omega, show 100 * (i + 1) + lf W ln pc n W = 100 * i + 100 + lf W ln pc n W by omega] at r2
            generalize ev : lf W ln pc n W = v at *
            refine b_X12_jacks_208 _ _ _ _ _ ?_
            simp (disch := omega) only [lin, nI_add, pk_mul, s_sub, s_addneg, s_leT, s_leF, s_ltT, s_ltF, s_eqF, s_inT, s_neF, s_neF', s_neE, s_nleT, s_nleF, s_nltF, s_nltT, eq_self, nI_clamp, s_wIk, s_wIo, pk_us, pk_un, Nat.reduceAdd, Nat.reduceMul, Nat.reduceSub, Nat.zero_add, Nat.add_zero, Nat.mul_zero, true_implies, false_implies, implies_true, not_true, not_false, and_true, true_and, not_true_eq_false, not_false_eq_true, forall_const, e5']
            refine b_X12_jacks_274 _ _ _ _ _ _ _ ?_
            have hb0 := fw_le (N := 1000000) (W := W) (ln := ln) (pc := pc) 0 v
            simp (disch := omega) only [lin, nI_add, pk_mul, s_sub, s_addneg, s_leT, s_leF, s_ltT, s_ltF, s_eqF, s_inT, s_neF, s_neF', s_neE, s_nleT, s_nleF, s_nltF, s_nltT, eq_self, nI_clamp, s_wIk, s_wIo, pk_us, pk_un, Nat.reduceAdd, Nat.reduceMul, Nat.reduceSub, Nat.zero_add, Nat.add_zero, Nat.mul_zero, true_implies, false_implies, implies_true, not_true, not_false, and_true, true_and, not_true_eq_false, not_false_eq_true, forall_const, r1, r2, Nat.sub_zero]
            have := hg (wI m' 182 i (nI 0)) ⟨q1.w (Or.inr rfl) _ _, fun w hw' u hu => by rw [wI_o (by decide)]; exact q2 w hw' u hu, fun w h1 h2 => by rw [wI_k, pk_un (by omega)]; exact q3 w (by omega) h2⟩
            exact this
      · rw [if_neg c]
        have eB : fw 1000000 W ln pc W n = 1000000 := by
          have := fw_le (N := 1000) (W := W) (ln := ln) (pc := pc) W n
          unfold Fin2 at hrel; omega
        exact ⟨fun z => absurd (show nI _ < nI 1000000 from z) (nI_nlt (by omega) (by omega)), fun _ => ⟨rfl, hF, fun z => absurd z c⟩⟩
    · rintro d m hd ⟨hF, hrow⟩ hg
      obtain ⟨i, hi⟩ : ∃ i, 8 - d = i + 1 := ⟨8 - d - 1, by omega⟩
      have hi2 : 8 - (d + 1) = i := by omega
      have e5' : m.1 162 5 = nI W := by rw [hF.2 162 (by decide) (by decide)]; exact e5
      have inner : ∀ sz many, sz ≤ 60 → many ≤ 99 → (∀ u, u ≤ n → mn 1000000 (fw 1000000 W ln pc (W - (i + 1))) sz u (many + 1) = fw 1000000 W ln pc (W - i) u) → G e_X12_jacks 96 [(0, .ref 156), (1, .int (nI n)), (2, .int (nI i)), (3, .int (nI sz)), (4, .int (nI many)), (5, .int (nI 0))] [] m (fun r m' => r = .int (if fw 1000 W ln pc W n < 1000 then nI (fw 1000 W ln pc W n) else 1000000) ∧ (FrM mm m' ∧ (fw 1000 W ln pc W n < 1000 → ∀ w, w < W → m'.1 182 w = nI (usw W ln pc w (lf W ln pc n w))))) := by
        intro sz many hsz hmany hspec
        refine for_up (Y := e_X12_jacks) (pc := 96) (fun u => [(0, .ref 156), (1, .int (nI n)), (2, .int (nI i)), (3, .int (nI sz)), (4, .int (nI many)), (5, .int (nI u))]) (fun k m' => FrM mm m' ∧ (∀ w, i + 1 ≤ w → w ≤ 8 → ∀ u, u ≤ n → m'.1 181 (100 * w + u) = nI (fw 1000000 W ln pc (W - w) u)) ∧ ∀ u, u < k → m'.1 181 (100 * i + u) = nI (fw 1000000 W ln pc (W - i) u)) (n + 1) ?_ ?_ 0 m (by omega) ⟨hF, fun w h1 h2 => hrow w (by omega) h2, fun u hu => absurd hu (by omega)⟩
        · rintro m' ⟨q1, q2, q3⟩
          refine b_X12_jacks_96 _ _ _ _ _ _ _ ⟨fun _ => ?_, fun z => absurd (nI_lt (by omega) (by omega)) z⟩
          rw [show nI i + (-1) = nI (8 - (d + 1)) - 1 by rw [hi2, Int32.sub_eq_add_neg]]
          refine hg _ ⟨q1, fun w h1 h2 u hu => ?_⟩
          by_cases c : w = i
          · subst c; exact q3 u (by omega)
          · exact q2 w (by omega) h2 u hu
        · rintro u m' hu ⟨q1, q2, q3⟩ hg'
          have fin : G e_X12_jacks 96 [(0, .ref 156), (1, .int (nI n)), (2, .int (nI i)), (3, .int (nI sz)), (4, .int (nI many)), (5, .int (nI (u + 1)))] [] (wI m' 181 (100 * i + u) (nI (fw 1000000 W ln pc (W - i) u))) (fun r m' => r = .int (if fw 1000 W ln pc W n < 1000 then nI (fw 1000 W ln pc W n) else 1000000) ∧ (FrM mm m' ∧ (fw 1000 W ln pc W n < 1000 → ∀ w, w < W → m'.1 182 w = nI (usw W ln pc w (lf W ln pc n w))))) := by
            refine hg' _ ⟨q1.w (Or.inl rfl) _ _, fun w h1 h2 x hx => by rw [wI_k, pk_un (by omega)]; exact q2 w h1 h2 x hx, fun x hx => ?_⟩
            rw [wI_k]
            by_cases c : x = u
            · subst c; rw [pk_us]
            · rw [pk_un (by omega)]; exact q3 x (by omega)
          refine b_X12_jacks_96 _ _ _ _ _ _ _ ⟨fun z => absurd z (nI_nlt (by omega) (by omega)), fun _ => ?_⟩
          refine for_up (Y := e_X12_jacks) (pc := 110) (fun k => [(0, .ref 156), (1, .int (nI n)), (2, .int (nI i)), (3, .int (nI sz)), (4, .int (nI many)), (5, .int (nI u)), (6, .int (nI (mn 1000000 (fw 1000000 W ln pc (W - (i + 1))) sz u k))), (7, .int (nI k))]) (fun k m'' => m'' = m') (many + 1) ?_ ?_ 0 m' (by omega) rfl
          · rintro m'' rfl
            refine b_X12_jacks_110 _ _ _ _ _ _ _ _ _ ⟨fun _ => ?_, fun z => absurd (nI_lt (by omega) (by omega)) z⟩
            rw [hspec u (by omega)]
            simp (disch := omega) only [lin, nI_add, pk_mul, s_sub, s_addneg, s_leT, s_leF, s_ltT, s_ltF, s_eqF, s_inT, s_neF, s_neF', s_neE, s_nleT, s_nleF, s_nltF, s_nltT, eq_self, nI_clamp, s_wIk, s_wIo, pk_us, pk_un, Nat.reduceAdd, Nat.reduceMul, Nat.reduceSub, Nat.zero_add, Nat.add_zero, Nat.mul_zero, true_implies, false_implies, implies_true, not_true, not_false, and_true, true_and, not_true_eq_false, not_false_eq_true, forall_const]
            exact fin
          · rintro k m'' hk rfl hgo
            have hq : k * sz ≤ 6000 := le_hundred (by omega) hsz
            have hle := mn_le (N := 1000000) (f := fw 1000000 W ln pc (W - (i + 1))) (sz := sz) (v := u) k
            refine b_X12_jacks_110 _ _ _ _ _ _ _ _ _ ?_
            by_cases c : k * sz ≤ u
            · have hR := q2 (i + 1) (by omega) (by omega) (u - k * sz) (by omega)
              rw [show 100 * (i + 1) + (u - k * sz) = 100 * i + 100 + u - k * sz by omega] at hR
              have hf := fw_le (N := 1000000) (W := W) (ln := ln) (pc := pc) (W - (i + 1)) (u - k * sz)
              simp (disch := omega) only [lin, nI_add, pk_mul, s_sub, s_addneg, s_leT, s_leF, s_ltT, s_ltF, s_eqF, s_inT, s_neF, s_neF', s_neE, s_nleT, s_nleF, s_nltF, s_nltT, eq_self, nI_clamp, s_wIk, s_wIo, pk_us, pk_un, Nat.reduceAdd, Nat.reduceMul, Nat.reduceSub, Nat.zero_add, Nat.add_zero, Nat.mul_zero, true_implies, false_implies, implies_true, not_true, not_false, and_true, true_and, not_true_eq_false, not_false_eq_true, forall_const, hR, least_nI]
              have := hgo m'' rfl
              rw [show mn 1000000 (fw 1000000 W ln pc (W - (i + 1))) sz u (k + 1) = min (mn 1000000 (fw 1000000 W ln pc (W - (i + 1))) sz u k) (fw 1000000 W ln pc (W - (i + 1)) (u - k * sz) + k) by
                show (if k * sz ≤ u then min (mn 1000000 (fw 1000000 W ln pc (W - (i + 1))) sz u k) (fw 1000000 W ln pc (W - (i + 1)) (u - k * sz) + k) else mn 1000000 (fw 1000000 W ln pc (W - (i + 1))) sz u k) = _
                rw [if_pos c]] at this
              exact this
            · have e := mn_stop (N := 1000000) (f := fw 1000000 W ln pc (W - (i + 1))) (by omega : u < k * sz) (many + 1) (by omega)
              rw [← e, hspec u (by omega)]
              simp (disch := omega) only [lin, nI_add, pk_mul, s_sub, s_addneg, s_leT, s_leF, s_ltT, s_ltF, s_eqF, s_inT, s_neF, s_neF', s_neE, s_nleT, s_nleF, s_nltF, s_nltT, eq_self, nI_clamp, s_wIk, s_wIo, pk_us, pk_un, Nat.reduceAdd, Nat.reduceMul, Nat.reduceSub, Nat.zero_add, Nat.add_zero, Nat.mul_zero, true_implies, false_implies, implies_true, not_true, not_false, and_true, true_and, not_true_eq_false, not_false_eq_true, forall_const]
              exact fin
      rw [hi, nI_pred]
      refine b_X12_jacks_37 _ _ _ _ ?_
      by_cases ci : i < W
      · obtain ⟨⟨l1, l2, l3⟩, p1, p2⟩ := hw i ci
        have l3' : m.1 162 (170 + 2 * i) = nI (ln i) := by rw [hF.2 162 (by decide) (by decide)]; exact l3
        have p2' : m.1 163 (50 + i) = nI (pc i) := by rw [hF.2 163 (by decide) (by decide)]; exact p2
        have := inner (ln i) (pc i) l2 p1 fun u hu => by
          rw [show W - i = (W - (i + 1)) + 1 by omega]
          show _ = mn 1000000 _ (ln (W - (W - (i + 1) + 1))) u (pc (W - (W - (i + 1) + 1)) + 1)
          rw [show W - (W - (i + 1) + 1) = i by omega]
        simp (disch := omega) only [lin, nI_add, pk_mul, s_sub, s_addneg, s_leT, s_leF, s_ltT, s_ltF, s_eqF, s_inT, s_neF, s_neF', s_neE, s_nleT, s_nleF, s_nltF, s_nltT, eq_self, nI_clamp, s_wIk, s_wIo, pk_us, pk_un, Nat.reduceAdd, Nat.reduceMul, Nat.reduceSub, Nat.zero_add, Nat.add_zero, Nat.mul_zero, true_implies, false_implies, implies_true, not_true, not_false, and_true, true_and, not_true_eq_false, not_false_eq_true, forall_const, e5', l3', p2']
        exact this
      · have := inner 1 0 (by omega) (by omega) fun u hu => by
          rw [show W - (i + 1) = 0 by omega, show W - i = 0 by omega]
          exact mn_one (fw_le _ _)
        simp (disch := omega) only [lin, nI_add, pk_mul, s_sub, s_addneg, s_leT, s_leF, s_ltT, s_ltF, s_eqF, s_inT, s_neF, s_neF', s_neE, s_nleT, s_nleF, s_nltF, s_nltT, eq_self, nI_clamp, s_wIk, s_wIo, pk_us, pk_un, Nat.reduceAdd, Nat.reduceMul, Nat.reduceSub, Nat.zero_add, Nat.add_zero, Nat.mul_zero, true_implies, false_implies, implies_true, not_true, not_false, and_true, true_and, not_true_eq_false, not_false_eq_true, forall_const, e5']
        exact this
    · obtain rfl : w = 8 := by omega
      rw [show W - 8 = 0 by omega]
      exact hr0 u (by omega)
  · rintro k m hk ⟨hF, hr0⟩ hg
    refine b_X12_jacks_2 _ _ _ _ ?_
    by_cases c : k = 0
    · subst c
      simp (disch := omega) only [lin, nI_add, pk_mul, s_sub, s_addneg, s_leT, s_leF, s_ltT, s_ltF, s_eqF, s_inT, s_neF, s_neF', s_neE, s_nleT, s_nleF, s_nltF, s_nltT, eq_self, nI_clamp, s_wIk, s_wIo, pk_us, pk_un, Nat.reduceAdd, Nat.reduceMul, Nat.reduceSub, Nat.zero_add, Nat.add_zero, Nat.mul_zero, true_implies, false_implies, implies_true, not_true, not_false, and_true, true_and, not_true_eq_false, not_false_eq_true, forall_const]
      refine hg _ ⟨hF.w (Or.inl rfl) _ _, fun u hu => ?_⟩
      obtain rfl : u = 0 := by omega
      rw [wI_k, Nat.add_zero, pk_us]; rfl
    · simp (disch := omega) only [lin, nI_add, pk_mul, s_sub, s_addneg, s_leT, s_leF, s_ltT, s_ltF, s_eqF, s_inT, s_neF, s_neF', s_neE, s_nleT, s_nleF, s_nltF, s_nltT, eq_self, nI_clamp, s_wIk, s_wIo, pk_us, pk_un, Nat.reduceAdd, Nat.reduceMul, Nat.reduceSub, Nat.zero_add, Nat.add_zero, Nat.mul_zero, true_implies, false_implies, implies_true, not_true, not_false, and_true, true_and, not_true_eq_false, not_false_eq_true, forall_const]
      refine hg _ ⟨hF.w (Or.inl rfl) _ _, fun u hu => ?_⟩
      rw [wI_k]
      by_cases cc : u = k
      · subst cc
        rw [pk_us, f0, if_neg c]
      · rw [pk_un (by omega)]; exact hr0 u (by omega)

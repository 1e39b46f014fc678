/-! what is asked of the rules, as the class asks -/
def Vs (t : Nat) (m : MM) (cv : Nat → Int32) : Prop := ∀ i, i < 9 → m.1 (t + 8 + 4) i = cv i
def cvOf (vs : Nat → Int32) : Nat → Int32 := fun i => vs ((i + 8) % 9)
theorem Vs.of {t : Nat} {m : MM} {cv cv' : Nat → Int32} (h : Vs t m cv) (e : ∀ i, i < 9 → cv i = cv' i) : Vs t m cv' := fun i hi => (h i hi).trans (e i hi)
theorem nine {p : Nat → Prop} (h0 : p 0) (h1 : p 1) (h2 : p 2) (h3 : p 3) (h4 : p 4) (h5 : p 5) (h6 : p 6) (h7 : p 7) (h8 : p 8) : ∀ i, i < 9 → p i := by
  intro i hi
  have e : i = 0 ∨ i = 1 ∨ i = 2 ∨ i = 3 ∨ i = 4 ∨ i = 5 ∨ i = 6 ∨ i = 7 ∨ i = 8 := by omega
  rcases e with rfl | rfl | rfl | rfl | rfl | rfl | rfl | rfl | rfl <;> assumption
theorem wipe_ok {mm : MM} {t : Nat} (ht : isT t) (m : MM) (hm : Kq mm m) : Runs e_X1_wipeVars [.ref (t + 8)] m (fun r m' => r = .null ∧ Kq mm m' ∧ Vs t m' (fun _ => 0)) := by
  apply b_X1_wipeVars _ _ _ ht.at.laws
  refine for_up (fun k => [(0, .ref (t + 8)), (1, .int (nI k))]) (fun k m => Kq mm m ∧ ∀ j, j < k → m.1 (t + 8 + 4) j = 0) 9 ?_ ?_ 0 _ (Nat.zero_le _) ⟨hm, fun j hj => absurd hj (Nat.not_lt_zero _)⟩
  · rintro m ⟨k1, k2⟩
    apply b_X1_wipeVars_2 _ _ _ _ ht.at.laws
    simp (disch := omega) only [lin, nI_add, pk_mul, s_sub, s_addneg, s_leT, s_leF, s_ltT, s_ltF, s_eqF, s_inT, s_neF, s_neF', s_neE, s_nleT, s_nleF, s_nltF, s_nltT, eq_self, nI_clamp, s_wIk, s_wIo, pk_us, pk_un, Nat.reduceAdd, Nat.reduceMul, Nat.reduceSub, Nat.zero_add, Nat.add_zero, Nat.mul_zero, true_implies, false_implies, implies_true, not_true, not_false, and_true, true_and, not_true_eq_false, not_false_eq_true, forall_const]
    exact ⟨k1, k2⟩
  · rintro k m hk ⟨k1, k2⟩ hn
    apply b_X1_wipeVars_2 _ _ _ _ ht.at.laws
    simp (disch := omega) only [lin, nI_add, pk_mul, s_sub, s_addneg, s_leT, s_leF, s_ltT, s_ltF, s_eqF, s_inT, s_neF, s_neF', s_neE, s_nleT, s_nleF, s_nltF, s_nltT, eq_self, nI_clamp, s_wIk, s_wIo, pk_us, pk_un, Nat.reduceAdd, Nat.reduceMul, Nat.reduceSub, Nat.zero_add, Nat.add_zero, Nat.mul_zero, true_implies, false_implies, implies_true, not_true, not_false, and_true, true_and, not_true_eq_false, not_false_eq_true, forall_const]
    refine hn _ ⟨k1.w _ (kq_vars ht _), fun j hj => ?_⟩
    rw [wI_k]
    by_cases c : j = k
    · subst c; rw [pk_us]; rfl
    · rw [pk_un c]; exact k2 j (by omega)
theorem put_ok {mm : MM} {t q : Nat} (ht : isT t) (hq : 12 ≤ q ∧ q ≤ 20) {cv : Nat → Int32} {v v' : Int32} (ev : v = v') (m : MM) (hm : Kq mm m) (hv : Vs t m cv) : Runs e_X1_put [.ref (t + 8), .int (nI q), .int v] m (fun r m' => r = .null ∧ Kq mm m' ∧ Vs t m' (upd cv (q - 12) v')) := by
  subst ev
  have pv : ∀ m, p_X11_isVar m (nI q) := fun m => by unfold p_X11_isVar; simp (disch := omega) only [lin, nI_add, pk_mul, s_sub, s_addneg, s_leT, s_leF, s_ltT, s_ltF, s_eqF, s_inT, s_neF, s_neF', s_neE, s_nleT, s_nleF, s_nltF, s_nltT, eq_self, nI_clamp, s_wIk, s_wIo, pk_us, pk_un, Nat.reduceAdd, Nat.reduceMul, Nat.reduceSub, Nat.zero_add, Nat.add_zero, Nat.mul_zero, true_implies, false_implies, implies_true, not_true, not_false, and_true, true_and, not_true_eq_false, not_false_eq_true, forall_const]
  apply b_X1_put _ _ _ _ _ ht.at.laws
  simp (disch := omega) only [lin, nI_add, pk_mul, s_sub, s_addneg, s_leT, s_leF, s_ltT, s_ltF, s_eqF, s_inT, s_neF, s_neF', s_neE, s_nleT, s_nleF, s_nltF, s_nltT, eq_self, nI_clamp, s_wIk, s_wIo, pk_us, pk_un, Nat.reduceAdd, Nat.reduceMul, Nat.reduceSub, Nat.zero_add, Nat.add_zero, Nat.mul_zero, true_implies, false_implies, implies_true, not_true, not_false, and_true, true_and, not_true_eq_false, not_false_eq_true, forall_const, pv]
  refine ⟨hm.w _ (kq_vars ht _), fun i hi => ?_⟩
  rw [wI_k]
  by_cases c : i = q - 12
  · subst c; rw [pk_us, pk_us]
  · rw [pk_un c, pk_un c]; exact hv i hi
theorem held99 (m : MM) (x : Int32) : v_X11_heldTo99 m x = w99 x := by
  unfold v_X11_heldTo99 w99 imax imin
  by_cases h2 : x < 99
  · rw [if_pos h2]
    have h3 : x ≤ 99 := Int32.le_of_lt h2
    by_cases h : (0 : Int32) ≤ x
    · rw [if_pos h, if_pos h3]
      by_cases h4 : (0 : Int32) < x
      · rw [if_pos h4]
      · rw [if_neg h4]
        exact Int32.le_antisymm h (Int32.not_lt.mp h4)
    · rw [if_neg h, if_neg (fun z => h (Int32.le_of_lt z))]
  · rw [if_neg h2, if_pos (by decide)]
    have h3 : (99 : Int32) ≤ x := Int32.not_lt.mp h2
    rw [if_pos (Int32.le_trans (by decide) h3)]
    by_cases h4 : x ≤ 99
    · rw [if_pos h4]; exact Int32.le_antisymm h3 h4
    · rw [if_neg h4]
/-- a law of the class beside the model's -/
def LawR (c : Nat → Nat → Int32) (t l : Nat) : Prop := (c 162 (10 + 2 * l) = -nI 1 ∧ c (t + 8) (8 + l) = -nI 1) ∨
  ∃ fr n st k sz : Nat, c 162 (10 + 2 * l) = nI fr ∧ c 162 (10 + 2 * l + 1) = nI (fr + n) ∧ fr + n ≤ 500 ∧ SegOK (c 165) (c 166) fr n ∧ c (t + 8) (8 + l) = nI st ∧ Coded (c (t + 8 + 1)) st k ∧ c (t + 8 + 1) (st + k) = -1 - nI 28 ∧ c (t + 8) 5 = nI sz ∧ st + k < sz ∧ sz ≤ 400 ∧
    ∀ vs, ∃ v b, cr (c (t + 8 + 1)) (cvOf vs) st k = some ([v], b) ∧ (bif b then 0 else v) = sv (mr (c 165) (c 166) vs fr n)
theorem LawR.m {c : Nat → Nat → Int32} {t l : Nat} (h : LawR c t l) : LawM c l := by
  rcases h with ⟨e, -⟩ | ⟨fr, n, st, k, sz, e1, e2, e3, e4, -⟩
  · exact Or.inl e
  · exact Or.inr ⟨fr, n, e1, e2, e3, e4⟩
/-- a rule of the class (at cell t + 8 + o, number k) beside the model's -/
def RuleR (c : Nat → Nat → Int32) (t o b k : Nat) : Prop := ∃ f n st kk sz : Nat, c 162 (b + 2 * k) = nI f ∧ c 162 (b + 2 * k + 1) = nI (f + n) ∧ 1 ≤ n ∧ f + n ≤ 200 ∧ (∀ i, i < n → LitOK c (f + i)) ∧ c (t + 8 + o) k = nI st ∧ Coded (c (t + 8 + 1)) st kk ∧ c (t + 8 + 1) (st + kk) = -1 - nI 28 ∧ c (t + 8) 5 = nI sz ∧ st + kk < sz ∧ sz ≤ 400 ∧
    ∀ vs, ∃ v b, cr (c (t + 8 + 1)) (cvOf vs) st kk = some ([v], b) ∧ decide (¬ (bif b then 0 else v) = (0 : Int32)) = heldV c vs f n
theorem RuleR.m {c : Nat → Nat → Int32} {t o b k : Nat} (h : RuleR c t o b k) : RuleOK c b k := by
  obtain ⟨f, n, st, kk, sz, e1, e2, e3, e4, e5, -⟩ := h
  exact ⟨f, n, e1, e2, e3, e4, e5⟩
theorem lawC_ok {mm : MM} {t l : Nat} (ht : isT t) (hl : LawR mm.1 t l) {vs : Nat → Int32} {o : Int32} (ho : mm.1 162 (10 + 2 * l) = -nI 1 → w99 o = 0) (m : MM) (hm : Kq mm m) (hv : Vs t m (cvOf vs)) :
    Runs e_X1_value [.ref (t + 8), .int (mm.1 (t + 8) (8 + l))] m (fun r m' => (∃ x, r = .int x ∧ w99 x = saysV mm.1 vs l o) ∧ Kq mm m' ∧ Vs t m' (cvOf vs)) := by
  rcases hl with ⟨e1, e2⟩ | ⟨fr, n, st, k, sz, e1, e2, e3, e4, e5, e6, e7, e8, e9, e10, e11⟩
  · rw [e2]
    refine runs_to (value_none ht m hm hv) ?_
    rintro r m' ⟨rfl, q1⟩
    refine ⟨⟨0, rfl, ?_⟩, q1⟩
    unfold saysV
    rw [e1, if_pos (by decide), ho e1]
    decide
  · obtain ⟨v, b, f1, f2⟩ := e11 vs
    rw [e5]
    refine runs_to (value_ok ht f1 e6 e7 e8 e9 e10 m hm hv) ?_
    rintro r m' ⟨rfl, q1⟩
    refine ⟨⟨_, rfl, ?_⟩, q1⟩
    unfold saysV
    rw [e1, e2, segV_at e3, if_neg (nI_pos (by omega)), f2]
theorem lcall {e : ME} {as : List Value} {m : MM} {V : Int32} {K : MM → Prop} {A : Int32 → MM → Prop} (h : Runs e as m (fun r m' => (∃ x, r = .int x ∧ w99 x = V) ∧ K m')) (h1 : ∀ x m1, w99 x = V → K m1 → A x m1) : ∃ P : Value → MM → Prop, Runs e as m P ∧ ∀ (r : Int32) (m1 : MM), P (.int r) m1 → A r m1 :=
  ⟨_, h, fun r m1 hr => by
    obtain ⟨⟨x, e1, e2⟩, e3⟩ := hr
    have e1 := Value.int.inj e1
    subst e1
    exact h1 _ m1 e2 e3⟩
def RankR (c : Nat → Nat → Int32) (t s h : Nat) : Prop := (c 163 (30 + h) = -nI 2 ∧ c (s + 2) h = -nI 1) ∨ ∃ o O r : Nat, o < O ∧ O ≤ 12 ∧ c t 9 = nI O ∧ c 163 (30 + h) = nI o ∧ c (s + 2) h = nI o ∧ c (t + 3) o = c 162 (70 + o) ∧ c 162 (70 + o) = nI r ∧ r ≤ 99
theorem RankR.m {c : Nat → Nat → Int32} {t s h : Nat} (hr : RankR c t s h) : RankOK c h := by
  rcases hr with ⟨e, -⟩ | ⟨o, O, r, h1, h2, -, h4, -⟩
  · exact Or.inl e
  · exact Or.inr ⟨o, by omega, h4⟩
theorem RankR.w {c : Nat → Nat → Int32} {t s h : Nat} (hr : RankR c t s h) : w99 (rkV c h) = rkV c h := by
  unfold rkV
  rcases hr with ⟨e, -⟩ | ⟨o, O, r, h1, h2, h3, h4, h5, h6, h7, h8⟩
  · rw [e, if_neg (by decide)]; decide
  · rw [h4, if_pos (nI_pos' (by omega)), nI_clamp (by omega), h7]
    unfold w99
    rw [if_pos (nI_pos' (by omega)), if_pos (show nI r ≤ 99 from nI_le (a := r) (b := 99) h8 (by omega))]
theorem rkC_v {mm m : MM} {t s h : Nat} (ht : isT t) (hs : isS s) (hm : Kq mm m) (hh : h < 16) (hr : RankR mm.1 t s h) : v_X8_rankOf m t s (nI h) = rkV mm.1 h := by
  unfold v_X8_rankOf rkV
  rw [nI_clamp (by omega), hm.s hs 2 (by omega), hm.t0 ht, hm.t3 ht]
  rcases hr with ⟨e, e2⟩ | ⟨o, O, r, h1, h2, h3, h4, h5, h6, h7, h8⟩
  · rw [e2, e, cite_pos (by decide), if_neg (by decide)]
  · rw [h5, h4, h3, cite_neg (nI_pos (by omega)), cite_neg (nI_ge h1 (by omega)), if_pos (nI_pos' (by omega)), nI_clamp (by omega), h6]
theorem rkC_o {mm m : MM} {t s h : Nat} (ht : isT t) (hs : isS s) (hm : Kq mm m) (hh : h < 16) (hr : RankR mm.1 t s h) : o_X8_rankOf m t s (nI h) := by
  unfold o_X8_rankOf
  rw [nI_clamp (by omega), hm.s hs 2 (by omega), hm.t0 ht]
  rcases hr with ⟨e, e2⟩ | ⟨o, O, r, h1, h2, h3, h4, h5, h6, h7, h8⟩
  · rw [e2]
    simp (disch := omega) only [lin, nI_add, pk_mul, s_sub, s_addneg, s_leT, s_leF, s_ltT, s_ltF, s_eqF, s_inT, s_neF, s_neF', s_neE, s_nleT, s_nleF, s_nltF, s_nltT, eq_self, nI_clamp, s_wIk, s_wIo, pk_us, pk_un, Nat.reduceAdd, Nat.reduceMul, Nat.reduceSub, Nat.zero_add, Nat.add_zero, Nat.mul_zero, true_implies, false_implies, implies_true, not_true, not_false, and_true, true_and, not_true_eq_false, not_false_eq_true, forall_const]
  · rw [h5, h3]
    simp (disch := omega) only [lin, nI_add, pk_mul, s_sub, s_addneg, s_leT, s_leF, s_ltT, s_ltF, s_eqF, s_inT, s_neF, s_neF', s_neE, s_nleT, s_nleF, s_nltF, s_nltT, eq_self, nI_clamp, s_wIk, s_wIo, pk_us, pk_un, Nat.reduceAdd, Nat.reduceMul, Nat.reduceSub, Nat.zero_add, Nat.add_zero, Nat.mul_zero, true_implies, false_implies, implies_true, not_true, not_false, and_true, true_and, not_true_eq_false, not_false_eq_true, forall_const]
/-- a house of the class beside the model's -/
def HouR (c : Nat → Nat → Int32) (t s h : Nat) : Prop := h < 16 ∧ RankR c t s h ∧ c (s + 1) h = c 163 (10 + h) ∧ c (t + 2) h = c 162 (20 + 3 * h + 2) ∧ c (t + 1) h = c 162 (20 + 3 * h)
theorem putVars_ok {mm : MM} {t s h : Nat} (ht : isT t) (hs : isS s) (hR : HouR mm.1 t s h) (m : MM) (hm : Kq mm m) :
    Runs e_X8_putVars [.ref t, .ref s, .int (nI h)] m (fun r m' => r = .null ∧ Kq mm m' ∧ Vs t m' (upd (upd (upd (upd (fun _ => 0) 1 (mm.1 163 (10 + h))) 2 (rkV mm.1 h)) 3 (mm.1 162 (20 + 3 * h + 2))) 4 (mm.1 162 (20 + 3 * h)))) := by
  obtain ⟨hh, r1, r2, r3, r4⟩ := hR
  apply b_X8_putVars _ _ _ _ _ ht.at hs.at
  refine vcall (wipe_ok ht m hm) ?_
  rintro m1 ⟨q1, v1⟩
  refine ⟨vp_in_nI hh (by omega), ?_⟩
  refine vcall (put_ok (q := 13) (v' := mm.1 163 (10 + h)) ht (by omega) (by rw [nI_clamp (by omega), q1.s hs 1 (by omega)]; exact r2) m1 q1 v1) ?_
  rintro m2 ⟨q2, v2⟩
  refine ⟨rkC_o ht hs q2 hh r1, ?_⟩
  refine vcall (put_ok (q := 14) ht (by omega) (rkC_v ht hs q2 hh r1) m2 q2 v2) ?_
  rintro m3 ⟨q3, v3⟩
  refine ⟨vp_in_nI hh (by omega), ?_⟩
  refine vcall (put_ok (q := 15) (v' := mm.1 162 (20 + 3 * h + 2)) ht (by omega) (by rw [nI_clamp (by omega), q3.t2 ht]; exact r3) m3 q3 v3) ?_
  rintro m4 ⟨q4, v4⟩
  refine ⟨vp_in_nI hh (by omega), ?_⟩
  refine vcall (put_ok (q := 16) (v' := mm.1 162 (20 + 3 * h)) ht (by omega) (by rw [nI_clamp (by omega), q4.t1 ht]; exact r4) m4 q4 v4) ?_
  rintro m5 ⟨q5, v5⟩
  exact ⟨rfl, q5, v5⟩
theorem tideC_ok {mm : MM} {t s : Nat} (ht : isT t) (hs : isS s) (hL : LawR mm.1 t 0) (hM : mm.1 s 8 = mm.1 163 0) (hr : Int32) (m : MM) (hm : Kq mm m) :
    Runs e_X8_tideAt [.ref t, .ref s, .int hr] m (fun r m' => r = .int (tideV mm.1 hr) ∧ Kq mm m') := by
  apply b_X8_tideAt _ _ _ _ _ ht.at hs.at
  refine vcall (wipe_ok ht m hm) ?_
  rintro m1 ⟨q1, v1⟩
  refine vcall (put_ok (q := 17) ht (by omega) rfl m1 q1 v1) ?_
  rintro m2 ⟨q2, v2⟩
  refine vcall (put_ok (q := 18) (v' := mm.1 163 0) ht (by omega) (by rw [q2.s0 hs]; exact hM) m2 q2 v2) ?_
  rintro m3 ⟨q3, v3⟩
  have v4 : Vs t m3 (cvOf (askT mm.1 hr)) := v3.of (nine rfl rfl rfl rfl rfl rfl rfl rfl rfl)
  rw [q3.l ht 8 rfl]
  refine lcall (lawC_ok (l := 0) (o := 0) ht hL (fun _ => by decide) m3 q3 v4) ?_
  rintro x m4 hx ⟨q4, -⟩
  exact ⟨by rw [held99, hx]; rfl, q4⟩
theorem swayC_ok {mm : MM} {t s h : Nat} (ht : isT t) (hs : isS s) (hL : LawR mm.1 t 2) (hM : mm.1 s 8 = mm.1 163 0) (hR : HouR mm.1 t s h) (w : Int32) (m : MM) (hm : Kq mm m) :
    Runs e_X8_swayOf [.ref t, .ref s, .int (nI h), .int w] m (fun r m' => r = .int (swayV mm.1 h w) ∧ Kq mm m' ∧ Vs t m' (cvOf (askL mm.1 h w))) := by
  apply b_X8_swayOf _ _ _ _ _ _ ht.at hs.at
  refine vcall (putVars_ok ht hs hR m hm) ?_
  rintro m1 ⟨q1, v1⟩
  refine vcall (put_ok (q := 18) (v' := mm.1 163 0) ht (by omega) (by rw [q1.s0 hs]; exact hM) m1 q1 v1) ?_
  rintro m2 ⟨q2, v2⟩
  refine vcall (put_ok (q := 19) ht (by omega) rfl m2 q2 v2) ?_
  rintro m3 ⟨q3, v3⟩
  have v4 : Vs t m3 (cvOf (askL mm.1 h w)) := v3.of (nine rfl rfl rfl rfl rfl rfl rfl rfl rfl)
  rw [q3.l ht 10 rfl]
  refine lcall (lawC_ok (l := 2) (o := 0) ht hL (fun _ => by decide) m3 q3 v4) ?_
  rintro x m4 hx ⟨q4, v5⟩
  exact ⟨by rw [held99, hx]; rfl, q4, v5⟩
theorem dueC_ok {mm : MM} {t s h : Nat} (ht : isT t) (hs : isS s) (hL : LawR mm.1 t 1) (hR : HouR mm.1 t s h) (m : MM) (hm : Kq mm m) :
    Runs e_X8_dueOf [.ref t, .ref s, .int (nI h)] m (fun r m' => r = .int (dueV mm.1 h) ∧ Kq mm m') := by
  apply b_X8_dueOf _ _ _ _ _ ht.at hs.at
  rw [hm.l ht 9 rfl]
  have hcase : mm.1 (t + 8) 9 = -nI 1 ∧ mm.1 162 12 = -nI 1 ∨ ∃ st fr : Nat, st < 2 ^ 31 ∧ mm.1 (t + 8) 9 = nI st ∧ fr < 2 ^ 31 ∧ mm.1 162 12 = nI fr := by
    rcases hL with ⟨e1, e2⟩ | ⟨fr, n, st, k, sz, e1, e2, e3, e4, e5, e6, e7, e8, e9, e10, e11⟩
    · exact Or.inl ⟨e2, e1⟩
    · exact Or.inr ⟨st, fr, by omega, e5, by omega, e1⟩
  rcases hcase with ⟨e, e2⟩ | ⟨st, fr, hst, e, hfr, e2⟩
  · refine ⟨fun z => absurd e z, fun _ => ⟨rkC_o ht hs hm hR.1 hR.2.1, ?_, hm⟩⟩
    rw [rkC_v ht hs hm hR.1 hR.2.1]
    unfold dueV saysV
    rw [show 10 + 2 * 1 = 12 from rfl, e2, if_pos (by decide), hR.2.1.w]
  · refine ⟨fun _ => ?_, fun z => ?_⟩
    · refine vcall (putVars_ok ht hs hR m hm) ?_
      rintro m1 ⟨q1, v1⟩
      refine vcall (put_ok (q := 13) ht (by omega) rfl m1 q1 v1) ?_
      rintro m2 ⟨q2, v2⟩
      have v4 : Vs t m2 (cvOf (askD mm.1 h)) := v2.of (nine rfl rfl rfl rfl rfl rfl rfl rfl rfl)
      rw [q2.l ht 9 rfl]
      refine lcall (lawC_ok (l := 1) (o := rkV mm.1 h) ht hL (fun z => ?_) m2 q2 v4) ?_
      · rw [show 10 + 2 * 1 = 12 from rfl, e2] at z
        exact absurd z (of_eq_false (s_neF (b := 1) (Or.inr (by omega)) hfr (by omega)))
      · rintro x m4 hx ⟨q4, -⟩
        exact ⟨by rw [held99, hx]; rfl, q4⟩
    · rw [e] at z
      exact absurd z (of_eq_false (s_neF (b := 1) (Or.inr (by omega)) hst (by omega)))
theorem someHolds_ok {mm : MM} {t o b N : Nat} (ht : isT t) (ho : o = 2 ∨ o = 3) (hN4 : N ≤ 4) {vs : Nat → Int32} (hr : ∀ k, k < N → RuleR mm.1 t o b k) (m : MM) (hm : Kq mm m) (hv : Vs t m (cvOf vs)) :
    Runs e_X1_someHolds [.ref (t + 8), .ref (t + 8 + o), .int (nI N)] m (fun r m' => r = .int (bI (anyV (ruleV mm.1 vs b) N)) ∧ Kq mm m') := by
  have hsh : SHL[t + 8 + o]? = some (.inl (0, 4, 0, 0)) := by
    rcases ho with rfl | rfl
    · exact AtLaws_2 ht.at.laws
    · exact AtLaws_3 ht.at.laws
  have hrow : ∀ m, Kq mm m → m.1 (t + 8 + o) = mm.1 (t + 8 + o) := by
    intro m hm
    rcases ho with rfl | rfl
    · exact hm.t10 ht
    · exact hm.t11 ht
  apply b_X1_someHolds _ _ _ _ _ ht.at.laws hsh
  refine for_up (fun k => [(0, .ref (t + 8)), (1, .ref (t + 8 + o)), (2, .int (nI N)), (3, .int (nI k))]) (fun k m => Kq mm m ∧ Vs t m (cvOf vs) ∧ anyV (ruleV mm.1 vs b) k = false) N ?_ ?_ 0 _ (Nat.zero_le _) ⟨hm, hv, rfl⟩
  · rintro m ⟨k1, k2, k3⟩
    apply b_X1_someHolds_2 _ _ _ _ _ _ ht.at.laws hsh
    simp (disch := omega) only [lin, nI_add, pk_mul, s_sub, s_addneg, s_leT, s_leF, s_ltT, s_ltF, s_eqF, s_inT, s_neF, s_neF', s_neE, s_nleT, s_nleF, s_nltF, s_nltT, eq_self, nI_clamp, s_wIk, s_wIo, pk_us, pk_un, Nat.reduceAdd, Nat.reduceMul, Nat.reduceSub, Nat.zero_add, Nat.add_zero, Nat.mul_zero, true_implies, false_implies, implies_true, not_true, not_false, and_true, true_and, not_true_eq_false, not_false_eq_true, forall_const]
    exact ⟨by rw [k3]; rfl, k1⟩
  · rintro k m hk ⟨k1, k2, k3⟩ hn
    obtain ⟨f, n, st, kk, sz, e1, e2, e3, e4, e5, e6, e7, e8, e9, e10, e11, e12⟩ := hr k hk
    obtain ⟨v, bb, f1, f2⟩ := e12 vs
    have hvv : ruleV mm.1 vs b k = heldV mm.1 vs f n := by
      unfold ruleV
      rw [e1, e2, nI_clamp (by omega), nI_clamp (by omega), show f + n - f = n by omega]
    apply b_X1_someHolds_2 _ _ _ _ _ _ ht.at.laws hsh
    simp (disch := omega) only [lin, nI_add, pk_mul, s_sub, s_addneg, s_leT, s_leF, s_ltT, s_ltF, s_eqF, s_inT, s_neF, s_neF', s_neE, s_nleT, s_nleF, s_nltF, s_nltT, eq_self, nI_clamp, s_wIk, s_wIo, pk_us, pk_un, Nat.reduceAdd, Nat.reduceMul, Nat.reduceSub, Nat.zero_add, Nat.add_zero, Nat.mul_zero, true_implies, false_implies, implies_true, not_true, not_false, and_true, true_and, not_true_eq_false, not_false_eq_true, forall_const, hrow m k1, e6]
    refine icall (value_ok ht f1 e7 e8 e9 e10 e11 m k1 k2) ?_
    rintro m1 ⟨q1, q2⟩
    refine ⟨fun z => ?_, fun z => ?_⟩
    · refine hn m1 ⟨q1, q2, ?_⟩
      unfold anyV
      have z : (bif bb then 0 else v) = (0 : Int32) := z
      rw [k3, hvv, ← f2, z]
      decide
    · refine ⟨?_, q1⟩
      rw [anyV_yes (k := k) (hvv.trans (by rw [← f2]; exact decide_eq_true z)) hk]
      rfl
theorem badC_ok {mm : MM} {t s h B : Nat} (ht : isT t) (hs : isS s) (hL : LawR mm.1 t 2) (hM : mm.1 s 8 = mm.1 163 0) (hR : HouR mm.1 t s h) (hB : mm.1 162 9 = nI B) (hB2 : mm.1 (t + 8) 12 = nI B) (hB4 : B ≤ 4) (hr : ∀ k, k < B → RuleR mm.1 t 3 200 k) (m : MM) (hm : Kq mm m) :
    Runs e_X8_isBad [.ref t, .ref s, .int (nI h)] m (fun r m' => r = .int (bI (badV mm.1 h)) ∧ Kq mm m') := by
  have hv : badV mm.1 h = anyV (ruleV mm.1 (upd (askL mm.1 h 0) 8 (swayV mm.1 h 0)) 200) B := by unfold badV; rw [hB, nI_clamp (by omega)]
  apply b_X8_isBad _ _ _ _ _ ht.at hs.at
  refine icall (swayC_ok ht hs hL hM hR 0 m hm) ?_
  rintro m1 ⟨q1, v1⟩
  refine vcall (put_ok (q := 12) ht (by omega) rfl m1 q1 v1) ?_
  rintro m2 ⟨q2, v2⟩
  have v4 : Vs t m2 (cvOf (upd (askL mm.1 h 0) 8 (swayV mm.1 h 0))) := v2.of (nine rfl rfl rfl rfl rfl rfl rfl rfl rfl)
  rw [q2.l ht 12 rfl, hB2]
  refine bcall (someHolds_ok ht (Or.inr rfl) hB4 hr m2 q2 v4) ?_ ?_
  · intro el m3 q4
    exact ⟨by rw [hv, el]; rfl, q4⟩
  · intro el m3 q4
    exact ⟨by rw [hv, el]; rfl, q4⟩
theorem fallC_ok {mm : MM} {t s h B : Nat} (ht : isT t) (hs : isS s) (hL : LawR mm.1 t 2) (hM : mm.1 s 8 = mm.1 163 0) (hR : HouR mm.1 t s h) (hB : mm.1 162 8 = nI B) (hB2 : mm.1 (t + 8) 11 = nI B) (hB4 : B ≤ 4) (hr : ∀ k, k < B → RuleR mm.1 t 2 190 k) (w g : Int32) (m : MM) (hm : Kq mm m) :
    Runs e_X8_hasToFall [.ref t, .ref s, .int (nI h), .int w, .int g] m (fun r m' => r = .int (bI (fallV mm.1 h w g)) ∧ Kq mm m') := by
  have hv : fallV mm.1 h w g = anyV (ruleV mm.1 (upd (upd (askL mm.1 h w) 7 g) 8 (swayV mm.1 h w)) 190) B := by unfold fallV; rw [hB, nI_clamp (by omega)]
  apply b_X8_hasToFall _ _ _ _ _ _ _ ht.at hs.at
  refine icall (swayC_ok ht hs hL hM hR w m hm) ?_
  rintro m1 ⟨q1, v1⟩
  refine vcall (put_ok (q := 12) ht (by omega) rfl m1 q1 v1) ?_
  rintro m2 ⟨q2, v2⟩
  refine vcall (put_ok (q := 20) ht (by omega) rfl m2 q2 v2) ?_
  rintro m3 ⟨q3, v3⟩
  have v4 : Vs t m3 (cvOf (upd (upd (askL mm.1 h w) 7 g) 8 (swayV mm.1 h w))) := v3.of (nine rfl rfl rfl rfl rfl rfl rfl rfl rfl)
  rw [q3.l ht 11 rfl, hB2]
  refine bcall (someHolds_ok ht (Or.inl rfl) hB4 hr m3 q3 v4) ?_ ?_
  · intro el m3 q4
    exact ⟨by rw [hv, el]; rfl, q4⟩
  · intro el m3 q4
    exact ⟨by rw [hv, el]; rfl, q4⟩

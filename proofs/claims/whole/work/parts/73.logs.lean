/-! logs: what is void, votes -/
def lK (c : Nat → Nat → Int32) (i : Nat) : Int32 := c 163 (180 + 4 * i)
def lA (c : Nat → Nat → Int32) (i : Nat) : Int32 := c 163 (180 + 4 * i + 1)
def lB (c : Nat → Nat → Int32) (i : Nat) : Int32 := c 163 (180 + 4 * i + 2)
def lC (c : Nat → Nat → Int32) (i : Nat) : Int32 := c 163 (180 + 4 * i + 3)
def LogS (c : Nat → Nat → Int32) (s H O i : Nat) : Prop :=
  (c (s + 7 + 1) i = lK c i ∧ c (s + 7 + 2) i = lA c i ∧ c (s + 7 + 3) i = lB c i ∧ c (s + 7 + 4) i = lC c i) ∧
  ((lK c i = nI 0 ∧ (∃ x y z : Nat, x < H ∧ y < O ∧ z < H ∧ lA c i = nI x ∧ lB c i = nI y ∧ lC c i = nI z)) ∨
   (lK c i = nI 1 ∧ (∃ x y z : Nat, x < H ∧ y ≤ 99 ∧ z ≤ 99 ∧ lA c i = nI x ∧ lB c i = nI y ∧ lC c i = nI z)) ∨
   (lK c i = nI 2 ∧ ∃ k : Nat, k < i ∧ lA c i = nI k))
theorem BodyR.logs {c : Nat → Nat → Int32} {t s H O S Qn W C J F B : Nat} (h : BodyR c t s H O S Qn W C J F B) : ∃ n : Nat, n ≤ 60 ∧ c 163 2 = nI n ∧ c (s + 7) 6 = nI n ∧ ∀ i, i < n → LogS c s H O i := by
  obtain ⟨n, h1, h2, h3, h4⟩ := h.2.1.2.2.2.2.2.2
  refine ⟨n, h1, h2, h3, fun i hi => ?_⟩
  have := h4 i hi
  unfold LogR at this
  simp only [Nat.zero_add] at this
  exact this
theorem Kq.lg {mm m : MM} (h : Kq mm m) {s : Nat} (hs : isS s) (i : Nat) (hi : i < 5) : m.1 (s + 7 + i) = mm.1 (s + 7 + i) := by
  have e : s + 7 + i = s + (7 + i) := by omega
  rw [e]
  exact h.s hs (7 + i) (by omega)
def SV (c : Nat → Nat → Int32) (n k : Nat) : Bool := anyV (fun j => decide (lK c j = nI 2) && decide (lA c j = nI k)) n
theorem SV_S (c : Nat → Nat → Int32) (n k : Nat) : SV c (n + 1) k = (SV c n k || (decide (lK c n = nI 2) && decide (lA c n = nI k))) := rfl
theorem nar_b0 : vp_nar .boolean (0 : Int32) = bI false := by decide
theorem nar_b1 : vp_nar .boolean (1 : Int32) = bI true := by decide
theorem SHL60 : (60 : Nat) < 2 ^ 31 := by decide
theorem strike_ok {mm : MM} {s H O N n : Nat} (hs : isS s) (hN : N ≤ 60) (eN : mm.1 (s + 7) 6 = nI N) (hl : ∀ i, i < N → LogS mm.1 s H O i) (hn : n ≤ N) (m : MM) (hm : Kq mm m) :
    Runs e_X2_strike [.ref (s + 7), .int (nI n)] m (fun r m' => r = .null ∧ Kq mm m' ∧ ∀ k, k < 60 → m'.1 (s + 7 + 5) k = bI (SV mm.1 n k)) := by
  have hL := hs.at.logs
  apply b_X2_strike _ _ _ _ hL
  refine for_up (fun q => [(0, .ref (s + 7)), (1, .int (nI n)), (2, .int (nI q))]) (fun q m => Kq mm m ∧ ∀ k, k < q → m.1 (s + 7 + 5) k = bI false) 60 ?_ ?_ 0 _ (Nat.zero_le _) ⟨hm, fun k hk => absurd hk (Nat.not_lt_zero _)⟩
  · rintro m ⟨k1, k2⟩
    apply b_X2_strike_2 _ _ _ _ _ hL
    refine ⟨fun _ => ?_, fun z => absurd (show (60 : Int32) ≤ nI 60 by decide) z⟩
    refine for_up (fun q => [(0, .ref (s + 7)), (1, .int (nI n)), (2, .int (nI q))]) (fun q m => Kq mm m ∧ ∀ k, k < 60 → m.1 (s + 7 + 5) k = bI (SV mm.1 q k)) n ?_ ?_ 0 _ (Nat.zero_le _) ⟨k1, k2⟩
    · rintro m ⟨k1, k2⟩
      apply b_X2_strike_23 _ _ _ _ _ hL
      exact ⟨fun _ => ⟨rfl, k1, k2⟩, fun z => absurd (nI_le (Nat.le_refl n) (by omega)) z⟩
    · rintro q m hq ⟨k1, k2⟩ hk
      obtain ⟨⟨r1, r2, r3, r4⟩, hkind⟩ := hl q (by omega)
      have v := vp_in_nI (n := q) (N := 60) (by omega) (by omega)
      apply b_X2_strike_23 _ _ _ _ _ hL
      rw [nI_clamp (show q < 2 ^ 31 by omega), k1.lg hs 1 (by omega), k1.lg hs 2 (by omega), r1, r2, k1.lg hs 0 (by omega), nI_1 q]
      have eN' : mm.1 (s + 7 + 0) 6 = nI N := eN
      rw [eN']
      have skip : ¬ lK mm.1 q = nI 2 → G e_X2_strike 23 [(0, .ref (s + 7)), (1, .int (nI n)), (2, .int (nI (q + 1)))] [] m _ := fun d => hk m ⟨k1, fun k hk => by rw [SV_S, k2 k hk, decide_eq_false d]; simp⟩
      refine ⟨fun z => absurd z (nI_ge hq (by omega)), fun _ => ⟨fun z => absurd z (nI_ge (show q < N by omega) (by omega)), fun _ => ⟨v, fun d => skip d, fun d => ⟨v, ?_⟩⟩⟩⟩
      have d : lK mm.1 q = nI 2 := d
      rcases hkind with ⟨e, -⟩ | ⟨e, -⟩ | ⟨e, k, hk', ek⟩
      · rw [e] at d; exact absurd d (by decide)
      · rw [e] at d; exact absurd d (by decide)
      · rw [ek, nI_clamp (show k < 2 ^ 31 by omega)]
        refine ⟨fun z => absurd z (nI_pos (by omega)), fun _ => ⟨v, fun z => absurd z (nI_ge (a := k) (b := 60) (by omega) (by omega)), fun _ => ⟨v, vp_in_nI (by omega) (by omega), ?_⟩⟩⟩
        refine hk _ ⟨k1.w _ (kq_str hs k), fun j hj => ?_⟩
        rw [SV_S, wI_k, decide_eq_true e, ek, nar_b1]
        by_cases c : j = k
        · subst c; rw [pk_us]; simp
        · rw [pk_un c, k2 j hj, decide_eq_false (fun z => c ((nI_eq (by omega) (by omega)).mp z).symm)]; simp
  · rintro q m hq ⟨k1, k2⟩ hk
    apply b_X2_strike_2 _ _ _ _ _ hL
    rw [nI_clamp (show q < 2 ^ 31 by omega), nI_1 q, nar_b0]
    refine ⟨fun z => absurd z (nI_ge (a := q) (b := 60) hq (by omega)), fun _ => ⟨vp_in_nI (by omega) (by omega), hk _ ⟨k1.w _ (kq_str hs q), fun k hk => ?_⟩⟩⟩
    rw [wI_k]
    by_cases c : k = q
    · subst c; rw [pk_us]
    · rw [pk_un c]; exact k2 k (by omega)
theorem isLive_ok {mm : MM} {s H O N n k : Nat} (hN : N ≤ 60) (hl : ∀ i, i < N → LogS mm.1 s H O i) (hn : n ≤ N) (hk : k < n) (m : MM) (hm : Kq mm m) :
    Runs e_X12_isLive [.ref 156, .int (nI k), .int (nI n)] m (fun r m' => r = .int (bI (!SV mm.1 n k)) ∧ Kq mm m') := by
  have hlow : ∀ q, q ≤ k + 1 → SV mm.1 q k = false := by
    intro q
    induction q with
    | zero => intro _; rfl
    | succ q ih =>
      intro hq
      rw [SV_S, ih (by omega)]
      rcases (hl q (by omega)).2 with ⟨e, -⟩ | ⟨e, -⟩ | ⟨e, k', hk', ek⟩
      · rw [e]; simp; exact fun z => absurd z (by decide)
      · rw [e]; simp; exact fun z => absurd z (by decide)
      · rw [ek, decide_eq_false (show ¬ nI k' = nI k from fun z => by have := (nI_eq (by omega) (by omega)).mp z; omega)]; simp
  apply b_X12_isLive
  rw [nI_1 k]
  refine for_up (fun q => [(0, .ref 156), (1, .int (nI k)), (2, .int (nI n)), (3, .int (nI (k + 1 + q)))]) (fun q m => Kq mm m ∧ SV mm.1 (k + 1 + q) k = false) (n - (k + 1)) ?_ ?_ 0 _ (Nat.zero_le _) ⟨hm, hlow _ (Nat.le_refl _)⟩
  · rintro m ⟨k1, k2⟩
    have e : k + 1 + (n - (k + 1)) = n := by omega
    rw [e] at k2
    simp only [e]
    apply b_X12_isLive_4
    exact ⟨fun _ => ⟨by rw [k2]; rfl, k1⟩, fun z => absurd (nI_le (Nat.le_refl n) (by omega)) z⟩
  · rintro q m hq ⟨k1, k2⟩ hk2
    have hj : k + 1 + q < n := by omega
    generalize hjj : k + 1 + q = j at *
    have e9 : k + 1 + (q + 1) = j + 1 := by omega
    simp only [e9] at hk2
    have i1 : ((180 : Int32) + 4 * nI j).toNatClampNeg = 180 + 4 * j := by simp (disch := omega) only [lin, nI_add, pk_mul, s_sub, s_addneg, s_leT, s_leF, s_ltT, s_ltF, s_eqF, s_inT, s_neF, s_neF', s_neE, s_nleT, s_nleF, s_nltF, s_nltT, eq_self, nI_clamp, s_wIk, s_wIo, pk_us, pk_un, Nat.reduceAdd, Nat.reduceMul, Nat.reduceSub, Nat.zero_add, Nat.add_zero, Nat.mul_zero, true_implies, false_implies, implies_true, not_true, not_false, and_true, true_and, not_true_eq_false, not_false_eq_true, forall_const]
    have i2 : ((180 : Int32) + 4 * nI j + 1).toNatClampNeg = 180 + 4 * j + 1 := by simp (disch := omega) only [lin, nI_add, pk_mul, s_sub, s_addneg, s_leT, s_leF, s_ltT, s_ltF, s_eqF, s_inT, s_neF, s_neF', s_neE, s_nleT, s_nleF, s_nltF, s_nltT, eq_self, nI_clamp, s_wIk, s_wIo, pk_us, pk_un, Nat.reduceAdd, Nat.reduceMul, Nat.reduceSub, Nat.zero_add, Nat.add_zero, Nat.mul_zero, true_implies, false_implies, implies_true, not_true, not_false, and_true, true_and, not_true_eq_false, not_false_eq_true, forall_const]
    have v1 : vp_in ((180 : Int32) + 4 * nI j) 1260 := by simp (disch := omega) only [lin, nI_add, pk_mul, s_sub, s_addneg, s_leT, s_leF, s_ltT, s_ltF, s_eqF, s_inT, s_neF, s_neF', s_neE, s_nleT, s_nleF, s_nltF, s_nltT, eq_self, nI_clamp, s_wIk, s_wIo, pk_us, pk_un, Nat.reduceAdd, Nat.reduceMul, Nat.reduceSub, Nat.zero_add, Nat.add_zero, Nat.mul_zero, true_implies, false_implies, implies_true, not_true, not_false, and_true, true_and, not_true_eq_false, not_false_eq_true, forall_const]
    have v2 : vp_in ((180 : Int32) + 4 * nI j + 1) 1260 := by simp (disch := omega) only [lin, nI_add, pk_mul, s_sub, s_addneg, s_leT, s_leF, s_ltT, s_ltF, s_eqF, s_inT, s_neF, s_neF', s_neE, s_nleT, s_nleF, s_nltF, s_nltT, eq_self, nI_clamp, s_wIk, s_wIo, pk_us, pk_un, Nat.reduceAdd, Nat.reduceMul, Nat.reduceSub, Nat.zero_add, Nat.add_zero, Nat.mul_zero, true_implies, false_implies, implies_true, not_true, not_false, and_true, true_and, not_true_eq_false, not_false_eq_true, forall_const]
    apply b_X12_isLive_4
    rw [i1, i2, k1.r163, nI_1 j]
    refine ⟨fun z => absurd z (nI_ge hj (by omega)), fun _ => ⟨v1, fun d => hk2 m ⟨k1, ?_⟩, fun d => ⟨v2, fun e => hk2 m ⟨k1, ?_⟩, fun e => ⟨?_, k1⟩⟩⟩⟩
    · have d : ¬ lK mm.1 j = nI 2 := d
      rw [SV_S, k2, decide_eq_false d]; rfl
    · have e : ¬ lA mm.1 j = nI k := e
      rw [SV_S, k2, decide_eq_false e, Bool.and_false]; rfl
    · have d : lK mm.1 j = nI 2 := d
      have e : lA mm.1 j = nI k := e
      have : SV mm.1 n k = true := anyV_yes (k := j) (by rw [decide_eq_true d, decide_eq_true e]; rfl) hj
      rw [this]; rfl
/-- the last vote of h for the office o among the first n, N known -/
def vt (c : Nat → Nat → Int32) (h o N k : Nat) : Bool := decide (lK c k = nI 0) && (!SV c N k && (decide (lA c k = nI h) && decide (lB c k = nI o)))
def lcV (c : Nat → Nat → Int32) (h o N : Nat) : Nat → Int32
  | 0 => -1
  | k + 1 => bif vt c h o N k then lC c k else lcV c h o N k
theorem lcV_S (c : Nat → Nat → Int32) (h o N k : Nat) : lcV c h o N (k + 1) = bif vt c h o N k then lC c k else lcV c h o N k := rfl
theorem last_ok {mm : MM} {s H O N n h o : Nat} (hs : isS s) (hN : N ≤ 60) (eN : mm.1 (s + 7) 6 = nI N) (hl : ∀ i, i < N → LogS mm.1 s H O i) (hn : n ≤ N) (m : MM) (hm : Kq mm m) (hst : ∀ k, k < 60 → m.1 (s + 7 + 5) k = bI (SV mm.1 n k)) :
    Runs e_X2_lastChoice [.ref (s + 7), .int (nI h), .int (nI o), .int (nI n)] m (fun r m' => r = .int (lcV mm.1 h o n n) ∧ m' = m) := by
  have hL := hs.at.logs
  apply b_X2_lastChoice _ _ _ _ _ _ hL
  refine for_up (fun q => [(0, .ref (s + 7)), (1, .int (nI h)), (2, .int (nI o)), (3, .int (nI n)), (4, .int (lcV mm.1 h o n q)), (5, .int (nI q))]) (fun q m' => m' = m) n ?_ ?_ 0 _ (Nat.zero_le _) rfl
  · rintro m' rfl
    apply b_X2_lastChoice_6 _ _ _ _ _ _ _ _ hL
    exact ⟨fun _ => ⟨rfl, rfl⟩, fun z => absurd (nI_le (Nat.le_refl n) (by omega)) z⟩
  · rintro q m' hq rfl hk
    obtain ⟨⟨r1, r2, r3, r4⟩, -⟩ := hl q (by omega)
    have v := vp_in_nI (n := q) (N := 60) (by omega) (by omega)
    have hk2 := hk m' rfl
    simp only [lcV_S] at hk2
    apply b_X2_lastChoice_6 _ _ _ _ _ _ _ _ hL
    rw [nI_clamp (show q < 2 ^ 31 by omega), hm.lg hs 1 (by omega), hm.lg hs 2 (by omega), hm.lg hs 3 (by omega), hm.lg hs 4 (by omega), r1, r2, r3, r4, hst q (by omega), nI_1 q, bI_eq]
    have e0 : m'.1 (s + 7) 6 = nI N := by rw [show m'.1 (s + 7) = mm.1 (s + 7) from hm.lg hs 0 (by omega)]; exact eN
    rw [e0]
    unfold vt at hk2
    refine ⟨fun z => absurd z (nI_ge hq (by omega)), fun _ => ⟨fun z => absurd z (nI_ge (show q < N by omega) (by omega)), fun _ => ⟨v, fun d1 => ?_, fun d1 => ⟨v, fun d2 => ?_, fun d2 => ⟨v, fun d3 => ?_, fun d3 => ⟨v, fun d4 => ?_, fun d4 => ⟨v, ?_⟩⟩⟩⟩⟩⟩⟩
    · rw [decide_eq_false (show ¬ lK mm.1 q = nI 0 from d1), Bool.false_and] at hk2
      exact hk2
    · rw [Bool.not_eq_false] at d2
      rw [d2, Bool.not_true, Bool.false_and, Bool.and_false] at hk2
      exact hk2
    · rw [decide_eq_false d3, Bool.false_and, Bool.and_false, Bool.and_false] at hk2
      exact hk2
    · rw [decide_eq_false d4, Bool.and_false, Bool.and_false, Bool.and_false] at hk2
      exact hk2
    · rw [decide_eq_true (show lK mm.1 q = nI 0 from d1), d2, decide_eq_true d3, decide_eq_true d4] at hk2
      exact hk2
theorem voteOf_ok {mm : MM} {s H O N n h o : Nat} (hN : N ≤ 60) (hl : ∀ i, i < N → LogS mm.1 s H O i) (hn : n ≤ N) (m : MM) (hm : Kq mm m) :
    Runs e_X12_voteOf [.ref 156, .int (nI h), .int (nI o), .int (nI n)] m (fun r m' => r = .int (lcV mm.1 h o n n) ∧ Kq mm m') := by
  apply b_X12_voteOf
  refine loop_mu (σ := Nat) (fun r => [(0, .ref 156), (1, .int (nI h)), (2, .int (nI o)), (3, .int (nI n)), (4, .int (nI r - 1))]) (fun r m => Kq mm m ∧ r ≤ n ∧ lcV mm.1 h o n r = lcV mm.1 h o n n) (fun r => r) ?_ n m ⟨hm, Nat.le_refl _, rfl⟩
  rintro r m ⟨k1, k2, k3⟩ hk
  apply b_X12_voteOf_5
  cases r with
  | zero =>
    refine ⟨fun _ => ⟨by rw [← k3]; rfl, k1⟩, fun z => absurd (show nI 0 - 1 < 0 by decide) z⟩
  | succ r =>
    rw [nI_pred r]
    have i1 : ((180 : Int32) + 4 * nI r).toNatClampNeg = 180 + 4 * r := by simp (disch := omega) only [lin, nI_add, pk_mul, s_sub, s_addneg, s_leT, s_leF, s_ltT, s_ltF, s_eqF, s_inT, s_neF, s_neF', s_neE, s_nleT, s_nleF, s_nltF, s_nltT, eq_self, nI_clamp, s_wIk, s_wIo, pk_us, pk_un, Nat.reduceAdd, Nat.reduceMul, Nat.reduceSub, Nat.zero_add, Nat.add_zero, Nat.mul_zero, true_implies, false_implies, implies_true, not_true, not_false, and_true, true_and, not_true_eq_false, not_false_eq_true, forall_const]
    have i2 : ((180 : Int32) + 4 * nI r + 1).toNatClampNeg = 180 + 4 * r + 1 := by simp (disch := omega) only [lin, nI_add, pk_mul, s_sub, s_addneg, s_leT, s_leF, s_ltT, s_ltF, s_eqF, s_inT, s_neF, s_neF', s_neE, s_nleT, s_nleF, s_nltF, s_nltT, eq_self, nI_clamp, s_wIk, s_wIo, pk_us, pk_un, Nat.reduceAdd, Nat.reduceMul, Nat.reduceSub, Nat.zero_add, Nat.add_zero, Nat.mul_zero, true_implies, false_implies, implies_true, not_true, not_false, and_true, true_and, not_true_eq_false, not_false_eq_true, forall_const]
    have i3 : ((180 : Int32) + 4 * nI r + 2).toNatClampNeg = 180 + 4 * r + 2 := by simp (disch := omega) only [lin, nI_add, pk_mul, s_sub, s_addneg, s_leT, s_leF, s_ltT, s_ltF, s_eqF, s_inT, s_neF, s_neF', s_neE, s_nleT, s_nleF, s_nltF, s_nltT, eq_self, nI_clamp, s_wIk, s_wIo, pk_us, pk_un, Nat.reduceAdd, Nat.reduceMul, Nat.reduceSub, Nat.zero_add, Nat.add_zero, Nat.mul_zero, true_implies, false_implies, implies_true, not_true, not_false, and_true, true_and, not_true_eq_false, not_false_eq_true, forall_const]
    have i4 : ((180 : Int32) + 4 * nI r + 3).toNatClampNeg = 180 + 4 * r + 3 := by simp (disch := omega) only [lin, nI_add, pk_mul, s_sub, s_addneg, s_leT, s_leF, s_ltT, s_ltF, s_eqF, s_inT, s_neF, s_neF', s_neE, s_nleT, s_nleF, s_nltF, s_nltT, eq_self, nI_clamp, s_wIk, s_wIo, pk_us, pk_un, Nat.reduceAdd, Nat.reduceMul, Nat.reduceSub, Nat.zero_add, Nat.add_zero, Nat.mul_zero, true_implies, false_implies, implies_true, not_true, not_false, and_true, true_and, not_true_eq_false, not_false_eq_true, forall_const]
    have v1 : vp_in ((180 : Int32) + 4 * nI r) 1260 := by simp (disch := omega) only [lin, nI_add, pk_mul, s_sub, s_addneg, s_leT, s_leF, s_ltT, s_ltF, s_eqF, s_inT, s_neF, s_neF', s_neE, s_nleT, s_nleF, s_nltF, s_nltT, eq_self, nI_clamp, s_wIk, s_wIo, pk_us, pk_un, Nat.reduceAdd, Nat.reduceMul, Nat.reduceSub, Nat.zero_add, Nat.add_zero, Nat.mul_zero, true_implies, false_implies, implies_true, not_true, not_false, and_true, true_and, not_true_eq_false, not_false_eq_true, forall_const]
    have v2 : vp_in ((180 : Int32) + 4 * nI r + 1) 1260 := by simp (disch := omega) only [lin, nI_add, pk_mul, s_sub, s_addneg, s_leT, s_leF, s_ltT, s_ltF, s_eqF, s_inT, s_neF, s_neF', s_neE, s_nleT, s_nleF, s_nltF, s_nltT, eq_self, nI_clamp, s_wIk, s_wIo, pk_us, pk_un, Nat.reduceAdd, Nat.reduceMul, Nat.reduceSub, Nat.zero_add, Nat.add_zero, Nat.mul_zero, true_implies, false_implies, implies_true, not_true, not_false, and_true, true_and, not_true_eq_false, not_false_eq_true, forall_const]
    have v3 : vp_in ((180 : Int32) + 4 * nI r + 2) 1260 := by simp (disch := omega) only [lin, nI_add, pk_mul, s_sub, s_addneg, s_leT, s_leF, s_ltT, s_ltF, s_eqF, s_inT, s_neF, s_neF', s_neE, s_nleT, s_nleF, s_nltF, s_nltT, eq_self, nI_clamp, s_wIk, s_wIo, pk_us, pk_un, Nat.reduceAdd, Nat.reduceMul, Nat.reduceSub, Nat.zero_add, Nat.add_zero, Nat.mul_zero, true_implies, false_implies, implies_true, not_true, not_false, and_true, true_and, not_true_eq_false, not_false_eq_true, forall_const]
    have v4 : vp_in ((180 : Int32) + 4 * nI r + 3) 1260 := by simp (disch := omega) only [lin, nI_add, pk_mul, s_sub, s_addneg, s_leT, s_leF, s_ltT, s_ltF, s_eqF, s_inT, s_neF, s_neF', s_neE, s_nleT, s_nleF, s_nltF, s_nltT, eq_self, nI_clamp, s_wIk, s_wIo, pk_us, pk_un, Nat.reduceAdd, Nat.reduceMul, Nat.reduceSub, Nat.zero_add, Nat.add_zero, Nat.mul_zero, true_implies, false_implies, implies_true, not_true, not_false, and_true, true_and, not_true_eq_false, not_false_eq_true, forall_const]
    have e5 : nI r + (-1) = nI r - 1 := (Int32.sub_eq_add_neg _ _).symm
    rw [i1, i2, i3, i4, k1.r163, e5]
    have skip : ∀ m', Kq mm m' → vt mm.1 h o n r = false → _ := fun m' hm' ev => hk r m' ⟨hm', by omega, by rw [← k3, lcV_S, ev]; rfl⟩ (Nat.lt_succ_self r)
    refine ⟨fun z => absurd z (nI_pos (by omega)), fun _ => ⟨v1, fun d1 => skip m k1 ?_, fun d1 => ⟨v2, fun d2 => skip m k1 ?_, fun d2 => ⟨v3, fun d3 => skip m k1 ?_, fun d3 => ?_⟩⟩⟩⟩
    · unfold vt; rw [decide_eq_false (show ¬ lK mm.1 r = nI 0 from d1)]; rfl
    · unfold vt; rw [decide_eq_false (show ¬ lA mm.1 r = nI h from d2), Bool.false_and, Bool.and_false, Bool.and_false]
    · unfold vt; rw [decide_eq_false (show ¬ lB mm.1 r = nI o from d3), Bool.and_false, Bool.and_false, Bool.and_false]
    · refine bcall (isLive_ok hN hl hn (show r < n by omega) m k1) (fun el m1 q1 => ⟨v4, ?_, q1⟩) (fun el m1 q1 => skip m1 q1 ?_)
      · have ev : vt mm.1 h o n r = true := by
          unfold vt
          rw [decide_eq_true (show lK mm.1 r = nI 0 from d1), el, decide_eq_true (show lA mm.1 r = nI h from d2), decide_eq_true (show lB mm.1 r = nI o from d3)]; rfl
        rw [q1.r163, ← k3, lcV_S, ev]
        rfl
      · unfold vt; rw [el, Bool.false_and, Bool.and_false]

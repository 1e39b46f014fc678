/-! the judging of WORKS, the class's pieces -/
def kpP (W : Nat) (ln pv : Nat → Nat) (L w : Nat) : Nat := if w < W ∧ w = fa_first (fun w => decide (ln w = L)) W then min 99 (pv w + 1) else pv w
def tkP (W : Nat) (ln pv : Nat → Nat) (n w : Nat) : Nat := pv w - usw W ln pv w (lf W ln pv n w)
def wrk (W J : Nat) (ln hv pv : Nat → Nat) (tk h e : Nat) (up : Bool) : Nat × (Nat → Nat) × (Nat → Nat) × Nat :=
  if J < e then (2, hv, pv, tk) else
  bif up then (if 99 < hv h + e then (3, hv, pv, tk) else if fw 1000 W ln pv W e < 1000 then (0, fun j => if j = h then hv h + e else hv j, tkP W ln pv e, tk + fw 1000 W ln pv W e) else (4, hv, pv, tk))
  else (if hv h < e then (3, hv, pv, tk) else (0, fun j => if j = h then hv h - e else hv j, kpP W ln pv e, tk))
theorem us_le {W : Nat} {ln pc : Nat → Nat} {i v : Nat} : usw W ln pc i v ≤ pc i := by
  have h := (mo_le (f := fw 1000 W ln pc (W - (i + 1))) (t := fw 1000 W ln pc (W - i) v) (sz := ln i) (v := v) (pc i + 1)).2
  unfold usw
  omega
theorem keepPiece_ok {m : MM} {t W L : Nat} {ln pv : Nat → Nat} (ht : isT t) (h8 : W ≤ 8) (hL : L ≤ 99) (e13 : m.1 t 13 = nI W) (hw : ∀ w, w < W → ln w ≤ 60 ∧ m.1 (t + 7) w = nI (ln w) ∧ pv w ≤ 99 ∧ m.1 43 w = nI (pv w)) :
    Runs e_X9_keepPiece [.ref 41, .ref t, .int (nI L)] m (fun r m' => r = .null ∧ (m'.2 = m.2 ∧ (∀ x, x ≠ 43 → m'.1 x = m.1 x) ∧ ∀ w, w < W → m'.1 43 w = nI (kpP W ln pv L w))) := by
  have ht' : t = 10 ∨ t = 100 := ht
  refine b_X9_keepPiece _ _ _ _ ht.at ?_
  refine for_up (Y := e_X9_keepPiece) (pc := 2) (fun k => [(0, .ref 41), (1, .ref t), (2, .int (nI L)), (3, .int (nI k))]) (fun k m' => m' = m ∧ ∀ j, j < k → ln j ≠ L) W ?_ ?_ 0 m (by omega) ⟨rfl, fun j hj => absurd hj (by omega)⟩
  · rintro m' ⟨rfl, hno⟩
    refine b_X9_keepPiece_2 _ _ _ _ _ ht.at ?_
    rw [e13]
    refine ⟨fun _ => ⟨rfl, rfl, fun _ _ => rfl, fun w hw' => ?_⟩, fun z => absurd (nI_le (Nat.le_refl _) (by omega)) z⟩
    have e : fa_first (fun w => decide (ln w = L)) W = W := fa_first_none (fun j hj => by simpa using hno j hj)
    unfold kpP
    rw [e, if_neg (by omega)]
    exact (hw w hw').2.2.2
  · rintro k m' hk ⟨rfl, hno⟩ hg
    obtain ⟨l1, l2, p1, p2⟩ := hw k hk
    refine b_X9_keepPiece_2 _ _ _ _ _ ht.at ?_
    by_cases c : ln k = L
    · have e : fa_first (fun w => decide (ln w = L)) W = k := fa_first_at hk (by simpa using c) (fun j hj => by simpa using hno j hj)
      simp (disch := omega) only [lin, nI_add, pk_mul, s_sub, s_addneg, s_leT, s_leF, s_ltT, s_ltF, s_eqF, s_inT, s_neF, s_neF', s_neE, s_nleT, s_nleF, s_nltF, s_nltT, eq_self, nI_clamp, s_wIk, s_wIo, pk_us, pk_un, Nat.reduceAdd, Nat.reduceMul, Nat.reduceSub, Nat.zero_add, Nat.add_zero, Nat.mul_zero, true_implies, false_implies, implies_true, not_true, not_false, and_true, true_and, not_true_eq_false, not_false_eq_true, forall_const, e13, l2, p2, eq_true c, imin_nI]
      subst c
      simp (disch := omega) only [lin, nI_add, pk_mul, s_sub, s_addneg, s_leT, s_leF, s_ltT, s_ltF, s_eqF, s_inT, s_neF, s_neF', s_neE, s_nleT, s_nleF, s_nltF, s_nltT, eq_self, nI_clamp, s_wIk, s_wIo, pk_us, pk_un, Nat.reduceAdd, Nat.reduceMul, Nat.reduceSub, Nat.zero_add, Nat.add_zero, Nat.mul_zero, true_implies, false_implies, implies_true, not_true, not_false, and_true, true_and, not_true_eq_false, not_false_eq_true, forall_const]
      refine ⟨rfl, fun x hx => wI_o hx, fun w hw' => ?_⟩
      unfold kpP
      rw [e]
      by_cases cc : w = k
      · subst cc
        rw [pk_us, if_pos ⟨hw', rfl⟩]
      · rw [pk_un cc, if_neg (fun z => cc z.2)]
        exact (hw w hw').2.2.2
    · simp (disch := omega) only [lin, nI_add, pk_mul, s_sub, s_addneg, s_leT, s_leF, s_ltT, s_ltF, s_eqF, s_inT, s_neF, s_neF', s_neE, s_nleT, s_nleF, s_nltF, s_nltT, eq_self, nI_clamp, s_wIk, s_wIo, pk_us, pk_un, Nat.reduceAdd, Nat.reduceMul, Nat.reduceSub, Nat.zero_add, Nat.add_zero, Nat.mul_zero, true_implies, false_implies, implies_true, not_true, not_false, and_true, true_and, not_true_eq_false, not_false_eq_true, forall_const, e13, l2]
      exact hg m' ⟨rfl, fun j hj => by
        by_cases cc : j = k
        · exact cc ▸ c
        · exact hno j (by omega)⟩
theorem takePieces_ok {m : MM} {t W A tk : Nat} {u pv : Nat → Nat} (ht : isT t) (h8 : W ≤ 8) (e13 : m.1 t 13 = nI W) (eA : m.1 38 2 = nI A) (et : m.1 41 6 = nI tk) (hw : ∀ w, w < W → u w ≤ pv w ∧ pv w ≤ 99 ∧ m.1 40 w = nI (u w) ∧ m.1 43 w = nI (pv w)) :
    Runs e_X9_takePieces [.ref 41, .ref t, .ref 38] m (fun r m' => r = .null ∧ (m'.2 = m.2 ∧ (∀ x, x ≠ 43 → x ≠ 41 → m'.1 x = m.1 x) ∧ (∀ j, j ≠ 6 → m'.1 41 j = m.1 41 j) ∧ m'.1 41 6 = nI (tk + A) ∧ ∀ w, w < W → m'.1 43 w = nI (pv w - u w))) := by
  have ht' : t = 10 ∨ t = 100 := ht
  refine b_X9_takePieces _ _ _ ht.at ?_
  refine for_up (Y := e_X9_takePieces) (pc := 2) (fun k => [(0, .ref 41), (1, .ref t), (2, .ref 38), (3, .int (nI k))]) (fun k m' => m'.2 = m.2 ∧ (∀ x, x ≠ 43 → m'.1 x = m.1 x) ∧ (∀ w, w < k → m'.1 43 w = nI (pv w - u w)) ∧ ∀ w, k ≤ w → m'.1 43 w = m.1 43 w) W ?_ ?_ 0 m (by omega) ⟨rfl, fun _ _ => rfl, fun j hj => absurd hj (by omega), fun _ _ => rfl⟩
  · rintro m' ⟨q1, q2, q3, q4⟩
    refine b_X9_takePieces_2 _ _ _ _ ht.at ?_
    rw [q2 t (by omega), e13, q2 41 (by omega), q2 38 (by omega), et, eA, nI_add]
    exact ⟨fun _ => ⟨rfl, q1, fun x h1 h2 => by rw [wI_o h2]; exact q2 x h1, fun j hj => by rw [wI_k, pk_un hj, q2 41 (by omega)], by rw [wI_k, pk_us], fun w hw' => by rw [wI_o (by decide)]; exact q3 w hw'⟩, fun z => absurd (nI_le (Nat.le_refl _) (by omega)) z⟩
  · rintro k m' hk ⟨q1, q2, q3, q4⟩ hg
    obtain ⟨u1, u2, u3, u4⟩ := hw k hk
    have u4' : m'.1 43 k = nI (pv k) := by rw [q4 k (Nat.le_refl _)]; exact u4
    refine b_X9_takePieces_2 _ _ _ _ ht.at ?_
    rw [q2 t (by omega), e13, q2 40 (by omega)]
    simp (disch := omega) only [lin, nI_add, pk_mul, s_sub, s_addneg, s_leT, s_leF, s_ltT, s_ltF, s_eqF, s_inT, s_neF, s_neF', s_neE, s_nleT, s_nleF, s_nltF, s_nltT, eq_self, nI_clamp, s_wIk, s_wIo, pk_us, pk_un, Nat.reduceAdd, Nat.reduceMul, Nat.reduceSub, Nat.zero_add, Nat.add_zero, Nat.mul_zero, true_implies, false_implies, implies_true, not_true, not_false, and_true, true_and, not_true_eq_false, not_false_eq_true, forall_const, u3, u4']
    refine hg _ ⟨q1, fun x hx => by rw [wI_o hx]; exact q2 x hx, fun w hw' => ?_, fun w hw' => ?_⟩
    · rw [wI_k]
      by_cases cc : w = k
      · subst cc; rw [pk_us]
      · rw [pk_un cc]; exact q3 w (by omega)
    · rw [wI_k, pk_un (by omega)]; exact q4 w (by omega)
def WkX (m : MM) (W : Nat) (q : (Nat → Nat) × (Nat → Nat) × Nat) : Prop := (∀ h, h < 16 → m.1 42 h = nI (q.1 h) ∧ q.1 h ≤ 99) ∧ (∀ w, w < W → m.1 43 w = nI (q.2.1 w) ∧ q.2.1 w ≤ 99) ∧ m.1 41 6 = nI q.2.2
def FrX (m m' : MM) : Prop := m'.2 = m.2 ∧ (∀ x, x < 38 ∨ 43 < x → m'.1 x = m.1 x) ∧ ∀ j, j ≠ 6 → m'.1 41 j = m.1 41 j
theorem iabs_up {e : Nat} (h : e ≤ 99) : iabs (nI e) = nI e := by
  have := sd_abs (a := e) (b := 0) (by omega) (by omega)
  rw [s_sub (Nat.zero_le e), if_pos (Nat.zero_le _), Nat.sub_zero] at this
  exact this
theorem iabs_dn {e : Nat} (h : e ≤ 99) : iabs (-nI e) = nI e := by
  have := sd_abs (a := 0) (b := e) (by omega) (by omega)
  rw [show nI 0 - nI e = -nI e from Int32.zero_sub _] at this
  rw [this]
  by_cases c : e = 0
  · subst c; rfl
  · rw [if_neg (by omega), Nat.sub_zero]
theorem within_up {m : MM} {a : Nat} (h : a ≤ 1000) : p_X11_within m (nI a) 0 99 ↔ ¬ 99 < a := by
  rw [w99_X]
  constructor
  · rintro ⟨j, hj, e⟩
    have := (nI_eq (by omega) (by omega)).mp e
    omega
  · intro z
    exact ⟨a, by omega, rfl⟩
theorem within_dn {m : MM} {a e : Nat} (h : a ≤ 99) (he : e ≤ 99) : p_X11_within m (nI a + -nI e) 0 99 ↔ ¬ a < e := by
  by_cases c : a < e
  · refine ⟨fun z => ?_, fun z => absurd c z⟩
    have z1 := z.1
    rw [← Int32.sub_eq_add_neg, Int32.lt_iff_toInt_lt, pk_sub_toInt (by omega) (by omega)] at z1
    have : (0 : Int32).toInt = 0 := by decide
    rw [this] at z1
    omega
  · rw [s_addneg (by omega), within_up (by omega)]
    omega
theorem reasonC_ok {m : MM} {t W J h e : Nat} {ln : Nat → Nat} {q : (Nat → Nat) × (Nat → Nat) × Nat} {up : Bool} (ht : isT t) (h8 : W ≤ 8) (hh : h < 16) (he1 : 1 ≤ e) (he : e ≤ 99) (hJ : J ≤ 99) (e13 : m.1 t 13 = nI W) (e15 : m.1 t 15 = nI J) (hw : ∀ w, w < W → 1 ≤ ln w ∧ ln w ≤ 60 ∧ m.1 (t + 7) w = nI (ln w)) (hq : WkX m W q) :
    Runs e_X9_workReason [.ref 41, .ref t, .ref 38, .int (nI h), .int (bif up then nI e else -nI e)] m (fun r m' => r = .int (nI (wrk W J ln q.1 q.2.1 q.2.2 h e up).1) ∧ (FrX m m' ∧ ((wrk W J ln q.1 q.2.1 q.2.2 h e up).1 = 0 → WkX m' W (wrk W J ln q.1 q.2.1 q.2.2 h e up).2))) := by
  have ht' : t = 10 ∨ t = 100 := ht
  obtain ⟨hv, pv, tk⟩ := q
  obtain ⟨q1, q2, q3⟩ := hq
  obtain ⟨v1, v2⟩ := q1 h hh
  have v1 : m.1 42 h = nI (hv h) := v1
  have v2 : hv h ≤ 99 := v2
  refine b_X9_workReason _ _ _ _ _ ht.at ?_
  rw [nI_clamp (by omega), v1, e15]
  unfold wrk
  cases up with
  | true =>
    simp only [cond_true]
    rw [iabs_up he, nI_add]
    by_cases cJ : J < e
    · simp only [if_pos cJ]
      exact ⟨fun z => absurd z (nI_ge cJ (by omega)), fun _ => ⟨rfl, ⟨rfl, fun _ _ => rfl, fun _ _ => rfl⟩, fun z => absurd (show (2 : Nat) = 0 from z) (by decide)⟩⟩
    · simp only [if_neg cJ]
      refine ⟨fun _ => ⟨vp_in_nI (by omega) (by omega), ?_⟩, fun z => absurd (nI_le (by omega) (by omega)) z⟩
      rw [within_up (by omega)]
      by_cases c3 : 99 < hv h + e
      · simp only [if_pos c3]
        exact ⟨fun z => absurd c3 z, fun _ => ⟨rfl, ⟨rfl, fun _ _ => rfl, fun _ _ => rfl⟩, fun z => absurd (show (3 : Nat) = 0 from z) (by decide)⟩⟩
      · simp only [if_neg c3]
        refine ⟨fun _ => ⟨fun _ => ?_, fun z => absurd (show nI 0 ≤ nI e from nI_le (by omega) (by omega)) z⟩, fun z => absurd c3 z⟩
        have cX := choose_ok (mm := m) (n := e) (ln := ln) (pc := pv) ht (show SHL[43]? = some (.inl (0, 8, 0, 0)) from rfl) (by omega) h8 he e13 fun w hw' => by
          obtain ⟨l1, l2, l3⟩ := hw w hw'
          exact ⟨⟨l1, l2, l3⟩, (q2 w hw').2, (q2 w hw').1⟩
        by_cases c : fw 1000 W ln pv W e < 1000
        · simp only [if_pos c]
          refine bcall cX (fun _ m1 ⟨k1, k2⟩ => ?_) fun z => absurd z (by rw [decide_eq_true c]; decide)
          obtain ⟨eA, eU⟩ := k2 c
          refine vcall (takePieces_ok (m := m1) (A := fw 1000 W ln pv W e) (tk := tk) (u := fun w => usw W ln pv w (lf W ln pv e w)) (pv := pv) ht h8 (by rw [k1.2 t (by omega) (by omega) (by omega)]; exact e13) eA (by rw [k1.2 41 (by omega) (by omega) (by omega)]; exact q3) fun w hw' => ⟨us_le, (q2 w hw').2, eU w hw', by rw [k1.2 43 (by omega) (by omega) (by omega)]; exact (q2 w hw').1⟩) ?_
          rintro m2 ⟨g1, g2, g3, g4, g5⟩
          refine ⟨vp_in_nI (by omega) (by omega), rfl, ⟨g1.trans k1.1, fun x hx => ?_, fun j hj => ?_⟩, fun _ => ⟨fun x hx => ?_, fun w hw' => ⟨?_, ?_⟩, ?_⟩⟩
          · rw [wI_o (by omega), g2 x (by omega) (by omega), k1.2 x (by omega) (by omega) (by omega)]
          · rw [wI_o (by decide), g3 j hj, k1.2 41 (by omega) (by omega) (by omega)]
          · rw [wI_k]
            by_cases cc : x = h
            · subst cc
              rw [pk_us]
              refine ⟨?_, ?_⟩
              · show _ = nI (if x = x then hv x + e else hv x)
                rw [if_pos rfl]
              · show (if x = x then hv x + e else hv x) ≤ 99
                rw [if_pos rfl]; omega
            · rw [pk_un cc, g2 42 (by omega) (by omega), k1.2 42 (by omega) (by omega) (by omega)]
              show _ = nI (if x = h then hv h + e else hv x) ∧ (if x = h then hv h + e else hv x) ≤ 99
              rw [if_neg cc]
              exact q1 x hx
          · rw [wI_o (by decide)]; exact g5 w hw'
          · have := (q2 w hw').2
            have this : pv w ≤ 99 := this
            show pv w - usw W ln pv w (lf W ln pv e w) ≤ 99
            omega
          · rw [wI_o (by decide)]; exact g4
        · simp only [if_neg c]
          exact bcall cX (fun z => absurd z (by rw [decide_eq_false c]; decide)) fun _ m1 ⟨k1, k2⟩ => ⟨rfl, ⟨k1.1, fun x hx => k1.2 x (by omega) (by omega) (by omega), fun j _ => by rw [k1.2 41 (by omega) (by omega) (by omega)]⟩, fun z => absurd (show (4 : Nat) = 0 from z) (by decide)⟩
  | false =>
    simp only [cond_false]
    rw [iabs_dn he]
    by_cases cJ : J < e
    · simp only [if_pos cJ]
      exact ⟨fun z => absurd z (nI_ge cJ (by omega)), fun _ => ⟨rfl, ⟨rfl, fun _ _ => rfl, fun _ _ => rfl⟩, fun z => absurd (show (2 : Nat) = 0 from z) (by decide)⟩⟩
    · simp only [if_neg cJ]
      refine ⟨fun _ => ⟨vp_in_nI (by omega) (by omega), ?_⟩, fun z => absurd (nI_le (by omega) (by omega)) z⟩
      rw [within_dn v2 he]
      by_cases c3 : hv h < e
      · simp only [if_pos c3]
        exact ⟨fun z => absurd c3 z, fun _ => ⟨rfl, ⟨rfl, fun _ _ => rfl, fun _ _ => rfl⟩, fun z => absurd (show (3 : Nat) = 0 from z) (by decide)⟩⟩
      · simp only [if_neg c3]
        have en : nI (hv h) + -nI e = nI (hv h - e) := s_addneg (by omega)
        refine ⟨fun _ => ⟨fun z => absurd z (by have := s_nleF (a := 0) (b := e) (by omega) (by omega) (by omega); rw [show (0 : Int32) = nI 0 from rfl, this]; exact fun z => z), fun _ => ?_⟩, fun z => absurd c3 z⟩
        rw [Int32.neg_neg, en]
        refine vcall (keepPiece_ok (m := m) (ln := ln) (pv := pv) ht h8 he e13 fun w hw' => ?_) ?_
        · obtain ⟨l1, l2, l3⟩ := hw w hw'
          exact ⟨l2, l3, (q2 w hw').2, (q2 w hw').1⟩
        · rintro m2 ⟨g1, g2, g5⟩
          refine ⟨vp_in_nI (by omega) (by omega), rfl, ⟨g1, fun x hx => ?_, fun j hj => ?_⟩, fun _ => ⟨fun x hx => ?_, fun w hw' => ⟨?_, ?_⟩, ?_⟩⟩
          · rw [wI_o (by omega), g2 x (by omega)]
          · rw [wI_o (by decide), g2 41 (by omega)]
          · rw [wI_k]
            by_cases cc : x = h
            · subst cc
              rw [pk_us]
              refine ⟨?_, ?_⟩
              · show _ = nI (if x = x then hv x - e else hv x)
                rw [if_pos rfl]
              · show (if x = x then hv x - e else hv x) ≤ 99
                rw [if_pos rfl]; omega
            · rw [pk_un cc, g2 42 (by omega)]
              show _ = nI (if x = h then hv h - e else hv x) ∧ (if x = h then hv h - e else hv x) ≤ 99
              rw [if_neg cc]
              exact q1 x hx
          · rw [wI_o (by decide)]; exact g5 w hw'
          · have := (q2 w hw').2
            have this : pv w ≤ 99 := this
            show kpP W ln pv e w ≤ 99
            unfold kpP
            split <;> omega
          · rw [wI_o (by decide), g2 41 (by omega)]; exact q3

/-! judge -/
theorem keep20_ok (mm : MM) : Runs e_X12_keep [.ref 156, .int 20] mm (fun r m' => r = .null ∧ (m'.2 = mm.2 ∧ (∀ x, x ≠ 183 → m'.1 x = mm.1 x) ∧ (∀ j, j < 480 → m'.1 183 j = mm.1 183 j) ∧ (∀ h, h < 16 → m'.1 183 (480 + h) = mm.1 163 (10 + h)) ∧ ∀ w, w < 8 → m'.1 183 (480 + 16 + w) = mm.1 163 (50 + w))) := by
  apply b_X12_keep
  refine for_up (Y := e_X12_keep) (pc := 2) (fun k => [(0, .ref 156), (1, .int 20), (2, .int (nI k))]) (fun k m' => m'.2 = mm.2 ∧ (∀ x, x ≠ 183 → m'.1 x = mm.1 x) ∧ (∀ j, j < 480 → m'.1 183 j = mm.1 183 j) ∧ ∀ h, h < k → m'.1 183 (480 + h) = mm.1 163 (10 + h)) 16 ?_ ?_ 0 mm (by omega) ⟨rfl, fun _ _ => rfl, fun _ _ => rfl, fun h hh => absurd hh (by omega)⟩
  · rintro m ⟨q1, q2, q3, q4⟩
    refine b_X12_keep_2 _ _ _ _ ⟨fun _ => ?_, fun z => absurd (by rfl) z⟩
    refine for_up (Y := e_X12_keep) (pc := 36) (fun k => [(0, .ref 156), (1, .int 20), (2, .int (nI k))]) (fun k m' => m'.2 = mm.2 ∧ (∀ x, x ≠ 183 → m'.1 x = mm.1 x) ∧ (∀ j, j < 480 → m'.1 183 j = mm.1 183 j) ∧ (∀ h, h < 16 → m'.1 183 (480 + h) = mm.1 163 (10 + h)) ∧ ∀ w, w < k → m'.1 183 (480 + 16 + w) = mm.1 163 (50 + w)) 8 ?_ ?_ 0 m (by omega) ⟨q1, q2, q3, q4, fun h hh => absurd hh (by omega)⟩
    · rintro m' ⟨r1, r2, r3, r4, r5⟩
      exact b_X12_keep_36 _ _ _ _ ⟨fun _ => ⟨rfl, r1, r2, r3, r4, r5⟩, fun z => absurd (by rfl) z⟩
    · rintro k m' hk ⟨r1, r2, r3, r4, r5⟩ hg
      apply b_X12_keep_36
      simp (disch := omega) only [lin, nI_add, pk_mul, s_sub, s_addneg, s_leT, s_leF, s_ltT, s_ltF, s_eqF, s_inT, s_neF, s_neF', s_neE, s_nleT, s_nleF, s_nltF, s_nltT, eq_self, nI_clamp, s_wIk, s_wIo, pk_us, pk_un, Nat.reduceAdd, Nat.reduceMul, Nat.reduceSub, Nat.zero_add, Nat.add_zero, Nat.mul_zero, true_implies, false_implies, implies_true, not_true, not_false, and_true, true_and, not_true_eq_false, not_false_eq_true, forall_const]
      refine hg _ ⟨r1, fun x hx => by rw [wI_o hx]; exact r2 x hx, fun j hj => by rw [wI_k, pk_un (by omega)]; exact r3 j hj, fun h hh => by rw [wI_k, pk_un (by omega)]; exact r4 h hh, fun w hw => ?_⟩
      rw [wI_k]
      by_cases c : w = k
      · subst c
        rw [show 480 + 16 + w = 496 + w by omega, pk_us, r2 163 (by decide)]
      · rw [pk_un (by omega)]; exact r5 w (by omega)
  · rintro k m' hk ⟨r1, r2, r3, r4⟩ hg
    apply b_X12_keep_2
    simp (disch := omega) only [lin, nI_add, pk_mul, s_sub, s_addneg, s_leT, s_leF, s_ltT, s_ltF, s_eqF, s_inT, s_neF, s_neF', s_neE, s_nleT, s_nleF, s_nltF, s_nltT, eq_self, nI_clamp, s_wIk, s_wIo, pk_us, pk_un, Nat.reduceAdd, Nat.reduceMul, Nat.reduceSub, Nat.zero_add, Nat.add_zero, Nat.mul_zero, true_implies, false_implies, implies_true, not_true, not_false, and_true, true_and, not_true_eq_false, not_false_eq_true, forall_const]
    refine hg _ ⟨r1, fun x hx => by rw [wI_o hx]; exact r2 x hx, fun j hj => by rw [wI_k, pk_un (by omega)]; exact r3 j hj, fun w hw => ?_⟩
    rw [wI_k]
    by_cases c : w = k
    · subst c
      rw [pk_us, r2 163 (by decide)]
    · rw [pk_un (by omega)]; exact r4 w (by omega)
def wnV (c : Nat → Nat → Int32) (i : Nat) : Nat := (c 163 (60 + 3 * i)).toNatClampNeg
def whV (c : Nat → Nat → Int32) (i : Nat) : Nat := (c 163 (60 + 3 * i + 1)).toNatClampNeg
def wuV (c : Nat → Nat → Int32) (i : Nat) : Bool := decide (0 ≤ c 163 (60 + 3 * i + 2))
def weV (c : Nat → Nat → Int32) (i : Nat) : Nat := bif wuV c i then (c 163 (60 + 3 * i + 2)).toNatClampNeg else (-(c 163 (60 + 3 * i + 2))).toNatClampNeg
theorem works_v {c : Nat → Nat → Int32} {t s H O S Qn W C J F B : Nat} (hb : BodyR c t s H O S Qn W C J F B) : ∃ n : Nat, n ≤ 40 ∧ c 163 1 = nI n ∧ c s 7 = nI n ∧ ∀ i, i < n → (wnV c i ≤ 99 ∧ whV c i < 16 ∧ 1 ≤ weV c i ∧ weV c i ≤ 99) ∧ (c (s + 4) i = nI (wnV c i) ∧ c (s + 5) i = nI (whV c i) ∧ c (s + 6) i = bif wuV c i then nI (weV c i) else -nI (weV c i)) ∧ (c 163 (60 + 3 * i) = nI (wnV c i) ∧ c 163 (60 + 3 * i + 1) = nI (whV c i) ∧ c 163 (60 + 3 * i + 2) = bif wuV c i then nI (weV c i) else -nI (weV c i)) := by
  obtain ⟨n, hn, e1, e2, e3⟩ := hb.2.1.2.2.2.2.2.1
  have h16 := hb.sz.1
  refine ⟨n, hn, e1, e2, fun i hi => ?_⟩
  obtain ⟨⟨g, h, d, g1, h1, d1, d2, x1, x2, x3⟩, y1, y2, y3⟩ := e3 i hi
  rw [Nat.zero_add] at x1 x2 x3 y1 y2 y3
  have a1 : wnV c i = g := by unfold wnV; rw [x1, nI_clamp (by omega)]
  have a2 : whV c i = h := by unfold whV; rw [x2, nI_clamp (by omega)]
  have a3 : (wuV c i = true ∧ c 163 (60 + 3 * i + 2) = nI d ∨ wuV c i = false ∧ c 163 (60 + 3 * i + 2) = -nI d) ∧ weV c i = d := by
    rcases x3 with x3 | x3
    · have u : wuV c i = true := by
        unfold wuV
        rw [x3]
        exact decide_eq_true (show nI 0 ≤ nI d from nI_le (by omega) (by omega))
      refine ⟨Or.inl ⟨u, x3⟩, ?_⟩
      unfold weV
      rw [u, x3, cond_true, nI_clamp (by omega)]
    · have u : wuV c i = false := by
        unfold wuV
        rw [x3]
        refine decide_eq_false ?_
        have := s_nleF (a := 0) (b := d) (by omega) (by omega) (by omega)
        rw [show (0 : Int32) = nI 0 from rfl, this]; exact fun z => z
      refine ⟨Or.inr ⟨u, x3⟩, ?_⟩
      unfold weV
      rw [u, x3, cond_false, Int32.neg_neg, nI_clamp (by omega)]
  obtain ⟨a3, a4⟩ := a3
  rw [a1, a2, a4]
  have a5 : c 163 (60 + 3 * i + 2) = bif wuV c i then nI d else -nI d := by
    rcases a3 with ⟨u, v⟩ | ⟨u, v⟩
    · rw [u, v]; rfl
    · rw [u, v]; rfl
  exact ⟨⟨g1, by omega, d1, d2⟩, ⟨y1.trans x1, y2.trans x2, y3.trans a5⟩, ⟨x1, x2, a5⟩⟩
theorem st_judge : StepOK RR e_X11_judge e_X12_judge [] := by
  apply step_q
  rintro mm ⟨t, s, H, O, S, Qn, W, C, J, F, B, ht, hs, hr, hb, hl⟩
  obtain ⟨z1, z2, z3, z4, z5, z6, z7, z8, z9⟩ := hb.sz
  obtain ⟨n1, n2, n3, n4, n5, n6, n7, n8, n9⟩ := hb.nm
  obtain ⟨c1, c2, c3, c4, c5, c6, c7, c8, c9, c10⟩ := hb.nc
  have rf := Kp.rf (kp := kq) mm
  have hs' : s = 24 ∨ s = 114 := hs
  have ht' : t = 10 ∨ t = 100 := ht
  obtain ⟨n, hn, e1, e7, hw⟩ := works_v hb
  refine ⟨.int (nI (avs (mm.1 162) (tideV mm.1 12) W J C (lnV mm.1) (wnV mm.1) (whV mm.1) (weV mm.1) (wuV mm.1) n (hgV mm.1, pcV mm.1, 0) 100).1), ?_, fun m k => ?_⟩
  · apply b_X11_judge
    rw [hr.1, hr.2.1]
    exact ⟨ht.at, hs.s.at, icall (verdictC_ok ht hs hb hn e7 fun i hi => ⟨(hw i hi).1, (hw i hi).2.1⟩) fun m1 ⟨k1, _⟩ => ⟨rfl, k1⟩⟩
  · apply b_X12_judge
    refine vcall (keep20_ok m) ?_
    rintro m1 ⟨q1, q2, q3, q4, q5⟩
    have f1 : FrA m1 mm m1 := by
      refine ⟨by rw [q1]; exact k.2, fun x y _ e hx => ?_, fun j _ => by rw [q2 163 (by decide), k.r163], rfl, fun _ _ _ _ => rfl⟩
      by_cases c : x = 183
      · subst c
        have : y < 480 := Nat.ble_eq.mp (show Nat.ble (y + 1) 480 = true from e)
        rw [q3 y this]; exact k.g 183 y e
      · rw [q2 x c]; exact k.g x y e
    refine icall (makesAll_ok hb f1 hn e1 (fun i hi => ⟨(hw i hi).1, (hw i hi).2.2⟩) (fun h hh => by rw [q2 163 (by decide), k.r163]; exact (hb.hgv hh).2.1) (fun w hw' => by rw [q2 163 (by decide), k.r163]; exact (hb.pc hw').2.1)) ?_
    rintro m2 ⟨f2, -⟩
    refine vcall (putBack_ok (m := m2) (i := 20) (by omega)) ?_
    rintro m3 rfl
    refine ⟨rfl, fun x y e => ?_, f2.1⟩
    show (wR m2 163 (pbF (m2.1 163) (m2.1 183) 20 16 8)).1 x y = mm.1 x y
    by_cases c : x = 163
    · subst c
      rw [wR_k]
      unfold pbF
      by_cases c1 : 10 ≤ y ∧ y < 10 + 16
      · rw [if_pos c1, f2.2.2.2.1, show 24 * 20 + (y - 10) = 480 + (y - 10) by omega, q4 _ (by omega), k.r163, show 10 + (y - 10) = y by omega]
      · rw [if_neg c1]
        by_cases c2 : 50 ≤ y ∧ y < 50 + 8
        · rw [if_pos c2, f2.2.2.2.1, show 24 * 20 + 16 + (y - 50) = 480 + 16 + (y - 50) by omega, q5 _ (by omega), k.r163, show 50 + (y - 50) = y by omega]
        · rw [if_neg c2]
          exact f2.2.2.1 y (by omega)
    · rw [wR_o c]
      by_cases c6 : x < 156
      · rw [f2.2.2.2.2 x y c6 e, q2 x (by omega)]; exact k.g x y e
      · exact f2.2.1 x y (by omega) e c

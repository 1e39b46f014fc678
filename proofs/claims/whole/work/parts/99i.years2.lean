/-! a year, both sides at once -/
def Fz (s : Nat) (vm vm' : MM) : Prop := vm'.2.2 = vm.2.2 ∧ (∀ a, (a < s ∨ s + 14 ≤ a) → a ≠ 163 → vm'.1 a = vm.1 a) ∧ ∀ j, 420 ≤ j → vm'.1 163 j = vm.1 163 j
theorem Fz.rf (s : Nat) (vm : MM) : Fz s vm vm := ⟨rfl, fun _ _ _ => rfl, fun _ _ => rfl⟩
theorem Fz.tr {s : Nat} {a b c : MM} (h : Fz s a b) (h2 : Fz s b c) : Fz s a c := ⟨h2.1.trans h.1, fun x y z => (h2.2.1 x y z).trans (h.2.1 x y z), fun j hj => (h2.2.2 j hj).trans (h.2.2 j hj)⟩
theorem straight_both {t s H O S Qn W C J F B : Nat} (ht : isT t) (hs : isN s) : ∀ (d h : Nat) (vm : MM) (went inch : Nat), h + d = H → went ≤ C → RefR vm.2.2 t s → BodyR vm.1 t s H O S Qn W C J F B →
    ∃ (vm' : MM) (v : Nat), Fz s vm vm' ∧ BodyR vm'.1 t s H O S Qn W C J F B ∧
      (∀ u m, Kx u vm m → G e_X11_straighten 6 [(0, .ref 0), (1, .int (nI went)), (2, .int (nI inch)), (3, .int (nI h))] [] m (fun r m' => r = .int (nI v) ∧ Kx u vm' m')) ∧
      (∀ u m Q, Ky u vm m → (∀ m', Ky u vm' m' → Q (.int (nI v)) m') → G e_X12_lives 87 [(0, .ref 156), (5, .int (nI went)), (6, .int (nI inch)), (7, .int (nI h))] [] m Q) := by
  have hs' : s = 24 ∨ s = 114 := hs
  have ht' : t = 10 ∨ t = 100 := ht
  intro d
  induction d with
  | zero =>
    intro h vm went inch hd hC hr hb
    obtain rfl : h = H := by omega
    have z1 := hb.sz.1
    refine ⟨vm, inch, Fz.rf s vm, hb, fun u m k => ?_, fun u m Q k hQ => ?_⟩
    · refine b_X11_straighten_6 _ _ _ _ _ ?_
      rw [k.2, show (catM u vm).2.2 = vm.2.2 from rfl, hr.1, k.t0 ht, hb.nc.1]
      exact ⟨ht.at, fun _ => ⟨rfl, k⟩, fun z => absurd (nI_le (Nat.le_refl _) (by omega)) z⟩
    · refine b_X12_lives_87 _ _ _ _ _ ?_
      rw [k.r (a := 162) (by decide) fun _ => rfl, hb.nm.1]
      exact ⟨fun _ => hQ m k, fun z => absurd (nI_le (Nat.le_refl _) (by omega)) z⟩
  | succ d ih =>
    intro h vm went inch hd hC hr hb
    obtain ⟨z1, z2, z3, z4, z5, ⟨z6, z6'⟩, ⟨z7, z7'⟩, -⟩ := hb.sz
    obtain ⟨n1, n2, n3, n4, n5, n6, n7, -⟩ := hb.nm
    obtain ⟨c1, c2, c3, c4, c5, c6, c7, c8, -⟩ := hb.nc
    by_cases cC : went = C
    · subst cC
      refine ⟨vm, inch, Fz.rf s vm, hb, fun u m k => ?_, fun u m Q k hQ => ?_⟩
      · refine b_X11_straighten_6 _ _ _ _ _ ?_
        rw [k.2, show (catM u vm).2.2 = vm.2.2 from rfl, hr.1, k.t0 ht, c1, c7]
        exact ⟨ht.at, fun _ => ⟨rfl, k⟩, fun _ => ⟨ht.at, fun _ => ⟨rfl, k⟩, fun z => absurd (nI_le (Nat.le_refl _) (by omega)) z⟩⟩
      · refine b_X12_lives_87 _ _ _ _ _ ?_
        rw [k.r (a := 162) (by decide) fun _ => rfl, n1, n6]
        exact ⟨fun _ => hQ m k, fun _ => ⟨fun _ => hQ m k, fun z => absurd (nI_le (Nat.le_refl _) (by omega)) z⟩⟩
    · obtain ⟨D, hD, eD⟩ := dueV_nI vm.1 h
      obtain ⟨hv1, hv2, hv3⟩ := hb.hgv (k := h) (by omega)
      have hrank := hb.rank h (by omega)
      -- the two calls
      have callX : ∀ u m, Kx u vm m → Runs e_X8_dueOf [.ref t, .ref s, .int (nI h)] m (fun r m' => r = .int (nI D) ∧ Kx u vm m') := fun u m k => by
        rw [← eD]; exact dueC_okX ht hs.s hb.law1 (hb.hou h (by omega)) m k
      have callM : ∀ u m, Ky u vm m → Runs e_X12_dueOf [.ref 156, .int (nI h)] m (fun r m' => r = .int (nI D) ∧ Ky u vm m') := fun u m k => by
        have r2 := k.r (a := 162) (by decide) fun _ => rfl
        have r3 := k.r (a := 163) (by decide) fun _ => rfl
        have r5 := k.r (a := 165) (by decide) fun _ => rfl
        have r6 := k.r (a := 166) (by decide) fun _ => rfl
        have e2 : dueV m.1 h = nI D := (dueV_fr r2 r5 r6 (by rw [r3])).trans eD
        refine runs_to (due_okE (mm := m) (by omega) (by unfold RankOK; rw [r3]; exact hrank.m) (LawM_fr r2 r5 r6 hb.law1.m) m (Kp.rf m)) ?_
        rintro r m' ⟨e, k2⟩
        exact ⟨by rw [e, e2], k.ke k2⟩
      by_cases cD : D = hgV vm.1 h
      · obtain ⟨vm', v, f1, f2, f3, f4⟩ := ih (h + 1) vm went inch (by omega) hC hr hb
        have x0 : nI D - nI (hgV vm.1 h) = 0 := by rw [cD, pk_sub (Nat.le_refl _), Nat.sub_self]; rfl
        refine ⟨vm', v, f1, f2, fun u m k => ?_, fun u m Q k hQ => ?_⟩
        · refine b_X11_straighten_6 _ _ _ _ _ ?_
          rw [k.2, show (catM u vm).2.2 = vm.2.2 from rfl, hr.1, hr.2.1, k.t0 ht, c1, c7]
          refine ⟨ht.at, fun z => absurd z (nI_ge (by omega) (by omega)), fun _ => ⟨ht.at, fun z => absurd z (nI_ge (by omega) (by omega)), fun _ => ⟨ht.at, hs.s.at, icall (callX u m k) fun m5 k5 => ?_⟩⟩⟩
          rw [k5.2, show (catM u vm).2.2 = vm.2.2 from rfl, hr.2.1, hr.1, nI_clamp (by omega), k5.s hs.s 1 (by omega), hv3, x0, nI_1 h]
          exact ⟨hs.s.at, vp_in_nI (by omega) (by omega), fun _ => f3 u m5 k5, fun z => absurd rfl z⟩
        · refine b_X12_lives_87 _ _ _ _ _ ?_
          rw [k.r (a := 162) (by decide) fun _ => rfl, n1, n6]
          refine ⟨fun z => absurd z (nI_ge (by omega) (by omega)), fun _ => ⟨fun z => absurd z (nI_ge (by omega) (by omega)), fun _ => icall (callM u m k) fun m5 k5 => ?_⟩⟩
          have eh : v_X12_heightOf m5 (nI h) = nI (hgV vm.1 h) := by rw [h_v (Kp.rf m5) (by omega), k5.r (a := 163) (by decide) fun _ => rfl]; exact hv2
          have ew : v_X12_within m5 (0 : Int32) (-(nI J)) (nI J) = 0 := by
            unfold v_X12_within
            rw [cite_pos (by rw [show (0 : Int32) = nI 0 from rfl, s_nleT (by omega) (by omega)]; trivial), cite_pos (show (0 : Int32) ≤ nI J from nI_le (a := 0) (by omega) (by omega))]
          rw [eh, x0, k5.r (a := 162) (by decide) fun _ => rfl, n7, ew, nI_1 h]
          exact ⟨h_o (by omega), fun z => absurd rfl z, fun _ => f4 u m5 Q k5 hQ⟩
      · obtain ⟨e, nh, b1, b2, w, w1, -, w3, w4, w5, w6⟩ := way_ok vm hD hv1 z7 z7' cD
        obtain ⟨vm1, hvm1⟩ : ∃ vm1, vm1 = wI (wI vm (s + 1) h (nI nh)) 163 (10 + h) (nI nh) := ⟨_, rfl⟩
        have hb1 := body_hgt ht hs hb (by omega) b2 hvm1
        have hr1 : RefR vm1.2.2 t s := by rw [hvm1]; exact hr
        have fz : Fz s vm vm1 := ⟨by rw [hvm1]; rfl, fun a h1 h2 => by rw [hvm1, wI_o h2, wI_o (by omega)], fun j hj => by rw [hvm1, wI_k, pk_un (by omega), wI_o (by omega)]⟩
        obtain ⟨vm', v, f1, f2, f3, f4⟩ := ih (h + 1) vm1 (went + 1) (inch + e) (by omega) (by omega) hr1 hb1
        have nz : ¬ nI D - nI (hgV vm.1 h) = 0 := by
          intro z
          have := congrArg Int32.toInt z
          rw [pk_sub_toInt (by omega) (by omega), show (0 : Int32).toInt = 0 from by decide] at this
          omega
        refine ⟨vm', v, fz.tr f1, f2, fun u m k => ?_, fun u m Q k hQ => ?_⟩
        · refine b_X11_straighten_6 _ _ _ _ _ ?_
          rw [k.2, show (catM u vm).2.2 = vm.2.2 from rfl, hr.1, hr.2.1, k.t0 ht, c1, c7]
          refine ⟨ht.at, fun z => absurd z (nI_ge (by omega) (by omega)), fun _ => ⟨ht.at, fun z => absurd z (nI_ge (by omega) (by omega)), fun _ => ⟨ht.at, hs.s.at, icall (callX u m k) fun m5 k5 => ?_⟩⟩⟩
          rw [k5.2, show (catM u vm).2.2 = vm.2.2 from rfl, hr.2.1, hr.1, nI_clamp (by omega), k5.s hs.s 1 (by omega), hv3, k5.t0 ht, c8, w1, w3, w4, nI_add inch e, nI_1 went, nI_1 h]
          refine ⟨hs.s.at, vp_in_nI (by omega) (by omega), fun z => absurd z nz, fun _ => ⟨ht.at, ht.at, hs.s.at, vp_in_nI (by omega) (by omega), vp_in_nI (by omega) (by omega), f3 u _ ?_⟩⟩
          rw [hvm1]
          refine Kx.hi ?_ (by omega) _ _
          have e0 : m5.1 (s + 1) = vm.1 (s + 1) := k5.s hs.s 1 (by omega)
          have := k5.upR (a := s + 1) (by omega) (upd (vm.1 (s + 1)) h (nI nh))
          show Kx u (wR vm (s + 1) (upd (vm.1 (s + 1)) h (nI nh))) (wR m5 (s + 1) (upd (m5.1 (s + 1)) h (nI nh)))
          rw [e0]
          exact this
        · refine b_X12_lives_87 _ _ _ _ _ ?_
          rw [k.r (a := 162) (by decide) fun _ => rfl, n1, n6]
          refine ⟨fun z => absurd z (nI_ge (by omega) (by omega)), fun _ => ⟨fun z => absurd z (nI_ge (by omega) (by omega)), fun _ => icall (callM u m k) fun m5 k5 => ?_⟩⟩
          have r3 := k5.r (a := 163) (by decide) fun _ => rfl
          have eh : v_X12_heightOf m5 (nI h) = nI (hgV vm.1 h) := by rw [h_v (Kp.rf m5) (by omega), r3]; exact hv2
          obtain ⟨e', nh', -, -, w', w1', w2', -⟩ := way_ok m5 hD hv1 z7 z7' cD
          have ew : w' = w := w1'.symm.trans w1
          subst ew
          have ei : ((10 : Int32) + nI h).toNatClampNeg = 10 + h := by simp (disch := omega) only [lin, nI_add, pk_mul, s_sub, s_addneg, s_leT, s_leF, s_ltT, s_ltF, s_eqF, s_inT, s_neF, s_neF', s_neE, s_nleT, s_nleF, s_nltF, s_nltT, eq_self, nI_clamp, s_wIk, s_wIo, pk_us, pk_un, Nat.reduceAdd, Nat.reduceMul, Nat.reduceSub, Nat.zero_add, Nat.add_zero, Nat.mul_zero, true_implies, false_implies, implies_true, not_true, not_false, and_true, true_and, not_true_eq_false, not_false_eq_true, forall_const]
          have vi : vp_in ((10 : Int32) + nI h) 1260 := by simp (disch := omega) only [lin, nI_add, pk_mul, s_sub, s_addneg, s_leT, s_leF, s_ltT, s_ltF, s_eqF, s_inT, s_neF, s_neF', s_neE, s_nleT, s_nleF, s_nltF, s_nltT, eq_self, nI_clamp, s_wIk, s_wIo, pk_us, pk_un, Nat.reduceAdd, Nat.reduceMul, Nat.reduceSub, Nat.zero_add, Nat.add_zero, Nat.mul_zero, true_implies, false_implies, implies_true, not_true, not_false, and_true, true_and, not_true_eq_false, not_false_eq_true, forall_const]
          rw [eh, k5.r (a := 162) (by decide) fun _ => rfl, n7, w2', ei, r3, hv2, w4, nI_1 went, nI_1 h]
          have k6 : Ky u vm1 (wI m5 163 (10 + h) (nI nh)) := by
            rw [hvm1]
            refine Ky.upI ?_ (by omega) _ _
            exact k5.lo (a := s + 1) (by omega) _
          have fin := f4 u _ Q k6 hQ
          refine ⟨h_o (by omega), fun _ => ⟨vi, vi, ?_, ?_⟩, fun z => absurd z w5⟩
          · intro z
            rcases w6 with ⟨-, q⟩ | ⟨q, -⟩
            · rw [q, nI_add]; exact fin
            · exact absurd z q
          · intro z
            rcases w6 with ⟨q, -⟩ | ⟨-, q⟩
            · exact absurd q z
            · rw [q, nI_add]; exact fin
/-- clearing a house's office, both sides -/
theorem clr_both {vm : MM} {t s H O S Qn W C J F B h : Nat} (ht : isT t) (hs : isN s) (hb : BodyR vm.1 t s H O S Qn W C J F B) (hh : h < H) : ∃ vm1, vm1 = wI (wR vm (s + 2) (fb_put (vm.1 (s + 2)) (setF (vm.1 (s + 2)) h (-nI 1)) 0 16)) 163 (30 + h) (-nI 2) ∧ Fz s vm vm1 ∧ BodyR vm1.1 t s H O S Qn W C J F B := by
  have hs' : s = 24 ∨ s = 114 := hs
  have z1 := hb.sz.1
  refine ⟨_, rfl, ⟨rfl, fun a h1 h2 => by rw [wI_o h2, wR_o (by omega)], fun j hj => by rw [wI_k, pk_un (by omega), wR_o (by omega)]⟩, ?_⟩
  refine body_off ht hs hb (fun a h1 h2 => by rw [wI_o h2, wR_o h1]) (fun j hj => by rw [wI_k, pk_un (by omega), wR_o (show 163 ≠ s + 2 by omega)]) ((hb.2.1.offP (by omega)).clr (h := h) hb.sz.2.1 (fun k hk => ?_) (fun k hk => ?_))
  · show (wI _ 163 (30 + h) (-nI 2)).1 163 (30 + k) = _
    rw [wI_k, wR_o (show 163 ≠ s + 2 by omega)]
    by_cases e : k = h
    · subst e; rw [pk_us, if_pos rfl]
    · rw [pk_un (by omega), if_neg e]
  · rw [wI_o (by omega), wR_k, put16 hk]
    show (if k = h then -nI 1 else if vm.1 (s + 2) k = -nI 1 then -nI 1 else vm.1 (s + 2) k) = _
    by_cases e : k = h
    · rw [if_pos e, if_pos e]
    · rw [if_neg e, if_neg e]
      split
      · next d => exact d.symm
      · rfl
/-- giving a free office, both sides -/
theorem giv_both {vm : MM} {t s H O S Qn W C J F B h o : Nat} (ht : isT t) (hs : isN s) (hb : BodyR vm.1 t s H O S Qn W C J F B) (hh : h < H) (ho : o < O) (hno : holdR (vm.1 163) H (nI o) = -2) : ∃ vm1, vm1 = wI (wR vm (s + 2) (fb_put (vm.1 (s + 2)) (setF (vm.1 (s + 2)) h (nI o)) 0 16)) 163 (30 + h) (nI o) ∧ Fz s vm vm1 ∧ BodyR vm1.1 t s H O S Qn W C J F B := by
  have hs' : s = 24 ∨ s = 114 := hs
  have z1 := hb.sz.1
  have z2 := hb.sz.2.1
  have hfree : ∀ k, k < H → ¬ vm.1 163 (30 + k) = nI o := by
    intro k hk
    unfold holdR at hno
    by_cases c : fa_first (fun h => decide (vm.1 163 (30 + h) = nI o)) H < H
    · rw [if_pos c] at hno
      have hl := fa_first_le (fun h => decide (vm.1 163 (30 + h) = nI o)) H
      exact absurd hno (of_eq_false (s_neF (b := 2) (Or.inr (by omega)) (by omega) (by omega)))
    · have hl := fa_first_le (fun h => decide (vm.1 163 (30 + h) = nI o)) H
      exact of_decide_eq_false (fa_first_no (fun h => decide (vm.1 163 (30 + h) = nI o)) H k (by omega))
  have hp := hb.2.1.offP (by omega)
  refine ⟨_, rfl, ⟨rfl, fun a h1 h2 => by rw [wI_o h2, wR_o (by omega)], fun j hj => by rw [wI_k, pk_un (by omega), wR_o (by omega)]⟩, ?_⟩
  refine body_off ht hs hb (fun a h1 h2 => by rw [wI_o h2, wR_o h1]) (fun j hj => by rw [wI_k, pk_un (by omega), wR_o (show 163 ≠ s + 2 by omega)]) (hp.giv (h := h) (o := o) z2 hh ho (fun k hk => ?_) (fun k hk => ?_))
  · show (wI _ 163 (30 + h) (nI o)).1 163 (30 + k) = _
    rw [wI_k, wR_o (show 163 ≠ s + 2 by omega)]
    by_cases e : k = h
    · subst e; rw [pk_us, if_pos rfl]
    · rw [pk_un (by omega), if_neg e]
      by_cases d : vm.1 163 (30 + k) = nI o
      · exact absurd d (hfree k ((hp.eq z2 ho hk).2 d))
      · rw [if_neg d]
  · rw [wI_o (by omega), wR_k, put16 hk]
    rfl
theorem cast_both {t s H O S Qn W C J F B : Nat} (ht : isT t) (hs : isN s) {vm : MM} (hr : RefR vm.2.2 t s) (hb : BodyR vm.1 t s H O S Qn W C J F B) (hH : 0 < H) (hO : 0 < O) (seed i : Int32) :
    ∃ vm', Fz s vm vm' ∧ BodyR vm'.1 t s H O S Qn W C J F B ∧
      (∀ u m, Kx u vm m → Runs e_X11_castLots [.ref 0, .int seed, .int (10 * i)] m (fun r m' => r = .null ∧ Kx u vm' m')) ∧
      (∀ u m Q, Ky u vm m → (∀ m', Ky u vm' m' → G e_X12_lives 87 [(0, .ref 156), (5, .int (nI 0)), (6, .int (nI 0)), (7, .int (nI 0))] [] m' Q) → Runs e_X12_lives [.ref 156, .int seed, .int i] m Q) := by
  have hs' : s = 24 ∨ s = 114 := hs
  have ht' : t = 10 ∨ t = 100 := ht
  obtain ⟨z1, z2, -⟩ := hb.sz
  obtain ⟨n1, n2, -⟩ := hb.nm
  obtain ⟨c1, c2, -⟩ := hb.nc
  obtain ⟨h1, a1, x1, y1⟩ := lot_ok vm vm seed (10 * i) hH z1
  obtain ⟨o, a2, x2, y2⟩ := lot_ok vm vm seed (10 * i + 1) hO (by omega)
  obtain ⟨h2, a3, x3, y3⟩ := lot_ok vm vm seed (10 * i + 2) hH z1
  obtain ⟨vm1, e1, f1, hb1⟩ := clr_both ht hs hb a1
  have hr1 : RefR vm1.2.2 t s := by rw [f1.1]; exact hr
  have clsX : ∀ u m, Kx u vm m → Runs e_X6_settle [.ref s, .int (nI h1), .int (-nI 1)] m (fun r m' => r = .null ∧ Kx u vm1 m') := fun u m k => by
    refine runs_to (settleC_ok hs.s (by omega) _ m) ?_
    rintro r m' ⟨er, rfl⟩
    refine ⟨er, ?_⟩
    rw [e1, k.s hs.s 2 (by omega)]
    exact Kx.hi (k.upR (by omega) _) (by omega) _ _
  have i1 : ((30 : Int32) + nI h1).toNatClampNeg = 30 + h1 := by simp (disch := omega) only [lin, nI_add, pk_mul, s_sub, s_addneg, s_leT, s_leF, s_ltT, s_ltF, s_eqF, s_inT, s_neF, s_neF', s_neE, s_nleT, s_nleF, s_nltF, s_nltT, eq_self, nI_clamp, s_wIk, s_wIo, pk_us, pk_un, Nat.reduceAdd, Nat.reduceMul, Nat.reduceSub, Nat.zero_add, Nat.add_zero, Nat.mul_zero, true_implies, false_implies, implies_true, not_true, not_false, and_true, true_and, not_true_eq_false, not_false_eq_true, forall_const]
  have v1 : vp_in ((30 : Int32) + nI h1) 1260 := by simp (disch := omega) only [lin, nI_add, pk_mul, s_sub, s_addneg, s_leT, s_leF, s_ltT, s_ltF, s_eqF, s_inT, s_neF, s_neF', s_neE, s_nleT, s_nleF, s_nltF, s_nltT, eq_self, nI_clamp, s_wIk, s_wIo, pk_us, pk_un, Nat.reduceAdd, Nat.reduceMul, Nat.reduceSub, Nat.zero_add, Nat.add_zero, Nat.mul_zero, true_implies, false_implies, implies_true, not_true, not_false, and_true, true_and, not_true_eq_false, not_false_eq_true, forall_const]
  have i2 : ((30 : Int32) + nI h2).toNatClampNeg = 30 + h2 := by simp (disch := omega) only [lin, nI_add, pk_mul, s_sub, s_addneg, s_leT, s_leF, s_ltT, s_ltF, s_eqF, s_inT, s_neF, s_neF', s_neE, s_nleT, s_nleF, s_nltF, s_nltT, eq_self, nI_clamp, s_wIk, s_wIo, pk_us, pk_un, Nat.reduceAdd, Nat.reduceMul, Nat.reduceSub, Nat.zero_add, Nat.add_zero, Nat.mul_zero, true_implies, false_implies, implies_true, not_true, not_false, and_true, true_and, not_true_eq_false, not_false_eq_true, forall_const]
  have v2 : vp_in ((30 : Int32) + nI h2) 1260 := by simp (disch := omega) only [lin, nI_add, pk_mul, s_sub, s_addneg, s_leT, s_leF, s_ltT, s_ltF, s_eqF, s_inT, s_neF, s_neF', s_neE, s_nleT, s_nleF, s_nltF, s_nltT, eq_self, nI_clamp, s_wIk, s_wIo, pk_us, pk_un, Nat.reduceAdd, Nat.reduceMul, Nat.reduceSub, Nat.zero_add, Nat.add_zero, Nat.mul_zero, true_implies, false_implies, implies_true, not_true, not_false, and_true, true_and, not_true_eq_false, not_false_eq_true, forall_const]
  have n1' : ∀ u m, Ky u vm m → m.1 162 0 = nI H := fun u m k => by rw [k.r (a := 162) (by decide) fun _ => rfl]; exact n1
  have n2' : ∀ u m, Ky u vm m → m.1 162 1 = nI O := fun u m k => by rw [k.r (a := 162) (by decide) fun _ => rfl]; exact n2
  -- who holds it now
  have whoX : ∀ u m, Kx u vm1 m → Runs e_X6_whoIsIn [.ref s, .int (nI o)] m (fun r m' => r = .int (holdR (vm1.1 163) H (nI o)) ∧ Kx u vm1 m') := fun u m k => who_okX hs hb1 a2 m k
  have whoM : ∀ u m, Ky u vm1 m → Runs e_X12_holderOf [.ref 156, .int (nI o)] m (fun r m' => r = .int (holdR (vm1.1 163) H (nI o)) ∧ m' = m) := fun u m k => by
    have := holderOf_ok m (nI o) H (by rw [k.r (a := 162) (by decide) fun _ => rfl]; exact hb1.nm.1) z1
    rw [k.r (a := 163) (by decide) fun _ => rfl] at this
    exact this
  have preX : ∀ vm', (∀ u m, Kx u vm1 m → (¬ holdR (vm1.1 163) H (nI o) = -2 → (fun r m' => r = Value.null ∧ Kx u vm' m') .null m) ∧ (holdR (vm1.1 163) H (nI o) = -2 → (AtState s ∧ ∃ P : Value → MM → Prop, Runs e_X6_settle [.ref s, .int (nI h2), .int (nI o)] m P ∧ ∀ m9, P .null m9 → (fun r m' => r = Value.null ∧ Kx u vm' m') .null m9))) → ∀ u m, Kx u vm m → Runs e_X11_castLots [.ref 0, .int seed, .int (10 * i)] m (fun r m' => r = .null ∧ Kx u vm' m') := by
    intro vm' hh u m k
    refine b_X11_castLots _ _ _ _ ?_
    rw [k.2, show (catM u vm).2.2 = vm.2.2 from rfl, hr.1, hr.2.1, k.t0 ht, c1]
    have x1' : v_X11_lot m seed (10 * i) (nI H) = nI h1 := x1
    rw [x1']
    refine ⟨hs.s.at, ht.at, lot_oX _ _ _ hH z1, vcall (clsX u m k) ?_⟩
    intro m3 k3
    have x2' : v_X11_lot m3 seed (10 * i + 1) (nI O) = nI o := x2
    have x3' : v_X11_lot m3 seed (10 * i + 2) (nI H) = nI h2 := x3
    rw [k3.2, show (catM u vm1).2.2 = vm1.2.2 from rfl, hr1.1, hr1.2.1, k3.t0 ht, hb1.nc.1, hb1.nc.2.1, x2', x3']
    refine ⟨ht.at, lot_oX _ _ _ hO (by omega), ht.at, lot_oX _ _ _ hH z1, hs.s.at, icall (whoX u m3 k3) ?_⟩
    intro m7 k7
    rw [k7.2, show (catM u vm1).2.2 = vm1.2.2 from rfl, hr1.2.1]
    exact hh u m7 k7
  have preM : ∀ u m Q, Ky u vm m → ((∀ m1, Ky u vm1 m1 → (0 ≤ holdR (vm1.1 163) H (nI o) → G e_X12_lives 87 [(0, .ref 156), (5, .int (nI 0)), (6, .int (nI 0)), (7, .int (nI 0))] [] m1 Q) ∧ (¬ 0 ≤ holdR (vm1.1 163) H (nI o) → G e_X12_lives 87 [(0, .ref 156), (5, .int (nI 0)), (6, .int (nI 0)), (7, .int (nI 0))] [] (wI m1 163 (30 + h2) (nI o)) Q))) → Runs e_X12_lives [.ref 156, .int seed, .int i] m Q := by
    intro u m Q k hh
    refine b_X12_lives _ _ _ _ ?_
    have y1' : ∀ m : MM, v_X12_lot m seed (10 * i) (nI H) = nI h1 := fun _ => y1
    have y2' : ∀ m : MM, v_X12_lot m seed (10 * i + 1) (nI O) = nI o := fun _ => y2
    have y3' : ∀ m : MM, v_X12_lot m seed (10 * i + 2) (nI H) = nI h2 := fun _ => y3
    have km : Ky u vm1 (wI m 163 (30 + h1) (-2)) := by
      rw [e1]
      exact Ky.upI (k.lo (by omega) _) (by omega) _ _
    rw [n1' u m k, y1', i1]
    have e162 : (wI m 163 (30 + h1) (-2)).1 162 0 = nI H := by rw [wI_o (by decide)]; exact n1' u m k
    have e162' : (wI m 163 (30 + h1) (-2)).1 162 1 = nI O := by rw [wI_o (by decide)]; exact n2' u m k
    rw [e162, e162', y2', y3', i2]
    refine ⟨lot_oM _ _ _ hH z1, v1, lot_oM _ _ _ hO (by omega), lot_oM _ _ _ hH z1, icall (whoM u _ km) ?_⟩
    rintro m1 rfl
    obtain ⟨q1, q2⟩ := hh _ km
    exact ⟨q1, fun z => ⟨v2, q2 z⟩⟩
  by_cases c : holdR (vm1.1 163) H (nI o) = -2
  · obtain ⟨vm2, e2, f2, hb2⟩ := giv_both ht hs hb1 a3 a2 c
    refine ⟨vm2, f1.tr f2, hb2, preX vm2 fun u m k => ⟨fun z => absurd c z, fun _ => ⟨hs.s.at, vcall (settleC_ok hs.s (by omega) _ m) ?_⟩⟩, fun u m Q k hQ => preM u m Q k fun m1 k1 => ⟨fun z => ?_, fun _ => ?_⟩⟩
    · rintro m9 rfl
      refine ⟨rfl, ?_⟩
      rw [e2, k.s hs.s 2 (by omega)]
      exact Kx.hi (k.upR (by omega) _) (by omega) _ _
    · rw [c] at z
      exact absurd z (by decide)
    · refine hQ _ ?_
      rw [e2]
      exact Ky.upI (k1.lo (by omega) _) (by omega) _ _
  · have c0 : 0 ≤ holdR (vm1.1 163) H (nI o) := by
      unfold holdR at c ⊢
      have hl := fa_first_le (fun h => decide (vm1.1 163 (30 + h) = nI o)) H
      by_cases cc : fa_first (fun h => decide (vm1.1 163 (30 + h) = nI o)) H < H
      · rw [if_pos cc]
        exact nI_pos' (by omega)
      · rw [if_neg cc] at c
        exact absurd rfl c
    exact ⟨vm1, f1, hb1, preX vm1 fun u m k => ⟨fun _ => ⟨rfl, k⟩, fun z => absurd z c⟩, fun u m Q k hQ => preM u m Q k fun m1 k1 => ⟨fun _ => hQ m1 k1, fun z => absurd c0 z⟩⟩
theorem years_both {t s H O S Qn W C J F B n : Nat} (ht : isT t) (hs : isN s) (hn : n ≤ 40) (hH : 0 < H) (hO : 0 < O) (seed : Int32) : ∀ (d i : Nat) (vm : MM) (tot : Nat), i + d = n → RefR vm.2.2 t s → BodyR vm.1 t s H O S Qn W C J F B →
    ∃ (vm' : MM) (v : Nat), Fz s vm vm' ∧ BodyR vm'.1 t s H O S Qn W C J F B ∧
      (∀ u m, Kx u vm m → G e_X11_years 46 [(0, .ref 0), (1, .int seed), (2, .int (nI n)), (3, .int (nI tot)), (4, .int (nI i))] [] m (fun r m' => r = .int (nI v) ∧ Kx u vm' m')) ∧
      (∀ u m Q, Ky u vm m → (∀ m', Ky u vm' m' → Q (.int (nI v)) m') → G e_X12_years 42 [(0, .ref 156), (1, .int seed), (2, .int (nI n)), (3, .int (nI tot)), (4, .int (nI i))] [] m Q) := by
  intro d
  induction d with
  | zero =>
    intro i vm tot hd hr hb
    obtain rfl : i = n := by omega
    refine ⟨vm, tot, Fz.rf s vm, hb, fun u m k => ?_, fun u m Q k hQ => ?_⟩
    · exact b_X11_years_46 _ _ _ _ _ _ ⟨fun _ => ⟨rfl, k⟩, fun z => absurd (nI_le (Nat.le_refl _) (by omega)) z⟩
    · exact b_X12_years_42 _ _ _ _ _ _ ⟨fun _ => hQ m k, fun z => absurd (nI_le (Nat.le_refl _) (by omega)) z⟩
  | succ d ih =>
    intro i vm tot hd hr hb
    obtain ⟨vm1, f1, hb1, x1, y1⟩ := cast_both ht hs hr hb hH hO seed (nI i)
    have hr1 : RefR vm1.2.2 t s := by rw [f1.1]; exact hr
    obtain ⟨vm2, v, f2, hb2, x2, y2⟩ := straight_both ht hs H 0 vm1 0 0 (by omega) (by omega) hr1 hb1
    have hr2 : RefR vm2.2.2 t s := by rw [f2.1]; exact hr1
    obtain ⟨vm3, tv, f3, hb3, x3, y3⟩ := ih (i + 1) vm2 (tot + v) (by omega) hr2 hb2
    refine ⟨vm3, tv, (f1.tr f2).tr f3, hb3, fun u m k => ?_, fun u m Q k hQ => ?_⟩
    · refine b_X11_years_46 _ _ _ _ _ _ ⟨fun z => absurd z (nI_ge (by omega) (by omega)), fun _ => vcall (x1 u m k) fun m1 k1 => icall (b_X11_straighten _ _ (x2 u m1 k1)) fun m2 k2 => ?_⟩
      rw [nI_add, nI_1]
      exact x3 u m2 k2
    · refine b_X12_years_42 _ _ _ _ _ _ ⟨fun z => absurd z (nI_ge (by omega) (by omega)), fun _ => icall (y1 u m (fun r m' => r = .int (nI v) ∧ Ky u vm2 m') k fun m1 k1 => y2 u m1 _ k1 fun m2 k2 => ⟨rfl, k2⟩) fun m2 k2 => ?_⟩
      rw [nI_add, nI_1]
      exact y3 u m2 Q k2 hQ
theorem kx_of_kq {a b : Nat} (h : kq a b = true) : kx a b = true := by
  unfold kx
  rw [ke_of_kq h, Bool.or_true]
theorem kx_hi {x : Nat} (hx : 156 ≤ x) (y : Nat) : kx x y = true := by
  unfold kx
  have e : Nat.blt x 156 = false := by
    cases e : Nat.blt x 156 with
    | false => rfl
    | true => exact absurd (Nat.ble_eq.mp e) (by omega)
  rw [e]; rfl
theorem st_years (a1 a2 : Int32) : StepOK RR e_X11_years e_X12_years [.int a1, .int a2] := by
  apply step_g
  rintro mm ⟨t, s, H, O, S, Qn, W, C, J, F, B, ht, hs, hr, hb, hl⟩
  obtain ⟨z1, z2, z3, z4, z5, z6, z7, z8, z9⟩ := hb.sz
  obtain ⟨n1, n2, n3, n4, n5, n6, n7, n8, n9⟩ := hb.nm
  obtain ⟨c1, c2, c3, c4, c5, c6, c7, c8, c9, c10⟩ := hb.nc
  have rf := Kp.rf (kp := kq) mm
  have hs' : s = 24 ∨ s = 114 := hs
  have ht' : t = 10 ∨ t = 100 := ht
  have hR : RR mm := ⟨t, s, H, O, S, Qn, W, C, J, F, B, ht, hs, hr, hb, hl⟩
  by_cases hin : ¬ a2 < 1 ∧ ¬ (40 : Int32) < a2
  · obtain ⟨n, hn, rfl⟩ : ∃ n : Nat, n ≤ 40 ∧ a2 = nI n := by
      have q0 : (0 : Int32).toInt = 0 := by decide
      have q1 : (1 : Int32).toInt = 1 := by decide
      have hp0 : ¬ a2 < 0 := fun z => hin.1 (by
        rw [Int32.lt_iff_toInt_lt] at z ⊢
        omega)
      obtain ⟨j, hj, e⟩ := (inR_iff' (a := a2) (n := 40) (by omega)).mp ⟨hp0, hin.2⟩
      exact ⟨j, by omega, e⟩
    obtain ⟨k0, nx, g1, g2, g3, g4, g5, g6⟩ := id hl
    obtain ⟨vm, hvm⟩ : ∃ vm, vm = wI (wI mm 41 4 0) 156 40 0 := ⟨_, rfl⟩
    have fv : ∀ x, x ≠ 41 → x ≠ 156 → vm.1 x = mm.1 x := fun x h1 h2 => by rw [hvm, wI_o h2, wI_o h1]
    have hbv : BodyR vm.1 t s H O S Qn W C J F B := by
      have h8 := z5
      refine ⟨town_fr ht (fun a ha => fv a (by omega) (by omega)) hb.1, live_fr h8 (fun i _ => fv _ (by omega) (by omega)) (fun j _ => by rw [fv 163 (by omega) (by omega)]) hb.2.1,
        slot_fr h8 (fun i _ => fv _ (by omega) (by omega)) (fun j _ => by rw [fv 163 (by omega) (by omega)]) (by rw [fv _ (by omega) (by omega)]) (by rw [fv _ (by omega) (by omega)]) hb.2.2.1, slot_fr h8 (fun i _ => fv _ (by omega) (by omega)) (fun j _ => by rw [fv 163 (by omega) (by omega)]) (by rw [fv _ (by omega) (by omega)]) (by rw [fv _ (by omega) (by omega)]) hb.2.2.2.1,
        row_fr (by rw [fv _ (by omega) (by omega)]) (by rw [hvm, wI_k, pk_un (by omega), wI_o (by omega)]) (fv _ (by omega) (by omega)) (fv _ (by omega) (by omega)) hb.2.2.2.2.1, tape_fr (by rw [fv _ (by omega) (by omega)]) (by rw [hvm, wI_k, pk_un (by omega), wI_o (by omega)]) (fv _ (by omega) (by omega)) (fv _ (by omega) (by omega)) hb.2.2.2.2.2.1, ?_⟩
      rw [fv 1 (by omega) (by omega), hvm, wI_k, pk_un (by omega), wI_o (by omega)]
      exact hb.2.2.2.2.2.2
    have hrv : RefR vm.2.2 t s := by rw [hvm]; exact hr
    have lotv : ∀ m : MM, (∀ x, (x < s ∨ s + 14 ≤ x) → x ≠ 163 → m.1 x = vm.1 x) → LotR m.1 W := fun m f => by
      refine ⟨0, nx, by omega, g2, ?_, ?_, ?_, fun i hi => absurd hi (Nat.not_lt_zero _)⟩
      · rw [f 41 (by omega) (by omega), hvm, wI_o (by omega), wI_k, pk_us]; rfl
      · rw [f 41 (by omega) (by omega), hvm, wI_o (by omega), wI_k, pk_un (by omega)]; exact g4
      · rw [f 156 (by omega) (by omega), hvm, wI_k, pk_us]; rfl
    have hRv : RR vm := ⟨t, s, H, O, S, Qn, W, C, J, F, B, ht, hs, hrv, hbv, lotv vm fun _ _ _ => rfl⟩
    have dX : ∀ Q : MM → Prop, Q (wI mm 41 4 0) → ∃ P : Value → MM → Prop, Runs e_X9_dropLots [.ref 41] mm P ∧ ∀ m1, P .null m1 → Q m1 := fun Q hQ => ⟨fun _ m1 => m1 = wI mm 41 4 0, b_X9_dropLots _ _ rfl, fun m1 e => by rw [e]; exact hQ⟩
    have kx0 : Kx mm vm (wI mm 41 4 0) := by
      rw [hvm]
      have k0 : Kx mm (wI mm 41 4 0) (wI mm 41 4 0) := by
        refine ⟨fun x y e => ?_, rfl⟩
        by_cases d : x < 156
        · rw [cat_lo d]
        · rw [cat_hi (by omega), wI_o (by omega)]
      exact Kx.hi k0 (a := 156) (by omega) 40 0
    have e8 : (wI mm 41 4 0).1 t 8 = nI H := by rw [wI_o (by omega)]; exact c1
    have e9 : (wI mm 41 4 0).1 t 9 = nI O := by rw [wI_o (by omega)]; exact c2
    have ky0 : ∀ (vm' m : MM), Kx mm vm' m → vm'.2.2 = vm.2.2 → Ky m vm (wI m 156 40 0) := fun vm' m k er => by
      refine ⟨fun x y e => ?_, rfl⟩
      by_cases d : x < 156
      · rw [cat_lo d, wI_o (by omega)]
      · rw [cat_hi (by omega)]
        have hx : m.1 x = mm.1 x := (Kp.row k x (kx_hi (by omega))).trans (cat_hi (by omega))
        rw [hvm]
        by_cases c : x = 156
        · subst c
          rw [wI_k, wI_k, hx, wI_o (by decide)]
        · rw [wI_o c, wI_o c, wI_o (by omega), hx]
    by_cases hz : H = 0 ∨ O = 0
    · refine ⟨.int 0, fun m => m = wI mm 41 4 0, ?_, ?_⟩
      · refine b_X11_years _ _ _ _ ⟨fun _ => dX _ ?_, fun z => absurd hin z⟩
        show AtTown (mm.2.2 0 9) ∧ _
        rw [show (wI mm 41 4 0).2.2 = mm.2.2 from rfl, hr.1, e8, e9]
        refine ⟨ht.at, fun _ => ⟨rfl, rfl⟩, fun z => ⟨ht.at, fun z2 => ?_, fun _ => ⟨rfl, rfl⟩⟩⟩
        rcases hz with hz | hz
        · exact absurd (congrArg nI hz) z
        · exact absurd (congrArg nI hz) z2
      · rintro m rfl
        have e3 : (wI (wI mm 41 4 0) 156 40 0) = vm := hvm.symm
        refine b_X12_years _ _ _ _ ⟨fun _ => ?_, fun z => absurd hin z⟩
        rw [e3, fv 162 (by decide) (by decide), n1, n2]
        refine ⟨fun _ => ⟨rfl, hRv⟩, fun z => ⟨fun z2 => ?_, fun _ => ⟨rfl, hRv⟩⟩⟩
        rcases hz with hz | hz
        · exact absurd (congrArg nI hz) z
        · exact absurd (congrArg nI hz) z2
    · have hH : 0 < H := by omega
      have hO : 0 < O := by omega
      obtain ⟨vm', v, f1, hb', xX, yM⟩ := years_both ht hs hn hH hO a1 n 0 vm 0 (by omega) hrv hbv
      refine ⟨.int (nI v), fun m => Kx mm vm' m, ?_, fun m k => ?_⟩
      · refine b_X11_years _ _ _ _ ⟨fun _ => dX _ ?_, fun z => absurd hin z⟩
        show AtTown (mm.2.2 0 9) ∧ _
        rw [show (wI mm 41 4 0).2.2 = mm.2.2 from rfl, hr.1, e8, e9]
        exact ⟨ht.at, fun z => absurd z (nI_ne0 hH (by omega)), fun _ => ⟨ht.at, fun _ => xX mm _ kx0, fun z => absurd z (nI_ne0 hO (by omega))⟩⟩
      · have ky := ky0 vm' m k f1.1
        have r162 := ky.r (a := 162) (by decide) fun _ => rfl
        refine b_X12_years _ _ _ _ ⟨fun _ => ?_, fun z => absurd hin z⟩
        rw [r162, fv 162 (by decide) (by decide), n1, n2]
        refine ⟨fun z => absurd z (nI_ne0 hH (by omega)), fun _ => ⟨fun _ => ?_, fun z => absurd z (nI_ne0 hO (by omega))⟩⟩
        refine yM m _ _ ky ?_
        intro m' k'
        refine ⟨rfl, RR_kq (mm := vm') ⟨t, s, H, O, S, Qn, W, C, J, F, B, ht, hs, by rw [f1.1]; exact hrv, hb', lotv vm' f1.2.1⟩ ⟨fun x y e => ?_, ?_⟩⟩
        · rw [k'.1 x y e]
          by_cases d : x < 156
          · rw [cat_lo d, k.1 x y (kx_of_kq e), cat_lo d]
          · rw [cat_hi (by omega)]
        · rw [k'.2]
          exact k.2
  · refine ⟨.int (-1), fun m => Kq mm m, ?_, fun m k => ?_⟩
    · exact b_X11_years _ _ _ _ ⟨fun z => absurd z hin, fun _ => ⟨rfl, rf⟩⟩
    · exact b_X12_years _ _ _ _ ⟨fun z => absurd z hin, fun _ => ⟨rfl, RR_kq hR k⟩⟩

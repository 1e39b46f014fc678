/-! all nights, the model -/
def FrA (u m0 m : MM) : Prop := m.2.2 = m0.2.2 ∧ (∀ x y, 156 ≤ x → kq x y = true → x ≠ 163 → m.1 x y = m0.1 x y) ∧ (∀ j, (j < 10 ∨ 26 ≤ j ∧ j < 50 ∨ 58 ≤ j) → m.1 163 j = m0.1 163 j) ∧ m.1 183 = u.1 183 ∧ ∀ x y, x < 156 → kq x y = true → m.1 x y = u.1 x y
theorem FrA.ke {u m0 m m' : MM} (h : FrA u m0 m) (k : Ke m m') : FrA u m0 m' := ⟨k.2.trans h.1, fun x y h6 e hx => (k.g x y (ke_of_kq e)).trans (h.2.1 x y h6 e hx), fun j hj => by rw [k.r163]; exact h.2.2.1 j hj, by rw [k.row 183 (fun _ => rfl)]; exact h.2.2.2.1, fun x y hx e => (k.g x y (ke_of_kq e)).trans (h.2.2.2.2 x y hx e)⟩
theorem FrA.l {u m0 m m' : MM} (h : FrA u m0 m) (k : FrL m m') : FrA u m0 m' := by
  refine ⟨by rw [k.1]; exact h.1, fun x y h6 e hx => ?_, fun j hj => (k.2.2.2 j hj).trans (h.2.2.1 j hj), by rw [k.2.1 183 (by decide) (by decide) (by decide) (by decide)]; exact h.2.2.2.1, fun x y hx e => by rw [k.2.1 x (by omega) (by omega) (by omega) (by omega)]; exact h.2.2.2.2 x y hx e⟩
  rw [← h.2.1 x y h6 e hx]
  by_cases c : x = 156
  · subst c
    have hy : y ≠ 41 := by
      intro z; subst z; cases e
    exact k.2.2.1 y hy
  · by_cases c1 : x = 181
    · subst c1; cases e
    · by_cases c2 : x = 182
      · subst c2; cases e
      · rw [k.2.1 x hx c c1 c2]
theorem FrA.r {u m0 m : MM} (h : FrA u m0 m) {x : Nat} (hx : x ≠ 163 ∧ 156 ≤ x) (e : ∀ y, kq x y = true) : m.1 x = m0.1 x := funext fun y => h.2.1 x y hx.2 (e y) hx.1
theorem WkM.ke {m m' : MM} {W : Nat} {q : (Nat → Nat) × (Nat → Nat) × Nat} (h : WkM m W q) (k : Ke m m') : WkM m' W q := by
  obtain ⟨a1, a2, a3⟩ := h
  exact ⟨fun h hh => by rw [k.r163]; exact a1 h hh, fun w hw => by rw [k.r163]; exact a2 w hw, by rw [k.g 156 41 rfl]; exact a3⟩
theorem makesAll_ok {mm m0 : MM} {t s H O S Qn W C J F B n : Nat} {wn wh we : Nat → Nat} {wu : Nat → Bool} (hb : BodyR mm.1 t s H O S Qn W C J F B) (f0 : FrA m0 mm m0) (hn : n ≤ 40) (e1 : mm.1 163 1 = nI n)
    (hwk : ∀ i, i < n → (wn i ≤ 99 ∧ wh i < 16 ∧ 1 ≤ we i ∧ we i ≤ 99) ∧ mm.1 163 (60 + 3 * i) = nI (wn i) ∧ mm.1 163 (60 + 3 * i + 1) = nI (wh i) ∧ mm.1 163 (60 + 3 * i + 2) = bif wu i then nI (we i) else -nI (we i))
    (hh : ∀ h, h < 16 → m0.1 163 (10 + h) = nI (hgV mm.1 h)) (hp : ∀ w, w < W → m0.1 163 (50 + w) = nI (pcV mm.1 w)) :
    Runs e_X12_makesAll [.ref 156] m0 (fun r m' => r = .int (nI (avs (mm.1 162) (tideV mm.1 12) W J C (lnV mm.1) wn wh we wu n (hgV mm.1, pcV mm.1, 0) 100).1) ∧ (FrA m0 mm m' ∧ ((avs (mm.1 162) (tideV mm.1 12) W J C (lnV mm.1) wn wh we wu n (hgV mm.1, pcV mm.1, 0) 100).1 = 0 → WkM m' W (avs (mm.1 162) (tideV mm.1 12) W J C (lnV mm.1) wn wh we wu n (hgV mm.1, pcV mm.1, 0) 100).2))) := by
  obtain ⟨z1, z2, z3, z4, z5, z6, z7, z8, z9⟩ := hb.sz
  obtain ⟨n1, n2, n3, n4, n5, n6, n7, n8, n9⟩ := hb.nm
  have rch : ∀ (m : MM) (q : (Nat → Nat) × (Nat → Nat) × Nat), FrA m0 mm m → WkM m W q → Runs e_X12_reachedAt [.ref 156, .int 12, .int (-1), .int (-1)] m (fun r m' => r = .int (nI (rchV (mm.1 162) (fun h => nI (q.1 h)) (tideV mm.1 12) (-1) (-1))) ∧ Ke m m') := fun m q f w =>
    reachW_ok hb (f.r (by decide) fun _ => rfl) (f.r (by decide) fun _ => rfl) (f.r (by decide) fun _ => rfl) (f.2.2.1 0 (by omega)) w
  apply b_X12_makesAll
  refine for_up (Y := e_X12_makesAll) (pc := 7) (fun N => [(0, .ref 156), (1, .int (nI N))]) (fun N m' => FrA m0 mm m' ∧ (avs (mm.1 162) (tideV mm.1 12) W J C (lnV mm.1) wn wh we wu n (hgV mm.1, pcV mm.1, 0) N).1 = 0 ∧ WkM m' W (avs (mm.1 162) (tideV mm.1 12) W J C (lnV mm.1) wn wh we wu n (hgV mm.1, pcV mm.1, 0) N).2) 100 ?_ ?_ 0 _ (by omega) ⟨?_, rfl, ?_⟩
  · rintro m' ⟨k1, k2, k3⟩
    refine b_X12_makesAll_7 _ _ _ ⟨fun _ => ⟨?_, k1, fun _ => k3⟩, fun z => absurd (by rfl) z⟩
    rw [k2]; rfl
  · rintro N m' hN ⟨k1, k2, k3⟩ hg
    have eav : avs (mm.1 162) (tideV mm.1 12) W J C (lnV mm.1) wn wh we wu n (hgV mm.1, pcV mm.1, 0) (N + 1) = nightV (mm.1 162) (tideV mm.1 12) W J C (lnV mm.1) wn wh we wu n N (avs (mm.1 162) (tideV mm.1 12) W J C (lnV mm.1) wn wh we wu n (hgV mm.1, pcV mm.1, 0) N).2 := by
      rw [avs, if_neg (not_not_intro k2)]
    rw [eav] at hg
    have stop : ∀ v : Nat, ¬ v = 0 → ∀ q', nightV (mm.1 162) (tideV mm.1 12) W J C (lnV mm.1) wn wh we wu n N (avs (mm.1 162) (tideV mm.1 12) W J C (lnV mm.1) wn wh we wu n (hgV mm.1, pcV mm.1, 0) N).2 = (v, q') → avs (mm.1 162) (tideV mm.1 12) W J C (lnV mm.1) wn wh we wu n (hgV mm.1, pcV mm.1, 0) 100 = (v, q') := fun v hv q' e => by
      have e2 := eav.trans e
      rw [avs_stop (k := N + 1) (by rw [e2]; exact hv) 100 (by omega), e2]
    generalize (avs (mm.1 162) (tideV mm.1 12) W J C (lnV mm.1) wn wh we wu n (hgV mm.1, pcV mm.1, 0) N).2 = q at *
    generalize avs (mm.1 162) (tideV mm.1 12) W J C (lnV mm.1) wn wh we wu n (hgV mm.1, pcV mm.1, 0) 100 = R at *
    have early : ∀ k v : Nat, k < n → ¬ v = 0 → nvs W J C (lnV mm.1) wn wh we wu N q (k + 1) = (v, q, 0, 0) → R = (v, q) := by
      intro k v hk hv e
      have e2 := nvs_stop (k := k + 1) (W := W) (J := J) (C := C) (ln := lnV mm.1) (wn := wn) (wh := wh) (we := we) (wu := wu) (N := N) (q0 := q) (by rw [e]; exact hv) n (by omega)
      refine stop v hv q ?_
      unfold nightV
      rw [e2, e, if_pos hv]
    refine b_X12_makesAll_7 _ _ _ ⟨fun z => absurd (show nI 100 ≤ nI N from z) (nI_ge hN (by omega)), fun _ => ?_⟩
    refine for_up (Y := e_X12_makesAll) (pc := 23) (fun k => [(0, .ref 156), (1, .int (nI N)), (2, .int (nI (nvs W J C (lnV mm.1) wn wh we wu N q k).2.2.1)), (3, .int (if (nvs W J C (lnV mm.1) wn wh we wu N q k).2.2.1 = 0 then -1 else nI (nvs W J C (lnV mm.1) wn wh we wu N q k).2.2.2)), (4, .int (if (nvs W J C (lnV mm.1) wn wh we wu N q k).2.2.1 = 0 then 0 else nI (rchV (mm.1 162) (fun h => nI (q.1 h)) (tideV mm.1 12) (-1) (-1)))), (5, .int (nI k))]) (fun k m' => FrA m0 mm m' ∧ (nvs W J C (lnV mm.1) wn wh we wu N q k).1 = 0 ∧ WkM m' W (nvs W J C (lnV mm.1) wn wh we wu N q k).2.1) n ?_ ?_ 0 m' (by omega) ⟨k1, rfl, k3⟩
    · rintro m2 ⟨j1, j2, j3⟩
      refine b_X12_makesAll_23 _ _ _ _ _ _ _ ?_
      rw [j1.2.2.1 1 (by omega), e1]
      refine ⟨fun _ => ?_, fun z => absurd (nI_le (Nat.le_refl _) (by omega)) z⟩
      have hmany := nvs_many (W := W) (J := J) (C := C) (ln := lnV mm.1) (wn := wn) (wh := wh) (we := we) (wu := wu) (N := N) (q0 := q) n
      have nv : nightV (mm.1 162) (tideV mm.1 12) W J C (lnV mm.1) wn wh we wu n N q = cite (cutW (mm.1 162) (tideV mm.1 12) q.1 (nvs W J C (lnV mm.1) wn wh we wu N q n).2.1.1) (10 * (nvs W J C (lnV mm.1) wn wh we wu N q n).2.2.2 + 5, q) (0, (nvs W J C (lnV mm.1) wn wh we wu N q n).2.1) := by
        unfold nightV
        rw [if_neg (not_not_intro j2)]
      by_cases c0 : (nvs W J C (lnV mm.1) wn wh we wu N q n).2.2.1 = 0
      · refine ⟨fun _ => ?_, fun z => absurd (show nI _ ≤ nI 0 from nI_le (by omega) (by omega)) z⟩
        have es := nvs_none n j2 c0
        rw [es] at nv j3
        have nv := nv.trans (cite_neg (fun z => z (and_not_self _)))
        rw [nI_1]
        exact hg m2 ⟨j1, by rw [nv], by rw [nv]; exact j3⟩
      · refine ⟨fun z => absurd (show nI _ ≤ nI 0 from z) (nI_ge (by omega) (by omega)), fun _ => ?_⟩
        rw [if_neg c0, if_neg c0]
        refine icall (rch m2 _ j1 j3) ?_
        intro m3 k
        by_cases cc : cutW (mm.1 162) (tideV mm.1 12) q.1 (nvs W J C (lnV mm.1) wn wh we wu N q n).2.1.1
        · refine ⟨fun z => absurd z cc, fun _ => ?_⟩
          rw [stop _ (Nat.succ_ne_zero _) q (nv.trans (cite_pos cc))]
          refine ⟨?_, j1.ke k, fun z => absurd z (Nat.succ_ne_zero _)⟩
          rw [show (10 : Int32) = nI 10 from rfl, show (5 : Int32) = nI 5 from rfl, pk_mul, nI_add]
        · refine ⟨fun _ => ?_, fun z => absurd z cc⟩
          have nv := nv.trans (cite_neg cc)
          rw [nI_1]
          exact hg m3 ⟨j1.ke k, by rw [nv], by rw [nv]; exact j3.ke k⟩
    · rintro k m2 hk ⟨j1, j2, j3⟩ hgo
      obtain ⟨⟨g1, g2, g3, g4⟩, g5, g6, g7⟩ := hwk k hk
      have i0 : ((60 : Int32) + 3 * nI k).toNatClampNeg = 60 + 3 * k := by simp (disch := omega) only [lin, nI_add, pk_mul, s_sub, s_addneg, s_leT, s_leF, s_ltT, s_ltF, s_eqF, s_inT, s_neF, s_neF', s_neE, s_nleT, s_nleF, s_nltF, s_nltT, eq_self, nI_clamp, s_wIk, s_wIo, pk_us, pk_un, Nat.reduceAdd, Nat.reduceMul, Nat.reduceSub, Nat.zero_add, Nat.add_zero, Nat.mul_zero, true_implies, false_implies, implies_true, not_true, not_false, and_true, true_and, not_true_eq_false, not_false_eq_true, forall_const]
      have v0 : vp_in ((60 : Int32) + 3 * nI k) 1260 := by simp (disch := omega) only [lin, nI_add, pk_mul, s_sub, s_addneg, s_leT, s_leF, s_ltT, s_ltF, s_eqF, s_inT, s_neF, s_neF', s_neE, s_nleT, s_nleF, s_nltF, s_nltT, eq_self, nI_clamp, s_wIk, s_wIo, pk_us, pk_un, Nat.reduceAdd, Nat.reduceMul, Nat.reduceSub, Nat.zero_add, Nat.add_zero, Nat.mul_zero, true_implies, false_implies, implies_true, not_true, not_false, and_true, true_and, not_true_eq_false, not_false_eq_true, forall_const]
      have hmany := nvs_many (W := W) (J := J) (C := C) (ln := lnV mm.1) (wn := wn) (wh := wh) (we := we) (wu := wu) (N := N) (q0 := q) k
      have hmk : ∀ m3, FrA m0 mm m3 → WkM m3 W (nvs W J C (lnV mm.1) wn wh we wu N q k).2.1 → _ := fun m3 f3 w3 => makes_ok (m := m3) (W := W) (J := J) (C := C) (h := wh k) (e := we k) (i := k) (ma := (nvs W J C (lnV mm.1) wn wh we wu N q k).2.2.1) (ln := lnV mm.1) (q := (nvs W J C (lnV mm.1) wn wh we wu N q k).2.1) (up := wu k) z5 g2 g3 g4 (by omega) (by omega) hmany (by omega) (by rw [f3.r (by decide) fun _ => rfl]; exact n5) (by rw [f3.r (by decide) fun _ => rfl]; exact n6) (by rw [f3.r (by decide) fun _ => rfl]; exact n7) (by rw [f3.2.2.1 _ (by omega)]; exact g6) (by rw [f3.2.2.1 _ (by omega)]; exact g7) (fun w hw => by
        obtain ⟨l1, l2, l3, -⟩ := hb.ln hw
        exact ⟨l1, l2, by rw [f3.r (by decide) fun _ => rfl]; exact l3⟩) w3
      have hle := wrk_le (W := W) (J := J) (ln := lnV mm.1) (hv := (nvs W J C (lnV mm.1) wn wh we wu N q k).2.1.1) (pv := (nvs W J C (lnV mm.1) wn wh we wu N q k).2.1.2.1) (tk := (nvs W J C (lnV mm.1) wn wh we wu N q k).2.1.2.2) (h := wh k) (e := we k) (up := wu k)
      refine b_X12_makesAll_23 _ _ _ _ _ _ _ ?_
      rw [j1.2.2.1 1 (by omega), e1, i0, j1.2.2.1 (60 + 3 * k) (by omega), g5]
      refine ⟨fun z => absurd z (nI_ge hk (by omega)), fun _ => ⟨v0, fun cN => ?_, fun cN => ?_⟩⟩
      · have cN : wn k = N := (nI_eq (by omega) (by omega)).mp cN
        have post : ∀ m3 m4, FrA m0 mm m3 → FrL m3 m4 → (¬ (nvs W J C (lnV mm.1) wn wh we wu N q k).2.2.1 = C → (wrk W J (lnV mm.1) (nvs W J C (lnV mm.1) wn wh we wu N q k).2.1.1 (nvs W J C (lnV mm.1) wn wh we wu N q k).2.1.2.1 (nvs W J C (lnV mm.1) wn wh we wu N q k).2.1.2.2 (wh k) (we k) (wu k)).1 = 0 → WkM m4 W (wrk W J (lnV mm.1) (nvs W J C (lnV mm.1) wn wh we wu N q k).2.1.1 (nvs W J C (lnV mm.1) wn wh we wu N q k).2.1.2.1 (nvs W J C (lnV mm.1) wn wh we wu N q k).2.1.2.2 (wh k) (we k) (wu k)).2) →
            (nI (if (nvs W J C (lnV mm.1) wn wh we wu N q k).2.2.1 = C then 1 else (wrk W J (lnV mm.1) (nvs W J C (lnV mm.1) wn wh we wu N q k).2.1.1 (nvs W J C (lnV mm.1) wn wh we wu N q k).2.1.2.1 (nvs W J C (lnV mm.1) wn wh we wu N q k).2.1.2.2 (wh k) (we k) (wu k)).1) ≤ 0 → G e_X12_makesAll 23 [(0, .ref 156), (1, .int (nI N)), (2, .int (nI (nvs W J C (lnV mm.1) wn wh we wu N q k).2.2.1 + 1)), (3, .int (nI k)), (4, .int (nI (rchV (mm.1 162) (fun h => nI (q.1 h)) (tideV mm.1 12) (-1) (-1)))), (5, .int (nI k + 1))] [] m4 (fun r m' => r = .int (nI R.1) ∧ (FrA m0 mm m' ∧ (R.1 = 0 → WkM m' W R.2)))) ∧
            (¬ nI (if (nvs W J C (lnV mm.1) wn wh we wu N q k).2.2.1 = C then 1 else (wrk W J (lnV mm.1) (nvs W J C (lnV mm.1) wn wh we wu N q k).2.1.1 (nvs W J C (lnV mm.1) wn wh we wu N q k).2.1.2.1 (nvs W J C (lnV mm.1) wn wh we wu N q k).2.1.2.2 (wh k) (we k) (wu k)).1) ≤ 0 → Value.int (10 * nI k + nI (if (nvs W J C (lnV mm.1) wn wh we wu N q k).2.2.1 = C then 1 else (wrk W J (lnV mm.1) (nvs W J C (lnV mm.1) wn wh we wu N q k).2.1.1 (nvs W J C (lnV mm.1) wn wh we wu N q k).2.1.2.1 (nvs W J C (lnV mm.1) wn wh we wu N q k).2.1.2.2 (wh k) (we k) (wu k)).1)) = .int (nI R.1) ∧ (FrA m0 mm m4 ∧ (R.1 = 0 → WkM m4 W R.2))) := by
          intro m3 m4 f3 f4 w4
          by_cases cC : (nvs W J C (lnV mm.1) wn wh we wu N q k).2.2.1 = C
          · rw [if_pos cC]
            refine ⟨fun z => absurd z (by decide), fun _ => ?_⟩
            rw [early k (10 * k + 1) hk (Nat.succ_ne_zero _) (nvs_full j2 cN cC)]
            refine ⟨?_, f3.l f4, fun z => absurd z (Nat.succ_ne_zero _)⟩
            rw [show (10 : Int32) = nI 10 from rfl, pk_mul, nI_add]
          · rw [if_neg cC]
            have w4 := w4 cC
            by_cases c0 : (wrk W J (lnV mm.1) (nvs W J C (lnV mm.1) wn wh we wu N q k).2.1.1 (nvs W J C (lnV mm.1) wn wh we wu N q k).2.1.2.1 (nvs W J C (lnV mm.1) wn wh we wu N q k).2.1.2.2 (wh k) (we k) (wu k)).1 = 0
            · refine ⟨fun _ => ?_, fun z => absurd (show nI _ ≤ nI 0 from nI_le (by omega) (by omega)) z⟩
              have e := nvs_go (W := W) (J := J) (C := C) (ln := lnV mm.1) (wn := wn) (wh := wh) (we := we) (wu := wu) (N := N) (q0 := q) j2 cN cC c0
              have := hgo m4 ⟨f3.l f4, by rw [e], by rw [e]; exact w4 c0⟩
              rw [e] at this
              rw [nI_1, nI_1]
              simp only [if_neg (Nat.succ_ne_zero _)] at this
              exact this
            · refine ⟨fun z => absurd (show nI _ ≤ nI 0 from z) (nI_ge (by omega) (by omega)), fun _ => ?_⟩
              rw [early k _ hk (by omega) (nvs_bad (r := (wrk W J (lnV mm.1) (nvs W J C (lnV mm.1) wn wh we wu N q k).2.1.1 (nvs W J C (lnV mm.1) wn wh we wu N q k).2.1.2.1 (nvs W J C (lnV mm.1) wn wh we wu N q k).2.1.2.2 (wh k) (we k) (wu k)).1) j2 cN cC rfl c0)]
              refine ⟨?_, f3.l f4, fun z => absurd (show 10 * k + _ = 0 from z) (by omega)⟩
              rw [show (10 : Int32) = nI 10 from rfl, pk_mul, nI_add]
        by_cases cm : (nvs W J C (lnV mm.1) wn wh we wu N q k).2.2.1 = 0
        · refine ⟨fun z => absurd (congrArg nI cm) z, fun _ => ?_⟩
          have es := nvs_none k j2 cm
          have rr := rch m2 _ j1 j3
          rw [es] at rr
          refine icall rr ?_
          intro m3 k3'
          refine icall (hmk m3 (j1.ke k3') (j3.ke k3')) ?_
          rintro m4 ⟨f4, w4⟩
          exact post m3 m4 (j1.ke k3') f4 w4
        · refine ⟨fun _ => ?_, fun z => absurd z (nI_ne0 (by omega) (by omega))⟩
          rw [if_neg cm]
          refine icall (hmk m2 j1 j3) ?_
          rintro m4 ⟨f4, w4⟩
          exact post m2 m4 j1 f4 w4
      · have cN : ¬ wn k = N := fun z => cN (congrArg nI z)
        have e := nvs_skip (W := W) (J := J) (C := C) (ln := lnV mm.1) (wn := wn) (wh := wh) (we := we) (wu := wu) (N := N) (q0 := q) j2 cN
        have := hgo m2 ⟨j1, by rw [e]; exact j2, by rw [e]; exact j3⟩
        rw [e] at this
        rw [nI_1]
        exact this
  · exact ⟨f0.1, fun x y h6 e hx => by
      by_cases c : x = 156
      · subst c
        have hy : y ≠ 41 := by
          intro z; subst z; cases e
        rw [wI_k, pk_un hy]; exact f0.2.1 156 y h6 e hx
      · rw [wI_o c]; exact f0.2.1 x y h6 e hx, fun j hj => by rw [wI_o (by decide)]; exact f0.2.2.1 j hj, by rw [wI_o (by decide)], fun x y hx e => by rw [wI_o (by omega)]⟩
  · refine ⟨fun h hh' => ?_, fun w hw => ?_, by rw [wI_k, pk_us]; rfl⟩
    · rw [wI_o (by decide)]; exact ⟨hh h hh', (hb.hgv hh').1⟩
    · rw [wI_o (by decide)]; exact ⟨hp w hw, (hb.pc hw).1⟩

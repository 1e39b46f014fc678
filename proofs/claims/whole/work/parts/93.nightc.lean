/-! a night of WORKS, the class -/
theorem wrk_le {W J : Nat} {ln hv pv : Nat → Nat} {tk h e : Nat} {up : Bool} : (wrk W J ln hv pv tk h e up).1 ≤ 4 := by
  unfold wrk
  by_cases c : J < e
  · rw [if_pos c]; show 2 ≤ 4; decide
  · rw [if_neg c]
    cases up with
    | true =>
      simp only [cond_true]
      by_cases c2 : 99 < hv h + e
      · rw [if_pos c2]; show 3 ≤ 4; decide
      · rw [if_neg c2]
        by_cases c3 : fw 1000 W ln pv W e < 1000
        · rw [if_pos c3]; exact Nat.zero_le _
        · rw [if_neg c3]; exact Nat.le_refl 4
    | false =>
      simp only [cond_false]
      by_cases c2 : hv h < e
      · rw [if_pos c2]; show 3 ≤ 4; decide
      · rw [if_neg c2]; exact Nat.zero_le _
def cutW (st : Nat → Int32) (tide : Int32) (h0 h1 : Nat → Nat) : Prop := ¬ (nI (rchV st (fun h => nI (h0 h)) tide (-1) (-1)) &&& (nI (rchV st (fun h => nI (h1 h)) tide (-1) (-1)) ^^^ (-1))) = 0
noncomputable def nightV (st : Nat → Int32) (tide : Int32) (W J C : Nat) (ln wn wh we : Nat → Nat) (wu : Nat → Bool) (n N : Nat) (q : (Nat → Nat) × (Nat → Nat) × Nat) : Nat × ((Nat → Nat) × (Nat → Nat) × Nat) :=
  if ¬ (nvs W J C ln wn wh we wu N q n).1 = 0 then ((nvs W J C ln wn wh we wu N q n).1, q)
  else cite (cutW st tide q.1 (nvs W J C ln wn wh we wu N q n).2.1.1) (10 * (nvs W J C ln wn wh we wu N q n).2.2.2 + 5, q) (0, (nvs W J C ln wn wh we wu N q n).2.1)
theorem rbits_ok {mm m : MM} {t s H O S Qn W C J F B : Nat} {tide : Int32} {q : (Nat → Nat) × (Nat → Nat) × Nat} (ht : isT t) (hb : BodyR mm.1 t s H O S Qn W C J F B) (hm : Kq mm m) (hq : WkX m W q) : Runs e_X8_reachedBits [.ref t, .ref 42, .int tide] m (fun r m' => r = .int (nI (rchV (mm.1 162) (fun h => nI (q.1 h)) tide (-1) (-1))) ∧ m' = m) := by
  refine b_X8_reachedBits _ _ _ _ _ ht.at rfl ?_
  exact icall (reachC_ok (mm := mm) (hv := fun h => nI (q.1 h)) ht rfl hb.townM hb.townC (fun h hh => ⟨q.1 h, (hq.1 h hh).2, rfl⟩) (Or.inl rfl) m hm (fun h hh => (hq.1 h hh).1)) fun m1 e => ⟨rfl, e⟩
theorem nightC_ok {mm m : MM} {t s H O S Qn W C J F B n N : Nat} {wn wh we : Nat → Nat} {wu : Nat → Bool} {tide : Int32} {q : (Nat → Nat) × (Nat → Nat) × Nat} (ht : isT t) (hs : isN s) (hb : BodyR mm.1 t s H O S Qn W C J F B) (hm : Kq mm m) (hq : WkX m W q) (hN : N ≤ 99) (hn : n ≤ 40) (e7 : mm.1 s 7 = nI n)
    (hwk : ∀ i, i < n → (wn i ≤ 99 ∧ wh i < 16 ∧ 1 ≤ we i ∧ we i ≤ 99) ∧ mm.1 (s + 4) i = nI (wn i) ∧ mm.1 (s + 5) i = nI (wh i) ∧ mm.1 (s + 6) i = bif wu i then nI (we i) else -nI (we i)) :
    Runs e_X9_nightVerdict [.ref 41, .ref t, .ref s, .ref 38, .int (nI N), .int tide] m (fun r m' => r = .int (nI (nightV (mm.1 162) tide W J C (lnV mm.1) wn wh we wu n N q).1) ∧ (Kq mm m' ∧ ((nightV (mm.1 162) tide W J C (lnV mm.1) wn wh we wu n N q).1 = 0 → WkX m' W (nightV (mm.1 162) tide W J C (lnV mm.1) wn wh we wu n N q).2))) := by
  have ht' : t = 10 ∨ t = 100 := ht
  have hs' : s = 24 ∨ s = 114 := hs
  obtain ⟨z1, z2, z3, z4, z5, z6, z7, z8, z9⟩ := hb.sz
  obtain ⟨c1, c2, c3, c4, c5, c6, c7, c8, c9, c10⟩ := hb.nc
  have early : ∀ k v : Nat, k < n → ¬ v = 0 → nvs W J C (lnV mm.1) wn wh we wu N q (k + 1) = (v, q, 0, 0) → nightV (mm.1 162) tide W J C (lnV mm.1) wn wh we wu n N q = (v, q) := by
    intro k v hk hv e
    have e2 := nvs_stop (k := k + 1) (W := W) (J := J) (C := C) (ln := lnV mm.1) (wn := wn) (wh := wh) (we := we) (wu := wu) (N := N) (q0 := q) (by rw [e]; exact hv) n (by omega)
    unfold nightV
    rw [e2, e, if_pos hv]
  refine b_X9_nightVerdict _ _ _ _ _ _ ht.at hs.s.at ?_
  refine icall (rbits_ok ht hb hm hq) ?_
  rintro m1 rfl
  refine for_up (Y := e_X9_nightVerdict) (pc := 21) (fun k => [(0, .ref 41), (1, .ref t), (2, .ref s), (3, .ref 38), (4, .int (nI N)), (5, .int tide), (6, .int (nI (rchV (mm.1 162) (fun h => nI (q.1 h)) tide (-1) (-1)))), (7, .int (nI (nvs W J C (lnV mm.1) wn wh we wu N q k).2.2.1)), (8, .int (nI (nvs W J C (lnV mm.1) wn wh we wu N q k).2.2.2)), (9, .int (nI k))]) (fun k m' => Kq mm m' ∧ (nvs W J C (lnV mm.1) wn wh we wu N q k).1 = 0 ∧ WkX m' W (nvs W J C (lnV mm.1) wn wh we wu N q k).2.1) n ?_ ?_ 0 m1 (by omega) ⟨hm, rfl, hq⟩
  · rintro m' ⟨k1, k2, k3⟩
    refine b_X9_nightVerdict_21 _ _ _ _ _ _ _ _ _ _ ht.at hs.s.at ?_
    rw [k1.s0 hs.s, e7]
    refine ⟨fun _ => ?_, fun z => absurd (nI_le (Nat.le_refl _) (by omega)) z⟩
    refine icall (rbits_ok ht hb k1 k3) ?_
    rintro m2 rfl
    unfold nightV
    rw [if_neg (not_not_intro k2)]
    by_cases cc : cutW (mm.1 162) tide q.1 (nvs W J C (lnV mm.1) wn wh we wu N q n).2.1.1
    · rw [cite_pos cc]
      refine ⟨fun z => absurd z cc, fun _ => ⟨?_, k1, fun z => absurd z (Nat.succ_ne_zero _)⟩⟩
      rw [show (10 : Int32) = nI 10 from rfl, show (5 : Int32) = nI 5 from rfl, pk_mul, nI_add]
    · rw [cite_neg cc]
      exact ⟨fun _ => ⟨rfl, k1, fun _ => k3⟩, fun z => absurd z cc⟩
  · rintro k m' hk ⟨k1, k2, k3⟩ hg
    obtain ⟨⟨g1, g2, g3, g4⟩, g5, g6, g7⟩ := hwk k hk
    refine b_X9_nightVerdict_21 _ _ _ _ _ _ _ _ _ _ ht.at hs.s.at ?_
    rw [k1.s0 hs.s, e7, k1.s hs.s 4 (by omega), k1.s hs.s 5 (by omega), k1.s hs.s 6 (by omega), nI_clamp (by omega), g5, g6, g7, k1.t0 ht, c7]
    refine ⟨fun z => absurd z (nI_ge hk (by omega)), fun _ => ⟨vp_in_nI (by omega) (by omega), fun cN => ?_, fun cN => ?_⟩⟩
    · have cN : ¬ wn k = N := fun z => cN (congrArg nI z)
      have e := nvs_skip (W := W) (J := J) (C := C) (ln := lnV mm.1) (wn := wn) (wh := wh) (we := we) (wu := wu) (N := N) (q0 := q) k2 cN
      have := hg m' ⟨k1, by rw [e]; exact k2, by rw [e]; exact k3⟩
      rw [e] at this
      rw [nI_1]
      exact this
    · have cN : wn k = N := (nI_eq (by omega) (by omega)).mp cN
      have hmany := nvs_many (W := W) (J := J) (C := C) (ln := lnV mm.1) (wn := wn) (wh := wh) (we := we) (wu := wu) (N := N) (q0 := q) k
      by_cases cC : (nvs W J C (lnV mm.1) wn wh we wu N q k).2.2.1 = C
      · refine ⟨fun z => absurd z (by rw [cC]; exact nI_nlt (Nat.le_refl _) (by omega)), fun _ => ?_⟩
        have e := early k (10 * k + 1) hk (Nat.succ_ne_zero _) (nvs_full k2 cN cC)
        rw [e]
        refine ⟨?_, k1, fun z => absurd z (Nat.succ_ne_zero _)⟩
        rw [show (10 : Int32) = nI 10 from rfl, pk_mul, nI_1]
      · refine ⟨fun _ => ⟨vp_in_nI (by omega) (by omega), vp_in_nI (by omega) (by omega), ?_⟩, fun z => absurd (nI_lt (by omega) (by omega)) z⟩
        refine icall (reasonC_ok (m := m') (J := J) (ln := lnV mm.1) (q := (nvs W J C (lnV mm.1) wn wh we wu N q k).2.1) (up := wu k) ht z5 g2 g3 g4 (by omega) (by rw [k1.t0 ht]; exact c6) (by rw [k1.t0 ht]; exact c8) (fun w hw => ?_) k3) ?_
        · obtain ⟨l1, l2, -, l4⟩ := hb.ln hw
          exact ⟨l1, l2, by rw [k1.t7 ht]; exact l4⟩
        · rintro m2 ⟨f1, f2⟩
          have hle := wrk_le (W := W) (J := J) (ln := lnV mm.1) (hv := (nvs W J C (lnV mm.1) wn wh we wu N q k).2.1.1) (pv := (nvs W J C (lnV mm.1) wn wh we wu N q k).2.1.2.1) (tk := (nvs W J C (lnV mm.1) wn wh we wu N q k).2.1.2.2) (h := wh k) (e := we k) (up := wu k)
          by_cases c0 : (wrk W J (lnV mm.1) (nvs W J C (lnV mm.1) wn wh we wu N q k).2.1.1 (nvs W J C (lnV mm.1) wn wh we wu N q k).2.1.2.1 (nvs W J C (lnV mm.1) wn wh we wu N q k).2.1.2.2 (wh k) (we k) (wu k)).1 = 0
          · refine ⟨fun _ => ?_, fun z => absurd (congrArg nI c0) z⟩
            have e := nvs_go (W := W) (J := J) (C := C) (ln := lnV mm.1) (wn := wn) (wh := wh) (we := we) (wu := wu) (N := N) (q0 := q) k2 cN cC c0
            have := hg m2 ⟨k1.tr f1.kq, by rw [e], by rw [e]; exact f2 c0⟩
            rw [e] at this
            rw [nI_1, nI_1]
            exact this
          · refine ⟨fun z => absurd z (nI_ne0 (by omega) (by omega)), fun _ => ?_⟩
            have e := early k _ hk (by omega) (nvs_bad (r := (wrk W J (lnV mm.1) (nvs W J C (lnV mm.1) wn wh we wu N q k).2.1.1 (nvs W J C (lnV mm.1) wn wh we wu N q k).2.1.2.1 (nvs W J C (lnV mm.1) wn wh we wu N q k).2.1.2.2 (wh k) (we k) (wu k)).1) k2 cN cC rfl c0)
            rw [e]
            refine ⟨?_, k1.tr f1.kq, fun z => absurd (show 10 * k + _ = 0 from z) (by omega)⟩
            rw [show (10 : Int32) = nI 10 from rfl, pk_mul, nI_add]

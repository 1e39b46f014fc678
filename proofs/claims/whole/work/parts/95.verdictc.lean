/-! the verdict, the class -/
def hgV (c : Nat → Nat → Int32) (h : Nat) : Nat := (c 163 (10 + h)).toNatClampNeg
theorem BodyR.hgv {c : Nat → Nat → Int32} {t s H O S Qn W C J F B : Nat} (h : BodyR c t s H O S Qn W C J F B) {k : Nat} (hk : k < 16) : hgV c k ≤ 99 ∧ c 163 (10 + k) = nI (hgV c k) ∧ c (s + 1) k = nI (hgV c k) := by
  obtain ⟨⟨x, x1, x2⟩, x3⟩ := h.2.1.hg k hk
  have e : hgV c k = x := by unfold hgV; rw [x2, nI_clamp (by omega)]
  rw [e]
  exact ⟨x1, x2, x3.trans x2⟩
theorem nvs_le {W J C : Nat} {ln wn wh we : Nat → Nat} {wu : Nat → Bool} {N : Nat} {q0 : (Nat → Nat) × (Nat → Nat) × Nat} : ∀ k, (nvs W J C ln wn wh we wu N q0 k).1 ≤ 10 * k + 4 ∧ (nvs W J C ln wn wh we wu N q0 k).2.2.2 ≤ k
  | 0 => ⟨Nat.zero_le _, Nat.le_refl _⟩
  | k + 1 => by
    have ih := nvs_le (W := W) (J := J) (C := C) (ln := ln) (wn := wn) (wh := wh) (we := we) (wu := wu) (N := N) (q0 := q0) k
    by_cases h : (nvs W J C ln wn wh we wu N q0 k).1 = 0
    · by_cases c : wn k = N
      · by_cases c2 : (nvs W J C ln wn wh we wu N q0 k).2.2.1 = C
        · rw [nvs_full h c c2]
          refine ⟨?_, Nat.zero_le _⟩
          show 10 * k + 1 ≤ _
          omega
        · by_cases c3 : (wrk W J ln (nvs W J C ln wn wh we wu N q0 k).2.1.1 (nvs W J C ln wn wh we wu N q0 k).2.1.2.1 (nvs W J C ln wn wh we wu N q0 k).2.1.2.2 (wh k) (we k) (wu k)).1 = 0
          · rw [nvs_go h c c2 c3]
            exact ⟨Nat.zero_le _, Nat.le_succ k⟩
          · have hw := wrk_le (W := W) (J := J) (ln := ln) (hv := (nvs W J C ln wn wh we wu N q0 k).2.1.1) (pv := (nvs W J C ln wn wh we wu N q0 k).2.1.2.1) (tk := (nvs W J C ln wn wh we wu N q0 k).2.1.2.2) (h := wh k) (e := we k) (up := wu k)
            rw [nvs_bad h c c2 rfl c3]
            refine ⟨?_, Nat.zero_le _⟩
            show 10 * k + _ ≤ _
            omega
      · rw [nvs_skip h c]
        exact ⟨by omega, by omega⟩
    · rw [nvs_stop h (k + 1) (by omega)]
      exact ⟨by omega, by omega⟩
theorem nightV_le {st : Nat → Int32} {tide : Int32} {W J C n N : Nat} {ln wn wh we : Nat → Nat} {wu : Nat → Bool} {q : (Nat → Nat) × (Nat → Nat) × Nat} : (nightV st tide W J C ln wn wh we wu n N q).1 ≤ 10 * n + 5 := by
  obtain ⟨h1, h2⟩ := nvs_le (W := W) (J := J) (C := C) (ln := ln) (wn := wn) (wh := wh) (we := we) (wu := wu) (N := N) (q0 := q) n
  unfold nightV
  by_cases c : (nvs W J C ln wn wh we wu N q n).1 = 0
  · rw [if_neg (not_not_intro c)]
    by_cases cc : cutW st tide q.1 (nvs W J C ln wn wh we wu N q n).2.1.1
    · rw [cite_pos cc]
      show 10 * _ + 5 ≤ _
      omega
    · rw [cite_neg cc]
      exact Nat.zero_le _
  · rw [if_pos c]
    show (nvs W J C ln wn wh we wu N q n).1 ≤ _
    omega
theorem verdictC_ok {mm : MM} {t s H O S Qn W C J F B n : Nat} {wn wh we : Nat → Nat} {wu : Nat → Bool} (ht : isT t) (hs : isN s) (hb : BodyR mm.1 t s H O S Qn W C J F B) (hn : n ≤ 40) (e7 : mm.1 s 7 = nI n)
    (hwk : ∀ i, i < n → (wn i ≤ 99 ∧ wh i < 16 ∧ 1 ≤ we i ∧ we i ≤ 99) ∧ mm.1 (s + 4) i = nI (wn i) ∧ mm.1 (s + 5) i = nI (wh i) ∧ mm.1 (s + 6) i = bif wu i then nI (we i) else -nI (we i)) :
    Runs e_X9_verdict [.ref 41, .ref t, .ref s, .ref 38] mm (fun r m' => r = .int (nI (avs (mm.1 162) (tideV mm.1 12) W J C (lnV mm.1) wn wh we wu n (hgV mm.1, pcV mm.1, 0) 100).1) ∧ (Kq mm m' ∧ ((avs (mm.1 162) (tideV mm.1 12) W J C (lnV mm.1) wn wh we wu n (hgV mm.1, pcV mm.1, 0) 100).1 = 0 → WkX m' W (avs (mm.1 162) (tideV mm.1 12) W J C (lnV mm.1) wn wh we wu n (hgV mm.1, pcV mm.1, 0) 100).2))) := by
  have ht' : t = 10 ∨ t = 100 := ht
  have hs' : s = 24 ∨ s = 114 := hs
  have z5 := hb.sz.2.2.2.2.1
  refine b_X9_verdict _ _ _ _ ht.at hs.s.at ?_
  simp (disch := omega) only [s_wRo, s_wRk]
  generalize e0 : wI (wR (wR mm 42 (va_cpy (mm.1 (s + 1)) (mm.1 42) 0 0 16)) 43 (va_cpy (mm.1 (s + 3)) (mm.1 43) 0 0 8)) 41 6 0 = m0
  have k0 : Kq mm m0 := by
    rw [← e0]
    exact (((Kp.rf mm).ww _ (fun _ => rfl)).ww _ (fun _ => rfl)).w _ rfl
  have q0 : WkX m0 W (hgV mm.1, pcV mm.1, 0) := by
    refine ⟨fun h hh => ?_, fun w hw => ?_, ?_⟩
    · obtain ⟨g1, g2, g3⟩ := hb.hgv hh
      rw [← e0, wI_o (by decide), wR_o (by decide), wR_k, cpy_lt hh]
      exact ⟨g3, g1⟩
    · obtain ⟨g1, g2, g3⟩ := hb.pc hw
      rw [← e0, wI_o (by decide), wR_k, cpy_lt (by omega)]
      exact ⟨g3, g1⟩
    · rw [← e0, wI_k, pk_us]; rfl
  have hb0 := body_kq ht hs k0 hb
  refine icall (tideC_okE (mm := m0) ht hs.s hb0.law0 hb0.mon 12 m0 (Kp.rf m0)) ?_
  intro m1 k1
  have k1q : Kq mm m1 := Ke.q k0 k1
  have et : tideV m0.1 12 = tideV mm.1 12 := tideV_kq k0 12
  rw [et]
  have q1 : WkX m1 W (hgV mm.1, pcV mm.1, 0) := by
    obtain ⟨a1, a2, a3⟩ := q0
    exact ⟨fun h hh => by rw [k1.g 42 h rfl]; exact a1 h hh, fun w hw => by rw [k1.g 43 w rfl]; exact a2 w hw, by rw [k1.g 41 6 rfl]; exact a3⟩
  have hna : ∀ m' : MM, Kq mm m' → ∀ T, T ≤ 100 → Runs e_X9_nightAfter [.ref s, .int (nI T - 1)] m' (fun r m'' => r = .int (oI (na wn T n)) ∧ m'' = m') := fun m' k T hT =>
    nightAfter_ok hs.s hn hT (by rw [k.s0 hs.s]; exact e7) fun i hi => ⟨(hwk i hi).1.1, by rw [k.s hs.s 4 (by omega)]; exact (hwk i hi).2.1⟩
  refine icall (hna m1 k1q 0 (by omega)) ?_
  rintro m2 rfl
  refine loop_mu (Y := e_X9_verdict) (pc := 54) (σ := Nat × Nat) (fun x => [(0, .ref 41), (1, .ref t), (2, .ref s), (3, .ref 38), (4, .int (tideV mm.1 12)), (5, .int (oI (na wn x.2 n))), (6, .int (nI x.1))]) (fun x m' => Kq mm m' ∧ (avs (mm.1 162) (tideV mm.1 12) W J C (lnV mm.1) wn wh we wu n (hgV mm.1, pcV mm.1, 0) x.2).1 = 0 ∧ WkX m' W (avs (mm.1 162) (tideV mm.1 12) W J C (lnV mm.1) wn wh we wu n (hgV mm.1, pcV mm.1, 0) x.2).2 ∧ x.1 ≤ 40 ∧ x.2 ≤ 100 ∧ x.1 ≤ cnW wn x.2 n) (fun x => 40 - x.1) ?_ (0, 0) m2 ⟨k1q, rfl, q1, by omega, by omega, Nat.zero_le _⟩
  rintro ⟨k, T⟩ m' ⟨r1, r2, r3, r4, r5, r6⟩ hgo
  have fin : (∀ i, i < n → wn i < T) → avs (mm.1 162) (tideV mm.1 12) W J C (lnV mm.1) wn wh we wu n (hgV mm.1, pcV mm.1, 0) 100 = avs (mm.1 162) (tideV mm.1 12) W J C (lnV mm.1) wn wh we wu n (hgV mm.1, pcV mm.1, 0) T := fun h => avs_idle r2 100 r5 fun i hi z => absurd (h i hi) (by have := z.1; omega)
  have r2 : (avs (mm.1 162) (tideV mm.1 12) W J C (lnV mm.1) wn wh we wu n (hgV mm.1, pcV mm.1, 0) T).1 = 0 := r2
  have r4 : k ≤ 40 := r4
  have r5 : T ≤ 100 := r5
  have r6 : k ≤ cnW wn T n := r6
  have hcl := cnW_le (wn := wn) (T := T) n
  refine b_X9_verdict_54 _ _ _ _ _ _ _ ht.at hs.s.at ?_
  show ((40 : Int32) ≤ nI k → _) ∧ _
  by_cases c40 : k = 40
  · refine ⟨fun _ => ?_, fun z => absurd (show nI 40 ≤ nI k from nI_le (by omega) (by omega)) z⟩
    have := fin (cnW_all n (by omega))
    rw [this]
    exact ⟨by rw [r2]; rfl, r1, fun _ => r3⟩
  · refine ⟨fun z => absurd (show nI 40 ≤ nI k from z) (nI_ge (by omega) (by omega)), fun _ => ?_⟩
    cases eN : na wn T n with
    | none =>
      refine ⟨fun _ => ?_, fun z => absurd rfl z⟩
      have := fin (na_none n eN)
      rw [this]
      exact ⟨by rw [r2]; rfl, r1, fun _ => r3⟩
    | some f =>
      obtain ⟨f1, f2, f3⟩ := na_some n f eN
      have hf : f ≤ 99 := by
        obtain ⟨i, hi, e⟩ := f2
        exact e ▸ (hwk i hi).1.1
      have ea : avs (mm.1 162) (tideV mm.1 12) W J C (lnV mm.1) wn wh we wu n (hgV mm.1, pcV mm.1, 0) (f + 1) = nightV (mm.1 162) (tideV mm.1 12) W J C (lnV mm.1) wn wh we wu n f (avs (mm.1 162) (tideV mm.1 12) W J C (lnV mm.1) wn wh we wu n (hgV mm.1, pcV mm.1, 0) T).2 := by
        have e1 := avs_idle r2 f f1 fun i hi z => absurd (f3 i hi z.1) (by have := z.2; omega)
        rw [avs, e1, if_neg (not_not_intro r2)]
      refine ⟨fun z => absurd z (nI_nm1 hf), fun _ => ?_⟩
      refine icall (nightC_ok (N := f) ht hs hb r1 r3 hf hn e7 hwk) ?_
      rintro m3 ⟨g1, g2⟩
      rw [← ea] at g2 ⊢
      by_cases c0 : (avs (mm.1 162) (tideV mm.1 12) W J C (lnV mm.1) wn wh we wu n (hgV mm.1, pcV mm.1, 0) (f + 1)).1 = 0
      · refine ⟨fun _ => ?_, fun z => absurd (congrArg nI c0) z⟩
        have hx := hna m3 g1 (f + 1) (by omega)
        rw [nI_pred] at hx
        refine icall hx ?_
        rintro m4 rfl
        have := hgo (k + 1, f + 1) m4 ⟨g1, c0, g2 c0, by show k + 1 ≤ 40; omega, by show f + 1 ≤ 100; omega, by
          have := cnW_more f1 n f2
          show k + 1 ≤ cnW wn (f + 1) n
          omega⟩ (by show 40 - (k + 1) < 40 - k; omega)
        rw [nI_1]
        exact this
      · have e2 := avs_stop c0 100 (by omega)
        refine ⟨fun z => ?_, fun _ => ?_⟩
        · have hb5 := nightV_le (st := mm.1 162) (tide := tideV mm.1 12) (W := W) (J := J) (C := C) (ln := lnV mm.1) (wn := wn) (wh := wh) (we := we) (wu := wu) (n := n) (N := f) (q := (avs (mm.1 162) (tideV mm.1 12) W J C (lnV mm.1) wn wh we wu n (hgV mm.1, pcV mm.1, 0) T).2)
          rw [← ea] at hb5
          exact absurd z (nI_ne0 (by omega) (by omega))
        · rw [e2]
          exact ⟨rfl, g1, fun z => absurd z c0⟩

/-! the class's filling of the row -/
def Fr1 (a : Nat) (m0 m : MM) : Prop := m.2 = m0.2 ∧ ∀ x, x ≠ a → m.1 x = m0.1 x
theorem Fr1.rf (a : Nat) (m : MM) : Fr1 a m m := ⟨rfl, fun _ _ => rfl⟩
theorem Fr1.w {a : Nat} {m0 m : MM} (h : Fr1 a m0 m) (j : Nat) (v : Int32) : Fr1 a m0 (wI m a j v) := ⟨h.1, fun x hx => by rw [wI_o hx]; exact h.2 x hx⟩
theorem Fr1.tr {a : Nat} {m0 m m2 : MM} (h : Fr1 a m0 m) (h2 : Fr1 a m m2) : Fr1 a m0 m2 := ⟨h2.1.trans h.1, fun x hx => (h2.2 x hx).trans (h.2 x hx)⟩
theorem Fr1.kq {a : Nat} {m0 m : MM} (e : ∀ b, kq a b = false) (h : Fr1 a m0 m) : Kq m0 m := by
  refine ⟨fun x y hk => ?_, by rw [h.1]⟩
  by_cases c : x = a
  · subst c; rw [e y] at hk; cases hk
  · rw [h.2 x c]
section
variable {m : MM} {i lo sl : Nat} {g : Nat → Nat}
theorem wthin_nI {m : MM} {p lo hi : Nat} (hp : p < 2 ^ 31) (hl : lo < 2 ^ 31) (hh : hi < 2 ^ 31) : p_X11_within m (nI p) (nI lo) (nI hi) ↔ lo ≤ p ∧ p ≤ hi := by
  unfold p_X11_within
  rw [nI_ltI hp hl, nI_ltI hh hp]
  omega
theorem canBe_ok {p : Nat} (hi : i < 12) (hl : lo ≤ 99) (hs : sl ≤ 99) (hp : p ≤ 99) (e96 : m.1 96 i = nI lo) (e3 : m.1 95 3 = nI sl) : o_X5_canBe m (nI i) (nI p) ∧ (p_X5_canBe m (nI i) (nI p) ↔ lo ≤ p ∧ p ≤ min 99 (lo + sl)) := by
  unfold o_X5_canBe p_X5_canBe
  rw [nI_clamp (by omega), e96, e3, show (99 : Int32) = nI 99 from rfl, nI_add, imin_nI (by omega) (by omega), wthin_nI (by omega) (by omega) (by omega)]
  exact ⟨⟨vp_in_nI (by omega) (by omega), vp_in_nI (by omega) (by omega), fun _ => trivial, fun _ => trivial⟩, Iff.rfl⟩
theorem behind_ok {p : Nat} (hi : i < 12) (hl : lo ≤ 99) (hs : sl ≤ 99) (hp : p ≤ 99) (e96 : m.1 96 i = nI lo) (e3 : m.1 95 3 = nI sl) (hr : ∀ p, p < 100 → m.1 97 (100 * (i + 1) + p) = nI (g p)) : o_X5_behind m (nI i) (nI p) ∧ v_X5_behind m (nI i) (nI p) = nI (bhN lo (min 99 (lo + sl)) g p) := by
  obtain ⟨c1, c2⟩ := canBe_ok hi hl hs hp e96 e3
  have ei : (nI i + (1 : Int32)) * (100 : Int32) + nI p = nI (100 * (i + 1) + p) := by
    rw [nI_1, show (100 : Int32) = nI 100 from rfl, pk_mul, nI_add, Nat.mul_comm]
  unfold o_X5_behind v_X5_behind bhN
  rw [ei, nI_clamp (by omega), hr p (by omega)]
  refine ⟨⟨c1, fun _ => ⟨vp_in_nI (by omega) (by omega), trivial⟩, fun _ => trivial⟩, ?_⟩
  by_cases c : lo ≤ p ∧ p ≤ min 99 (lo + sl)
  · rw [if_pos c]; exact cite_pos (c2.mpr c)
  · rw [if_neg c]; exact cite_neg (fun z => c (c2.mp z))
theorem bhN_top {lo hi p : Nat} (hg : ∀ p, p ≤ 99 → g p ≤ 120000) (hp : p ≤ 99) : bhN lo hi g p ≤ 10000000 := by
  have := hg p hp
  unfold bhN
  split <;> omega
theorem fillLevel_ok (hi : i < 12) (hl : lo ≤ 99) (hs : sl ≤ 99) (e96 : m.1 96 i = nI lo) (e3 : m.1 95 3 = nI sl) (hr : ∀ p, p < 100 → m.1 97 (100 * (i + 1) + p) = nI (g p)) :
    Runs e_X5_fillLevel [.ref 95, .int (nI i)] m (fun r m' => r = .null ∧ (Fr1 97 m m' ∧ (∀ j, (j < 100 * i ∨ 100 * i + 100 ≤ j) → m'.1 97 j = m.1 97 j) ∧ ∀ p, p < 100 → m'.1 97 (100 * i + p) = nI (bhN lo (min 99 (lo + sl)) g p))) := by
  apply b_X5_fillLevel
  refine for_up (Y := e_X5_fillLevel) (pc := 2) (fun k => [(0, .ref 95), (1, .int (nI i)), (2, .int (nI k))]) (fun k m' => Fr1 97 m m' ∧ (∀ j, (j < 100 * i ∨ 100 * i + 100 ≤ j) → m'.1 97 j = m.1 97 j) ∧ ∀ p, p < k → m'.1 97 (100 * i + p) = nI (bhN lo (min 99 (lo + sl)) g p)) 100 ?_ ?_ 0 m (by omega) ⟨Fr1.rf _ _, fun _ _ => rfl, fun p hp => absurd hp (Nat.not_lt_zero _)⟩
  · rintro m' ⟨q1, q2, q3⟩
    exact b_X5_fillLevel_2 _ _ _ _ ⟨fun _ => ⟨rfl, q1, q2, q3⟩, fun z => absurd (by rfl) z⟩
  · rintro k m' hk ⟨q1, q2, q3⟩ hg
    obtain ⟨b1, b2⟩ := behind_ok (m := m') (p := k) (g := g) hi hl hs (by omega) (by rw [q1.2 96 (by decide)]; exact e96) (by rw [q1.2 95 (by decide)]; exact e3) (fun p hp => by rw [q2 _ (by omega)]; exact hr p hp)
    refine b_X5_fillLevel_2 _ _ _ _ ?_
    rw [b2, show (100 : Int32) = nI 100 from rfl, pk_mul, nI_add, nI_clamp (by omega), nI_1]
    refine ⟨fun z => absurd z (nI_ge hk (by omega)), fun _ => ⟨b1, vp_in_nI (by omega) (by omega), hg _ ⟨q1.w _ _, fun j hj => by rw [wI_k, pk_un (by omega)]; exact q2 j hj, fun p hp => ?_⟩⟩⟩
    rw [wI_k]
    by_cases c : p = k
    · subst c
      rw [show i * 100 + p = 100 * i + p by omega, pk_us]
    · rw [pk_un (by omega)]; exact q3 p (by omega)
theorem fillUp_ok {u c : Nat} (hi : i < 12) (hl : lo ≤ 99) (hs : sl ≤ 99) (hu : u ≤ 99) (hc : c ≤ 99) (hgb : ∀ p, p ≤ 99 → g p ≤ 120000) (e96 : m.1 96 i = nI lo) (e3 : m.1 95 3 = nI sl) (e4 : m.1 95 4 = nI u) (e6 : m.1 95 6 = nI c) (hr : ∀ p, p < 100 → m.1 97 (100 * (i + 1) + p) = nI (g p)) (h0 : ∀ p, p < 100 → m.1 97 (100 * i + p) = nI (bhN lo (min 99 (lo + sl)) g p)) :
    Runs e_X5_fillUp [.ref 95, .int (nI i)] m (fun r m' => r = .null ∧ (Fr1 97 m m' ∧ (∀ j, (j < 100 * i ∨ 100 * i + 100 ≤ j) → m'.1 97 j = m.1 97 j) ∧ ∀ p, p < 100 → m'.1 97 (100 * i + p) = nI (upN (bhN lo (min 99 (lo + sl)) g) u c p))) := by
  apply b_X5_fillUp
  refine for_up (Y := e_X5_fillUp) (pc := 6) (fun k => [(0, .ref 95), (1, .int (nI i)), (2, .int (nI (cuN (bhN lo (min 99 (lo + sl)) g) u k))), (3, .int (nI (99 - k) - 1))]) (fun k m' => Fr1 97 m m' ∧ (∀ j, (j < 100 * i ∨ 100 * i + 100 ≤ j) → m'.1 97 j = m.1 97 j) ∧ ∀ p, p < 100 → m'.1 97 (100 * i + p) = nI (if 99 - k ≤ p then upN (bhN lo (min 99 (lo + sl)) g) u c p else bhN lo (min 99 (lo + sl)) g p)) 99 ?_ ?_ 0 m (by omega) ⟨Fr1.rf _ _, fun _ _ => rfl, fun p hp => ?_⟩
  · rintro m' ⟨q1, q2, q3⟩
    refine b_X5_fillUp_6 _ _ _ _ _ ⟨fun _ => ⟨rfl, q1, q2, fun p hp => ?_⟩, fun z => absurd (by decide) z⟩
    have := q3 p hp
    rwa [if_pos (by omega)] at this
  · rintro k m' hk ⟨q1, q2, q3⟩ hg
    obtain ⟨q, hq⟩ : ∃ q, q = 98 - k := ⟨_, rfl⟩
    have e1 : nI (99 - k) - 1 = nI q := by rw [show 99 - k = q + 1 by omega, nI_pred]
    have e2 : nI (99 - (k + 1)) - 1 = nI q + (-1) := by rw [show 99 - (k + 1) = q by omega, Int32.sub_eq_add_neg]
    rw [e2] at hg
    rw [e1]
    obtain ⟨b1, b2⟩ := behind_ok (m := m') (p := q + 1) (g := g) hi hl hs (by omega) (by rw [q1.2 96 (by decide)]; exact e96) (by rw [q1.2 95 (by decide)]; exact e3) (fun p hp => by rw [q2 _ (by omega)]; exact hr p hp)
    have hb0 := bhN_top (g := g) (lo := lo) (hi := min 99 (lo + sl)) (p := q) hgb (by omega)
    have hb1 := bhN_top (g := g) (lo := lo) (hi := min 99 (lo + sl)) (p := q + 1) hgb (by omega)
    have hcu := cuN_top (b := bhN lo (min 99 (lo + sl)) g) hu k
    have eq0 := q3 q (by omega)
    rw [if_neg (by omega)] at eq0
    have ecu : cuN (bhN lo (min 99 (lo + sl)) g) u (k + 1) = min (cuN (bhN lo (min 99 (lo + sl)) g) u k) (bhN lo (min 99 (lo + sl)) g (q + 1)) + u := by rw [cuN, show 99 - k = q + 1 by omega]
    rw [ecu] at hg
    refine b_X5_fillUp_6 _ _ _ _ _ ?_
    rw [nI_1, b2, q1.2 95 (by decide), e4, e6, show (100 : Int32) = nI 100 from rfl, pk_mul, nI_add, nI_clamp (by omega), show i * 100 + q = 100 * i + q by omega, eq0, imin_nI (by omega) (by omega), nI_add, nI_add, imin_nI (by omega) (by omega)]
    refine ⟨fun z => absurd z (nI_pos (by omega)), fun _ => ⟨b1, vp_in_nI (by omega) (by omega), vp_in_nI (by omega) (by omega), hg _ ⟨q1.w _ _, fun j hj => by rw [wI_k, pk_un (by omega)]; exact q2 j hj, fun p hp => ?_⟩⟩⟩
    rw [wI_k]
    by_cases cp : p = q
    · subst cp
      rw [pk_us, if_pos (by omega)]
      unfold upN
      rw [if_pos (by omega), show 99 - p = k + 1 by omega, ecu]
    · rw [pk_un (by omega), q3 p hp]
      by_cases c2 : 99 - k ≤ p
      · rw [if_pos c2, if_pos (by omega)]
      · rw [if_neg c2, if_neg (by omega)]
  · rw [h0 p hp]
    by_cases c2 : 99 - 0 ≤ p
    · rw [if_pos c2]
      unfold upN
      rw [if_neg (by omega)]
    · rw [if_neg c2]
theorem upN_top {b : Nat → Nat} {u c p : Nat} (h : b p ≤ 10000000) : upN b u c p ≤ 10000000 := by
  unfold upN
  split <;> omega
theorem fillDown_ok {u s c : Nat} (hi : i < 12) (hl : lo ≤ 99) (hs : sl ≤ 99) (hu : s ≤ 99) (hc : c ≤ 99) (hgb : ∀ p, p ≤ 99 → g p ≤ 120000) (e96 : m.1 96 i = nI lo) (e3 : m.1 95 3 = nI sl) (e5 : m.1 95 5 = nI s) (e6 : m.1 95 6 = nI c) (hr : ∀ p, p < 100 → m.1 97 (100 * (i + 1) + p) = nI (g p)) (h0 : ∀ p, p < 100 → m.1 97 (100 * i + p) = nI (upN (bhN lo (min 99 (lo + sl)) g) u c p)) :
    Runs e_X5_fillDown [.ref 95, .int (nI i)] m (fun r m' => r = .null ∧ (Fr1 97 m m' ∧ (∀ j, (j < 100 * i ∨ 100 * i + 100 ≤ j) → m'.1 97 j = m.1 97 j) ∧ ∀ p, p < 100 → m'.1 97 (100 * i + p) = nI (dnN (bhN lo (min 99 (lo + sl)) g) u s c p))) := by
  apply b_X5_fillDown
  refine for_up (Y := e_X5_fillDown) (pc := 5) (fun k => [(0, .ref 95), (1, .int (nI i)), (2, .int (nI (cdN (bhN lo (min 99 (lo + sl)) g) s k))), (3, .int (nI (k + 1)))]) (fun k m' => Fr1 97 m m' ∧ (∀ j, (j < 100 * i ∨ 100 * i + 100 ≤ j) → m'.1 97 j = m.1 97 j) ∧ ∀ p, p < 100 → m'.1 97 (100 * i + p) = nI (if p ≤ k then dnN (bhN lo (min 99 (lo + sl)) g) u s c p else upN (bhN lo (min 99 (lo + sl)) g) u c p)) 99 ?_ ?_ 0 m (by omega) ⟨Fr1.rf _ _, fun _ _ => rfl, fun p hp => ?_⟩
  · rintro m' ⟨q1, q2, q3⟩
    refine b_X5_fillDown_5 _ _ _ _ _ ⟨fun _ => ⟨rfl, q1, q2, fun p hp => ?_⟩, fun z => absurd (by decide) z⟩
    have := q3 p hp
    rwa [if_pos (by omega)] at this
  · rintro k m' hk ⟨q1, q2, q3⟩ hg
    obtain ⟨b1, b2⟩ := behind_ok (m := m') (p := k) (g := g) hi hl hs (by omega) (by rw [q1.2 96 (by decide)]; exact e96) (by rw [q1.2 95 (by decide)]; exact e3) (fun p hp => by rw [q2 _ (by omega)]; exact hr p hp)
    have hb0 := bhN_top (g := g) (lo := lo) (hi := min 99 (lo + sl)) (p := k) hgb (by omega)
    have hb1 := upN_top (u := u) (c := c) (bhN_top (g := g) (lo := lo) (hi := min 99 (lo + sl)) (p := k + 1) hgb (by omega))
    have hcu := cdN_top (b := bhN lo (min 99 (lo + sl)) g) hu k
    have eq0 := q3 (k + 1) (by omega)
    rw [if_neg (by omega)] at eq0
    rw [cdN] at hg
    refine b_X5_fillDown_5 _ _ _ _ _ ?_
    rw [nI_pred, b2, q1.2 95 (by decide), e5, e6, show (100 : Int32) = nI 100 from rfl, pk_mul, nI_add, nI_clamp (by omega), show i * 100 + (k + 1) = 100 * i + (k + 1) by omega, eq0, imin_nI (by omega) (by omega), nI_add, nI_add, imin_nI (by omega) (by omega), nI_1]
    refine ⟨fun z => absurd z (nI_nlt (a := 99) (b := k + 1) (by omega) (by omega)), fun _ => ⟨b1, vp_in_nI (by omega) (by omega), vp_in_nI (by omega) (by omega), hg _ ⟨q1.w _ _, fun j hj => by rw [wI_k, pk_un (by omega)]; exact q2 j hj, fun p hp => ?_⟩⟩⟩
    rw [wI_k]
    by_cases cp : p = k + 1
    · subst cp
      rw [pk_us, if_pos (by omega)]
      unfold dnN
      rw [if_pos (by omega), cdN]
    · rw [pk_un (by omega), q3 p hp]
      by_cases c2 : p ≤ k
      · rw [if_pos c2, if_pos (by omega)]
      · rw [if_neg c2, if_neg (by omega)]
  · rw [h0 p hp]
    by_cases c2 : p ≤ 0
    · rw [if_pos c2]
      unfold dnN
      rw [if_neg (by omega)]
    · rw [if_neg c2]
end
theorem fill_ok {m : MM} {n sl u s c h0 : Nat} {d : Nat → Nat} (hn : n ≤ 12) (hs' : sl ≤ 99) (hu : u ≤ 99) (hs : s ≤ 99) (hc : c ≤ 99) (h99 : h0 ≤ 99) (hd : ∀ i, i < n → d i ≤ 99 ∧ m.1 96 i = nI (d i)) (e2 : m.1 95 2 = nI n) (e3 : m.1 95 3 = nI sl) (e4 : m.1 95 4 = nI u) (e5 : m.1 95 5 = nI s) (e6 : m.1 95 6 = nI c) :
    Runs e_X5_fill [.ref 95, .int (nI h0)] m (fun r m' => r = .int (nI (pcN n d sl u s c n h0)) ∧ (Fr1 97 m m' ∧ ∀ j, j ≤ n → ∀ p, p < 100 → m'.1 97 (100 * j + p) = nI (pcN n d sl u s c (n - j) p))) := by
  apply b_X5_fill
  refine for_up (Y := e_X5_fill) (pc := 2) (fun k => [(0, .ref 95), (1, .int (nI h0)), (2, .int (nI k))]) (fun k m' => Fr1 97 m m' ∧ ∀ p, p < k → m'.1 97 (100 * n + p) = nI 0) 100 ?_ ?_ 0 m (by omega) ⟨Fr1.rf _ _, fun p hp => absurd hp (Nat.not_lt_zero _)⟩
  · rintro m' ⟨q1, q2⟩
    refine b_X5_fill_2 _ _ _ _ ⟨fun _ => ?_, fun z => absurd (by rfl) z⟩
    rw [q1.2 95 (by decide), e2]
    refine for_up (Y := e_X5_fill) (pc := 36) (fun k => [(0, .ref 95), (1, .int (nI h0)), (2, .int (nI (n - k) - 1))]) (fun k m' => Fr1 97 m m' ∧ ∀ j, n - k ≤ j → j ≤ n → ∀ p, p < 100 → m'.1 97 (100 * j + p) = nI (pcN n d sl u s c (n - j) p)) n ?_ ?_ 0 m' (by omega) ⟨q1, fun j h1 h2 p hp => ?_⟩
    · rintro m2 ⟨r1, r2⟩
      have r2 : ∀ j, j ≤ n → ∀ p, p < 100 → m2.1 97 (100 * j + p) = nI (pcN n d sl u s c (n - j) p) := fun j hj => r2 j (by omega) hj
      have := r2 0 (by omega) h0 (by omega)
      rw [Nat.mul_zero, Nat.zero_add, Nat.sub_zero] at this
      refine b_X5_fill_36 _ _ _ _ ⟨fun _ => ⟨fun _ => ⟨vp_in_nI (by omega) (by omega), ?_, r1, r2⟩, fun z => absurd ((w99_X _ _).mpr ⟨h0, by omega, rfl⟩) z⟩, fun z => absurd (by rw [Nat.sub_self]; decide) z⟩
      rw [nI_clamp (by omega), this]
    · rintro k m2 hk ⟨r1, r2⟩ hg
      obtain ⟨i, hi⟩ : ∃ i, i = n - (k + 1) := ⟨_, rfl⟩
      have e1 : nI (n - k) - 1 = nI i := by rw [show n - k = i + 1 by omega, nI_pred]
      have e2' : nI (n - (k + 1)) - 1 = nI i + (-1) := by rw [← hi, Int32.sub_eq_add_neg]
      rw [e2'] at hg
      rw [e1]
      have hi12 : i < 12 := by omega
      obtain ⟨d1, d2⟩ := hd i (by omega)
      have hgb : ∀ p, p ≤ 99 → pcN n d sl u s c (n - (i + 1)) p ≤ 120000 := fun p hp => by
        have := pcN_le (sl := sl) hu hs hc (fun i hi => (hd i hi).1) (n - (i + 1)) (by omega) p hp
        omega
      refine b_X5_fill_36 _ _ _ _ ⟨fun z => absurd z (nI_pos (by omega)), fun _ => ?_⟩
      refine vcall (fillLevel_ok (m := m2) (g := pcN n d sl u s c (n - (i + 1))) hi12 d1 hs' (by rw [r1.2 96 (by decide)]; exact d2) (by rw [r1.2 95 (by decide)]; exact e3) fun p hp => r2 (i + 1) (by omega) (by omega) p hp) ?_
      rintro m3 ⟨a1, a2, a3⟩
      have f3 := r1.tr a1
      refine vcall (fillUp_ok (m := m3) (g := pcN n d sl u s c (n - (i + 1))) hi12 d1 hs' hu hc hgb (by rw [f3.2 96 (by decide)]; exact d2) (by rw [f3.2 95 (by decide)]; exact e3) (by rw [f3.2 95 (by decide)]; exact e4) (by rw [f3.2 95 (by decide)]; exact e6) (fun p hp => by rw [a2 _ (by omega)]; exact r2 (i + 1) (by omega) (by omega) p hp) a3) ?_
      rintro m4 ⟨b1, b2, b3⟩
      have f4 := f3.tr b1
      refine vcall (fillDown_ok (m := m4) (g := pcN n d sl u s c (n - (i + 1))) hi12 d1 hs' hs hc hgb (by rw [f4.2 96 (by decide)]; exact d2) (by rw [f4.2 95 (by decide)]; exact e3) (by rw [f4.2 95 (by decide)]; exact e5) (by rw [f4.2 95 (by decide)]; exact e6) (fun p hp => by rw [b2 _ (by omega), a2 _ (by omega)]; exact r2 (i + 1) (by omega) (by omega) p hp) b3) ?_
      rintro m5 ⟨c1, c2, c3⟩
      refine hg m5 ⟨f4.tr c1, fun j h1 h2 p hp => ?_⟩
      by_cases cj : j = i
      · subst cj
        rw [c3 p hp, show n - j = (n - (j + 1)) + 1 by omega]
        have q := scN_le hu hs hc (show p ≤ 99 by omega) d1
        have := hgb (d j) d1
        rw [dnN_ok (by omega) (by omega) (by omega) (by omega), pcN, show n - (n - (j + 1) + 1) = j by omega]
      · rw [c2 _ (by omega), b2 _ (by omega), a2 _ (by omega)]
        exact r2 j (by omega) h2 p hp
    · obtain rfl : j = n := by omega
      rw [q2 p hp, Nat.sub_self]; rfl
  · rintro k m' hk ⟨q1, q2⟩ hg
    refine b_X5_fill_2 _ _ _ _ ?_
    rw [q1.2 95 (by decide), e2, show (100 : Int32) = nI 100 from rfl, pk_mul, nI_add, nI_clamp (by omega), nI_1]
    refine ⟨fun z => absurd z (nI_ge hk (by omega)), fun _ => ⟨vp_in_nI (by omega) (by omega), hg _ ⟨q1.w _ _, fun p hp => ?_⟩⟩⟩
    rw [wI_k]
    by_cases cc : p = k
    · subst cc
      rw [show n * 100 + p = 100 * n + p by omega, pk_us]; rfl
    · rw [pk_un (by omega)]; exact q2 p (by omega)

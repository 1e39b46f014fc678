/-! years: numbers -/
theorem as_nI (y : Int32) : ∃ n : Nat, n < 2 ^ 32 ∧ y = nI n := ⟨y.toBitVec.toNat, y.toBitVec.isLt, Int32.toBitVec_inj.mp (by show _ = BitVec.ofNat 32 _; simp)⟩
theorem lot_ok (m m' : MM) (seed w : Int32) {n : Nat} (h0 : 0 < n) (hn : n ≤ 16) : ∃ j, j < n ∧ v_X11_lot m seed w (nI n) = nI j ∧ v_X12_lot m' seed w (nI n) = nI j := by
  obtain ⟨k, hk, e⟩ := as_nI (v_X11_stir m (v_X11_stir m seed 18) w)
  have e2 : v_X12_mixed m' (v_X12_mixed m' seed 18) w = nI k := e
  have e3 : ushr (nI k) 1 = nI (k / 2) := ush_N hk 1 1 (by decide)
  refine ⟨k / 2 % n, Nat.mod_lt _ h0, ?_, ?_⟩
  · unfold v_X11_lot
    rw [e, e3, cite_pos (show (0 : Int32) < nI n from nI_lt (a := 0) h0 (by omega))]
    exact pk_rem (by omega) h0 (by omega)
  · unfold v_X12_lot
    rw [e2, e3]
    exact pk_rem (by omega) h0 (by omega)
theorem lot_oX (m : MM) (seed w : Int32) {n : Nat} (h0 : 0 < n) (hn : n ≤ 16) : o_X11_lot m seed w (nI n) := ⟨fun _ => ⟨nI_ne0 h0 (by omega), trivial⟩, fun _ => trivial⟩
theorem lot_oM (m : MM) (seed w : Int32) {n : Nat} (h0 : 0 < n) (hn : n ≤ 16) : o_X12_lot m seed w (nI n) := ⟨nI_ne0 h0 (by omega), trivial⟩
theorem w99_nI (x : Int32) : ∃ D : Nat, D ≤ 99 ∧ w99 x = nI D := by
  unfold w99
  by_cases h : (0 : Int32) ≤ x
  · rw [if_pos h]
    by_cases h2 : x ≤ 99
    · rw [if_pos h2]
      have a1 := Int32.le_iff_toInt_le.mp h
      have a2 := Int32.le_iff_toInt_le.mp h2
      have z0 : (0 : Int32).toInt = 0 := by decide
      have z9 : (99 : Int32).toInt = 99 := by decide
      refine ⟨x.toInt.toNat, by omega, ?_⟩
      refine Int32.toInt_inj.mp ?_
      rw [nI_toInt (by omega)]; omega
    · rw [if_neg h2]; exact ⟨99, Nat.le_refl _, rfl⟩
  · rw [if_neg h]; exact ⟨0, by omega, rfl⟩
theorem dueV_nI (c : Nat → Nat → Int32) (h : Nat) : ∃ D : Nat, D ≤ 99 ∧ dueV c h = nI D := by
  unfold dueV saysV
  split
  · exact w99_nI _
  · exact w99_nI _
theorem dueV_fr {c c' : Nat → Nat → Int32} {h : Nat} (h1 : c' 162 = c 162) (h2 : c' 165 = c 165) (h3 : c' 166 = c 166) (h4 : c' 163 (30 + h) = c 163 (30 + h)) : dueV c' h = dueV c h := by
  unfold dueV saysV askD rkV segV
  rw [h1, h2, h3, h4]
/-- how a house goes towards its due -/
theorem way_ok (m : MM) {D hv J : Nat} (hD : D ≤ 99) (hh : hv ≤ 99) (h1 : 1 ≤ J) (h99 : J ≤ 99) (hne : ¬ D = hv) : ∃ e nh : Nat, e ≤ 99 ∧ nh ≤ 99 ∧ ∃ w : Int32, imax (-nI J) (imin (nI J) (nI D - nI hv)) = w ∧ v_X12_within m (nI D - nI hv) (-nI J) (nI J) = w ∧ iabs w = nI e ∧ nI hv + w = nI nh ∧ ¬ w = 0 ∧ ((0 ≤ w ∧ w = nI e) ∨ (¬ 0 ≤ w ∧ -w = nI e)) := by
  have i0 : (0 : Int32) = nI 0 := rfl
  rcases Nat.lt_or_ge hv D with c | c
  · refine ⟨min J (D - hv), hv + min J (D - hv), by omega, by omega, nI (min J (D - hv)), ?_, ?_, iabs_up (by omega), nI_add _ _, nI_ne0 (by omega) (by omega), Or.inl ⟨nI_le (Nat.zero_le _) (by omega), rfl⟩⟩
    · rw [pk_sub (by omega), imin_nI (by omega) (by omega)]
      unfold imax
      rw [if_pos (of_eq_true (s_nltT (by omega) (by omega) (by omega)))]
    · rw [pk_sub (by omega)]
      unfold v_X12_within
      rw [cite_pos (by rw [s_nleT (by omega) (by omega)]; trivial)]
      by_cases c2 : D - hv ≤ J
      · rw [cite_pos (nI_le c2 (by omega)), Nat.min_eq_right c2]
      · rw [cite_neg (nI_ge (by omega) (by omega)), Nat.min_eq_left (by omega)]
  · have ex : nI D - nI hv = -nI (hv - D) := by
      refine Int32.toInt_inj.mp ?_
      rw [pk_sub_toInt (by omega) (by omega), nI_toIntN (by omega)]; omega
    have t1 : (-nI (hv - D)).toInt = -((hv - D : Nat) : Int) := nI_toIntN (by omega)
    have t2 : (-nI J).toInt = -(J : Int) := nI_toIntN (by omega)
    rw [ex]
    refine ⟨min J (hv - D), hv - min J (hv - D), by omega, by omega, -nI (min J (hv - D)), ?_, ?_, iabs_dn (by omega), s_addneg (by omega), ?_, Or.inr ⟨?_, Int32.neg_neg⟩⟩
    · have e1 : imin (nI J) (-nI (hv - D)) = -nI (hv - D) := by
        unfold imin
        rw [if_pos (of_eq_true (s_nltT (by omega) (by omega) (by omega)))]
      rw [e1]
      unfold imax
      by_cases c2 : hv - D < J
      · rw [if_pos (by rw [Int32.lt_iff_toInt_lt, t1, t2]; omega), Nat.min_eq_right (by omega)]
      · rw [if_neg (by rw [Int32.lt_iff_toInt_lt, t1, t2]; omega), Nat.min_eq_left (by omega)]
    · unfold v_X12_within
      by_cases c2 : hv - D ≤ J
      · rw [cite_pos (by rw [Int32.le_iff_toInt_le, t1, t2]; omega), cite_pos (by rw [s_nleT (by omega) (by omega)]; trivial), Nat.min_eq_right c2]
      · rw [cite_neg (by rw [Int32.le_iff_toInt_le, t1, t2]; omega), Nat.min_eq_left (by omega)]
    · rw [i0]
      intro z
      have := congrArg Int32.toInt z
      rw [nI_toIntN (by omega), nI_toInt (by omega)] at this
      omega
    · rw [i0, s_nleF (by omega) (by omega) (by omega)]; exact fun z => z
/-! frames -/
theorem body_live {mm m : MM} {t s H O S Qn W C J F B : Nat} (ht : isT t) (hs : isN s) (hb : BodyR mm.1 t s H O S Qn W C J F B) (f : ∀ a, (a < s ∨ s + 14 ≤ a) → a ≠ 163 → m.1 a = mm.1 a) (g : ∀ j, 420 ≤ j → m.1 163 j = mm.1 163 j) (hL : LiveR m.1 s 0 H O W) : BodyR m.1 t s H O S Qn W C J F B := by
  have hs' : s = 24 ∨ s = 114 := hs
  have h8 := hb.sz.2.2.2.2.1
  refine ⟨town_fr ht (fun a ha => f a (by omega) (by omega)) hb.1, hL,
    slot_fr h8 (fun i _ => f _ (by omega) (by omega)) (fun j _ => g _ (by omega)) (by rw [f _ (by omega) (by omega)]) (by rw [f _ (by omega) (by omega)]) hb.2.2.1, slot_fr h8 (fun i _ => f _ (by omega) (by omega)) (fun j _ => g _ (by omega)) (by rw [f _ (by omega) (by omega)]) (by rw [f _ (by omega) (by omega)]) hb.2.2.2.1, row_fr (by rw [f _ (by omega) (by omega)]) (by rw [f _ (by omega) (by omega)]) (f _ (by omega) (by omega)) (f _ (by omega) (by omega)) hb.2.2.2.2.1, tape_fr (by rw [f _ (by omega) (by omega)]) (by rw [f _ (by omega) (by omega)]) (f _ (by omega) (by omega)) (f _ (by omega) (by omega)) hb.2.2.2.2.2.1, ?_⟩
  rw [f _ (by omega) (by omega), f _ (by omega) (by omega)]
  exact hb.2.2.2.2.2.2
/-- the offices have changed -/
theorem body_off {mm m : MM} {t s H O S Qn W C J F B : Nat} (ht : isT t) (hs : isN s) (hb : BodyR mm.1 t s H O S Qn W C J F B) (f : ∀ a, a ≠ s + 2 → a ≠ 163 → m.1 a = mm.1 a) (g : ∀ j, j < 30 ∨ 46 ≤ j → m.1 163 j = mm.1 163 j) (hO : OffP (fun k => m.1 163 (30 + k)) (m.1 (s + 2)) H O) : BodyR m.1 t s H O S Qn W C J F B := by
  have hs' : s = 24 ∨ s = 114 := hs
  have z5 := hb.sz.2.2.2.2.1
  obtain ⟨w1, w2, w3, w4, w5, w6, w7⟩ := hb.2.1
  exact body_live ht hs hb (fun a _ h => f a (by omega) h) (fun j _ => g _ (by omega)) ⟨lvM (by rw [f _ (by omega) (by omega)]) (g _ (by omega)) w1, lvH (f _ (by omega) (by omega)) (fun j _ _ => g _ (by omega)) w2, hO.lv.1, hO.lv.2, lvW z5 (f _ (by omega) (by omega)) (fun j _ _ => g _ (by omega)) w5, lvK (by rw [f _ (by omega) (by omega)]) (fun i _ => ⟨by rw [f _ (by omega) (by omega)], by rw [f _ (by omega) (by omega)], by rw [f _ (by omega) (by omega)]⟩) (fun j _ => g _ (by omega)) w6, lvL (by rw [f _ (by omega) (by omega)]) (fun i _ => ⟨by rw [f _ (by omega) (by omega)], by rw [f _ (by omega) (by omega)], by rw [f _ (by omega) (by omega)], by rw [f _ (by omega) (by omega)]⟩) (fun j _ => g _ (by omega)) w7⟩
/-- a height has changed -/
theorem body_hgt {mm m : MM} {t s H O S Qn W C J F B h nh : Nat} (ht : isT t) (hs : isN s) (hb : BodyR mm.1 t s H O S Qn W C J F B) (hh : h < 16) (h99 : nh ≤ 99) (e : m = wI (wI mm (s + 1) h (nI nh)) 163 (10 + h) (nI nh)) : BodyR m.1 t s H O S Qn W C J F B := by
  have hs' : s = 24 ∨ s = 114 := hs
  have z5 := hb.sz.2.2.2.2.1
  have f : ∀ a, a ≠ s + 1 → a ≠ 163 → m.1 a = mm.1 a := fun a h1 h2 => by rw [e, wI_o h2, wI_o h1]
  have g : ∀ j, j ≠ 10 + h → m.1 163 j = mm.1 163 j := fun j hj => by rw [e, wI_k, pk_un hj, wI_o (by omega)]
  obtain ⟨w1, w2, w3, w4, w5, w6, w7⟩ := hb.2.1
  refine body_live ht hs hb (fun a _ h => f a (by omega) h) (fun j _ => g _ (by omega)) ⟨lvM (by rw [f _ (by omega) (by omega)]) (g _ (by omega)) w1, fun k hk => ?_, lvO (f _ (by omega) (by omega)) (fun j _ _ => g _ (by omega)) w3, lvD (fun j _ _ => g _ (by omega)) w4, lvW z5 (f _ (by omega) (by omega)) (fun j _ _ => g _ (by omega)) w5, lvK (by rw [f _ (by omega) (by omega)]) (fun i _ => ⟨by rw [f _ (by omega) (by omega)], by rw [f _ (by omega) (by omega)], by rw [f _ (by omega) (by omega)]⟩) (fun j _ => g _ (by omega)) w6, lvL (by rw [f _ (by omega) (by omega)]) (fun i _ => ⟨by rw [f _ (by omega) (by omega)], by rw [f _ (by omega) (by omega)], by rw [f _ (by omega) (by omega)], by rw [f _ (by omega) (by omega)]⟩) (fun j _ => g _ (by omega)) w7⟩
  by_cases c : k = h
  · subst c
    have e1 : m.1 163 (0 + (10 + k)) = nI nh := by rw [e, wI_k, Nat.zero_add, pk_us]
    have e2 : m.1 (s + 1) k = nI nh := by rw [e, wI_o (by omega), wI_k, pk_us]
    rw [e1, e2]
    exact ⟨⟨nh, h99, rfl⟩, rfl⟩
  · have e2 : m.1 (s + 1) k = mm.1 (s + 1) k := by rw [e, wI_o (by omega), wI_k, pk_un c]
    rw [g _ (by omega), e2]
    exact w2 k hk
theorem Kx.upR {u mm m : MM} (h : Kx u mm m) {a : Nat} (ha : a < 156) (f : Nat → Int32) : Kx u (wR mm a f) (wR m a f) := by
  refine ⟨fun x y e => ?_, h.2⟩
  by_cases c : x = a
  · subst c
    rw [wR_k, cat_lo ha, wR_k]
  · rw [wR_o c, h.1 x y e]
    by_cases d : x < 156
    · rw [cat_lo d, cat_lo d, wR_o c]
    · rw [cat_hi (by omega), cat_hi (by omega)]
theorem Kx.upI {u mm m : MM} (h : Kx u mm m) {a : Nat} (ha : a < 156) (e : ∀ y, kx a y = true) (j : Nat) (v : Int32) : Kx u (wI mm a j v) (wI m a j v) := by
  have e2 : m.1 a = mm.1 a := (Kp.row h a e).trans (cat_lo ha)
  show Kx u (wR mm a (upd (mm.1 a) j v)) (wR m a (upd (m.1 a) j v))
  rw [e2]
  exact h.upR ha _
theorem Kx.hi {u mm m : MM} (h : Kx u mm m) {a : Nat} (ha : 156 ≤ a) (j : Nat) (v : Int32) : Kx u (wI mm a j v) m := by
  refine ⟨fun x y e => ?_, h.2⟩
  rw [h.1 x y e]
  by_cases d : x < 156
  · rw [cat_lo d, cat_lo d, wI_o (by omega)]
  · rw [cat_hi (by omega), cat_hi (by omega)]
/-- the model's cells as in mm, the class's as in u -/
abbrev Ky (u mm m : MM) : Prop := Kp kq (catM mm u) m
theorem Ky.ke {u mm m m' : MM} (h : Ky u mm m) (k : Ke m m') : Ky u mm m' := ⟨fun x y e => (k.g x y (ke_of_kq e)).trans (h.1 x y e), k.2.trans h.2⟩
theorem Ky.r {u mm m : MM} (h : Ky u mm m) {a : Nat} (ha : 156 ≤ a) (e : ∀ y, kq a y = true) : m.1 a = mm.1 a := (Kp.row h a e).trans (cat_hi ha)
theorem Ky.upI {u mm m : MM} (h : Ky u mm m) {a : Nat} (ha : 156 ≤ a) (j : Nat) (v : Int32) : Ky u (wI mm a j v) (wI m a j v) := by
  refine ⟨fun x y e => ?_, h.2⟩
  by_cases c : x = a
  · subst c
    rw [wI_k, cat_hi ha, wI_k]
    by_cases d : y = j
    · subst d; rw [pk_us, pk_us]
    · rw [pk_un d, pk_un d, h.1 x y e, cat_hi ha]
  · rw [wI_o c, h.1 x y e]
    by_cases d : x < 156
    · rw [cat_lo d, cat_lo d]
    · rw [cat_hi (by omega), cat_hi (by omega), wI_o c]
theorem Ky.lo {u mm m : MM} (h : Ky u mm m) {a : Nat} (ha : a < 156) (f : Nat → Int32) : Ky u (wR mm a f) m := by
  refine ⟨fun x y e => ?_, h.2⟩
  rw [h.1 x y e]
  by_cases d : x < 156
  · rw [cat_lo d, cat_lo d]
  · rw [cat_hi (by omega), cat_hi (by omega), wR_o (by omega)]

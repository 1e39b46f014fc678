/-! hold, restore -/
theorem s_wRo {mm : MM} {k : Nat} {f : Nat → Int32} {a : Nat} (h : a ≠ k) : (wR mm k f).1 a = mm.1 a := wR_o h
theorem s_wRk (mm : MM) (k : Nat) (f : Nat → Int32) : (wR mm k f).1 k = f := wR_k mm k f
theorem cpy_lt {f g : Nat → Int32} {n j : Nat} (h : j < n) : va_cpy f g 0 0 n j = f j := by
  unfold va_cpy
  rw [if_pos ⟨Nat.zero_le _, by omega⟩, Nat.sub_zero, Nat.zero_add]
def cpL (mm : MM) (d s : Nat) : MM := wI (wR (wR (wR (wR mm (d + 1) (va_cpy (mm.1 (s + 1)) (mm.1 (d + 1)) 0 0 60)) (d + 2) (va_cpy (mm.1 (s + 2)) (mm.1 (d + 2)) 0 0 60)) (d + 3) (va_cpy (mm.1 (s + 3)) (mm.1 (d + 3)) 0 0 60)) (d + 4) (va_cpy (mm.1 (s + 4)) (mm.1 (d + 4)) 0 0 60)) d 6 (mm.1 s 6)
def cp1 (mm : MM) (d s : Nat) : MM := wR (wR (wR (wR (wR (wR mm (d + 1) (va_cpy (mm.1 (s + 1)) (mm.1 (d + 1)) 0 0 16)) (d + 2) (va_cpy (mm.1 (s + 2)) (mm.1 (d + 2)) 0 0 16)) (d + 3) (va_cpy (mm.1 (s + 3)) (mm.1 (d + 3)) 0 0 8)) (d + 4) (va_cpy (mm.1 (s + 4)) (mm.1 (d + 4)) 0 0 40)) (d + 5) (va_cpy (mm.1 (s + 5)) (mm.1 (d + 5)) 0 0 40)) (d + 6) (va_cpy (mm.1 (s + 6)) (mm.1 (d + 6)) 0 0 40)
def cpX (mm : MM) (d s : Nat) : MM := wI (wI (cpL (cp1 mm d s) (d + 7) (s + 7)) d 7 (mm.1 s 7)) d 8 (mm.1 s 8)
theorem copyL_ok {mm : MM} {d s : Nat} (h : d + 5 ≤ s ∨ s + 5 ≤ d) (h0 : AtLogs d) (h1 : AtLogs s) : Runs e_X2_copyFrom [.ref d, .ref s] mm (fun r m => r = .null ∧ m = cpL mm d s) := by
  refine b_X2_copyFrom _ _ _ _ h0 h1 ?_
  simp (disch := omega) only [s_wRo, s_wRk]
  exact ⟨trivial, rfl⟩
theorem copyC_ok {mm : MM} {d s : Nat} (h : d + 12 ≤ s ∨ s + 12 ≤ d) (h0 : AtState d) (h1 : AtState s) : Runs e_X6_copyFrom [.ref d, .ref s] mm (fun r m => r = .null ∧ m = cpX mm d s) := by
  refine b_X6_copyFrom _ _ _ _ h0 h1 ?_
  simp (disch := omega) only [s_wRo, s_wRk]
  refine vcall (copyL_ok (by omega) h0.logs h1.logs) ?_
  rintro m rfl
  refine ⟨trivial, ?_⟩
  have e1 : (cpL (cp1 mm d s) (d + 7) (s + 7)).1 s = mm.1 s := by
    unfold cpL cp1
    simp (disch := omega) only [s_wRo, s_wRk, s_wIo]
  unfold cpX
  rw [show wR (wR (wR (wR (wR (wR mm (d + 1) (va_cpy (mm.1 (s + 1)) (mm.1 (d + 1)) 0 0 16)) (d + 2) (va_cpy (mm.1 (s + 2)) (mm.1 (d + 2)) 0 0 16)) (d + 3) (va_cpy (mm.1 (s + 3)) (mm.1 (d + 3)) 0 0 8)) (d + 4) (va_cpy (mm.1 (s + 4)) (mm.1 (d + 4)) 0 0 40)) (d + 5) (va_cpy (mm.1 (s + 5)) (mm.1 (d + 5)) 0 0 40)) (d + 6) (va_cpy (mm.1 (s + 6)) (mm.1 (d + 6)) 0 0 40) = cp1 mm d s from rfl]
  simp (disch := omega) only [s_wIo, e1]
def CpR (c' c : Nat → Nat → Int32) (d s : Nat) : Prop :=
  (c' d 7 = c s 7 ∧ c' d 8 = c s 8 ∧ c' (d + 7) 6 = c (s + 7) 6) ∧ (∀ j, j < 16 → c' (d + 1) j = c (s + 1) j) ∧ (∀ j, j < 16 → c' (d + 2) j = c (s + 2) j) ∧ (∀ j, j < 8 → c' (d + 3) j = c (s + 3) j) ∧
  (∀ j, j < 40 → c' (d + 4) j = c (s + 4) j ∧ c' (d + 5) j = c (s + 5) j ∧ c' (d + 6) j = c (s + 6) j) ∧
  (∀ j, j < 60 → c' (d + 7 + 1) j = c (s + 7 + 1) j ∧ c' (d + 7 + 2) j = c (s + 7 + 2) j ∧ c' (d + 7 + 3) j = c (s + 7 + 3) j ∧ c' (d + 7 + 4) j = c (s + 7 + 4) j)
theorem cpX_r {mm : MM} {d s : Nat} (h : d + 12 ≤ s ∨ s + 12 ≤ d) : CpR (cpX mm d s).1 mm.1 d s := by
  unfold cpX cpL cp1 CpR
  refine ⟨⟨?_, ?_, ?_⟩, fun j hj => ?_, fun j hj => ?_, fun j hj => ?_, fun j hj => ⟨?_, ?_, ?_⟩, fun j hj => ⟨?_, ?_, ?_, ?_⟩⟩ <;> simp (disch := omega) only [s_wRo, s_wRk, s_wIo, s_wIk, pk_us, pk_un, cpy_lt]
theorem cpX_o {mm : MM} {d s x : Nat} (h : x < d ∨ d + 12 ≤ x) : (cpX mm d s).1 x = mm.1 x := by
  unfold cpX cpL cp1
  simp (disch := omega) only [s_wRo, s_wIo]
theorem CpR.to {c' c e : Nat → Nat → Int32} {d s : Nat} (h : CpR c' c d s) (hh : ∀ i, i < 12 → e (d + i) = c' (d + i)) : CpR e c d s := by
  unfold CpR at *
  have r0 : e d = c' d := hh 0 (by omega)
  have r8 : e (d + 7 + 1) = c' (d + 7 + 1) := hh 8 (by omega)
  have r9 : e (d + 7 + 2) = c' (d + 7 + 2) := hh 9 (by omega)
  have r10 : e (d + 7 + 3) = c' (d + 7 + 3) := hh 10 (by omega)
  have r11 : e (d + 7 + 4) = c' (d + 7 + 4) := hh 11 (by omega)
  rw [r0, hh 1 (by omega), hh 2 (by omega), hh 3 (by omega), hh 4 (by omega), hh 5 (by omega), hh 6 (by omega), hh 7 (by omega), r8, r9, r10, r11]
  exact h
theorem live_cp {c' c : Nat → Nat → Int32} {d s b' b H O W : Nat} (h8 : W ≤ 8) (hC : CpR c' c d s) (g : ∀ j, j < 420 → c' 163 (b' + j) = c 163 (b + j)) (h : LiveR c s b H O W) : LiveR c' d b' H O W := by
  obtain ⟨⟨p1, p2, p3⟩, q1, q2, q3, q4, q5⟩ := hC
  obtain ⟨g1, g2, g3, g4, g5, ⟨n, k1, k2, k3, k4⟩, ⟨l, l1, l2, l3, l4⟩⟩ := h
  refine ⟨?_, fun h hh => ?_, fun h hh hp => ?_, fun h h' hh hh' => ?_, fun w hw => ?_, ⟨n, k1, (g 1 (by omega)).trans k2, p1.trans k3, fun i hi => ?_⟩, ⟨l, l1, (g 2 (by omega)).trans l2, p3.trans l3, fun i hi => ?_⟩⟩
  · rw [p2, g 0 (by omega)]; exact g1
  · rw [q1 h hh, g _ (by omega)]; exact g2 h hh
  · rw [q2 h hh, g _ (by omega)]; exact g3 h hh hp
  · rw [g (30 + h) (by omega), g (30 + h') (by omega)]; exact g4 h h' hh hh'
  · rw [q3 w (by omega), g _ (by omega)]; exact g5 w hw
  · obtain ⟨z1, z2, z3⟩ := q4 i (by omega)
    have := k4 i hi
    unfold WorkR at *
    rw [z1, z2, z3, g (60 + 3 * i) (by omega), g (60 + 3 * i + 1) (by omega), g (60 + 3 * i + 2) (by omega)]
    exact this
  · obtain ⟨z1, z2, z3, z4⟩ := q5 i (by omega)
    have := l4 i hi
    unfold LogR at *
    rw [z1, z2, z3, z4, g (180 + 4 * i) (by omega), g (180 + 4 * i + 1) (by omega), g (180 + 4 * i + 2) (by omega), g (180 + 4 * i + 3) (by omega)]
    exact this
/-- the model's copy -/
def cpF (f : Nat → Int32) (a b k : Nat) (j : Nat) : Int32 := if 420 * b ≤ j ∧ j < 420 * b + k then f (420 * a + (j - 420 * b)) else f j
def cpM (mm : MM) (a b : Nat) : MM := wR mm 163 (cpF (mm.1 163) a b 420)
theorem copyM_ok {m : MM} {a b : Nat} (ha : a ≤ 2) (hb : b ≤ 2) (hab : a ≠ b) : Runs e_X12_copy [.ref 156, .int (nI a), .int (nI b)] m (fun r m' => r = .null ∧ (m'.2 = m.2 ∧ (∀ x, x ≠ 163 → m'.1 x = m.1 x) ∧ ∀ j, m'.1 163 j = cpF (m.1 163) a b 420 j)) := by
  apply b_X12_copy
  refine for_up (Y := e_X12_copy) (pc := 2) (fun k => [(0, .ref 156), (1, .int (nI a)), (2, .int (nI b)), (3, .int (nI k))]) (fun k m' => m'.2 = m.2 ∧ (∀ x, x ≠ 163 → m'.1 x = m.1 x) ∧ ∀ j, m'.1 163 j = cpF (m.1 163) a b k j) 420 ?_ ?_ 0 m (by omega) ⟨rfl, fun _ _ => rfl, fun j => ?_⟩
  · intro m' hM
    apply b_X12_copy_2
    exact ⟨fun _ => ⟨rfl, hM⟩, fun z => absurd (by rfl) z⟩
  · rintro k m' hk ⟨e1, e2, e3⟩ hn
    apply b_X12_copy_2
    simp (disch := omega) only [lin, nI_add, pk_mul, s_sub, s_addneg, s_leT, s_leF, s_ltT, s_ltF, s_eqF, s_inT, s_neF, s_neF', s_neE, s_nleT, s_nleF, s_nltF, s_nltT, eq_self, nI_clamp, s_wIk, s_wIo, pk_us, pk_un, Nat.reduceAdd, Nat.reduceMul, Nat.reduceSub, Nat.zero_add, Nat.add_zero, Nat.mul_zero, true_implies, false_implies, implies_true, not_true, not_false, and_true, true_and, not_true_eq_false, not_false_eq_true, forall_const]
    refine hn _ ⟨e1, fun x hx => ?_, fun j => ?_⟩
    · rw [wI_o hx]; exact e2 x hx
    · rw [wI_k]
      by_cases c : j = 420 * b + k
      · subst c
        rw [pk_us, e3]
        unfold cpF
        rw [if_neg (show ¬ (420 * b ≤ 420 * a + k ∧ 420 * a + k < 420 * b + k) by omega), if_pos (show 420 * b ≤ 420 * b + k ∧ 420 * b + k < 420 * b + (k + 1) by omega), show 420 * b + k - 420 * b = k by omega]
      · rw [pk_un c, e3]
        unfold cpF
        by_cases c2 : 420 * b ≤ j ∧ j < 420 * b + k
        · rw [if_pos c2, if_pos (by omega)]
        · rw [if_neg c2, if_neg (by omega)]
  · unfold cpF
    rw [if_neg (by omega)]
theorem Kq_cpM {mm m m' : MM} {a b : Nat} (h : Kq mm m) (h1 : m'.2 = m.2) (h2 : ∀ x, x ≠ 163 → m'.1 x = m.1 x) (h3 : ∀ j, m'.1 163 j = cpF (m.1 163) a b 420 j) : Kq (cpM mm a b) m' := by
  refine ⟨fun x y e => ?_, by rw [h1]; exact h.2⟩
  by_cases c : x = 163
  · subst c
    rw [h3, h.r163]
    show _ = (wR mm 163 (cpF (mm.1 163) a b 420)).1 163 y
    rw [wR_k]
  · rw [h2 x c]
    show _ = (wR mm 163 (cpF (mm.1 163) a b 420)).1 x y
    rw [wR_o c]
    exact h.1 x y e

theorem w01 {m : MM} {a : Int32} : p_X11_within m a 0 1 ↔ inR a 2 := inR_iff' (n := 1) (by omega)
theorem cpM_o {mm : MM} {a b x : Nat} (h : x ≠ 163) : (cpM mm a b).1 x = mm.1 x := wR_o h
theorem cpM_k (mm : MM) (a b j : Nat) : (cpM mm a b).1 163 j = cpF (mm.1 163) a b 420 j := by
  unfold cpM
  rw [wR_k]
theorem st_hold (a : Int32) : StepOK RR e_X11_hold e_X12_hold [.int a] := by
  apply step_c
  rintro mm ⟨t, s, H, O, S, Qn, W, C, J, F, B, ht, hs, hr, hb, hl⟩
  obtain ⟨z1, z2, z3, z4, z5, z6, z7, z8, z9⟩ := hb.sz
  obtain ⟨n1, n2, n3, n4, n5, n6, n7, n8, n9⟩ := hb.nm
  obtain ⟨c1, c2, c3, c4, c5, c6, c7, c8, c9, c10⟩ := hb.nc
  have rf := Kp.rf (kp := kq) mm
  have hs' : s = 24 ∨ s = 114 := hs
  have ht' : t = 10 ∨ t = 100 := ht
  by_cases h : inR a 2
  · obtain ⟨j, hj, rfl⟩ := id h
    have sj : isS (98 + 30 + 14 * j) := by
      have : j = 0 ∨ j = 1 := by omega
      rcases this with rfl | rfl
      · exact Or.inr (Or.inr (Or.inl rfl))
      · exact Or.inr (Or.inr (Or.inr rfl))
    have nj : (nI j).toNatClampNeg = j := nI_clamp (by omega)
    refine ⟨.int 1, wI (cpX mm (98 + 30 + 14 * j) s) 99 j 1, wI (cpM (wI (cpX mm (98 + 30 + 14 * j) s) 99 j 1) 0 (1 + j)) 174 (1 + j) 1, ?_, fun m k => ?_, ?_⟩
    · apply b_X11_hold
      rw [nj, hr.2.1]
      refine ⟨fun _ => ⟨vp_in_nI (by omega) (by omega), sj.at, hs.s.at, ?_⟩, fun z => absurd (w01.mpr h) z⟩
      refine vcall (copyC_ok (by omega) sj.at hs.s.at) ?_
      rintro m rfl
      exact ⟨vp_in_nI (by omega) (by omega), rfl, Kp.rf _⟩
    · apply b_X12_hold
      have e1 : (1 : Int32) + nI j = nI (1 + j) := by simp (disch := omega) only [lin, nI_add, pk_mul, s_sub, s_addneg, s_leT, s_leF, s_ltT, s_ltF, s_eqF, s_inT, s_neF, s_neF', s_neE, s_nleT, s_nleF, s_nltF, s_nltT, eq_self, nI_clamp, s_wIk, s_wIo, pk_us, pk_un, Nat.reduceAdd, Nat.reduceMul, Nat.reduceSub, Nat.zero_add, Nat.add_zero, Nat.mul_zero, true_implies, false_implies, implies_true, not_true, not_false, and_true, true_and, not_true_eq_false, not_false_eq_true, forall_const]
      rw [e1, nI_clamp (by omega)]
      refine ⟨fun z => absurd z (nI_pos (by omega)), fun _ => ⟨fun _ => ?_, fun z => absurd (show nI j ≤ nI 1 from nI_le (by omega) (by omega)) z⟩⟩
      refine vcall (copyM_ok (m := m) (a := 0) (b := 1 + j) (by omega) (by omega) (by omega)) ?_
      rintro m' ⟨q1, q2, q3⟩
      exact ⟨vp_in_nI (by omega) (by omega), rfl, (Kq_cpM k q1 q2 q3).bI _ _ _⟩
    · have hx : ∀ x, x ≠ 99 → x ≠ 163 → x ≠ 174 → (x < 128 + 14 * j ∨ 128 + 14 * j + 12 ≤ x) → (wI (cpM (wI (cpX mm (98 + 30 + 14 * j) s) 99 j 1) 0 (1 + j)) 174 (1 + j) 1).1 x = mm.1 x := by
        intro x h1 h2 h3 h4
        rw [wI_o h3, cpM_o h2, wI_o h1, cpX_o (by omega)]
      have hg : ∀ i, (wI (cpM (wI (cpX mm (98 + 30 + 14 * j) s) 99 j 1) 0 (1 + j)) 174 (1 + j) 1).1 163 i = cpF (mm.1 163) 0 (1 + j) 420 i := by
        intro i
        rw [wI_o (by decide), cpM_k, wI_o (by decide), cpX_o (by omega)]
      have h99 : (wI (cpM (wI (cpX mm (98 + 30 + 14 * j) s) 99 j 1) 0 (1 + j)) 174 (1 + j) 1).1 99 = upd (mm.1 99) j 1 := by
        rw [wI_o (by decide), cpM_o (by decide), wI_k, cpX_o (by omega)]
      have h174 : (wI (cpM (wI (cpX mm (98 + 30 + 14 * j) s) 99 j 1) 0 (1 + j)) 174 (1 + j) 1).1 174 = upd (mm.1 174) (1 + j) 1 := by
        rw [wI_k, cpM_o (by decide), wI_o (by decide), cpX_o (by omega)]
      have hC : CpR (wI (cpM (wI (cpX mm (98 + 30 + 14 * j) s) 99 j 1) 0 (1 + j)) 174 (1 + j) 1).1 mm.1 (128 + 14 * j) s := (cpX_r (by omega)).to fun i hi => by
        rw [wI_o (by omega), cpM_o (by omega), wI_o (by omega)]
      have h2 : (wI (cpM (wI (cpX mm (98 + 30 + 14 * j) s) 99 j 1) 0 (1 + j)) 174 (1 + j) 1).2.2 = mm.2.2 := rfl
      generalize (wI (cpM (wI (cpX mm (98 + 30 + 14 * j) s) 99 j 1) 0 (1 + j)) 174 (1 + j) 1) = m' at hx hg h99 h174 hC h2
      have lv : LiveR m'.1 (128 + 14 * j) (420 * (1 + j)) H O W := live_cp z5 hC (fun i hi => by
        rw [hg]; unfold cpF; rw [if_pos (by omega)]; exact congrArg (mm.1 163) (show 420 * 0 + (420 * (1 + j) + i - 420 * (1 + j)) = 0 + i by omega)) hb.2.1
      have g0 : ∀ i, (i < 420 * (1 + j) ∨ 420 * (1 + j) + 420 ≤ i) → m'.1 163 i = mm.1 163 i := fun i hi => by
        rw [hg]; unfold cpF; rw [if_neg (by omega)]
      refine RR_put ht hs hr h2 ⟨town_fr ht (fun x hx' => hx x (by omega) (by omega) (by omega) (by omega)) hb.1, live_fr z5 (fun i _ => hx _ (by omega) (by omega) (by omega) (by omega)) (fun i _ => g0 _ (by omega)) hb.2.1, ?_, ?_, row_fr (by rw [hx _ (by omega) (by omega) (by omega) (by omega)]) (by rw [hx _ (by omega) (by omega) (by omega) (by omega)]) (hx _ (by omega) (by omega) (by omega) (by omega)) (hx _ (by omega) (by omega) (by omega) (by omega)) hb.2.2.2.2.1, tape_fr (by rw [hx _ (by omega) (by omega) (by omega) (by omega)]) (by rw [hx _ (by omega) (by omega) (by omega) (by omega)]) (hx _ (by omega) (by omega) (by omega) (by omega)) (hx _ (by omega) (by omega) (by omega) (by omega)) hb.2.2.2.2.2.1, ?_⟩ (lot_fr z5 (by rw [hx _ (by omega) (by omega) (by omega) (by omega)]) (by rw [hx _ (by omega) (by omega) (by omega) (by omega)]) (by rw [hx _ (by omega) (by omega) (by omega) (by omega)]) (fun i _ => by rw [hx _ (by omega) (by omega) (by omega) (by omega)]) (fun i _ => hx _ (by omega) (by omega) (by omega) (by omega)) (fun i _ => hx _ (by omega) (by omega) (by omega) (by omega)) hl)
      · by_cases c : j = 0
        · subst c
          exact Or.inr ⟨by rw [h99, pk_us]; rfl, by rw [h174, pk_us]; rfl, lv⟩
        · exact slot_fr z5 (fun i _ => hx _ (by omega) (by omega) (by omega) (by omega)) (fun i _ => g0 _ (by omega)) (by rw [h99, pk_un (by omega)]) (by rw [h174, pk_un (by omega)]) hb.2.2.1
      · by_cases c : j = 1
        · subst c
          exact Or.inr ⟨by rw [h99, pk_us]; rfl, by rw [h174, pk_us]; rfl, lv⟩
        · exact slot_fr z5 (fun i _ => hx _ (by omega) (by omega) (by omega) (by omega)) (fun i _ => g0 _ (by omega)) (by rw [h99, pk_un (by omega)]) (by rw [h174, pk_un (by omega)]) hb.2.2.2.1
      · rw [hx 1 (by omega) (by omega) (by omega) (by omega), hx 156 (by omega) (by omega) (by omega) (by omega)]
        exact hb.2.2.2.2.2.2
  · refine ⟨.int 0, mm, mm, ?_, fun m k => ?_, ⟨t, s, H, O, S, Qn, W, C, J, F, B, ht, hs, hr, hb, hl⟩⟩
    · apply b_X11_hold
      exact ⟨fun z => absurd (w01.mp z) h, fun _ => ⟨rfl, rf⟩⟩
    · apply b_X12_hold
      refine ⟨fun _ => ⟨rfl, k⟩, fun q => ⟨fun q2 => absurd (w01 (m := m).mp ⟨q, fun z => ?_⟩) h, fun _ => ⟨rfl, k⟩⟩⟩
      rw [Int32.lt_iff_toInt_lt] at z
      rw [Int32.le_iff_toInt_le] at q2
      omega
theorem st_restore (a : Int32) : StepOK RR e_X11_restore e_X12_restore [.int a] := by
  apply step_c
  rintro mm ⟨t, s, H, O, S, Qn, W, C, J, F, B, ht, hs, hr, hb, hl⟩
  obtain ⟨z1, z2, z3, z4, z5, z6, z7, z8, z9⟩ := hb.sz
  obtain ⟨n1, n2, n3, n4, n5, n6, n7, n8, n9⟩ := hb.nm
  obtain ⟨c1, c2, c3, c4, c5, c6, c7, c8, c9, c10⟩ := hb.nc
  have rf := Kp.rf (kp := kq) mm
  have hs' : s = 24 ∨ s = 114 := hs
  have ht' : t = 10 ∨ t = 100 := ht
  have hR : RR mm := ⟨t, s, H, O, S, Qn, W, C, J, F, B, ht, hs, hr, hb, hl⟩
  by_cases h : inR a 2
  · obtain ⟨j, hj, rfl⟩ := id h
    have jj : j = 0 ∨ j = 1 := by omega
    have sj : isS (98 + 30 + 14 * j) := by
      rcases jj with rfl | rfl
      · exact Or.inr (Or.inr (Or.inl rfl))
      · exact Or.inr (Or.inr (Or.inr rfl))
    have nj : (nI j).toNatClampNeg = j := nI_clamp (by omega)
    have e1 : (1 : Int32) + nI j = nI (1 + j) := by simp (disch := omega) only [lin, nI_add, pk_mul, s_sub, s_addneg, s_leT, s_leF, s_ltT, s_ltF, s_eqF, s_inT, s_neF, s_neF', s_neE, s_nleT, s_nleF, s_nltF, s_nltT, eq_self, nI_clamp, s_wIk, s_wIo, pk_us, pk_un, Nat.reduceAdd, Nat.reduceMul, Nat.reduceSub, Nat.zero_add, Nat.add_zero, Nat.mul_zero, true_implies, false_implies, implies_true, not_true, not_false, and_true, true_and, not_true_eq_false, not_false_eq_true, forall_const]
    have sl : SlotR mm.1 j (98 + 30 + 14 * j) (420 * (1 + j)) H O W := by
      rcases jj with rfl | rfl
      · exact hb.2.2.1
      · exact hb.2.2.2.1
    rcases sl with ⟨s1, s2⟩ | ⟨s1, s2, s3⟩
    · refine ⟨.int 0, mm, mm, ?_, fun m k => ?_, hR⟩
      · apply b_X11_restore
        rw [nj]
        exact ⟨fun _ => ⟨vp_in_nI (by omega) (by omega), fun z => absurd s1 z, fun _ => ⟨rfl, rf⟩⟩, fun _ => ⟨rfl, rf⟩⟩
      · apply b_X12_restore
        rw [e1, nI_clamp (by omega)]
        exact ⟨fun _ => ⟨rfl, k⟩, fun _ => ⟨fun _ => ⟨rfl, k⟩, fun _ => ⟨vp_in_nI (by omega) (by omega), fun z => absurd (by rw [k.r174]; exact s2) z, fun _ => ⟨rfl, k⟩⟩⟩⟩
    · refine ⟨.int 1, wI (cpX mm s (98 + 30 + 14 * j)) 41 4 0, wI (cpM (wI (cpX mm s (98 + 30 + 14 * j)) 41 4 0) (1 + j) 0) 156 40 0, ?_, fun m k => ?_, ?_⟩
      · apply b_X11_restore
        rw [nj, hr.2.1]
        refine ⟨fun _ => ⟨vp_in_nI (by omega) (by omega), fun _ => ⟨hs.s.at, vp_in_nI (by omega) (by omega), sj.at, ?_⟩, fun z => absurd (s1.symm.trans z) (by decide)⟩, fun z => absurd (w01.mpr h) z⟩
        refine vcall (copyC_ok (by omega) hs.s.at sj.at) ?_
        rintro m rfl
        refine vcall (K := fun m => m = wI (cpX mm s (98 + 30 + 14 * j)) 41 4 0) ?_ ?_
        · apply b_X9_dropLots
          exact ⟨rfl, rfl⟩
        · rintro m rfl
          exact ⟨rfl, Kp.rf _⟩
      · apply b_X12_restore
        have e174 : m.1 174 (1 + j) = nI 1 := by
          rw [k.r174, wI_o (by omega), cpX_o (by omega)]; exact s2
        rw [e1, nI_clamp (by omega)]
        refine ⟨fun z => absurd z (nI_pos (by omega)), fun _ => ⟨fun z => absurd (show nI 1 < nI j from z) (nI_nlt (by omega) (by omega)), fun _ => ⟨vp_in_nI (by omega) (by omega), fun _ => ?_, fun z => absurd (e174.symm.trans z) (by decide)⟩⟩⟩
        refine vcall (copyM_ok (m := m) (a := 1 + j) (b := 0) (by omega) (by omega) (by omega)) ?_
        rintro m' ⟨q1, q2, q3⟩
        exact ⟨rfl, (Kq_cpM k q1 q2 q3).bI _ _ _⟩
      · have hx : ∀ x, x ≠ 41 → x ≠ 163 → x ≠ 156 → (x < s ∨ s + 12 ≤ x) → (wI (cpM (wI (cpX mm s (98 + 30 + 14 * j)) 41 4 0) (1 + j) 0) 156 40 0).1 x = mm.1 x := by
          intro x h1 h2 h3 h4
          rw [wI_o h3, cpM_o h2, wI_o h1, cpX_o (by omega)]
        have hg : ∀ i, (wI (cpM (wI (cpX mm s (98 + 30 + 14 * j)) 41 4 0) (1 + j) 0) 156 40 0).1 163 i = cpF (mm.1 163) (1 + j) 0 420 i := by
          intro i
          rw [wI_o (by decide), cpM_k, wI_o (by decide), cpX_o (by omega)]
        have h41 : (wI (cpM (wI (cpX mm s (98 + 30 + 14 * j)) 41 4 0) (1 + j) 0) 156 40 0).1 41 = upd (mm.1 41) 4 0 := by
          rw [wI_o (by decide), cpM_o (by decide), wI_k, cpX_o (by omega)]
        have h156 : (wI (cpM (wI (cpX mm s (98 + 30 + 14 * j)) 41 4 0) (1 + j) 0) 156 40 0).1 156 = upd (mm.1 156) 40 0 := by
          rw [wI_k, cpM_o (by decide), wI_o (by decide), cpX_o (by omega)]
        have hC : CpR (wI (cpM (wI (cpX mm s (98 + 30 + 14 * j)) 41 4 0) (1 + j) 0) 156 40 0).1 mm.1 s (98 + 30 + 14 * j) := (cpX_r (by omega)).to fun i hi => by
          rw [wI_o (by omega), cpM_o (by omega), wI_o (by omega)]
        have h2 : (wI (cpM (wI (cpX mm s (98 + 30 + 14 * j)) 41 4 0) (1 + j) 0) 156 40 0).2.2 = mm.2.2 := rfl
        generalize (wI (cpM (wI (cpX mm s (98 + 30 + 14 * j)) 41 4 0) (1 + j) 0) 156 40 0) = m' at hx hg h41 h156 hC h2
        have lv : LiveR m'.1 s 0 H O W := live_cp z5 hC (fun i hi => by
          rw [hg]; unfold cpF; rw [if_pos (by omega)]; exact congrArg (mm.1 163) (show 420 * (1 + j) + (0 + i - 420 * 0) = 420 * (1 + j) + i by omega)) s3
        have g0 : ∀ i, 420 ≤ i → m'.1 163 i = mm.1 163 i := fun i hi => by
          rw [hg]; unfold cpF; rw [if_neg (by omega)]
        obtain ⟨kk, nx, -, y2, -, y4, -⟩ := hl
        refine RR_put ht hs hr h2 ⟨town_fr ht (fun x hx' => hx x (by omega) (by omega) (by omega) (by omega)) hb.1, lv, ?_, ?_, row_fr (by rw [hx _ (by omega) (by omega) (by omega) (by omega)]) (by rw [h156, pk_un (by omega)]) (hx _ (by omega) (by omega) (by omega) (by omega)) (hx _ (by omega) (by omega) (by omega) (by omega)) hb.2.2.2.2.1, tape_fr (by rw [hx _ (by omega) (by omega) (by omega) (by omega)]) (by rw [h156, pk_un (by omega)]) (hx _ (by omega) (by omega) (by omega) (by omega)) (hx _ (by omega) (by omega) (by omega) (by omega)) hb.2.2.2.2.2.1, ?_⟩ ⟨0, nx, by omega, y2, by rw [h41, pk_us]; rfl, by rw [h41, pk_un (by omega)]; exact y4, by rw [h156, pk_us]; rfl, fun i hi => absurd hi (by omega)⟩
        · exact slot_fr z5 (fun i _ => hx _ (by omega) (by omega) (by omega) (by omega)) (fun i _ => g0 _ (by omega)) (by rw [hx _ (by omega) (by omega) (by omega) (by omega)]) (by rw [hx _ (by omega) (by omega) (by omega) (by omega)]) hb.2.2.1
        · exact slot_fr z5 (fun i _ => hx _ (by omega) (by omega) (by omega) (by omega)) (fun i _ => g0 _ (by omega)) (by rw [hx _ (by omega) (by omega) (by omega) (by omega)]) (by rw [hx _ (by omega) (by omega) (by omega) (by omega)]) hb.2.2.2.1
        · rw [hx 1 (by omega) (by omega) (by omega) (by omega), h156, pk_un (by omega)]
          exact hb.2.2.2.2.2.2
  · refine ⟨.int 0, mm, mm, ?_, fun m k => ?_, hR⟩
    · apply b_X11_restore
      exact ⟨fun z => absurd (w01.mp z) h, fun _ => ⟨rfl, rf⟩⟩
    · apply b_X12_restore
      exact ⟨fun _ => ⟨rfl, k⟩, fun q => ⟨fun _ => ⟨rfl, k⟩, fun q2 => absurd (w01 (m := m).mp ⟨q, q2⟩) h⟩⟩

/-! jack -/
theorem in1_of {m : MM} {x : Int32} (h : p_X11_within m x 1 99) : ∃ d : Nat, 1 ≤ d ∧ d ≤ 99 ∧ x = nI d := by
  obtain ⟨h1, h2⟩ := h
  rw [Int32.lt_iff_toInt_lt] at h1 h2
  have e1 : (1 : Int32).toInt = 1 := by decide
  have e2 : (99 : Int32).toInt = 99 := by decide
  rw [e1] at h1
  rw [e2] at h2
  refine ⟨x.toInt.natAbs, by omega, by omega, Int32.toInt_inj.mp ?_⟩
  rw [nI_toInt (by omega)]
  omega
theorem shl_wood {s : Nat} (hs : isN s) : SHL[s + 3]? = some (.inl (0, 8, 0, 0)) := by
  rcases hs with rfl | rfl <;> rfl
theorem wood_X {b : Int32} {W : Nat} (h8 : W ≤ 8) : (¬ b < 10 ∧ inR (b - 10) W) ↔ ∃ w, w < W ∧ b = nI (10 + w) := by
  constructor
  · rintro ⟨-, w, hw, e⟩
    refine ⟨w, hw, ?_⟩
    have : b = (b - 10) + 10 := by rw [Int32.sub_add_cancel]
    rw [this, e, show (10 : Int32) = nI 10 from rfl, nI_add, Nat.add_comm]
  · rintro ⟨w, hw, rfl⟩
    refine ⟨nI_nlt (b := 10) (by omega) (by omega), w, hw, ?_⟩
    rw [show (10 : Int32) = nI 10 from rfl, s_sub (by omega), show 10 + w - 10 = w by omega]
theorem wood_M {m : MM} {b : Int32} {W : Nat} (h8 : W ≤ 8) : p_X12_isIn m b 10 (9 + nI W) ↔ ∃ w, w < W ∧ b = nI (10 + w) := by
  rw [show (9 : Int32) = nI 9 from rfl, nI_add]
  constructor
  · rintro ⟨h1, h2⟩
    rw [Int32.lt_iff_toInt_lt] at h1 h2
    have e1 : (10 : Int32).toInt = 10 := by decide
    rw [e1] at h1
    rw [nI_toInt (by omega)] at h2
    refine ⟨(b.toInt - 10).natAbs, by omega, Int32.toInt_inj.mp ?_⟩
    rw [nI_toInt (by omega)]
    omega
  · rintro ⟨w, hw, rfl⟩
    exact ⟨nI_nlt (b := 10) (by omega) (by omega), nI_nlt (by omega) (by omega)⟩
theorem nI10 (w : Nat) (hw : w < 8) : nI (10 + w) - 10 = nI w := by
  rw [show (10 : Int32) = nI 10 from rfl, s_sub (by omega), show 10 + w - 10 = w by omega]
def lnV (c : Nat → Nat → Int32) (w : Nat) : Nat := (c 162 (170 + 2 * w)).toNatClampNeg
def pcV (c : Nat → Nat → Int32) (w : Nat) : Nat := (c 163 (50 + w)).toNatClampNeg
theorem BodyR.ln {c : Nat → Nat → Int32} {t s H O S Qn W C J F B : Nat} (h : BodyR c t s H O S Qn W C J F B) {w : Nat} (hw : w < W) : 1 ≤ lnV c w ∧ lnV c w ≤ 60 ∧ c 162 (170 + 2 * w) = nI (lnV c w) ∧ c (t + 7) w = nI (lnV c w) := by
  obtain ⟨⟨l, l1, l2, l3⟩, l4⟩ := h.1.2.2.2.2.2.2.2.1 w hw
  have e : lnV c w = l := by unfold lnV; rw [l3, nI_clamp (by omega)]
  rw [e]
  exact ⟨l1, l2, l3, l4.trans l3⟩
theorem BodyR.pc {c : Nat → Nat → Int32} {t s H O S Qn W C J F B : Nat} (h : BodyR c t s H O S Qn W C J F B) {w : Nat} (hw : w < W) : pcV c w ≤ 99 ∧ c 163 (50 + w) = nI (pcV c w) ∧ c (s + 3) w = nI (pcV c w) := by
  obtain ⟨⟨p, p1, p2⟩, p3⟩ := h.2.1.2.2.2.2.1 w hw
  rw [Nat.zero_add] at p2 p3
  have e : pcV c w = p := by unfold pcV; rw [p2, nI_clamp (by omega)]
  rw [e]
  exact ⟨p1, p2, p3.trans p2⟩
theorem st_jack (a b : Int32) : StepOK RR e_X11_jack e_X12_jack [.int a, .int b] := by
  apply step_q
  rintro mm ⟨t, s, H, O, S, Qn, W, C, J, F, B, ht, hs, hr, hb, hl⟩
  obtain ⟨z1, z2, z3, z4, z5, z6, z7, z8, z9⟩ := hb.sz
  obtain ⟨n1, n2, n3, n4, n5, n6, n7, n8, n9⟩ := hb.nm
  obtain ⟨c1, c2, c3, c4, c5, c6, c7, c8, c9, c10⟩ := hb.nc
  have rf := Kp.rf (kp := kq) mm
  have hs' : s = 24 ∨ s = 114 := hs
  have ht' : t = 10 ∨ t = 100 := ht
  have c13 : mm.1 t 13 = nI W := c6
  have n5' : mm.1 162 5 = nI W := n5
  by_cases h : p_X11_within mm a 1 99
  · obtain ⟨n, hn1, hn2, rfl⟩ := in1_of h
    have hwX : ∀ w, w < W → (1 ≤ lnV mm.1 w ∧ lnV mm.1 w ≤ 60 ∧ mm.1 (t + 7) w = nI (lnV mm.1 w)) ∧ pcV mm.1 w ≤ 99 ∧ mm.1 (s + 3) w = nI (pcV mm.1 w) := fun w hw => by
      obtain ⟨q1, q2, q3, q4⟩ := hb.ln hw
      obtain ⟨r1, r2, r3⟩ := hb.pc hw
      exact ⟨⟨q1, q2, q4⟩, r1, r3⟩
    have cX := choose_ok (mm := mm) (n := n) ht (shl_wood hs) (by omega) z5 hn2 c13 hwX
    have cM := fun (m : MM) (k : Kq mm m) => jacks_ok (mm := m) (n := n) (W := W) (ln := lnV mm.1) (pc := pcV mm.1) z5 hn2 (by rw [k.r162]; exact n5') fun w hw => by
      obtain ⟨q1, q2, q3, q4⟩ := hb.ln hw
      obtain ⟨r1, r2, r3⟩ := hb.pc hw
      exact ⟨⟨q1, q2, by rw [k.r162]; exact q3⟩, r1, by rw [k.r163]; exact r2⟩
    have aM : ∀ m, p_X12_isIn m (nI n) 1 99 := fun m => h
    have hA := fw_rel (W := W) (ln := lnV mm.1) (pc := pcV mm.1) (fun w hw => (hb.ln hw).1) W (Nat.le_refl _) n hn2
    obtain ⟨oW, iW⟩ := isW_X (a := b - 10) ht hr c13 (by omega)
    by_cases hb0 : b = 0
    · subst hb0
      by_cases c : fw 1000 W (lnV mm.1) (pcV mm.1) W n < 1000
      · refine ⟨.int (nI (fw 1000 W (lnV mm.1) (pcV mm.1) W n)), ?_, fun m k => ?_⟩
        · apply b_X11_jack
          rw [hr.1, hr.2.1]
          refine ⟨fun _ => ⟨fun _ => ⟨ht.at, hs.s.at, bcall cX (fun _ m ⟨k1, k2⟩ => ⟨fun z => absurd rfl z, fun _ => ⟨by rw [(k2 c).1], k1.kq⟩⟩) fun z => absurd z (by rw [decide_eq_true c]; decide)⟩, fun z => absurd rfl z⟩, fun z => absurd h z⟩
        · apply b_X12_jack
          refine ⟨fun _ => ⟨fun _ => icall (cM m k) ?_, fun z => absurd rfl z⟩, fun z => absurd (aM m) z⟩
          rintro m1 ⟨k1, k2⟩
          rw [if_pos c]
          exact ⟨fun _ => ⟨fun z => absurd rfl z, fun _ => ⟨rfl, k.tr k1.kq⟩⟩, fun z => absurd (show nI _ < nI 1000000 from nI_lt (by omega) (by omega)) z⟩
      · refine ⟨.int (-2), ?_, fun m k => ?_⟩
        · apply b_X11_jack
          rw [hr.1, hr.2.1]
          refine ⟨fun _ => ⟨fun _ => ⟨ht.at, hs.s.at, bcall cX (fun z => absurd z (by rw [decide_eq_false c]; decide)) fun _ m ⟨k1, k2⟩ => ⟨rfl, k1.kq⟩⟩, fun z => absurd rfl z⟩, fun z => absurd h z⟩
        · apply b_X12_jack
          refine ⟨fun _ => ⟨fun _ => icall (cM m k) ?_, fun z => absurd rfl z⟩, fun z => absurd (aM m) z⟩
          rintro m1 ⟨k1, k2⟩
          rw [if_neg c]
          exact ⟨fun z => absurd z (by decide), fun _ => ⟨rfl, k.tr k1.kq⟩⟩
    · by_cases hw : ∃ w, w < W ∧ b = nI (10 + w)
      · obtain ⟨w, hw1, rfl⟩ := id hw
        obtain ⟨g1, g2⟩ := (wood_X z5).mpr hw
        have e10 := nI10 w (by omega)
        have hus : usw W (lnV mm.1) (pcV mm.1) w (lf W (lnV mm.1) (pcV mm.1) n w) = usw W (lnV mm.1) (pcV mm.1) w (lf W (lnV mm.1) (pcV mm.1) n w) := rfl
        by_cases c : fw 1000 W (lnV mm.1) (pcV mm.1) W n < 1000
        · refine ⟨.int (nI (usw W (lnV mm.1) (pcV mm.1) w (lf W (lnV mm.1) (pcV mm.1) n w))), ?_, fun m k => ?_⟩
          · apply b_X11_jack
            rw [hr.1, hr.2.1]
            refine ⟨fun _ => ⟨fun z => absurd z hb0, fun _ => ⟨fun z => absurd z g1, fun _ => ⟨oW, fun _ => ⟨ht.at, hs.s.at, bcall cX (fun _ m ⟨k1, k2⟩ => ⟨fun _ => ⟨?_, ?_, k1.kq⟩, fun z => absurd z hb0⟩) fun z => absurd z (by rw [decide_eq_true c]; decide)⟩, fun z => absurd (iW.mpr g2) z⟩⟩⟩, fun z => absurd h z⟩
            · rw [e10]; exact vp_in_nI (by omega) (by omega)
            · rw [e10, nI_clamp (by omega), (k2 c).2 w hw1]
          · apply b_X12_jack
            rw [k.r162, n5']
            refine ⟨fun _ => ⟨fun z => absurd z hb0, fun _ => ⟨fun _ => icall (cM m k) ?_, fun z => absurd ((wood_M z5).mpr hw) z⟩⟩, fun z => absurd (aM m) z⟩
            rintro m1 ⟨k1, k2⟩
            rw [if_pos c]
            refine ⟨fun _ => ⟨fun _ => ⟨?_, ?_, k.tr k1.kq⟩, fun z => absurd z hb0⟩, fun z => absurd (show nI _ < nI 1000000 from nI_lt (by omega) (by omega)) z⟩
            · rw [e10]; exact vp_in_nI (by omega) (by omega)
            · rw [e10, nI_clamp (by omega), k2 c w hw1]
        · refine ⟨.int (-2), ?_, fun m k => ?_⟩
          · apply b_X11_jack
            rw [hr.1, hr.2.1]
            exact ⟨fun _ => ⟨fun z => absurd z hb0, fun _ => ⟨fun z => absurd z g1, fun _ => ⟨oW, fun _ => ⟨ht.at, hs.s.at, bcall cX (fun z => absurd z (by rw [decide_eq_false c]; decide)) fun _ m ⟨k1, k2⟩ => ⟨rfl, k1.kq⟩⟩, fun z => absurd (iW.mpr g2) z⟩⟩⟩, fun z => absurd h z⟩
          · apply b_X12_jack
            rw [k.r162, n5']
            refine ⟨fun _ => ⟨fun z => absurd z hb0, fun _ => ⟨fun _ => icall (cM m k) ?_, fun z => absurd ((wood_M z5).mpr hw) z⟩⟩, fun z => absurd (aM m) z⟩
            rintro m1 ⟨k1, k2⟩
            rw [if_neg c]
            exact ⟨fun z => absurd z (by decide), fun _ => ⟨rfl, k.tr k1.kq⟩⟩
      · refine ⟨.int (-1), ?_, fun m k => ?_⟩
        · apply b_X11_jack
          exact ⟨fun _ => ⟨fun z => absurd z hb0, fun _ => ⟨fun _ => ⟨rfl, rf⟩, fun g => ⟨oW, fun z => absurd ((wood_X z5).mp ⟨g, iW.mp z⟩) hw, fun _ => ⟨rfl, rf⟩⟩⟩⟩, fun z => absurd h z⟩
        · apply b_X12_jack
          rw [k.r162, n5']
          exact ⟨fun _ => ⟨fun z => absurd z hb0, fun _ => ⟨fun z => absurd ((wood_M z5).mp z) hw, fun _ => ⟨rfl, k⟩⟩⟩, fun z => absurd (aM m) z⟩
  · refine ⟨.int (-1), ?_, fun m k => ?_⟩
    · apply b_X11_jack
      exact ⟨fun z => absurd z h, fun _ => ⟨rfl, rf⟩⟩
    · apply b_X12_jack
      exact ⟨fun z => absurd z h, fun _ => ⟨rfl, k⟩⟩

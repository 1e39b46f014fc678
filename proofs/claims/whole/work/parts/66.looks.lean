/-! light and looks -/
theorem sd_lt {a b c d : Nat} (ha : a < 2 ^ 29) (hb : b < 2 ^ 29) (hc : c < 2 ^ 29) (hd : d < 2 ^ 29) : (nI a - nI b < nI c - nI d) ↔ a + d < c + b := by
  rw [Int32.lt_iff_toInt_lt, pk_sub_toInt (by omega) (by omega), pk_sub_toInt (by omega) (by omega)]
  omega
theorem sd_le0 {a b : Nat} (ha : a < 2 ^ 29) (hb : b < 2 ^ 29) : (nI a - nI b ≤ 0) ↔ a ≤ b := by
  rw [Int32.le_iff_toInt_le, pk_sub_toInt (by omega) (by omega), show (0 : Int32).toInt = 0 by decide]
  omega
theorem sd_0le {a b : Nat} (ha : a < 2 ^ 29) (hb : b < 2 ^ 29) : (0 ≤ nI a - nI b) ↔ b ≤ a := by
  rw [Int32.le_iff_toInt_le, pk_sub_toInt (by omega) (by omega), show (0 : Int32).toInt = 0 by decide]
  omega
theorem sd_neg {a b : Nat} (ha : a < 2 ^ 29) (hb : b < 2 ^ 29) : -(nI a - nI b) = nI b - nI a := by
  apply Int32.toInt_inj.mp
  have e := pk_sub_toInt (a := a) (b := b) (by omega) (by omega)
  rw [fb_negI (by rw [e]; omega), e, pk_sub_toInt (by omega) (by omega)]
  omega
theorem sd_abs {a b : Nat} (ha : a < 2 ^ 29) (hb : b < 2 ^ 29) : iabs (nI a - nI b) = nI (if b ≤ a then a - b else b - a) := by
  unfold iabs
  by_cases h : b ≤ a
  · rw [if_pos ((sd_0le ha hb).mpr h), if_pos h, s_sub h]
  · rw [if_neg (fun z => h ((sd_0le ha hb).mp z)), if_neg h]
    apply Int32.toInt_inj.mp
    have e := pk_sub_toInt (a := a) (b := b) (by omega) (by omega)
    have z0 : (0 : Int32).toInt = 0 := by decide
    rw [fb_subI (by rw [e, z0]; omega) (by rw [e, z0]; omega), e, z0, nI_toInt (by omega)]
    omega
def xN (c : Nat → Nat → Int32) (k : Nat) : Nat := (c 162 (20 + 3 * k)).toNatClampNeg
def hN (c : Nat → Nat → Int32) (k : Nat) : Nat := (c 163 (10 + k)).toNatClampNeg
theorem BodyR.xn {c : Nat → Nat → Int32} {t s H O S Qn W C J F B : Nat} (h : BodyR c t s H O S Qn W C J F B) : ∀ k, k < H → c 162 (20 + 3 * k) = nI (xN c k) ∧ xN c k ≤ 40 := by
  intro k hk
  obtain ⟨⟨x, hx, e⟩, -⟩ := h.1.2.2.2.1 k hk
  unfold xN
  rw [e, nI_clamp (by omega)]
  exact ⟨rfl, hx⟩
theorem BodyR.hn {c : Nat → Nat → Int32} {t s H O S Qn W C J F B : Nat} (h : BodyR c t s H O S Qn W C J F B) : ∀ k, k < 16 → c 163 (10 + k) = nI (hN c k) ∧ hN c k ≤ 99 := by
  intro k hk
  obtain ⟨x, hx, e⟩ := (h.2.1.hg k hk).1
  unfold hN
  rw [e, nI_clamp (by omega)]
  exact ⟨rfl, hx⟩
def blW (c : Nat → Nat → Int32) (h k : Nat) : Bool := decide (xN c k < xN c h ∧ hN c h + xN c h ≤ hN c k + xN c k)
def blE (c : Nat → Nat → Int32) (h k : Nat) : Bool := decide (xN c h < xN c k ∧ hN c h + xN c k ≤ hN c k + xN c h)
def litW (w e : Bool) : Nat := (bif w then 0 else 1) + (bif e then 0 else 2)
theorem lit_W (w e : Bool) : nI (litW w e) &&& (-2) = nI (litW true e) := by cases w <;> cases e <;> decide
theorem lit_E (w e : Bool) : nI (litW w e) &&& (-3) = nI (litW w true) := by cases w <;> cases e <;> decide
theorem st_light (a : Int32) : StepOK RR e_X11_light e_X12_light [.int a] := by
  apply step_q
  rintro mm ⟨t, s, H, O, S, Qn, W, C, J, F, B, ht, hs, hr, hb, -⟩
  obtain ⟨z1, z2, z3, z4, z5, z6, z7, z8, z9⟩ := hb.sz
  obtain ⟨n1, n2, n3, n4, n5, n6, n7, n8, n9⟩ := hb.nm
  obtain ⟨c1, c2, c3, c4, c5, c6, c7, c8, c9, c10⟩ := hb.nc
  have rf := Kp.rf (kp := kq) mm
  obtain ⟨o1, o2⟩ := isH_X (a := a) ht hr c1 z1
  by_cases hin : inR a H
  · obtain ⟨h, hh, rfl⟩ := id hin
    refine ⟨.int (nI (litW (anyV (blW mm.1 h) H) (anyV (blE mm.1 h) H))), ?_, fun m k => ?_⟩
    · apply b_X11_light
      rw [hr.1, hr.2.1]
      simp only [true_implies, false_implies, not_true, not_false_eq_true, not_false, implies_true, and_true, true_and, not_true_eq_false, forall_const, eq_self, o1, o2, hin]
      refine ⟨ht.at, hs.s.at, icall (V := nI (litW (anyV (blW mm.1 h) H) (anyV (blE mm.1 h) H))) (K := fun m => Kq mm m) ?_ fun m k => ⟨rfl, k⟩⟩
      apply b_X8_lightOf _ _ _ _ _ ht.at (AtState_1 hs.s.at)
      refine for_up (fun q => [(0, .ref t), (1, .ref (s + 1)), (2, .int (nI h)), (3, .int (nI (litW (anyV (blW mm.1 h) q) (anyV (blE mm.1 h) q)))), (4, .int (nI q))]) (fun q m => Kq mm m) H ?_ ?_ 0 _ (Nat.zero_le _) rf
      · intro m k
        apply b_X8_lightOf_5 _ _ _ _ _ _ _ ht.at (AtState_1 hs.s.at)
        simp (disch := omega) only [lin, nI_add, pk_mul, s_sub, s_addneg, s_leT, s_leF, s_ltT, s_ltF, s_eqF, s_inT, s_neF, s_neF', s_neE, s_nleT, s_nleF, s_nltF, s_nltT, eq_self, nI_clamp, s_wIk, s_wIo, pk_us, pk_un, Nat.reduceAdd, Nat.reduceMul, Nat.reduceSub, Nat.zero_add, Nat.add_zero, Nat.mul_zero, true_implies, false_implies, implies_true, not_true, not_false, and_true, true_and, not_true_eq_false, not_false_eq_true, forall_const, k.t0 ht, c1]
        exact k
      · intro q m hq k hn
        have hn2 := hn m k
        have e1 : anyV (blW mm.1 h) (q + 1) = (anyV (blW mm.1 h) q || blW mm.1 h q) := rfl
        have e2 : anyV (blE mm.1 h) (q + 1) = (anyV (blE mm.1 h) q || blE mm.1 h q) := rfl
        simp only [e1, e2] at hn2
        obtain ⟨x1, x2⟩ := hb.xn h hh
        obtain ⟨x3, x4⟩ := hb.xn q hq
        obtain ⟨y1, y2⟩ := hb.hn h (by omega)
        obtain ⟨y3, y4⟩ := hb.hn q (by omega)
        have f1 := (hb.hou h hh).2.2.2.2.trans x1
        have f2 := (hb.hou q hq).2.2.2.2.trans x3
        have f3 := (hb.hh h (by omega)).trans y1
        have f4 := (hb.hh q (by omega)).trans y3
        apply b_X8_lightOf_5 _ _ _ _ _ _ _ ht.at (AtState_1 hs.s.at)
        rw [k.t0 ht, c1, k.t1 ht, k.s hs.s 1 (by omega), nI_clamp (show q < 2 ^ 31 by omega), nI_clamp (show h < 2 ^ 31 by omega), f1, f2, f3, f4, nI_1 q]
        generalize hw : anyV (blW mm.1 h) q = w at *
        generalize he : anyV (blE mm.1 h) q = e at *
        clear hw he
        have b1 : blW mm.1 h q = decide (xN mm.1 q < xN mm.1 h ∧ hN mm.1 h + xN mm.1 h ≤ hN mm.1 q + xN mm.1 q) := rfl
        have b2 : blE mm.1 h q = decide (xN mm.1 h < xN mm.1 q ∧ hN mm.1 h + xN mm.1 q ≤ hN mm.1 q + xN mm.1 h) := rfl
        rw [b1, b2] at hn2
        clear b1 b2
        generalize xN mm.1 h = xh at *
        generalize xN mm.1 q = xk at *
        generalize hN mm.1 h = yh at *
        generalize hN mm.1 q = yk at *
        refine ⟨fun z => absurd z (nI_ge hq (by omega)), fun _ => ⟨vp_in_nI (by omega) (by omega), vp_in_nI (by omega) (by omega), vp_in_nI (by omega) (by omega), vp_in_nI (by omega) (by omega), ?_⟩⟩
        rw [nI_leI (by omega) (by omega), nI_leI (by omega) (by omega), sd_lt (by omega) (by omega) (by omega) (by omega), sd_lt (by omega) (by omega) (by omega) (by omega), lit_W, lit_E, lit_E]
        have v1 := vp_in_nI (n := h) (N := 16) (by omega) (by omega)
        have v2 := vp_in_nI (n := q) (N := 16) (by omega) (by omega)
        rcases Nat.lt_trichotomy xk xh with c | c | c
        · by_cases d : yk + xk < yh + xh
          · simp only [v1, v2, show ¬ xh ≤ xk from by omega, show xk ≤ xh from by omega, show yk + xk < xh + yh from by omega, not_true, not_false_eq_true, true_and, and_true, true_implies, false_implies, implies_true, forall_const]
            simp only [show ¬ (xk < xh ∧ yh + xh ≤ yk + xk) from by omega, show ¬ (xh < xk ∧ yh + xk ≤ yk + xh) from by omega, decide_false, Bool.or_false] at hn2
            exact hn2
          · simp only [v1, v2, show ¬ xh ≤ xk from by omega, show xk ≤ xh from by omega, show ¬ yk + xk < xh + yh from by omega, not_true, not_false_eq_true, true_and, and_true, true_implies, false_implies, implies_true, forall_const]
            simp only [show (xk < xh ∧ yh + xh ≤ yk + xk) from by omega, show ¬ (xh < xk ∧ yh + xk ≤ yk + xh) from by omega, decide_false, decide_true, and_self, Bool.or_false, Bool.or_true] at hn2
            exact hn2
        · simp only [v1, v2, show xh ≤ xk from by omega, show xk ≤ xh from by omega, not_true, not_false_eq_true, true_and, and_true, true_implies, false_implies, implies_true, forall_const]
          simp only [show ¬ (xk < xh ∧ yh + xh ≤ yk + xk) from by omega, show ¬ (xh < xk ∧ yh + xk ≤ yk + xh) from by omega, decide_false, Bool.or_false] at hn2
          exact hn2
        · by_cases d : yk + xh < yh + xk
          · simp only [v1, v2, show xh ≤ xk from by omega, show ¬ xk ≤ xh from by omega, show yk + xh < xk + yh from by omega, not_true, not_false_eq_true, true_and, and_true, true_implies, false_implies, implies_true, forall_const]
            simp only [show ¬ (xk < xh ∧ yh + xh ≤ yk + xk) from by omega, show ¬ (xh < xk ∧ yh + xk ≤ yk + xh) from by omega, decide_false, Bool.or_false] at hn2
            exact hn2
          · simp only [v1, v2, show xh ≤ xk from by omega, show ¬ xk ≤ xh from by omega, show ¬ yk + xh < xk + yh from by omega, not_true, not_false_eq_true, true_and, and_true, true_implies, false_implies, implies_true, forall_const]
            simp only [show ¬ (xk < xh ∧ yh + xh ≤ yk + xk) from by omega, show (xh < xk ∧ yh + xk ≤ yk + xh) from by omega, decide_false, decide_true, and_self, Bool.or_false, Bool.or_true] at hn2
            exact hn2
    · apply b_X12_light
      simp only [true_implies, false_implies, not_true, not_false_eq_true, not_false, implies_true, and_true, true_and, not_true_eq_false, forall_const, eq_self, isH_M ((k.g 162 0 rfl).trans n1) z1, hin]
      refine for_up (fun q => [(0, .ref 156), (1, .int (nI h)), (2, .int (bI (!anyV (blW mm.1 h) q))), (3, .int (bI (!anyV (blE mm.1 h) q))), (4, .int (nI q))]) (fun q m => Kq mm m) H ?_ ?_ 0 _ (Nat.zero_le _) k
      · intro m k
        apply b_X12_light_17
        rw [k.r162, n1]
        refine ⟨fun _ => ?_, fun z => absurd (nI_le (Nat.le_refl H) (by omega)) z⟩
        generalize anyV (blW mm.1 h) H = w
        generalize anyV (blE mm.1 h) H = e
        cases w <;> cases e
        · exact ⟨fun z => absurd (show (1 : Int32) = 0 from z) (by decide), fun _ => ⟨fun z => absurd (show (1 : Int32) = 0 from z) (by decide), fun _ => ⟨rfl, k⟩⟩⟩
        · exact ⟨fun z => absurd (show (1 : Int32) = 0 from z) (by decide), fun _ => ⟨fun _ => ⟨rfl, k⟩, fun z => absurd rfl z⟩⟩
        · exact ⟨fun _ => ⟨fun z => absurd (show (1 : Int32) = 0 from z) (by decide), fun _ => ⟨rfl, k⟩⟩, fun z => absurd rfl z⟩
        · exact ⟨fun _ => ⟨fun _ => ⟨rfl, k⟩, fun z => absurd rfl z⟩, fun z => absurd rfl z⟩
      · intro q m hq k hn
        have hn2 := hn m k
        have e1 : anyV (blW mm.1 h) (q + 1) = (anyV (blW mm.1 h) q || blW mm.1 h q) := rfl
        have e2 : anyV (blE mm.1 h) (q + 1) = (anyV (blE mm.1 h) q || blE mm.1 h q) := rfl
        simp only [e1, e2] at hn2
        obtain ⟨x1, x2⟩ := hb.xn h hh
        obtain ⟨x3, x4⟩ := hb.xn q hq
        obtain ⟨y1, y2⟩ := hb.hn h (by omega)
        obtain ⟨y3, y4⟩ := hb.hn q (by omega)
        apply b_X12_light_17
        rw [h_v k (show q < 16 by omega), h_v k (show h < 16 by omega), x_v k (show q < 16 by omega), x_v k (show h < 16 by omega), x1, x3, y1, y3, k.r162, n1, nI_1 q]
        generalize hw : anyV (blW mm.1 h) q = w at *
        generalize he : anyV (blE mm.1 h) q = e at *
        clear hw he
        have b1 : blW mm.1 h q = decide (xN mm.1 q < xN mm.1 h ∧ hN mm.1 h + xN mm.1 h ≤ hN mm.1 q + xN mm.1 q) := rfl
        have b2 : blE mm.1 h q = decide (xN mm.1 h < xN mm.1 q ∧ hN mm.1 h + xN mm.1 q ≤ hN mm.1 q + xN mm.1 h) := rfl
        rw [b1, b2] at hn2
        clear b1 b2
        generalize xN mm.1 h = xh at *
        generalize xN mm.1 q = xk at *
        generalize hN mm.1 h = yh at *
        generalize hN mm.1 q = yk at *
        refine ⟨fun z => absurd z (nI_ge hq (by omega)), fun _ => ⟨h_o (by omega), h_o (by omega), x_o (by omega), x_o (by omega), ?_⟩⟩
        rw [sd_neg (by omega) (by omega), sd_0le (by omega) (by omega), sd_le0 (by omega) (by omega), sd_lt (by omega) (by omega) (by omega) (by omega), sd_lt (by omega) (by omega) (by omega) (by omega)]
        rcases Nat.lt_trichotomy xk xh with c | c | c
        · by_cases d : yk + xk < yh + xh
          · simp only [show ¬ xh ≤ xk from by omega, show xk ≤ xh from by omega, show yk + xk < xh + yh from by omega, not_true, not_false_eq_true, true_and, and_true, true_implies, false_implies, implies_true, forall_const]
            simp only [show ¬ (xk < xh ∧ yh + xh ≤ yk + xk) from by omega, show ¬ (xh < xk ∧ yh + xk ≤ yk + xh) from by omega, decide_false, Bool.or_false] at hn2
            exact hn2
          · simp only [show ¬ xh ≤ xk from by omega, show xk ≤ xh from by omega, show ¬ yk + xk < xh + yh from by omega, not_true, not_false_eq_true, true_and, and_true, true_implies, false_implies, implies_true, forall_const]
            simp only [show (xk < xh ∧ yh + xh ≤ yk + xk) from by omega, show ¬ (xh < xk ∧ yh + xk ≤ yk + xh) from by omega, decide_false, decide_true, and_self, Bool.or_false, Bool.or_true] at hn2
            exact hn2
        · simp only [show xh ≤ xk from by omega, show xk ≤ xh from by omega, not_true, not_false_eq_true, true_and, and_true, true_implies, false_implies, implies_true, forall_const]
          simp only [show ¬ (xk < xh ∧ yh + xh ≤ yk + xk) from by omega, show ¬ (xh < xk ∧ yh + xk ≤ yk + xh) from by omega, decide_false, Bool.or_false] at hn2
          exact hn2
        · by_cases d : yk + xh < yh + xk
          · simp only [show xh ≤ xk from by omega, show ¬ xk ≤ xh from by omega, show yk + xh < xk + yh from by omega, not_true, not_false_eq_true, true_and, and_true, true_implies, false_implies, implies_true, forall_const]
            simp only [show ¬ (xk < xh ∧ yh + xh ≤ yk + xk) from by omega, show ¬ (xh < xk ∧ yh + xk ≤ yk + xh) from by omega, decide_false, Bool.or_false] at hn2
            exact hn2
          · simp only [show xh ≤ xk from by omega, show ¬ xk ≤ xh from by omega, show ¬ yk + xh < xk + yh from by omega, not_true, not_false_eq_true, true_and, and_true, true_implies, false_implies, implies_true, forall_const]
            simp only [show ¬ (xk < xh ∧ yh + xh ≤ yk + xk) from by omega, show (xh < xk ∧ yh + xk ≤ yk + xh) from by omega, decide_false, decide_true, and_self, Bool.or_false, Bool.or_true] at hn2
            exact hn2
  · refine ⟨.int (-1), ?_, fun m k => ?_⟩
    · apply b_X11_light
      simp only [true_implies, false_implies, not_true, not_false_eq_true, not_false, implies_true, and_true, true_and, not_true_eq_false, forall_const, eq_self, o1, o2, hin]
      exact rf
    · apply b_X12_light
      simp only [true_implies, false_implies, not_true, not_false_eq_true, not_false, implies_true, and_true, true_and, not_true_eq_false, forall_const, eq_self, isH_M ((k.g 162 0 rfl).trans n1) z1, hin]
      exact k

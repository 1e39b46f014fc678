/-! looks -/
def dN (x y : Nat) : Nat := if y ≤ x then x - y else y - x
theorem prod_b {x y : Int} (hx : -99 ≤ x ∧ x ≤ 99) (hy : -99 ≤ y ∧ y ≤ 99) : -9801 ≤ x * y ∧ x * y ≤ 9801 := by
  have h := Int.natAbs_mul x y
  have h1 : x.natAbs ≤ 99 := by omega
  have h2 : y.natAbs ≤ 99 := by omega
  have h3 : (x * y).natAbs ≤ 99 * 99 := by rw [h]; exact Nat.mul_le_mul h1 h2
  omega
theorem sd_mul {a b c d : Nat} (ha : a ≤ 99) (hb : b ≤ 99) (hc : c ≤ 99) (hd : d ≤ 99) : ((nI a - nI b) * (nI c - nI d)).toInt = ((a : Int) - b) * ((c : Int) - d) := by
  have e1 := pk_sub_toInt (a := a) (b := b) (by omega) (by omega)
  have e2 := pk_sub_toInt (a := c) (b := d) (by omega) (by omega)
  have h := prod_b (x := (a : Int) - b) (y := (c : Int) - d) (by omega) (by omega)
  rw [fb_mulI (by rw [e1, e2]; omega) (by rw [e1, e2]; omega), e1, e2]
theorem line_iff (hk ha hb xa p q : Nat) : (((hk : Int) - ha) * (((xa + p + q : Nat) : Int) - xa) < ((hb : Int) - ha) * (((xa + p : Nat) : Int) - xa)) ↔ hk * (p + q) < ha * q + hb * p := by
  have e1 : ((xa + p + q : Nat) : Int) - xa = (p : Int) + q := by omega
  have e2 : ((xa + p : Nat) : Int) - xa = (p : Int) := by omega
  rw [e1, e2, Int.sub_mul, Int.sub_mul, Int.mul_add, Int.mul_add]
  have n : (hk * (p + q) < ha * q + hb * p) ↔ ((hk * (p + q) : Nat) : Int) < ((ha * q + hb * p : Nat) : Int) := Int.ofNat_lt.symm
  rw [n]
  simp only [Int.natCast_add, Int.natCast_mul, Int.mul_add]
  omega
def btw (xk xa xb : Nat) : Bool := decide ((xa < xk ∧ xk < xb) ∨ (xb < xk ∧ xk < xa))
def blL (c : Nat → Nat → Int32) (a b k : Nat) : Bool := btw (xN c k) (xN c a) (xN c b) && decide (¬ hN c k * dN (xN c a) (xN c b) < hN c a * dN (xN c k) (xN c b) + hN c b * dN (xN c k) (xN c a))
theorem below_iff {mm m : MM} {a b k : Nat} (hm : Kq mm m) (ha : a < 16) (hb : b < 16) (hk : k < 16) {xa xb xk ya yb yk : Nat} (x1 : mm.1 162 (20 + 3 * a) = nI xa) (x2 : mm.1 162 (20 + 3 * b) = nI xb) (x3 : mm.1 162 (20 + 3 * k) = nI xk) (y1 : mm.1 163 (10 + a) = nI ya) (y2 : mm.1 163 (10 + b) = nI yb) (y3 : mm.1 163 (10 + k) = nI yk)
    (l1 : xa ≤ 40) (l2 : xb ≤ 40) (l3 : xk ≤ 40) (l4 : ya ≤ 99) (l5 : yb ≤ 99) (l6 : yk ≤ 99) (hbt : (xa < xk ∧ xk < xb) ∨ (xb < xk ∧ xk < xa)) (hab : a ≠ b) :
    o_X12_isBelow m (nI k) (nI a) (nI b) ∧ (p_X12_isBelow m (nI k) (nI a) (nI b) ↔ yk * dN xa xb < ya * dN xk xb + yb * dN xk xa) := by
  have hne : ¬ nI b = nI a := fun e => hab ((nI_eq (by omega) (by omega)).mp e).symm
  refine ⟨?_, ?_⟩
  · unfold o_X12_isBelow
    simp only [x_o ha, x_o hb, x_o hk, h_o ha, h_o hb, h_o hk, implies_true, and_true, true_and]
  · unfold p_X12_isBelow dN
    rw [x_v hm ha, x_v hm hb, x_v hm hk, h_v hm ha, h_v hm hb, h_v hm hk, x1, x2, x3, y1, y2, y3]
    rw [nI_leI (show xb < 2 ^ 31 by omega) (show xa < 2 ^ 31 by omega)]
    simp only [hne, not_false_eq_true, true_and, false_and, or_false, eq_self, not_true, false_or]
    rcases hbt with ⟨h1, h2⟩ | ⟨h1, h2⟩
    · rw [Int32.le_iff_toInt_le, Int32.le_iff_toInt_le, sd_mul (by omega) (by omega) (by omega) (by omega), sd_mul (by omega) (by omega) (by omega) (by omega), sd_mul (by omega) (by omega) (by omega) (by omega), sd_mul (by omega) (by omega) (by omega) (by omega)]
      simp only [show ¬ xb ≤ xa from by omega, show ¬ xb ≤ xk from by omega, show xa ≤ xk from by omega, not_false_eq_true, true_and, false_and, false_or, if_true, if_false]
      obtain ⟨p, rfl⟩ : ∃ p, xk = xa + p := ⟨xk - xa, by omega⟩
      obtain ⟨q, rfl⟩ : ∃ q, xb = xa + p + q := ⟨xb - (xa + p), by omega⟩
      have e := line_iff yk ya yb xa p q
      rw [show xa + p + q - xa = p + q from by omega, show xa + p + q - (xa + p) = q from by omega, show xa + p - xa = p from by omega, ← e]
      exact Int.not_le
    · rw [Int32.le_iff_toInt_le, Int32.le_iff_toInt_le, sd_mul (by omega) (by omega) (by omega) (by omega), sd_mul (by omega) (by omega) (by omega) (by omega), sd_mul (by omega) (by omega) (by omega) (by omega), sd_mul (by omega) (by omega) (by omega) (by omega)]
      simp only [show xb ≤ xa from by omega, show xb ≤ xk from by omega, show ¬ xa ≤ xk from by omega, not_true, true_and, false_and, or_false, if_true, if_false]
      obtain ⟨p, rfl⟩ : ∃ p, xk = xb + p := ⟨xk - xb, by omega⟩
      obtain ⟨q, rfl⟩ : ∃ q, xa = xb + p + q := ⟨xa - (xb + p), by omega⟩
      have e := line_iff yk yb ya xb p q
      rw [show xb + p + q - xb = p + q from by omega, show xb + p + q - (xb + p) = q from by omega, show xb + p - xb = p from by omega, Nat.add_comm (ya * p), ← e]
      exact Int.not_le
theorem bet_iff {m : MM} {xa xb xk : Nat} (l1 : xa ≤ 40) (l2 : xb ≤ 40) (l3 : xk ≤ 40) : p_X12_isBetween m (nI xk) (nI xa) (nI xb) ↔ btw xk xa xb = true := by
  unfold p_X12_isBetween btw
  rw [nI_leI (by omega) (by omega), nI_leI (by omega) (by omega), nI_leI (by omega) (by omega), nI_ltI (by omega) (by omega)]
  rw [decide_eq_true_iff]
  omega
theorem st_looks (a b : Int32) : StepOK RR e_X11_looks e_X12_looks [.int a, .int b] := by
  apply step_q
  rintro mm ⟨t, s, H, O, S, Qn, W, C, J, F, B, ht, hs, hr, hb, -⟩
  obtain ⟨z1, z2, z3, z4, z5, z6, z7, z8, z9⟩ := hb.sz
  obtain ⟨n1, n2, n3, n4, n5, n6, n7, n8, n9⟩ := hb.nm
  obtain ⟨c1, c2, c3, c4, c5, c6, c7, c8, c9, c10⟩ := hb.nc
  have rf := Kp.rf (kp := kq) mm
  obtain ⟨o1, o2⟩ := isH_X (a := a) ht hr c1 z1
  obtain ⟨o3, o4⟩ := isH_X (a := b) ht hr c1 z1
  have iM := fun (a : Int32) (m : MM) (k : Kq mm m) => isH_M (a := a) ((k.g 162 0 rfl).trans n1) z1
  by_cases hin : inR a H
  · by_cases hin2 : inR b H
    · by_cases hab : a = b
      · refine ⟨.int (-1), ?_, fun m k => ?_⟩
        · apply b_X11_looks
          simp only [true_implies, false_implies, not_true, not_false_eq_true, not_false, implies_true, and_true, true_and, not_true_eq_false, forall_const, eq_self, o1, o2, o3, o4, hin, hin2, eq_true hab]
          exact rf
        · apply b_X12_looks
          simp only [true_implies, false_implies, not_true, not_false_eq_true, not_false, implies_true, and_true, true_and, not_true_eq_false, forall_const, eq_self, iM a m k, iM b m k, hin, hin2, eq_true hab]
          exact k
      · obtain ⟨x, hx, rfl⟩ := id hin
        obtain ⟨y, hy, rfl⟩ := id hin2
        have hxy : x ≠ y := fun e => hab (by rw [e])
        obtain ⟨x1, x2⟩ := hb.xn x hx
        obtain ⟨x3, x4⟩ := hb.xn y hy
        obtain ⟨y1, y2⟩ := hb.hn x (by omega)
        obtain ⟨y3, y4⟩ := hb.hn y (by omega)
        have hsh := AtState_1 hs.s.at
        have g1 : ∀ m, Kq mm m → ∀ q, q < H → m.1 (t + 1) q = nI (xN mm.1 q) := fun m k q hq => by rw [k.t1 ht]; exact (hb.hou q hq).2.2.2.2.trans (hb.xn q hq).1
        have g2 : ∀ m, Kq mm m → ∀ q, q < 16 → m.1 (s + 1) q = nI (hN mm.1 q) := fun m k q hq => by rw [k.s hs.s 1 (by omega)]; exact (hb.hh q hq).trans (hb.hn q hq).1
        refine ⟨.int (bI (decide (hN mm.1 y < hN mm.1 x ∧ xN mm.1 x ≠ xN mm.1 y) && !anyV (blL mm.1 x y) H)), ?_, fun m k => ?_⟩
        · apply b_X11_looks
          rw [hr.1, hr.2.1]
          simp only [true_implies, false_implies, not_true, not_false_eq_true, not_false, implies_true, and_true, true_and, not_true_eq_false, forall_const, eq_self, o1, o2, o3, o4, hin, hin2, hab]
          refine ⟨ht.at, hs.s.at, bcall (b := decide (hN mm.1 y < hN mm.1 x ∧ xN mm.1 x ≠ xN mm.1 y) && !anyV (blL mm.1 x y) H) (K := fun m => Kq mm m) ?_ (fun e m k => ⟨by rw [e]; rfl, k⟩) (fun e m k => ⟨by rw [e]; rfl, k⟩)⟩
          apply b_X8_seesInto _ _ _ _ _ _ ht.at hsh
          rw [nI_clamp (show x < 2 ^ 31 by omega), nI_clamp (show y < 2 ^ 31 by omega), g1 mm rf x hx, g1 mm rf y hy, g2 mm rf x (by omega), g2 mm rf y (by omega)]
          have v1 := vp_in_nI (n := x) (N := 16) (by omega) (by omega)
          have v2 := vp_in_nI (n := y) (N := 16) (by omega) (by omega)
          refine ⟨v1, v2, fun z => ?_, fun z => ⟨v1, v2, fun w => ⟨v1, v2, ?_⟩, fun w => ?_⟩⟩
          · rw [nI_leI (by omega) (by omega)] at z
            rw [decide_eq_false (by omega)]
            exact ⟨rfl, rf⟩
          · rw [nI_leI (by omega) (by omega)] at z
            rw [nI_eq (by omega) (by omega)] at w
            rw [decide_eq_true ⟨by omega, w⟩, Bool.true_and]
            refine for_up (fun q => [(0, .ref t), (1, .ref (s + 1)), (2, .int (nI x)), (3, .int (nI y)), (4, .int (iabs (nI (xN mm.1 x) - nI (xN mm.1 y)))), (5, .int (nI q))]) (fun q m => Kq mm m ∧ anyV (blL mm.1 x y) q = false) H ?_ ?_ 0 _ (Nat.zero_le _) ⟨rf, rfl⟩
            · rintro m ⟨k, hno⟩
              apply b_X8_seesInto_47 _ _ _ _ _ _ _ _ ht.at hsh
              rw [k.t0 ht, c1, hno]
              exact ⟨fun _ => ⟨rfl, k⟩, fun z => absurd (nI_le (Nat.le_refl H) (by omega)) z⟩
            · rintro q m hq ⟨k, hno⟩ hn
              have v3 := vp_in_nI (n := q) (N := 16) (by omega) (by omega)
              have x6 := (hb.xn q hq).2
              have y6 := (hb.hn q (by omega)).2
              have eb : blL mm.1 x y q = (btw (xN mm.1 q) (xN mm.1 x) (xN mm.1 y) && decide (¬ hN mm.1 q * dN (xN mm.1 x) (xN mm.1 y) < hN mm.1 x * dN (xN mm.1 q) (xN mm.1 y) + hN mm.1 y * dN (xN mm.1 q) (xN mm.1 x))) := rfl
              have hS : anyV (blL mm.1 x y) (q + 1) = (anyV (blL mm.1 x y) q || blL mm.1 x y q) := rfl
              have hyes := anyV_yes (p := blL mm.1 x y) (k := q) (N := H)
              apply b_X8_seesInto_47 _ _ _ _ _ _ _ _ ht.at hsh
              rw [nI_clamp (show x < 2 ^ 31 by omega), nI_clamp (show y < 2 ^ 31 by omega), nI_clamp (show q < 2 ^ 31 by omega), g1 m k x hx, g1 m k y hy, g2 m k x (by omega), g2 m k y (by omega), g1 m k q hq, g2 m k q (by omega), k.t0 ht, c1, nI_1 q]
              rw [sd_abs (by omega) (by omega), sd_abs (by omega) (by omega), sd_abs (by omega) (by omega)]
              rw [sd_abs (by omega) (by omega)] at hn
              generalize anyV (blL mm.1 x y) H = bH at *
              have hn1 : blL mm.1 x y q = false → _ := fun e => hn m ⟨k, by rw [hS, hno, e]; rfl⟩
              have eD : ∀ u v, (if v ≤ u then u - v else v - u) = dN u v := fun u v => rfl
              simp only [eD] at hn1 ⊢
              rw [hno] at *
              clear hS
              rw [eb] at hn1 hyes
              clear eb hno hn
              generalize xN mm.1 x = xa at *
              generalize xN mm.1 y = xb at *
              generalize xN mm.1 q = xk at *
              generalize hN mm.1 x = ya at *
              generalize hN mm.1 y = yb at *
              generalize hN mm.1 q = yk at *
              have d1 : dN xk xa ≤ 40 := by unfold dN; split <;> omega
              have d2 : dN xk xb ≤ 40 := by unfold dN; split <;> omega
              have d3 : dN xa xb ≤ 40 := by unfold dN; split <;> omega
              have m1 : yk * dN xa xb ≤ 99 * 40 := Nat.mul_le_mul y6 d3
              have m2 : ya * dN xk xb ≤ 99 * 40 := Nat.mul_le_mul y2 d2
              have m3 : yb * dN xk xa ≤ 99 * 40 := Nat.mul_le_mul y4 d1
              have hbt : (0 < dN xk xa ∧ 0 < dN xk xb ∧ dN xk xa + dN xk xb = dN xa xb) ↔ btw xk xa xb = true := by
                unfold btw dN
                rw [decide_eq_true_iff]
                by_cases p1 : xa ≤ xk <;> by_cases p2 : xb ≤ xk <;> by_cases p3 : xb ≤ xa <;> simp only [p1, p2, p3, if_true, if_false] <;> omega
              rw [pk_mul, pk_mul, pk_mul, nI_add, nI_add, nI_ltI (by omega) (by omega), nI_eq (by omega) (by omega), show (0 : Int32) = nI 0 from rfl, nI_leI (by omega) (by omega), nI_leI (by omega) (by omega), nI_leI (by omega) (by omega)]
              refine ⟨fun z => absurd z (by omega), fun _ => ⟨v3, v1, v3, v2, fun p1 => ⟨v1, v2, hn1 ?_⟩, fun p1 => ⟨fun p2 => ⟨v1, v2, hn1 ?_⟩, fun p2 => ⟨fun p3 => ⟨v1, v2, hn1 ?_⟩, fun p3 => ⟨v1, v2, v3, fun p4 => hn1 ?_, fun p4 => ?_⟩⟩⟩⟩⟩
              · rw [show btw xk xa xb = false from Bool.eq_false_iff.mpr (fun e => by have := hbt.mpr e; omega)]; rfl
              · rw [show btw xk xa xb = false from Bool.eq_false_iff.mpr (fun e => by have := hbt.mpr e; omega)]; rfl
              · rw [show btw xk xa xb = false from Bool.eq_false_iff.mpr (fun e => by have := hbt.mpr e; omega)]; rfl
              · rw [decide_eq_false (fun z => z p4), Bool.and_false]
              · have e := hyes (by rw [hbt.mp ⟨by omega, by omega, p3⟩, decide_eq_true p4]; rfl) hq
                rw [e]
                exact ⟨rfl, k⟩
          · rw [nI_eq (by omega) (by omega)] at w
            rw [decide_eq_false (fun z => z.2 w)]
            exact ⟨rfl, rf⟩
        · apply b_X12_looks
          simp only [true_implies, false_implies, not_true, not_false_eq_true, not_false, implies_true, and_true, true_and, not_true_eq_false, forall_const, eq_self, iM (nI x) m k, iM (nI y) m k, hin, hin2, hab]
          rw [h_v k (show x < 16 by omega), h_v k (show y < 16 by omega), x_v k (show x < 16 by omega), x_v k (show y < 16 by omega), x1, x3, y1, y3]
          refine ⟨h_o (by omega), h_o (by omega), fun z => ?_, fun z => ⟨x_o (by omega), x_o (by omega), fun w => ?_, fun w => ?_⟩⟩
          · rw [nI_leI (by omega) (by omega)] at z
            rw [decide_eq_false (by omega)]
            exact ⟨rfl, k⟩
          · rw [nI_leI (by omega) (by omega)] at z
            rw [nI_eq (by omega) (by omega)] at w
            rw [decide_eq_true ⟨by omega, w⟩, Bool.true_and]
            refine for_up (fun q => [(0, .ref 156), (1, .int (nI x)), (2, .int (nI y)), (3, .int (nI q))]) (fun q m => Kq mm m ∧ anyV (blL mm.1 x y) q = false) H ?_ ?_ 0 _ (Nat.zero_le _) ⟨k, rfl⟩
            · rintro m ⟨k, hno⟩
              apply b_X12_looks_53
              rw [k.r162, n1, hno]
              exact ⟨fun _ => ⟨rfl, k⟩, fun z => absurd (nI_le (Nat.le_refl H) (by omega)) z⟩
            · rintro q m hq ⟨k, hno⟩ hn
              obtain ⟨x5, x6⟩ := hb.xn q hq
              obtain ⟨y5, y6⟩ := hb.hn q (by omega)
              have eb : blL mm.1 x y q = (btw (xN mm.1 q) (xN mm.1 x) (xN mm.1 y) && decide (¬ hN mm.1 q * dN (xN mm.1 x) (xN mm.1 y) < hN mm.1 x * dN (xN mm.1 q) (xN mm.1 y) + hN mm.1 y * dN (xN mm.1 q) (xN mm.1 x))) := rfl
              have hS : anyV (blL mm.1 x y) (q + 1) = (anyV (blL mm.1 x y) q || blL mm.1 x y q) := rfl
              have hyes := anyV_yes (p := blL mm.1 x y) (k := q) (N := H)
              apply b_X12_looks_53
              rw [x_v k (show x < 16 by omega), x_v k (show y < 16 by omega), x_v k (show q < 16 by omega), x1, x3, x5, k.r162, n1, nI_1 q, bet_iff x2 x4 x6]
              refine ⟨fun z => absurd z (nI_ge hq (by omega)), fun _ => ⟨x_o (by omega), x_o (by omega), x_o (by omega), fun p => ?_, fun p => ?_⟩⟩
              · have hbt : (xN mm.1 x < xN mm.1 q ∧ xN mm.1 q < xN mm.1 y) ∨ (xN mm.1 y < xN mm.1 q ∧ xN mm.1 q < xN mm.1 x) := of_decide_eq_true p
                obtain ⟨q1, q2⟩ := below_iff k (show x < 16 by omega) (show y < 16 by omega) (show q < 16 by omega) x1 x3 x5 y1 y3 y5 x2 x4 x6 y2 y4 y6 hbt hxy
                rw [q2]
                refine ⟨q1, fun d => hn m ⟨k, ?_⟩, fun d => ?_⟩
                · rw [hS, hno, eb, decide_eq_false (fun z => z d), Bool.and_false]; rfl
                · have e := hyes (by rw [eb, p, decide_eq_true d]; rfl) hq
                  rw [e]
                  exact ⟨rfl, k⟩
              · refine hn m ⟨k, ?_⟩
                rw [hS, hno, eb, Bool.eq_false_iff.mpr p]; rfl
          · rw [nI_eq (by omega) (by omega)] at w
            rw [decide_eq_false (fun z => z.2 w)]
            exact ⟨rfl, k⟩
    · refine ⟨.int (-1), ?_, fun m k => ?_⟩
      · apply b_X11_looks
        simp only [true_implies, false_implies, not_true, not_false_eq_true, not_false, implies_true, and_true, true_and, not_true_eq_false, forall_const, eq_self, o1, o2, o3, o4, hin, hin2]
        exact rf
      · apply b_X12_looks
        simp only [true_implies, false_implies, not_true, not_false_eq_true, not_false, implies_true, and_true, true_and, not_true_eq_false, forall_const, eq_self, iM a m k, iM b m k, hin, hin2]
        exact k
  · refine ⟨.int (-1), ?_, fun m k => ?_⟩
    · apply b_X11_looks
      simp only [true_implies, false_implies, not_true, not_false_eq_true, not_false, implies_true, and_true, true_and, not_true_eq_false, forall_const, eq_self, o1, o2, hin]
      exact rf
    · apply b_X12_looks
      simp only [true_implies, false_implies, not_true, not_false_eq_true, not_false, implies_true, and_true, true_and, not_true_eq_false, forall_const, eq_self, iM a m k, hin]
      exact k

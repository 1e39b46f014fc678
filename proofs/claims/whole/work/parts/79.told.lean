/-! work, vote, mark, annul -/
theorem in99 (m : MM) (x : Int32) : (p_X11_within m x (-99) 99 ↔ p_X12_isIn m x (-99) 99) := Iff.rfl
theorem inches_of {m : MM} {x : Int32} (h : p_X11_within m x (-99) 99) (h0 : ¬ x = 0) : ∃ d : Nat, 1 ≤ d ∧ d ≤ 99 ∧ (x = nI d ∨ x = -nI d) := by
  obtain ⟨h1, h2⟩ := h
  rw [Int32.lt_iff_toInt_lt] at h1 h2
  have e1 : (-99 : Int32).toInt = -99 := by decide
  have e2 : (99 : Int32).toInt = 99 := by decide
  rw [e1] at h1
  rw [e2] at h2
  have hz : x.toInt ≠ 0 := fun e => h0 (Int32.toInt_inj.mp (e.trans (by decide)))
  rcases Int.lt_or_le x.toInt 0 with q | q
  · refine ⟨x.toInt.natAbs, by omega, by omega, Or.inr (Int32.toInt_inj.mp ?_)⟩
    rw [nI_toIntN (by omega)]
    omega
  · refine ⟨x.toInt.natAbs, by omega, by omega, Or.inl (Int32.toInt_inj.mp ?_)⟩
    rw [nI_toInt (by omega)]
    omega
theorem st_work (a b d : Int32) : StepOK RR e_X11_work e_X12_work [.int a, .int b, .int d] := by
  apply step_c
  rintro mm ⟨t, s, H, O, S, Qn, W, C, J, F, B, ht, hs, hr, hb, hl⟩
  obtain ⟨z1, z2, z3, z4, z5, z6, z7, z8, z9⟩ := hb.sz
  obtain ⟨n1, n2, n3, n4, n5, n6, n7, n8, n9⟩ := hb.nm
  obtain ⟨c1, c2, c3, c4, c5, c6, c7, c8, c9, c10⟩ := hb.nc
  have rf := Kp.rf (kp := kq) mm
  have hs' : s = 24 ∨ s = 114 := hs
  have ht' : t = 10 ∨ t = 100 := ht
  obtain ⟨o1, o2⟩ := isH_X (a := b) ht hr c1 z1
  have hR : RR mm := ⟨t, s, H, O, S, Qn, W, C, J, F, B, ht, hs, hr, hb, hl⟩
  obtain ⟨n, hn, e1, e2, e3⟩ := hb.2.1.2.2.2.2.2.1
  have e1 : mm.1 163 1 = nI n := e1
  have refuse : (inR a 100 → inR b H → ¬ d = 0 → p_X11_within mm d (-99) 99 → n = 40) → ∃ (V : Value) (mX mM : MM), Runs e_X11_work [.ref 0, .int a, .int b, .int d] mm (fun r m => r = V ∧ Kq mX m) ∧ (∀ m, Kq mX m → Runs e_X12_work [.ref 156, .int a, .int b, .int d] m (fun r m' => r = V ∧ Kq mM m')) ∧ RR mM := by
    intro hno
    refine ⟨.int (-1), mm, mm, ?_, fun m k => ?_, hR⟩
    · apply b_X11_work
      refine ⟨fun p1 => ⟨o1, fun p2 => ⟨fun _ => ⟨rfl, rf⟩, fun p3 => ⟨fun p4 => ?_, fun _ => ⟨rfl, rf⟩⟩⟩, fun _ => ⟨rfl, rf⟩⟩, fun _ => ⟨rfl, rf⟩⟩
      have := hno ((w99_X _ _).mp p1) (o2.mp p2) p3 p4
      subst this
      rw [hr.2.1]
      refine ⟨hs.s.at, icall (V := -1) (K := fun m => Kq mm m) ?_ fun m k => ⟨rfl, k⟩⟩
      apply b_X6_tellWork _ _ _ _ _ _ hs.s.at
      rw [e2]
      exact ⟨fun _ => ⟨rfl, rf⟩, fun _ => ⟨fun z => absurd z (by decide), fun _ => ⟨rfl, rf⟩⟩⟩
    · have em : m.1 163 1 = nI n := by rw [k.r163]; exact e1
      have iM := isH_M (m := m) (a := b) ((k.g 162 0 rfl).trans n1) z1
      apply b_X12_work
      refine ⟨fun _ => ⟨rfl, k⟩, fun q => ⟨fun p1 => ⟨fun p2 => ⟨fun p3 => ⟨fun p4 => ?_, fun _ => ⟨rfl, k⟩⟩, fun _ => ⟨rfl, k⟩⟩, fun _ => ⟨rfl, k⟩⟩, fun _ => ⟨rfl, k⟩⟩⟩
      have := hno ((isIn_M _ _).mp p1) (iM.mp p2) p4 p3
      rw [em, this] at q
      exact absurd rfl q
  by_cases h1 : inR a 100
  · by_cases h2 : inR b H
    · by_cases h3 : d = 0
      · exact refuse (fun _ _ z => absurd h3 z)
      · by_cases h4 : p_X11_within mm d (-99) 99
        · by_cases h5 : n = 40
          · exact refuse (fun _ _ _ _ => h5)
          · obtain ⟨g, hg, rfl⟩ := id h1
            obtain ⟨x, hx, rfl⟩ := id h2
            have hd := inches_of h4 h3
            refine ⟨.int (nI n), wI (wI (wI (wI mm (s + 4) n (nI g)) (s + 5) n (nI x)) (s + 6) n d) s 7 (nI (n + 1)), wI (wI (wI (wI (wI (wI (wI (wI mm (s + 4) n (nI g)) (s + 5) n (nI x)) (s + 6) n d) s 7 (nI (n + 1))) 163 (60 + 3 * n) (nI g)) 163 (60 + 3 * n + 1) (nI x)) 163 (60 + 3 * n + 2) d) 163 1 (nI (n + 1)), ?_, fun m k => ?_, ?_⟩
            · apply b_X11_work
              rw [hr.2.1]
              refine ⟨fun _ => ⟨o1, fun _ => ⟨fun z => absurd z h3, fun _ => ⟨fun _ => ?_, fun z => absurd h4 z⟩⟩, fun z => absurd (o2.mpr h2) z⟩, fun z => absurd ((w99_X _ _).mpr h1) z⟩
              refine ⟨hs.s.at, icall (V := nI n) (K := fun m => Kq (wI (wI (wI (wI mm (s + 4) n (nI g)) (s + 5) n (nI x)) (s + 6) n d) s 7 (nI (n + 1))) m) ?_ fun m k => ⟨rfl, k⟩⟩
              apply b_X6_tellWork _ _ _ _ _ _ hs.s.at
              simp (disch := omega) only [s_wIo, e2, nI_clamp, nI_1, s_wIk, pk_us]
              refine ⟨fun z => absurd z (nI_pos (by omega)), fun _ => ⟨fun _ => ⟨vp_in_nI (by omega) (by omega), vp_in_nI (by omega) (by omega), vp_in_nI (by omega) (by omega), ?_, Kp.rf _⟩, fun z => absurd (show nI n < (40 : Int32) from nI_lt (b := 40) (by omega) (by omega)) z⟩⟩
              rw [nI_pred]
            · have em : m.1 163 1 = nI n := by rw [k.r163]; simp (disch := omega) only [s_wIo]; exact e1
              have e162 : m.1 162 0 = nI H := by rw [k.r162]; simp (disch := omega) only [s_wIo]; exact n1
              have iM := isH_M (m := m) (a := nI x) e162 z1
              apply b_X12_work
              rw [em]
              have i1 : ((60 : Int32) + 3 * nI n).toNatClampNeg = 60 + 3 * n := by simp (disch := omega) only [lin, nI_add, pk_mul, s_sub, s_addneg, s_leT, s_leF, s_ltT, s_ltF, s_eqF, s_inT, s_neF, s_neF', s_neE, s_nleT, s_nleF, s_nltF, s_nltT, eq_self, nI_clamp, s_wIk, s_wIo, pk_us, pk_un, Nat.reduceAdd, Nat.reduceMul, Nat.reduceSub, Nat.zero_add, Nat.add_zero, Nat.mul_zero, true_implies, false_implies, implies_true, not_true, not_false, and_true, true_and, not_true_eq_false, not_false_eq_true, forall_const]
              have i2 : ((60 : Int32) + 3 * nI n + 1).toNatClampNeg = 60 + 3 * n + 1 := by simp (disch := omega) only [lin, nI_add, pk_mul, s_sub, s_addneg, s_leT, s_leF, s_ltT, s_ltF, s_eqF, s_inT, s_neF, s_neF', s_neE, s_nleT, s_nleF, s_nltF, s_nltT, eq_self, nI_clamp, s_wIk, s_wIo, pk_us, pk_un, Nat.reduceAdd, Nat.reduceMul, Nat.reduceSub, Nat.zero_add, Nat.add_zero, Nat.mul_zero, true_implies, false_implies, implies_true, not_true, not_false, and_true, true_and, not_true_eq_false, not_false_eq_true, forall_const]
              have i3 : ((60 : Int32) + 3 * nI n + 2).toNatClampNeg = 60 + 3 * n + 2 := by simp (disch := omega) only [lin, nI_add, pk_mul, s_sub, s_addneg, s_leT, s_leF, s_ltT, s_ltF, s_eqF, s_inT, s_neF, s_neF', s_neE, s_nleT, s_nleF, s_nltF, s_nltT, eq_self, nI_clamp, s_wIk, s_wIo, pk_us, pk_un, Nat.reduceAdd, Nat.reduceMul, Nat.reduceSub, Nat.zero_add, Nat.add_zero, Nat.mul_zero, true_implies, false_implies, implies_true, not_true, not_false, and_true, true_and, not_true_eq_false, not_false_eq_true, forall_const]
              have v1 : vp_in ((60 : Int32) + 3 * nI n) 1260 := by simp (disch := omega) only [lin, nI_add, pk_mul, s_sub, s_addneg, s_leT, s_leF, s_ltT, s_ltF, s_eqF, s_inT, s_neF, s_neF', s_neE, s_nleT, s_nleF, s_nltF, s_nltT, eq_self, nI_clamp, s_wIk, s_wIo, pk_us, pk_un, Nat.reduceAdd, Nat.reduceMul, Nat.reduceSub, Nat.zero_add, Nat.add_zero, Nat.mul_zero, true_implies, false_implies, implies_true, not_true, not_false, and_true, true_and, not_true_eq_false, not_false_eq_true, forall_const]
              have v2 : vp_in ((60 : Int32) + 3 * nI n + 1) 1260 := by simp (disch := omega) only [lin, nI_add, pk_mul, s_sub, s_addneg, s_leT, s_leF, s_ltT, s_ltF, s_eqF, s_inT, s_neF, s_neF', s_neE, s_nleT, s_nleF, s_nltF, s_nltT, eq_self, nI_clamp, s_wIk, s_wIo, pk_us, pk_un, Nat.reduceAdd, Nat.reduceMul, Nat.reduceSub, Nat.zero_add, Nat.add_zero, Nat.mul_zero, true_implies, false_implies, implies_true, not_true, not_false, and_true, true_and, not_true_eq_false, not_false_eq_true, forall_const]
              have v3 : vp_in ((60 : Int32) + 3 * nI n + 2) 1260 := by simp (disch := omega) only [lin, nI_add, pk_mul, s_sub, s_addneg, s_leT, s_leF, s_ltT, s_ltF, s_eqF, s_inT, s_neF, s_neF', s_neE, s_nleT, s_nleF, s_nltF, s_nltT, eq_self, nI_clamp, s_wIk, s_wIo, pk_us, pk_un, Nat.reduceAdd, Nat.reduceMul, Nat.reduceSub, Nat.zero_add, Nat.add_zero, Nat.mul_zero, true_implies, false_implies, implies_true, not_true, not_false, and_true, true_and, not_true_eq_false, not_false_eq_true, forall_const]
              rw [i1, i2, i3]
              refine ⟨fun z => absurd ((nI_eq (b := 40) (by omega) (by omega)).mp z) h5, fun _ => ⟨fun _ => ⟨fun _ => ⟨fun _ => ⟨fun _ => ⟨v1, v2, v3, ?_⟩, fun z => absurd z h3⟩, fun z => absurd h4 z⟩, fun z => absurd (iM.mpr h2) z⟩, fun z => absurd ((isIn_M _ _).mpr h1) z⟩⟩
              have em3 : (wI (wI (wI m 163 (60 + 3 * n) (nI g)) 163 (60 + 3 * n + 1) (nI x)) 163 (60 + 3 * n + 2) d).1 163 1 = nI n := by
                rw [wI_k, pk_un (by omega), wI_k, pk_un (by omega), wI_k, pk_un (by omega)]; exact em
              rw [em3, nI_1]
              refine ⟨?_, (((k.bI _ _ _).bI _ _ _).bI _ _ _).bI _ _ _⟩
              rw [wI_k, pk_us, nI_pred]
            · have f : ∀ a, a ≠ s → a ≠ s + 4 → a ≠ s + 5 → a ≠ s + 6 → a ≠ 163 → (wI (wI (wI (wI (wI (wI (wI (wI mm (s + 4) n (nI g)) (s + 5) n (nI x)) (s + 6) n d) s 7 (nI (n + 1))) 163 (60 + 3 * n) (nI g)) 163 (60 + 3 * n + 1) (nI x)) 163 (60 + 3 * n + 2) d) 163 1 (nI (n + 1))).1 a = mm.1 a := fun a h1 h2 h3 h4 h5 => by rw [wI_o h5, wI_o h5, wI_o h5, wI_o h5, wI_o h1, wI_o h4, wI_o h3, wI_o h2]
              have g1 : ∀ j, (wI (wI (wI (wI (wI (wI (wI (wI mm (s + 4) n (nI g)) (s + 5) n (nI x)) (s + 6) n d) s 7 (nI (n + 1))) 163 (60 + 3 * n) (nI g)) 163 (60 + 3 * n + 1) (nI x)) 163 (60 + 3 * n + 2) d) 163 1 (nI (n + 1))).1 163 j = upd (upd (upd (upd (mm.1 163) (60 + 3 * n) (nI g)) (60 + 3 * n + 1) (nI x)) (60 + 3 * n + 2) d) 1 (nI (n + 1)) j := fun j => by
                rw [wI_k, wI_k, wI_k, wI_k]
                simp (disch := omega) only [s_wIo]
              have gg : ∀ j, j ≠ 1 → (j < 60 + 3 * n ∨ 60 + 3 * n + 3 ≤ j) → (wI (wI (wI (wI (wI (wI (wI (wI mm (s + 4) n (nI g)) (s + 5) n (nI x)) (s + 6) n d) s 7 (nI (n + 1))) 163 (60 + 3 * n) (nI g)) 163 (60 + 3 * n + 1) (nI x)) 163 (60 + 3 * n + 2) d) 163 1 (nI (n + 1))).1 163 j = mm.1 163 j := fun j h1 h2 => by
                rw [g1, pk_un h1, pk_un (by omega), pk_un (by omega), pk_un (by omega)]
              have r0 : ∀ j, (wI (wI (wI (wI (wI (wI (wI (wI mm (s + 4) n (nI g)) (s + 5) n (nI x)) (s + 6) n d) s 7 (nI (n + 1))) 163 (60 + 3 * n) (nI g)) 163 (60 + 3 * n + 1) (nI x)) 163 (60 + 3 * n + 2) d) 163 1 (nI (n + 1))).1 s j = upd (mm.1 s) 7 (nI (n + 1)) j := fun j => by
                simp (disch := omega) only [s_wIo, s_wIk]
              have r4 : ∀ j, (wI (wI (wI (wI (wI (wI (wI (wI mm (s + 4) n (nI g)) (s + 5) n (nI x)) (s + 6) n d) s 7 (nI (n + 1))) 163 (60 + 3 * n) (nI g)) 163 (60 + 3 * n + 1) (nI x)) 163 (60 + 3 * n + 2) d) 163 1 (nI (n + 1))).1 (s + 4) j = upd (mm.1 (s + 4)) n (nI g) j := fun j => by
                simp (disch := omega) only [s_wIo, s_wIk]
              have r5 : ∀ j, (wI (wI (wI (wI (wI (wI (wI (wI mm (s + 4) n (nI g)) (s + 5) n (nI x)) (s + 6) n d) s 7 (nI (n + 1))) 163 (60 + 3 * n) (nI g)) 163 (60 + 3 * n + 1) (nI x)) 163 (60 + 3 * n + 2) d) 163 1 (nI (n + 1))).1 (s + 5) j = upd (mm.1 (s + 5)) n (nI x) j := fun j => by
                simp (disch := omega) only [s_wIo, s_wIk]
              have r6 : ∀ j, (wI (wI (wI (wI (wI (wI (wI (wI mm (s + 4) n (nI g)) (s + 5) n (nI x)) (s + 6) n d) s 7 (nI (n + 1))) 163 (60 + 3 * n) (nI g)) 163 (60 + 3 * n + 1) (nI x)) 163 (60 + 3 * n + 2) d) 163 1 (nI (n + 1))).1 (s + 6) j = upd (mm.1 (s + 6)) n d j := fun j => by
                simp (disch := omega) only [s_wIo, s_wIk]
              obtain ⟨w1, w2, w3, w4, w5, w6, w7⟩ := hb.2.1
              refine RR_live ht hs hr hb hl rfl (fun a _ h => f a (by omega) (by omega) (by omega) (by omega) h) (fun j _ => gg _ (by omega) (by omega)) ⟨lvM (by rw [r0, pk_un (by decide)]) (gg _ (by omega) (by omega)) w1, lvH (f _ (by omega) (by omega) (by omega) (by omega) (by omega)) (fun j _ _ => gg _ (by omega) (by omega)) w2, lvO (f _ (by omega) (by omega) (by omega) (by omega) (by omega)) (fun j _ _ => gg _ (by omega) (by omega)) w3, lvD (fun j _ _ => gg _ (by omega) (by omega)) w4, lvW z5 (f _ (by omega) (by omega) (by omega) (by omega) (by omega)) (fun j _ _ => gg _ (by omega) (by omega)) w5, ⟨n + 1, by omega, ?_, by rw [r0, pk_us], fun i hi => ?_⟩, lvL (by rw [f _ (by omega) (by omega) (by omega) (by omega) (by omega)]) (fun i _ => ⟨by rw [f _ (by omega) (by omega) (by omega) (by omega) (by omega)], by rw [f _ (by omega) (by omega) (by omega) (by omega) (by omega)], by rw [f _ (by omega) (by omega) (by omega) (by omega) (by omega)], by rw [f _ (by omega) (by omega) (by omega) (by omega) (by omega)]⟩) (fun j _ => gg _ (by omega) (by omega)) w7⟩
              · rw [Nat.zero_add, g1, pk_us]
              · by_cases c : i = n
                · subst c
                  refine ⟨?_, ?_, ?_, ?_⟩
                  · obtain ⟨dd, q1, q2, q3⟩ := hd
                    refine ⟨g, x, dd, by omega, hx, q1, q2, ?_, ?_, ?_⟩
                    · rw [Nat.zero_add, g1, pk_un (by omega), pk_un (by omega), pk_un (by omega), pk_us]
                    · rw [Nat.zero_add, g1, pk_un (by omega), pk_un (by omega), pk_us]
                    · rw [Nat.zero_add, g1, pk_un (by omega), pk_us]; exact q3
                  · rw [Nat.zero_add, g1, pk_un (by omega), pk_un (by omega), pk_un (by omega), pk_us, r4, pk_us]
                  · rw [Nat.zero_add, g1, pk_un (by omega), pk_un (by omega), pk_us, r5, pk_us]
                  · rw [Nat.zero_add, g1, pk_un (by omega), pk_us, r6, pk_us]
                · refine work_fr (show i < 40 by omega) ⟨by rw [r4, pk_un c], by rw [r5, pk_un c], by rw [r6, pk_un c]⟩ (fun j h1 h2 => gg _ (by omega) (by omega)) (e3 i (by omega))
        · exact refuse (fun _ _ _ z => absurd z h4)
    · exact refuse (fun _ z => absurd z h2)
  · exact refuse (fun z => absurd z h1)

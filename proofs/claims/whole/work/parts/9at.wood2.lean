/-! reading: a piece of wood, both sides -/
section
variable {x v : MM} {M a : Nat} {K ts : Nat → Nat}
theorem NJ.mix {x' v' : MM} {H O : Nat} (h : NJ x v M K H O) (h2 : x'.2 = x.2) (h3 : x'.1 3 = x.1 3) (h11 : x'.1 1 11 = x.1 1 11) (hl : x'.1 1 9 = 0 → x.1 1 9 = 0) (g2 : v'.2 = v.2) (g25 : v'.1 156 25 = v.1 156 25) (g6 : v'.1 176 = v.1 176) (g7 : v'.1 177 = v.1 177) : NJ x' v' M K H O := by
  obtain ⟨b, own, h1, h4, h5, h6, h7⟩ := h
  refine ⟨b, own, h1, h11.trans h4, g25.trans h5, ?_, fun hz => ?_⟩
  · rw [h2, g2, h3, g6, g7]
    exact h6
  · rw [h2]
    exact h7 (hl hz)
theorem woodJ {rt rs : Nat} (h : RC x v M K ts a) (hk : K a = 5) (hI : INV x v M K rt rs a) : StmtR e_X4_readWood e_X12_tellWood [] [] x v M K ts rt rs a := by
  obtain ⟨H, O, I, S, Qn, W, F, B, sz, fr, f, hD, hT⟩ := hI
  obtain ⟨⟨⟨r1, ht⟩, r2, hs⟩, ⟨l1, l2, l3, l4, l5, l6⟩, ⟨c1, c2, c3, c4, c5, c6, c7, c8⟩, ⟨m1, m2, m3, m4, m5, m6, m7, m8⟩, ⟨s1, s2, s3, s4, s5, s6, s7⟩, hN⟩ := hD
  obtain ⟨hrt, hrs⟩ := isN.ne ht hs
  have hHO : H ≤ 16 ∧ O ≤ 12 := by
    obtain ⟨-, -, z, -⟩ := hN
    exact z
  have m4' := h.1.2.2.1.2.1
  obtain ⟨ok1, X1, V1, t1, fx1, e9, J1, g1, ⟨u1, u2, u3, u4⟩, mdl1⟩ := firstJ (q := 5) (n := W) (most := 8) (base := 170) (step := 2) h hk (by decide) (by decide) l4 (by decide) (by decide) (by decide) m6
  have vf1 : VF v V1 := ⟨by rw [u1], fun r _ => by rw [u1], fun r q1 q2 _ _ => u2 r q1 q2, fun y hy => u3 y (by omega), fun j hj => u4 j (by omega), fun i _ => by rw [u2 165 (by decide) (by decide), u2 166 (by decide) (by decide)]; exact ⟨rfl, rfl⟩, fun r q1 q2 i _ => by rw [u2 r (by omega) (by omega)]⟩
  cases ok1 with
  | false =>
    refine ⟨X1, V1, ?_, fx1.xe, vf1, Or.inl ⟨J1.any, fun y => ?_⟩⟩
    · apply b_X4_readWood
      rw [r1, c5]
      exact ⟨ht.at, bcall t1 (fun z => nomatch z) fun _ m e => ⟨rfl, e⟩⟩
    · apply b_X12_tellWood
      exact mdl1 y _ (fun r m => r = .int (bI false) ∧ m = catR y V1) (fun z => nomatch z) fun _ => ⟨rfl, rfl⟩
  | true =>
    obtain ⟨hW, a4, fv1⟩ := g1 rfl
    obtain ⟨ok2, X2, V2, w2, i1, i2, i3, i4, i5, i6, i7, i8, i9⟩ := intJ J1 (lo := 1) (hi := 60) (by decide) (by decide)
    have J2 : JM ok2 (wI X2 (rt + 7) W (nI w2)) (tlV V2 (170 + 2 * W) (nI w2)) M K ts (a + 1 + 1) := i7.mix ((DX.rf X2).r (by omega) _ _) DV.tl
    obtain ⟨ok3, X3, V3, w3, j1, j2, j3, j4, j5, j6, j7, j8, j9⟩ := intJ J2 (lo := 0) (hi := 99) (by decide) (by decide)
    have J3 : JM ok3 (wI X3 (rs + 3) W (nI w3)) (tlV V3 (170 + 2 * W + 1) (nI w3)) M K ts (a + 1 + 1 + 1) := j7.mix ((DX.rf X3).r (by omega) _ _) DV.tl
    obtain ⟨ok4, X4, k1, k2, k3, k4, k5⟩ := semJ J3
    -- the class's cells
    have q1 : ∀ r, r ≠ 1 → r ≠ rt + 7 → r ≠ rs + 3 → X4.1 r = x.1 r := fun r z1 z2 z3 => by
      rw [k2.2.1 r z1, wI_o z3, j5.2.1 r z1, wI_o z2, i5.2.1 r z1, fx1.2.1 r z1]
    have q7 : X4.1 (rt + 7) = upd (x.1 (rt + 7)) W (nI w2) := by
      rw [k2.2.1 _ (by omega), wI_o (by omega), j5.2.1 _ (by omega), wI_k, i5.2.1 _ (by omega), fx1.2.1 _ (by omega)]
    have q3 : X4.1 (rs + 3) = upd (x.1 (rs + 3)) W (nI w3) := by
      rw [k2.2.1 _ (by omega), wI_k, j5.2.1 _ (by omega), wI_o (by omega), i5.2.1 _ (by omega), fx1.2.1 _ (by omega)]
    have qy : ∀ y, y < 6 ∨ 10 < y → X4.1 1 y = x.1 1 y := fun y hy => by
      rw [k2.2.2 y hy, wI_o (by omega), j5.2.2 y hy, wI_o (by omega), i5.2.2 y hy, fx1.2.2 y hy]
    have q2 : X4.2 = x.2 := by rw [k2.1, wI_2, j5.1, wI_2, i5.1, fx1.1]
    have hrun := woodX (ok1 := true) (ok2 := ok2) (ok3 := ok3) ht hs r1 c5 (fun _ => hW) t1 (by rw [fx1.1]) i1 (by rw [i5.1, fx1.1]; exact r2) j1 k1 (by rw [q2]; exact r1) (by rw [q1 rt (by omega) (by omega) (by omega)]; exact c5)
    rw [if_pos rfl] at hrun
    have hXE : XE rt rs x (wI X4 rt 13 (nI (W + 1))) := ((((((fx1.xe.tr i5.xe).w (Or.inl ⟨by omega, by omega⟩) (by omega) W (nI w2)).tr j5.xe).w (Or.inr ⟨by omega, by omega⟩) (by omega) W (nI w3)).tr k2.xe).w (Or.inl ⟨Nat.le_refl _, by omega⟩) (by omega) 13 (nI (W + 1)))
    have mrest : ∀ (y : MM) (vE : MM) (b : Bool), ((ok2 = false → b = false ∧ vE = V2) ∧ (ok2 = true → ok3 = false → b = false ∧ vE = V3) ∧ (ok2 = true → ok3 = true → b = true ∧ vE = tlV V3 (170 + 2 * W + 1) (nI w3))) → Runs e_X12_tellWood [.ref 156] (catR y v) (fun r m => r = .int (bI b) ∧ m = catR y vE) := by
      intro y vE b hb
      apply b_X12_tellWood
      refine mdl1 y _ (fun r m => r = .int (bI b) ∧ m = catR y vE) (fun _ => ?_) (fun z => nomatch z)
      refine bcall (i3 rfl y) (fun z m e => ?_) (fun z m e => ?_)
      · subst e
        have e29 : (catR y V2).1 156 29 = nI w2 := by rw [cr_1 (by decide)]; exact (i9 z).2.1
        rw [e29]
        refine vcall (tellM (by omega) _ y) ?_
        rintro m rfl
        refine bcall (j3 z y) (fun z2 m e => ?_) (fun z2 m e => ?_)
        · subst e
          have e29 : (catR y V3).1 156 29 = nI w3 := by rw [cr_1 (by decide)]; exact (j9 z2).2.1
          rw [e29, nI_1]
          refine vcall (tellM (by omega) _ y) ?_
          rintro m rfl
          obtain ⟨b1, b2⟩ := hb.2.2 z z2
          rw [b1, b2]
          exact ⟨rfl, rfl⟩
        · obtain ⟨b1, b2⟩ := hb.2.1 z z2
          rw [b1, b2]
          exact ⟨rfl, e⟩
      · obtain ⟨b1, b2⟩ := hb.1 z
        rw [b1, b2]
        exact ⟨rfl, e⟩
    cases ok2 with
    | false =>
      obtain ⟨z1, z2, z3⟩ := j4 rfl
      subst z1
      have z4 := k5 rfl
      refine ⟨_, V2, hrun, hXE, vf1.tr i6.me, Or.inl ⟨?_, fun y => mrest y V2 false ⟨fun _ => ⟨rfl, rfl⟩, (fun z => nomatch z), (fun z => nomatch z)⟩⟩⟩
      rw [z4, z2]
      exact (i7.mix ((((DX.rf X2).r (by omega) _ _).r (by omega) _ _).r (by omega) _ _) (DV.rf V2)).any
    | true =>
      have vf2 : VF v (tlV V2 (170 + 2 * W) (nI w2)) := (vf1.tr i6.me).tl _
      cases ok3 with
      | false =>
        have z4 := k5 rfl
        refine ⟨_, V3, hrun, hXE, vf2.tr j6.me, Or.inl ⟨?_, fun y => mrest y V3 false ⟨(fun z => nomatch z), fun _ _ => ⟨rfl, rfl⟩, (fun _ z => nomatch z)⟩⟩⟩
        rw [z4]
        exact (j7.mix (((DX.rf X3).r (by omega) _ _).r (by omega) _ _) (DV.rf V3)).any
      | true =>
        have se := (k4 rfl).1
        refine ⟨_, tlV V3 (170 + 2 * W + 1) (nI w3), hrun, hXE, (vf2.tr j6.me).tl _, Or.inr ⟨fun y => mrest y _ true ⟨(fun z => nomatch z), (fun _ z => nomatch z), fun _ _ => ⟨rfl, rfl⟩⟩, a + 1 + 1 + 1, ok4, se.mix ((DX.rf X4).r (by omega) _ _) (DV.rf _), by omega, fun hok => ?_⟩⟩
        have a4' := (k4 rfl).2 hok
        -- the model's cells
        have p1 : ∀ r, r ≠ 156 → r ≠ 162 → (tlV V3 (170 + 2 * W + 1) (nI w3)).1 r = v.1 r := fun r z1 z2 => by
          unfold tlV
          rw [wI_o z2, j6.2.1 r z1]
          unfold tlV
          rw [wI_o z2, i6.2.1 r z1, u2 r z1 z2]
        have p162 : (tlV V3 (170 + 2 * W + 1) (nI w3)).1 162 = upd (upd (upd (v.1 162) (210 + 5) (nI (W + 1))) (210 + (170 + 2 * W)) (nI w2)) (210 + (170 + 2 * W + 1)) (nI w3) := by
          unfold tlV
          rw [wI_k, j6.2.1 162 (by decide)]
          unfold tlV
          rw [wI_k, i6.2.1 162 (by decide), fv1.2.1 162 (by decide)]
          unfold tlV
          rw [wI_k]
        have p2 : (tlV V3 (170 + 2 * W + 1) (nI w3)).2 = v.2 := by
          unfold tlV
          rw [wI_2, j6.1]
          unfold tlV
          rw [wI_2, i6.1, u1]
        have p25 : (tlV V3 (170 + 2 * W + 1) (nI w3)).1 156 25 = v.1 156 25 := by
          unfold tlV
          rw [wI_o (by decide), j6.2.2 25 (by omega)]
          unfold tlV
          rw [wI_o (by decide), i6.2.2 25 (by omega), u3 25 (by omega)]
        have pj : ∀ j, j ≠ 5 → j ≠ 170 + 2 * W → j ≠ 170 + 2 * W + 1 → (tlV V3 (170 + 2 * W + 1) (nI w3)).1 162 (210 + j) = v.1 162 (210 + j) := fun j z1 z2 z3 => by
          rw [p162, pk_un (by omega), pk_un (by omega), pk_un (by omega)]
        generalize hvE : tlV V3 (170 + 2 * W + 1) (nI w3) = VE' at *
        have n9 : ∀ y, y ≠ 13 → (wI X4 rt 13 (nI (W + 1))).1 rt y = x.1 rt y := fun y hy => by
          rw [wI_k, pk_un hy, q1 rt (by omega) (by omega) (by omega)]
        have nr : ∀ r, r ≠ 1 → r ≠ rt → r ≠ rt + 7 → r ≠ rs + 3 → (wI X4 rt 13 (nI (W + 1))).1 r = x.1 r := fun r z1 z2 z3 z4 => by
          rw [wI_o z2, q1 r z1 z3 z4]
        have ny : ∀ y, y < 6 ∨ 10 < y → (wI X4 rt 13 (nI (W + 1))).1 1 y = x.1 1 y := fun y hy => by rw [wI_o (by omega)]; exact qy y hy
        have nl : (wI X4 rt 13 (nI (W + 1))).1 1 9 = 0 → x.1 1 9 = 0 ∧ 1 ≤ w2 ∧ w2 ≤ 60 ∧ w3 ≤ 99 := fun z => by
          rw [wI_o (by omega), k3, wI_o (by omega)] at z
          have z2 := j8 z
          rw [wI_o (by omega)] at z2
          have b2 := (i9 rfl).2.2 z2
          have b3 := (j9 rfl).2.2 z
          exact ⟨e9.symm.trans (i8 z2), b2.1, b2.2, b3.2⟩
        have hcE : ∀ j, j ≠ 5 → j ≠ 170 + 2 * W → j ≠ 170 + 2 * W + 1 → hc (wI X4 rt 13 (nI (W + 1))) VE' 162 j = hc x v 162 j := fun j z1 z2 z3 => pj j z1 z2 z3
        have eo : opV VE' = opV v := by unfold opV; rw [p1 165 (by decide) (by decide)]
        have ea : vaV VE' = vaV v := by unfold vaV; rw [p1 166 (by decide) (by decide)]
        have ec : cdX (wI X4 rt 13 (nI (W + 1))) rt = cdX x rt := nr _ (by omega) (by omega) (by omega) (by omega)
        refine ⟨H, O, I, S, Qn, W + 1, F, B, sz, fr, f, ⟨⟨⟨by rw [show (wI X4 rt 13 (nI (W + 1))).2 = x.2 from q2]; exact r1, ht⟩, by rw [show (wI X4 rt 13 (nI (W + 1))).2 = x.2 from q2]; exact r2, hs⟩, ⟨l1, l2, l3, by omega, l5, l6⟩, ⟨(n9 8 (by decide)).trans c1, (n9 9 (by decide)).trans c2, (n9 10 (by decide)).trans c3, (n9 11 (by decide)).trans c4, by rw [wI_k, pk_us], by rw [nr _ (by omega) (by omega) (by omega) (by omega)]; exact c6, by rw [nr _ (by omega) (by omega) (by omega) (by omega)]; exact c7, (ny 12 (by omega)).trans c8⟩,
          ⟨(pj 0 (by omega) (by omega) (by omega)).trans m1, (pj 1 (by omega) (by omega) (by omega)).trans m2, (pj 2 (by omega) (by omega) (by omega)).trans m3, (pj 3 (by omega) (by omega) (by omega)).trans m4, (pj 4 (by omega) (by omega) (by omega)).trans m5, by rw [p162, pk_un (by omega), pk_un (by omega), pk_us], (pj 8 (by omega) (by omega) (by omega)).trans m7, (pj 9 (by omega) (by omega) (by omega)).trans m8⟩,
          ⟨by rw [nr _ (by omega) (by omega) (by omega) (by omega)]; exact s1, by rw [p1 164 (by decide) (by decide)]; exact s2, by rw [p1 167 (by decide) (by decide)]; exact s3, by omega, by omega, by omega, by omega⟩, hN.mix q2 (nr 3 (by decide) (by omega) (by omega) (by omega)) (ny 11 (by omega)) (fun z => (nl z).1) p2 p25 (p1 176 (by decide) (by decide)) (p1 177 (by decide) (by decide))⟩, fun z => ?_⟩
        obtain ⟨z0, w2a, w2b, w3b⟩ := nl z
        obtain ⟨C, J, hA, hB, hL, hR, hS⟩ := hT z0
        obtain ⟨kb1, kb2, kb3, kb4, kb5⟩ := hB.keep (x' := wI X4 rt 13 (nI (W + 1))) (v' := VE') (Nat.le_refl H) (fun j hj => hcE j (by omega) (by omega) (by omega)) (fun y _ => ⟨by rw [nr _ (by omega) (by omega) (by omega) (by omega)], by rw [nr _ (by omega) (by omega) (by omega) (by omega)]⟩) (fun y _ => by rw [nr _ (by omega) (by omega) (by omega) (by omega)]) (fun y _ => ⟨by rw [nr _ (by omega) (by omega) (by omega) (by omega)], by rw [nr _ (by omega) (by omega) (by omega) (by omega)], by rw [nr _ (by omega) (by omega) (by omega) (by omega)]⟩) (fun y hy => by rw [wI_o (by omega), q7, pk_un (by omega)])
        refine ⟨C, J, hA.keep (fun j hj => hcE j (by omega) (by omega) (by omega)) (n9 14 (by decide)) (n9 15 (by decide)) (n9 12 (by decide)), ⟨kb1, kb2, kb3, kb4, fun w hw => ?_⟩, hL.keep (fun i _ => by rw [ec]) (fun i _ => by rw [eo, ea]; exact ⟨rfl, rfl⟩) (Nat.le_refl _) (Nat.le_refl _) (fun j _ _ => hcE j (by omega) (by omega) (by omega)) (fun y _ _ => by rw [nr _ (by omega) (by omega) (by omega) (by omega)]), hR.keep (fun i _ => by rw [ec]) (Or.inr ⟨eo, ea, fun r _ _ => p1 r (by omega) (by omega)⟩) (by omega) (Nat.le_refl _) (Nat.le_refl _) (Nat.le_refl _) (fun j _ => hcE j (by omega) (by omega) (by omega)) (fun y _ => by rw [nr _ (by omega) (by omega) (by omega) (by omega)]) (fun y _ => by rw [nr _ (by omega) (by omega) (by omega) (by omega)]), ?_⟩
        · rcases Nat.lt_or_eq_of_le (Nat.le_of_lt_succ hw) with zw | zw
          · exact kb5 w zw
          · subst zw
            have e1 : hc (wI X4 rt 13 (nI (w + 1))) VE' 162 (170 + 2 * w) = nI w2 := by
              rw [hc_162, p162, pk_un (by omega), pk_us]
            rw [e1, wI_o (by omega), q7, pk_us]
            exact ⟨⟨w2, w2a, w2b, rfl⟩, rfl⟩
        · obtain ⟨S1, S2, S3, S4⟩ := hS
          have eoff := off_cong (st := hc x v 162) (st' := hc (wI X4 rt 13 (nI (W + 1))) VE' 162) (I := I) fun j z1 z2 => hcE j (by omega) (by omega) (by omega)
          refine ⟨fun h hh => ?_, fun w hw => ?_, fun i hi => ?_, fun k hk => ?_⟩
          · rw [pj _ (by omega) (by omega) (by omega), nr _ (by omega) (by omega) (by omega) (by omega)]; exact S1 h hh
          · rw [wI_o (by omega), q3]
            by_cases cw : w = W
            · subst cw
              have e1 : VE'.1 162 (210 + (171 + 2 * w)) = nI w3 := by rw [p162, show 210 + (171 + 2 * w) = 210 + (170 + 2 * w + 1) by omega, pk_us]
              rw [e1, pk_us]
              exact ⟨⟨w3, w3b, rfl⟩, rfl⟩
            · rw [pj _ (by omega) (by omega) (by omega), pk_un cw]; exact S2 w (by omega)
          · rw [hcE _ (by omega) (by omega) (by omega), hcE _ (by omega) (by omega) (by omega)]; exact S3 i hi
          · rw [nr _ (by omega) (by omega) (by omega) (by omega), eoff.2]; exact S4 k hk
end

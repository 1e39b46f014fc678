/-! reading: a house, both sides -/
section
variable {x v x' v' : MM} {M a : Nat} {K ts : Nat → Nat}
theorem SR.keep {rs H O I W H' O' : Nat} (h : SR x v rs H O I W) (hH : H ≤ H') (hO : O ≤ O') (hi : ∀ j, 90 ≤ j → j < 90 + 2 * I → hc x' v' 162 j = hc x v 162 j) (ho : ∀ k, k < 16 → x'.1 (rs + 2) k = x.1 (rs + 2) k) : InsR (hc x' v' 162) H' O' I ∧ ∀ k, k < 16 → x'.1 (rs + 2) k = offC (hc x' v' 162) I k := by
  obtain ⟨S1, S2, S3, S4⟩ := h
  have eoff := off_cong (st := hc x v 162) (st' := hc x' v' 162) (I := I) fun j z1 z2 => hi j z1 z2
  refine ⟨fun i hi' => ?_, fun k hk => ?_⟩
  · obtain ⟨g, o, z1, z2, z3, z4⟩ := S3 i hi'
    exact ⟨g, o, by omega, by omega, (hi _ (by omega) (by omega)).trans z3, (hi _ (by omega) (by omega)).trans z4⟩
  · rw [ho k hk, eoff.2]; exact S4 k hk
theorem SR.all {rs H O I W H' O' : Nat} (h : SR x v rs H O I W) (hH : H ≤ H') (hO : O ≤ O') (hi : ∀ j, 90 ≤ j → j < 90 + 2 * I → hc x' v' 162 j = hc x v 162 j) (ho : ∀ k, k < 16 → x'.1 (rs + 2) k = x.1 (rs + 2) k) (hh : ∀ j, j < 16 → v'.1 162 (210 + (21 + 3 * j)) = v.1 162 (210 + (21 + 3 * j)) ∧ x'.1 (rs + 1) j = x.1 (rs + 1) j) (hw : ∀ j, j < W → v'.1 162 (210 + (171 + 2 * j)) = v.1 162 (210 + (171 + 2 * j)) ∧ x'.1 (rs + 3) j = x.1 (rs + 3) j) : SR x' v' rs H' O' I W := by
  obtain ⟨k1, k2⟩ := h.keep hH hO hi ho
  obtain ⟨S1, S2, -, -⟩ := h
  refine ⟨fun j hj => ?_, fun j hj => ?_, k1, k2⟩
  · rw [(hh j hj).1, (hh j hj).2]; exact S1 j hj
  · rw [(hw j hj).1, (hw j hj).2]; exact S2 j hj
theorem houseX {rt rs H w3 w4 w5 : Nat} {ok6 : Bool} {x1 x2 x3 x4 x5 x6 : MM} (ht : isT rt) (hs : isN rs) (r1 : x.2.2 1 4 = rt) (c8 : x.1 rt 8 = nI H) (hH : H < 16)
    (t1 : Runs e_X4_takeFirst [.ref 1, .int (nI 0), .int (nI H), .int (nI 16)] x (fun r m => r = .int (bI true) ∧ m = x1)) (t2 : Runs e_X4_readNewName [.ref 1, .int (nI H)] x1 (fun r m => r = .null ∧ m = x2)) (e2 : x2.2.2 1 4 = rt)
    (t3 : Runs e_X4_readInt [.ref 1, .int (nI 0), .int (nI 40)] x2 (fun r m => r = .int (nI w3) ∧ m = x3)) (e3 : x3.2.2 1 5 = rs)
    (t4 : Runs e_X4_readInt [.ref 1, .int (nI 0), .int (nI 99)] (wI x3 (rt + 1) H (nI w3)) (fun r m => r = .int (nI w4) ∧ m = x4)) (e4 : x4.2.2 1 4 = rt)
    (t5 : Runs e_X4_readInt [.ref 1, .int (nI 1), .int (nI 9)] (wI x4 (rs + 1) H (nI w4)) (fun r m => r = .int (nI w5) ∧ m = x5))
    (t6 : Runs e_X4_take [.ref 1, .int (nI 28)] (wI x5 (rt + 2) H (nI w5)) (fun r m => r = .int (bI ok6) ∧ m = x6)) (e6 : x6.2.2 1 4 = rt) (c6 : x6.1 rt 8 = nI H) :
    Runs e_X4_readHouse [.ref 1] x (fun r m => r = .null ∧ m = wI x6 rt 8 (nI (H + 1))) := by
  have vh : vp_in (nI H) 16 := vp_in_nI hH (by omega)
  apply b_X4_readHouse
  rw [r1, c8, nI_clamp (by omega)]
  refine ⟨ht.at, bcall t1 (fun z m1 e => ?_) (fun z => nomatch z)⟩
  subst e
  refine vcall t2 ?_
  rintro m rfl
  rw [e2]
  refine ⟨ht.at, icall t3 ?_⟩
  rintro m rfl
  rw [e3]
  refine ⟨vh, hs.s.at, icall t4 ?_⟩
  rintro m rfl
  rw [e4]
  refine ⟨vh, ht.at, icall t5 ?_⟩
  rintro m rfl
  have last : AtTown (x6.2.2 1 4) ∧ (Value.null = .null ∧ wI x6 (x6.2.2 1 4) 8 ((x6.1 (x6.2.2 1 4) 8) + (1 : Int32)) = wI x6 rt 8 (nI (H + 1))) := by
    rw [e6, c6, nI_1]
    exact ⟨ht.at, rfl, rfl⟩
  refine ⟨vh, bcall t6 (fun _ m e => ?_) (fun _ m e => ?_)⟩
  · subst e; exact last
  · subst e; exact last
theorem houseS {rt rs : Nat} (h : RC x v M K ts a) (hk : K a = 0) (hI : INV x v M K rt rs a) : StmtR e_X4_readHouse e_X12_tellHouse [] [] x v M K ts rt rs a := by
  obtain ⟨H, O, I, S, Qn, W, F, B, sz, fr, f, hD, hT⟩ := hI
  obtain ⟨⟨⟨r1, ht⟩, r2, hs⟩, ⟨l1, l2, l3, l4, l5, l6⟩, ⟨c1, c2, c3, c4, c5, c6, c7, c8⟩, ⟨m1, m2, m3, m4, m5, m6, m7, m8⟩, ⟨s1, s2, s3, s4, s5, s6, s7⟩, hN⟩ := hD
  obtain ⟨hrt, hrs⟩ := isN.ne ht hs
  have hHO : H ≤ 16 ∧ O ≤ 12 := by
    obtain ⟨-, -, z, -⟩ := hN
    exact z
  obtain ⟨ok1, X1, V1, t1, fx1, e9, J1, g1, ⟨u1, u2, u3, u4⟩, mdl1⟩ := firstJ (q := 0) (n := H) (most := 16) (base := 20) (step := 3) h hk (by decide) (by decide) hHO.1 (by decide) (by decide) (by decide) m1
  have vf1 : VF v V1 := ⟨by rw [u1], fun r _ => by rw [u1], fun r q1 q2 _ _ => u2 r q1 q2, fun y hy => u3 y (by omega), fun j hj => u4 j (by omega), fun i _ => by rw [u2 165 (by decide) (by decide), u2 166 (by decide) (by decide)]; exact ⟨rfl, rfl⟩, fun r q1 q2 i _ => by rw [u2 r (by omega) (by omega)]⟩
  have told : ∀ y, o_X12_told (catR y v) (0 : Int32) ∧ v_X12_told (catR y v) (0 : Int32) = nI H := fun y => by
    obtain ⟨o0, eT⟩ := told_at (v := v) (j := 0) (by decide) y
    exact ⟨o0, eT.trans m1⟩
  cases ok1 with
  | false =>
    refine ⟨X1, V1, ?_, fx1.xe, vf1, Or.inl ⟨J1.any, fun y => ?_⟩⟩
    · apply b_X4_readHouse
      rw [r1, c1]
      exact ⟨ht.at, bcall t1 (fun z => nomatch z) fun _ m e => ⟨rfl, e⟩⟩
    · apply b_X12_tellHouse
      exact ⟨(told y).1, mdl1 y _ (fun r m => r = .int (bI false) ∧ m = catR y V1) (fun z => nomatch z) fun _ => ⟨rfl, rfl⟩⟩
  | true =>
    obtain ⟨hH, a4, fv1⟩ := g1 rfl
    have N1 : NJ X1 V1 M K H O := hN.mix fx1.1 (fx1.2.1 3 (by decide)) (fx1.2.2 11 (by omega)) (fun z => e9.symm.trans z) u1 (u3 25 (by omega)) (u2 176 (by decide) (by decide)) (u2 177 (by decide) (by decide))
    obtain ⟨ok2, X2, V2, n1, n3, n4, n5, n6, n7, n8, n9⟩ := newJ J1 (fun _ => N1) (Or.inl ⟨rfl, rfl, rfl, hH, rfl, rfl⟩)
    obtain ⟨ok3, X3, V3, w3, i1, i2, i3, i4, i5, i6, i7, i8, i9⟩ := intJ n7 (lo := 0) (hi := 40) (by decide) (by decide)
    have J3 : JM ok3 (wI X3 (rt + 1) H (nI w3)) (tlV V3 (20 + 3 * H) (nI w3)) M K ts (a + 1 + 1 + 1) := i7.mix ((DX.rf X3).r (by omega) _ _) DV.tl
    obtain ⟨ok4, X4, V4, w4, j1, j2, j3, j4, j5, j6, j7, j8, j9⟩ := intJ J3 (lo := 0) (hi := 99) (by decide) (by decide)
    have J4 : JM ok4 (wI X4 (rs + 1) H (nI w4)) (tlV V4 (20 + 3 * H + 1) (nI w4)) M K ts (a + 1 + 1 + 1 + 1) := j7.mix ((DX.rf X4).r (by omega) _ _) DV.tl
    obtain ⟨ok5, X5, V5, w5, d1, d2, d3, d4, d5, d6, d7, d8, d9⟩ := intJ J4 (lo := 1) (hi := 9) (by decide) (by decide)
    have J5 : JM ok5 (wI X5 (rt + 2) H (nI w5)) (tlV V5 (20 + 3 * H + 2) (nI w5)) M K ts (a + 1 + 1 + 1 + 1 + 1) := d7.mix ((DX.rf X5).r (by omega) _ _) DV.tl
    obtain ⟨ok6, X6, k1, k2, k3, k4, k5⟩ := semJ J5
    -- the class's cells
    have q1 : ∀ r, r ≠ 1 → r ≠ 3 → r ≠ rt + 1 → r ≠ rs + 1 → r ≠ rt + 2 → X6.1 r = x.1 r := fun r z1 z2 z3 z4 z5 => by
      rw [k2.2.1 r z1, wI_o z5, d5.2.1 r z1, wI_o z4, j5.2.1 r z1, wI_o z3, i5.2.1 r z1, n5.1 r z1 z2, fx1.2.1 r z1]
    have qA : X6.1 (rt + 1) = upd (x.1 (rt + 1)) H (nI w3) := by
      rw [k2.2.1 _ (by omega), wI_o (by omega), d5.2.1 _ (by omega), wI_o (by omega), j5.2.1 _ (by omega), wI_k, i5.2.1 _ (by omega), n5.1 _ (by omega) (by omega), fx1.2.1 _ (by omega)]
    have qB : X6.1 (rs + 1) = upd (x.1 (rs + 1)) H (nI w4) := by
      rw [k2.2.1 _ (by omega), wI_o (by omega), d5.2.1 _ (by omega), wI_k, j5.2.1 _ (by omega), wI_o (by omega), i5.2.1 _ (by omega), n5.1 _ (by omega) (by omega), fx1.2.1 _ (by omega)]
    have qC : X6.1 (rt + 2) = upd (x.1 (rt + 2)) H (nI w5) := by
      rw [k2.2.1 _ (by omega), wI_k, d5.2.1 _ (by omega), wI_o (by omega), j5.2.1 _ (by omega), wI_o (by omega), i5.2.1 _ (by omega), n5.1 _ (by omega) (by omega), fx1.2.1 _ (by omega)]
    have qy2 : ∀ y, y < 6 ∨ 10 < y → X6.1 1 y = X2.1 1 y := fun y hy => by
      rw [k2.2.2 y hy, wI_o (by omega), d5.2.2 y hy, wI_o (by omega), j5.2.2 y hy, wI_o (by omega), i5.2.2 y hy]
    have q32 : X6.1 3 = X2.1 3 := by
      rw [k2.2.1 _ (by omega), wI_o (by omega), d5.2.1 _ (by omega), wI_o (by omega), j5.2.1 _ (by omega), wI_o (by omega), i5.2.1 _ (by omega)]
    have qy : ∀ y, y < 6 ∨ 11 < y → X6.1 1 y = x.1 1 y := fun y hy => by
      rw [qy2 y (by omega), n5.2.1 y hy, fx1.2.2 y (by omega)]
    have q22 : X6.2 = X2.2 := by rw [k2.1, wI_2, d5.1, wI_2, j5.1, wI_2, i5.1]
    have q2 : X6.2.2 = x.2.2 := by rw [q22, n5.2.2.2, fx1.1]
    have hrun := houseX ht hs r1 c1 hH t1 n1 (by rw [n5.2.2.2, fx1.1]; exact r1) i1 (by rw [i5.1, n5.2.2.2, fx1.1]; exact r2) j1 (by rw [j5.1, wI_2, i5.1, n5.2.2.2, fx1.1]; exact r1) d1 k1 (by rw [q2]; exact r1) (by rw [q1 rt (by omega) (by omega) (by omega) (by omega) (by omega)]; exact c1)
    have hXE : XE rt rs x (wI X6 rt 8 (nI (H + 1))) := (((((((((fx1.xe.tr n5.xe).tr i5.xe).w (Or.inl ⟨by omega, by omega⟩) (by omega) H (nI w3)).tr j5.xe).w (Or.inr ⟨by omega, by omega⟩) (by omega) H (nI w4)).tr d5.xe).w (Or.inl ⟨by omega, by omega⟩) (by omega) H (nI w5)).tr k2.xe).w (Or.inl ⟨Nat.le_refl _, by omega⟩) (by omega) 8 (nI (H + 1)))
    have mrest : ∀ (y : MM) (vE : MM) (b : Bool), ((ok2 = false → b = false ∧ vE = V2) ∧ (ok2 = true → ok3 = false → b = false ∧ vE = V3) ∧ (ok2 = true → ok3 = true → ok4 = false → b = false ∧ vE = V4) ∧ (ok2 = true → ok3 = true → ok4 = true → ok5 = false → b = false ∧ vE = V5) ∧ (ok2 = true → ok3 = true → ok4 = true → ok5 = true → b = true ∧ vE = tlV V5 (20 + 3 * H + 2) (nI w5))) → Runs e_X12_tellHouse [.ref 156] (catR y v) (fun r m => r = .int (bI b) ∧ m = catR y vE) := by
      intro y vE b hb
      apply b_X12_tellHouse
      rw [(told y).2]
      refine ⟨(told y).1, mdl1 y _ (fun r m => r = .int (bI b) ∧ m = catR y vE) (fun _ => ?_) (fun z => nomatch z)⟩
      refine bcall (n3 rfl y) (fun z m e => ?_) (fun z m e => ?_)
      · subst e
        refine bcall (i3 z y) (fun z3 m e => ?_) (fun z3 m e => ?_)
        · subst e
          have e29 : (catR y V3).1 156 29 = nI w3 := by rw [cr_1 (by decide)]; exact (i9 z3).2.1
          rw [e29]
          refine vcall (tellM (by omega) _ y) ?_
          rintro m rfl
          refine bcall (j3 z3 y) (fun z4 m e => ?_) (fun z4 m e => ?_)
          · subst e
            have e29 : (catR y V4).1 156 29 = nI w4 := by rw [cr_1 (by decide)]; exact (j9 z4).2.1
            rw [e29, nI_1]
            refine vcall (tellM (by omega) _ y) ?_
            rintro m rfl
            refine bcall (d3 z4 y) (fun z5 m e => ?_) (fun z5 m e => ?_)
            · subst e
              have e29 : (catR y V5).1 156 29 = nI w5 := by rw [cr_1 (by decide)]; exact (d9 z5).2.1
              rw [e29, show (2 : Int32) = nI 2 from rfl, nI_add]
              refine vcall (tellM (by omega) _ y) ?_
              rintro m rfl
              obtain ⟨b1, b2⟩ := hb.2.2.2.2 z z3 z4 z5
              rw [b1, b2]
              exact ⟨rfl, rfl⟩
            · obtain ⟨b1, b2⟩ := hb.2.2.2.1 z z3 z4 z5
              rw [b1, b2]
              exact ⟨rfl, e⟩
          · obtain ⟨b1, b2⟩ := hb.2.2.1 z z3 z4
            rw [b1, b2]
            exact ⟨rfl, e⟩
        · obtain ⟨b1, b2⟩ := hb.2.1 z z3
          rw [b1, b2]
          exact ⟨rfl, e⟩
      · obtain ⟨b1, b2⟩ := hb.1 z
        rw [b1, b2]
        exact ⟨rfl, e⟩
    have vf2 : VF v V2 := vf1.tr n6.me
    have vf3 : VF v V3 := vf2.tr i6.me
    have vf4 : VF v V4 := (vf3.tl _).tr j6.me
    have vf5 : VF v V5 := (vf4.tl _).tr d6.me
    cases ok2 with
    | false =>
      obtain ⟨z1, z2, z3⟩ := i4 rfl
      subst z1
      obtain ⟨y1, y2, y3⟩ := j4 rfl
      subst y1
      obtain ⟨g1, g2, g3⟩ := d4 rfl
      subst g1
      have z4 := k5 rfl
      refine ⟨_, V2, hrun, hXE, vf2, Or.inl ⟨?_, fun y => mrest y V2 false ⟨fun _ => ⟨rfl, rfl⟩, (fun z => nomatch z), (fun z => nomatch z), (fun z => nomatch z), (fun z => nomatch z)⟩⟩⟩
      rw [z4, g2, y2, z2]
      exact (n7.mix (((((DX.rf X2).r (by omega) _ _).r (by omega) _ _).r (by omega) _ _).r (by omega) _ _) (DV.rf V2)).any
    | true =>
      cases ok3 with
      | false =>
        obtain ⟨y1, y2, y3⟩ := j4 rfl
        subst y1
        obtain ⟨g1, g2, g3⟩ := d4 rfl
        subst g1
        have z4 := k5 rfl
        refine ⟨_, V3, hrun, hXE, vf3, Or.inl ⟨?_, fun y => mrest y V3 false ⟨(fun z => nomatch z), fun _ _ => ⟨rfl, rfl⟩, (fun _ z => nomatch z), (fun _ z => nomatch z), (fun _ z => nomatch z)⟩⟩⟩
        rw [z4, g2, y2]
        exact (i7.mix (((((DX.rf X3).r (by omega) _ _).r (by omega) _ _).r (by omega) _ _).r (by omega) _ _) (DV.rf V3)).any
      | true =>
        cases ok4 with
        | false =>
          obtain ⟨g1, g2, g3⟩ := d4 rfl
          subst g1
          have z4 := k5 rfl
          refine ⟨_, V4, hrun, hXE, vf4, Or.inl ⟨?_, fun y => mrest y V4 false ⟨(fun z => nomatch z), (fun _ z => nomatch z), fun _ _ _ => ⟨rfl, rfl⟩, (fun _ _ z => nomatch z), (fun _ _ z => nomatch z)⟩⟩⟩
          rw [z4, g2]
          exact (j7.mix ((((DX.rf X4).r (by omega) _ _).r (by omega) _ _).r (by omega) _ _) (DV.rf V4)).any
        | true =>
          cases ok5 with
          | false =>
            have z4 := k5 rfl
            refine ⟨_, V5, hrun, hXE, vf5, Or.inl ⟨?_, fun y => mrest y V5 false ⟨(fun z => nomatch z), (fun _ z => nomatch z), (fun _ _ z => nomatch z), fun _ _ _ _ => ⟨rfl, rfl⟩, (fun _ _ _ z => nomatch z)⟩⟩⟩
            rw [z4]
            exact (d7.mix (((DX.rf X5).r (by omega) _ _).r (by omega) _ _) (DV.rf V5)).any
          | true =>
            have se := (k4 rfl).1
            obtain ⟨-, N2⟩ := n9 rfl
            refine ⟨_, tlV V5 (20 + 3 * H + 2) (nI w5), hrun, hXE, vf5.tl _, Or.inr ⟨fun y => mrest y _ true ⟨(fun z => nomatch z), (fun _ z => nomatch z), (fun _ _ z => nomatch z), (fun _ _ _ z => nomatch z), fun _ _ _ _ => ⟨rfl, rfl⟩⟩, a + 1 + 1 + 1 + 1 + 1, ok6, se.mix ((DX.rf X6).r (by omega) _ _) (DV.rf _), by omega, fun hok => ?_⟩⟩
            have a4' := (k4 rfl).2 hok
            -- the model's cells
            have p1 : ∀ r, r ≠ 156 → r ≠ 162 → r ≠ 176 → r ≠ 177 → (tlV V5 (20 + 3 * H + 2) (nI w5)).1 r = v.1 r := fun r z1 z2 z3 z4 => by
              unfold tlV
              rw [wI_o z2, d6.2.1 r z1]
              unfold tlV
              rw [wI_o z2, j6.2.1 r z1]
              unfold tlV
              rw [wI_o z2, i6.2.1 r z1, n6.1 r z1 z3 z4, u2 r z1 z2]
            have p162 : (tlV V5 (20 + 3 * H + 2) (nI w5)).1 162 = upd (upd (upd (upd (v.1 162) (210 + 0) (nI (H + 1))) (210 + (20 + 3 * H)) (nI w3)) (210 + (20 + 3 * H + 1)) (nI w4)) (210 + (20 + 3 * H + 2)) (nI w5) := by
              unfold tlV
              rw [wI_k, d6.2.1 162 (by decide)]
              unfold tlV
              rw [wI_k, j6.2.1 162 (by decide)]
              unfold tlV
              rw [wI_k, i6.2.1 162 (by decide), n6.1 162 (by decide) (by decide) (by decide), fv1.2.1 162 (by decide)]
              unfold tlV
              rw [wI_k]
            have pV : ∀ r, r ≠ 156 → r ≠ 162 → (tlV V5 (20 + 3 * H + 2) (nI w5)).1 r = V2.1 r := fun r z1 z2 => by
              unfold tlV
              rw [wI_o z2, d6.2.1 r z1]
              unfold tlV
              rw [wI_o z2, j6.2.1 r z1]
              unfold tlV
              rw [wI_o z2, i6.2.1 r z1]
            have p2 : (tlV V5 (20 + 3 * H + 2) (nI w5)).2 = V2.2 := by
              unfold tlV
              rw [wI_2, d6.1]
              unfold tlV
              rw [wI_2, j6.1]
              unfold tlV
              rw [wI_2, i6.1]
            have p25 : (tlV V5 (20 + 3 * H + 2) (nI w5)).1 156 25 = V2.1 156 25 := by
              unfold tlV
              rw [wI_o (by decide), d6.2.2 25 (by omega)]
              unfold tlV
              rw [wI_o (by decide), j6.2.2 25 (by omega)]
              unfold tlV
              rw [wI_o (by decide), i6.2.2 25 (by omega)]
            have pj : ∀ j, j ≠ 0 → j ≠ 20 + 3 * H → j ≠ 20 + 3 * H + 1 → j ≠ 20 + 3 * H + 2 → (tlV V5 (20 + 3 * H + 2) (nI w5)).1 162 (210 + j) = v.1 162 (210 + j) := fun j z1 z2 z3 z4 => by
              rw [p162, pk_un (by omega), pk_un (by omega), pk_un (by omega), pk_un (by omega)]
            generalize hvE : tlV V5 (20 + 3 * H + 2) (nI w5) = VE' at *
            generalize hxE : wI X6 rt 8 (nI (H + 1)) = XE' at *
            have n9 : ∀ y, y ≠ 8 → XE'.1 rt y = x.1 rt y := fun y hy => by
              rw [← hxE, wI_k, pk_un hy, q1 rt (by omega) (by omega) (by omega) (by omega) (by omega)]
            have nr : ∀ r, r ≠ 1 → r ≠ 3 → r ≠ rt → r ≠ rt + 1 → r ≠ rs + 1 → r ≠ rt + 2 → XE'.1 r = x.1 r := fun r z1 z2 z3 z4 z5 z6 => by
              rw [← hxE, wI_o z3, q1 r z1 z2 z4 z5 z6]
            have ny : ∀ y, y < 6 ∨ 11 < y → XE'.1 1 y = x.1 1 y := fun y hy => by rw [← hxE, wI_o (by omega)]; exact qy y hy
            have nA : XE'.1 (rt + 1) = upd (x.1 (rt + 1)) H (nI w3) := by rw [← hxE, wI_o (by omega)]; exact qA
            have nB : XE'.1 (rs + 1) = upd (x.1 (rs + 1)) H (nI w4) := by rw [← hxE, wI_o (by omega)]; exact qB
            have nC : XE'.1 (rt + 2) = upd (x.1 (rt + 2)) H (nI w5) := by rw [← hxE, wI_o (by omega)]; exact qC
            have nx8 : XE'.1 rt 8 = nI (H + 1) := by rw [← hxE, wI_k, pk_us]
            have nx2 : XE'.2 = X2.2 := by rw [← hxE]; exact q22
            have nx22 : XE'.2.2 = x.2.2 := by rw [nx2, ← q22]; exact q2
            have nl2 : XE'.1 1 9 = 0 → X2.1 1 9 = 0 ∧ w3 ≤ 40 ∧ w4 ≤ 99 := fun z => by
              rw [← hxE, wI_o (by omega), k3, wI_o (by omega)] at z
              have z4 := d8 z
              rw [wI_o (by omega)] at z4
              have z3 := j8 z4
              rw [wI_o (by omega)] at z3
              exact ⟨i8 z3, ((i9 rfl).2.2 z3).2, ((j9 rfl).2.2 z4).2⟩
            have nl : XE'.1 1 9 = 0 → x.1 1 9 = 0 := fun z => e9.symm.trans (n8 (nl2 z).1)
            have N3 : NJ XE' VE' M K (H + 1) O := N2.mix nx2 (by rw [← hxE, wI_o (by omega)]; exact q32) (by rw [← hxE, wI_o (by omega)]; exact qy2 11 (by omega)) (fun z => (nl2 z).1) p2 p25 (pV 176 (by decide) (by decide)) (pV 177 (by decide) (by decide))
            have hcE : ∀ j, j ≠ 0 → j ≠ 20 + 3 * H → j ≠ 20 + 3 * H + 1 → j ≠ 20 + 3 * H + 2 → hc XE' VE' 162 j = hc x v 162 j := fun j z1 z2 z3 z4 => pj j z1 z2 z3 z4
            have eo : opV VE' = opV v := by unfold opV; rw [p1 165 (by decide) (by decide) (by decide) (by decide)]
            have ea : vaV VE' = vaV v := by unfold vaV; rw [p1 166 (by decide) (by decide) (by decide) (by decide)]
            have ec : cdX XE' rt = cdX x rt := nr _ (by omega) (by omega) (by omega) (by omega) (by omega) (by omega)
            have n8' : XE'.1 (rt + 8) = x.1 (rt + 8) := nr _ (by omega) (by omega) (by omega) (by omega) (by omega) (by omega)
            refine ⟨H + 1, O, I, S, Qn, W, F, B, sz, fr, f, ⟨⟨⟨by rw [nx22]; exact r1, ht⟩, by rw [nx22]; exact r2, hs⟩, ⟨l1, l2, l3, l4, l5, l6⟩, ⟨nx8, (n9 9 (by decide)).trans c2, (n9 10 (by decide)).trans c3, (n9 11 (by decide)).trans c4, (n9 13 (by decide)).trans c5, by rw [n8']; exact c6, by rw [n8']; exact c7, (ny 12 (by omega)).trans c8⟩,
              ⟨by rw [p162, pk_un (by omega), pk_un (by omega), pk_un (by omega), pk_us], (pj 1 (by omega) (by omega) (by omega) (by omega)).trans m2, (pj 2 (by omega) (by omega) (by omega) (by omega)).trans m3, (pj 3 (by omega) (by omega) (by omega) (by omega)).trans m4, (pj 4 (by omega) (by omega) (by omega) (by omega)).trans m5, (pj 5 (by omega) (by omega) (by omega) (by omega)).trans m6, (pj 8 (by omega) (by omega) (by omega) (by omega)).trans m7, (pj 9 (by omega) (by omega) (by omega) (by omega)).trans m8⟩,
              ⟨by rw [n8']; exact s1, by rw [p1 164 (by decide) (by decide) (by decide) (by decide)]; exact s2, by rw [p1 167 (by decide) (by decide) (by decide) (by decide)]; exact s3, by omega, by omega, by omega, by omega⟩, N3⟩, fun z => ?_⟩
            obtain ⟨-, w3b, w4b⟩ := nl2 z
            obtain ⟨C, J, hA, hB, hL, hR, hS⟩ := hT (nl z)
            obtain ⟨kb1, kb2, kb3, kb4, kb5⟩ := hB.keep (x' := XE') (v' := VE') (Nat.le_succ H) (fun j hj => hcE j (by omega) (by omega) (by omega) (by omega)) (fun y hy => ⟨by rw [nA, pk_un (by omega)], by rw [nC, pk_un (by omega)]⟩) (fun y _ => by rw [nr _ (by omega) (by omega) (by omega) (by omega) (by omega) (by omega)]) (fun y _ => ⟨by rw [nr _ (by omega) (by omega) (by omega) (by omega) (by omega) (by omega)], by rw [nr _ (by omega) (by omega) (by omega) (by omega) (by omega) (by omega)], by rw [nr _ (by omega) (by omega) (by omega) (by omega) (by omega) (by omega)]⟩) (fun y hy => by rw [nr _ (by omega) (by omega) (by omega) (by omega) (by omega) (by omega)])
            obtain ⟨ki, ko⟩ := hS.keep (x' := XE') (v' := VE') (Nat.le_succ H) (Nat.le_refl O) (fun j z1 z2 => hcE j (by omega) (by omega) (by omega) (by omega)) (fun k _ => by rw [nr _ (by omega) (by omega) (by omega) (by omega) (by omega) (by omega)])
            obtain ⟨S1, S2, -, -⟩ := hS
            refine ⟨C, J, hA.keep (fun j hj => hcE j (by omega) (by omega) (by omega) (by omega)) (n9 14 (by decide)) (n9 15 (by decide)) (n9 12 (by decide)), ⟨fun g hg => ?_, kb2, kb3, kb4, kb5⟩, hL.keep (fun i _ => by rw [ec]) (fun i _ => by rw [eo, ea]; exact ⟨rfl, rfl⟩) (Nat.le_refl _) (Nat.le_refl _) (fun j _ _ => hcE j (by omega) (by omega) (by omega) (by omega)) (fun y _ _ => by rw [n8']), hR.keep (fun i _ => by rw [ec]) (Or.inr ⟨eo, ea, fun r _ _ => p1 r (by omega) (by omega) (by omega) (by omega)⟩) (by omega) (Nat.le_refl _) (Nat.le_refl _) (Nat.le_refl _) (fun j _ => hcE j (by omega) (by omega) (by omega) (by omega)) (fun y _ => by rw [nr _ (by omega) (by omega) (by omega) (by omega) (by omega) (by omega)]) (fun y _ => by rw [nr _ (by omega) (by omega) (by omega) (by omega) (by omega) (by omega)]), ⟨fun g hg => ?_, fun w hw => ?_, ki, ko⟩⟩
            · rcases Nat.lt_or_eq_of_le (Nat.le_of_lt_succ hg) with zw | zw
              · exact kb1 g zw
              · subst zw
                have e1 : hc XE' VE' 162 (20 + 3 * g) = nI w3 := by
                  rw [hc_162, p162, pk_un (by omega), pk_un (by omega), pk_us]
                have e3 : hc XE' VE' 162 (20 + 3 * g + 2) = nI w5 := by
                  rw [hc_162, p162, pk_us]
                rw [e1, e3, nA, nC, pk_us, pk_us]
                exact ⟨⟨w3, w3b, rfl⟩, rfl, rfl⟩
            · by_cases cw : g = H
              · subst cw
                have e1 : VE'.1 162 (210 + (21 + 3 * g)) = nI w4 := by rw [p162, show 210 + (21 + 3 * g) = 210 + (20 + 3 * g + 1) by omega, pk_un (by omega), pk_us]
                rw [e1, nB, pk_us]
                exact ⟨⟨w4, w4b, rfl⟩, rfl⟩
              · rw [pj _ (by omega) (by omega) (by omega) (by omega), nB, pk_un cw]; exact S1 g hg
            · rw [pj _ (by omega) (by omega) (by omega) (by omega), nr _ (by omega) (by omega) (by omega) (by omega) (by omega) (by omega)]; exact S2 w hw
end

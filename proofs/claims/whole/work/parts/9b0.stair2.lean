/-! reading: a stair, both sides -/
section
variable {x v x' v' : MM} {M a : Nat} {K ts : Nat → Nat}
theorem stairX {rt S w4 : Nat} {r2 r3 : Int32} {ok6 : Bool} {x1 x2 x3 x4 x6 : MM} (ht : isT rt) (r1 : x.2.2 1 4 = rt) (c10 : x.1 rt 10 = nI S) (hS : S < 12)
    (t1 : Runs e_X4_takeFirst [.ref 1, .int (nI 3), .int (nI S), .int (nI 12)] x (fun r m => r = .int (bI true) ∧ m = x1)) (t2 : Runs e_X4_readHouseName [.ref 1] x1 (fun r m => r = .int r2 ∧ m = x2)) (t3 : ∀ T : MM → Int32 → Prop, T x3 r3 → endX x2 r2 T) (e3 : x3.2.2 1 4 = rt)
    (t4 : Runs e_X4_readInt [.ref 1, .int (nI 0), .int (nI 99)] (wI (wI x3 (rt + 4) S r2) (rt + 5) S r3) (fun r m => r = .int (nI w4) ∧ m = x4))
    (t6 : Runs e_X4_take [.ref 1, .int (nI 28)] (wI x4 (rt + 6) S (nI w4)) (fun r m => r = .int (bI ok6) ∧ m = x6)) (e6 : x6.2.2 1 4 = rt) (c6 : x6.1 rt 10 = nI S) :
    Runs e_X4_readStair [.ref 1] x (fun r m => r = .null ∧ m = wI x6 rt 10 (nI (S + 1))) := by
  have vh : vp_in (nI S) 12 := vp_in_nI hS (by omega)
  apply b_X4_readStair
  rw [r1, c10, nI_clamp (by omega)]
  refine ⟨ht.at, bcall t1 (fun z m1 e => ?_) (fun z => nomatch z)⟩
  subst e
  refine icall t2 ?_
  rintro m rfl
  refine t3 (fun m4 r4 => AtTown (m4.2.2 1 4) ∧ (vp_in (nI S) 12 ∧ (AtTown (m4.2.2 1 4) ∧ (vp_in (nI S) 12 ∧ (AtTown (m4.2.2 1 4) ∧ (∃ Pm8 : Value → MM → Prop, Runs e_X4_readInt [.ref 1, .int (0 : Int32), .int (99 : Int32)] (wI (wI m4 ((m4.2.2 1 4) + 4) S r2) ((m4.2.2 1 4) + 5) S r4) Pm8 ∧ ∀ (r8 : Int32) (m8 : MM), Pm8 (.int r8) m8 → (vp_in (nI S) 12 ∧ (∃ Pm9 : Value → MM → Prop, Runs e_X4_take [.ref 1, .int (28 : Int32)] (wI m8 ((m4.2.2 1 4) + 6) S r8) Pm9 ∧ (∀ r m9, Pm9 r m9 → r = .int 1 ∨ r = .int 0) ∧ (∀ m9, Pm9 (.int 1) m9 → (AtTown (m9.2.2 1 4) ∧ (Value.null = .null ∧ (wI m9 (m9.2.2 1 4) 10 ((m9.1 (m9.2.2 1 4) 10) + (1 : Int32))) = wI x6 rt 10 (nI (S + 1))))) ∧ (∀ m9, Pm9 (.int 0) m9 → (AtTown (m9.2.2 1 4) ∧ (Value.null = .null ∧ (wI m9 (m9.2.2 1 4) 10 ((m9.1 (m9.2.2 1 4) 10) + (1 : Int32))) = wI x6 rt 10 (nI (S + 1))))))))))))) ?_
  rw [e3]
  refine ⟨ht.at, vh, ht.at, vh, ht.at, icall t4 ?_⟩
  rintro m rfl
  have last : AtTown (x6.2.2 1 4) ∧ (Value.null = .null ∧ wI x6 (x6.2.2 1 4) 10 ((x6.1 (x6.2.2 1 4) 10) + (1 : Int32)) = wI x6 rt 10 (nI (S + 1))) := by
    rw [e6, c6, nI_1]
    exact ⟨ht.at, rfl, rfl⟩
  refine ⟨vh, bcall t6 (fun _ m e => ?_) (fun _ m e => ?_)⟩
  · subst e; exact last
  · subst e; exact last
theorem stairS {rt rs : Nat} (h : RC x v M K ts a) (hk : K a = 3) (hI : INV x v M K rt rs a) : StmtR e_X4_readStair e_X12_tellStair [] [] x v M K ts rt rs a := by
  obtain ⟨H, O, I, S, Qn, W, F, B, sz, fr, f, hD, hT⟩ := hI
  obtain ⟨⟨⟨r1, ht⟩, r2, hs⟩, ⟨l1, l2, l3, l4, l5, l6⟩, ⟨c1, c2, c3, c4, c5, c6, c7, c8⟩, ⟨m1, m2, m3, m4, m5, m6, m7, m8⟩, ⟨s1, s2, s3, s4, s5, s6, s7⟩, hN⟩ := hD
  obtain ⟨hrt, hrs⟩ := isN.ne ht hs
  have hHO : H ≤ 16 ∧ O ≤ 12 := by
    obtain ⟨-, -, z, -⟩ := hN
    exact z
  obtain ⟨ok1, X1, V1, t1, fx1, e9, J1, g1, ⟨u1, u2, u3, u4⟩, mdl1⟩ := firstJ (q := 3) (n := S) (most := 12) (base := 120) (step := 3) h hk (by decide) (by decide) l2 (by decide) (by decide) (by decide) m4
  have vf1 : VF v V1 := ⟨by rw [u1], fun r _ => by rw [u1], fun r q1 q2 _ _ => u2 r q1 q2, fun y hy => u3 y (by omega), fun j hj => u4 j (by omega), fun i _ => by rw [u2 165 (by decide) (by decide), u2 166 (by decide) (by decide)]; exact ⟨rfl, rfl⟩, fun r q1 q2 i _ => by rw [u2 r (by omega) (by omega)]⟩
  cases ok1 with
  | false =>
    refine ⟨X1, V1, ?_, fx1.xe, vf1, Or.inl ⟨J1.any, fun y => ?_⟩⟩
    · apply b_X4_readStair
      rw [r1, c3]
      exact ⟨ht.at, bcall t1 (fun z => nomatch z) fun _ m e => ⟨rfl, e⟩⟩
    · apply b_X12_tellStair
      exact mdl1 y _ (fun r m => r = .int (bI false) ∧ m = catR y V1) (fun z => nomatch z) fun _ => ⟨rfl, rfl⟩
  | true =>
    obtain ⟨hS12, a4, fv1⟩ := g1 rfl
    have N1 : NJ X1 V1 M K H O := hN.mix fx1.1 (fx1.2.1 3 (by decide)) (fx1.2.2 11 (by omega)) (fun z => e9.symm.trans z) u1 (u3 25 (by omega)) (u2 176 (by decide) (by decide)) (u2 177 (by decide) (by decide))
    obtain ⟨ok2, X2, V2, w2, i1, i2, i3, i4, i5, i6, i7, i8, i9⟩ := houseJ J1 (fun _ => N1)
    have J2 : JM ok2 X2 (tlV (tlV V2 (120 + 3 * S) (V2.1 156 29)) (120 + 3 * S + 1) (-1)) M K ts (a + 1 + 1) := (i7.mix (DX.rf X2) DV.tl).mix (DX.rf X2) DV.tl
    have hcell : (tlV (tlV V2 (120 + 3 * S) (V2.1 156 29)) (120 + 3 * S + 1) (-1)).1 162 (210 + (120 + 3 * S)) = V2.1 156 29 := by
      unfold tlV
      rw [wI_k, pk_un (by omega), wI_k, pk_us]
    obtain ⟨ok3, X3, V3, w3, j1, j3, j4, j5, j6, j7, j8, j9⟩ := endJ (H := H) (O := O) (c := 120 + 3 * S) (rF := w2) J2 (fun z => (i9 z).2.1.tl.tl) hHO.1 (by omega) (fun z z9 => by
      obtain ⟨g, g2, eg, eg9⟩ := (i9 z).2.2.1 z9
      exact ⟨g, by omega, eg, by rw [hcell]; exact eg9⟩)
    have J3 : JM ok3 (wI (wI X3 (rt + 4) S w2) (rt + 5) S w3) V3 M K ts (a + 1 + 1 + 1) := j7.mix (((DX.rf X3).r (by omega) _ _).r (by omega) _ _) (DV.rf V3)
    obtain ⟨ok4, X4, V4, w4, d1, d2, d3, d4, d5, d6, d7, d8, d9⟩ := intJ J3 (lo := 0) (hi := 99) (by decide) (by decide)
    have J4 : JM ok4 (wI X4 (rt + 6) S (nI w4)) (tlV V4 (120 + 3 * S + 2) (nI w4)) M K ts (a + 1 + 1 + 1 + 1) := d7.mix ((DX.rf X4).r (by omega) _ _) DV.tl
    obtain ⟨ok6, X6, k1, k2, k3, k4, k5⟩ := semJ J4
    -- the class's cells
    have q1 : ∀ r, r ≠ 1 → r ≠ rt + 4 → r ≠ rt + 5 → r ≠ rt + 6 → X6.1 r = x.1 r := fun r z1 z3 z4 z5 => by
      rw [k2.2.1 r z1, wI_o z5, d5.2.1 r z1, wI_o z4, wI_o z3, j5.2.1 r z1, i5.2.1 r z1, fx1.2.1 r z1]
    have qA : X6.1 (rt + 4) = upd (x.1 (rt + 4)) S w2 := by
      rw [k2.2.1 _ (by omega), wI_o (by omega), d5.2.1 _ (by omega), wI_o (by omega), wI_k, j5.2.1 _ (by omega), i5.2.1 _ (by omega), fx1.2.1 _ (by omega)]
    have qB : X6.1 (rt + 5) = upd (x.1 (rt + 5)) S w3 := by
      rw [k2.2.1 _ (by omega), wI_o (by omega), d5.2.1 _ (by omega), wI_k, wI_o (by omega), j5.2.1 _ (by omega), i5.2.1 _ (by omega), fx1.2.1 _ (by omega)]
    have qC : X6.1 (rt + 6) = upd (x.1 (rt + 6)) S (nI w4) := by
      rw [k2.2.1 _ (by omega), wI_k, d5.2.1 _ (by omega), wI_o (by omega), wI_o (by omega), j5.2.1 _ (by omega), i5.2.1 _ (by omega), fx1.2.1 _ (by omega)]
    have qy : ∀ y, y < 6 ∨ 10 < y → X6.1 1 y = x.1 1 y := fun y hy => by
      rw [k2.2.2 y hy, wI_o (by omega), d5.2.2 y hy, wI_o (by omega), wI_o (by omega), j5.2.2 y hy, i5.2.2 y hy, fx1.2.2 y hy]
    have q2 : X6.2 = x.2 := by rw [k2.1, wI_2, d5.1, wI_2, wI_2, j5.1, i5.1, fx1.1]
    have hrun := stairX ht r1 c3 hS12 t1 i1 j1 (by rw [j5.1, i5.1, fx1.1]; exact r1) d1 k1 (by rw [q2]; exact r1) (by rw [q1 rt (by omega) (by omega) (by omega) (by omega)]; exact c3)
    have hXE : XE rt rs x (wI X6 rt 10 (nI (S + 1))) := (((((((((fx1.xe.tr i5.xe).tr j5.xe).w (Or.inl ⟨by omega, by omega⟩) (by omega) S w2).w (Or.inl ⟨by omega, by omega⟩) (by omega) S w3).tr d5.xe).w (Or.inl ⟨by omega, by omega⟩) (by omega) S (nI w4)).tr k2.xe).w (Or.inl ⟨Nat.le_refl _, by omega⟩) (by omega) 10 (nI (S + 1))))
    have mrest : ∀ (y : MM) (vE : MM) (b : Bool), ((ok2 = false → b = false ∧ vE = V2) ∧ (ok2 = true → ok3 = false → b = false ∧ vE = V3) ∧ (ok2 = true → ok3 = true → ok4 = false → b = false ∧ vE = V4) ∧ (ok2 = true → ok3 = true → ok4 = true → b = true ∧ vE = tlV V4 (120 + 3 * S + 2) (nI w4))) → Runs e_X12_tellStair [.ref 156] (catR y v) (fun r m => r = .int (bI b) ∧ m = catR y vE) := by
      intro y vE b hb
      apply b_X12_tellStair
      refine mdl1 y _ (fun r m => r = .int (bI b) ∧ m = catR y vE) (fun _ => ?_) (fun z => nomatch z)
      refine bcall (i3 rfl y) (fun z m e => ?_) (fun z m e => ?_)
      · subst e
        have e29 : (catR y V2).1 156 29 = V2.1 156 29 := by rw [cr_1 (by decide)]
        rw [e29]
        refine vcall (tellM (by omega) _ y) ?_
        rintro m rfl
        rw [nI_1]
        refine vcall (tellM (by omega) _ y) ?_
        rintro m rfl
        have key := j3 z y (fun m => ∃ Pm8 : Value → MM → Prop, Runs e_X12_takesInt [.ref 156, .int (0 : Int32), .int (99 : Int32)] m Pm8 ∧ (∀ r m8, Pm8 r m8 → r = .int 1 ∨ r = .int 0) ∧ (∀ m8, Pm8 (.int 1) m8 → (∃ Pm9 : Value → MM → Prop, Runs e_X12_tell [.ref 156, .int (nI (120 + 3 * S) + (2 : Int32)), .int (m8.1 156 29)] m8 Pm9 ∧ ∀ m9, Pm9 .null m9 → (Value.int (1 : Int32) = .int (bI b) ∧ m9 = catR y vE))) ∧ (∀ m8, Pm8 (.int 0) m8 → (Value.int (0 : Int32) = .int (bI b) ∧ m8 = catR y vE))) (fun m => Value.int (0 : Int32) = .int (bI b) ∧ m = catR y vE) (fun z3 => ?_) (fun z3 => ?_)
        · unfold endM at key
          rw [nI_1] at key
          exact key
        · refine bcall (d3 z3 y) (fun z4 m e => ?_) (fun z4 m e => ?_)
          · subst e
            have e29 : (catR y V4).1 156 29 = nI w4 := by rw [cr_1 (by decide)]; exact (d9 z4).2.1
            rw [e29, show (2 : Int32) = nI 2 from rfl, nI_add]
            refine vcall (tellM (by omega) _ y) ?_
            rintro m rfl
            obtain ⟨b1, b2⟩ := hb.2.2.2 z z3 z4
            rw [b1, b2]
            exact ⟨rfl, rfl⟩
          · obtain ⟨b1, b2⟩ := hb.2.2.1 z z3 z4
            rw [b1, b2]
            exact ⟨rfl, e⟩
        · obtain ⟨b1, b2⟩ := hb.2.1 z z3
          rw [b1, b2]
          exact ⟨rfl, rfl⟩
      · obtain ⟨b1, b2⟩ := hb.1 z
        rw [b1, b2]
        exact ⟨rfl, e⟩
    have vf2 : VF v V2 := vf1.tr i6.me
    have vf3 : VF v V3 := ((vf2.tl _).tl _).tr j6.me
    have vf4 : VF v V4 := vf3.tr d6.me
    cases ok2 with
    | false =>
      obtain ⟨z1, z2⟩ := j4 rfl
      subst z1
      obtain ⟨g1, g2, g3⟩ := d4 rfl
      subst g1
      have z4 := k5 rfl
      refine ⟨_, V2, hrun, hXE, vf2, Or.inl ⟨?_, fun y => mrest y V2 false ⟨fun _ => ⟨rfl, rfl⟩, (fun z => nomatch z), (fun z => nomatch z), (fun z => nomatch z)⟩⟩⟩
      rw [z4, g2]
      refine (j7.mix (((((DX.rf X3).r (by omega) _ _).r (by omega) _ _).r (by omega) _ _).r (by omega) _ _) ?_).any
      rw [z2]
      exact ((DV.tl).tr (DV.tl)).sy
    | true =>
      cases ok3 with
      | false =>
        obtain ⟨g1, g2, g3⟩ := d4 rfl
        subst g1
        have z4 := k5 rfl
        refine ⟨_, V3, hrun, hXE, vf3, Or.inl ⟨?_, fun y => mrest y V3 false ⟨(fun z => nomatch z), fun _ _ => ⟨rfl, rfl⟩, (fun _ z => nomatch z), (fun _ z => nomatch z)⟩⟩⟩
        rw [z4, g2]
        exact (j7.mix (((((DX.rf X3).r (by omega) _ _).r (by omega) _ _).r (by omega) _ _).r (by omega) _ _) (DV.rf V3)).any
      | true =>
        cases ok4 with
        | false =>
          have z4 := k5 rfl
          refine ⟨_, V4, hrun, hXE, vf4, Or.inl ⟨?_, fun y => mrest y V4 false ⟨(fun z => nomatch z), (fun _ z => nomatch z), fun _ _ _ => ⟨rfl, rfl⟩, (fun _ _ z => nomatch z)⟩⟩⟩
          rw [z4]
          exact (d7.mix (((DX.rf X4).r (by omega) _ _).r (by omega) _ _) (DV.rf V4)).any
        | true =>
          have se := (k4 rfl).1
          obtain ⟨-, -, hg2, -, -⟩ := i9 rfl
          obtain ⟨-, N3, hg3⟩ := j9 rfl
          refine ⟨_, tlV V4 (120 + 3 * S + 2) (nI w4), hrun, hXE, vf4.tl _, Or.inr ⟨fun y => mrest y _ true ⟨(fun z => nomatch z), (fun _ z => nomatch z), (fun _ _ z => nomatch z), fun _ _ _ => ⟨rfl, rfl⟩⟩, a + 1 + 1 + 1 + 1, ok6, se.mix ((DX.rf X6).r (by omega) _ _) (DV.rf _), by omega, fun hok => ?_⟩⟩
          have a4' := (k4 rfl).2 hok
          have p1 : ∀ r, r ≠ 156 → r ≠ 162 → (tlV V4 (120 + 3 * S + 2) (nI w4)).1 r = v.1 r := fun r z1 z2 => by
            unfold tlV
            rw [wI_o z2, d6.2.1 r z1, j6.2.1 r z1 z2]
            unfold tlV
            rw [wI_o z2, wI_o z2, i6.2.1 r z1, u2 r z1 z2]
          have pA : ∀ j, j ≠ 210 + 3 → j ≠ 210 + (120 + 3 * S) → j ≠ 210 + (120 + 3 * S + 1) → j ≠ 210 + (120 + 3 * S + 2) → (tlV V4 (120 + 3 * S + 2) (nI w4)).1 162 j = v.1 162 j := fun j z1 z2 z3 z4 => by
            unfold tlV
            rw [wI_k, pk_un z4, d6.2.1 162 (by decide), j6.2.2.2 j z3]
            unfold tlV
            rw [wI_k, pk_un z3, wI_k, pk_un z2, i6.2.1 162 (by decide), fv1.2.1 162 (by decide)]
            unfold tlV
            rw [wI_k, pk_un z1]
          have pS : (tlV V4 (120 + 3 * S + 2) (nI w4)).1 162 (210 + 3) = nI (S + 1) := by
            unfold tlV
            rw [wI_k, pk_un (by omega), d6.2.1 162 (by decide), j6.2.2.2 _ (by omega)]
            unfold tlV
            rw [wI_k, pk_un (by omega), wI_k, pk_un (by omega), i6.2.1 162 (by decide), fv1.2.1 162 (by decide)]
            unfold tlV
            rw [wI_k, pk_us]
          have pF : (tlV V4 (120 + 3 * S + 2) (nI w4)).1 162 (210 + (120 + 3 * S)) = V2.1 156 29 := by
            unfold tlV
            rw [wI_k, pk_un (by omega), d6.2.1 162 (by decide), j6.2.2.2 _ (by omega)]
            exact hcell
          have pT : (tlV V4 (120 + 3 * S + 2) (nI w4)).1 162 (210 + (120 + 3 * S + 1)) = V3.1 162 (210 + (120 + 3 * S + 1)) := by
            unfold tlV
            rw [wI_k, pk_un (by omega), d6.2.1 162 (by decide)]
          have pR : (tlV V4 (120 + 3 * S + 2) (nI w4)).1 162 (210 + (120 + 3 * S + 2)) = nI w4 := by
            unfold tlV
            rw [wI_k, pk_us]
          have pO : (tlV (tlV V2 (120 + 3 * S) (V2.1 156 29)) (120 + 3 * S + 1) (-1)).1 162 (210 + (120 + 3 * S + 1)) = -1 := by
            unfold tlV
            rw [wI_k, pk_us]
          have pV2 : (tlV V4 (120 + 3 * S + 2) (nI w4)).2 = V3.2 := by unfold tlV; rw [wI_2, d6.1]
          have pV25 : (tlV V4 (120 + 3 * S + 2) (nI w4)).1 156 25 = V3.1 156 25 := by unfold tlV; rw [wI_o (by decide), d6.2.2 25 (by omega)]
          have pV : ∀ r, r ≠ 156 → r ≠ 162 → (tlV V4 (120 + 3 * S + 2) (nI w4)).1 r = V3.1 r := fun r z z2 => by unfold tlV; rw [wI_o z2, d6.2.1 r z]
          have pj : ∀ j, j ≠ 3 → j ≠ 120 + 3 * S → j ≠ 120 + 3 * S + 1 → j ≠ 120 + 3 * S + 2 → (tlV V4 (120 + 3 * S + 2) (nI w4)).1 162 (210 + j) = v.1 162 (210 + j) := fun j z1 z2 z3 z4 => pA _ (by omega) (by omega) (by omega) (by omega)
          generalize hvE : tlV V4 (120 + 3 * S + 2) (nI w4) = VE' at *
          generalize hxE : wI X6 rt 10 (nI (S + 1)) = XE' at *
          have n9 : ∀ y, y ≠ 10 → XE'.1 rt y = x.1 rt y := fun y hy => by
            rw [← hxE, wI_k, pk_un hy, q1 rt (by omega) (by omega) (by omega) (by omega)]
          have nr : ∀ r, r ≠ 1 → r ≠ rt → r ≠ rt + 4 → r ≠ rt + 5 → r ≠ rt + 6 → XE'.1 r = x.1 r := fun r z1 z2 z3 z4 z5 => by
            rw [← hxE, wI_o z2, q1 r z1 z3 z4 z5]
          have ny : ∀ y, y < 6 ∨ 10 < y → XE'.1 1 y = x.1 1 y := fun y hy => by rw [← hxE, wI_o (by omega)]; exact qy y hy
          have nA : XE'.1 (rt + 4) = upd (x.1 (rt + 4)) S w2 := by rw [← hxE, wI_o (by omega)]; exact qA
          have nB : XE'.1 (rt + 5) = upd (x.1 (rt + 5)) S w3 := by rw [← hxE, wI_o (by omega)]; exact qB
          have nC : XE'.1 (rt + 6) = upd (x.1 (rt + 6)) S (nI w4) := by rw [← hxE, wI_o (by omega)]; exact qC
          have nx8 : XE'.1 rt 10 = nI (S + 1) := by rw [← hxE, wI_k, pk_us]
          have nx2 : XE'.2 = x.2 := by rw [← hxE]; exact q2
          have nl4 : XE'.1 1 9 = 0 → X3.1 1 9 = 0 ∧ w4 ≤ 99 := fun z => by
            rw [← hxE, wI_o (by omega), k3, wI_o (by omega)] at z
            have z3 := d8 z
            rw [wI_o (by omega), wI_o (by omega)] at z3
            exact ⟨z3, ((d9 rfl).2.2 z).2⟩
          have nl2 : XE'.1 1 9 = 0 → X2.1 1 9 = 0 := fun z => j8 (nl4 z).1
          have nl : XE'.1 1 9 = 0 → x.1 1 9 = 0 := fun z => e9.symm.trans (i8 (nl2 z))
          have N4 : NJ XE' VE' M K H O := N3.mix (nx2.trans (by rw [j5.1, i5.1, fx1.1])) (by rw [nr 3 (by decide) (by omega) (by omega) (by omega) (by omega), j5.2.1 3 (by decide), i5.2.1 3 (by decide), fx1.2.1 3 (by decide)]) (by rw [ny 11 (by omega), j5.2.2 11 (by omega), i5.2.2 11 (by omega), fx1.2.2 11 (by omega)]) (fun z => (nl4 z).1) pV2 pV25 (pV 176 (by decide) (by decide)) (pV 177 (by decide) (by decide))
          have hcE : ∀ j, j ≠ 3 → j ≠ 120 + 3 * S → j ≠ 120 + 3 * S + 1 → j ≠ 120 + 3 * S + 2 → hc XE' VE' 162 j = hc x v 162 j := fun j z1 z2 z3 z4 => pj j z1 z2 z3 z4
          have eo : opV VE' = opV v := by unfold opV; rw [p1 165 (by decide) (by decide)]
          have ea : vaV VE' = vaV v := by unfold vaV; rw [p1 166 (by decide) (by decide)]
          have ec : cdX XE' rt = cdX x rt := nr _ (by omega) (by omega) (by omega) (by omega) (by omega)
          have n8' : XE'.1 (rt + 8) = x.1 (rt + 8) := nr _ (by omega) (by omega) (by omega) (by omega) (by omega)
          refine ⟨H, O, I, S + 1, Qn, W, F, B, sz, fr, f, ⟨⟨⟨by rw [nx2]; exact r1, ht⟩, by rw [nx2]; exact r2, hs⟩, ⟨l1, by omega, l3, l4, l5, l6⟩, ⟨(n9 8 (by decide)).trans c1, (n9 9 (by decide)).trans c2, nx8, (n9 11 (by decide)).trans c4, (n9 13 (by decide)).trans c5, by rw [n8']; exact c6, by rw [n8']; exact c7, (ny 12 (by omega)).trans c8⟩,
            ⟨(pj 0 (by omega) (by omega) (by omega) (by omega)).trans m1, (pj 1 (by omega) (by omega) (by omega) (by omega)).trans m2, (pj 2 (by omega) (by omega) (by omega) (by omega)).trans m3, pS, (pj 4 (by omega) (by omega) (by omega) (by omega)).trans m5, (pj 5 (by omega) (by omega) (by omega) (by omega)).trans m6, (pj 8 (by omega) (by omega) (by omega) (by omega)).trans m7, (pj 9 (by omega) (by omega) (by omega) (by omega)).trans m8⟩,
            ⟨by rw [n8']; exact s1, by rw [p1 164 (by decide) (by decide)]; exact s2, by rw [p1 167 (by decide) (by decide)]; exact s3, by omega, by omega, by omega, by omega⟩, N4⟩, fun z => ?_⟩
          obtain ⟨z3, w4b⟩ := nl4 z
          obtain ⟨g, g2, eg, eg9⟩ := hg2 (nl2 z)
          have g2 : g < H := by omega
          obtain ⟨C, J, hA, hB, hL, hR, hS⟩ := hT (nl z)
          have kB := hB.keep (x' := XE') (v' := VE') (Nat.le_refl H) (fun j hj => hcE j (by omega) (by omega) (by omega) (by omega)) (fun y _ => ⟨by rw [nr _ (by omega) (by omega) (by omega) (by omega) (by omega)], by rw [nr _ (by omega) (by omega) (by omega) (by omega) (by omega)]⟩) (fun y _ => by rw [nr _ (by omega) (by omega) (by omega) (by omega) (by omega)]) (fun y hy => ⟨by rw [nA, pk_un (by omega)], by rw [nB, pk_un (by omega)], by rw [nC, pk_un (by omega)]⟩) (fun y _ => by rw [nr _ (by omega) (by omega) (by omega) (by omega) (by omega)])
          obtain ⟨kb1, kb2, kb3, kb4, kb5⟩ := kB
          have f1 : hc XE' VE' 162 (120 + 3 * S) = nI g := pF.trans eg9
          have f3 : hc XE' VE' 162 (120 + 3 * S + 2) = nI w4 := pR
          have f2 : (hc XE' VE' 162 (120 + 3 * S + 1) = -nI 1 ∨ ∃ b : Nat, b < H ∧ b ≠ g ∧ hc XE' VE' 162 (120 + 3 * S + 1) = nI b) ∧ w3 = hc XE' VE' 162 (120 + 3 * S + 1) := by
            have e0 : hc XE' VE' 162 (120 + 3 * S + 1) = V3.1 162 (210 + (120 + 3 * S + 1)) := pT
            rw [e0]
            rcases hg3 z3 with ⟨y1, y2⟩ | ⟨b, b1, b2, b3, b4⟩
            · rw [y2, pO, y1]
              exact ⟨Or.inl rfl, rfl⟩
            · rw [b4, b2]
              refine ⟨Or.inr ⟨b, b1, fun e => b3 ?_, rfl⟩, rfl⟩
              rw [b2, eg, e]
          refine ⟨C, J, hA.keep (fun j hj => hcE j (by omega) (by omega) (by omega) (by omega)) (n9 14 (by decide)) (n9 15 (by decide)) (n9 12 (by decide)), ⟨kb1, kb2, fun y hy => ?_, kb4, kb5⟩, hL.keep (fun i _ => by rw [ec]) (fun i _ => by rw [eo, ea]; exact ⟨rfl, rfl⟩) (Nat.le_refl _) (Nat.le_refl _) (fun j _ _ => hcE j (by omega) (by omega) (by omega) (by omega)) (fun y _ _ => by rw [n8']), hR.keep (fun i _ => by rw [ec]) (Or.inr ⟨eo, ea, fun r _ _ => p1 r (by omega) (by omega)⟩) (by omega) (Nat.le_refl _) (Nat.le_refl _) (Nat.le_refl _) (fun j _ => hcE j (by omega) (by omega) (by omega) (by omega)) (fun y _ => by rw [nr _ (by omega) (by omega) (by omega) (by omega) (by omega)]) (fun y _ => by rw [nr _ (by omega) (by omega) (by omega) (by omega) (by omega)]),
            hS.all (Nat.le_refl H) (Nat.le_refl O) (fun j z1 z2 => hcE j (by omega) (by omega) (by omega) (by omega)) (fun k _ => by rw [nr _ (by omega) (by omega) (by omega) (by omega) (by omega)]) (fun j _ => ⟨pj _ (by omega) (by omega) (by omega) (by omega), by rw [nr _ (by omega) (by omega) (by omega) (by omega) (by omega)]⟩) (fun j _ => ⟨pj _ (by omega) (by omega) (by omega) (by omega), by rw [nr _ (by omega) (by omega) (by omega) (by omega) (by omega)]⟩)⟩
          rcases Nat.lt_or_eq_of_le (Nat.le_of_lt_succ hy) with zw | zw
          · exact kb3 y zw
          · subst zw
            refine ⟨⟨g, w4, g2, w4b, f1, f3, f2.1⟩, ?_, ?_, ?_⟩
            · rw [nA, pk_us, f1]; exact eg
            · rw [nB, pk_us]; exact f2.2
            · rw [nC, pk_us, f3]
end

/-! reading: who is in an office, both sides -/
section
variable {x v x' v' : MM} {M a : Nat} {K ts : Nat → Nat}
theorem DX.rR (h : DX x x') {r : Nat} (hr : r ≠ 1 ∧ r ≠ 5 ∧ r ≠ 7 ∧ r ≠ 8) (f : Nat → Int32) : DX x (wR x' r f) := ⟨h.1, by rw [wR_o (Ne.symm hr.2.1)]; exact h.2.1, by rw [wR_o (Ne.symm hr.2.2.1)]; exact h.2.2.1, by rw [wR_o (Ne.symm hr.2.2.2)]; exact h.2.2.2.1, fun y y1 y2 => by rw [wR_o (Ne.symm hr.1)]; exact h.2.2.2.2 y y1 y2⟩
theorem XE.wR_ {rt rs r : Nat} (h : XE rt rs x x') (hr : (rt ≤ r ∧ r ≤ rt + 13) ∨ (rs + 1 ≤ r ∧ r ≤ rs + 3)) (h1 : r ≠ 1) (f : Nat → Int32) : XE rt rs x (wR x' r f) := ⟨h.1, h.2.1, fun q q1 q2 q3 => by rw [wR_o (by omega)]; exact h.2.2.1 q q1 q2 q3, fun y hy => by rw [wR_o (Ne.symm h1)]; exact h.2.2.2 y hy⟩
theorem NJ.tl {H O j : Nat} {w : Int32} (h : NJ x v M K H O) : NJ x (tlV v j w) M K H O := h.mix rfl rfl rfl (fun z => z) rfl (by unfold tlV; rw [wI_o (by decide)]) (by unfold tlV; rw [wI_o (by decide)]) (by unfold tlV; rw [wI_o (by decide)])
theorem inX {rs I : Nat} {r2 r3 : Int32} {ok4 : Bool} {x1 x2 x3 x4 : MM} (hs : isN rs) (c12 : x.1 1 12 = nI I) (hg : r2 = -1 ∨ ∃ g : Nat, g < 16 ∧ r2 = nI g)
    (t1 : Runs e_X4_takeFirst [.ref 1, .int (nI 2), .int (nI I), .int (nI 12)] x (fun r m => r = .int (bI true) ∧ m = x1)) (t2 : Runs e_X4_readHouseName [.ref 1] x1 (fun r m => r = .int r2 ∧ m = x2)) (t3 : Runs e_X4_readOfficeName [.ref 1] x2 (fun r m => r = .int r3 ∧ m = x3))
    (t4 : Runs e_X4_take [.ref 1, .int (nI 28)] x3 (fun r m => r = .int (bI ok4) ∧ m = x4)) (e4 : x4.2.2 1 5 = rs) (c4 : x4.1 1 12 = nI I) :
    ∃ fs : Nat → Int32, Runs e_X4_readIn [.ref 1] x (fun r m => r = .null ∧ m = wR (wI x4 1 12 (nI (I + 1))) (rs + 2) fs) ∧ ∀ g : Nat, g < 16 → r2 = nI g → ¬ r3 = -1 → ∀ k, k < 16 → fs k = setF (x4.1 (rs + 2)) g r3 k := by
  have hrs : rs = 24 ∨ rs = 114 := hs
  have body : ∀ E : MM, ((r2 = (-1 : Int32) → (Value.null = .null ∧ (wI x4 1 12 ((x4.1 1 12) + (1 : Int32))) = E)) ∧ (¬ r2 = (-1 : Int32) → ((r3 = (-1 : Int32) → (Value.null = .null ∧ wI x4 1 12 ((x4.1 1 12) + (1 : Int32)) = E)) ∧ (¬ r3 = (-1 : Int32) → (AtState (x4.2.2 1 5) ∧ (∃ Pm6 : Value → MM → Prop, Runs e_X6_settle [.ref (x4.2.2 1 5), .int r2, .int r3] (wI x4 1 12 ((x4.1 1 12) + (1 : Int32))) Pm6 ∧ ∀ m6, Pm6 .null m6 → (Value.null = .null ∧ m6 = E))))))) → Runs e_X4_readIn [.ref 1] x (fun r m => r = .null ∧ m = E) := by
    intro E last
    apply b_X4_readIn
    rw [c12]
    refine bcall t1 (fun z m1 e => ?_) (fun z => nomatch z)
    subst e
    refine icall t2 ?_
    rintro m rfl
    refine icall t3 ?_
    rintro m rfl
    refine bcall t4 (fun _ m e => ?_) (fun _ m e => ?_)
    · subst e; exact last
    · subst e; exact last
  by_cases hc : r2 = -1 ∨ r3 = -1
  · refine ⟨(wI x4 1 12 (nI (I + 1))).1 (rs + 2), ?_, fun g hg16 eg ne => ?_⟩
    · rw [wR_self]
      apply body
      rw [c4, nI_1]
      refine ⟨fun _ => ⟨rfl, rfl⟩, fun z => ⟨fun _ => ⟨rfl, rfl⟩, fun z2 => ?_⟩⟩
      rcases hc with w | w
      · exact absurd w z
      · exact absurd w z2
    · rcases hc with w | w
      · rw [eg] at w
        exact absurd w (nI_nm1 (by omega))
      · exact absurd w ne
  · obtain ⟨g, g16, eg⟩ : ∃ g : Nat, g < 16 ∧ r2 = nI g := by
      rcases hg with w | w
      · exact absurd (Or.inl w) hc
      · exact w
    have n2 : ¬ r2 = -1 := fun w => hc (Or.inl w)
    have n3 : ¬ r3 = -1 := fun w => hc (Or.inr w)
    refine ⟨fb_put (x4.1 (rs + 2)) (setF (x4.1 (rs + 2)) g r3) 0 16, ?_, fun g' hg16 eg' _ k hk => ?_⟩
    · apply body
      rw [c4, nI_1, e4]
      refine ⟨fun w => absurd w n2, fun _ => ⟨fun w => absurd w n3, fun _ => ⟨hs.s.at, ?_⟩⟩⟩
      rw [eg]
      refine vcall (settleC_ok hs.s g16 r3 _) ?_
      rintro m rfl
      rw [wI_o (show rs + 2 ≠ 1 by omega)]
      exact ⟨rfl, rfl⟩
    · have : g' = g := (nI_eq (by omega) (by omega)).mp (eg'.symm.trans eg)
      subst this
      rw [put16 hk]
theorem inS {rt rs : Nat} (h : RC x v M K ts a) (hk : K a = 2) (hI : INV x v M K rt rs a) : StmtR e_X4_readIn e_X12_tellIn [] [] x v M K ts rt rs a := by
  obtain ⟨H, O, I, S, Qn, W, F, B, sz, fr, f, hD, hT⟩ := hI
  obtain ⟨⟨⟨r1, ht⟩, r2, hs⟩, ⟨l1, l2, l3, l4, l5, l6⟩, ⟨c1, c2, c3, c4, c5, c6, c7, c8⟩, ⟨m1, m2, m3, m4, m5, m6, m7, m8⟩, ⟨s1, s2, s3, s4, s5, s6, s7⟩, hN⟩ := hD
  obtain ⟨hrt, hrs⟩ := isN.ne ht hs
  have hHO : H ≤ 16 ∧ O ≤ 12 := by
    obtain ⟨-, -, z, -⟩ := hN
    exact z
  obtain ⟨ok1, X1, V1, t1, fx1, e9, J1, g1, ⟨u1, u2, u3, u4⟩, mdl1⟩ := firstJ (q := 2) (n := I) (most := 12) (base := 90) (step := 2) h hk (by decide) (by decide) l1 (by decide) (by decide) (by decide) m3
  have vf1 : VF v V1 := ⟨by rw [u1], fun r _ => by rw [u1], fun r q1 q2 _ _ => u2 r q1 q2, fun y hy => u3 y (by omega), fun j hj => u4 j (by omega), fun i _ => by rw [u2 165 (by decide) (by decide), u2 166 (by decide) (by decide)]; exact ⟨rfl, rfl⟩, fun r q1 q2 i _ => by rw [u2 r (by omega) (by omega)]⟩
  cases ok1 with
  | false =>
    refine ⟨X1, V1, ?_, fx1.xe, vf1, Or.inl ⟨J1.any, fun y => ?_⟩⟩
    · apply b_X4_readIn
      rw [c8]
      exact bcall t1 (fun z => nomatch z) fun _ m e => ⟨rfl, e⟩
    · apply b_X12_tellIn
      exact mdl1 y _ (fun r m => r = .int (bI false) ∧ m = catR y V1) (fun z => nomatch z) fun _ => ⟨rfl, rfl⟩
  | true =>
    obtain ⟨hI, a4, fv1⟩ := g1 rfl
    have N1 : NJ X1 V1 M K H O := hN.mix fx1.1 (fx1.2.1 3 (by decide)) (fx1.2.2 11 (by omega)) (fun z => e9.symm.trans z) u1 (u3 25 (by omega)) (u2 176 (by decide) (by decide)) (u2 177 (by decide) (by decide))
    obtain ⟨ok2, X2, V2, w2, i1, i2, i3, i4, i5, i6, i7, i8, i9⟩ := houseJ J1 (fun _ => N1)
    have J2 : JM ok2 X2 (tlV V2 (90 + 2 * I) (V2.1 156 29)) M K ts (a + 1 + 1) := i7.mix (DX.rf X2) DV.tl
    obtain ⟨ok3, X3, V3, w3, j1, j2, j3, j4, j5, j6, j7, j8, j9⟩ := officeJ J2 (fun z => (i9 z).2.1.tl)
    have J3 : JM ok3 X3 (tlV V3 (90 + 2 * I + 1) (V3.1 156 29)) M K ts (a + 1 + 1 + 1) := j7.mix (DX.rf X3) DV.tl
    obtain ⟨ok4, X4, k1, k2, k3, k4, k5⟩ := semJ J3
    have q1 : ∀ r, r ≠ 1 → X4.1 r = x.1 r := fun r z1 => by rw [k2.2.1 r z1, j5.2.1 r z1, i5.2.1 r z1, fx1.2.1 r z1]
    have qy : ∀ y, y < 6 ∨ 10 < y → X4.1 1 y = x.1 1 y := fun y hy => by rw [k2.2.2 y hy, j5.2.2 y hy, i5.2.2 y hy, fx1.2.2 y hy]
    have q2 : X4.2 = x.2 := by rw [k2.1, j5.1, i5.1, fx1.1]
    obtain ⟨fs, hrun, hfs⟩ := inX hs c8 i2 t1 i1 j1 k1 (by rw [q2]; exact r2) (by rw [qy 12 (by omega)]; exact c8)
    have hXE : XE rt rs x (wR (wI X4 1 12 (nI (I + 1))) (rs + 2) fs) := ((((fx1.xe.tr i5.xe).tr j5.xe).tr k2.xe).w1 (by omega) _).wR_ (Or.inr ⟨by omega, by omega⟩) (by omega) fs
    have mrest : ∀ (y : MM) (vE : MM) (b : Bool), ((ok2 = false → b = false ∧ vE = V2) ∧ (ok2 = true → ok3 = false → b = false ∧ vE = V3) ∧ (ok2 = true → ok3 = true → b = true ∧ vE = tlV V3 (90 + 2 * I + 1) (V3.1 156 29))) → Runs e_X12_tellIn [.ref 156] (catR y v) (fun r m => r = .int (bI b) ∧ m = catR y vE) := by
      intro y vE b hb
      apply b_X12_tellIn
      refine mdl1 y _ (fun r m => r = .int (bI b) ∧ m = catR y vE) (fun _ => ?_) (fun z => nomatch z)
      refine bcall (i3 rfl y) (fun z m e => ?_) (fun z m e => ?_)
      · subst e
        have e29 : (catR y V2).1 156 29 = V2.1 156 29 := by rw [cr_1 (by decide)]
        rw [e29]
        refine vcall (tellM (by omega) _ y) ?_
        rintro m rfl
        refine bcall (j3 z y) (fun z3 m e => ?_) (fun z3 m e => ?_)
        · subst e
          have e29 : (catR y V3).1 156 29 = V3.1 156 29 := by rw [cr_1 (by decide)]
          rw [e29, nI_1]
          refine vcall (tellM (by omega) _ y) ?_
          rintro m rfl
          obtain ⟨b1, b2⟩ := hb.2.2 z z3
          rw [b1, b2]
          exact ⟨rfl, rfl⟩
        · obtain ⟨b1, b2⟩ := hb.2.1 z z3
          rw [b1, b2]
          exact ⟨rfl, e⟩
      · obtain ⟨b1, b2⟩ := hb.1 z
        rw [b1, b2]
        exact ⟨rfl, e⟩
    have vf2 : VF v V2 := vf1.tr i6.me
    have vf3 : VF v V3 := (vf2.tl _).tr j6.me
    cases ok2 with
    | false =>
      obtain ⟨z1, z2, z3⟩ := j4 rfl
      subst z1
      have z4 := k5 rfl
      refine ⟨_, V2, hrun, hXE, vf2, Or.inl ⟨?_, fun y => mrest y V2 false ⟨fun _ => ⟨rfl, rfl⟩, (fun z => nomatch z), (fun z => nomatch z)⟩⟩⟩
      rw [z4, z2]
      exact (i7.mix (((DX.rf X2).w (by omega) _).rR (by omega) _) (DV.rf V2)).any
    | true =>
      cases ok3 with
      | false =>
        have z4 := k5 rfl
        refine ⟨_, V3, hrun, hXE, vf3, Or.inl ⟨?_, fun y => mrest y V3 false ⟨(fun z => nomatch z), fun _ _ => ⟨rfl, rfl⟩, (fun _ z => nomatch z)⟩⟩⟩
        rw [z4]
        exact (j7.mix (((DX.rf X3).w (by omega) _).rR (by omega) _) (DV.rf V3)).any
      | true =>
        have se := (k4 rfl).1
        obtain ⟨-, -, hg2, -, -⟩ := i9 rfl
        obtain ⟨-, N3, hg3, -, -⟩ := j9 rfl
        refine ⟨_, tlV V3 (90 + 2 * I + 1) (V3.1 156 29), hrun, hXE, vf3.tl _, Or.inr ⟨fun y => mrest y _ true ⟨(fun z => nomatch z), (fun _ z => nomatch z), fun _ _ => ⟨rfl, rfl⟩⟩, a + 1 + 1 + 1, ok4, se.mix (((DX.rf X4).w (by omega) _).rR (by omega) _) (DV.rf _), by omega, fun hok => ?_⟩⟩
        have a4' := (k4 rfl).2 hok
        have p1 : ∀ r, r ≠ 156 → r ≠ 162 → (tlV V3 (90 + 2 * I + 1) (V3.1 156 29)).1 r = v.1 r := fun r z1 z2 => by
          unfold tlV
          rw [wI_o z2, j6.2.1 r z1]
          unfold tlV
          rw [wI_o z2, i6.2.1 r z1, u2 r z1 z2]
        have p162 : (tlV V3 (90 + 2 * I + 1) (V3.1 156 29)).1 162 = upd (upd (upd (v.1 162) (210 + 2) (nI (I + 1))) (210 + (90 + 2 * I)) (V2.1 156 29)) (210 + (90 + 2 * I + 1)) (V3.1 156 29) := by
          unfold tlV
          rw [wI_k, j6.2.1 162 (by decide)]
          unfold tlV
          rw [wI_k, i6.2.1 162 (by decide), fv1.2.1 162 (by decide)]
          unfold tlV
          rw [wI_k]
        have pV2 : (tlV V3 (90 + 2 * I + 1) (V3.1 156 29)).2 = V3.2 := by unfold tlV; rw [wI_2]
        have pV : ∀ r, r ≠ 162 → (tlV V3 (90 + 2 * I + 1) (V3.1 156 29)).1 r = V3.1 r := fun r z => by unfold tlV; rw [wI_o z]
        have pj : ∀ j, j ≠ 2 → j ≠ 90 + 2 * I → j ≠ 90 + 2 * I + 1 → (tlV V3 (90 + 2 * I + 1) (V3.1 156 29)).1 162 (210 + j) = v.1 162 (210 + j) := fun j z1 z2 z3 => by
          rw [p162, pk_un (by omega), pk_un (by omega), pk_un (by omega)]
        generalize hw2 : V2.1 156 29 = w92 at *
        generalize hw3 : V3.1 156 29 = w93 at *
        generalize hvE : tlV V3 (90 + 2 * I + 1) w93 = VE' at *
        generalize hxE : wR (wI X4 1 12 (nI (I + 1))) (rs + 2) fs = XE' at *
        have nr : ∀ r, r ≠ 1 → r ≠ rs + 2 → XE'.1 r = x.1 r := fun r z1 z2 => by
          rw [← hxE, wR_o z2, wI_o z1, q1 r z1]
        have nF : XE'.1 (rs + 2) = fs := by rw [← hxE, wR_k]
        have ny1 : XE'.1 1 = upd (X4.1 1) 12 (nI (I + 1)) := by rw [← hxE, wR_o (by omega), wI_k]
        have nx2 : XE'.2 = x.2 := by rw [← hxE]; exact q2
        have nl3 : XE'.1 1 9 = 0 → X3.1 1 9 = 0 := fun z => by
          rw [ny1, pk_un (by decide), k3] at z
          exact z
        have nl2 : XE'.1 1 9 = 0 → X2.1 1 9 = 0 := fun z => j8 (nl3 z)
        have nl : XE'.1 1 9 = 0 → x.1 1 9 = 0 := fun z => e9.symm.trans (i8 (nl2 z))
        have N4 : NJ XE' VE' M K H O := N3.mix (nx2.trans (by rw [j5.1, i5.1, fx1.1])) (by rw [nr 3 (by decide) (by omega), j5.2.1 3 (by decide), i5.2.1 3 (by decide), fx1.2.1 3 (by decide)]) (by rw [ny1, pk_un (by decide), k2.2.2 11 (by omega)]) nl3 pV2 (by rw [pV 156 (by decide)]) (pV 176 (by decide)) (pV 177 (by decide))
        have hcE : ∀ j, j ≠ 2 → j ≠ 90 + 2 * I → j ≠ 90 + 2 * I + 1 → hc XE' VE' 162 j = hc x v 162 j := fun j z1 z2 z3 => pj j z1 z2 z3
        have eo : opV VE' = opV v := by unfold opV; rw [p1 165 (by decide) (by decide)]
        have ea : vaV VE' = vaV v := by unfold vaV; rw [p1 166 (by decide) (by decide)]
        have ec : cdX XE' rt = cdX x rt := nr _ (by omega) (by omega)
        have nt : XE'.1 rt = x.1 rt := nr _ (by omega) (by omega)
        have nt8 : XE'.1 (rt + 8) = x.1 (rt + 8) := nr _ (by omega) (by omega)
        refine ⟨H, O, I + 1, S, Qn, W, F, B, sz, fr, f, ⟨⟨⟨by rw [nx2]; exact r1, ht⟩, by rw [nx2]; exact r2, hs⟩, ⟨by omega, l2, l3, l4, l5, l6⟩, ⟨by rw [nt]; exact c1, by rw [nt]; exact c2, by rw [nt]; exact c3, by rw [nt]; exact c4, by rw [nt]; exact c5, by rw [nt8]; exact c6, by rw [nt8]; exact c7, by rw [ny1, pk_us]⟩,
          ⟨(pj 0 (by omega) (by omega) (by omega)).trans m1, (pj 1 (by omega) (by omega) (by omega)).trans m2, by rw [p162, pk_un (by omega), pk_un (by omega), pk_us], (pj 3 (by omega) (by omega) (by omega)).trans m4, (pj 4 (by omega) (by omega) (by omega)).trans m5, (pj 5 (by omega) (by omega) (by omega)).trans m6, (pj 8 (by omega) (by omega) (by omega)).trans m7, (pj 9 (by omega) (by omega) (by omega)).trans m8⟩,
          ⟨by rw [nt8]; exact s1, by rw [p1 164 (by decide) (by decide)]; exact s2, by rw [p1 167 (by decide) (by decide)]; exact s3, by omega, by omega, by omega, by omega⟩, N4⟩, fun z => ?_⟩
        obtain ⟨g, g2, eg, eg9⟩ := hg2 (nl2 z)
        have g2 : g < H := by omega
        obtain ⟨o, o2, eo', eo9⟩ := hg3 (nl3 z)
        have o2 : o < O := by omega
        obtain ⟨C, J, hA, hB, hL, hR, hS⟩ := hT (nl z)
        have hst1 : hc XE' VE' 162 (90 + 2 * I) = nI g := by
          rw [hc_162, p162, pk_un (by omega), pk_us]; exact eg9
        have hst2 : hc XE' VE' 162 (90 + 2 * I + 1) = nI o := by
          rw [hc_162, p162, pk_us]; exact eo9
        obtain ⟨S1, S2, S3, S4⟩ := hS
        have eoff := off_cong (st := hc x v 162) (st' := hc XE' VE' 162) (I := I) fun j z1 z2 => hcE j (by omega) (by omega) (by omega)
        refine ⟨C, J, hA.keep (fun j hj => hcE j (by omega) (by omega) (by omega)) (by rw [nt]) (by rw [nt]) (by rw [nt]), hB.keep (x' := XE') (v' := VE') (Nat.le_refl H) (fun j hj => hcE j (by omega) (by omega) (by omega)) (fun y hy => ⟨by rw [nr _ (by omega) (by omega)], by rw [nr _ (by omega) (by omega)]⟩) (fun y hy => by rw [nr _ (by omega) (by omega)]) (fun y _ => ⟨by rw [nr _ (by omega) (by omega)], by rw [nr _ (by omega) (by omega)], by rw [nr _ (by omega) (by omega)]⟩) (fun y hy => by rw [nr _ (by omega) (by omega)]), hL.keep (fun i _ => by rw [ec]) (fun i _ => by rw [eo, ea]; exact ⟨rfl, rfl⟩) (Nat.le_refl _) (Nat.le_refl _) (fun j _ _ => hcE j (by omega) (by omega) (by omega)) (fun y _ _ => by rw [nt8]), hR.keep (fun i _ => by rw [ec]) (Or.inr ⟨eo, ea, fun r _ _ => p1 r (by omega) (by omega)⟩) (by omega) (Nat.le_refl _) (Nat.le_refl _) (Nat.le_refl _) (fun j _ => hcE j (by omega) (by omega) (by omega)) (fun y _ => by rw [nr _ (by omega) (by omega)]) (fun y _ => by rw [nr _ (by omega) (by omega)]), ⟨fun j hj => ?_, fun w hw => ?_, fun i hi => ?_, fun k hk => ?_⟩⟩
        · rw [pj _ (by omega) (by omega) (by omega), nr _ (by omega) (by omega)]; exact S1 j hj
        · rw [pj _ (by omega) (by omega) (by omega), nr _ (by omega) (by omega)]; exact S2 w hw
        · rcases Nat.lt_or_eq_of_le (Nat.le_of_lt_succ hi) with zw | zw
          · obtain ⟨g', o', z1, z2, z3, z4⟩ := S3 i zw
            exact ⟨g', o', z1, z2, (hcE _ (by omega) (by omega) (by omega)).trans z3, (hcE _ (by omega) (by omega) (by omega)).trans z4⟩
          · subst zw
            exact ⟨g, o, g2, o2, hst1, hst2⟩
        · rw [nF, hfs g (by omega) eg (by rw [eo']; exact nI_nm1 (by omega)) k hk, q1 (rs + 2) (by omega)]
          show (if k = g then w3 else if x.1 (rs + 2) k = w3 then -nI 1 else x.1 (rs + 2) k) = (if nI k = hc XE' VE' 162 (90 + 2 * I) then hc XE' VE' 162 (90 + 2 * I + 1) else if offC (hc XE' VE' 162) I k = hc XE' VE' 162 (90 + 2 * I + 1) then -nI 1 else offC (hc XE' VE' 162) I k)
          rw [hst1, hst2, eoff.2, S4 k hk, eo']
          by_cases ck : k = g
          · rw [if_pos ck, if_pos (congrArg nI ck)]
          · rw [if_neg ck, if_neg (fun e => ck ((nI_eq (by omega) (by omega)).mp e))]
end

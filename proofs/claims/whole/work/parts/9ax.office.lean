/-! reading: an office, both sides -/
section
variable {x v x' v' : MM} {M a : Nat} {K ts : Nat → Nat}
theorem officeX {rt O w3 : Nat} {ok6 : Bool} {x1 x2 x3 x6 : MM} (ht : isT rt) (r1 : x.2.2 1 4 = rt) (c9 : x.1 rt 9 = nI O) (hO : O < 12)
    (t1 : Runs e_X4_takeFirst [.ref 1, .int (nI 1), .int (nI O), .int (nI 12)] x (fun r m => r = .int (bI true) ∧ m = x1)) (t2 : Runs e_X4_readNewName [.ref 1, .int (nI (16 + O))] x1 (fun r m => r = .null ∧ m = x2)) (e2 : x2.2.2 1 4 = rt)
    (t3 : Runs e_X4_readInt [.ref 1, .int (nI 0), .int (nI 99)] x2 (fun r m => r = .int (nI w3) ∧ m = x3))
    (t6 : Runs e_X4_take [.ref 1, .int (nI 28)] (wI x3 (rt + 3) O (nI w3)) (fun r m => r = .int (bI ok6) ∧ m = x6)) (e6 : x6.2.2 1 4 = rt) (c6 : x6.1 rt 9 = nI O) :
    Runs e_X4_readOffice [.ref 1] x (fun r m => r = .null ∧ m = wI x6 rt 9 (nI (O + 1))) := by
  have vh : vp_in (nI O) 12 := vp_in_nI hO (by omega)
  apply b_X4_readOffice
  rw [r1, c9, show (16 : Int32) = nI 16 from rfl, nI_add, nI_clamp (by omega)]
  refine ⟨ht.at, bcall t1 (fun z m1 e => ?_) (fun z => nomatch z)⟩
  subst e
  refine vcall t2 ?_
  rintro m rfl
  rw [e2]
  refine ⟨ht.at, icall t3 ?_⟩
  rintro m rfl
  have last : AtTown (x6.2.2 1 4) ∧ (Value.null = .null ∧ wI x6 (x6.2.2 1 4) 9 ((x6.1 (x6.2.2 1 4) 9) + (1 : Int32)) = wI x6 rt 9 (nI (O + 1))) := by
    rw [e6, c6, nI_1]
    exact ⟨ht.at, rfl, rfl⟩
  refine ⟨vh, bcall t6 (fun _ m e => ?_) (fun _ m e => ?_)⟩
  · subst e; exact last
  · subst e; exact last
theorem officeS {rt rs : Nat} (h : RC x v M K ts a) (hk : K a = 1) (hI : INV x v M K rt rs a) : StmtR e_X4_readOffice e_X12_tellOffice [] [] x v M K ts rt rs a := by
  obtain ⟨H, O, I, S, Qn, W, F, B, sz, fr, f, hD, hT⟩ := hI
  obtain ⟨⟨⟨r1, ht⟩, r2, hs⟩, ⟨l1, l2, l3, l4, l5, l6⟩, ⟨c1, c2, c3, c4, c5, c6, c7, c8⟩, ⟨m1, m2, m3, m4, m5, m6, m7, m8⟩, ⟨s1, s2, s3, s4, s5, s6, s7⟩, hN⟩ := hD
  obtain ⟨hrt, hrs⟩ := isN.ne ht hs
  have hHO : H ≤ 16 ∧ O ≤ 12 := by
    obtain ⟨-, -, z, -⟩ := hN
    exact z
  obtain ⟨ok1, X1, V1, t1, fx1, e9, J1, g1, ⟨u1, u2, u3, u4⟩, mdl1⟩ := firstJ (q := 1) (n := O) (most := 12) (base := 70) (step := 1) h hk (by decide) (by decide) hHO.2 (by decide) (by decide) (by decide) m2
  have vf1 : VF v V1 := ⟨by rw [u1], fun r _ => by rw [u1], fun r q1 q2 _ _ => u2 r q1 q2, fun y hy => u3 y (by omega), fun j hj => u4 j (by omega), fun i _ => by rw [u2 165 (by decide) (by decide), u2 166 (by decide) (by decide)]; exact ⟨rfl, rfl⟩, fun r q1 q2 i _ => by rw [u2 r (by omega) (by omega)]⟩
  have told : ∀ y, o_X12_told (catR y v) (1 : Int32) ∧ v_X12_told (catR y v) (1 : Int32) = nI O := fun y => by
    obtain ⟨o0, eT⟩ := told_at (v := v) (j := 1) (by decide) y
    exact ⟨o0, eT.trans m2⟩
  cases ok1 with
  | false =>
    refine ⟨X1, V1, ?_, fx1.xe, vf1, Or.inl ⟨J1.any, fun y => ?_⟩⟩
    · apply b_X4_readOffice
      rw [r1, c2]
      exact ⟨ht.at, bcall t1 (fun z => nomatch z) fun _ m e => ⟨rfl, e⟩⟩
    · apply b_X12_tellOffice
      exact ⟨(told y).1, mdl1 y _ (fun r m => r = .int (bI false) ∧ m = catR y V1) (fun z => nomatch z) fun _ => ⟨rfl, rfl⟩⟩
  | true =>
    obtain ⟨hO, a4, fv1⟩ := g1 rfl
    have N1 : NJ X1 V1 M K H O := hN.mix fx1.1 (fx1.2.1 3 (by decide)) (fx1.2.2 11 (by omega)) (fun z => e9.symm.trans z) u1 (u3 25 (by omega)) (u2 176 (by decide) (by decide)) (u2 177 (by decide) (by decide))
    obtain ⟨ok2, X2, V2, n1, n3, n4, n5, n6, n7, n8, n9⟩ := newJ J1 (fun _ => N1) (Or.inr ⟨rfl, rfl, rfl, hO, rfl, rfl⟩)
    obtain ⟨ok3, X3, V3, w3, i1, i2, i3, i4, i5, i6, i7, i8, i9⟩ := intJ n7 (lo := 0) (hi := 99) (by decide) (by decide)
    have J3 : JM ok3 (wI X3 (rt + 3) O (nI w3)) (tlV V3 (70 + 1 * O) (nI w3)) M K ts (a + 1 + 1 + 1) := i7.mix ((DX.rf X3).r (by omega) _ _) DV.tl
    obtain ⟨ok6, X6, k1, k2, k3, k4, k5⟩ := semJ J3
    -- the class's cells
    have q1 : ∀ r, r ≠ 1 → r ≠ 3 → r ≠ rt + 3 → X6.1 r = x.1 r := fun r z1 z2 z3 => by
      rw [k2.2.1 r z1, wI_o z3, i5.2.1 r z1, n5.1 r z1 z2, fx1.2.1 r z1]
    have qA : X6.1 (rt + 3) = upd (x.1 (rt + 3)) O (nI w3) := by
      rw [k2.2.1 _ (by omega), wI_k, i5.2.1 _ (by omega), n5.1 _ (by omega) (by omega), fx1.2.1 _ (by omega)]
    have qy2 : ∀ y, y < 6 ∨ 10 < y → X6.1 1 y = X2.1 1 y := fun y hy => by
      rw [k2.2.2 y hy, wI_o (by omega), i5.2.2 y hy]
    have q32 : X6.1 3 = X2.1 3 := by
      rw [k2.2.1 _ (by omega), wI_o (by omega), i5.2.1 _ (by omega)]
    have qy : ∀ y, y < 6 ∨ 11 < y → X6.1 1 y = x.1 1 y := fun y hy => by
      rw [qy2 y (by omega), n5.2.1 y hy, fx1.2.2 y (by omega)]
    have q22 : X6.2 = X2.2 := by rw [k2.1, wI_2, i5.1]
    have q2 : X6.2.2 = x.2.2 := by rw [q22, n5.2.2.2, fx1.1]
    have hrun := officeX ht r1 c2 hO t1 n1 (by rw [n5.2.2.2, fx1.1]; exact r1) i1 k1 (by rw [q2]; exact r1) (by rw [q1 rt (by omega) (by omega) (by omega)]; exact c2)
    have hXE : XE rt rs x (wI X6 rt 9 (nI (O + 1))) := (((((fx1.xe.tr n5.xe).tr i5.xe).w (Or.inl ⟨by omega, by omega⟩) (by omega) O (nI w3)).tr k2.xe).w (Or.inl ⟨Nat.le_refl _, by omega⟩) (by omega) 9 (nI (O + 1)))
    have mrest : ∀ (y : MM) (vE : MM) (b : Bool), ((ok2 = false → b = false ∧ vE = V2) ∧ (ok2 = true → ok3 = false → b = false ∧ vE = V3) ∧ (ok2 = true → ok3 = true → b = true ∧ vE = tlV V3 (70 + 1 * O) (nI w3))) → Runs e_X12_tellOffice [.ref 156] (catR y v) (fun r m => r = .int (bI b) ∧ m = catR y vE) := by
      intro y vE b hb
      apply b_X12_tellOffice
      rw [(told y).2]
      refine ⟨(told y).1, mdl1 y _ (fun r m => r = .int (bI b) ∧ m = catR y vE) (fun _ => ?_) (fun z => nomatch z)⟩
      refine bcall (n3 rfl y) (fun z m e => ?_) (fun z m e => ?_)
      · subst e
        refine bcall (i3 z y) (fun z3 m e => ?_) (fun z3 m e => ?_)
        · subst e
          have e29 : (catR y V3).1 156 29 = nI w3 := by rw [cr_1 (by decide)]; exact (i9 z3).2.1
          rw [e29]
          refine vcall (tellM (by omega) _ y) ?_
          rintro m rfl
          obtain ⟨b1, b2⟩ := hb.2.2 z z3
          rw [b1, b2]
          exact ⟨rfl, rfl⟩
        · obtain ⟨b1, b2⟩ := hb.2.1 z z3
          rw [b1, b2]
          exact ⟨rfl, e⟩
      · obtain ⟨b1, b2⟩ := hb.1 z
        rw [b1, b2]
        exact ⟨rfl, e⟩
    have vf2 : VF v V2 := vf1.tr n6.me
    have vf3 : VF v V3 := vf2.tr i6.me
    cases ok2 with
    | false =>
      obtain ⟨z1, z2, z3⟩ := i4 rfl
      subst z1
      have z4 := k5 rfl
      refine ⟨_, V2, hrun, hXE, vf2, Or.inl ⟨?_, fun y => mrest y V2 false ⟨fun _ => ⟨rfl, rfl⟩, (fun z => nomatch z), (fun z => nomatch z)⟩⟩⟩
      rw [z4, z2]
      exact (n7.mix (((DX.rf X2).r (by omega) _ _).r (by omega) _ _) (DV.rf V2)).any
    | true =>
      cases ok3 with
      | false =>
        have z4 := k5 rfl
        refine ⟨_, V3, hrun, hXE, vf3, Or.inl ⟨?_, fun y => mrest y V3 false ⟨(fun z => nomatch z), fun _ _ => ⟨rfl, rfl⟩, (fun _ z => nomatch z)⟩⟩⟩
        rw [z4]
        exact (i7.mix (((DX.rf X3).r (by omega) _ _).r (by omega) _ _) (DV.rf V3)).any
      | true =>
        have se := (k4 rfl).1
        obtain ⟨-, N2⟩ := n9 rfl
        refine ⟨_, tlV V3 (70 + 1 * O) (nI w3), hrun, hXE, vf3.tl _, Or.inr ⟨fun y => mrest y _ true ⟨(fun z => nomatch z), (fun _ z => nomatch z), fun _ _ => ⟨rfl, rfl⟩⟩, a + 1 + 1 + 1, ok6, se.mix ((DX.rf X6).r (by omega) _ _) (DV.rf _), by omega, fun hok => ?_⟩⟩
        have a4' := (k4 rfl).2 hok
        -- the model's cells
        have p1 : ∀ r, r ≠ 156 → r ≠ 162 → r ≠ 176 → r ≠ 177 → (tlV V3 (70 + 1 * O) (nI w3)).1 r = v.1 r := fun r z1 z2 z3 z4 => by
          unfold tlV
          rw [wI_o z2, i6.2.1 r z1, n6.1 r z1 z3 z4, u2 r z1 z2]
        have p162 : (tlV V3 (70 + 1 * O) (nI w3)).1 162 = upd (upd (v.1 162) (210 + 1) (nI (O + 1))) (210 + (70 + 1 * O)) (nI w3) := by
          unfold tlV
          rw [wI_k, i6.2.1 162 (by decide), n6.1 162 (by decide) (by decide) (by decide), fv1.2.1 162 (by decide)]
          unfold tlV
          rw [wI_k]
        have pV : ∀ r, r ≠ 156 → r ≠ 162 → (tlV V3 (70 + 1 * O) (nI w3)).1 r = V2.1 r := fun r z1 z2 => by
          unfold tlV
          rw [wI_o z2, i6.2.1 r z1]
        have p2 : (tlV V3 (70 + 1 * O) (nI w3)).2 = V2.2 := by
          unfold tlV
          rw [wI_2, i6.1]
        have p25 : (tlV V3 (70 + 1 * O) (nI w3)).1 156 25 = V2.1 156 25 := by
          unfold tlV
          rw [wI_o (by decide), i6.2.2 25 (by omega)]
        have pj : ∀ j, j ≠ 1 → j ≠ 70 + O → (tlV V3 (70 + 1 * O) (nI w3)).1 162 (210 + j) = v.1 162 (210 + j) := fun j z1 z2 => by
          rw [p162, pk_un (by omega), pk_un (by omega)]
        generalize hvE : tlV V3 (70 + 1 * O) (nI w3) = VE' at *
        generalize hxE : wI X6 rt 9 (nI (O + 1)) = XE' at *
        have n9 : ∀ y, y ≠ 9 → XE'.1 rt y = x.1 rt y := fun y hy => by
          rw [← hxE, wI_k, pk_un hy, q1 rt (by omega) (by omega) (by omega)]
        have nr : ∀ r, r ≠ 1 → r ≠ 3 → r ≠ rt → r ≠ rt + 3 → XE'.1 r = x.1 r := fun r z1 z2 z3 z4 => by
          rw [← hxE, wI_o z3, q1 r z1 z2 z4]
        have ny : ∀ y, y < 6 ∨ 11 < y → XE'.1 1 y = x.1 1 y := fun y hy => by rw [← hxE, wI_o (by omega)]; exact qy y hy
        have nA : XE'.1 (rt + 3) = upd (x.1 (rt + 3)) O (nI w3) := by rw [← hxE, wI_o (by omega)]; exact qA
        have nx8 : XE'.1 rt 9 = nI (O + 1) := by rw [← hxE, wI_k, pk_us]
        have nx2 : XE'.2 = X2.2 := by rw [← hxE]; exact q22
        have nx22 : XE'.2.2 = x.2.2 := by rw [nx2, ← q22]; exact q2
        have nl2 : XE'.1 1 9 = 0 → X2.1 1 9 = 0 ∧ w3 ≤ 99 := fun z => by
          rw [← hxE, wI_o (by omega), k3, wI_o (by omega)] at z
          exact ⟨i8 z, ((i9 rfl).2.2 z).2⟩
        have nl : XE'.1 1 9 = 0 → x.1 1 9 = 0 := fun z => e9.symm.trans (n8 (nl2 z).1)
        have N3 : NJ XE' VE' M K H (O + 1) := N2.mix nx2 (by rw [← hxE, wI_o (by omega)]; exact q32) (by rw [← hxE, wI_o (by omega)]; exact qy2 11 (by omega)) (fun z => (nl2 z).1) p2 p25 (pV 176 (by decide) (by decide)) (pV 177 (by decide) (by decide))
        have hcE : ∀ j, j ≠ 1 → j ≠ 70 + O → hc XE' VE' 162 j = hc x v 162 j := fun j z1 z2 => pj j z1 z2
        have eo : opV VE' = opV v := by unfold opV; rw [p1 165 (by decide) (by decide) (by decide) (by decide)]
        have ea : vaV VE' = vaV v := by unfold vaV; rw [p1 166 (by decide) (by decide) (by decide) (by decide)]
        have ec : cdX XE' rt = cdX x rt := nr _ (by omega) (by omega) (by omega) (by omega)
        have n8' : XE'.1 (rt + 8) = x.1 (rt + 8) := nr _ (by omega) (by omega) (by omega) (by omega)
        refine ⟨H, O + 1, I, S, Qn, W, F, B, sz, fr, f, ⟨⟨⟨by rw [nx22]; exact r1, ht⟩, by rw [nx22]; exact r2, hs⟩, ⟨l1, l2, l3, l4, l5, l6⟩, ⟨(n9 8 (by decide)).trans c1, nx8, (n9 10 (by decide)).trans c3, (n9 11 (by decide)).trans c4, (n9 13 (by decide)).trans c5, by rw [n8']; exact c6, by rw [n8']; exact c7, (ny 12 (by omega)).trans c8⟩,
          ⟨(pj 0 (by omega) (by omega)).trans m1, by rw [p162, pk_un (by omega), pk_us], (pj 2 (by omega) (by omega)).trans m3, (pj 3 (by omega) (by omega)).trans m4, (pj 4 (by omega) (by omega)).trans m5, (pj 5 (by omega) (by omega)).trans m6, (pj 8 (by omega) (by omega)).trans m7, (pj 9 (by omega) (by omega)).trans m8⟩,
          ⟨by rw [n8']; exact s1, by rw [p1 164 (by decide) (by decide) (by decide) (by decide)]; exact s2, by rw [p1 167 (by decide) (by decide) (by decide) (by decide)]; exact s3, by omega, by omega, by omega, by omega⟩, N3⟩, fun z => ?_⟩
        obtain ⟨-, w3b⟩ := nl2 z
        obtain ⟨C, J, hA, hB, hL, hR, hS⟩ := hT (nl z)
        obtain ⟨kb1, kb2, kb3, kb4, kb5⟩ := hB.keep (x' := XE') (v' := VE') (Nat.le_refl H) (fun j hj => hcE j (by omega) (by omega)) (fun y hy => ⟨by rw [nr _ (by omega) (by omega) (by omega) (by omega)], by rw [nr _ (by omega) (by omega) (by omega) (by omega)]⟩) (fun y hy => by rw [nA, pk_un (by omega)]) (fun y _ => ⟨by rw [nr _ (by omega) (by omega) (by omega) (by omega)], by rw [nr _ (by omega) (by omega) (by omega) (by omega)], by rw [nr _ (by omega) (by omega) (by omega) (by omega)]⟩) (fun y hy => by rw [nr _ (by omega) (by omega) (by omega) (by omega)])
        refine ⟨C, J, hA.keep (fun j hj => hcE j (by omega) (by omega)) (n9 14 (by decide)) (n9 15 (by decide)) (n9 12 (by decide)), ⟨kb1, fun g hg => ?_, kb3, kb4, kb5⟩, hL.keep (fun i _ => by rw [ec]) (fun i _ => by rw [eo, ea]; exact ⟨rfl, rfl⟩) (Nat.le_refl _) (Nat.le_refl _) (fun j _ _ => hcE j (by omega) (by omega)) (fun y _ _ => by rw [n8']), hR.keep (fun i _ => by rw [ec]) (Or.inr ⟨eo, ea, fun r _ _ => p1 r (by omega) (by omega) (by omega) (by omega)⟩) (by omega) (Nat.le_refl _) (Nat.le_refl _) (Nat.le_refl _) (fun j _ => hcE j (by omega) (by omega)) (fun y _ => by rw [nr _ (by omega) (by omega) (by omega) (by omega)]) (fun y _ => by rw [nr _ (by omega) (by omega) (by omega) (by omega)]),
          hS.all (Nat.le_refl H) (Nat.le_succ O) (fun j z1 z2 => hcE j (by omega) (by omega)) (fun k _ => by rw [nr _ (by omega) (by omega) (by omega) (by omega)]) (fun j _ => ⟨pj _ (by omega) (by omega), by rw [nr _ (by omega) (by omega) (by omega) (by omega)]⟩) (fun j _ => ⟨pj _ (by omega) (by omega), by rw [nr _ (by omega) (by omega) (by omega) (by omega)]⟩)⟩
        rcases Nat.lt_or_eq_of_le (Nat.le_of_lt_succ hg) with zw | zw
        · exact kb2 g zw
        · subst zw
          have e1 : hc XE' VE' 162 (70 + g) = nI w3 := by
            rw [hc_162, p162, show 210 + (70 + g) = 210 + (70 + 1 * g) by omega, pk_us]
          rw [e1, nA, pk_us]
          exact ⟨⟨w3, w3b, rfl⟩, rfl⟩
end

/-! reading: a quay, both sides -/
section
variable {x v : MM} {M a : Nat} {K ts : Nat → Nat}
theorem quayX {rt n : Nat} {r : Int32} {ok2 ok4 : Bool} {x1 x2 x4 : MM} (ht : isT rt) (r1 : x.2.2 1 4 = rt) (c11 : x.1 rt 11 = nI n)
    (t1 : Runs e_X4_takeFirst [.ref 1, .int (nI 4), .int (nI n), .int (nI 4)] x (fun r m => r = .int (bI true) ∧ m = x1)) (t2 : Runs e_X4_readHouseName [.ref 1] x1 (fun r' m => r' = .int r ∧ m = x2)) (t4 : Runs e_X4_take [.ref 1, .int (nI 28)] x2 (fun r m => r = .int (bI ok4) ∧ m = x4)) (e4 : x4.2.2 1 4 = rt) (c4 : x4.1 rt 11 = nI n) :
    Runs e_X4_readQuay [.ref 1] x (fun r' m => r' = .null ∧ m = wI (wI x4 rt 11 (nI (n + 1))) rt 12 ((x4.1 rt 12) ||| v_X8_bitOf x r)) := by
  apply b_X4_readQuay
  rw [r1, c11]
  refine ⟨ht.at, bcall t1 (fun z m1 e => ?_) (fun z => nomatch z)⟩
  subst e
  refine icall t2 ?_
  rintro m rfl
  have last : AtTown (x4.2.2 1 4) ∧ (AtTown (x4.2.2 1 4) ∧ (Value.null = .null ∧ (wI (wI x4 (x4.2.2 1 4) 11 ((x4.1 (x4.2.2 1 4) 11) + (1 : Int32))) (x4.2.2 1 4) 12 (((wI x4 (x4.2.2 1 4) 11 ((x4.1 (x4.2.2 1 4) 11) + (1 : Int32))).1 (x4.2.2 1 4) 12) ||| (v_X8_bitOf (wI x4 (x4.2.2 1 4) 11 ((x4.1 (x4.2.2 1 4) 11) + (1 : Int32))) r))) = wI (wI x4 rt 11 (nI (n + 1))) rt 12 ((x4.1 rt 12) ||| v_X8_bitOf x r))) := by
    rw [e4, c4, nI_1]
    refine ⟨ht.at, ht.at, rfl, ?_⟩
    have e : (wI x4 rt 11 (nI (n + 1))).1 rt 12 = x4.1 rt 12 := by rw [wI_k, pk_un (by decide)]
    rw [e]
    rfl
  refine bcall t4 (fun _ m e => ?_) (fun _ m e => ?_)
  · subst e; exact last
  · subst e; exact last
theorem quayJ {rt rs : Nat} (h : RC x v M K ts a) (hk : K a = 4) (hI : INV x v M K rt rs a) : StmtR e_X4_readQuay e_X12_tellQuay [] [] x v M K ts rt rs a := by
  obtain ⟨H, O, I, S, Qn, W, F, B, sz, fr, f, hD, hT⟩ := hI
  obtain ⟨⟨⟨r1, ht⟩, r2, hs⟩, ⟨l1, l2, l3, l4, l5, l6⟩, ⟨c1, c2, c3, c4, c5, c6, c7, c8⟩, ⟨m1, m2, m3, m4, m5, m6, m7, m8⟩, ⟨s1, s2, s3, s4, s5, s6, s7⟩, hN⟩ := hD
  obtain ⟨hrt, hrs⟩ := isN.ne ht hs
  have hHO : H ≤ 16 ∧ O ≤ 12 := by
    obtain ⟨-, -, z, -⟩ := hN
    exact z
  have m4' := h.1.2.2.1.2.1
  obtain ⟨ok1, X1, V1, t1, fx1, e9, J1, g1, ⟨u1, u2, u3, u4⟩, mdl1⟩ := firstJ (q := 4) (n := Qn) (most := 4) (base := 160) (step := 1) h hk (by decide) (by decide) l3 (by decide) (by decide) (by decide) m5
  have vf1 : VF v V1 := ⟨by rw [u1], fun r _ => by rw [u1], fun r q1 q2 _ _ => u2 r q1 q2, fun y hy => u3 y (by omega), fun j hj => u4 j (by omega), fun i _ => by rw [u2 165 (by decide) (by decide), u2 166 (by decide) (by decide)]; exact ⟨rfl, rfl⟩, fun r q1 q2 i _ => by rw [u2 r (by omega) (by omega)]⟩
  cases ok1 with
  | false =>
    refine ⟨X1, V1, ?_, fx1.xe, vf1, Or.inl ⟨J1.any, fun y => ?_⟩⟩
    · apply b_X4_readQuay
      rw [r1, c4]
      exact ⟨ht.at, bcall t1 (fun z => nomatch z) fun _ m e => ⟨rfl, e⟩⟩
    · apply b_X12_tellQuay
      exact mdl1 y _ (fun r m => r = .int (bI false) ∧ m = catR y V1) (fun z => nomatch z) fun _ => ⟨rfl, rfl⟩
  | true =>
    obtain ⟨hQ, a4, fv1⟩ := g1 rfl
    have N1 : NJ X1 V1 M K H O := hN.mix fx1.1 (fx1.2.1 3 (by decide)) (fx1.2.2 11 (by omega)) (fun z => e9.symm.trans z) u1 (u3 25 (by omega)) (u2 176 (by decide) (by decide)) (u2 177 (by decide) (by decide))
    obtain ⟨ok2, X2, V2, r, i1, i2, i3, i4, i5, i6, i7, i8, i9⟩ := houseJ J1 (fun _ => N1)
    have J2 : JM ok2 X2 (tlV V2 (160 + 1 * Qn) (V2.1 156 29)) M K ts (a + 1 + 1) := i7.mix (DX.rf X2) DV.tl
    obtain ⟨ok4, X4, k1, k2, k3, k4, k5⟩ := semJ J2
    have q1 : ∀ r, r ≠ 1 → X4.1 r = x.1 r := fun r z1 => by rw [k2.2.1 r z1, i5.2.1 r z1, fx1.2.1 r z1]
    have qy : ∀ y, y < 6 ∨ 10 < y → X4.1 1 y = x.1 1 y := fun y hy => by rw [k2.2.2 y hy, i5.2.2 y hy, fx1.2.2 y hy]
    have q2 : X4.2 = x.2 := by rw [k2.1, i5.1, fx1.1]
    have hrun := quayX (ok2 := ok2) ht r1 c4 t1 i1 k1 (by rw [q2]; exact r1) (by rw [q1 rt (by omega)]; exact c4)
    have hXE : XE rt rs x (wI (wI X4 rt 11 (nI (Qn + 1))) rt 12 ((X4.1 rt 12) ||| v_X8_bitOf x r)) := (((fx1.xe.tr i5.xe).tr k2.xe).w (Or.inl ⟨Nat.le_refl _, by omega⟩) (by omega) _ _).w (Or.inl ⟨Nat.le_refl _, by omega⟩) (by omega) _ _
    have mrest : ∀ (y : MM) (vE : MM) (b : Bool), ((ok2 = false → b = false ∧ vE = V2) ∧ (ok2 = true → b = true ∧ vE = tlV V2 (160 + 1 * Qn) (V2.1 156 29))) → Runs e_X12_tellQuay [.ref 156] (catR y v) (fun r m => r = .int (bI b) ∧ m = catR y vE) := by
      intro y vE b hb
      apply b_X12_tellQuay
      refine mdl1 y _ (fun r m => r = .int (bI b) ∧ m = catR y vE) (fun _ => ?_) (fun z => nomatch z)
      refine bcall (i3 rfl y) (fun z m e => ?_) (fun z m e => ?_)
      · subst e
        have e29 : (catR y V2).1 156 29 = V2.1 156 29 := by rw [cr_1 (by decide)]
        rw [e29]
        refine vcall (tellM (by omega) _ y) ?_
        rintro m rfl
        obtain ⟨b1, b2⟩ := hb.2 z
        rw [b1, b2]
        exact ⟨rfl, rfl⟩
      · obtain ⟨b1, b2⟩ := hb.1 z
        rw [b1, b2]
        exact ⟨rfl, e⟩
    cases ok2 with
    | false =>
      have z4 := k5 rfl
      refine ⟨_, V2, hrun, hXE, vf1.tr i6.me, Or.inl ⟨?_, fun y => mrest y V2 false ⟨fun _ => ⟨rfl, rfl⟩, (fun z => nomatch z)⟩⟩⟩
      rw [z4]
      exact (i7.mix (((DX.rf X2).r (by omega) _ _).r (by omega) _ _) (DV.rf V2)).any
    | true =>
      have se := (k4 rfl).1
      obtain ⟨-, N2, hg, -, -⟩ := i9 rfl
      refine ⟨_, tlV V2 (160 + 1 * Qn) (V2.1 156 29), hrun, hXE, (vf1.tr i6.me).tl _, Or.inr ⟨fun y => mrest y _ true ⟨(fun z => nomatch z), fun _ => ⟨rfl, rfl⟩⟩, a + 1 + 1, ok4, se.mix (((DX.rf X4).r (by omega) _ _).r (by omega) _ _) (DV.rf _), by omega, fun hok => ?_⟩⟩
      have a4' := (k4 rfl).2 hok
      have p1 : ∀ r, r ≠ 156 → r ≠ 162 → (tlV V2 (160 + 1 * Qn) (V2.1 156 29)).1 r = v.1 r := fun r z1 z2 => by
        unfold tlV
        rw [wI_o z2, i6.2.1 r z1, u2 r z1 z2]
      have p162 : (tlV V2 (160 + 1 * Qn) (V2.1 156 29)).1 162 = upd (upd (v.1 162) (210 + 4) (nI (Qn + 1))) (210 + (160 + 1 * Qn)) (V2.1 156 29) := by
        unfold tlV
        rw [wI_k, i6.2.1 162 (by decide), fv1.2.1 162 (by decide)]
        unfold tlV
        rw [wI_k]
      have p2 : (tlV V2 (160 + 1 * Qn) (V2.1 156 29)).2 = v.2 := by
        unfold tlV
        rw [wI_2, i6.1, u1]
      have p25 : (tlV V2 (160 + 1 * Qn) (V2.1 156 29)).1 156 25 = v.1 156 25 := by
        unfold tlV
        rw [wI_o (by decide), i6.2.2 25 (by omega), u3 25 (by omega)]
      have pj : ∀ j, j ≠ 4 → j ≠ 160 + Qn → (tlV V2 (160 + 1 * Qn) (V2.1 156 29)).1 162 (210 + j) = v.1 162 (210 + j) := fun j z1 z2 => by
        rw [p162, pk_un (by omega), pk_un (by omega)]
      generalize hw : V2.1 156 29 = w9 at *
      generalize hvE : tlV V2 (160 + 1 * Qn) w9 = VE' at *
      generalize hbx : (X4.1 rt 12) ||| v_X8_bitOf x r = bx at *
      have n9 : ∀ y, y ≠ 11 → y ≠ 12 → (wI (wI X4 rt 11 (nI (Qn + 1))) rt 12 bx).1 rt y = x.1 rt y := fun y hy hy2 => by
        rw [wI_k, pk_un hy2, wI_k, pk_un hy, q1 rt (by omega)]
      have nr : ∀ r, r ≠ 1 → r ≠ rt → (wI (wI X4 rt 11 (nI (Qn + 1))) rt 12 bx).1 r = x.1 r := fun r z1 z2 => by
        rw [wI_o z2, wI_o z2, q1 r z1]
      have ny : ∀ y, y < 6 ∨ 10 < y → (wI (wI X4 rt 11 (nI (Qn + 1))) rt 12 bx).1 1 y = x.1 1 y := fun y hy => by rw [wI_o (by omega), wI_o (by omega)]; exact qy y hy
      have nl2 : (wI (wI X4 rt 11 (nI (Qn + 1))) rt 12 bx).1 1 9 = 0 → X2.1 1 9 = 0 := fun z => by
        rw [wI_o (by omega), wI_o (by omega), k3] at z
        exact z
      have nl : (wI (wI X4 rt 11 (nI (Qn + 1))) rt 12 bx).1 1 9 = 0 → x.1 1 9 = 0 := fun z => e9.symm.trans (i8 (nl2 z))
      have hcE : ∀ j, j ≠ 4 → j ≠ 160 + Qn → hc (wI (wI X4 rt 11 (nI (Qn + 1))) rt 12 bx) VE' 162 j = hc x v 162 j := fun j z1 z2 => pj j z1 z2
      have eo : opV VE' = opV v := by unfold opV; rw [p1 165 (by decide) (by decide)]
      have ea : vaV VE' = vaV v := by unfold vaV; rw [p1 166 (by decide) (by decide)]
      have ec : cdX (wI (wI X4 rt 11 (nI (Qn + 1))) rt 12 bx) rt = cdX x rt := nr _ (by omega) (by omega)
      refine ⟨H, O, I, S, Qn + 1, W, F, B, sz, fr, f, ⟨⟨⟨by rw [show (wI (wI X4 rt 11 (nI (Qn + 1))) rt 12 bx).2 = x.2 from q2]; exact r1, ht⟩, by rw [show (wI (wI X4 rt 11 (nI (Qn + 1))) rt 12 bx).2 = x.2 from q2]; exact r2, hs⟩, ⟨l1, l2, by omega, l4, l5, l6⟩, ⟨(n9 8 (by decide) (by decide)).trans c1, (n9 9 (by decide) (by decide)).trans c2, (n9 10 (by decide) (by decide)).trans c3, by rw [wI_k, pk_un (by decide), wI_k, pk_us], (n9 13 (by decide) (by decide)).trans c5, by rw [nr _ (by omega) (by omega)]; exact c6, by rw [nr _ (by omega) (by omega)]; exact c7, (ny 12 (by omega)).trans c8⟩,
        ⟨(pj 0 (by omega) (by omega)).trans m1, (pj 1 (by omega) (by omega)).trans m2, (pj 2 (by omega) (by omega)).trans m3, (pj 3 (by omega) (by omega)).trans m4, by rw [p162, pk_un (by omega), pk_us], (pj 5 (by omega) (by omega)).trans m6, (pj 8 (by omega) (by omega)).trans m7, (pj 9 (by omega) (by omega)).trans m8⟩,
        ⟨by rw [nr _ (by omega) (by omega)]; exact s1, by rw [p1 164 (by decide) (by decide)]; exact s2, by rw [p1 167 (by decide) (by decide)]; exact s3, by omega, by omega, by omega, by omega⟩, hN.mix q2 (nr 3 (by decide) (by omega)) (ny 11 (by omega)) nl p2 p25 (p1 176 (by decide) (by decide)) (p1 177 (by decide) (by decide))⟩, fun z => ?_⟩
      obtain ⟨g, g2, g3, g4⟩ := hg (nl2 z)
      have g2 : g < H := by omega
      obtain ⟨C, J, ⟨A1, A2, A3, A4, A5, A6, A7⟩, hB, hL, hR, hS⟩ := hT (nl z)
      obtain ⟨kb1, kb2, kb3, kb4, kb5⟩ := hB.keep (x' := wI (wI X4 rt 11 (nI (Qn + 1))) rt 12 bx) (v' := VE') (Nat.le_refl H) (fun j hj => hcE j (by omega) (by omega)) (fun y _ => ⟨by rw [nr _ (by omega) (by omega)], by rw [nr _ (by omega) (by omega)]⟩) (fun y _ => by rw [nr _ (by omega) (by omega)]) (fun y _ => ⟨by rw [nr _ (by omega) (by omega)], by rw [nr _ (by omega) (by omega)], by rw [nr _ (by omega) (by omega)]⟩) (fun y hy => by rw [nr _ (by omega) (by omega)])
      have eq9 : hc (wI (wI X4 rt 11 (nI (Qn + 1))) rt 12 bx) VE' 162 (160 + Qn) = nI g := by
        rw [hc_162, p162, show 210 + (160 + Qn) = 210 + (160 + 1 * Qn) by omega, pk_us]
        exact g4
      have eqs : qs (hc (wI (wI X4 rt 11 (nI (Qn + 1))) rt 12 bx) VE' 162) Qn = qs (hc x v 162) Qn := qs_cong fun q hq => hcE _ (by omega) (by omega)
      refine ⟨C, J, ⟨A1, A2, (hcE 6 (by omega) (by omega)).trans A3, (hcE 7 (by omega) (by omega)).trans A4, (n9 14 (by decide) (by decide)).trans A5, (n9 15 (by decide) (by decide)).trans A6, ?_⟩, ⟨kb1, kb2, kb3, fun q hq => ?_, kb5⟩, hL.keep (fun i _ => by rw [ec]) (fun i _ => by rw [eo, ea]; exact ⟨rfl, rfl⟩) (Nat.le_refl _) (Nat.le_refl _) (fun j _ _ => hcE j (by omega) (by omega)) (fun y _ _ => by rw [nr _ (by omega) (by omega)]), hR.keep (fun i _ => by rw [ec]) (Or.inr ⟨eo, ea, fun r _ _ => p1 r (by omega) (by omega)⟩) (by omega) (Nat.le_refl _) (Nat.le_refl _) (Nat.le_refl _) (fun j _ => hcE j (by omega) (by omega)) (fun y _ => by rw [nr _ (by omega) (by omega)]) (fun y _ => by rw [nr _ (by omega) (by omega)]), ?_⟩
      · have ebx : bx = nI (qs (hc x v 162) Qn ||| 2 ^ g) := by rw [← hbx, g3, bitOf_v x (by omega), q1 rt (by omega), A7, fa_or]
        rw [wI_k, pk_us]
        show bx = nI (qs (hc (wI (wI X4 rt 11 (nI (Qn + 1))) rt 12 bx) VE' 162) Qn ||| 2 ^ (hc (wI (wI X4 rt 11 (nI (Qn + 1))) rt 12 bx) VE' 162 (160 + Qn)).toNatClampNeg)
        rw [eqs, eq9, nI_clamp (by omega)]
        exact ebx
      · rcases Nat.lt_or_eq_of_le (Nat.le_of_lt_succ hq) with zw | zw
        · exact kb4 q zw
        · subst zw
          exact ⟨g, g2, eq9⟩
      · obtain ⟨S1, S2, S3, S4⟩ := hS
        have eoff := off_cong (st := hc x v 162) (st' := hc (wI (wI X4 rt 11 (nI (Qn + 1))) rt 12 bx) VE' 162) (I := I) fun j z1 z2 => hcE j (by omega) (by omega)
        refine ⟨fun h hh => ?_, fun w hw => ?_, fun i hi => ?_, fun k hk => ?_⟩
        · rw [pj _ (by omega) (by omega), nr _ (by omega) (by omega)]; exact S1 h hh
        · rw [pj _ (by omega) (by omega), nr _ (by omega) (by omega)]; exact S2 w hw
        · rw [hcE _ (by omega) (by omega), hcE _ (by omega) (by omega)]; exact S3 i hi
        · rw [nr _ (by omega) (by omega), eoff.2]; exact S4 k hk
end

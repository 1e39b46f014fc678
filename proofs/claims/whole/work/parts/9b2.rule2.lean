/-! reading: a rule, both sides -/
section
variable {x v x' v' : MM} {M a : Nat} {K ts : Nat → Nat}
theorem held_rows (o1 : opV v' = opV v) (o2 : vaV v' = vaV v) (o3 : ∀ r, 168 ≤ r → r ≤ 173 → v'.1 r = v.1 r) (vs : Nat → Int32) (f n : Nat) : heldV (lv v') vs f n = heldV (lv v) vs f n := by
  have er : ∀ r, 168 ≤ r → r ≤ 173 → lv v' r = lv v r := fun r r1 r2 => by
    funext b
    rw [lv_o (by omega), lv_o (by omega), o3 r r1 r2]
  have el : litV (lv v') vs = litV (lv v) vs := by
    funext j
    unfold litV segV
    rw [lv_165, lv_166, lv_165, lv_166, o1, o2, er 168 (by decide) (by decide), er 169 (by decide) (by decide), er 170 (by decide) (by decide), er 171 (by decide) (by decide), er 172 (by decide) (by decide)]
  unfold heldV
  rw [el, er 173 (by decide) (by decide)]
theorem lit_rows {fr k : Nat} (o1 : opV v' = opV v) (o2 : vaV v' = vaV v) (o3 : ∀ r, 168 ≤ r → r ≤ 173 → v'.1 r = v.1 r) (h : LitB v fr k) : LitB v' fr k := by
  unfold LitB at *
  rw [o1, o2, o3 170 (by decide) (by decide), o3 171 (by decide) (by decide), o3 172 (by decide) (by decide), o3 168 (by decide) (by decide)]
  exact h
theorem tellRX {rt kd o cx n : Nat} (ht : isT rt) (hcase : kd = 8 ∧ o = 2 ∧ cx = 11 ∨ kd = 9 ∧ o = 3 ∧ cx = 12) (hn : n < 4) (w : Int32) (m : MM) (h : m.1 (rt + 8) cx = nI n) : Runs e_X1_tell [.ref (rt + 8), .int (nI kd), .int w] m (fun r m' => r = .null ∧ m' = wI (wI m (rt + 8 + o) n w) (rt + 8) cx (nI (n + 1))) := by
  have ng : ¬ (4 : Int32) ≤ nI n := fun z => absurd z (Int32.not_le.mpr (nI_lt (b := 4) hn (by decide)))
  have vh : vp_in (nI n) 4 := vp_in_nI hn (by omega)
  apply b_X1_tell _ _ _ _ _ ht.at.laws
  rcases hcase with ⟨rfl, rfl, rfl⟩ | ⟨rfl, rfl, rfl⟩
  · refine ⟨fun _ => ⟨fun z => ?_, fun _ => ?_⟩, fun z => absurd rfl z⟩
    · rw [h] at z; exact absurd z ng
    · rw [h, nI_clamp (by omega), wI_o (show rt + 8 ≠ rt + 8 + 2 by omega), h, nI_1]
      exact ⟨vh, rfl, rfl⟩
  · refine ⟨fun z => absurd z (by decide), fun _ => ⟨fun _ => ⟨fun z => ?_, fun _ => ?_⟩, fun z => absurd rfl z⟩⟩
    · rw [h] at z; exact absurd z ng
    · rw [h, nI_clamp (by omega), wI_o (show rt + 8 ≠ rt + 8 + 3 by omega), h, nI_1]
      exact ⟨vh, rfl, rfl⟩
theorem ruleX {rt kd o cx n : Nat} {ok2 : Bool} {x1 x2 x3 : MM} (ht : isT rt) (hcase : kd = 8 ∧ o = 2 ∧ cx = 11 ∨ kd = 9 ∧ o = 3 ∧ cx = 12) (hn : n < 4) (t1 : Runs e_X4_takeFirst [.ref 1, .int (nI kd), .int (nI n), .int (nI 4)] x (fun r m => r = .int (bI true) ∧ m = x1)) (t2 : Runs e_X4_take [.ref 1, .int (nI 22)] x1 (fun r m => r = .int (bI ok2) ∧ m = x2)) (e2 : x2.2.2 1 4 = rt)
    (t3 : Runs e_X4_readFormula [.ref 1, .int (nI 1)] x2 (fun r m => r = .null ∧ m = x3)) (e3 : x3.2.2 1 4 = rt) (c3 : x3.1 (rt + 8) cx = nI n) :
    Runs e_X4_readRule [.ref 1, .int (nI kd), .int (nI n)] x (fun r m => r = .null ∧ m = wI (wI x3 (rt + 8 + o) n (x2.1 (rt + 8) 5)) (rt + 8) cx (nI (n + 1))) := by
  have l4 : AtTown (x2.2.2 1 4) ∧ (∃ Pm4 : Value → MM → Prop, Runs e_X4_readFormula [.ref 1, .int (1 : Int32)] x2 Pm4 ∧ ∀ m4, Pm4 .null m4 → (AtTown (m4.2.2 1 4) ∧ (∃ Pm6 : Value → MM → Prop, Runs e_X1_tell [.ref ((m4.2.2 1 4) + 8), .int (nI kd), .int (x2.1 ((x2.2.2 1 4) + 8) 5)] m4 Pm6 ∧ ∀ m6, Pm6 .null m6 → (Value.null = .null ∧ m6 = wI (wI x3 (rt + 8 + o) n (x2.1 (rt + 8) 5)) (rt + 8) cx (nI (n + 1)))))) := by
    rw [e2]
    refine ⟨ht.at, vcall t3 ?_⟩
    rintro m rfl
    rw [e3]
    refine ⟨ht.at, vcall (tellRX ht hcase hn _ _ c3) ?_⟩
    rintro m rfl
    exact ⟨rfl, rfl⟩
  apply b_X4_readRule
  refine bcall t1 (fun _ m e => ?_) (fun z => nomatch z)
  subst e
  refine bcall t2 (fun _ m e => ?_) (fun _ m e => ?_)
  · subst e; exact l4
  · subst e; exact l4
theorem ruleS {rt rs kd base o cx n : Nat} (h : RC x v M K ts a) (hk : K a = kd) (hcase : kd = 8 ∧ base = 190 ∧ o = 2 ∧ cx = 11 ∨ kd = 9 ∧ base = 200 ∧ o = 3 ∧ cx = 12) (hI : INV x v M K rt rs a) (hcx : x.1 (rt + 8) cx = nI n) (hn4 : n ≤ 4) : StmtR e_X4_readRule e_X12_tellRule [.int (nI kd), .int (nI n)] [.int (nI kd), .int (nI base)] x v M K ts rt rs a := by
  have hc2 : kd = 8 ∧ o = 2 ∧ cx = 11 ∨ kd = 9 ∧ o = 3 ∧ cx = 12 := by
    rcases hcase with ⟨e1, -, e2, e3⟩ | ⟨e1, -, e2, e3⟩
    · exact Or.inl ⟨e1, e2, e3⟩
    · exact Or.inr ⟨e1, e2, e3⟩
  obtain ⟨H, O, I, S, Qn, W, F, B, sz, fr, f, hD, hT⟩ := hI
  obtain ⟨⟨⟨r1, ht⟩, r2, hs⟩, ⟨l1, l2, l3, l4, l5, l6⟩, ⟨c1, c2, c3, c4, c5, c6, c7, c8⟩, ⟨m1, m2, m3, m4, m5, m6, m7, m8⟩, ⟨s1, s2, s3, s4, s5, s6, s7⟩, hN⟩ := hD
  obtain ⟨hrt, hrs⟩ := isN.ne ht hs
  have hHO : H ≤ 16 ∧ O ≤ 12 := by
    obtain ⟨-, -, z, -⟩ := hN
    exact z
  have hnF : (kd = 8 ∧ base = 190 ∧ o = 2 ∧ cx = 11 ∧ n = F) ∨ (kd = 9 ∧ base = 200 ∧ o = 3 ∧ cx = 12 ∧ n = B) := by
    rcases hcase with ⟨e1, e2, e3, e4⟩ | ⟨e1, e2, e3, e4⟩
    · subst e4
      exact Or.inl ⟨e1, e2, e3, rfl, (nI_eq (by omega) (by omega)).mp (hcx.symm.trans c6)⟩
    · subst e4
      exact Or.inr ⟨e1, e2, e3, rfl, (nI_eq (by omega) (by omega)).mp (hcx.symm.trans c7)⟩
  have mq : v.1 162 (210 + kd) = nI n := by
    rcases hnF with ⟨e1, -, -, -, e5⟩ | ⟨e1, -, -, -, e5⟩
    · rw [e1, e5]; exact m7
    · rw [e1, e5]; exact m8
  obtain ⟨ok1, X1, V1, t1, fx1, e9, J1, g1, ⟨u1, u2, u3, u4⟩, mdl1⟩ := firstJ (q := kd) (n := n) (most := 4) (base := base) (step := 2) h hk (by omega) (by omega) hn4 (by decide) (by omega) (by decide) mq
  have vf1 : VF v V1 := ⟨by rw [u1], fun r _ => by rw [u1], fun r q1 q2 _ _ => u2 r q1 q2, fun y hy => u3 y (by omega), fun j hj => u4 j (by omega), fun i _ => by rw [u2 165 (by decide) (by decide), u2 166 (by decide) (by decide)]; exact ⟨rfl, rfl⟩, fun r q1 q2 i _ => by rw [u2 r (by omega) (by omega)]⟩
  cases ok1 with
  | false =>
    refine ⟨X1, V1, ?_, fx1.xe, vf1, Or.inl ⟨J1.any, fun y => ?_⟩⟩
    · apply b_X4_readRule
      exact bcall t1 (fun z => nomatch z) fun _ m e => ⟨rfl, e⟩
    · apply b_X12_tellRule
      exact mdl1 y _ (fun r m => r = .int (bI false) ∧ m = catR y V1) (fun z => nomatch z) fun _ => ⟨rfl, rfl⟩
  | true =>
    obtain ⟨hn, a4, fv1⟩ := g1 rfl
    have hR1 := J1.1 rfl
    obtain ⟨ok2, X2, V2, i1, i2, -, i4, i5, i6, J2, i8⟩ := takeJ J1 22 (by decide)
    obtain ⟨d1, d2⟩ := i2 rfl
    have M0 : ∀ (y vE : MM) (b : Bool) (V3 : MM), (ok2 = false → b = false ∧ vE = V2) → (ok2 = true → Runs e_X12_cond [.ref 156] (catR y V2) (fun r m => r = .int (bI b) ∧ m = catR y V3) ∧ (b = false → vE = V3) ∧ (b = true → vE = tlV (tlV V3 (base + 2 * n) (V3.1 156 33)) (base + 2 * n + 1) (V3.1 167 1))) → Runs e_X12_tellRule [.ref 156, .int (nI kd), .int (nI base)] (catR y v) (fun r m => r = .int (bI b) ∧ m = catR y vE) := by
      intro y vE b V3 hf hx
      apply b_X12_tellRule
      refine mdl1 y _ (fun r m => r = .int (bI b) ∧ m = catR y vE) (fun _ => ?_) (fun z => nomatch z)
      obtain ⟨w1, w2⟩ := wordM hR1 y (k := 22) (by decide)
      refine ⟨w1, fun p => ?_, fun np => ?_⟩
      · have mp2 : Runs e_X12_pass [.ref 156] (catR y V1) (fun r m => r = .int (bI ok2) ∧ m = catR y V2) := by rw [d1, d2]; exact mPass hR1 y (w2.mp p)
        refine bcall mp2 (fun z2 m e => ?_) (fun z2 m e => ?_)
        · subst e
          obtain ⟨hx1, hx2, hx3⟩ := hx z2
          refine bcall hx1 (fun z3 m e => ?_) (fun z3 m e => ?_)
          · subst e
            have e32 : (catR y V3).1 156 33 = V3.1 156 33 := by rw [cr_1 (by decide)]
            rw [e32]
            refine vcall (tellM (by omega) _ y) ?_
            rintro m rfl
            have e164 : ∀ w, (catR y (tlV V3 (base + 2 * n) w)).1 167 1 = V3.1 167 1 := fun w => by
              rw [cr_1 (by decide)]
              unfold tlV
              rw [wI_o (by decide)]
            rw [e164, nI_1]
            refine vcall (tellM (by omega) _ y) ?_
            rintro m rfl
            rw [z3, hx3 z3]
            exact ⟨rfl, rfl⟩
          · rw [z3, hx2 z3]
            exact ⟨rfl, e⟩
        · obtain ⟨b1, b2⟩ := hf z2
          rw [b1, b2]
          exact ⟨rfl, e⟩
      · have hk2 : ¬ K (a + 1) = 22 := fun w => np (w2.mpr w)
        have mp2 : Runs e_X12_wrong [.ref 156, .int 1] (catR y V1) (fun r m => r = .int (bI ok2) ∧ m = catR y V2) := by rw [d1, d2]; exact mWrong hR1 y hk2
        refine bcall mp2 (fun z2 m e => ?_) (fun z2 m e => ?_)
        · exact absurd (i8 z2).2.1 hk2
        · obtain ⟨b1, b2⟩ := hf z2
          rw [b1, b2]
          exact ⟨rfl, e⟩
    have vf2 : VF v V2 := vf1.tr i5.me
    have q22 : X2.2 = x.2 := by rw [i4.1, fx1.1]
    have qr2 : ∀ r, r ≠ 1 → X2.1 r = x.1 r := fun r z => by rw [i4.2.1 r z, fx1.2.1 r z]
    have qs2 : X2.1 (rt + 8) 5 = nI sz := by rw [qr2 _ (by omega)]; exact s1
    have v2r : ∀ r, r ≠ 156 → r ≠ 162 → V2.1 r = v.1 r := fun r z1 z2 => by rw [i5.2.1 r z1, u2 r z1 z2]
    cases ok2 with
    | false =>
      have hR := J2.2.1 rfl
      have hrun := ruleX ht hc2 hn t1 i1 (by rw [q22]; exact r1) (frmF1 hR.ne) (by rw [show (fmX X2 1 1).2 = X2.2 from rfl, q22]; exact r1) (by rw [fmX_o (by omega), qr2 _ (by omega)]; exact hcx)
      exact ⟨_, V2, hrun, (((fx1.xe.tr i4.xe).tr (FE.fm (t := 0) ht |>.xe ht)).w (Or.inl ⟨by omega, by omega⟩) (by omega) _ _).w (Or.inl ⟨by omega, by omega⟩) (by omega) _ _, vf2, Or.inl ⟨((J2.mix DX.fm (DV.rf V2)).mix (((DX.rf _).r (by omega) _ _).r (by omega) _ _) (DV.rf V2)).any, fun y => M0 y V2 false V2 (fun _ => ⟨rfl, rfl⟩) (fun z => nomatch z)⟩⟩
    | true =>
      have hR2 := J2.1 rfl
      have h167 : V2.1 167 1 = nI f := by rw [v2r 167 (by decide) (by decide)]; exact s3
      obtain ⟨X3, V3, p1, p2, p3, p4⟩ := ruleE hR2 (st := sz) (fr := fr) (f := f) ⟨(by rw [q22]; exact r1), ht⟩ qs2 (by rw [v2r 164 (by decide) (by decide)]; exact s2) h167 (by omega) (by omega) (by omega)
      have c3x : X3.1 (rt + 8) cx = nI n := by rw [p2.2.2.2.1 cx (by omega), qr2 _ (by omega)]; exact hcx
      have hrun := ruleX ht hc2 hn t1 i1 (by rw [q22]; exact r1) p1 (by rw [p2.1, q22]; exact r1) c3x
      rw [qs2] at hrun
      have hXE : XE rt rs x (wI (wI X3 (rt + 8 + o) n (nI sz)) (rt + 8) cx (nI (n + 1))) := (((fx1.xe.tr i4.xe).tr (p2.xe ht)).w (Or.inl ⟨by omega, by omega⟩) (by omega) _ _).w (Or.inl ⟨by omega, by omega⟩) (by omega) _ _
      have vfb : VF V2 (wI V2 156 33 (nI f)) := ⟨rfl, fun _ _ => rfl, fun r r1 _ _ _ => wI_o r1, fun y hy => by rw [wI_k, pk_un (by omega)], fun j _ => by rw [wI_o (by decide)], fun i _ => by rw [wI_o (by decide), wI_o (by decide)]; exact ⟨rfl, rfl⟩, fun r _ _ i _ => by rw [wI_o (by omega)]⟩
      have vf3 : VF v V3 := (vf2.tr vfb).tr p3.me
      rcases p4 with ⟨g1, g2⟩ | ⟨g1, a', k, fr', N, ok, se, ha', g3, g4⟩
      · exact ⟨_, V3, hrun, hXE, vf3, Or.inl ⟨g1.mix (((DX.rf X3).r (by omega) _ _).r (by omega) _ _) (DV.rf V3), fun y => M0 y V3 false V3 (fun z => nomatch z) fun _ => ⟨g2 y, fun _ => rfl, fun z => nomatch z⟩⟩⟩
      · refine ⟨_, tlV (tlV V3 (base + 2 * n) (V3.1 156 33)) (base + 2 * n + 1) (V3.1 167 1), hrun, hXE, (vf3.tl _).tl _, Or.inr ⟨fun y => M0 y _ true V3 (fun z => nomatch z) fun _ => ⟨g1 y, (fun z => nomatch z), fun _ => rfl⟩, a', ok, se.mix (((DX.rf X3).r (by omega) _ _).r (by omega) _ _) ((DV.tl).tr DV.tl), by omega, fun hok => ?_⟩⟩
        obtain ⟨⟨R1, R2, R3⟩, ⟨R4, R5, R6, R7, R8⟩, R9, R10, R11, R12⟩ := g4
        have a4' := (se.lt hok).2
        have p3r : ∀ r, r ≠ 156 → r ≠ 164 → r ≠ 165 → r ≠ 166 → r ≠ 178 → (r < 167 ∨ 173 < r) → V3.1 r = V2.1 r := fun r z1 z2 z3 z4 z5 z6 => by rw [p3.2.1 r z1 z2 z3 z4 z5 z6, wI_o z1]
        have p1r : ∀ r, r ≠ 162 → (tlV (tlV V3 (base + 2 * n) (V3.1 156 33)) (base + 2 * n + 1) (V3.1 167 1)).1 r = V3.1 r := fun r z => by
          unfold tlV
          rw [wI_o z, wI_o z]
        have v162 : V3.1 162 = upd (v.1 162) (210 + kd) (nI (n + 1)) := by
          rw [p3r 162 (by decide) (by decide) (by decide) (by decide) (by decide) (by decide), i5.2.1 162 (by decide), fv1.2.1 162 (by decide)]
          unfold tlV
          rw [wI_k]
        have p162 : (tlV (tlV V3 (base + 2 * n) (V3.1 156 33)) (base + 2 * n + 1) (V3.1 167 1)).1 162 = upd (upd (upd (v.1 162) (210 + kd) (nI (n + 1))) (210 + (base + 2 * n)) (nI f)) (210 + (base + 2 * n + 1)) (nI (f + N)) := by
          unfold tlV
          rw [wI_k, wI_k, g3, R3, v162]
        have pV2 : (tlV (tlV V3 (base + 2 * n) (V3.1 156 33)) (base + 2 * n + 1) (V3.1 167 1)).2 = v.2 := by
          unfold tlV
          rw [wI_2, wI_2, p3.1, wI_2, i5.1, u1]
        generalize hvE : tlV (tlV V3 (base + 2 * n) (V3.1 156 33)) (base + 2 * n + 1) (V3.1 167 1) = VE' at *
        have pj : ∀ j, j ≠ kd → j ≠ base + 2 * n → j ≠ base + 2 * n + 1 → VE'.1 162 (210 + j) = v.1 162 (210 + j) := fun j z1 z2 z3 => by
          rw [p162, pk_un (by omega), pk_un (by omega), pk_un (by omega)]
        have pr : ∀ r, r ≠ 156 → r ≠ 162 → r ≠ 164 → r ≠ 165 → r ≠ 166 → r ≠ 178 → (r < 167 ∨ 173 < r) → VE'.1 r = v.1 r := fun r z1 z2 z3 z4 z5 z6 z7 => by
          rw [p1r r z2, p3r r z1 z3 z4 z5 z6 z7, v2r r z1 z2]
        have py : VE'.1 156 25 = v.1 156 25 := by
          rw [p1r 156 (by decide), p3.2.2.1 25 (by omega), wI_k, pk_un (by decide), i5.2.2 25 (by omega), u3 25 (by omega)]
        have eo3 : opV VE' = opV V3 := by unfold opV; rw [p1r 165 (by decide)]
        have ea3 : vaV VE' = vaV V3 := by unfold vaV; rw [p1r 166 (by decide)]
        have eov : ∀ i, i < fr → opV VE' i = opV v i ∧ vaV VE' i = vaV v i := fun i hi => by
          obtain ⟨z1, z2⟩ := p3.2.2.2.2.1 i hi
          rw [eo3, ea3, z1, z2]
          unfold opV vaV
          rw [wI_o (by decide), wI_o (by decide), v2r 165 (by decide) (by decide), v2r 166 (by decide) (by decide)]
          exact ⟨rfl, rfl⟩
        generalize hxE : wI (wI X3 (rt + 8 + o) n (nI sz)) (rt + 8) cx (nI (n + 1)) = XE' at *
        have xr3 : ∀ r, r ≠ 1 → r ≠ 4 → r ≠ rt + 8 → r ≠ rt + 8 + 1 → X3.1 r = x.1 r := fun r z1 z2 z3 z4 => by rw [p2.2.1 r z1 z2 z3 z4, qr2 r z1]
        have nr3 : ∀ r, r ≠ rt + 8 → r ≠ rt + 8 + o → XE'.1 r = X3.1 r := fun r z1 z2 => by rw [← hxE, wI_o z1, wI_o z2]
        have nr : ∀ r, r ≠ 1 → r ≠ 4 → r ≠ rt + 8 → r ≠ rt + 8 + 1 → r ≠ rt + 8 + o → XE'.1 r = x.1 r := fun r z1 z2 z3 z4 z5 => by
          rw [nr3 r z3 z5, xr3 r z1 z2 z3 z4]
        have n8 : ∀ y, y ≠ 5 → y ≠ cx → XE'.1 (rt + 8) y = x.1 (rt + 8) y := fun y z1 z2 => by
          rw [← hxE, wI_k, pk_un z2, wI_o (by omega), p2.2.2.2.1 y z1, qr2 _ (by omega)]
        have n85 : XE'.1 (rt + 8) 5 = nI (sz + k + 1) := by rw [← hxE, wI_k, pk_un (by omega), wI_o (by omega)]; exact R1
        have n8c : XE'.1 (rt + 8) cx = nI (n + 1) := by rw [← hxE, wI_k, pk_us]
        have nO : XE'.1 (rt + 8 + o) = upd (x.1 (rt + 8 + o)) n (nI sz) := by rw [← hxE, wI_o (by omega), wI_k, xr3 _ (by omega) (by omega) (by omega) (by omega)]
        have ncd : cdX XE' rt = cdX X3 rt := nr3 _ (by omega) (by omega)
        have ncx : ∀ i, i < sz → cdX XE' rt i = cdX x rt i := fun i hi => by
          rw [ncd, p2.2.2.2.2 i hi]
          unfold cdX
          rw [qr2 _ (by omega)]
        have ny : ∀ y, (y < 6 ∨ y = 11 ∨ y = 12 ∨ 17 < y) → XE'.1 1 y = x.1 1 y := fun y hy => by
          rw [nr3 1 (by omega) (by omega), p2.2.2.1 y (by omega), i4.2.2 y (by omega), fx1.2.2 y (by omega)]
        have nl : XE'.1 1 9 = 0 → x.1 1 9 = 0 := fun z => by
          rw [nr3 1 (by omega) (by omega), p2.2.2.1 9 (by omega), i6, e9] at z
          exact z
        have nx2 : XE'.2 = x.2 := by rw [← hxE, wI_2, wI_2, p2.1]; exact q22
        have N4 : NJ XE' VE' M K H O := hN.mix nx2 (nr 3 (by decide) (by decide) (by omega) (by omega) (by omega)) (ny 11 (by omega)) nl pV2 py (pr 176 (by decide) (by decide) (by decide) (by decide) (by decide) (by decide) (by decide)) (pr 177 (by decide) (by decide) (by decide) (by decide) (by decide) (by decide) (by decide))
        have hcE : ∀ j, j ≠ kd → j ≠ base + 2 * n → j ≠ base + 2 * n + 1 → hc XE' VE' 162 j = hc x v 162 j := fun j z1 z2 z3 => pj j z1 z2 z3
        have nt : XE'.1 rt = x.1 rt := nr _ (by omega) (by omega) (by omega) (by omega) (by omega)
        -- one of the two counts is greater by one
        obtain ⟨F', B', hFB, hF4, hB4, xF, xB, vF, vB⟩ : ∃ F' B' : Nat, ((kd = 8 ∧ F' = F + 1 ∧ B' = B) ∨ (kd = 9 ∧ F' = F ∧ B' = B + 1)) ∧ F' ≤ 4 ∧ B' ≤ 4 ∧ XE'.1 (rt + 8) 11 = nI F' ∧ XE'.1 (rt + 8) 12 = nI B' ∧ VE'.1 162 218 = nI F' ∧ VE'.1 162 219 = nI B' := by
          rcases hnF with ⟨e1, e2, e3, e4, e5⟩ | ⟨e1, e2, e3, e4, e5⟩
          · subst e1 e2 e3 e4 e5
            refine ⟨n + 1, B, Or.inl ⟨rfl, rfl, rfl⟩, by omega, l6, n8c, (n8 12 (by decide) (by decide)).trans c7, ?_, (pj 9 (by decide) (by omega) (by omega)).trans m8⟩
            rw [p162, pk_un (by omega), pk_un (by omega), pk_us]
          · subst e1 e2 e3 e4 e5
            refine ⟨F, n + 1, Or.inr ⟨rfl, rfl, rfl⟩, l5, by omega, (n8 11 (by decide) (by decide)).trans c6, n8c, (pj 8 (by decide) (by omega) (by omega)).trans m7, ?_⟩
            rw [p162, pk_un (by omega), pk_un (by omega), pk_us]
        refine ⟨H, O, I, S, Qn, W, F', B', sz + k + 1, fr', f + N, ⟨⟨⟨by rw [nx2]; exact r1, ht⟩, by rw [nx2]; exact r2, hs⟩, ⟨l1, l2, l3, l4, hF4, hB4⟩, ⟨by rw [nt]; exact c1, by rw [nt]; exact c2, by rw [nt]; exact c3, by rw [nt]; exact c4, by rw [nt]; exact c5, xF, xB, (ny 12 (by omega)).trans c8⟩,
          ⟨(pj 0 (by omega) (by omega) (by omega)).trans m1, (pj 1 (by omega) (by omega) (by omega)).trans m2, (pj 2 (by omega) (by omega) (by omega)).trans m3, (pj 3 (by omega) (by omega) (by omega)).trans m4, (pj 4 (by omega) (by omega) (by omega)).trans m5, (pj 5 (by omega) (by omega) (by omega)).trans m6, vF, vB⟩,
          ⟨n85, by rw [p1r 164 (by decide)]; exact R2, by rw [p1r 167 (by decide)]; exact R3, by omega, by omega, by omega, by omega⟩, N4⟩, fun z => ?_⟩
        obtain ⟨C, J, hA, hB, hL, hR, hS⟩ := hT (nl z)
        have frle : fr ≤ fr' := ha'.2
        have kR0 : TBr X2 (wI V2 156 33 (nI f)) rt F B sz fr f := hR.keep (fun i hi => by unfold cdX; rw [qr2 _ (by omega)]) (Or.inr ⟨by unfold opV; rw [wI_o (by decide), v2r 165 (by decide) (by decide)], by unfold vaV; rw [wI_o (by decide), v2r 166 (by decide) (by decide)], fun r _ _ => by rw [wI_o (by omega), v2r r (by omega) (by omega)]⟩) (by omega) (Nat.le_refl _) (Nat.le_refl _) (Nat.le_refl _) (fun j hj => by
          rw [hc_162, hc_162, wI_o (by decide), i5.2.1 162 (by decide), fv1.2.1 162 (by decide)]
          unfold tlV
          rw [wI_k, pk_un (by omega)]) (fun y _ => by rw [qr2 _ (by omega)]) (fun y _ => by rw [qr2 _ (by omega)])
        have kR1 : TBr X3 V3 rt F B (sz + k + 1) fr' (f + N) := kR0.keep (fun i hi => p2.2.2.2.2 i hi) (Or.inl p3) (by omega) (by omega) frle (by omega) (fun j hj => by rw [hc_162, hc_162, p3r 162 (by decide) (by decide) (by decide) (by decide) (by decide) (by decide), wI_o (by decide)]) (fun y _ => by rw [p2.2.1 _ (by omega) (by omega) (by omega) (by omega)]) (fun y _ => by rw [p2.2.1 _ (by omega) (by omega) (by omega) (by omega)])
        have up1 : ∀ oo bb kk, (oo = 2 ∧ bb = 190 ∧ kk < F) ∨ (oo = 3 ∧ bb = 200 ∧ kk < B) → RuleB XE' VE' rt oo bb kk (sz + k + 1) fr' (f + N) := fun oo bb kk hh => by
          have old : RuleB X3 V3 rt oo bb kk (sz + k + 1) fr' (f + N) := by
            rcases hh with ⟨z1, z2, z3⟩ | ⟨z1, z2, z3⟩
            · subst z1 z2; exact kR1.1 kk z3
            · subst z1 z2; exact kR1.2 kk z3
          have hj : ∀ j, (j = bb + 2 * kk ∨ j = bb + 2 * kk + 1) → hc XE' VE' 162 j = hc X3 V3 162 j := fun j hj => by
            have : j ≠ kd ∧ j ≠ base + 2 * n ∧ j ≠ base + 2 * n + 1 := by omega
            rw [hc_162, hc_162, v162, p162, pk_un (by omega), pk_un (by omega)]
          refine old.up (fun i _ => by rw [ncd]) (Or.inr ⟨eo3, ea3, fun r _ _ => p1r r (by omega)⟩) (by omega) (Nat.le_refl _) (Nat.le_refl _) (Nat.le_refl _) (hj _ (Or.inl rfl)) (hj _ (Or.inr rfl)) ?_
          by_cases co : oo = o
          · subst co
            rw [nO, pk_un (by omega), xr3 _ (by omega) (by omega) (by omega) (by omega)]
          · rw [nr3 _ (by omega) (by omega)]
        have new : RuleB XE' VE' rt o base n (sz + k + 1) fr' (f + N) := by
          refine ⟨f, N, sz, k, ?_, ?_, R8, Nat.le_refl _, fun i hi => lit_rows eo3 ea3 (fun r _ _ => p1r r (by omega)) (R11 i hi), ?_, by rw [ncd]; exact R9, by rw [ncd]; exact R10, by omega, fun vs => ?_⟩
          · rw [hc_162, p162, pk_un (by omega), pk_us]
          · rw [hc_162, p162, pk_us]
          · rw [nO, pk_us]
          · rw [ncd, held_rows eo3 ea3 (fun r _ _ => p1r r (by omega))]; exact R12 vs
        have kR2 : TBr XE' VE' rt F' B' (sz + k + 1) fr' (f + N) := by
          rcases hnF with ⟨e1, e2, e3, e4, e5⟩ | ⟨e1, e2, e3, e4, e5⟩
          · rcases hFB with ⟨-, z2, z3⟩ | ⟨z1, -, -⟩
            · subst z2 z3 e2 e3 e5
              refine ⟨fun y hy => ?_, fun y hy => up1 3 200 y (Or.inr ⟨rfl, rfl, hy⟩)⟩
              rcases Nat.lt_or_eq_of_le (Nat.le_of_lt_succ hy) with zw | zw
              · exact up1 2 190 y (Or.inl ⟨rfl, rfl, zw⟩)
              · subst zw; exact new
            · omega
          · rcases hFB with ⟨z1, -, -⟩ | ⟨-, z2, z3⟩
            · omega
            · subst z2 z3 e2 e3 e5
              refine ⟨fun y hy => up1 2 190 y (Or.inl ⟨rfl, rfl, hy⟩), fun y hy => ?_⟩
              rcases Nat.lt_or_eq_of_le (Nat.le_of_lt_succ hy) with zw | zw
              · exact up1 3 200 y (Or.inr ⟨rfl, rfl, zw⟩)
              · subst zw; exact new
        refine ⟨C, J, hA.keep (fun j hj => hcE j (by omega) (by omega) (by omega)) (by rw [nt]) (by rw [nt]) (by rw [nt]), hB.keep (x' := XE') (v' := VE') (Nat.le_refl H) (fun j hj => hcE j (by omega) (by omega) (by omega)) (fun y hy => ⟨by rw [nr _ (by omega) (by omega) (by omega) (by omega) (by omega)], by rw [nr _ (by omega) (by omega) (by omega) (by omega) (by omega)]⟩) (fun y hy => by rw [nr _ (by omega) (by omega) (by omega) (by omega) (by omega)]) (fun y _ => ⟨by rw [nr _ (by omega) (by omega) (by omega) (by omega) (by omega)], by rw [nr _ (by omega) (by omega) (by omega) (by omega) (by omega)], by rw [nr _ (by omega) (by omega) (by omega) (by omega) (by omega)]⟩) (fun y hy => by rw [nr _ (by omega) (by omega) (by omega) (by omega) (by omega)]), hL.keep ncx eov (by omega) frle (fun j _ _ => hcE j (by omega) (by omega) (by omega)) (fun y _ _ => n8 y (by omega) (by omega)), kR2,
          hS.all (Nat.le_refl H) (Nat.le_refl O) (fun j z1 z2 => hcE j (by omega) (by omega) (by omega)) (fun k _ => by rw [nr _ (by omega) (by omega) (by omega) (by omega) (by omega)]) (fun j _ => ⟨pj _ (by omega) (by omega) (by omega), by rw [nr _ (by omega) (by omega) (by omega) (by omega) (by omega)]⟩) (fun j _ => ⟨pj _ (by omega) (by omega) (by omega), by rw [nr _ (by omega) (by omega) (by omega) (by omega) (by omega)]⟩)⟩
end

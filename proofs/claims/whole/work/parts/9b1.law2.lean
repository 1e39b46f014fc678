/-! reading: a law, both sides -/
section
variable {x v x' v' : MM} {M a : Nat} {K ts : Nat → Nat}
theorem frmF0 (h : ¬ x.1 1 7 = 0) : Runs e_X4_readFormula [.ref 1, .int (nI 0)] x (fun r m => r = .null ∧ m = fmX x 0 0) := by
  have e7 : (fmX x 0 0).1 1 7 = x.1 1 7 := by
    unfold fmX
    rw [wI_k, pk_un (by decide), wI_k, pk_un (by decide), wI_k, pk_un (by decide), wI_k, pk_un (by decide), wI_k, pk_un (by decide)]
  apply b_X4_readFormula
  refine ⟨fun _ => frm_end (i := 0) ⟨by decide, Or.inl (fun z => h (e7.symm.trans z))⟩ ⟨rfl, rfl⟩, fun z => absurd z (by decide)⟩
theorem frmF1 (h : ¬ x.1 1 7 = 0) : Runs e_X4_readFormula [.ref 1, .int (nI 1)] x (fun r m => r = .null ∧ m = fmX x 1 1) := by
  have e7 : (fmX x 1 1).1 1 7 = x.1 1 7 := by
    unfold fmX
    rw [wI_k, pk_un (by decide), wI_k, pk_un (by decide), wI_k, pk_un (by decide), wI_k, pk_un (by decide), wI_k, pk_un (by decide)]
  apply b_X4_readFormula
  refine ⟨fun z => absurd rfl z, fun _ => frm_end (i := 0) ⟨by decide, Or.inl (fun z => h (e7.symm.trans z))⟩ ⟨rfl, rfl⟩⟩
theorem RF.ne (h : RF x v) : ¬ x.1 1 7 = 0 := by
  obtain ⟨e, e1, e2, e3, -⟩ := h
  rw [e3]
  exact nI_ne0 e1 (by omega)
theorem tellLX {rt l : Nat} (ht : isT rt) (hl : l ≤ 2) (w : Int32) (m : MM) : Runs e_X1_tell [.ref (rt + 8), .int (nI (10 + l)), .int w] m (fun r m' => r = .null ∧ m' = wI m (rt + 8) (8 + l) w) := by
  apply b_X1_tell _ _ _ _ _ ht.at.laws
  have e : ∀ k : Nat, k < 2 ^ 31 → ((nI (10 + l) = nI k) = (10 + l = k)) := fun k hk => propext (nI_eq (by omega) hk)
  have e8 : ¬ nI (10 + l) = (8 : Int32) := fun z => absurd ((e 8 (by decide)).mp z) (by omega)
  have e9 : ¬ nI (10 + l) = (9 : Int32) := fun z => absurd ((e 9 (by decide)).mp z) (by omega)
  refine ⟨fun z => absurd z e8, fun _ => ⟨fun z => absurd z e9, fun _ => ?_⟩⟩
  match l, hl with
  | 0, _ => exact ⟨fun _ => ⟨rfl, rfl⟩, fun z => absurd rfl z⟩
  | 1, _ => exact ⟨fun z => absurd z (by decide), fun _ => ⟨fun _ => ⟨rfl, rfl⟩, fun z => absurd rfl z⟩⟩
  | 2, _ => exact ⟨fun z => absurd z (by decide), fun _ => ⟨fun z => absurd z (by decide), fun _ => ⟨fun _ => ⟨rfl, rfl⟩, fun z => absurd rfl z⟩⟩⟩
theorem FV.ve {n L : Nat} (h : FV v v') : VE n L v v' := ⟨h.1, fun r r1 _ _ _ _ _ => h.2.1 r r1, fun y hy => h.2.2 y (by omega), fun y _ => by rw [h.2.1 164 (by decide), h.2.1 167 (by decide)]; exact ⟨rfl, rfl⟩, fun i _ => by unfold opV vaV; rw [h.2.1 165 (by decide), h.2.1 166 (by decide)]; exact ⟨rfl, rfl⟩, fun i _ => by rw [h.2.1 165 (by decide), h.2.1 166 (by decide)]; exact ⟨rfl, rfl⟩, fun r r1 r2 i _ => by rw [h.2.1 r (by omega)]⟩
theorem lawX {rt l : Nat} {ok1 ok2 : Bool} {x1 x2 x3 : MM} (ht : isT rt) (hl : l ≤ 2) (t1 : Runs e_X4_take [.ref 1, .int (nI (10 + l))] x (fun r m => r = .int (bI ok1) ∧ m = x1)) (t2 : Runs e_X4_take [.ref 1, .int (nI 29)] x1 (fun r m => r = .int (bI ok2) ∧ m = x2)) (e2 : x2.2.2 1 4 = rt)
    (t3 : Runs e_X4_readFormula [.ref 1, .int (nI 0)] x2 (fun r m => r = .null ∧ m = x3)) (e3 : x3.2.2 1 4 = rt) :
    Runs e_X4_readLaw [.ref 1, .int (nI (10 + l))] x (fun r m => r = .null ∧ m = wI x3 (rt + 8) (8 + l) (x2.1 (rt + 8) 5)) := by
  have l4 : AtTown (x2.2.2 1 4) ∧ (∃ Pm4 : Value → MM → Prop, Runs e_X4_readFormula [.ref 1, .int (0 : Int32)] x2 Pm4 ∧ ∀ m4, Pm4 .null m4 → (AtTown (m4.2.2 1 4) ∧ (∃ Pm6 : Value → MM → Prop, Runs e_X1_tell [.ref ((m4.2.2 1 4) + 8), .int (nI (10 + l)), .int (x2.1 ((x2.2.2 1 4) + 8) 5)] m4 Pm6 ∧ ∀ m6, Pm6 .null m6 → (Value.null = .null ∧ m6 = wI x3 (rt + 8) (8 + l) (x2.1 (rt + 8) 5))))) := by
    rw [e2]
    refine ⟨ht.at, vcall t3 ?_⟩
    rintro m rfl
    rw [e3]
    refine ⟨ht.at, vcall (tellLX ht hl _ _) ?_⟩
    rintro m rfl
    exact ⟨rfl, rfl⟩
  have l2 : ∃ Pm2 : Value → MM → Prop, Runs e_X4_take [.ref 1, .int (29 : Int32)] x1 Pm2 ∧ (∀ r m2, Pm2 r m2 → r = .int 1 ∨ r = .int 0) ∧ (∀ m2, Pm2 (.int 1) m2 → (AtTown (m2.2.2 1 4) ∧ (∃ Pm4 : Value → MM → Prop, Runs e_X4_readFormula [.ref 1, .int (0 : Int32)] m2 Pm4 ∧ ∀ m4, Pm4 .null m4 → (AtTown (m4.2.2 1 4) ∧ (∃ Pm6 : Value → MM → Prop, Runs e_X1_tell [.ref ((m4.2.2 1 4) + 8), .int (nI (10 + l)), .int (m2.1 ((m2.2.2 1 4) + 8) 5)] m4 Pm6 ∧ ∀ m6, Pm6 .null m6 → (Value.null = .null ∧ m6 = wI x3 (rt + 8) (8 + l) (x2.1 (rt + 8) 5))))))) ∧
      (∀ m2, Pm2 (.int 0) m2 → (AtTown (m2.2.2 1 4) ∧ (∃ Pm4 : Value → MM → Prop, Runs e_X4_readFormula [.ref 1, .int (0 : Int32)] m2 Pm4 ∧ ∀ m4, Pm4 .null m4 → (AtTown (m4.2.2 1 4) ∧ (∃ Pm6 : Value → MM → Prop, Runs e_X1_tell [.ref ((m4.2.2 1 4) + 8), .int (nI (10 + l)), .int (m2.1 ((m2.2.2 1 4) + 8) 5)] m4 Pm6 ∧ ∀ m6, Pm6 .null m6 → (Value.null = .null ∧ m6 = wI x3 (rt + 8) (8 + l) (x2.1 (rt + 8) 5))))))) := by
    refine bcall t2 (fun _ m e => ?_) (fun _ m e => ?_)
    · subst e; exact l4
    · subst e; exact l4
  apply b_X4_readLaw
  refine bcall t1 (fun _ m e => ?_) (fun _ m e => ?_)
  · subst e; exact l2
  · subst e; exact l2
theorem SE.lt {x2 v2 : MM} {ok : Bool} (h : SE x2 v2 M K ts a ok) (hok : ok = true) : K a = 28 ∧ a < 400 := by
  obtain ⟨-, h2, -⟩ := h
  rw [hok] at h2
  obtain ⟨z1, z2⟩ := tkE_0.mp (of_decide_eq_true h2.symm)
  exact ⟨of_decide_eq_true z1, z2⟩
theorem OneE.law {cd op va : Nat → Int32} {st k fr n : Nat} (h : OneE cd op va st 0 k fr n) : ∀ vs, ∃ w b, cr cd (cvOf vs) st k = some ([w], b) ∧ (bif b then 0 else w) = sv (mr op va vs fr n) := by
  intro vs
  obtain ⟨S0, b0, w, b', h1, h2, h3, h4⟩ := h.1.one h.2.2 vs
  have e : (some (([] : List Int32), false)) = some (S0, b0) := h1
  injection e with e
  injection e with e e'
  subst e
  refine ⟨w, b', h3, ?_⟩
  rcases h4 with ⟨y1, y2⟩ | ⟨y1, y2⟩
  · rw [y1, y2, ← e']; rfl
  · rw [y1, y2]; rfl
theorem lawS {rt rs l : Nat} (h : RC x v M K ts a) (hl : l ≤ 2) (hk : K a = 10 + l) (hI : INV x v M K rt rs a) : StmtR e_X4_readLaw e_X12_tellLaw [.int (nI (10 + l))] [.int (nI l)] x v M K ts rt rs a := by
  obtain ⟨H, O, I, S, Qn, W, F, B, sz, fr, f, hD, hT⟩ := hI
  obtain ⟨⟨⟨r1, ht⟩, r2, hs⟩, ⟨l1, l2, l3, l4, l5, l6⟩, ⟨c1, c2, c3, c4, c5, c6, c7, c8⟩, ⟨m1, m2, m3, m4, m5, m6, m7, m8⟩, ⟨s1, s2, s3, s4, s5, s6, s7⟩, hN⟩ := hD
  obtain ⟨hrt, hrs⟩ := isN.ne ht hs
  have hHO : H ≤ 16 ∧ O ≤ 12 := by
    obtain ⟨-, -, z, -⟩ := hN
    exact z
  obtain ⟨ok1, X1, V1, t1, t2, -, t4, t5, t6, J1, t8⟩ := takeJ (JM.t h) (10 + l) (by omega)
  obtain ⟨e1, e2⟩ := t2 rfl
  have mp : ∀ y, Runs e_X12_pass [.ref 156] (catR y v) (fun r m => r = .int (bI ok1) ∧ m = catR y V1) := fun y => by rw [e1, e2]; exact mPass h y hk
  obtain ⟨ok2, X2, V2, i1, i2, i3, i4, i5, i6, J2, i8⟩ := takeJ J1 29 (by decide)
  have M0 : ∀ (y vE : MM) (b : Bool) (V3 : MM), (ok2 = false → b = false ∧ vE = V2) → (ok2 = true → Runs e_X12_expr [.ref 156] (catR y V2) (fun r m => r = .int (bI b) ∧ m = catR y V3) ∧ (b = false → vE = V3) ∧ (b = true → vE = tlV (tlV V3 (10 + 2 * l) (V3.1 156 32)) (10 + 2 * l + 1) (V3.1 164 1))) → Runs e_X12_tellLaw [.ref 156, .int (nI l)] (catR y v) (fun r m => r = .int (bI b) ∧ m = catR y vE) := by
    intro y vE b V3 hf hx
    apply b_X12_tellLaw
    rw [show (10 : Int32) + (2 : Int32) * nI l = nI (10 + 2 * l) from by rw [show (10 : Int32) = nI 10 from rfl, show (2 : Int32) = nI 2 from rfl, pk_mul, nI_add]]
    refine bcall (mp y) (fun z m e => ?_) (fun z m e => ?_)
    · subst e
      have hR1 := J1.1 z
      obtain ⟨d1, d2⟩ := i2 z
      obtain ⟨w1, w2⟩ := signM hR1 y (k := 29) (by decide)
      refine ⟨w1, fun p => ?_, fun np => ?_⟩
      · have mp2 : Runs e_X12_pass [.ref 156] (catR y V1) (fun r m => r = .int (bI ok2) ∧ m = catR y V2) := by rw [d1, d2]; exact mPass hR1 y (w2.mp p)
        refine bcall mp2 (fun z2 m e => ?_) (fun z2 m e => ?_)
        · subst e
          obtain ⟨hx1, hx2, hx3⟩ := hx z2
          refine bcall hx1 (fun z3 m e => ?_) (fun z3 m e => ?_)
          · subst e
            have e32 : (catR y V3).1 156 32 = V3.1 156 32 := by rw [cr_1 (by decide)]
            rw [e32]
            refine vcall (tellM (by omega) _ y) ?_
            rintro m rfl
            have e164 : ∀ w, (catR y (tlV V3 (10 + 2 * l) w)).1 164 1 = V3.1 164 1 := fun w => by
              rw [cr_1 (by decide)]
              unfold tlV
              rw [wI_o (by decide)]
            rw [e164, nI_1]
            refine vcall (tellM (by omega) _ y) ?_
            rintro m rfl
            rw [z3, hx3 z3]
            exact ⟨rfl, rfl⟩
          · rw [z3, hx2 z3]
            exact ⟨rfl, e⟩
        · obtain ⟨b1, b2⟩ := hf z2
          rw [b1, b2]
          exact ⟨rfl, e⟩
      · have hk2 : ¬ K (a + 1) = 29 := fun w => np (w2.mpr w)
        have mp2 : Runs e_X12_wrong [.ref 156, .int 1] (catR y V1) (fun r m => r = .int (bI ok2) ∧ m = catR y V2) := by rw [d1, d2]; exact mWrong hR1 y hk2
        refine bcall mp2 (fun z2 m e => ?_) (fun z2 m e => ?_)
        · exact absurd (i8 z2).2.1 hk2
        · obtain ⟨b1, b2⟩ := hf z2
          rw [b1, b2]
          exact ⟨rfl, e⟩
    · obtain ⟨d1, d2, d3⟩ := i3 z
      obtain ⟨b1, b2⟩ := hf d1
      rw [b1, b2, d3]
      exact ⟨rfl, e⟩
  have vf2 : VF v V2 := t5.me.tr i5.me
  have q22 : X2.2 = x.2 := by rw [i4.1, t4.1]
  have qr2 : ∀ r, r ≠ 1 → X2.1 r = x.1 r := fun r z => by rw [i4.2.1 r z, t4.2.1 r z]
  have qs2 : X2.1 (rt + 8) 5 = nI sz := by rw [qr2 _ (by omega)]; exact s1
  cases ok2 with
  | false =>
    have hR := J2.2.1 rfl
    have hrun := lawX ht hl t1 i1 (by rw [q22]; exact r1) (frmF0 hR.ne) (by rw [show (fmX X2 0 0).2 = X2.2 from rfl, q22]; exact r1)
    exact ⟨_, V2, hrun, ((t4.xe.tr i4.xe).tr (FE.fm (t := 0) ht |>.xe ht)).w (Or.inl ⟨by omega, by omega⟩) (by omega) _ _, vf2, Or.inl ⟨((J2.mix DX.fm (DV.rf V2)).mix ((DX.rf _).r (by omega) _ _) (DV.rf V2)).any, fun y => M0 y V2 false V2 (fun _ => ⟨rfl, rfl⟩) (fun z => nomatch z)⟩⟩
  | true =>
    have hR2 := J2.1 rfl
    obtain ⟨X3, V3, p1, p2, p3, p4⟩ := lawE hR2 (st := sz) (fr := fr) ⟨(by rw [q22]; exact r1), ht⟩ qs2 (by rw [i5.2.1 164 (by decide), t5.2.1 164 (by decide)]; exact s2) (by omega) (by omega)
    have hrun := lawX ht hl t1 i1 (by rw [q22]; exact r1) p1 (by rw [p2.1, q22]; exact r1)
    rw [qs2] at hrun
    have hXE : XE rt rs x (wI X3 (rt + 8) (8 + l) (nI sz)) := ((t4.xe.tr i4.xe).tr (p2.xe ht)).w (Or.inl ⟨by omega, by omega⟩) (by omega) _ _
    have vf3 : VF v V3 := vf2.tr (p3.ve (L := 0)).me
    rcases p4 with ⟨g1, g2⟩ | ⟨g1, a', k, n, ok, se, ha', g3, g4, g5, g6, g7, g8, g9, g10, g11⟩
    · exact ⟨_, V3, hrun, hXE, vf3, Or.inl ⟨g1.mix ((DX.rf X3).r (by omega) _ _) (DV.rf V3), fun y => M0 y V3 false V3 (fun z => nomatch z) fun _ => ⟨g2 y, fun _ => rfl, fun z => nomatch z⟩⟩⟩
    · refine ⟨_, tlV (tlV V3 (10 + 2 * l) (V3.1 156 32)) (10 + 2 * l + 1) (V3.1 164 1), hrun, hXE, (vf3.tl _).tl _, Or.inr ⟨fun y => M0 y _ true V3 (fun z => nomatch z) fun _ => ⟨g1 y, (fun z => nomatch z), fun _ => rfl⟩, a', ok, se.mix ((DX.rf X3).r (by omega) _ _) ((DV.tl).tr DV.tl), by omega, fun hok => ?_⟩⟩
      have a4' := (se.lt hok).2
      have p1r : ∀ r, r ≠ 162 → (tlV (tlV V3 (10 + 2 * l) (V3.1 156 32)) (10 + 2 * l + 1) (V3.1 164 1)).1 r = V3.1 r := fun r z => by
        unfold tlV
        rw [wI_o z, wI_o z]
      have p162 : (tlV (tlV V3 (10 + 2 * l) (V3.1 156 32)) (10 + 2 * l + 1) (V3.1 164 1)).1 162 = upd (upd (v.1 162) (210 + (10 + 2 * l)) (nI fr)) (210 + (10 + 2 * l + 1)) (nI (fr + n)) := by
        unfold tlV
        rw [wI_k, wI_k, g3, g5, p3.2.1 162 (by decide) (by decide) (by decide) (by decide) (by decide), i5.2.1 162 (by decide), t5.2.1 162 (by decide)]
      have pV2 : (tlV (tlV V3 (10 + 2 * l) (V3.1 156 32)) (10 + 2 * l + 1) (V3.1 164 1)).2 = v.2 := by
        unfold tlV
        rw [wI_2, wI_2, p3.1, i5.1, t5.1]
      generalize hvE : tlV (tlV V3 (10 + 2 * l) (V3.1 156 32)) (10 + 2 * l + 1) (V3.1 164 1) = VE' at *
      have pj : ∀ j, j ≠ 10 + 2 * l → j ≠ 10 + 2 * l + 1 → VE'.1 162 (210 + j) = v.1 162 (210 + j) := fun j z1 z2 => by
        rw [p162, pk_un (by omega), pk_un (by omega)]
      have pr : ∀ r, r ≠ 156 → r ≠ 162 → r ≠ 164 → r ≠ 165 → r ≠ 166 → r ≠ 178 → VE'.1 r = v.1 r := fun r z1 z2 z3 z4 z5 z6 => by
        rw [p1r r z2, p3.2.1 r z1 z3 z4 z5 z6, i5.2.1 r z1, t5.2.1 r z1]
      have py : VE'.1 156 25 = v.1 156 25 := by
        rw [p1r 156 (by decide), p3.2.2.1 25 (by omega), i5.2.2 25 (by omega), t5.2.2 25 (by omega)]
      have eo3 : opV VE' = opV V3 := by unfold opV; rw [p1r 165 (by decide)]
      have ea3 : vaV VE' = vaV V3 := by unfold vaV; rw [p1r 166 (by decide)]
      have e2v : ∀ i, opV V2 i = opV v i ∧ vaV V2 i = vaV v i := fun i => by
        unfold opV vaV
        rw [i5.2.1 165 (by decide), t5.2.1 165 (by decide), i5.2.1 166 (by decide), t5.2.1 166 (by decide)]
        exact ⟨rfl, rfl⟩
      have eov : ∀ i, i < fr → opV VE' i = opV v i ∧ vaV VE' i = vaV v i := fun i hi => by
        rw [eo3, ea3]
        exact ⟨(p3.2.2.2.2.1 i hi).1.trans (e2v i).1, (p3.2.2.2.2.1 i hi).2.trans (e2v i).2⟩
      generalize hxE : wI X3 (rt + 8) (8 + l) (nI sz) = XE' at *
      have nr : ∀ r, r ≠ 1 → r ≠ 4 → r ≠ rt + 8 → r ≠ rt + 8 + 1 → XE'.1 r = x.1 r := fun r z1 z2 z3 z4 => by
        rw [← hxE, wI_o z3, p2.2.1 r z1 z2 z3 z4, qr2 r z1]
      have n8 : ∀ y, y ≠ 5 → y ≠ 8 + l → XE'.1 (rt + 8) y = x.1 (rt + 8) y := fun y z1 z2 => by
        rw [← hxE, wI_k, pk_un z2, p2.2.2.2.1 y z1, qr2 _ (by omega)]
      have n85 : XE'.1 (rt + 8) 5 = nI (sz + k + 1) := by rw [← hxE, wI_k, pk_un (by omega)]; exact g4
      have n8l : XE'.1 (rt + 8) (8 + l) = nI sz := by rw [← hxE, wI_k, pk_us]
      have ncd : cdX XE' rt = cdX X3 rt := by rw [← hxE]; unfold cdX; rw [wI_o (by omega)]
      have ncx : ∀ i, i < sz → cdX XE' rt i = cdX x rt i := fun i hi => by
        rw [ncd, p2.2.2.2.2 i hi]
        unfold cdX
        rw [qr2 _ (by omega)]
      have ny : ∀ y, (y < 6 ∨ y = 11 ∨ y = 12 ∨ 17 < y) → XE'.1 1 y = x.1 1 y := fun y hy => by
        rw [← hxE, wI_o (by omega), p2.2.2.1 y (by omega), i4.2.2 y (by omega), t4.2.2 y (by omega)]
      have nl : XE'.1 1 9 = 0 → x.1 1 9 = 0 := fun z => by
        rw [← hxE, wI_o (by omega), p2.2.2.1 9 (by omega), i6, t6] at z
        exact z
      have nx2 : XE'.2 = x.2 := by rw [← hxE, wI_2, p2.1]; exact q22
      have N4 : NJ XE' VE' M K H O := hN.mix nx2 (nr 3 (by decide) (by decide) (by omega) (by omega)) (ny 11 (by omega)) nl pV2 py (pr 176 (by decide) (by decide) (by decide) (by decide) (by decide) (by decide)) (pr 177 (by decide) (by decide) (by decide) (by decide) (by decide) (by decide))
      have hcE : ∀ j, j ≠ 10 + 2 * l → j ≠ 10 + 2 * l + 1 → hc XE' VE' 162 j = hc x v 162 j := fun j z1 z2 => pj j z1 z2
      have nt : XE'.1 rt = x.1 rt := nr _ (by omega) (by omega) (by omega) (by omega)
      refine ⟨H, O, I, S, Qn, W, F, B, sz + k + 1, fr + n, f, ⟨⟨⟨by rw [nx2]; exact r1, ht⟩, by rw [nx2]; exact r2, hs⟩, ⟨l1, l2, l3, l4, l5, l6⟩, ⟨by rw [nt]; exact c1, by rw [nt]; exact c2, by rw [nt]; exact c3, by rw [nt]; exact c4, by rw [nt]; exact c5, (n8 11 (by omega) (by omega)).trans c6, (n8 12 (by omega) (by omega)).trans c7, (ny 12 (by omega)).trans c8⟩,
        ⟨(pj 0 (by omega) (by omega)).trans m1, (pj 1 (by omega) (by omega)).trans m2, (pj 2 (by omega) (by omega)).trans m3, (pj 3 (by omega) (by omega)).trans m4, (pj 4 (by omega) (by omega)).trans m5, (pj 5 (by omega) (by omega)).trans m6, (pj 8 (by omega) (by omega)).trans m7, (pj 9 (by omega) (by omega)).trans m8⟩,
        ⟨n85, by rw [p1r 164 (by decide)]; exact g5, by rw [pr 167 (by decide) (by decide) (by decide) (by decide) (by decide) (by decide)]; exact s3, by omega, by omega, by omega, by omega⟩, N4⟩, fun z => ?_⟩
      obtain ⟨C, J, hA, hB, hL, hR, hS⟩ := hT (nl z)
      have hq : ∀ q, q ≤ 2 → LawB XE' VE' rt q (sz + k + 1) (fr + n) := fun q hq => by
        by_cases cq : q = l
        · subst cq
          refine Or.inr ⟨fr, n, sz, k, ?_, ?_, Nat.le_refl _, ?_, n8l, ?_, ?_, by omega, ?_⟩
          · rw [hc_162, p162, pk_un (by omega), pk_us]
          · rw [hc_162, p162, pk_us]
          · rw [eo3, ea3]; exact g9.2
          · rw [ncd]; exact g10
          · rw [ncd]; exact g11
          · rw [ncd, eo3, ea3]; exact g9.law
        · have old : LawB x v rt q sz fr := by
            match q, hq with
            | 0, _ => exact hL.1
            | 1, _ => exact hL.2.1
            | 2, _ => exact hL.2.2
          exact old.up (L := 0) ncx eov (by omega) (by omega) (hcE _ (by omega) (by omega)) (hcE _ (by omega) (by omega)) (n8 _ (by omega) (by omega))
      have hv3 : VE fr f v V3 := ((t5.ve (n := fr) (L := f)).tr (i5.ve (n := fr) (L := f)) (Nat.le_refl _) (Nat.le_refl _)).tr (p3.ve (L := f)) (Nat.le_refl _) (Nat.le_refl _)
      have xr3 : ∀ r, r ≠ 1 → r ≠ 4 → r ≠ rt + 8 → r ≠ rt + 8 + 1 → X3.1 r = x.1 r := fun r z1 z2 z3 z4 => by rw [p2.2.1 r z1 z2 z3 z4, qr2 r z1]
      have v162 : V3.1 162 = v.1 162 := by rw [p3.2.1 162 (by decide) (by decide) (by decide) (by decide) (by decide), i5.2.1 162 (by decide), t5.2.1 162 (by decide)]
      have kR1 : TBr X3 V3 rt F B (sz + k + 1) (fr + n) f := hR.keep (fun i hi => by rw [← ncd]; exact ncx i hi) (Or.inl hv3) (by omega) (by omega) (by omega) (Nat.le_refl _) (fun j _ => by rw [hc_162, hc_162, v162]) (fun y _ => by rw [xr3 _ (by omega) (by omega) (by omega) (by omega)]) (fun y _ => by rw [xr3 _ (by omega) (by omega) (by omega) (by omega)])
      have kR2 : TBr XE' VE' rt F B (sz + k + 1) (fr + n) f := kR1.keep (fun i _ => by rw [ncd]) (Or.inr ⟨eo3, ea3, fun r _ _ => p1r r (by omega)⟩) (by omega) (Nat.le_refl _) (Nat.le_refl _) (Nat.le_refl _) (fun j hj => by rw [hcE j (by omega) (by omega), hc_162, hc_162, v162]) (fun y _ => by rw [nr _ (by omega) (by omega) (by omega) (by omega), xr3 _ (by omega) (by omega) (by omega) (by omega)]) (fun y _ => by rw [nr _ (by omega) (by omega) (by omega) (by omega), xr3 _ (by omega) (by omega) (by omega) (by omega)])
      refine ⟨C, J, hA.keep (fun j hj => hcE j (by omega) (by omega)) (by rw [nt]) (by rw [nt]) (by rw [nt]), hB.keep (x' := XE') (v' := VE') (Nat.le_refl H) (fun j hj => hcE j (by omega) (by omega)) (fun y hy => ⟨by rw [nr _ (by omega) (by omega) (by omega) (by omega)], by rw [nr _ (by omega) (by omega) (by omega) (by omega)]⟩) (fun y hy => by rw [nr _ (by omega) (by omega) (by omega) (by omega)]) (fun y _ => ⟨by rw [nr _ (by omega) (by omega) (by omega) (by omega)], by rw [nr _ (by omega) (by omega) (by omega) (by omega)], by rw [nr _ (by omega) (by omega) (by omega) (by omega)]⟩) (fun y hy => by rw [nr _ (by omega) (by omega) (by omega) (by omega)]), ⟨hq 0 (by omega), hq 1 (by omega), hq 2 (by omega)⟩, kR2,
        hS.all (Nat.le_refl H) (Nat.le_refl O) (fun j z1 z2 => hcE j (by omega) (by omega)) (fun k _ => by rw [nr _ (by omega) (by omega) (by omega) (by omega)]) (fun j _ => ⟨pj _ (by omega) (by omega), by rw [nr _ (by omega) (by omega) (by omega) (by omega)]⟩) (fun j _ => ⟨pj _ (by omega) (by omega), by rw [nr _ (by omega) (by omega) (by omega) (by omega)]⟩)⟩
end

/-! read -/
theorem cr_R {u v : MM} {a : Nat} (h : 156 ≤ a) (f : Nat → Int32) : wR (catR u v) a f = catR u (wR v a f) := by
  refine Prod.ext (funext fun b => ?_) rfl
  by_cases c : b = a
  · subst c
    rw [wR_k, cr_1 h, wR_k]
  · rw [wR_o c]
    by_cases d : b < 156
    · show (if b < 156 then u.1 b else v.1 b) = (if b < 156 then u.1 b else _)
      rw [if_pos d, if_pos d]
    · rw [cr_1 (by omega), cr_1 (by omega), wR_o c]
theorem cat_self {u v : MM} (h1 : ∀ a, 156 ≤ a → u.1 a = v.1 a) (h2 : ∀ a, 156 ≤ a → u.2.1 a = v.2.1 a) : catR u v = u := by
  refine Prod.ext (funext fun a => ?_) (Prod.ext (funext fun a => ?_) rfl)
  · show (if a < 156 then u.1 a else v.1 a) = u.1 a
    by_cases c : a < 156
    · rw [if_pos c]
    · rw [if_neg c, h1 a (by omega)]
  · show (if a < 156 then u.2.1 a else v.2.1 a) = u.2.1 a
    by_cases c : a < 156
    · rw [if_pos c]
    · rw [if_neg c, h2 a (by omega)]
theorem bgV_cat (u w : MM) : wI (wI (mBegin (wI (wI (wI (catR u w) 156 8 0) 156 9 (-1)) 156 10 0) 1) 156 7 0) 156 25 0 = catR u (bgV w) := by
  unfold bgV bg0 mBegin
  rw [cr_w (by decide), cr_w (by decide), cr_w (by decide), cr_1 (by decide), cr_R (by decide), cr_w (by decide), cr_w (by decide), cr_w (by decide), cr_w (by decide)]
/-- the model's read, from what its parsing comes to -/
theorem readM {m1 x0 v' : MM} {n : Nat} {f : Nat → Nat} {b : Bool} (hT : TapM m1 n f) (hc : catR m1 x0 = m1) (hp : ∀ (y : MM) (Q : Value → MM → Prop), Q (.int (bI b)) (catR y v') → G e_X12_parses 10 [(0, .ref 156)] [] (catR y (bgV (scI x0 n f (lsT n f 2001 + 1)))) Q) {Q : Value → MM → Prop}
    (k1 : b = false → ¬ v'.1 156 8 = 0 ∧ Q (.int (v'.1 156 8)) (wI (catR m1 v') 156 0 0)) (k2 : b = true → ¬ v'.1 156 10 = 0 → Q (.int (v'.1 156 10)) (wI (wI (wI (catR m1 v') 156 8 (v'.1 156 10)) 156 9 (v'.1 156 11)) 156 0 0))
    (k3 : b = true → v'.1 156 10 = 0 → v'.1 156 8 = 0 ∧ ∃ Pm4 : Value → MM → Prop, Runs e_X12_takesHold [.ref 156] (wI (catR m1 v') 156 0 0) Pm4 ∧ ∀ m4, Pm4 .null m4 → Q (.int (m4.1 156 8)) m4) : Runs e_X12_read [.ref 156] m1 Q := by
  have e : scI m1 n f (lsT n f 2001 + 1) = catR m1 (scI x0 n f (lsT n f 2001 + 1)) := (congrArg (fun z => scI z n f (lsT n f 2001 + 1)) hc.symm).trans (scI_cat m1 x0 n f _)
  have c8 : (catR m1 v').1 156 = v'.1 156 := cr_1 (Nat.le_refl _)
  apply b_X12_read
  refine vcall (scanAll_x hT).1 ?_
  rintro m2 rfl
  refine vcall (K := fun m => m = mBegin (wI (wI (wI (scI m1 n f (lsT n f 2001 + 1)) 156 8 0) 156 9 (-1)) 156 10 0) 1) (begin_ok 1 (by decide) _ _ ⟨rfl, rfl⟩) ?_
  rintro m3 rfl
  refine bcall (b := b) (K := fun m => m = catR m1 v') (b_X12_parses _ _ (by rw [e, bgV_cat]; exact hp m1 _ ⟨rfl, rfl⟩)) ?_ ?_
  · rintro hb m4 rfl
    have e10 : (catR m1 v').1 156 10 = v'.1 156 10 := congrFun c8 10
    refine ⟨fun z => ?_, fun z => ?_⟩
    · rw [e10] at z
      obtain ⟨g1, g2⟩ := k3 hb z
      have e8 : (wI (catR m1 v') 156 0 0).1 156 8 = 0 := by rw [wI_k, pk_un (by decide), congrFun c8 8]; exact g1
      exact ⟨fun y => absurd e8 y, fun _ => g2⟩
    · have hz : ¬ v'.1 156 10 = 0 := by rw [← e10]; exact z
      have e11 : (wI (catR m1 v') 156 8 ((catR m1 v').1 156 10)).1 156 11 = v'.1 156 11 := by rw [wI_k, pk_un (by decide), congrFun c8 11]
      rw [e11, e10]
      have e8 : (wI (wI (wI (catR m1 v') 156 8 (v'.1 156 10)) 156 9 (v'.1 156 11)) 156 0 0).1 156 8 = v'.1 156 10 := by rw [wI_k, pk_un (by decide), wI_k, pk_un (by decide), wI_k, pk_us]
      rw [e8]
      exact ⟨fun _ => k2 hb hz, fun y => absurd y hz⟩
  · rintro hb m4 rfl
    obtain ⟨g1, g2⟩ := k1 hb
    have e8 : (wI (catR m1 v') 156 0 0).1 156 8 = v'.1 156 8 := by rw [wI_k, pk_un (by decide), congrFun c8 8]
    rw [e8]
    exact ⟨fun _ => g2, fun y => absurd y g1⟩
theorem st_read : StepOK RR e_X11_read e_X12_read [] := by
  intro mm hR
  refine ⟨fun r m1 => ∃ P' : Value → MM → Prop, Runs e_X12_read [.ref 156] m1 P' ∧ ∀ r' m2, P' r' m2 → r' = r ∧ RR m2, ?_, fun r m1 h => h⟩
  obtain ⟨t, s, H, O, S, Qn, W, C, J, F, B, ht, hs, hr, hb, hl⟩ := hR
  have ht' : t = 10 ∨ t = 100 := ht
  have hs' : s = 24 ∨ s = 114 := hs
  obtain ⟨n, hn, n1, n2, hbytes⟩ := hb.2.2.2.2.2.1
  obtain ⟨f, hf⟩ : ∃ f : Nat → Nat, ∀ i, i < n → mm.1 157 i = nI (f i) ∧ f i < 256 ∧ mm.1 6 i &&& 255 = nI (f i) := ⟨fun i => (mm.1 157 i).toNatClampNeg, fun i hi => by
    obtain ⟨⟨b, hb1, hb2⟩, hb3⟩ := hbytes i hi
    have e : (mm.1 157 i).toNatClampNeg = b := by rw [hb2]; exact nI_clamp (by omega)
    show mm.1 157 i = nI (mm.1 157 i).toNatClampNeg ∧ (mm.1 157 i).toNatClampNeg < 256 ∧ mm.1 6 i &&& 255 = nI (mm.1 157 i).toNatClampNeg
    rw [e]
    exact ⟨hb2, hb1, hb3.trans hb2⟩⟩
  have tX : Tap mm n f := ⟨n1, hn, fun p hp => ⟨(hf p hp).2.2, (hf p hp).2.1⟩⟩
  apply b_X11_read
  refine vcall (scan_ok tX) ?_
  rintro x0 ⟨⟨fS1, fS2, fS3⟩, e5, tk⟩
  have tM : TapM x0 n f := ⟨by rw [fS2 156 (by decide) (by decide) (by decide)]; exact n2, hn, fun p hp => by rw [fS2 157 (by decide) (by decide) (by decide)]; exact ⟨(hf p hp).1, (hf p hp).2.1⟩⟩
  obtain ⟨-, hLS, hlast⟩ := scanAll_x tM
  obtain ⟨⟨v1, v2⟩, v3, v4⟩ := scI_at x0 n f (lsT n f 2001 + 1)
  have tj := TJ_of hn hLS hlast e5 tk v4
  have hrt : isT (110 - t) := by
    rcases ht' with rfl | rfl
    · exact Or.inr rfl
    · exact Or.inl rfl
  have hrs : isN (138 - s) := by
    rcases hs' with rfl | rfl
    · exact Or.inr rfl
    · exact Or.inl rfl
  obtain ⟨r1, r2, r3, r4⟩ := hr
  have q4 : x0.2.2 1 4 = 110 - t := by rw [fS1]; exact r3
  have q5 : x0.2.2 1 5 = 138 - s := by rw [fS1]; exact r4
  obtain ⟨x', v', b, hx, hv, cX, cM, hcase⟩ := textL 402 0 _ _ 0 (by decide) (RC0 hrt hrs tj) (INV0 (v := scI x0 n f (lsT n f 2001 + 1)) (M := min 401 (lsT n f 401 + 1)) (K := kiT n f) hrt hrs q4 q5) (Nat.le_refl 0)
  have hread : ∀ Q : Value → MM → Prop, TE x' Q → Runs e_X4_readText [.ref 1] x0 Q := fun Q hQ => b_X4_readText _ _ (vcall (beginX hrt hrs q4 q5) (by rintro m rfl; exact cX Q hQ))
  obtain ⟨g1, g2, g3, g4, -, -, -, g8, g9, g10⟩ := bgX_at (x := x0) hrt hrs
  obtain ⟨w1, w2, w3, w4, w5, -, -⟩ := bgV_at (v := scI x0 n f (lsT n f 2001 + 1))
  -- what the class leaves alone
  have fx : ∀ r, 8 < r → (r < 110 - t ∨ 110 - t + 13 < r) → (r < 138 - s ∨ 138 - s + 13 < r) → x'.1 r = mm.1 r := fun r h1 h2 h3 => by
    rw [hx.2.2.1 r (by omega) h2 (by omega), g2 r (by omega) (by omega) (by omega) (by omega) (by omega) (by omega) (by omega), fS2 r (by omega) (by omega) (by omega)]
  have fr : x'.2.2 = mm.2.2 := by rw [hx.1, g1, fS1]
  have f5 : x'.1 5 4 = nI n := by
    rw [hx.2.2.1 5 (by omega) (by omega) (by omega), g2 5 (by omega) (by omega) (by omega) (by omega) (by omega) (by omega) (by omega), fS3 4 (by decide)]
    exact n1
  have hcat : ∀ m1 : MM, (∀ r, 156 ≤ r → m1.1 r = x'.1 r) → m1.2.1 = x'.2.1 → catR m1 x0 = m1 := fun m1 h1 h2 => cat_self (fun a ha => by
      rw [h1 a ha, fx a (by omega) (by omega) (by omega), fS2 a (by omega) (by omega) (by omega)]) fun a ha => by
      rw [h2, hx.2.1 a (by omega), g1]
  have htap : ∀ m1 : MM, catR m1 x0 = m1 → TapM m1 n f := fun m1 e => by
    rw [← e]
    exact ⟨by rw [cr_1 (by decide)]; exact tM.1, hn, fun p hp => by rw [cr_1 (by decide)]; exact tM.2.2 p hp⟩
  -- what the model leaves alone
  have gv : ∀ r, 161 < r → r ≠ 162 → (r < 164 ∨ 173 < r) → (r < 175 ∨ 178 < r) → v'.1 r = mm.1 r := fun r h1 h2 h3 h4 => by
    rw [hv.2.2.1 r (by omega) h2 h3 h4, w2 r (by omega) (by omega) (by omega) (by omega), ← fS2 r (by omega) (by omega) (by omega)]
    funext y
    exact v2 r y (by omega) (by omega) (by omega) (by omega)
  have g0 : ∀ r y, 161 < r → (scI x0 n f (lsT n f 2001 + 1)).1 r y = mm.1 r y := fun r y h1 => by rw [v2 r y (by omega) (by omega) (by omega) (by omega), fS2 r (by omega) (by omega) (by omega)]
  have g156 : ∀ y, y = 40 ∨ y = 50 → v'.1 156 y = mm.1 156 y := fun y hy => by
    rw [hv.2.2.2.1 y (by omega), w3 y (by omega) (by omega) (by omega) (by omega) (by omega), v2 156 y (by decide) (by decide) (by decide) (by omega), fS2 156 (by decide) (by decide) (by decide)]
  have g162 : ∀ j, j < 210 → v'.1 162 j = mm.1 162 j := fun j hj => by
    rw [hv.2.2.2.2.1 j hj, w5, beginF_lo hj, g0 162 j (by decide)]
  have gF : ∀ m : MM, (∀ r, 165 ≤ r → r ≤ 173 → m.1 r = v'.1 r) → AgF mm.1 m.1 := fun m hm => ⟨fun i hi => by
      rw [hm 165 (by decide) (by decide), hm 166 (by decide) (by decide), (hv.2.2.2.2.2.1 i hi).1, (hv.2.2.2.2.2.1 i hi).2, w2 165 (by decide) (by decide) (by decide) (by decide), w2 166 (by decide) (by decide) (by decide) (by decide), g0 165 i (by decide), g0 166 i (by decide)]
      exact ⟨rfl, rfl⟩, fun i hi _ => by rw [hm 168 (by decide) (by decide), hv.2.2.2.2.2.2 168 (by decide) (by decide) i hi, w2 168 (by decide) (by decide) (by decide) (by decide), g0 168 i (by decide)], fun r r1 r2 i hi => by rw [hm r (by omega) r2, hv.2.2.2.2.2.2 r (by omega) r2 i hi, w2 r (by omega) (by omega) (by omega) (by omega), g0 r i (by omega)]⟩
  -- a fault: what both come to
  have fault : ∀ m1 w : MM, (∀ r, r ≠ 1 → r ≠ 5 → m1.1 r = x'.1 r) → m1.2 = x'.2 → m1.1 5 4 = 0 → (∀ r, 156 < r → w.1 r = v'.1 r) → (∀ y, y = 40 ∨ y = 50 → w.1 156 y = v'.1 156 y) → m1.1 1 8 = w.1 156 9 → RR (wI (catR m1 w) 156 0 0) := fun m1 w h1 h2 h3 h4 h5 h6 => by
    have hlo : ∀ r, r < 156 → (wI (catR m1 w) 156 0 0).1 r = m1.1 r := fun r hr => by rw [wI_o (by omega)]; exact if_pos hr
    have hhi : ∀ r, 156 < r → (wI (catR m1 w) 156 0 0).1 r = w.1 r := fun r hr => by rw [wI_o (by omega)]; exact cr_1 (by omega)
    have h156 : ∀ y, ¬ y = 0 → (wI (catR m1 w) 156 0 0).1 156 y = w.1 156 y := fun y hy => by rw [wI_k, pk_un hy, cr_1 (by decide)]
    refine RR_fault ht hs ⟨r1, r2, r3, r4⟩ hb hl (by rw [wI_2]; show m1.2.2 = _; rw [h2]; exact fr) (fun r a1 a2 a3 a4 => ?_) (fun r hr => ?_) ?_ ?_ (fun j hj => ?_) (gF _ fun r a1 a2 => ?_) ?_ ?_ ?_
    · rw [hlo r a2, h1 r (by omega) (by omega)]; exact fx r a1 a3 a4
    · rw [hhi r (by omega), h4 r (by omega)]; exact gv r (by omega) (by omega) (by omega) (by omega)
    · rw [h156 40 (by decide), h5 40 (by omega)]; exact g156 40 (by omega)
    · rw [h156 50 (by decide), h5 50 (by omega)]; exact g156 50 (by omega)
    · rw [hhi 162 (by decide), h4 162 (by decide)]; exact g162 j hj
    · rw [hhi r (by omega), h4 r (by omega)]
    · rw [hlo 5 (by decide)]; exact h3
    · rw [wI_k, pk_us]
    · rw [hlo 1 (by decide), h156 9 (by decide)]; exact h6
  have c54 : ∀ z : MM, (wI z 5 4 0).1 5 4 = 0 := fun z => by rw [wI_k, pk_us]
  rcases hcase with ⟨rfl, e, he0, he2, e7, e8, e9⟩ | ⟨rfl, a', hRC, hI⟩
  · -- a fault
    have ne : ¬ nI e = 0 := nI_ne0 he0 (by omega)
    refine ⟨_, hread (fun r m => r = .int (nI e) ∧ m = x') ⟨fun _ => ⟨by rw [e7], rfl⟩, fun z => absurd (e7.symm.trans z) ne⟩, ?_⟩
    rintro r2 m2 ⟨q, rfl⟩
    have q := Value.int.inj q
    subst q
    refine ⟨fun _ => ?_, fun z => absurd z ne⟩
    have hc : catR (wI m2 5 4 0) x0 = wI m2 5 4 0 := hcat _ (fun r hr => wI_o (by omega)) rfl
    refine ⟨fun r m => r = .int (nI e) ∧ RR m, readM (htap _ hc) hc cM (fun _ => ⟨by rw [e8]; exact ne, by rw [e8], ?_⟩) (fun z => nomatch z) (fun z => nomatch z), fun r m h => h⟩
    exact fault _ _ (fun r h1 h5 => wI_o h5) rfl (c54 _) (fun _ _ => rfl) (fun _ _ => rfl) (by rw [wI_o (by decide)]; exact e9)
  · obtain ⟨-, haM, -, -, x7, y8, x8, y9, hlj⟩ := id hRC
    have haM4 : a' ≤ 400 := by have := hRC.1.2.2.1.2.1; omega
    rcases hlj with ⟨x9, y10⟩ | ⟨l, bb, l0, l5, -, x9, y10, x10, y11⟩
    · -- no fault
      refine ⟨_, hread (fun r m => r = .int 0 ∧ m = x') ⟨fun z => absurd x7 z, fun _ => ⟨fun _ => ⟨by rw [x7], rfl⟩, fun z => absurd x9 z⟩⟩, ?_⟩
      rintro r2 m2 ⟨q, rfl⟩
      have q := Value.int.inj q
      subst q
      refine ⟨fun z => absurd rfl z, fun _ => vcall (moveIn_ok (m := wI m2 5 4 0) ht hs hrt hrs (by rw [wI_2, fr]; exact r1) (by rw [wI_2, fr]; exact r2) (by rw [wI_2, fr]; exact r3) (by rw [wI_2, fr]; exact r4)) ?_⟩
      rintro m1 ⟨⟨i1, i2, i3, i4, i5⟩, i6, i7, i8, i9, i10, i11⟩
      have hm1 : ∀ r, 9 < r → r ≠ 41 → r ≠ 95 → r ≠ 99 → m1.1 r = m2.1 r := fun r h0 h1 h2 h3 => by rw [i6 r h1 h2 h3, wI_o (by omega)]
      have hc : catR m1 x0 = m1 := hcat _ (fun r hr => hm1 r (by omega) (by omega) (by omega) (by omega)) (by rw [i1]; rfl)
      obtain ⟨H', O', I', S', Qn', W', F', B', sz, fr', f', hD, hT⟩ := hI
      obtain ⟨C', J', hA, hB, hL, hRr, hS⟩ := hT x9
      have hTn := TB_town hD haM4 hA hB hL hRr
      obtain ⟨z1, z2, -⟩ := hTn.1
      have l1 := hD.2.1.1
      obtain ⟨d1, d2, d3, -⟩ := hD.2.2.2.1
      have eH : (wI (catR m1 v') 156 0 0).1 162 = v'.1 162 := by rw [wI_o (by decide)]; exact cr_1 (by decide)
      refine ⟨fun r m => r = .int 0 ∧ RR m, readM (htap _ hc) hc cM (fun z => nomatch z) (fun _ z => absurd y10 z) (fun _ _ => ⟨y8, vcall (takesHold_ok (H := H') (N := I') (by rw [eH]; exact d1) z1 (by rw [eH]; exact d3) l1 (fun i hi => ?_)) ?_⟩), fun r m h => h⟩
      · rw [eH]
        obtain ⟨h, o, o1, o2, o3, o4⟩ := hS.2.2.1 i hi
        exact ⟨h, by omega, o3⟩
      rintro m4 ⟨⟨t1, t2⟩, ⟨t3, t4, t5, t6, t7⟩, t8, t9, t10, t11, t12⟩
      have hlo : ∀ r, r < 156 → m4.1 r = m1.1 r := fun r hr => by rw [t2 r (by omega) (by omega), wI_o (by omega)]; exact if_pos hr
      have h156 : ∀ y, y ≠ 50 → y ≠ 40 → y ≠ 0 → m4.1 156 y = v'.1 156 y := fun y h1 h2 h3 => by rw [t7 y h1 h2, wI_k, pk_un h3, cr_1 (by decide)]
      have hhi : ∀ r, 156 < r → (wI (catR m1 v') 156 0 0).1 r = v'.1 r := fun r hr => by rw [wI_o (by omega)]; exact cr_1 (by omega)
      have e8 : m4.1 156 8 = 0 := (h156 8 (by decide) (by decide) (by decide)).trans y8
      obtain ⟨k, nx, -, hnx, -, h415, -⟩ := hl
      have hst : ∀ y, m2.1 (138 - s) y = (bgX x0 (110 - t) (138 - s)).1 (138 - s) y := fun y => by rw [hx.2.2.1 (138 - s) (by omega) (by omega) (by omega)]
      refine ⟨by rw [e8], RR_new hD haM4 hA hB hL hRr hS ⟨?_, ?_, ?_, ?_⟩ (fun r a1 a2 a3 a4 a5 => ?_) (fun j hj => ?_) t12 ⟨fun i hi => ?_, fun i hi hbo => ?_, fun r a1 a2 i hi => ?_⟩ ?_ ?_ ?_ (fun j hj => ?_) ?_ t3 ?_ ?_ ?_ ?_ hnx ?_ t4⟩
      · rw [t1]; exact i2
      · rw [t1]; exact i3
      · rw [t1]; show m1.2.2 1 4 = _; rw [i4]; omega
      · rw [t1]; show m1.2.2 1 5 = _; rw [i5]; omega
      · rw [hlo r a2]; exact hm1 r a1 a3 a4 a5
      · rw [t8 j hj, eH]
      · rw [(t9 i hi).1, (t9 i hi).2, hhi 165 (by decide), hhi 166 (by decide), hc_165, hc_166]
        exact ⟨rfl, rfl⟩
      · rw [hc_l (by decide), lv_o (by decide)] at hbo ⊢
        rw [t10 i hi, hhi 168 (by decide)]
        exact isB_nar hbo
      · rw [t11 r a1 a2 i hi, hhi r (by omega), hc_l (by omega), lv_o (by omega)]
      · rw [hst]; exact g9
      · rw [hst]; exact g8
      · rw [hx.2.2.1 (138 - s + 7) (by omega) (by omega) (by omega)]; exact g10
      · have hj2 : j = 0 ∨ j = 1 := by omega
        rcases hj2 with rfl | rfl
        · exact ⟨by rw [hlo 99 (by decide)]; exact i10, t5⟩
        · exact ⟨by rw [hlo 99 (by decide)]; exact i11, t6⟩
      · rw [hlo 95 (by decide)]; exact i9
      · rw [hlo 5 (by decide), i6 5 (by decide) (by decide) (by decide)]; exact c54 _
      · rw [t7 0 (by decide) (by decide), wI_k, pk_us]
      · rw [hlo 1 (by decide), i6 1 (by decide) (by decide) (by decide), wI_o (by decide), x8, h156 9 (by decide) (by decide) (by decide), y9]
      · rw [hlo 41 (by decide)]; exact i7
      · rw [hlo 41 (by decide), i8, wI_o (by decide), fx 41 (by decide) (by omega) (by omega)]; exact h415
    · -- a late fault
      have ne : ¬ nI l = 0 := nI_ne0 l0 (by omega)
      have a7 : (wI (wI x' 1 7 (x'.1 1 9)) 1 8 ((wI x' 1 7 (x'.1 1 9)).1 1 10)) = wI (wI x' 1 7 (nI l)) 1 8 (nI (stT n f bb)) := by rw [wI_k, pk_un (by decide), x9, x10]
      refine ⟨_, hread (fun r m => r = .int (nI l) ∧ m = wI (wI x' 1 7 (nI l)) 1 8 (nI (stT n f bb))) ⟨fun z => absurd x7 z, fun _ => ⟨fun z => absurd (x9.symm.trans z) ne, fun _ => ?_⟩⟩, ?_⟩
      · rw [a7]
        exact ⟨by rw [wI_k, pk_un (by decide), wI_k, pk_us], rfl⟩
      rintro r2 m2 ⟨q, rfl⟩
      have q := Value.int.inj q
      subst q
      refine ⟨fun _ => ?_, fun z => absurd z ne⟩
      have h1 : ∀ r, r ≠ 1 → r ≠ 5 → (wI (wI (wI x' 1 7 (nI l)) 1 8 (nI (stT n f bb))) 5 4 0).1 r = x'.1 r := fun r h1 h5 => by rw [wI_o h5, wI_o h1, wI_o h1]
      have hc := hcat (wI (wI (wI x' 1 7 (nI l)) 1 8 (nI (stT n f bb))) 5 4 0) (fun r hr => h1 r (by omega) (by omega)) rfl
      refine ⟨fun r m => r = .int (nI l) ∧ RR m, readM (htap _ hc) hc cM (fun z => nomatch z) (fun _ _ => ⟨by rw [y10], ?_⟩) (fun _ z => absurd (y10.symm.trans z) ne), fun r m h => h⟩
      rw [y10, y11, cr_w (by decide), cr_w (by decide)]
      refine fault _ _ h1 rfl (c54 _) (fun r hr => by rw [wI_o (by omega), wI_o (by omega)]) (fun y hy => by rw [wI_k, pk_un (by omega), wI_k, pk_un (by omega)]) ?_
      rw [wI_o (by decide), wI_k, pk_us, wI_k, pk_us]

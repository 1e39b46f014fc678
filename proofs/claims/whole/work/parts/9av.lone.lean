/-! reading: CREWS and JACK, both sides -/
section
variable {x v : MM} {M a : Nat} {K ts : Nat → Nat}
theorem loneX {kd hi w : Nat} {ok1 ok4 : Bool} {x1 x2 x4 : MM} (t1 : Runs e_X4_take [.ref 1, .int (nI kd)] x (fun r m => r = .int (bI ok1) ∧ m = x1)) (t2 : Runs e_X4_readInt [.ref 1, .int (nI 1), .int (nI hi)] x1 (fun r m => r = .int (nI w) ∧ m = x2)) (t4 : Runs e_X4_take [.ref 1, .int (nI 28)] x2 (fun r m => r = .int (bI ok4) ∧ m = x4)) :
    Runs e_X4_readLone [.ref 1, .int (nI kd), .int (nI hi)] x (fun r m => r = .int (nI w) ∧ m = x4) := by
  have l4 : ∃ Pm : Value → MM → Prop, Runs e_X4_take [.ref 1, .int 28] x2 Pm ∧ (∀ r m3, Pm r m3 → r = .int 1 ∨ r = .int 0) ∧ (∀ m3, Pm (.int 1) m3 → (Value.int (nI w) = .int (nI w) ∧ m3 = x4)) ∧ (∀ m3, Pm (.int 0) m3 → (Value.int (nI w) = .int (nI w) ∧ m3 = x4)) := bcall t4 (fun _ m e => ⟨rfl, e⟩) fun _ m e => ⟨rfl, e⟩
  apply b_X4_readLone
  refine bcall t1 (fun _ m e => ?_) (fun _ m e => ?_)
  · subst e
    refine icall t2 ?_
    rintro m' rfl
    exact l4
  · subst e
    refine icall t2 ?_
    rintro m' rfl
    exact l4
theorem loneJ {rt rs kd hi cx : Nat} (h : RC x v M K ts a) (hk : K a = kd) (hcase : kd = 6 ∧ hi = 9 ∧ cx = 14 ∨ kd = 7 ∧ hi = 99 ∧ cx = 15) (hI : INV x v M K rt rs a) :
    ∃ (x0 v' : MM) (w : Nat), Runs e_X4_readLone [.ref 1, .int (nI kd), .int (nI hi)] x (fun r m => r = .int (nI w) ∧ m = x0) ∧ x0.2.2 = x.2.2 ∧ XE rt rs x (wI x0 rt cx (nI w)) ∧ VF v v' ∧
      ((JM false (wI x0 rt cx (nI w)) v' M K ts 0 ∧ ∀ y, Runs e_X12_tellNumber [.ref 156, .int (nI kd), .int (nI hi)] (catR y v) (fun r m => r = .int (bI false) ∧ m = catR y v')) ∨
       ((∀ y, Runs e_X12_tellNumber [.ref 156, .int (nI kd), .int (nI hi)] (catR y v) (fun r m => r = .int (bI true) ∧ m = catR y v')) ∧ ∃ (a' : Nat) (ok : Bool), SE (wI x0 rt cx (nI w)) v' M K ts a' ok ∧ a + 1 ≤ a' ∧ (ok = true → INV (wI x0 rt cx (nI w)) v' M K rt rs (a' + 1)))) := by
  obtain ⟨H, O, I, S, Qn, W, F, B, sz, fr, f, hD, hT⟩ := hI
  obtain ⟨⟨⟨r1, ht⟩, r2, hs⟩, ⟨l1, l2, l3, l4, l5, l6⟩, ⟨c1, c2, c3, c4, c5, c6, c7, c8⟩, ⟨m1, m2, m3, m4, m5, m6, m7, m8⟩, ⟨s1, s2, s3, s4, s5, s6, s7⟩, hN⟩ := hD
  obtain ⟨hrt, hrs⟩ := isN.ne ht hs
  have hHO : H ≤ 16 ∧ O ≤ 12 := by
    obtain ⟨-, -, z, -⟩ := hN
    exact z
  have m4' := h.1.2.2.1.2.1
  obtain ⟨ok1, X1, V1, t1, t2, -, t4, t5, t6, t7, t8⟩ := takeJ (JM.t h) kd (by omega)
  obtain ⟨e1, e2⟩ := t2 rfl
  have mp : ∀ y, Runs e_X12_pass [.ref 156] (catR y v) (fun r m => r = .int (bI ok1) ∧ m = catR y V1) := fun y => by rw [e1, e2]; exact mPass h y hk
  obtain ⟨ok2, X2, V2, w2, i1, i2, i3, i4, i5, i6, i7, i8, i9⟩ := intJ t7 (lo := 1) (hi := hi) (by omega) (by omega)
  have J2 : JM ok2 X2 (tlV V2 kd (nI w2)) M K ts (a + 1 + 1) := i7.mix (DX.rf X2) DV.tl
  obtain ⟨ok4, X4, k1, k2, k3, k4, k5⟩ := semJ J2
  have q1 : ∀ r, r ≠ 1 → X4.1 r = x.1 r := fun r z1 => by rw [k2.2.1 r z1, i5.2.1 r z1, t4.2.1 r z1]
  have qy : ∀ y, y < 6 ∨ 10 < y → X4.1 1 y = x.1 1 y := fun y hy => by rw [k2.2.2 y hy, i5.2.2 y hy, t4.2.2 y hy]
  have q2 : X4.2 = x.2 := by rw [k2.1, i5.1, t4.1]
  have hrun := loneX t1 i1 k1
  have hXE : XE rt rs x (wI X4 rt cx (nI w2)) := (((t4.xe.tr i5.xe).tr k2.xe).w (Or.inl ⟨Nat.le_refl _, by omega⟩) (by omega) _ _)
  have mrest : ∀ (y : MM) (vE : MM) (b : Bool), ((ok1 = false → b = false ∧ vE = V1) ∧ (ok1 = true → ok2 = false → b = false ∧ vE = V2) ∧ (ok1 = true → ok2 = true → b = true ∧ vE = tlV V2 kd (nI w2))) → Runs e_X12_tellNumber [.ref 156, .int (nI kd), .int (nI hi)] (catR y v) (fun r m => r = .int (bI b) ∧ m = catR y vE) := by
    intro y vE b hb
    apply b_X12_tellNumber
    refine bcall (mp y) (fun z m e => ?_) (fun z m e => ?_)
    · subst e
      refine bcall (i3 z y) (fun z2 m e => ?_) (fun z2 m e => ?_)
      · subst e
        have e29 : (catR y V2).1 156 29 = nI w2 := by rw [cr_1 (by decide)]; exact (i9 z2).2.1
        rw [e29]
        refine vcall (tellM (by omega) _ y) ?_
        rintro m rfl
        obtain ⟨b1, b2⟩ := hb.2.2 z z2
        rw [b1, b2]
        exact ⟨rfl, rfl⟩
      · obtain ⟨b1, b2⟩ := hb.2.1 z z2
        rw [b1, b2]
        exact ⟨rfl, e⟩
    · obtain ⟨b1, b2⟩ := hb.1 z
      rw [b1, b2]
      exact ⟨rfl, e⟩
  cases ok1 with
  | false =>
    obtain ⟨z1, z2, z3⟩ := i4 rfl
    subst z1
    have z4 := k5 rfl
    refine ⟨X4, V1, w2, hrun, by rw [q2], hXE, t5.me, Or.inl ⟨?_, fun y => mrest y V1 false ⟨fun _ => ⟨rfl, rfl⟩, (fun z => nomatch z), (fun z => nomatch z)⟩⟩⟩
    rw [z4, z2]
    exact (t7.mix ((DX.rf X1).r (by omega) _ _) (DV.rf V1)).any
  | true =>
    cases ok2 with
    | false =>
      have z4 := k5 rfl
      refine ⟨X4, V2, w2, hrun, by rw [q2], hXE, t5.me.tr i6.me, Or.inl ⟨?_, fun y => mrest y V2 false ⟨(fun z => nomatch z), fun _ _ => ⟨rfl, rfl⟩, (fun _ z => nomatch z)⟩⟩⟩
      rw [z4]
      exact (i7.mix ((DX.rf X2).r (by omega) _ _) (DV.rf V2)).any
    | true =>
      have se := (k4 rfl).1
      refine ⟨X4, tlV V2 kd (nI w2), w2, hrun, by rw [q2], hXE, (t5.me.tr i6.me).tl _, Or.inr ⟨fun y => mrest y _ true ⟨(fun z => nomatch z), (fun _ z => nomatch z), fun _ _ => ⟨rfl, rfl⟩⟩, a + 1 + 1, ok4, se.mix ((DX.rf X4).r (by omega) _ _) (DV.rf _), by omega, fun hok => ?_⟩⟩
      have a4' := (k4 rfl).2 hok
      have p1 : ∀ r, r ≠ 156 → r ≠ 162 → (tlV V2 kd (nI w2)).1 r = v.1 r := fun r z1 z2 => by
        unfold tlV
        rw [wI_o z2, i6.2.1 r z1, t5.2.1 r z1]
      have p162 : (tlV V2 kd (nI w2)).1 162 = upd (v.1 162) (210 + kd) (nI w2) := by
        unfold tlV
        rw [wI_k, i6.2.1 162 (by decide), t5.2.1 162 (by decide)]
      have p2 : (tlV V2 kd (nI w2)).2 = v.2 := by
        unfold tlV
        rw [wI_2, i6.1, t5.1]
      have p25 : (tlV V2 kd (nI w2)).1 156 25 = v.1 156 25 := by
        unfold tlV
        rw [wI_o (by decide), i6.2.2 25 (by omega), t5.2.2 25 (by omega)]
      have pj : ∀ j, j ≠ kd → (tlV V2 kd (nI w2)).1 162 (210 + j) = v.1 162 (210 + j) := fun j z1 => by rw [p162, pk_un (by omega)]
      generalize hvE : tlV V2 kd (nI w2) = VE' at *
      have n9 : ∀ y, y ≠ cx → (wI X4 rt cx (nI w2)).1 rt y = x.1 rt y := fun y hy => by rw [wI_k, pk_un hy, q1 rt (by omega)]
      have nr : ∀ r, r ≠ 1 → r ≠ rt → (wI X4 rt cx (nI w2)).1 r = x.1 r := fun r z1 z2 => by rw [wI_o z2, q1 r z1]
      have ny : ∀ y, y < 6 ∨ 10 < y → (wI X4 rt cx (nI w2)).1 1 y = x.1 1 y := fun y hy => by rw [wI_o (by omega)]; exact qy y hy
      have nl : (wI X4 rt cx (nI w2)).1 1 9 = 0 → x.1 1 9 = 0 ∧ 1 ≤ w2 ∧ w2 ≤ hi := fun z => by
        rw [wI_o (by omega), k3] at z
        exact ⟨t6.symm.trans (i8 z), (i9 rfl).2.2 z⟩
      have hcE : ∀ j, j ≠ kd → hc (wI X4 rt cx (nI w2)) VE' 162 j = hc x v 162 j := fun j z1 => pj j z1
      have eo : opV VE' = opV v := by unfold opV; rw [p1 165 (by decide) (by decide)]
      have ea : vaV VE' = vaV v := by unfold vaV; rw [p1 166 (by decide) (by decide)]
      have ec : cdX (wI X4 rt cx (nI w2)) rt = cdX x rt := nr _ (by omega) (by omega)
      refine ⟨H, O, I, S, Qn, W, F, B, sz, fr, f, ⟨⟨⟨by rw [show (wI X4 rt cx (nI w2)).2 = x.2 from q2]; exact r1, ht⟩, by rw [show (wI X4 rt cx (nI w2)).2 = x.2 from q2]; exact r2, hs⟩, ⟨l1, l2, l3, l4, l5, l6⟩, ⟨(n9 8 (by omega)).trans c1, (n9 9 (by omega)).trans c2, (n9 10 (by omega)).trans c3, (n9 11 (by omega)).trans c4, (n9 13 (by omega)).trans c5, by rw [nr _ (by omega) (by omega)]; exact c6, by rw [nr _ (by omega) (by omega)]; exact c7, (ny 12 (by omega)).trans c8⟩,
        ⟨(pj 0 (by omega)).trans m1, (pj 1 (by omega)).trans m2, (pj 2 (by omega)).trans m3, (pj 3 (by omega)).trans m4, (pj 4 (by omega)).trans m5, (pj 5 (by omega)).trans m6, (pj 8 (by omega)).trans m7, (pj 9 (by omega)).trans m8⟩,
        ⟨by rw [nr _ (by omega) (by omega)]; exact s1, by rw [p1 164 (by decide) (by decide)]; exact s2, by rw [p1 167 (by decide) (by decide)]; exact s3, by omega, by omega, by omega, by omega⟩, hN.mix q2 (nr 3 (by decide) (by omega)) (ny 11 (by omega)) (fun z => (nl z).1) p2 p25 (p1 176 (by decide) (by decide)) (p1 177 (by decide) (by decide))⟩, fun z => ?_⟩
      obtain ⟨z0, w2a, w2b⟩ := nl z
      obtain ⟨C, J, ⟨A1, A2, A3, A4, A5, A6, A7⟩, hB, hL, hR, hS⟩ := hT z0
      have kB := hB.keep (x' := wI X4 rt cx (nI w2)) (v' := VE') (Nat.le_refl H) (fun j hj => hcE j (by omega)) (fun y _ => ⟨by rw [nr _ (by omega) (by omega)], by rw [nr _ (by omega) (by omega)]⟩) (fun y _ => by rw [nr _ (by omega) (by omega)]) (fun y _ => ⟨by rw [nr _ (by omega) (by omega)], by rw [nr _ (by omega) (by omega)], by rw [nr _ (by omega) (by omega)]⟩) (fun y hy => by rw [nr _ (by omega) (by omega)])
      have eqs : qs (hc (wI X4 rt cx (nI w2)) VE' 162) Qn = qs (hc x v 162) Qn := qs_cong fun q hq => hcE _ (by omega)
      have eat : hc (wI X4 rt cx (nI w2)) VE' 162 kd = nI w2 := by rw [hc_162, p162, pk_us]
      have xat : (wI X4 rt cx (nI w2)).1 rt cx = nI w2 := by rw [wI_k, pk_us]
      have kL := hL.keep (x' := wI X4 rt cx (nI w2)) (v' := VE') (sz' := sz) (fr' := fr) (fun i _ => by rw [ec]) (fun i _ => by rw [eo, ea]; exact ⟨rfl, rfl⟩) (Nat.le_refl _) (Nat.le_refl _) (fun j _ _ => hcE j (by omega)) (fun y _ _ => by rw [nr _ (by omega) (by omega)])
      have kR := hR.keep (x' := wI X4 rt cx (nI w2)) (v' := VE') (sz' := sz) (fr' := fr) (L' := f) (fun i _ => by rw [ec]) (Or.inr ⟨eo, ea, fun r _ _ => p1 r (by omega) (by omega)⟩) (by omega) (Nat.le_refl _) (Nat.le_refl _) (Nat.le_refl _) (fun j _ => hcE j (by omega)) (fun y _ => by rw [nr _ (by omega) (by omega)]) (fun y _ => by rw [nr _ (by omega) (by omega)])
      have kS : SR (wI X4 rt cx (nI w2)) VE' rs H O I W := by
        obtain ⟨S1, S2, S3, S4⟩ := hS
        have eoff := off_cong (st := hc x v 162) (st' := hc (wI X4 rt cx (nI w2)) VE' 162) (I := I) fun j z1 z2 => hcE j (by omega)
        refine ⟨fun h hh => ?_, fun w hw => ?_, fun i hi => ?_, fun k hk => ?_⟩
        · rw [pj _ (by omega), nr _ (by omega) (by omega)]; exact S1 h hh
        · rw [pj _ (by omega), nr _ (by omega) (by omega)]; exact S2 w hw
        · rw [hcE _ (by omega), hcE _ (by omega)]; exact S3 i hi
        · rw [nr _ (by omega) (by omega), eoff.2]; exact S4 k hk
      rcases hcase with ⟨rfl, rfl, rfl⟩ | ⟨rfl, rfl, rfl⟩
      · exact ⟨w2, J, ⟨⟨w2a, w2b⟩, A2, eat, (hcE 7 (by decide)).trans A4, xat, (n9 15 (by decide)).trans A6, by rw [n9 12 (by decide), eqs]; exact A7⟩, kB, kL, kR, kS⟩
      · exact ⟨C, w2, ⟨A1, ⟨w2a, w2b⟩, (hcE 6 (by decide)).trans A3, eat, (n9 14 (by decide)).trans A5, xat, by rw [n9 12 (by decide), eqs]; exact A7⟩, kB, kL, kR, kS⟩
end

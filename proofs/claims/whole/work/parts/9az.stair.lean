/-! reading: a stair's other end -/
section
variable {x v x' v' : MM} {M a : Nat} {K ts : Nat → Nat}
theorem DV.sy (h : DV v v') : DV v' v := ⟨h.1.symm, h.2.1.symm, h.2.2.1.symm, h.2.2.2.1.symm, fun y y1 y2 => (h.2.2.2.2 y y1 y2).symm⟩
/-- what reading an end leaves of the model, but for cell j of row 162 -/
def ET (j : Nat) (v v' : MM) : Prop := v'.2 = v.2 ∧ (∀ r, r ≠ 156 → r ≠ 162 → v'.1 r = v.1 r) ∧ (∀ y, (y < 7 ∨ 11 < y ∧ y ≠ 29) → v'.1 156 y = v.1 156 y) ∧ ∀ i, i ≠ j → v'.1 162 i = v.1 162 i
theorem ET.rf (j : Nat) (v : MM) : ET j v v := ⟨rfl, fun _ _ _ => rfl, fun _ _ => rfl, fun _ _ => rfl⟩
theorem FV.et (h : FV v v') (j : Nat) : ET j v v' := ⟨h.1, fun r r1 _ => h.2.1 r r1, h.2.2, fun i _ => by rw [h.2.1 162 (by decide)]⟩
theorem ET.tl {c : Nat} (h : ET (210 + c) v v') (w : Int32) : ET (210 + c) v (tlV v' c w) := ⟨h.1, fun r r1 r2 => by unfold tlV; rw [wI_o r2]; exact h.2.1 r r1 r2, fun y hy => by unfold tlV; rw [wI_o (by decide)]; exact h.2.2.1 y hy, fun i hi => by unfold tlV; rw [wI_k, pk_un hi]; exact h.2.2.2 i hi⟩
theorem ET.me {c : Nat} (h : ET (210 + c) v v') : VF v v' := ⟨by rw [h.1], fun r _ => by rw [h.1], fun r r1 r2 _ _ => h.2.1 r r1 r2, fun y hy => h.2.2.1 y (by omega), fun j hj => h.2.2.2 j (by omega), fun i _ => by rw [h.2.1 165 (by decide) (by decide), h.2.1 166 (by decide) (by decide)]; exact ⟨rfl, rfl⟩, fun r q1 q2 i _ => by rw [h.2.1 r (by omega) (by omega)]⟩
theorem NJ.ff {H O : Nat} (h : NJ x v M K H O) (hx : FX x x') (hv : FV v v') (hl : x'.1 1 9 = 0 → x.1 1 9 = 0) : NJ x' v' M K H O := h.f hx hv hl
theorem JM.fl {p : Int32} (h : JM false x v M K ts a) (hx : x.1 1 9 = 0) : JM false (ltX x (nI 5) p) v M K ts a := by
  obtain ⟨-, h2, b, hb⟩ := h
  refine ⟨(fun z => nomatch z), fun z => ?_, b, hb.f (FX.lt _ _ _) (FV.rf v) (by unfold ltX; rw [wI_k, pk_un (by decide), wI_k, pk_un (by decide)])⟩
  obtain ⟨e, e1, e2, e3, e4, e5⟩ := h2 z
  refine ⟨e, e1, e2, ?_, e4, ?_⟩
  · unfold ltX; rw [wI_k, pk_un (by decide), wI_k, pk_un (by decide)]; exact e3
  · unfold ltX; rw [wI_k, pk_un (by decide), wI_k, pk_un (by decide)]; exact e5
def endX (x : MM) (rF : Int32) (T : MM → Int32 → Prop) : Prop := o_X4_kind x ∧ ((¬ (v_X4_kind x) = (21 : Int32) → (o_X4_start x ∧ (∃ Pm4 : Value → MM → Prop, Runs e_X4_readHouseName [.ref 1] x Pm4 ∧ ∀ (r4 : Int32) (m4 : MM), Pm4 (.int r4) m4 → ((r4 = (-1 : Int32) → T m4 r4) ∧ (¬ r4 = (-1 : Int32) → ((¬ r4 = rF → T m4 r4) ∧ (r4 = rF → (∃ Pm5 : Value → MM → Prop, Runs e_X4_failLate [.ref 1, .int (5 : Int32), .int (v_X4_start x)] m4 Pm5 ∧ ∀ m5, Pm5 .null m5 → T m5 r4)))))))) ∧
  ((v_X4_kind x) = (21 : Int32) → (∃ Pm4 : Value → MM → Prop, Runs e_X4_take [.ref 1, .int (21 : Int32)] x Pm4 ∧ (∀ r m4, Pm4 r m4 → r = .int 1 ∨ r = .int 0) ∧ (∀ m4, Pm4 (.int 1) m4 → T m4 (-1 : Int32)) ∧ (∀ m4, Pm4 (.int 0) m4 → T m4 (-1 : Int32)))))
def endM (m5 : MM) (r1 : Int32) (A Z : MM → Prop) : Prop := o_X12_isWord m5 (4 : Int32) ∧ ((p_X12_isWord m5 (4 : Int32) → (∃ Pm6 : Value → MM → Prop, Runs e_X12_pass [.ref 156] m5 Pm6 ∧ (∀ r m6, Pm6 r m6 → r = .int 1 ∨ r = .int 0) ∧ (∀ m6, Pm6 (.int 1) m6 → A m6) ∧ (∀ m6, Pm6 (.int 0) m6 → Z m6))) ∧
  (¬ p_X12_isWord m5 (4 : Int32) → (∃ Pm6 : Value → MM → Prop, Runs e_X12_takesName [.ref 156, .int (0 : Int32)] m5 Pm6 ∧ (∀ r m6, Pm6 r m6 → r = .int 1 ∨ r = .int 0) ∧ (∀ m6, Pm6 (.int 1) m6 → (((m6.1 156 29) < 0 → (∃ Pm7 : Value → MM → Prop, Runs e_X12_tell [.ref 156, .int (r1 + (1 : Int32)), .int (m6.1 156 29)] m6 Pm7 ∧ ∀ m7, Pm7 .null m7 → A m7)) ∧
    (¬ (m6.1 156 29) < 0 → (o_X12_told m6 r1 ∧ ((¬ (m6.1 156 29) = (v_X12_told m6 r1) → (∃ Pm7 : Value → MM → Prop, Runs e_X12_tell [.ref 156, .int (r1 + (1 : Int32)), .int (m6.1 156 29)] m6 Pm7 ∧ ∀ m7, Pm7 .null m7 → A m7)) ∧
      ((m6.1 156 29) = (v_X12_told m6 r1) → (∃ Pm7 : Value → MM → Prop, Runs e_X12_tells [.ref 156, .int (5 : Int32), .int (m5.1 156 7)] m6 Pm7 ∧ ∀ m7, Pm7 .null m7 → (∃ Pm8 : Value → MM → Prop, Runs e_X12_tell [.ref 156, .int (r1 + (1 : Int32)), .int (m7.1 156 29)] m7 Pm8 ∧ ∀ m8, Pm8 .null m8 → A m8)))))))) ∧ (∀ m6, Pm6 (.int 0) m6 → Z m6))))
theorem endX_g {rF : Int32} {T : MM → Int32 → Prop} {b : Nat} {ok1 : Bool} {x1 : MM} (hb : RA x v M K ts b) (hk : K b = 21) (t1 : Runs e_X4_take [.ref 1, .int (nI 21)] x (fun r m => r = .int (bI ok1) ∧ m = x1)) (hT : T x1 (-1)) : endX x rF T := by
  refine ⟨(kindA hb).1, fun z => ?_, fun _ => bcall t1 (fun _ m e => ?_) (fun _ m e => ?_)⟩
  · rw [(kindA hb).2, hk] at z
    exact absurd rfl z
  · subst e; exact hT
  · subst e; exact hT
theorem endX_h {rF r2 : Int32} {T : MM → Int32 → Prop} {b : Nat} {x1 : MM} (hb : RA x v M K ts b) (hk : ¬ K b = 21) (t1 : Runs e_X4_readHouseName [.ref 1] x (fun r m => r = .int r2 ∧ m = x1)) (h1 : ¬ (¬ r2 = -1 ∧ r2 = rF) → T x1 r2) (h2 : ¬ r2 = -1 → r2 = rF → ∃ Pm5 : Value → MM → Prop, Runs e_X4_failLate [.ref 1, .int (nI 5), .int (nI (ts b))] x1 Pm5 ∧ ∀ m5, Pm5 .null m5 → T m5 r2) : endX x rF T := by
  have hk41 := (hb.1.2.2.2.1 b hb.2.1).1
  refine ⟨(kindA hb).1, fun _ => ⟨(startA hb).1, icall t1 ?_⟩, fun z => ?_⟩
  · rintro m rfl
    rw [(startA hb).2]
    exact ⟨fun e => h1 fun w => w.1 e, fun n => ⟨fun e => h1 fun w => e w.2, fun e => h2 n e⟩⟩
  · rw [(kindA hb).2] at z
    exact absurd ((nI_eq (b := 21) (by omega) (by omega)).mp z) hk
theorem endJ {ok : Bool} {H O c : Nat} {rF : Int32} (h : JM ok x v M K ts a) (hN : ok = true → NJ x v M K H O) (hH : H ≤ 16) (hcl : c + 1 < 210) (hF : ok = true → x.1 1 9 = 0 → ∃ g : Nat, g < H ∧ rF = nI g ∧ v.1 162 (210 + c) = nI g) :
    ∃ (ok' : Bool) (x' v' : MM) (r : Int32), (∀ T : MM → Int32 → Prop, T x' r → endX x rF T) ∧
      (ok = true → ∀ (y : MM) (A Z : MM → Prop), (ok' = true → A (catR y v')) → (ok' = false → Z (catR y v')) → endM (catR y v) (nI c) A Z) ∧ (ok = false → ok' = false ∧ v' = v) ∧ FX x x' ∧ ET (210 + (c + 1)) v v' ∧ JM ok' x' v' M K ts (a + 1) ∧ (x'.1 1 9 = 0 → x.1 1 9 = 0) ∧
      (ok' = true → ok = true ∧ NJ x' v' M K H O ∧ (x'.1 1 9 = 0 → (r = -1 ∧ v'.1 162 (210 + (c + 1)) = v.1 162 (210 + (c + 1))) ∨ ∃ g : Nat, g < H ∧ r = nI g ∧ ¬ r = rF ∧ v'.1 162 (210 + (c + 1)) = nI g)) := by
  cases ok with
  | false =>
    obtain ⟨b, hb⟩ := h.2.2
    by_cases hk : K b = 21
    · obtain ⟨ok1, x1, v1, t1, -, t3, t4, t5, t6, t7, t8⟩ := takeJ h 21 (by decide)
      obtain ⟨rfl, rfl, rfl⟩ := t3 rfl
      exact ⟨false, x1, v1, -1, fun T hT => endX_g hb hk t1 hT, (fun z => nomatch z), fun _ => ⟨rfl, rfl⟩, t4, ET.rf _ _, t7, fun z => z, (fun z => nomatch z)⟩
    · obtain ⟨ok1, x1, v1, r2, t1, t2, -, t3, t4, t5, t7, t8, -⟩ := houseJ h hN
      obtain ⟨rfl, rfl, rfl⟩ := t3 rfl
      by_cases cc : ¬ r2 = -1 ∧ r2 = rF
      · by_cases c9 : x1.1 1 9 = 0
        · refine ⟨false, ltX x1 (nI 5) (nI (ts b)), v1, r2, fun T hT => endX_h hb hk t1 (fun n => absurd cc n) fun _ _ => vcall (lateX_y c9 _ _) ?_, (fun z => nomatch z), fun _ => ⟨rfl, rfl⟩, FX.lt _ _ _, ET.rf _ _, t7.fl c9, fun _ => c9, (fun z => nomatch z)⟩
          rintro m rfl
          exact hT
        · refine ⟨false, x1, v1, r2, fun T hT => endX_h hb hk t1 (fun n => absurd cc n) fun _ _ => vcall (lateX_n c9 _ _) ?_, (fun z => nomatch z), fun _ => ⟨rfl, rfl⟩, t4, ET.rf _ _, t7, fun z => z, (fun z => nomatch z)⟩
          rintro m rfl
          exact hT
      · exact ⟨false, x1, v1, r2, fun T hT => endX_h hb hk t1 (fun _ => hT) fun n e => absurd ⟨n, e⟩ cc, (fun z => nomatch z), fun _ => ⟨rfl, rfl⟩, t4, ET.rf _ _, t7, fun z => z, (fun z => nomatch z)⟩
  | true =>
    have hR := h.1 rfl
    have hN := hN rfl
    have hb := hR.ra
    have hF := hF rfl
    by_cases hk : K a = 21
    · obtain ⟨ok1, x1, v1, t1, t2, -, t4, t5, t6, t7, t8⟩ := takeJ h 21 (by decide)
      obtain ⟨e1, e2⟩ := t2 rfl
      have mp : ∀ y, Runs e_X12_pass [.ref 156] (catR y v) (fun r m => r = .int (bI ok1) ∧ m = catR y v1) := fun y => by rw [e1, e2]; exact mPass hR y hk
      refine ⟨ok1, x1, v1, -1, fun T hT => endX_g hb hk t1 hT, fun _ y A Z hA hZ => ?_, (fun z => nomatch z), t4, t5.et _, t7, fun z => t6.symm.trans z, fun _ => ⟨rfl, hN.f t4 t5 fun z => t6.symm.trans z, fun _ => Or.inl ⟨rfl, by rw [t5.2.1 162 (by decide)]⟩⟩⟩
      obtain ⟨w1, w2⟩ := wordM hR y (k := 21) (by decide)
      refine ⟨w1, fun _ => bcall (mp y) (fun z m e => ?_) (fun z m e => ?_), fun n => absurd (w2.mpr hk) n⟩
      · subst e; exact hA z
      · subst e; exact hZ z
    · obtain ⟨ok2, X2, V2, r2, i1, i2, i3, -, i5, i6, i7, i8, i9⟩ := houseJ h (fun _ => hN)
      have m4' := hR.1.2.2.1.2.1
      have hcell : V2.1 162 = v.1 162 := i6.2.1 162 (by decide)
      have told2 : ∀ y, o_X12_told (catR y V2) (nI c) ∧ v_X12_told (catR y V2) (nI c) = v.1 162 (210 + c) := fun y => by
        rw [← hcell]
        exact told_at (v := V2) (j := c) (by omega) y
      have e29 : ∀ y, (catR y V2).1 156 29 = V2.1 156 29 := fun y => by rw [cr_1 (by decide)]
      have e7 : ∀ y, (catR y v).1 156 7 = nI a := fun y => by rw [cr_1 (by decide)]; exact hR.2.2.2.1
      -- the model, once its continuation is known
      have mM : ∀ (y : MM) (A Z : MM → Prop), (ok2 = false → Z (catR y V2)) → (ok2 = true → (¬ (¬ V2.1 156 29 < 0 ∧ V2.1 156 29 = v.1 162 (210 + c)) → A (catR y (tlV V2 (c + 1) (V2.1 156 29))))) → (ok2 = true → ¬ V2.1 156 29 < 0 → V2.1 156 29 = v.1 162 (210 + c) → ∃ Pm7 : Value → MM → Prop, Runs e_X12_tells [.ref 156, .int (nI 5), .int (nI a)] (catR y V2) Pm7 ∧ ∀ m7, Pm7 .null m7 → (∃ Pm8 : Value → MM → Prop, Runs e_X12_tell [.ref 156, .int (nI (c + 1)), .int (m7.1 156 29)] m7 Pm8 ∧ ∀ m8, Pm8 .null m8 → A m8)) → endM (catR y v) (nI c) A Z := by
        intro y A Z h1 h2 h3
        obtain ⟨w1, w2⟩ := wordM hR y (k := 21) (by decide)
        refine ⟨w1, fun n => absurd (w2.mp n) hk, fun _ => bcall (i3 rfl y) (fun z m e => ?_) (fun z m e => ?_)⟩
        · subst e
          rw [e29, e7, nI_1, (told2 y).2]
          have tl : (¬ (¬ V2.1 156 29 < 0 ∧ V2.1 156 29 = v.1 162 (210 + c))) → ∃ Pm7 : Value → MM → Prop, Runs e_X12_tell [.ref 156, .int (nI (c + 1)), .int (V2.1 156 29)] (catR y V2) Pm7 ∧ ∀ m7, Pm7 .null m7 → A m7 := fun n => by
            refine vcall (tellM hcl _ y) ?_
            rintro m rfl
            exact h2 z n
          exact ⟨fun n => tl fun w => w.1 n, fun n => ⟨(told2 y).1, fun e => tl fun w => e w.2, fun e => h3 z n e⟩⟩
        · subst e; exact h1 z
      cases ok2 with
      | false =>
        by_cases cc : ¬ r2 = -1 ∧ r2 = rF
        · by_cases c9 : X2.1 1 9 = 0
          · refine ⟨false, ltX X2 (nI 5) (nI (ts a)), V2, r2, fun T hT => endX_h hb hk i1 (fun n => absurd cc n) fun _ _ => vcall (lateX_y c9 _ _) ?_, fun _ y A Z _ hZ => mM y A Z (fun _ => hZ rfl) (fun z => nomatch z) (fun z => nomatch z), (fun z => nomatch z), i5.tr (FX.lt _ _ _), i6.et _, i7.fl c9, fun _ => i8 c9, (fun z => nomatch z)⟩
            rintro m rfl
            exact hT
          · refine ⟨false, X2, V2, r2, fun T hT => endX_h hb hk i1 (fun n => absurd cc n) fun _ _ => vcall (lateX_n c9 _ _) ?_, fun _ y A Z _ hZ => mM y A Z (fun _ => hZ rfl) (fun z => nomatch z) (fun z => nomatch z), (fun z => nomatch z), i5, i6.et _, i7, i8, (fun z => nomatch z)⟩
            rintro m rfl
            exact hT
        · exact ⟨false, X2, V2, r2, fun T hT => endX_h hb hk i1 (fun _ => hT) fun n e => absurd ⟨n, e⟩ cc, fun _ y A Z _ hZ => mM y A Z (fun _ => hZ rfl) (fun z => nomatch z) (fun z => nomatch z), (fun z => nomatch z), i5, i6.et _, i7, i8, (fun z => nomatch z)⟩
      | true =>
        obtain ⟨-, N2, hg, hl, -⟩ := i9 rfl
        have hR2 := i7.1 rfl
        have haM := hR.2.1
        have cell : ∀ (V : MM) (w : Int32), (tlV V (c + 1) w).1 162 (210 + (c + 1)) = w := fun V w => by unfold tlV; rw [wI_k, pk_us]
        by_cases c9 : X2.1 1 9 = 0
        · obtain ⟨g, g2, eg, eg9⟩ := hg c9
          have g2 : g < H := by omega
          obtain ⟨gF, gF2, eF, ecF⟩ := hF (i8 c9)
          have hn0 : ¬ V2.1 156 29 < 0 := by rw [eg9]; exact nI_pos (by omega)
          have n1 : ¬ r2 = -1 := by rw [eg]; exact nI_nm1 (by omega)
          have hl' : LJ X2 V2 ts a := by
            rcases hl with w | w
            · exact w
            · exact absurd w.1 n1
          by_cases ce : g = gF
          · obtain ⟨x3, v3, p1, p2, p3, p4, p5, p6, p7⟩ := lateJ hR2 hl' (Nat.lt_succ_self a) (l := 5) (by decide) (by decide)
            have er : r2 = rF := by rw [eg, eF, ce]
            have ev : V2.1 156 29 = v.1 162 (210 + c) := by rw [eg9, ecF, ce]
            refine ⟨true, x3, tlV v3 (c + 1) (v3.1 156 29), r2, fun T hT => endX_h hb hk i1 (fun n => absurd ⟨n1, er⟩ n) fun _ _ => vcall p1 ?_, fun _ y A Z hA _ => mM y A Z (fun z => nomatch z) (fun _ n => absurd ⟨hn0, ev⟩ n) (fun _ _ _ => vcall (p2 y) ?_), (fun z => nomatch z), i5.tr p3, ((i6.tr p4).et _).tl _, JM.t (p5.mix (DX.rf x3) DV.tl), fun z => absurd z p6, fun _ => ⟨rfl, (N2.f p3 p4 fun z => absurd z p6).tl, fun z => absurd z p6⟩⟩
            · rintro m rfl
              exact hT
            · rintro m rfl
              have e : (catR y v3).1 156 29 = v3.1 156 29 := by rw [cr_1 (by decide)]
              rw [e]
              refine vcall (tellM hcl _ y) ?_
              rintro m rfl
              exact hA rfl
          · have er : ¬ r2 = rF := by rw [eg, eF]; exact fun w => ce ((nI_eq (by omega) (by omega)).mp w)
            have ev : ¬ V2.1 156 29 = v.1 162 (210 + c) := by rw [eg9, ecF]; exact fun w => ce ((nI_eq (by omega) (by omega)).mp w)
            exact ⟨true, X2, tlV V2 (c + 1) (V2.1 156 29), r2, fun T hT => endX_h hb hk i1 (fun _ => hT) fun _ e => absurd e er, fun _ y A Z hA _ => mM y A Z (fun z => nomatch z) (fun _ _ => hA rfl) (fun _ _ e => absurd e ev), (fun z => nomatch z), i5, (i6.et _).tl _, JM.t (hR2.mix (DX.rf X2) DV.tl), i8, fun _ => ⟨rfl, N2.tl, fun _ => Or.inr ⟨g, g2, eg, er, by rw [cell]; exact eg9⟩⟩⟩
        · refine ⟨true, X2, tlV V2 (c + 1) (V2.1 156 29), r2, fun T hT => endX_h hb hk i1 (fun _ => hT) fun _ _ => vcall (lateX_n c9 _ _) ?_, fun _ y A Z hA _ => mM y A Z (fun z => nomatch z) (fun _ _ => hA rfl) (fun _ n0 _ => ?_), (fun z => nomatch z), i5, (i6.et _).tl _, JM.t (hR2.mix (DX.rf X2) DV.tl), i8, fun _ => ⟨rfl, N2.tl, fun z => absurd z c9⟩⟩
          · rintro m rfl
            exact hT
          · rcases hl with w | w
            · refine vcall (lateV_n hR2.1 haM w c9 y _) ?_
              rintro m rfl
              rw [e29]
              refine vcall (tellM hcl _ y) ?_
              rintro m rfl
              exact hA rfl
            · rw [w.2] at n0
              exact absurd (by decide) n0
end

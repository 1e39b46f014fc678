/-! reading: one unit of an expression, both sides -/
section
variable {x v : MM} {M a : Nat} {K ts : Nat → Nat}
/-- the outcome of a step of an expression -/
def StepE (x v x' v' : MM) (M : Nat) (K ts : Nat → Nat) (rt st k0 k fr n a : Nat) (P : List Nat) (sd : Nat) (ok : Bool) (L1 : Int32) (L2 : Int32) : Prop :=
  JM ok x' v' M K ts (a + 1) ∧ FE (st + k) rt x x' ∧ GE (fr + n) v v' ∧
  (ok = false → ∀ (y : MM) (Q : Value → MM → Prop), Q (.int 0) (catR y v') → G e_X12_expr 21 [(0, .ref 156), (1, .int L1), (2, .int L2), (3, .int 1)] [] (catR y v) Q) ∧
  (ok = true → ∃ (w' : Bool) (U' : List Nat) (k' n' : Nat), EI x' v' rt st k0 k' fr n' (a + 1) U' P w' ∧ k ≤ k' ∧ n ≤ n' ∧ CE x' sd (opn U') w' ∧ (w' = true → x'.1 1 17 = 0) ∧ VS v v' ∧
    ∀ (y : MM) (Q : Value → MM → Prop), G e_X12_expr 21 [(0, .ref 156), (1, .int (nI (opn U'))), (2, .int (bI w')), (3, .int 1)] [] (catR y v') Q → G e_X12_expr 21 [(0, .ref 156), (1, .int L1), (2, .int L2), (3, .int 1)] [] (catR y v) Q)
theorem CE.f {x' : MM} {sd l1 : Nat} {w : Bool} (h : CE x sd l1 w) (hx : FX x x') : CE x' sd l1 w := ⟨(hx.2.2 14 (by omega)).trans h.1, (hx.2.2 15 (by omega)).trans h.2.1, (hx.2.2 16 (by omega)).trans h.2.2⟩
theorem FX.d {x' : MM} (h : FX x x') : x'.2.2 = x.2.2 := by rw [h.1]
theorem bI_t : bI true = 1 := rfl
theorem bI_f : bI false = 0 := rfl
theorem unit_num {rt st k0 k fr n sd o q : Nat} {U P : List Nat} {wx wv : Int32} (h : RC x v M K ts a) (hE : EI x v rt st k0 k fr n a U P true) (hC : CE x sd (opn U) true) (hq : K a = q) (hq4 : q < 40) (ho : o ≤ 1)
    (hA : ∀ cd op va, AV cd op va st k0 k fr n → dp op fr n ≤ 28 → cd (st + k) = wx → op (fr + n) = nI o → va (fr + n) = wv → AV cd op va st k0 (k + 1) fr (n + 1)) (hCd : ∀ cd, Coded cd st k → cd (st + k) = wx → Coded cd st (k + 1)) (h1 : o = 1 → ∃ j : Nat, j < 9 ∧ wv = nI j)
    (hX : ∀ (ok1 : Bool) (x1 x2 : MM), Runs e_X4_take [.ref 1, .int (nI q)] x (fun r m => r = .int (bI ok1) ∧ m = x1) → x1.2.2 1 4 = rt → x1.1 (rt + 8) 5 = nI (st + k) → st + k < 400 → x2 = adX x1 rt (st + k) wx → Runs e_X4_readUnit [.ref 1] x (fun r m => r = .null ∧ m = wI x2 1 16 0))
    (hV : ∀ (y : MM) (Q : Value → MM → Prop), (∃ Pm1 : Value → MM → Prop, Runs e_X12_emit [.ref 156, .int (nI o), .int wv] (catR y v) Pm1 ∧ ∀ m1, Pm1 .null m1 → (∃ Pm2 : Value → MM → Prop, Runs e_X12_pass [.ref 156] m1 Pm2 ∧ (∀ r m2, Pm2 r m2 → r = .int 1 ∨ r = .int 0) ∧ (∀ m2, Pm2 (.int 1) m2 → (G e_X12_expr 21 [(0, .ref 156), (1, .int (nI (opn U))), (2, .int (0 : Int32)), (3, .int 1)] [] m2 Q)) ∧ (∀ m2, Pm2 (.int 0) m2 → (Q (.int (0 : Int32)) m2)))) → G e_X12_expr 21 [(0, .ref 156), (1, .int (nI (opn U))), (2, .int 1), (3, .int 1)] [] (catR y v) Q) :
    ∃ (ok : Bool) (x' v' : MM), Runs e_X4_readUnit [.ref 1] x (fun r m => r = .null ∧ m = x') ∧ StepE x v x' v' M K ts rt st k0 k fr n a P sd ok (nI (opn U)) 1 := by
  obtain ⟨ok1, x1, v1, t1, t2, -, t4, t5, t6, t7, t8⟩ := takeJ (JM.t h) q hq4
  obtain ⟨e1, e2⟩ := t2 rfl
  have ht : isT rt := hE.1.2
  have hc : rt = 10 ∨ rt = 100 := ht
  have b2 := hE.2.2.2.2.2.2.1
  have b3 := hE.2.2.2.2.2.2.2.1
  have b4 := hE.2.2.2.2.2.2.2.2
  have ha := h.2.1
  have m4 := h.1.2.2.1.2.1
  have hE1 : EI x1 v rt st k0 k fr n a U P true := hE.mix ht t4 (FV.rf v)
  have rX := hX ok1 x1 _ t1 hE1.1.1 hE1.2.1.1 (by omega) rfl
  have hRv : RC x (emV v (fr + n) (nI o) wv) M K ts a := h.mix (DX.rf x) DV.em
  have mp : ∀ y, Runs e_X12_pass [.ref 156] (catR y (emV v (fr + n) (nI o) wv)) (fun r m => r = .int (bI ok1) ∧ m = catR y (tkV (emV v (fr + n) (nI o) wv) ts a (tkE K a (decide (K a = q))))) := fun y => by
    rw [e1]; exact mPass hRv y hq
  have em : ∀ y, Runs e_X12_emit [.ref 156, .int (nI o), .int wv] (catR y v) (fun r m => r = .null ∧ m = catR y (emV v (fr + n) (nI o) wv)) := fun y => emitM hE.2.1.2 (by omega) y _ _
  have hdx : DX x1 (wI (adX x1 rt (st + k) wx) 1 16 0) := (DX.ad ht).w (by omega) _
  have hdv : DV v1 (tkV (emV v (fr + n) (nI o) wv) ts a (tkE K a (decide (K a = q)))) := by rw [e2]; exact DV.em.tk _ _ _
  refine ⟨ok1, _, tkV (emV v (fr + n) (nI o) wv) ts a (tkE K a (decide (K a = q))), rX, t7.mix hdx hdv, ((t4.e t6).tr (FE.ad (Nat.le_refl _)) (Nat.le_refl _)).w ht (by omega) _, (GE.em (Nat.le_refl _)).tr (FV.tk _ _ _ _).e (Nat.le_refl _), fun z y Q hQ => ?_, fun z => ?_⟩
  · subst z
    refine hV y Q (vcall (em y) ?_)
    rintro m rfl
    refine bcall (mp y) (fun z => nomatch z) ?_
    rintro - m rfl
    exact hQ
  · subst z
    have hEf := ((hE1.unit (wx := wx) (wv := wv) (by have := (t8 rfl).2.2.1; omega) ho hA hCd h1).wX (j := 16) (by decide) 0).mix ht (FX.rf _) (FV.tk _ ts a (tkE K a (decide (K a = q))))
    refine ⟨false, U, k + 1, n + 1, hEf, by omega, by omega, ?_, (fun z => nomatch z), VS.em.tr (VS.tk _ _ _ _), fun y Q hQ => ?_⟩
    · have hC1 := hC.f t4
      refine ⟨?_, ?_, ?_⟩
      · rw [wI_k, pk_un (by decide), adX_o (by omega) (by omega)]; exact hC1.1
      · rw [wI_k, pk_un (by decide), adX_o (by omega) (by omega)]; exact hC1.2.1
      · rw [wI_k, pk_us]; rfl
    · refine hV y Q (vcall (em y) ?_)
      rintro m rfl
      refine bcall (mp y) ?_ (fun z => nomatch z)
      rintro - m rfl
      exact hQ
theorem unitJ {rt st k0 k fr n sd : Nat} {U P : List Nat} (h : RC x v M K ts a) (hE : EI x v rt st k0 k fr n a U P true) (hC : CE x sd (opn U) true) (hN : x.1 1 17 = 0 ∨ K a ≠ 25) :
    ∃ (ok : Bool) (x' v' : MM), Runs e_X4_readUnit [.ref 1] x (fun r m => r = .null ∧ m = x') ∧ StepE x v x' v' M K ts rt st k0 k fr n a P sd ok (nI (opn U)) 1 := by
  have ht : isT rt := hE.1.2
  have hc : rt = 10 ∨ rt = 100 := ht
  have ha := h.2.1
  have m4 := h.1.2.2.1.2.1
  have hk41 := (h.1.2.2.2.1 a ha).1
  obtain ⟨o1, k1⟩ := kindX h
  obtain ⟨o2, w, w1, w2, w3⟩ := intX h
  have c25 : (v_X4_kind x = 25) = (K a = 25) := by rw [k1]; exact propext (nI_eq (b := 25) (by omega) (by omega))
  have c38 : (v_X4_kind x = 38) = (K a = 38) := by rw [k1]; exact propext (nI_eq (b := 38) (by omega) (by omega))
  have c27 : (v_X4_kind x = 27) = (K a = 27) := by rw [k1]; exact propext (nI_eq (b := 27) (by omega) (by omega))
  have cvr : p_X11_isVar x (v_X4_kind x) = (12 ≤ K a ∧ K a ≤ 20) := by
    unfold p_X11_isVar
    rw [k1]
    refine propext ?_
    rw [show (12 : Int32) = nI 12 from rfl, show (20 : Int32) = nI 20 from rfl, nI_ltI (by omega) (by omega), nI_ltI (by omega) (by omega)]
    omega
  have b2 := hE.2.2.2.2.2.2.1
  have b3 := hE.2.2.2.2.2.2.2.1
  have b4 := hE.2.2.2.2.2.2.2.2
  have hop := hE.2.2.2.2.1.2.2
  -- reading no NOT here
  have top : ∀ (x' : MM), (K a = 38 → Runs e_X4_readOpen [.ref 1] x (fun r m => r = .null ∧ m = x')) →
      (K a = 27 → (∃ Pm1 : Value → MM → Prop, Runs e_X4_take [.ref 1, .int (27 : Int32)] x Pm1 ∧ (∀ r m1, Pm1 r m1 → r = .int 1 ∨ r = .int 0) ∧ (∀ m1, Pm1 (.int 1) m1 → (AtTown (m1.2.2 1 4) ∧ (∃ Pm3 : Value → MM → Prop, Runs e_X1_addNumber [.ref ((m1.2.2 1 4) + 8), .int (v_X4_intValue x)] m1 Pm3 ∧ ∀ m3, Pm3 .null m3 → (Value.null = .null ∧ wI m3 1 16 (0 : Int32) = x')))) ∧ (∀ m1, Pm1 (.int 0) m1 → (AtTown (m1.2.2 1 4) ∧ (∃ Pm3 : Value → MM → Prop, Runs e_X1_addNumber [.ref ((m1.2.2 1 4) + 8), .int (v_X4_intValue x)] m1 Pm3 ∧ ∀ m3, Pm3 .null m3 → (Value.null = .null ∧ wI m3 1 16 (0 : Int32) = x')))))) →
      (12 ≤ K a ∧ K a ≤ 20 → (∃ Pm1 : Value → MM → Prop, Runs e_X4_take [.ref 1, .int (v_X4_kind x)] x Pm1 ∧ (∀ r m1, Pm1 r m1 → r = .int 1 ∨ r = .int 0) ∧ (∀ m1, Pm1 (.int 1) m1 → (AtTown (m1.2.2 1 4) ∧ (∃ Pm3 : Value → MM → Prop, Runs e_X1_addKind [.ref ((m1.2.2 1 4) + 8), .int (v_X4_kind x)] m1 Pm3 ∧ ∀ m3, Pm3 .null m3 → (Value.null = .null ∧ wI m3 1 16 (0 : Int32) = x')))) ∧ (∀ m1, Pm1 (.int 0) m1 → (AtTown (m1.2.2 1 4) ∧ (∃ Pm3 : Value → MM → Prop, Runs e_X1_addKind [.ref ((m1.2.2 1 4) + 8), .int (v_X4_kind x)] m1 Pm3 ∧ ∀ m3, Pm3 .null m3 → (Value.null = .null ∧ wI m3 1 16 (0 : Int32) = x')))))) →
      (¬ K a = 38 → ¬ K a = 27 → ¬ (12 ≤ K a ∧ K a ≤ 20) → Runs e_X4_fail [.ref 1, .int 1] x (fun r m => r = .null ∧ m = x')) →
      Runs e_X4_readUnit [.ref 1] x (fun r m => r = .null ∧ m = x') := by
    intro x' h38 h27 hvr hel
    have fin : (¬ K a = 38 → ((¬ K a = 27 → ((12 ≤ K a ∧ K a ≤ 20 → (∃ Pm1 : Value → MM → Prop, Runs e_X4_take [.ref 1, .int (v_X4_kind x)] x Pm1 ∧ (∀ r m1, Pm1 r m1 → r = .int 1 ∨ r = .int 0) ∧ (∀ m1, Pm1 (.int 1) m1 → (AtTown (m1.2.2 1 4) ∧ (∃ Pm3 : Value → MM → Prop, Runs e_X1_addKind [.ref ((m1.2.2 1 4) + 8), .int (v_X4_kind x)] m1 Pm3 ∧ ∀ m3, Pm3 .null m3 → (Value.null = .null ∧ wI m3 1 16 (0 : Int32) = x')))) ∧ (∀ m1, Pm1 (.int 0) m1 → (AtTown (m1.2.2 1 4) ∧ (∃ Pm3 : Value → MM → Prop, Runs e_X1_addKind [.ref ((m1.2.2 1 4) + 8), .int (v_X4_kind x)] m1 Pm3 ∧ ∀ m3, Pm3 .null m3 → (Value.null = .null ∧ wI m3 1 16 (0 : Int32) = x')))))) ∧ (¬ (12 ≤ K a ∧ K a ≤ 20) → (∃ Pm1 : Value → MM → Prop, Runs e_X4_fail [.ref 1, .int (1 : Int32)] x Pm1 ∧ ∀ m1, Pm1 .null m1 → (Value.null = .null ∧ m1 = x'))))) ∧
          (K a = 27 → (∃ Pm1 : Value → MM → Prop, Runs e_X4_take [.ref 1, .int (27 : Int32)] x Pm1 ∧ (∀ r m1, Pm1 r m1 → r = .int 1 ∨ r = .int 0) ∧ (∀ m1, Pm1 (.int 1) m1 → (AtTown (m1.2.2 1 4) ∧ (∃ Pm3 : Value → MM → Prop, Runs e_X1_addNumber [.ref ((m1.2.2 1 4) + 8), .int (v_X4_intValue x)] m1 Pm3 ∧ ∀ m3, Pm3 .null m3 → (Value.null = .null ∧ wI m3 1 16 (0 : Int32) = x')))) ∧ (∀ m1, Pm1 (.int 0) m1 → (AtTown (m1.2.2 1 4) ∧ (∃ Pm3 : Value → MM → Prop, Runs e_X1_addNumber [.ref ((m1.2.2 1 4) + 8), .int (v_X4_intValue x)] m1 Pm3 ∧ ∀ m3, Pm3 .null m3 → (Value.null = .null ∧ wI m3 1 16 (0 : Int32) = x')))))))) ∧
        (K a = 38 → (∃ Pm1 : Value → MM → Prop, Runs e_X4_readOpen [.ref 1] x Pm1 ∧ ∀ m1, Pm1 .null m1 → (Value.null = .null ∧ m1 = x'))) := by
      refine ⟨fun n38 => ⟨fun n27 => ⟨hvr, fun nv => vcall (hel n38 n27 nv) ?_⟩, h27⟩, fun y38 => vcall (h38 y38) ?_⟩
      · rintro m rfl; exact ⟨rfl, rfl⟩
      · rintro m rfl; exact ⟨rfl, rfl⟩
    apply b_X4_readUnit
    rw [c25, c38, c27, cvr]
    refine ⟨o1, o2, fun _ => fin, fun y25 => ⟨fun _ => fin, fun z => ?_⟩⟩
    rcases hN with y | y
    · exact absurd y z
    · exact absurd y25 y
  by_cases k38 : K a = 38
  · by_cases c6 : opn U = 6
    · -- too many brackets
      obtain ⟨f1, f2, f3, f4⟩ := failJ h (e := 2) (by decide) (by decide)
      refine ⟨false, _, _, top _ (fun _ => ?_) (fun z => by omega) (fun z => by omega) (fun z => absurd k38 z), f3, (FX.fl x _ _).e f4, (FV.wr v _ _).e, fun _ y Q hQ => ?_, (fun z => nomatch z)⟩
      · apply b_X4_readOpen
        rw [hC.2.1, c6]
        refine ⟨fun z => absurd z (by decide), fun _ => vcall f1 ?_⟩
        rintro m rfl; exact ⟨rfl, rfl⟩
      · rw [c6]
        refine mU_open6 h k38 y (bcall (f2 y) (fun z => nomatch z) ?_)
        rintro - m rfl
        exact hQ
    · obtain ⟨ok1, x1, v1, t1, t2, -, t4, t5, t6, t7, t8⟩ := takeJ (JM.t h) 38 (by decide)
      obtain ⟨e1, e2⟩ := t2 rfl
      have hE1 : EI x1 v rt st k0 k fr n a U P true := hE.mix ht t4 (FV.rf v)
      have hw1 : wtX x1 (U.map cw ++ P) := hE1.2.2.1.1
      have hlen : (U.map cw ++ P).length = U.length + P.length := by rw [List.length_append, List.length_map]
      have kw := keepX hw1 (by omega) 38
      have hC1 := hC.f t4
      let x' := wI (wI (kwX x1 (U.map cw ++ P).length 38) 1 15 (nI (opn U + 1))) 1 17 0
      have g15 : (kwX x1 (U.map cw ++ P).length 38).1 1 15 = nI (opn U) := by unfold kwX; rw [wI_k, pk_un (by decide), wI_o (by decide)]; exact hC1.2.1
      have hrun : Runs e_X4_readUnit [.ref 1] x (fun r m => r = .null ∧ m = x') := by
        refine top x' (fun _ => ?_) (fun z => by omega) (fun z => by omega) (fun z => absurd k38 z)
        apply b_X4_readOpen
        rw [hC.2.1]
        have last : ∃ Pm : Value → MM → Prop, Runs e_X4_keepWaiting [.ref 1, .int 38] x1 Pm ∧ ∀ m2, Pm .null m2 → (Value.null = .null ∧ wI (wI m2 1 15 ((m2.1 1 15) + 1)) 1 17 0 = x') := vcall kw (by
          rintro m rfl
          rw [g15, nI_1]
          exact ⟨rfl, rfl⟩)
        refine ⟨fun _ => bcall t1 (fun _ m e => ?_) (fun _ m e => ?_), fun z => absurd (nI_lt (b := 6) (by omega) (by omega)) z⟩
        · subst e; exact last
        · subst e; exact last
      have mp : ∀ y, Runs e_X12_pass [.ref 156] (catR y v) (fun r m => r = .int (bI ok1) ∧ m = catR y v1) := fun y => by rw [e1, e2]; exact mPass h y k38
      have hdx : DX x1 x' := (((DX.rf x1).w4 _ _).w (by omega) _ |>.w (by omega) _).w (by omega) _
      have hfe : FE (st + k) rt x x' := (((t4.e t6).w4 ht _ _).w ht (by omega) _ |>.w ht (by omega) _).w ht (by omega) _
      cases ok1 with
      | false =>
        refine ⟨false, x', v1, hrun, t7.mix hdx (DV.rf _), hfe, t5.e, fun _ y Q hQ => ?_, (fun z => nomatch z)⟩
        refine mU_open h k38 (by omega) y (bcall (mp y) (fun z => nomatch z) ?_)
        rintro - m rfl
        exact hQ
      | true =>
        have hE2 : EI x1 v1 rt st k0 k fr n a U P true := hE.mix ht t4 t5
        have hv1 : wtV v1 U := hE2.2.2.1.2
        refine ⟨true, x', awV v1 U.length 0, hrun, t7.mix hdx (((DV.rf v1).w8 _ _).w (by omega) _), hfe, ((t5.e).w8 _ _).w (by omega) _, (fun z => nomatch z), fun _ => ⟨true, 0 :: U, k, n, ?_, Nat.le_refl _, Nat.le_refl _, ?_, fun _ => ?_, ?_, fun y Q hQ => ?_⟩⟩
        · obtain ⟨⟨r1, -⟩, ⟨h5, h6⟩, -, ⟨hA, hS, hCd⟩, ⟨hd, hg, -⟩, d1, d2, d3, d4⟩ := hE2
          have a4 : a < 400 := (t8 rfl).2.2.1
          have eX : cdX x' rt = cdX x1 rt := by
            show (wI (wI (kwX x1 (U.map cw ++ P).length 38) 1 15 (nI (opn U + 1))) 1 17 0).1 (rt + 8 + 1) = x1.1 (rt + 8 + 1)
            unfold kwX
            rw [wI_o (by omega), wI_o (by omega), wI_o (by omega), wI_o (by omega)]
          have eo : opV (awV v1 U.length 0) = opV v1 := by unfold opV awV; rw [wI_o (by decide), wI_o (by decide)]
          have ea : vaV (awV v1 U.length 0) = vaV v1 := by unfold vaV awV; rw [wI_o (by decide), wI_o (by decide)]
          refine ⟨⟨r1, ht⟩, ⟨?_, ?_⟩, ⟨?_, awV_w hv1 0⟩, ⟨by rw [eX, eo, ea]; exact hA, by rw [eo, ea]; exact hS, by rw [eX]; exact hCd⟩, ⟨by rw [eo]; exact hd, ⟨Or.inl rfl, hg⟩, ?_⟩, d1, ?_, ?_, by omega⟩
          · show (wI (wI (kwX x1 (U.map cw ++ P).length 38) 1 15 (nI (opn U + 1))) 1 17 0).1 (rt + 8) 5 = _
            unfold kwX
            rw [wI_o (by omega), wI_o (by omega), wI_o (by omega), wI_o (by omega)]
            exact h5
          · unfold awV; rw [wI_o (by decide), wI_o (by decide)]; exact h6
          · have := kwX_w hw1 38
            unfold wtX at this ⊢
            show (wI (wI (kwX x1 (U.map cw ++ P).length 38) 1 15 (nI (opn U + 1))) 1 17 0).1 1 13 = _ ∧ stk ((wI (wI (kwX x1 (U.map cw ++ P).length 38) 1 15 (nI (opn U + 1))) 1 17 0).1 4) _
            rw [wI_k, pk_un (by decide), wI_k, pk_un (by decide), wI_o (by decide), wI_o (by decide)]
            exact this
          · show opn U + 1 ≤ 6
            omega
          · show st + k + (U.length + 1) + P.length + 2 ≤ a + 1
            omega
          · show fr + n + (U.length + 1) ≤ a + 1
            omega
        · have e14 : x'.1 1 14 = x1.1 1 14 := by
            show (wI (wI (kwX x1 (U.map cw ++ P).length 38) 1 15 (nI (opn U + 1))) 1 17 0).1 1 14 = _
            unfold kwX
            rw [wI_k, pk_un (by decide), wI_k, pk_un (by decide), wI_k, pk_un (by decide), wI_o (by decide)]
          have e16 : x'.1 1 16 = x1.1 1 16 := by
            show (wI (wI (kwX x1 (U.map cw ++ P).length 38) 1 15 (nI (opn U + 1))) 1 17 0).1 1 16 = _
            unfold kwX
            rw [wI_k, pk_un (by decide), wI_k, pk_un (by decide), wI_k, pk_un (by decide), wI_o (by decide)]
          refine ⟨e14.trans hC1.1, ?_, e16.trans hC1.2.2⟩
          show (wI (wI (kwX x1 (U.map cw ++ P).length 38) 1 15 (nI (opn U + 1))) 1 17 0).1 1 15 = _
          rw [wI_k, pk_un (by decide), wI_k, pk_us]
          rfl
        · show (wI (wI (kwX x1 (U.map cw ++ P).length 38) 1 15 (nI (opn U + 1))) 1 17 0).1 1 17 = 0
          rw [wI_k, pk_us]
        · refine VS.tr (v' := v1) ?_ fun y hy => ?_
          · rw [e2]; exact VS.tk _ _ _ _
          · unfold awV; rw [wI_k, pk_un (by omega), wI_o (by decide)]
        · refine mU_open h k38 (by omega) y (bcall (mp y) ?_ (fun z => nomatch z))
          rintro - m rfl
          refine vcall (awaitM hv1 (by omega) 0 y) ?_
          rintro m rfl
          exact hQ
  · by_cases k27 : K a = 27
    · refine unit_num (q := 27) (o := 0) (wx := nI w) (wv := nI w) h hE hC k27 (by decide) (by decide) (fun cd op va hA hd e1 e2 e3 => hA.num hd (by omega) e1 e2 e3) (fun cd hcd e1 => hcd.num (by omega) e1) (fun z => by omega) (fun ok1 x1 x2 t1 r1 r5 r4 e => ?_) (fun y Q hq => ?_)
      · refine top _ (fun z => absurd z k38) (fun _ => ?_) (fun z => by omega) (fun _ z => absurd k27 z)
        rw [w2]
        have last : AtTown (x1.2.2 1 4) ∧ (∃ Pm3 : Value → MM → Prop, Runs e_X1_addNumber [.ref ((x1.2.2 1 4) + 8), .int (nI w)] x1 Pm3 ∧ ∀ m3, Pm3 .null m3 → (Value.null = .null ∧ wI m3 1 16 (0 : Int32) = wI x2 1 16 0)) := by
          rw [r1]
          refine ⟨ht.at, vcall (addN ht r5 r4 (nI w)) ?_⟩
          rintro m rfl
          rw [e]
          exact ⟨rfl, rfl⟩
        refine bcall t1 (fun _ m e => ?_) (fun _ m e => ?_)
        · subst e; exact last
        · subst e; exact last
      · exact mU_other h k38 y (fun _ => by rw [w3 k27]; exact hq) (fun z => by omega) (fun z => absurd (Or.inl k27) z)
    · by_cases kv : 12 ≤ K a ∧ K a ≤ 20
      · refine unit_num (q := K a) (o := 1) (wx := -1 - nI (K a)) (wv := nI ((K a - 12 + 8) % 9)) h hE hC rfl (by omega) (by decide) (fun cd op va hA hd e1 e2 e3 => hA.var hd kv e1 e2 e3) (fun cd hcd e1 => hcd.sign (by omega) (by omega) e1) (fun _ => ⟨_, Nat.mod_lt _ (by decide), rfl⟩) (fun ok1 x1 x2 t1 r1 r5 r4 e => ?_) (fun y Q hq => ?_)
        · refine top _ (fun z => absurd z k38) (fun z => absurd z k27) (fun _ => ?_) (fun _ _ z => absurd kv z)
          rw [k1]
          have last : AtTown (x1.2.2 1 4) ∧ (∃ Pm3 : Value → MM → Prop, Runs e_X1_addKind [.ref ((x1.2.2 1 4) + 8), .int (nI (K a))] x1 Pm3 ∧ ∀ m3, Pm3 .null m3 → (Value.null = .null ∧ wI m3 1 16 (0 : Int32) = wI x2 1 16 0)) := by
            rw [r1]
            refine ⟨ht.at, vcall (addK ht r5 r4 (nI (K a))) ?_⟩
            rintro m rfl
            rw [e]
            exact ⟨rfl, rfl⟩
          refine bcall t1 (fun _ m e => ?_) (fun _ m e => ?_)
          · subst e; exact last
          · subst e; exact last
        · exact mU_other h k38 y (fun z => absurd z k27) (fun _ => hq) (fun z => absurd (Or.inr kv) z)
      · obtain ⟨f1, f2, f3, f4⟩ := failJ h (e := 1) (by decide) (by decide)
        refine ⟨false, _, _, top _ (fun z => absurd z k38) (fun z => absurd z k27) (fun z => absurd z kv) (fun _ _ _ => f1), f3, (FX.fl x _ _).e f4, (FV.wr v _ _).e, fun _ y Q hQ => ?_, (fun z => nomatch z)⟩
        refine mU_other h k38 y (fun z => absurd z k27) (fun z => absurd z kv) (fun _ => bcall (f2 y) (fun z => nomatch z) ?_)
        rintro - m rfl
        exact hQ
end

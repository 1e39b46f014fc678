/-! reading: between two units of an expression, both sides -/
section
variable {x v : MM} {M a : Nat} {K ts : Nat → Nat}
theorem rk_lst {q : Nat} (hq : 30 ≤ q ∧ q ≤ 33) : rk (q - 28) = lst q ∧ ((lst q = 1 ∧ 1 ≤ bd q ∧ bd q ≤ 5) ∨ (lst q = 2 ∧ bd q = 6)) := by
  have hq4 : q = 30 ∨ q = 31 ∨ q = 32 ∨ q = 33 := by omega
  rcases hq4 with rfl | rfl | rfl | rfl <;> decide
theorem bd5 {q : Nat} (hq : 30 ≤ q ∧ q ≤ 33) : 5 ≤ bd q := by
  have hq4 : q = 30 ∨ q = 31 ∨ q = 32 ∨ q = 33 := by omega
  rcases hq4 with rfl | rfl | rfl | rfl <;> decide
theorem cw_lt {u : Nat} (h : u ≤ 5) : cw u < 40 := by unfold cw; split <;> omega
/-- where the class's letting go stops -/
theorem stop_bd {P : List Nat} {least l : Nat} {U : List Nat} (hl : (least = 1 ∧ 1 ≤ l ∧ l ≤ 5) ∨ (least = 2 ∧ l = 6)) (hg : gd U) (hs : stopU least U) (hP : U = [] → ∀ q P', P = q :: P' → q < 40 ∧ bd q < l) : ∀ q W', U.map cw ++ P = q :: W' → q < 40 ∧ bd q < l := by
  intro q W' e
  cases U with
  | nil => exact hP rfl q W' e
  | cons u U =>
    have e1 : cw u = q := (List.cons.inj e).1
    subst e1
    have hu := hg.u
    have hr := hs u U rfl
    refine ⟨cw_lt hu, ?_⟩
    have h6 : u = 0 ∨ u = 1 ∨ u = 2 ∨ u = 3 ∨ u = 4 ∨ u = 5 := by omega
    have hg1 := hg.1
    rcases h6 with rfl | rfl | rfl | rfl | rfl | rfl
    · show 0 < l
      omega
    · omega
    · show 5 < l
      have : (1 : Nat) < least := hr
      omega
    · show 5 < l
      have : (1 : Nat) < least := hr
      omega
    · show 6 < l
      have : (2 : Nat) < least := hr
      omega
    · show 6 < l
      have : (2 : Nat) < least := hr
      omega
/-- rule-level signs that wait -/
def Pok (P : List Nat) : Prop := ∀ p, p ∈ P → p = 23 ∨ p = 24 ∨ p = 25 ∨ (34 ≤ p ∧ p ≤ 37)
theorem Pok.bd {P : List Nat} (h : Pok P) {p : Nat} (hp : p ∈ P) : p < 40 ∧ bd p ≤ 4 ∧ 1 ≤ bd p := by
  rcases h p hp with rfl | rfl | rfl | ⟨h1, h2⟩
  · decide
  · decide
  · decide
  · have h4 : p = 34 ∨ p = 35 ∨ p = 36 ∨ p = 37 := by omega
    rcases h4 with rfl | rfl | rfl | rfl <;> decide
/-- what both do with a sign between two numbers -/
theorem opJ {rt st k0 k fr n sd : Nat} {U P : List Nat} (h : RC x v M K ts a) (hE : EI x v rt st k0 k fr n a U P false) (hC : CE x sd (opn U) false) (hP : Pok P) (hq : 30 ≤ K a ∧ K a ≤ 33) :
    ∃ (ok : Bool) (x' v' : MM), Runs e_X4_readJoint [.ref 1, .int (nI (K a)), .int (nI sd)] x (fun r m => r = .null ∧ m = x') ∧ StepE x v x' v' M K ts rt st k0 k fr n a P sd ok (nI (opn U)) 0 := by
  obtain ⟨ok1, x1, v1, t1, t2, -, t4, t5, t6, t7, t8⟩ := takeJ (JM.t h) (K a) (by omega)
  obtain ⟨e1, e2⟩ := t2 rfl
  have ht : isT rt := hE.1.2
  have hc : rt = 10 ∨ rt = 100 := ht
  have hE1 : EI x1 v rt st k0 k fr n a U P false := hE.mix ht t4 (FV.rf v)
  obtain ⟨hrk, hlb⟩ := rk_lst hq
  obtain ⟨x2, v2, U2, k2, n2, p1, p2, p3, p4, p5, p6, p7, p8, p9, p10, p11, p12, p13⟩ := relJ hlb U x1 v k n hE1
  have hw1 := hE1.2.2.1.1
  have hw2 := p3.2.2.1.1
  have hv2 := p3.2.2.1.2
  have hg2 := p3.2.2.2.2.1.2.1
  have b1 := p3.2.2.2.2.2.1
  have b2 := p3.2.2.2.2.2.2.1
  have b3 := p3.2.2.2.2.2.2.2.1
  have b4 := p3.2.2.2.2.2.2.2.2
  have hlen : (U2.map cw ++ P).length = U2.length + P.length := by rw [List.length_append, List.length_map]
  have hrel : Runs e_X4_release [.ref 1, .int (nI (bd (K a)))] x1 (fun r m => r = .null ∧ m = x2) := by
    apply b_X4_release
    rw [hw1.1]
    refine p1 _ (relX_0 hw2 (by omega) (stop_bd hlb hg2 p4 fun _ q P' e => ?_) (bd_le _) ⟨rfl, rfl⟩)
    have := hP.bd (p := q) (by rw [e]; exact List.mem_cons_self)
    have := bd5 hq
    omega
  have hj := joinX (s := sd) (by omega) t1 hrel hw2 (by omega)
  have hred : ∀ y, Runs e_X12_reduce [.ref 156, .int (nI (lst (K a))), .int 0] (catR y v) (fun r m => r = .null ∧ m = catR y v2) := fun y => b_X12_reduce _ _ _ _ (p2 y _ ⟨rfl, rfl⟩)
  have hR2 : RC x v2 M K ts a := h.mix (DX.rf x) p9
  let v3 := awV v2 U2.length (K a - 28)
  have d3 : DV v v3 := (p9.w8 _ _).w (by omega) _
  have hR3 : RC x v3 M K ts a := h.mix (DX.rf x) d3
  have mp : ∀ y, Runs e_X12_pass [.ref 156] (catR y v3) (fun r m => r = .int (bI ok1) ∧ m = catR y (tkV v3 ts a (tkE K a (decide (K a = K a))))) := fun y => by
    rw [e1]; exact mPass hR3 y rfl
  have hJ : JM ok1 (jnX x2 (U2.map cw ++ P).length (K a) sd) (tkV v3 ts a (tkE K a (decide (K a = K a)))) M K ts (a + 1) := t7.mix p8.jn (by rw [e2]; exact d3.tk _ _ _)
  have hF : FE (st + k) rt x (jnX x2 (U2.map cw ++ P).length (K a) sd) := ((t4.e t6).tr p12 (Nat.le_refl _)).jn ht
  have hG : GE (fr + n) v (tkV v3 ts a (tkE K a (decide (K a = K a)))) := ((p13.w8 _ _).w (by omega) _).tr (FV.tk _ _ _ _).e (Nat.le_refl _)
  refine ⟨ok1, _, _, hj, hJ, hF, hG, fun z y Q hQ => ?_, fun z => ?_⟩
  · subst z
    refine mB_op h rfl hq y (hred y) hR2 (vcall (awaitM hv2 (by omega) _ y) ?_)
    rintro m rfl
    refine bcall (mp y) (fun z => nomatch z) ?_
    rintro - m rfl
    exact hQ
  · subst z
    have a4 : a < 400 := (t8 rfl).2.2.1
    have hE3 : EI (jnX x2 (U2.map cw ++ P).length (K a) sd) v3 rt st k0 k2 fr n2 (a + 1) ((K a - 28) :: U2) P true := by
      obtain ⟨⟨r1, -⟩, ⟨h5, h6⟩, -, ⟨hA, hS, hCd⟩, ⟨hd, hg, hop⟩, d1, d2, d3, d4⟩ := p3
      obtain ⟨j1, j2⟩ := jnX_c (x := x2) (n := (U2.map cw ++ P).length) (q := K a) (s := sd) ht
      have eo : opV v3 = opV v2 := by
        show opV (awV v2 U2.length (K a - 28)) = _
        unfold opV awV; rw [wI_o (by decide), wI_o (by decide)]
      have ea : vaV v3 = vaV v2 := by
        show vaV (awV v2 U2.length (K a - 28)) = _
        unfold vaV awV; rw [wI_o (by decide), wI_o (by decide)]
      have e164 : v3.1 164 1 = v2.1 164 1 := by
        show (awV v2 U2.length (K a - 28)).1 164 1 = _
        unfold awV; rw [wI_o (by decide), wI_o (by decide)]
      refine ⟨⟨r1, ht⟩, ⟨j2.trans h5, e164.trans h6⟩, ⟨?_, awV_w hv2 _⟩, ⟨by rw [j1, eo, ea]; exact hA, by rw [eo, ea]; exact hS, by rw [j1]; exact hCd⟩, ⟨?_, ⟨Or.inr ⟨by omega, by omega, ?_⟩, hg⟩, ?_⟩, d1, ?_, ?_, by omega⟩
      · have ecw : cw (K a - 28) = K a := by
          rw [cw_op (by omega)]; omega
        have := jnX_w (s := sd) hw2 (q := K a)
        rw [List.map_cons, ecw]
        exact this
      · rw [eo, hd]
        show pc U2 + 1 = (if K a - 28 = 0 then pc U2 else pc U2 + 1) + 0
        rw [if_neg (by omega)]
      · rw [hrk]
        cases U2 with
        | nil =>
          show 0 < lst (K a)
          unfold lst; split <;> omega
        | cons u U' => exact p4 u U' rfl
      · show (if K a - 28 = 0 then opn U2 + 1 else opn U2) ≤ 6
        rw [if_neg (by omega)]; exact hop
      · show st + k2 + (U2.length + 1) + P.length + 2 ≤ a + 1
        omega
      · show fr + n2 + (U2.length + 1) ≤ a + 1
        omega
    have eop : opn ((K a - 28) :: U2) = opn U := by
      show (if K a - 28 = 0 then opn U2 + 1 else opn U2) = _
      rw [if_neg (by omega), p5]
    refine ⟨true, (K a - 28) :: U2, k2, n2, hE3.mix ht (FX.rf _) (FV.tk _ _ _ _), p6, p7, ?_, fun _ => ?_, ?_, fun y Q hQ => ?_⟩
    · obtain ⟨f1, f2, f3, f4⟩ := jnX_f (x := x2) (n := (U2.map cw ++ P).length) (q := K a) (s := sd)
      have hC1 := hC.f t4
      refine ⟨f1, ?_, f3⟩
      rw [f2, p10 15 (by omega) (by omega), eop]
      exact hC1.2.1
    · obtain ⟨f1, f2, f3, f4⟩ := jnX_f (x := x2) (n := (U2.map cw ++ P).length) (q := K a) (s := sd)
      rw [f4, if_neg (by omega)]
    · refine (p11.tr (v' := v2) fun y hy => ?_).tr (VS.tk _ _ _ _)
      show (awV v2 U2.length (K a - 28)).1 156 y = _
      unfold awV
      rw [wI_k, pk_un (by omega), wI_o (by decide)]
    · rw [eop] at hQ
      refine mB_op h rfl hq y (hred y) hR2 (vcall (awaitM hv2 (by omega) _ y) ?_)
      rintro m rfl
      refine bcall (mp y) ?_ (fun z => nomatch z)
      rintro - m rfl
      exact hQ
theorem stop_1 {U : List Nat} (hg : gd U) (hs : stopU 1 U) : U = [] ∨ ∃ U', U = 0 :: U' := by
  cases U with
  | nil => exact Or.inl rfl
  | cons u U =>
    have hr := hs u U rfl
    rcases hg.1 with z | ⟨z1, z2, z3⟩
    · subst z; exact Or.inr ⟨U, rfl⟩
    · exfalso
      have h6 : u = 2 ∨ u = 3 ∨ u = 4 ∨ u = 5 := by omega
      rcases h6 with rfl | rfl | rfl | rfl <;> exact absurd hr (by decide)
/-- what both do with a closing bracket -/
theorem closeJ {rt st k0 k fr n sd : Nat} {U P : List Nat} (h : RC x v M K ts a) (hE : EI x v rt st k0 k fr n a U P false) (hC : CE x sd (opn U) false) (hP : Pok P) (hq : ¬ (30 ≤ K a ∧ K a ≤ 33)) (ho : 0 < opn U) :
    ∃ (ok : Bool) (x' v' : MM), Runs e_X4_readClose [.ref 1] x (fun r m => r = .null ∧ m = x') ∧ StepE x v x' v' M K ts rt st k0 k fr n a P sd ok (nI (opn U)) 0 := by
  obtain ⟨ok1, x1, v1, t1, t2, -, t4, t5, t6, t7, t8⟩ := takeJ (JM.t h) 39 (by decide)
  obtain ⟨e1, e2⟩ := t2 rfl
  have ht : isT rt := hE.1.2
  have hc : rt = 10 ∨ rt = 100 := ht
  have hE1 : EI x1 v1 rt st k0 k fr n a U P false := hE.mix ht t4 t5
  have hlb : ((1 : Nat) = 1 ∧ 1 ≤ 1 ∧ 1 ≤ 5) ∨ ((1 : Nat) = 2 ∧ 1 = 6) := Or.inl ⟨rfl, Nat.le_refl _, by decide⟩
  obtain ⟨x2, v2, U2, k2, n2, p1, p2, p3, p4, p5, p6, p7, p8, p9, p10, p11, p12, p13⟩ := relJ hlb U x1 v1 k n hE1
  have hw1 := hE1.2.2.1.1
  have hw2 := p3.2.2.1.1
  have hv2 := p3.2.2.1.2
  have hg2 := p3.2.2.2.2.1.2.1
  have b2 := p3.2.2.2.2.2.2.1
  have b3 := p3.2.2.2.2.2.2.2.1
  have b4 := p3.2.2.2.2.2.2.2.2
  have hop6 := hE.2.2.2.2.1.2.2
  have hlen : (U2.map cw ++ P).length = U2.length + P.length := by rw [List.length_append, List.length_map]
  rcases stop_1 hg2 p4 with hU | ⟨U3, hU⟩
  · rw [hU] at p5
    have : opn U = 0 := p5.symm
    omega
  · subst hU
    have hrel : Runs e_X4_release [.ref 1, .int (nI 1)] x1 (fun r m => r = .null ∧ m = x2) := by
      apply b_X4_release
      rw [hw1.1]
      exact p1 _ (relX_0 hw2 (by omega) (stop_bd hlb hg2 p4 fun z => nomatch z) (by decide) ⟨rfl, rfl⟩)
    have l3 : ((0 :: U3).map cw ++ P).length = (U3.map cw ++ P).length + 1 := rfl
    have w13 : x2.1 1 13 = nI ((U3.map cw ++ P).length + 1) := hw2.1
    have eop : opn U = opn U3 + 1 := p5.symm
    have g15 : (wI x2 1 13 (nI (U3.map cw ++ P).length)).1 1 15 = nI (opn U) := by
      rw [wI_k, pk_un (by decide), p10 15 (by omega) (by omega)]; exact (hC.f t4).2.1
    let x' := wI (wI x2 1 13 (nI (U3.map cw ++ P).length)) 1 15 (nI (opn U3))
    have hj : Runs e_X4_readClose [.ref 1] x (fun r m => r = .null ∧ m = x') := by
      have last : ∃ Pm1 : Value → MM → Prop, Runs e_X4_release [.ref 1, .int 1] x1 Pm1 ∧ ∀ m2, Pm1 .null m2 → (((m2.1 1 13) ≤ 0 → (Value.null = .null ∧ (wI m2 1 15 ((m2.1 1 15) - (1 : Int32))) = x')) ∧ (¬ (m2.1 1 13) ≤ 0 → (Value.null = .null ∧ (wI (wI m2 1 13 ((m2.1 1 13) - (1 : Int32))) 1 15 (((wI m2 1 13 ((m2.1 1 13) - (1 : Int32))).1 1 15) - (1 : Int32))) = x'))) := by
        refine vcall hrel ?_
        rintro m rfl
        rw [w13, pred_nI' (by omega), show (U3.map cw ++ P).length + 1 - 1 = (U3.map cw ++ P).length from rfl, g15, pred_nI' ho, eop]
        exact ⟨fun z => absurd z (nI_ge (a := 0) (by omega) (by omega)), fun _ => ⟨rfl, rfl⟩⟩
      apply b_X4_readClose
      refine bcall t1 (fun _ m e => ?_) (fun _ m e => ?_)
      · subst e; exact last
      · subst e; exact last
    have hdx : DX x1 x' := (p8.w (by omega) _).w (by omega) _
    have hfe : FE (st + k) rt x x' := (((t4.e t6).tr p12 (Nat.le_refl _)).w ht (by omega) _).w ht (by omega) _
    cases ok1 with
    | false =>
      refine ⟨false, x', v1, hj, t7.mix hdx (DV.rf _), hfe, t5.e, fun _ y Q hQ => ?_, (fun z => nomatch z)⟩
      refine mB_close h hq ho hop6 y (fun c => ?_) (fun c => ?_)
      · have mp : Runs e_X12_pass [.ref 156] (catR y v) (fun r m => r = .int (bI false) ∧ m = catR y v1) := by rw [e1, e2]; exact mPass h y c
        refine bcall mp (fun z => nomatch z) ?_
        rintro - m rfl
        exact hQ
      · have mp : Runs e_X12_wrong [.ref 156, .int 1] (catR y v) (fun r m => r = .int (bI false) ∧ m = catR y v1) := by rw [e1, e2]; exact mWrong h y c
        refine bcall mp (fun z => nomatch z) ?_
        rintro - m rfl
        exact hQ
    | true =>
      have a4 : a < 400 := (t8 rfl).2.2.1
      have k39 : K a = 39 := (t8 rfl).2.1
      let v' := wI v2 156 30 (nI U3.length)
      have hdv : DV v1 v' := p9.w (by omega) _
      have w30 : v2.1 156 30 = nI (U3.length + 1) := hv2.1
      refine ⟨true, x', v', hj, t7.mix hdx hdv, hfe, (t5.e.tr p13 (Nat.le_refl _)).w (by omega) _, (fun z => nomatch z), fun _ => ⟨false, U3, k2, n2, ?_, p6, p7, ?_, (fun z => nomatch z), ?_, fun y Q hQ => ?_⟩⟩
      · obtain ⟨⟨r1, -⟩, ⟨h5, h6⟩, -, ⟨hA, hS, hCd⟩, ⟨hd, hg, hop⟩, d1, d2, d3, d4⟩ := p3
        have eX : cdX x' rt = cdX x2 rt := by
          show (wI (wI x2 1 13 (nI (U3.map cw ++ P).length)) 1 15 (nI (opn U3))).1 (rt + 8 + 1) = x2.1 (rt + 8 + 1)
          rw [wI_o (by omega), wI_o (by omega)]
        have eo : opV v' = opV v2 := by
          show opV (wI v2 156 30 (nI U3.length)) = _
          unfold opV; rw [wI_o (by decide)]
        have ea : vaV v' = vaV v2 := by
          show vaV (wI v2 156 30 (nI U3.length)) = _
          unfold vaV; rw [wI_o (by decide)]
        refine ⟨⟨r1, ht⟩, ⟨?_, ?_⟩, ⟨⟨?_, ?_⟩, ⟨?_, ?_⟩⟩, ⟨by rw [eX, eo, ea]; exact hA, by rw [eo, ea]; exact hS, by rw [eX]; exact hCd⟩, ⟨by rw [eo]; exact hd, hg.2, by omega⟩, d1, ?_, ?_, by omega⟩
        · show (wI (wI x2 1 13 (nI (U3.map cw ++ P).length)) 1 15 (nI (opn U3))).1 (rt + 8) 5 = _
          rw [wI_o (by omega), wI_o (by omega)]; exact h5
        · show (wI v2 156 30 (nI U3.length)).1 164 1 = _
          rw [wI_o (by decide)]; exact h6
        · show (wI (wI x2 1 13 (nI (U3.map cw ++ P).length)) 1 15 (nI (opn U3))).1 1 13 = _
          rw [wI_k, pk_un (by decide), wI_k, pk_us]
        · show stk ((wI (wI x2 1 13 (nI (U3.map cw ++ P).length)) 1 15 (nI (opn U3))).1 4) _
          rw [wI_o (by decide), wI_o (by decide)]; exact hw2.2.2
        · show (wI v2 156 30 (nI U3.length)).1 156 30 = _
          rw [wI_k, pk_us]
        · show stk ((wI v2 156 30 (nI U3.length)).1 178) _
          rw [wI_o (by decide)]; exact hv2.2.2
        · have : (0 :: U3).length = U3.length + 1 := rfl
          omega
        · have : (0 :: U3).length = U3.length + 1 := rfl
          omega
      · have hC1 := hC.f t4
        refine ⟨?_, ?_, ?_⟩
        · show (wI (wI x2 1 13 (nI (U3.map cw ++ P).length)) 1 15 (nI (opn U3))).1 1 14 = _
          rw [wI_k, pk_un (by decide), wI_k, pk_un (by decide), p10 14 (by omega) (by omega)]; exact hC1.1
        · show (wI (wI x2 1 13 (nI (U3.map cw ++ P).length)) 1 15 (nI (opn U3))).1 1 15 = _
          rw [wI_k, pk_us]
        · show (wI (wI x2 1 13 (nI (U3.map cw ++ P).length)) 1 15 (nI (opn U3))).1 1 16 = _
          rw [wI_k, pk_un (by decide), wI_k, pk_un (by decide), p10 16 (by omega) (by omega)]; exact hC1.2.2
      · refine VS.tr (v' := v1) (by rw [e2]; exact VS.tk _ _ _ _) (p11.tr fun y hy => ?_)
        show (wI v2 156 30 (nI U3.length)).1 156 y = _
        rw [wI_k, pk_un (by omega)]
      · refine mB_close h hq ho hop6 y (fun c => ?_) (fun c => absurd k39 c)
        have mp : Runs e_X12_pass [.ref 156] (catR y v) (fun r m => r = .int (bI true) ∧ m = catR y v1) := by rw [e1, e2]; exact mPass h y c
        refine bcall mp ?_ (fun z => nomatch z)
        rintro - m rfl
        have hred : Runs e_X12_reduce [.ref 156, .int 1, .int 0] (catR y v1) (fun r m => r = .null ∧ m = catR y v2) := b_X12_reduce _ _ _ _ (p2 y _ ⟨rfl, rfl⟩)
        refine vcall hred ?_
        rintro m rfl
        have e30 : (catR y v2).1 156 30 = nI (U3.length + 1) := by rw [cr_1 (by decide)]; exact w30
        rw [e30, pred_nI' (by omega), cr_w (by decide), show U3.length + 1 - 1 = U3.length from rfl, eop, show opn U3 + 1 - 1 = opn U3 from rfl]
        exact hQ
end

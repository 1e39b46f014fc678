/-! reading: an expression up to its semicolon, both sides -/
section
variable {x v : MM} {M a : Nat} {K ts : Nat → Nat}
/-- the class has taken the semicolon (or not); the model is before it -/
def SE (x' v2 : MM) (M : Nat) (K ts : Nat → Nat) (a : Nat) (ok : Bool) : Prop := (∃ xh, RC xh v2 M K ts a) ∧ ok = decide (tkE K a (decide (K a = 28)) = 0) ∧ JM ok x' (tkV v2 ts a (tkE K a (decide (K a = 28)))) M K ts (a + 1)
theorem SE.mix {x' x'' v2 v3 : MM} {ok : Bool} (h : SE x' v2 M K ts a ok) (hx : DX x' x'') (hv : DV v2 v3) : SE x'' v3 M K ts a ok := by
  obtain ⟨⟨xh, h1⟩, h2, h3⟩ := h
  exact ⟨⟨xh, h1.mix (DX.rf xh) hv⟩, h2, h3.mix hx (hv.tk _ _ _)⟩
def fmX (x : MM) (s c : Int32) : MM := wI (wI (wI (wI (wI x 1 14 s) 1 15 0) 1 13 0) 1 16 1) 1 17 c
def fmV (v : MM) : MM := wI (wI v 156 32 (v.1 164 1)) 156 30 0
theorem fmX_1 {s c : Int32} : (fmX x s c).1 1 14 = s ∧ (fmX x s c).1 1 15 = 0 ∧ (fmX x s c).1 1 13 = 0 ∧ (fmX x s c).1 1 16 = 1 ∧ (fmX x s c).1 1 17 = c := by
  unfold fmX
  refine ⟨?_, ?_, ?_, ?_, ?_⟩
  · rw [wI_k, pk_un (by decide), wI_k, pk_un (by decide), wI_k, pk_un (by decide), wI_k, pk_un (by decide), wI_k, pk_us]
  · rw [wI_k, pk_un (by decide), wI_k, pk_un (by decide), wI_k, pk_un (by decide), wI_k, pk_us]
  · rw [wI_k, pk_un (by decide), wI_k, pk_un (by decide), wI_k, pk_us]
  · rw [wI_k, pk_un (by decide), wI_k, pk_us]
  · rw [wI_k, pk_us]
theorem fmX_o {s c : Int32} {r : Nat} (h : r ≠ 1) : (fmX x s c).1 r = x.1 r := by unfold fmX; rw [wI_o h, wI_o h, wI_o h, wI_o h, wI_o h]
theorem DX.fm {s c : Int32} : DX x (fmX x s c) := ((((((DX.rf x).w (by omega) _).w (by omega) _).w (by omega) _).w (by omega) _).w (by omega) _)
theorem FE.fm {s c : Int32} {t rt : Nat} (ht : isT rt) : FE t rt x (fmX x s c) := ((((((FE.rf t rt x).w ht (by omega) _).w ht (by omega) _).w ht (by omega) _).w ht (by omega) _).w ht (by omega) _)
theorem fmV_1 : (fmV v).1 156 32 = v.1 164 1 ∧ (fmV v).1 156 30 = 0 := by
  unfold fmV
  refine ⟨?_, ?_⟩
  · rw [wI_k, pk_un (by decide), wI_k, pk_us]
  · rw [wI_k, pk_us]
theorem fmV_o {r : Nat} (h : r ≠ 156) : (fmV v).1 r = v.1 r := by unfold fmV; rw [wI_o h, wI_o h]
theorem DV.fm : DV v (fmV v) := ((DV.rf v).w (by omega) _).w (by omega) _
theorem GE.fm {n : Nat} : GE n v (fmV v) := ((GE.rf n v).w (by omega) _).w (by omega) _
theorem exprM (y : MM) {Q : Value → MM → Prop} (h : G e_X12_expr 21 [(0, .ref 156), (1, .int (nI 0)), (2, .int 1), (3, .int 1)] [] (catR y (fmV v)) Q) : Runs e_X12_expr [.ref 156] (catR y v) Q := by
  apply b_X12_expr
  have e : (catR y v).1 164 1 = v.1 164 1 := by rw [cr_1 (by decide)]
  rw [e, cr_w (by decide), cr_w (by decide)]
  exact h
/-- an expression's two codes, whole -/
def OneE (cd op va : Nat → Int32) (st k0 k fr n : Nat) : Prop := AV cd op va st k0 k fr n ∧ SegOK op va fr n
theorem EI.first {rt st k0 k fr : Nat} {P : List Nat} (hrt : x.2.2 1 4 = rt ∧ isT rt) (h5 : x.1 (rt + 8) 5 = nI (st + k)) (h6 : v.1 164 1 = nI fr) (hw : wtX x P) (hv : v.1 156 30 = 0) (hA : AV (cdX x rt) (opV v) (vaV v) st k0 k fr 0) (hC : Coded (cdX x rt) st k) (hk : k0 ≤ k) (hb : st + k + P.length + 2 ≤ a) (hf : fr ≤ a) (h4 : a ≤ 401) :
    EI x v rt st k0 k fr 0 a [] P true :=
  ⟨hrt, ⟨h5, h6⟩, ⟨hw, hv, trivial⟩, ⟨hA, (fun i hi => by omega), hC⟩, ⟨rfl, trivial, by decide⟩, hk, hb, hf, h4⟩
/-- the class at the end of a formula, where a semicolon must stand: what waits is let go -/
theorem semiB {sd : Nat} {x1 x2 : MM} {ok1 : Bool} {rt sz : Nat} (h : RC x v M K ts a) (hC : CE x sd 0 false) (hr : ¬ (30 ≤ K a ∧ K a ≤ 33)) (hs : sd = 0 ∨ (sd = 2 ∧ K a ≠ 23 ∧ K a ≠ 24)) (t1 : Runs e_X4_take [.ref 1, .int (nI 28)] x (fun r m => r = .int (bI ok1) ∧ m = x1)) (hrel : Runs e_X4_release [.ref 1, .int 1] x1 (fun r m => r = .null ∧ m = x2))
    (hrt : x2.2.2 1 4 = rt) (ht : isT rt) (h5 : x2.1 (rt + 8) 5 = nI sz) (h4 : sz < 400) : Runs e_X4_readBetween [.ref 1] x (fun r m => r = .null ∧ m = wI (adX x2 rt sz (-1 - nI 28)) 1 14 3) := by
  have hk41 := (h.1.2.2.2.1 a h.2.1).1
  have c24 : (v_X4_kind x = 24) = (K a = 24) := by rw [(kindX h).2]; exact propext (nI_eq (b := 24) (by omega) (by omega))
  have c23 : (v_X4_kind x = 23) = (K a = 23) := by rw [(kindX h).2]; exact propext (nI_eq (b := 23) (by omega) (by omega))
  have last : ∀ Z : MM → Prop, Z (wI (adX x2 rt sz (-1 - nI 28)) 1 14 3) → (∃ Pm1 : Value → MM → Prop, Runs e_X4_take [.ref 1, .int (28 : Int32)] x Pm1 ∧ (∀ r m1, Pm1 r m1 → r = .int 1 ∨ r = .int 0) ∧ (∀ m1, Pm1 (.int 1) m1 → (∃ Pm2 : Value → MM → Prop, Runs e_X4_release [.ref 1, .int (1 : Int32)] m1 Pm2 ∧ ∀ m2, Pm2 .null m2 → (AtTown (m2.2.2 1 4) ∧ (∃ Pm4 : Value → MM → Prop, Runs e_X1_addKind [.ref ((m2.2.2 1 4) + 8), .int (28 : Int32)] m2 Pm4 ∧ ∀ m4, Pm4 .null m4 → (Z (wI m4 1 14 (3 : Int32))))))) ∧ (∀ m1, Pm1 (.int 0) m1 → (∃ Pm2 : Value → MM → Prop, Runs e_X4_release [.ref 1, .int (1 : Int32)] m1 Pm2 ∧ ∀ m2, Pm2 .null m2 → (AtTown (m2.2.2 1 4) ∧ (∃ Pm4 : Value → MM → Prop, Runs e_X1_addKind [.ref ((m2.2.2 1 4) + 8), .int (28 : Int32)] m2 Pm4 ∧ ∀ m4, Pm4 .null m4 → (Z (wI m4 1 14 (3 : Int32)))))))) := by
    intro Z hZ
    have l2 : ∃ Pm2 : Value → MM → Prop, Runs e_X4_release [.ref 1, .int (1 : Int32)] x1 Pm2 ∧ ∀ m2, Pm2 .null m2 → (AtTown (m2.2.2 1 4) ∧ (∃ Pm4 : Value → MM → Prop, Runs e_X1_addKind [.ref ((m2.2.2 1 4) + 8), .int (28 : Int32)] m2 Pm4 ∧ ∀ m4, Pm4 .null m4 → (Z (wI m4 1 14 (3 : Int32))))) := by
      refine vcall hrel ?_
      rintro m rfl
      rw [hrt]
      refine ⟨ht.at, vcall (addK ht h5 h4 28) ?_⟩
      rintro m' rfl
      exact hZ
    refine bcall t1 (fun _ m e => ?_) (fun _ m e => ?_)
    · subst e; exact l2
    · subst e; exact l2
  have L := last (fun m => Value.null = .null ∧ m = wI (adX x2 rt sz (-1 - nI 28)) 1 14 3) ⟨rfl, rfl⟩
  apply b_X4_readBetween
  rw [reck h, hC.2.1, hC.1, c24, c23]
  refine ⟨(kindX h).1, fun z => absurd z hr, fun _ => ⟨fun _ => ?_, fun z => absurd (by decide) z⟩⟩
  rcases hs with rfl | ⟨rfl, s1, s2⟩
  · exact ⟨fun _ => ⟨fun _ => ⟨fun _ => L, fun z => absurd z (by decide)⟩, fun z => absurd z (by decide)⟩, fun z => absurd z (by decide)⟩
  · exact ⟨fun _ => ⟨fun z => absurd rfl z, fun _ => ⟨fun z => absurd z s2, fun _ => ⟨fun _ => ⟨fun _ => L, fun z => absurd z (by decide)⟩, fun z => absurd z s1⟩⟩⟩, fun z => absurd z (by decide)⟩
theorem frm_end {i : Nat} (h : i ≤ 401 ∧ (¬ x.1 1 7 = 0 ∨ x.1 1 14 = 3)) {Q : Value → MM → Prop} (hQ : Q .null x) : G e_X4_readFormula 36 [(0, .ref 1), (2, .int (nI i))] [] x Q := by
  apply b_X4_readFormula_36
  refine ⟨fun _ => hQ, fun _ => ⟨fun _ => hQ, fun z => ⟨fun _ => hQ, fun z2 => ?_⟩⟩⟩
  rcases h.2 with w | w
  · exact absurd z w
  · exact absurd w z2
/-- a law's expression: no fault before its semicolon, or the same fault -/
theorem lawE {rt st fr : Nat} (h : RC x v M K ts a) (hrt : x.2.2 1 4 = rt ∧ isT rt) (h5 : x.1 (rt + 8) 5 = nI st) (h6 : v.1 164 1 = nI fr) (hb : st + 2 ≤ a) (hf : fr ≤ a) :
    ∃ x' v' : MM, Runs e_X4_readFormula [.ref 1, .int 0] x (fun r m => r = .null ∧ m = x') ∧ FE st rt x x' ∧ GE fr v v' ∧
      ((JM false x' v' M K ts 0 ∧ ∀ y, Runs e_X12_expr [.ref 156] (catR y v) (fun r m => r = .int (bI false) ∧ m = catR y v')) ∨
       ((∀ y, Runs e_X12_expr [.ref 156] (catR y v) (fun r m => r = .int (bI true) ∧ m = catR y v')) ∧ ∃ (a' k n : Nat) (ok : Bool), SE x' v' M K ts a' ok ∧ a ≤ a' ∧ v'.1 156 32 = nI fr ∧ x'.1 (rt + 8) 5 = nI (st + k + 1) ∧ v'.1 164 1 = nI (fr + n) ∧ st + k + 2 ≤ a' ∧ fr + n ≤ a' ∧ a' ≤ 401 ∧
         OneE (cdX x' rt) (opV v') (vaV v') st 0 k fr n ∧ Coded (cdX x' rt) st k ∧ cdX x' rt (st + k) = -1 - nI 28)) := by
  have ht := hrt.2
  have hc : rt = 10 ∨ rt = 100 := ht
  have ha := h.2.1
  have m4 := h.1.2.2.1.2.1
  obtain ⟨f14, f15, f13, f16, f17⟩ := fmX_1 (x := x) (s := 0) (c := 0)
  obtain ⟨g32, g30⟩ := fmV_1 (v := v)
  have hR : RC (fmX x 0 0) (fmV v) M K ts a := h.mix DX.fm DV.fm
  have hE : EI (fmX x 0 0) (fmV v) rt st 0 0 fr 0 a [] [] true := by
    refine EI.first hrt ?_ ?_ ⟨f13, trivial⟩ g30 (AV.start fun vs => ⟨[], false, rfl, Nat.zero_le _⟩) (fun i hi => by omega) (Nat.le_refl _) ?_ hf (by omega)
    · rw [fmX_o (by omega)]; exact h5
    · rw [fmV_o (by decide)]; exact h6
    · show st + 0 + 0 + 2 ≤ a
      omega
  have hC : CE (fmX x 0 0) 0 0 true := ⟨f14, f15, f16⟩
  have hfm : ∀ Q : Value → MM → Prop, G e_X4_readFormula 36 [(0, .ref 1), (2, .int (nI 0))] [] (fmX x 0 0) Q → Runs e_X4_readFormula [.ref 1, .int 0] x Q := fun Q hQ => by
    apply b_X4_readFormula
    exact ⟨fun _ => hQ, fun z => absurd z (by decide)⟩
  rcases exprL (P := []) (sd := 0) (fun p hp => by cases hp) (by decide) (402 - a) a (fmX x 0 0) (fmV v) 0 [] true 0 0 (by omega) hR hE hC (fun _ => Or.inl f17) (Nat.zero_le _) with ⟨x1, v1, q1, q2, q3, q4, q5⟩ | ⟨x1, v1, a1, i1, U1, k1, n1, q1, q2, q3, q4, q5, q6, q7, q8, q9, q10, q11, q12, q13, q14⟩
  · refine ⟨x1, v1, hfm _ (q1 _ ⟨rfl, rfl⟩), (FE.fm ht).tr q4 (Nat.le_refl _), GE.fm.tr q5 (Nat.le_refl _), Or.inl ⟨q3, fun y => exprM y (q2 y _ ⟨rfl, rfl⟩)⟩⟩
  · obtain ⟨ok2, x2, v2, t1, t2, -, t4, t5, t6, t7, t8⟩ := takeJ (JM.t q3) 28 (by decide)
    obtain ⟨e1, e2⟩ := t2 rfl
    have hE2 : EI x2 v1 rt st 0 k1 fr n1 a1 U1 [] false := q4.mix ht t4 (FV.rf v1)
    have hlb : ((1 : Nat) = 1 ∧ 1 ≤ 1 ∧ 1 ≤ 5) ∨ ((1 : Nat) = 2 ∧ 1 = 6) := Or.inl ⟨rfl, Nat.le_refl _, by decide⟩
    obtain ⟨x3, v3, U3, k3, n3, p1, p2, p3, p4, p5, p6, p7, p8, p9, p10, p11, p12, p13⟩ := relJ hlb U1 x2 v1 k1 n1 hE2
    have hg3 := p3.2.2.2.2.1.2.1
    have hU : U3 = [] := by
      rcases stop_1 hg3 p4 with z | ⟨U', z⟩
      · exact z
      · subst z
        have : opn U' + 1 = opn U1 := p5
        omega
    subst hU
    obtain ⟨⟨r1, -⟩, ⟨s5, s6⟩, ⟨hw3, hv3⟩, ⟨hA, hS, hCd⟩, ⟨hd, -, -⟩, d1, d2, d3, d4⟩ := p3
    have d2 : st + k3 + 2 ≤ a1 := d2
    have d3 : fr + n3 ≤ a1 := d3
    have ha1 := q3.2.1
    have hw2 := hE2.2.2.1.1
    have hrel : Runs e_X4_release [.ref 1, .int 1] x2 (fun r m => r = .null ∧ m = x3) := by
      apply b_X4_release
      rw [hw2.1]
      exact p1 _ (relX_0 (l := 1) hw3 (Nat.zero_le _) (fun q W' e => nomatch e) (by decide) ⟨rfl, rfl⟩)
    have hbt := semiB q3 q6 q7 (Or.inl rfl) t1 hrel r1 ht s5 (by omega)
    let x4 := wI (adX x3 rt (st + k3) (-1 - nI 28)) 1 14 3
    have x47 : x4.1 1 7 = x2.1 1 7 := by
      show (wI (adX x3 rt (st + k3) (-1 - nI 28)) 1 14 3).1 1 7 = _
      rw [wI_k, pk_un (by decide), adX_o (by omega) (by omega), p8.2.2.2.2 7 (by omega) (by omega)]
    have x414 : x4.1 1 14 = 3 := by
      show (wI (adX x3 rt (st + k3) (-1 - nI 28)) 1 14 3).1 1 14 = 3
      rw [wI_k, pk_us]
    have eX : cdX x4 rt = upd (cdX x3 rt) (st + k3) (-1 - nI 28) := by
      have : cdX x4 rt = cdX (adX x3 rt (st + k3) (-1 - nI 28)) rt := by
        show (wI (adX x3 rt (st + k3) (-1 - nI 28)) 1 14 3).1 (rt + 8 + 1) = _
        rw [wI_o (by omega)]; rfl
      rw [this, adX_c]
    have hrun : Runs e_X4_readFormula [.ref 1, .int 0] x (fun r m => r = .null ∧ m = x4) := by
      refine hfm _ (q1 _ (frm_b (by omega) q3.2.2.2.2.1 q6 (by decide) hbt (frm_end ⟨by omega, Or.inr x414⟩ ⟨rfl, rfl⟩)))
    have hred : ∀ y, Runs e_X12_reduce [.ref 156, .int (nI 1), .int 0] (catR y v1) (fun r m => r = .null ∧ m = catR y v3) := fun y => b_X12_reduce _ _ _ _ (p2 y _ ⟨rfl, rfl⟩)
    refine ⟨x4, v3, hrun, ((((FE.fm ht).tr q13 (Nat.le_refl _)).tr ((t4.e t6).tr p12 (Nat.le_refl _)) (by omega)).tr (FE.ad (Nat.le_refl _)) (by omega)).w ht (by omega) _, (GE.fm.tr q14 (Nat.le_refl _)).tr p13 (by omega), Or.inr ⟨fun y => exprM y (q2 y _ (mB_end q3 q7 y (mB_done y (hred y) ⟨rfl, rfl⟩))), a1, k3, n3, ok2, ⟨⟨x1, q3.mix (DX.rf x1) p9⟩, e1, t7.mix ((p8.tr (DX.ad ht)).w (by omega) _) (by rw [e2]; exact p9.tk _ _ _)⟩, q9, ?_, ?_, s6, d2, d3, d4, ⟨?_, hS, hd⟩, ?_, ?_⟩⟩
    · rw [p11 32 (by omega), q12 32 (by omega), g32]; exact h6
    · show (wI (adX x3 rt (st + k3) (-1 - nI 28)) 1 14 3).1 (rt + 8) 5 = _
      rw [wI_o (by omega), adX_5]
    · rw [eX]
      exact hA.cong d1 (fun i hi => pk_un (by omega)) fun i hi => ⟨rfl, rfl⟩
    · rw [eX]
      exact hCd.cong fun i hi => pk_un (by omega)
    · rw [eX, pk_us]
end

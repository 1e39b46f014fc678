/-! reading: a literal up to the end of its right side, both sides -/
section
variable {x v : MM} {M a : Nat} {K ts : Nat → Nat}
def LI (x v : MM) (rt st k fr f n g a : Nat) (o an : Bool) (j : Nat) : Prop :=
  (WI x rt st k (List.replicate j 25 ++ Bs o an) ∧ st + k + (List.replicate j 25 ++ Bs o an).length + 2 ≤ a ∧ a ≤ 401) ∧
  Sm x rt st k (Ls o an (fun vs => (hs (lv v 173) (litV (lv v) vs) f n (nI g)).1) (fun vs => (hs (lv v 173) (litV (lv v) vs) f n (nI g)).2)) ∧
  ((o = false → ∀ vs, (hs (lv v 173) (litV (lv v) vs) f n (nI g)).1 = false) ∧ (an = false → ∀ vs, (hs (lv v 173) (litV (lv v) vs) f n (nI g)).2 = true)) ∧
  (v.1 164 1 = nI fr ∧ fr ≤ a ∧ v.1 167 1 = nI (f + n) ∧ 2 * (f + n) + 2 ≤ a) ∧ (∀ i, i < n → LitB v fr (f + i)) ∧ g ≤ n
/-- both at the end of a literal's right side -/
def RX (x v : MM) (K : Nat → Nat) (rt st k k3 k6 fr n3 n6 m a q : Nat) (P U : List Nat) (L : (Nat → Int32) → List Int32) : Prop :=
  EI x v rt st k3 k6 (fr + n3) n6 a U (q :: P) false ∧ opn U = 0 ∧ CE x 2 0 false ∧ ¬ (30 ≤ K a ∧ K a ≤ 33) ∧ AV (cdX x rt) (opV v) (vaV v) st k k3 fr n3 ∧ SegOK (opV v) (vaV v) fr n3 ∧ Sm x rt st k L ∧
  (v.1 170 (200 + m) = nI fr ∧ v.1 171 (200 + m) = nI (fr + n3) ∧ v.1 169 (200 + m) = nI (smN q) ∧ v.1 167 1 = nI m) ∧ (34 ≤ q ∧ q ≤ 37) ∧ k ≤ k3
theorem Bs_ok {o an : Bool} {j : Nat} : Pok (List.replicate j 25 ++ Bs o an) := by
  intro p hp
  rcases List.mem_append.mp hp with h | h
  · have := (List.mem_replicate.mp h).2
    exact Or.inr (Or.inr (Or.inl this))
  · cases o <;> cases an
    · cases h
    · rcases List.mem_singleton.mp h with rfl
      exact Or.inr (Or.inl rfl)
    · rcases List.mem_singleton.mp h with rfl
      exact Or.inl rfl
    · rcases List.mem_cons.mp h with rfl | h
      · exact Or.inr (Or.inl rfl)
      · rcases List.mem_singleton.mp h with rfl
        exact Or.inl rfl
theorem Bs_bd {o an : Bool} {j : Nat} : ∀ q W', List.replicate j 25 ++ Bs o an = q :: W' → q < 40 ∧ bd q < 4 := by
  intro q W' e
  have hm : q ∈ List.replicate j 25 ++ Bs o an := by rw [e]; exact List.mem_cons_self
  rcases List.mem_append.mp hm with h | h
  · have := (List.mem_replicate.mp h).2
    subst this; decide
  · cases o <;> cases an
    · cases h
    · rcases List.mem_singleton.mp h with rfl
      decide
    · rcases List.mem_singleton.mp h with rfl
      decide
    · rcases List.mem_cons.mp h with rfl | h
      · decide
      · rcases List.mem_singleton.mp h with rfl
        decide
theorem Ls_len {o an : Bool} {A B : (Nat → Int32) → Bool} (vs : Nat → Int32) : (Ls o an A B vs).length ≤ 2 := by cases o <;> cases an <;> simp [Ls]
theorem Pok.cons {q : Nat} {P : List Nat} (h : Pok P) (hq : 34 ≤ q ∧ q ≤ 37) : Pok (q :: P) := by
  intro p hp
  rcases List.mem_cons.mp hp with rfl | hp
  · exact Or.inr (Or.inr (Or.inr hq))
  · exact h p hp
theorem bd_cmp {q : Nat} (hq : 34 ≤ q ∧ q ≤ 37) : bd q = 4 ∧ q < 40 := by
  have h4 : q = 34 ∨ q = 35 ∨ q = 36 ∨ q = 37 := by omega
  rcases h4 with rfl | rfl | rfl | rfl <;> decide
theorem Sm.fe {x' : MM} {rt st k : Nat} {L : (Nat → Int32) → List Int32} (h : Sm x rt st k L) (hx : FE (st + k) rt x x') : Sm x' rt st k L := fun vs => by
  rw [cr_cong (cd := cdX x rt) fun i hi => hx.2.2.2.2 _ (by omega)]
  exact h vs
/-- a comparison behind the left side -/
theorem leftB {x' : MM} (h : RC x v M K ts a) (hC : CE x 1 0 false) (hr : ¬ (30 ≤ K a ∧ K a ≤ 33)) (hj : 34 ≤ K a ∧ K a ≤ 37 → Runs e_X4_readJoint [.ref 1, .int (nI (K a)), .int (nI 2)] x (fun r m => r = .null ∧ m = x')) (hf : ¬ (34 ≤ K a ∧ K a ≤ 37) → Runs e_X4_fail [.ref 1, .int 1] x (fun r m => r = .null ∧ m = x')) : Runs e_X4_readBetween [.ref 1] x (fun r m => r = .null ∧ m = x') := by
  have hk41 := (h.1.2.2.2.1 a h.2.1).1
  have cc : p_X11_compares x (nI (K a)) = (34 ≤ K a ∧ K a ≤ 37) := by
    unfold p_X11_compares
    refine propext ?_
    rw [show (34 : Int32) = nI 34 from rfl, show (37 : Int32) = nI 37 from rfl, nI_ltI (by omega) (by omega), nI_ltI (by omega) (by omega)]
    omega
  apply b_X4_readBetween
  rw [reck h, hC.2.1, hC.1, (kindX h).2, cc]
  refine ⟨(kindX h).1, fun z => absurd z hr, fun _ => ⟨fun _ => ⟨fun z => absurd rfl z, fun _ => ⟨fun z => vcall (hj z) ?_, fun z => ⟨fun _ => ⟨fun z2 => absurd rfl z2, fun _ => vcall (hf z) ?_⟩, fun z2 => absurd z2 (by decide)⟩⟩⟩, fun z => absurd (by decide) z⟩⟩
  · rintro m rfl; exact ⟨rfl, rfl⟩
  · rintro m rfl; exact ⟨rfl, rfl⟩
theorem bb_at {m q : Nat} : (bbV v m q).1 170 (200 + m) = v.1 156 32 ∧ (bbV v m q).1 171 (200 + m) = v.1 164 1 ∧ (bbV v m q).1 169 (200 + m) = nI (smN q) ∧ (bbV v m q).1 164 = v.1 164 ∧ (bbV v m q).1 167 = v.1 167 ∧ opV (bbV v m q) = opV v ∧ vaV (bbV v m q) = vaV v := by
  unfold bbV aaV opV vaV
  refine ⟨?_, ?_, ?_, ?_, ?_, ?_, ?_⟩
  · rw [wI_o (by decide), wI_o (by decide), wI_k, pk_us]
  · rw [wI_o (by decide), wI_k, pk_us]
  · rw [wI_k, pk_us]
  · rw [wI_o (by decide), wI_o (by decide), wI_o (by decide)]
  · rw [wI_o (by decide), wI_o (by decide), wI_o (by decide)]
  · rw [wI_o (by decide), wI_o (by decide), wI_o (by decide)]
  · rw [wI_o (by decide), wI_o (by decide), wI_o (by decide)]
theorem litL {rt st k fr f n g i j : Nat} {o an neg : Bool} (h : RC x v M K ts a) (hI : LI x v rt st k fr f n g a o an j) (hC : CE x 1 0 true) (hk : ¬ K a = 25) (hi : i ≤ a) :
    (∃ x' v' : MM, (∀ Q : Value → MM → Prop, Q .null x' → G e_X4_readFormula 36 [(0, .ref 1), (2, .int (nI i))] [] x Q) ∧ (∀ (y : MM) (Q : Value → MM → Prop), Q (.int 0) (catR y v') → G e_X12_cond 32 [(0, .ref 156), (1, .int (nI g)), (3, .int (nI (200 + (f + n)))), (4, .int (bI neg))] [] (catR y v) Q) ∧ JM false x' v' M K ts 0 ∧ FE (st + k) rt x x' ∧ VE fr (f + n) v v') ∨
    (∃ (x6 v6 : MM) (a6 i6 q k3 k6 n3 n6 : Nat) (U : List Nat), (∀ Q : Value → MM → Prop, G e_X4_readFormula 36 [(0, .ref 1), (2, .int (nI i6))] [] x6 Q → G e_X4_readFormula 36 [(0, .ref 1), (2, .int (nI i))] [] x Q) ∧
      (∀ (y v8 : MM) (Q : Value → MM → Prop), Runs e_X12_reduce [.ref 156, .int (nI 1), .int 0] (catR y v6) (fun r m => r = .null ∧ m = catR y v8) → condT (nI g) (nI (200 + (f + n))) (bI neg) Q (catR y v8) → G e_X12_cond 32 [(0, .ref 156), (1, .int (nI g)), (3, .int (nI (200 + (f + n)))), (4, .int (bI neg))] [] (catR y v) Q) ∧
      RC x6 v6 M K ts a6 ∧ RX x6 v6 K rt st k k3 k6 fr n3 n6 (f + n) a6 q (List.replicate j 25 ++ Bs o an) U (Ls o an (fun vs => (hs (lv v 173) (litV (lv v) vs) f n (nI g)).1) (fun vs => (hs (lv v 173) (litV (lv v) vs) f n (nI g)).2)) ∧ i6 ≤ a6 ∧ a + 1 ≤ a6 ∧ FE (st + k) rt x x6 ∧ VE fr (f + n) v v6) := by
  obtain ⟨⟨⟨hrt, h5, hw, hCd, hb0⟩, hb, h4⟩, hS, ⟨ho, han⟩, ⟨h164, hfr, h167, hlit⟩, hL, hg⟩ := hI
  have ht := hrt.2
  have hc : rt = 10 ∨ rt = 100 := ht
  have ha := h.2.1
  have m4 := h.1.2.2.1.2.1
  obtain ⟨g32, g30⟩ := fmV_1 (v := v)
  have hR : RC x (fmV v) M K ts a := h.mix (DX.rf x) DV.fm
  have hE : EI x (fmV v) rt st k k fr 0 a [] (List.replicate j 25 ++ Bs o an) true := by
    refine EI.first hrt h5 (by rw [fmV_o (by decide)]; exact h164) hw g30 (AV.start fun vs => ⟨_, _, hS vs, ?_⟩) hCd (Nat.le_refl _) hb hfr (by omega)
    have := Ls_len (o := o) (an := an) (A := fun vs => (hs (lv v 173) (litV (lv v) vs) f n (nI g)).1) (B := fun vs => (hs (lv v 173) (litV (lv v) vs) f n (nI g)).2) vs
    omega
  rcases exprL (sd := 1) Bs_ok (by decide) (402 - a) a x (fmV v) i [] true k 0 (by omega) hR hE hC (fun _ => Or.inr hk) hi with ⟨x1, v1, q1, q2, q3, q4, q5⟩ | ⟨x1, v1, a1, i1, U1, k1, n1, q1, q2, q3, q4, q5, q6, q7, q8, q9, q10, q11, q12, q13, q14⟩
  · exact Or.inl ⟨x1, v1, q1, fun y Q hQ => mC_f1 h hk y (exprM y (q2 y _ ⟨rfl, rfl⟩)) hQ, q3, q4, (GE.fm.tr q5 (Nat.le_refl _)).ve⟩
  · have ha1 := q3.2.1
    -- what both do at the end of the left side
    have hE1v : ∀ (x2 : MM), FX x1 x2 → EI x2 v1 rt st k k1 fr n1 a1 U1 (List.replicate j 25 ++ Bs o an) false := fun x2 hx => q4.mix ht hx (FV.rf v1)
    by_cases ck : 34 ≤ K a1 ∧ K a1 ≤ 37
    · obtain ⟨ok2, x2, v2, t1, t2, -, t4, t5, t6, t7, t8⟩ := takeJ (JM.t q3) (K a1) (by omega)
      obtain ⟨e1, e2⟩ := t2 rfl
      have hlb : ((1 : Nat) = 1 ∧ 1 ≤ 4 ∧ 4 ≤ 5) ∨ ((1 : Nat) = 2 ∧ 4 = 6) := Or.inl ⟨rfl, by decide, by decide⟩
      obtain ⟨x3, v3, U3, k3, n3, p1, p2, p3, p4, p5, p6, p7, p8, p9, p10, p11, p12, p13⟩ := relJ hlb U1 x2 v1 k1 n1 (hE1v x2 t4)
      have hU : U3 = [] := by
        rcases stop_1 p3.2.2.2.2.1.2.1 p4 with z | ⟨U', z⟩
        · exact z
        · subst z
          have : opn U' + 1 = opn U1 := p5
          omega
      subst hU
      have hw2 := (hE1v x2 t4).2.2.1.1
      obtain ⟨⟨r1, -⟩, ⟨s5, s6⟩, ⟨hw3, hv3⟩, ⟨hA, hSg, hCd3⟩, ⟨hd, -, -⟩, d1, d2, d3, d4⟩ := p3
      have hw3 : wtX x3 (List.replicate j 25 ++ Bs o an) := hw3
      have d2 : st + k3 + 0 + (List.replicate j 25 ++ Bs o an).length + 2 ≤ a1 := d2
      have d3 : fr + n3 + 0 ≤ a1 := d3
      obtain ⟨b4, bq⟩ := bd_cmp ck
      have hrel : Runs e_X4_release [.ref 1, .int (nI (bd (K a1)))] x2 (fun r m => r = .null ∧ m = x3) := by
        rw [b4]
        apply b_X4_release
        rw [hw2.1]
        exact p1 _ (relX_0 (l := 4) hw3 (by omega) Bs_bd (by decide) ⟨rfl, rfl⟩)
      have hjn := joinX (s := 2) bq t1 hrel hw3 (by omega)
      have hbt := leftB q3 q6 q7 (fun _ => hjn) (fun z => absurd ck z)
      have hred : ∀ y, Runs e_X12_reduce [.ref 156, .int (nI 1), .int 0] (catR y v1) (fun r m => r = .null ∧ m = catR y v3) := fun y => b_X12_reduce _ _ _ _ (p2 y _ ⟨rfl, rfl⟩)
      have hex : ∀ y, Runs e_X12_expr [.ref 156] (catR y v) (fun r m => r = .int (bI true) ∧ m = catR y v3) := fun y => exprM y (q2 y _ (mB_end q3 q7 y (mB_done y (hred y) ⟨rfl, rfl⟩)))
      have hR3 : RC x1 v3 M K ts a1 := q3.mix (DX.rf x1) p9
      have hR4 : RC x1 (bbV v3 (f + n) (K a1)) M K ts a1 := hR3.mix (DX.rf x1) DV.bb
      have mp : ∀ y, Runs e_X12_pass [.ref 156] (catR y (bbV v3 (f + n) (K a1))) (fun r m => r = .int (bI ok2) ∧ m = catR y (tkV (bbV v3 (f + n) (K a1)) ts a1 (tkE K a1 (decide (K a1 = K a1))))) := fun y => by rw [e1]; exact mPass hR4 y rfl
      have hJ : JM ok2 (jnX x3 (List.replicate j 25 ++ Bs o an).length (K a1) 2) (tkV (bbV v3 (f + n) (K a1)) ts a1 (tkE K a1 (decide (K a1 = K a1)))) M K ts (a1 + 1) := t7.mix p8.jn (by rw [e2]; exact (p9.tr DV.bb).tk _ _ _)
      have hF : FE (st + k) rt x (jnX x3 (List.replicate j 25 ++ Bs o an).length (K a1) 2) := (q13.tr ((t4.e t6).tr p12 (Nat.le_refl _)) (by omega)).jn ht
      have hV3 : VE fr (f + n) v v3 := ((GE.fm.tr q14 (Nat.le_refl _)).tr p13 (by omega)).ve
      have hV : VE fr (f + n) v (tkV (bbV v3 (f + n) (K a1)) ts a1 (tkE K a1 (decide (K a1 = K a1)))) := (hV3.tr (VE.bb (Nat.le_refl _)) (Nat.le_refl _) (Nat.le_refl _)).tr ((FV.tk _ _ _ _).e (n := fr)).ve (Nat.le_refl _) (Nat.le_refl _)
      have ha4 : a1 ≤ 400 := by omega
      cases ok2 with
      | false =>
        refine Or.inl ⟨_, _, fun Q hQ => q1 Q (frm_b (by omega) q3.2.2.2.2.1 q6 (by decide) hbt (frm_f hJ.f0 hQ)), fun y Q hQ => ?_, hJ.any, hF, hV⟩
        refine mC_2 h hk (by omega) y (hex y) hR3 (fun _ => bcall (mp y) (fun z => nomatch z) ?_) (fun z => absurd ck z)
        rintro - m rfl
        exact hQ
      | true =>
        have hR5 := hJ.1 rfl
        have a5 : a1 < 400 := (t8 rfl).2.2.1
        obtain ⟨f14, f15, f16, f17⟩ := jnX_f (x := x3) (n := (List.replicate j 25 ++ Bs o an).length) (q := K a1) (s := 2)
        obtain ⟨j1, j2⟩ := jnX_c (x := x3) (n := (List.replicate j 25 ++ Bs o an).length) (q := K a1) (s := 2) ht
        obtain ⟨bb1, bb2, bb3, bb4, bb5, bb6, bb7⟩ := bb_at (v := v3) (m := f + n) (q := K a1)
        have ftk := FV.tk (bbV v3 (f + n) (K a1)) ts a1 (tkE K a1 (decide (K a1 = K a1)))
        generalize hv5 : tkV (bbV v3 (f + n) (K a1)) ts a1 (tkE K a1 (decide (K a1 = K a1))) = v5 at *
        generalize hx4 : jnX x3 (List.replicate j 25 ++ Bs o an).length (K a1) 2 = x4 at *
        have eo5 : opV v5 = opV v3 := by rw [← bb6]; unfold opV; rw [ftk.2.1 165 (by decide)]
        have ea5 : vaV v5 = vaV v3 := by rw [← bb7]; unfold vaV; rw [ftk.2.1 166 (by decide)]
        have eof : opV (fmV v5) = opV v5 := by unfold opV; rw [fmV_o (by decide)]
        have eaf : vaV (fmV v5) = vaV v5 := by unfold vaV; rw [fmV_o (by decide)]
        have hdp : dp (opV v3) fr n3 = 1 := hd
        have hw4 : wtX x4 (K a1 :: (List.replicate j 25 ++ Bs o an)) := by rw [← hx4]; exact jnX_w hw3
        have hrt4 : x4.2.2 1 4 = rt ∧ isT rt := by rw [← hx4]; exact ⟨r1, ht⟩
        have hE4 : EI x4 (fmV v5) rt st k3 k3 (fr + n3) 0 (a1 + 1) [] (K a1 :: (List.replicate j 25 ++ Bs o an)) true := by
          refine EI.first hrt4 ?_ ?_ hw4 (fmV_1).2 (AV.start fun vs => ?_) ?_ (Nat.le_refl _) ?_ (by omega) (by omega)
          · rw [j2]; exact s5
          · rw [fmV_o (by decide), ftk.2.1 164 (by decide), bb4]; exact s6
          · obtain ⟨S0, b0, xx, b', w1, w2, w3, -⟩ := hA.one hdp vs
            have hS3 : Sm x3 rt st k (Ls o an (fun vs => (hs (lv v 173) (litV (lv v) vs) f n (nI g)).1) (fun vs => (hs (lv v 173) (litV (lv v) vs) f n (nI g)).2)) := (hS.fe q13).fe (((t4.e t6).tr p12 (Nat.le_refl _) : FE (st + k1) rt x1 x3).tr (FE.rf _ _ _) (Nat.le_refl _) |> fun z => ⟨z.1, z.2.1, z.2.2.1, z.2.2.2.1, fun i hi => z.2.2.2.2 i (by omega)⟩)
            have eq := Option.some.inj (w1.symm.trans (hS3 vs))
            obtain ⟨u1, u2⟩ := Prod.mk.inj eq
            refine ⟨xx :: S0, b', by rw [j1]; exact w3, ?_⟩
            rw [u1]
            have := Ls_len (o := o) (an := an) (A := fun vs => (hs (lv v 173) (litV (lv v) vs) f n (nI g)).1) (B := fun vs => (hs (lv v 173) (litV (lv v) vs) f n (nI g)).2) vs
            show _ + 1 ≤ 3
            omega
          · rw [j1]; exact hCd3
          · show st + k3 + ((List.replicate j 25 ++ Bs o an).length + 1) + 2 ≤ a1 + 1
            omega
        have hC4 : CE x4 2 0 true := by
          refine ⟨f14, f15.trans ?_, f16⟩
          rw [p10 15 (by omega) (by omega)]
          exact (q6.f t4).2.1
        have hN4 : x4.1 1 17 = 0 := by rw [f17, if_neg (by omega)]
        have hR5f : RC x4 (fmV v5) M K ts (a1 + 1) := hR5.mix (DX.rf x4) DV.fm
        have cls : ∀ Q : Value → MM → Prop, G e_X4_readFormula 36 [(0, .ref 1), (2, .int (nI (i1 + 1)))] [] x4 Q → G e_X4_readFormula 36 [(0, .ref 1), (2, .int (nI i))] [] x Q := fun Q hQ => q1 Q (frm_b (by omega) q3.2.2.2.2.1 q6 (by decide) hbt hQ)
        rcases exprL (sd := 2) (Pok.cons Bs_ok ck) (by decide) (402 - (a1 + 1)) (a1 + 1) x4 (fmV v5) (i1 + 1) [] true k3 0 (by omega) hR5f hE4 hC4 (fun _ => Or.inl hN4) (by omega) with ⟨x6, v6, Q1, Q2, Q3, Q4, Q5⟩ | ⟨x6, v6, a6, i6, U6, k6, n6, Q1, Q2, Q3, Q4, Q5, Q6, Q7, Q8, Q9, Q10, Q11, Q12, Q13, Q14⟩
        · refine Or.inl ⟨x6, v6, fun Q hQ => cls Q (Q1 Q hQ), fun y Q hQ => ?_, Q3, hF.tr Q4 (by omega), hV.tr (GE.fm.tr Q5 (Nat.le_refl _)).ve (by omega) (Nat.le_refl _)⟩
          refine mC_2 h hk (by omega) y (hex y) hR3 (fun _ => bcall (mp y) ?_ (fun z => nomatch z)) (fun z => absurd ck z)
          rintro - m rfl
          refine bcall (exprM y (Q2 y (fun r m => r = .int (bI false) ∧ m = catR y v6) ⟨rfl, rfl⟩)) (fun z => nomatch z) ?_
          rintro - m rfl
          exact hQ
        · have hVf : VE fr (f + n) v v6 := hV.tr (GE.fm.tr Q14 (Nat.le_refl _)).ve (by omega) (Nat.le_refl _)
          have row : ∀ r, r ≠ 156 → r ≠ 164 → r ≠ 165 → r ≠ 166 → r ≠ 178 → v6.1 r = (bbV v3 (f + n) (K a1)).1 r := fun r r1 r2 r3 r4 r5 => by
            rw [Q14.2.1 r r1 r2 r3 r4 r5, fmV_o r1, ftk.2.1 r r1]
          have eop : ∀ i, i < fr + n3 → opV v6 i = opV v3 i ∧ vaV v6 i = vaV v3 i := fun i hi => by
            obtain ⟨w1, w2⟩ := Q14.2.2.2.2.1 i (by omega)
            rw [eof, eo5] at w1
            rw [eaf, ea5] at w2
            exact ⟨w1, w2⟩
          have ecd : ∀ i, i < k3 → cdX x6 rt (st + i) = cdX x3 rt (st + i) := fun i hi => by
            rw [Q13.2.2.2.2 (st + i) (by omega), j1]
          have e32 : v3.1 156 32 = nI fr := by
            rw [p11 32 (by omega), q12 32 (by omega), g32]; exact h164
          refine Or.inr ⟨x6, v6, a6, i6, K a1, k3, k6, n3, n6, U6, fun Q hQ => cls Q (Q1 Q hQ), fun y v8 Q hr hT => ?_, Q3, ⟨Q4, Q5, Q6, Q7, ?_, ?_, ?_, ⟨?_, ?_, ?_, ?_⟩, ck, by omega⟩, Q8, by omega, hF.tr Q13 (by omega), hVf⟩
          · refine mC_2 h hk (by omega) y (hex y) hR3 (fun _ => bcall (mp y) ?_ (fun z => nomatch z)) (fun z => absurd ck z)
            rintro - m rfl
            refine bcall (exprM y (Q2 y (fun r m => r = .int (bI true) ∧ m = catR y v8) (mB_end Q3 Q7 y (mB_done y hr ⟨rfl, rfl⟩)))) ?_ (fun z => nomatch z)
            rintro - m rfl
            exact hT
          · exact hA.cong (by omega) ecd fun i hi => eop _ (by omega)
          · exact SegOK.cong ⟨hSg, hdp⟩ fun i hi => eop _ (by omega)
          · exact hS.fe (hF.tr Q13 (by omega))
          · rw [row 170 (by decide) (by decide) (by decide) (by decide) (by decide), bb1]; exact e32
          · rw [row 171 (by decide) (by decide) (by decide) (by decide) (by decide), bb2]; exact s6
          · rw [row 169 (by decide) (by decide) (by decide) (by decide) (by decide), bb3]
          · rw [row 167 (by decide) (by decide) (by decide) (by decide) (by decide), bb5, p13.2.1 167 (by decide) (by decide) (by decide) (by decide) (by decide), q14.2.1 167 (by decide) (by decide) (by decide) (by decide) (by decide), fmV_o (by decide)]
            exact h167
    · -- no comparison
      have hlb : ((1 : Nat) = 1 ∧ 1 ≤ 1 ∧ 1 ≤ 5) ∨ ((1 : Nat) = 2 ∧ 1 = 6) := Or.inl ⟨rfl, Nat.le_refl _, by decide⟩
      obtain ⟨x3, v3, U3, k3, n3, p1, p2, p3, p4, p5, p6, p7, p8, p9, p10, p11, p12, p13⟩ := relJ hlb U1 x1 v1 k1 n1 q4
      have hred : ∀ y, Runs e_X12_reduce [.ref 156, .int (nI 1), .int 0] (catR y v1) (fun r m => r = .null ∧ m = catR y v3) := fun y => b_X12_reduce _ _ _ _ (p2 y _ ⟨rfl, rfl⟩)
      have hex : ∀ y, Runs e_X12_expr [.ref 156] (catR y v) (fun r m => r = .int (bI true) ∧ m = catR y v3) := fun y => exprM y (q2 y _ (mB_end q3 q7 y (mB_done y (hred y) ⟨rfl, rfl⟩)))
      have hR3 : RC x1 v3 M K ts a1 := q3.mix (DX.rf x1) p9
      have hR4 : RC x1 (aaV v3 (f + n)) M K ts a1 := hR3.mix (DX.rf x1) DV.aa
      obtain ⟨f1, f2, f3, f4⟩ := failJ hR4 (e := 1) (by decide) (by decide)
      have hbt := leftB q3 q6 q7 (fun z => absurd z ck) (fun _ => f1)
      have hV3 : VE fr (f + n) v v3 := ((GE.fm.tr q14 (Nat.le_refl _)).tr p13 (by omega)).ve
      refine Or.inl ⟨_, _, fun Q hQ => q1 Q (frm_b (by omega) q3.2.2.2.2.1 q6 (by decide) hbt (frm_f f3.f0 hQ)), fun y Q hQ => ?_, f3.any, q13.tr ((FX.fl x1 _ _).e f4) (Nat.le_refl _), (hV3.tr (VE.aa (Nat.le_refl _)) (Nat.le_refl _) (Nat.le_refl _)).tr ((FV.wr _ _ _).e (n := fr)).ve (Nat.le_refl _) (Nat.le_refl _)⟩
      refine mC_2 h hk (by omega) y (hex y) hR3 (fun z => absurd z ck) (fun _ => bcall (f2 y) (fun z => nomatch z) ?_)
      rintro - m rfl
      exact hQ
end

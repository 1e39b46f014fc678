/-! reading: an expression's loop, both sides -/
section
variable {M : Nat} {K ts : Nat → Nat}
theorem JM.any {x v : MM} {a b : Nat} (h : JM false x v M K ts a) : JM false x v M K ts b := ⟨(fun z => nomatch z), h.2⟩
theorem JM.f0 {x v : MM} {a : Nat} (h : JM false x v M K ts a) : ¬ x.1 1 7 = 0 := by
  obtain ⟨e, e1, e2, e3, -⟩ := h.2.1 rfl
  rw [e3]
  exact nI_ne0 e1 (by omega)
/-- the class's loop where a fault has come -/
theorem frm_f {x : MM} {i : Int32} (h : ¬ x.1 1 7 = 0) {Q : Value → MM → Prop} (hQ : Q .null x) : G e_X4_readFormula 36 [(0, .ref 1), (2, .int i)] [] x Q := by
  apply b_X4_readFormula_36
  exact ⟨fun _ => hQ, fun _ => ⟨fun _ => hQ, fun z => absurd z h⟩⟩
theorem frm_u {x x' : MM} {i sd l1 : Nat} (hi : i ≤ 400) (h7 : x.1 1 7 = 0) (hC : CE x sd l1 true) (hsd : sd ≤ 2) (hr : Runs e_X4_readUnit [.ref 1] x (fun r m => r = .null ∧ m = x')) {Q : Value → MM → Prop} (hQ : G e_X4_readFormula 36 [(0, .ref 1), (2, .int (nI (i + 1)))] [] x' Q) :
    G e_X4_readFormula 36 [(0, .ref 1), (2, .int (nI i))] [] x Q := by
  apply b_X4_readFormula_36
  rw [h7, hC.1, hC.2.2, nI_1]
  refine ⟨fun z => absurd z (nI_nlt (a := 400) (b := i) hi (by omega)), fun _ => ⟨fun z => absurd rfl z, fun _ => ⟨fun z => absurd ((nI_eq (b := 3) (by omega) (by omega)).mp z) (by omega), fun _ => ⟨fun z => absurd z (by decide), fun _ => vcall hr ?_⟩⟩⟩⟩
  rintro m rfl
  exact hQ
theorem frm_b {x x' : MM} {i sd l1 : Nat} (hi : i ≤ 400) (h7 : x.1 1 7 = 0) (hC : CE x sd l1 false) (hsd : sd ≤ 2) (hr : Runs e_X4_readBetween [.ref 1] x (fun r m => r = .null ∧ m = x')) {Q : Value → MM → Prop} (hQ : G e_X4_readFormula 36 [(0, .ref 1), (2, .int (nI (i + 1)))] [] x' Q) :
    G e_X4_readFormula 36 [(0, .ref 1), (2, .int (nI i))] [] x Q := by
  apply b_X4_readFormula_36
  rw [h7, hC.1, hC.2.2, nI_1]
  refine ⟨fun z => absurd z (nI_nlt (a := 400) (b := i) hi (by omega)), fun _ => ⟨fun z => absurd rfl z, fun _ => ⟨fun z => absurd ((nI_eq (b := 3) (by omega) (by omega)).mp z) (by omega), fun _ => ⟨fun _ => vcall hr ?_, fun z => absurd rfl z⟩⟩⟩⟩
  rintro m rfl
  exact hQ
theorem reck {x v : MM} {a : Nat} (h : RC x v M K ts a) : p_X11_reckons x (v_X4_kind x) = (30 ≤ K a ∧ K a ≤ 33) := by
  have hk41 := (h.1.2.2.2.1 a h.2.1).1
  unfold p_X11_reckons
  rw [(kindX h).2]
  refine propext ?_
  rw [show (30 : Int32) = nI 30 from rfl, show (33 : Int32) = nI 33 from rfl, nI_ltI (by omega) (by omega), nI_ltI (by omega) (by omega)]
  omega
theorem exprL {rt st k0 fr sd : Nat} {P : List Nat} (hP : Pok P) (hsd : sd ≤ 2) : ∀ (d a : Nat) (x v : MM) (i : Nat) (U : List Nat) (w : Bool) (k n : Nat), a + d = 402 → RC x v M K ts a → EI x v rt st k0 k fr n a U P w → CE x sd (opn U) w → (w = true → x.1 1 17 = 0 ∨ K a ≠ 25) → i ≤ a →
    (∃ x' v' : MM, (∀ Q : Value → MM → Prop, Q .null x' → G e_X4_readFormula 36 [(0, .ref 1), (2, .int (nI i))] [] x Q) ∧ (∀ (y : MM) (Q : Value → MM → Prop), Q (.int 0) (catR y v') → G e_X12_expr 21 [(0, .ref 156), (1, .int (nI (opn U))), (2, .int (bI w)), (3, .int 1)] [] (catR y v) Q) ∧ JM false x' v' M K ts 0 ∧ FE (st + k) rt x x' ∧ GE (fr + n) v v') ∨
    (∃ (x' v' : MM) (a' i' : Nat) (U' : List Nat) (k' n' : Nat), (∀ Q : Value → MM → Prop, G e_X4_readFormula 36 [(0, .ref 1), (2, .int (nI i'))] [] x' Q → G e_X4_readFormula 36 [(0, .ref 1), (2, .int (nI i))] [] x Q) ∧
      (∀ (y : MM) (Q : Value → MM → Prop), G e_X12_expr 21 [(0, .ref 156), (1, .int (nI 0)), (2, .int 0), (3, .int 1)] [] (catR y v') Q → G e_X12_expr 21 [(0, .ref 156), (1, .int (nI (opn U))), (2, .int (bI w)), (3, .int 1)] [] (catR y v) Q) ∧
      RC x' v' M K ts a' ∧ EI x' v' rt st k0 k' fr n' a' U' P false ∧ opn U' = 0 ∧ CE x' sd 0 false ∧ ¬ (30 ≤ K a' ∧ K a' ≤ 33) ∧ i' ≤ a' ∧ a ≤ a' ∧ k ≤ k' ∧ n ≤ n' ∧ VS v v' ∧ FE (st + k) rt x x' ∧ GE (fr + n) v v') := by
  intro d
  induction d with
  | zero =>
    intro a x v i U w k n hd h
    have m4 := h.1.2.2.1.2.1
    have ha := h.2.1
    omega
  | succ d ih =>
    intro a x v i U w k n hd h hE hC hN hi
    have m4 := h.1.2.2.1.2.1
    have ha := h.2.1
    have h7 := h.2.2.2.2.1
    -- a step that both do, and then the rest
    have go : ∀ (ok : Bool) (x1 v1 : MM), StepE x v x1 v1 M K ts rt st k0 k fr n a P sd ok (nI (opn U)) (bI w) → (∀ Q : Value → MM → Prop, G e_X4_readFormula 36 [(0, .ref 1), (2, .int (nI (i + 1)))] [] x1 Q → G e_X4_readFormula 36 [(0, .ref 1), (2, .int (nI i))] [] x Q) →
        (∃ x' v' : MM, (∀ Q : Value → MM → Prop, Q .null x' → G e_X4_readFormula 36 [(0, .ref 1), (2, .int (nI i))] [] x Q) ∧ (∀ (y : MM) (Q : Value → MM → Prop), Q (.int 0) (catR y v') → G e_X12_expr 21 [(0, .ref 156), (1, .int (nI (opn U))), (2, .int (bI w)), (3, .int 1)] [] (catR y v) Q) ∧ JM false x' v' M K ts 0 ∧ FE (st + k) rt x x' ∧ GE (fr + n) v v') ∨
        (∃ (x' v' : MM) (a' i' : Nat) (U' : List Nat) (k' n' : Nat), (∀ Q : Value → MM → Prop, G e_X4_readFormula 36 [(0, .ref 1), (2, .int (nI i'))] [] x' Q → G e_X4_readFormula 36 [(0, .ref 1), (2, .int (nI i))] [] x Q) ∧
          (∀ (y : MM) (Q : Value → MM → Prop), G e_X12_expr 21 [(0, .ref 156), (1, .int (nI 0)), (2, .int 0), (3, .int 1)] [] (catR y v') Q → G e_X12_expr 21 [(0, .ref 156), (1, .int (nI (opn U))), (2, .int (bI w)), (3, .int 1)] [] (catR y v) Q) ∧
          RC x' v' M K ts a' ∧ EI x' v' rt st k0 k' fr n' a' U' P false ∧ opn U' = 0 ∧ CE x' sd 0 false ∧ ¬ (30 ≤ K a' ∧ K a' ≤ 33) ∧ i' ≤ a' ∧ a ≤ a' ∧ k ≤ k' ∧ n ≤ n' ∧ VS v v' ∧ FE (st + k) rt x x' ∧ GE (fr + n) v v') := by
      intro ok x1 v1 hs hg
      obtain ⟨s1, s2, s3, s4, s5⟩ := hs
      cases ok with
      | false => exact Or.inl ⟨x1, v1, fun Q hQ => hg Q (frm_f s1.f0 hQ), s4 rfl, s1.any, s2, s3⟩
      | true =>
        obtain ⟨w', U', k', n', r1, r2, r3, r4, r5, r6, r7⟩ := s5 rfl
        rcases ih (a + 1) x1 v1 (i + 1) U' w' k' n' (by omega) (s1.1 rfl) r1 r4 (fun z => Or.inl (r5 z)) (by omega) with ⟨x2, v2, q1, q2, q3, q4, q5⟩ | ⟨x2, v2, a2, i2, U2, k2, n2, q1, q2, q3, q4, q5, q6, q7, q8, q9, q10, q11, q12, q13, q14⟩
        · exact Or.inl ⟨x2, v2, fun Q hQ => hg Q (q1 Q hQ), fun y Q hQ => r7 y Q (q2 y Q hQ), q3, s2.tr q4 (by omega), s3.tr q5 (by omega)⟩
        · exact Or.inr ⟨x2, v2, a2, i2, U2, k2, n2, fun Q hQ => hg Q (q1 Q hQ), fun y Q hQ => r7 y Q (q2 y Q hQ), q3, q4, q5, q6, q7, q8, by omega, by omega, by omega, r6.tr q12, s2.tr q13 (by omega), s3.tr q14 (by omega)⟩
    cases w with
    | true =>
      obtain ⟨ok, x1, v1, u1, u2⟩ := unitJ h hE hC (hN rfl)
      exact go ok x1 v1 u2 fun Q hQ => frm_u (by omega) h7 hC hsd u1 hQ
    | false =>
      by_cases ck : 30 ≤ K a ∧ K a ≤ 33
      · obtain ⟨ok, x1, v1, u1, u2⟩ := opJ h hE hC hP ck
        refine go ok x1 v1 u2 fun Q hQ => frm_b (by omega) h7 hC hsd ?_ hQ
        apply b_X4_readBetween
        rw [reck h, (kindX h).2, hC.1]
        refine ⟨(kindX h).1, fun _ => vcall u1 ?_, fun z => absurd ck z⟩
        rintro m rfl
        exact ⟨rfl, rfl⟩
      · by_cases co : 0 < opn U
        · obtain ⟨ok, x1, v1, u1, u2⟩ := closeJ h hE hC hP ck co
          refine go ok x1 v1 u2 fun Q hQ => frm_b (by omega) h7 hC hsd ?_ hQ
          have hop := hE.2.2.2.2.1.2.2
          apply b_X4_readBetween
          rw [reck h, hC.2.1]
          refine ⟨(kindX h).1, fun z => absurd z ck, fun _ => ⟨fun z => absurd z (nI_ge (a := 0) co (by omega)), fun _ => vcall u1 ?_⟩⟩
          rintro m rfl
          exact ⟨rfl, rfl⟩
        · have e0 : opn U = 0 := by omega
          refine Or.inr ⟨x, v, a, i, U, k, n, fun Q hQ => hQ, fun y Q hQ => ?_, h, hE, e0, by rw [← e0]; exact hC, ck, hi, Nat.le_refl _, Nat.le_refl _, Nat.le_refl _, VS.rf v, FE.rf _ _ x, GE.rf _ v⟩
          rw [e0]
          exact hQ
end

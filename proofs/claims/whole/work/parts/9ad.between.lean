/-! reading: what stands between two units of an expression -/
section
variable {x v : MM} {M a : Nat} {K ts : Nat → Nat}
theorem pred_nI {n : Nat} (h : 0 < n) : nI n + (-1) = nI (n - 1) := by
  obtain ⟨m, rfl⟩ : ∃ m, n = m + 1 := ⟨n - 1, by omega⟩
  rw [show nI (m + 1) = nI m + 1 from by rw [nI_1], show m + 1 - 1 = m from rfl]
  rw [← Int32.sub_eq_add_neg]
  exact Int32.add_sub_cancel _ _
theorem pred_nI' {n : Nat} (h : 0 < n) : nI n - 1 = nI (n - 1) := by rw [Int32.sub_eq_add_neg]; exact pred_nI h
/-- the signs that the model looks for between units -/
theorem sgn4 (h : RC x v M K ts a) (y : MM) : (o_X12_isSign (catR y v) 42 = True ∧ p_X12_isSign (catR y v) 42 = (K a = 32)) ∧ (o_X12_isSign (catR y v) 47 = True ∧ p_X12_isSign (catR y v) 47 = (K a = 33)) ∧
    (o_X12_isSign (catR y v) 43 = True ∧ p_X12_isSign (catR y v) 43 = (K a = 30)) ∧ (o_X12_isSign (catR y v) 45 = True ∧ p_X12_isSign (catR y v) 45 = (K a = 31)) ∧ (o_X12_isSign (catR y v) 41 = True ∧ p_X12_isSign (catR y v) 41 = (K a = 39)) := by
  obtain ⟨a1, a2⟩ := signM h y (k := 32) (by decide)
  obtain ⟨b1, b2⟩ := signM h y (k := 33) (by decide)
  obtain ⟨c1, c2⟩ := signM h y (k := 30) (by decide)
  obtain ⟨d1, d2⟩ := signM h y (k := 31) (by decide)
  obtain ⟨e1, e2⟩ := signM h y (k := 39) (by decide)
  exact ⟨⟨eq_true a1, propext a2⟩, ⟨eq_true b1, propext b2⟩, ⟨eq_true c1, propext c2⟩, ⟨eq_true d1, propext d2⟩, ⟨eq_true e1, propext e2⟩⟩
def lst (q : Nat) : Nat := if q ≤ 31 then 1 else 2
theorem mB_op {q : Nat} {v2 : MM} {l1 : Int32} (h : RC x v M K ts a) (hk : K a = q) (hq : 30 ≤ q ∧ q ≤ 33) (y : MM) (hr : Runs e_X12_reduce [.ref 156, .int (nI (lst q)), .int 0] (catR y v) (fun r m => r = .null ∧ m = catR y v2)) (h2 : RC x v2 M K ts a) {Q : Value → MM → Prop}
    (hQ : ∃ Pm2 : Value → MM → Prop, Runs e_X12_await [.ref 156, .int (nI (q - 28))] (catR y v2) Pm2 ∧ ∀ m2, Pm2 .null m2 → (∃ Pm3 : Value → MM → Prop, Runs e_X12_pass [.ref 156] m2 Pm3 ∧ (∀ r m3, Pm3 r m3 → r = .int 1 ∨ r = .int 0) ∧ (∀ m3, Pm3 (.int 1) m3 → (G e_X12_expr 21 [(0, .ref 156), (1, .int l1), (2, .int (1 : Int32)), (3, .int 1)] [] m3 Q)) ∧ (∀ m3, Pm3 (.int 0) m3 → (Q (.int (0 : Int32)) m3)))) :
    G e_X12_expr 21 [(0, .ref 156), (1, .int l1), (2, .int 0), (3, .int 1)] [] (catR y v) Q := by
  obtain ⟨⟨a1, a2⟩, ⟨b1, b2⟩, ⟨c1, c2⟩, ⟨d1, d2⟩, -⟩ := sgn4 h y
  obtain ⟨⟨A1, A2⟩, ⟨B1, B2⟩, ⟨C1, C2⟩, ⟨D1, D2⟩, -⟩ := sgn4 h2 y
  have z : ((1 : Int32) = 0) = False := by decide
  have hq4 : q = 30 ∨ q = 31 ∨ q = 32 ∨ q = 33 := by omega
  rcases hq4 with rfl | rfl | rfl | rfl
  · apply b_X12_expr_21
    simp only [z, a1, b1, c1, d1, a2, b2, c2, d2, hk, eq_self, Nat.reduceEqDiff, not_true, not_false_eq_true, true_implies, false_implies, true_and, and_true]
    refine vcall hr ?_
    rintro m rfl
    simp only [C1, C2, hk, eq_self, Nat.reduceEqDiff, not_true, not_false_eq_true, false_implies, true_implies, true_and, and_true]
    exact hQ
  · apply b_X12_expr_21
    simp only [z, a1, b1, c1, d1, a2, b2, c2, d2, hk, eq_self, Nat.reduceEqDiff, not_true, not_false_eq_true, true_implies, false_implies, true_and, and_true]
    refine vcall hr ?_
    rintro m rfl
    simp only [C1, C2, hk, eq_self, Nat.reduceEqDiff, not_true, not_false_eq_true, false_implies, true_implies, true_and, and_true]
    exact hQ
  · apply b_X12_expr_21
    simp only [z, a1, b1, c1, d1, a2, b2, c2, d2, hk, eq_self, Nat.reduceEqDiff, not_true, not_false_eq_true, true_implies, false_implies, true_and, and_true]
    refine vcall hr ?_
    rintro m rfl
    simp only [A1, A2, hk, eq_self, Nat.reduceEqDiff, not_true, not_false_eq_true, false_implies, true_implies, true_and, and_true]
    exact hQ
  · apply b_X12_expr_21
    simp only [z, a1, b1, c1, d1, a2, b2, c2, d2, hk, eq_self, Nat.reduceEqDiff, not_true, not_false_eq_true, true_implies, false_implies, true_and, and_true]
    refine vcall hr ?_
    rintro m rfl
    simp only [A1, A2, hk, eq_self, Nat.reduceEqDiff, not_true, not_false_eq_true, false_implies, true_implies, true_and, and_true]
    exact hQ
theorem mB_end (h : RC x v M K ts a) (hk : ¬ (30 ≤ K a ∧ K a ≤ 33)) (y : MM) {Q : Value → MM → Prop} (hQ : G e_X12_expr 21 [(0, .ref 156), (1, .int (nI 0)), (2, .int 0), (3, .int 0)] [] (catR y v) Q) :
    G e_X12_expr 21 [(0, .ref 156), (1, .int (nI 0)), (2, .int 0), (3, .int 1)] [] (catR y v) Q := by
  obtain ⟨⟨a1, a2⟩, ⟨b1, b2⟩, ⟨c1, c2⟩, ⟨d1, d2⟩, -⟩ := sgn4 h y
  have z : ((1 : Int32) = 0) = False := by decide
  have n0 : (nI 0 ≤ (0 : Int32)) = True := by decide
  have n2 : (K a = 32) = False := eq_false (by omega)
  have n3 : (K a = 33) = False := eq_false (by omega)
  have n4 : (K a = 30) = False := eq_false (by omega)
  have n5 : (K a = 31) = False := eq_false (by omega)
  apply b_X12_expr_21
  simp only [z, n0, a1, b1, c1, d1, a2, b2, c2, d2, n2, n3, n4, n5, eq_self, not_false_eq_true, not_true, true_implies, false_implies, true_and, and_true]
  exact hQ
theorem mB_done {l1 l2 : Int32} {v2 : MM} (y : MM) (hr : Runs e_X12_reduce [.ref 156, .int (nI 1), .int 0] (catR y v) (fun r m => r = .null ∧ m = catR y v2)) {Q : Value → MM → Prop} (hQ : Q (.int 1) (catR y v2)) :
    G e_X12_expr 21 [(0, .ref 156), (1, .int l1), (2, .int l2), (3, .int 0)] [] (catR y v) Q := by
  apply b_X12_expr_21
  refine ⟨fun _ => vcall hr ?_, fun z => absurd rfl z⟩
  rintro m rfl
  exact hQ
theorem mB_close {l1 : Nat} (h : RC x v M K ts a) (hk : ¬ (30 ≤ K a ∧ K a ≤ 33)) (hl : 0 < l1) (hl6 : l1 ≤ 6) (y : MM) {Q : Value → MM → Prop}
    (h39 : K a = 39 → ∃ Pm1 : Value → MM → Prop, Runs e_X12_pass [.ref 156] (catR y v) Pm1 ∧ (∀ r m1, Pm1 r m1 → r = .int 1 ∨ r = .int 0) ∧ (∀ m1, Pm1 (.int 1) m1 → (∃ Pm2 : Value → MM → Prop, Runs e_X12_reduce [.ref 156, .int (1 : Int32), .int (0 : Int32)] m1 Pm2 ∧ ∀ m2, Pm2 .null m2 → (G e_X12_expr 21 [(0, .ref 156), (1, .int (nI (l1 - 1))), (2, .int 0), (3, .int 1)] [] (wI m2 156 30 ((m2.1 156 30) - (1 : Int32))) Q))) ∧ (∀ m1, Pm1 (.int 0) m1 → (Q (.int (0 : Int32)) m1)))
    (hno : ¬ K a = 39 → ∃ Pm1 : Value → MM → Prop, Runs e_X12_wrong [.ref 156, .int 1] (catR y v) Pm1 ∧ (∀ r m1, Pm1 r m1 → r = .int 1 ∨ r = .int 0) ∧ (∀ m1, Pm1 (.int 1) m1 → Q (.int 1) m1) ∧ (∀ m1, Pm1 (.int 0) m1 → (Q (.int (0 : Int32)) m1))) :
    G e_X12_expr 21 [(0, .ref 156), (1, .int (nI l1)), (2, .int 0), (3, .int 1)] [] (catR y v) Q := by
  obtain ⟨⟨a1, a2⟩, ⟨b1, b2⟩, ⟨c1, c2⟩, ⟨d1, d2⟩, ⟨e1, e2⟩⟩ := sgn4 h y
  have z : ((1 : Int32) = 0) = False := by decide
  have n0 : (nI l1 ≤ (0 : Int32)) = False := eq_false (nI_ge (a := 0) (b := l1) hl (by omega))
  have n2 : (K a = 32) = False := eq_false (by omega)
  have n3 : (K a = 33) = False := eq_false (by omega)
  have n4 : (K a = 30) = False := eq_false (by omega)
  have n5 : (K a = 31) = False := eq_false (by omega)
  apply b_X12_expr_21
  simp only [z, n0, a1, b1, c1, d1, e1, a2, b2, c2, d2, e2, n2, n3, n4, n5, pred_nI hl, eq_self, not_false_eq_true, not_true, true_implies, false_implies, true_and, and_true]
  exact ⟨h39, hno⟩
/-- a joint of the class: what waits is let go, and the sign waits -/
def jnX (x : MM) (n q s : Nat) : MM := wI (wI (wI (kwX x n q) 1 14 (nI s)) 1 16 1) 1 17 (if q = 23 ∨ q = 24 then 1 else 0)
theorem joinX {ok1 : Bool} {x1 x2 : MM} {W : List Nat} {q s : Nat} (hq : q < 40) (t1 : Runs e_X4_take [.ref 1, .int (nI q)] x (fun r m => r = .int (bI ok1) ∧ m = x1)) (hr : Runs e_X4_release [.ref 1, .int (nI (bd q))] x1 (fun r m => r = .null ∧ m = x2)) (hw : wtX x2 W) (hl : W.length < 400) :
    Runs e_X4_readJoint [.ref 1, .int (nI q), .int (nI s)] x (fun r m => r = .null ∧ m = jnX x2 W.length q s) := by
  have kw := keepX hw hl q
  have b : v_X4_bond x1 (nI q) = nI (bd q) := bond_ok x1 hq
  have c24 : (nI q = (24 : Int32)) = (q = 24) := propext (nI_eq (b := 24) (by omega) (by omega))
  have c23 : (nI q = (23 : Int32)) = (q = 23) := propext (nI_eq (b := 23) (by omega) (by omega))
  have last : ∃ Pm1 : Value → MM → Prop, Runs e_X4_release [.ref 1, .int (v_X4_bond x1 (nI q))] x1 Pm1 ∧ ∀ m2, Pm1 .null m2 → (∃ Pm2 : Value → MM → Prop, Runs e_X4_keepWaiting [.ref 1, .int (nI q)] m2 Pm2 ∧ ∀ m3, Pm2 .null m3 → ((nI q = (24 : Int32) → (Value.null = .null ∧ (wI (wI (wI m3 1 14 (nI s)) 1 16 (1 : Int32)) 1 17 (1 : Int32)) = jnX x2 W.length q s)) ∧ (¬ nI q = (24 : Int32) → ((¬ nI q = (23 : Int32) → (Value.null = .null ∧ (wI (wI (wI m3 1 14 (nI s)) 1 16 (1 : Int32)) 1 17 (0 : Int32)) = jnX x2 W.length q s)) ∧ (nI q = (23 : Int32) → (Value.null = .null ∧ (wI (wI (wI m3 1 14 (nI s)) 1 16 (1 : Int32)) 1 17 (1 : Int32)) = jnX x2 W.length q s)))))) := by
    rw [b]
    refine vcall hr ?_
    rintro m rfl
    refine vcall kw ?_
    rintro m' rfl
    rw [c24, c23]
    unfold jnX
    refine ⟨fun z => ?_, fun z => ⟨fun z2 => ?_, fun z2 => ?_⟩⟩
    · rw [if_pos (Or.inr z)]; exact ⟨rfl, rfl⟩
    · rw [if_neg (by omega)]; exact ⟨rfl, rfl⟩
    · rw [if_pos (Or.inl z2)]; exact ⟨rfl, rfl⟩
  apply b_X4_readJoint
  refine bcall t1 (fun _ m e => ?_) (fun _ m e => ?_)
  · subst e; exact last
  · subst e; exact last
theorem jnX_c {n q s rt : Nat} (ht : isT rt) : cdX (jnX x n q s) rt = cdX x rt ∧ (jnX x n q s).1 (rt + 8) 5 = x.1 (rt + 8) 5 := by
  have hc : rt = 10 ∨ rt = 100 := ht
  unfold jnX kwX cdX
  rw [wI_o (by omega), wI_o (by omega), wI_o (by omega), wI_o (by omega), wI_o (by omega), wI_o (by omega), wI_o (by omega), wI_o (by omega), wI_o (by omega), wI_o (by omega)]
  exact ⟨rfl, rfl⟩
theorem jnX_w {W : List Nat} {q s : Nat} (hw : wtX x W) : wtX (jnX x W.length q s) (q :: W) := by
  have := kwX_w hw q
  unfold wtX jnX at *
  rw [wI_k, pk_un (by decide), wI_k, pk_un (by decide), wI_k, pk_un (by decide), wI_o (by decide), wI_o (by decide), wI_o (by decide)]
  exact this
theorem jnX_f {n q s : Nat} : (jnX x n q s).1 1 14 = nI s ∧ (jnX x n q s).1 1 15 = x.1 1 15 ∧ (jnX x n q s).1 1 16 = 1 ∧ (jnX x n q s).1 1 17 = (if q = 23 ∨ q = 24 then 1 else 0) := by
  unfold jnX kwX
  refine ⟨?_, ?_, ?_, ?_⟩
  · rw [wI_k, pk_un (by decide), wI_k, pk_un (by decide), wI_k, pk_us]
  · rw [wI_k, pk_un (by decide), wI_k, pk_un (by decide), wI_k, pk_un (by decide), wI_k, pk_un (by decide), wI_o (by decide)]
  · rw [wI_k, pk_un (by decide), wI_k, pk_us]
  · rw [wI_k, pk_us]
theorem DX.jn {x' : MM} (h : DX x x') {n q s : Nat} : DX x (jnX x' n q s) := ((((h.w4 _ _).w (by omega) _).w (by omega) _).w (by omega) _).w (by omega) _
theorem FE.jn {x' : MM} {t rt : Nat} (h : FE t rt x x') (ht : isT rt) {n q s : Nat} : FE t rt x (jnX x' n q s) := ((((h.w4 ht _ _).w ht (by omega) _).w ht (by omega) _).w ht (by omega) _).w ht (by omega) _
end

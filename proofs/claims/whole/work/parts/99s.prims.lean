/-! reading: the two sides' primitives -/
/-- class's cells of u, model's cells of v -/
def catR (u v : MM) : MM := (fun a => if a < 156 then u.1 a else v.1 a, fun a => if a < 156 then u.2.1 a else v.2.1 a, u.2.2)
theorem cr_1 {u v : MM} {a : Nat} (h : 156 ≤ a) : (catR u v).1 a = v.1 a := if_neg (Nat.not_lt.mpr h)
theorem cr_2 {u v : MM} {a : Nat} (h : 156 ≤ a) : (catR u v).2.1 a = v.2.1 a := if_neg (Nat.not_lt.mpr h)
theorem cr_w {u v : MM} {a : Nat} (h : 156 ≤ a) (j : Nat) (w : Int32) : wI (catR u v) a j w = catR u (wI v a j w) := by
  refine Prod.ext (funext fun b => ?_) rfl
  by_cases c : b = a
  · subst c
    rw [wI_k, cr_1 h, cr_1 h, wI_k]
  · rw [wI_o c]
    by_cases d : b < 156
    · show (if b < 156 then u.1 b else v.1 b) = (if b < 156 then u.1 b else _)
      rw [if_pos d, if_pos d]
    · rw [cr_1 (by omega), cr_1 (by omega), wI_o c]
theorem cr_l {u v : MM} {a : Nat} (h : 156 ≤ a) (j : Nat) (w : Int64) : wLg (catR u v) a j w = catR u (wLg v a j w) := by
  refine Prod.ext rfl (Prod.ext (funext fun b => ?_) rfl)
  show (wLg (catR u v) a j w).2.1 b = (catR u (wLg v a j w)).2.1 b
  by_cases c : b = a
  · subst c
    rw [wL_k, cr_2 h, cr_2 h, wL_k]
  · rw [wL_o c]
    by_cases d : b < 156
    · show (if b < 156 then u.2.1 b else v.2.1 b) = (if b < 156 then u.2.1 b else _)
      rw [if_pos d, if_pos d]
    · rw [cr_2 (by omega), cr_2 (by omega), wL_o c]
/-- where both stand: token a is next, no fault yet; a late fault, if there is one, is the same -/
def LJ (x v : MM) (st : Nat → Nat) (a : Nat) : Prop := (x.1 1 9 = 0 ∧ v.1 156 10 = 0) ∨ ∃ l b : Nat, 0 < l ∧ l ≤ 5 ∧ b < a ∧ x.1 1 9 = nI l ∧ v.1 156 10 = nI l ∧ x.1 1 10 = nI (st b) ∧ v.1 156 11 = nI (st b)
def RC (x v : MM) (M : Nat) (K st : Nat → Nat) (a : Nat) : Prop := TJ x v M K st ∧ a < M ∧ x.1 1 6 = nI a ∧ v.1 156 7 = nI a ∧ x.1 1 7 = 0 ∧ v.1 156 8 = 0 ∧ x.1 1 8 = -1 ∧ v.1 156 9 = -1 ∧ LJ x v st a
/-- both have the same fault -/
def RF (x v : MM) : Prop := ∃ e : Nat, 0 < e ∧ e ≤ 2 ∧ x.1 1 7 = nI e ∧ v.1 156 8 = nI e ∧ x.1 1 8 = v.1 156 9
def FX (x x' : MM) : Prop := x'.2 = x.2 ∧ (∀ r, r ≠ 1 → x'.1 r = x.1 r) ∧ ∀ y, y < 6 ∨ 10 < y → x'.1 1 y = x.1 1 y
def FV (v v' : MM) : Prop := v'.2 = v.2 ∧ (∀ r, r ≠ 156 → v'.1 r = v.1 r) ∧ ∀ y, (y < 7 ∨ 11 < y ∧ y ≠ 29) → v'.1 156 y = v.1 156 y
theorem FX.rf (x : MM) : FX x x := ⟨rfl, fun _ _ => rfl, fun _ _ => rfl⟩
theorem FV.rf (x : MM) : FV x x := ⟨rfl, fun _ _ => rfl, fun _ _ => rfl⟩
theorem FX.tr {a b c : MM} (h : FX a b) (h2 : FX b c) : FX a c := ⟨h2.1.trans h.1, fun r hr => (h2.2.1 r hr).trans (h.2.1 r hr), fun y hy => (h2.2.2 y hy).trans (h.2.2 y hy)⟩
theorem FV.tr {a b c : MM} (h : FV a b) (h2 : FV b c) : FV a c := ⟨h2.1.trans h.1, fun r hr => (h2.2.1 r hr).trans (h.2.1 r hr), fun y hy => (h2.2.2 y hy).trans (h.2.2 y hy)⟩
theorem FX.w {x x' : MM} (h : FX x x') {j : Nat} (hj : 6 ≤ j ∧ j ≤ 10) (w : Int32) : FX x (wI x' 1 j w) := ⟨h.1, fun r hr => by rw [wI_o hr]; exact h.2.1 r hr, fun y hy => by rw [wI_k, pk_un (by omega)]; exact h.2.2 y hy⟩
theorem FV.w {v v' : MM} (h : FV v v') {j : Nat} (hj : 7 ≤ j ∧ j ≤ 11 ∨ j = 29) (w : Int32) : FV v (wI v' 156 j w) := ⟨h.1, fun r hr => by rw [wI_o hr]; exact h.2.1 r hr, fun y hy => by rw [wI_k, pk_un (by omega)]; exact h.2.2 y hy⟩
theorem TJ.fr {x x' v v' : MM} {M : Nat} {K st : Nat → Nat} (h : TJ x v M K st) (h5 : x'.1 5 5 = x.1 5 5) (h7 : x'.1 7 = x.1 7) (h8 : x'.1 8 = x.1 8) (h9 : x'.2.1 9 = x.2.1 9) (g1 : v'.1 158 = v.1 158) (g2 : v'.1 159 = v.1 159) (g3 : v'.1 160 = v.1 160) (g4 : v'.2.1 161 = v.2.1 161) : TJ x' v' M K st := by
  unfold TJ at *
  rw [h5, h7, h8, h9, g1, g2, g3, g4]
  exact h
theorem TJ.f {x x' v v' : MM} {M : Nat} {K st : Nat → Nat} (h : TJ x v M K st) (hx : FX x x') (hv : FV v v') : TJ x' v' M K st :=
  h.fr (by rw [hx.2.1 5 (by decide)]) (hx.2.1 7 (by decide)) (hx.2.1 8 (by decide)) (by rw [hx.1]) (hv.2.1 158 (by decide)) (hv.2.1 159 (by decide)) (hv.2.1 160 (by decide)) (by rw [hv.1])
/-- the model's half holds of any memory with these cells -/
theorem TJ.cat {x v : MM} {M : Nat} {K st : Nat → Nat} (h : TJ x v M K st) (u : MM) : ∀ a, a < M → (catR u v).1 158 a = nI (mS (K a)) ∧ (catR u v).1 159 a = nI (st a) ∧ (K a < 26 → (catR u v).1 160 a = nI (wmN (K a))) ∧ (28 ≤ K a ∧ K a ≤ 39 → (catR u v).1 160 a = nI (smN (K a))) := by
  intro a ha
  rw [cr_1 (by decide), cr_1 (by decide), cr_1 (by decide)]
  exact h.2.1 a ha
/-- the outcome of a take of kind k at a: 0, or the fault -/
def tkE (K : Nat → Nat) (a : Nat) (ok : Bool) : Nat := if ok = false then 1 else if a < 400 then 0 else 2
section
variable {x v : MM} {M a : Nat} {K st : Nat → Nat}
theorem RC.next (h : RC x v M K st a) (hk : K a < 40) (h4 : a < 400) : a + 1 < M := by
  obtain ⟨⟨-, -, ⟨t1, t2, t3⟩, -⟩, ha, -⟩ := h
  rcases t3 with t3 | t3
  · omega
  · rcases Nat.lt_or_ge (a + 1) M with c | c
    · exact c
    · have : M - 1 = a := by omega
      rw [this] at t3; omega
theorem LJ.up {x v : MM} {st : Nat → Nat} {a b : Nat} (h : LJ x v st a) (hab : a ≤ b) : LJ x v st b := by
  rcases h with h | ⟨l, c, h1, h2, h3, h4⟩
  · exact Or.inl h
  · exact Or.inr ⟨l, c, h1, h2, by omega, h4⟩
theorem LJ.fr {x x' v v' : MM} (h : LJ x v st a) (h1 : x'.1 1 9 = x.1 1 9) (h2 : x'.1 1 10 = x.1 1 10) (h3 : v'.1 156 10 = v.1 156 10) (h4 : v'.1 156 11 = v.1 156 11) : LJ x' v' st a := by
  unfold LJ at *
  rw [h1, h2, h3, h4]; exact h
/-- the class stands at token a -/
def RA (x v : MM) (M : Nat) (K st : Nat → Nat) (a : Nat) : Prop := TJ x v M K st ∧ a < M ∧ x.1 1 6 = nI a
theorem RC.ra (h : RC x v M K st a) : RA x v M K st a := ⟨h.1, h.2.1, h.2.2.1⟩
theorem kindA (h : RA x v M K st a) : o_X4_kind x ∧ v_X4_kind x = nI (K a) := by
  obtain ⟨⟨⟨t5, t7⟩, -, ⟨-, m4, -⟩, -⟩, ha, h6⟩ := h
  unfold o_X4_kind v_X4_kind
  rw [h6, t5, nI_clamp (by omega), cite_neg (nI_pos (by omega)), cite_neg (nI_ge ha (by omega)), (t7 a ha).1]
  exact ⟨⟨fun z => absurd z (nI_pos (by omega)), fun _ => ⟨fun z => absurd z (nI_ge ha (by omega)), fun _ => ⟨vp_in_nI (by omega) (by omega), trivial⟩⟩⟩, rfl⟩
theorem startA (h : RA x v M K st a) : o_X4_start x ∧ v_X4_start x = nI (st a) := by
  obtain ⟨⟨⟨t5, t7⟩, -, ⟨-, m4, -⟩, -⟩, ha, h6⟩ := h
  unfold o_X4_start v_X4_start
  rw [h6, t5, nI_clamp (by omega), cite_neg (nI_pos (by omega)), cite_neg (nI_ge ha (by omega)), (t7 a ha).2]
  exact ⟨⟨fun z => absurd z (nI_pos (by omega)), fun _ => ⟨fun z => absurd z (nI_ge ha (by omega)), fun _ => ⟨vp_in_nI (by omega) (by omega), trivial⟩⟩⟩, rfl⟩
theorem valueA (h : RA x v M K st a) : o_X4_value x ∧ v_X4_value x = x.2.1 9 a := by
  obtain ⟨⟨⟨t5, t7⟩, -, ⟨-, m4, -⟩, -⟩, ha, h6⟩ := h
  unfold o_X4_value v_X4_value
  rw [h6, t5, nI_clamp (by omega), cite_neg (nI_pos (by omega)), cite_neg (nI_ge ha (by omega))]
  exact ⟨⟨fun z => absurd z (nI_pos (by omega)), fun _ => ⟨fun z => absurd z (nI_ge ha (by omega)), fun _ => ⟨vp_in_nI (by omega) (by omega), trivial⟩⟩⟩, rfl⟩
/-- the number at a, as both see it -/
theorem intA (h : RA x v M K st a) : o_X4_intValue x ∧ ∃ w : Nat, w ≤ 9999 ∧ v_X4_intValue x = nI w ∧ (K a = 27 → v.1 160 a = nI w) := by
  obtain ⟨o1, e1⟩ := kindA h
  obtain ⟨o2, e2⟩ := valueA h
  have hk41 := (h.1.2.2.2.1 a h.2.1).1
  unfold o_X4_intValue v_X4_intValue
  rw [e1, e2]
  refine ⟨⟨o1, fun _ => trivial, fun _ => ⟨o2, trivial⟩⟩, ?_⟩
  by_cases c : K a = 27
  · obtain ⟨w, w1, w2, w3⟩ := h.1.2.2.2.2.2.2.1 a h.2.1 c
    refine ⟨w, w1, ?_, fun _ => w3⟩
    rw [c, cite_pos (show nI 27 = (27 : Int32) from rfl), w2, lN_i]
  · refine ⟨0, by omega, ?_, fun z => absurd z c⟩
    exact cite_neg (fun z => c ((nI_eq (b := 27) (by omega) (by omega)).mp z))
theorem kindX (h : RC x v M K st a) : o_X4_kind x ∧ v_X4_kind x = nI (K a) := kindA h.ra
theorem startX (h : RC x v M K st a) : o_X4_start x ∧ v_X4_start x = nI (st a) := startA h.ra
theorem valueX (h : RC x v M K st a) : o_X4_value x ∧ v_X4_value x = x.2.1 9 a := valueA h.ra
theorem intX (h : RC x v M K st a) : o_X4_intValue x ∧ ∃ w : Nat, w ≤ 9999 ∧ v_X4_intValue x = nI w ∧ (K a = 27 → v.1 160 a = nI w) := intA h.ra
def flX (x : MM) (e p : Int32) : MM := wI (wI x 1 7 e) 1 8 p
theorem failX (h : RC x v M K st a) (e : Int32) : Runs e_X4_fail [.ref 1, .int e] x (fun r m => r = .null ∧ m = flX x e (nI (st a))) := by
  obtain ⟨⟨⟨t5, t7⟩, -, ⟨-, m4, -⟩, -⟩, ha, h6, -, h7, -⟩ := h
  have e6 : (wI x 1 7 e).1 1 6 = nI a := by rw [wI_k, pk_un (by decide)]; exact h6
  have e5 : (wI x 1 7 e).1 5 5 = nI M := by rw [wI_o (by decide)]; exact t5
  have e8 : (wI x 1 7 e).1 8 a = nI (st a) := by rw [wI_o (by decide)]; exact (t7 a ha).2
  apply b_X4_fail
  rw [h7, e6, e5, nI_clamp (by omega), e8]
  exact ⟨fun z => absurd rfl z, fun _ => ⟨fun z => absurd z (nI_pos (by omega)), fun _ => ⟨fun z => absurd z (nI_ge ha (by omega)), fun _ => ⟨vp_in_nI (by omega) (by omega), rfl, rfl⟩⟩⟩⟩
theorem failX_f {e0 : Nat} (h0 : 0 < e0) (h2 : e0 ≤ 2) (h : x.1 1 7 = nI e0) (e : Int32) : Runs e_X4_fail [.ref 1, .int e] x (fun r m => r = .null ∧ m = x) := by
  apply b_X4_fail
  rw [h]
  exact ⟨fun _ => ⟨rfl, rfl⟩, fun z => absurd z (nI_ne0 h0 (by omega))⟩
theorem takeX (h : RC x v M K st a) (k : Nat) (hk : k ≤ 41) : Runs e_X4_take [.ref 1, .int (nI k)] x (fun r m => r = .int (bI (decide (tkE K a (decide (K a = k)) = 0))) ∧ m = if tkE K a (decide (K a = k)) = 0 then wI x 1 6 (nI (a + 1)) else flX x (nI (tkE K a (decide (K a = k)))) (nI (st a))) := by
  obtain ⟨o1, e1⟩ := kindX h
  have hk41 := (h.1.2.2.2.1 a h.2.1).1
  have h7 := h.2.2.2.2.1
  have h6 := h.2.2.1
  have ha := h.2.1
  have m4 := h.1.2.2.1.2.1
  have f7 : ∀ e : Nat, 0 < e → e ≤ 2 → ¬ (flX x (nI e) (nI (st a))).1 1 7 = 0 := fun e he he2 => by
    unfold flX
    rw [wI_k, pk_un (by decide), wI_k, pk_us]
    exact nI_ne0 he (by omega)
  apply b_X4_take
  rw [h7, e1, h6]
  refine ⟨fun z => absurd rfl z, fun _ => ⟨o1, fun ck => ?_, fun ck => ?_⟩⟩
  · have ck : K a = k := (nI_eq (by omega) (by omega)).mp ck
    refine ⟨fun z => absurd rfl z, fun _ => ⟨fun c4 => ?_, fun c4 => ?_⟩⟩
    · have e0 : tkE K a (decide (K a = k)) = 0 := by
        unfold tkE
        rw [decide_eq_true ck, if_neg (by decide), if_pos ((nI_ltI (b := 400) (by omega) (by omega)).mp c4)]
      rw [e0, nI_1]
      exact ⟨fun _ => ⟨rfl, rfl⟩, fun z => absurd rfl z⟩
    · have e0 : tkE K a (decide (K a = k)) = 2 := by
        unfold tkE
        rw [decide_eq_true ck, if_neg (by decide), if_neg (fun z => c4 (nI_lt (b := 400) z (by omega)))]
      rw [e0]
      refine vcall (failX h 2) ?_
      rintro m rfl
      exact ⟨fun z => absurd z (f7 2 (by omega) (by omega)), fun _ => ⟨rfl, rfl⟩⟩
  · have ck : ¬ K a = k := fun z => ck (congrArg nI z)
    have e0 : tkE K a (decide (K a = k)) = 1 := by
      unfold tkE
      rw [decide_eq_false ck, if_pos rfl]
    rw [e0]
    refine vcall (failX h 1) ?_
    rintro m rfl
    exact ⟨fun _ => ⟨fun z => absurd z (f7 1 (by omega) (by omega)), fun _ => ⟨rfl, rfl⟩⟩, fun z => absurd z (f7 1 (by omega) (by omega))⟩
theorem takeX_f {e0 : Nat} (h0 : 0 < e0) (h2 : e0 ≤ 2) (h : x.1 1 7 = nI e0) (k : Int32) : Runs e_X4_take [.ref 1, .int k] x (fun r m => r = .int 0 ∧ m = x) := by
  apply b_X4_take
  rw [h]
  exact ⟨fun z => ⟨fun _ => ⟨fun y => absurd y z, fun _ => ⟨rfl, rfl⟩⟩, fun y => absurd y z⟩, fun z => absurd z (nI_ne0 h0 (by omega))⟩
/-! the model's -/
def wrM (y : MM) (e p : Int32) : MM := wI (wI y 156 8 e) 156 9 p
theorem wrongM (h : RC x v M K st a) (u : MM) (e : Int32) : Runs e_X12_wrong [.ref 156, .int e] (catR u v) (fun r m => r = .int (bI false) ∧ m = catR u (wrM v e (nI (st a)))) := by
  have m4 := h.1.2.2.1.2.1
  have ha := h.2.1
  have e7 : (wI (catR u v) 156 8 e).1 156 7 = nI a := by rw [wI_k, pk_un (by decide), cr_1 (by decide)]; exact h.2.2.2.1
  have e9 : (wI (catR u v) 156 8 e).1 159 a = nI (st a) := by rw [wI_o (by decide), cr_1 (by decide)]; exact (h.1.2.1 a ha).2.1
  apply b_X12_wrong
  rw [e7, nI_clamp (by omega), e9, cr_w (by decide), cr_w (by decide)]
  exact ⟨vp_in_nI (by omega) (by omega), rfl, rfl⟩
theorem passM (h : RC x v M K st a) (u : MM) : Runs e_X12_pass [.ref 156] (catR u v) (fun r m => r = .int (bI (decide (a < 400))) ∧ m = catR u (if a < 400 then wI v 156 7 (nI (a + 1)) else wrM v 2 (nI (st a)))) := by
  have m4 := h.1.2.2.1.2.1
  have ha := h.2.1
  have e7 : (catR u v).1 156 7 = nI a := by rw [cr_1 (by decide)]; exact h.2.2.2.1
  apply b_X12_pass
  rw [e7]
  by_cases c : a < 400
  · rw [decide_eq_true c, if_pos c, nI_1, cr_w (by decide)]
    exact ⟨fun _ => ⟨rfl, rfl⟩, fun z => absurd (nI_lt (b := 400) c (by omega)) z⟩
  · rw [decide_eq_false c, if_neg c]
    exact ⟨fun z => absurd z (nI_nlt (a := a) (b := 400) (by omega) (by omega)), fun _ => bcall (wrongM h u 2) (fun z => by cases z) fun _ m e => ⟨rfl, e⟩⟩
theorem takesM (h : RC x v M K st a) (u : MM) (s : Nat) (hs : s ≤ 5) : Runs e_X12_takes [.ref 156, .int (nI s)] (catR u v) (fun r m => r = .int (bI (decide (tkE K a (decide (mS (K a) = s)) = 0))) ∧ m = catR u (if tkE K a (decide (mS (K a) = s)) = 0 then wI v 156 7 (nI (a + 1)) else wrM v (nI (tkE K a (decide (mS (K a) = s)))) (nI (st a)))) := by
  have m4 := h.1.2.2.1.2.1
  have ha := h.2.1
  have e7 : (catR u v).1 156 7 = nI a := by rw [cr_1 (by decide)]; exact h.2.2.2.1
  have hm : mS (K a) ≤ 5 := by unfold mS; repeat' split
                               all_goals omega
  apply b_X12_takes
  rw [e7, nI_clamp (by omega), (h.1.cat u a ha).1]
  refine ⟨vp_in_nI (by omega) (by omega), fun c => ?_, fun c => ?_⟩
  · have c : ¬ mS (K a) = s := fun z => c (congrArg nI z)
    have e0 : tkE K a (decide (mS (K a) = s)) = 1 := by
      unfold tkE
      rw [decide_eq_false c, if_pos rfl]
    rw [e0]
    exact bcall (wrongM h u 1) (fun z => by cases z) fun _ m e => ⟨rfl, e⟩
  · have c : mS (K a) = s := (nI_eq (by omega) (by omega)).mp c
    by_cases c4 : a < 400
    · have e0 : tkE K a (decide (mS (K a) = s)) = 0 := by
        unfold tkE
        rw [decide_eq_true c, if_neg (by decide), if_pos c4]
      rw [e0]
      have := passM h u
      rw [decide_eq_true c4, if_pos c4] at this
      exact bcall this (fun _ m e => ⟨rfl, e⟩) fun z => by cases z
    · have e0 : tkE K a (decide (mS (K a) = s)) = 2 := by
        unfold tkE
        rw [decide_eq_true c, if_neg (by decide), if_neg c4]
      rw [e0]
      have := passM h u
      rw [decide_eq_false c4, if_neg c4] at this
      exact bcall this (fun z => by cases z) fun _ m e => ⟨rfl, e⟩
theorem k_int : ∀ k : Nat, k < 42 → (mS k = 1 ↔ k = 27) ∧ (mS k = 0 ↔ k = 26) ∧ (mS k = 4 ↔ k = 40) ∧ (mS k = 3 ↔ k < 26) ∧ (mS k = 2 ↔ (28 ≤ k ∧ k ≤ 39)) := by decide
theorem k_word : ∀ k : Nat, k < 26 → ∀ j : Nat, j < 26 → (wmN k = wmN j ↔ k = j) := by decide
theorem k_sign : ∀ k : Nat, k < 40 → 28 ≤ k → ∀ j : Nat, j < 40 → 28 ≤ j → (smN k = smN j ↔ k = j) := by decide
theorem signM (h : RC x v M K st a) (u : MM) {k : Nat} (hk : 28 ≤ k ∧ k ≤ 39) : o_X12_isSign (catR u v) (nI (smN k)) ∧ (p_X12_isSign (catR u v) (nI (smN k)) ↔ K a = k) := by
  have m4 := h.1.2.2.1.2.1
  have ha := h.2.1
  have hk41 := (h.1.2.2.2.1 a ha).1
  have e7 : (catR u v).1 156 7 = nI a := by rw [cr_1 (by decide)]; exact h.2.2.2.1
  obtain ⟨c1, c2, c3, c4⟩ := h.1.cat u a ha
  obtain ⟨-, -, -, -, i2⟩ := k_int (K a) (by omega)
  have hm : mS (K a) ≤ 5 := by unfold mS; repeat' split
                               all_goals omega
  have hsm : ∀ k : Nat, k < 40 → smN k < 400 := by decide
  have vi : vp_in (nI a) 2001 := vp_in_nI (by omega) (by omega)
  unfold o_X12_isSign p_X12_isSign
  rw [e7, nI_clamp (by omega), c1, show (2 : Int32) = nI 2 from rfl, nI_eq (by omega) (by omega)]
  refine ⟨⟨vi, fun _ => trivial, fun _ => ⟨vi, fun _ => trivial, fun _ => trivial⟩⟩, ?_⟩
  constructor
  · rintro ⟨z1, z2⟩
    have z1 := i2.mp z1
    rw [c4 z1] at z2
    have z2 := (nI_eq (by have := hsm (K a) (by omega); omega) (by have := hsm k (by omega); omega)).mp z2
    exact (k_sign (K a) (by omega) z1.1 k (by omega) hk.1).mp z2
  · intro z
    have : 28 ≤ K a ∧ K a ≤ 39 := by omega
    exact ⟨i2.mpr this, by rw [c4 this, z]⟩
theorem wordM (h : RC x v M K st a) (u : MM) {k : Nat} (hk : k < 26) : o_X12_isWord (catR u v) (nI (wmN k)) ∧ (p_X12_isWord (catR u v) (nI (wmN k)) ↔ K a = k) := by
  have m4 := h.1.2.2.1.2.1
  have ha := h.2.1
  have hk41 := (h.1.2.2.2.1 a ha).1
  have e7 : (catR u v).1 156 7 = nI a := by rw [cr_1 (by decide)]; exact h.2.2.2.1
  obtain ⟨c1, c2, c3, c4⟩ := h.1.cat u a ha
  obtain ⟨-, -, -, i2, -⟩ := k_int (K a) (by omega)
  have hm : mS (K a) ≤ 5 := by unfold mS; repeat' split
                               all_goals omega
  have hsm : ∀ k : Nat, k < 26 → wmN k < 400 := by decide
  have vi : vp_in (nI a) 2001 := vp_in_nI (by omega) (by omega)
  unfold o_X12_isWord p_X12_isWord
  rw [e7, nI_clamp (by omega), c1, show (3 : Int32) = nI 3 from rfl, nI_eq (by omega) (by omega)]
  refine ⟨⟨vi, fun _ => trivial, fun _ => ⟨vi, fun _ => trivial, fun _ => trivial⟩⟩, ?_⟩
  constructor
  · rintro ⟨z1, z2⟩
    have z1 := i2.mp z1
    rw [c3 z1] at z2
    have z2 := (nI_eq (by have := hsm (K a) (by omega); omega) (by have := hsm k (by omega); omega)).mp z2
    exact (k_word (K a) z1 k hk).mp z2
  · intro z
    have : K a < 26 := by omega
    exact ⟨i2.mpr this, by rw [c3 this, z]⟩
/-- a take that both do, and what then holds -/
theorem RC.step (h : RC x v M K st a) (hk : K a < 40) (h4 : a < 400) : RC (wI x 1 6 (nI (a + 1))) (wI v 156 7 (nI (a + 1))) M K st (a + 1) := by
  have hn := h.next hk h4
  obtain ⟨t, ha, h6, g7, h7, g8, h8, g9, hl⟩ := h
  refine ⟨t.f ((FX.rf x).w (by omega) _) ((FV.rf v).w (by omega) _), hn, by rw [wI_k, pk_us], by rw [wI_k, pk_us], by rw [wI_k, pk_un (by decide)]; exact h7, by rw [wI_k, pk_un (by decide)]; exact g8, by rw [wI_k, pk_un (by decide)]; exact h8, by rw [wI_k, pk_un (by decide)]; exact g9, (hl.up (by omega)).fr (by rw [wI_k, pk_un (by decide)]) (by rw [wI_k, pk_un (by decide)]) (by rw [wI_k, pk_un (by decide)]) (by rw [wI_k, pk_un (by decide)])⟩
theorem RF.of (x v : MM) {e : Nat} (h0 : 0 < e) (h2 : e ≤ 2) (p : Int32) : RF (flX x (nI e) p) (wrM v (nI e) p) := by
  unfold flX wrM
  exact ⟨e, h0, h2, by rw [wI_k, pk_un (by decide), wI_k, pk_us], by rw [wI_k, pk_un (by decide), wI_k, pk_us], by rw [wI_k, pk_us, wI_k, pk_us]⟩
theorem FX.fl (x : MM) (e p : Int32) : FX x (flX x e p) := ((FX.rf x).w (by omega) _).w (by omega) _
theorem FV.wr (v : MM) (e p : Int32) : FV v (wrM v e p) := ((FV.rf v).w (by omega) _).w (by omega) _
theorem tkE_0 {ok : Bool} : tkE K a ok = 0 ↔ (ok = true ∧ a < 400) := by
  unfold tkE
  cases ok
  · rw [if_pos rfl]; simp
  · rw [if_neg (by decide)]
    by_cases c : a < 400
    · rw [if_pos c]; simp [c]
    · rw [if_neg c]; simp [c]
theorem tkE_n {ok : Bool} (h : ¬ tkE K a ok = 0) : 0 < tkE K a ok ∧ tkE K a ok ≤ 2 := by
  unfold tkE at *
  repeat' split at h
  all_goals (repeat' split)
  all_goals omega
end

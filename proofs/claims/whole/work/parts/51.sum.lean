/-! the model's numbers: a segment of code as a run over a list -/
def dp (op : Nat → Int32) (fr : Nat) : Nat → Nat
  | 0 => 0
  | n + 1 => if op (fr + n) < 2 then dp op fr n + 1 else dp op fr n - 1
def ar (o x y : Int32) : Int32 := if o = 2 then x + y else if o = 3 then x - y else if o = 4 then x * y else x / y
def ms (op va vs : Nat → Int32) (k : Nat) (S : List Int32) : Option (List Int32) :=
  if op k = 0 then some (va k :: S) else if op k = 1 then some (vs (va k).toNatClampNeg :: S) else
  match S with
  | y :: x :: T => if op k = 5 ∧ y = 0 then none else some (ar (op k) x y :: T)
  | _ => none
def mr (op va vs : Nat → Int32) (fr : Nat) : Nat → Option (List Int32)
  | 0 => some []
  | n + 1 => (mr op va vs fr n).bind (ms op va vs (fr + n))
def SegI (op va : Nat → Int32) (fr n : Nat) : Prop := ∀ i, i < n → ∃ o : Nat, o ≤ 5 ∧ op (fr + i) = nI o ∧ (o = 1 → ∃ j : Nat, j < 9 ∧ va (fr + i) = nI j) ∧ (2 ≤ o → 2 ≤ dp op fr i)
def SegOK (op va : Nat → Int32) (fr n : Nat) : Prop := SegI op va fr n ∧ dp op fr n = 1
theorem dp_le (op : Nat → Int32) (fr : Nat) : ∀ n, dp op fr n ≤ n
  | 0 => Nat.le_refl _
  | n + 1 => by
    have h := dp_le op fr n
    unfold dp
    split <;> omega
theorem mr_none {op va vs : Nat → Int32} {fr : Nat} : ∀ {n k : Nat}, mr op va vs fr k = none → k ≤ n → mr op va vs fr n = none
  | 0, k, h, hk => by
    have e : k = 0 := by omega
    subst e; exact h
  | n + 1, k, h, hk => by
    by_cases e : k = n + 1
    · subst e; exact h
    · have h1 := mr_none (n := n) h (by omega)
      unfold mr
      rw [h1]; rfl
def stk (f : Nat → Int32) : List Int32 → Prop
  | [] => True
  | x :: S => f S.length = x ∧ stk f S
theorem stk_upd {f : Nat → Int32} {v : Int32} : ∀ {S : List Int32} {j : Nat}, stk f S → S.length ≤ j → stk (upd f j v) S
  | [], _, _, _ => trivial
  | x :: S, j, h, hj => by
    have hj' : S.length + 1 ≤ j := hj
    refine ⟨?_, stk_upd h.2 (by omega)⟩
    rw [pk_un (by omega)]; exact h.1
theorem stk_push {f : Nat → Int32} {v : Int32} {S : List Int32} (h : stk f S) : stk (upd f S.length v) (v :: S) := ⟨pk_us, stk_upd h (Nat.le_refl _)⟩
theorem mr_len {op va vs : Nat → Int32} {fr N : Nat} (h : SegI op va fr N) : ∀ {n : Nat} {S : List Int32}, n ≤ N → mr op va vs fr n = some S → S.length = dp op fr n
  | 0, S, _, hS => by
    have : S = [] := (Option.some.inj hS).symm
    subst this; rfl
  | n + 1, S, hn, hS => by
    obtain ⟨o, ho, eo, h1, h2⟩ := h n (by omega)
    unfold mr at hS
    cases hT : mr op va vs fr n with
    | none => rw [hT] at hS; cases hS
    | some T =>
      rw [hT] at hS
      have ih := mr_len h (n := n) (S := T) (by omega) hT
      change ms op va vs (fr + n) T = some S at hS
      unfold ms at hS
      unfold dp
      rw [eo] at hS ⊢
      have ho' : o = 0 ∨ o = 1 ∨ 2 ≤ o := by omega
      rcases ho' with rfl | rfl | h3
      · rw [if_pos (show nI 0 = 0 from rfl)] at hS
        cases hS
        rw [if_pos (by decide)]
        simp [ih]
      · rw [if_neg (show ¬ nI 1 = 0 by decide), if_pos (show nI 1 = 1 from rfl)] at hS
        cases hS
        rw [if_pos (by decide)]
        simp [ih]
      · have h4 := h2 h3
        rw [if_neg (show ¬ nI o = 0 from fun e => by have := (nI_eq (a := o) (b := 0) (by omega) (by omega)).mp e; omega), if_neg (show ¬ nI o = 1 from fun e => by have := (nI_eq (a := o) (b := 1) (by omega) (by omega)).mp e; omega)] at hS
        rw [if_neg (show ¬ nI o < 2 from nI_nlt (a := o) (b := 2) h3 (by omega))]
        match T, ih, hS with
        | [], ih, hS => simp at ih; omega
        | [x], ih, hS => simp at ih; omega
        | y :: x :: T', ih, hS =>
          simp only at hS
          split at hS
          · cases hS
          · cases hS
            simp at ih ⊢
            omega
/-- what a segment says: 0 where it divides by 0 -/
def sv (r : Option (List Int32)) : Int32 := match r with
  | some (v :: _) => v
  | _ => 0
/-- what is asked of -/
def As (m : MM) (a : Nat → Int32) : Prop := ∀ j, j < 9 → m.1 179 j = a j
theorem As.o {m : MM} {a : Nat → Int32} (h : As m a) {k j : Nat} {v : Int32} (hk : k ≠ 179) : As (wI m k j v) a := fun i hi => by rw [wI_o (Ne.symm hk)]; exact h i hi
theorem sum_ok {mm : MM} {fr n : Nat} {a : Nat → Int32} (hs : SegOK (mm.1 165) (mm.1 166) fr n) (h1 : fr + n ≤ 1000) (h5 : n ≤ 500) (m : MM) (hm : Kq mm m) (ha : As m a) :
    Runs e_X12_sum [.ref 156, .int (nI fr), .int (nI (fr + n))] m (fun r m' => r = .int (sv (mr (mm.1 165) (mm.1 166) a fr n)) ∧ Kq mm m' ∧ As m' a ∧ m'.1 156 35 = bI (mr (mm.1 165) (mm.1 166) a fr n).isNone) := by
  apply b_X12_sum
  refine for_up (fun k => [(0, .ref 156), (2, .int (nI (fr + n))), (3, .int (nI (dp (mm.1 165) fr k))), (4, .int (nI (fr + k)))]) (fun k m => Kq mm m ∧ As m a ∧ m.1 156 35 = 0 ∧ ∃ S, mr (mm.1 165) (mm.1 166) a fr k = some S ∧ stk (m.1 180) S) n ?_ ?_ 0 _ (Nat.zero_le _) ⟨hm.w _ rfl, ha.o (by decide), by rw [wI_k, pk_us], [], rfl, trivial⟩
  · rintro m ⟨k1, k2, k3, S, k4, k5⟩
    apply b_X12_sum_10
    simp (disch := omega) only [lin, nI_add, pk_mul, s_sub, s_addneg, s_leT, s_leF, s_ltT, s_ltF, s_eqF, s_inT, s_neF, s_neF', s_neE, s_nleT, s_nleF, s_nltF, s_nltT, eq_self, nI_clamp, s_wIk, s_wIo, pk_us, pk_un, Nat.reduceAdd, Nat.reduceMul, Nat.reduceSub, Nat.zero_add, Nat.add_zero, Nat.mul_zero, true_implies, false_implies, implies_true, not_true, not_false, and_true, true_and, not_true_eq_false, not_false_eq_true, forall_const]
    refine ⟨?_, k1, k2, ?_⟩
    · have hl := mr_len hs.1 (Nat.le_refl n) k4
      rw [hs.2] at hl
      match S, hl, k4, k5 with
      | [v], _, k4, k5 =>
        rw [k4]
        exact congrArg Value.int k5.1
    · rw [k3, k4]; rfl
  · rintro k m hk ⟨k1, k2, k3, S, k4, k5⟩ hn
    obtain ⟨o, ho, eo, e1, e2⟩ := hs.1 k hk
    have hl := mr_len hs.1 (Nat.le_of_lt hk) k4
    have hd := dp_le (mm.1 165) fr k
    have em : mr (mm.1 165) (mm.1 166) a fr (k + 1) = ms (mm.1 165) (mm.1 166) a (fr + k) S := by
      show (mr (mm.1 165) (mm.1 166) a fr k).bind _ = _
      rw [k4]; rfl
    have ed : dp (mm.1 165) fr (k + 1) = if nI o < 2 then dp (mm.1 165) fr k + 1 else dp (mm.1 165) fr k - 1 := by rw [← eo]; rfl
    unfold ms at em
    rw [eo] at em
    rw [ed, ← hl] at hn
    rw [← hl]
    apply b_X12_sum_10
    rw [k1.r165, k1.r166]
    have ho' : o = 0 ∨ o = 1 ∨ o = 2 ∨ o = 3 ∨ o = 4 ∨ o = 5 := by omega
    rcases ho' with rfl | rfl | rfl | rfl | rfl | rfl
    · rw [if_pos (show nI 0 = 0 from rfl)] at em
      rw [if_pos (by decide)] at hn
      simp (disch := omega) only [lin, nI_add, pk_mul, s_sub, s_addneg, s_leT, s_leF, s_ltT, s_ltF, s_eqF, s_inT, s_neF, s_neF', s_neE, s_nleT, s_nleF, s_nltF, s_nltT, eq_self, nI_clamp, s_wIk, s_wIo, pk_us, pk_un, Nat.reduceAdd, Nat.reduceMul, Nat.reduceSub, Nat.zero_add, Nat.add_zero, Nat.mul_zero, true_implies, false_implies, implies_true, not_true, not_false, and_true, true_and, not_true_eq_false, not_false_eq_true, forall_const, eo]
      exact hn _ ⟨k1.w _ rfl, k2.o (by decide), by rw [wI_o (by decide)]; exact k3, _, em, by rw [wI_k]; exact stk_push k5⟩
    · obtain ⟨j, hj, ej⟩ := e1 rfl
      rw [if_neg (show ¬ nI 1 = 0 by decide), if_pos (show nI 1 = 1 from rfl), ej, nI_clamp (by omega)] at em
      rw [if_pos (by decide)] at hn
      have ea := k2 j hj
      simp (disch := omega) only [lin, nI_add, pk_mul, s_sub, s_addneg, s_leT, s_leF, s_ltT, s_ltF, s_eqF, s_inT, s_neF, s_neF', s_neE, s_nleT, s_nleF, s_nltF, s_nltT, eq_self, nI_clamp, s_wIk, s_wIo, pk_us, pk_un, Nat.reduceAdd, Nat.reduceMul, Nat.reduceSub, Nat.zero_add, Nat.add_zero, Nat.mul_zero, true_implies, false_implies, implies_true, not_true, not_false, and_true, true_and, not_true_eq_false, not_false_eq_true, forall_const, eo, ej, ea]
      exact hn _ ⟨k1.w _ rfl, k2.o (by decide), by rw [wI_o (by decide)]; exact k3, _, em, by rw [wI_k]; exact stk_push k5⟩
    all_goals
      have h2 := e2 (by omega)
      rw [← hl] at h2
      match S, h2, k4, k5, em, hn, hl with
      | y :: x :: T, h2, k4, ⟨y1, x1, T1⟩, em, hn, hl =>
        have hT : T.length + 2 ≤ k := by have : (y :: x :: T).length = T.length + 2 := rfl; omega
        have y2 : m.1 180 (T.length + 2 - 1) = y := y1
        have x2 : m.1 180 (T.length + 2 - 2) = x := x1
        have hlen : (y :: x :: T).length = T.length + 2 := rfl
        simp (config := { decide := true }) only [if_true, if_false, ar, and_false, false_and, true_and] at em
        rw [if_neg (by decide), hlen] at hn
        simp only [hlen]
        by_cases hy : y = 0
        · subst hy
          try simp only [if_true] at em
          simp (disch := omega) only [lin, nI_add, pk_mul, s_sub, s_addneg, s_leT, s_leF, s_ltT, s_ltF, s_eqF, s_inT, s_neF, s_neF', s_neE, s_nleT, s_nleF, s_nltF, s_nltT, eq_self, nI_clamp, s_wIk, s_wIo, pk_us, pk_un, Nat.reduceAdd, Nat.reduceMul, Nat.reduceSub, Nat.zero_add, Nat.add_zero, Nat.mul_zero, true_implies, false_implies, implies_true, not_true, not_false, and_true, true_and, not_true_eq_false, not_false_eq_true, forall_const, eo, y2, x2, em]
          first
          | exact hn _ ⟨k1.w _ rfl, k2.o (by decide), by rw [wI_o (by decide)]; exact k3, _, em, by rw [wI_k]; exact stk_push T1⟩
          | exact ⟨by rw [mr_none em (by omega)]; rfl, k1.w _ rfl, k2.o (by decide), by rw [mr_none em (by omega)]; rfl⟩
        · try simp only [hy, if_false] at em
          have hy' : ¬ y = nI 0 := hy
          simp (disch := omega) only [lin, nI_add, pk_mul, s_sub, s_addneg, s_leT, s_leF, s_ltT, s_ltF, s_eqF, s_inT, s_neF, s_neF', s_neE, s_nleT, s_nleF, s_nltF, s_nltT, eq_self, nI_clamp, s_wIk, s_wIo, pk_us, pk_un, Nat.reduceAdd, Nat.reduceMul, Nat.reduceSub, Nat.zero_add, Nat.add_zero, Nat.mul_zero, true_implies, false_implies, implies_true, not_true, not_false, and_true, true_and, not_true_eq_false, not_false_eq_true, forall_const, eo, y2, x2, hy']
          exact hn _ ⟨k1.w _ rfl, k2.o (by decide), by rw [wI_o (by decide)]; exact k3, _, em, by rw [wI_k]; exact stk_push T1⟩

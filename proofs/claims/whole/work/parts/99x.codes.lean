/-! reading: a formula's two codes, as they grow -/
theorem cr_cong {cd cd' cv : Nat → Int32} {st : Nat} : ∀ {n : Nat}, (∀ i, i < n → cd' (st + i) = cd (st + i)) → cr cd' cv st n = cr cd cv st n
  | 0, _ => rfl
  | n + 1, h => by
    unfold cr
    rw [cr_cong (n := n) fun i hi => h i (by omega)]
    have e : cs cd' cv (st + n) = cs cd cv (st + n) := by
      funext S b
      unfold cs
      rw [h n (by omega)]
    rw [e]
theorem dp_cong {op op' : Nat → Int32} {fr : Nat} : ∀ {n : Nat}, (∀ i, i < n → op' (fr + i) = op (fr + i)) → dp op' fr n = dp op fr n
  | 0, _ => rfl
  | n + 1, h => by
    unfold dp
    rw [dp_cong (n := n) fun i hi => h i (by omega), h n (by omega)]
theorem mr_cong {op op' va va' vs : Nat → Int32} {fr : Nat} : ∀ {n : Nat}, (∀ i, i < n → op' (fr + i) = op (fr + i) ∧ va' (fr + i) = va (fr + i)) → mr op' va' vs fr n = mr op va vs fr n
  | 0, _ => rfl
  | n + 1, h => by
    unfold mr
    rw [mr_cong (n := n) fun i hi => h i (by omega)]
    have e : ms op' va' vs (fr + n) = ms op va vs (fr + n) := by
      funext S
      unfold ms
      rw [(h n (by omega)).1, (h n (by omega)).2]
    rw [e]
theorem SegI.cong {op op' va va' : Nat → Int32} {fr n : Nat} (h : SegI op va fr n) (e : ∀ i, i < n → op' (fr + i) = op (fr + i) ∧ va' (fr + i) = va (fr + i)) : SegI op' va' fr n := by
  intro i hi
  obtain ⟨o, h1, h2, h3, h4⟩ := h i hi
  refine ⟨o, h1, by rw [(e i hi).1]; exact h2, fun z => by rw [(e i hi).2]; exact h3 z, fun z => ?_⟩
  rw [dp_cong fun j hj => (e j (by omega)).1]
  exact h4 z
theorem SegOK.cong {op op' va va' : Nat → Int32} {fr n : Nat} (h : SegOK op va fr n) (e : ∀ i, i < n → op' (fr + i) = op (fr + i) ∧ va' (fr + i) = va (fr + i)) : SegOK op' va' fr n :=
  ⟨h.1.cong e, by rw [dp_cong fun j hj => (e j hj).1]; exact h.2⟩
theorem Coded.cong {cd cd' : Nat → Int32} {st n : Nat} (h : Coded cd st n) (e : ∀ i, i < n → cd' (st + i) = cd (st + i)) : Coded cd' st n := fun i hi => by rw [e i hi]; exact h i hi
theorem Coded.num {cd : Nat → Int32} {st n w : Nat} (h : Coded cd st n) (hw : w < 2 ^ 30) (e : cd (st + n) = nI w) : Coded cd st (n + 1) := fun i hi => by
  rcases Nat.lt_or_eq_of_le (Nat.le_of_lt_succ hi) with z | z
  · exact h i z
  · subst z; exact Or.inl ⟨w, hw, e⟩
theorem Coded.sign {cd : Nat → Int32} {st n q : Nat} (h : Coded cd st n) (hq : q < 40) (h28 : q ≠ 28) (e : cd (st + n) = -1 - nI q) : Coded cd st (n + 1) := fun i hi => by
  rcases Nat.lt_or_eq_of_le (Nat.le_of_lt_succ hi) with z | z
  · exact h i z
  · subst z; exact Or.inr ⟨q, by omega, h28, e⟩
/-- the class's run from k0 to k beside the model's segment fr, n -/
def AV (cd op va : Nat → Int32) (st k0 k fr n : Nat) : Prop := ∀ vs, ∃ S0 b0 S' b', cr cd (cvOf vs) st k0 = some (S0, b0) ∧ S0.length ≤ 3 ∧ cr cd (cvOf vs) st k = some (S' ++ S0, b') ∧ S'.length = dp op fr n ∧
  (∀ S, mr op va vs fr n = some S → S' = S ∧ b' = b0) ∧ (mr op va vs fr n = none → b' = true)
theorem AV.cong {cd cd' op op' va va' : Nat → Int32} {st k0 k fr n : Nat} (h : AV cd op va st k0 k fr n) (hk : k0 ≤ k) (e1 : ∀ i, i < k → cd' (st + i) = cd (st + i)) (e2 : ∀ i, i < n → op' (fr + i) = op (fr + i) ∧ va' (fr + i) = va (fr + i)) : AV cd' op' va' st k0 k fr n := by
  intro vs
  rw [cr_cong (n := k0) fun i hi => e1 i (by omega), cr_cong e1, dp_cong fun i hi => (e2 i hi).1, mr_cong e2]
  exact h vs
theorem AV.start {cd op va : Nat → Int32} {st k fr : Nat} (h : ∀ vs, ∃ S0 b0, cr cd (cvOf vs) st k = some (S0, b0) ∧ S0.length ≤ 3) : AV cd op va st k k fr 0 := by
  intro vs
  obtain ⟨S0, b0, h1, h2⟩ := h vs
  refine ⟨S0, b0, [], b0, h1, h2, h1, rfl, fun S hS => ?_, fun z => by cases z⟩
  have : S = [] := (Option.some.inj hS).symm
  exact ⟨this.symm, rfl⟩
theorem dp_up {op : Nat → Int32} {fr n : Nat} (h : op (fr + n) < 2) : dp op fr (n + 1) = dp op fr n + 1 := if_pos h
theorem dp_dn {op : Nat → Int32} {fr n : Nat} (h : ¬ op (fr + n) < 2) : dp op fr (n + 1) = dp op fr n - 1 := if_neg h
theorem AV.push {cd op va : Nat → Int32} {st k0 k fr n : Nat} (h : AV cd op va st k0 k fr n) (hd : dp op fr n ≤ 28) (ho : op (fr + n) < 2) (X : (Nat → Int32) → Int32) (hX : ∀ vs S b, S.length < 32 → cs cd (cvOf vs) (st + k) S b = some (X vs :: S, b)) (hM : ∀ vs S, ms op va vs (fr + n) S = some (X vs :: S)) : AV cd op va st k0 (k + 1) fr (n + 1) := by
  intro vs
  obtain ⟨S0, b0, S', b', h1, h2, h3, h4, h5, h6⟩ := h vs
  refine ⟨S0, b0, X vs :: S', b', h1, h2, ?_, ?_, fun S hS => ?_, fun z => ?_⟩
  · unfold cr
    rw [h3]
    exact hX vs _ _ (by rw [List.length_append]; omega)
  · rw [dp_up ho, List.length_cons, h4]
  · unfold mr at hS
    cases hT : mr op va vs fr n with
    | none => rw [hT] at hS; cases hS
    | some T =>
      rw [hT] at hS
      change ms op va vs (fr + n) T = some S at hS
      rw [hM] at hS
      obtain ⟨t1, t2⟩ := h5 T hT
      exact ⟨by rw [t1]; exact Option.some.inj hS, t2⟩
  · unfold mr at z
    cases hT : mr op va vs fr n with
    | none => exact h6 hT
    | some T =>
      rw [hT] at z
      change ms op va vs (fr + n) T = none at z
      rw [hM] at z
      cases z
theorem AV.num {cd op va : Nat → Int32} {st k0 k fr n w : Nat} (h : AV cd op va st k0 k fr n) (hd : dp op fr n ≤ 28) (hw : w < 2 ^ 30) (e1 : cd (st + k) = nI w) (e2 : op (fr + n) = 0) (e3 : va (fr + n) = nI w) : AV cd op va st k0 (k + 1) fr (n + 1) := by
  refine h.push hd (by rw [e2]; decide) (fun _ => nI w) (fun vs S b hS => ?_) fun vs S => ?_
  · rw [cs_num hw e1, if_pos hS]
  · unfold ms
    rw [e2, if_pos rfl, e3]
theorem var_ok : ∀ q, q < 21 → 12 ≤ q → wmN q = 13 + (q - 12 + 8) % 9 := by decide
theorem AV.var {cd op va : Nat → Int32} {st k0 k fr n q : Nat} (h : AV cd op va st k0 k fr n) (hd : dp op fr n ≤ 28) (hq : 12 ≤ q ∧ q ≤ 20) (e1 : cd (st + k) = -1 - nI q) (e2 : op (fr + n) = 1) (e3 : va (fr + n) = nI ((q - 12 + 8) % 9)) : AV cd op va st k0 (k + 1) fr (n + 1) := by
  refine h.push hd (by rw [e2]; decide) (fun vs => vs ((q - 12 + 8) % 9)) (fun vs S b hS => ?_) fun vs S => ?_
  · rw [cs_sign (q := q) (by omega) e1]
    unfold csq
    rw [if_pos hq, if_pos hS]
    rfl
  · unfold ms
    rw [e2, if_neg (by decide), if_pos rfl, e3, nI_clamp (by omega)]
theorem ar_eq : ∀ q : Nat, 30 ≤ q → q ≤ 33 → ∀ x y, arC (nI q) x y = ar (nI (q - 28)) x y := by
  intro q h1 h2 x y
  have : q = 30 ∨ q = 31 ∨ q = 32 ∨ q = 33 := by omega
  rcases this with rfl | rfl | rfl | rfl <;> rfl
theorem two_of {S : List Int32} (h : 2 ≤ S.length) : ∃ y x T, S = y :: x :: T := by
  match S, h with
  | y :: x :: T, _ => exact ⟨y, x, T, rfl⟩
theorem AV.op {cd op va : Nat → Int32} {st k0 k fr n q : Nat} (h : AV cd op va st k0 k fr n) (hd : 2 ≤ dp op fr n) (hq : 30 ≤ q ∧ q ≤ 33) (e1 : cd (st + k) = -1 - nI q) (e2 : op (fr + n) = nI (q - 28)) : AV cd op va st k0 (k + 1) fr (n + 1) := by
  intro vs
  obtain ⟨S0, b0, S', b', h1, h2, h3, h4, h5, h6⟩ := h vs
  obtain ⟨y, x, T, hS⟩ := two_of (S := S') (by omega)
  subst hS
  have hnl : ¬ op (fr + n) < 2 := by rw [e2]; exact nI_nlt (a := q - 28) (b := 2) (by omega) (by omega)
  have hn0 : ¬ op (fr + n) = 0 := by rw [e2]; exact nI_ne0 (by omega) (by omega)
  have hn1 : ¬ op (fr + n) = 1 := by
    rw [e2, show (1 : Int32) = nI 1 from rfl, nI_eq (by omega) (by omega)]; omega
  have h5q : op (fr + n) = 5 ↔ q = 33 := by
    rw [e2, show (5 : Int32) = nI 5 from rfl, nI_eq (by omega) (by omega)]; omega
  have hms : ms op va vs (fr + n) (y :: x :: T) = if q = 33 ∧ y = 0 then none else some (ar (nI (q - 28)) x y :: T) := by
    unfold ms
    rw [if_neg hn0, if_neg hn1]
    show (if op (fr + n) = 5 ∧ y = 0 then none else some (ar (op (fr + n)) x y :: T)) = _
    rw [e2]
    rw [e2] at h5q
    by_cases c : q = 33 ∧ y = 0
    · rw [if_pos c, if_pos ⟨h5q.mpr c.1, c.2⟩]
    · rw [if_neg c, if_neg (fun z => c ⟨h5q.mp z.1, z.2⟩)]
  have hcs : cr cd (cvOf vs) st (k + 1) = if q = 33 ∧ y = 0 then some (0 :: (T ++ S0), true) else some (arC (nI q) x y :: (T ++ S0), b') := by
    unfold cr
    rw [h3]
    show cs cd (cvOf vs) (st + k) (y :: x :: (T ++ S0)) b' = _
    rw [cs_sign (q := q) (by omega) e1]
    unfold csq
    rw [if_neg (by omega), if_neg (by omega)]
    show (if 34 ≤ q ∧ q ≤ 37 then _ else if 30 ≤ q ∧ q ≤ 33 then _ else _) = _
    rw [if_neg (by omega), if_pos hq]
  have hl : (y :: x :: T).length = T.length + 2 := rfl
  rw [hl] at h4
  have hdn : dp op fr (n + 1) = T.length + 1 := by rw [dp_dn hnl]; omega
  have hmr : ∀ S, mr op va vs fr n = some S → mr op va vs fr (n + 1) = ms op va vs (fr + n) (y :: x :: T) := fun S hS => by
    unfold mr
    rw [hS, (h5 S hS).1]
    rfl
  have hmn : mr op va vs fr n = none → mr op va vs fr (n + 1) = none := fun z => mr_none z (by omega)
  by_cases c : q = 33 ∧ y = 0
  · rw [if_pos c] at hms hcs
    refine ⟨S0, b0, 0 :: T, true, h1, h2, hcs, by rw [hdn]; rfl, fun S hS => ?_, fun _ => rfl⟩
    cases hT : mr op va vs fr n with
    | none => rw [hmn hT] at hS; cases hS
    | some U => rw [hmr U hT, hms] at hS; cases hS
  · rw [if_neg c] at hms hcs
    refine ⟨S0, b0, arC (nI q) x y :: T, b', h1, h2, hcs, by rw [hdn]; rfl, fun S hS => ?_, fun z => ?_⟩
    · cases hT : mr op va vs fr n with
      | none => rw [hmn hT] at hS; cases hS
      | some U =>
        rw [hmr U hT, hms] at hS
        refine ⟨?_, (h5 U hT).2⟩
        rw [ar_eq q hq.1 hq.2]
        exact Option.some.inj hS
    · cases hT : mr op va vs fr n with
      | none => exact h6 hT
      | some U => rw [hmr U hT, hms] at z; cases z
/-- a segment that is whole: one number -/
theorem AV.one {cd op va : Nat → Int32} {st k0 k fr n : Nat} (h : AV cd op va st k0 k fr n) (hd : dp op fr n = 1) : ∀ vs, ∃ S0 b0 x b', cr cd (cvOf vs) st k0 = some (S0, b0) ∧ S0.length ≤ 3 ∧ cr cd (cvOf vs) st k = some (x :: S0, b') ∧ (mr op va vs fr n = some [x] ∧ b' = b0 ∨ mr op va vs fr n = none ∧ b' = true) := by
  intro vs
  obtain ⟨S0, b0, S', b', h1, h2, h3, h4, h5, h6⟩ := h vs
  rw [hd] at h4
  match S', h4 with
  | [x], _ =>
    refine ⟨S0, b0, x, b', h1, h2, h3, ?_⟩
    cases hT : mr op va vs fr n with
    | none => exact Or.inr ⟨rfl, h6 hT⟩
    | some U =>
      obtain ⟨t1, t2⟩ := h5 U hT
      exact Or.inl ⟨by rw [← t1], t2⟩
theorem hold_eq : ∀ q : Nat, 34 ≤ q → q ≤ 37 → ∀ x y, holdsV (nI q) x y = cmpV (nI (smN q)) x y := by
  intro q h1 h2 x y
  have : q = 34 ∨ q = 35 ∨ q = 36 ∨ q = 37 := by omega
  rcases this with rfl | rfl | rfl | rfl <;> rfl
/-- a comparison -/
def cmS (op va vs : Nat → Int32) (q f1 n1 f2 n2 : Nat) : Bool := if (mr op va vs f1 n1).isNone ∨ (mr op va vs f2 n2).isNone then false else cmpV (nI (smN q)) (sv (mr op va vs f1 n1)) (sv (mr op va vs f2 n2))
theorem cmp_sem {cd op va : Nat → Int32} {st k0 k1 k2 fr n1 n2 q : Nat} {B0 : (Nat → Int32) → List Int32} (hb : ∀ vs, cr cd (cvOf vs) st k0 = some (B0 vs, false)) (h1 : AV cd op va st k0 k1 fr n1) (d1 : dp op fr n1 = 1) (h2 : AV cd op va st k1 k2 (fr + n1) n2) (d2 : dp op (fr + n1) n2 = 1) (hq : 34 ≤ q ∧ q ≤ 37) (e : cd (st + k2) = -1 - nI q) (vs : Nat → Int32) :
    cr cd (cvOf vs) st (k2 + 1) = some (bI (cmS op va vs q fr n1 (fr + n1) n2) :: B0 vs, false) := by
  obtain ⟨S0, b0, x, b1, a1, a2, a3, a4⟩ := h1.one d1 vs
  obtain ⟨S1, b1', y, b2, c1, c2, c3, c4⟩ := h2.one d2 vs
  have e0 := Option.some.inj (a1.symm.trans (hb vs))
  obtain ⟨rfl, rfl⟩ := Prod.mk.inj e0
  have e1 := Option.some.inj (c1.symm.trans a3)
  obtain ⟨rfl, rfl⟩ := Prod.mk.inj e1
  have hcs : cr cd (cvOf vs) st (k2 + 1) = some (bI (!b2 && holdsV (nI q) x y) :: B0 vs, false) := by
    unfold cr
    rw [c3]
    show cs cd (cvOf vs) (st + k2) (y :: x :: B0 vs) b2 = _
    rw [cs_sign (q := q) (by omega) e]
    unfold csq
    rw [if_neg (by omega), if_neg (by omega)]
    show (if 34 ≤ q ∧ q ≤ 37 then _ else if 30 ≤ q ∧ q ≤ 33 then _ else _) = _
    rw [if_pos hq]
  rw [hcs]
  have ez : (!b2 && holdsV (nI q) x y) = cmS op va vs q fr n1 (fr + n1) n2 := by
    unfold cmS
    rcases a4 with ⟨p1, p2⟩ | ⟨p1, p2⟩ <;> rcases c4 with ⟨r1, r2⟩ | ⟨r1, r2⟩
    · rw [p1, r1, if_neg (by simp), r2, p2, hold_eq q hq.1 hq.2]; rfl
    · simp [r1, r2]
    · simp [p1, r2, p2]
    · simp [p1, r2]
  rw [ez]
theorem not_sem {cd cv : Nat → Int32} {st k : Nat} {z b : Bool} {B : List Int32} (h : cr cd cv st k = some (bI z :: B, b)) (e : cd (st + k) = -1 - nI 25) : cr cd cv st (k + 1) = some (bI (!z) :: B, b) := by
  unfold cr
  rw [h]
  show cs cd cv (st + k) (bI z :: B) b = _
  rw [cs_sign (q := 25) (by omega) e]
  unfold csq
  rw [if_neg (by omega), if_pos rfl]
  have : (1 : Int32) - bI z = bI (!z) := by cases z <;> decide
  show some ((1 - bI z) :: B, b) = _
  rw [this]
theorem and_sem {cd cv : Nat → Int32} {st k : Nat} {y z b : Bool} {B : List Int32} (h : cr cd cv st k = some (bI z :: bI y :: B, b)) (e : cd (st + k) = -1 - nI 24) : cr cd cv st (k + 1) = some (bI (y && z) :: B, b) := by
  unfold cr
  rw [h]
  show cs cd cv (st + k) (bI z :: bI y :: B) b = _
  rw [cs_sign (q := 24) (by omega) e]
  unfold csq
  rw [if_neg (by omega), if_neg (by omega)]
  show (if 34 ≤ 24 ∧ 24 ≤ 37 then _ else if 30 ≤ 24 ∧ 24 ≤ 33 then _ else some ((if 24 = 24 then bI y &&& bI z else bI y ||| bI z) :: B, b)) = _
  rw [if_neg (by omega), if_neg (by omega), if_pos rfl]
  have : bI y &&& bI z = bI (y && z) := by cases y <;> cases z <;> decide
  rw [this]
theorem or_sem {cd cv : Nat → Int32} {st k : Nat} {y z b : Bool} {B : List Int32} (h : cr cd cv st k = some (bI z :: bI y :: B, b)) (e : cd (st + k) = -1 - nI 23) : cr cd cv st (k + 1) = some (bI (y || z) :: B, b) := by
  unfold cr
  rw [h]
  show cs cd cv (st + k) (bI z :: bI y :: B) b = _
  rw [cs_sign (q := 23) (by omega) e]
  unfold csq
  rw [if_neg (by omega), if_neg (by omega)]
  show (if 34 ≤ 23 ∧ 23 ≤ 37 then _ else if 30 ≤ 23 ∧ 23 ≤ 33 then _ else some ((if 23 = 24 then bI y &&& bI z else bI y ||| bI z) :: B, b)) = _
  rw [if_neg (by omega), if_neg (by omega), if_neg (by omega)]
  have : bI y ||| bI z = bI (y || z) := by cases y <;> cases z <;> decide
  rw [this]
/-! literals in rows: what stands before the next one -/
def hs (rw : Nat → Int32) (lt : Nat → Bool) (f : Nat) : Nat → Int32 → Bool × Bool
  | 0, _ => (false, true)
  | n + 1, r => if rw (f + n) = r then ((hs rw lt f n (rw (f + n))).1, (hs rw lt f n (rw (f + n))).2 && lt (f + n)) else ((hs rw lt f n (rw (f + n))).1 || ((hs rw lt f n (rw (f + n))).2 && lt (f + n)), true)
def hq (rw : Nat → Int32) (lt : Nat → Bool) (f n : Nat) : Bool × Bool := ((hs rw lt f n (rw (f + n))).1, (hs rw lt f n (rw (f + n))).2 && lt (f + n))
theorem hs_up {rw : Nat → Int32} {lt : Nat → Bool} {f n : Nat} {r : Int32} : hs rw lt f (n + 1) r = if rw (f + n) = r then hq rw lt f n else ((hq rw lt f n).1 || (hq rw lt f n).2, true) := rfl
theorem hrun_up {rw : Nat → Int32} {lt : Nat → Bool} {n k : Nat} {r : Int32} {all : Bool} : hrun rw lt (n + 1) k r all = if rw k = r then hrun rw lt n (k + 1) r (all && lt k) else if all then true else hrun rw lt n (k + 1) (rw k) (lt k) := rfl
theorem hrun_q {rw : Nat → Int32} {lt : Nat → Bool} {f : Nat} : ∀ d n, ((hq rw lt f n).1 || hrun rw lt d (f + n + 1) (rw (f + n)) (hq rw lt f n).2) = ((hq rw lt f (n + d)).1 || (hq rw lt f (n + d)).2)
  | 0, n => rfl
  | d + 1, n => by
    have ih := hrun_q (rw := rw) (lt := lt) (f := f) d (n + 1)
    have e2 : n + (d + 1) = n + 1 + d := by omega
    rw [e2, ← ih]
    have eq1 : hq rw lt f (n + 1) = ((hs rw lt f (n + 1) (rw (f + (n + 1)))).1, (hs rw lt f (n + 1) (rw (f + (n + 1)))).2 && lt (f + (n + 1))) := rfl
    rw [eq1, hs_up]
    rw [hrun_up]
    have ea : f + n + 1 = f + (n + 1) := by omega
    rw [ea]
    by_cases c : rw (f + n) = rw (f + (n + 1))
    · rw [if_pos c, if_pos c.symm, c]
    · rw [if_neg c, if_neg (fun z => c z.symm)]
      cases h1 : (hq rw lt f n).1 <;> cases h2 : (hq rw lt f n).2 <;> simp
theorem held_q {c : Nat → Nat → Int32} {a : Nat → Int32} {f n : Nat} : heldV c a f (n + 1) = ((hq (c 173) (litV c a) f n).1 || (hq (c 173) (litV c a) f n).2) := by
  have h := hrun_q (rw := c 173) (lt := litV c a) (f := f) n 0
  rw [Nat.zero_add] at h
  rw [← h]
  unfold heldV
  rw [hrun_up]
  have e : hq (c 173) (litV c a) f 0 = (false, true && litV c a f) := rfl
  rw [e, if_pos rfl]
  rfl
theorem hs_cong {rw rw' : Nat → Int32} {lt lt' : Nat → Bool} {f : Nat} : ∀ {n : Nat} {r : Int32}, (∀ i, i < n → rw' (f + i) = rw (f + i) ∧ lt' (f + i) = lt (f + i)) → hs rw' lt' f n r = hs rw lt f n r
  | 0, _, _ => rfl
  | n + 1, r, h => by
    have ih : ∀ r, hs rw' lt' f n r = hs rw lt f n r := fun r => hs_cong (n := n) fun i hi => h i (by omega)
    unfold hs
    rw [(h n (by omega)).1, (h n (by omega)).2, ih]

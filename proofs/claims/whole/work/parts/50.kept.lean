/-! numbers for simp: the conditions are closed by omega -/
theorem s_leT {a b : Nat} (h : a ≤ b) (hb : b < 2 ^ 31) : (nI a ≤ nI b) = True := eq_true (nI_le h hb)
theorem s_leF {a b : Nat} (h : b < a) (ha : a < 2 ^ 31) : (nI a ≤ nI b) = False := eq_false (nI_ge h ha)
theorem s_ltT {a b : Nat} (h : a < b) (hb : b < 2 ^ 31) : (nI a < nI b) = True := eq_true (nI_lt h hb)
theorem s_ltF {a b : Nat} (h : b ≤ a) (ha : a < 2 ^ 31) : (nI a < nI b) = False := eq_false (nI_nlt h ha)
theorem s_eqF {a b : Nat} (h : a ≠ b) (ha : a < 2 ^ 31) (hb : b < 2 ^ 31) : (nI a = nI b) = False := eq_false (fun e => h ((nI_eq ha hb).mp e))
theorem s_inT {n N : Nat} (h : n < N) (hN : N < 2 ^ 31) : vp_in (nI n) N = True := eq_true (vp_in_nI h hN)
theorem s_rfl (x : Int32) : (x = x) = True := eq_true rfl
theorem s_rflV (x : Value) : (x = x) = True := eq_true rfl
theorem nI_toIntN {n : Nat} (h : n < 2 ^ 31) : (-nI n).toInt = -(n : Int) := sb_negT h
theorem s_neF {a b : Nat} (h : 0 < a ∨ 0 < b) (ha : a < 2 ^ 31) (hb : b < 2 ^ 31) : (nI a = -nI b) = False := by
  apply eq_false
  intro e
  have e2 := congrArg Int32.toInt e
  rw [nI_toInt ha, nI_toIntN hb] at e2
  omega
theorem s_neF' {a b : Nat} (h : 0 < a ∨ 0 < b) (ha : a < 2 ^ 31) (hb : b < 2 ^ 31) : (-nI b = nI a) = False := by
  apply eq_false
  intro e
  exact of_eq_false (s_neF h ha hb) e.symm
theorem s_neE {a b : Nat} (h : a ≠ b) (ha : a < 2 ^ 31) (hb : b < 2 ^ 31) : (-nI a = -nI b) = False := by
  apply eq_false
  intro e
  have e2 := congrArg Int32.toInt e
  rw [nI_toIntN ha, nI_toIntN hb] at e2
  omega
theorem s_nleT {a b : Nat} (ha : a < 2 ^ 31) (hb : b < 2 ^ 31) : (-nI b ≤ nI a) = True := by
  apply eq_true
  rw [Int32.le_iff_toInt_le, nI_toInt ha, nI_toIntN hb]
  omega
theorem s_nleF {a b : Nat} (h : 0 < a ∨ 0 < b) (ha : a < 2 ^ 31) (hb : b < 2 ^ 31) : (nI a ≤ -nI b) = False := by
  apply eq_false
  rw [Int32.le_iff_toInt_le, nI_toInt ha, nI_toIntN hb]
  omega
theorem s_nltF {a b : Nat} (ha : a < 2 ^ 31) (hb : b < 2 ^ 31) : (nI a < -nI b) = False := by
  apply eq_false
  rw [Int32.lt_iff_toInt_lt, nI_toInt ha, nI_toIntN hb]
  omega
theorem s_nltT {a b : Nat} (h : 0 < a ∨ 0 < b) (ha : a < 2 ^ 31) (hb : b < 2 ^ 31) : (-nI b < nI a) = True := by
  apply eq_true
  rw [Int32.lt_iff_toInt_lt, nI_toInt ha, nI_toIntN hb]
  omega
theorem s_wIk (mm : MM) (k j : Nat) (v : Int32) : (wI mm k j v).1 k = upd (mm.1 k) j v := wI_k mm k j v
theorem s_wIo {mm : MM} {k j : Nat} {v : Int32} {a : Nat} (h : a ≠ k) : (wI mm k j v).1 a = mm.1 a := wI_o h
/-! kept cells -/
def Kp (kp : Nat → Nat → Bool) (mm m : MM) : Prop := (∀ a b, kp a b = true → m.1 a b = mm.1 a b) ∧ m.2.2 = mm.2.2
theorem Kp.rf {kp : Nat → Nat → Bool} (mm : MM) : Kp kp mm mm := ⟨fun _ _ _ => rfl, rfl⟩
theorem Kp.tr {kp : Nat → Nat → Bool} {a b c : MM} (h : Kp kp a b) (h2 : Kp kp b c) : Kp kp a c := ⟨fun x y e => (h2.1 x y e).trans (h.1 x y e), h2.2.trans h.2⟩
theorem Kp.g {kp : Nat → Nat → Bool} {mm m : MM} (h : Kp kp mm m) (a b : Nat) (e : kp a b = true) : m.1 a b = mm.1 a b := h.1 a b e
theorem Kp.row {kp : Nat → Nat → Bool} {mm m : MM} (h : Kp kp mm m) (a : Nat) (e : ∀ b, kp a b = true) : m.1 a = mm.1 a := funext fun b => h.1 a b (e b)
theorem Kp.w {kp : Nat → Nat → Bool} {mm m : MM} (h : Kp kp mm m) {k j : Nat} (v : Int32) (e : kp k j = false) : Kp kp mm (wI m k j v) := by
  refine ⟨fun a b hb => ?_, h.2⟩
  by_cases c : a = k
  · subst c
    rw [wI_k]
    by_cases d : b = j
    · subst d; rw [e] at hb; cases hb
    · rw [pk_un d]; exact h.1 a b hb
  · rw [wI_o c]; exact h.1 a b hb
theorem Kp.ww {kp : Nat → Nat → Bool} {mm m : MM} (h : Kp kp mm m) {k : Nat} (f : Nat → Int32) (e : ∀ b, kp k b = false) : Kp kp mm (wR m k f) := by
  refine ⟨fun a b hb => ?_, h.2⟩
  by_cases c : a = k
  · subst c; rw [e b] at hb; cases hb
  · rw [wR_o c]; exact h.1 a b hb
/-- the same write on both sides -/
theorem Kp.bI {kp : Nat → Nat → Bool} {mm m : MM} (h : Kp kp mm m) (k j : Nat) (v : Int32) : Kp kp (wI mm k j v) (wI m k j v) := by
  refine ⟨fun a b hb => ?_, h.2⟩
  by_cases c : a = k
  · subst c
    rw [wI_k, wI_k]
    by_cases d : b = j
    · subst d; rw [pk_us, pk_us]
    · rw [pk_un d, pk_un d]; exact h.1 a b hb
  · rw [wI_o c, wI_o c]; exact h.1 a b hb
theorem Kp.bR {kp : Nat → Nat → Bool} {mm m : MM} (h : Kp kp mm m) (k : Nat) (f : Nat → Int32) : Kp kp (wR mm k f) (wR m k f) := by
  refine ⟨fun a b hb => ?_, h.2⟩
  by_cases c : a = k
  · subst c; rw [wR_k, wR_k]
  · rw [wR_o c, wR_o c]; exact h.1 a b hb
/-! what calls that only ask leave as it was -/
def kq (a b : Nat) : Bool :=
  bif a == 1 then b == 8 else bif a == 5 then b == 4 else bif a == 18 || a == 108 then !(b == 6 || b == 7) else
  bif a == 41 then b == 4 || b == 5 else bif a == 95 then b == 2 else bif a == 156 then b == 0 || b == 9 || b == 40 || b == 50 else
  bif a == 183 then Nat.blt b 480 else
  !(a == 2 || a == 3 || a == 4 || a == 7 || a == 8 || a == 9 || a == 22 || a == 23 || a == 112 || a == 113 || a == 36 || a == 37 || a == 126 || a == 127 || a == 140 || a == 141 || a == 154 || a == 155 || a == 38 || a == 39 || a == 40 || a == 42 || a == 43 || (Nat.ble 86 a && Nat.ble a 94) || a == 97 || (Nat.ble 158 a && Nat.ble a 161) || a == 164 || a == 167 || (Nat.ble 175 a && Nat.ble a 182) || (Nat.ble 184 a && Nat.ble a 188) || a == 190)
abbrev Kq (mm m : MM) : Prop := Kp kq mm m
theorem Kq.r157 {mm m : MM} (h : Kq mm m) : m.1 157 = mm.1 157 := h.row 157 fun _ => rfl
theorem Kq.r162 {mm m : MM} (h : Kq mm m) : m.1 162 = mm.1 162 := h.row 162 fun _ => rfl
theorem Kq.r163 {mm m : MM} (h : Kq mm m) : m.1 163 = mm.1 163 := h.row 163 fun _ => rfl
theorem Kq.r165 {mm m : MM} (h : Kq mm m) : m.1 165 = mm.1 165 := h.row 165 fun _ => rfl
theorem Kq.r166 {mm m : MM} (h : Kq mm m) : m.1 166 = mm.1 166 := h.row 166 fun _ => rfl
theorem Kq.r168 {mm m : MM} (h : Kq mm m) : m.1 168 = mm.1 168 := h.row 168 fun _ => rfl
theorem Kq.r169 {mm m : MM} (h : Kq mm m) : m.1 169 = mm.1 169 := h.row 169 fun _ => rfl
theorem Kq.r170 {mm m : MM} (h : Kq mm m) : m.1 170 = mm.1 170 := h.row 170 fun _ => rfl
theorem Kq.r171 {mm m : MM} (h : Kq mm m) : m.1 171 = mm.1 171 := h.row 171 fun _ => rfl
theorem Kq.r172 {mm m : MM} (h : Kq mm m) : m.1 172 = mm.1 172 := h.row 172 fun _ => rfl
theorem Kq.r173 {mm m : MM} (h : Kq mm m) : m.1 173 = mm.1 173 := h.row 173 fun _ => rfl
theorem Kq.r174 {mm m : MM} (h : Kq mm m) : m.1 174 = mm.1 174 := h.row 174 fun _ => rfl
theorem Kq.r189 {mm m : MM} (h : Kq mm m) : m.1 189 = mm.1 189 := h.row 189 fun _ => rfl
theorem Kq.r96 {mm m : MM} (h : Kq mm m) : m.1 96 = mm.1 96 := h.row 96 fun _ => rfl
theorem Kq.r99 {mm m : MM} (h : Kq mm m) : m.1 99 = mm.1 99 := h.row 99 fun _ => rfl
theorem Kq.r6 {mm m : MM} (h : Kq mm m) : m.1 6 = mm.1 6 := h.row 6 fun _ => rfl
/-- the two towns, the two states that can hold now, the four states in all -/
def isT (t : Nat) : Prop := t = 10 ∨ t = 100
def isS (s : Nat) : Prop := s = 24 ∨ s = 114 ∨ s = 128 ∨ s = 142
theorem isT.at {t : Nat} (h : isT t) : AtTown t := by
  rcases h with rfl | rfl
  · exact AtTown_at10
  · exact AtTown_at100
theorem Kq.tn {mm m : MM} (h : Kq mm m) {t : Nat} (ht : isT t) (i : Nat) (hi : i < 8) : m.1 (t + i) = mm.1 (t + i) := by
  refine h.row _ fun b => ?_
  have e : i = 0 ∨ i = 1 ∨ i = 2 ∨ i = 3 ∨ i = 4 ∨ i = 5 ∨ i = 6 ∨ i = 7 := by omega
  rcases ht with rfl | rfl <;> rcases e with rfl | rfl | rfl | rfl | rfl | rfl | rfl | rfl <;> rfl
theorem Kq.t0 {mm m : MM} (h : Kq mm m) {t : Nat} (ht : isT t) : m.1 t = mm.1 t := h.tn ht 0 (by omega)
theorem Kq.t1 {mm m : MM} (h : Kq mm m) {t : Nat} (ht : isT t) : m.1 (t + 1) = mm.1 (t + 1) := h.tn ht 1 (by omega)
theorem Kq.t2 {mm m : MM} (h : Kq mm m) {t : Nat} (ht : isT t) : m.1 (t + 2) = mm.1 (t + 2) := h.tn ht 2 (by omega)
theorem Kq.t3 {mm m : MM} (h : Kq mm m) {t : Nat} (ht : isT t) : m.1 (t + 3) = mm.1 (t + 3) := h.tn ht 3 (by omega)
theorem Kq.t4 {mm m : MM} (h : Kq mm m) {t : Nat} (ht : isT t) : m.1 (t + 4) = mm.1 (t + 4) := h.tn ht 4 (by omega)
theorem Kq.t5 {mm m : MM} (h : Kq mm m) {t : Nat} (ht : isT t) : m.1 (t + 5) = mm.1 (t + 5) := h.tn ht 5 (by omega)
theorem Kq.t6 {mm m : MM} (h : Kq mm m) {t : Nat} (ht : isT t) : m.1 (t + 6) = mm.1 (t + 6) := h.tn ht 6 (by omega)
theorem Kq.t7 {mm m : MM} (h : Kq mm m) {t : Nat} (ht : isT t) : m.1 (t + 7) = mm.1 (t + 7) := h.tn ht 7 (by omega)
theorem Kq.t9 {mm m : MM} (h : Kq mm m) {t : Nat} (ht : isT t) : m.1 (t + 8 + 1) = mm.1 (t + 8 + 1) := by
  refine h.row _ fun b => ?_
  rcases ht with rfl | rfl <;> rfl
theorem Kq.t10 {mm m : MM} (h : Kq mm m) {t : Nat} (ht : isT t) : m.1 (t + 8 + 2) = mm.1 (t + 8 + 2) := by
  refine h.row _ fun b => ?_
  rcases ht with rfl | rfl <;> rfl
theorem Kq.t11 {mm m : MM} (h : Kq mm m) {t : Nat} (ht : isT t) : m.1 (t + 8 + 3) = mm.1 (t + 8 + 3) := by
  refine h.row _ fun b => ?_
  rcases ht with rfl | rfl <;> rfl
theorem Kq.l {mm m : MM} (h : Kq mm m) {t : Nat} (ht : isT t) (j : Nat) (hj : (j == 6 || j == 7) = false) : m.1 (t + 8) j = mm.1 (t + 8) j := by
  refine h.g _ _ ?_
  rcases ht with rfl | rfl <;> (show (!(j == 6 || j == 7)) = true; rw [hj]; rfl)
theorem kq_l6 {t : Nat} (ht : isT t) : kq (t + 8) 6 = false := by rcases ht with rfl | rfl <;> rfl
theorem kq_l7 {t : Nat} (ht : isT t) : kq (t + 8) 7 = false := by rcases ht with rfl | rfl <;> rfl
theorem kq_vars {t : Nat} (ht : isT t) (b : Nat) : kq (t + 8 + 4) b = false := by rcases ht with rfl | rfl <;> rfl
theorem kq_stk {t : Nat} (ht : isT t) (b : Nat) : kq (t + 8 + 5) b = false := by rcases ht with rfl | rfl <;> rfl
theorem Kq.s {mm m : MM} (h : Kq mm m) {s : Nat} (hs : isS s) (i : Nat) (hi : i < 12) : m.1 (s + i) = mm.1 (s + i) := by
  refine h.row _ fun b => ?_
  have e : i = 0 ∨ i = 1 ∨ i = 2 ∨ i = 3 ∨ i = 4 ∨ i = 5 ∨ i = 6 ∨ i = 7 ∨ i = 8 ∨ i = 9 ∨ i = 10 ∨ i = 11 := by omega
  rcases hs with rfl | rfl | rfl | rfl <;> rcases e with rfl | rfl | rfl | rfl | rfl | rfl | rfl | rfl | rfl | rfl | rfl | rfl <;> rfl
theorem Kq.s0 {mm m : MM} (h : Kq mm m) {s : Nat} (hs : isS s) : m.1 s = mm.1 s := h.s hs 0 (by omega)
theorem kq_str {s : Nat} (hs : isS s) (b : Nat) : kq (s + 7 + 5) b = false := by rcases hs with rfl | rfl | rfl | rfl <;> rfl
theorem kq_got {s : Nat} (hs : isS s) (b : Nat) : kq (s + 7 + 6) b = false := by rcases hs with rfl | rfl | rfl | rfl <;> rfl
/-! calls -/
theorem icall {e : ME} {as : List Value} {m : MM} {V : Int32} {K : MM → Prop} {A : Int32 → MM → Prop} (h : Runs e as m (fun r m' => r = .int V ∧ K m')) (h1 : ∀ m1, K m1 → A V m1) : ∃ P : Value → MM → Prop, Runs e as m P ∧ ∀ (r : Int32) (m1 : MM), P (.int r) m1 → A r m1 :=
  ⟨_, h, fun r m1 hr => by
    obtain ⟨e1, e2⟩ := hr
    have e1 := Value.int.inj e1
    subst e1
    exact h1 m1 e2⟩
theorem vcall {e : ME} {as : List Value} {m : MM} {K : MM → Prop} {A : MM → Prop} (h : Runs e as m (fun r m' => r = .null ∧ K m')) (h1 : ∀ m1, K m1 → A m1) : ∃ P : Value → MM → Prop, Runs e as m P ∧ ∀ (m1 : MM), P .null m1 → A m1 :=
  ⟨_, h, fun m1 hr => h1 m1 hr.2⟩
def bI (b : Bool) : Int32 := bif b then 1 else 0
theorem bcall {e : ME} {as : List Value} {m : MM} {b : Bool} {K : MM → Prop} {A B : MM → Prop} (h : Runs e as m (fun r m' => r = .int (bI b) ∧ K m')) (h1 : b = true → ∀ m1, K m1 → A m1) (h0 : b = false → ∀ m1, K m1 → B m1) : ∃ P : Value → MM → Prop, Runs e as m P ∧ (∀ r m1, P r m1 → r = .int 1 ∨ r = .int 0) ∧ (∀ m1, P (.int 1) m1 → A m1) ∧ (∀ m1, P (.int 0) m1 → B m1) := by
  refine ⟨_, h, ?_, ?_, ?_⟩
  · rintro r m1 ⟨e, -⟩
    cases b
    · exact Or.inr e
    · exact Or.inl e
  · rintro m1 ⟨e, k⟩
    cases b
    · exact absurd (Value.int.inj e) (by decide)
    · exact h1 rfl m1 k
  · rintro m1 ⟨e, k⟩
    cases b
    · exact h0 rfl m1 k
    · exact absurd (Value.int.inj e) (by decide)
theorem QcG_mono {kd : Nat} {D : va_G} {ad : Nat → Nat} {ca : Nat → ClassId} {A : Nat → Prop} {P Q : Value → MM → Prop} (hq : ∀ r u, P r u → Q r u) {a : Array Value} {st : State} {oc : Outcome} {t : State} (h : QcG kd D ad ca A P a st oc t) : QcG kd D ad ca A Q a st oc t := by
  match kd, h with
  | 0, ⟨⟨u, e, p, b⟩, f⟩ => exact ⟨⟨u, e, hq _ _ p, b⟩, f⟩
  | 1, ⟨⟨r, u, e, p, b⟩, f⟩ => exact ⟨⟨r, u, e, hq _ _ p, b⟩, f⟩
  | 2, ⟨⟨r, u, e, p, b⟩, f⟩ => exact ⟨⟨r, u, e, hq _ _ p, b⟩, f⟩
  | _ + 3, ⟨⟨r, u, e, p, b⟩, f⟩ => exact ⟨⟨r, u, e, hq _ _ p, b⟩, f⟩
theorem runs_to {e : ME} {as : List Value} {m : MM} {P Q : Value → MM → Prop} (h : Runs e as m P) (hq : ∀ r m', P r m' → Q r m') : Runs e as m Q := by
  intro l D ad ca sz hI
  exact Jvm.Free.MetFree.mono (h l D ad ca sz hI) (fun _ _ x => x) (fun _ _ _ _ _ x => x) (fun a s o t _ hQ => ⟨QcG_mono hq hQ.1, hQ.2⟩)
/-! loops -/
theorem for_up {Y : ME} {pc : Nat} (L : Nat → List (Nat × Value)) (M : Nat → MM → Prop) (n : Nat) {Q : Value → MM → Prop} (he : ∀ m, M n m → G Y pc (L n) [] m Q) (hs : ∀ k m, k < n → M k m → (∀ m', M (k + 1) m' → G Y pc (L (k + 1)) [] m' Q) → G Y pc (L k) [] m Q) : ∀ k m, k ≤ n → M k m → G Y pc (L k) [] m Q := by
  have aux : ∀ d k m, k + d = n → M k m → G Y pc (L k) [] m Q := by
    intro d
    induction d with
    | zero =>
      intro k m h hm
      have e : k = n := by omega
      subst e
      exact he m hm
    | succ d ih =>
      intro k m h hm
      exact hs k m (by omega) hm (fun m' hm' => ih (k + 1) m' (by omega) hm')
  intro k m h hm
  exact aux (n - k) k m (by omega) hm
theorem loop_mu {Y : ME} {pc : Nat} {σ : Type} (L : σ → List (Nat × Value)) (I : σ → MM → Prop) (μ : σ → Nat) {Q : Value → MM → Prop} (hs : ∀ s m, I s m → (∀ s' m', I s' m' → μ s' < μ s → G Y pc (L s') [] m' Q) → G Y pc (L s) [] m Q) : ∀ s m, I s m → G Y pc (L s) [] m Q := by
  have aux : ∀ d s m, μ s < d → I s m → G Y pc (L s) [] m Q := by
    intro d
    induction d with
    | zero => intro s m h; exact absurd h (Nat.not_lt_zero _)
    | succ d ih =>
      intro s m h hm
      exact hs s m hm (fun s' m' hi hl => ih s' m' (by omega) hi)
  intro s m hm
  exact aux (μ s + 1) s m (by omega) hm
theorem G_eq {Y : ME} {pc : Nat} {L L' : List (Nat × Value)} {m : MM} {Q : Value → MM → Prop} (h : L = L') (g : G Y pc L [] m Q) : G Y pc L' [] m Q := h ▸ g
theorem lin (n : Nat) : (OfNat.ofNat n : Int32) = nI (OfNat.ofNat n) := rfl
theorem s_sub {a b : Nat} (h : b ≤ a) : nI a - nI b = nI (a - b) := pk_sub h
theorem s_addneg {a b : Nat} (h : b ≤ a) : nI a + -nI b = nI (a - b) := by
  rw [← pk_sub h, Int32.sub_eq_add_neg]
theorem isS.at {s : Nat} (h : isS s) : AtState s := by
  rcases h with rfl | rfl | rfl | rfl
  · exact AtState_at24
  · exact AtState_at114
  · exact AtState_at128
  · exact AtState_at142

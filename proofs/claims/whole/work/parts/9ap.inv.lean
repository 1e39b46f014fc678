/-! reading: what holds between two statements -/
section
variable {x v x' v' : MM} {M a : Nat} {K ts : Nat → Nat}
/-- class's cells of x, the model's halves for reading of v, as if they were the halves that hold -/
def hc (x v : MM) : Nat → Nat → Int32 := fun a b => if a < 156 then x.1 a b else if a = 162 then v.1 162 (210 + b) else lv v a b
theorem hc_x {r b : Nat} (h : r < 156) : hc x v r b = x.1 r b := if_pos h
theorem hc_162 {b : Nat} : hc x v 162 b = v.1 162 (210 + b) := rfl
theorem hc_165 : hc x v 165 = opV v := rfl
theorem hc_166 : hc x v 166 = vaV v := rfl
theorem hc_l {r : Nat} (h : 167 ≤ r) : hc x v r = lv v r := by
  funext b
  unfold hc
  rw [if_neg (by omega), if_neg (by omega)]
/-- the INs so far: who is in what office, on both sides -/
def offM (st : Nat → Int32) : Nat → Nat → Int32
  | 0 => fun _ => -nI 2
  | i + 1 => fun k => if nI k = st (90 + 2 * i) then st (90 + 2 * i + 1) else if offM st i k = st (90 + 2 * i + 1) then -nI 2 else offM st i k
def offC (st : Nat → Int32) : Nat → Nat → Int32
  | 0 => fun _ => -nI 1
  | i + 1 => fun k => if nI k = st (90 + 2 * i) then st (90 + 2 * i + 1) else if offC st i k = st (90 + 2 * i + 1) then -nI 1 else offC st i k
def InsR (st : Nat → Int32) (H O I : Nat) : Prop := ∀ i, i < I → ∃ h o : Nat, h < H ∧ o < O ∧ st (90 + 2 * i) = nI h ∧ st (90 + 2 * i + 1) = nI o
theorem off_ok {st : Nat → Int32} {H O : Nat} (h16 : H ≤ 16) (h12 : O ≤ 12) : ∀ {I : Nat}, InsR st H O I → OffP (offM st I) (offC st I) H O
  | 0, _ => ⟨fun h hh => Or.inl ⟨rfl, rfl⟩, fun h h' _ _ _ _ => rfl⟩
  | I + 1, hi => by
    obtain ⟨h, o, h1, h2, h3, h4⟩ := hi I (by omega)
    refine (off_ok h16 h12 (I := I) fun i hi' => hi i (by omega)).giv h12 h1 h2 (fun k hk => ?_) (fun k hk => ?_)
    · show (if nI k = st (90 + 2 * I) then st (90 + 2 * I + 1) else if offM st I k = st (90 + 2 * I + 1) then -nI 2 else offM st I k) = _
      rw [h3, h4]
      by_cases c : k = h
      · rw [if_pos c, if_pos (congrArg nI c)]
      · rw [if_neg c, if_neg (fun z => c ((nI_eq (by omega) (by omega)).mp z))]
    · show (if nI k = st (90 + 2 * I) then st (90 + 2 * I + 1) else if offC st I k = st (90 + 2 * I + 1) then -nI 1 else offC st I k) = _
      rw [h3, h4]
      by_cases c : k = h
      · rw [if_pos c, if_pos (congrArg nI c)]
      · rw [if_neg c, if_neg (fun z => c ((nI_eq (by omega) (by omega)).mp z))]
theorem off_cong {st st' : Nat → Int32} : ∀ {I : Nat}, (∀ j, 90 ≤ j → j < 90 + 2 * I → st' j = st j) → offM st' I = offM st I ∧ offC st' I = offC st I
  | 0, _ => ⟨rfl, rfl⟩
  | I + 1, h => by
    obtain ⟨e1, e2⟩ := off_cong (I := I) fun j h1 h2 => h j h1 (by omega)
    refine ⟨?_, ?_⟩
    · unfold offM
      rw [e1, h (90 + 2 * I) (by omega) (by omega), h (90 + 2 * I + 1) (by omega) (by omega)]
    · unfold offC
      rw [e2, h (90 + 2 * I) (by omega) (by omega), h (90 + 2 * I + 1) (by omega) (by omega)]
/-- always: how many there are, and how much room is taken -/
def DC (x v : MM) (M : Nat) (K : Nat → Nat) (rt rs H O I S Qn W F B sz fr f a : Nat) : Prop :=
  ((x.2.2 1 4 = rt ∧ isT rt) ∧ x.2.2 1 5 = rs ∧ isN rs) ∧ (I ≤ 12 ∧ S ≤ 12 ∧ Qn ≤ 4 ∧ W ≤ 8 ∧ F ≤ 4 ∧ B ≤ 4) ∧
  (x.1 rt 8 = nI H ∧ x.1 rt 9 = nI O ∧ x.1 rt 10 = nI S ∧ x.1 rt 11 = nI Qn ∧ x.1 rt 13 = nI W ∧ x.1 (rt + 8) 11 = nI F ∧ x.1 (rt + 8) 12 = nI B ∧ x.1 1 12 = nI I) ∧
  (v.1 162 210 = nI H ∧ v.1 162 211 = nI O ∧ v.1 162 212 = nI I ∧ v.1 162 213 = nI S ∧ v.1 162 214 = nI Qn ∧ v.1 162 215 = nI W ∧ v.1 162 218 = nI F ∧ v.1 162 219 = nI B) ∧
  (x.1 (rt + 8) 5 = nI sz ∧ v.1 164 1 = nI fr ∧ v.1 167 1 = nI f ∧ sz ≤ a ∧ fr ≤ a ∧ 2 * f ≤ a ∧ a ≤ 401) ∧ NJ x v M K H O
/-- heights, wood, offices of the reader's state -/
def SR (x v : MM) (rs H O I W : Nat) : Prop := (∀ h, h < 16 → (∃ n : Nat, n ≤ 99 ∧ v.1 162 (210 + (21 + 3 * h)) = nI n) ∧ x.1 (rs + 1) h = v.1 162 (210 + (21 + 3 * h))) ∧
  (∀ w, w < W → (∃ n : Nat, n ≤ 99 ∧ v.1 162 (210 + (171 + 2 * w)) = nI n) ∧ x.1 (rs + 3) w = v.1 162 (210 + (171 + 2 * w))) ∧
  InsR (hc x v 162) H O I ∧ ∀ k, k < 16 → x.1 (rs + 2) k = offC (hc x v 162) I k
/-- what a statement leaves alone -/
def XE (rt rs : Nat) (x x' : MM) : Prop := x'.2.2 = x.2.2 ∧ (∀ r, r ≠ 2 → x'.2.1 r = x.2.1 r) ∧ (∀ r, (r < 1 ∨ 4 < r) → (r < rt ∨ rt + 13 < r) → (r < rs + 1 ∨ rs + 3 < r) → x'.1 r = x.1 r) ∧ ∀ y, y < 6 → x'.1 1 y = x.1 1 y
def VF (v v' : MM) : Prop := v'.2.2 = v.2.2 ∧ (∀ r, r ≠ 175 → v'.2.1 r = v.2.1 r) ∧ (∀ r, r ≠ 156 → r ≠ 162 → (r < 164 ∨ 173 < r) → (r < 175 ∨ 178 < r) → v'.1 r = v.1 r) ∧ (∀ y, (y < 7 ∨ (11 < y ∧ y ≠ 25 ∧ y ≠ 29 ∧ y ≠ 30 ∧ y ≠ 32 ∧ y ≠ 33)) → v'.1 156 y = v.1 156 y) ∧
  (∀ j, j < 210 → v'.1 162 j = v.1 162 j) ∧ (∀ i, i < 500 → v'.1 165 i = v.1 165 i ∧ v'.1 166 i = v.1 166 i) ∧ (∀ r, 168 ≤ r → r ≤ 173 → ∀ i, i < 200 → v'.1 r i = v.1 r i)
theorem XE.rf (rt rs : Nat) (x : MM) : XE rt rs x x := ⟨rfl, fun _ _ => rfl, fun _ _ _ _ => rfl, fun _ _ => rfl⟩
theorem VF.rf (v : MM) : VF v v := ⟨rfl, fun _ _ => rfl, fun _ _ _ _ _ => rfl, fun _ _ => rfl, fun _ _ => rfl, fun _ _ => ⟨rfl, rfl⟩, fun _ _ _ _ _ => rfl⟩
theorem XE.tr {rt rs : Nat} {a b c : MM} (h : XE rt rs a b) (h2 : XE rt rs b c) : XE rt rs a c := ⟨h2.1.trans h.1, fun r hr => (h2.2.1 r hr).trans (h.2.1 r hr), fun r r1 r2 r3 => (h2.2.2.1 r r1 r2 r3).trans (h.2.2.1 r r1 r2 r3), fun y hy => (h2.2.2.2 y hy).trans (h.2.2.2 y hy)⟩
theorem VF.tr {a b c : MM} (h : VF a b) (h2 : VF b c) : VF a c := ⟨h2.1.trans h.1, fun r hr => (h2.2.1 r hr).trans (h.2.1 r hr), fun r r1 r2 r3 r4 => (h2.2.2.1 r r1 r2 r3 r4).trans (h.2.2.1 r r1 r2 r3 r4), fun y hy => (h2.2.2.2.1 y hy).trans (h.2.2.2.1 y hy), fun j hj => (h2.2.2.2.2.1 j hj).trans (h.2.2.2.2.1 j hj), fun i hi => ⟨(h2.2.2.2.2.2.1 i hi).1.trans (h.2.2.2.2.2.1 i hi).1, (h2.2.2.2.2.2.1 i hi).2.trans (h.2.2.2.2.2.1 i hi).2⟩, fun r r1 r2 i hi => (h2.2.2.2.2.2.2 r r1 r2 i hi).trans (h.2.2.2.2.2.2 r r1 r2 i hi)⟩
theorem FN.xe {rt rs : Nat} (h : FN x x') : XE rt rs x x' := ⟨h.2.2.2, h.2.2.1, fun r r1 _ _ => h.1 r (by omega) (by omega), fun y hy => h.2.1 y (by omega)⟩
theorem FX.xe {rt rs : Nat} (h : FX x x') : XE rt rs x x' := h.n.xe
theorem GN.me (h : GN v v') : VF v v' := ⟨h.2.2.2, h.2.2.1, fun r r1 r2 r3 r4 => h.1 r r1 (by omega) (by omega), fun y hy => h.2.1 y (by omega), fun j _ => by rw [h.1 162 (by decide) (by decide) (by decide)], fun i _ => by rw [h.1 165 (by decide) (by decide) (by decide), h.1 166 (by decide) (by decide) (by decide)]; exact ⟨rfl, rfl⟩, fun r r1 r2 i _ => by rw [h.1 r (by omega) (by omega) (by omega)]⟩
theorem FV.me (h : FV v v') : VF v v' := h.n.me
theorem XE.w {rt rs r : Nat} (h : XE rt rs x x') (hr : (rt ≤ r ∧ r ≤ rt + 13) ∨ (rs + 1 ≤ r ∧ r ≤ rs + 3)) (h1 : r ≠ 1) (j : Nat) (w : Int32) : XE rt rs x (wI x' r j w) := ⟨h.1, h.2.1, fun q q1 q2 q3 => by rw [wI_o (by omega)]; exact h.2.2.1 q q1 q2 q3, fun y hy => by rw [wI_o (Ne.symm h1)]; exact h.2.2.2 y hy⟩
theorem XE.w1 {rt rs j : Nat} (h : XE rt rs x x') (hj : 6 ≤ j) (w : Int32) : XE rt rs x (wI x' 1 j w) := ⟨h.1, h.2.1, fun q q1 q2 q3 => by rw [wI_o (by omega)]; exact h.2.2.1 q q1 q2 q3, fun y hy => by rw [wI_k, pk_un (by omega)]; exact h.2.2.2 y hy⟩
theorem VF.tl {j : Nat} (h : VF v v') (w : Int32) : VF v (tlV v' j w) := ⟨h.1, h.2.1, fun r r1 r2 r3 r4 => by unfold tlV; rw [wI_o r2]; exact h.2.2.1 r r1 r2 r3 r4, fun y hy => by unfold tlV; rw [wI_o (by decide)]; exact h.2.2.2.1 y hy, fun i hi => by unfold tlV; rw [wI_k, pk_un (by omega)]; exact h.2.2.2.2.1 i hi, fun i hi => by unfold tlV; rw [wI_o (by decide), wI_o (by decide)]; exact h.2.2.2.2.2.1 i hi, fun r r1 r2 i hi => by unfold tlV; rw [wI_o (by omega)]; exact h.2.2.2.2.2.2 r r1 r2 i hi⟩
theorem FE.xe {s rt rs : Nat} (ht : isT rt) (h : FE s rt x x') : XE rt rs x x' := by
  have hc : rt = 10 ∨ rt = 100 := ht
  exact ⟨by rw [h.1], fun r _ => by rw [h.1], fun r r1 r2 _ => h.2.1 r (by omega) (by omega) (by omega) (by omega), fun y hy => h.2.2.1 y (by omega)⟩
theorem VE.me {n L : Nat} (h : VE n L v v') : VF v v' := ⟨by rw [h.1], fun r _ => by rw [h.1], fun r r1 r2 r3 r4 => h.2.1 r r1 (by omega) (by omega) (by omega) (by omega) (by omega), fun y hy => h.2.2.1 y (by omega), fun j _ => by rw [h.2.1 162 (by decide) (by decide) (by decide) (by decide) (by decide) (by decide)], h.2.2.2.2.2.1, fun r r1 r2 i hi => h.2.2.2.2.2.2 r r1 r2 i (by omega)⟩
end

/-! reading: literals as the model keeps them while it reads -/
section
variable {x v v' : MM} {M a : Nat} {K ts : Nat → Nat}
def lv (v : MM) : Nat → Nat → Int32 := fun a b => if a ≤ 166 then v.1 a (500 + b) else v.1 a (200 + b)
theorem lv_165 : lv v 165 = opV v := rfl
theorem lv_166 : lv v 166 = vaV v := rfl
theorem lv_o {r k : Nat} (h : 167 ≤ r) : lv v r k = v.1 r (200 + k) := if_neg (by omega)
def LitB (v : MM) (fr k : Nat) : Prop := ∃ A n1 n2 : Nat, v.1 170 (200 + k) = nI A ∧ v.1 171 (200 + k) = nI (A + n1) ∧ v.1 172 (200 + k) = nI (A + n1 + n2) ∧ A + n1 + n2 ≤ fr ∧ SegOK (opV v) (vaV v) A n1 ∧ SegOK (opV v) (vaV v) (A + n1) n2 ∧ isB (v.1 168 (200 + k))
/-- all but what the reading of a rule writes: n places of numbers and L literals stay -/
def VE (n L : Nat) (v v' : MM) : Prop := v'.2 = v.2 ∧ (∀ r, r ≠ 156 → r ≠ 164 → r ≠ 165 → r ≠ 166 → r ≠ 178 → (r < 167 ∨ 173 < r) → v'.1 r = v.1 r) ∧ (∀ y, y < 7 ∨ (11 < y ∧ y ≠ 29 ∧ y ≠ 30 ∧ y ≠ 32) → v'.1 156 y = v.1 156 y) ∧ (∀ y, y ≠ 1 → v'.1 164 y = v.1 164 y ∧ v'.1 167 y = v.1 167 y) ∧
  (∀ i, i < n → opV v' i = opV v i ∧ vaV v' i = vaV v i) ∧ (∀ i, i < 500 → v'.1 165 i = v.1 165 i ∧ v'.1 166 i = v.1 166 i) ∧ (∀ r, 168 ≤ r → r ≤ 173 → ∀ i, i < 200 + L → v'.1 r i = v.1 r i)
theorem VE.rf (n L : Nat) (v : MM) : VE n L v v := ⟨rfl, fun _ _ _ _ _ _ _ => rfl, fun _ _ => rfl, fun _ _ => ⟨rfl, rfl⟩, fun _ _ => ⟨rfl, rfl⟩, fun _ _ => ⟨rfl, rfl⟩, fun _ _ _ _ _ => rfl⟩
theorem VE.tr {n n' L L' : Nat} {a b c : MM} (h : VE n L a b) (h2 : VE n' L' b c) (hn : n ≤ n') (hL : L ≤ L') : VE n L a c :=
  ⟨h2.1.trans h.1, fun r r1 r2 r3 r4 r5 r6 => (h2.2.1 r r1 r2 r3 r4 r5 r6).trans (h.2.1 r r1 r2 r3 r4 r5 r6), fun y hy => (h2.2.2.1 y hy).trans (h.2.2.1 y hy), fun y hy => ⟨(h2.2.2.2.1 y hy).1.trans (h.2.2.2.1 y hy).1, (h2.2.2.2.1 y hy).2.trans (h.2.2.2.1 y hy).2⟩, fun i hi => ⟨(h2.2.2.2.2.1 i (by omega)).1.trans (h.2.2.2.2.1 i hi).1, (h2.2.2.2.2.1 i (by omega)).2.trans (h.2.2.2.2.1 i hi).2⟩, fun i hi => ⟨(h2.2.2.2.2.2.1 i hi).1.trans (h.2.2.2.2.2.1 i hi).1, (h2.2.2.2.2.2.1 i hi).2.trans (h.2.2.2.2.2.1 i hi).2⟩, fun r r1 r2 i hi => (h2.2.2.2.2.2.2 r r1 r2 i (by omega)).trans (h.2.2.2.2.2.2 r r1 r2 i hi)⟩
theorem GE.ve {n L : Nat} (h : GE n v v') : VE n L v v' :=
  ⟨h.1, fun r r1 r2 r3 r4 r5 _ => h.2.1 r r1 r2 r3 r4 r5, h.2.2.1, fun y hy => ⟨h.2.2.2.1 y hy, by rw [h.2.1 167 (by decide) (by decide) (by decide) (by decide) (by decide)]⟩, h.2.2.2.2.1, h.2.2.2.2.2, fun r r1 r2 i _ => by rw [h.2.1 r (by omega) (by omega) (by omega) (by omega) (by omega)]⟩
theorem VE.r {n L r j : Nat} (h : VE n L v v') (hr : 168 ≤ r ∧ r ≤ 173) (hj : 200 + L ≤ j) (w : Int32) : VE n L v (wI v' r j w) :=
  ⟨h.1, fun r' r1 r2 r3 r4 r5 r6 => by rw [wI_o (by omega)]; exact h.2.1 r' r1 r2 r3 r4 r5 r6, fun y hy => by rw [wI_o (by omega)]; exact h.2.2.1 y hy, fun y hy => by rw [wI_o (by omega), wI_o (by omega)]; exact h.2.2.2.1 y hy, fun i hi => by unfold opV vaV; rw [wI_o (by omega), wI_o (by omega)]; exact h.2.2.2.2.1 i hi, fun i hi => by rw [wI_o (by omega), wI_o (by omega)]; exact h.2.2.2.2.2.1 i hi, fun r' r1 r2 i hi => by
    by_cases c : r' = r
    · subst c; rw [wI_k, pk_un (by omega)]; exact h.2.2.2.2.2.2 r' r1 r2 i hi
    · rw [wI_o c]; exact h.2.2.2.2.2.2 r' r1 r2 i hi⟩
theorem VE.w7 {n L : Nat} (h : VE n L v v') (w : Int32) : VE n L v (wI v' 167 1 w) :=
  ⟨h.1, fun r' r1 r2 r3 r4 r5 r6 => by rw [wI_o (by omega)]; exact h.2.1 r' r1 r2 r3 r4 r5 r6, fun y hy => by rw [wI_o (by decide)]; exact h.2.2.1 y hy, fun y hy => by rw [wI_o (by decide), wI_k, pk_un hy]; exact h.2.2.2.1 y hy, fun i hi => by unfold opV vaV; rw [wI_o (by decide), wI_o (by decide)]; exact h.2.2.2.2.1 i hi, fun i hi => by rw [wI_o (by decide), wI_o (by decide)]; exact h.2.2.2.2.2.1 i hi, fun r' r1 r2 i hi => by rw [wI_o (by omega)]; exact h.2.2.2.2.2.2 r' r1 r2 i hi⟩
theorem VE.aa {n L m : Nat} (h : L ≤ m) : VE n L v (aaV v m) := ((VE.rf n L v).r (by decide) (by omega) _).r (by decide) (by omega) _
theorem VE.bb {n L m q : Nat} (h : L ≤ m) : VE n L v (bbV v m q) := (VE.aa h).r (by decide) (by omega) _
theorem VE.dd {n L m c g : Nat} {neg : Bool} (h : L ≤ m) : VE n L v (ddV v m c g neg) := ((((VE.rf n L v).r (by decide) (by omega) _).r (by decide) (by omega) _).r (by decide) (by omega) _).w7 _
theorem LitB.ve {fr k n L : Nat} (h : LitB v fr k) (hv : VE n L v v') (hf : fr ≤ n) (hk : k < L) : LitB v' fr k := by
  obtain ⟨A, n1, n2, h1, h2, h3, h4, s1, s2, hb⟩ := h
  have e := fun r r1 r2 => hv.2.2.2.2.2.2 r r1 r2 (200 + k) (by omega)
  refine ⟨A, n1, n2, (e 170 (by decide) (by decide)).trans h1, (e 171 (by decide) (by decide)).trans h2, (e 172 (by decide) (by decide)).trans h3, h4, s1.cong fun i hi => hv.2.2.2.2.1 _ (by omega), s2.cong fun i hi => hv.2.2.2.2.1 _ (by omega), by rw [e 168 (by decide) (by decide)]; exact hb⟩
theorem LitB.le {fr fr' k : Nat} (h : LitB v fr k) (hf : fr ≤ fr') : LitB v fr' k := by
  obtain ⟨A, n1, n2, h1, h2, h3, h4, h5⟩ := h
  exact ⟨A, n1, n2, h1, h2, h3, by omega, h5⟩
theorem litV_at {A n1 n2 k : Nat} {vs : Nat → Int32} (h1 : v.1 170 (200 + k) = nI A) (h2 : v.1 171 (200 + k) = nI (A + n1)) (h3 : v.1 172 (200 + k) = nI (A + n1 + n2)) (h4 : A + n1 + n2 ≤ 500) :
    litV (lv v) vs k = if (mr (opV v) (vaV v) vs A n1).isNone ∨ (mr (opV v) (vaV v) vs (A + n1) n2).isNone then decide (¬ v.1 168 (200 + k) = 0) else (cmpV (v.1 169 (200 + k)) (sv (mr (opV v) (vaV v) vs A n1)) (sv (mr (opV v) (vaV v) vs (A + n1) n2))) != decide (¬ v.1 168 (200 + k) = 0) := by
  unfold litV
  rw [lv_o (by decide), lv_o (by decide), lv_o (by decide), lv_o (by decide), lv_o (by decide), h1, h2, h3, segV_at (c := lv v) (A := A) (n := n1) (by omega), segV_at (c := lv v) (A := A + n1) (n := n2) (by omega)]
  rfl
theorem litV_ve {fr k n L : Nat} {vs : Nat → Int32} (h : LitB v fr k) (hv : VE n L v v') (hf : fr ≤ n) (h5 : fr ≤ 500) (hk : k < L) : litV (lv v') vs k = litV (lv v) vs k := by
  obtain ⟨A, n1, n2, h1, h2, h3, h4, s1, s2, hb⟩ := h
  have e := fun r r1 r2 => hv.2.2.2.2.2.2 r r1 r2 (200 + k) (by omega)
  rw [litV_at h1 h2 h3 (by omega), litV_at ((e 170 (by decide) (by decide)).trans h1) ((e 171 (by decide) (by decide)).trans h2) ((e 172 (by decide) (by decide)).trans h3) (by omega), e 168 (by decide) (by decide), e 169 (by decide) (by decide)]
  rw [mr_cong (op := opV v) (va := vaV v) (n := n1) fun i hi => hv.2.2.2.2.1 _ (by omega), mr_cong (op := opV v) (va := vaV v) (n := n2) fun i hi => hv.2.2.2.2.1 _ (by omega)]
theorem hs_ve {fr f m n L : Nat} {vs : Nat → Int32} {r : Int32} (h : ∀ i, i < m → LitB v fr (f + i)) (hv : VE n L v v') (hf : fr ≤ n) (h5 : fr ≤ 500) (hk : f + m ≤ L) : hs (lv v' 173) (litV (lv v') vs) f m r = hs (lv v 173) (litV (lv v) vs) f m r :=
  hs_cong fun i hi => ⟨by rw [lv_o (by decide), lv_o (by decide)]; exact hv.2.2.2.2.2.2 173 (by decide) (by decide) _ (by omega), litV_ve (h i hi) hv hf h5 (by omega)⟩
/-- the literal that is read now -/
theorem dd_at {m c g q fr n1 n2 : Nat} {neg : Bool} (h170 : v.1 170 (200 + m) = nI fr) (h171 : v.1 171 (200 + m) = nI (fr + n1)) (h169 : v.1 169 (200 + m) = nI (smN q)) (h164 : v.1 164 1 = nI (fr + n1 + n2)) (h5 : fr + n1 + n2 ≤ 500) (s1 : SegOK (opV v) (vaV v) fr n1) (s2 : SegOK (opV v) (vaV v) (fr + n1) n2) :
    LitB (ddV v m c g neg) (fr + n1 + n2) m ∧ lv (ddV v m c g neg) 173 m = nI g ∧ ∀ vs, litV (lv (ddV v m c g neg)) vs m = (cmS (opV v) (vaV v) vs q fr n1 (fr + n1) n2 != neg) := by
  have eo : opV (ddV v m c g neg) = opV v := by unfold opV ddV; rw [wI_o (by decide), wI_o (by decide), wI_o (by decide), wI_o (by decide)]
  have ea : vaV (ddV v m c g neg) = vaV v := by unfold vaV ddV; rw [wI_o (by decide), wI_o (by decide), wI_o (by decide), wI_o (by decide)]
  have e170 : (ddV v m c g neg).1 170 (200 + m) = nI fr := by unfold ddV; rw [wI_o (by decide), wI_o (by decide), wI_o (by decide), wI_o (by decide)]; exact h170
  have e171 : (ddV v m c g neg).1 171 (200 + m) = nI (fr + n1) := by unfold ddV; rw [wI_o (by decide), wI_o (by decide), wI_o (by decide), wI_o (by decide)]; exact h171
  have e169 : (ddV v m c g neg).1 169 (200 + m) = nI (smN q) := by unfold ddV; rw [wI_o (by decide), wI_o (by decide), wI_o (by decide), wI_o (by decide)]; exact h169
  have e172 : (ddV v m c g neg).1 172 (200 + m) = nI (fr + n1 + n2) := by unfold ddV; rw [wI_o (by decide), wI_o (by decide), wI_o (by decide), wI_k, pk_us]; exact h164
  have e168 : (ddV v m c g neg).1 168 (200 + m) = bI neg := by unfold ddV; rw [wI_o (by decide), wI_o (by decide), wI_k, pk_us]
  have e173 : (ddV v m c g neg).1 173 (200 + m) = nI g := by unfold ddV; rw [wI_o (by decide), wI_k, pk_us]
  refine ⟨⟨fr, n1, n2, e170, e171, e172, Nat.le_refl _, by rw [eo, ea]; exact s1, by rw [eo, ea]; exact s2, ?_⟩, by rw [lv_o (by decide)]; exact e173, fun vs => ?_⟩
  · rw [e168]; cases neg
    · exact Or.inl rfl
    · exact Or.inr rfl
  · rw [litV_at e170 e171 e172 h5, eo, ea, e168, e169]
    have en : decide (¬ bI neg = 0) = neg := by cases neg <;> rfl
    rw [en]
    unfold cmS
    by_cases cc : (mr (opV v) (vaV v) vs fr n1).isNone = true ∨ (mr (opV v) (vaV v) vs (fr + n1) n2).isNone = true
    · rw [if_pos cc, if_pos cc]; cases neg <;> rfl
    · rw [if_neg cc, if_neg cc]
end

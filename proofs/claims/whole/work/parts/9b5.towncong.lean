/-! the town on cells that agree where it looks -/
section
variable {c c' : Nat → Nat → Int32}
/-- the model's rows of formulas agree where they can be asked -/
def AgF (c c' : Nat → Nat → Int32) : Prop := (∀ i, i < 500 → c' 165 i = c 165 i ∧ c' 166 i = c 166 i) ∧ (∀ i, i < 200 → isB (c 168 i) → c' 168 i = c 168 i) ∧ ∀ r, 169 ≤ r → r ≤ 173 → ∀ i, i < 200 → c' r i = c r i
theorem lit_cong {k : Nat} (hl : LitOK c k) (hk : k < 200) (hF : AgF c c') : LitOK c' k ∧ ∀ vs, litV c' vs k = litV c vs k := by
  obtain ⟨h5, h8, h9⟩ := hF
  obtain ⟨A, n1, n2, e1, e2, e3, hb, s1, s2, b⟩ := hl
  have r0 := h9 170 (by decide) (by decide) k hk
  have r1 := h9 171 (by decide) (by decide) k hk
  have r2 := h9 172 (by decide) (by decide) k hk
  have r8 := h8 k hk b
  refine ⟨⟨A, n1, n2, r0.trans e1, r1.trans e2, r2.trans e3, hb, s1.cong fun i hi => h5 _ (by omega), s2.cong fun i hi => h5 _ (by omega), by rw [r8]; exact b⟩, fun vs => ?_⟩
  have a1 : segV c' vs (c' 170 k) (c' 171 k) = segV c vs (c 170 k) (c 171 k) := by
    rw [r0, r1, e1, e2, segV_at (by omega), segV_at (by omega)]
    exact mr_cong fun i hi => h5 _ (by omega)
  have a2 : segV c' vs (c' 171 k) (c' 172 k) = segV c vs (c 171 k) (c 172 k) := by
    rw [r1, r2, e2, e3, segV_at (by omega), segV_at (by omega)]
    exact mr_cong fun i hi => h5 _ (by omega)
  unfold litV
  rw [a1, a2, r8, h9 169 (by decide) (by decide) k hk]
theorem held_cong {f n : Nat} (hl : ∀ i, i < n → LitOK c (f + i)) (hn : 1 ≤ n) (hf : f + n ≤ 200) (hF : AgF c c') (vs : Nat → Int32) : heldV c' vs f n = heldV c vs f n := by
  obtain ⟨m, rfl⟩ : ∃ m, n = m + 1 := ⟨n - 1, by omega⟩
  have e3 := hF.2.2 173 (by decide) (by decide)
  rw [held_q, held_q]
  unfold hq
  rw [e3 (f + m) (by omega), (lit_cong (hl m (by omega)) (by omega) hF).2 vs, hs_cong (rw := c 173) (lt := litV c vs) fun i hi => ⟨e3 _ (by omega), (lit_cong (hl i (by omega)) (by omega) hF).2 vs⟩]
theorem LawR.cong {t l : Nat} (h : LawR c t l) (hl : l ≤ 2) (h162 : ∀ j, j < 210 → c' 162 j = c 162 j) (ht : ∀ i, i < 14 → c' (t + i) = c (t + i)) (hF : AgF c c') : LawR c' t l := by
  have t8 : c' (t + 8) = c (t + 8) := ht 8 (by decide)
  have t9 : c' (t + 8 + 1) = c (t + 8 + 1) := ht 9 (by decide)
  unfold LawR
  rw [h162 _ (by omega), h162 _ (by omega), t8, t9]
  rcases h with h | ⟨fr, n, st, k, sz, e1, e2, e3, e4, e5, e6, e7, e8, e9, e10, e11⟩
  · exact Or.inl h
  · refine Or.inr ⟨fr, n, st, k, sz, e1, e2, e3, e4.cong fun i hi => hF.1 _ (by omega), e5, e6, e7, e8, e9, e10, fun vs => ?_⟩
    rw [mr_cong (op := c 165) (va := c 166) fun i hi => hF.1 _ (by omega)]
    exact e11 vs
theorem RuleR.cong {t o b k : Nat} (h : RuleR c t o b k) (ho : o ≤ 3) (hb : b + 2 * k + 1 < 210) (h162 : ∀ j, j < 210 → c' 162 j = c 162 j) (ht : ∀ i, i < 14 → c' (t + i) = c (t + i)) (hF : AgF c c') : RuleR c' t o b k := by
  have t8 : c' (t + 8) = c (t + 8) := ht 8 (by decide)
  have t9 : c' (t + 8 + 1) = c (t + 8 + 1) := ht 9 (by decide)
  have tO : c' (t + 8 + o) = c (t + 8 + o) := by rw [Nat.add_assoc]; exact ht (8 + o) (by omega)
  obtain ⟨f, n, st, kk, sz, e1, e2, e3, e4, e5, e6, e7, e8, e9, e10, e11, e12⟩ := h
  unfold RuleR
  rw [h162 _ (by omega), h162 _ (by omega), t8, t9, tO]
  refine ⟨f, n, st, kk, sz, e1, e2, e3, e4, fun i hi => (lit_cong (e5 i hi) (by omega) hF).1, e6, e7, e8, e9, e10, e11, fun vs => ?_⟩
  rw [held_cong e5 e3 e4 hF]
  exact e12 vs
theorem TownR.cong {t H O S Qn W C J F B : Nat} (h : TownR c t H O S Qn W C J F B) (h162 : ∀ j, j < 210 → c' 162 j = c 162 j) (ht : ∀ i, i < 14 → c' (t + i) = c (t + i)) (hF : AgF c c') : TownR c' t H O S Qn W C J F B := by
  obtain ⟨g1, g2, g3, g4, g5, g6, g7, g8, g9, g10, g11⟩ := h
  obtain ⟨z1, z2, z3, z4, z5, z6, z7, z8, z9⟩ := id g1
  have t0 : c' t = c t := ht 0 (by decide)
  have t8 : c' (t + 8) = c (t + 8) := ht 8 (by decide)
  have hq : quayN (c' 162) = quayN (c 162) := by
    unfold quayN
    rw [h162 4 (by decide), g2.2.2.2.1, nI_clamp (by omega)]
    exact qs_cong fun q hq => h162 _ (by omega)
  refine ⟨g1, ?_, ?_, fun h hh => ?_, fun o ho => ?_, fun s hs => ?_, fun q hq => ?_, fun w hw => ?_, ⟨g9.1.cong (by decide) h162 ht hF, g9.2.1.cong (by decide) h162 ht hF, g9.2.2.cong (by decide) h162 ht hF⟩, fun k hk => (g10 k hk).cong (by decide) (by omega) h162 ht hF, fun k hk => (g11 k hk).cong (by decide) (by omega) h162 ht hF⟩
  · rw [h162 0 (by decide), h162 1 (by decide), h162 3 (by decide), h162 4 (by decide), h162 5 (by decide), h162 6 (by decide), h162 7 (by decide), h162 8 (by decide), h162 9 (by decide)]
    exact g2
  · rw [t0, t8, hq]; exact g3
  · rw [h162 _ (by omega), h162 _ (by omega), ht 1 (by decide), ht 2 (by decide)]; exact g4 h hh
  · rw [h162 _ (by omega), ht 3 (by decide)]; exact g5 o ho
  · rw [h162 _ (by omega), h162 _ (by omega), h162 _ (by omega), ht 4 (by decide), ht 5 (by decide), ht 6 (by decide)]; exact g6 s hs
  · rw [h162 _ (by omega)]; exact g7 q hq
  · rw [h162 _ (by omega), ht 7 (by decide)]; exact g8 w hw
end

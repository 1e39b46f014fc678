/-! reading: the town so far, on both sides -/
section
variable {x v x' v' : MM} {M a : Nat} {K ts : Nat → Nat}
/-- a law that both have: what it rests on lies below sz places of code and fr numbers -/
def LawB (x v : MM) (rt l sz fr : Nat) : Prop := (hc x v 162 (10 + 2 * l) = -nI 1 ∧ x.1 (rt + 8) (8 + l) = -nI 1) ∨
  ∃ A n st k : Nat, hc x v 162 (10 + 2 * l) = nI A ∧ hc x v 162 (10 + 2 * l + 1) = nI (A + n) ∧ A + n ≤ fr ∧ SegOK (opV v) (vaV v) A n ∧ x.1 (rt + 8) (8 + l) = nI st ∧ Coded (cdX x rt) st k ∧ cdX x rt (st + k) = -1 - nI 28 ∧ st + k < sz ∧
    ∀ vs, ∃ w b, cr (cdX x rt) (cvOf vs) st k = some ([w], b) ∧ (bif b then 0 else w) = sv (mr (opV v) (vaV v) vs A n)
def RuleB (x v : MM) (rt o b k sz fr L : Nat) : Prop := ∃ f n st kk : Nat, hc x v 162 (b + 2 * k) = nI f ∧ hc x v 162 (b + 2 * k + 1) = nI (f + n) ∧ 1 ≤ n ∧ f + n ≤ L ∧ (∀ i, i < n → LitB v fr (f + i)) ∧ x.1 (rt + 8 + o) k = nI st ∧ Coded (cdX x rt) st kk ∧ cdX x rt (st + kk) = -1 - nI 28 ∧ st + kk < sz ∧
    ∀ vs, cr (cdX x rt) (cvOf vs) st kk = some ([bI (heldV (lv v) vs f n)], false)
theorem LawB.law {rt l sz fr : Nat} (ht : isT rt) (h : LawB x v rt l sz fr) (h5 : x.1 (rt + 8) 5 = nI sz) (h4 : sz ≤ 400) (hf : fr ≤ 500) : LawR (hc x v) rt l := by
  have hcc : rt = 10 ∨ rt = 100 := ht
  have e1 : hc x v (rt + 8) = x.1 (rt + 8) := by funext b; exact hc_x (by omega)
  have e2 : hc x v (rt + 8 + 1) = cdX x rt := by funext b; exact hc_x (by omega)
  unfold LawR
  rw [e1, e2, hc_165, hc_166]
  rcases h with h | ⟨A, n, st, k, g1, g2, g3, g4, g5, g6, g7, g8, g9⟩
  · exact Or.inl h
  · exact Or.inr ⟨A, n, st, k, sz, g1, g2, by omega, g4, g5, g6, g7, h5, g8, h4, g9⟩
theorem LitB.ok {fr k : Nat} (h : LitB v fr k) (hf : fr ≤ 500) : LitOK (hc x v) k := by
  obtain ⟨A, n1, n2, h1, h2, h3, h4, h5, h6, h7⟩ := h
  refine ⟨A, n1, n2, ?_, ?_, ?_, by omega, h5, h6, ?_⟩
  · rw [hc_l (by decide), lv_o (by decide)]; exact h1
  · rw [hc_l (by decide), lv_o (by decide)]; exact h2
  · rw [hc_l (by decide), lv_o (by decide)]; exact h3
  · rw [hc_l (by decide), lv_o (by decide)]; exact h7
theorem hc_litV (vs : Nat → Int32) : litV (hc x v) vs = litV (lv v) vs := by
  funext k
  unfold litV segV
  rw [hc_165, hc_166, hc_l (r := 168) (by decide), hc_l (r := 169) (by decide), hc_l (r := 170) (by decide), hc_l (r := 171) (by decide), hc_l (r := 172) (by decide)]
  rfl
theorem hc_held (vs : Nat → Int32) (f n : Nat) : heldV (hc x v) vs f n = heldV (lv v) vs f n := by
  unfold heldV
  rw [hc_litV, hc_l (r := 173) (by decide)]
theorem RuleB.rule {rt o b k sz fr L : Nat} (ht : isT rt) (ho : o ≤ 3) (h : RuleB x v rt o b k sz fr L) (h5 : x.1 (rt + 8) 5 = nI sz) (h4 : sz ≤ 400) (hf : fr ≤ 500) (hL : L ≤ 200) : RuleR (hc x v) rt o b k := by
  have hcc : rt = 10 ∨ rt = 100 := ht
  have e1 : hc x v (rt + 8) = x.1 (rt + 8) := by funext b; exact hc_x (by omega)
  have e2 : hc x v (rt + 8 + 1) = cdX x rt := by funext b; exact hc_x (by omega)
  have e3 : hc x v (rt + 8 + o) = x.1 (rt + 8 + o) := by funext b; exact hc_x (by omega)
  obtain ⟨f, n, st, kk, g1, g2, g3, g4, g5, g6, g7, g8, g9, g10⟩ := h
  unfold RuleR
  rw [e1, e2, e3]
  refine ⟨f, n, st, kk, sz, g1, g2, g3, by omega, fun i hi => (g5 i hi).ok hf, g6, g7, g8, h5, g9, h4, fun vs => ⟨_, false, g10 vs, ?_⟩⟩
  rw [hc_held]
  cases heldV (lv v) vs f n <;> rfl
/-- what later statements do leaves a law and a rule as they are -/
theorem LawB.up {rt l sz sz' fr fr' L : Nat} (h : LawB x v rt l sz fr) (hx : ∀ i, i < sz → cdX x' rt i = cdX x rt i) (hv : ∀ i, i < fr → opV v' i = opV v i ∧ vaV v' i = vaV v i) (hs : sz ≤ sz') (hf : fr ≤ fr') (e1 : hc x' v' 162 (10 + 2 * l) = hc x v 162 (10 + 2 * l)) (e2 : hc x' v' 162 (10 + 2 * l + 1) = hc x v 162 (10 + 2 * l + 1)) (e3 : x'.1 (rt + 8) (8 + l) = x.1 (rt + 8) (8 + l)) : LawB x' v' rt l sz' fr' := by
  unfold LawB
  rw [e1, e2, e3]
  rcases h with h | ⟨A, n, st, k, g1, g2, g3, g4, g5, g6, g7, g8, g9⟩
  · exact Or.inl h
  · refine Or.inr ⟨A, n, st, k, g1, g2, by omega, g4.cong fun i hi => hv _ (by omega), g5, g6.cong fun i hi => hx _ (by omega), (hx _ (by omega)).trans g7, by omega, fun vs => ?_⟩
    rw [cr_cong (cd := cdX x rt) fun i hi => hx _ (by omega), mr_cong (op := opV v) (va := vaV v) fun i hi => hv _ (by omega)]
    exact g9 vs
theorem held_ve {fr f n N L : Nat} (vs : Nat → Int32) (h : ∀ i, i < n → LitB v fr (f + i)) (hv : VE N L v v') (hf : fr ≤ N) (h5 : fr ≤ 500) (hk : f + n ≤ L) (hn : 1 ≤ n) : heldV (lv v') vs f n = heldV (lv v) vs f n := by
  obtain ⟨m, rfl⟩ : ∃ m, n = m + 1 := ⟨n - 1, by omega⟩
  have e173 : lv v' 173 (f + m) = lv v 173 (f + m) := by rw [lv_o (by decide), lv_o (by decide)]; exact hv.2.2.2.2.2.2 173 (by decide) (by decide) _ (by omega)
  rw [held_q, held_q]
  unfold hq
  rw [e173, litV_ve (h m (by omega)) hv hf h5 (by omega), hs_ve (fun i hi => h i (by omega)) hv hf h5 (by omega)]
theorem RuleB.up {rt o b k sz sz' fr fr' L L' : Nat} (h : RuleB x v rt o b k sz fr L) (hx : ∀ i, i < sz → cdX x' rt i = cdX x rt i) (hv : VE fr L v v' ∨ (opV v' = opV v ∧ vaV v' = vaV v ∧ ∀ r, 168 ≤ r → r ≤ 173 → v'.1 r = v.1 r)) (h5 : fr ≤ 500) (hs : sz ≤ sz') (hf : fr ≤ fr') (hL : L ≤ L') (e1 : hc x' v' 162 (b + 2 * k) = hc x v 162 (b + 2 * k)) (e2 : hc x' v' 162 (b + 2 * k + 1) = hc x v 162 (b + 2 * k + 1)) (e3 : x'.1 (rt + 8 + o) k = x.1 (rt + 8 + o) k) : RuleB x' v' rt o b k sz' fr' L' := by
  obtain ⟨f, n, st, kk, g1, g2, g3, g4, g5, g6, g7, g8, g9, g10⟩ := h
  have hB : ∀ i, i < n → LitB v' fr (f + i) := fun i hi => by
    rcases hv with hv | ⟨o1, o2, o3⟩
    · exact (g5 i hi).ve hv (Nat.le_refl _) (by omega)
    · have := g5 i hi
      unfold LitB at *
      rw [o1, o2, o3 170 (by decide) (by decide), o3 171 (by decide) (by decide), o3 172 (by decide) (by decide), o3 168 (by decide) (by decide)]
      exact this
  have hH : ∀ vs, heldV (lv v') vs f n = heldV (lv v) vs f n := fun vs => by
    rcases hv with hv | ⟨o1, o2, o3⟩
    · exact held_ve vs g5 hv (Nat.le_refl _) h5 g4 g3
    · have er : ∀ r, 168 ≤ r → r ≤ 173 → lv v' r = lv v r := fun r r1 r2 => by
        funext b
        rw [lv_o (by omega), lv_o (by omega), o3 r r1 r2]
      have el : litV (lv v') vs = litV (lv v) vs := by
        funext j
        unfold litV segV
        rw [lv_165, lv_166, lv_165, lv_166, o1, o2, er 168 (by decide) (by decide), er 169 (by decide) (by decide), er 170 (by decide) (by decide), er 171 (by decide) (by decide), er 172 (by decide) (by decide)]
      unfold heldV
      rw [el, er 173 (by decide) (by decide)]
  refine ⟨f, n, st, kk, e1.trans g1, e2.trans g2, g3, by omega, fun i hi => (hB i hi).le hf, e3.trans g6, g7.cong fun i hi => hx _ (by omega), (hx _ (by omega)).trans g8, by omega, fun vs => ?_⟩
  rw [cr_cong (cd := cdX x rt) fun i hi => hx _ (by omega), hH]
  exact g10 vs
end

/-! reading: names -/
def srt (g : Nat) : Nat := if g < 16 then 0 else 1
def num (g : Nat) : Nat := if g < 16 then g else g - 16
/-- the names of both sides: H houses and O offices -/
def NJ (x v : MM) (M : Nat) (K : Nat → Nat) (H O : Nat) : Prop := ∃ b own : Nat → Nat, (H ≤ 16 ∧ O ≤ 12) ∧ x.1 1 11 = nI (H + O) ∧ v.1 156 25 = nI (H + O) ∧
  (∀ i, i < H + O → b i < M ∧ K (b i) = 26 ∧ x.2.1 2 i = x.2.1 9 (b i) ∧ v.2.1 175 i = v.2.1 161 (b i) ∧ (own i < H ∨ (16 ≤ own i ∧ own i < 16 + O)) ∧ x.1 3 i = nI (own i) ∧ v.1 176 i = nI (srt (own i)) ∧ v.1 177 i = nI (num (own i))) ∧
  (x.1 1 9 = 0 → ∀ i j, i < j → j < H + O → x.2.1 2 i ≠ x.2.1 2 j)
def FN (x x' : MM) : Prop := (∀ r, r ≠ 1 → r ≠ 3 → x'.1 r = x.1 r) ∧ (∀ y, y < 6 ∨ 11 < y → x'.1 1 y = x.1 1 y) ∧ (∀ r, r ≠ 2 → x'.2.1 r = x.2.1 r) ∧ x'.2.2 = x.2.2
def GN (v v' : MM) : Prop := (∀ r, r ≠ 156 → r ≠ 176 → r ≠ 177 → v'.1 r = v.1 r) ∧ (∀ y, (y < 7 ∨ 11 < y ∧ y ≠ 25 ∧ y ≠ 29) → v'.1 156 y = v.1 156 y) ∧ (∀ r, r ≠ 175 → v'.2.1 r = v.2.1 r) ∧ v'.2.2 = v.2.2
theorem FX.n {x x' : MM} (h : FX x x') : FN x x' := ⟨fun r h1 _ => h.2.1 r h1, fun y hy => h.2.2 y (by omega), fun r _ => by rw [h.1], by rw [h.1]⟩
theorem FV.n {v v' : MM} (h : FV v v') : GN v v' := ⟨fun r h1 _ _ => h.2.1 r h1, fun y hy => h.2.2 y (by omega), fun r _ => by rw [h.1], by rw [h.1]⟩
theorem FN.tr {a b c : MM} (h : FN a b) (h2 : FN b c) : FN a c := ⟨fun r h1 h3 => (h2.1 r h1 h3).trans (h.1 r h1 h3), fun y hy => (h2.2.1 y hy).trans (h.2.1 y hy), fun r hr => (h2.2.2.1 r hr).trans (h.2.2.1 r hr), h2.2.2.2.trans h.2.2.2⟩
theorem GN.tr {a b c : MM} (h : GN a b) (h2 : GN b c) : GN a c := ⟨fun r h1 h3 h4 => (h2.1 r h1 h3 h4).trans (h.1 r h1 h3 h4), fun y hy => (h2.2.1 y hy).trans (h.2.1 y hy), fun r hr => (h2.2.2.1 r hr).trans (h.2.2.1 r hr), h2.2.2.2.trans h.2.2.2⟩
theorem TJ.n {x x' v v' : MM} {M : Nat} {K st : Nat → Nat} (h : TJ x v M K st) (hx : FN x x') (hv : GN v v') : TJ x' v' M K st :=
  h.fr (by rw [hx.1 5 (by decide) (by decide)]) (hx.1 7 (by decide) (by decide)) (hx.1 8 (by decide) (by decide)) (hx.2.2.1 9 (by decide)) (hv.1 158 (by decide) (by decide) (by decide)) (hv.1 159 (by decide) (by decide) (by decide)) (hv.1 160 (by decide) (by decide) (by decide)) (hv.2.2.1 161 (by decide))
theorem RA.n {x x' v v' : MM} {M a : Nat} {K st : Nat → Nat} (h : RA x v M K st a) (hx : FN x x') (hv : GN v v') (h6 : x'.1 1 6 = x.1 1 6) : RA x' v' M K st a := ⟨h.1.n hx hv, h.2.1, h6.trans h.2.2⟩
theorem NJ.f {x x' v v' : MM} {M H O : Nat} {K : Nat → Nat} (h : NJ x v M K H O) (hx : FX x x') (hv : FV v v') (hl : x'.1 1 9 = 0 → x.1 1 9 = 0) : NJ x' v' M K H O := by
  obtain ⟨b, own, h1, h2, h3, h4, h5⟩ := h
  refine ⟨b, own, h1, (hx.2.2 11 (by omega)).trans h2, (hv.2.2 25 (by omega)).trans h3, ?_, fun hz => ?_⟩
  · rw [hx.1, hv.1, hx.2.1 3 (by decide), hv.2.1 176 (by decide), hv.2.1 177 (by decide)]
    exact h4
  · rw [hx.1]
    exact h5 (hl hz)
section
variable {x v : MM} {M a H O : Nat} {K st : Nat → Nat}
/-- whose a name is, as the class finds it -/
def owV (x : MM) (n : Nat) (L : Int64) : Int32 := if fa_first (fun i => decide (x.2.1 2 i = L)) n < n then x.1 3 (fa_first (fun i => decide (x.2.1 2 i = L)) n) else -1
theorem ownerX {n : Nat} (h : x.1 1 11 = nI n) (hn : n ≤ 28) (L : Int64) : Runs e_X4_ownerOf [.ref 1, .long L] x (fun r m => r = .int (owV x n L) ∧ m = x) := by
  apply b_X4_ownerOf
  have key : ∀ d i, i + d = n → (∀ j, j < i → ¬ x.2.1 2 j = L) → G e_X4_ownerOf 2 [(0, .ref 1), (1, .long L), (3, .int (nI i))] [] x (fun r m => r = .int (owV x n L) ∧ m = x) := by
    intro d
    induction d with
    | zero =>
      intro i hi hno
      have e : owV x n L = -1 := by
        unfold owV
        rw [if_neg]
        rw [fa_first_none (fun j hj => decide_eq_false (hno j (by omega)))]
        omega
      apply b_X4_ownerOf_2
      rw [h, e]
      exact ⟨fun _ => ⟨rfl, rfl⟩, fun z => absurd (nI_le (by omega) (by omega)) z⟩
    | succ d ih =>
      intro i hi hno
      apply b_X4_ownerOf_2
      rw [h, nI_clamp (by omega), nI_1]
      refine ⟨fun z => absurd z (nI_ge (by omega) (by omega)), fun _ => ⟨fun z => absurd z (nI_ge (b := 28) (by omega) (by omega)), fun _ => ⟨vp_in_nI (by omega) (by omega), fun c => ?_, fun c => ?_⟩⟩⟩
      · exact ih (i + 1) (by omega) fun j hj => by
          rcases Nat.lt_or_eq_of_le (Nat.le_of_lt_succ hj) with z | z
          · exact hno j z
          · subst z; exact fun y => c ((lg_cmp_eq _ _).mpr y)
      · have c := (lg_cmp_eq _ _).mp c
        have e : fa_first (fun i => decide (x.2.1 2 i = L)) n = i := fa_first_at (by omega) (decide_eq_true c) fun j hj => decide_eq_false (hno j hj)
        refine ⟨vp_in_nI (by omega) (by omega), ?_, rfl⟩
        unfold owV
        rw [e, if_pos (by omega)]
  exact key n 0 (by omega) (fun j hj => absurd hj (Nat.not_lt_zero j))
theorem w_ww (y : MM) (k j : Nat) (p q : Int32) : wI (wI y k j p) k j q = wI y k j q := by
  refine Prod.ext (funext fun b => ?_) rfl
  by_cases c : b = k
  · subst c
    rw [wI_k, wI_k, wI_k]
    funext i
    by_cases d : i = j
    · subst d; rw [pk_us, pk_us]
    · rw [pk_un d, pk_un d, pk_un d]
  · rw [wI_o c, wI_o c, wI_o c]
/-- the lowest of the names that fit, as the model finds it -/
def zrV (p : Nat → Bool) (f : Nat → Int32) (n : Nat) : Nat → Int32
  | 0 => -1
  | d + 1 => if p (n - (d + 1)) then f (n - (d + 1)) else zrV p f n d
theorem zrV_at {p : Nat → Bool} {f : Nat → Int32} {n : Nat} : ∀ {d : Nat}, d ≤ n → (zrV p f n d = -1 ∧ ∀ i, n - d ≤ i → i < n → p i = false) ∨ ∃ i, n - d ≤ i ∧ i < n ∧ p i = true ∧ zrV p f n d = f i
  | 0, _ => Or.inl ⟨rfl, fun i h1 h2 => by omega⟩
  | d + 1, h => by
    unfold zrV
    by_cases c : p (n - (d + 1)) = true
    · rw [if_pos c]
      exact Or.inr ⟨n - (d + 1), by omega, by omega, c, rfl⟩
    · rw [if_neg c]
      rcases zrV_at (d := d) (p := p) (f := f) (n := n) (by omega) with ⟨e1, e2⟩ | ⟨i, i1, i2, i3, i4⟩
      · refine Or.inl ⟨e1, fun i h1 h2 => ?_⟩
        by_cases z : i = n - (d + 1)
        · subst z; exact Bool.not_eq_true _ |>.mp c
        · exact e2 i (by omega) h2
      · exact Or.inr ⟨i, by omega, i2, i3, i4⟩
/-- the model's walk over the names -/
theorem nameM {n s : Nat} (ha : a < 402) (h25 : v.1 156 25 = nI n) (hn : n ≤ 28) {Q : Value → MM → Prop} (u : MM) (z0 : Int32)
    (hq : ∀ z, z = zrV (fun i => decide (v.2.1 175 i = v.2.1 161 a) && decide (v.1 176 i = nI s)) (v.1 177) n n → G e_X12_takesName 27 [(0, .ref 156), (1, .int (nI s)), (2, .int (nI a)), (3, .int (-1))] [] (catR u (wI v 156 29 z)) Q) :
    z0 = -1 → G e_X12_takesName 27 [(0, .ref 156), (1, .int (nI s)), (2, .int (nI a)), (3, .int (nI n - 1))] [] (catR u (wI v 156 29 z0)) Q := by
  have key : ∀ k d, k + d = n → ∀ z, z = zrV (fun i => decide (v.2.1 175 i = v.2.1 161 a) && decide (v.1 176 i = nI s)) (v.1 177) n d → G e_X12_takesName 27 [(0, .ref 156), (1, .int (nI s)), (2, .int (nI a)), (3, .int (nI k - 1))] [] (catR u (wI v 156 29 z)) Q := by
    intro k
    induction k with
    | zero =>
      intro d hd z hz
      have : d = n := by omega
      subst this
      exact hq z hz
    | succ k ih =>
      intro d hd z hz
      have ek : nI (k + 1) - 1 = nI k := by
        rw [show nI (k + 1) = nI k + 1 from by rw [nI_1]]
        exact Int32.add_sub_cancel _ _
      have ek2 : nI k + (-1) = nI k - 1 := (Int32.sub_eq_add_neg (nI k) 1).symm
      have g1 : (catR u (wI v 156 29 z)).2.1 175 k = v.2.1 175 k := by rw [cr_2 (by decide)]; rfl
      have g2 : (catR u (wI v 156 29 z)).2.1 161 a = v.2.1 161 a := by rw [cr_2 (by decide)]; rfl
      have g3 : (catR u (wI v 156 29 z)).1 176 k = v.1 176 k := by rw [cr_1 (by decide), wI_o (by decide)]
      have g4 : (catR u (wI v 156 29 z)).1 177 k = v.1 177 k := by rw [cr_1 (by decide), wI_o (by decide)]
      have en : n - (d + 1) = k := by omega
      rw [ek]
      apply b_X12_takesName_27
      rw [nI_clamp (n := k) (by omega), nI_clamp (n := a) (by omega), g1, g2, g3, g4]
      refine ⟨fun c => absurd c (nI_pos (by omega)), fun _ => ⟨vp_in_nI (by omega) (by omega), vp_in_nI (by omega) (by omega), fun c => ?_, fun c => ?_⟩⟩
      · rw [ek2]
        refine ih (d + 1) (by omega) z ?_
        unfold zrV
        rw [en, if_neg]
        · exact hz
        · intro y
          exact c ((lg_cmp_eq _ _).mpr (of_decide_eq_true (Bool.and_eq_true_iff.mp y).1))
      · have c := (lg_cmp_eq _ _).mp c
        refine ⟨vp_in_nI (by omega) (by omega), fun c2 => ?_, fun c2 => ?_⟩
        · rw [ek2]
          refine ih (d + 1) (by omega) z ?_
          unfold zrV
          rw [en, if_neg]
          · exact hz
          · intro y
            exact c2 (of_decide_eq_true (Bool.and_eq_true_iff.mp y).2)
        · refine ⟨vp_in_nI (by omega) (by omega), ?_⟩
          rw [cr_w (by decide), w_ww, ek2]
          refine ih (d + 1) (by omega) _ ?_
          unfold zrV
          rw [en, if_pos]
          exact Bool.and_eq_true_iff.mpr ⟨decide_eq_true c, decide_eq_true c2⟩
  intro hz
  exact key n 0 (by omega) z0 hz
end

/-! the tokens of both sides beside one another -/
def mS (K : Nat) : Nat := if K < 26 then 3 else if K = 26 then 0 else if K = 27 then 1 else if K ≤ 39 then 2 else if K = 40 then 4 else 5
def wmN (K : Nat) : Nat := wmT.getD K 0
def smN (K : Nat) : Nat := [59, 61, 43, 45, 42, 47, 300, 301, 60, 302, 40, 41].getD (K - 28) 0
theorem sg_ok (b : Nat) (e : Bool) : (sgK b e = 41 ∧ sgM b e = 0) ∨ (28 ≤ sgK b e ∧ sgK b e ≤ 39 ∧ 0 < sgM b e ∧ sgM b e = smN (sgK b e)) := by
  unfold sgK sgM
  by_cases c1 : b = 33
  · subst c1; cases e <;> decide
  by_cases c2 : b = 40
  · subst c2; cases e <;> decide
  by_cases c3 : b = 41
  · subst c3; cases e <;> decide
  by_cases c4 : b = 42
  · subst c4; cases e <;> decide
  by_cases c5 : b = 43
  · subst c5; cases e <;> decide
  by_cases c6 : b = 45
  · subst c6; cases e <;> decide
  by_cases c7 : b = 47
  · subst c7; cases e <;> decide
  by_cases c8 : b = 59
  · subst c8; cases e <;> decide
  by_cases c9 : b = 60
  · subst c9; cases e <;> decide
  by_cases c10 : b = 61
  · subst c10; cases e <;> decide
  rw [if_neg c1, if_neg c2, if_neg c3, if_neg c4, if_neg c5, if_neg c6, if_neg c7, if_neg c8, if_neg c9, if_neg c10, if_neg c10, if_neg c1, if_neg c9, if_neg (by omega)]
  exact Or.inl ⟨rfl, rfl⟩
theorem ms_kd {n : Nat} {f : Nat → Nat} {p : Nat} : msT n f p = mS (kdT n f p) := by
  have hw : wkN f p (rnN n f 97 122 p) ≤ 26 := fa_first_le _ _
  unfold kdT msT
  by_cases c0 : n ≤ p
  · rw [if_pos c0, if_pos c0]; rfl
  · rw [if_neg c0, if_neg c0]
    by_cases c1 : 97 ≤ f p ∧ f p ≤ 122
    · rw [if_pos c1, if_pos c1]
      by_cases c8 : 8 < rnL n f 97 122 p
      · rw [if_pos c8, if_pos c8]; rfl
      · rw [if_neg c8, if_neg c8]
        by_cases c26 : wkN f p (rnN n f 97 122 p) = 26
        · rw [if_pos c26, c26]; rfl
        · rw [if_neg c26]
          unfold mS
          rw [if_pos (by omega)]
    · rw [if_neg c1, if_neg c1]
      by_cases c2 : 48 ≤ f p ∧ f p ≤ 57
      · rw [if_pos c2, if_pos c2]
        by_cases c4 : 4 < rnL n f 48 57 p
        · rw [if_pos c4, if_pos c4]; rfl
        · rw [if_neg c4, if_neg c4]; rfl
      · rw [if_neg c2, if_neg c2]
        rcases sg_ok (f p) (eqA n f (p + 1)) with ⟨h1, h2⟩ | ⟨h1, h2, h3, h4⟩
        · rw [h1, h2]; rfl
        · rw [if_neg (by omega)]
          unfold mS
          rw [if_neg (by omega), if_neg (by omega), if_neg (by omega), if_pos h2]
theorem mw_word {n : Nat} {f : Nat → Nat} {p : Nat} (h : kdT n f p < 26) : mwT n f p = nI (wmN (kdT n f p)) := by
  unfold kdT at h ⊢
  unfold mwT
  by_cases c0 : n ≤ p
  · rw [if_pos c0] at h; omega
  · rw [if_neg c0] at h ⊢
    rw [if_neg c0]
    by_cases c1 : 97 ≤ f p ∧ f p ≤ 122
    · rw [if_pos c1] at h ⊢
      rw [if_pos c1]
      by_cases c8 : 8 < rnL n f 97 122 p
      · rw [if_pos c8] at h; omega
      · rw [if_neg c8] at h ⊢
        rw [if_neg c8, if_neg (by omega)]; rfl
    · rw [if_neg c1] at h
      by_cases c2 : 48 ≤ f p ∧ f p ≤ 57
      · rw [if_pos c2] at h
        split at h <;> omega
      · rw [if_neg c2] at h
        rcases sg_ok (f p) (eqA n f (p + 1)) with ⟨h1, h2⟩ | ⟨h1, h2, h3, h4⟩ <;> omega
theorem mw_sign {n : Nat} {f : Nat → Nat} {p : Nat} (h : 28 ≤ kdT n f p ∧ kdT n f p ≤ 39) : mwT n f p = nI (smN (kdT n f p)) := by
  have hw : wkN f p (rnN n f 97 122 p) ≤ 26 := fa_first_le _ _
  unfold kdT at h ⊢
  unfold mwT
  by_cases c0 : n ≤ p
  · rw [if_pos c0] at h; omega
  · rw [if_neg c0] at h ⊢
    rw [if_neg c0]
    by_cases c1 : 97 ≤ f p ∧ f p ≤ 122
    · rw [if_pos c1] at h
      split at h <;> omega
    · rw [if_neg c1] at h ⊢
      rw [if_neg c1]
      by_cases c2 : 48 ≤ f p ∧ f p ≤ 57
      · rw [if_pos c2] at h
        split at h <;> omega
      · rw [if_neg c2] at h ⊢
        rw [if_neg c2]
        rcases sg_ok (f p) (eqA n f (p + 1)) with ⟨h1, h2⟩ | ⟨h1, h2, h3, h4⟩
        · omega
        · rw [h4]
theorem kd_int {n : Nat} {f : Nat → Nat} {p : Nat} (h : kdT n f p = 27) : p < n ∧ (48 ≤ f p ∧ f p ≤ 57) ∧ rnL n f 48 57 p ≤ 4 ∧ mwT n f p = nI (nmN f p (rnL n f 48 57 p)) := by
  have hw : wkN f p (rnN n f 97 122 p) ≤ 26 := fa_first_le _ _
  unfold kdT at h
  unfold mwT
  by_cases c0 : n ≤ p
  · rw [if_pos c0] at h; omega
  · rw [if_neg c0] at h
    rw [if_neg c0]
    by_cases c1 : 97 ≤ f p ∧ f p ≤ 122
    · rw [if_pos c1] at h
      split at h <;> omega
    · rw [if_neg c1] at h
      rw [if_neg c1]
      by_cases c2 : 48 ≤ f p ∧ f p ≤ 57
      · rw [if_pos c2] at h
        rw [if_pos c2]
        by_cases c4 : 4 < rnL n f 48 57 p
        · rw [if_pos c4] at h; omega
        · rw [Nat.min_eq_left (by omega)]
          exact ⟨by omega, c2, by omega, rfl⟩
      · rw [if_neg c2] at h
        rcases sg_ok (f p) (eqA n f (p + 1)) with ⟨h1, h2⟩ | ⟨h1, h2, h3, h4⟩ <;> omega
theorem kd_name {n : Nat} {f : Nat → Nat} {p : Nat} (h : kdT n f p = 26) : p < n ∧ (97 ≤ f p ∧ f p ≤ 122) ∧ rnL n f 97 122 p ≤ 8 := by
  unfold kdT at h
  by_cases c0 : n ≤ p
  · rw [if_pos c0] at h; omega
  · rw [if_neg c0] at h
    by_cases c1 : 97 ≤ f p ∧ f p ≤ 122
    · rw [if_pos c1] at h
      by_cases c8 : 8 < rnL n f 97 122 p
      · rw [if_pos c8] at h; omega
      · exact ⟨by omega, c1, by omega⟩
    · rw [if_neg c1] at h
      by_cases c2 : 48 ≤ f p ∧ f p ≤ 57
      · rw [if_pos c2] at h
        split at h <;> omega
      · rw [if_neg c2] at h
        rcases sg_ok (f p) (eqA n f (p + 1)) with ⟨h1, h2⟩ | ⟨h1, h2, h3, h4⟩ <;> omega
/-- the class's tokens in x, the model's in v -/
def TJ (x v : MM) (M : Nat) (K st : Nat → Nat) : Prop :=
  (x.1 5 5 = nI M ∧ ∀ a, a < M → x.1 7 a = nI (K a) ∧ x.1 8 a = nI (st a)) ∧
  (∀ a, a < M → v.1 158 a = nI (mS (K a)) ∧ v.1 159 a = nI (st a) ∧ (K a < 26 → v.1 160 a = nI (wmN (K a))) ∧ (28 ≤ K a ∧ K a ≤ 39 → v.1 160 a = nI (smN (K a)))) ∧
  (0 < M ∧ M ≤ 401 ∧ (M = 401 ∨ 40 ≤ K (M - 1))) ∧ (∀ a, a < M → K a ≤ 41 ∧ st a ≤ 2000) ∧ (∀ a b, a < b → b < M → st a < st b) ∧ (∀ a, a + 1 < M → K a < 40) ∧
  (∀ a, a < M → K a = 27 → ∃ w : Nat, w ≤ 9999 ∧ x.2.1 9 a = lN w ∧ v.1 160 a = nI w) ∧
  (∀ a b, a < M → b < M → K a = 26 → K b = 26 → (x.2.1 9 a = x.2.1 9 b ↔ v.2.1 161 a = v.2.1 161 b))
theorem lsT_min {n : Nat} {f : Nat → Nat} (h : lsT n f 2001 < 2001) (hl : lastK (kiT n f (lsT n f 2001)) = true) : lsT n f 401 = min 401 (lsT n f 2001) := by
  have hno : ∀ j, j < lsT n f 2001 → lastK (kiT n f j) = false := fun j hj => fa_first_no (fun i => lastK (kiT n f i)) 2001 j hj
  rcases Nat.lt_or_ge (lsT n f 2001) 401 with c | c
  · rw [Nat.min_eq_right (by omega)]
    exact fa_first_at c hl hno
  · rw [Nat.min_eq_left c]
    exact fa_first_none fun j hj => hno j (by omega)
theorem st_lt {n : Nat} {f : Nat → Nat} {LS : Nat} (hno : ∀ j, j < LS → lastK (kiT n f j) = false) : ∀ b a, a < b → b ≤ LS → stT n f a < stT n f b
  | 0, a, h, _ => absurd h (Nat.not_lt_zero _)
  | b + 1, a, h, hb => by
    have h40 : ¬ kiT n f b = 40 := fun z => by have := hno b (by omega); rw [z] at this; cases this
    have h1 := (stT_go (kiT_end h40)).2
    have h2 := (stT_le (n := n) (f := f) (b + 1)).1
    by_cases c : a = b
    · subst c; omega
    · have := st_lt hno b a (by omega) (by omega)
      omega
theorem TJ_of {x v : MM} {n : Nat} {f : Nat → Nat} (hn : n ≤ 2000) (h : lsT n f 2001 < 2001) (hl : lastK (kiT n f (lsT n f 2001)) = true) (h5 : x.1 5 5 = nI (min 401 (lsT n f 401 + 1))) (hX : TokX x n f (min 401 (lsT n f 401 + 1))) (hV : TokM v n f (lsT n f 2001 + 1)) :
    TJ x v (min 401 (lsT n f 401 + 1)) (kiT n f) (stT n f) := by
  have hno : ∀ j, j < lsT n f 2001 → lastK (kiT n f j) = false := fun j hj => fa_first_no (fun i => lastK (kiT n f i)) 2001 j hj
  have em := lsT_min h hl
  have hM : min 401 (lsT n f 401 + 1) ≤ lsT n f 2001 + 1 := by omega
  have hcase : min 401 (lsT n f 401 + 1) = 401 ∨ min 401 (lsT n f 401 + 1) = lsT n f 2001 + 1 := by omega
  have hM401 : min 401 (lsT n f 401 + 1) ≤ 401 := Nat.min_le_left _ _
  generalize min 401 (lsT n f 401 + 1) = M at *
  generalize lsT n f 2001 = LS at *
  have nl : ∀ a, a < LS → kiT n f a < 40 := fun a ha => by
    have := hno a ha
    unfold lastK at this
    have hk := kdT_le (n := n) (f := f) (p := stT n f a)
    simp only [Bool.or_eq_false_iff, beq_eq_false_iff_ne] at this
    unfold kiT at *
    omega
  refine ⟨⟨h5, fun a ha => ⟨(hX a ha).1, (hX a ha).2.1⟩⟩, fun a ha => ?_, ⟨by omega, by omega, ?_⟩, fun a ha => ⟨kdT_le, ?_⟩, fun a b hab hb => st_lt hno b a hab (by omega), fun a ha => nl a (by omega), fun a ha hk => ?_, fun a b ha hb hka hkb => ?_⟩
  · obtain ⟨a1, a2, a3, a4⟩ := hV a (by omega)
    refine ⟨by rw [a1, ms_kd]; rfl, a2, fun hk => ?_, fun hk => ?_⟩
    · rw [a3]; exact mw_word hk
    · rw [a3]; exact mw_sign hk
  · rcases hcase with c | c
    · exact Or.inl c
    · refine Or.inr ?_
      rw [c, Nat.add_sub_cancel]
      unfold lastK at hl
      simp only [Bool.or_eq_true, beq_iff_eq] at hl
      omega
  · have := (stT_le (n := n) (f := f) a).2; omega
  · obtain ⟨i1, i2, i3, i4⟩ := kd_int hk
    have hb := nmN_lt (f := f) (p := stT n f a) (rnL n f 48 57 (stT n f a)) fun j hj => rnN_in hj
    have hb2 : 10 ^ rnL n f 48 57 (stT n f a) ≤ 10 ^ 4 := Nat.pow_le_pow_right (by decide) i3
    exact ⟨nmN f (stT n f a) (rnL n f 48 57 (stT n f a)), by omega, ((hX a ha).2.2 i1).2 i2 i3, by rw [(hV a (by omega)).2.2.1]; exact i4⟩
  · obtain ⟨i1, i2, i3⟩ := kd_name hka
    obtain ⟨j1, j2, j3⟩ := kd_name hkb
    rw [((hX a ha).2.2 i1).1 i2 i3, ((hX b hb).2.2 j1).1 j2 j3, (hV a (by omega)).2.2.2 i1 i2 i3, (hV b (by omega)).2.2.2 j1 j2 j3]
    have la : ∀ i, i < rnL n f 97 122 (stT n f a) → 97 ≤ f (stT n f a + i) ∧ f (stT n f a + i) ≤ 122 := fun i hi => rnN_in hi
    have lb : ∀ i, i < rnL n f 97 122 (stT n f b) → 97 ≤ f (stT n f b + i) ∧ f (stT n f b + i) ≤ 122 := fun i hi => rnN_in hi
    have x1 := n32_lt _ la
    have x2 := n32_lt _ lb
    have y1 := n27_lt _ la
    have y2 := n27_lt _ lb
    have p1 : 32 ^ rnL n f 97 122 (stT n f a) ≤ 32 ^ 8 := Nat.pow_le_pow_right (by decide) i3
    have p2 : 32 ^ rnL n f 97 122 (stT n f b) ≤ 32 ^ 8 := Nat.pow_le_pow_right (by decide) j3
    have p3 : 27 ^ rnL n f 97 122 (stT n f a) ≤ 27 ^ 8 := Nat.pow_le_pow_right (by decide) i3
    have p4 : 27 ^ rnL n f 97 122 (stT n f b) ≤ 27 ^ 8 := Nat.pow_le_pow_right (by decide) j3
    have p5 : 32 ^ 8 < 2 ^ 63 := by decide
    have p6 : 27 ^ 8 < 2 ^ 63 := by decide
    rw [fb_lN_inj (by omega) (by omega), fb_lN_inj (by omega) (by omega)]
    exact nm_same la lb

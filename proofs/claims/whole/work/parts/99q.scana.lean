/-! all the model's tokens -/
def TokM (m : MM) (n : Nat) (f : Nat → Nat) (M : Nat) : Prop := ∀ j, j < M → m.1 158 j = nI (msT n f (stT n f j)) ∧ m.1 159 j = nI (stT n f j) ∧ m.1 160 j = mwT n f (stT n f j) ∧ NlT n f (stT n f j) (m.2.1 161 j)
def FrV (m m' : MM) : Prop := m'.2.2 = m.2.2 ∧ (∀ x y, x ≠ 158 → x ≠ 159 → x ≠ 160 → ¬ (x = 156 ∧ y = 2) → m'.1 x y = m.1 x y)
theorem msT_le {n : Nat} {f : Nat → Nat} {p : Nat} : msT n f p ≤ 5 := by
  unfold msT
  repeat' split
  all_goals omega
theorem last_iff {n : Nat} {f : Nat → Nat} {p : Nat} : (kdT n f p = 40 ↔ msT n f p = 4) ∧ (kdT n f p = 41 ↔ msT n f p = 5) := by
  have hw : wkN f p (rnN n f 97 122 p) ≤ 26 := fa_first_le _ _
  unfold kdT msT
  by_cases c0 : n ≤ p
  · rw [if_pos c0, if_pos c0]; omega
  · rw [if_neg c0, if_neg c0]
    by_cases c1 : 97 ≤ f p ∧ f p ≤ 122
    · rw [if_pos c1, if_pos c1]
      repeat' split
      all_goals omega
    · rw [if_neg c1, if_neg c1]
      by_cases c2 : 48 ≤ f p ∧ f p ≤ 57
      · rw [if_pos c2, if_pos c2]
        repeat' split
        all_goals omega
      · rw [if_neg c2, if_neg c2]
        unfold sgK sgM
        cases eqA n f (p + 1) <;> simp only [cond_false, cond_true] <;> (repeat' split) <;> omega
theorem skN_step {n : Nat} {f : Nat → Nat} {p k : Nat} (h1 : p ≤ k) (h2 : k < skN n f p) : blB (f k) = true := by
  have := skN_bl (n := n) (f := f) (p := p) (j := k - p) (by unfold skN at h2; omega)
  rwa [show p + (k - p) = k by omega] at this
theorem TokM.fr {m m' : MM} {n i : Nat} {f : Nat → Nat} (h : TokM m n f i) (k : FrU i m m') : TokM m' n f i := fun j hj => by
  obtain ⟨a1, a2, a3, a4⟩ := h j hj
  rw [k.2.1 158 j (by omega) (by omega), k.2.1 159 j (by omega) (by omega), k.2.1 160 j (by omega) (by omega), k.2.2 j (by omega)]
  exact ⟨a1, a2, a3, a4⟩
theorem FrU.v {m m' : MM} {i : Nat} (k : FrU i m m') : FrV m m' := ⟨k.1, fun x y h1 h2 h3 h4 => k.2.1 x y (by omega) h4⟩
theorem FrV.tr {a b c : MM} (h : FrV a b) (h2 : FrV b c) : FrV a c := ⟨h2.1.trans h.1, fun x y e1 e2 e3 e4 => (h2.2 x y e1 e2 e3 e4).trans (h.2 x y e1 e2 e3 e4)⟩
theorem FrV.tap {m m' : MM} {n : Nat} {f : Nat → Nat} (h : FrV m m') (t : TapM m n f) : TapM m' n f := ⟨by rw [h.2 156 0 (by decide) (by decide) (by decide) (by decide)]; exact t.1, t.2.1, fun p hp => by rw [h.2 157 p (by decide) (by decide) (by decide) (by omega)]; exact t.2.2 p hp⟩
theorem scanAll_ok {m : MM} {n : Nat} {f : Nat → Nat} (h : TapM m n f) : Runs e_X12_scanAll [.ref 156] m (fun r m' => r = .null ∧ (FrV m m' ∧ lsT n f 2001 < 2001 ∧ lastK (kiT n f (lsT n f 2001)) = true ∧ m'.1 156 2 = nI (lsT n f 2001 + 1) ∧ TokM m' n f (lsT n f 2001 + 1))) := by
  have hn := h.2.1
  have hle := fa_first_le (fun i => lastK (kiT n f i)) 2001
  have hno : ∀ j, j < lsT n f 2001 → lastK (kiT n f j) = false := fun j hj => fa_first_no (fun i => lastK (kiT n f i)) 2001 j hj
  have hlt : lsT n f 2001 < 2001 := by
    rcases Nat.lt_or_ge (lsT n f 2001) 2001 with c | c
    · exact c
    · have a := stT_up (n := n) (f := f) (i := 2001) fun j hj => hno j (by omega)
      have b := psT_le (n := n) (f := f) 2001
      omega
  have hyes : lastK (kiT n f (lsT n f 2001)) = true := fa_first_yes (fun i => lastK (kiT n f i)) 2001 hlt
  have hle' : lsT n f 2001 ≤ 2001 := hle
  generalize hLS : lsT n f 2001 = LS at *
  have uniq : ∀ i, i ≤ LS → lastK (kiT n f i) = true → i = LS := fun i hi hl => by
    rcases Nat.lt_or_ge i LS with c | c
    · rw [hno i c] at hl; cases hl
    · omega
  have stop : ∀ i, i ≤ LS → i ≠ LS → lastK (kiT n f i) = false := fun i hi hne => hno i (by omega)
  apply b_X12_scanAll
  refine loop_mu (Y := e_X12_scanAll) (pc := 9) (σ := Nat × Nat) (fun x => [(0, .ref 156), (1, .int (nI x.1)), (2, .int (1 : Int32))]) (fun x m' => FrV m m' ∧ m'.1 156 2 = nI x.2 ∧ TokM m' n f x.2 ∧ x.2 ≤ LS ∧ psT n f x.2 ≤ x.1 ∧ x.1 ≤ stT n f x.2) (fun x => n - x.1) ?_ (0, 0) _ ⟨⟨rfl, fun x y _ _ _ h4 => ?_⟩, by rw [wI_k, pk_us]; rfl, fun j hj => absurd hj (Nat.not_lt_zero _), Nat.zero_le _, Nat.le_refl _, Nat.zero_le _⟩
  · rintro ⟨k, i⟩ m1 ⟨q1, q2, q3, q4, q5, q6⟩ hgo
    have q2 : m1.1 156 2 = nI i := q2
    have q3 : TokM m1 n f i := q3
    have q4 : i ≤ LS := q4
    have q5 : psT n f i ≤ k := q5
    have q6 : k ≤ stT n f i := q6
    have t1 := q1.tap h
    have hst := stT_le (n := n) (f := f) i
    refine b_X12_scanAll_9 _ _ _ _ ?_
    rw [t1.1]
    by_cases ck : k = n
    · -- the end
      have est : stT n f i = n := by omega
      have ek : kiT n f i = 40 := by unfold kiT kdT; rw [if_pos (by omega)]
      have ei : i = LS := uniq i q4 (by rw [ek]; rfl)
      refine ⟨fun _ => ⟨fun z => absurd z (by decide), fun _ => vcall (token_ok (by omega) q2 _ _ _) ?_⟩, fun z => absurd (nI_le (by omega) (by omega)) z⟩
      rintro m2 rfl
      obtain ⟨a1, a2, a3, a4⟩ := tk_at m1 i (4 : Int32) (nI n) (0 : Int32)
      have fr : FrU i m1 (tkM m1 i (4 : Int32) (nI n) (0 : Int32)) := FrU_tk rfl rfl (fun _ _ => rfl) _ _ _
      refine ⟨rfl, q1.tr fr.v, hlt, hyes, by rw [a4, ei], fun j hj => ?_⟩
      by_cases cj : j = i
      · subst cj
        have ems : msT n f (stT n f j) = 4 := last_iff.1.mp ek
        have emw : mwT n f (stT n f j) = 0 := by unfold mwT; rw [if_pos (by omega)]
        exact ⟨by rw [a1, ems]; rfl, by rw [a2, est], by rw [a3, emw], fun z => absurd z (by omega)⟩
      · exact q3.fr fr j (by omega)
    · have hk : k < n := by omega
      obtain ⟨oB, eB⟩ := byteM (p := k) t1 (by omega)
      have eb : byM n f k = f k := by unfold byM; rw [if_pos hk]
      rw [eb] at eB
      have hf := (h.2.2 k hk).2
      rw [eB, show (32 : Int32) = nI 32 from rfl, show (9 : Int32) = nI 9 from rfl, show (10 : Int32) = nI 10 from rfl, show (13 : Int32) = nI 13 from rfl, nI_eq (by omega) (by omega), nI_eq (by omega) (by omega), nI_eq (by omega) (by omega), nI_eq (by omega) (by omega)]
      refine ⟨fun z => absurd z (nI_ge hk (by omega)), fun _ => ⟨fun z => absurd z (by decide), fun _ => ⟨oB, ?_⟩⟩⟩
      have blank : blB (f k) = true → G e_X12_scanAll 9 [(0, .ref 156), (1, .int (nI k + 1)), (2, .int (1 : Int32))] [] m1 (fun r m' => r = .null ∧ (FrV m m' ∧ LS < 2001 ∧ lastK (kiT n f LS) = true ∧ m'.1 156 2 = nI (LS + 1) ∧ TokM m' n f (LS + 1))) := fun hb => by
        have c : k < stT n f i := by
          rcases Nat.lt_or_ge k (stT n f i) with c | c
          · exact c
          · have e : k = stT n f i := by omega
            have := skN_nb (n := n) (f := f) (p := psT n f i) (by unfold stT at e; omega)
            unfold stT at e
            rw [← e, hb] at this
            cases this
        rw [nI_1]
        exact hgo (k + 1, i) m1 ⟨q1, q2, q3, q4, by show psT n f i ≤ k + 1; omega, by show k + 1 ≤ stT n f i; omega⟩ (by show n - (k + 1) < n - k; omega)
      have bb : blB (f k) = true ↔ (f k = 9 ∨ f k = 10 ∨ f k = 13 ∨ f k = 32) := by
        unfold blB
        simp only [Bool.or_eq_true, beq_iff_eq]
        omega
      refine ⟨fun c => blank (bb.mpr (by omega)), fun d1 => ⟨fun c => blank (bb.mpr (by omega)), fun d2 => ⟨fun c => blank (bb.mpr (by omega)), fun d3 => ⟨fun d4 => ?_, fun c => blank (bb.mpr (by omega))⟩⟩⟩⟩
      have nb : ¬ blB (f k) = true := fun z => by have := bb.mp z; omega
      have est : k = stT n f i := by
        rcases Nat.lt_or_ge k (stT n f i) with c | c
        · exact absurd (skN_step q5 c) nb
        · omega
      have hsl : stT n f i < n := by omega
      have hi2 : i < 2001 := by omega
      refine icall (scanM_ok (p := k) t1 hi2 hk q2) ?_
      rintro m2 ⟨g1, g2, g3, g4, g5, g6⟩
      have hms := msT_le (n := n) (f := f) (p := k)
      have ecnt : m2.1 156 2 - 1 = nI i := by rw [g5]; exact nI_pred i
      have tk2 : TokM m2 n f (i + 1) := fun j hj => by
        by_cases cj : j = i
        · subst cj
          rw [← est]
          exact ⟨g2, g3, g4, g6⟩
        · exact q3.fr g1 j (by omega)
      rw [ecnt, nI_clamp (by omega), g2, show (5 : Int32) = nI 5 from rfl, nI_eq (by omega) (by omega)]
      refine ⟨vp_in_nI hi2 (by omega), fun c5 => ?_, fun c5 => ?_⟩
      · have ek : kiT n f i = 41 := by unfold kiT; rw [← est]; exact last_iff.2.mpr c5
        have ei : i = LS := uniq i q4 (by rw [ek]; rfl)
        have fin : (fun r m' => r = Value.null ∧ (FrV m m' ∧ LS < 2001 ∧ lastK (kiT n f LS) = true ∧ m'.1 156 2 = nI (LS + 1) ∧ TokM m' n f (LS + 1))) .null m2 := ⟨rfl, q1.tr g1.v, hlt, hyes, by rw [g5, ei], by rw [← ei]; exact tk2⟩
        refine b_X12_scanAll_9 _ _ _ _ ⟨fun _ => ⟨fun _ => fin, fun z => absurd rfl z⟩, fun _ => ⟨fun _ => ⟨fun _ => fin, fun z => absurd rfl z⟩, fun z => absurd rfl z⟩⟩
      · have nl : i ≠ LS := fun z => by
          have n4 : ¬ kiT n f i = 40 := fun y => by
            unfold kiT kdT at y
            rw [if_neg (by omega)] at y
            have := last_iff (n := n) (f := f) (p := stT n f i)
            have y2 : kdT n f (stT n f i) = 40 := by unfold kdT; rw [if_neg (by omega)]; exact y
            have := this.1.mp y2
            unfold msT at this
            rw [if_neg (by omega)] at this
            revert this
            repeat' split
            all_goals omega
          have n5 : ¬ kiT n f i = 41 := fun y => c5 (by rw [est]; exact last_iff.2.mp y)
          rw [← z] at hyes
          unfold lastK at hyes
          simp only [Bool.or_eq_true, beq_iff_eq] at hyes
          omega
        have eps : psT n f (i + 1) = enT n f k := by rw [(stT_go hsl).1, est]
        have hen := enT_le (n := n) (f := f) hk
        have hs1 := stT_le (n := n) (f := f) (i + 1)
        exact hgo (enT n f k, i + 1) m2 ⟨q1.tr g1.v, g5, tk2, by show i + 1 ≤ LS; omega, by show psT n f (i + 1) ≤ enT n f k; omega, by show enT n f k ≤ stT n f (i + 1); omega⟩ (by show n - enT n f k < n - k; omega)
  · by_cases c : x = 156
    · subst c
      rw [wI_k, pk_un (fun z => h4 ⟨rfl, z⟩)]
    · rw [wI_o c]

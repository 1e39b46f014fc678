/-! all nights, the class -/
noncomputable def avs (st : Nat → Int32) (tide : Int32) (W J C : Nat) (ln wn wh we : Nat → Nat) (wu : Nat → Bool) (n : Nat) (q : (Nat → Nat) × (Nat → Nat) × Nat) : Nat → Nat × ((Nat → Nat) × (Nat → Nat) × Nat)
  | 0 => (0, q)
  | N + 1 => if ¬ (avs st tide W J C ln wn wh we wu n q N).1 = 0 then avs st tide W J C ln wn wh we wu n q N else nightV st tide W J C ln wn wh we wu n N (avs st tide W J C ln wn wh we wu n q N).2
section
variable {st : Nat → Int32} {tide : Int32} {W J C n : Nat} {ln wn wh we : Nat → Nat} {wu : Nat → Bool} {q : (Nat → Nat) × (Nat → Nat) × Nat}
theorem night_idle {N : Nat} (h : ∀ i, i < n → ¬ wn i = N) : nightV st tide W J C ln wn wh we wu n N q = (0, q) := by
  unfold nightV
  rw [nvs_idle n h, if_neg (by simp)]
  exact cite_neg (fun z => z (and_not_self _))
theorem avs_stop {k : Nat} (h : ¬ (avs st tide W J C ln wn wh we wu n q k).1 = 0) : ∀ j, k ≤ j → avs st tide W J C ln wn wh we wu n q j = avs st tide W J C ln wn wh we wu n q k
  | 0, hj => by
    obtain rfl : k = 0 := by omega
    rfl
  | j + 1, hj => by
    rcases Nat.lt_or_ge j k with c | c
    · obtain rfl : k = j + 1 := by omega
      rfl
    · have ih := avs_stop h j c
      rw [avs, ih, if_pos h]
theorem avs_idle {k : Nat} (h0 : (avs st tide W J C ln wn wh we wu n q k).1 = 0) : ∀ j, k ≤ j → (∀ i, i < n → ¬ (k ≤ wn i ∧ wn i < j)) → avs st tide W J C ln wn wh we wu n q j = avs st tide W J C ln wn wh we wu n q k
  | 0, hj, _ => by
    obtain rfl : k = 0 := by omega
    rfl
  | j + 1, hj, h => by
    rcases Nat.lt_or_ge j k with c | c
    · obtain rfl : k = j + 1 := by omega
      rfl
    · have ih := avs_idle h0 j c (fun i hi z => h i hi ⟨z.1, by omega⟩)
      rw [avs, ih, if_neg (not_not_intro h0), night_idle (fun i hi z => h i hi ⟨by omega, by omega⟩)]
      exact Prod.ext h0.symm rfl
end
def na (wn : Nat → Nat) (T : Nat) : Nat → Option Nat
  | 0 => none
  | i + 1 => if wn i < T then na wn T i else
    match na wn T i with
    | none => some (wn i)
    | some f => if f ≤ wn i then some f else some (wn i)
def oI : Option Nat → Int32
  | none => -1
  | some f => nI f
theorem na_none {wn : Nat → Nat} {T : Nat} : ∀ n, na wn T n = none → ∀ i, i < n → wn i < T
  | 0, _, i, hi => absurd hi (Nat.not_lt_zero _)
  | n + 1, h, i, hi => by
    rw [na] at h
    by_cases c : wn n < T
    · rw [if_pos c] at h
      by_cases cc : i = n
      · subst cc; exact c
      · exact na_none n h i (by omega)
    · rw [if_neg c] at h
      cases e : na wn T n with
      | none => rw [e] at h; cases h
      | some f =>
        rw [e] at h
        by_cases c2 : f ≤ wn n
        · simp only [if_pos c2] at h; cases h
        · simp only [if_neg c2] at h; cases h
theorem na_some {wn : Nat → Nat} {T : Nat} : ∀ n f, na wn T n = some f → T ≤ f ∧ (∃ i, i < n ∧ wn i = f) ∧ ∀ i, i < n → T ≤ wn i → f ≤ wn i
  | 0, f, h => by cases h
  | n + 1, f, h => by
    rw [na] at h
    by_cases c : wn n < T
    · rw [if_pos c] at h
      obtain ⟨h1, ⟨i, hi, e⟩, h3⟩ := na_some n f h
      refine ⟨h1, ⟨i, by omega, e⟩, fun j hj hT => ?_⟩
      by_cases cc : j = n
      · subst cc; omega
      · exact h3 j (by omega) hT
    · rw [if_neg c] at h
      cases e : na wn T n with
      | none =>
        rw [e] at h
        have h : wn n = f := Option.some.inj h
        refine ⟨by omega, ⟨n, by omega, h⟩, fun j hj hT => ?_⟩
        by_cases cc : j = n
        · subst cc; omega
        · have := na_none n e j (by omega); omega
      | some g =>
        rw [e] at h
        obtain ⟨h1, ⟨i, hi, e1⟩, h3⟩ := na_some n g e
        by_cases c2 : g ≤ wn n
        · simp only [if_pos c2] at h
          have h : g = f := Option.some.inj h
          subst h
          refine ⟨h1, ⟨i, by omega, e1⟩, fun j hj hT => ?_⟩
          by_cases cc : j = n
          · subst cc; exact c2
          · exact h3 j (by omega) hT
        · simp only [if_neg c2] at h
          have h : wn n = f := Option.some.inj h
          refine ⟨by omega, ⟨n, by omega, h⟩, fun j hj hT => ?_⟩
          by_cases cc : j = n
          · subst cc; omega
          · have := h3 j (by omega) hT; omega
def cnW (wn : Nat → Nat) (T : Nat) : Nat → Nat
  | 0 => 0
  | i + 1 => cnW wn T i + if wn i < T then 1 else 0
theorem cnW_le {wn : Nat → Nat} {T : Nat} : ∀ n, cnW wn T n ≤ n
  | 0 => Nat.le_refl _
  | n + 1 => by
    have := cnW_le (wn := wn) (T := T) n
    rw [cnW]
    split <;> omega
theorem cnW_all {wn : Nat → Nat} {T : Nat} : ∀ n, cnW wn T n = n → ∀ i, i < n → wn i < T
  | 0, _, i, hi => absurd hi (Nat.not_lt_zero _)
  | n + 1, h, i, hi => by
    have h2 := cnW_le (wn := wn) (T := T) n
    rw [cnW] at h
    by_cases c : wn n < T
    · rw [if_pos c] at h
      by_cases cc : i = n
      · subst cc; exact c
      · exact cnW_all n (by omega) i (by omega)
    · rw [if_neg c] at h; omega
theorem cnW_mono {wn : Nat → Nat} {T U : Nat} (h : T ≤ U) : ∀ n, cnW wn T n ≤ cnW wn U n
  | 0 => Nat.le_refl _
  | n + 1 => by
    have := cnW_mono (wn := wn) h n
    rw [cnW, cnW]
    by_cases c : wn n < T
    · rw [if_pos c, if_pos (by omega)]; omega
    · rw [if_neg c]; omega
theorem cnW_more {wn : Nat → Nat} {T f : Nat} (hT : T ≤ f) : ∀ n, (∃ i, i < n ∧ wn i = f) → cnW wn T n + 1 ≤ cnW wn (f + 1) n
  | 0, ⟨i, hi, _⟩ => absurd hi (Nat.not_lt_zero _)
  | n + 1, ⟨i, hi, e⟩ => by
    have hm := cnW_mono (wn := wn) (T := T) (U := f + 1) (by omega) n
    rw [cnW, cnW]
    by_cases c : i = n
    · subst c
      rw [if_neg (by omega), if_pos (by omega)]; omega
    · have := cnW_more hT n ⟨i, by omega, e⟩
      by_cases c2 : wn n < T
      · rw [if_pos c2, if_pos (by omega)]; omega
      · rw [if_neg c2]; omega
theorem le_pred {w T : Nat} (hw : w ≤ 99) (hT : T ≤ 100) : nI w ≤ nI T - 1 ↔ w < T := by
  rcases Nat.eq_zero_or_pos T with h | h
  · subst h
    refine ⟨fun z => ?_, fun z => absurd z (Nat.not_lt_zero _)⟩
    rw [Int32.le_iff_toInt_le, nI_toInt (by omega)] at z
    have : (nI 0 - 1 : Int32).toInt = -1 := by decide
    omega
  · obtain ⟨k, rfl⟩ : ∃ k, T = k + 1 := ⟨T - 1, by omega⟩
    rw [nI_pred]
    refine ⟨fun z => ?_, fun z => nI_le (by omega) (by omega)⟩
    rcases Nat.lt_or_ge w (k + 1) with c | c
    · exact c
    · exact absurd z (nI_ge (by omega) (by omega))
theorem nI_nm1 {f : Nat} (h : f ≤ 99) : ¬ nI f = (-1 : Int32) := by
  have := s_neF (a := f) (b := 1) (by omega) (by omega) (by omega)
  rw [show (-1 : Int32) = -nI 1 from rfl, this]; exact fun z => z
theorem nightAfter_ok {m : MM} {s n T : Nat} {wn : Nat → Nat} (hs : isS s) (hn : n ≤ 40) (hT : T ≤ 100) (e7 : m.1 s 7 = nI n) (hw : ∀ i, i < n → wn i ≤ 99 ∧ m.1 (s + 4) i = nI (wn i)) : Runs e_X9_nightAfter [.ref s, .int (nI T - 1)] m (fun r m' => r = .int (oI (na wn T n)) ∧ m' = m) := by
  refine b_X9_nightAfter _ _ _ _ hs.at ?_
  refine for_up (Y := e_X9_nightAfter) (pc := 4) (fun k => [(0, .ref s), (1, .int (nI T - 1)), (2, .int (oI (na wn T k))), (3, .int (nI k))]) (fun k m' => m' = m) n ?_ ?_ 0 m (by omega) rfl
  · rintro m' rfl
    refine b_X9_nightAfter_4 _ _ _ _ _ _ hs.at ?_
    rw [e7]
    exact ⟨fun _ => ⟨rfl, rfl⟩, fun z => absurd (nI_le (Nat.le_refl _) (by omega)) z⟩
  · rintro k m' hk rfl hg
    obtain ⟨w1, w2⟩ := hw k hk
    have hg := hg m' rfl
    refine b_X9_nightAfter_4 _ _ _ _ _ _ hs.at ?_
    rw [e7, nI_clamp (by omega), w2, le_pred w1 hT, nI_1]
    refine ⟨fun z => absurd z (nI_ge hk (by omega)), fun _ => ⟨vp_in_nI (by omega) (by omega), fun c => ?_, fun c => ?_⟩⟩
    · rw [na, if_pos c] at hg
      exact hg
    · rw [na, if_neg c] at hg
      cases e : na wn T k with
      | none =>
        rw [e] at hg
        exact ⟨fun _ => hg, fun z => absurd rfl z⟩
      | some f =>
        rw [e] at hg
        obtain ⟨-, ⟨i, hi, ei⟩, -⟩ := na_some k f e
        have hf : f ≤ 99 := ei ▸ (hw i (by omega)).1
        refine ⟨fun z => absurd z (nI_nm1 hf), fun _ => ?_⟩
        by_cases c2 : f ≤ wn k
        · simp only [if_pos c2] at hg
          exact ⟨fun _ => hg, fun z => absurd (nI_le c2 (by omega)) z⟩
        · simp only [if_neg c2] at hg
          exact ⟨fun z => absurd z (nI_ge (by omega) (by omega)), fun _ => hg⟩

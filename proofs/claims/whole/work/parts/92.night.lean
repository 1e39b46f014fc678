/-! a night of WORKS -/
def nvs (W J C : Nat) (ln wn wh we : Nat → Nat) (wu : Nat → Bool) (N : Nat) (q0 : (Nat → Nat) × (Nat → Nat) × Nat) : Nat → Nat × ((Nat → Nat) × (Nat → Nat) × Nat) × Nat × Nat
  | 0 => (0, q0, 0, 0)
  | i + 1 =>
    if ¬ (nvs W J C ln wn wh we wu N q0 i).1 = 0 then nvs W J C ln wn wh we wu N q0 i
    else if ¬ wn i = N then nvs W J C ln wn wh we wu N q0 i
    else if (nvs W J C ln wn wh we wu N q0 i).2.2.1 = C then (10 * i + 1, q0, 0, 0)
    else if ¬ (wrk W J ln (nvs W J C ln wn wh we wu N q0 i).2.1.1 (nvs W J C ln wn wh we wu N q0 i).2.1.2.1 (nvs W J C ln wn wh we wu N q0 i).2.1.2.2 (wh i) (we i) (wu i)).1 = 0 then (10 * i + (wrk W J ln (nvs W J C ln wn wh we wu N q0 i).2.1.1 (nvs W J C ln wn wh we wu N q0 i).2.1.2.1 (nvs W J C ln wn wh we wu N q0 i).2.1.2.2 (wh i) (we i) (wu i)).1, q0, 0, 0)
    else (0, (wrk W J ln (nvs W J C ln wn wh we wu N q0 i).2.1.1 (nvs W J C ln wn wh we wu N q0 i).2.1.2.1 (nvs W J C ln wn wh we wu N q0 i).2.1.2.2 (wh i) (we i) (wu i)).2, (nvs W J C ln wn wh we wu N q0 i).2.2.1 + 1, i)
section
variable {W J C : Nat} {ln wn wh we : Nat → Nat} {wu : Nat → Bool} {N : Nat} {q0 : (Nat → Nat) × (Nat → Nat) × Nat}
theorem nvs_stop {k : Nat} (h : ¬ (nvs W J C ln wn wh we wu N q0 k).1 = 0) : ∀ j, k ≤ j → nvs W J C ln wn wh we wu N q0 j = nvs W J C ln wn wh we wu N q0 k
  | 0, hj => by
    obtain rfl : k = 0 := by omega
    rfl
  | j + 1, hj => by
    rcases Nat.lt_or_ge j k with c | c
    · obtain rfl : k = j + 1 := by omega
      rfl
    · have ih := nvs_stop h j c
      rw [nvs, ih, if_pos h]
theorem nvs_skip {k : Nat} (h : (nvs W J C ln wn wh we wu N q0 k).1 = 0) (c : ¬ wn k = N) : nvs W J C ln wn wh we wu N q0 (k + 1) = nvs W J C ln wn wh we wu N q0 k := by
  rw [nvs, if_neg (not_not_intro h), if_pos c]
theorem nvs_full {k : Nat} (h : (nvs W J C ln wn wh we wu N q0 k).1 = 0) (c : wn k = N) (c2 : (nvs W J C ln wn wh we wu N q0 k).2.2.1 = C) : nvs W J C ln wn wh we wu N q0 (k + 1) = (10 * k + 1, q0, 0, 0) := by
  rw [nvs, if_neg (not_not_intro h), if_neg (not_not_intro c), if_pos c2]
theorem nvs_bad {k : Nat} (h : (nvs W J C ln wn wh we wu N q0 k).1 = 0) (c : wn k = N) (c2 : ¬ (nvs W J C ln wn wh we wu N q0 k).2.2.1 = C) {r : Nat} (hr : (wrk W J ln (nvs W J C ln wn wh we wu N q0 k).2.1.1 (nvs W J C ln wn wh we wu N q0 k).2.1.2.1 (nvs W J C ln wn wh we wu N q0 k).2.1.2.2 (wh k) (we k) (wu k)).1 = r) (c3 : ¬ r = 0) : nvs W J C ln wn wh we wu N q0 (k + 1) = (10 * k + r, q0, 0, 0) := by
  rw [nvs, if_neg (not_not_intro h), if_neg (not_not_intro c), if_neg c2, hr, if_pos c3]
theorem nvs_go {k : Nat} (h : (nvs W J C ln wn wh we wu N q0 k).1 = 0) (c : wn k = N) (c2 : ¬ (nvs W J C ln wn wh we wu N q0 k).2.2.1 = C) (c3 : (wrk W J ln (nvs W J C ln wn wh we wu N q0 k).2.1.1 (nvs W J C ln wn wh we wu N q0 k).2.1.2.1 (nvs W J C ln wn wh we wu N q0 k).2.1.2.2 (wh k) (we k) (wu k)).1 = 0) : nvs W J C ln wn wh we wu N q0 (k + 1) = (0, (wrk W J ln (nvs W J C ln wn wh we wu N q0 k).2.1.1 (nvs W J C ln wn wh we wu N q0 k).2.1.2.1 (nvs W J C ln wn wh we wu N q0 k).2.1.2.2 (wh k) (we k) (wu k)).2, (nvs W J C ln wn wh we wu N q0 k).2.2.1 + 1, k) := by
  rw [nvs, if_neg (not_not_intro h), if_neg (not_not_intro c), if_neg c2, if_neg (not_not_intro c3)]
theorem nvs_many : ∀ k, (nvs W J C ln wn wh we wu N q0 k).2.2.1 ≤ C
  | 0 => Nat.zero_le _
  | k + 1 => by
    have ih := nvs_many k
    by_cases h : (nvs W J C ln wn wh we wu N q0 k).1 = 0
    · by_cases c : wn k = N
      · by_cases c2 : (nvs W J C ln wn wh we wu N q0 k).2.2.1 = C
        · rw [nvs_full h c c2]; exact Nat.zero_le _
        · by_cases c3 : (wrk W J ln (nvs W J C ln wn wh we wu N q0 k).2.1.1 (nvs W J C ln wn wh we wu N q0 k).2.1.2.1 (nvs W J C ln wn wh we wu N q0 k).2.1.2.2 (wh k) (we k) (wu k)).1 = 0
          · rw [nvs_go h c c2 c3]
            show (nvs W J C ln wn wh we wu N q0 k).2.2.1 + 1 ≤ C
            omega
          · rw [nvs_bad h c c2 rfl c3]; exact Nat.zero_le _
      · rw [nvs_skip h c]; exact ih
    · rw [nvs_stop h (k + 1) (by omega)]; exact ih
/-- with none made, all is as it was -/
theorem nvs_none : ∀ k, (nvs W J C ln wn wh we wu N q0 k).1 = 0 → (nvs W J C ln wn wh we wu N q0 k).2.2.1 = 0 → (nvs W J C ln wn wh we wu N q0 k).2.1 = q0
  | 0, _, _ => rfl
  | k + 1, h1, h2 => by
    by_cases h : (nvs W J C ln wn wh we wu N q0 k).1 = 0
    · by_cases c : wn k = N
      · by_cases c2 : (nvs W J C ln wn wh we wu N q0 k).2.2.1 = C
        · rw [nvs_full h c c2]
        · by_cases c3 : (wrk W J ln (nvs W J C ln wn wh we wu N q0 k).2.1.1 (nvs W J C ln wn wh we wu N q0 k).2.1.2.1 (nvs W J C ln wn wh we wu N q0 k).2.1.2.2 (wh k) (we k) (wu k)).1 = 0
          · rw [nvs_go h c c2 c3] at h2
            exact absurd h2 (Nat.succ_ne_zero _)
          · rw [nvs_bad h c c2 rfl c3]
      · rw [nvs_skip h c] at h1 h2 ⊢
        exact nvs_none k h1 h2
    · rw [nvs_stop h (k + 1) (by omega)] at h1
      exact absurd h1 h
/-- no work at that night -/
theorem nvs_idle : ∀ k, (∀ i, i < k → ¬ wn i = N) → nvs W J C ln wn wh we wu N q0 k = (0, q0, 0, 0)
  | 0, _ => rfl
  | k + 1, h => by
    have ih := nvs_idle k (fun i hi => h i (by omega))
    rw [nvs_skip (by rw [ih]) (h k (by omega)), ih]
end
theorem and_not_self (x : Int32) : x &&& (x ^^^ (-1)) = 0 := by
  apply b_ext
  intro i hi
  rw [b_and, b_xor, b_m1 i hi, b_0]
  cases bitT x i <;> rfl
theorem FrX.kq {m m' : MM} (h : FrX m m') : Kq m m' := by
  refine ⟨fun a b e => ?_, by rw [h.1]⟩
  by_cases c : a < 38 ∨ 43 < a
  · rw [h.2.1 a c]
  · have c2 : a = 38 ∨ a = 39 ∨ a = 40 ∨ a = 41 ∨ a = 42 ∨ a = 43 := by omega
    rcases c2 with rfl | rfl | rfl | rfl | rfl | rfl
    · cases e
    · cases e
    · cases e
    · have hb : b ≠ 6 := by
        intro z; subst z; cases e
      exact h.2.2 b hb
    · cases e
    · cases e

/-! the bound of a verdict -/
theorem avs_le {st : Nat → Int32} {tide : Int32} {W J C n : Nat} {ln wn wh we : Nat → Nat} {wu : Nat → Bool} {q : (Nat → Nat) × (Nat → Nat) × Nat} : ∀ k, (avs st tide W J C ln wn wh we wu n q k).1 ≤ 10 * n + 5
  | 0 => Nat.zero_le _
  | k + 1 => by
    rw [avs]
    by_cases h : (avs st tide W J C ln wn wh we wu n q k).1 = 0
    · rw [if_neg (not_not_intro h)]
      exact nightV_le
    · rw [if_pos h]
      exact avs_le k

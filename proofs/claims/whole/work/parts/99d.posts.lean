/-! the cheapest posts: numbers -/
def scN (u s c p h : Nat) : Nat := if h = p then 0 else if h ≤ p then c + s * (p - h) else c + u * (h - p)
def mnR (f : Nat → Nat) (lo : Nat) : Nat → Nat
  | 0 => 1000000
  | j + 1 => min (mnR f lo j) (f (lo + j))
def pcN (n : Nat) (d : Nat → Nat) (sl u s c : Nat) : Nat → Nat → Nat
  | 0, _ => 0
  | k + 1, p => mnR (fun h => scN u s c p h + pcN n d sl u s c k h) (d (n - (k + 1))) (min 99 (d (n - (k + 1)) + sl) + 1 - d (n - (k + 1)))
theorem mnR_le {f : Nat → Nat} {lo : Nat} : ∀ j k, k < j → mnR f lo j ≤ f (lo + k)
  | 0, k, h => absurd h (Nat.not_lt_zero _)
  | j + 1, k, h => by
    rw [mnR]
    by_cases c : k = j
    · subst c; exact Nat.min_le_right _ _
    · exact Nat.le_trans (Nat.min_le_left _ _) (mnR_le j k (by omega))
theorem mnR_ex {f : Nat → Nat} {lo : Nat} : ∀ j, mnR f lo j = 1000000 ∨ ∃ k, k < j ∧ mnR f lo j = f (lo + k)
  | 0 => Or.inl rfl
  | j + 1 => by
    rw [mnR]
    by_cases c : mnR f lo j ≤ f (lo + j)
    · rw [Nat.min_eq_left c]
      rcases mnR_ex (f := f) (lo := lo) j with h | ⟨k, h1, h2⟩
      · exact Or.inl h
      · exact Or.inr ⟨k, by omega, h2⟩
    · rw [Nat.min_eq_right (by omega)]
      exact Or.inr ⟨j, by omega, rfl⟩
theorem mnR_at {f : Nat → Nat} {lo hi : Nat} (h : lo ≤ hi) (hb : f lo < 1000000) : (∀ x, lo ≤ x → x ≤ hi → mnR f lo (hi + 1 - lo) ≤ f x) ∧ ∃ x, lo ≤ x ∧ x ≤ hi ∧ mnR f lo (hi + 1 - lo) = f x := by
  have a : ∀ x, lo ≤ x → x ≤ hi → mnR f lo (hi + 1 - lo) ≤ f x := fun x h1 h2 => by
    have := mnR_le (f := f) (lo := lo) (hi + 1 - lo) (x - lo) (by omega)
    rwa [show lo + (x - lo) = x by omega] at this
  refine ⟨a, ?_⟩
  rcases mnR_ex (f := f) (lo := lo) (hi + 1 - lo) with e | ⟨k, h1, h2⟩
  · have := a lo (Nat.le_refl _) h
    omega
  · exact ⟨lo + k, by omega, by omega, h2⟩
theorem mnR_one {f : Nat → Nat} {lo hi v : Nat} (h : lo ≤ hi) (hb : f lo < 1000000) (h1 : ∀ x, lo ≤ x → x ≤ hi → v ≤ f x) (h2 : ∃ x, lo ≤ x ∧ x ≤ hi ∧ v = f x) : v = mnR f lo (hi + 1 - lo) := by
  obtain ⟨a, x, x1, x2, x3⟩ := mnR_at h hb
  obtain ⟨y, y1, y2, y3⟩ := h2
  have := h1 x x1 x2
  have := a y y1 y2
  omega
theorem scN_le {u s c p h : Nat} (hu : u ≤ 99) (hs : s ≤ 99) (hc : c ≤ 99) (hp : p ≤ 99) (hh : h ≤ 99) : scN u s c p h ≤ 9900 := by
  unfold scN
  by_cases c1 : h = p
  · rw [if_pos c1]; exact Nat.zero_le _
  · rw [if_neg c1]
    have q1 : s * (p - h) ≤ 99 * 99 := Nat.mul_le_mul hs (by omega)
    have q2 : u * (h - p) ≤ 99 * 99 := Nat.mul_le_mul hu (by omega)
    split <;> omega
theorem pcN_le {n sl u s c : Nat} {d : Nat → Nat} (hu : u ≤ 99) (hs : s ≤ 99) (hc : c ≤ 99) (hd : ∀ i, i < n → d i ≤ 99) : ∀ k, k ≤ n → ∀ p, p ≤ 99 → pcN n d sl u s c k p ≤ 9900 * k
  | 0, _, p, _ => Nat.zero_le _
  | k + 1, hk, p, hp => by
    have d1 := hd (n - (k + 1)) (by omega)
    have ih := pcN_le hu hs hc hd (sl := sl) k (by omega) _ d1
    have q := scN_le hu hs hc hp d1
    have := mnR_le (f := fun h => scN u s c p h + pcN n d sl u s c k h) (lo := d (n - (k + 1))) (min 99 (d (n - (k + 1)) + sl) + 1 - d (n - (k + 1))) 0 (by omega)
    rw [pcN]
    rw [Nat.add_zero] at this
    have this : _ ≤ scN u s c p (d (n - (k + 1))) + pcN n d sl u s c k (d (n - (k + 1))) := this
    omega
/-! the class's two sweeps -/
def bhN (lo hi : Nat) (g : Nat → Nat) (h : Nat) : Nat := if lo ≤ h ∧ h ≤ hi then g h else 10000000
def cuN (b : Nat → Nat) (u : Nat) : Nat → Nat
  | 0 => 10000000
  | k + 1 => min (cuN b u k) (b (99 - k)) + u
def cdN (b : Nat → Nat) (s : Nat) : Nat → Nat
  | 0 => 10000000
  | k + 1 => min (cdN b s k) (b k) + s
theorem cuN_le {b : Nat → Nat} {u : Nat} : ∀ k, k ≤ 99 → ∀ h, 99 - k < h → h ≤ 99 → cuN b u k ≤ b h + u * (h - (99 - k))
  | 0, _, h, h1, h2 => absurd h1 (by omega)
  | k + 1, hk, h, h1, h2 => by
    rw [cuN]
    by_cases c : h = 99 - k
    · subst c
      rw [show 99 - k - (99 - (k + 1)) = 1 by omega, Nat.mul_one]
      have := Nat.min_le_right (cuN b u k) (b (99 - k))
      omega
    · have ih := cuN_le (b := b) (u := u) k (by omega) h (by omega) h2
      rw [show h - (99 - (k + 1)) = (h - (99 - k)) + 1 by omega, Nat.mul_succ]
      have := Nat.min_le_left (cuN b u k) (b (99 - k))
      omega
theorem cuN_ex {b : Nat → Nat} {u : Nat} : ∀ k, k ≤ 99 → 10000000 ≤ cuN b u k ∨ ∃ h, 99 - k < h ∧ h ≤ 99 ∧ cuN b u k = b h + u * (h - (99 - k))
  | 0, _ => Or.inl (Nat.le_refl _)
  | k + 1, hk => by
    rw [cuN]
    by_cases c : b (99 - k) ≤ cuN b u k
    · rw [Nat.min_eq_right c]
      refine Or.inr ⟨99 - k, by omega, by omega, ?_⟩
      rw [show 99 - k - (99 - (k + 1)) = 1 by omega, Nat.mul_one]
    · rw [Nat.min_eq_left (by omega)]
      rcases cuN_ex (b := b) (u := u) k (by omega) with ih | ⟨h, h1, h2, h3⟩
      · exact Or.inl (by omega)
      · refine Or.inr ⟨h, by omega, h2, ?_⟩
        rw [show h - (99 - (k + 1)) = (h - (99 - k)) + 1 by omega, Nat.mul_succ]
        omega
theorem cuN_top {b : Nat → Nat} {u : Nat} (hu : u ≤ 99) : ∀ k, cuN b u k ≤ 10000000 + 99 * k
  | 0 => Nat.le_refl _
  | k + 1 => by
    have := cuN_top (b := b) hu k
    rw [cuN]
    omega
theorem cdN_le {b : Nat → Nat} {s : Nat} : ∀ k h, h < k → cdN b s k ≤ b h + s * (k - h)
  | 0, h, h1 => absurd h1 (Nat.not_lt_zero _)
  | k + 1, h, h1 => by
    rw [cdN]
    by_cases c : h = k
    · subst c
      rw [show h + 1 - h = 1 by omega, Nat.mul_one]
      have := Nat.min_le_right (cdN b s h) (b h)
      omega
    · have ih := cdN_le (b := b) (s := s) k h (by omega)
      rw [show k + 1 - h = (k - h) + 1 by omega, Nat.mul_succ]
      have := Nat.min_le_left (cdN b s k) (b k)
      omega
theorem cdN_ex {b : Nat → Nat} {s : Nat} : ∀ k, 10000000 ≤ cdN b s k ∨ ∃ h, h < k ∧ cdN b s k = b h + s * (k - h)
  | 0 => Or.inl (Nat.le_refl _)
  | k + 1 => by
    rw [cdN]
    by_cases c : b k ≤ cdN b s k
    · rw [Nat.min_eq_right c]
      refine Or.inr ⟨k, by omega, ?_⟩
      rw [show k + 1 - k = 1 by omega, Nat.mul_one]
    · rw [Nat.min_eq_left (by omega)]
      rcases cdN_ex (b := b) (s := s) k with ih | ⟨h, h1, h3⟩
      · exact Or.inl (by omega)
      · refine Or.inr ⟨h, by omega, ?_⟩
        rw [show k + 1 - h = (k - h) + 1 by omega, Nat.mul_succ]
        omega
theorem cdN_top {b : Nat → Nat} {s : Nat} (hu : s ≤ 99) : ∀ k, cdN b s k ≤ 10000000 + 99 * k
  | 0 => Nat.le_refl _
  | k + 1 => by
    have := cdN_top (b := b) hu k
    rw [cdN]
    omega
def upN (b : Nat → Nat) (u c p : Nat) : Nat := if p < 99 then min (b p) (cuN b u (99 - p) + c) else b p
def dnN (b : Nat → Nat) (u s c p : Nat) : Nat := if 0 < p then min (upN b u c p) (cdN b s p + c) else upN b u c p
theorem dnN_ok {lo hi u s c p : Nat} {g : Nat → Nat} (h : lo ≤ hi) (h99 : hi ≤ 99) (hp : p ≤ 99) (hb : scN u s c p lo + g lo < 1000000) : dnN (bhN lo hi g) u s c p = mnR (fun h => scN u s c p h + g h) lo (hi + 1 - lo) := by
  have le : ∀ x, lo ≤ x → x ≤ hi → dnN (bhN lo hi g) u s c p ≤ scN u s c p x + g x := by
    intro x h1 h2
    have bx : bhN lo hi g x = g x := by unfold bhN; rw [if_pos ⟨h1, h2⟩]
    unfold scN
    by_cases c1 : x = p
    · subst c1
      rw [if_pos rfl]
      have : dnN (bhN lo hi g) u s c x ≤ bhN lo hi g x := by
        unfold dnN upN
        split <;> split <;> omega
      omega
    · rw [if_neg c1]
      by_cases c2 : x ≤ p
      · rw [if_pos c2]
        have q := cdN_le (b := bhN lo hi g) (s := s) p x (by omega)
        have : dnN (bhN lo hi g) u s c p ≤ cdN (bhN lo hi g) s p + c := by
          unfold dnN
          rw [if_pos (by omega)]
          exact Nat.min_le_right _ _
        omega
      · rw [if_neg c2]
        have q := cuN_le (b := bhN lo hi g) (u := u) (99 - p) (by omega) x (by omega) (by omega)
        rw [show 99 - (99 - p) = p by omega] at q
        have : dnN (bhN lo hi g) u s c p ≤ cuN (bhN lo hi g) u (99 - p) + c := by
          unfold dnN upN
          rw [if_pos (show p < 99 by omega)]
          split <;> omega
        omega
  refine mnR_one (f := fun h => scN u s c p h + g h) h hb le ?_
  have hlt := le lo (Nat.le_refl _) h
  have bi : ∀ x, bhN lo hi g x < 10000000 → lo ≤ x ∧ x ≤ hi ∧ bhN lo hi g x = g x := by
    intro x hx
    unfold bhN at hx ⊢
    by_cases cc : lo ≤ x ∧ x ≤ hi
    · rw [if_pos cc]; exact ⟨cc.1, cc.2, rfl⟩
    · rw [if_neg cc] at hx; omega
  have three : dnN (bhN lo hi g) u s c p = bhN lo hi g p ∨ (p < 99 ∧ dnN (bhN lo hi g) u s c p = cuN (bhN lo hi g) u (99 - p) + c) ∨ (0 < p ∧ dnN (bhN lo hi g) u s c p = cdN (bhN lo hi g) s p + c) := by
    unfold dnN upN
    split <;> split <;> omega
  rcases three with e | ⟨q, e⟩ | ⟨q, e⟩
  · obtain ⟨b1, b2, b3⟩ := bi p (by omega)
    refine ⟨p, b1, b2, ?_⟩
    show _ = scN u s c p p + g p
    unfold scN
    rw [if_pos rfl]; omega
  · rcases cuN_ex (b := bhN lo hi g) (u := u) (99 - p) (by omega) with z | ⟨x, x1, x2, x3⟩
    · omega
    · rw [show 99 - (99 - p) = p by omega] at x1 x3
      obtain ⟨b1, b2, b3⟩ := bi x (by omega)
      refine ⟨x, b1, b2, ?_⟩
      show _ = scN u s c p x + g x
      unfold scN
      rw [if_neg (by omega), if_neg (by omega)]; omega
  · rcases cdN_ex (b := bhN lo hi g) (s := s) p with z | ⟨x, x1, x3⟩
    · omega
    · obtain ⟨b1, b2, b3⟩ := bi x (by omega)
      refine ⟨x, b1, b2, ?_⟩
      show _ = scN u s c p x + g x
      unfold scN
      rw [if_neg (by omega), if_pos (by omega)]; omega

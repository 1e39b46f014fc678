/-! who is in an office; settling -/
/-- the first of H houses that is in the office o, by the row f of the model's live cells; -2 without -/
def holdR (f : Nat → Int32) (H : Nat) (o : Int32) : Int32 := if fa_first (fun h => decide (f (30 + h) = o)) H < H then nI (fa_first (fun h => decide (f (30 + h) = o)) H) else -2
theorem fa_first_at {p : Nat → Bool} {n k : Nat} (hk : k < n) (hp : p k = true) (hno : ∀ j, j < k → p j = false) : fa_first p n = k := by
  rcases Nat.lt_trichotomy (fa_first p n) k with h | h | h
  · have h1 := fa_first_yes p n (by omega)
    rw [hno _ h] at h1
    cases h1
  · exact h
  · have := fa_first_no p n k h
    rw [hp] at this
    cases this
theorem fa_first_none {p : Nat → Bool} {n : Nat} (hno : ∀ j, j < n → p j = false) : fa_first p n = n := by
  have h1 := fa_first_le p n
  rcases Nat.lt_or_ge (fa_first p n) n with h | h
  · have h2 := fa_first_yes p n h
    rw [hno _ h] at h2
    cases h2
  · omega
theorem holderOf_2 (mm : MM) (o : Int32) (H : Nat) (hH : mm.1 162 0 = nI H) (h16 : H ≤ 16) (Q : Value → MM → Prop) (hk : Q (.int (holdR (mm.1 163) H o)) mm) :
    ∀ n k, k + n = H → (∀ j, j < k → ¬ mm.1 163 (30 + j) = o) → G e_X12_holderOf 2 [(0, .ref 156), (1, .int o), (2, .int (nI k))] [] mm Q := by
  intro n
  induction n with
  | zero =>
    intro k h hno
    have hk' : k = H := by omega
    subst hk'
    apply b_X12_holderOf_2
    rw [hH]
    refine pk_le k k (fun _ => ?_) (fun h => absurd h (by omega)) rfl rfl
    have e : fa_first (fun h => decide (mm.1 163 (30 + h) = o)) k = k := fa_first_none (fun j hj => by simpa using hno j hj)
    unfold holdR at hk
    rw [e, if_neg (by omega)] at hk
    exact hk
  | succ n ih =>
    intro k h hno
    apply b_X12_holderOf_2
    rw [hH]
    refine pk_le H k (fun h => absurd h (by omega)) (fun _ => ?_) rfl rfl
    refine ⟨vin (n := 30 + k) (by simp only [lit, nI_add, pk_mul]) (by omega) (by omega), ?_⟩
    rw [clampN (n := 30 + k) (by simp only [lit, nI_add, pk_mul]) (by omega)]
    refine ⟨fun hne => ?_, fun he => ?_⟩
    · rw [nI_1 k]
      refine ih (k + 1) (by omega) (fun j hj => ?_)
      by_cases e : j = k
      · subst e; exact hne
      · exact hno j (by omega)
    · have e : fa_first (fun h => decide (mm.1 163 (30 + h) = o)) H = k := fa_first_at (by omega) (by simpa using he) (fun j hj => by simpa using hno j hj)
      unfold holdR at hk
      rw [e, if_pos (by omega)] at hk
      exact hk
theorem holderOf_ok (mm : MM) (o : Int32) (H : Nat) (hH : mm.1 162 0 = nI H) (h16 : H ≤ 16) : Runs e_X12_holderOf [.ref 156, .int o] mm (fun r m => r = .int (holdR (mm.1 163) H o) ∧ m = mm) := by
  apply b_X12_holderOf
  exact holderOf_2 mm o H hH h16 _ ⟨rfl, rfl⟩ H 0 (by omega) (fun j hj => absurd hj (by omega))
/-- the live cells when the house h gets the office o -/
def givesF (f : Nat → Int32) (H h : Nat) (o : Int32) : Nat → Int32 :=
  upd (if fa_first (fun h => decide (f (30 + h) = o)) H < H then upd f (30 + fa_first (fun h => decide (f (30 + h) = o)) H) (-2) else f) (30 + h) o
theorem gives_ok (mm : MM) (h H : Nat) (o : Int32) (hH : mm.1 162 0 = nI H) (h16 : H ≤ 16) (hh : h < 16) : Runs e_X12_gives [.ref 156, .int (nI h), .int o] mm (fun r m => r = .null ∧ m = wR mm 163 (givesF (mm.1 163) H h o)) := by
  apply b_X12_gives
  refine ⟨_, holderOf_ok mm o H hH h16, ?_⟩
  rintro r m1 ⟨e1, e2⟩
  have e1 := Value.int.inj e1
  subst e2
  subst e1
  unfold holdR givesF
  by_cases hf : fa_first (fun h => decide (m1.1 163 (30 + h) = o)) H < H
  · rw [if_pos hf, if_pos hf]
    generalize fa_first (fun h => decide (m1.1 163 (30 + h) = o)) H = k at hf
    refine ⟨fun z => absurd z (nI_pos (by omega)), fun _ => ?_⟩
    refine ⟨vin (n := 30 + k) (by simp only [lit, nI_add, pk_mul]) (by omega) (by omega), vin (n := 30 + h) (by simp only [lit, nI_add, pk_mul]) (by omega) (by omega), rfl, ?_⟩
    rw [clampN (x := 30 + nI k) (n := 30 + k) (by simp only [lit, nI_add, pk_mul]) (by omega), clampN (x := 30 + nI h) (n := 30 + h) (by simp only [lit, nI_add, pk_mul]) (by omega), wI_as m1 163 (30 + k), wI_wR]
  · rw [if_neg hf, if_neg hf]
    refine ⟨fun _ => ⟨vin (n := 30 + h) (by simp only [lit, nI_add, pk_mul]) (by omega) (by omega), rfl, ?_⟩, fun z => absurd (by decide) z⟩
    rw [clampN (n := 30 + h) (by simp only [lit, nI_add, pk_mul]) (by omega), wI_as]
theorem fb_put_upd {f g : Nat → Int32} {a n j : Nat} {v : Int32} (h : j < a ∨ a + n ≤ j) : upd (fb_put f g a n) j v = fb_put (upd f j v) g a n := by
  funext x
  simp only [upd, fb_put]
  by_cases e : x = j
  · subst e
    have : ¬ (a ≤ x ∧ x < a + n) := by omega
    simp [this]
  · simp [e]
/-- the live cells as told by the cells st: heights, nobody in an office -/
def setl1 (st f : Nat → Int32) : Nat → Int32 := fb_put (fb_put (fb_put f (fun _ => 0) 0 420) (fun j => st (21 + 3 * j)) 10 16) (fun _ => -2) 30 16
def setl2 (st : Nat → Int32) (H : Nat) : (Nat → Int32) → Nat → Nat → Int32
  | f, 0 => f
  | f, k + 1 => givesF (setl2 st H f k) H (st (90 + 2 * k)).toNatClampNeg (st (91 + 2 * k))
def setl3 (st f : Nat → Int32) : Nat → Int32 := fb_put f (fun j => st (171 + 2 * j)) 50 8
theorem settle_2 (mm : MM) (f : Nat → Int32) (Q : Value → MM → Prop) (hk : G e_X12_settle 24 [(0, .ref 156), (1, .int (0 : Int32))] [] (wR mm 163 (fb_put f (fun _ => 0) 0 420)) Q) :
    ∀ n k, k + n = 420 → G e_X12_settle 2 [(0, .ref 156), (1, .int (nI k))] [] (wR mm 163 (fb_put f (fun _ => 0) 0 k)) Q := by
  intro n
  induction n with
  | zero =>
    intro k h
    have hk' : k = 420 := by omega
    subst hk'
    apply b_X12_settle_2
    exact pk_le 420 420 (fun _ => hk) (fun h => absurd h (by omega)) rfl rfl
  | succ n ih =>
    intro k h
    apply b_X12_settle_2
    refine pk_le 420 k (fun h => absurd h (by omega)) (fun _ => ?_) rfl rfl
    refine ⟨vin (n := k) rfl (by omega) (by omega), ?_⟩
    have e := fb_put_succ f (fun _ => 0) 0 k
    rw [Nat.zero_add] at e
    rw [clampN (n := k) rfl (by omega), wI_wR, e, nI_1 k]
    exact ih (k + 1) (by omega)
theorem settle_24 (mm : MM) (f : Nat → Int32) (Q : Value → MM → Prop) (hk : G e_X12_settle 71 [(0, .ref 156), (1, .int (0 : Int32))] [] (wR mm 163 (fb_put (fb_put f (fun j => mm.1 162 (21 + 3 * j)) 10 16) (fun _ => -2) 30 16)) Q) :
    ∀ n k, k + n = 16 → G e_X12_settle 24 [(0, .ref 156), (1, .int (nI k))] [] (wR mm 163 (fb_put (fb_put f (fun j => mm.1 162 (21 + 3 * j)) 10 k) (fun _ => -2) 30 k)) Q := by
  intro n
  induction n with
  | zero =>
    intro k h
    have hk' : k = 16 := by omega
    subst hk'
    apply b_X12_settle_24
    exact pk_le 16 16 (fun _ => hk) (fun h => absurd h (by omega)) rfl rfl
  | succ n ih =>
    intro k h
    apply b_X12_settle_24
    refine pk_le 16 k (fun h => absurd h (by omega)) (fun _ => ?_) rfl rfl
    refine ⟨vin (n := 20 + 3 * k + 1) (by simp only [lit, nI_add, pk_mul]) (by omega) (by omega), vin (n := 10 + k) (by simp only [lit, nI_add, pk_mul]) (by omega) (by omega), vin (n := 30 + k) (by simp only [lit, nI_add, pk_mul]) (by omega) (by omega), ?_⟩
    rw [clampN (x := 20 + 3 * nI k + 1) (n := 20 + 3 * k + 1) (by simp only [lit, nI_add, pk_mul]) (by omega), clampN (x := 10 + nI k) (n := 10 + k) (by simp only [lit, nI_add, pk_mul]) (by omega), clampN (x := 30 + nI k) (n := 30 + k) (by simp only [lit, nI_add, pk_mul]) (by omega), wI_wR, wI_wR, wR_o (by decide), nI_1 k]
    rw [fb_put_upd (by omega), show 20 + 3 * k + 1 = 21 + 3 * k by omega]
    rw [fb_put_succ f (fun j => mm.1 162 (21 + 3 * j)) 10 k, fb_put_succ _ (fun _ => -2) 30 k]
    exact ih (k + 1) (by omega)

/-! the relation of the class's memory and the model's -/
def RefR (r : Nat → Nat → Nat) (t s : Nat) : Prop := r 0 9 = t ∧ r 0 10 = s ∧ r 1 4 = 110 - t ∧ r 1 5 = 138 - s
def TownR (c : Nat → Nat → Int32) (t H O S Qn W C J F B : Nat) : Prop :=
  (H ≤ 16 ∧ O ≤ 12 ∧ S ≤ 12 ∧ Qn ≤ 4 ∧ W ≤ 8 ∧ (1 ≤ C ∧ C ≤ 9) ∧ (1 ≤ J ∧ J ≤ 99) ∧ F ≤ 4 ∧ B ≤ 4) ∧
  (c 162 0 = nI H ∧ c 162 1 = nI O ∧ c 162 3 = nI S ∧ c 162 4 = nI Qn ∧ c 162 5 = nI W ∧ c 162 6 = nI C ∧ c 162 7 = nI J ∧ c 162 8 = nI F ∧ c 162 9 = nI B) ∧
  (c t 8 = nI H ∧ c t 9 = nI O ∧ c t 10 = nI S ∧ c t 11 = nI Qn ∧ c t 12 = nI (quayN (c 162)) ∧ c t 13 = nI W ∧ c t 14 = nI C ∧ c t 15 = nI J ∧ c (t + 8) 11 = nI F ∧ c (t + 8) 12 = nI B) ∧
  (∀ h, h < H → (∃ x : Nat, x ≤ 40 ∧ c 162 (20 + 3 * h) = nI x) ∧ c (t + 1) h = c 162 (20 + 3 * h) ∧ c (t + 2) h = c 162 (20 + 3 * h + 2)) ∧
  (∀ o, o < O → (∃ r : Nat, r ≤ 99 ∧ c 162 (70 + o) = nI r) ∧ c (t + 3) o = c 162 (70 + o)) ∧
  (∀ s, s < S → (∃ a r : Nat, a < H ∧ r ≤ 99 ∧ c 162 (120 + 3 * s) = nI a ∧ c 162 (120 + 3 * s + 2) = nI r ∧ (c 162 (120 + 3 * s + 1) = -nI 1 ∨ ∃ b : Nat, b < H ∧ b ≠ a ∧ c 162 (120 + 3 * s + 1) = nI b)) ∧ c (t + 4) s = c 162 (120 + 3 * s) ∧ c (t + 5) s = c 162 (120 + 3 * s + 1) ∧ c (t + 6) s = c 162 (120 + 3 * s + 2)) ∧
  (∀ q, q < Qn → ∃ a : Nat, a < H ∧ c 162 (160 + q) = nI a) ∧
  (∀ w, w < W → (∃ l : Nat, 1 ≤ l ∧ l ≤ 60 ∧ c 162 (170 + 2 * w) = nI l) ∧ c (t + 7) w = c 162 (170 + 2 * w)) ∧
  (LawR c t 0 ∧ LawR c t 1 ∧ LawR c t 2) ∧ (∀ k, k < F → RuleR c t 2 190 k) ∧ (∀ k, k < B → RuleR c t 3 200 k)
/-- one LOG -/
def LogR (c : Nat → Nat → Int32) (s b H O i : Nat) : Prop :=
  (c (s + 7 + 1) i = c 163 (b + (180 + 4 * i)) ∧ c (s + 7 + 2) i = c 163 (b + (180 + 4 * i + 1)) ∧ c (s + 7 + 3) i = c 163 (b + (180 + 4 * i + 2)) ∧ c (s + 7 + 4) i = c 163 (b + (180 + 4 * i + 3))) ∧
  ((c 163 (b + (180 + 4 * i)) = nI 0 ∧ (∃ x y z : Nat, x < H ∧ y < O ∧ z < H ∧ c 163 (b + (180 + 4 * i + 1)) = nI x ∧ c 163 (b + (180 + 4 * i + 2)) = nI y ∧ c 163 (b + (180 + 4 * i + 3)) = nI z)) ∨
   (c 163 (b + (180 + 4 * i)) = nI 1 ∧ (∃ x y z : Nat, x < H ∧ y ≤ 99 ∧ z ≤ 99 ∧ c 163 (b + (180 + 4 * i + 1)) = nI x ∧ c 163 (b + (180 + 4 * i + 2)) = nI y ∧ c 163 (b + (180 + 4 * i + 3)) = nI z)) ∨
   (c 163 (b + (180 + 4 * i)) = nI 2 ∧ ∃ k : Nat, k < i ∧ c 163 (b + (180 + 4 * i + 1)) = nI k))
/-- one WORK -/
def WorkR (c : Nat → Nat → Int32) (s b H i : Nat) : Prop :=
  (∃ g h d : Nat, g ≤ 99 ∧ h < H ∧ 1 ≤ d ∧ d ≤ 99 ∧ c 163 (b + (60 + 3 * i)) = nI g ∧ c 163 (b + (60 + 3 * i + 1)) = nI h ∧ (c 163 (b + (60 + 3 * i + 2)) = nI d ∨ c 163 (b + (60 + 3 * i + 2)) = -nI d)) ∧
  c (s + 4) i = c 163 (b + (60 + 3 * i)) ∧ c (s + 5) i = c 163 (b + (60 + 3 * i + 1)) ∧ c (s + 6) i = c 163 (b + (60 + 3 * i + 2))
def LiveR (c : Nat → Nat → Int32) (s b H O W : Nat) : Prop :=
  (∃ m : Nat, m < 12 ∧ c 163 (b + 0) = nI m ∧ c s 8 = nI m) ∧
  (∀ h, h < 16 → (∃ x : Nat, x ≤ 99 ∧ c 163 (b + (10 + h)) = nI x) ∧ c (s + 1) h = c 163 (b + (10 + h))) ∧
  (∀ h, h < 16 → 0 < H + O → (c 163 (b + (30 + h)) = -nI 2 ∧ c (s + 2) h = -nI 1) ∨ ∃ o : Nat, o < O ∧ h < H ∧ c 163 (b + (30 + h)) = nI o ∧ c (s + 2) h = nI o) ∧
  (∀ h h', h < 16 → h' < 16 → h ≠ h' → c 163 (b + (30 + h)) = c 163 (b + (30 + h')) → c 163 (b + (30 + h)) = -nI 2) ∧
  (∀ w, w < W → (∃ p : Nat, p ≤ 99 ∧ c 163 (b + (50 + w)) = nI p) ∧ c (s + 3) w = c 163 (b + (50 + w))) ∧
  (∃ n : Nat, n ≤ 40 ∧ c 163 (b + 1) = nI n ∧ c s 7 = nI n ∧ ∀ i, i < n → WorkR c s b H i) ∧
  (∃ n : Nat, n ≤ 60 ∧ c 163 (b + 2) = nI n ∧ c (s + 7) 6 = nI n ∧ ∀ i, i < n → LogR c s b H O i)
def SlotR (c : Nat → Nat → Int32) (j s b H O W : Nat) : Prop := (c 99 j = nI 0 ∧ c 174 (1 + j) = nI 0) ∨ (c 99 j = nI 1 ∧ c 174 (1 + j) = nI 1 ∧ LiveR c s b H O W)
def LotR (c : Nat → Nat → Int32) (W : Nat) : Prop := ∃ k nx : Nat, k ≤ 20 ∧ nx < 20 ∧ c 41 4 = nI k ∧ c 41 5 = nI nx ∧ c 156 40 = nI k ∧
  ∀ i, i < k → (∀ h, h < 16 → (∃ x : Nat, x ≤ 99 ∧ c 183 (24 * i + h) = nI x) ∧ c (45 + (nx + 20 - k + i) % 20) h = c 183 (24 * i + h)) ∧
    (∀ w, w < W → (∃ p : Nat, p ≤ 99 ∧ c 183 (24 * i + 16 + w) = nI p) ∧ c (66 + (nx + 20 - k + i) % 20) w = c 183 (24 * i + 16 + w))
def RowR (c : Nat → Nat → Int32) : Prop := ∃ n : Nat, n ≤ 12 ∧ c 95 2 = nI n ∧ c 156 50 = nI n ∧ ∀ i, i < n → (∃ d : Nat, d ≤ 99 ∧ c 189 i = nI d) ∧ c 96 i = c 189 i
def TapeR (c : Nat → Nat → Int32) : Prop := ∃ n : Nat, n ≤ 2000 ∧ c 5 4 = nI n ∧ c 156 0 = nI n ∧ ∀ i, i < n → (∃ b : Nat, b < 256 ∧ c 157 i = nI b) ∧ c 6 i &&& 255 = c 157 i
/-- all but the lots -/
def BodyR (c : Nat → Nat → Int32) (t s H O S Qn W C J F B : Nat) : Prop :=
  TownR c t H O S Qn W C J F B ∧ LiveR c s 0 H O W ∧ SlotR c 0 128 420 H O W ∧ SlotR c 1 142 840 H O W ∧ RowR c ∧ TapeR c ∧ c 1 8 = c 156 9
def isN (s : Nat) : Prop := s = 24 ∨ s = 114
theorem isN.s {s : Nat} (h : isN s) : isS s := by
  rcases h with rfl | rfl
  · exact Or.inl rfl
  · exact Or.inr (Or.inl rfl)
def RR (m : MM) : Prop := ∃ t s H O S Qn W C J F B : Nat, isT t ∧ isN s ∧ RefR m.2.2 t s ∧ BodyR m.1 t s H O S Qn W C J F B ∧ LotR m.1 W
def restr (c : Nat → Nat → Int32) : Nat → Nat → Int32 := fun a b => bif kq a b then c a b else 0
theorem body_in {c : Nat → Nat → Int32} {t s H O S Qn W C J F B : Nat} (ht : isT t) (hs : isN s) (h : BodyR c t s H O S Qn W C J F B) : BodyR (restr c) t s H O S Qn W C J F B := by
  rcases ht with rfl | rfl <;> rcases hs with rfl | rfl <;> exact h
theorem body_out {c : Nat → Nat → Int32} {t s H O S Qn W C J F B : Nat} (ht : isT t) (hs : isN s) (h : BodyR (restr c) t s H O S Qn W C J F B) : BodyR c t s H O S Qn W C J F B := by
  rcases ht with rfl | rfl <;> rcases hs with rfl | rfl <;> exact h
theorem body_kq {mm m : MM} {t s H O S Qn W C J F B : Nat} (ht : isT t) (hs : isN s) (hk : Kq mm m) (h : BodyR mm.1 t s H O S Qn W C J F B) : BodyR m.1 t s H O S Qn W C J F B := by
  refine body_out ht hs ?_
  have e : restr m.1 = restr mm.1 := by
    funext a b
    unfold restr
    cases hb : kq a b with
    | false => rfl
    | true => exact hk.1 a b hb
  rw [e]
  exact body_in ht hs h
theorem kq_45 {j : Nat} (hj : j < 20) (b : Nat) : kq (45 + j) b = true := by
  have : ∀ j, j < 20 → ∀ b, kq (45 + j) b = true := by
    intro j hj
    have e : j = 0 ∨ j = 1 ∨ j = 2 ∨ j = 3 ∨ j = 4 ∨ j = 5 ∨ j = 6 ∨ j = 7 ∨ j = 8 ∨ j = 9 ∨ j = 10 ∨ j = 11 ∨ j = 12 ∨ j = 13 ∨ j = 14 ∨ j = 15 ∨ j = 16 ∨ j = 17 ∨ j = 18 ∨ j = 19 := by omega
    rcases e with rfl | rfl | rfl | rfl | rfl | rfl | rfl | rfl | rfl | rfl | rfl | rfl | rfl | rfl | rfl | rfl | rfl | rfl | rfl | rfl <;> (intro b; rfl)
  exact this j hj b
theorem kq_66 {j : Nat} (hj : j < 20) (b : Nat) : kq (66 + j) b = true := by
  have : ∀ j, j < 20 → ∀ b, kq (66 + j) b = true := by
    intro j hj
    have e : j = 0 ∨ j = 1 ∨ j = 2 ∨ j = 3 ∨ j = 4 ∨ j = 5 ∨ j = 6 ∨ j = 7 ∨ j = 8 ∨ j = 9 ∨ j = 10 ∨ j = 11 ∨ j = 12 ∨ j = 13 ∨ j = 14 ∨ j = 15 ∨ j = 16 ∨ j = 17 ∨ j = 18 ∨ j = 19 := by omega
    rcases e with rfl | rfl | rfl | rfl | rfl | rfl | rfl | rfl | rfl | rfl | rfl | rfl | rfl | rfl | rfl | rfl | rfl | rfl | rfl | rfl <;> (intro b; rfl)
  exact this j hj b
theorem kq_183 {j : Nat} (hj : j < 480) : kq 183 j = true := by
  show Nat.blt j 480 = true
  exact Nat.ble_eq.mpr hj
theorem lot_kq {mm m : MM} {W : Nat} (h8 : W ≤ 8) (hk : Kq mm m) (h : LotR mm.1 W) : LotR m.1 W := by
  obtain ⟨k, nx, h1, h2, h3, h4, h5, h6⟩ := h
  refine ⟨k, nx, h1, h2, (hk.g 41 4 rfl).trans h3, (hk.g 41 5 rfl).trans h4, (hk.g 156 40 rfl).trans h5, fun i hi => ?_⟩
  obtain ⟨a, b⟩ := h6 i hi
  have hr : (nx + 20 - k + i) % 20 < 20 := Nat.mod_lt _ (by decide)
  refine ⟨fun h hh => ?_, fun w hw => ?_⟩
  · rw [hk.g 183 (24 * i + h) (kq_183 (by omega)), hk.g _ _ (kq_45 hr h)]
    exact a h hh
  · rw [hk.g 183 (24 * i + 16 + w) (kq_183 (by omega)), hk.g _ _ (kq_66 hr w)]
    exact b w hw
theorem RR_kq {mm m : MM} (h : RR mm) (hk : Kq mm m) : RR m := by
  obtain ⟨t, s, H, O, S, Qn, W, C, J, F, B, h1, h2, h3, h4, h5⟩ := h
  have h8 : W ≤ 8 := h4.1.1.2.2.2.2.1
  exact ⟨t, s, H, O, S, Qn, W, C, J, F, B, h1, h2, by rw [hk.2]; exact h3, body_kq h1 h2 hk h4, lot_kq h8 hk h5⟩
/-- a call that only asks -/
theorem step_q {eX eM : ME} {as : List Value} (h : ∀ mm, RR mm → ∃ V : Value, Runs eX (.ref 0 :: as) mm (fun r m => r = V ∧ Kq mm m) ∧ ∀ m, Kq mm m → Runs eM (.ref 156 :: as) m (fun r m' => r = V ∧ Kq mm m')) : StepOK RR eX eM as := by
  intro mm hR
  obtain ⟨V, h1, h2⟩ := h mm hR
  refine ⟨_, h1, ?_⟩
  rintro r m1 ⟨rfl, k1⟩
  refine ⟨_, h2 m1 k1, ?_⟩
  rintro r' m2 ⟨rfl, k2⟩
  exact ⟨rfl, RR_kq hR k2⟩

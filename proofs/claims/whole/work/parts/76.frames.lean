/-! calls that change: the relation piece by piece -/
def kT (a : Nat) : Bool := (Nat.ble 10 a && Nat.ble a 23) || (Nat.ble 100 a && Nat.ble a 113) || a == 162 || a == 165 || a == 166 || (Nat.ble 168 a && Nat.ble a 173)
def restrT (c : Nat → Nat → Int32) : Nat → Nat → Int32 := fun a b => bif kT a then c a b else 0
section Frames
variable {c c' : Nat → Nat → Int32} {t s b H O S Qn W C J F B : Nat}
theorem town_in (ht : isT t) (h : TownR c t H O S Qn W C J F B) : TownR (restrT c) t H O S Qn W C J F B := by
  rcases ht with rfl | rfl <;> exact h
theorem town_out (ht : isT t) (h : TownR (restrT c) t H O S Qn W C J F B) : TownR c t H O S Qn W C J F B := by
  rcases ht with rfl | rfl <;> exact h
theorem town_fr (ht : isT t) (h : ∀ a, (10 ≤ a ∧ a < 24) ∨ (100 ≤ a ∧ a < 114) ∨ a = 162 ∨ a = 165 ∨ a = 166 ∨ (168 ≤ a ∧ a ≤ 173) → c' a = c a) (hT : TownR c t H O S Qn W C J F B) : TownR c' t H O S Qn W C J F B := by
  refine town_out ht ?_
  have e : restrT c' = restrT c := by
    funext a b
    unfold restrT
    cases hk : kT a with
    | false => rfl
    | true =>
      have : (10 ≤ a ∧ a < 24) ∨ (100 ≤ a ∧ a < 114) ∨ a = 162 ∨ a = 165 ∨ a = 166 ∨ (168 ≤ a ∧ a ≤ 173) := by
        unfold kT at hk
        simp only [Bool.or_eq_true, Bool.and_eq_true, Nat.ble_eq, beq_iff_eq] at hk
        omega
      rw [h a this]
  rw [e]
  exact town_in ht hT
theorem lvM (h1 : c' s 8 = c s 8) (h2 : c' 163 (b + 0) = c 163 (b + 0)) (h : ∃ m : Nat, m < 12 ∧ c 163 (b + 0) = nI m ∧ c s 8 = nI m) : ∃ m : Nat, m < 12 ∧ c' 163 (b + 0) = nI m ∧ c' s 8 = nI m := by
  rw [h1, h2]; exact h
theorem lvH (h1 : c' (s + 1) = c (s + 1)) (h2 : ∀ j, 10 ≤ j → j < 26 → c' 163 (b + j) = c 163 (b + j)) (h : ∀ h, h < 16 → (∃ x : Nat, x ≤ 99 ∧ c 163 (b + (10 + h)) = nI x) ∧ c (s + 1) h = c 163 (b + (10 + h))) : ∀ h, h < 16 → (∃ x : Nat, x ≤ 99 ∧ c' 163 (b + (10 + h)) = nI x) ∧ c' (s + 1) h = c' 163 (b + (10 + h)) := by
  intro k hk
  rw [h1, h2 _ (by omega) (by omega)]; exact h k hk
theorem lvO (h1 : c' (s + 2) = c (s + 2)) (h2 : ∀ j, 30 ≤ j → j < 46 → c' 163 (b + j) = c 163 (b + j)) (h : ∀ h, h < 16 → 0 < H + O → (c 163 (b + (30 + h)) = -nI 2 ∧ c (s + 2) h = -nI 1) ∨ ∃ o : Nat, o < O ∧ h < H ∧ c 163 (b + (30 + h)) = nI o ∧ c (s + 2) h = nI o) : ∀ h, h < 16 → 0 < H + O → (c' 163 (b + (30 + h)) = -nI 2 ∧ c' (s + 2) h = -nI 1) ∨ ∃ o : Nat, o < O ∧ h < H ∧ c' 163 (b + (30 + h)) = nI o ∧ c' (s + 2) h = nI o := by
  intro k hk hp
  rw [h1, h2 _ (by omega) (by omega)]; exact h k hk hp
theorem lvD (h2 : ∀ j, 30 ≤ j → j < 46 → c' 163 (b + j) = c 163 (b + j)) (h : ∀ h h', h < 16 → h' < 16 → h ≠ h' → c 163 (b + (30 + h)) = c 163 (b + (30 + h')) → c 163 (b + (30 + h)) = -nI 2) : ∀ h h', h < 16 → h' < 16 → h ≠ h' → c' 163 (b + (30 + h)) = c' 163 (b + (30 + h')) → c' 163 (b + (30 + h)) = -nI 2 := by
  intro k k' hk hk'
  rw [h2 _ (by omega) (by omega), h2 _ (by omega) (by omega)]; exact h k k' hk hk'
theorem lvW (h8 : W ≤ 8) (h1 : c' (s + 3) = c (s + 3)) (h2 : ∀ j, 50 ≤ j → j < 58 → c' 163 (b + j) = c 163 (b + j)) (h : ∀ w, w < W → (∃ p : Nat, p ≤ 99 ∧ c 163 (b + (50 + w)) = nI p) ∧ c (s + 3) w = c 163 (b + (50 + w))) : ∀ w, w < W → (∃ p : Nat, p ≤ 99 ∧ c' 163 (b + (50 + w)) = nI p) ∧ c' (s + 3) w = c' 163 (b + (50 + w)) := by
  intro k hk
  rw [h1, h2 _ (by omega) (by omega)]; exact h k hk
theorem work_fr {i : Nat} (hi : i < 40) (h1 : c' (s + 4) i = c (s + 4) i ∧ c' (s + 5) i = c (s + 5) i ∧ c' (s + 6) i = c (s + 6) i) (h2 : ∀ j, 60 + 3 * i ≤ j → j < 60 + 3 * i + 3 → c' 163 (b + j) = c 163 (b + j)) (h : WorkR c s b H i) : WorkR c' s b H i := by
  unfold WorkR at *
  rw [h1.1, h1.2.1, h1.2.2, h2 (60 + 3 * i) (by omega) (by omega), h2 (60 + 3 * i + 1) (by omega) (by omega), h2 (60 + 3 * i + 2) (by omega) (by omega)]
  exact h
theorem lvK (h1 : c' s 7 = c s 7) (h3 : ∀ i, i < 40 → c' (s + 4) i = c (s + 4) i ∧ c' (s + 5) i = c (s + 5) i ∧ c' (s + 6) i = c (s + 6) i) (h2 : ∀ j, j = 1 ∨ 60 ≤ j ∧ j < 180 → c' 163 (b + j) = c 163 (b + j)) (h : ∃ n : Nat, n ≤ 40 ∧ c 163 (b + 1) = nI n ∧ c s 7 = nI n ∧ ∀ i, i < n → WorkR c s b H i) : ∃ n : Nat, n ≤ 40 ∧ c' 163 (b + 1) = nI n ∧ c' s 7 = nI n ∧ ∀ i, i < n → WorkR c' s b H i := by
  obtain ⟨n, g1, g2, g3, g4⟩ := h
  refine ⟨n, g1, (h2 1 (by omega)).trans g2, h1.trans g3, fun i hi => work_fr (show i < 40 by omega) (h3 i (by omega)) (fun j _ _ => h2 j (by omega)) (g4 i hi)⟩
theorem log_fr {i : Nat} (hi : i < 60) (h1 : c' (s + 7 + 1) i = c (s + 7 + 1) i ∧ c' (s + 7 + 2) i = c (s + 7 + 2) i ∧ c' (s + 7 + 3) i = c (s + 7 + 3) i ∧ c' (s + 7 + 4) i = c (s + 7 + 4) i) (h2 : ∀ j, 180 + 4 * i ≤ j → j < 180 + 4 * i + 4 → c' 163 (b + j) = c 163 (b + j)) (h : LogR c s b H O i) : LogR c' s b H O i := by
  unfold LogR at *
  rw [h1.1, h1.2.1, h1.2.2.1, h1.2.2.2, h2 (180 + 4 * i) (by omega) (by omega), h2 (180 + 4 * i + 1) (by omega) (by omega), h2 (180 + 4 * i + 2) (by omega) (by omega), h2 (180 + 4 * i + 3) (by omega) (by omega)]
  exact h
theorem lvL (h1 : c' (s + 7) 6 = c (s + 7) 6) (h3 : ∀ i, i < 60 → c' (s + 7 + 1) i = c (s + 7 + 1) i ∧ c' (s + 7 + 2) i = c (s + 7 + 2) i ∧ c' (s + 7 + 3) i = c (s + 7 + 3) i ∧ c' (s + 7 + 4) i = c (s + 7 + 4) i) (h2 : ∀ j, j = 2 ∨ 180 ≤ j ∧ j < 420 → c' 163 (b + j) = c 163 (b + j)) (h : ∃ n : Nat, n ≤ 60 ∧ c 163 (b + 2) = nI n ∧ c (s + 7) 6 = nI n ∧ ∀ i, i < n → LogR c s b H O i) : ∃ n : Nat, n ≤ 60 ∧ c' 163 (b + 2) = nI n ∧ c' (s + 7) 6 = nI n ∧ ∀ i, i < n → LogR c' s b H O i := by
  obtain ⟨n, g1, g2, g3, g4⟩ := h
  refine ⟨n, g1, (h2 2 (by omega)).trans g2, h1.trans g3, fun i hi => log_fr (show i < 60 by omega) (h3 i (by omega)) (fun j _ _ => h2 j (by omega)) (g4 i hi)⟩
theorem live_fr (h8 : W ≤ 8) (h1 : ∀ i, i < 12 → c' (s + i) = c (s + i)) (h2 : ∀ j, j < 420 → c' 163 (b + j) = c 163 (b + j)) (h : LiveR c s b H O W) : LiveR c' s b H O W := by
  obtain ⟨g1, g2, g3, g4, g5, g6, g7⟩ := h
  have r0 : c' s = c s := h1 0 (by omega)
  have r8 : c' (s + 7 + 1) = c (s + 7 + 1) := h1 8 (by omega)
  have r9 : c' (s + 7 + 2) = c (s + 7 + 2) := h1 9 (by omega)
  have r10 : c' (s + 7 + 3) = c (s + 7 + 3) := h1 10 (by omega)
  have r11 : c' (s + 7 + 4) = c (s + 7 + 4) := h1 11 (by omega)
  exact ⟨lvM (by rw [r0]) (h2 0 (by omega)) g1, lvH (h1 1 (by omega)) (fun j _ _ => h2 j (by omega)) g2, lvO (h1 2 (by omega)) (fun j _ _ => h2 j (by omega)) g3, lvD (fun j _ _ => h2 j (by omega)) g4, lvW h8 (h1 3 (by omega)) (fun j _ _ => h2 j (by omega)) g5,
    lvK (by rw [r0]) (fun i _ => ⟨by rw [h1 4 (by omega)], by rw [h1 5 (by omega)], by rw [h1 6 (by omega)]⟩) (fun j _ => h2 j (by omega)) g6, lvL (by rw [h1 7 (by omega)]) (fun i _ => ⟨by rw [r8], by rw [r9], by rw [r10], by rw [r11]⟩) (fun j _ => h2 j (by omega)) g7⟩
theorem slot_fr {j : Nat} (h8 : W ≤ 8) (h1 : ∀ i, i < 12 → c' (s + i) = c (s + i)) (h2 : ∀ j, j < 420 → c' 163 (b + j) = c 163 (b + j)) (h3 : c' 99 j = c 99 j) (h4 : c' 174 (1 + j) = c 174 (1 + j)) (h : SlotR c j s b H O W) : SlotR c' j s b H O W := by
  unfold SlotR at *
  rw [h3, h4]
  rcases h with h | ⟨a, b, h⟩
  · exact Or.inl h
  · exact Or.inr ⟨a, b, live_fr h8 h1 h2 h⟩
theorem row_fr (h1 : c' 95 2 = c 95 2) (h2 : c' 156 50 = c 156 50) (h3 : c' 189 = c 189) (h4 : c' 96 = c 96) (h : RowR c) : RowR c' := by
  unfold RowR at *
  rw [h1, h2, h3, h4]; exact h
theorem tape_fr (h1 : c' 5 4 = c 5 4) (h2 : c' 156 0 = c 156 0) (h3 : c' 157 = c 157) (h4 : c' 6 = c 6) (h : TapeR c) : TapeR c' := by
  unfold TapeR at *
  rw [h1, h2, h3, h4]; exact h
theorem lot_fr (h8 : W ≤ 8) (h1 : c' 41 4 = c 41 4) (h2 : c' 41 5 = c 41 5) (h3 : c' 156 40 = c 156 40) (h4 : ∀ j, j < 480 → c' 183 j = c 183 j) (h5 : ∀ j, j < 20 → c' (45 + j) = c (45 + j)) (h6 : ∀ j, j < 20 → c' (66 + j) = c (66 + j)) (h : LotR c W) : LotR c' W := by
  obtain ⟨k, nx, g1, g2, g3, g4, g5, g6⟩ := h
  refine ⟨k, nx, g1, g2, h1.trans g3, h2.trans g4, h3.trans g5, fun i hi => ?_⟩
  obtain ⟨a, b⟩ := g6 i hi
  have hr : (nx + 20 - k + i) % 20 < 20 := Nat.mod_lt _ (by decide)
  refine ⟨fun h hh => ?_, fun w hw => ?_⟩
  · rw [h4 _ (by omega), h5 _ hr]
    exact a h hh
  · rw [h4 _ (by omega), h6 _ hr]
    exact b w hw
end Frames
/-- a call that changes -/
theorem step_c {eX eM : ME} {as : List Value} (h : ∀ mm, RR mm → ∃ (V : Value) (mX mM : MM), Runs eX (.ref 0 :: as) mm (fun r m => r = V ∧ Kq mX m) ∧ (∀ m, Kq mX m → Runs eM (.ref 156 :: as) m (fun r m' => r = V ∧ Kq mM m')) ∧ RR mM) : StepOK RR eX eM as := by
  intro mm hR
  obtain ⟨V, mX, mM, h1, h2, h3⟩ := h mm hR
  refine ⟨_, h1, ?_⟩
  rintro r m1 ⟨rfl, k1⟩
  refine ⟨_, h2 m1 k1, ?_⟩
  rintro r' m2 ⟨rfl, k2⟩
  exact ⟨rfl, RR_kq h3 k2⟩
theorem RR_put {mm m : MM} {t s H O S Qn W C J F B : Nat} (h1 : isT t) (h2 : isN s) (h3 : RefR mm.2.2 t s) (h4 : m.2.2 = mm.2.2) (h5 : BodyR m.1 t s H O S Qn W C J F B) (h6 : LotR m.1 W) : RR m := ⟨t, s, H, O, S, Qn, W, C, J, F, B, h1, h2, by rw [h4]; exact h3, h5, h6⟩
/-- only what the now state holds has changed -/
theorem RR_live {mm m : MM} {t s H O S Qn W C J F B : Nat} (ht : isT t) (hs : isN s) (hr : RefR mm.2.2 t s) (hb : BodyR mm.1 t s H O S Qn W C J F B) (hl : LotR mm.1 W) (h4 : m.2.2 = mm.2.2) (f : ∀ a, (a < s ∨ s + 14 ≤ a) → a ≠ 163 → m.1 a = mm.1 a) (g : ∀ j, 420 ≤ j → m.1 163 j = mm.1 163 j) (hL : LiveR m.1 s 0 H O W) : RR m := by
  have hs' : s = 24 ∨ s = 114 := hs
  have h8 := hb.sz.2.2.2.2.1
  refine RR_put ht hs hr h4 ⟨town_fr ht (fun a ha => f a (by omega) (by omega)) hb.1, hL,
    slot_fr h8 (fun i _ => f _ (by omega) (by omega)) (fun j _ => g _ (by omega)) (by rw [f _ (by omega) (by omega)]) (by rw [f _ (by omega) (by omega)]) hb.2.2.1, slot_fr h8 (fun i _ => f _ (by omega) (by omega)) (fun j _ => g _ (by omega)) (by rw [f _ (by omega) (by omega)]) (by rw [f _ (by omega) (by omega)]) hb.2.2.2.1, row_fr (by rw [f _ (by omega) (by omega)]) (by rw [f _ (by omega) (by omega)]) (f _ (by omega) (by omega)) (f _ (by omega) (by omega)) hb.2.2.2.2.1, tape_fr (by rw [f _ (by omega) (by omega)]) (by rw [f _ (by omega) (by omega)]) (f _ (by omega) (by omega)) (f _ (by omega) (by omega)) hb.2.2.2.2.2.1, ?_⟩ (lot_fr h8 (by rw [f _ (by omega) (by omega)]) (by rw [f _ (by omega) (by omega)]) (by rw [f _ (by omega) (by omega)]) (fun j _ => by rw [f _ (by omega) (by omega)]) (fun j _ => f _ (by omega) (by omega)) (fun j _ => f _ (by omega) (by omega)) hl)
  rw [f _ (by omega) (by omega), f _ (by omega) (by omega)]
  exact hb.2.2.2.2.2.2
/-- only small things outside the towns and states have changed -/
theorem RR_out {mm m : MM} {t s H O S Qn W C J F B : Nat} (ht : isT t) (hs : isN s) (hr : RefR mm.2.2 t s) (hb : BodyR mm.1 t s H O S Qn W C J F B) (hl : LotR m.1 W) (h4 : m.2.2 = mm.2.2) (f : ∀ a, a ≠ 5 → a ≠ 6 → a ≠ 156 → a ≠ 157 → a ≠ 41 → a ≠ 95 → a ≠ 96 → a ≠ 189 → m.1 a = mm.1 a) (hRow : RowR m.1) (hTape : TapeR m.1) (hpl : m.1 156 9 = mm.1 156 9) : RR m := by
  have hs' : s = 24 ∨ s = 114 := hs
  have h8 := hb.sz.2.2.2.2.1
  have f2 : ∀ a, (10 ≤ a ∧ a < 41) ∨ (98 ≤ a ∧ a < 156) ∨ (158 ≤ a ∧ a < 189) → m.1 a = mm.1 a := fun a ha => f a (by omega) (by omega) (by omega) (by omega) (by omega) (by omega) (by omega) (by omega)
  refine RR_put ht hs hr h4 ⟨town_fr ht (fun a ha => f2 a (by omega)) hb.1, live_fr h8 (fun i _ => f2 _ (by omega)) (fun j _ => by rw [f2 163 (by omega)]) hb.2.1,
    slot_fr h8 (fun i _ => f2 _ (by omega)) (fun j _ => by rw [f2 163 (by omega)]) (by rw [f2 _ (by omega)]) (by rw [f2 _ (by omega)]) hb.2.2.1, slot_fr h8 (fun i _ => f2 _ (by omega)) (fun j _ => by rw [f2 163 (by omega)]) (by rw [f2 _ (by omega)]) (by rw [f2 _ (by omega)]) hb.2.2.2.1, hRow, hTape, ?_⟩ hl
  rw [hpl, f 1 (by omega) (by omega) (by omega) (by omega) (by omega) (by omega) (by omega) (by omega)]
  exact hb.2.2.2.2.2.2

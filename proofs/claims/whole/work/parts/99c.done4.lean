/-! done -/
theorem step_g {eX eM : ME} {as : List Value} (h : ∀ mm, RR mm → ∃ (V : Value) (P : MM → Prop), Runs eX (.ref 0 :: as) mm (fun r m => r = V ∧ P m) ∧ ∀ m, P m → Runs eM (.ref 156 :: as) m (fun r m' => r = V ∧ RR m')) : StepOK RR eX eM as := by
  intro mm hR
  obtain ⟨V, P, h1, h2⟩ := h mm hR
  refine ⟨_, h1, ?_⟩
  rintro r m1 ⟨rfl, k1⟩
  refine ⟨_, h2 m1 k1, ?_⟩
  rintro r' m2 ⟨rfl, k2⟩
  exact ⟨rfl, k2⟩
/-- the kept cells of m, the others of mm -/
def mixM (mm m : MM) : MM := (fun x y => bif kq x y then m.1 x y else mm.1 x y, mm.2.1, m.2.2)
theorem mix_at (mm m : MM) {x y : Nat} (e : kq x y = true) : (mixM mm m).1 x y = m.1 x y := by
  show (bif kq x y then m.1 x y else mm.1 x y) = _
  rw [e]; rfl
theorem mix_row {mm m : MM} {x : Nat} (h : ∀ y, kq x y = true → m.1 x y = mm.1 x y) : (mixM mm m).1 x = mm.1 x := by
  funext y
  show (bif kq x y then m.1 x y else mm.1 x y) = _
  cases e : kq x y with
  | false => rfl
  | true => exact h y e
theorem RR_mix {mm m : MM} (h : RR (mixM mm m)) : RR m := RR_kq h ⟨fun x y e => (mix_at mm m e).symm, rfl⟩
theorem kq_s {s : Nat} (hs : isN s) (i : Nat) (hi : i < 12) (y : Nat) : kq (s + i) y = true := by
  have e : i = 0 ∨ i = 1 ∨ i = 2 ∨ i = 3 ∨ i = 4 ∨ i = 5 ∨ i = 6 ∨ i = 7 ∨ i = 8 ∨ i = 9 ∨ i = 10 ∨ i = 11 := by omega
  rcases hs with rfl | rfl <;> rcases e with rfl | rfl | rfl | rfl | rfl | rfl | rfl | rfl | rfl | rfl | rfl | rfl <;> rfl
theorem done_RR {mm m1 m4 : MM} {t s H O S Qn W C J F B k nx p K sh : Nat} {q : (Nat → Nat) × (Nat → Nat) × Nat} (ht : isT t) (hs : isN s) (hr : RefR mm.2.2 t s) (hb : BodyR mm.1 t s H O S Qn W C J F B)
    (g2 : nx < 20) (g6 : ∀ i, i < k → (∀ h, h < 16 → (∃ x : Nat, x ≤ 99 ∧ mm.1 183 (24 * i + h) = nI x) ∧ mm.1 (45 + (nx + 20 - k + i) % 20) h = mm.1 183 (24 * i + h)) ∧ (∀ w, w < W → (∃ p : Nat, p ≤ 99 ∧ mm.1 183 (24 * i + 16 + w) = nI p) ∧ mm.1 (66 + (nx + 20 - k + i) % 20) w = mm.1 183 (24 * i + 16 + w)))
    (hK : k < 20 ∧ K = k ∧ sh = 0 ∨ k = 20 ∧ K = 19 ∧ sh = 24) (hp : p = if nx + 1 < 20 then nx + 1 else 0) (k1 : Kq mm m1) (wX : WkX m1 W q) (r2 : m4.2.2 = mm.2.2)
    (a1 : ∀ x y, x < 156 → kq x y = true → m4.1 x y = (coX m1 s k nx p).1 x y) (a2 : ∀ x y, 156 ≤ x → x ≠ 163 → x ≠ 183 → ¬ (x = 156 ∧ y = 40) → kq x y = true → m4.1 x y = mm.1 x y) (a3 : m4.1 156 40 = nI (K + 1))
    (a4 : ∀ j, (j < 10 ∨ 26 ≤ j ∧ j < 50 ∨ 58 ≤ j) → j ≠ 1 → m4.1 163 j = mm.1 163 j) (a5 : m4.1 163 1 = nI 0) (a6 : ∀ h, h < 16 → m4.1 163 (10 + h) = nI (q.1 h)) (a7 : ∀ w, w < W → m4.1 163 (50 + w) = nI (q.2.1 w))
    (a8 : ∀ j, j < 24 * K → m4.1 183 j = mm.1 183 (j + sh)) (a9 : ∀ h, h < 16 → m4.1 183 (24 * K + h) = mm.1 163 (10 + h)) (a10 : ∀ w, w < W → m4.1 183 (24 * K + 16 + w) = mm.1 163 (50 + w)) : RR m4 := by
  have hs' : s = 24 ∨ s = 114 := hs
  have ht' : t = 10 ∨ t = 100 := ht
  have z5 := hb.sz.2.2.2.2.1
  have hp20 : p < 20 := by rw [hp]; split <;> omega
  have hring : ∀ i, i < K → (p + 20 - (K + 1) + i) % 20 = (nx + 20 - k + (i + sh / 24)) % 20 ∧ (nx + 20 - k + (i + sh / 24)) % 20 ≠ nx ∧ i + sh / 24 < k := by
    intro i hi
    by_cases c : nx + 1 < 20
    · rw [if_pos c] at hp
      rcases hK with ⟨h1, rfl, rfl⟩ | ⟨rfl, rfl, rfl⟩
      · exact ⟨by omega, by omega, by omega⟩
      · exact ⟨by omega, by omega, by omega⟩
    · rw [if_neg c] at hp
      rcases hK with ⟨h1, rfl, rfl⟩ | ⟨rfl, rfl, rfl⟩
      · exact ⟨by omega, by omega, by omega⟩
      · exact ⟨by omega, by omega, by omega⟩
  have hlast : (p + 20 - (K + 1) + K) % 20 = nx := by
    by_cases c : nx + 1 < 20
    · rw [if_pos c] at hp
      rcases hK with ⟨h1, rfl, rfl⟩ | ⟨rfl, rfl, rfl⟩ <;> omega
    · rw [if_neg c] at hp
      rcases hK with ⟨h1, rfl, rfl⟩ | ⟨rfl, rfl, rfl⟩ <;> omega
  have hK20 : K + 1 ≤ 20 := by omega
  have emin : min 20 (k + 1) = K + 1 := by omega
  refine RR_mix (mm := mm) ?_
  have hx : ∀ x, x ≠ 41 → x ≠ 163 → x ≠ 156 → x ≠ 183 → x ≠ s → x ≠ s + 1 → x ≠ s + 3 → x ≠ 45 + nx → x ≠ 66 + nx → (mixM mm m4).1 x = mm.1 x := by
    intro x b1 b2 b3 b4 b5 b6 b7 b8 b9
    refine mix_row fun y e => ?_
    by_cases c : x < 156
    · rw [a1 x y c e, ← k1.g x y e]
      unfold coX
      simp (disch := omega) only [s_wRo, s_wIo]
    · exact a2 x y (by omega) b2 b4 (fun z => b3 z.1) e
  have c41 : (mixM mm m4).1 41 4 = nI (K + 1) ∧ (mixM mm m4).1 41 5 = nI p := by
    rw [mix_at mm m4 (show kq 41 4 = true from rfl), mix_at mm m4 (show kq 41 5 = true from rfl), a1 41 4 (by omega) rfl, a1 41 5 (by omega) rfl]
    unfold coX
    simp (disch := omega) only [s_wRo, s_wIo, s_wIk, pk_us, pk_un, emin]
    exact ⟨trivial, trivial⟩
  have c156 : ∀ y, y ≠ 40 → kq 156 y = true → (mixM mm m4).1 156 y = mm.1 156 y := by
    intro y h e
    rw [mix_at mm m4 e]
    exact a2 156 y (by omega) (by omega) (by omega) (fun z => h z.2) e
  have cs : ∀ y, (mixM mm m4).1 s y = upd (mm.1 s) 7 (nI 0) y := by
    intro y
    have e : kq s y = true := kq_s hs 0 (by omega) y
    rw [mix_at mm m4 e, a1 s y (by omega) e]
    unfold coX
    rw [wI_k]
    by_cases c : y = 7
    · subst c; rw [pk_us, pk_us]
    · rw [pk_un c, pk_un c]
      simp (disch := omega) only [s_wRo, s_wIo]
      exact k1.g s y e
  have cs1 : ∀ h, h < 16 → (mixM mm m4).1 (s + 1) h = nI (q.1 h) := by
    intro h hh
    have e := kq_s hs 1 (by omega) h
    rw [mix_at mm m4 e, a1 (s + 1) h (by omega) e, ← (wX.1 h hh).1]
    unfold coX
    simp (disch := omega) only [s_wRo, s_wIo, s_wRk]
    exact cpy_lt hh
  have cs3 : ∀ w, w < W → (mixM mm m4).1 (s + 3) w = nI (q.2.1 w) := by
    intro w hw
    have e := kq_s hs 3 (by omega) w
    rw [mix_at mm m4 e, a1 (s + 3) w (by omega) e, ← (wX.2.1 w hw).1]
    unfold coX
    simp (disch := omega) only [s_wRo, s_wIo, s_wRk]
    exact cpy_lt (by omega)
  have c45 : ∀ h, h < 16 → (mixM mm m4).1 (45 + nx) h = mm.1 (s + 1) h := by
    intro h hh
    have e := kq_45 g2 h
    rw [mix_at mm m4 e, a1 (45 + nx) h (by omega) e, ← k1.g (s + 1) h (kq_s hs 1 (by omega) h)]
    unfold coX
    simp (disch := omega) only [s_wRo, s_wIo, s_wRk]
    exact cpy_lt hh
  have c66 : ∀ w, w < W → (mixM mm m4).1 (66 + nx) w = mm.1 (s + 3) w := by
    intro w hw
    have e := kq_66 g2 w
    rw [mix_at mm m4 e, a1 (66 + nx) w (by omega) e, ← k1.g (s + 3) w (kq_s hs 3 (by omega) w)]
    unfold coX
    simp (disch := omega) only [s_wRo, s_wIo, s_wRk]
    exact cpy_lt (by omega)
  have c163 : ∀ j, (j < 10 ∨ 26 ≤ j ∧ j < 50 ∨ 58 ≤ j) → j ≠ 1 → (mixM mm m4).1 163 j = mm.1 163 j := fun j h h1 => (mix_at mm m4 (show kq 163 j = true from rfl)).trans (a4 j h h1)
  have c163' : ∀ j, (mixM mm m4).1 163 j = m4.1 163 j := fun j => mix_at mm m4 (show kq 163 j = true from rfl)
  have c183 : ∀ j, j < 480 → (mixM mm m4).1 183 j = m4.1 183 j := fun j hj => mix_at mm m4 (kq_183 hj)
  have c40 : (mixM mm m4).1 156 40 = nI (K + 1) := (mix_at mm m4 rfl).trans a3
  have h2 : (mixM mm m4).2.2 = mm.2.2 := r2
  generalize mixM mm m4 = m' at hx c41 c156 cs cs1 cs3 c45 c66 c163 c163' c183 c40 h2 ⊢
  obtain ⟨w1, w2, w3, w4, w5, w6, w7⟩ := hb.2.1
  have hxs : ∀ i, 4 ≤ i → i < 12 ∨ i = 2 → m'.1 (s + i) = mm.1 (s + i) := fun i _ _ => hx _ (by omega) (by omega) (by omega) (by omega) (by omega) (by omega) (by omega) (by omega) (by omega)
  have x2 : m'.1 (s + 2) = mm.1 (s + 2) := hx _ (by omega) (by omega) (by omega) (by omega) (by omega) (by omega) (by omega) (by omega) (by omega)
  have x7 : m'.1 (s + 7) = mm.1 (s + 7) := hxs 7 (by omega) (by omega)
  have x8 : m'.1 (s + 7 + 1) = mm.1 (s + 7 + 1) := hxs 8 (by omega) (by omega)
  have x9 : m'.1 (s + 7 + 2) = mm.1 (s + 7 + 2) := hxs 9 (by omega) (by omega)
  have x10 : m'.1 (s + 7 + 3) = mm.1 (s + 7 + 3) := hxs 10 (by omega) (by omega)
  have x11 : m'.1 (s + 7 + 4) = mm.1 (s + 7 + 4) := hxs 11 (by omega) (by omega)
  have lv : LiveR m'.1 s 0 H O W := by
    refine ⟨lvM (by rw [cs, pk_un (by decide)]) (c163 _ (by omega) (by omega)) w1, fun h hh => ?_, lvO x2 (fun j _ _ => c163 _ (by omega) (by omega)) w3, lvD (fun j _ _ => c163 _ (by omega) (by omega)) w4, fun w hw => ?_, ⟨0, by omega, (c163' 1).trans a5, by rw [cs, pk_us], fun i hi => absurd hi (Nat.not_lt_zero _)⟩, lvL (by rw [x7]) (fun i _ => ⟨by rw [x8], by rw [x9], by rw [x10], by rw [x11]⟩) (fun j _ => c163 _ (by omega) (by omega)) w7⟩
    · have e : m'.1 163 (0 + (10 + h)) = nI (q.1 h) := by rw [Nat.zero_add, c163' (10 + h), a6 h hh]
      rw [e, cs1 h hh]
      exact ⟨⟨_, (wX.1 h hh).2, rfl⟩, rfl⟩
    · have e : m'.1 163 (0 + (50 + w)) = nI (q.2.1 w) := by rw [Nat.zero_add, c163' (50 + w), a7 w hw]
      rw [e, cs3 w hw]
      exact ⟨⟨_, (wX.2.1 w hw).2, rfl⟩, rfl⟩
  have hx0 : ∀ x, (x < 24 ∨ 98 < x ∧ x < 114 ∨ 128 ≤ x ∧ x < 156 ∨ 156 < x ∧ x < 163 ∨ 163 < x ∧ x < 183 ∨ 183 < x ∨ x = 95 ∨ x = 96) → m'.1 x = mm.1 x := fun x _ => hx _ (by omega) (by omega) (by omega) (by omega) (by omega) (by omega) (by omega) (by omega) (by omega)
  refine RR_put ht hs hr h2 ⟨town_fr ht (fun x hx' => hx0 x (by omega)) hb.1, lv, ?_, ?_, row_fr (by rw [hx0 _ (by omega)]) (c156 _ (by decide) rfl) (hx0 _ (by omega)) (hx0 _ (by omega)) hb.2.2.2.2.1, tape_fr (by rw [hx0 _ (by omega)]) (c156 _ (by decide) rfl) (hx0 _ (by omega)) (hx0 _ (by omega)) hb.2.2.2.2.2.1, ?_⟩ ⟨K + 1, p, hK20, hp20, c41.1, c41.2, c40, fun i hi => ?_⟩
  · exact slot_fr z5 (fun i _ => hx0 _ (by omega)) (fun j _ => c163 _ (by omega) (by omega)) (by rw [hx0 _ (by omega)]) (by rw [hx0 _ (by omega)]) hb.2.2.1
  · exact slot_fr z5 (fun i _ => hx0 _ (by omega)) (fun j _ => c163 _ (by omega) (by omega)) (by rw [hx0 _ (by omega)]) (by rw [hx0 _ (by omega)]) hb.2.2.2.1
  · rw [hx0 1 (by omega), c156 9 (by decide) rfl]
    exact hb.2.2.2.2.2.2
  · by_cases c : i < K
    · obtain ⟨q1, q2, q3⟩ := hring i c
      obtain ⟨b1, b2⟩ := g6 _ q3
      rw [q1]
      have hr20 : (nx + 20 - k + (i + sh / 24)) % 20 < 20 := Nat.mod_lt _ (by decide)
      generalize (nx + 20 - k + (i + sh / 24)) % 20 = r at *
      have esh : 24 * (sh / 24) = sh := by omega
      have hxr : m'.1 (45 + r) = mm.1 (45 + r) := hx _ (by omega) (by omega) (by omega) (by omega) (by omega) (by omega) (by omega) (by omega) (by omega)
      have hxw : m'.1 (66 + r) = mm.1 (66 + r) := hx _ (by omega) (by omega) (by omega) (by omega) (by omega) (by omega) (by omega) (by omega) (by omega)
      refine ⟨fun h hh => ?_, fun w hw => ?_⟩
      · have e : m'.1 183 (24 * i + h) = mm.1 183 (24 * (i + sh / 24) + h) := by
          rw [c183 _ (by omega), a8 _ (by omega), show 24 * i + h + sh = 24 * (i + sh / 24) + h by omega]
        rw [e, hxr]
        exact b1 h hh
      · have e : m'.1 183 (24 * i + 16 + w) = mm.1 183 (24 * (i + sh / 24) + 16 + w) := by
          rw [c183 _ (by omega), a8 _ (by omega), show 24 * i + 16 + w + sh = 24 * (i + sh / 24) + 16 + w by omega]
        rw [e, hxw]
        exact b2 w hw
    · obtain rfl : i = K := by omega
      rw [hlast]
      refine ⟨fun h hh => ?_, fun w hw => ?_⟩
      · rw [c183 _ (by omega), a9 h hh, c45 h hh]
        exact hb.2.1.hg h hh
      · rw [c183 _ (by omega), a10 w hw, c66 w hw]
        exact hb.2.1.wd w hw
theorem st_done : StepOK RR e_X11_done e_X12_done [] := by
  apply step_g
  rintro mm ⟨t, s, H, O, S, Qn, W, C, J, F, B, ht, hs, hr, hb, hl⟩
  obtain ⟨z1, z2, z3, z4, z5, z6, z7, z8, z9⟩ := hb.sz
  obtain ⟨n1, n2, n3, n4, n5, n6, n7, n8, n9⟩ := hb.nm
  obtain ⟨c1, c2, c3, c4, c5, c6, c7, c8, c9, c10⟩ := hb.nc
  have rf := Kp.rf (kp := kq) mm
  have hs' : s = 24 ∨ s = 114 := hs
  have ht' : t = 10 ∨ t = 100 := ht
  have hR : RR mm := ⟨t, s, H, O, S, Qn, W, C, J, F, B, ht, hs, hr, hb, hl⟩
  obtain ⟨n, hn, e1, e7, hw⟩ := works_v hb
  by_cases hn0 : n = 0
  · subst hn0
    refine ⟨.int 0, fun m => Kq mm m, ?_, fun m k => ?_⟩
    · apply b_X11_done
      rw [hr.2.1, e7]
      exact ⟨hs.s.at, fun z => absurd rfl z, fun _ => ⟨rfl, rf⟩⟩
    · apply b_X12_done
      rw [k.r163, e1]
      exact ⟨fun z => absurd rfl z, fun _ => ⟨rfl, RR_kq hR k⟩⟩
  · have vc := verdictC_ok ht hs hb hn e7 fun i hi => ⟨(hw i hi).1, (hw i hi).2.1⟩
    have mk : ∀ m m1 : MM, (∀ x y, 156 ≤ x → kq x y = true → m.1 x y = mm.1 x y) → m.2.2 = mm.2.2 → m1.2 = m.2 → (∀ x, x ≠ 183 → m1.1 x = m.1 x) → (∀ j, j < 480 → m1.1 183 j = m.1 183 j) → FrA m1 mm m1 := fun m m1 k kr q1 q2 q3 => by
      refine ⟨by rw [q1]; exact kr, fun x y h6 e hx => ?_, fun j _ => by rw [q2 163 (by decide), k 163 j (by decide) rfl], rfl, fun _ _ _ _ => rfl⟩
      by_cases c : x = 183
      · subst c
        have : y < 480 := Nat.ble_eq.mp (show Nat.ble (y + 1) 480 = true from e)
        rw [q3 y this]; exact k 183 y h6 e
      · rw [q2 x c]; exact k x y h6 e
    by_cases c0 : (avs (mm.1 162) (tideV mm.1 12) W J C (lnV mm.1) (wnV mm.1) (whV mm.1) (weV mm.1) (wuV mm.1) n (hgV mm.1, pcV mm.1, 0) 100).1 = 0
    · obtain ⟨k, nx, g1, g2, g3, g4, g5, g6⟩ := id hl
      obtain ⟨p, hp⟩ : ∃ p, p = if nx + 1 < 20 then nx + 1 else 0 := ⟨_, rfl⟩
      refine ⟨.int (nI (avs (mm.1 162) (tideV mm.1 12) W J C (lnV mm.1) (wnV mm.1) (whV mm.1) (weV mm.1) (wuV mm.1) n (hgV mm.1, pcV mm.1, 0) 100).2.2.2), fun m => ∃ m1, Kq mm m1 ∧ WkX m1 W (avs (mm.1 162) (tideV mm.1 12) W J C (lnV mm.1) (wnV mm.1) (whV mm.1) (weV mm.1) (wuV mm.1) n (hgV mm.1, pcV mm.1, 0) 100).2 ∧ m = coX m1 s k nx p, ?_, ?_⟩
      · apply b_X11_done
        rw [hr.1, hr.2.1, e7]
        refine ⟨hs.s.at, fun _ => ⟨ht.at, hs.s.at, icall vc fun m1 ⟨k1, w1⟩ => ⟨fun _ => ?_, fun z => absurd (congrArg nI c0) z⟩⟩, fun z => absurd z (nI_ne0 (by omega) (by omega))⟩
        have w1 := w1 c0
        rw [k1.2, hr.2.1]
        refine ⟨hs.s.at, vcall (carryOut_ok (m := m1) (k := k) (nx := nx) (p := p) hs g1 g2 (by rw [k1.g 41 4 rfl]; exact g3) (by rw [k1.g 41 5 rfl]; exact g4) hp) ?_⟩
        rintro m2 rfl
        refine ⟨?_, m1, k1, w1, rfl⟩
        rw [← w1.2.2]
        unfold coX
        simp (disch := omega) only [s_wRo, s_wIo, s_wIk, pk_un]
      · rintro m ⟨m1, k1, wX, em⟩
        have e156 : ∀ x, 156 ≤ x → m.1 x = m1.1 x := fun x hx => by
          rw [em]
          unfold coX
          simp (disch := omega) only [s_wRo, s_wIo]
        have e22 : m.2.2 = mm.2.2 := by rw [em]; exact k1.2
        have kk : ∀ x y, 156 ≤ x → kq x y = true → m.1 x y = mm.1 x y := fun x y h6 e => by rw [e156 x h6]; exact k1.g x y e
        have k163 : m.1 163 = mm.1 163 := funext fun y => kk 163 y (by decide) rfl
        apply b_X12_done
        rw [k163, e1]
        refine ⟨fun _ => ?_, fun z => absurd z (nI_ne0 (by omega) (by omega))⟩
        refine vcall (keep20_ok m) ?_
        rintro m2 ⟨q1, q2, q3, q4, q5⟩
        refine icall (makesAll_ok hb (mk m m2 kk e22 q1 q2 q3) hn e1 (fun i hi => ⟨(hw i hi).1, (hw i hi).2.2⟩) (fun h hh => by rw [q2 163 (by decide), k163]; exact (hb.hgv hh).2.1) (fun w hw' => by rw [q2 163 (by decide), k163]; exact (hb.pc hw').2.1)) ?_
        rintro m3 ⟨f3, w3⟩
        have w3 := w3 c0
        refine ⟨fun _ => ?_, fun z => absurd (congrArg nI c0) z⟩
        have e40 : m3.1 156 40 = nI k := (f3.2.1 156 40 (by decide) rfl (by decide)).trans g5
        have lo : ∀ x y, x < 156 → kq x y = true → m3.1 x y = (coX m1 s k nx p).1 x y := fun x y hx e => by rw [f3.2.2.2.2 x y hx e, q2 x (by omega), em]
        have c183 : ∀ j, j < 480 → m3.1 183 j = mm.1 183 j := fun j hj => f3.2.1 183 j (by decide) (kq_183 hj) (by decide)
        have k480 : ∀ h, h < 16 → m3.1 183 (480 + h) = mm.1 163 (10 + h) := fun h hh => by rw [f3.2.2.2.1, q4 h hh, k163]
        have k496 : ∀ w, w < 8 → m3.1 183 (480 + 16 + w) = mm.1 163 (50 + w) := fun w hh => by rw [f3.2.2.2.1, q5 w hh, k163]
        rw [e40]
        by_cases ck : k = 20
        · refine ⟨fun z => absurd (congrArg nI ck) z, fun _ => done44_ok ?_⟩
          intro m4 v1 v2 v3 v4 v5 v6
          rw [w3.2.2]
          refine ⟨rfl, done_RR (K := 19) (sh := 24) ht hs hr hb g2 g6 (Or.inr ⟨ck, rfl, rfl⟩) hp k1 wX (by rw [v1]; exact f3.1) (fun x y hx e => by rw [v2 x (by omega) (by omega) (by omega)]; exact lo x y hx e) (fun x y hx h1 h2 h3 e => ?_) (by rw [v3, pk_us]) (fun j hj h1 => by rw [v4, pk_un h1]; exact f3.2.2.1 j hj) (by rw [v4, pk_us]; rfl) (fun h hh => by rw [v4, pk_un (by omega)]; exact (w3.1 h hh).1) (fun w hw' => by rw [v4, pk_un (by omega)]; exact (w3.2.1 w hw').1) (fun j hj => by rw [v5 j (by omega)]; exact c183 _ (by omega)) (fun h hh => by rw [show 24 * 19 + h = 456 + h by omega, v6 h (by omega)]; exact k480 h hh) (fun w hw' => by rw [show 24 * 19 + 16 + w = 456 + (16 + w) by omega, v6 (16 + w) (by omega), show 480 + (16 + w) = 480 + 16 + w by omega]; exact k496 w (by omega))⟩
          by_cases c6 : x = 156
          · subst c6
            rw [v3, pk_un (fun z => h3 ⟨rfl, z⟩)]
            exact f3.2.1 156 y hx e h1
          · rw [v2 x h2 c6 h1]
            exact f3.2.1 x y hx e h1
        · refine ⟨fun _ => done80_ok (kp := k) (by omega) e40 ?_, fun z => absurd ((nI_eq (a := k) (b := 20) (by omega) (by omega)).mp z) ck⟩
          intro m4 v1 v2 v3 v4 v5 v6
          rw [w3.2.2]
          refine ⟨rfl, done_RR (K := k) (sh := 0) ht hs hr hb g2 g6 (Or.inl ⟨by omega, rfl, rfl⟩) hp k1 wX (by rw [v1]; exact f3.1) (fun x y hx e => by rw [v2 x (by omega) (by omega) (by omega)]; exact lo x y hx e) (fun x y hx h1 h2 h3 e => ?_) (by rw [v3, pk_us]) (fun j hj h1 => by rw [v4, pk_un h1]; exact f3.2.2.1 j hj) (by rw [v4, pk_us]; rfl) (fun h hh => by rw [v4, pk_un (by omega)]; exact (w3.1 h hh).1) (fun w hw' => by rw [v4, pk_un (by omega)]; exact (w3.2.1 w hw').1) (fun j hj => by rw [v5 j (by omega)]; exact c183 _ (by omega)) (fun h hh => by rw [v6 h (by omega)]; exact k480 h hh) (fun w hw' => by rw [show 24 * k + 16 + w = 24 * k + (16 + w) by omega, v6 (16 + w) (by omega), show 480 + (16 + w) = 480 + 16 + w by omega]; exact k496 w (by omega))⟩
          by_cases c6 : x = 156
          · subst c6
            rw [v3, pk_un (fun z => h3 ⟨rfl, z⟩)]
            exact f3.2.1 156 y hx e h1
          · rw [v2 x h2 c6 h1]
            exact f3.2.1 x y hx e h1
    · have cI : ¬ nI (avs (mm.1 162) (tideV mm.1 12) W J C (lnV mm.1) (wnV mm.1) (whV mm.1) (weV mm.1) (wuV mm.1) n (hgV mm.1, pcV mm.1, 0) 100).1 = 0 := by
        have := avs_le (st := mm.1 162) (tide := tideV mm.1 12) (W := W) (J := J) (C := C) (ln := lnV mm.1) (wn := wnV mm.1) (wh := whV mm.1) (we := weV mm.1) (wu := wuV mm.1) (n := n) (q := (hgV mm.1, pcV mm.1, 0)) 100
        exact nI_ne0 (by omega) (by omega)
      refine ⟨.int (-2), fun m => Kq mm m, ?_, fun m k => ?_⟩
      · apply b_X11_done
        rw [hr.1, hr.2.1, e7]
        exact ⟨hs.s.at, fun _ => ⟨ht.at, hs.s.at, icall vc fun m1 ⟨k1, _⟩ => ⟨fun z => absurd z cI, fun _ => ⟨rfl, k1⟩⟩⟩, fun z => absurd z (nI_ne0 (by omega) (by omega))⟩
      · apply b_X12_done
        rw [k.r163, e1]
        refine ⟨fun _ => ?_, fun z => absurd z (nI_ne0 (by omega) (by omega))⟩
        refine vcall (keep20_ok m) ?_
        rintro m1 ⟨q1, q2, q3, q4, q5⟩
        refine icall (makesAll_ok hb (mk m m1 (fun x y _ e => k.g x y e) k.2 q1 q2 q3) hn e1 (fun i hi => ⟨(hw i hi).1, (hw i hi).2.2⟩) (fun h hh => by rw [q2 163 (by decide), k.r163]; exact (hb.hgv hh).2.1) (fun w hw' => by rw [q2 163 (by decide), k.r163]; exact (hb.pc hw').2.1)) ?_
        rintro m2 ⟨f2, -⟩
        refine ⟨fun z => absurd z cI, fun _ => ?_⟩
        refine vcall (putBack_ok (m := m2) (i := 20) (by omega)) ?_
        rintro m3 rfl
        refine ⟨rfl, RR_kq hR ⟨fun x y e => ?_, f2.1⟩⟩
        show (wR m2 163 (pbF (m2.1 163) (m2.1 183) 20 16 8)).1 x y = mm.1 x y
        by_cases c : x = 163
        · subst c
          rw [wR_k]
          unfold pbF
          by_cases c1 : 10 ≤ y ∧ y < 10 + 16
          · rw [if_pos c1, f2.2.2.2.1, show 24 * 20 + (y - 10) = 480 + (y - 10) by omega, q4 _ (by omega), k.r163, show 10 + (y - 10) = y by omega]
          · rw [if_neg c1]
            by_cases c2 : 50 ≤ y ∧ y < 50 + 8
            · rw [if_pos c2, f2.2.2.2.1, show 24 * 20 + 16 + (y - 50) = 480 + 16 + (y - 50) by omega, q5 _ (by omega), k.r163, show 50 + (y - 50) = y by omega]
            · rw [if_neg c2]
              exact f2.2.2.1 y (by omega)
        · rw [wR_o c]
          by_cases c6 : x < 156
          · rw [f2.2.2.2.2 x y c6 e, q2 x (by omega)]; exact k.g x y e
          · exact f2.2.1 x y (by omega) e c

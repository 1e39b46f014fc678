/-! undo -/
theorem shl45 : ∀ p, p < 20 → SHL[44 + 1 + 1 * p]? = some (.inl (0, 16, 0, 0)) := by
  intro p hp
  have e : p = 0 ∨ p = 1 ∨ p = 2 ∨ p = 3 ∨ p = 4 ∨ p = 5 ∨ p = 6 ∨ p = 7 ∨ p = 8 ∨ p = 9 ∨ p = 10 ∨ p = 11 ∨ p = 12 ∨ p = 13 ∨ p = 14 ∨ p = 15 ∨ p = 16 ∨ p = 17 ∨ p = 18 ∨ p = 19 := by omega
  rcases e with rfl | rfl | rfl | rfl | rfl | rfl | rfl | rfl | rfl | rfl | rfl | rfl | rfl | rfl | rfl | rfl | rfl | rfl | rfl | rfl <;> rfl
theorem shl66 : ∀ p, p < 20 → SHL[65 + 1 + 1 * p]? = some (.inl (0, 8, 0, 0)) := by
  intro p hp
  have e : p = 0 ∨ p = 1 ∨ p = 2 ∨ p = 3 ∨ p = 4 ∨ p = 5 ∨ p = 6 ∨ p = 7 ∨ p = 8 ∨ p = 9 ∨ p = 10 ∨ p = 11 ∨ p = 12 ∨ p = 13 ∨ p = 14 ∨ p = 15 ∨ p = 16 ∨ p = 17 ∨ p = 18 ∨ p = 19 := by omega
  rcases e with rfl | rfl | rfl | rfl | rfl | rfl | rfl | rfl | rfl | rfl | rfl | rfl | rfl | rfl | rfl | rfl | rfl | rfl | rfl | rfl <;> rfl
def tbX (mm : MM) (s k p : Nat) : MM := wR (wR (wI (wI mm 41 4 (nI k)) 41 5 (nI p)) (s + 1) (va_cpy (mm.1 (45 + p)) (mm.1 (s + 1)) 0 0 16)) (s + 3) (va_cpy (mm.1 (66 + p)) (mm.1 (s + 3)) 0 0 8)
theorem takeBack_ok {mm : MM} {s k nx p : Nat} (hs : isS s) (hk : k < 20) (hx : nx < 20) (e4 : mm.1 41 4 = nI (k + 1)) (e5 : mm.1 41 5 = nI nx) (hp : p = if nx = 0 then 19 else nx - 1) : Runs e_X9_takeBack [.ref 41, .ref s] mm (fun r m => r = .int 1 ∧ m = tbX mm s k p) := by
  have hs' : s = 24 ∨ s = 114 ∨ s = 128 ∨ s = 142 := hs
  refine b_X9_takeBack _ _ _ hs.at ?_
  by_cases h : nx = 0
  · rw [if_pos h] at hp
    subst hp h
    simp (disch := omega) only [lin, nI_add, pk_mul, s_sub, s_addneg, s_leT, s_leF, s_ltT, s_ltF, s_eqF, s_inT, s_neF, s_neF', s_neE, s_nleT, s_nleF, s_nltF, s_nltT, eq_self, nI_clamp, s_wIk, s_wIo, pk_us, pk_un, Nat.reduceAdd, Nat.reduceMul, Nat.reduceSub, Nat.zero_add, Nat.add_zero, Nat.mul_zero, true_implies, false_implies, implies_true, not_true, not_false, and_true, true_and, not_true_eq_false, not_false_eq_true, forall_const, e4, e5, s_wRo, s_wRk]
    simp only [Nat.add_sub_cancel]
    exact ⟨rfl, rfl, rfl⟩
  · rw [if_neg h] at hp
    obtain ⟨q, rfl⟩ : ∃ q, nx = q + 1 := ⟨nx - 1, by omega⟩
    obtain rfl : p = q := by omega
    have a1 := shl45 p (by omega)
    simp (disch := omega) only [lin, nI_add, pk_mul, s_sub, s_addneg, s_leT, s_leF, s_ltT, s_ltF, s_eqF, s_inT, s_neF, s_neF', s_neE, s_nleT, s_nleF, s_nltF, s_nltT, eq_self, nI_clamp, s_wIk, s_wIo, pk_us, pk_un, Nat.reduceAdd, Nat.reduceMul, Nat.reduceSub, Nat.zero_add, Nat.add_zero, Nat.mul_zero, true_implies, false_implies, implies_true, not_true, not_false, and_true, true_and, not_true_eq_false, not_false_eq_true, forall_const, e4, e5, s_wRo, s_wRk]
    have a2 := shl66 p (by omega)
    rw [Nat.one_mul] at a1 a2
    simp only [Nat.add_sub_cancel, Nat.one_mul]
    exact ⟨a1, a2, rfl⟩
/-- the model's putting back -/
def pbF (f g : Nat → Int32) (i a b j : Nat) : Int32 := if 10 ≤ j ∧ j < 10 + a then g (24 * i + (j - 10)) else if 50 ≤ j ∧ j < 50 + b then g (24 * i + 16 + (j - 50)) else f j
def pbM (m : MM) (i : Nat) : MM := wR m 163 (pbF (m.1 163) (m.1 183) i 16 8)
theorem pbF_1 {f g f' : Nat → Int32} {i a b j : Nat} (hb : b = 0 ∨ a = 16) (ha : a < 16) (h : ∀ j, f' j = pbF f g i a b j) : upd f' (10 + a) (g (24 * i + a)) j = pbF f g i (a + 1) b j := by
  by_cases c : j = 10 + a
  · subst c
    rw [pk_us]
    unfold pbF
    rw [if_pos (by omega), show 10 + a - 10 = a by omega]
  · rw [pk_un c, h]
    unfold pbF
    by_cases c2 : 10 ≤ j ∧ j < 10 + a
    · rw [if_pos c2, if_pos (by omega)]
    · rw [if_neg c2, if_neg (show ¬ (10 ≤ j ∧ j < 10 + (a + 1)) by omega)]
theorem pbF_2 {f g f' : Nat → Int32} {i b j : Nat} (h : ∀ j, f' j = pbF f g i 16 b j) : upd f' (50 + b) (g (24 * i + 16 + b)) j = pbF f g i 16 (b + 1) j := by
  by_cases c : j = 50 + b
  · subst c
    rw [pk_us]
    unfold pbF
    rw [if_neg (by omega), if_pos (by omega), show 50 + b - 50 = b by omega]
  · rw [pk_un c, h]
    unfold pbF
    by_cases c2 : 10 ≤ j ∧ j < 10 + 16
    · rw [if_pos c2, if_pos c2]
    · rw [if_neg c2, if_neg c2]
      by_cases c3 : 50 ≤ j ∧ j < 50 + b
      · rw [if_pos c3, if_pos (by omega)]
      · rw [if_neg c3, if_neg (show ¬ (50 ≤ j ∧ j < 50 + (b + 1)) by omega)]
theorem putBack_ok {m : MM} {i : Nat} (hi : i ≤ 20) : Runs e_X12_putBack [.ref 156, .int (nI i)] m (fun r m' => r = .null ∧ m' = pbM m i) := by
  apply b_X12_putBack
  refine for_up (Y := e_X12_putBack) (pc := 2) (fun k => [(0, .ref 156), (1, .int (nI i)), (2, .int (nI k))]) (fun k m' => m'.2 = m.2 ∧ (∀ x, x ≠ 163 → m'.1 x = m.1 x) ∧ ∀ j, m'.1 163 j = pbF (m.1 163) (m.1 183) i k 0 j) 16 ?_ ?_ 0 m (by omega) ⟨rfl, fun _ _ => rfl, fun j => ?_⟩
  · rintro m1 ⟨e1, e2, e3⟩
    apply b_X12_putBack_2
    refine ⟨fun _ => ?_, fun z => absurd (by rfl) z⟩
    refine for_up (Y := e_X12_putBack) (pc := 36) (fun k => [(0, .ref 156), (1, .int (nI i)), (2, .int (nI k))]) (fun k m' => m'.2 = m.2 ∧ (∀ x, x ≠ 163 → m'.1 x = m.1 x) ∧ ∀ j, m'.1 163 j = pbF (m.1 163) (m.1 183) i 16 k j) 8 ?_ ?_ 0 m1 (by omega) ⟨e1, e2, e3⟩
    · rintro m2 ⟨q1, q2, q3⟩
      apply b_X12_putBack_36
      refine ⟨fun _ => ⟨rfl, ?_⟩, fun z => absurd (by rfl) z⟩
      refine Prod.ext (funext fun x => ?_) q1
      unfold pbM
      by_cases c : x = 163
      · subst c
        rw [wR_k]
        exact funext q3
      · rw [wR_o c]; exact q2 x c
    · rintro k m2 hk ⟨q1, q2, q3⟩ hg
      apply b_X12_putBack_36
      simp (disch := omega) only [lin, nI_add, pk_mul, s_sub, s_addneg, s_leT, s_leF, s_ltT, s_ltF, s_eqF, s_inT, s_neF, s_neF', s_neE, s_nleT, s_nleF, s_nltF, s_nltT, eq_self, nI_clamp, s_wIk, s_wIo, pk_us, pk_un, Nat.reduceAdd, Nat.reduceMul, Nat.reduceSub, Nat.zero_add, Nat.add_zero, Nat.mul_zero, true_implies, false_implies, implies_true, not_true, not_false, and_true, true_and, not_true_eq_false, not_false_eq_true, forall_const]
      refine hg _ ⟨q1, fun x hx => ?_, fun j => ?_⟩
      · rw [wI_o hx]; exact q2 x hx
      · rw [wI_k, q2 183 (by decide)]
        exact pbF_2 q3
  · rintro k m2 hk ⟨q1, q2, q3⟩ hg
    apply b_X12_putBack_2
    simp (disch := omega) only [lin, nI_add, pk_mul, s_sub, s_addneg, s_leT, s_leF, s_ltT, s_ltF, s_eqF, s_inT, s_neF, s_neF', s_neE, s_nleT, s_nleF, s_nltF, s_nltT, eq_self, nI_clamp, s_wIk, s_wIo, pk_us, pk_un, Nat.reduceAdd, Nat.reduceMul, Nat.reduceSub, Nat.zero_add, Nat.add_zero, Nat.mul_zero, true_implies, false_implies, implies_true, not_true, not_false, and_true, true_and, not_true_eq_false, not_false_eq_true, forall_const]
    refine hg _ ⟨q1, fun x hx => ?_, fun j => ?_⟩
    · rw [wI_o hx]; exact q2 x hx
    · rw [wI_k, q2 183 (by decide)]
      exact pbF_1 (Or.inl rfl) hk q3
  · unfold pbF
    rw [if_neg (by omega), if_neg (by omega)]
theorem kq_pb {x : Nat} (hx : x < 480) : kq 183 x = true := kq_183 hx
theorem Kq.pbM {mm m : MM} (h : Kq mm m) {i : Nat} (hi : i < 20) : Kq (pbM mm i) (pbM m i) := by
  show Kp kq (wR mm 163 (pbF (mm.1 163) (mm.1 183) i 16 8)) (wR m 163 (pbF (m.1 163) (m.1 183) i 16 8))
  have e : pbF (m.1 163) (m.1 183) i 16 8 = pbF (mm.1 163) (mm.1 183) i 16 8 := by
    funext j
    unfold pbF
    by_cases c : 10 ≤ j ∧ j < 10 + 16
    · rw [if_pos c, if_pos c]
      exact h.g _ _ (kq_183 (by omega))
    · rw [if_neg c, if_neg c]
      by_cases c2 : 50 ≤ j ∧ j < 50 + 8
      · rw [if_pos c2, if_pos c2]
        exact h.g _ _ (kq_183 (by omega))
      · rw [if_neg c2, if_neg c2, h.r163]
  rw [e]
  exact h.bR _ _
theorem st_undo : StepOK RR e_X11_undo e_X12_undo [] := by
  apply step_c
  rintro mm ⟨t, s, H, O, S, Qn, W, C, J, F, B, ht, hs, hr, hb, hl⟩
  obtain ⟨z1, z2, z3, z4, z5, z6, z7, z8, z9⟩ := hb.sz
  obtain ⟨n1, n2, n3, n4, n5, n6, n7, n8, n9⟩ := hb.nm
  obtain ⟨c1, c2, c3, c4, c5, c6, c7, c8, c9, c10⟩ := hb.nc
  have rf := Kp.rf (kp := kq) mm
  have hs' : s = 24 ∨ s = 114 := hs
  have ht' : t = 10 ∨ t = 100 := ht
  obtain ⟨k, nx, g1, g2, g3, g4, g5, g6⟩ := id hl
  rcases Nat.eq_zero_or_pos k with h | h
  · subst h
    refine ⟨.int 0, mm, mm, ?_, fun m k => ?_, ⟨t, s, H, O, S, Qn, W, C, J, F, B, ht, hs, hr, hb, hl⟩⟩
    · apply b_X11_undo
      rw [hr.2.1]
      refine ⟨hs.s.at, bcall (b := false) (K := fun m => m = mm) ?_ (fun z => absurd z (by decide)) fun _ m e => ⟨rfl, ?_⟩⟩
      · refine b_X9_takeBack _ _ _ hs.s.at ?_
        rw [g3]
        exact ⟨fun z => absurd rfl z, fun _ => ⟨rfl, rfl⟩⟩
      · rw [e]; exact Kp.rf _
    · apply b_X12_undo
      rw [k.g 156 40 rfl, g5]
      exact ⟨fun z => absurd rfl z, fun _ => ⟨rfl, k⟩⟩
  · obtain ⟨k, rfl⟩ : ∃ q, k = q + 1 := ⟨k - 1, by omega⟩
    obtain ⟨p, hp⟩ : ∃ p, p = if nx = 0 then 19 else nx - 1 := ⟨_, rfl⟩
    have hp' : p < 20 ∧ (nx + 20 - (k + 1) + k) % 20 = p ∧ ∀ i, i < k → (p + 20 - k + i) % 20 = (nx + 20 - (k + 1) + i) % 20 := by
      by_cases c : nx = 0
      · rw [if_pos c] at hp
        refine ⟨by omega, by omega, fun i hi => by omega⟩
      · rw [if_neg c] at hp
        refine ⟨by omega, by omega, fun i hi => by omega⟩
    obtain ⟨p1, p2, p3⟩ := hp'
    refine ⟨.int 1, tbX mm s k p, pbM (wI (tbX mm s k p) 156 40 (nI k)) k, ?_, fun m kk => ?_, ?_⟩
    · apply b_X11_undo
      rw [hr.2.1]
      refine ⟨hs.s.at, bcall (b := true) (takeBack_ok hs.s (by omega) g2 g3 g4 hp) ?_ (fun z => absurd z (by decide))⟩
      rintro - m rfl
      exact ⟨rfl, Kp.rf _⟩
    · apply b_X12_undo
      have e : m.1 156 40 = nI (k + 1) := by
        rw [kk.g 156 40 rfl]
        unfold tbX
        simp (disch := omega) only [s_wRo, s_wIo]
        exact g5
      rw [wI_k, pk_us, e, nI_pred]
      refine ⟨fun _ => ?_, fun z => absurd z (nI_ne0 (by omega) (by omega))⟩
      refine vcall (putBack_ok (by omega)) ?_
      rintro m' rfl
      exact ⟨rfl, Kq.pbM (kk.bI _ _ _) (by omega)⟩
    · have hx : ∀ x, x ≠ 41 → x ≠ 163 → x ≠ 156 → x ≠ s + 1 → x ≠ s + 3 → (pbM (wI (tbX mm s k p) 156 40 (nI k)) k).1 x = mm.1 x := by
        intro x h1 h2 h3 h4 h5
        unfold pbM tbX
        simp (disch := omega) only [s_wRo, s_wIo]
      have hg : (pbM (wI (tbX mm s k p) 156 40 (nI k)) k).1 163 = pbF (mm.1 163) (mm.1 183) k 16 8 := by
        unfold pbM tbX
        simp (disch := omega) only [s_wRo, s_wIo, s_wRk]
      have h1 : (pbM (wI (tbX mm s k p) 156 40 (nI k)) k).1 (s + 1) = va_cpy (mm.1 (45 + p)) (mm.1 (s + 1)) 0 0 16 := by
        unfold pbM tbX
        simp (disch := omega) only [s_wRo, s_wIo, s_wRk]
      have h3 : (pbM (wI (tbX mm s k p) 156 40 (nI k)) k).1 (s + 3) = va_cpy (mm.1 (66 + p)) (mm.1 (s + 3)) 0 0 8 := by
        unfold pbM tbX
        simp (disch := omega) only [s_wRo, s_wIo, s_wRk]
      have h41 : (pbM (wI (tbX mm s k p) 156 40 (nI k)) k).1 41 = upd (upd (mm.1 41) 4 (nI k)) 5 (nI p) := by
        unfold pbM tbX
        simp (disch := omega) only [s_wRo, s_wIo, s_wRk, s_wIk]
      have h156 : (pbM (wI (tbX mm s k p) 156 40 (nI k)) k).1 156 = upd (mm.1 156) 40 (nI k) := by
        unfold pbM tbX
        simp (disch := omega) only [s_wRo, s_wIo, s_wRk, s_wIk]
      have h2 : (pbM (wI (tbX mm s k p) 156 40 (nI k)) k).2.2 = mm.2.2 := rfl
      generalize (pbM (wI (tbX mm s k p) 156 40 (nI k)) k) = m' at hx hg h1 h3 h41 h156 h2 ⊢
      obtain ⟨w1, w2, w3, w4, w5, w6, w7⟩ := hb.2.1
      obtain ⟨l1, l2⟩ := g6 k (by omega)
      rw [p2] at l1 l2
      have gg : ∀ j, (j < 10 ∨ 26 ≤ j ∧ j < 50 ∨ 58 ≤ j) → m'.1 163 j = mm.1 163 j := by
        intro j hj
        rw [hg]
        unfold pbF
        rw [if_neg (by omega), if_neg (by omega)]
      have g10 : ∀ h, h < 16 → m'.1 163 (0 + (10 + h)) = mm.1 183 (24 * k + h) := by
        intro h hh
        rw [hg]
        unfold pbF
        rw [if_pos (by omega), show 0 + (10 + h) - 10 = h by omega]
      have g50 : ∀ h, h < 8 → m'.1 163 (0 + (50 + h)) = mm.1 183 (24 * k + 16 + h) := by
        intro h hh
        rw [hg]
        unfold pbF
        rw [if_neg (by omega), if_pos (by omega), show 0 + (50 + h) - 50 = h by omega]
      have lv : LiveR m'.1 s 0 H O W := by
        refine ⟨lvM (by rw [hx _ (by omega) (by omega) (by omega) (by omega) (by omega)]) (gg _ (by omega)) w1, fun h hh => ?_, lvO (hx _ (by omega) (by omega) (by omega) (by omega) (by omega)) (fun j _ _ => gg _ (by omega)) w3, lvD (fun j _ _ => gg _ (by omega)) w4, fun w hw => ?_, lvK (by rw [hx _ (by omega) (by omega) (by omega) (by omega) (by omega)]) (fun i _ => ⟨by rw [hx _ (by omega) (by omega) (by omega) (by omega) (by omega)], by rw [hx _ (by omega) (by omega) (by omega) (by omega) (by omega)], by rw [hx _ (by omega) (by omega) (by omega) (by omega) (by omega)]⟩) (fun j _ => gg _ (by omega)) w6, lvL (by rw [hx _ (by omega) (by omega) (by omega) (by omega) (by omega)]) (fun i _ => ⟨by rw [hx _ (by omega) (by omega) (by omega) (by omega) (by omega)], by rw [hx _ (by omega) (by omega) (by omega) (by omega) (by omega)], by rw [hx _ (by omega) (by omega) (by omega) (by omega) (by omega)], by rw [hx _ (by omega) (by omega) (by omega) (by omega) (by omega)]⟩) (fun j _ => gg _ (by omega)) w7⟩
        · rw [g10 h hh, h1, cpy_lt hh]
          exact l1 h hh
        · rw [g50 w (by omega), h3, cpy_lt (by omega)]
          exact l2 w hw
      refine RR_put ht hs hr h2 ⟨town_fr ht (fun x hx' => hx x (by omega) (by omega) (by omega) (by omega) (by omega)) hb.1, lv, ?_, ?_, row_fr (by rw [hx _ (by omega) (by omega) (by omega) (by omega) (by omega)]) (by rw [h156, pk_un (by omega)]) (hx _ (by omega) (by omega) (by omega) (by omega) (by omega)) (hx _ (by omega) (by omega) (by omega) (by omega) (by omega)) hb.2.2.2.2.1, tape_fr (by rw [hx _ (by omega) (by omega) (by omega) (by omega) (by omega)]) (by rw [h156, pk_un (by omega)]) (hx _ (by omega) (by omega) (by omega) (by omega) (by omega)) (hx _ (by omega) (by omega) (by omega) (by omega) (by omega)) hb.2.2.2.2.2.1, ?_⟩ ⟨k, p, by omega, p1, by rw [h41, pk_un (by omega), pk_us], by rw [h41, pk_us], by rw [h156, pk_us], fun i hi => ?_⟩
      · exact slot_fr z5 (fun i _ => hx _ (by omega) (by omega) (by omega) (by omega) (by omega)) (fun i _ => gg _ (by omega)) (by rw [hx _ (by omega) (by omega) (by omega) (by omega) (by omega)]) (by rw [hx _ (by omega) (by omega) (by omega) (by omega) (by omega)]) hb.2.2.1
      · exact slot_fr z5 (fun i _ => hx _ (by omega) (by omega) (by omega) (by omega) (by omega)) (fun i _ => gg _ (by omega)) (by rw [hx _ (by omega) (by omega) (by omega) (by omega) (by omega)]) (by rw [hx _ (by omega) (by omega) (by omega) (by omega) (by omega)]) hb.2.2.2.1
      · rw [hx 1 (by omega) (by omega) (by omega) (by omega) (by omega), h156, pk_un (by omega)]
        exact hb.2.2.2.2.2.2
      · have hr20 : (nx + 20 - (k + 1) + i) % 20 < 20 := Nat.mod_lt _ (by decide)
        rw [p3 i hi, hx 183 (by omega) (by omega) (by omega) (by omega) (by omega), hx (45 + _) (by omega) (by omega) (by omega) (by omega) (by omega), hx (66 + _) (by omega) (by omega) (by omega) (by omega) (by omega)]
        exact g6 i (by omega)

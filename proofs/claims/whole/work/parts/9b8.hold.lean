/-! reading: the text takes hold, on both sides -/
section
variable {m : MM}
/-- the model's halves for reading are now those that hold -/
def TH (m m' : MM) (H N : Nat) : Prop := (m'.2.2 = m.2.2 ∧ ∀ r, (r < 162 ∨ r = 164 ∨ r = 167 ∨ 174 < r) → r ≠ 156 → m'.1 r = m.1 r) ∧ (m'.1 156 50 = 0 ∧ m'.1 156 40 = 0 ∧ m'.1 174 1 = 0 ∧ m'.1 174 2 = 0 ∧ ∀ y, y ≠ 50 → y ≠ 40 → m'.1 156 y = m.1 156 y) ∧
  (∀ j, j < 210 → m'.1 162 j = m.1 162 (210 + j)) ∧ (∀ i, i < 500 → m'.1 165 i = m.1 165 (500 + i) ∧ m'.1 166 i = m.1 166 (500 + i)) ∧ (∀ i, i < 200 → m'.1 168 i = vp_nar .boolean (m.1 168 (200 + i))) ∧ (∀ r, 169 ≤ r → r ≤ 173 → ∀ i, i < 200 → m'.1 r i = m.1 r (200 + i)) ∧ m'.1 163 = settleF (m'.1 162) (m.1 163) H N
def L3R (m : MM) (q : Nat) (m' : MM) : Prop := m'.2 = m.2 ∧ (∀ r, (r < 168 ∨ 173 < r) → m'.1 r = m.1 r) ∧ (∀ r, 168 ≤ r → r ≤ 173 → ∀ i, q ≤ i → m'.1 r i = m.1 r i) ∧ (∀ i, i < q → m'.1 168 i = vp_nar .boolean (m.1 168 (200 + i))) ∧ ∀ r, 169 ≤ r → r ≤ 173 → ∀ i, i < q → m'.1 r i = m.1 r (200 + i)
theorem L3R.step {q : Nat} {m' : MM} (h : L3R m q m') (hq : q < 200) : L3R m (q + 1) (wI (wI (wI (wI (wI (wI m' 168 q (vp_nar .boolean (m'.1 168 (200 + q)))) 169 q (m'.1 169 (200 + q))) 170 q (m'.1 170 (200 + q))) 171 q (m'.1 171 (200 + q))) 172 q (m'.1 172 (200 + q))) 173 q (m'.1 173 (200 + q))) := by
  obtain ⟨h1, h2, h3, h4, h5⟩ := h
  have e8 : (wI (wI (wI (wI (wI (wI m' 168 q (vp_nar .boolean (m'.1 168 (200 + q)))) 169 q (m'.1 169 (200 + q))) 170 q (m'.1 170 (200 + q))) 171 q (m'.1 171 (200 + q))) 172 q (m'.1 172 (200 + q))) 173 q (m'.1 173 (200 + q))).1 168 = upd (m'.1 168) q (vp_nar .boolean (m'.1 168 (200 + q))) := by
    rw [wI_o (by decide), wI_o (by decide), wI_o (by decide), wI_o (by decide), wI_o (by decide), wI_k]
  have e9 : ∀ r, 169 ≤ r → r ≤ 173 → (wI (wI (wI (wI (wI (wI m' 168 q (vp_nar .boolean (m'.1 168 (200 + q)))) 169 q (m'.1 169 (200 + q))) 170 q (m'.1 170 (200 + q))) 171 q (m'.1 171 (200 + q))) 172 q (m'.1 172 (200 + q))) 173 q (m'.1 173 (200 + q))).1 r = upd (m'.1 r) q (m'.1 r (200 + q)) := fun r r1 r2 => by
    have hr : r = 169 ∨ r = 170 ∨ r = 171 ∨ r = 172 ∨ r = 173 := by omega
    rcases hr with rfl | rfl | rfl | rfl | rfl
    · rw [wI_o (by decide), wI_o (by decide), wI_o (by decide), wI_o (by decide), wI_k, wI_o (by decide)]
    · rw [wI_o (by decide), wI_o (by decide), wI_o (by decide), wI_k, wI_o (by decide), wI_o (by decide)]
    · rw [wI_o (by decide), wI_o (by decide), wI_k, wI_o (by decide), wI_o (by decide), wI_o (by decide)]
    · rw [wI_o (by decide), wI_k, wI_o (by decide), wI_o (by decide), wI_o (by decide), wI_o (by decide)]
    · rw [wI_k, wI_o (by decide), wI_o (by decide), wI_o (by decide), wI_o (by decide), wI_o (by decide)]
  refine ⟨by rw [wI_2, wI_2, wI_2, wI_2, wI_2, wI_2]; exact h1, fun r hr => by rw [wI_o (by omega), wI_o (by omega), wI_o (by omega), wI_o (by omega), wI_o (by omega), wI_o (by omega)]; exact h2 r hr, fun r r1 r2 i hi => ?_, fun i hi => ?_, fun r r1 r2 i hi => ?_⟩
  · rcases Nat.lt_or_ge r 169 with c | c
    · have : r = 168 := by omega
      subst this
      rw [e8, pk_un (by omega)]
      exact h3 _ r1 r2 i (by omega)
    · rw [e9 r c r2, pk_un (by omega)]
      exact h3 _ r1 r2 i (by omega)
  · rw [e8]
    by_cases c : i = q
    · subst c
      rw [pk_us, h3 168 (by decide) (by decide) _ (by omega)]
    · rw [pk_un c]
      exact h4 i (by omega)
  · rw [e9 r r1 r2]
    by_cases c : i = q
    · subst c
      rw [pk_us, h3 r (by omega) r2 _ (by omega)]
    · rw [pk_un c]
      exact h5 r r1 r2 i (by omega)
theorem takesHold_ok {H N : Nat} (hH : m.1 162 210 = nI H) (h16 : H ≤ 16) (hN : m.1 162 212 = nI N) (hN12 : N ≤ 12) (hin : ∀ i, i < N → ∃ h : Nat, h < 16 ∧ m.1 162 (210 + (90 + 2 * i)) = nI h) : Runs e_X12_takesHold [.ref 156] m (fun r m' => r = .null ∧ TH m m' H N) := by
  apply b_X12_takesHold
  refine for_up (fun q => [(0, .ref 156), (1, .int (nI q))]) (fun q m' => m' = wR m 162 (fb_put (m.1 162) (fun k => m.1 162 (210 + k)) 0 q)) 210 ?_ ?_ 0 _ (Nat.zero_le _) (by rw [fb_put_0, wR_self])
  · rintro m' e1
    apply b_X12_takesHold_2
    refine ⟨fun _ => ?_, fun z => absurd (show (210 : Int32) ≤ nI 210 by decide) z⟩
    have a162 : ∀ j, j < 210 → m'.1 162 j = m.1 162 (210 + j) := fun j hj => by rw [e1, wR_k, fb_put_in (Nat.zero_le _) (by omega)]; rfl
    have aO : ∀ r, r ≠ 162 → m'.1 r = m.1 r := fun r hr => by rw [e1, wR_o hr]
    have a2 : m'.2 = m.2 := by rw [e1]; rfl
    clear e1
    refine for_up (fun q => [(0, .ref 156), (1, .int (nI q))]) (fun q m2 => m2 = wR (wR m' 165 (fb_put (m'.1 165) (fun k => m'.1 165 (500 + k)) 0 q)) 166 (fb_put (m'.1 166) (fun k => m'.1 166 (500 + k)) 0 q)) 500 ?_ ?_ 0 _ (Nat.zero_le _) (by rw [fb_put_0, fb_put_0, wR_self, wR_self])
    · rintro m2 e2
      apply b_X12_takesHold_33
      refine ⟨fun _ => ?_, fun z => absurd (show (500 : Int32) ≤ nI 500 by decide) z⟩
      have b165 : ∀ i, i < 500 → m2.1 165 i = m.1 165 (500 + i) ∧ m2.1 166 i = m.1 166 (500 + i) := fun i hi => by
        rw [e2, wR_o (by decide), wR_k, wR_k, fb_put_in (Nat.zero_le _) (by omega), fb_put_in (Nat.zero_le _) (by omega), aO 165 (by decide), aO 166 (by decide)]
        exact ⟨rfl, rfl⟩
      have bO : ∀ r, r ≠ 165 → r ≠ 166 → m2.1 r = m'.1 r := fun r h1 h2 => by rw [e2, wR_o h2, wR_o h1]
      have b2 : m2.2 = m.2 := by rw [e2, wR_2, wR_2]; exact a2
      clear e2
      refine for_up (fun q => [(0, .ref 156), (1, .int (nI q))]) (fun q m3 => L3R m2 q m3) 200 ?_ ?_ 0 _ (Nat.zero_le _) ⟨rfl, fun _ _ => rfl, fun _ _ _ _ _ => rfl, fun i hi => absurd hi (Nat.not_lt_zero _), fun _ _ _ i hi => absurd hi (Nat.not_lt_zero _)⟩
      · rintro m3 ⟨c1, c2, c3, c4, c5⟩
        apply b_X12_takesHold_80
        refine ⟨fun _ => ?_, fun z => absurd (show (200 : Int32) ≤ nI 200 by decide) z⟩
        have c162 : m3.1 162 = m'.1 162 := by rw [c2 162 (by decide), bO 162 (by decide) (by decide)]
        have cO : ∀ r, r ≠ 162 → r ≠ 165 → r ≠ 166 → (r < 168 ∨ 173 < r) → m3.1 r = m.1 r := fun r h1 h2 h3 h4 => by rw [c2 r h4, bO r h2 h3, aO r h1]
        refine vcall (K := fun mz => mz = mSlots (wR m3 163 (settleF (m3.1 162) (m3.1 163) H N))) (settle_ok m3 H N (by rw [c162, a162 0 (by decide)]; exact hH) h16 (by rw [c162, a162 2 (by decide)]; exact hN) hN12 (fun i hi => by rw [c162, a162 _ (by omega)]; exact hin i hi) _ ⟨rfl, rfl⟩) ?_
        rintro mz rfl
        have dO : ∀ r, r ≠ 163 → r ≠ 156 → r ≠ 174 → (mSlots (wR m3 163 (settleF (m3.1 162) (m3.1 163) H N))).1 r = m3.1 r := fun r h1 h2 h3 => by
          unfold mSlots
          rw [wI_o h3, wI_o h3, wI_o h2, wI_o h2, wR_o h1]
        have d156 : (mSlots (wR m3 163 (settleF (m3.1 162) (m3.1 163) H N))).1 156 = upd (upd (m.1 156) 50 0) 40 0 := by
          unfold mSlots
          rw [wI_o (by decide), wI_o (by decide), wI_k, wI_k, wR_o (by decide), cO 156 (by decide) (by decide) (by decide) (by decide)]
        have d174 : (mSlots (wR m3 163 (settleF (m3.1 162) (m3.1 163) H N))).1 174 = upd (upd (m.1 174) 1 0) 2 0 := by
          unfold mSlots
          rw [wI_k, wI_k, wI_o (by decide), wI_o (by decide), wR_o (by decide), cO 174 (by decide) (by decide) (by decide) (by decide)]
        have d162 : (mSlots (wR m3 163 (settleF (m3.1 162) (m3.1 163) H N))).1 162 = m'.1 162 := by rw [dO 162 (by decide) (by decide) (by decide), c162]
        refine ⟨rfl, ⟨by unfold mSlots; rw [wI_2, wI_2, wI_2, wI_2, wR_2, c1, b2], fun r h1 h2 => by rw [dO r (by omega) h2 (by omega), cO r (by omega) (by omega) (by omega) (by omega)]⟩, ⟨?_, ?_, ?_, ?_, fun y h1 h2 => ?_⟩, fun j hj => ?_, fun i hi => ?_, fun i hi => ?_, fun r h1 h2 i hi => ?_, ?_⟩
        · rw [d156, pk_un (by decide), pk_us]
        · rw [d156, pk_us]
        · rw [d174, pk_un (by decide), pk_us]
        · rw [d174, pk_us]
        · rw [d156, pk_un h2, pk_un h1]
        · rw [d162]; exact a162 j hj
        · rw [dO 165 (by decide) (by decide) (by decide), dO 166 (by decide) (by decide) (by decide), c2 165 (by decide), c2 166 (by decide)]; exact b165 i hi
        · rw [dO 168 (by decide) (by decide) (by decide), c4 i hi, bO 168 (by decide) (by decide), aO 168 (by decide)]
        · rw [dO r (by omega) (by omega) (by omega), c5 r h1 h2 i hi, bO r (by omega) (by omega), aO r (by omega)]
        · rw [d162, ← c162]
          unfold mSlots
          rw [wI_o (by decide), wI_o (by decide), wI_o (by decide), wI_o (by decide), wR_k, cO 163 (by decide) (by decide) (by decide) (by decide)]
      · rintro q m3 hq h3 hk
        apply b_X12_takesHold_80
        have v1 := vp_in_nI (n := q) (N := 400) (by omega) (by omega)
        have v2 := vp_in_nI (n := 200 + q) (N := 400) (by omega) (by omega)
        rw [show (200 : Int32) + nI q = nI (200 + q) from (by simp only [lit, nI_add, pk_mul]), nI_clamp (show q < 2 ^ 31 by omega), nI_clamp (show 200 + q < 2 ^ 31 by omega), nI_1 q]
        refine ⟨fun z => absurd z (nI_ge (a := q) (b := 200) hq (by omega)), fun _ => ⟨v2, v1, v2, v1, v2, v1, v2, v1, v2, v1, v2, v1, ?_⟩⟩
        simp (disch := decide) only [wI_o]
        exact hk _ (h3.step hq)
    · rintro q m2 hq rfl hk
      apply b_X12_takesHold_33
      have v1 := vp_in_nI (n := q) (N := 1000) (by omega) (by omega)
      have v2 := vp_in_nI (n := 500 + q) (N := 1000) (by omega) (by omega)
      have ps := fb_put_succ (m'.1 165) (fun k => m'.1 165 (500 + k)) 0 q
      have pt := fb_put_succ (m'.1 166) (fun k => m'.1 166 (500 + k)) 0 q
      rw [Nat.zero_add] at ps pt
      rw [show (500 : Int32) + nI q = nI (500 + q) from (by simp only [lit, nI_add, pk_mul]), nI_clamp (show q < 2 ^ 31 by omega), nI_clamp (show 500 + q < 2 ^ 31 by omega), nI_1 q, wI_in (by decide), wR_k, wR_o (show 165 ≠ 166 by decide), wR_k, fb_put_out (by omega), fb_put_out (by omega), wI_wR, ps, pt]
      exact ⟨fun z => absurd z (nI_ge (a := q) (b := 500) hq (by omega)), fun _ => ⟨v2, v1, v2, v1, hk _ rfl⟩⟩
  · rintro q m' hq rfl hk
    apply b_X12_takesHold_2
    have v1 := vp_in_nI (n := q) (N := 420) (by omega) (by omega)
    have v2 := vp_in_nI (n := 210 + q) (N := 420) (by omega) (by omega)
    have ps := fb_put_succ (m.1 162) (fun k => m.1 162 (210 + k)) 0 q
    rw [Nat.zero_add] at ps
    rw [show (210 : Int32) + nI q = nI (210 + q) from (by simp only [lit, nI_add, pk_mul]), nI_clamp (show q < 2 ^ 31 by omega), nI_clamp (show 210 + q < 2 ^ 31 by omega), nI_1 q, wR_k, fb_put_out (by omega), wI_wR, ps]
    exact ⟨fun z => absurd z (nI_ge (a := q) (b := 210) hq (by omega)), fun _ => ⟨v2, v1, hk _ rfl⟩⟩
theorem rf_at {k j r a b : Nat} : (wRf m k j r).2.2 a b = if a = k then (if b = j then r else m.2.2 k b) else m.2.2 a b := by
  unfold wRf va_up
  by_cases c : a = k
  · subst c
    simp only [if_true]
  · simp only [if_neg c]
/-- the class's swap -/
def MI (m m' : MM) (t s t' s' : Nat) : Prop := (m'.2.1 = m.2.1 ∧ m'.2.2 0 9 = t' ∧ m'.2.2 0 10 = s' ∧ m'.2.2 1 4 = t ∧ m'.2.2 1 5 = s) ∧ (∀ r, r ≠ 41 → r ≠ 95 → r ≠ 99 → m'.1 r = m.1 r) ∧ m'.1 41 4 = 0 ∧ m'.1 41 5 = m.1 41 5 ∧ m'.1 95 2 = 0 ∧ m'.1 99 0 = 0 ∧ m'.1 99 1 = 0
theorem moveIn_ok {t s t' s' : Nat} (ht : isT t) (hs : isN s) (ht' : isT t') (hs' : isN s') (r1 : m.2.2 0 9 = t) (r2 : m.2.2 0 10 = s) (r3 : m.2.2 1 4 = t') (r4 : m.2.2 1 5 = s') : Runs e_X11_moveIn [.ref 0] m (fun r m' => r = .null ∧ MI m m' t s t' s') := by
  have e1 : (wRf (wRf m 0 9 t') 1 4 t).2.2 0 10 = s := by
    rw [rf_at, if_neg (by decide), rf_at, if_pos rfl, if_neg (by decide)]; exact r2
  have e2 : (wRf (wRf m 0 9 t') 1 4 t).2.2 1 5 = s' := by
    rw [rf_at, if_pos rfl, if_neg (by decide), rf_at, if_neg (by decide)]; exact r4
  apply b_X11_moveIn
  rw [r1, r3, e1, e2]
  refine ⟨ht.at, ht'.at, hs.s.at, hs'.s.at, vcall (K := fun mz => mz = wI (wRf (wRf (wRf (wRf m 0 9 t') 1 4 t) 0 10 s') 1 5 s) 41 4 0) (b_X9_dropLots _ _ ⟨rfl, rfl⟩) ?_⟩
  rintro mz rfl
  have hm : ∀ r, (wI (wI (wRf (wRf (wRf (wRf m 0 9 t') 1 4 t) 0 10 s') 1 5 s) 41 4 0) 95 2 0).2.2 = r → r 0 9 = t' ∧ r 0 10 = s' ∧ r 1 4 = t ∧ r 1 5 = s := by
    rintro r rfl
    rw [wI_2, wI_2]
    refine ⟨?_, ?_, ?_, ?_⟩
    · rw [rf_at, if_neg (by decide), rf_at, if_pos rfl, if_neg (by decide), rf_at, if_neg (by decide), rf_at, if_pos rfl, if_pos rfl]
    · rw [rf_at, if_neg (by decide), rf_at, if_pos rfl, if_pos rfl]
    · rw [rf_at, if_pos rfl, if_neg (by decide), rf_at, if_neg (by decide), rf_at, if_pos rfl, if_pos rfl]
    · rw [rf_at, if_pos rfl, if_pos rfl]
  have fin : ∀ mm : MM, mm = wI (wI (wI (wI (wRf (wRf (wRf (wRf m 0 9 t') 1 4 t) 0 10 s') 1 5 s) 41 4 0) 95 2 0) 99 0 0) 99 1 0 → MI m mm t s t' s' := by
    rintro mm rfl
    have b : ∀ r, (wRf (wRf (wRf (wRf m 0 9 t') 1 4 t) 0 10 s') 1 5 s).1 r = m.1 r := fun r => rfl
    refine ⟨⟨rfl, hm _ rfl⟩, fun r h1 h2 h3 => by rw [wI_o h3, wI_o h3, wI_o h2, wI_o h1, b], ?_, ?_, ?_, ?_, ?_⟩
    · rw [wI_o (by decide), wI_o (by decide), wI_o (by decide), wI_k, pk_us]
    · rw [wI_o (by decide), wI_o (by decide), wI_o (by decide), wI_k, pk_un (by decide), b]
    · rw [wI_o (by decide), wI_o (by decide), wI_k, pk_us]
    · rw [wI_k, pk_un (by decide), wI_k, pk_us]
    · rw [wI_k, pk_us]
  have n0 : vp_nar .boolean (0 : Int32) = 0 := nar_b0
  refine b_X11_moveIn_65 _ _ (0 : Int32) ⟨fun z => absurd z (by decide), fun _ => ⟨vp_in_nI (n := 0) (by decide) (by decide), ?_⟩⟩
  refine b_X11_moveIn_65 _ _ ((0 : Int32) + 1) ⟨fun z => absurd z (by decide), fun _ => ⟨vp_in_nI (n := 1) (by decide) (by decide), ?_⟩⟩
  refine b_X11_moveIn_65 _ _ ((0 : Int32) + 1 + 1) ⟨fun _ => ⟨rfl, fin _ ?_⟩, fun z => absurd (by decide) z⟩
  rw [n0]
  rfl
end

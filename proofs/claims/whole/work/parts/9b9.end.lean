/-! reading: the relation behind it -/
theorem isB_nar {w : Int32} (h : isB w) : vp_nar .boolean w = w := by
  rcases h with rfl | rfl <;> decide
section
variable {c c' : Nat → Nat → Int32}
theorem LiveR.cong {s b H O W : Nat} (h : LiveR c s b H O W) (h163 : c' 163 = c 163) (hs : ∀ i, i < 14 → c' (s + i) = c (s + i)) : LiveR c' s b H O W := by
  have s0 : c' s = c s := hs 0 (by decide)
  have s1 : c' (s + 1) = c (s + 1) := hs 1 (by decide)
  have s2 : c' (s + 2) = c (s + 2) := hs 2 (by decide)
  have s3 : c' (s + 3) = c (s + 3) := hs 3 (by decide)
  have s4 : c' (s + 4) = c (s + 4) := hs 4 (by decide)
  have s5 : c' (s + 5) = c (s + 5) := hs 5 (by decide)
  have s6 : c' (s + 6) = c (s + 6) := hs 6 (by decide)
  have s7 : c' (s + 7) = c (s + 7) := hs 7 (by decide)
  have s71 : c' (s + 7 + 1) = c (s + 7 + 1) := hs 8 (by decide)
  have s72 : c' (s + 7 + 2) = c (s + 7 + 2) := hs 9 (by decide)
  have s73 : c' (s + 7 + 3) = c (s + 7 + 3) := hs 10 (by decide)
  have s74 : c' (s + 7 + 4) = c (s + 7 + 4) := hs 11 (by decide)
  unfold LiveR WorkR LogR at h ⊢
  rw [h163, s0, s1, s2, s3, s4, s5, s6, s7, s71, s72, s73, s74]
  exact h
theorem SlotR.cong {j s b H O W : Nat} (h : SlotR c j s b H O W) (h99 : c' 99 = c 99) (h174 : c' 174 = c 174) (h163 : c' 163 = c 163) (hs : ∀ i, i < 14 → c' (s + i) = c (s + i)) : SlotR c' j s b H O W := by
  rcases h with ⟨h1, h2⟩ | ⟨h1, h2, h3⟩
  · exact Or.inl ⟨by rw [h99]; exact h1, by rw [h174]; exact h2⟩
  · exact Or.inr ⟨by rw [h99]; exact h1, by rw [h174]; exact h2, h3.cong h163 hs⟩
theorem RowR.cong (h : RowR c) (h1 : c' 95 = c 95) (h2 : c' 156 50 = c 156 50) (h3 : c' 189 = c 189) (h4 : c' 96 = c 96) : RowR c' := by
  unfold RowR at h ⊢
  rw [h1, h2, h3, h4]
  exact h
theorem LotR.cong {W : Nat} (h : LotR c W) (h1 : c' 41 = c 41) (h2 : c' 156 40 = c 156 40) (h3 : c' 183 = c 183) (h4 : ∀ i, i < 20 → c' (45 + i) = c (45 + i) ∧ c' (66 + i) = c (66 + i)) : LotR c' W := by
  obtain ⟨k, nx, g1, g2, g3, g4, g5, g6⟩ := h
  refine ⟨k, nx, g1, g2, by rw [h1]; exact g3, by rw [h1]; exact g4, h2.trans g5, fun i hi => ?_⟩
  obtain ⟨e1, e2⟩ := h4 ((nx + 20 - k + i) % 20) (Nat.mod_lt _ (by decide))
  rw [h3, e1, e2]
  exact g6 i hi
/-- who is in what office when the model has settled -/
theorem OffP.cong {f f' g : Nat → Int32} {H O : Nat} (h : OffP f g H O) (e : ∀ k, k < 16 → f' k = f k) : OffP f' g H O :=
  ⟨fun k hk => by rw [e k hk]; exact h.1 k hk, fun k k' hk hk' => by rw [e k hk, e k' hk']; exact h.2 k k' hk hk'⟩
theorem set2_at {st f : Nat → Int32} {H O I : Nat} (h16 : H ≤ 16) (h12 : O ≤ 12) (hi : InsR st H O I) : ∀ k, k ≤ I → (∀ h, h < 16 → setl2 st H (setl1 st f) k (30 + h) = offM st k h) ∧ ∀ j, (j < 30 ∨ 46 ≤ j) → setl2 st H (setl1 st f) k j = setl1 st f j
  | 0, _ => ⟨fun h hh => by
      show setl1 st f (30 + h) = -nI 2
      unfold setl1
      rw [fb_put_in (by omega) (by omega)]
      rfl, fun j _ => rfl⟩
  | k + 1, hk => by
    obtain ⟨a1, a2⟩ := set2_at (f := f) h16 h12 hi k (by omega)
    obtain ⟨h, o, h1, h2, h3, h4⟩ := hi k (by omega)
    have e : setl2 st H (setl1 st f) (k + 1) = givesF (setl2 st H (setl1 st f) k) H h (nI o) := by
      show givesF _ H (st (90 + 2 * k)).toNatClampNeg (st (91 + 2 * k)) = _
      rw [h3, nI_clamp (by omega), show 91 + 2 * k = 90 + 2 * k + 1 by omega, h4]
    have hp : OffP (fun x => setl2 st H (setl1 st f) k (30 + x)) (offC st k) H O := (off_ok h16 h12 (I := k) fun i hi' => hi i (by omega)).cong a1
    refine ⟨fun x hx => ?_, fun j hj => ?_⟩
    · rw [e, givesF_at hp h16 h12 h2 h1 hx, a1 x hx]
      show _ = if nI x = st (90 + 2 * k) then st (90 + 2 * k + 1) else if offM st k x = st (90 + 2 * k + 1) then -nI 2 else offM st k x
      rw [h3, h4]
      by_cases c : x = h
      · rw [if_pos c, if_pos (congrArg nI c)]
      · rw [if_neg c, if_neg (fun z => c ((nI_eq (by omega) (by omega)).mp z))]
    · rw [e, givesF_out h16 (by omega) hj]
      exact a2 j hj
theorem live_new {x v m : MM} {rs H O I W : Nat} {g : Nat → Int32} (hS : SR x v rs H O I W) (h16 : H ≤ 16) (h12 : O ≤ 12) (hI : I ≤ 12) (hW : W ≤ 8) (e162 : ∀ j, j < 210 → m.1 162 j = v.1 162 (210 + j)) (e163 : m.1 163 = settleF (m.1 162) g H I) (eS : ∀ i, i < 14 → m.1 (rs + i) = x.1 (rs + i)) (h8 : x.1 rs 8 = 0) (h7 : x.1 rs 7 = 0) (h76 : x.1 (rs + 7) 6 = 0) : LiveR m.1 rs 0 H O W := by
  obtain ⟨s1, s2, s3, s4⟩ := hS
  have hc' : ∀ j, j < 210 → m.1 162 j = hc x v 162 j := fun j hj => (e162 j hj).trans hc_162.symm
  have hIn : InsR (m.1 162) H O I := fun i hi => by rw [hc' _ (by omega), hc' _ (by omega)]; exact s3 i hi
  obtain ⟨oc1, oc2⟩ := off_cong (st := hc x v 162) (st' := m.1 162) (I := I) fun j h1 h2 => hc' j (by omega)
  obtain ⟨p1, p2⟩ := set2_at (f := g) h16 h12 hIn I (Nat.le_refl _)
  have hp := off_ok h16 h12 hIn
  have lo : ∀ j, (j < 50 ∨ 58 ≤ j) → m.1 163 j = setl2 (m.1 162) H (setl1 (m.1 162) g) I j := fun j hj => by
    rw [e163]
    show setl3 _ _ j = _
    unfold setl3
    rw [fb_put_out (by omega)]
  have z : ∀ j, j < 3 → m.1 163 j = 0 := fun j hj => by
    rw [lo j (by omega), p2 j (by omega)]
    unfold setl1
    rw [fb_put_out (by omega), fb_put_out (by omega), fb_put_in (by omega) (by omega)]
  have ho : ∀ h, h < 16 → m.1 163 (30 + h) = offM (m.1 162) I h := fun h hh => by rw [lo _ (by omega)]; exact p1 h hh
  have e0 : m.1 rs = x.1 rs := eS 0 (by decide)
  refine ⟨⟨0, by decide, z 0 (by decide), by rw [e0]; exact h8⟩, fun h hh => ?_, fun h hh _ => ?_, fun h h' hh hh' hne => ?_, fun w hw => ?_, ⟨0, by decide, z 1 (by decide), by rw [e0]; exact h7, fun i hi => absurd hi (Nat.not_lt_zero _)⟩, ⟨0, by decide, z 2 (by decide), by rw [eS 7 (by decide)]; exact h76, fun i hi => absurd hi (Nat.not_lt_zero _)⟩⟩
  · have e : m.1 163 (0 + (10 + h)) = v.1 162 (210 + (21 + 3 * h)) := by
      rw [Nat.zero_add, lo _ (by omega), p2 _ (by omega)]
      unfold setl1
      rw [fb_put_out (by omega), fb_put_in (by omega) (by omega), Nat.add_sub_cancel_left, e162 _ (by omega)]
    rw [e, eS 1 (by decide)]
    exact s1 h hh
  · rw [Nat.zero_add, ho h hh, eS 2 (by decide), s4 h hh, ← oc2]
    exact hp.1 h hh
  · rw [Nat.zero_add, Nat.zero_add, ho h hh, ho h' hh']
    exact hp.2 h h' hh hh' hne
  · have e : m.1 163 (0 + (50 + w)) = v.1 162 (210 + (171 + 2 * w)) := by
      rw [Nat.zero_add, e163]
      show setl3 _ _ _ = _
      unfold setl3
      rw [fb_put_in (by omega) (by omega), Nat.add_sub_cancel_left, e162 _ (by omega)]
    rw [e, eS 3 (by decide)]
    exact s2 w hw
/-- behind a text with a fault -/
theorem RR_fault {mm m : MM} {t s H O S Qn W C J F B : Nat} (ht : isT t) (hs : isN s) (hr : RefR mm.2.2 t s) (hb : BodyR mm.1 t s H O S Qn W C J F B) (hl : LotR mm.1 W) (h22 : m.2.2 = mm.2.2) (hx : ∀ r, 8 < r → r < 156 → (r < 110 - t ∨ 110 - t + 13 < r) → (r < 138 - s ∨ 138 - s + 13 < r) → m.1 r = mm.1 r)
    (hg : ∀ r, (r = 163 ∨ r = 174 ∨ r = 183 ∨ r = 189) → m.1 r = mm.1 r) (h40 : m.1 156 40 = mm.1 156 40) (h50 : m.1 156 50 = mm.1 156 50) (h162 : ∀ j, j < 210 → m.1 162 j = mm.1 162 j) (hF : AgF mm.1 m.1) (h54 : m.1 5 4 = 0) (h560 : m.1 156 0 = 0) (hp : m.1 1 8 = m.1 156 9) : RR m := by
  obtain ⟨b1, b2, b3, b4, b5, b6, b7⟩ := hb
  have ht' : t = 10 ∨ t = 100 := ht
  have hs' : s = 24 ∨ s = 114 := hs
  have g163 := hg 163 (by omega)
  have g174 := hg 174 (by omega)
  have g99 := hx 99 (by omega) (by omega) (by omega) (by omega)
  refine ⟨t, s, H, O, S, Qn, W, C, J, F, B, ht, hs, by rw [h22]; exact hr, ⟨b1.cong h162 (fun i hi => hx _ (by omega) (by omega) (by omega) (by omega)) hF, b2.cong g163 (fun i hi => hx _ (by omega) (by omega) (by omega) (by omega)), b3.cong g99 g174 g163 (fun i hi => hx _ (by omega) (by omega) (by omega) (by omega)), b4.cong g99 g174 g163 (fun i hi => hx _ (by omega) (by omega) (by omega) (by omega)),
    b5.cong (hx 95 (by omega) (by omega) (by omega) (by omega)) h50 (hg 189 (by omega)) (hx 96 (by omega) (by omega) (by omega) (by omega)), ⟨0, by decide, h54, h560, fun i hi => absurd hi (Nat.not_lt_zero _)⟩, hp⟩, hl.cong (hx 41 (by omega) (by omega) (by omega) (by omega)) h40 (hg 183 (by omega)) fun i hi => ⟨hx _ (by omega) (by omega) (by omega) (by omega), hx _ (by omega) (by omega) (by omega) (by omega)⟩⟩
/-- behind a text without a fault -/
theorem RR_new {x v m : MM} {rt rs M a H O I S Qn W F B sz fr f C J nx : Nat} {K : Nat → Nat} {g : Nat → Int32} (hD : DC x v M K rt rs H O I S Qn W F B sz fr f a) (ha : a ≤ 400) (hA : TBa x v rt Qn C J) (hB : TBb x v rt H O S Qn W) (hL : TBl x v rt sz fr) (hR : TBr x v rt F B sz fr f) (hS : SR x v rs H O I W)
    (hr : RefR m.2.2 rt rs) (hx : ∀ r, 9 < r → r < 156 → r ≠ 41 → r ≠ 95 → r ≠ 99 → m.1 r = x.1 r) (e162 : ∀ j, j < 210 → m.1 162 j = v.1 162 (210 + j)) (e163 : m.1 163 = settleF (m.1 162) g H I) (hF : AgF (hc x v) m.1) (h8 : x.1 rs 8 = 0) (h7 : x.1 rs 7 = 0) (h76 : x.1 (rs + 7) 6 = 0)
    (h99 : ∀ j, j < 2 → m.1 99 j = 0 ∧ m.1 174 (1 + j) = 0) (h95 : m.1 95 2 = 0) (h50 : m.1 156 50 = 0) (h54 : m.1 5 4 = 0) (h560 : m.1 156 0 = 0) (hp : m.1 1 8 = m.1 156 9) (h41 : m.1 41 4 = 0) (hnx : nx < 20) (h415 : m.1 41 5 = nI nx) (h40 : m.1 156 40 = 0) : RR m := by
  have hT := TB_town hD ha hA hB hL hR
  have h1 := hD.1
  have ht : isT rt := h1.1.2
  have hs : isN rs := h1.2.2
  have ht' : rt = 10 ∨ rt = 100 := ht
  have hs' : rs = 24 ∨ rs = 114 := hs
  obtain ⟨z1, z2, z3, z4, z5, z6, z7, z8, z9⟩ := hT.1
  have l1 := hD.2.1.1
  refine ⟨rt, rs, H, O, S, Qn, W, C, J, F, B, ht, hs, hr, ⟨hT.cong (fun j hj => (e162 j hj).trans hc_162.symm) (fun i hi => ?_) hF, live_new hS z1 z2 l1 z5 e162 e163 (fun i hi => hx _ (by omega) (by omega) (by omega) (by omega) (by omega)) h8 h7 h76, Or.inl (h99 0 (by decide)), Or.inl (h99 1 (by decide)), ⟨0, by decide, h95, h50, fun i hi => absurd hi (Nat.not_lt_zero _)⟩, ⟨0, by decide, h54, h560, fun i hi => absurd hi (Nat.not_lt_zero _)⟩, hp⟩, ⟨0, nx, by decide, hnx, h41, h415, h40, fun i hi => absurd hi (Nat.not_lt_zero _)⟩⟩
  rw [hx _ (by omega) (by omega) (by omega) (by omega) (by omega)]
  funext y
  exact (hc_x (by omega)).symm
end

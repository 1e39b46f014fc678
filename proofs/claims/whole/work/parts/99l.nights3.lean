/-! the fewest nights, the model -/
def NvM (mm : MM) (U : Nat) (dv : Nat → Nat) (m : MM) : Prop := m.2.2 = mm.2.2 ∧ (∀ x y, kq x y = true → x ≠ 163 → m.1 x y = mm.1 x y) ∧ (∀ j, (j < 10 ∨ 26 ≤ j ∧ j < 50 ∨ 58 ≤ j) → m.1 163 j = mm.1 163 j) ∧ (∀ h, h < 16 → m.1 183 (480 + h) = mm.1 163 (10 + h)) ∧ (∀ w, w < 8 → m.1 183 (480 + 16 + w) = mm.1 163 (50 + w)) ∧ m.1 156 42 = nI (popN U) ∧ ∀ h, h < 16 → U.testBit h = true → m.1 184 (fb_ct U.testBit h) = nI h ∧ m.1 185 (fb_ct U.testBit h) = nI (dv h)
section
variable {mm m m' : MM} {U : Nat} {dv hv : Nat → Nat}
theorem NvM.ke (h : NvM mm U dv m) (k : Ke m m') : NvM mm U dv m' := by
  obtain ⟨a1, a2, a3, a4, a5, a6, a7⟩ := h
  exact ⟨k.2.trans a1, fun x y e hx => (k.g x y (ke_of_kq e)).trans (a2 x y e hx), fun j hj => by rw [k.r163]; exact a3 j hj, fun j hj => by rw [k.g 183 _ rfl]; exact a4 j hj, fun j hj => by rw [k.g 183 _ rfl]; exact a5 j hj, by rw [k.g 156 42 rfl]; exact a6, fun j hj e => by rw [k.g 184 _ rfl, k.g 185 _ rfl]; exact a7 j hj e⟩
theorem NvM.fr {a : Nat} (h : NvM mm U dv m) (ha : a = 186 ∨ a = 187) (k : Fr1 a m m') : NvM mm U dv m' := by
  obtain ⟨a1, a2, a3, a4, a5, a6, a7⟩ := h
  refine ⟨by rw [k.1]; exact a1, fun x y e hx => ?_, fun j hj => by rw [k.2 163 (by omega)]; exact a3 j hj, fun j hj => by rw [k.2 183 (by omega)]; exact a4 j hj, fun j hj => by rw [k.2 183 (by omega)]; exact a5 j hj, by rw [k.2 156 (by omega)]; exact a6, fun j hj e => by rw [k.2 184 (by omega), k.2 185 (by omega)]; exact a7 j hj e⟩
  have : x ≠ a := by
    intro z
    subst z
    rcases ha with rfl | rfl <;> cases e
  rw [k.2 x this]
  exact a2 x y e hx
theorem NvM.li (h : NvM mm U dv m) (k : Fr1 163 m m') (g : ∀ j, (j < 10 ∨ 26 ≤ j ∧ j < 50 ∨ 58 ≤ j) → m'.1 163 j = m.1 163 j) : NvM mm U dv m' := by
  obtain ⟨a1, a2, a3, a4, a5, a6, a7⟩ := h
  exact ⟨by rw [k.1]; exact a1, fun x y e hx => by rw [k.2 x hx]; exact a2 x y e hx, fun j hj => (g j hj).trans (a3 j hj), fun j hj => by rw [k.2 183 (by decide)]; exact a4 j hj, fun j hj => by rw [k.2 183 (by decide)]; exact a5 j hj, by rw [k.2 156 (by decide)]; exact a6, fun j hj e => by rw [k.2 184 (by decide), k.2 185 (by decide)]; exact a7 j hj e⟩
theorem NvM.r (h : NvM mm U dv m) {x : Nat} (hx : x ≠ 163) (e : ∀ y, kq x y = true) : m.1 x = mm.1 x := funext fun y => h.2.1 x y (e y) hx
theorem NvM.kq (h : NvM mm U dv m) (e : m.1 163 = mm.1 163) : Kq mm m := by
  refine ⟨fun x y e2 => ?_, h.1⟩
  by_cases c : x = 163
  · subst c; rw [e]
  · exact h.2.1 x y e2 c
theorem NvM.back (h : NvM mm U dv m) : NvM mm U dv (pbM m 20) ∧ (pbM m 20).1 163 = mm.1 163 ∧ Fr1 163 m (pbM m 20) := by
  have f : Fr1 163 m (pbM m 20) := ⟨rfl, fun x hx => wR_o hx⟩
  have e : ∀ j, (pbM m 20).1 163 j = pbF (m.1 163) (m.1 183) 20 16 8 j := fun j => by
    unfold pbM
    rw [wR_k]
  refine ⟨h.li f fun j hj => ?_, funext fun j => ?_, f⟩
  · rw [e]
    unfold pbF
    rw [if_neg (by omega), if_neg (by omega)]
  · rw [e]
    unfold pbF
    by_cases c1 : 10 ≤ j ∧ j < 10 + 16
    · rw [if_pos c1, show 24 * 20 + (j - 10) = 480 + (j - 10) by omega, h.2.2.2.1 _ (by omega), show 10 + (j - 10) = j by omega]
    · rw [if_neg c1]
      by_cases c2 : 50 ≤ j ∧ j < 50 + 8
      · rw [if_pos c2, show 24 * 20 + 16 + (j - 50) = 480 + 16 + (j - 50) by omega, h.2.2.2.2.1 _ (by omega), show 50 + (j - 50) = j by omega]
      · rw [if_neg c2]
        exact h.2.2.1 j (by omega)
theorem kthM_at {i : Nat} (h : NvM mm U dv m) (hi : i < popN U) : ∃ j, j < 16 ∧ U.testBit j = true ∧ fb_ct U.testBit j = i ∧ unH U i = j ∧ m.1 184 i = nI j ∧ m.1 185 i = nI (dv j) := by
  obtain ⟨j, h1, h2, h3, h4⟩ := unH_ex hi
  obtain ⟨a, b⟩ := h.2.2.2.2.2.2 j h1 h2
  rw [h3] at a b
  exact ⟨j, h1, h2, h3, h4, a, b⟩
theorem brings_ok {set : Nat} (hk : popN U ≤ 16) (hset : set < 256) (h : NvM mm U dv m) (hh : ∀ j, j < 16 → mm.1 163 (10 + j) = nI (hv j)) :
    Runs e_X12_brings [.ref 156, .int (nI set)] m (fun r m' => r = .null ∧ (NvM mm U dv m' ∧ Fr1 163 m m' ∧ ∀ j, j < 16 → m'.1 163 (10 + j) = nI (brV U set dv hv j))) := by
  apply b_X12_brings
  refine vcall (putBack_ok (m := m) (i := 20) (by omega)) ?_
  rintro m0 rfl
  obtain ⟨p1, p2, p3⟩ := h.back
  refine for_up (Y := e_X12_brings) (pc := 8) (fun i => [(0, .ref 156), (1, .int (nI set)), (2, .int (nI i))]) (fun i m' => NvM mm U dv m' ∧ Fr1 163 m m' ∧ ∀ j, j < 16 → m'.1 163 (10 + j) = nI (brI U set i dv hv j)) (popN U) ?_ ?_ 0 _ (by omega) ⟨p1, p3, fun j hj => ?_⟩
  · rintro m' ⟨q1, q2, q3⟩
    refine b_X12_brings_8 _ _ _ _ ?_
    rw [q1.2.2.2.2.2.1]
    exact ⟨fun _ => ⟨rfl, q1, q2, fun j hj => by rw [q3 j hj, brI_all hj]⟩, fun z => absurd (nI_le (Nat.le_refl _) (by omega)) z⟩
  · rintro i m' hi ⟨q1, q2, q3⟩ hg
    obtain ⟨j, j1, j2, j3, j4, j5, j6⟩ := kthM_at q1 hi
    obtain ⟨b1, b2⟩ := one_bit (set.testBit i)
    refine b_X12_brings_8 _ _ _ _ ?_
    rw [q1.2.2.2.2.2.1, shr_bit (by omega) (by omega), b2, nI_1, nI_clamp (by omega), j5, j6, show (10 : Int32) = nI 10 from rfl, nI_add, nI_clamp (by omega)]
    refine ⟨fun z => absurd z (nI_ge hi (by omega)), fun _ => ⟨fun c => hg m' ⟨q1, q2, fun x hx => by rw [q3 x hx, brI_skip (by simpa using c)]⟩, fun c => ⟨vp_in_nI (by omega) (by omega), vp_in_nI (by omega) (by omega), vp_in_nI (by omega) (by omega), hg _ ⟨q1.li ((Fr1.rf 163 m').w _ _) fun y hy => by rw [wI_k, pk_un (by omega)], q2.w _ _, fun x hx => ?_⟩⟩⟩⟩
    rw [wI_k]
    by_cases e : x = j
    · subst e
      rw [pk_us, brI_on j2 j3 c]
    · rw [pk_un (by omega), q3 x hx, brI_off]
      rintro ⟨y1, y2⟩
      exact e (by rw [← unH_at hx y1, y2, j4])
  · rw [p2, hh j hj, brI_0]
end
theorem reachN_ok {mm m : MM} {t s H O S Qn W C J F B U : Nat} {dv hv : Nat → Nat} (hb : BodyR mm.1 t s H O S Qn W C J F B) (h : NvM mm U dv m) (hh : ∀ j, j < 16 → m.1 163 (10 + j) = nI (hv j) ∧ hv j ≤ 99) :
    Runs e_X12_reachedAt [.ref 156, .int 12, .int (-1), .int (-1)] m (fun r m' => r = .int (nI (rchV (mm.1 162) (fun h => nI (hv h)) (tideV mm.1 12) (-1) (-1))) ∧ Ke m m') := by
  have h1 : m.1 162 = mm.1 162 := h.r (by decide) fun _ => rfl
  have h2 : m.1 165 = mm.1 165 := h.r (by decide) fun _ => rfl
  have h3 : m.1 166 = mm.1 166 := h.r (by decide) fun _ => rfl
  have h4 : m.1 163 0 = mm.1 163 0 := h.2.2.1 0 (by omega)
  have hT : TownM (m.1 162) := by rw [h1]; exact hb.townM
  have hr := reach_okE (mm := m) (tide := tideV mm.1 12) (ns := -1) (nh := -1) (hr := 12) (LawM_fr h1 h2 h3 hb.law0.m) (tideV_fr h1 h2 h3 h4 12) hT (fun j hj => ⟨hv j, (hh j hj).2, (hh j hj).1⟩) m (Kp.rf m)
  refine runs_to hr ?_
  rintro r m' ⟨e, k, -⟩
  refine ⟨?_, k⟩
  rw [e, rchV_ext (hv' := fun h => nI (hv h)) hT fun k hk => (hh k hk).1, h1]
theorem layNights_ok {mm m0 : MM} {t s H O S Qn W C J F B U : Nat} (hb : BodyR mm.1 t s H O S Qn W C J F B) (hk : popN U ≤ 8) (h0 : Kq mm m0) (h42 : m0.1 156 42 = nI (popN U)) (hrow : ∀ h, h < 16 → U.testBit h = true → m0.1 184 (fb_ct U.testBit h) = nI h ∧ m0.1 185 (fb_ct U.testBit h) = nI (dnV mm.1 h)) :
    Runs e_X12_layNights [.ref 156] m0 (fun r m' => r = .null ∧ (NvM mm U (dnV mm.1) m' ∧ m'.1 163 = mm.1 163 ∧ (∀ x, x < 2 ^ popN U → m'.1 186 x = bI (sfV mm.1 U (dnV mm.1) (hgV mm.1) x)) ∧ ∀ x, x < 2 ^ popN U → m'.1 187 x = nI (tM (sfV mm.1 U (dnV mm.1) (hgV mm.1)) C (2 ^ popN U) (2 ^ popN U) x))) := by
  obtain ⟨z1, z2, z3, z4, z5, ⟨z6, z6'⟩, -⟩ := hb.sz
  obtain ⟨n1, n2, n3, n4, n5, n6, -⟩ := hb.nm
  have hp : 2 ^ popN U ≤ 256 := Nat.pow_le_pow_right (n := 2) (by decide) hk
  have hp0 : 0 < 2 ^ popN U := Nat.two_pow_pos _
  obtain ⟨sf, hsf⟩ : ∃ sf, sf = sfV mm.1 U (dnV mm.1) (hgV mm.1) := ⟨_, rfl⟩
  obtain ⟨R0, hR0⟩ : ∃ R0, R0 = rchV (mm.1 162) (fun h => nI (hgV mm.1 h)) (tideV mm.1 12) (-1) (-1) := ⟨_, rfl⟩
  rw [← hsf]
  have hh : ∀ j, j < 16 → mm.1 163 (10 + j) = nI (hgV mm.1 j) := fun j hj => (hb.hgv hj).2.1
  apply b_X12_layNights
  have hT : TownM (m0.1 162) := by rw [h0.r162]; exact hb.townM
  have hr0 := reach_okE (mm := m0) (tide := tideV mm.1 12) (ns := -1) (nh := -1) (hr := 12) (LawM_fr h0.r162 h0.r165 h0.r166 hb.law0.m) (tideV_fr h0.r162 h0.r165 h0.r166 (by rw [h0.r163]) 12) hT (fun j hj => ⟨hgV mm.1 j, (hb.hgv hj).1, by rw [h0.r163]; exact hh j hj⟩) m0 (Kp.rf m0)
  have e0 : rchV (m0.1 162) (fun h => m0.1 163 (10 + h)) (tideV mm.1 12) (-1) (-1) = R0 := by
    rw [hR0, rchV_ext (hv' := fun h => nI (hgV mm.1 h)) hT fun k hk => by rw [h0.r163]; exact hh k hk, h0.r162]
  rw [e0] at hr0
  refine icall (runs_to hr0 fun r m' q => ⟨q.1, q.2.1⟩) ?_
  intro m1 k1
  have hq1 := Ke.q h0 k1
  refine vcall (keep20_ok m1) ?_
  rintro m2 ⟨w1, w2, w3, w4, w5⟩
  have hm2 : NvM mm U (dnV mm.1) m2 := by
    refine ⟨by rw [w1]; exact hq1.2, fun x y e hx => ?_, fun j _ => by rw [w2 163 (by decide), hq1.r163], fun j hj => by rw [w4 j hj, hq1.r163], fun j hj => by rw [w5 j hj, hq1.r163], by rw [w2 156 (by decide), k1.g 156 42 rfl]; exact h42, fun j hj e => by rw [w2 184 (by decide), w2 185 (by decide), k1.g 184 _ rfl, k1.g 185 _ rfl]; exact hrow j hj e⟩
    by_cases c : x = 183
    · subst c
      have : y < 480 := Nat.ble_eq.mp (show Nat.ble (y + 1) 480 = true from e)
      rw [w3 y this]; exact hq1.g 183 y e
    · rw [w2 x c]; exact hq1.g x y e
  have eN : (1 : Int32) <<< ((m1.1 156 42) &&& 31) = nI (2 ^ popN U) := by rw [k1.g 156 42 rfl, h42]; exact ib _ (by omega)
  rw [eN]
  generalize hN : 2 ^ popN U = N at *
  have hN1 : nI N - 1 = nI (N - 1) := by rw [show N = (N - 1) + 1 by omega, nI_pred]; rfl
  refine for_up (Y := e_X12_layNights) (pc := 24) (fun q => [(0, .ref 156), (1, .int (nI R0)), (2, .int (nI N)), (3, .int (nI q))]) (fun q m' => NvM mm U (dnV mm.1) m' ∧ ∀ x, x < q → m'.1 186 x = bI (sf x)) N ?_ ?_ 0 m2 (by omega) ⟨hm2, fun x hx => absurd hx (Nat.not_lt_zero _)⟩
  · rintro m' ⟨q1, q2⟩
    refine b_X12_layNights_24 _ _ _ _ _ ⟨fun _ => ?_, fun z => absurd (nI_le (Nat.le_refl _) (by omega)) z⟩
    refine vcall (putBack_ok (m := m') (i := 20) (by omega)) ?_
    rintro m3 rfl
    obtain ⟨p1, p2, p3⟩ := q1.back
    have g186 : ∀ x, x < N → (pbM m' 20).1 186 x = bI (sf x) := fun x hx => by rw [p3.2 186 (by decide)]; exact q2 x hx
    generalize pbM m' 20 = m3 at p1 p2 g186
    rw [hN1]
    refine G_eq (L := [(0, .ref 156), (2, .int (nI N)), (3, .int (nI (N - 0) - 1))]) (by rw [Nat.sub_zero, hN1]) ?_
    refine for_up (Y := e_X12_layNights) (pc := 76) (fun d => [(0, .ref 156), (2, .int (nI N)), (3, .int (nI (N - d) - 1))]) (fun d m' => NvM mm U (dnV mm.1) m' ∧ m'.1 163 = mm.1 163 ∧ (∀ x, x < N → m'.1 186 x = bI (sf x)) ∧ ∀ x, N - d ≤ x → x < N → m'.1 187 x = nI (tM sf C N d x)) N ?_ ?_ 0 m3 (by omega) ⟨p1, p2, g186, fun x h1 h2 => absurd h1 (by omega)⟩
    · rintro m4 ⟨r1, r2, r3, r4⟩
      exact b_X12_layNights_76 _ _ _ _ ⟨fun _ => ⟨rfl, r1, r2, r3, fun x hx => r4 x (by omega) hx⟩, fun z => absurd (by rw [Nat.sub_self]; decide) z⟩
    · rintro d m4 hd ⟨r1, r2, r3, r4⟩ hg
      obtain ⟨set, hset⟩ : ∃ set, set = N - 1 - d := ⟨_, rfl⟩
      have e1 : nI (N - d) - 1 = nI set := by rw [show N - d = set + 1 by omega, nI_pred]
      have e2 : nI (N - (d + 1)) - 1 = nI set + (-1) := by rw [show N - (d + 1) = set by omega, Int32.sub_eq_add_neg]
      rw [e2] at hg
      rw [e1]
      have inner : ∀ v, v = mfN sf C N (tM sf C N d) set 0 → G e_X12_layNights 103 [(0, .ref 156), (2, .int (nI N)), (3, .int (nI set)), (4, .int (1 : Int32))] [] (wI m4 187 set (nI v)) (fun r m' => r = .null ∧ (NvM mm U (dnV mm.1) m' ∧ m'.1 163 = mm.1 163 ∧ (∀ x, x < N → m'.1 186 x = bI (sf x)) ∧ ∀ x, x < N → m'.1 187 x = nI (tM sf C N N x))) := by
        intro v hv
        refine for_up (Y := e_X12_layNights) (pc := 103) (fun j => [(0, .ref 156), (2, .int (nI N)), (3, .int (nI set)), (4, .int (nI (j + 1)))]) (fun j m' => NvM mm U (dnV mm.1) m' ∧ m'.1 163 = mm.1 163 ∧ (∀ x, x < N → m'.1 186 x = bI (sf x)) ∧ m'.1 187 set = nI (mfN sf C N (tM sf C N d) set j) ∧ ∀ x, N - d ≤ x → x < N → m'.1 187 x = nI (tM sf C N d x)) (N - 1) ?_ ?_ 0 _ (by omega) ⟨r1.fr (Or.inr rfl) ((Fr1.rf 187 m4).w _ _), by rw [wI_o (by decide)]; exact r2, fun x hx => by rw [wI_o (by decide)]; exact r3 x hx, by rw [wI_k, pk_us, hv], fun x h1 h2 => by rw [wI_k, pk_un (by omega)]; exact r4 x h1 h2⟩
        · rintro m5 ⟨a1, a2, a3, a4, a5⟩
          refine b_X12_layNights_103 _ _ _ _ _ ⟨fun _ => hg m5 ⟨a1, a2, a3, fun x h1 h2 => ?_⟩, fun z => absurd (nI_le (by omega) (by omega)) z⟩
          rw [tM, ← hset]
          by_cases c : x = set
          · subst c; rw [if_pos rfl]; exact a4
          · rw [if_neg c]; exact a5 x (by omega) h2
        · rintro j m5 hj ⟨a1, a2, a3, a4, a5⟩ hgo
          have n6' : m5.1 162 6 = nI C := by rw [a1.r (by decide) fun _ => rfl]; exact n6
          have hmt := mf_top (sf := sf) (C := C) (N := N) (g := tM sf C N d) (set := set) j
          have hpop : popN (j + 1) ≤ 16 := fb_ct_le _ _
          have keep : mfN sf C N (tM sf C N d) set (j + 1) = mfN sf C N (tM sf C N d) set j → G e_X12_layNights 103 [(0, .ref 156), (2, .int (nI N)), (3, .int (nI set)), (4, .int (nI (j + 1) + 1))] [] m5 (fun r m' => r = .null ∧ (NvM mm U (dnV mm.1) m' ∧ m'.1 163 = mm.1 163 ∧ (∀ x, x < N → m'.1 186 x = bI (sf x)) ∧ ∀ x, x < N → m'.1 187 x = nI (tM sf C N N x))) := fun e => by
            rw [nI_1]
            exact hgo m5 ⟨a1, a2, a3, by rw [e]; exact a4, a5⟩
          rw [mfN] at keep
          refine b_X12_layNights_103 _ _ _ _ _ ⟨fun z => absurd z (nI_ge (by omega) (by omega)), fun _ => ?_⟩
          rw [fa_and, show (0 : Int32) = nI 0 from rfl, nI_eq (Nat.lt_of_le_of_lt Nat.and_le_left (by omega)) (by omega)]
          refine ⟨fun c => keep (if_neg fun z => c z.1), fun c => icall (bitsOf_eq (by omega) m5) ?_⟩
          rintro m6 rfl
          rw [n6', nI_ltI (by omega) (by omega)]
          refine ⟨fun c2 => keep (if_neg fun z => by omega), fun c2 => ?_⟩
          obtain ⟨f1, f2, -, -⟩ := more_fwd (k := popN U) (set := set) hk (by omega) (show j + 1 < 2 ^ popN U by omega) (by omega) c
          have hto := a5 (set ||| (j + 1)) (by omega) (by omega)
          have htm := tM_top (sf := sf) (C := C) (N := N) d (set ||| (j + 1))
          rw [fa_or, nI_clamp (by omega), nI_clamp (by omega), a3 _ (by omega), hto, a4, nI_1 (tM sf C N d (set ||| (j + 1))), least_nI (by omega) (by omega)]
          refine ⟨vp_in_nI (by omega) (by omega), fun c3 => ⟨vp_in_nI (by omega) (by omega), vp_in_nI (by omega) (by omega), vp_in_nI (by omega) (by omega), ?_⟩, fun c3 => keep (if_neg fun z => ?_)⟩
          · have cs : sf (set ||| (j + 1)) = true := by
              cases e : sf (set ||| (j + 1)) with
              | true => rfl
              | false => rw [e] at c3; exact absurd rfl c3
            rw [nI_1]
            refine hgo _ ⟨a1.fr (Or.inr rfl) ((Fr1.rf 187 m6).w _ _), by rw [wI_o (by decide)]; exact a2, fun x hx => by rw [wI_o (by decide)]; exact a3 x hx, ?_, fun x h1 h2 => by rw [wI_k, pk_un (by omega)]; exact a5 x h1 h2⟩
            rw [wI_k, pk_us, mfN, if_pos ⟨c, by omega, cs⟩]
          · rw [z.2.2] at c3
            exact absurd c3 (by decide)
      refine b_X12_layNights_76 _ _ _ _ ⟨fun z => absurd z (nI_pos (by omega)), fun _ => ?_⟩
      rw [hN1, nI_eq (by omega) (by omega), nI_clamp (by omega)]
      refine ⟨fun c => ⟨vp_in_nI (by omega) (by omega), inner 1000000 ?_⟩, fun c => ⟨vp_in_nI (by omega) (by omega), inner 0 ?_⟩⟩
      · rw [mfN, if_neg (by omega)]
      · rw [mfN, if_pos (by omega)]
  · rintro q m' hq ⟨q1, q2⟩ hg
    refine b_X12_layNights_24 _ _ _ _ _ ⟨fun z => absurd z (nI_ge hq (by omega)), fun _ => ?_⟩
    refine vcall (brings_ok (hv := hgV mm.1) (set := q) (by omega) (by omega) q1 hh) ?_
    rintro m3 ⟨b1, b2, b3⟩
    refine icall (reachN_ok (hv := brV U q (dnV mm.1) (hgV mm.1)) hb b1 fun j hj => ⟨b3 j hj, brV_le (dnV_ok mm.1 j).1 (hb.hgv hj).1⟩) ?_
    intro m4 k4
    have h4 := b1.ke k4
    have f186 : ∀ x, x < q → m4.1 186 x = bI (sf x) := fun x hx => by rw [k4.g 186 x rfl, b2.2 186 (by decide)]; exact q2 x hx
    have esf : sf q = decide ((nI R0 &&& (nI (rchV (mm.1 162) (fun h => nI (brV U q (dnV mm.1) (hgV mm.1) h)) (tideV mm.1 12) (-1) (-1)) ^^^ (-1))) = 0) := by rw [hsf, hR0]; rfl
    have nxt : ∀ v : Int32, v = bI (sf q) → G e_X12_layNights 24 [(0, .ref 156), (1, .int (nI R0)), (2, .int (nI N)), (3, .int (nI q + 1))] [] (wI m4 186 q v) (fun r m' => r = .null ∧ (NvM mm U (dnV mm.1) m' ∧ m'.1 163 = mm.1 163 ∧ (∀ x, x < N → m'.1 186 x = bI (sf x)) ∧ ∀ x, x < N → m'.1 187 x = nI (tM sf C N N x))) := by
      intro v hv
      rw [nI_1]
      refine hg _ ⟨h4.fr (Or.inl rfl) ((Fr1.rf 186 m4).w _ _), fun x hx => ?_⟩
      rw [wI_k]
      by_cases c : x = q
      · subst c; rw [pk_us, hv]
      · rw [pk_un c]; exact f186 x (by omega)
    rw [nI_clamp (by omega)]
    refine ⟨fun c => ⟨vp_in_nI (by omega) (by omega), nxt _ ?_⟩, fun c => ⟨vp_in_nI (by omega) (by omega), nxt _ ?_⟩⟩
    · rw [esf, decide_eq_false c]; decide
    · rw [esf, decide_eq_true c]; decide
theorem firstM_ok {mm m : MM} {t s H O S Qn W C J F B U : Nat} {dv : Nat → Nat} {sf : Nat → Bool} {g : Nat → Nat} (hb : BodyR mm.1 t s H O S Qn W C J F B) (hk : popN U ≤ 8) (h : NvM mm U dv m) (h6 : ∀ x, x < 2 ^ popN U → m.1 186 x = bI (sf x)) (h7 : ∀ x, x < 2 ^ popN U → m.1 187 x = nI (g x)) (hg : ∀ x, g x ≤ 1000000) :
    Runs e_X12_firstNight [.ref 156] m (fun r m' => r = .int (nI (hbN U (fnN sf C g (2 ^ popN U - 1)) (popN U))) ∧ m' = m) := by
  have hp : 2 ^ popN U ≤ 256 := Nat.pow_le_pow_right (n := 2) (by decide) hk
  have hp0 : 0 < 2 ^ popN U := Nat.two_pow_pos _
  have z6 := hb.sz.2.2.2.2.2.1
  have n6 : m.1 162 6 = nI C := by rw [h.r (by decide) fun _ => rfl]; exact hb.nm.2.2.2.2.2.1
  apply b_X12_firstNight
  refine for_up (Y := e_X12_firstNight) (pc := 4) (fun j => [(0, .ref 156), (1, .int (nI (fnN sf C g j))), (2, .int (nI (j + 1)))]) (fun j m' => m' = m) (2 ^ popN U - 1) ?_ ?_ 0 m (by omega) rfl
  · rintro m' rfl
    have hb2 := fn_lt (sf := sf) (C := C) (g := g) (2 ^ popN U - 1)
    refine b_X12_firstNight_4 _ _ _ _ ?_
    rw [h.2.2.2.2.2.1, ib (popN U) (by omega)]
    refine ⟨fun _ => ?_, fun z => absurd (nI_le (by omega) (by omega)) z⟩
    generalize fnN sf C g (2 ^ popN U - 1) = set at *
    refine for_up (Y := e_X12_firstNight) (pc := 84) (fun i => [(0, .ref 156), (1, .int (nI set)), (2, .int (nI (hbN U set i))), (3, .int (nI i))]) (fun i m'' => m'' = m') (popN U) ?_ ?_ 0 m' (by omega) rfl
    · rintro m'' rfl
      refine b_X12_firstNight_84 _ _ _ _ _ ?_
      rw [h.2.2.2.2.2.1]
      exact ⟨fun _ => ⟨rfl, rfl⟩, fun z => absurd (nI_le (Nat.le_refl _) (by omega)) z⟩
    · rintro i m'' hi rfl hgo
      have hgo := hgo m'' rfl
      rw [hbN] at hgo
      obtain ⟨j, j1, j2, j3, j4, j5, j6⟩ := kthM_at h hi
      obtain ⟨b1, b2⟩ := one_bit (set.testBit i)
      refine b_X12_firstNight_84 _ _ _ _ _ ?_
      rw [h.2.2.2.2.2.1, shr_bit (by omega) (by omega), b2, nI_1, nI_clamp (by omega), j5, ib j (by omega), fa_or]
      refine ⟨fun z => absurd z (nI_ge hi (by omega)), fun _ => ⟨fun c => ?_, fun c => ⟨vp_in_nI (by omega) (by omega), ?_⟩⟩⟩
      · rw [if_neg c] at hgo
        exact hgo
      · rw [if_pos c, j4] at hgo
        exact hgo
  · rintro j m' hj rfl hgo
    have hgo := hgo m' rfl
    rw [fnN] at hgo
    have hbj := fn_lt (sf := sf) (C := C) (g := g) j
    have hpop : popN (j + 1) ≤ 16 := fb_ct_le _ _
    have hpop2 : popN (fnN sf C g j) ≤ 16 := fb_ct_le _ _
    have hgx := hg (j + 1)
    have hg0 := hg 0
    generalize fnN sf C g j = best at *
    refine b_X12_firstNight_4 _ _ _ _ ?_
    rw [h.2.2.2.2.2.1, ib (popN U) (by omega)]
    refine ⟨fun z => absurd z (nI_ge (by omega) (by omega)), fun _ => icall (bitsOf_eq (by omega) m') ?_⟩
    rintro m1 rfl
    rw [n6, nI_ltI (by omega) (by omega), nI_clamp (by omega), h6 (j + 1) (by omega), h7 (j + 1) (by omega), h7 0 hp0, nI_1, nI_1, nI_eq (by omega) (by omega)]
    refine ⟨fun c => ?_, fun c => ⟨vp_in_nI (by omega) (by omega), fun c2 => ?_, fun c2 => ⟨vp_in_nI (by omega) (by omega), fun c3 => ⟨fun c4 => ?_, fun c4 => ?_⟩, fun c3 => ?_⟩⟩⟩
    · rw [if_neg (by omega)] at hgo
      exact hgo
    · rw [if_neg (fun z => by rw [z.2.1] at c2; exact absurd c2 (by decide))] at hgo
      exact hgo
    · have cs : sf (j + 1) = true := by
        cases e : sf (j + 1) with
        | true => rfl
        | false => rw [e] at c2; exact absurd rfl c2
      have c4 : best = 0 := (nI_eq (b := 0) (by omega) (by omega)).mp c4
      rw [if_pos ⟨by omega, cs, c3, Or.inl c4⟩] at hgo
      exact hgo
    · have cs : sf (j + 1) = true := by
        cases e : sf (j + 1) with
        | true => rfl
        | false => rw [e] at c2; exact absurd rfl c2
      have c4 : ¬ best = 0 := fun z => c4 (congrArg nI z)
      refine icall (bitsOf_eq (by omega) m1) ?_
      rintro m2 rfl
      refine icall (bitsOf_eq (by omega) m2) ?_
      rintro m3 rfl
      rw [nI_leI (by omega) (by omega)]
      refine ⟨fun c5 => ?_, fun c5 => ?_⟩
      · rw [if_neg (fun z => by rcases z.2.2.2 with y | y <;> omega)] at hgo
        exact hgo
      · rw [if_pos ⟨by omega, cs, c3, Or.inr (by omega)⟩] at hgo
        exact hgo
    · rw [if_neg (fun z => c3 z.2.2.1)] at hgo
      exact hgo
/-! nights -/
noncomputable def nightsV (c : Nat → Nat → Int32) (U C : Nat) (a : Int32) : Int32 :=
  if a = 2 then nI ((popN U + C - 1) / C) else if 8 < popN U then -2 else if U = 0 then 0
  else if 1000000 ≤ tM (sfV c U (dnV c) (hgV c)) C (2 ^ popN U) (2 ^ popN U) 0 then -2
  else if a = 0 then nI (tM (sfV c U (dnV c) (hgV c)) C (2 ^ popN U) (2 ^ popN U) 0)
  else nI (hbN U (fnN (sfV c U (dnV c) (hgV c)) C (tM (sfV c U (dnV c) (hgV c)) C (2 ^ popN U) (2 ^ popN U)) (2 ^ popN U - 1)) (popN U))
theorem lt1000 {x : Nat} (h : x < 1000) : nI x < (1000 : Int32) := nI_lt (b := 1000) h (by omega)
theorem pop_0 {U : Nat} (h : U < 65536) : popN U = 0 ↔ U = 0 := by
  constructor
  · intro z
    have z := fb_ct_zero.mp z
    refine Nat.eq_of_testBit_eq fun i => ?_
    rw [Nat.zero_testBit]
    by_cases c : i < 16
    · exact z i c
    · exact tb_lt (n := 16) h (by omega)
  · rintro rfl
    exact fb_ct_zero.mpr fun k _ => Nat.zero_testBit k
theorem st_nights (a : Int32) : StepOK RR e_X11_nights e_X12_nights [.int a] := by
  apply step_q
  rintro mm ⟨t, s, H, O, S, Qn, W, C, J, F, B, ht, hs, hr, hb, hl⟩
  obtain ⟨z1, z2, z3, z4, z5, z6, z7, z8, z9⟩ := hb.sz
  obtain ⟨n1, n2, n3, n4, n5, n6, n7, n8, n9⟩ := hb.nm
  obtain ⟨c1, c2, c3, c4, c5, c6, c7, c8, c9, c10⟩ := hb.nc
  have rf := Kp.rf (kp := kq) mm
  have hs' : s = 24 ∨ s = 114 := hs
  have ht' : t = 10 ∨ t = 100 := ht
  obtain ⟨z6a, z6b⟩ := z6
  obtain ⟨U, hUd⟩ : ∃ U, U = untV mm.1 H := ⟨_, rfl⟩
  have hU : U < 2 ^ H := by rw [hUd]; exact bs_lt _ _
  have hU16 : U < 65536 := Nat.lt_of_lt_of_le hU (Nat.pow_le_pow_right (n := 2) (by decide) z1)
  have hct := ct_top hU z1
  have hpp : popN U ≤ 16 := fb_ct_le _ _
  by_cases hin : ¬ a < 0 ∧ ¬ (2 : Int32) < a
  · have rel : ∀ x, popN U ≤ 8 → x < 2 ^ popN U → Rn (sfV mm.1 U (dnV mm.1) (hgV mm.1)) x (tL (sfV mm.1 U (dnV mm.1) (hgV mm.1)) C (2 ^ popN U) (2 ^ popN U) x) (tM (sfV mm.1 U (dnV mm.1) (hgV mm.1)) C (2 ^ popN U) (2 ^ popN U) x) := fun x hk hx => tab_rel hk rfl _ (Nat.le_refl _) x (by omega) hx
    refine ⟨.int (nightsV mm.1 U C a), ?_, fun m k => ?_⟩
    · refine b_X11_nights _ _ _ ⟨fun _ => ?_, fun z => absurd hin z⟩
      rw [hr.1, hr.2.1]
      refine ⟨ht.at, hs.s.at, icall (untC_ok ht hs hb mm rf) fun m3 k3 => ?_⟩
      rw [← hUd, bitCount_v m3 hU16, k3.2, hr.1, hr.2.1, k3.t0 ht, c7]
      unfold nightsV
      refine ⟨fun ca => ?_, fun ca => ?_⟩
      · rw [if_neg ca, show (8 : Int32) = nI 8 from rfl, nI_leI (by omega) (by omega)]
        refine ⟨fun c8 => ?_, fun c8 => ?_⟩
        · rw [if_neg (by omega)]
          refine ⟨fun c0 => ?_, fun c0 => ?_⟩
          · have cU : ¬ U = 0 := fun z => c0 (congrArg nI z)
            rw [if_neg cU]
            refine ⟨ht.at, hs.s.at, vcall (search_ok ht hs hb hU c8 k3) ?_⟩
            rintro m6 ⟨n6x, n90⟩
            have hp0 : 0 < 2 ^ popN U := Nat.two_pow_pos _
            have h90 := n90 0 hp0
            have r0 := rel 0 c8 hp0
            have tl := tL_top (sf := sfV mm.1 U (dnV mm.1) (hgV mm.1)) (C := C) (N := 2 ^ popN U) (2 ^ popN U) 0
            unfold Rn at r0
            rw [if_pos sf_0] at r0
            have hfew : v_X3_fewest m6 = if 1000000 ≤ tM (sfV mm.1 U (dnV mm.1) (hgV mm.1)) C (2 ^ popN U) (2 ^ popN U) 0 then -2 else nI (tM (sfV mm.1 U (dnV mm.1) (hgV mm.1)) C (2 ^ popN U) (2 ^ popN U) 0) := by
              unfold v_X3_fewest
              rw [h90]
              rcases r0 with ⟨y1, y2⟩ | ⟨y1, y2⟩
              · rw [if_neg (by omega), y1]
                exact cite_pos (lt1000 (by omega))
              · rw [if_pos (by omega), y1]
                exact cite_neg (by decide)
            rw [hfew, n6x.1.2, hr.1, n6x.1.t0 ht, c7]
            by_cases cF : 1000000 ≤ tM (sfV mm.1 U (dnV mm.1) (hgV mm.1)) C (2 ^ popN U) (2 ^ popN U) 0
            · rw [if_pos cF, if_pos cF]
              exact ⟨fun z => absurd rfl z, fun _ => ⟨rfl, n6x.1⟩⟩
            · rw [if_neg cF, if_neg cF]
              have hlt : tL (sfV mm.1 U (dnV mm.1) (hgV mm.1)) C (2 ^ popN U) (2 ^ popN U) 0 < 1000 ∧ tL (sfV mm.1 U (dnV mm.1) (hgV mm.1)) C (2 ^ popN U) (2 ^ popN U) 0 = tM (sfV mm.1 U (dnV mm.1) (hgV mm.1)) C (2 ^ popN U) (2 ^ popN U) 0 := by omega
              refine ⟨fun _ => ⟨fun c00 => ?_, fun c00 => ?_⟩, fun z => absurd z (of_eq_false (s_neF (b := 2) (Or.inr (by omega)) (by omega) (by omega)))⟩
              · rw [if_neg c00]
                refine ⟨ht.at, icall (firstX_ok c8 z6b n6x n90 (fun x hx => rel x c8 hx) (fun x => tL_top _ x) hlt.1 hlt.2) ?_⟩
                rintro m8 rfl
                exact ⟨rfl, n6x.1⟩
              · rw [if_pos c00]
                exact ⟨rfl, n6x.1⟩
          · have cU : U = 0 := (nI_eq (b := 0) (by omega) (by omega)).mp c0
            rw [if_pos cU]
            exact ⟨rfl, k3⟩
        · rw [if_pos (by omega)]
          exact ⟨rfl, k3⟩
      · rw [if_pos ca]
        have em : imax (1 : Int32) (nI C) = nI C := by
          unfold imax
          by_cases c1' : C = 1
          · subst c1'; rfl
          · rw [if_pos (show (1 : Int32) < nI C from nI_lt (a := 1) (by omega) (by omega))]
        rw [em, nI_add, show (1 : Int32) = nI 1 from rfl, pk_sub (by omega), pk_div (by omega) (by omega) (by omega)]
        exact ⟨ht.at, ht.at, nI_ne0 (by omega) (by omega), rfl, k3⟩
    · refine b_X12_nights _ _ _ ⟨fun _ => ?_, fun z => absurd hin z⟩
      refine icall (untM_ok hb m k) ?_
      intro m1 k1
      rw [← hUd]
      refine for_up (Y := e_X12_nights) (pc := 23) (fun h => [(0, .ref 156), (1, .int a), (2, .int (nI U)), (3, .int (nI h))]) (fun h m' => Kq mm m' ∧ m'.1 156 42 = nI (fb_ct U.testBit h) ∧ ∀ j, j < h → U.testBit j = true → m'.1 184 (fb_ct U.testBit j) = nI j ∧ m'.1 185 (fb_ct U.testBit j) = nI (dnV mm.1 j)) H ?_ ?_ 0 _ (by omega) ⟨k1.w _ rfl, by rw [wI_k, pk_us]; rfl, fun j hj => absurd hj (Nat.not_lt_zero _)⟩
      · rintro m' ⟨q1, q2, q3⟩
        have q3' : ∀ h, h < 16 → U.testBit h = true → m'.1 184 (fb_ct U.testBit h) = nI h ∧ m'.1 185 (fb_ct U.testBit h) = nI (dnV mm.1 h) := fun j hj e => by
          refine q3 j ?_ e
          rcases Nat.lt_or_ge j H with c | c
          · exact c
          · rw [tb_lt (n := H) hU c] at e; cases e
        rw [hct] at q2
        refine b_X12_nights_23 _ _ _ _ _ ?_
        rw [q1.r162, n1, n6, q2]
        refine ⟨fun _ => ?_, fun z => absurd (nI_le (Nat.le_refl _) (by omega)) z⟩
        unfold nightsV
        refine ⟨fun ca => ?_, fun ca => ?_⟩
        · rw [if_neg ca, show (8 : Int32) = nI 8 from rfl, nI_leI (by omega) (by omega)]
          refine ⟨fun c8 => ?_, fun c8 => ?_⟩
          · rw [if_neg (by omega)]
            refine ⟨fun c0 => ?_, fun c0 => ?_⟩
            · have cU : ¬ U = 0 := fun z => c0 (congrArg nI ((pop_0 hU16).mpr z))
              rw [if_neg cU]
              refine vcall (layNights_ok hb c8 q1 q2 q3') ?_
              rintro m2 ⟨v1, v2, v3, v4⟩
              have hp0 : 0 < 2 ^ popN U := Nat.two_pow_pos _
              have tt := tM_top (sf := sfV mm.1 U (dnV mm.1) (hgV mm.1)) (C := C) (N := 2 ^ popN U) (2 ^ popN U) 0
              rw [v4 0 hp0, show (1000000 : Int32) = nI 1000000 from rfl, nI_ltI (by omega) (by omega)]
              refine ⟨fun cF => ?_, fun cF => ?_⟩
              · rw [if_neg (by omega)]
                refine ⟨fun c00 => ?_, fun c00 => ?_⟩
                · rw [if_neg c00]
                  refine icall (firstM_ok hb c8 v1 v3 v4 fun x => tM_top _ x) ?_
                  rintro m3 rfl
                  exact ⟨rfl, v1.kq v2⟩
                · rw [if_pos c00]
                  exact ⟨rfl, v1.kq v2⟩
              · rw [if_pos (by omega)]
                exact ⟨rfl, v1.kq v2⟩
            · have cU : U = 0 := (pop_0 hU16).mp ((nI_eq (b := 0) (by omega) (by omega)).mp c0)
              rw [if_pos cU]
              exact ⟨rfl, q1⟩
          · rw [if_pos (by omega)]
            exact ⟨rfl, q1⟩
        · rw [if_pos ca, nI_add, show (1 : Int32) = nI 1 from rfl, pk_sub (by omega), pk_div (by omega) (by omega) (by omega)]
          exact ⟨nI_ne0 (by omega) (by omega), rfl, q1⟩
      · rintro h m' hh ⟨q1, q2, q3⟩ hg
        have hle : fb_ct U.testBit h ≤ popN U := by rw [← hct]; exact ct_le (by omega)
        obtain ⟨b1, b2⟩ := one_bit (U.testBit h)
        refine b_X12_nights_23 _ _ _ _ _ ?_
        rw [q1.r162, n1, shr_bit (by omega) (by omega), b1, q2, nI_1, nI_clamp (by omega)]
        refine ⟨fun z => absurd z (nI_ge hh (by omega)), fun _ => ⟨fun c => ?_, fun c => hg m' ⟨q1, by rw [q2, ct_no c], fun j hj e => ?_⟩⟩⟩
        · have c' : U.testBit h = true := by simpa using c
          have hlt : fb_ct U.testBit h < 16 := by
            have := ct_le (U := U) (show h + 1 ≤ H by omega)
            rw [ct_yes c', hct] at this
            omega
          have k2 : Kq mm (wI m' 184 (fb_ct U.testBit h) (nI h)) := q1.w _ rfl
          refine ⟨vp_in_nI (by omega) (by omega), icall (due_okE (mm := wI m' 184 (fb_ct U.testBit h) (nI h)) (by omega) (by unfold RankOK; rw [k2.r163]; exact (hb.rank h hh).m) (LawM_fr k2.r162 k2.r165 k2.r166 hb.law1.m) _ (Kp.rf _)) ?_⟩
          intro m2 k3
          have e4 : (wI m' 184 (fb_ct U.testBit h) (nI h)).1 156 42 = nI (fb_ct U.testBit h) := by rw [wI_o (by decide)]; exact q2
          have m4 : m2.1 156 42 = nI (fb_ct U.testBit h) := by rw [k3.g 156 42 rfl]; exact e4
          have em : dueV (wI m' 184 (fb_ct U.testBit h) (nI h)).1 h = nI (dnV mm.1 h) := by rw [dueV_kq k2 h]; exact (dnV_ok mm.1 h).2
          rw [e4, em, nI_clamp (by omega), wI_o (show (156 : Nat) ≠ 185 by decide), m4, nI_1]
          refine ⟨vp_in_nI (by omega) (by omega), hg _ ⟨((Ke.q k2 k3).w _ rfl).w _ rfl, by rw [wI_k, pk_us, ct_yes c'], fun j hj e => ?_⟩⟩
          rw [wI_o (show (184 : Nat) ≠ 156 by decide), wI_o (show (184 : Nat) ≠ 185 by decide), wI_o (show (185 : Nat) ≠ 156 by decide), wI_k, k3.g 184 _ rfl, wI_k]
          by_cases cj : j = h
          · subst cj
            rw [pk_us, pk_us]; exact ⟨rfl, rfl⟩
          · have a2 := ct_yes e
            have a1 := ct_le (U := U) (show j + 1 ≤ h by omega)
            rw [pk_un (by omega), pk_un (by omega), k3.g 185 _ rfl, wI_o (by decide)]
            exact q3 j (by omega) e
        · by_cases cj : j = h
          · subst cj; rw [c] at e; cases e
          · exact q3 j (by omega) e
  · refine ⟨.int (-1), ?_, fun m k => ?_⟩
    · exact b_X11_nights _ _ _ ⟨fun z => absurd z hin, fun _ => ⟨rfl, rf⟩⟩
    · exact b_X12_nights _ _ _ ⟨fun z => absurd z hin, fun _ => ⟨rfl, k⟩⟩

/-! the fewest nights, the class -/
def NvX (mm : MM) (s U : Nat) (dv : Nat → Nat) (m : MM) : Prop := Kq mm m ∧ m.1 86 4 = nI (popN U) ∧ ∀ h, h < 16 → U.testBit h = true → m.1 87 (fb_ct U.testBit h) = nI h ∧ m.1 89 (fb_ct U.testBit h) = nI (dv h)
theorem NvX.ke {mm m m' : MM} {s U : Nat} {dv : Nat → Nat} (h : NvX mm s U dv m) (k : Ke m m') : NvX mm s U dv m' := ⟨Ke.q h.1 k, by rw [k.g 86 4 rfl]; exact h.2.1, fun j hj e => by rw [k.g 87 _ rfl, k.g 89 _ rfl]; exact h.2.2 j hj e⟩
theorem NvX.fr {mm m m' : MM} {s U a : Nat} {dv : Nat → Nat} (h : NvX mm s U dv m) (ha : a = 88 ∨ a = 90) (k : Fr1 a m m') : NvX mm s U dv m' := by
  have e : ∀ b, kq a b = false := by rcases ha with rfl | rfl <;> (intro b; rfl)
  exact ⟨h.1.tr (k.kq e), by rw [k.2 86 (by omega)]; exact h.2.1, fun j hj e => by rw [k.2 87 (by omega), k.2 89 (by omega)]; exact h.2.2 j hj e⟩
theorem kth_at {mm m : MM} {s U i : Nat} {dv : Nat → Nat} (h : NvX mm s U dv m) (hi : i < popN U) : ∃ j, j < 16 ∧ U.testBit j = true ∧ fb_ct U.testBit j = i ∧ unH U i = j ∧ m.1 87 i = nI j ∧ m.1 89 i = nI (dv j) := by
  obtain ⟨j, h1, h2, h3, h4⟩ := unH_ex hi
  obtain ⟨a, b⟩ := h.2.2 j h1 h2
  rw [h3] at a b
  exact ⟨j, h1, h2, h3, h4, a, b⟩
theorem one_bit (b : Bool) : (nI (if b = true then 1 else 0) = 0 ↔ b = false) ∧ (nI (if b = true then 1 else 0) = 1 ↔ b = true) := by
  cases b
  · exact ⟨⟨fun _ => rfl, fun _ => rfl⟩, ⟨fun z => absurd z (by decide), fun z => absurd z (by decide)⟩⟩
  · exact ⟨⟨fun z => absurd z (by decide), fun z => absurd z (by decide)⟩, ⟨fun _ => rfl, fun _ => rfl⟩⟩
theorem bring_ok {mm m : MM} {s U set : Nat} {dv hv : Nat → Nat} (hs : isS s) (hk : popN U ≤ 8) (hset : set < 256) (h : NvX mm s U dv m) (hh : ∀ j, j < 16 → m.1 (s + 1) j = nI (hv j)) :
    Runs e_X3_bring [.ref 86, .ref s, .int (nI set)] m (fun r m' => r = .null ∧ (Fr1 88 m m' ∧ ∀ j, j < 16 → m'.1 88 j = nI (brV U set dv hv j))) := by
  refine b_X3_bring _ _ _ _ hs.at ?_
  refine for_up (Y := e_X3_bring) (pc := 17) (fun i => [(0, .ref 86), (2, .int (nI set)), (3, .int (nI i))]) (fun i m' => Fr1 88 m m' ∧ ∀ j, j < 16 → m'.1 88 j = nI (brI U set i dv hv j)) (popN U) ?_ ?_ 0 _ (by omega) ⟨⟨rfl, fun x hx => wR_o hx⟩, fun j hj => ?_⟩
  · rintro m' ⟨q1, q2⟩
    have h' := h.fr (Or.inl rfl) q1
    refine b_X3_bring_17 _ _ _ _ ?_
    rw [h'.2.1]
    exact ⟨fun _ => ⟨rfl, q1, fun j hj => by rw [q2 j hj, brI_all hj]⟩, fun z => absurd (nI_le (Nat.le_refl _) (by omega)) z⟩
  · rintro i m' hi ⟨q1, q2⟩ hg
    have h' := h.fr (Or.inl rfl) q1
    obtain ⟨j, j1, j2, j3, j4, j5, j6⟩ := kth_at h' hi
    obtain ⟨b1, b2⟩ := one_bit (set.testBit i)
    refine b_X3_bring_17 _ _ _ _ ?_
    rw [h'.2.1, shr_bit (by omega) (by omega), b1, nI_1, nI_clamp (by omega), j5, j6, nI_clamp (by omega)]
    refine ⟨fun z => absurd z (nI_ge hi (by omega)), fun _ => ⟨fun c => hg m' ⟨q1, fun x hx => by rw [q2 x hx, brI_skip c]⟩, fun c => ⟨vp_in_nI (by omega) (by omega), fun z => absurd z (nI_pos (by omega)), fun _ => ⟨vp_in_nI (by omega) (by omega), fun z => absurd z (nI_ge (a := j) (b := 16) (by omega) (by omega)), fun _ => ⟨vp_in_nI (by omega) (by omega), vp_in_nI (by omega) (by omega), vp_in_nI (by omega) (by omega), hg _ ⟨q1.w _ _, fun x hx => ?_⟩⟩⟩⟩⟩⟩
    have c' : set.testBit i = true := by simpa using c
    rw [wI_k]
    by_cases e : x = j
    · subst e
      rw [pk_us, brI_on j2 j3 c']
    · rw [pk_un e, q2 x hx, brI_off]
      rintro ⟨y1, y2⟩
      exact e (by rw [← unH_at hx y1, y2, j4])
  · rw [wR_k, cpy_lt hj, brI_0]
    exact hh j hj
theorem fewestFrom_ok {m : MM} {k set C N : Nat} {g : Nat → Nat} (hk : k ≤ 8) (hN : N = 2 ^ k) (hs : set < N) (hC : C ≤ 9) (hg : ∀ x, g x ≤ 1000) (hr : ∀ x, set < x → x < N → m.1 90 x = nI (g x)) :
    Runs e_X3_fewestFrom [.ref 86, .int (nI set), .int (nI (N - 1)), .int (nI C)] m (fun r m' => r = .int (nI (min 1000 (lfN C g set (N - 1 - set)))) ∧ m' = m) := by
  have hp : 2 ^ k ≤ 256 := Nat.pow_le_pow_right (n := 2) (by decide) hk
  apply b_X3_fewestFrom
  rw [nI_1]
  refine for_up (Y := e_X3_fewestFrom) (pc := 10) (fun j => [(0, .ref 86), (1, .int (nI set)), (2, .int (nI (N - 1))), (3, .int (nI C)), (4, .int (nI (lfN C g set j))), (5, .int (nI (set + 1 + j)))]) (fun j m' => m' = m) (N - 1 - set) ?_ ?_ 0 m (by omega) rfl
  · rintro m' rfl
    have := lf_top (C := C) (g := g) (set := set) (N - 1 - set)
    refine b_X3_fewestFrom_10 _ _ _ _ _ _ _ ⟨fun _ => ⟨?_, rfl⟩, fun z => absurd (nI_lt (by omega) (by omega)) z⟩
    rw [show (1000 : Int32) = nI 1000 from rfl, imin_nI (by omega) (by omega)]
  · rintro j m' hj rfl hgo
    have hgo := hgo m' rfl
    rw [lfN] at hgo
    have hl := lf_top (C := C) (g := g) (set := set) j
    have hgx := hg (set + 1 + j)
    have d1 := dif_le set (set + 1 + j)
    have d2 := dif_le (set + 1 + j) set
    have hx := hr (set + 1 + j) (by omega) (by omega)
    have hpop : popN (difN (set + 1 + j) set) ≤ 16 := fb_ct_le _ _
    refine b_X3_fewestFrom_10 _ _ _ _ _ _ _ ?_
    rw [dif_I, dif_I, bitCount_v m' (by omega), nI_clamp (by omega), hx, nI_1, nI_1, imin_nI (by omega) (by omega)]
    refine ⟨fun z => absurd z (nI_nlt (by omega) (by omega)), fun _ => ⟨fun c => ?_, fun c => ⟨fun c2 => ?_, fun c2 => ⟨vp_in_nI (by omega) (by omega), ?_⟩⟩⟩⟩
    · rw [if_neg (fun z => c (congrArg nI z.1))] at hgo
      exact hgo
    · rw [if_neg (fun z => absurd c2 (nI_nlt z.2 (by omega)))] at hgo
      exact hgo
    · rw [if_pos ⟨(nI_eq (b := 0) (by omega) (by omega)).mp c, by
        rcases Nat.lt_or_ge C (popN (difN (set + 1 + j) set)) with z | z
        · exact absurd (nI_lt z (by omega)) c2
        · exact z⟩] at hgo
      exact hgo
theorem search_ok {mm m0 : MM} {t s H O S Qn W C J F B U : Nat} (ht : isT t) (hs : isN s) (hb : BodyR mm.1 t s H O S Qn W C J F B) (hU : U < 2 ^ H) (hk : popN U ≤ 8) (h0 : Kq mm m0) :
    Runs e_X3_search [.ref 86, .ref t, .ref s, .int (nI U)] m0 (fun r m' => r = .null ∧ (NvX mm s U (dnV mm.1) m' ∧ ∀ x, x < 2 ^ popN U → m'.1 90 x = nI (tL (sfV mm.1 U (dnV mm.1) (hgV mm.1)) C (2 ^ popN U) (2 ^ popN U) x))) := by
  have hs' : s = 24 ∨ s = 114 := hs
  have ht' : t = 10 ∨ t = 100 := ht
  obtain ⟨z1, z2, z3, z4, z5, ⟨z6, z6'⟩, -⟩ := hb.sz
  obtain ⟨c1, c2, c3, c4, c5, c6, c7, -⟩ := hb.nc
  have hp : 2 ^ popN U ≤ 256 := Nat.pow_le_pow_right (n := 2) (by decide) hk
  have hp0 : 0 < 2 ^ popN U := Nat.two_pow_pos _
  have hU16 : U < 65536 := Nat.lt_of_lt_of_le hU (Nat.pow_le_pow_right (n := 2) (by decide) z1)
  have hct := ct_top hU z1
  have hhv : ∀ m, Kq mm m → ∀ j, j < 16 → m.1 (s + 1) j = nI (hgV mm.1 j) := fun m k j hj => by rw [k.s hs.s 1 (by omega)]; exact (hb.hgv hj).2.2
  obtain ⟨R0, hR0⟩ : ∃ R0, R0 = rchV (mm.1 162) (fun h => nI (hgV mm.1 h)) (tideV mm.1 12) (-1) (-1) := ⟨_, rfl⟩
  obtain ⟨sf, hsf⟩ : ∃ sf, sf = sfV mm.1 U (dnV mm.1) (hgV mm.1) := ⟨_, rfl⟩
  rw [← hsf]
  -- the sets, from all of them down
  have sets : ∀ m, NvX mm s U (dnV mm.1) m → G e_X3_search 113 [(0, .ref 86), (1, .ref t), (2, .ref s), (4, .int (tideV mm.1 12)), (5, .int (nI R0)), (6, .int (nI (2 ^ popN U - 1))), (7, .int (nI (2 ^ popN U - 1)))] [] m (fun r m' => r = .null ∧ (NvX mm s U (dnV mm.1) m' ∧ ∀ x, x < 2 ^ popN U → m'.1 90 x = nI (tL sf C (2 ^ popN U) (2 ^ popN U) x))) := by
    intro m hm
    generalize hN : 2 ^ popN U = N at *
    refine G_eq (L := [(0, .ref 86), (1, .ref t), (2, .ref s), (4, .int (tideV mm.1 12)), (5, .int (nI R0)), (6, .int (nI (N - 1))), (7, .int (nI (N - 0) - 1))]) ?_ ?_
    · rw [show N - 0 = (N - 1) + 1 by omega, nI_pred]
    refine for_up (Y := e_X3_search) (pc := 113) (fun d => [(0, .ref 86), (1, .ref t), (2, .ref s), (4, .int (tideV mm.1 12)), (5, .int (nI R0)), (6, .int (nI (N - 1))), (7, .int (nI (N - d) - 1))]) (fun d m' => NvX mm s U (dnV mm.1) m' ∧ ∀ x, N - d ≤ x → x < N → m'.1 90 x = nI (tL sf C N d x)) N ?_ ?_ 0 m (by omega) ⟨hm, fun x h1 h2 => absurd h1 (by omega)⟩
    · rintro m' ⟨q1, q2⟩
      exact b_X3_search_113 _ _ _ _ _ _ _ _ ht.at hs.s.at ⟨fun _ => ⟨rfl, q1, fun x hx => q2 x (by omega) hx⟩, fun z => absurd (by rw [Nat.sub_self]; decide) z⟩
    · rintro d m' hd ⟨q1, q2⟩ hg
      obtain ⟨set, hset⟩ : ∃ set, set = N - 1 - d := ⟨_, rfl⟩
      have e1 : nI (N - d) - 1 = nI set := by rw [show N - d = set + 1 by omega, nI_pred]
      have e2 : nI (N - (d + 1)) - 1 = nI set + (-1) := by rw [show N - (d + 1) = set by omega, Int32.sub_eq_add_neg]
      rw [e2] at hg
      rw [e1]
      have nxt : ∀ m2 v, NvX mm s U (dnV mm.1) m2 → (∀ x, m2.1 90 x = m'.1 90 x) → v = lvN sf C N (tL sf C N d) set → G e_X3_search 113 [(0, .ref 86), (1, .ref t), (2, .ref s), (4, .int (tideV mm.1 12)), (5, .int (nI R0)), (6, .int (nI (N - 1))), (7, .int (nI set + (-1)))] [] (wI m2 90 set (nI v)) (fun r m' => r = .null ∧ (NvX mm s U (dnV mm.1) m' ∧ ∀ x, x < N → m'.1 90 x = nI (tL sf C N N x))) := by
        intro m2 v a1 a2 a3
        refine hg _ ⟨a1.fr (Or.inr rfl) ((Fr1.rf 90 m2).w _ _), fun x h1 h2 => ?_⟩
        rw [wI_k, tL, ← hset]
        by_cases c : x = set
        · subst c
          rw [pk_us, if_pos rfl, a3]
        · rw [pk_un c, if_neg c, a2]
          exact q2 x (by omega) h2
      refine b_X3_search_113 _ _ _ _ _ _ _ _ ht.at hs.s.at ⟨fun z => absurd z (nI_pos (by omega)), fun _ => ?_⟩
      refine vcall (bring_ok (hv := hgV mm.1) hs.s hk (show set < 256 by omega) q1 (hhv m' q1.1)) ?_
      rintro m2 ⟨f2, r2⟩
      have h2 := q1.fr (Or.inl rfl) f2
      refine icall (reachB_ok (mm := mm) (hc := 88) (hv := fun h => nI (brV U set (dnV mm.1) (hgV mm.1) h)) (tide := tideV mm.1 12) ht rfl hb.townM hb.townC (fun h hh => ⟨_, brV_le (dnV_ok mm.1 h).1 (hb.hgv hh).1, rfl⟩) m2 h2.1 r2) ?_
      rintro m3 rfl
      have f90 : ∀ x, m3.1 90 x = m'.1 90 x := fun x => by rw [f2.2 90 (by decide)]
      have esf : sf set = decide ((nI R0 &&& (nI (rchV (mm.1 162) (fun h => nI (brV U set (dnV mm.1) (hgV mm.1) h)) (tideV mm.1 12) (-nI 1) (-nI 1)) ^^^ (-1))) = 0) := by rw [hsf, hR0]; rfl
      rw [nI_clamp (by omega)]
      refine ⟨fun c => ⟨vp_in_nI (by omega) (by omega), nxt m3 1000 h2 f90 ?_⟩, fun c => ⟨fun c2 => ?_, fun c2 => ⟨vp_in_nI (by omega) (by omega), nxt m3 0 h2 f90 ?_⟩⟩⟩
      · unfold lvN
        rw [if_pos (by rw [esf]; exact decide_eq_false c)]
      · have hne : ¬ set + 1 = N := fun z => c2 (by rw [show N - 1 = set by omega])
        rw [h2.1.t0 ht, c7]
        refine icall (fewestFrom_ok (m := m3) (k := popN U) (g := tL sf C N d) hk hN.symm (by omega) (by omega) (fun x => tL_top d x) (fun x h1 h2' => by rw [f90]; exact q2 x (by omega) h2')) ?_
        rintro m4 rfl
        refine ⟨vp_in_nI (by omega) (by omega), nxt m4 _ h2 f90 ?_⟩
        unfold lvN
        rw [if_neg (by rw [esf, decide_eq_true c]; decide), if_neg hne]
      · have he : set + 1 = N := by
          have := (nI_eq (a := set) (b := N - 1) (by omega) (by omega)).mp c2
          omega
        unfold lvN
        rw [if_neg (by rw [esf, decide_eq_true c]; decide), if_pos he]
  -- behind the finding of the houses
  have cont : ∀ m, NvX mm s U (dnV mm.1) m → ∃ Pm1 : Value → MM → Prop, Runs e_X8_tideAt [.ref t, .ref s, .int (12 : Int32)] m Pm1 ∧ ∀ (r1 : Int32) (m1 : MM), Pm1 (.int r1) m1 → (∃ Pm2 : Value → MM → Prop, Runs e_X8_reachedBits [.ref t, .ref (s + 1), .int r1] m1 Pm2 ∧ ∀ (r2 : Int32) (m2 : MM), Pm2 (.int r2) m2 → (G e_X3_search 113 [(0, .ref 86), (1, .ref t), (2, .ref s), (4, .int r1), (5, .int r2), (6, .int (((1 : Int32) <<< ((m2.1 86 4) &&& 31)) - (1 : Int32))), (7, .int (((1 : Int32) <<< ((m2.1 86 4) &&& 31)) - (1 : Int32)))] [] m2 (fun r m' => r = .null ∧ (NvX mm s U (dnV mm.1) m' ∧ ∀ x, x < 2 ^ popN U → m'.1 90 x = nI (tL sf C (2 ^ popN U) (2 ^ popN U) x))))) := by
    intro m hm
    have hbm := body_kq ht hs hm.1 hb
    refine icall (tideC_okE (mm := m) ht hs.s hbm.law0 hbm.mon 12 m (Kp.rf m)) ?_
    intro m1 k1
    rw [tideV_kq hm.1 12]
    have h1 := hm.ke k1
    refine icall (reachB_ok (mm := mm) (hc := s + 1) (hv := fun h => nI (hgV mm.1 h)) (tide := tideV mm.1 12) ht (AtState_1 hs.s.at) hb.townM hb.townC (fun h hh => ⟨_, (hb.hgv hh).1, rfl⟩) m1 h1.1 (hhv m1 h1.1)) ?_
    rintro m2 rfl
    have := sets m2 h1
    rw [h1.2.1, ib (popN U) (by omega), show (1 : Int32) = nI 1 from rfl, pk_sub (by omega)]
    rw [hR0] at this
    exact this
  refine b_X3_search _ _ _ _ _ ht.at hs.s.at ?_
  refine for_up (Y := e_X3_search) (pc := 8) (fun h => [(0, .ref 86), (1, .ref t), (2, .ref s), (3, .int (nI U)), (4, .int (nI h))]) (fun h m' => Kq mm m' ∧ m'.1 86 4 = nI (fb_ct U.testBit h) ∧ ∀ j, j < h → U.testBit j = true → m'.1 87 (fb_ct U.testBit j) = nI j ∧ m'.1 89 (fb_ct U.testBit j) = nI (dnV mm.1 j)) H ?_ ?_ 0 _ (by omega) ⟨h0.w _ rfl, by rw [wI_k, pk_us]; rfl, fun j hj => absurd hj (Nat.not_lt_zero _)⟩
  · rintro m' ⟨q1, q2, q3⟩
    refine b_X3_search_8 _ _ _ _ _ _ ht.at hs.s.at ?_
    rw [q1.t0 ht, c1]
    refine ⟨fun _ => cont m' ⟨q1, by rw [q2, hct], fun j hj e => ?_⟩, fun z => absurd (nI_le (Nat.le_refl _) (by omega)) z⟩
    refine q3 j ?_ e
    rcases Nat.lt_or_ge j H with c | c
    · exact c
    · rw [tb_lt (n := H) hU c] at e; cases e
  · rintro h m' hh ⟨q1, q2, q3⟩ hg
    have hle : fb_ct U.testBit h ≤ popN U := by rw [← hct]; exact ct_le (by omega)
    obtain ⟨b1, b2⟩ := one_bit (U.testBit h)
    refine b_X3_search_8 _ _ _ _ _ _ ht.at hs.s.at ?_
    rw [q1.t0 ht, c1, q2]
    refine ⟨fun z => absurd z (nI_ge hh (by omega)), fun _ => ⟨fun c8 => ?_, fun c8 => ?_⟩⟩
    · have e8 : fb_ct U.testBit h = 8 := by
        rcases Nat.lt_or_ge (fb_ct U.testBit h) 8 with z | z
        · exact absurd c8 (nI_ge (a := fb_ct U.testBit h) (b := 8) z (by omega))
        · omega
      refine cont m' ⟨q1, by rw [q2]; congr 1; omega, fun j hj e => ?_⟩
      refine q3 j ?_ e
      rcases Nat.lt_or_ge j h with c | c
      · exact c
      · exfalso
        have a1 := ct_le (U := U) c
        have a2 := ct_yes e
        have a3 := ct_le (U := U) (show j + 1 ≤ 16 by omega)
        have a4 : fb_ct U.testBit 16 ≤ 8 := hk
        omega
    · have c8' : fb_ct U.testBit h < 8 := by
        rcases Nat.lt_or_ge (fb_ct U.testBit h) 8 with z | z
        · exact z
        · exact absurd (nI_le (a := 8) z (by omega)) c8
      rw [shr_bit (by omega) (by omega), b1, nI_1, nI_clamp (by omega)]
      refine ⟨fun c => hg m' ⟨q1, by rw [q2, ct_no c], fun j hj e => ?_⟩, fun c => ⟨vp_in_nI (by omega) (by omega), ?_⟩⟩
      · by_cases cj : j = h
        · subst cj; rw [c] at e; cases e
        · exact q3 j (by omega) e
      · have c' : U.testBit h = true := by simpa using c
        have k1 : Kq mm (wI m' 87 (fb_ct U.testBit h) (nI h)) := q1.w _ rfl
        have hbm := body_kq ht hs k1 hb
        refine icall (dueC_okE (mm := wI m' 87 (fb_ct U.testBit h) (nI h)) ht hs.s hbm.law1 (hbm.hou h hh) _ (Kp.rf _)) ?_
        intro m1 k2
        have e4 : (wI m' 87 (fb_ct U.testBit h) (nI h)).1 86 4 = nI (fb_ct U.testBit h) := by rw [wI_o (by decide)]; exact q2
        have m4 : m1.1 86 4 = nI (fb_ct U.testBit h) := by rw [k2.g 86 4 rfl]; exact e4
        have em : dueV (wI m' 87 (fb_ct U.testBit h) (nI h)).1 h = nI (dnV mm.1 h) := by rw [dueV_kq k1 h]; exact (dnV_ok mm.1 h).2
        rw [e4, em, nI_clamp (by omega), wI_o (show (86 : Nat) ≠ 89 by decide), m4, nI_1]
        refine ⟨vp_in_nI (by omega) (by omega), hg _ ⟨((Ke.q k1 k2).w _ rfl).w _ rfl, by rw [wI_k, pk_us, ct_yes c'], fun j hj e => ?_⟩⟩
        rw [wI_o (show (87 : Nat) ≠ 86 by decide), wI_o (show (87 : Nat) ≠ 89 by decide), wI_o (show (89 : Nat) ≠ 86 by decide), wI_k, k2.g 87 _ rfl, wI_k]
        by_cases cj : j = h
        · subst cj
          rw [pk_us, pk_us]; exact ⟨rfl, rfl⟩
        · have a2 := ct_yes e
          have a1 := ct_le (U := U) (show j + 1 ≤ h by omega)
          rw [pk_un (by omega), pk_un (by omega), k2.g 89 _ rfl, wI_o (by decide)]
          exact q3 j (by omega) e
theorem houseBits_ok {mm m : MM} {s U set : Nat} {dv : Nat → Nat} (hk : popN U ≤ 8) (hset : set < 256) (h : NvX mm s U dv m) : Runs e_X3_houseBits [.ref 86, .int (nI set)] m (fun r m' => r = .int (nI (hbN U set (popN U))) ∧ m' = m) := by
  apply b_X3_houseBits
  refine for_up (Y := e_X3_houseBits) (pc := 4) (fun i => [(0, .ref 86), (1, .int (nI set)), (2, .int (nI (hbN U set i))), (3, .int (nI i))]) (fun i m' => m' = m) (popN U) ?_ ?_ 0 m (by omega) rfl
  · rintro m' rfl
    refine b_X3_houseBits_4 _ _ _ _ _ ?_
    rw [h.2.1]
    exact ⟨fun _ => ⟨rfl, rfl⟩, fun z => absurd (nI_le (Nat.le_refl _) (by omega)) z⟩
  · rintro i m' hi rfl hg
    have hg := hg m' rfl
    rw [hbN] at hg
    obtain ⟨j, j1, j2, j3, j4, j5, j6⟩ := kth_at h hi
    obtain ⟨b1, b2⟩ := one_bit (set.testBit i)
    refine b_X3_houseBits_4 _ _ _ _ _ ?_
    rw [h.2.1, shr_bit (by omega) (by omega), b1, nI_1, nI_clamp (by omega), j5, ib j (by omega), fa_or]
    refine ⟨fun z => absurd z (nI_ge hi (by omega)), fun _ => ⟨fun c => ?_, fun c => ⟨vp_in_nI (by omega) (by omega), ?_⟩⟩⟩
    · rw [if_neg (by rw [c]; decide)] at hg
      exact hg
    · rw [if_pos (by simpa using c), j4] at hg
      exact hg
theorem firstX_ok {mm m : MM} {s U C : Nat} {dv : Nat → Nat} {sf : Nat → Bool} {gL gM : Nat → Nat} (hk : popN U ≤ 8) (hC : C ≤ 9) (h : NvX mm s U dv m) (hr : ∀ x, x < 2 ^ popN U → m.1 90 x = nI (gL x)) (hrel : ∀ x, x < 2 ^ popN U → Rn sf x (gL x) (gM x)) (hgL : ∀ x, gL x ≤ 1000) (h0 : gL 0 < 1000) (h00 : gL 0 = gM 0) :
    Runs e_X3_firstNight [.ref 86, .int (nI C)] m (fun r m' => r = .int (nI (hbN U (fnN sf C gM (2 ^ popN U - 1)) (popN U))) ∧ m' = m) := by
  have hp : 2 ^ popN U ≤ 256 := Nat.pow_le_pow_right (n := 2) (by decide) hk
  have hp0 : 0 < 2 ^ popN U := Nat.two_pow_pos _
  apply b_X3_firstNight
  refine for_up (Y := e_X3_firstNight) (pc := 8) (fun j => [(0, .ref 86), (1, .int (nI C)), (2, .int (nI (fnN sf C gM j))), (3, .int (nI (if fnN sf C gM j = 0 then 9 else popN (fnN sf C gM j)))), (4, .int (nI (j + 1)))]) (fun j m' => m' = m) (2 ^ popN U - 1) ?_ ?_ 0 m (by omega) rfl
  · rintro m' rfl
    have hb := fn_lt (sf := sf) (C := C) (g := gM) (2 ^ popN U - 1)
    refine b_X3_firstNight_8 _ _ _ _ _ _ ?_
    rw [h.2.1, ib (popN U) (by omega)]
    refine ⟨fun _ => icall (houseBits_ok hk (by omega) h) ?_, fun z => absurd (nI_le (by omega) (by omega)) z⟩
    rintro m1 rfl
    exact ⟨rfl, rfl⟩
  · rintro j m' hj rfl hg
    have hg := hg m' rfl
    rw [fnN] at hg
    have hb := fn_lt (sf := sf) (C := C) (g := gM) j
    have hx := hr (j + 1) (by omega)
    have hx0 := hr 0 hp0
    have hrl := hrel (j + 1) (by omega)
    have hgx := hgL (j + 1)
    have hpop : popN (j + 1) ≤ 8 := by
      have e := ct_top (U := j + 1) (H := 8) (show j + 1 < 2 ^ 8 by omega) (by omega)
      rw [← e]; exact fb_ct_le _ _
    have hpop2 : popN (fnN sf C gM j) ≤ 16 := fb_ct_le _ _
    have key : (gL (j + 1) + 1 = gL 0) ↔ (sf (j + 1) = true ∧ gM (j + 1) + 1 = gM 0) := by
      unfold Rn at hrl
      by_cases c : sf (j + 1) = true
      · rw [if_pos c] at hrl
        constructor
        · intro z; exact ⟨c, by omega⟩
        · rintro ⟨-, z⟩; omega
      · rw [if_neg c] at hrl
        constructor
        · intro z; omega
        · rintro ⟨z, -⟩; exact absurd z c
    generalize hbest : fnN sf C gM j = best at *
    refine b_X3_firstNight_8 _ _ _ _ _ _ ?_
    rw [h.2.1, ib (popN U) (by omega), bitCount_v m' (by omega), nI_clamp (by omega), hx, hx0, nI_1, nI_1]
    refine ⟨fun z => absurd z (nI_ge (by omega) (by omega)), fun _ => ⟨fun z => absurd z (nI_ge (a := j + 1) (b := 256) (by omega) (by omega)), fun _ => ⟨fun c => ?_, fun c => ⟨fun c2 => ?_, fun c2 => ⟨vp_in_nI (by omega) (by omega), fun c3 => ?_, fun c3 => ?_⟩⟩⟩⟩⟩
    · rw [if_neg (fun z => absurd c (nI_nlt z.1 (by omega)))] at hg
      exact hg
    · rw [if_neg] at hg
      · exact hg
      · rintro ⟨y1, y2, y3, y4⟩
        by_cases cb : best = 0
        · rw [if_pos cb] at c2
          exact absurd c2 (nI_ge (a := popN (j + 1)) (b := 9) (by omega) (by omega))
        · rw [if_neg cb] at c2
          rcases y4 with y4 | y4
          · exact cb y4
          · exact absurd c2 (nI_ge y4 (by omega))
    · rw [if_neg (fun z => c3 (congrArg nI (key.mpr ⟨z.2.1, z.2.2.1⟩)))] at hg
      exact hg
    · obtain ⟨y1, y2⟩ := key.mp ((nI_eq (by omega) (by omega)).mp c3)
      have hcond : popN (j + 1) ≤ C ∧ sf (j + 1) = true ∧ gM (j + 1) + 1 = gM 0 ∧ (best = 0 ∨ popN (j + 1) < popN best) := by
        refine ⟨?_, y1, y2, ?_⟩
        · rcases Nat.lt_or_ge C (popN (j + 1)) with z | z
          · exact absurd (nI_lt z (by omega)) c
          · exact z
        · by_cases cb : best = 0
          · exact Or.inl cb
          · rw [if_neg cb] at c2
            refine Or.inr ?_
            rcases Nat.lt_or_ge (popN (j + 1)) (popN best) with z | z
            · exact z
            · exact absurd (nI_le z (by omega)) c2
      rw [if_pos hcond, if_neg (Nat.succ_ne_zero j)] at hg
      exact hg

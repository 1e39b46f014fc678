/-! cut, worst, law, house, holder, place, wood, sway -/
noncomputable def cutV (c : Nat → Nat → Int32) (hr : Int32) (b : Bool) (w : Nat) : Nat :=
  bif b then popN (rchH c hr &&& (rchV (c 162) (fun h => c 163 (10 + h)) (tideV c hr) (nI w) (-nI 1) ^^^ 4294967295))
  else popN ((rchH c hr &&& (rchV (c 162) (fun h => c 163 (10 + h)) (tideV c hr) (-nI 1) (nI w) ^^^ 4294967295)) &&& (2 ^ w ^^^ 4294967295))
theorem and_all {x : Nat} (h : x < 65536) : x &&& 4294967295 = x := by
  have e : (4294967295 : Nat) = 2 ^ 32 - 1 := rfl
  rw [e, Nat.and_two_pow_sub_one_eq_mod]
  exact Nat.mod_eq_of_lt (by omega)
theorem cutC_ok {mm : MM} {t s : Nat} {a : Int32} (b : Bool) (w : Nat) (hw : w < 16) (ht : isT t) (hs : isS s) (hT : TownM (mm.1 162)) (hC : TownC mm.1 t) (hH : HgtM (fun h => mm.1 163 (10 + h))) (hh : ∀ h, h < 16 → mm.1 (s + 1) h = mm.1 163 (10 + h)) (m : MM) (hm : Kq mm m) :
    Runs e_X8_cutBy [.ref t, .int (nI w), .int (bI b), .ref (s + 1), .int (tideV mm.1 a)] m (fun r m' => r = .int (nI (cutV mm.1 a b w)) ∧ Kq mm m') := by
  have hh' : ∀ m, Kq mm m → ∀ h, h < 16 → m.1 (s + 1) h = (fun h => mm.1 163 (10 + h)) h := fun m k h h16 => by rw [k.s hs 1 (by omega)]; exact hh h h16
  have hsh := AtState_1 hs.at
  have hR : rchH mm.1 a < 65536 := rch_lt _ _ _ _ hT
  apply b_X8_cutBy _ _ _ _ _ _ _ ht.at hsh
  refine icall (reachB_ok ht hsh hT hC hH m hm (hh' m hm)) ?_
  rintro m1 rfl
  cases b with
  | false =>
    refine ⟨fun _ => ?_, fun z => absurd rfl z⟩
    refine icall (reachC_ok ht hsh hT hC hH (Or.inr ⟨w, hw, rfl⟩) m1 hm (hh' m1 hm)) ?_
    rintro m2 rfl
    refine ⟨?_, hm⟩
    show Value.int (v_J6_bitCount_0f7a4 m2 ((nI (rchH mm.1 a) &&& (nI (rchV (mm.1 162) (fun h => mm.1 163 (10 + h)) (tideV mm.1 a) (-nI 1) (nI w)) ^^^ -1)) &&& (v_X8_bitOf m2 (nI w) ^^^ -1))) = _
    rw [bitOf_v m2 hw, m1_nI, nx_xor, nx_xor, fa_and, fa_and, bitCount_v]
    · rfl
    · exact Nat.lt_of_le_of_lt (Nat.le_trans Nat.and_le_left Nat.and_le_left) hR
  | true =>
    refine ⟨fun z => absurd (show (1 : Int32) = 0 from z) (by decide), fun _ => ?_⟩
    refine icall (reachC_ok ht hsh hT hC hH (Or.inl rfl) m1 hm (hh' m1 hm)) ?_
    rintro m2 rfl
    refine ⟨?_, hm⟩
    show Value.int (v_J6_bitCount_0f7a4 m2 (nI (rchH mm.1 a) &&& (nI (rchV (mm.1 162) (fun h => mm.1 163 (10 + h)) (tideV mm.1 a) (nI w) (-nI 1)) ^^^ -1))) = _
    rw [m1_nI, nx_xor, fa_and, bitCount_v]
    · rfl
    · exact Nat.lt_of_le_of_lt Nat.and_le_left hR
theorem cutM_ok {mm : MM} {a : Int32} (b : Bool) (w : Nat) (hw : w < 16) (hL : LawM mm.1 0) (hT : TownM (mm.1 162)) (hH : HgtM (fun h => mm.1 163 (10 + h))) (m : MM) (hm : Kq mm m) :
    Runs e_X12_cutOf [.ref 156, .int (nI w), .int (bI b), .int a] m (fun r m' => r = .int (nI (cutV mm.1 a b w)) ∧ Kq mm m') := by
  have hR : rchH mm.1 a < 65536 := rch_lt _ _ _ _ hT
  apply b_X12_cutOf
  refine icall (reach_ok (ns := -nI 1) (nh := -nI 1) hL rfl hT hH m hm) ?_
  rintro m1 ⟨k1, -⟩
  have e0 : rchV (mm.1 162) (fun h => mm.1 163 (10 + h)) (tideV mm.1 a) (-nI 1) (-nI 1) = rchH mm.1 a := rfl
  rw [e0]
  cases b with
  | false =>
    refine ⟨fun _ => ⟨fun _ => ?_, fun z => absurd rfl z⟩, fun z => absurd rfl z⟩
    refine icall (reach_ok (ns := -nI 1) (nh := nI w) hL rfl hT hH m1 k1) ?_
    rintro m2 ⟨k2, -⟩
    refine ⟨fun _ => ?_, fun z => absurd rfl z⟩
    rw [m1_nI, nx_xor, fa_and, ib w (by omega), nx_xor, fa_and]
    refine icall (bitsOf_ok (Nat.lt_of_le_of_lt (Nat.le_trans Nat.and_le_left Nat.and_le_left) hR) m2 k2) ?_
    intro m3 k3
    exact ⟨rfl, k3⟩
  | true =>
    refine ⟨fun z => absurd (show (1 : Int32) = 0 from z) (by decide), fun _ => ⟨fun z => absurd (show (1 : Int32) = 0 from z) (by decide), fun _ => ?_⟩⟩
    refine icall (reach_ok (ns := nI w) (nh := -nI 1) hL rfl hT hH m1 k1) ?_
    rintro m2 ⟨k2, -⟩
    refine ⟨fun z => absurd (show (1 : Int32) = 0 from z) (by decide), fun _ => ?_⟩
    have hlt : rchH mm.1 a &&& (rchV (mm.1 162) (fun h => mm.1 163 (10 + h)) (tideV mm.1 a) (nI w) (-nI 1) ^^^ 4294967295) < 65536 := Nat.lt_of_le_of_lt Nat.and_le_left hR
    rw [m1_nI, nx_xor, fa_and, fa_and, and_all hlt]
    refine icall (bitsOf_ok hlt m2 k2) ?_
    intro m3 k3
    exact ⟨rfl, k3⟩
theorem st_cut (a1 a3 : Int32) (b : Bool) : StepOK RR e_X11_cut e_X12_cut [.int a1, .int (bI b), .int a3] := by
  apply step_q
  rintro mm ⟨t, s, H, O, S, Qn, W, C, J, F, B, ht, hs, hr, hb, -⟩
  obtain ⟨z1, z2, z3, z4, z5, z6, z7, z8, z9⟩ := hb.sz
  obtain ⟨n1, n2, n3, n4, n5, n6, n7, n8, n9⟩ := hb.nm
  obtain ⟨c1, c2, c3, c4, c5, c6, c7, c8, c9, c10⟩ := hb.nc
  have rf := Kp.rf (kp := kq) mm
  obtain ⟨o1, o2⟩ := isH_X (a := a1) ht hr c1 z1
  obtain ⟨o3, o4⟩ := isSt_X (a := a1) ht hr c3 z3
  have hcC := fun (w : Nat) (hw : w < 16) => cutC_ok (a := a3) b w hw ht hs.s hb.townM hb.townC hb.hgt hb.hh
  have hcM := fun (w : Nat) (hw : w < 16) => cutM_ok (a := a3) b w hw hb.law0.m hb.townM hb.hgt
  have hM : ∃ N : Nat, N ≤ 16 ∧ (∀ m, Kq mm m → v_X12_manyOf m (bI b) = nI N) ∧ (inR a1 N ↔ (b = false ∧ inR a1 H) ∨ (b = true ∧ inR a1 S)) := by
    cases b with
    | false =>
      refine ⟨H, z1, fun m k => ?_, by simp⟩
      unfold v_X12_manyOf
      rw [cite_pos (by rfl), k.r162, n1]
    | true =>
      refine ⟨S, by omega, fun m k => ?_, by simp⟩
      unfold v_X12_manyOf
      rw [cite_neg (show ¬ bI true = 0 by decide), k.r162, n3]
  obtain ⟨N, hN, hmany, hiff⟩ := hM
  by_cases hin : inR a1 N
  · by_cases hin2 : inR a3 24
    · obtain ⟨w, hw, rfl⟩ := id hin
      refine ⟨.int (nI (cutV mm.1 a3 b w)), ?_, fun m k => ?_⟩
      · apply b_X11_cut
        rw [hr.1, hr.2.1]
        have hbody : (∃ Pm5 : Value → MM → Prop, Runs e_X8_tideAt [.ref t, .ref s, .int a3] mm Pm5 ∧ ∀ (r5 : Int32) (m5 : MM), Pm5 (.int r5) m5 → (∃ Pm6 : Value → MM → Prop, Runs e_X8_cutBy [.ref t, .int (nI w), .int (bI b), .ref (s + 1), .int r5] m5 Pm6 ∧ ∀ (r6 : Int32) (m6 : MM), Pm6 (.int r6) m6 → (Value.int r6 = .int (nI (cutV mm.1 a3 b w)) ∧ Kq mm m6))) := by
          refine icall (tideC_ok ht hs.s hb.law0 hb.mon a3 mm rf) fun m k => ?_
          exact icall (hcC w (by omega) m k) fun m k => ⟨rfl, k⟩
        rcases hiff.mp hin with ⟨eb, hi⟩ | ⟨eb, hi⟩
        · refine ⟨fun _ => ⟨o1, fun _ => ⟨fun _ => ⟨ht.at, hs.s.at, ht.at, hs.s.at, hbody⟩, fun z => absurd ((isHr_X _ _).mpr hin2) z⟩, fun z => absurd (o2.mpr hi) z⟩, fun z => absurd (by rw [eb]; rfl) z⟩
        · refine ⟨fun z => absurd z (by rw [eb]; decide), fun _ => ⟨o3, fun _ => ⟨fun _ => ⟨ht.at, hs.s.at, ht.at, hs.s.at, hbody⟩, fun z => absurd ((isHr_X _ _).mpr hin2) z⟩, fun z => absurd (o4.mpr hi) z⟩⟩
      · apply b_X12_cut
        rw [hmany m k]
        refine ⟨fun z => absurd z (nI_pos (by omega)), fun _ => ⟨fun z => absurd z (nI_ge hw (by omega)), fun _ => ⟨fun _ => ?_, fun z => absurd ((isHr_M _ _).mpr hin2) z⟩⟩⟩
        exact icall (hcM w (by omega) m k) fun m k => ⟨rfl, k⟩
    · refine ⟨.int (-1), ?_, fun m k => ?_⟩
      · have hno : ¬ p_X11_isHour mm a3 := fun z => hin2 ((isHr_X _ _).mp z)
        apply b_X11_cut
        rcases hiff.mp hin with ⟨eb, hi⟩ | ⟨eb, hi⟩
        · refine ⟨fun _ => ⟨o1, fun _ => ⟨fun z => absurd z hno, fun _ => ⟨rfl, rf⟩⟩, fun z => absurd (o2.mpr hi) z⟩, fun z => absurd (by rw [eb]; rfl) z⟩
        · refine ⟨fun z => absurd z (by rw [eb]; decide), fun _ => ⟨o3, fun _ => ⟨fun z => absurd z hno, fun _ => ⟨rfl, rf⟩⟩, fun z => absurd (o4.mpr hi) z⟩⟩
      · have hno : ¬ p_X12_isHour m a3 := fun z => hin2 ((isHr_M _ _).mp z)
        apply b_X12_cut
        exact ⟨fun _ => ⟨rfl, k⟩, fun _ => ⟨fun _ => ⟨rfl, k⟩, fun _ => ⟨fun z => absurd z hno, fun _ => ⟨rfl, k⟩⟩⟩⟩
  · refine ⟨.int (-1), ?_, fun m k => ?_⟩
    · apply b_X11_cut
      cases b with
      | false =>
        have hno : ¬ p_X11_isHouse mm a1 := fun z => hin (hiff.mpr (Or.inl ⟨rfl, o2.mp z⟩))
        exact ⟨fun _ => ⟨o1, fun z => absurd z hno, fun _ => ⟨rfl, rf⟩⟩, fun z => absurd rfl z⟩
      | true =>
        have hno : ¬ p_X11_isStair mm a1 := fun z => hin (hiff.mpr (Or.inr ⟨rfl, o4.mp z⟩))
        exact ⟨fun z => absurd (show (1 : Int32) = 0 from z) (by decide), fun _ => ⟨o3, fun z => absurd z hno, fun _ => ⟨rfl, rf⟩⟩⟩
    · apply b_X12_cut
      rw [hmany m k]
      exact ⟨fun _ => ⟨rfl, k⟩, fun h1 => ⟨fun _ => ⟨rfl, k⟩, fun h2 => absurd ((inR_iff (by omega)).mp ⟨h1, h2⟩) hin⟩⟩
/-- the best so far: the first with the most -/
def best (f : Nat → Nat) : Nat → Nat × Nat
  | 0 => (0, f 0)
  | k + 1 => if (best f k).2 < f (k + 1) then (k + 1, f (k + 1)) else best f k
theorem pop_le (n : Nat) : popN n ≤ 16 := fb_ct_le _ _
theorem cutV_le (c : Nat → Nat → Int32) (hr : Int32) (b : Bool) (w : Nat) : cutV c hr b w ≤ 16 := by
  unfold cutV
  cases b <;> exact pop_le _
theorem best_le {f : Nat → Nat} {M : Nat} (hf : ∀ k, f k ≤ M) : ∀ k, (best f k).1 ≤ k ∧ (best f k).2 ≤ M
  | 0 => ⟨Nat.le_refl _, hf 0⟩
  | k + 1 => by
    obtain ⟨a, b⟩ := best_le hf k
    unfold best
    split
    · exact ⟨Nat.le_refl _, hf _⟩
    · exact ⟨by omega, b⟩
theorem st_worst (a2 : Int32) (b : Bool) : StepOK RR e_X11_worst e_X12_worst [.int (bI b), .int a2] := by
  apply step_q
  rintro mm ⟨t, s, H, O, S, Qn, W, C, J, F, B, ht, hs, hr, hb, -⟩
  obtain ⟨z1, z2, z3, z4, z5, z6, z7, z8, z9⟩ := hb.sz
  obtain ⟨n1, n2, n3, n4, n5, n6, n7, n8, n9⟩ := hb.nm
  obtain ⟨c1, c2, c3, c4, c5, c6, c7, c8, c9, c10⟩ := hb.nc
  have rf := Kp.rf (kp := kq) mm
  have hcC := fun (w : Nat) (hw : w < 16) => cutC_ok (a := a2) b w hw ht hs.s hb.townM hb.townC hb.hgt hb.hh
  have hcM := fun (w : Nat) (hw : w < 16) => cutM_ok (a := a2) b w hw hb.law0.m hb.townM hb.hgt
  by_cases hin2 : inR a2 24
  · have hM : ∃ N : Nat, N ≤ 16 ∧ (∀ m, Kq mm m → v_X12_manyOf m (bI b) = nI N) ∧ (b = false → N = H) ∧ (b = true → N = S) := by
      cases b with
      | false =>
        refine ⟨H, z1, fun m k => ?_, fun _ => rfl, fun z => Bool.noConfusion z⟩
        unfold v_X12_manyOf
        rw [cite_pos (by rfl), k.r162, n1]
      | true =>
        refine ⟨S, by omega, fun m k => ?_, fun z => Bool.noConfusion z, fun _ => rfl⟩
        unfold v_X12_manyOf
        rw [cite_neg (show ¬ bI true = 0 by decide), k.r162, n3]
    obtain ⟨N, hN, hmany, eH, eS⟩ := hM
    have hle := best_le (f := cutV mm.1 a2 b) (cutV_le mm.1 a2 b)
    refine ⟨.int (if N = 0 then -nI 2 else nI (best (cutV mm.1 a2 b) (N - 1)).1), ?_, fun m k => ?_⟩
    · have hloop : ∀ m, Kq mm m → G e_X11_worst 55 [(0, .ref 0), (1, .int (bI b)), (3, .int (tideV mm.1 a2)), (4, .int (nI N)), (5, .int (-2 : Int32)), (6, .int (-1 : Int32)), (7, .int (0 : Int32))] [] m (fun r m' => r = .int (if N = 0 then -nI 2 else nI (best (cutV mm.1 a2 b) (N - 1)).1) ∧ Kq mm m') := by
        intro m k
        refine for_up (fun q => [(0, .ref 0), (1, .int (bI b)), (3, .int (tideV mm.1 a2)), (4, .int (nI N)), (5, .int (if q = 0 then -nI 2 else nI (best (cutV mm.1 a2 b) (q - 1)).1)), (6, .int (if q = 0 then -nI 1 else nI (best (cutV mm.1 a2 b) (q - 1)).2)), (7, .int (nI q))]) (fun q m => Kq mm m) N ?_ ?_ 0 _ (Nat.zero_le _) k
        · intro m k
          apply b_X11_worst_55
          exact ⟨fun _ => ⟨rfl, k⟩, fun z => absurd (nI_le (Nat.le_refl N) (by omega)) z⟩
        · intro q m hq k hn
          apply b_X11_worst_55
          rw [k.2, hr.1, hr.2.1]
          refine ⟨fun z => absurd z (nI_ge hq (by omega)), fun _ => ⟨ht.at, hs.s.at, icall (hcC q (by omega) m k) fun m k => ?_⟩⟩
          have hn2 := hn m k
          have hc := cutV_le mm.1 a2 b q
          match q, hn2, hc with
          | 0, hn2, hc =>
            refine ⟨fun z => absurd z (of_eq_false (s_nleF (b := 1) (Or.inr (by omega)) (by omega) (by omega))), fun _ => hn2⟩
          | q + 1, hn2, hc =>
            obtain ⟨l1, l2⟩ := hle q
            have e : best (cutV mm.1 a2 b) (q + 1) = if (best (cutV mm.1 a2 b) q).2 < cutV mm.1 a2 b (q + 1) then (q + 1, cutV mm.1 a2 b (q + 1)) else best (cutV mm.1 a2 b) q := rfl
            simp only [show ¬ q + 1 + 1 = 0 from by omega, if_false, show q + 1 + 1 - 1 = q + 1 from rfl, e] at hn2
            simp only [show ¬ q + 1 = 0 from by omega, if_false, show q + 1 - 1 = q from rfl]
            rw [nI_1 (q + 1)]
            by_cases c : (best (cutV mm.1 a2 b) q).2 < cutV mm.1 a2 b (q + 1)
            · rw [if_pos c] at hn2
              exact ⟨fun z => absurd z (nI_ge c (by omega)), fun _ => hn2⟩
            · rw [if_neg c] at hn2
              exact ⟨fun _ => hn2, fun z => absurd (nI_le (Nat.le_of_not_lt c) (by omega)) z⟩
      apply b_X11_worst
      rw [hr.1, hr.2.1]
      refine ⟨fun _ => ⟨ht.at, hs.s.at, icall (tideC_ok ht hs.s hb.law0 hb.mon a2 mm rf) fun m k => ?_⟩, fun z => absurd ((isHr_X _ _).mpr hin2) z⟩
      rw [k.2, hr.1, k.t0 ht, c1, c3]
      cases b with
      | false =>
        rw [eH rfl] at hloop
        rw [eH rfl]
        exact ⟨fun _ => ⟨ht.at, hloop m k⟩, fun z => absurd rfl z⟩
      | true =>
        rw [eS rfl] at hloop
        rw [eS rfl]
        exact ⟨fun z => absurd (show (1 : Int32) = 0 from z) (by decide), fun _ => ⟨ht.at, hloop m k⟩⟩
    · apply b_X12_worst
      refine ⟨fun _ => ?_, fun z => absurd ((isHr_M _ _).mpr hin2) z⟩
      refine for_up (fun q => [(0, .ref 156), (1, .int (bI b)), (2, .int a2), (3, .int (if q = 0 then -nI 2 else nI (best (cutV mm.1 a2 b) (q - 1)).1)), (4, .int (if q = 0 then 0 else nI (best (cutV mm.1 a2 b) (q - 1)).2)), (5, .int (nI q))]) (fun q m => Kq mm m) N ?_ ?_ 0 _ (Nat.zero_le _) k
      · intro m k
        apply b_X12_worst_18
        rw [hmany m k]
        exact ⟨fun _ => ⟨rfl, k⟩, fun z => absurd (nI_le (Nat.le_refl N) (by omega)) z⟩
      · intro q m hq k hn
        apply b_X12_worst_18
        rw [hmany m k]
        refine ⟨fun z => absurd z (nI_ge hq (by omega)), fun _ => icall (hcM q (by omega) m k) fun m k => ?_⟩
        have hn2 := hn m k
        have hc := cutV_le mm.1 a2 b q
        match q, hn2, hc with
        | 0, hn2, hc =>
          refine ⟨fun _ => hn2, fun z => absurd (show (-nI 2 : Int32) < 0 by decide) z⟩
        | q + 1, hn2, hc =>
          obtain ⟨l1, l2⟩ := hle q
          have e : best (cutV mm.1 a2 b) (q + 1) = if (best (cutV mm.1 a2 b) q).2 < cutV mm.1 a2 b (q + 1) then (q + 1, cutV mm.1 a2 b (q + 1)) else best (cutV mm.1 a2 b) q := rfl
          simp only [show ¬ q + 1 + 1 = 0 from by omega, if_false, show q + 1 + 1 - 1 = q + 1 from rfl, e] at hn2
          simp only [show ¬ q + 1 = 0 from by omega, if_false, show q + 1 - 1 = q from rfl]
          rw [nI_1 (q + 1)]
          by_cases c : (best (cutV mm.1 a2 b) q).2 < cutV mm.1 a2 b (q + 1)
          · rw [if_pos c] at hn2
            exact ⟨fun z => absurd z (nI_pos (by omega)), fun _ => ⟨fun _ => hn2, fun z => absurd (nI_lt c (by omega)) z⟩⟩
          · rw [if_neg c] at hn2
            exact ⟨fun z => absurd z (nI_pos (by omega)), fun _ => ⟨fun z => absurd z (nI_nlt (Nat.le_of_not_lt c) (by omega)), fun _ => hn2⟩⟩
  · refine ⟨.int (-1), ?_, fun m k => ?_⟩
    · apply b_X11_worst
      exact ⟨fun z => absurd ((isHr_X _ _).mp z) hin2, fun _ => ⟨rfl, rf⟩⟩
    · apply b_X12_worst
      exact ⟨fun z => absurd ((isHr_M _ _).mp z) hin2, fun _ => ⟨rfl, k⟩⟩

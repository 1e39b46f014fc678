/-! count, months, forget, year, clear, back -/
theorem st_count (a : Int32) : StepOK RR e_X11_count e_X12_count [.int a] := by
  apply step_q
  rintro mm ⟨t, s, H, O, S, Qn, W, C, J, F, B, ht, hs, hr, hb, hl⟩
  have rf := Kp.rf (kp := kq) mm
  obtain ⟨n1, n2, n3, n4, n5, n6, n7, n8, n9⟩ := hb.nm
  obtain ⟨c1, c2, c3, c4, c5, c6, c7, c8, c9, c10⟩ := hb.nc
  obtain ⟨k, nx, l1, l2, l3, l4, l5, l6⟩ := hl
  obtain ⟨mo, -, e1, e2⟩ := hb.2.1.1
  obtain ⟨wn, -, e3, e4, -⟩ := hb.2.1.2.2.2.2.2.1
  obtain ⟨ln, -, e5, e6, -⟩ := hb.2.1.2.2.2.2.2.2
  obtain ⟨rn, -, e7, e8, -⟩ := hb.2.2.2.2.1
  obtain ⟨tn, -, e9, e10, -⟩ := hb.2.2.2.2.2.1
  have s0 : mm.1 99 0 = mm.1 174 1 := by rcases hb.2.2.1 with ⟨a, b⟩ | ⟨a, b, -⟩ <;> exact a.trans b.symm
  have s1 : mm.1 99 1 = mm.1 174 2 := by rcases hb.2.2.2.1 with ⟨a, b⟩ | ⟨a, b, -⟩ <;> exact a.trans b.symm
  have e1 : mm.1 163 0 = nI mo := e1
  have e3 : mm.1 163 1 = nI wn := e3
  have e5 : mm.1 163 2 = nI ln := e5
  refine ⟨.int (v_X12_count mm a), ?_, fun m k => ?_⟩
  · refine runs_to (rv_X11_count mm a ?_) ?_
    · unfold o_X11_count
      rw [hr.1, hr.2.1]
      simp only [ht.at, hs.s.at, implies_true, and_true, true_and]
    · rintro r m ⟨rfl, rfl⟩
      refine ⟨?_, rf⟩
      unfold v_X11_count v_X12_count
      rw [hr.1, hr.2.1, c1, c2, c3, c4, c6, c7, c8, c9, c10, e2, e4, e6, l3, e8, e9, n1, n2, n3, n4, n5, n6, n7, n8, n9, e1, e3, e5, l5, e7, e10, s0, s1]
  · refine runs_to (rv_X12_count m a) ?_
    rintro r m' ⟨rfl, rfl⟩
    refine ⟨?_, k⟩
    unfold v_X12_count
    rw [k.r162, k.r163, k.r174, k.g 156 40 rfl, k.g 156 0 rfl, k.g 156 50 rfl]
theorem in240 (m : MM) (a : Int32) : p_X11_within m a 0 240 ↔ inR a 241 := inR_iff' (n := 240) (by omega)
theorem in240M (m : MM) (a : Int32) : p_X12_isIn m a 0 240 ↔ inR a 241 := inR_iff' (n := 240) (by omega)
theorem st_months (a : Int32) : StepOK RR e_X11_months e_X12_months [.int a] := by
  by_cases hin : inR a 241
  · apply step_c
    rintro mm ⟨t, s, H, O, S, Qn, W, C, J, F, B, ht, hs, hr, hb, hl⟩
    obtain ⟨z1, z2, z3, z4, z5, z6, z7, z8, z9⟩ := hb.sz
    obtain ⟨n1, n2, n3, n4, n5, n6, n7, n8, n9⟩ := hb.nm
    obtain ⟨c1, c2, c3, c4, c5, c6, c7, c8, c9, c10⟩ := hb.nc
    have rf := Kp.rf (kp := kq) mm
    have hs' : s = 24 ∨ s = 114 := hs
    have ht' : t = 10 ∨ t = 100 := ht
    obtain ⟨n, hn, rfl⟩ := id hin
    obtain ⟨mo, hmo, e1, e2⟩ := hb.2.1.1
    have e1 : mm.1 163 0 = nI mo := e1
    have hmod : (nI mo + nI n) - (nI mo + nI n) / (12 : Int32) * (12 : Int32) = nI ((mo + n) % 12) := by
      rw [nI_add]
      exact pk_rem (a := mo + n) (d := 12) (by omega) (by omega) (by omega)
    refine ⟨.int (nI ((mo + n) % 12)), wI mm s 8 (nI ((mo + n) % 12)), wI (wI mm s 8 (nI ((mo + n) % 12))) 163 0 (nI ((mo + n) % 12)), ?_, fun m k => ?_, ?_⟩
    · apply b_X11_months
      rw [hr.2.1, e2, hmod]
      simp only [true_implies, false_implies, not_true, not_false_eq_true, not_false, implies_true, and_true, true_and, not_true_eq_false, forall_const, eq_self, in240, hin]
      exact ⟨hs.s.at, hs.s.at, hs.s.at, by rw [wI_k, pk_us], Kp.rf _⟩
    · have em : m.1 163 0 = nI mo := by rw [k.g 163 0 rfl, wI_o (show 163 ≠ s by omega)]; exact e1
      apply b_X12_months
      rw [em, hmod]
      simp only [true_implies, false_implies, not_true, not_false_eq_true, not_false, implies_true, and_true, true_and, not_true_eq_false, forall_const, eq_self, in240M, hin]
      exact ⟨by rw [wI_k, pk_us], k.bI _ _ _⟩
    · have f : ∀ a, a ≠ s → a ≠ 163 → (wI (wI mm s 8 (nI ((mo + n) % 12))) 163 0 (nI ((mo + n) % 12))).1 a = mm.1 a := fun a h1 h2 => by rw [wI_o h2, wI_o h1]
      have g : ∀ j, j ≠ 0 → (wI (wI mm s 8 (nI ((mo + n) % 12))) 163 0 (nI ((mo + n) % 12))).1 163 j = mm.1 163 j := fun j hj => by rw [wI_k, pk_un hj, wI_o (by omega)]
      have g0 : ∀ j, j ≠ 8 → (wI (wI mm s 8 (nI ((mo + n) % 12))) 163 0 (nI ((mo + n) % 12))).1 s j = mm.1 s j := fun j hj => by rw [wI_o (by omega), wI_k, pk_un hj]
      obtain ⟨w1, w2, w3, w4, w5, w6, w7⟩ := hb.2.1
      refine RR_live ht hs hr hb hl rfl (fun a _ _ => f a (by omega) (by omega)) (fun j _ => g _ (by omega)) ⟨⟨(mo + n) % 12, Nat.mod_lt _ (by decide), ?_, ?_⟩, lvH (f _ (by omega) (by omega)) (fun j _ _ => g _ (by omega)) w2, lvO (f _ (by omega) (by omega)) (fun j _ _ => g _ (by omega)) w3, lvD (fun j _ _ => g _ (by omega)) w4, lvW z5 (f _ (by omega) (by omega)) (fun j _ _ => g _ (by omega)) w5, lvK (g0 7 (by omega)) (fun i _ => ⟨by rw [f _ (by omega) (by omega)], by rw [f _ (by omega) (by omega)], by rw [f _ (by omega) (by omega)]⟩) (fun j _ => g _ (by omega)) w6, lvL (by rw [f _ (by omega) (by omega)]) (fun i _ => ⟨by rw [f _ (by omega) (by omega)], by rw [f _ (by omega) (by omega)], by rw [f _ (by omega) (by omega)], by rw [f _ (by omega) (by omega)]⟩) (fun j _ => g _ (by omega)) w7⟩
      · rw [wI_k]; exact pk_us
      · rw [wI_o (by omega), wI_k]; exact pk_us
  · apply step_q
    rintro mm ⟨t, s, H, O, S, Qn, W, C, J, F, B, ht, hs, hr, hb, -⟩
    obtain ⟨z1, z2, z3, z4, z5, z6, z7, z8, z9⟩ := hb.sz
    obtain ⟨n1, n2, n3, n4, n5, n6, n7, n8, n9⟩ := hb.nm
    obtain ⟨c1, c2, c3, c4, c5, c6, c7, c8, c9, c10⟩ := hb.nc
    have rf := Kp.rf (kp := kq) mm
    refine ⟨.int (-1), ?_, fun m k => ?_⟩
    · apply b_X11_months
      simp only [true_implies, false_implies, not_true, not_false_eq_true, not_false, implies_true, and_true, true_and, not_true_eq_false, forall_const, eq_self, in240, hin]
      exact rf
    · apply b_X12_months
      simp only [true_implies, false_implies, not_true, not_false_eq_true, not_false, implies_true, and_true, true_and, not_true_eq_false, forall_const, eq_self, in240M, hin]
      exact k
theorem st_forget : StepOK RR e_X11_forget e_X12_forget [] := by
  apply step_c
  rintro mm ⟨t, s, H, O, S, Qn, W, C, J, F, B, ht, hs, hr, hb, hl⟩
  obtain ⟨z1, z2, z3, z4, z5, z6, z7, z8, z9⟩ := hb.sz
  obtain ⟨n1, n2, n3, n4, n5, n6, n7, n8, n9⟩ := hb.nm
  obtain ⟨c1, c2, c3, c4, c5, c6, c7, c8, c9, c10⟩ := hb.nc
  have rf := Kp.rf (kp := kq) mm
  have hs' : s = 24 ∨ s = 114 := hs
  have ht' : t = 10 ∨ t = 100 := ht
  obtain ⟨n, hn, e1, e2, -⟩ := hb.2.1.2.2.2.2.2.1
  have e1 : mm.1 163 1 = nI n := e1
  refine ⟨.int (nI n), wI mm s 7 0, wI (wI mm s 7 0) 163 1 0, ?_, fun m k => ?_, ?_⟩
  · apply b_X11_forget
    rw [hr.2.1, e2]
    exact ⟨hs.s.at, hs.s.at, rfl, Kp.rf _⟩
  · have em : m.1 163 1 = nI n := by rw [k.g 163 1 rfl, wI_o (show 163 ≠ s by omega)]; exact e1
    apply b_X12_forget
    rw [em]
    exact ⟨rfl, k.bI _ _ _⟩
  · have f : ∀ a, a ≠ s → a ≠ 163 → (wI (wI mm s 7 0) 163 1 0).1 a = mm.1 a := fun a h1 h2 => by rw [wI_o h2, wI_o h1]
    have g : ∀ j, j ≠ 1 → (wI (wI mm s 7 0) 163 1 0).1 163 j = mm.1 163 j := fun j hj => by rw [wI_k, pk_un hj, wI_o (by omega)]
    have g0 : ∀ j, j ≠ 7 → (wI (wI mm s 7 0) 163 1 0).1 s j = mm.1 s j := fun j hj => by rw [wI_o (by omega), wI_k, pk_un hj]
    obtain ⟨w1, w2, w3, w4, w5, w6, w7⟩ := hb.2.1
    refine RR_live ht hs hr hb hl rfl (fun a _ _ => f a (by omega) (by omega)) (fun j _ => g _ (by omega)) ⟨lvM (g0 8 (by omega)) (g _ (by omega)) w1, lvH (f _ (by omega) (by omega)) (fun j _ _ => g _ (by omega)) w2, lvO (f _ (by omega) (by omega)) (fun j _ _ => g _ (by omega)) w3, lvD (fun j _ _ => g _ (by omega)) w4, lvW z5 (f _ (by omega) (by omega)) (fun j _ _ => g _ (by omega)) w5, ⟨0, by omega, ?_, ?_, fun i hi => absurd hi (Nat.not_lt_zero _)⟩, lvL (by rw [f _ (by omega) (by omega)]) (fun i _ => ⟨by rw [f _ (by omega) (by omega)], by rw [f _ (by omega) (by omega)], by rw [f _ (by omega) (by omega)], by rw [f _ (by omega) (by omega)]⟩) (fun j _ => g _ (by omega)) w7⟩
    · rw [wI_k]; exact pk_us
    · rw [wI_o (by omega), wI_k]; exact pk_us
theorem st_clear : StepOK RR e_X11_clear e_X12_clear [] := by
  apply step_c
  rintro mm ⟨t, s, H, O, S, Qn, W, C, J, F, B, ht, hs, hr, hb, hl⟩
  obtain ⟨z1, z2, z3, z4, z5, z6, z7, z8, z9⟩ := hb.sz
  obtain ⟨n1, n2, n3, n4, n5, n6, n7, n8, n9⟩ := hb.nm
  obtain ⟨c1, c2, c3, c4, c5, c6, c7, c8, c9, c10⟩ := hb.nc
  have rf := Kp.rf (kp := kq) mm
  have hs' : s = 24 ∨ s = 114 := hs
  have ht' : t = 10 ∨ t = 100 := ht
  obtain ⟨n, hn, e1, e2, e3⟩ := hb.2.2.2.2.1
  refine ⟨.int (nI n), wI mm 95 2 0, wI (wI mm 95 2 0) 156 50 0, ?_, fun m k => ?_, ?_⟩
  · apply b_X11_clear
    rw [e1]
    exact ⟨rfl, Kp.rf _⟩
  · have em : m.1 156 50 = nI n := by rw [k.g 156 50 rfl, wI_o (by decide)]; exact e2
    apply b_X12_clear
    rw [em]
    exact ⟨rfl, k.bI _ _ _⟩
  · have f : ∀ a, a ≠ 95 → a ≠ 156 → (wI (wI mm 95 2 0) 156 50 0).1 a = mm.1 a := fun a h1 h2 => by rw [wI_o h2, wI_o h1]
    have g : ∀ j, j ≠ 50 → (wI (wI mm 95 2 0) 156 50 0).1 156 j = mm.1 156 j := fun j hj => by rw [wI_k, pk_un hj, wI_o (by omega)]
    refine RR_out ht hs hr hb (lot_fr z5 (by rw [f _ (by omega) (by omega)]) (by rw [f _ (by omega) (by omega)]) (g _ (by omega)) (fun j _ => by rw [f _ (by omega) (by omega)]) (fun j _ => f _ (by omega) (by omega)) (fun j _ => f _ (by omega) (by omega)) hl) rfl (fun a _ _ h1 _ _ h2 _ _ => f a h2 h1) ⟨0, by omega, ?_, ?_, fun i hi => absurd hi (Nat.not_lt_zero _)⟩ (tape_fr (by rw [f _ (by omega) (by omega)]) (g _ (by omega)) (f _ (by omega) (by omega)) (f _ (by omega) (by omega)) hb.2.2.2.2.2.1) (g _ (by omega))
    · rw [wI_o (by decide), wI_k]; exact pk_us
    · rw [wI_k]; exact pk_us
theorem st_year (a : Int32) : StepOK RR e_X11_year e_X12_year [.int a] := by
  by_cases hin : inR a 100
  · show StepOK _ _ _ _
    unfold StepOK
    rintro mm ⟨t, s, H, O, S, Qn, W, C, J, F, B, ht, hs, hr, hb, hl⟩
    obtain ⟨z1, z2, z3, z4, z5, z6, z7, z8, z9⟩ := hb.sz
    obtain ⟨n1, n2, n3, n4, n5, n6, n7, n8, n9⟩ := hb.nm
    obtain ⟨c1, c2, c3, c4, c5, c6, c7, c8, c9, c10⟩ := hb.nc
    have rf := Kp.rf (kp := kq) mm
    have hs' : s = 24 ∨ s = 114 := hs
    have ht' : t = 10 ∨ t = 100 := ht
    obtain ⟨d, hd, rfl⟩ := id hin
    obtain ⟨n, hn, e1, e2, e3⟩ := hb.2.2.2.2.1
    by_cases h12 : n = 12
    · subst h12
      refine ⟨fun r m => r = .int (-1) ∧ Kq mm m, ?_, ?_⟩
      · apply b_X11_year
        simp only [true_implies, false_implies, not_true, not_false_eq_true, not_false, implies_true, and_true, true_and, not_true_eq_false, forall_const, eq_self, w99_X, hin]
        refine icall (V := -1) (K := fun m => Kq mm m) ?_ fun m k => ⟨rfl, k⟩
        apply b_X5_add
        rw [e1]
        exact ⟨fun z => absurd z (by decide), fun _ => ⟨fun z => absurd z (by decide), fun _ => ⟨rfl, rf⟩⟩⟩
      · rintro r m ⟨rfl, k⟩
        refine ⟨fun r m => r = .int (-1) ∧ Kq mm m, ?_, ?_⟩
        · apply b_X12_year
          rw [k.g 156 50 rfl, e2]
          exact ⟨fun _ => ⟨rfl, k⟩, fun z => absurd rfl z⟩
        · rintro r m ⟨rfl, k⟩
          exact ⟨rfl, RR_kq ⟨t, s, H, O, S, Qn, W, C, J, F, B, ht, hs, hr, hb, hl⟩ k⟩
    · refine ⟨fun r m => r = .int (nI (n + 1)) ∧ Kq (wI (wI mm 96 n (nI d)) 95 2 (nI (n + 1))) m, ?_, ?_⟩
      · apply b_X11_year
        simp only [true_implies, false_implies, not_true, not_false_eq_true, not_false, implies_true, and_true, true_and, not_true_eq_false, forall_const, eq_self, w99_X, hin]
        refine icall (V := nI (n + 1)) (K := fun m => Kq (wI (wI mm 96 n (nI d)) 95 2 (nI (n + 1))) m) ?_ fun m k => ⟨rfl, k⟩
        apply b_X5_add
        rw [e1]
        refine ⟨fun z => absurd z (nI_pos (by omega)), fun _ => ⟨fun _ => ⟨vp_in_nI (by omega) (by omega), ?_⟩, fun z => absurd (show nI n < (12 : Int32) from nI_lt (b := 12) (by omega) (by omega)) z⟩⟩
        rw [nI_clamp (by omega), wI_o (show 95 ≠ 96 by decide), e1, nI_1]
        exact ⟨by rw [wI_k, pk_us], Kp.rf _⟩
      · rintro r m ⟨rfl, k⟩
        refine ⟨fun r m => r = .int (nI (n + 1)) ∧ Kq (wI (wI (wI (wI mm 96 n (nI d)) 95 2 (nI (n + 1))) 189 n (nI d)) 156 50 (nI (n + 1))) m, ?_, ?_⟩
        · have em : m.1 156 50 = nI n := by rw [k.g 156 50 rfl, wI_o (by decide), wI_o (by decide)]; exact e2
          apply b_X12_year
          rw [em]
          refine ⟨fun z => absurd ((nI_eq (b := 12) (by omega) (by omega)).mp z) h12, fun _ => ⟨fun _ => ⟨vp_in_nI (by omega) (by omega), ?_⟩, fun z => absurd ((isIn_M _ _).mpr hin) z⟩⟩
          rw [nI_clamp (by omega), wI_o (show 156 ≠ 189 by decide), em, nI_1]
          exact ⟨by rw [wI_k, pk_us], (k.bI _ _ _).bI _ _ _⟩
        · rintro r m2 ⟨rfl, k2⟩
          refine ⟨rfl, RR_kq ?_ k2⟩
          have f : ∀ a, a ≠ 95 → a ≠ 156 → a ≠ 96 → a ≠ 189 → (wI (wI (wI (wI mm 96 n (nI d)) 95 2 (nI (n + 1))) 189 n (nI d)) 156 50 (nI (n + 1))).1 a = mm.1 a := fun a h1 h2 h3 h4 => by rw [wI_o h2, wI_o h4, wI_o h1, wI_o h3]
          have g : ∀ j, j ≠ 50 → (wI (wI (wI (wI mm 96 n (nI d)) 95 2 (nI (n + 1))) 189 n (nI d)) 156 50 (nI (n + 1))).1 156 j = mm.1 156 j := fun j hj => by rw [wI_k, pk_un hj, wI_o (by omega), wI_o (by omega), wI_o (by omega)]
          refine RR_out ht hs hr hb (lot_fr z5 (by rw [f _ (by omega) (by omega) (by omega) (by omega)]) (by rw [f _ (by omega) (by omega) (by omega) (by omega)]) (g _ (by omega)) (fun j _ => by rw [f _ (by omega) (by omega) (by omega) (by omega)]) (fun j _ => f _ (by omega) (by omega) (by omega) (by omega)) (fun j _ => f _ (by omega) (by omega) (by omega) (by omega)) hl) rfl (fun a _ _ h1 _ _ h2 h3 h4 => f a h2 h1 h3 h4) ⟨n + 1, by omega, ?_, ?_, fun i hi => ?_⟩ (tape_fr (by rw [f _ (by omega) (by omega) (by omega) (by omega)]) (g _ (by omega)) (f _ (by omega) (by omega) (by omega) (by omega)) (f _ (by omega) (by omega) (by omega) (by omega)) hb.2.2.2.2.2.1) (g _ (by omega))
          · rw [wI_o (by decide), wI_o (by decide), wI_k]; exact pk_us
          · rw [wI_k]; exact pk_us
          · rw [wI_o (by decide), wI_k, wI_o (by decide), wI_o (by decide), wI_o (by decide), wI_o (by decide), wI_o (by decide), wI_k]
            by_cases c : i = n
            · subst c
              rw [pk_us, pk_us]
              exact ⟨⟨d, by omega, rfl⟩, rfl⟩
            · rw [pk_un c, pk_un c]
              exact e3 i (by omega)
  · show StepOK _ _ _ _
    unfold StepOK
    rintro mm ⟨t, s, H, O, S, Qn, W, C, J, F, B, ht, hs, hr, hb, hl⟩
    obtain ⟨z1, z2, z3, z4, z5, z6, z7, z8, z9⟩ := hb.sz
    obtain ⟨n1, n2, n3, n4, n5, n6, n7, n8, n9⟩ := hb.nm
    obtain ⟨c1, c2, c3, c4, c5, c6, c7, c8, c9, c10⟩ := hb.nc
    have rf := Kp.rf (kp := kq) mm
    have hs' : s = 24 ∨ s = 114 := hs
    have ht' : t = 10 ∨ t = 100 := ht
    refine ⟨fun r m => r = .int (-1) ∧ Kq mm m, ?_, ?_⟩
    · apply b_X11_year
      simp only [true_implies, false_implies, not_true, not_false_eq_true, not_false, implies_true, and_true, true_and, not_true_eq_false, forall_const, eq_self, w99_X, hin]
      exact rf
    · rintro r m ⟨rfl, k⟩
      refine ⟨fun r m => r = .int (-1) ∧ Kq mm m, ?_, ?_⟩
      · apply b_X12_year
        simp only [true_implies, false_implies, not_true, not_false_eq_true, not_false, implies_true, and_true, true_and, not_true_eq_false, forall_const, eq_self, isIn_M, hin]
        exact ⟨fun _ => k, fun _ => k⟩
      · rintro r m ⟨rfl, k⟩
        exact ⟨rfl, RR_kq ⟨t, s, H, O, S, Qn, W, C, J, F, B, ht, hs, hr, hb, hl⟩ k⟩
theorem st_back (a : Int32) : StepOK RR e_X11_back e_X12_back [.int a] := by
  intro mm hR
  obtain ⟨t, s, H, O, S, Qn, W, C, J, F, B, ht, hs, hr, hb, hl⟩ := hR
  have z5 := hb.sz.2.2.2.2.1
  have rf := Kp.rf (kp := kq) mm
  obtain ⟨n, hn, e1, e2, e3⟩ := hb.2.2.2.2.2.1
  by_cases hin : inR a (n + 1)
  · obtain ⟨d, hd, rfl⟩ := id hin
    refine ⟨fun r m => r = .int (nI (n - d)) ∧ Kq (wI mm 5 4 (nI (n - d))) m, ?_, ?_⟩
    · apply b_X11_back
      rw [e1, s_sub (by omega)]
      exact ⟨fun z => absurd z (nI_pos (by omega)), fun _ => ⟨fun _ => ⟨by rw [wI_k, pk_us], Kp.rf _⟩, fun z => absurd (nI_le (by omega) (by omega)) z⟩⟩
    · rintro r m ⟨rfl, k⟩
      refine ⟨fun r m => r = .int (nI (n - d)) ∧ Kq (wI (wI mm 5 4 (nI (n - d))) 156 0 (nI (n - d))) m, ?_, ?_⟩
      · have em : m.1 156 0 = nI n := by rw [k.g 156 0 rfl, wI_o (by decide)]; exact e2
        apply b_X12_back
        rw [em, s_sub (by omega)]
        exact ⟨fun z => absurd z (nI_pos (by omega)), fun _ => ⟨fun _ => ⟨by rw [wI_k, pk_us], k.bI _ _ _⟩, fun z => absurd (nI_le (by omega) (by omega)) z⟩⟩
      · rintro r m2 ⟨rfl, k2⟩
        refine ⟨rfl, RR_kq ?_ k2⟩
        have f : ∀ a, a ≠ 5 → a ≠ 156 → (wI (wI mm 5 4 (nI (n - d))) 156 0 (nI (n - d))).1 a = mm.1 a := fun a h1 h2 => by rw [wI_o h2, wI_o h1]
        have g : ∀ j, j ≠ 0 → (wI (wI mm 5 4 (nI (n - d))) 156 0 (nI (n - d))).1 156 j = mm.1 156 j := fun j hj => by rw [wI_k, pk_un hj, wI_o (by omega)]
        refine RR_out ht hs hr hb (lot_fr z5 (by rw [f _ (by omega) (by omega)]) (by rw [f _ (by omega) (by omega)]) (g _ (by omega)) (fun j _ => by rw [f _ (by omega) (by omega)]) (fun j _ => f _ (by omega) (by omega)) (fun j _ => f _ (by omega) (by omega)) hl) rfl (fun a h0 _ h1 _ _ _ _ _ => f a h0 h1) (row_fr (by rw [f _ (by omega) (by omega)]) (g _ (by omega)) (f _ (by omega) (by omega)) (f _ (by omega) (by omega)) hb.2.2.2.2.1) ⟨n - d, by omega, ?_, ?_, fun i hi => ?_⟩ (g _ (by omega))
        · rw [wI_o (by decide), wI_k]; exact pk_us
        · rw [wI_k]; exact pk_us
        · rw [f 157 (by omega) (by omega), f 6 (by omega) (by omega)]
          exact e3 i (by omega)
  · have hno : ¬ a < 0 → ¬ a ≤ nI n := fun h1 h2 => hin ((inR_iff' (by omega)).mp ⟨h1, Int32.not_lt.mpr h2⟩)
    refine ⟨fun r m => r = .int (-1) ∧ Kq mm m, ?_, ?_⟩
    · apply b_X11_back
      rw [e1]
      exact ⟨fun _ => ⟨rfl, rf⟩, fun h1 => ⟨fun h2 => absurd h2 (hno h1), fun _ => ⟨rfl, rf⟩⟩⟩
    · rintro r m ⟨rfl, k⟩
      refine ⟨fun r m => r = .int (-1) ∧ Kq mm m, ?_, ?_⟩
      · apply b_X12_back
        rw [k.g 156 0 rfl, e2]
        exact ⟨fun _ => ⟨rfl, k⟩, fun h1 => ⟨fun h2 => absurd h2 (hno h1), fun _ => ⟨rfl, k⟩⟩⟩
      · rintro r m ⟨rfl, k⟩
        exact ⟨rfl, RR_kq ⟨t, s, H, O, S, Qn, W, C, J, F, B, ht, hs, hr, hb, hl⟩ k⟩

/-! the search on heights that are being made -/
theorem bs_congr {p p' : Nat → Bool} : ∀ n, (∀ i, i < n → p i = p' i) → bs p n = bs p' n
  | 0, _ => rfl
  | n + 1, h => by
    have ih := bs_congr n (fun i hi => h i (by omega))
    unfold bs
    rw [ih, h n (by omega)]
theorem LeastR_ext {st hv hv' : Nat → Int32} {tide ns nh : Int32} {R : Nat} (hT : TownM st) (h : ∀ k, k < 16 → hv k = hv' k) (hR : LeastR st hv tide ns nh R) : LeastR st hv' tide ns nh R := by
  obtain ⟨H, S, Qn, h16, s12, q4, eH, eS, eQ, hS, hQ⟩ := hT
  have e1 : dryV st hv tide nh = dryV st hv' tide nh := by
    unfold dryV
    rw [eH, nI_clamp (by omega)]
    exact bs_congr H fun i hi => by rw [h i (by omega)]
  have e2 : ∀ s, s < (st 3).toNatClampNeg → actV st hv ns s = actV st hv' ns s := by
    intro s hs
    rw [eS, nI_clamp (by omega)] at hs
    obtain ⟨a, r, ha, hr, ea, er, hb⟩ := hS s hs
    have hA : stA st s = a := by unfold stA; rw [ea, nI_clamp (by omega)]
    unfold actV meetV
    rw [hA, h a ha]
    rcases hb with hb | ⟨b, hb1, -, hb2⟩
    · rw [hb, if_pos (show (-nI 1 : Int32) < 0 by decide), if_pos (show (-nI 1 : Int32) < 0 by decide)]
    · have hB : stB st s = b := by unfold stB; rw [hb2, nI_clamp (by omega)]
      rw [hB, h b hb1]
  unfold LeastR at *
  rw [← e1]
  obtain ⟨⟨a1, a2⟩, a3⟩ := hR
  exact ⟨⟨a1, fun s hs hact => a2 s hs (by rw [e2 s hs]; exact hact)⟩, fun R' b1 b2 => a3 R' b1 fun s hs hact => b2 s hs (by rw [← e2 s hs]; exact hact)⟩
theorem rchV_ext {st hv hv' : Nat → Int32} {tide ns nh : Int32} (hT : TownM st) (h : ∀ k, k < 16 → hv k = hv' k) : rchV st hv tide ns nh = rchV st hv' tide ns nh := by
  by_cases c : ∃ R, LeastR st hv tide ns nh R
  · obtain ⟨R, hR⟩ := c
    rw [rchV_of hR, rchV_of (LeastR_ext hT h hR)]
  · have c' : ¬ ∃ R, LeastR st hv' tide ns nh R := fun ⟨R, hR⟩ => c ⟨R, LeastR_ext hT (fun k hk => (h k hk).symm) hR⟩
    unfold rchV
    rw [dif_neg c, dif_neg c']
theorem tideV_fr {c c' : Nat → Nat → Int32} (h1 : c' 162 = c 162) (h2 : c' 165 = c 165) (h3 : c' 166 = c 166) (h4 : c' 163 0 = c 163 0) (x : Int32) : tideV c' x = tideV c x := by
  unfold tideV saysV askT segV
  rw [h1, h2, h3, h4]
theorem LawM_fr {c c' : Nat → Nat → Int32} {l : Nat} (h1 : c' 162 = c 162) (h2 : c' 165 = c 165) (h3 : c' 166 = c 166) (h : LawM c l) : LawM c' l := by
  unfold LawM at *
  rw [h1, h2, h3]
  exact h
theorem reachW_ok {mm m : MM} {t s H O S Qn W C J F B : Nat} {q : (Nat → Nat) × (Nat → Nat) × Nat} (hb : BodyR mm.1 t s H O S Qn W C J F B) (h1 : m.1 162 = mm.1 162) (h2 : m.1 165 = mm.1 165) (h3 : m.1 166 = mm.1 166) (h4 : m.1 163 0 = mm.1 163 0) (hq : WkM m W q) :
    Runs e_X12_reachedAt [.ref 156, .int 12, .int (-1), .int (-1)] m (fun r m' => r = .int (nI (rchV (mm.1 162) (fun h => nI (q.1 h)) (tideV mm.1 12) (-1) (-1))) ∧ Ke m m') := by
  have hT : TownM (m.1 162) := by rw [h1]; exact hb.townM
  have hr := reach_okE (mm := m) (tide := tideV mm.1 12) (ns := -1) (nh := -1) (hr := 12) (LawM_fr h1 h2 h3 hb.law0.m) (tideV_fr h1 h2 h3 h4 12) hT (fun h hh => ⟨q.1 h, (hq.1 h hh).2, (hq.1 h hh).1⟩) m (Kp.rf m)
  refine runs_to hr ?_
  rintro r m' ⟨e, k, -⟩
  refine ⟨?_, k⟩
  rw [e, rchV_ext (hv' := fun h => nI (q.1 h)) hT fun k hk => (hq.1 k hk).1, h1]

/-! reading: names taken -/
section
variable {x v : MM} {M a H O : Nat} {K st : Nat → Nat}
theorem ow_at {n : Nat} {L : Int64} : (owV x n L = -1 ∧ ∀ i, i < n → ¬ x.2.1 2 i = L) ∨ ∃ i, i < n ∧ x.2.1 2 i = L ∧ owV x n L = x.1 3 i ∧ ∀ j, j < i → ¬ x.2.1 2 j = L := by
  unfold owV
  by_cases c : fa_first (fun i => decide (x.2.1 2 i = L)) n < n
  · rw [if_pos c]
    exact Or.inr ⟨_, c, of_decide_eq_true (fa_first_yes _ n c), rfl, fun j hj => of_decide_eq_false (fa_first_no _ n j hj)⟩
  · rw [if_neg c]
    have e : fa_first (fun i => decide (x.2.1 2 i = L)) n = n := Nat.le_antisymm (fa_first_le _ _) (Nat.le_of_not_lt c)
    exact Or.inl ⟨rfl, fun i hi => of_decide_eq_false (fa_first_no (fun i => decide (x.2.1 2 i = L)) n i (by omega))⟩
theorem TJ.nm (h : TJ x v M K st) {b c : Nat} (hb : b < M) (hc : c < M) (kb : K b = 26) (kc : K c = 26) : x.2.1 9 b = x.2.1 9 c ↔ v.2.1 161 b = v.2.1 161 c := h.2.2.2.2.2.2.2 b c hb hc kb kc
theorem RC.at {b : Nat} (h : RC x v M K st a) (hb : RA x v M K st b) : b = a := by
  have h6 := h.2.2.1
  rw [hb.2.2] at h6
  have m4 := h.1.2.2.1.2.1
  have := hb.2.1
  have := h.2.1
  exact (nI_eq (by omega) (by omega)).mp h6
theorem srt_lt (g : Nat) : srt g ≤ 1 := by unfold srt; split <;> omega
/-- what both do with a name that is asked for -/
theorem nameJ {ok : Bool} {s B : Nat} {eX : ME} (hs : s = 0 ∧ B = 16 ∨ s = 1 ∧ B = 12) (h : JM ok x v M K st a) (hn : ok = true → NJ x v M K H O)
    (hX : ∀ (ok1 : Bool) (x1 : MM), Runs e_X4_take [.ref 1, .int (nI 26)] x (fun r m => r = .int (bI ok1) ∧ m = x1) →
      (ok1 = false → Runs eX [.ref 1] x (fun r m => r = .int (-1) ∧ m = x1)) ∧
      (ok1 = true → ok = true → ∀ ow : Int32, Runs e_X4_ownerOf [.ref 1, .long (x.2.1 9 a)] x1 (fun r m => r = .int ow ∧ m = x1) →
        (∀ g : Nat, g < 28 → ow = nI g → srt g = s → Runs eX [.ref 1] x (fun r m => r = .int (nI (num g)) ∧ m = x1)) ∧
        ((ow = -1 ∨ ∃ g : Nat, g < 28 ∧ ow = nI g ∧ ¬ srt g = s) → ∀ x3, Runs e_X4_failLate [.ref 1, .int 4, .int (nI (st a))] x1 (fun r m => r = .null ∧ m = x3) → Runs eX [.ref 1] x (fun r m => r = .int (-1) ∧ m = x3)))) :
    ∃ (ok' : Bool) (x' v' : MM) (r : Int32), Runs eX [.ref 1] x (fun r' m => r' = .int r ∧ m = x') ∧ (r = -1 ∨ ∃ g : Nat, g < B ∧ r = nI g) ∧
      (ok = true → ∀ u, Runs e_X12_takesName [.ref 156, .int (nI s)] (catR u v) (fun r m => r = .int (bI ok') ∧ m = catR u v')) ∧ (ok = false → ok' = false ∧ x' = x ∧ v' = v) ∧ FX x x' ∧ FV v v' ∧ JM ok' x' v' M K st (a + 1) ∧
      (x'.1 1 9 = 0 → x.1 1 9 = 0) ∧ (ok' = true → ok = true ∧ NJ x' v' M K H O ∧ (x'.1 1 9 = 0 → ∃ g : Nat, (s = 0 ∧ g < H ∨ s = 1 ∧ g < O) ∧ r = nI g ∧ v'.1 156 29 = nI g) ∧ (LJ x' v' st a ∨ (r = -1 ∧ v'.1 156 29 = -1)) ∧ (v'.1 156 29 = -1 ∨ ∃ g : Nat, g < 28 ∧ v'.1 156 29 = nI g)) := by
  obtain ⟨ok1, x1, v1, t1, t2, t3, t4, t5, t6, t7, t8⟩ := takeJ h 26 (by decide)
  obtain ⟨hf, ht⟩ := hX ok1 x1 t1
  cases ok with
  | false =>
    obtain ⟨rfl, rfl, rfl⟩ := t3 rfl
    exact ⟨false, x1, v1, -1, hf rfl, Or.inl rfl, (fun z => nomatch z), fun _ => ⟨rfl, rfl, rfl⟩, t4, t5, t7, fun z => z, (fun z => nomatch z)⟩
  | true =>
    have hc := h.1 rfl
    obtain ⟨e1, e2⟩ := t2 rfl
    have hk41 := (hc.1.2.2.2.1 a hc.2.1).1
    have m4 := hc.1.2.2.1.2.1
    have ha := hc.2.1
    have hm1 : ∀ u, Runs e_X12_takes [.ref 156, .int (0 : Int32)] (catR u v) (fun r m => r = .int (bI ok1) ∧ m = catR u v1) := fun u => by
      rw [e1, e2]
      exact mTakes hc u (s := 0) (by decide) (k_int _ (by omega)).2.1
    cases ok1 with
    | false =>
      refine ⟨false, x1, v1, -1, hf rfl, Or.inl rfl, fun _ u => ?_, (fun z => nomatch z), t4, t5, t7, fun z => t6.symm.trans z, (fun z => nomatch z)⟩
      apply b_X12_takesName
      exact bcall (hm1 u) (fun z => nomatch z) fun _ m e => ⟨rfl, e⟩
    | true =>
      obtain ⟨-, k1, k2, k3, k4⟩ := t8 rfl
      have hc1 := t7.1 rfl
      have hj := hn rfl
      have hj1 : NJ x1 v1 M K H O := hj.f t4 t5 fun z => t6.symm.trans z
      obtain ⟨b, own, n0, n1, n2, n3, n4⟩ := hj1
      have l1 : LJ x1 v1 st a := by
        rw [k3, k4]
        exact hc.2.2.2.2.2.2.2.2.fr (by rw [wI_k, pk_un (by decide)]) (by rw [wI_k, pk_un (by decide)]) (by rw [wI_k, pk_un (by decide)]) (by rw [wI_k, pk_un (by decide)])
      -- what the model finds
      let Z := zrV (fun i => decide (v1.2.1 175 i = v1.2.1 161 a) && decide (v1.1 176 i = nI s)) (v1.1 177) (H + O) (H + O)
      have hZ : Z = zrV (fun i => decide (v1.2.1 175 i = v1.2.1 161 a) && decide (v1.1 176 i = nI s)) (v1.1 177) (H + O) (H + O) := rfl
      have hZ2 := zrV_at (p := fun i => decide (v1.2.1 175 i = v1.2.1 161 a) && decide (v1.1 176 i = nI s)) (f := v1.1 177) (n := H + O) (d := H + O) (Nat.le_refl _)
      rw [← hZ] at hZ2
      have hmt : ∀ i, i < H + O → ((decide (v1.2.1 175 i = v1.2.1 161 a) && decide (v1.1 176 i = nI s)) = true ↔ (x1.2.1 2 i = x.2.1 9 a ∧ srt (own i) = s)) := by
        intro i hi
        obtain ⟨b1, b2, b3, b4, b5, b6, b7, b8⟩ := n3 i hi
        have hsl := srt_lt (own i)
        rw [Bool.and_eq_true_iff, decide_eq_true_iff, decide_eq_true_iff, b3, b4, b7, nI_eq (by omega) (by omega), ← hc1.1.nm b1 ha b2 k1, show x1.2.1 9 = x.2.1 9 by rw [t4.1]]
      have Zat : (Z = -1 ∧ ∀ i, i < H + O → ¬ (x1.2.1 2 i = x.2.1 9 a ∧ srt (own i) = s)) ∨ ∃ i, i < H + O ∧ (x1.2.1 2 i = x.2.1 9 a ∧ srt (own i) = s) ∧ Z = nI (num (own i)) := by
        rcases hZ2 with ⟨z1, z2⟩ | ⟨i, z1, z2, z3, z4⟩
        · exact Or.inl ⟨z1, fun i hi y => by
            have := z2 i (by omega) hi
            rw [(hmt i hi).mpr y] at this
            cases this⟩
        · exact Or.inr ⟨i, z2, (hmt i z2).mp z3, z4.trans (n3 i z2).2.2.2.2.2.2.2⟩
      have hO := ht rfl rfl _ (ownerX (L := x.2.1 9 a) n1 (by omega))
      have hown : ∀ i, i < H + O → own i < 28 := fun i hi => by have := (n3 i hi).2.2.2.2.1; omega
      have hnum : ∀ i, i < H + O → srt (own i) = s → num (own i) < B ∧ (s = 0 ∧ num (own i) < H ∨ s = 1 ∧ num (own i) < O) := fun i hi hsi => by
        have h1 := (n3 i hi).2.2.2.2.1
        unfold srt at hsi
        unfold num
        split at hsi
        · rw [if_pos (by assumption)]; omega
        · rw [if_neg (by assumption)]; omega
      have hZr : Z = -1 ∨ ∃ g : Nat, g < 28 ∧ Z = nI g := by
        rcases Zat with ⟨z, -⟩ | ⟨i, z1, z2, z3⟩
        · exact Or.inl z
        · exact Or.inr ⟨_, by have := (hnum i z1 z2.2).1; omega, z3⟩
      -- the model up to its last step
      let v2 := wI v1 156 29 Z
      have fv2 : FV v v2 := t5.tr ((FV.rf v1).w (by omega) _)
      have hc2 : RC x1 v2 M K st (a + 1) := hc1.fr (b := a + 1) (hc1.1.f (FX.rf x1) ((FV.rf v1).w (by omega) _)) ⟨rfl, rfl, rfl⟩ ⟨by rw [wI_k, pk_un (by decide)], by rw [wI_k, pk_un (by decide)], by rw [wI_k, pk_un (by decide)]⟩ ((l1.up (by omega)).fr rfl rfl (by rw [wI_k, pk_un (by decide)]) (by rw [wI_k, pk_un (by decide)])) (Nat.le_refl _)
      have l2 : LJ x1 v2 st a := l1.fr rfl rfl (by rw [wI_k, pk_un (by decide)]) (by rw [wI_k, pk_un (by decide)])
      have hj2 : NJ x1 v2 M K H O := (hj.f t4 t5 fun z => t6.symm.trans z).f (FX.rf x1) ((FV.rf v1).w (by omega) _) fun z => z
      have g29 : v2.1 156 29 = Z := by rw [wI_k, pk_us]
      have model : ∀ v3, ((0 ≤ Z → v3 = v2) ∧ (¬ 0 ≤ Z → ∀ u, Runs e_X12_tells [.ref 156, .int (4 : Int32), .int (nI a)] (catR u v2) (fun r m => r = .null ∧ m = catR u v3))) → ∀ u, Runs e_X12_takesName [.ref 156, .int (nI s)] (catR u v) (fun r m => r = .int (bI true) ∧ m = catR u v3) := by
        intro v3 hv3 u
        apply b_X12_takesName
        refine bcall (hm1 u) (fun _ m e => ?_) (fun z => nomatch z)
        subst e
        have g7 : (catR u v).1 156 7 = nI a := by rw [cr_1 (by decide)]; exact hc.2.2.2.1
        have g25 : (wI (catR u v1) 156 29 (-1)).1 156 25 = nI (H + O) := by rw [wI_k, pk_un (by decide), cr_1 (by decide)]; exact n2
        rw [g7, g25, cr_w (by decide)]
        refine nameM (n := H + O) (s := s) (a := a) (v := v1) (by omega) n2 (by omega) u (-1) ?_ rfl
        rintro z rfl
        have gz : (catR u (wI v1 156 29 Z)).1 156 29 = Z := by rw [cr_1 (by decide), wI_k, pk_us]
        apply b_X12_takesName_27
        rw [gz]
        refine ⟨fun _ => ⟨fun c => ⟨rfl, by rw [hv3.1 c]⟩, fun c => vcall (hv3.2 c u) ?_⟩, fun z => absurd (by decide) z⟩
        rintro m rfl
        exact ⟨rfl, rfl⟩
      by_cases cl : x1.1 1 9 = 0
      · -- no late fault yet
        have hd := n4 cl
        rcases ow_at (x := x1) (n := H + O) (L := x.2.1 9 a) with ⟨w1, w2⟩ | ⟨i, w1, w2, w3, w4⟩
        · have zz : Z = -1 := by
            rcases Zat with ⟨z, -⟩ | ⟨i, z1, z2, z3⟩
            · exact z
            · exact absurd z2.1 (w2 i z1)
          obtain ⟨x3, v3, f1, f2, f3, f4, f5, f6, f7⟩ := lateJ hc2 l2 (by omega) (l := 4) (by decide) (by decide)
          refine ⟨true, x3, v3, -1, hO.2 (Or.inl w1) x3 f1, Or.inl rfl, fun _ u => model v3 ⟨fun c => ?_, fun _ u => f2 u⟩ u, (fun z => nomatch z), t4.tr f3, fv2.tr f4, JM.t f5, fun z => absurd z f6, fun _ => ⟨rfl, hj2.f f3 f4 fun z => absurd z f6, fun z => absurd z f6, Or.inr ⟨rfl, by rw [f7, g29, zz]⟩, by rw [f7, g29, zz]; exact Or.inl rfl⟩⟩
          rw [zz] at c
          exact absurd c (by decide)
        · obtain ⟨b1, b2, b3, b4, b5, b6, b7, b8⟩ := n3 i w1
          have wi : owV x1 (H + O) (x.2.1 9 a) = nI (own i) := w3.trans b6
          have uniq : ∀ j, j < H + O → x1.2.1 2 j = x.2.1 9 a → j = i := fun j hj z => by
            rcases Nat.lt_trichotomy j i with y | y | y
            · exact absurd (z.trans w2.symm) (hd j i y w1)
            · exact y
            · exact absurd (w2.trans z.symm) (hd i j y hj)
          by_cases cs : srt (own i) = s
          · have zz : Z = nI (num (own i)) := by
              rcases Zat with ⟨z, z2⟩ | ⟨j, z1, z2, z3⟩
              · exact absurd ⟨w2, cs⟩ (z2 i w1)
              · rw [z3, uniq j z1 z2.1]
            have hb := hnum i w1 cs
            have zp : 0 ≤ Z := by rw [zz]; exact Int32.not_lt.mp (nI_pos (by omega))
            refine ⟨true, x1, v2, nI (num (own i)), hO.1 (own i) (hown i w1) wi cs, Or.inr ⟨_, hb.1, rfl⟩, fun _ u => model v2 ⟨fun _ => rfl, fun c => absurd zp c⟩ u, (fun z => nomatch z), t4, fv2, JM.t hc2, fun z => t6.symm.trans z, fun _ => ⟨rfl, hj2, fun _ => ⟨_, hb.2, rfl, by rw [g29, zz]⟩, Or.inl l2, by rw [g29]; exact hZr⟩⟩
          · have zz : Z = -1 := by
              rcases Zat with ⟨z, -⟩ | ⟨j, z1, z2, z3⟩
              · exact z
              · rw [uniq j z1 z2.1] at z2
                exact absurd z2.2 cs
            obtain ⟨x3, v3, f1, f2, f3, f4, f5, f6, f7⟩ := lateJ hc2 l2 (by omega) (l := 4) (by decide) (by decide)
            refine ⟨true, x3, v3, -1, hO.2 (Or.inr ⟨own i, hown i w1, wi, cs⟩) x3 f1, Or.inl rfl, fun _ u => model v3 ⟨fun c => ?_, fun _ u => f2 u⟩ u, (fun z => nomatch z), t4.tr f3, fv2.tr f4, JM.t f5, fun z => absurd z f6, fun _ => ⟨rfl, hj2.f f3 f4 fun z => absurd z f6, fun z => absurd z f6, Or.inr ⟨rfl, by rw [f7, g29, zz]⟩, by rw [f7, g29, zz]; exact Or.inl rfl⟩⟩
            rw [zz] at c
            exact absurd c (by decide)
      · -- late already: neither tells another
        have mdl := model v2 ⟨fun _ => rfl, fun _ u => lateV_n hc2.1 (by omega) l2 cl u _⟩
        have fin : ∀ r, Runs eX [.ref 1] x (fun r' m => r' = .int r ∧ m = x1) → (r = -1 ∨ ∃ g : Nat, g < B ∧ r = nI g) → ∃ (ok' : Bool) (x' v' : MM) (r : Int32), Runs eX [.ref 1] x (fun r' m => r' = .int r ∧ m = x') ∧ (r = -1 ∨ ∃ g : Nat, g < B ∧ r = nI g) ∧
            (true = true → ∀ u, Runs e_X12_takesName [.ref 156, .int (nI s)] (catR u v) (fun r m => r = .int (bI ok') ∧ m = catR u v')) ∧ (true = false → ok' = false ∧ x' = x ∧ v' = v) ∧ FX x x' ∧ FV v v' ∧ JM ok' x' v' M K st (a + 1) ∧
            (x'.1 1 9 = 0 → x.1 1 9 = 0) ∧ (ok' = true → true = true ∧ NJ x' v' M K H O ∧ (x'.1 1 9 = 0 → ∃ g : Nat, (s = 0 ∧ g < H ∨ s = 1 ∧ g < O) ∧ r = nI g ∧ v'.1 156 29 = nI g) ∧ (LJ x' v' st a ∨ (r = -1 ∧ v'.1 156 29 = -1)) ∧ (v'.1 156 29 = -1 ∨ ∃ g : Nat, g < 28 ∧ v'.1 156 29 = nI g)) :=
          fun r hr hb => ⟨true, x1, v2, r, hr, hb, fun _ => mdl, (fun z => nomatch z), t4, fv2, JM.t hc2, fun z => absurd z cl, fun _ => ⟨rfl, hj2, fun z => absurd z cl, Or.inl l2, by rw [g29]; exact hZr⟩⟩
        rcases ow_at (x := x1) (n := H + O) (L := x.2.1 9 a) with ⟨w1, w2⟩ | ⟨i, w1, w2, w3, w4⟩
        · exact fin _ (hO.2 (Or.inl w1) x1 (lateX_n cl _ _)) (Or.inl rfl)
        · obtain ⟨b1, b2, b3, b4, b5, b6, b7, b8⟩ := n3 i w1
          have wi : owV x1 (H + O) (x.2.1 9 a) = nI (own i) := w3.trans b6
          by_cases cs : srt (own i) = s
          · exact fin _ (hO.1 (own i) (hown i w1) wi cs) (Or.inr ⟨_, (hnum i w1 cs).1, rfl⟩)
          · exact fin _ (hO.2 (Or.inr ⟨own i, hown i w1, wi, cs⟩) x1 (lateX_n cl _ _)) (Or.inl rfl)
theorem houseJ {ok : Bool} (h : JM ok x v M K st a) (hn : ok = true → NJ x v M K H O) :
    ∃ (ok' : Bool) (x' v' : MM) (r : Int32), Runs e_X4_readHouseName [.ref 1] x (fun r' m => r' = .int r ∧ m = x') ∧ (r = -1 ∨ ∃ g : Nat, g < 16 ∧ r = nI g) ∧
      (ok = true → ∀ u, Runs e_X12_takesName [.ref 156, .int (nI 0)] (catR u v) (fun r m => r = .int (bI ok') ∧ m = catR u v')) ∧ (ok = false → ok' = false ∧ x' = x ∧ v' = v) ∧ FX x x' ∧ FV v v' ∧ JM ok' x' v' M K st (a + 1) ∧
      (x'.1 1 9 = 0 → x.1 1 9 = 0) ∧ (ok' = true → ok = true ∧ NJ x' v' M K H O ∧ (x'.1 1 9 = 0 → ∃ g : Nat, (0 = 0 ∧ g < H ∨ 0 = 1 ∧ g < O) ∧ r = nI g ∧ v'.1 156 29 = nI g) ∧ (LJ x' v' st a ∨ (r = -1 ∧ v'.1 156 29 = -1)) ∧ (v'.1 156 29 = -1 ∨ ∃ g : Nat, g < 28 ∧ v'.1 156 29 = nI g)) := by
  refine nameJ (Or.inl ⟨rfl, rfl⟩) h hn fun ok1 x1 t1 => ?_
  obtain ⟨b, hb⟩ := h.2.2
  obtain ⟨o1, s1⟩ := startA hb
  obtain ⟨o2, s2⟩ := valueA hb
  refine ⟨fun z => ?_, fun z1 z2 ow how => ?_⟩
  · subst z
    apply b_X4_readHouseName
    rw [s1, s2]
    exact ⟨o1, o2, bcall t1 (fun z => nomatch z) fun _ m e => ⟨rfl, e⟩⟩
  · subst z1
    have := (h.1 z2).at hb
    subst this
    refine ⟨fun g g1 g2 g3 => ?_, fun hh x3 h3 => ?_⟩
    · have g16 : g < 16 := by unfold srt at g3; split at g3 <;> omega
      have gn : num g = g := if_pos g16
      apply b_X4_readHouseName
      rw [s1, s2, gn]
      refine ⟨o1, o2, bcall t1 (fun _ m e => ?_) (fun z => nomatch z)⟩
      subst e
      refine icall how ?_
      rintro m rfl
      rw [g2]
      exact ⟨fun z => absurd z (nI_nm1 (by omega)), fun _ => ⟨fun _ => ⟨rfl, rfl⟩, fun z => absurd (nI_lt (b := 16) g16 (by omega)) z⟩⟩
    · apply b_X4_readHouseName
      rw [s1, s2]
      refine ⟨o1, o2, bcall t1 (fun _ m e => ?_) (fun z => nomatch z)⟩
      subst e
      refine icall how ?_
      rintro m rfl
      have hl : ∃ Pm : Value → MM → Prop, Runs e_X4_failLate [.ref 1, .int 4, .int (nI (st b))] m Pm ∧ ∀ m3, Pm .null m3 → (Value.int (-1) = .int (-1) ∧ m3 = x3) := vcall h3 (by rintro m rfl; exact ⟨rfl, rfl⟩)
      refine ⟨fun _ => hl, fun c => ⟨fun c2 => ?_, fun _ => hl⟩⟩
      rcases hh with hh | ⟨g, g1, g2, g3⟩
      · exact absurd hh c
      · exfalso
        rw [g2] at c2
        have := (nI_ltI (b := 16) (by omega) (by omega)).mp c2
        exact g3 (if_pos this)
theorem officeJ {ok : Bool} (h : JM ok x v M K st a) (hn : ok = true → NJ x v M K H O) :
    ∃ (ok' : Bool) (x' v' : MM) (r : Int32), Runs e_X4_readOfficeName [.ref 1] x (fun r' m => r' = .int r ∧ m = x') ∧ (r = -1 ∨ ∃ g : Nat, g < 12 ∧ r = nI g) ∧
      (ok = true → ∀ u, Runs e_X12_takesName [.ref 156, .int (nI 1)] (catR u v) (fun r m => r = .int (bI ok') ∧ m = catR u v')) ∧ (ok = false → ok' = false ∧ x' = x ∧ v' = v) ∧ FX x x' ∧ FV v v' ∧ JM ok' x' v' M K st (a + 1) ∧
      (x'.1 1 9 = 0 → x.1 1 9 = 0) ∧ (ok' = true → ok = true ∧ NJ x' v' M K H O ∧ (x'.1 1 9 = 0 → ∃ g : Nat, (1 = 0 ∧ g < H ∨ 1 = 1 ∧ g < O) ∧ r = nI g ∧ v'.1 156 29 = nI g) ∧ (LJ x' v' st a ∨ (r = -1 ∧ v'.1 156 29 = -1)) ∧ (v'.1 156 29 = -1 ∨ ∃ g : Nat, g < 28 ∧ v'.1 156 29 = nI g)) := by
  refine nameJ (Or.inr ⟨rfl, rfl⟩) h hn fun ok1 x1 t1 => ?_
  obtain ⟨b, hb⟩ := h.2.2
  obtain ⟨o1, s1⟩ := startA hb
  obtain ⟨o2, s2⟩ := valueA hb
  refine ⟨fun z => ?_, fun z1 z2 ow how => ?_⟩
  · subst z
    apply b_X4_readOfficeName
    rw [s1, s2]
    exact ⟨o1, o2, bcall t1 (fun z => nomatch z) fun _ m e => ⟨rfl, e⟩⟩
  · subst z1
    have := (h.1 z2).at hb
    subst this
    refine ⟨fun g g1 g2 g3 => ?_, fun hh x3 h3 => ?_⟩
    · have g16 : 16 ≤ g := by unfold srt at g3; split at g3 <;> omega
      have gn : num g = g - 16 := if_neg (by omega)
      have gs : nI g - 16 = nI (g - 16) := by
        have e : nI g = nI (g - 16) + 16 := by
          rw [show (16 : Int32) = nI 16 from rfl, nI_add, show g - 16 + 16 = g by omega]
        rw [e]
        exact Int32.add_sub_cancel _ _
      apply b_X4_readOfficeName
      rw [s1, s2, gn]
      refine ⟨o1, o2, bcall t1 (fun _ m e => ?_) (fun z => nomatch z)⟩
      subst e
      refine icall how ?_
      rintro m rfl
      rw [g2, gs]
      exact ⟨fun _ => ⟨rfl, rfl⟩, fun z => absurd (nI_le (a := 16) g16 (by omega)) z⟩
    · apply b_X4_readOfficeName
      rw [s1, s2]
      refine ⟨o1, o2, bcall t1 (fun _ m e => ?_) (fun z => nomatch z)⟩
      subst e
      refine icall how ?_
      rintro m rfl
      refine ⟨fun c => ?_, fun _ => vcall h3 (by rintro m rfl; exact ⟨rfl, rfl⟩)⟩
      exfalso
      rcases hh with hh | ⟨g, g1, g2, g3⟩
      · rw [hh] at c; exact absurd c (by decide)
      · rw [g2] at c
        have := (nI_leI (a := 16) (by omega) (by omega)).mp c
        exact g3 (if_neg (by omega))
end

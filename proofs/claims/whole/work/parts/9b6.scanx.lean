/-! the model's scanning, exactly -/
noncomputable def scE (m : MM) (n : Nat) (f : Nat → Nat) (i p : Nat) : MM := tkM (if p < n ∧ (97 ≤ f p ∧ f p ≤ 122) then wLg m 161 i (lN (n27 f p (min (rnL n f 97 122 p) 8))) else m) i (nI (msT n f p)) (nI p) (mwT n f p)
noncomputable def scI (m : MM) (n : Nat) (f : Nat → Nat) : Nat → MM
  | 0 => wI m 156 2 0
  | i + 1 => scE (scI m n f i) n f i (stT n f i)
theorem scE_cat (u v : MM) (n : Nat) (f : Nat → Nat) (i p : Nat) : scE (catR u v) n f i p = catR u (scE v n f i p) := by
  unfold scE tkM
  by_cases c : p < n ∧ (97 ≤ f p ∧ f p ≤ 122)
  · rw [if_pos c, if_pos c, cr_l (by decide), cr_w (by decide), cr_w (by decide), cr_w (by decide), cr_w (by decide)]
  · rw [if_neg c, if_neg c, cr_w (by decide), cr_w (by decide), cr_w (by decide), cr_w (by decide)]
theorem scI_cat (u v : MM) (n : Nat) (f : Nat → Nat) : ∀ i, scI (catR u v) n f i = catR u (scI v n f i)
  | 0 => by unfold scI; rw [cr_w (by decide)]
  | i + 1 => by unfold scI; rw [scI_cat u v n f i, scE_cat]
theorem scE_at (m : MM) (n : Nat) (f : Nat → Nat) (i p : Nat) : FrU i m (scE m n f i p) ∧ (scE m n f i p).1 158 i = nI (msT n f p) ∧ (scE m n f i p).1 159 i = nI p ∧ (scE m n f i p).1 160 i = mwT n f p ∧ (scE m n f i p).1 156 2 = nI (i + 1) ∧ NlT n f p ((scE m n f i p).2.1 161 i) := by
  unfold scE
  by_cases c : p < n ∧ (97 ≤ f p ∧ f p ≤ 122)
  · rw [if_pos c]
    obtain ⟨t1, t2, t3, t4⟩ := tk_at (wLg m 161 i (lN (n27 f p (min (rnL n f 97 122 p) 8)))) i (nI (msT n f p)) (nI p) (mwT n f p)
    refine ⟨FrU_tk (m := m) (m0 := wLg m 161 i (lN (n27 f p (min (rnL n f 97 122 p) 8)))) rfl rfl (fun y hy => (congrFun (wL_k m 161 i _) y).trans (pk_uLn hy)) _ _ _, t1, t2, t3, t4, fun _ _ h8 => ?_⟩
    show (wLg m 161 i _).2.1 161 i = _
    rw [wL_k, pk_uLs, Nat.min_eq_left h8]
  · rw [if_neg c]
    obtain ⟨t1, t2, t3, t4⟩ := tk_at m i (nI (msT n f p)) (nI p) (mwT n f p)
    exact ⟨FrU_tk rfl rfl (fun y hy => rfl) _ _ _, t1, t2, t3, t4, fun z1 z2 => absurd ⟨z1, z2⟩ c⟩
theorem scI_at (m : MM) (n : Nat) (f : Nat → Nat) : ∀ i, FrV m (scI m n f i) ∧ (scI m n f i).1 156 2 = nI i ∧ TokM (scI m n f i) n f i
  | 0 => by
    refine ⟨⟨rfl, fun x y _ _ _ h4 => ?_⟩, ?_, fun j hj => absurd hj (Nat.not_lt_zero _)⟩
    · unfold scI
      by_cases c : x = 156
      · subst c
        rw [wI_k, pk_un (fun z => h4 ⟨rfl, z⟩)]
      · rw [wI_o c]
    · unfold scI
      rw [wI_k, pk_us]
      rfl
  | i + 1 => by
    obtain ⟨q1, q2, q3⟩ := scI_at m n f i
    obtain ⟨g1, g2, g3, g4, g5, g6⟩ := scE_at (scI m n f i) n f i (stT n f i)
    refine ⟨q1.tr g1.v, g5, fun j hj => ?_⟩
    by_cases cj : j = i
    · subst cj
      exact ⟨g2, g3, g4, g6⟩
    · exact q3.fr g1 j (by omega)
/-- longs that the scanning leaves alone -/
theorem scI_l (m : MM) (n : Nat) (f : Nat → Nat) : ∀ i r, r ≠ 161 → (scI m n f i).2.1 r = m.2.1 r
  | 0, r, h => rfl
  | i + 1, r, h => by
    rw [← scI_l m n f i r h]
    show (scE (scI m n f i) n f i (stT n f i)).2.1 r = _
    unfold scE
    by_cases c : stT n f i < n ∧ (97 ≤ f (stT n f i) ∧ f (stT n f i) ≤ 122)
    · rw [if_pos c]
      exact wL_o h
    · rw [if_neg c]
      rfl
theorem scanM_x {m : MM} {n i p : Nat} {f : Nat → Nat} (h : TapM m n f) (hi : i < 2001) (hp : p < n) (e2 : m.1 156 2 = nI i) : Runs e_X12_scan [.ref 156, .int (nI p)] m (fun r m' => r = .int (nI (enT n f p)) ∧ m' = scE m n f i p) := by
  have h2 := h.2.1
  have ebp : byM n f p = f p := by unfold byM; rw [if_pos hp]
  have hf := (h.2.2 p hp).2
  have np : ¬ n ≤ p := by omega
  refine b_X12_scan _ _ _ ?_
  obtain ⟨oL, iL⟩ := letter_ok (p := p) h (by omega)
  obtain ⟨oD, iD⟩ := digit_ok (p := p) h (by omega)
  rw [ebp] at iL iD
  rw [iL, iD]
  have inner : ∀ lo hi j : Nat, j < rnL n f lo hi p → p + j < n := fun lo hi j hj => by
    have := (rnN_le (n := n) (f := f) (lo := lo) (hi := hi) (p := p) (by omega)).2
    unfold rnN at this; omega
  refine ⟨oL, fun c1 => ?_, fun c1 => ⟨oD, fun c2 => ?_, fun c2 => ?_⟩⟩
  · have hr := rnN_le (n := n) (f := f) (lo := 97) (hi := 122) (p := p) (by omega)
    have hin : ∀ j, j < rnL n f 97 122 p → 97 ≤ f (p + j) ∧ f (p + j) ≤ 122 := fun j hj => rnN_in hj
    have ee : enT n f p = rnN n f 97 122 p := by unfold enT; rw [if_neg np, if_pos c1]
    have es : msT n f p = if 8 < rnL n f 97 122 p then 5 else if wkN f p (rnN n f 97 122 p) = 26 then 0 else 3 := by unfold msT; rw [if_neg np, if_pos c1]
    have ew : mwT n f p = if 8 < rnL n f 97 122 p then -1 else if wkN f p (rnN n f 97 122 p) = 26 then -1 else nI (wmT.getD (wkN f p (rnN n f 97 122 p)) 0) := by unfold mwT; rw [if_neg np, if_pos c1]
    have hL : rnN n f 97 122 p - p = rnL n f 97 122 p := by unfold rnN; omega
    refine for_up (Y := e_X12_scan) (pc := 12) (fun j => [(0, .ref 156), (1, .int (nI p)), (2, .int (nI (p + j))), (3, .long (lN (n27 f p (min j 8))))]) (fun j m' => m' = m) (rnL n f 97 122 p) ?_ ?_ 0 m (by omega) rfl
    · rintro m' rfl
      have hend : ¬ (97 ≤ byM n f (p + rnL n f 97 122 p) ∧ byM n f (p + rnL n f 97 122 p) ≤ 122) := by
        unfold byM
        by_cases c : p + rnL n f 97 122 p < n
        · rw [if_pos c]; exact rnN_out (n := n) (f := f) (lo := 97) (hi := 122) (p := p) c
        · rw [if_neg c]; omega
      obtain ⟨oL', iL'⟩ := letter_ok (p := p + rnL n f 97 122 p) h (by unfold rnN at hr; omega)
      have hN : n27 f p (min (rnL n f 97 122 p) 8) < 2 ^ 63 := by
        have a1 := n27_lt (f := f) (p := p) (min (rnL n f 97 122 p) 8) fun j hj => hin j (by omega)
        have a2 : 27 ^ min (rnL n f 97 122 p) 8 ≤ 27 ^ 8 := Nat.pow_le_pow_right (by decide) (by omega)
        have a3 : 27 ^ 8 < 2 ^ 63 := by decide
        omega
      have hw := wd_ok (f := f) (p := p) (e := rnN n f 97 122 p) (by rw [hL]; exact hin)
      rw [hL] at hw
      refine b_X12_scan_12 _ _ _ _ _ ?_
      rw [iL', nI_clamp (show i < 2 ^ 31 by omega) |> fun z => (by rw [e2, z] : (m'.1 156 2).toNatClampNeg = i), e2, pk_sub (Nat.le_add_right _ _), Nat.add_sub_cancel_left, show (8 : Int32) = nI 8 from rfl, nI_leI (a := rnL n f 97 122 p) (b := 8) (by unfold rnN at hr; omega) (by omega), wordOf_ok _ hN]
      have vi : vp_in (nI i) 2001 := vp_in_nI hi (by omega)
      have e2' : (wLg m' 161 i (lN (n27 f p (min (rnL n f 97 122 p) 8)))).1 156 2 = nI i := e2
      have fin : ∀ a1 a3, a1 = nI (msT n f p) → a3 = mwT n f p → ∀ m1, m1 = tkM (wLg m' 161 i (lN (n27 f p (min (rnL n f 97 122 p) 8)))) i a1 (nI p) a3 → Value.int (nI (p + rnL n f 97 122 p)) = .int (nI (enT n f p)) ∧ m1 = scE m' n f i p := by
        rintro a1 a3 rfl rfl m1 rfl
        refine ⟨by rw [ee]; rfl, ?_⟩
        unfold scE
        rw [if_pos ⟨hp, c1⟩]
      refine ⟨oL', fun z => absurd z hend, fun _ => ⟨fun c8 => ⟨vi, fun _ => ?_, fun z => absurd c8 z⟩, fun c8 => ⟨vi, fun z => absurd z c8, fun _ => ?_⟩⟩⟩
      · rw [Nat.min_eq_left c8, hw.2]
        rw [Nat.min_eq_left c8] at fin e2'
        by_cases c26 : wkN f p (rnN n f 97 122 p) = 26
        · rw [if_pos c26]
          exact ⟨fun _ => vcall (token_ok hi e2' _ _ _) fun m1 e => fin _ _ (by rw [es, if_neg (by omega), if_pos c26]; rfl) (by rw [ew, if_neg (by omega), if_pos c26]) m1 e, fun z => absurd (by decide) z⟩
        · rw [if_neg c26]
          exact ⟨fun z => absurd z (nI_pos (by have : ∀ k, k < 26 → wmT.getD k 0 < 2 ^ 31 := by decide
                                               exact this _ (by omega))), fun _ => vcall (token_ok hi e2' _ _ _) fun m1 e => fin _ _ (by rw [es, if_neg (by omega), if_neg c26]; rfl) (by rw [ew, if_neg (by omega), if_neg c26]) m1 e⟩
      · exact vcall (token_ok hi e2' _ _ _) fun m1 e => fin _ _ (by rw [es, if_pos (by omega)]; rfl) (by rw [ew, if_pos (by omega)]) m1 e
    · rintro j m' hj rfl hg
      have hg := hg m' rfl
      have hlt := inner 97 122 j hj
      obtain ⟨b1, b2⟩ := hin j hj
      obtain ⟨oL', iL'⟩ := letter_ok (p := p + j) h (by omega)
      obtain ⟨oB, eB⟩ := byteM (p := p + j) h (by omega)
      have eb : byM n f (p + j) = f (p + j) := by unfold byM; rw [if_pos hlt]
      rw [eb] at iL' eB
      refine b_X12_scan_12 _ _ _ _ _ ?_
      rw [iL', pk_sub (Nat.le_add_right _ _), Nat.add_sub_cancel_left, show (8 : Int32) = nI 8 from rfl, nI_leI (a := 8) (b := j) (by omega) (by omega), nI_1 (p + j), eB]
      refine ⟨oL', fun _ => ⟨fun c8 => ?_, fun c8 => ⟨oB, ?_⟩⟩, fun z => absurd ⟨b1, b2⟩ z⟩
      · rw [Nat.min_eq_right (by omega)] at hg ⊢
        exact hg
      · rw [Nat.min_eq_left (by omega), n27] at hg
        rw [Nat.min_eq_left (by omega), nI_l (by omega), show (27 : Int64) = lN 27 from rfl, show (96 : Int64) = lN 96 from rfl, lN_mul, lN_add, lN_sub (by omega), show n27 f p j * 27 + f (p + j) - 96 = n27 f p j * 27 + (f (p + j) - 96) by omega]
        exact hg
  · have hr := rnN_le (n := n) (f := f) (lo := 48) (hi := 57) (p := p) (by omega)
    have hin : ∀ j, j < rnL n f 48 57 p → 48 ≤ f (p + j) ∧ f (p + j) ≤ 57 := fun j hj => rnN_in hj
    have ee : enT n f p = rnN n f 48 57 p := by unfold enT; rw [if_neg np, if_neg c1, if_pos c2]
    have es : msT n f p = if 4 < rnL n f 48 57 p then 5 else 1 := by unfold msT; rw [if_neg np, if_neg c1, if_pos c2]
    have ew : mwT n f p = nI (nmN f p (min (rnL n f 48 57 p) 4)) := by unfold mwT; rw [if_neg np, if_neg c1, if_pos c2]
    refine for_up (Y := e_X12_scan) (pc := 120) (fun j => [(0, .ref 156), (1, .int (nI p)), (2, .int (nI (p + j))), (3, .int (nI (nmN f p (min j 4))))]) (fun j m' => m' = m) (rnL n f 48 57 p) ?_ ?_ 0 m (by omega) rfl
    · rintro m' rfl
      have hend : ¬ (48 ≤ byM n f (p + rnL n f 48 57 p) ∧ byM n f (p + rnL n f 48 57 p) ≤ 57) := by
        unfold byM
        by_cases c : p + rnL n f 48 57 p < n
        · rw [if_pos c]; exact rnN_out (n := n) (f := f) (lo := 48) (hi := 57) (p := p) c
        · rw [if_neg c]; omega
      obtain ⟨oL', iL'⟩ := digit_ok (p := p + rnL n f 48 57 p) h (by unfold rnN at hr; omega)
      have fin : ∀ a1, a1 = nI (msT n f p) → ∀ m1, m1 = tkM m' i a1 (nI p) (nI (nmN f p (min (rnL n f 48 57 p) 4))) → Value.int (nI (p + rnL n f 48 57 p)) = .int (nI (enT n f p)) ∧ m1 = scE m' n f i p := by
        rintro a1 rfl m1 rfl
        refine ⟨by rw [ee]; rfl, ?_⟩
        unfold scE
        rw [if_neg (fun z => c1 z.2), ew]
      refine b_X12_scan_120 _ _ _ _ _ ?_
      rw [iL', pk_sub (Nat.le_add_right _ _), Nat.add_sub_cancel_left, show (4 : Int32) = nI 4 from rfl, nI_leI (a := rnL n f 48 57 p) (b := 4) (by unfold rnN at hr; omega) (by omega)]
      refine ⟨oL', fun z => absurd z hend, fun _ => ⟨fun c4 => vcall (token_ok hi e2 _ _ _) fun m1 e => fin _ (by rw [es, if_neg (by omega)]; rfl) m1 e, fun c4 => vcall (token_ok hi e2 _ _ _) fun m1 e => fin _ (by rw [es, if_pos (by omega)]; rfl) m1 e⟩⟩
    · rintro j m' hj rfl hg
      have hg := hg m' rfl
      have hlt := inner 48 57 j hj
      obtain ⟨b1, b2⟩ := hin j hj
      obtain ⟨oL', iL'⟩ := digit_ok (p := p + j) h (by omega)
      obtain ⟨oB, eB⟩ := byteM (p := p + j) h (by omega)
      have eb : byM n f (p + j) = f (p + j) := by unfold byM; rw [if_pos hlt]
      rw [eb] at iL' eB
      refine b_X12_scan_120 _ _ _ _ _ ?_
      rw [iL', pk_sub (Nat.le_add_right _ _), Nat.add_sub_cancel_left, show (4 : Int32) = nI 4 from rfl, nI_leI (a := 4) (b := j) (by omega) (by omega), nI_1 (p + j), eB]
      refine ⟨oL', fun _ => ⟨fun c8 => ?_, fun c8 => ⟨oB, ?_⟩⟩, fun z => absurd ⟨b1, b2⟩ z⟩
      · rw [Nat.min_eq_right (by omega)] at hg ⊢
        exact hg
      · rw [Nat.min_eq_left (by omega), nmN] at hg
        rw [Nat.min_eq_left (by omega), show (10 : Int32) = nI 10 from rfl, pk_mul, nI_add, show (48 : Int32) = nI 48 from rfl, pk_sub (by omega), show 10 * nmN f p j + f (p + j) - 48 = nmN f p j * 10 + (f (p + j) - 48) by omega]
        exact hg
  · obtain ⟨oS, eS⟩ := signM_ok h hp
    have es : msT n f p = if sgM (f p) (eqA n f (p + 1)) = 0 then 5 else 2 := by unfold msT; rw [if_neg np, if_neg c1, if_neg c2]
    have ew : mwT n f p = nI (sgM (f p) (eqA n f (p + 1))) := by unfold mwT; rw [if_neg np, if_neg c1, if_neg c2]
    have ee : enT n f p = if sgK (f p) (eqA n f (p + 1)) = 34 ∨ sgK (f p) (eqA n f (p + 1)) = 35 ∨ sgK (f p) (eqA n f (p + 1)) = 37 then p + 2 else p + 1 := by unfold enT; rw [if_neg np, if_neg c1, if_neg c2]
    have two : (sgK (f p) (eqA n f (p + 1)) = 34 ∨ sgK (f p) (eqA n f (p + 1)) = 35 ∨ sgK (f p) (eqA n f (p + 1)) = 37) ↔ ¬ sgM (f p) (eqA n f (p + 1)) < 300 := by
      unfold sgK sgM
      cases eqA n f (p + 1) <;> simp only [cond_false, cond_true] <;> (repeat' split) <;> omega
    have hm : sgM (f p) (eqA n f (p + 1)) ≤ 302 := by
      unfold sgM
      cases eqA n f (p + 1) <;> simp only [cond_false, cond_true] <;> (repeat' split) <;> omega
    rw [eS, show (300 : Int32) = nI 300 from rfl, nI_ltI (by omega) (by omega), nI_1 p, show nI p + (2 : Int32) = nI (p + 2) from nI_add p 2]
    have fin : ∀ a1 q, a1 = nI (msT n f p) → q = enT n f p → ∀ m1, m1 = tkM m i a1 (nI p) (nI (sgM (f p) (eqA n f (p + 1)))) → Value.int (nI q) = .int (nI (enT n f p)) ∧ m1 = scE m n f i p := by
      rintro a1 q rfl rfl m1 rfl
      refine ⟨rfl, ?_⟩
      unfold scE
      rw [if_neg (fun z => c1 z.2), ew]
    have lt : ∀ z : sgM (f p) (eqA n f (p + 1)) < 300, p + 1 = enT n f p := fun z => by rw [ee, if_neg (fun y => two.mp y z)]
    have ge : ∀ z : ¬ sgM (f p) (eqA n f (p + 1)) < 300, p + 2 = enT n f p := fun z => by rw [ee, if_pos (two.mpr z)]
    refine ⟨oS, fun c0 => vcall (token_ok hi e2 _ _ _) fun m1 e => ⟨fun z => ?_, fun z => ?_⟩, fun c0 => vcall (token_ok hi e2 _ _ _) fun m1 e => ⟨fun z => ?_, fun z => ?_⟩⟩
    · exact fin _ _ (by rw [es, if_neg (fun y => c0 (congrArg nI y))]; rfl) (lt z) m1 e
    · exact fin _ _ (by rw [es, if_neg (fun y => c0 (congrArg nI y))]; rfl) (ge z) m1 e
    · exact fin _ _ (by rw [es, if_pos ((nI_eq (b := 0) (by omega) (by omega)).mp c0)]; rfl) (lt z) m1 e
    · exact fin _ _ (by rw [es, if_pos ((nI_eq (b := 0) (by omega) (by omega)).mp c0)]; rfl) (ge z) m1 e
theorem scanAll_x {m : MM} {n : Nat} {f : Nat → Nat} (h : TapM m n f) : Runs e_X12_scanAll [.ref 156] m (fun r m' => r = .null ∧ m' = scI m n f (lsT n f 2001 + 1)) ∧ lsT n f 2001 < 2001 ∧ lastK (kiT n f (lsT n f 2001)) = true := by
  have hn := h.2.1
  have hle := fa_first_le (fun i => lastK (kiT n f i)) 2001
  have hno : ∀ j, j < lsT n f 2001 → lastK (kiT n f j) = false := fun j hj => fa_first_no (fun i => lastK (kiT n f i)) 2001 j hj
  have hlt : lsT n f 2001 < 2001 := by
    rcases Nat.lt_or_ge (lsT n f 2001) 2001 with c | c
    · exact c
    · have a := stT_up (n := n) (f := f) (i := 2001) fun j hj => hno j (by omega)
      have b := psT_le (n := n) (f := f) 2001
      omega
  have hyes : lastK (kiT n f (lsT n f 2001)) = true := fa_first_yes (fun i => lastK (kiT n f i)) 2001 hlt
  have hle' : lsT n f 2001 ≤ 2001 := hle
  generalize hLS : lsT n f 2001 = LS at *
  have uniq : ∀ i, i ≤ LS → lastK (kiT n f i) = true → i = LS := fun i hi hl => by
    rcases Nat.lt_or_ge i LS with c | c
    · rw [hno i c] at hl; cases hl
    · omega
  have stop : ∀ i, i ≤ LS → i ≠ LS → lastK (kiT n f i) = false := fun i hi hne => hno i (by omega)
  refine ⟨?_, hlt, hyes⟩
  apply b_X12_scanAll
  refine loop_mu (Y := e_X12_scanAll) (pc := 9) (σ := Nat × Nat) (fun x => [(0, .ref 156), (1, .int (nI x.1)), (2, .int (1 : Int32))]) (fun x m' => m' = scI m n f x.2 ∧ x.2 ≤ LS ∧ psT n f x.2 ≤ x.1 ∧ x.1 ≤ stT n f x.2) (fun x => n - x.1) ?_ (0, 0) _ ⟨rfl, Nat.zero_le _, Nat.le_refl _, Nat.zero_le _⟩
  · rintro ⟨k, i⟩ m1 ⟨q0, q4, q5, q6⟩ hgo
    have q0 : m1 = scI m n f i := q0
    obtain ⟨q1, q2, q3⟩ : FrV m m1 ∧ m1.1 156 2 = nI i ∧ TokM m1 n f i := by rw [q0]; exact scI_at m n f i
    have q4 : i ≤ LS := q4
    have q5 : psT n f i ≤ k := q5
    have q6 : k ≤ stT n f i := q6
    have t1 := q1.tap h
    have hst := stT_le (n := n) (f := f) i
    refine b_X12_scanAll_9 _ _ _ _ ?_
    rw [t1.1]
    by_cases ck : k = n
    · -- the end
      have est : stT n f i = n := by omega
      have ek : kiT n f i = 40 := by unfold kiT kdT; rw [if_pos (by omega)]
      have ei : i = LS := uniq i q4 (by rw [ek]; rfl)
      refine ⟨fun _ => ⟨fun z => absurd z (by decide), fun _ => vcall (token_ok (by omega) q2 _ _ _) ?_⟩, fun z => absurd (nI_le (by omega) (by omega)) z⟩
      rintro m2 rfl
      refine ⟨rfl, ?_⟩
      have ems : msT n f (stT n f i) = 4 := last_iff.1.mp ek
      have emw : mwT n f (stT n f i) = 0 := by unfold mwT; rw [if_pos (by omega)]
      rw [← ei]
      show _ = scE (scI m n f i) n f i (stT n f i)
      unfold scE
      rw [if_neg (fun z => by omega), ems, emw, ← q0, est]
      rfl
    · have hk : k < n := by omega
      obtain ⟨oB, eB⟩ := byteM (p := k) t1 (by omega)
      have eb : byM n f k = f k := by unfold byM; rw [if_pos hk]
      rw [eb] at eB
      have hf := (h.2.2 k hk).2
      rw [eB, show (32 : Int32) = nI 32 from rfl, show (9 : Int32) = nI 9 from rfl, show (10 : Int32) = nI 10 from rfl, show (13 : Int32) = nI 13 from rfl, nI_eq (by omega) (by omega), nI_eq (by omega) (by omega), nI_eq (by omega) (by omega), nI_eq (by omega) (by omega)]
      refine ⟨fun z => absurd z (nI_ge hk (by omega)), fun _ => ⟨fun z => absurd z (by decide), fun _ => ⟨oB, ?_⟩⟩⟩
      have blank : blB (f k) = true → G e_X12_scanAll 9 [(0, .ref 156), (1, .int (nI k + 1)), (2, .int (1 : Int32))] [] m1 (fun r m' => r = .null ∧ m' = scI m n f (LS + 1)) := fun hb => by
        have c : k < stT n f i := by
          rcases Nat.lt_or_ge k (stT n f i) with c | c
          · exact c
          · have e : k = stT n f i := by omega
            have := skN_nb (n := n) (f := f) (p := psT n f i) (by unfold stT at e; omega)
            unfold stT at e
            rw [← e, hb] at this
            cases this
        rw [nI_1]
        exact hgo (k + 1, i) m1 ⟨q0, q4, by show psT n f i ≤ k + 1; omega, by show k + 1 ≤ stT n f i; omega⟩ (by show n - (k + 1) < n - k; omega)
      have bb : blB (f k) = true ↔ (f k = 9 ∨ f k = 10 ∨ f k = 13 ∨ f k = 32) := by
        unfold blB
        simp only [Bool.or_eq_true, beq_iff_eq]
        omega
      refine ⟨fun c => blank (bb.mpr (by omega)), fun d1 => ⟨fun c => blank (bb.mpr (by omega)), fun d2 => ⟨fun c => blank (bb.mpr (by omega)), fun d3 => ⟨fun d4 => ?_, fun c => blank (bb.mpr (by omega))⟩⟩⟩⟩
      have nb : ¬ blB (f k) = true := fun z => by have := bb.mp z; omega
      have est : k = stT n f i := by
        rcases Nat.lt_or_ge k (stT n f i) with c | c
        · exact absurd (skN_step q5 c) nb
        · omega
      have hsl : stT n f i < n := by omega
      have hi2 : i < 2001 := by omega
      refine icall (scanM_x (p := k) t1 hi2 hk q2) ?_
      intro m2 e2m
      obtain ⟨g1, g2, g3, g4, g5, g6⟩ : FrU i m1 m2 ∧ m2.1 158 i = nI (msT n f k) ∧ m2.1 159 i = nI k ∧ m2.1 160 i = mwT n f k ∧ m2.1 156 2 = nI (i + 1) ∧ NlT n f k (m2.2.1 161 i) := by rw [e2m]; exact scE_at m1 n f i k
      have e2n : m2 = scI m n f (i + 1) := by
        rw [e2m, est, q0]
        rfl
      have hms := msT_le (n := n) (f := f) (p := k)
      have ecnt : m2.1 156 2 - 1 = nI i := by rw [g5]; exact nI_pred i
      rw [ecnt, nI_clamp (by omega), g2, show (5 : Int32) = nI 5 from rfl, nI_eq (by omega) (by omega)]
      refine ⟨vp_in_nI hi2 (by omega), fun c5 => ?_, fun c5 => ?_⟩
      · have ek : kiT n f i = 41 := by unfold kiT; rw [← est]; exact last_iff.2.mpr c5
        have ei : i = LS := uniq i q4 (by rw [ek]; rfl)
        have fin : (fun r m' => r = Value.null ∧ m' = scI m n f (LS + 1)) .null m2 := ⟨rfl, by rw [← ei]; exact e2n⟩
        refine b_X12_scanAll_9 _ _ _ _ ⟨fun _ => ⟨fun _ => fin, fun z => absurd rfl z⟩, fun _ => ⟨fun _ => ⟨fun _ => fin, fun z => absurd rfl z⟩, fun z => absurd rfl z⟩⟩
      · have nl : i ≠ LS := fun z => by
          have n4 : ¬ kiT n f i = 40 := fun y => by
            unfold kiT kdT at y
            rw [if_neg (by omega)] at y
            have := last_iff (n := n) (f := f) (p := stT n f i)
            have y2 : kdT n f (stT n f i) = 40 := by unfold kdT; rw [if_neg (by omega)]; exact y
            have := this.1.mp y2
            unfold msT at this
            rw [if_neg (by omega)] at this
            revert this
            repeat' split
            all_goals omega
          have n5 : ¬ kiT n f i = 41 := fun y => c5 (by rw [est]; exact last_iff.2.mp y)
          rw [← z] at hyes
          unfold lastK at hyes
          simp only [Bool.or_eq_true, beq_iff_eq] at hyes
          omega
        have eps : psT n f (i + 1) = enT n f k := by rw [(stT_go hsl).1, est]
        have hen := enT_le (n := n) (f := f) hk
        have hs1 := stT_le (n := n) (f := f) (i + 1)
        exact hgo (enT n f k, i + 1) m2 ⟨e2n, by show i + 1 ≤ LS; omega, by show psT n f (i + 1) ≤ enT n f k; omega, by show enT n f k ≤ stT n f (i + 1); omega⟩ (by show n - enT n f k < n - k; omega)

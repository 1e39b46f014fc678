/-! the class's tokens -/
/-- only token i has been written -/
def FrT (i : Nat) (m m' : MM) : Prop := m'.2.2 = m.2.2 ∧ (∀ x y, ¬ (x = 7 ∧ y = i) → m'.1 x y = m.1 x y) ∧ (∀ x, x ≠ 9 → m'.2.1 x = m.2.1 x) ∧ ∀ y, y ≠ i → m'.2.1 9 y = m.2.1 9 y
theorem FrT.rf (i : Nat) (m : MM) : FrT i m m := ⟨rfl, fun _ _ _ => rfl, fun _ _ => rfl, fun _ _ => rfl⟩
theorem FrT.k {i : Nat} {m m' : MM} (h : FrT i m m') (v : Int32) : FrT i m (wI m' 7 i v) := by
  refine ⟨h.1, fun x y c => ?_, h.2.2.1, h.2.2.2⟩
  by_cases e : x = 7
  · subst e
    rw [wI_k, pk_un (fun z => c ⟨rfl, z⟩)]
    exact h.2.1 7 y c
  · rw [wI_o e]; exact h.2.1 x y c
theorem FrT.v {i : Nat} {m m' : MM} (h : FrT i m m') (v : Int64) : FrT i m (wLg m' 9 i v) := by
  refine ⟨h.1, h.2.1, fun x hx => ?_, fun y hy => ?_⟩
  · rw [wL_o hx]; exact h.2.2.1 x hx
  · rw [wL_k, pk_uLn hy]; exact h.2.2.2 y hy
theorem FrT.tap {i n : Nat} {f : Nat → Nat} {m m' : MM} (h : FrT i m m') (t : Tap m n f) : Tap m' n f := by
  obtain ⟨t1, t2, t3⟩ := t
  exact ⟨by rw [h.2.1 5 4 (by omega)]; exact t1, t2, fun p hp => by rw [h.2.1 6 p (by omega)]; exact t3 p hp⟩
/-- what token i's value is -/
def VlT (n : Nat) (f : Nat → Nat) (p : Nat) (v : Int64) : Prop := p < n → ((97 ≤ f p ∧ f p ≤ 122) → rnL n f 97 122 p ≤ 8 → v = lN (n32 f p (rnL n f 97 122 p))) ∧ ((48 ≤ f p ∧ f p ≤ 57) → rnL n f 48 57 p ≤ 4 → v = lN (nmN f p (rnL n f 48 57 p)))
theorem scanToken_ok {m : MM} {n i p : Nat} {f : Nat → Nat} (h : Tap m n f) (hi : i < 401) (hp : p ≤ n) : Runs e_X7_scanToken [.ref 5, .int (nI i), .int (nI p)] m (fun r m' => r = .int (nI (enT n f p)) ∧ (FrT i m m' ∧ m'.1 7 i = nI (kdT n f p) ∧ VlT n f p (m'.2.1 9 i))) := by
  have h2 := h.2.1
  have vi : vp_in (nI i) 401 := vp_in_nI hi (by omega)
  have f0 : FrT i m (wLg m 9 i 0) := (FrT.rf i m).v 0
  have t0 := f0.tap h
  refine b_X7_scanToken _ _ _ _ ?_
  rw [nI_clamp (by omega)]
  by_cases cn : p = n
  · obtain ⟨o, e⟩ := byteX_out h (show n ≤ p by omega) (by omega)
    refine ⟨o, vi, fun z => absurd e z, fun _ => ⟨vi, ?_, f0.k _, ?_, fun z => absurd z (by omega)⟩⟩
    · unfold enT; rw [if_pos (by omega)]
    · unfold kdT; rw [if_pos (by omega), wI_k, pk_us]; rfl
  · have hlt : p < n := by omega
    obtain ⟨o, e⟩ := byteX h hlt
    have hf := (h.2.2 p hlt).2
    have ne1 : ¬ nI (f p) = -1 := of_eq_false (s_neF (b := 1) (Or.inr (by omega)) (by omega) (by omega))
    rw [e]
    refine ⟨o, vi, fun _ => ⟨fun c1 => ?_, fun c1 => ⟨fun c2 => ?_, fun c2 => ?_⟩⟩, fun z => absurd z ne1⟩
    · have c1 : 97 ≤ f p ∧ f p ≤ 122 := (wthin_nI (p := f p) (lo := 97) (hi := 122) (by omega) (by omega) (by omega)).mp c1
      have hr := rnN_le (f := f) (lo := 97) (hi := 122) hp
      have ek : kdT n f p = if 8 < rnL n f 97 122 p then 41 else wkN f p (rnN n f 97 122 p) := by unfold kdT; rw [if_neg (by omega), if_pos c1]
      have ee : enT n f p = rnN n f 97 122 p := by unfold enT; rw [if_neg (by omega), if_pos c1]
      have hL : rnN n f 97 122 p - p = rnL n f 97 122 p := by unfold rnN; omega
      refine icall (pastRun_ok (lo := 97) (hi := 122) t0 hp (by omega) (by omega)) ?_
      rintro m1 rfl
      have hpk : ∃ P : Value → MM → Prop, Runs e_X7_packed [.ref 5, .int (nI p), .int (nI (rnN n f 97 122 p))] (wLg m 9 i 0) P ∧ ∀ (r2 : Int64) (m2 : MM), P (.long r2) m2 → r2 = pk5 f p (rnL n f 97 122 p) ∧ m2 = wLg m 9 i 0 := ⟨_, packed_ok t0 hr.1 hr.2, fun r2 m2 q => ⟨by rw [← hL]; exact Value.long.inj q.1, q.2⟩⟩
      obtain ⟨P, hP1, hP2⟩ := hpk
      refine ⟨P, hP1, fun r2 m2 q => ?_⟩
      obtain ⟨rfl, rfl⟩ := hP2 r2 m2 q
      rw [pk_sub hr.1, hL, show (8 : Int32) = nI 8 from rfl, nI_leI (by omega) (by omega)]
      have f1 : FrT i m (wLg (wLg m 9 i 0) 9 i (pk5 f p (rnL n f 97 122 p))) := f0.v _
      refine ⟨vi, fun c8 => ?_, fun c8 => ⟨vi, by rw [ee], f1.k _, ?_, ?_⟩⟩
      · refine icall (wordKind_ok (f1.tap h) hr.1 hr.2) ?_
        rintro m3 rfl
        refine ⟨vi, by rw [ee], f1.k _, ?_, fun _ => ⟨fun _ h8 => ?_, fun z => absurd z (by omega)⟩⟩
        · rw [wI_k, pk_us, ek, if_neg (by omega)]
        · show (wLg _ 9 i _).2.1 9 i = _
          rw [wL_k, pk_uLs, pk5_ok _ h8 fun j hj => rnN_in hj]
      · rw [wI_k, pk_us, ek, if_pos (by omega)]; rfl
      · exact fun _ => ⟨fun _ z => absurd z (by omega), fun z => absurd z (by omega)⟩
    · have c1 : ¬ (97 ≤ f p ∧ f p ≤ 122) := fun z => c1 ((wthin_nI (p := f p) (lo := 97) (hi := 122) (by omega) (by omega) (by omega)).mpr z)
      have c2 : 48 ≤ f p ∧ f p ≤ 57 := (wthin_nI (p := f p) (lo := 48) (hi := 57) (by omega) (by omega) (by omega)).mp c2
      have hr := rnN_le (f := f) (lo := 48) (hi := 57) hp
      have ek : kdT n f p = if 4 < rnL n f 48 57 p then 41 else 27 := by unfold kdT; rw [if_neg (by omega), if_neg c1, if_pos c2]
      have ee : enT n f p = rnN n f 48 57 p := by unfold enT; rw [if_neg (by omega), if_neg c1, if_pos c2]
      have hL : rnN n f 48 57 p - p = rnL n f 48 57 p := by unfold rnN; omega
      refine icall (pastRun_ok (lo := 48) (hi := 57) t0 hp (by omega) (by omega)) ?_
      rintro m1 rfl
      have hnum := number_ok t0 hr.1 hr.2
      rw [hL] at hnum
      refine icall hnum ?_
      rintro m2 rfl
      rw [pk_sub hr.1, hL, show (4 : Int32) = nI 4 from rfl, nI_leI (by omega) (by omega)]
      have f1 : FrT i m (wLg (wLg m 9 i 0) 9 i (nu10 f p (rnL n f 48 57 p)).toInt64) := f0.v _
      refine ⟨vi, fun c4 => ⟨vi, by rw [ee], f1.k _, ?_, fun _ => ⟨fun z => absurd z c1, fun _ h4 => ?_⟩⟩, fun c4 => ⟨vi, by rw [ee], f1.k _, ?_, fun _ => ⟨fun z => absurd z c1, fun _ z => absurd z (by omega)⟩⟩⟩
      · rw [wI_k, pk_us, ek, if_neg (by omega)]; rfl
      · have hb := nmN_lt (f := f) (p := p) (rnL n f 48 57 p) fun j hj => rnN_in hj
        have hb2 : 10 ^ rnL n f 48 57 p ≤ 10 ^ 4 := Nat.pow_le_pow_right (by decide) h4
        show (wLg _ 9 i _).2.1 9 i = _
        rw [wL_k, pk_uLs, nu10_ok _ fun j hj => rnN_in hj, nI_l (by omega)]
      · rw [wI_k, pk_us, ek, if_pos (by omega)]; rfl
    · have c1 : ¬ (97 ≤ f p ∧ f p ≤ 122) := fun z => c1 ((wthin_nI (p := f p) (lo := 97) (hi := 122) (by omega) (by omega) (by omega)).mpr z)
      have c2 : ¬ (48 ≤ f p ∧ f p ≤ 57) := fun z => c2 ((wthin_nI (p := f p) (lo := 48) (hi := 57) (by omega) (by omega) (by omega)).mpr z)
      have ek : kdT n f p = sgK (f p) (eqA n f (p + 1)) := by unfold kdT; rw [if_neg (by omega), if_neg c1, if_neg c2]
      have hb1 : o_X7_byteAt (wLg m 9 i 0) (nI (p + 1)) ∧ (v_X7_byteAt (wLg m 9 i 0) (nI (p + 1)) = 61 ↔ eqA n f (p + 1) = true) := by
        unfold eqA
        by_cases c : p + 1 < n
        · obtain ⟨o', e'⟩ := byteX t0 c
          have hf' := (h.2.2 _ c).2
          refine ⟨o', ?_⟩
          rw [e', show (61 : Int32) = nI 61 from rfl, nI_eq (by omega) (by omega), decide_eq_true c, Bool.true_and, decide_eq_true_iff]
        · obtain ⟨o', e'⟩ := byteX_out t0 (show n ≤ p + 1 by omega) (by omega)
          refine ⟨o', ?_⟩
          rw [e', decide_eq_false c]
          exact ⟨fun z => absurd z (by decide), fun z => by cases z⟩
      have es := signK_ok (wLg m 9 i 0) hf hb1.2
      have hsg : sgK (f p) (eqA n f (p + 1)) ≤ 41 := by
        unfold sgK
        cases eqA n f (p + 1) <;> simp only [cond_false, cond_true] <;> (repeat' split) <;> omega
      rw [nI_1, es]
      have ew : (wI (wLg m 9 i 0) 7 i (nI (sgK (f p) (eqA n f (p + 1))))).1 7 i = nI (sgK (f p) (eqA n f (p + 1))) := by rw [wI_k, pk_us]
      rw [ew]
      have cv : ∀ b : Nat, b < 100 → (nI (sgK (f p) (eqA n f (p + 1))) = nI b ↔ sgK (f p) (eqA n f (p + 1)) = b) := fun b hb => nI_eq (by omega) (by omega)
      have fin : ∀ q, q = enT n f p → Value.int (nI q) = .int (nI (enT n f p)) ∧ (FrT i m (wI (wLg m 9 i 0) 7 i (nI (sgK (f p) (eqA n f (p + 1))))) ∧ nI (sgK (f p) (eqA n f (p + 1))) = nI (kdT n f p) ∧ VlT n f p ((wI (wLg m 9 i 0) 7 i (nI (sgK (f p) (eqA n f (p + 1))))).2.1 9 i)) := fun q hq => ⟨by rw [hq], f0.k _, by rw [ek], fun _ => ⟨fun z => absurd z c1, fun z => absurd z c2⟩⟩
      have ee : enT n f p = if sgK (f p) (eqA n f (p + 1)) = 34 ∨ sgK (f p) (eqA n f (p + 1)) = 35 ∨ sgK (f p) (eqA n f (p + 1)) = 37 then p + 2 else p + 1 := by unfold enT; rw [if_neg (by omega), if_neg c1, if_neg c2]
      rw [show nI p + (2 : Int32) = nI (p + 2) from nI_add p 2]
      refine ⟨hb1.1, vi, vi, fun z => fin _ (by rw [ee, if_pos (Or.inl ((cv 34 (by omega)).mp z))]), fun z1 => ⟨vi, fun z => fin _ (by rw [ee, if_pos (Or.inr (Or.inl ((cv 35 (by omega)).mp z)))]), fun z2 => ⟨vi, fun z => fin _ ?_, fun z => fin _ (by rw [ee, if_pos (Or.inr (Or.inr ((cv 37 (by omega)).mp z)))])⟩⟩⟩
      rw [ee, if_neg]
      rintro (y | y | y)
      · exact z1 ((cv 34 (by omega)).mpr y)
      · exact z2 ((cv 35 (by omega)).mpr y)
      · exact z ((cv 37 (by omega)).mpr y)
/-- where token i begins, and where the reading goes on behind it -/
noncomputable def psT (n : Nat) (f : Nat → Nat) : Nat → Nat
  | 0 => 0
  | i + 1 => enT n f (skN n f (psT n f i))
noncomputable def stT (n : Nat) (f : Nat → Nat) (i : Nat) : Nat := skN n f (psT n f i)
noncomputable def kiT (n : Nat) (f : Nat → Nat) (i : Nat) : Nat := kdT n f (stT n f i)
def lastK (k : Nat) : Bool := k == 40 || k == 41
noncomputable def lsT (n : Nat) (f : Nat → Nat) (N : Nat) : Nat := fa_first (fun i => lastK (kiT n f i)) N
section
variable {n : Nat} {f : Nat → Nat}
theorem psT_le : ∀ i, psT n f i ≤ n
  | 0 => Nat.zero_le _
  | i + 1 => by
    have ih := psT_le i
    have hs := skN_le (f := f) ih
    rw [psT]
    by_cases c : skN n f (psT n f i) < n
    · exact (enT_le c).2
    · unfold enT
      rw [if_pos (by omega)]; exact hs.2
theorem stT_le (i : Nat) : psT n f i ≤ stT n f i ∧ stT n f i ≤ n := skN_le (psT_le i)
theorem stT_go {i : Nat} (h : stT n f i < n) : psT n f (i + 1) = enT n f (stT n f i) ∧ stT n f i < psT n f (i + 1) := ⟨rfl, (enT_le h).1⟩
theorem kiT_end {i : Nat} (h : ¬ kiT n f i = 40) : stT n f i < n := by
  rcases Nat.lt_or_ge (stT n f i) n with c | c
  · exact c
  · exact absurd (by unfold kiT kdT; rw [if_pos c]) h
theorem stT_up {i : Nat} (h : ∀ j, j < i → lastK (kiT n f j) = false) : i ≤ psT n f i := by
  induction i with
  | zero => exact Nat.zero_le _
  | succ i ih =>
    have ih := ih (fun j hj => h j (by omega))
    have hl := h i (by omega)
    have : ¬ kiT n f i = 40 := fun z => by rw [z] at hl; cases hl
    have hs := stT_le (n := n) (f := f) i
    have := (stT_go (kiT_end this)).2
    omega
end
/-- the class's tokens up to M -/
def TokX (m : MM) (n : Nat) (f : Nat → Nat) (M : Nat) : Prop := ∀ j, j < M → m.1 7 j = nI (kiT n f j) ∧ m.1 8 j = nI (stT n f j) ∧ VlT n f (stT n f j) (m.2.1 9 j)
theorem kdT_le {n : Nat} {f : Nat → Nat} {p : Nat} : kdT n f p ≤ 41 := by
  unfold kdT
  have hw : wkN f p (rnN n f 97 122 p) ≤ 26 := fa_first_le _ _
  have hsg : sgK (f p) (eqA n f (p + 1)) ≤ 41 := by
    unfold sgK
    cases eqA n f (p + 1) <;> simp only [cond_false, cond_true] <;> (repeat' split) <;> omega
  repeat' split
  all_goals omega
def FrS (m m' : MM) : Prop := m'.2.2 = m.2.2 ∧ (∀ x, x ≠ 7 → x ≠ 8 → x ≠ 5 → m'.1 x = m.1 x) ∧ (∀ y, y ≠ 5 → m'.1 5 y = m.1 5 y)
theorem scan_ok {m : MM} {n : Nat} {f : Nat → Nat} (h : Tap m n f) : Runs e_X7_scan [.ref 5] m (fun r m' => r = .null ∧ (FrS m m' ∧ m'.1 5 5 = nI (min 401 (lsT n f 401 + 1)) ∧ TokX m' n f (min 401 (lsT n f 401 + 1)))) := by
  have hn := h.2.1
  have hls := fa_first_le (fun i => lastK (kiT n f i)) 401
  have hno : ∀ j, j < lsT n f 401 → lastK (kiT n f j) = false := fun j hj => fa_first_no (fun i => lastK (kiT n f i)) 401 j hj
  have hlim : ∀ x, x = lsT n f 401 → x < 401 → lastK (kiT n f x) = true := fun x hx hl => by
    rw [hx]
    exact fa_first_yes (fun i => lastK (kiT n f i)) 401 (by rw [hx] at hl; exact hl)
  have hls' : lsT n f 401 ≤ 401 := hls
  generalize hLS : lsT n f 401 = LS at *
  apply b_X7_scan
  refine for_up (Y := e_X7_scan) (pc := 9) (fun i => [(0, .ref 5), (1, .int (nI (psT n f i))), (2, .int (nI i))]) (fun i m' => FrS m m' ∧ m'.1 5 5 = nI i ∧ TokX m' n f i) LS ?_ ?_ 0 _ (by omega) ⟨⟨rfl, fun x _ _ h5 => wI_o h5, fun y hy => by rw [wI_k, pk_un hy]⟩, by rw [wI_k, pk_us]; rfl, fun j hj => absurd hj (Nat.not_lt_zero _)⟩
  · -- the last of them
    rintro m1 ⟨q1, q2, q3⟩
    by_cases c : LS = 401
    · refine b_X7_scan_9 _ _ _ _ ⟨fun _ => ⟨rfl, q1, ?_, ?_⟩, fun z => absurd (by rw [c]; decide) z⟩
      · exact q2.trans (congrArg nI (by omega))
      · rw [show min 401 (LS + 1) = LS by omega]; exact q3
    · have hlt : LS < 401 := by omega
      have t1 : Tap m1 n f := ⟨by rw [q1.2.2 4 (by decide)]; exact h.1, hn, fun p hp => by rw [q1.2.1 6 (by decide) (by decide) (by decide)]; exact h.2.2 p hp⟩
      refine b_X7_scan_9 _ _ _ _ ⟨fun z => absurd z (nI_nlt (a := 400) (b := LS) (by omega) (by omega)), fun _ => icall (pastBlanks_ok t1 (psT_le _)) ?_⟩
      rintro m2 rfl
      rw [nI_clamp (by omega), wI_k, pk_us]
      have t2 : Tap (wI m2 8 LS (nI (skN n f (psT n f LS)))) n f := ⟨by rw [wI_o (by decide)]; exact t1.1, hn, fun p hp => by rw [wI_o (by decide)]; exact t1.2.2 p hp⟩
      refine ⟨vp_in_nI hlt (by omega), vp_in_nI hlt (by omega), icall (scanToken_ok t2 hlt (stT_le LS).2) ?_⟩
      rintro m3 ⟨g1, g2, g3⟩
      have g5 : m3.1 5 5 = nI LS := by rw [g1.2.1 5 5 (by omega), wI_o (by decide)]; exact q2
      have hl := hlim LS rfl hlt
      have hk := kdT_le (n := n) (f := f) (p := stT n f LS)
      have ek : (wI m3 5 5 (m3.1 5 5 + 1)).1 7 LS = nI (kiT n f LS) := by rw [wI_o (by decide)]; exact g2
      have fin : FrS m (wI m3 5 5 (m3.1 5 5 + 1)) ∧ (wI m3 5 5 (m3.1 5 5 + 1)).1 5 5 = nI (min 401 (LS + 1)) ∧ TokX (wI m3 5 5 (m3.1 5 5 + 1)) n f (min 401 (LS + 1)) := by
        refine ⟨⟨g1.1.trans q1.1, fun x h7 h8 h5 => ?_, fun y hy => ?_⟩, ?_, fun j hj => ?_⟩
        · rw [wI_o h5]
          funext y
          rw [g1.2.1 x y (by omega), wI_o h8, q1.2.1 x h7 h8 h5]
        · rw [wI_k, pk_un hy, g1.2.1 5 y (by omega), wI_o (by decide)]; exact q1.2.2 y hy
        · rw [wI_k, pk_us, g5, nI_1]; exact congrArg nI (by omega)
        · by_cases cj : j = LS
          · subst cj
            refine ⟨ek, ?_, g3⟩
            rw [wI_o (by decide), g1.2.1 8 j (by omega), wI_k, pk_us]; rfl
          · obtain ⟨a1, a2, a3⟩ := q3 j (by omega)
            refine ⟨?_, ?_, ?_⟩
            · rw [wI_o (by decide), g1.2.1 7 j (by omega), wI_o (by decide)]; exact a1
            · rw [wI_o (by decide), g1.2.1 8 j (by omega), wI_k, pk_un cj]; exact a2
            · show VlT n f (stT n f j) (m3.2.1 9 j)
              rw [g1.2.2.2 j cj]; exact a3
      rw [ek]
      refine ⟨vp_in_nI hlt (by omega), fun _ => ⟨rfl, fin⟩, fun z1 => ⟨vp_in_nI hlt (by omega), fun z2 => ?_, fun _ => ⟨rfl, fin⟩⟩⟩
      exfalso
      unfold lastK at hl
      simp only [Bool.or_eq_true, beq_iff_eq] at hl
      rcases hl with y | y
      · exact z1 (congrArg nI y)
      · exact z2 (congrArg nI y)
  · rintro i m1 hi ⟨q1, q2, q3⟩ hg
    have hlt : i < 401 := by omega
    have t1 : Tap m1 n f := ⟨by rw [q1.2.2 4 (by decide)]; exact h.1, hn, fun p hp => by rw [q1.2.1 6 (by decide) (by decide) (by decide)]; exact h.2.2 p hp⟩
    refine b_X7_scan_9 _ _ _ _ ⟨fun z => absurd z (nI_nlt (a := 400) (b := i) (by omega) (by omega)), fun _ => icall (pastBlanks_ok t1 (psT_le _)) ?_⟩
    rintro m2 rfl
    rw [nI_clamp (by omega), wI_k, pk_us]
    have t2 : Tap (wI m2 8 i (nI (skN n f (psT n f i)))) n f := ⟨by rw [wI_o (by decide)]; exact t1.1, hn, fun p hp => by rw [wI_o (by decide)]; exact t1.2.2 p hp⟩
    refine ⟨vp_in_nI hlt (by omega), vp_in_nI hlt (by omega), icall (scanToken_ok t2 hlt (stT_le i).2) ?_⟩
    rintro m3 ⟨g1, g2, g3⟩
    have g5 : m3.1 5 5 = nI i := by rw [g1.2.1 5 5 (by omega), wI_o (by decide)]; exact q2
    have hl := hno i hi
    have hk := kdT_le (n := n) (f := f) (p := stT n f i)
    have ek : (wI m3 5 5 (m3.1 5 5 + 1)).1 7 i = nI (kiT n f i) := by rw [wI_o (by decide)]; exact g2
    have n40 : ¬ nI (kiT n f i) = (40 : Int32) := fun z => by
      have z : kiT n f i = 40 := (nI_eq (b := 40) (by unfold kiT; omega) (by omega)).mp z
      rw [z] at hl; cases hl
    have n41 : ¬ nI (kiT n f i) = (41 : Int32) := fun z => by
      have z : kiT n f i = 41 := (nI_eq (b := 41) (by unfold kiT; omega) (by omega)).mp z
      rw [z] at hl; cases hl
    rw [ek, nI_1]
    refine ⟨vp_in_nI hlt (by omega), fun z => absurd z n40, fun _ => ⟨vp_in_nI hlt (by omega), fun _ => hg _ ⟨⟨g1.1.trans q1.1, fun x h7 h8 h5 => ?_, fun y hy => ?_⟩, ?_, fun j hj => ?_⟩, fun z => absurd z n41⟩⟩
    · rw [wI_o h5]
      funext y
      rw [g1.2.1 x y (by omega), wI_o h8, q1.2.1 x h7 h8 h5]
    · rw [wI_k, pk_un hy, g1.2.1 5 y (by omega), wI_o (by decide)]; exact q1.2.2 y hy
    · rw [wI_k, pk_us, g5, nI_1]
    · by_cases cj : j = i
      · subst cj
        refine ⟨ek, ?_, g3⟩
        rw [wI_o (by decide), g1.2.1 8 j (by omega), wI_k, pk_us]; rfl
      · obtain ⟨a1, a2, a3⟩ := q3 j (by omega)
        refine ⟨?_, ?_, ?_⟩
        · rw [wI_o (by decide), g1.2.1 7 j (by omega), wI_o (by decide)]; exact a1
        · rw [wI_o (by decide), g1.2.1 8 j (by omega), wI_k, pk_un cj]; exact a2
        · show VlT n f (stT n f j) (m3.2.1 9 j)
          rw [g1.2.2.2 j cj]; exact a3

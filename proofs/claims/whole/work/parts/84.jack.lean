/-! the knapsack of JACK -/
def mn (N : Nat) (f : Nat → Nat) (sz v : Nat) : Nat → Nat
  | 0 => N
  | k + 1 => if k * sz ≤ v then min (mn N f sz v k) (f (v - k * sz) + k) else mn N f sz v k
def mo (f : Nat → Nat) (t sz v : Nat) : Nat → Nat
  | 0 => 0
  | k + 1 => if k * sz ≤ v ∧ f (v - k * sz) + k = t then k else mo f t sz v k
def fw (N W : Nat) (ln pc : Nat → Nat) : Nat → Nat → Nat
  | 0, v => if v = 0 then 0 else N
  | d + 1, v => mn N (fw N W ln pc d) (ln (W - (d + 1))) v (pc (W - (d + 1)) + 1)
theorem mul_mono {k j sz v : Nat} (h : v < k * sz) (hj : k ≤ j) : v < j * sz := Nat.lt_of_lt_of_le h (Nat.mul_le_mul_right sz hj)
theorem mn_stop {N sz v k : Nat} {f : Nat → Nat} (h : v < k * sz) : ∀ j, k ≤ j → mn N f sz v j = mn N f sz v k
  | 0, hj => by
    obtain rfl : k = 0 := by omega
    rfl
  | j + 1, hj => by
    rcases Nat.lt_or_ge j k with c | c
    · obtain rfl : k = j + 1 := by omega
      rfl
    · show (if j * sz ≤ v then _ else _) = _
      rw [if_neg (Nat.not_le.mpr (mul_mono h c))]
      exact mn_stop h j c
theorem mo_stop {t sz v k : Nat} {f : Nat → Nat} (h : v < k * sz) : ∀ j, k ≤ j → mo f t sz v j = mo f t sz v k
  | 0, hj => by
    obtain rfl : k = 0 := by omega
    rfl
  | j + 1, hj => by
    rcases Nat.lt_or_ge j k with c | c
    · obtain rfl : k = j + 1 := by omega
      rfl
    · show (if j * sz ≤ v ∧ _ then _ else _) = _
      rw [if_neg (fun z => Nat.not_le.mpr (mul_mono h c) z.1)]
      exact mo_stop h j c
theorem mn_le {N sz v : Nat} {f : Nat → Nat} : ∀ k, mn N f sz v k ≤ N
  | 0 => Nat.le_refl _
  | k + 1 => by
    show (if k * sz ≤ v then min (mn N f sz v k) (f (v - k * sz) + k) else mn N f sz v k) ≤ N
    have := mn_le (N := N) (sz := sz) (v := v) (f := f) k
    split <;> omega
theorem mo_le {t sz v : Nat} {f : Nat → Nat} : ∀ k, mo f t sz v k * sz ≤ v ∧ (k = 0 ∨ mo f t sz v k < k)
  | 0 => ⟨by show 0 * sz ≤ v; omega, Or.inl rfl⟩
  | k + 1 => by
    have h := mo_le (t := t) (sz := sz) (v := v) (f := f) k
    show (if k * sz ≤ v ∧ f (v - k * sz) + k = t then k else mo f t sz v k) * sz ≤ v ∧ (k + 1 = 0 ∨ (if k * sz ≤ v ∧ f (v - k * sz) + k = t then k else mo f t sz v k) < k + 1)
    by_cases c : k * sz ≤ v ∧ f (v - k * sz) + k = t
    · rw [if_pos c]; exact ⟨c.1, Or.inr (by omega)⟩
    · rw [if_neg c]
      refine ⟨h.1, Or.inr ?_⟩
      rcases h.2 with z | z
      · subst z; exact Nat.zero_lt_one
      · omega
theorem fw_le {N W : Nat} {ln pc : Nat → Nat} : ∀ d v, fw N W ln pc d v ≤ N
  | 0, v => by
    show (if v = 0 then 0 else N) ≤ N
    split <;> omega
  | d + 1, v => mn_le _
/-- finite in one is finite in the other -/
def Fin2 (a b v : Nat) : Prop := (a = b ∧ a ≤ v) ∨ (a = 1000 ∧ b = 1000000)
theorem mn_rel {f g : Nat → Nat} {sz v : Nat} (hs : 1 ≤ sz) (h : ∀ u, u ≤ v → Fin2 (f u) (g u) u) (hv : v ≤ 99) : ∀ k, Fin2 (mn 1000 f sz v k) (mn 1000000 g sz v k) v
  | 0 => Or.inr ⟨rfl, rfl⟩
  | k + 1 => by
    have ih := mn_rel hs h hv k
    show Fin2 (if k * sz ≤ v then min (mn 1000 f sz v k) (f (v - k * sz) + k) else mn 1000 f sz v k) (if k * sz ≤ v then min (mn 1000000 g sz v k) (g (v - k * sz) + k) else mn 1000000 g sz v k) v
    by_cases c : k * sz ≤ v
    · rw [if_pos c, if_pos c]
      have hk : k ≤ k * sz := Nat.le_mul_of_pos_right k hs
      have := h (v - k * sz) (by omega)
      unfold Fin2 at *
      omega
    · rw [if_neg c, if_neg c]
      exact ih
theorem fw_rel {W : Nat} {ln pc : Nat → Nat} (hl : ∀ w, w < W → 1 ≤ ln w) : ∀ d, d ≤ W → ∀ v, v ≤ 99 → Fin2 (fw 1000 W ln pc d v) (fw 1000000 W ln pc d v) v
  | 0, _, v, hv => by
    show Fin2 (if v = 0 then 0 else 1000) (if v = 0 then 0 else 1000000) v
    by_cases c : v = 0
    · rw [if_pos c, if_pos c]; exact Or.inl ⟨rfl, Nat.zero_le _⟩
    · rw [if_neg c, if_neg c]; exact Or.inr ⟨rfl, rfl⟩
  | d + 1, hd, v, hv => mn_rel (hl _ (by omega)) (fun u hu => fw_rel hl d (by omega) u (by omega)) hv _
theorem imin_nI {a b : Nat} (ha : a < 2 ^ 31) (hb : b < 2 ^ 31) : imin (nI a) (nI b) = nI (min a b) := by
  unfold imin
  by_cases h : b < a
  · rw [if_pos (nI_lt h ha), Nat.min_eq_right (by omega)]
  · rw [if_neg (nI_nlt (by omega) hb), Nat.min_eq_left (by omega)]
theorem le_hundred {k sz : Nat} (hk : k ≤ 100) (hs : sz ≤ 60) : k * sz ≤ 6000 := Nat.mul_le_mul hk hs
theorem fewestC_ok {m : MM} {i v sz p : Nat} {f : Nat → Nat} (hi : i < 8) (hv : v ≤ 99) (hs : sz ≤ 60) (hp : p ≤ 99) (hf : ∀ u, u ≤ v → m.1 39 ((i + 1) * 100 + u) = nI (f u) ∧ f u ≤ 1000) : Runs e_X10_fewestFrom [.ref 38, .int (nI i), .int (nI v), .int (nI sz), .int (nI p)] m (fun r m' => r = .int (nI (mn 1000 f sz v (p + 1))) ∧ m' = m) := by
  apply b_X10_fewestFrom
  refine for_up (Y := e_X10_fewestFrom) (pc := 8) (fun k => [(0, .ref 38), (1, .int (nI i)), (2, .int (nI v)), (3, .int (nI sz)), (4, .int (nI p)), (5, .int (nI (mn 1000 f sz v k))), (6, .int (nI k))]) (fun k m' => m' = m) (p + 1) ?_ ?_ 0 m (by omega) rfl
  · rintro m' rfl
    apply b_X10_fewestFrom_8
    exact ⟨fun _ => ⟨rfl, rfl⟩, fun z => absurd (nI_lt (by omega) (by omega)) z⟩
  · rintro k m' hk rfl hg
    have hq : k * sz ≤ 6000 := le_hundred (by omega) hs
    have hle := mn_le (N := 1000) (f := f) (sz := sz) (v := v) k
    apply b_X10_fewestFrom_8
    by_cases c : k * sz ≤ v
    · obtain ⟨f1, f2⟩ := hf (v - k * sz) (by omega)
      have e : (i + 1) * 100 + v - k * sz = (i + 1) * 100 + (v - k * sz) := by omega
      simp (disch := omega) only [lin, nI_add, pk_mul, s_sub, s_addneg, s_leT, s_leF, s_ltT, s_ltF, s_eqF, s_inT, s_neF, s_neF', s_neE, s_nleT, s_nleF, s_nltF, s_nltT, eq_self, nI_clamp, s_wIk, s_wIo, pk_us, pk_un, Nat.reduceAdd, Nat.reduceMul, Nat.reduceSub, Nat.zero_add, Nat.add_zero, Nat.mul_zero, true_implies, false_implies, implies_true, not_true, not_false, and_true, true_and, not_true_eq_false, not_false_eq_true, forall_const, e, f1, imin_nI]
      have := hg m' rfl
      rw [show mn 1000 f sz v (k + 1) = min (mn 1000 f sz v k) (k + f (v - k * sz)) by
        show (if k * sz ≤ v then min (mn 1000 f sz v k) (f (v - k * sz) + k) else mn 1000 f sz v k) = _
        rw [if_pos c, Nat.add_comm]] at this
      exact this
    · have e := mn_stop (N := 1000) (f := f) (by omega : v < k * sz) (p + 1) (by omega)
      simp (disch := omega) only [lin, nI_add, pk_mul, s_sub, s_addneg, s_leT, s_leF, s_ltT, s_ltF, s_eqF, s_inT, s_neF, s_neF', s_neE, s_nleT, s_nleF, s_nltF, s_nltT, eq_self, nI_clamp, s_wIk, s_wIo, pk_us, pk_un, Nat.reduceAdd, Nat.reduceMul, Nat.reduceSub, Nat.zero_add, Nat.add_zero, Nat.mul_zero, true_implies, false_implies, implies_true, not_true, not_false, and_true, true_and, not_true_eq_false, not_false_eq_true, forall_const]
      rw [e]
theorem mostC_ok {m : MM} {i v sz p t : Nat} {f : Nat → Nat} (hi : i < 8) (hv : v ≤ 99) (hs : sz ≤ 60) (hp : p ≤ 99) (ht : t ≤ 1000) (e : m.1 39 (i * 100 + v) = nI t) (hf : ∀ u, u ≤ v → m.1 39 ((i + 1) * 100 + u) = nI (f u) ∧ f u ≤ 1000) : Runs e_X10_mostOf [.ref 38, .int (nI i), .int (nI v), .int (nI sz), .int (nI p)] m (fun r m' => r = .int (nI (mo f t sz v (p + 1))) ∧ m' = m) := by
  apply b_X10_mostOf
  refine for_up (Y := e_X10_mostOf) (pc := 6) (fun k => [(0, .ref 38), (1, .int (nI i)), (2, .int (nI v)), (3, .int (nI sz)), (4, .int (nI p)), (5, .int (nI (mo f t sz v k))), (6, .int (nI k))]) (fun k m' => m' = m) (p + 1) ?_ ?_ 0 m (by omega) rfl
  · rintro m' rfl
    apply b_X10_mostOf_6
    exact ⟨fun _ => ⟨rfl, rfl⟩, fun z => absurd (nI_lt (by omega) (by omega)) z⟩
  · rintro k m' hk rfl hg
    have hq : k * sz ≤ 6000 := le_hundred (by omega) hs
    apply b_X10_mostOf_6
    by_cases c : k * sz ≤ v
    · obtain ⟨f1, f2⟩ := hf (v - k * sz) (by omega)
      have e2 : (i + 1) * 100 + v - k * sz = (i + 1) * 100 + (v - k * sz) := by omega
      have this : G e_X10_mostOf 6 [(0, .ref 38), (1, .int (nI i)), (2, .int (nI v)), (3, .int (nI sz)), (4, .int (nI p)), (5, .int (nI (mo f t sz v (k + 1)))), (6, .int (nI (k + 1)))] [] m' (fun r m'' => r = .int (nI (mo f t sz v (p + 1))) ∧ m'' = m') := hg m' rfl
      have e3 : mo f t sz v (k + 1) = if k * sz ≤ v ∧ f (v - k * sz) + k = t then k else mo f t sz v k := rfl
      by_cases c2 : k + f (v - k * sz) = t
      · rw [if_pos ⟨c, by omega⟩] at e3
        rw [e3] at this
        simp (disch := omega) only [lin, nI_add, pk_mul, s_sub, s_addneg, s_leT, s_leF, s_ltT, s_ltF, s_eqF, s_inT, s_neF, s_neF', s_neE, s_nleT, s_nleF, s_nltF, s_nltT, eq_self, nI_clamp, s_wIk, s_wIo, pk_us, pk_un, Nat.reduceAdd, Nat.reduceMul, Nat.reduceSub, Nat.zero_add, Nat.add_zero, Nat.mul_zero, true_implies, false_implies, implies_true, not_true, not_false, and_true, true_and, not_true_eq_false, not_false_eq_true, forall_const, e2, f1, e, eq_true c2]
        subst c2
        simp (disch := omega) only [lin, nI_add, pk_mul, s_sub, s_addneg, s_leT, s_leF, s_ltT, s_ltF, s_eqF, s_inT, s_neF, s_neF', s_neE, s_nleT, s_nleF, s_nltF, s_nltT, eq_self, nI_clamp, s_wIk, s_wIo, pk_us, pk_un, Nat.reduceAdd, Nat.reduceMul, Nat.reduceSub, Nat.zero_add, Nat.add_zero, Nat.mul_zero, true_implies, false_implies, implies_true, not_true, not_false, and_true, true_and, not_true_eq_false, not_false_eq_true, forall_const]
        exact this
      · rw [if_neg (fun z => c2 (by omega))] at e3
        rw [e3] at this
        simp (disch := omega) only [lin, nI_add, pk_mul, s_sub, s_addneg, s_leT, s_leF, s_ltT, s_ltF, s_eqF, s_inT, s_neF, s_neF', s_neE, s_nleT, s_nleF, s_nltF, s_nltT, eq_self, nI_clamp, s_wIk, s_wIo, pk_us, pk_un, Nat.reduceAdd, Nat.reduceMul, Nat.reduceSub, Nat.zero_add, Nat.add_zero, Nat.mul_zero, true_implies, false_implies, implies_true, not_true, not_false, and_true, true_and, not_true_eq_false, not_false_eq_true, forall_const, e2, f1, e]
        exact this
    · have e2 := mo_stop (f := f) (t := t) (by omega : v < k * sz) (p + 1) (by omega)
      simp (disch := omega) only [lin, nI_add, pk_mul, s_sub, s_addneg, s_leT, s_leF, s_ltT, s_ltF, s_eqF, s_inT, s_neF, s_neF', s_neE, s_nleT, s_nleF, s_nltF, s_nltT, eq_self, nI_clamp, s_wIk, s_wIo, pk_us, pk_un, Nat.reduceAdd, Nat.reduceMul, Nat.reduceSub, Nat.zero_add, Nat.add_zero, Nat.mul_zero, true_implies, false_implies, implies_true, not_true, not_false, and_true, true_and, not_true_eq_false, not_false_eq_true, forall_const]
      rw [e2]

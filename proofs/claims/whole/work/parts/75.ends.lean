/-! ends -/
def mkV (c : Nat → Nat → Int32) (h N k : Nat) : Bool := decide (lK c k = nI 1) && (!SV c N k && decide (lA c k = nI h))
def tN (c : Nat → Nat → Int32) (k : Nat) : Nat := (lC c k).toNatClampNeg
def yN (c : Nat → Nat → Int32) (k : Nat) : Nat := (lB c k).toNatClampNeg
/-- the mark k is against an earlier one -/
def ctV (c : Nat → Nat → Int32) (h N r k : Nat) : Bool := anyV (fun j => mkV c h N j && decide (r * dN (yN c j) (yN c k) < dN (tN c j) (tN c k))) k
def ctA (c : Nat → Nat → Int32) (h N r k : Nat) : Nat → Bool := anyV (fun j => mkV c h N j && decide (r * dN (yN c j) (yN c k) < dN (tN c j) (tN c k)))
def esV (c : Nat → Nat → Int32) (h N r y : Nat) : Nat → Option (Int32 × Int32)
  | 0 => some (0, 99)
  | k + 1 => match esV c h N r y k with
    | none => none
    | some (lo, hi) => bif mkV c h N k then (bif ctV c h N r k then none else some (imax lo (nI (tN c k) - nI (r * dN y (yN c k))), imin hi (nI (tN c k) + nI (r * dN y (yN c k))))) else some (lo, hi)
theorem esV_S (c : Nat → Nat → Int32) (h N r y k : Nat) : esV c h N r y (k + 1) = match esV c h N r y k with
    | none => none
    | some (lo, hi) => bif mkV c h N k then (bif ctV c h N r k then none else some (imax lo (nI (tN c k) - nI (r * dN y (yN c k))), imin hi (nI (tN c k) + nI (r * dN y (yN c k))))) else some (lo, hi) := rfl
theorem esV_none {c : Nat → Nat → Int32} {h N r y k : Nat} : ∀ {n : Nat}, esV c h N r y k = none → k ≤ n → esV c h N r y n = none
  | 0, e, hk => by
    have : k = 0 := by omega
    subst this; exact e
  | n + 1, e, hk => by
    by_cases q : k = n + 1
    · subst q; exact e
    · rw [esV_S, esV_none (n := n) e (by omega)]
def esI (r : Option (Int32 × Int32)) : Int32 := match r with
  | none => -nI 2
  | some (lo, hi) => if lo ≤ hi then 100 * lo + hi else -nI 2
theorem dN_s (x y : Nat) : dN x y = dN y x := by
  unfold dN
  split <;> split <;> omega
theorem mk_at {c : Nat → Nat → Int32} {s H O N h n k : Nat} (hl : ∀ i, i < N → LogS c s H O i) (hk : k < N) (hm : mkV c h n k = true) : ∃ y z : Nat, y ≤ 99 ∧ z ≤ 99 ∧ lA c k = nI h ∧ lB c k = nI y ∧ lC c k = nI z ∧ yN c k = y ∧ tN c k = z ∧ lK c k = nI 1 ∧ SV c n k = false := by
  unfold mkV at hm
  rw [Bool.and_eq_true, Bool.and_eq_true] at hm
  have e0 := of_decide_eq_true hm.1
  have e1 := of_decide_eq_true hm.2.2
  have e2 : SV c n k = false := by have := hm.2.1; simpa using this
  rcases (hl k hk).2 with ⟨e, -⟩ | ⟨e, x, y, z, hx, hy, hz, a1, a2, a3⟩ | ⟨e, -⟩
  · rw [e] at e0; exact absurd e0 (by decide)
  · refine ⟨y, z, hy, hz, e1, a2, a3, ?_, ?_, e0, e2⟩
    · unfold yN; rw [a2, nI_clamp (by omega)]
    · unfold tN; rw [a3, nI_clamp (by omega)]
  · rw [e] at e0; exact absurd e0 (by decide)
section Ends
variable {mm : MM} {s H O N n h : Nat}
theorem isMark_iff (hs : isS s) (hl : ∀ i, i < N → LogS mm.1 s H O i) (hN : N ≤ 60) {k : Nat} (hk : k < N) (m : MM) (hm : Kq mm m) (hst : ∀ k, k < 60 → m.1 (s + 7 + 5) k = bI (SV mm.1 n k)) : o_X2_isMarkOf m (s + 7) (nI k) (nI h) ∧ (p_X2_isMarkOf m (s + 7) (nI k) (nI h) ↔ mkV mm.1 h n k = true) := by
  obtain ⟨⟨r1, r2, r3, r4⟩, -⟩ := hl k hk
  have v := vp_in_nI (n := k) (N := 60) (by omega) (by omega)
  unfold o_X2_isMarkOf p_X2_isMarkOf mkV
  rw [nI_clamp (show k < 2 ^ 31 by omega), hm.lg hs 1 (by omega), hm.lg hs 2 (by omega), r1, r2, hst k (by omega), bI_eq]
  refine ⟨⟨v, fun _ => trivial, fun _ => ⟨v, fun _ => trivial, fun _ => ⟨v, fun _ => trivial, fun _ => trivial⟩⟩⟩, ?_⟩
  rw [Bool.and_eq_true, Bool.and_eq_true, decide_eq_true_iff, decide_eq_true_iff]
  simp only [Bool.not_eq_true']
  exact Iff.rfl
theorem contra_ok (hs : isS s) (hl : ∀ i, i < N → LogS mm.1 s H O i) (hN : N ≤ 60) {k r : Nat} (hk : k < N) (hr : r ≤ 99) (hmk : mkV mm.1 h n k = true) (m : MM) (hm : Kq mm m) (hst : ∀ k, k < 60 → m.1 (s + 7 + 5) k = bI (SV mm.1 n k)) :
    Runs e_X2_contradicted [.ref (s + 7), .int (nI k), .int (nI r)] m (fun x m' => x = .int (bI (ctV mm.1 h n r k)) ∧ m' = m) := by
  have hL := hs.at.logs
  obtain ⟨y, z, hy, hz, a1, a2, a3, a4, a5, -, -⟩ := mk_at hl hk hmk
  obtain ⟨⟨r1, r2, r3, r4⟩, -⟩ := hl k hk
  have vk := vp_in_nI (n := k) (N := 60) (by omega) (by omega)
  apply b_X2_contradicted _ _ _ _ _ hL
  refine for_up (fun q => [(0, .ref (s + 7)), (1, .int (nI k)), (2, .int (nI r)), (3, .int (nI q))]) (fun q m' => m' = m ∧ ctA mm.1 h n r k q = false) k ?_ ?_ 0 _ (Nat.zero_le _) ⟨rfl, rfl⟩
  · rintro m' ⟨rfl, hno⟩
    apply b_X2_contradicted_2 _ _ _ _ _ _ hL
    have e : ctV mm.1 h n r k = false := hno
    exact ⟨fun _ => ⟨by rw [e]; rfl, rfl⟩, fun z => absurd (nI_le (Nat.le_refl k) (by omega)) z⟩
  · rintro q m' hq ⟨rfl, hno⟩ hk2
    have hS : ctA mm.1 h n r k (q + 1) = (ctA mm.1 h n r k q || (mkV mm.1 h n q && decide (r * dN (yN mm.1 q) (yN mm.1 k) < dN (tN mm.1 q) (tN mm.1 k)))) := rfl
    obtain ⟨i1, i2⟩ := isMark_iff (h := h) hs hl hN (show q < N by omega) m' hm hst
    obtain ⟨⟨s1, s2, s3, s4⟩, -⟩ := hl q (by omega)
    have vq := vp_in_nI (n := q) (N := 60) (by omega) (by omega)
    apply b_X2_contradicted_2 _ _ _ _ _ _ hL
    rw [nI_clamp (show q < 2 ^ 31 by omega), nI_clamp (show k < 2 ^ 31 by omega), hm.lg hs 2 (by omega), hm.lg hs 3 (by omega), hm.lg hs 4 (by omega), r2, r3, r4, s3, s4, a1, a2, a3, nI_1 q]
    refine ⟨fun z => absurd z (nI_ge hq (by omega)), fun _ => ⟨vk, i1, fun p => ?_, fun p => hk2 m' ⟨rfl, ?_⟩⟩⟩
    · obtain ⟨y', z', hy', hz', b1, b2, b3, b4, b5, -, -⟩ := mk_at hl (show q < N by omega) (i2.mp p)
      rw [b2, b3, sd_abs (by omega) (by omega), sd_abs (by omega) (by omega)]
      have d1 : (if z ≤ z' then z' - z else z - z') = dN (tN mm.1 q) (tN mm.1 k) := by rw [b5, a5]; rfl
      have d2 : (if y ≤ y' then y' - y else y - y') = dN (yN mm.1 q) (yN mm.1 k) := by rw [b4, a4]; rfl
      have e1 : dN (tN mm.1 q) (tN mm.1 k) ≤ 99 := by rw [b5, a5]; unfold dN; split <;> omega
      have e2 : dN (yN mm.1 q) (yN mm.1 k) ≤ 99 := by rw [b4, a4]; unfold dN; split <;> omega
      have e3 : r * dN (yN mm.1 q) (yN mm.1 k) ≤ 99 * 99 := Nat.mul_le_mul hr e2
      rw [d1, d2, pk_mul, nI_leI (by omega) (by omega)]
      refine ⟨vq, vk, vq, vk, fun w => hk2 m' ⟨rfl, ?_⟩, fun w => ⟨?_, rfl⟩⟩
      · rw [hS, hno, decide_eq_false (by omega), Bool.and_false]; rfl
      · have : ctV mm.1 h n r k = true := anyV_yes (p := fun j => mkV mm.1 h n j && decide (r * dN (yN mm.1 j) (yN mm.1 k) < dN (tN mm.1 j) (tN mm.1 k))) (k := q) (by simp only [i2.mp p, decide_eq_true (Nat.lt_of_not_le w), Bool.and_self]) hq
        rw [this]; rfl
    · rw [hS, hno, Bool.eq_false_iff.mpr (fun e => p (i2.mpr e))]; rfl
theorem endsOf_ok (hs : isS s) (hl : ∀ i, i < N → LogS mm.1 s H O i) (hN : N ≤ 60) (eN : mm.1 (s + 7) 6 = nI N) {r y : Nat} (hn : n ≤ N) (hr : r ≤ 99) (hy : y ≤ 99) (m : MM) (hm : Kq mm m) :
    Runs e_X2_endsOf [.ref (s + 7), .int (nI h), .int (nI y), .int (nI r), .int (nI n)] m (fun x m' => x = .int (esI (esV mm.1 h n r y n)) ∧ Kq mm m') := by
  have hL := hs.at.logs
  apply b_X2_endsOf _ _ _ _ _ _ _ hL
  refine vcall (strike_ok hs hN eN hl hn m hm) ?_
  rintro m1 ⟨q1, q2⟩
  refine loop_mu (σ := Nat × Int32 × Int32) (fun q => [(0, .ref (s + 7)), (1, .int (nI h)), (2, .int (nI y)), (3, .int (nI r)), (4, .int (nI n)), (5, .int q.2.1), (6, .int q.2.2), (7, .int (nI q.1))]) (fun q m => Kq mm m ∧ (∀ k, k < 60 → m.1 (s + 7 + 5) k = bI (SV mm.1 n k)) ∧ q.1 ≤ n ∧ esV mm.1 h n r y q.1 = some (q.2.1, q.2.2)) (fun q => n - q.1) ?_ (0, 0, 99) m1 ⟨q1, q2, Nat.zero_le _, rfl⟩
  rintro ⟨k, lo, hi⟩ m ⟨k1, k2, k3, k4⟩ hk
  have k3 : k ≤ n := k3
  have k4 : esV mm.1 h n r y k = some (lo, hi) := k4
  apply b_X2_endsOf_16 _ _ _ _ _ _ _ _ _ _ hL
  have e0 : m.1 (s + 7) 6 = nI N := by rw [show m.1 (s + 7) = mm.1 (s + 7) from k1.lg hs 0 (by omega)]; exact eN
  by_cases hkn : k = n
  · subst hkn
    refine ⟨fun _ => ?_, fun z => absurd (nI_le (Nat.le_refl k) (by omega)) z⟩
    rw [k4]
    refine ⟨fun z => ⟨?_, k1⟩, fun z => ⟨?_, k1⟩⟩
    · show _ = Value.int (if lo ≤ hi then 100 * lo + hi else -nI 2)
      rw [if_pos z]
    · show _ = Value.int (if lo ≤ hi then 100 * lo + hi else -nI 2)
      rw [if_neg z]; rfl
  · have hlt : k < n := by omega
    have vk := vp_in_nI (n := k) (N := 60) (by omega) (by omega)
    obtain ⟨i1, i2⟩ := isMark_iff (h := h) hs hl hN (show k < N by omega) m k1 k2
    have hS := esV_S mm.1 h n r y k
    rw [k4] at hS
    simp only at hS
    rw [e0, nI_1 k, nI_clamp (show k < 2 ^ 31 by omega)]
    refine ⟨fun z => absurd z (nI_ge hlt (by omega)), fun _ => ⟨fun z => absurd z (nI_ge (show k < N by omega) (by omega)), fun _ => ⟨i1, fun p => ?_, fun p => ?_⟩⟩⟩
    · have p := i2.mp p
      obtain ⟨y', z', hy', hz', b1, b2, b3, b4, b5, -, -⟩ := mk_at hl (show k < N by omega) p
      obtain ⟨⟨s1, s2, s3, s4⟩, -⟩ := hl k (by omega)
      rw [p, cond_true] at hS
      refine bcall (contra_ok hs hl hN (show k < N by omega) hr p m k1 k2) ?_ ?_
      · rintro el m2 rfl
        rw [el, cond_true] at hS
        rw [esV_none hS (show k + 1 ≤ n by omega)]
        exact ⟨rfl, k1⟩
      · rintro el m2 rfl
        rw [el, cond_false] at hS
        rw [k1.lg hs 3 (by omega), k1.lg hs 4 (by omega), s3, s4, b2, b3, sd_abs (by omega) (by omega), pk_mul]
        have d2 : (if y' ≤ y then y - y' else y' - y) = dN y (yN mm.1 k) := by rw [b4]; rfl
        rw [d2]
        refine ⟨vk, vk, vk, ?_⟩
        rw [b5] at hS
        exact hk (k + 1, _, _) m2 ⟨k1, k2, by show k + 1 ≤ n; omega, hS⟩ (by show n - (k + 1) < n - k; omega)
    · rw [Bool.eq_false_iff.mpr (fun e => p (i2.mpr e)), cond_false] at hS
      exact hk (k + 1, lo, hi) m ⟨k1, k2, by show k + 1 ≤ n; omega, hS⟩ (by show n - (k + 1) < n - k; omega)
theorem apart_v (m : MM) {a b : Nat} (ha : a < 2 ^ 29) (hb : b < 2 ^ 29) : v_X12_apart m (nI a) (nI b) = nI (dN a b) := by
  unfold v_X12_apart dN
  by_cases h : a ≤ b
  · rw [cite_pos (nI_le h (by omega)), s_sub h]
    by_cases h2 : b ≤ a
    · have : a = b := by omega
      subst this; simp
    · rw [if_neg h2]
  · rw [cite_neg (nI_ge (by omega) (by omega)), s_sub (by omega), if_pos (by omega)]
theorem endsM_ok (hl : ∀ i, i < N → LogS mm.1 s H O i) (hN : N ≤ 60) {r y : Nat} (hn : n ≤ N) (hr : r ≤ 99) (hy : y ≤ 99) (m : MM) (hm : Kq mm m) :
    G e_X12_ends 49 [(0, .ref 156), (1, .int (nI h)), (2, .int (nI y)), (3, .int (nI r)), (4, .int (nI n)), (5, .int (0 : Int32)), (6, .int (99 : Int32)), (7, .int (0 : Int32))] [] m (fun x m' => x = .int (esI (esV mm.1 h n r y n)) ∧ Kq mm m') := by
  refine loop_mu (σ := Nat × Int32 × Int32) (fun q => [(0, .ref 156), (1, .int (nI h)), (2, .int (nI y)), (3, .int (nI r)), (4, .int (nI n)), (5, .int q.2.1), (6, .int q.2.2), (7, .int (nI q.1))]) (fun q m => Kq mm m ∧ q.1 ≤ n ∧ esV mm.1 h n r y q.1 = some (q.2.1, q.2.2)) (fun q => n - q.1) ?_ (0, 0, 99) m ⟨hm, Nat.zero_le _, rfl⟩
  rintro ⟨k, lo, hi⟩ m ⟨k1, k3, k4⟩ hk
  have k3 : k ≤ n := k3
  have k4 : esV mm.1 h n r y k = some (lo, hi) := k4
  apply b_X12_ends_49
  by_cases hkn : k = n
  · subst hkn
    refine ⟨fun _ => ?_, fun z => absurd (nI_le (Nat.le_refl k) (by omega)) z⟩
    rw [k4]
    refine ⟨fun z => ⟨?_, k1⟩, fun z => ⟨?_, k1⟩⟩
    · show _ = Value.int (if lo ≤ hi then 100 * lo + hi else -nI 2)
      rw [if_pos z]
    · show _ = Value.int (if lo ≤ hi then 100 * lo + hi else -nI 2)
      rw [if_neg z]; rfl
  · have hlt : k < n := by omega
    have hS := esV_S mm.1 h n r y k
    rw [k4] at hS
    simp only at hS
    have i0 : (180 : Int32) + 4 * nI k = nI (180 + 4 * k) := by simp (disch := omega) only [lin, nI_add, pk_mul, s_sub, s_addneg, s_leT, s_leF, s_ltT, s_ltF, s_eqF, s_inT, s_neF, s_neF', s_neE, s_nleT, s_nleF, s_nltF, s_nltT, eq_self, nI_clamp, s_wIk, s_wIo, pk_us, pk_un, Nat.reduceAdd, Nat.reduceMul, Nat.reduceSub, Nat.zero_add, Nat.add_zero, Nat.mul_zero, true_implies, false_implies, implies_true, not_true, not_false, and_true, true_and, not_true_eq_false, not_false_eq_true, forall_const]
    have i1 : (nI (180 + 4 * k)).toNatClampNeg = 180 + 4 * k := by simp (disch := omega) only [lin, nI_add, pk_mul, s_sub, s_addneg, s_leT, s_leF, s_ltT, s_ltF, s_eqF, s_inT, s_neF, s_neF', s_neE, s_nleT, s_nleF, s_nltF, s_nltT, eq_self, nI_clamp, s_wIk, s_wIo, pk_us, pk_un, Nat.reduceAdd, Nat.reduceMul, Nat.reduceSub, Nat.zero_add, Nat.add_zero, Nat.mul_zero, true_implies, false_implies, implies_true, not_true, not_false, and_true, true_and, not_true_eq_false, not_false_eq_true, forall_const]
    have i2 : (nI (180 + 4 * k) + 1).toNatClampNeg = 180 + 4 * k + 1 := by simp (disch := omega) only [lin, nI_add, pk_mul, s_sub, s_addneg, s_leT, s_leF, s_ltT, s_ltF, s_eqF, s_inT, s_neF, s_neF', s_neE, s_nleT, s_nleF, s_nltF, s_nltT, eq_self, nI_clamp, s_wIk, s_wIo, pk_us, pk_un, Nat.reduceAdd, Nat.reduceMul, Nat.reduceSub, Nat.zero_add, Nat.add_zero, Nat.mul_zero, true_implies, false_implies, implies_true, not_true, not_false, and_true, true_and, not_true_eq_false, not_false_eq_true, forall_const]
    have i3 : (nI (180 + 4 * k) + 2).toNatClampNeg = 180 + 4 * k + 2 := by simp (disch := omega) only [lin, nI_add, pk_mul, s_sub, s_addneg, s_leT, s_leF, s_ltT, s_ltF, s_eqF, s_inT, s_neF, s_neF', s_neE, s_nleT, s_nleF, s_nltF, s_nltT, eq_self, nI_clamp, s_wIk, s_wIo, pk_us, pk_un, Nat.reduceAdd, Nat.reduceMul, Nat.reduceSub, Nat.zero_add, Nat.add_zero, Nat.mul_zero, true_implies, false_implies, implies_true, not_true, not_false, and_true, true_and, not_true_eq_false, not_false_eq_true, forall_const]
    have i4 : (nI (180 + 4 * k) + 3).toNatClampNeg = 180 + 4 * k + 3 := by simp (disch := omega) only [lin, nI_add, pk_mul, s_sub, s_addneg, s_leT, s_leF, s_ltT, s_ltF, s_eqF, s_inT, s_neF, s_neF', s_neE, s_nleT, s_nleF, s_nltF, s_nltT, eq_self, nI_clamp, s_wIk, s_wIo, pk_us, pk_un, Nat.reduceAdd, Nat.reduceMul, Nat.reduceSub, Nat.zero_add, Nat.add_zero, Nat.mul_zero, true_implies, false_implies, implies_true, not_true, not_false, and_true, true_and, not_true_eq_false, not_false_eq_true, forall_const]
    have v1 : vp_in (nI (180 + 4 * k)) 1260 := by simp (disch := omega) only [lin, nI_add, pk_mul, s_sub, s_addneg, s_leT, s_leF, s_ltT, s_ltF, s_eqF, s_inT, s_neF, s_neF', s_neE, s_nleT, s_nleF, s_nltF, s_nltT, eq_self, nI_clamp, s_wIk, s_wIo, pk_us, pk_un, Nat.reduceAdd, Nat.reduceMul, Nat.reduceSub, Nat.zero_add, Nat.add_zero, Nat.mul_zero, true_implies, false_implies, implies_true, not_true, not_false, and_true, true_and, not_true_eq_false, not_false_eq_true, forall_const]
    have v2 : vp_in (nI (180 + 4 * k) + 1) 1260 := by simp (disch := omega) only [lin, nI_add, pk_mul, s_sub, s_addneg, s_leT, s_leF, s_ltT, s_ltF, s_eqF, s_inT, s_neF, s_neF', s_neE, s_nleT, s_nleF, s_nltF, s_nltT, eq_self, nI_clamp, s_wIk, s_wIo, pk_us, pk_un, Nat.reduceAdd, Nat.reduceMul, Nat.reduceSub, Nat.zero_add, Nat.add_zero, Nat.mul_zero, true_implies, false_implies, implies_true, not_true, not_false, and_true, true_and, not_true_eq_false, not_false_eq_true, forall_const]
    have v3 : vp_in (nI (180 + 4 * k) + 2) 1260 := by simp (disch := omega) only [lin, nI_add, pk_mul, s_sub, s_addneg, s_leT, s_leF, s_ltT, s_ltF, s_eqF, s_inT, s_neF, s_neF', s_neE, s_nleT, s_nleF, s_nltF, s_nltT, eq_self, nI_clamp, s_wIk, s_wIo, pk_us, pk_un, Nat.reduceAdd, Nat.reduceMul, Nat.reduceSub, Nat.zero_add, Nat.add_zero, Nat.mul_zero, true_implies, false_implies, implies_true, not_true, not_false, and_true, true_and, not_true_eq_false, not_false_eq_true, forall_const]
    have v4 : vp_in (nI (180 + 4 * k) + 3) 1260 := by simp (disch := omega) only [lin, nI_add, pk_mul, s_sub, s_addneg, s_leT, s_leF, s_ltT, s_ltF, s_eqF, s_inT, s_neF, s_neF', s_neE, s_nleT, s_nleF, s_nltF, s_nltT, eq_self, nI_clamp, s_wIk, s_wIo, pk_us, pk_un, Nat.reduceAdd, Nat.reduceMul, Nat.reduceSub, Nat.zero_add, Nat.add_zero, Nat.mul_zero, true_implies, false_implies, implies_true, not_true, not_false, and_true, true_and, not_true_eq_false, not_false_eq_true, forall_const]
    have skip : mkV mm.1 h n k = false → ∀ m', Kq mm m' → _ := fun e m' hm' => hk (k + 1, lo, hi) m' ⟨hm', by show k + 1 ≤ n; omega, by rw [e] at hS; exact hS⟩ (by show n - (k + 1) < n - k; omega)
    rw [i0, i1, i2, i3, i4, k1.r163, nI_1 k]
    refine ⟨fun z => absurd z (nI_ge hlt (by omega)), fun _ => ⟨v1, fun d1 => skip ?_ m k1, fun d1 => ⟨v2, fun d2 => skip ?_ m k1, fun d2 => ?_⟩⟩⟩
    · unfold mkV; rw [decide_eq_false (show ¬ lK mm.1 k = nI 1 from d1)]; rfl
    · unfold mkV; rw [decide_eq_false (show ¬ lA mm.1 k = nI h from d2), Bool.and_false, Bool.and_false]
    refine bcall (isLive_ok hN hl hn hlt m k1) ?_ ?_
    · intro el m1 q1
      have hmk : mkV mm.1 h n k = true := by unfold mkV; rw [decide_eq_true (show lK mm.1 k = nI 1 from d1), el, decide_eq_true (show lA mm.1 k = nI h from d2)]; rfl
      obtain ⟨y', z', hy', hz', b1, b2, b3, b4, b5, -, -⟩ := mk_at hl (show k < N by omega) hmk
      have b2 : mm.1 163 (180 + 4 * k + 2) = nI y' := b2
      have b3 : mm.1 163 (180 + 4 * k + 3) = nI z' := b3
      rw [hmk, cond_true] at hS
      have e2 : dN y y' ≤ 99 := by unfold dN; split <;> omega
      have e3 : r * dN y y' ≤ 99 * 99 := Nat.mul_le_mul hr e2
      rw [q1.r163, b2, b3, apart_v m1 (by omega) (by omega), pk_mul, dN_s y' y]
      -- the inner loop, whatever the ends are now
      have inner : ∀ (lo' hi' : Int32), lo' = imax lo (nI z' - nI (r * dN y y')) → hi' = imin hi (nI z' + nI (r * dN y y')) → G e_X12_ends 186 [(0, .ref 156), (1, .int (nI h)), (2, .int (nI y)), (3, .int (nI r)), (4, .int (nI n)), (5, .int lo'), (6, .int hi'), (7, .int (nI k)), (8, .int (nI (180 + 4 * k))), (10, .int (0 : Int32))] [] m1 (fun x m' => x = .int (esI (esV mm.1 h n r y n)) ∧ Kq mm m') := by
        intro lo' hi' elo ehi
        refine for_up (fun q => [(0, .ref 156), (1, .int (nI h)), (2, .int (nI y)), (3, .int (nI r)), (4, .int (nI n)), (5, .int lo'), (6, .int hi'), (7, .int (nI k)), (8, .int (nI (180 + 4 * k))), (10, .int (nI q))]) (fun q m => Kq mm m ∧ ctA mm.1 h n r k q = false) k ?_ ?_ 0 _ (Nat.zero_le _) ⟨q1, rfl⟩
        · rintro m ⟨k5, hno⟩
          have e : ctV mm.1 h n r k = false := hno
          rw [e, cond_false, b4, b5] at hS
          apply b_X12_ends_186
          rw [nI_1 k]
          refine ⟨fun _ => ?_, fun z => absurd (nI_le (Nat.le_refl k) (by omega)) z⟩
          refine hk (k + 1, lo', hi') m ⟨k5, by show k + 1 ≤ n; omega, ?_⟩ (by show n - (k + 1) < n - k; omega)
          rw [elo, ehi]
          exact hS
        · rintro q m hq ⟨k5, hno⟩ hk2
          have hSc : ctA mm.1 h n r k (q + 1) = (ctA mm.1 h n r k q || (mkV mm.1 h n q && decide (r * dN (yN mm.1 q) (yN mm.1 k) < dN (tN mm.1 q) (tN mm.1 k)))) := rfl
          have j1 : ((180 : Int32) + 4 * nI q).toNatClampNeg = 180 + 4 * q := by simp (disch := omega) only [lin, nI_add, pk_mul, s_sub, s_addneg, s_leT, s_leF, s_ltT, s_ltF, s_eqF, s_inT, s_neF, s_neF', s_neE, s_nleT, s_nleF, s_nltF, s_nltT, eq_self, nI_clamp, s_wIk, s_wIo, pk_us, pk_un, Nat.reduceAdd, Nat.reduceMul, Nat.reduceSub, Nat.zero_add, Nat.add_zero, Nat.mul_zero, true_implies, false_implies, implies_true, not_true, not_false, and_true, true_and, not_true_eq_false, not_false_eq_true, forall_const]
          have j2 : ((180 : Int32) + 4 * nI q + 1).toNatClampNeg = 180 + 4 * q + 1 := by simp (disch := omega) only [lin, nI_add, pk_mul, s_sub, s_addneg, s_leT, s_leF, s_ltT, s_ltF, s_eqF, s_inT, s_neF, s_neF', s_neE, s_nleT, s_nleF, s_nltF, s_nltT, eq_self, nI_clamp, s_wIk, s_wIo, pk_us, pk_un, Nat.reduceAdd, Nat.reduceMul, Nat.reduceSub, Nat.zero_add, Nat.add_zero, Nat.mul_zero, true_implies, false_implies, implies_true, not_true, not_false, and_true, true_and, not_true_eq_false, not_false_eq_true, forall_const]
          have j3 : ((180 : Int32) + 4 * nI q + 2).toNatClampNeg = 180 + 4 * q + 2 := by simp (disch := omega) only [lin, nI_add, pk_mul, s_sub, s_addneg, s_leT, s_leF, s_ltT, s_ltF, s_eqF, s_inT, s_neF, s_neF', s_neE, s_nleT, s_nleF, s_nltF, s_nltT, eq_self, nI_clamp, s_wIk, s_wIo, pk_us, pk_un, Nat.reduceAdd, Nat.reduceMul, Nat.reduceSub, Nat.zero_add, Nat.add_zero, Nat.mul_zero, true_implies, false_implies, implies_true, not_true, not_false, and_true, true_and, not_true_eq_false, not_false_eq_true, forall_const]
          have j4 : ((180 : Int32) + 4 * nI q + 3).toNatClampNeg = 180 + 4 * q + 3 := by simp (disch := omega) only [lin, nI_add, pk_mul, s_sub, s_addneg, s_leT, s_leF, s_ltT, s_ltF, s_eqF, s_inT, s_neF, s_neF', s_neE, s_nleT, s_nleF, s_nltF, s_nltT, eq_self, nI_clamp, s_wIk, s_wIo, pk_us, pk_un, Nat.reduceAdd, Nat.reduceMul, Nat.reduceSub, Nat.zero_add, Nat.add_zero, Nat.mul_zero, true_implies, false_implies, implies_true, not_true, not_false, and_true, true_and, not_true_eq_false, not_false_eq_true, forall_const]
          have w1 : vp_in ((180 : Int32) + 4 * nI q) 1260 := by simp (disch := omega) only [lin, nI_add, pk_mul, s_sub, s_addneg, s_leT, s_leF, s_ltT, s_ltF, s_eqF, s_inT, s_neF, s_neF', s_neE, s_nleT, s_nleF, s_nltF, s_nltT, eq_self, nI_clamp, s_wIk, s_wIo, pk_us, pk_un, Nat.reduceAdd, Nat.reduceMul, Nat.reduceSub, Nat.zero_add, Nat.add_zero, Nat.mul_zero, true_implies, false_implies, implies_true, not_true, not_false, and_true, true_and, not_true_eq_false, not_false_eq_true, forall_const]
          have w2 : vp_in ((180 : Int32) + 4 * nI q + 1) 1260 := by simp (disch := omega) only [lin, nI_add, pk_mul, s_sub, s_addneg, s_leT, s_leF, s_ltT, s_ltF, s_eqF, s_inT, s_neF, s_neF', s_neE, s_nleT, s_nleF, s_nltF, s_nltT, eq_self, nI_clamp, s_wIk, s_wIo, pk_us, pk_un, Nat.reduceAdd, Nat.reduceMul, Nat.reduceSub, Nat.zero_add, Nat.add_zero, Nat.mul_zero, true_implies, false_implies, implies_true, not_true, not_false, and_true, true_and, not_true_eq_false, not_false_eq_true, forall_const]
          have w3 : vp_in ((180 : Int32) + 4 * nI q + 2) 1260 := by simp (disch := omega) only [lin, nI_add, pk_mul, s_sub, s_addneg, s_leT, s_leF, s_ltT, s_ltF, s_eqF, s_inT, s_neF, s_neF', s_neE, s_nleT, s_nleF, s_nltF, s_nltT, eq_self, nI_clamp, s_wIk, s_wIo, pk_us, pk_un, Nat.reduceAdd, Nat.reduceMul, Nat.reduceSub, Nat.zero_add, Nat.add_zero, Nat.mul_zero, true_implies, false_implies, implies_true, not_true, not_false, and_true, true_and, not_true_eq_false, not_false_eq_true, forall_const]
          have w4 : vp_in ((180 : Int32) + 4 * nI q + 3) 1260 := by simp (disch := omega) only [lin, nI_add, pk_mul, s_sub, s_addneg, s_leT, s_leF, s_ltT, s_ltF, s_eqF, s_inT, s_neF, s_neF', s_neE, s_nleT, s_nleF, s_nltF, s_nltT, eq_self, nI_clamp, s_wIk, s_wIo, pk_us, pk_un, Nat.reduceAdd, Nat.reduceMul, Nat.reduceSub, Nat.zero_add, Nat.add_zero, Nat.mul_zero, true_implies, false_implies, implies_true, not_true, not_false, and_true, true_and, not_true_eq_false, not_false_eq_true, forall_const]
          apply b_X12_ends_186
          rw [j1, j2, j3, j4, i3, i4, k5.r163, nI_1 q]
          refine ⟨fun z => absurd z (nI_ge hq (by omega)), fun _ => ⟨w1, fun d3 => hk2 m ⟨k5, ?_⟩, fun d3 => ⟨w2, fun d4 => hk2 m ⟨k5, ?_⟩, fun d4 => ?_⟩⟩⟩
          · rw [hSc, hno]; unfold mkV; rw [decide_eq_false (show ¬ lK mm.1 q = nI 1 from d3)]; rfl
          · rw [hSc, hno]; unfold mkV; rw [decide_eq_false (show ¬ lA mm.1 q = nI h from d4), Bool.and_false, Bool.and_false]; rfl
          refine bcall (isLive_ok hN hl hn (show q < n by omega) m k5) ?_ ?_
          · intro el2 m2 q2
            have hmq : mkV mm.1 h n q = true := by unfold mkV; rw [decide_eq_true (show lK mm.1 q = nI 1 from d3), el2, decide_eq_true (show lA mm.1 q = nI h from d4)]; rfl
            obtain ⟨y'', z'', hy'', hz'', c1, c2, c3, c4, c5, -, -⟩ := mk_at hl (show q < N by omega) hmq
            have c2 : mm.1 163 (180 + 4 * q + 2) = nI y'' := c2
            have c3 : mm.1 163 (180 + 4 * q + 3) = nI z'' := c3
            have f1 : dN z'' z' ≤ 99 := by unfold dN; split <;> omega
            have f2 : dN y'' y' ≤ 99 := by unfold dN; split <;> omega
            have f3 : r * dN y'' y' ≤ 99 * 99 := Nat.mul_le_mul hr f2
            rw [q2.r163, b2, b3, c2, c3, apart_v m2 (by omega) (by omega), apart_v m2 (by omega) (by omega), pk_mul, nI_leI (by omega) (by omega)]
            refine ⟨w4, v4, w3, v3, fun w => hk2 m2 ⟨q2, ?_⟩, fun w => ⟨?_, q2⟩⟩
            · rw [hSc, hno, c4, c5, b4, b5, decide_eq_false (by omega), Bool.and_false]; rfl
            · have : ctV mm.1 h n r k = true := anyV_yes (p := fun j => mkV mm.1 h n j && decide (r * dN (yN mm.1 j) (yN mm.1 k) < dN (tN mm.1 j) (tN mm.1 k))) (k := q) (by simp only [hmq, c4, c5, b4, b5, decide_eq_true (Nat.lt_of_not_le w), Bool.and_self]) hq
              rw [this, cond_true] at hS
              rw [esV_none hS (show k + 1 ≤ n by omega)]
              rfl
          · intro el2 m2 q2
            refine hk2 m2 ⟨q2, ?_⟩
            rw [hSc, hno]; unfold mkV; rw [el2, Bool.false_and, Bool.and_false]; rfl
      refine ⟨v3, v4, fun z => ⟨v4, fun z2 => inner lo hi ?_ ?_, fun z2 => ⟨v4, inner lo _ ?_ ?_⟩⟩, fun z => ⟨v4, v4, fun z2 => inner _ hi ?_ ?_, fun z2 => ⟨v4, inner _ _ ?_ ?_⟩⟩⟩
      · unfold imax; rw [if_neg (Int32.not_lt.mpr z)]
      · unfold imin; rw [if_neg (Int32.not_lt.mpr z2)]
      · unfold imax; rw [if_neg (Int32.not_lt.mpr z)]
      · unfold imin; rw [if_pos (Int32.not_le.mp z2)]
      · unfold imax; rw [if_pos (Int32.not_le.mp z)]
      · unfold imin; rw [if_neg (Int32.not_lt.mpr z2)]
      · unfold imax; rw [if_pos (Int32.not_le.mp z)]
      · unfold imin; rw [if_pos (Int32.not_le.mp z2)]
    · intro el m1 q1
      exact skip (by unfold mkV; rw [el, Bool.false_and, Bool.and_false]) m1 q1
end Ends
theorem st_ends (a b d e : Int32) : StepOK RR e_X11_ends e_X12_ends [.int a, .int b, .int d, .int e] := by
  apply step_q
  rintro mm ⟨t, s, H, O, S, Qn, W, C, J, F, B, ht, hs, hr, hb, -⟩
  obtain ⟨z1, z2, z3, z4, z5, z6, z7, z8, z9⟩ := hb.sz
  obtain ⟨n1, n2, n3, n4, n5, n6, n7, n8, n9⟩ := hb.nm
  obtain ⟨c1, c2, c3, c4, c5, c6, c7, c8, c9, c10⟩ := hb.nc
  have rf := Kp.rf (kp := kq) mm
  obtain ⟨N, l1, l2, l3, hl⟩ := hb.logs
  obtain ⟨o1, o2⟩ := isH_X (a := a) ht hr c1 z1
  obtain ⟨o5, o6⟩ := isK_X (a := e) hs.s hr l3 l1
  have m1 := fun (m : MM) (k : Kq mm m) => isH_M (a := a) ((k.g 162 0 rfl).trans n1) z1
  have m3 := fun (m : MM) (k : Kq mm m) => isK_M (a := e) ((k.g 163 2 rfl).trans l2) l1
  by_cases h1 : inR a H
  · by_cases h2 : inR b 100
    · by_cases h3 : inR d 100
      · by_cases h4 : inR e (N + 1)
        · obtain ⟨h, hh, rfl⟩ := id h1
          obtain ⟨y, hy, rfl⟩ := id h2
          obtain ⟨r, hr', rfl⟩ := id h3
          obtain ⟨n, hn, rfl⟩ := id h4
          refine ⟨.int (esI (esV mm.1 h n r y n)), ?_, fun m k => ?_⟩
          · apply b_X11_ends
            rw [hr.2.1]
            simp only [true_implies, false_implies, not_true, not_false_eq_true, not_false, implies_true, and_true, true_and, not_true_eq_false, forall_const, eq_self, o1, o2, o5, o6, w99_X, h1, h2, h3, h4]
            exact ⟨hs.s.at, icall (endsOf_ok hs.s hl l1 l3 (by omega) (by omega) (by omega) mm rf) fun m k => ⟨rfl, k⟩⟩
          · apply b_X12_ends
            simp only [true_implies, false_implies, not_true, not_false_eq_true, not_false, implies_true, and_true, true_and, not_true_eq_false, forall_const, eq_self, m1 m k, m3 m k, isIn_M, h1, h2, h3, h4]
            exact endsM_ok hl l1 (by omega) (by omega) (by omega) m k
        · refine ⟨.int (-1), ?_, fun m k => ?_⟩
          · apply b_X11_ends
            simp only [true_implies, false_implies, not_true, not_false_eq_true, not_false, implies_true, and_true, true_and, not_true_eq_false, forall_const, eq_self, o1, o2, o5, o6, w99_X, h1, h2, h3, h4]
            exact rf
          · apply b_X12_ends
            simp only [true_implies, false_implies, not_true, not_false_eq_true, not_false, implies_true, and_true, true_and, not_true_eq_false, forall_const, eq_self, m1 m k, m3 m k, isIn_M, h1, h2, h3, h4]
            exact k
      · refine ⟨.int (-1), ?_, fun m k => ?_⟩
        · apply b_X11_ends
          simp only [true_implies, false_implies, not_true, not_false_eq_true, not_false, implies_true, and_true, true_and, not_true_eq_false, forall_const, eq_self, o1, o2, w99_X, h1, h2, h3]
          exact rf
        · apply b_X12_ends
          simp only [true_implies, false_implies, not_true, not_false_eq_true, not_false, implies_true, and_true, true_and, not_true_eq_false, forall_const, eq_self, m1 m k, isIn_M, h1, h2, h3]
          exact k
    · refine ⟨.int (-1), ?_, fun m k => ?_⟩
      · apply b_X11_ends
        simp only [true_implies, false_implies, not_true, not_false_eq_true, not_false, implies_true, and_true, true_and, not_true_eq_false, forall_const, eq_self, o1, o2, w99_X, h1, h2]
        exact rf
      · apply b_X12_ends
        simp only [true_implies, false_implies, not_true, not_false_eq_true, not_false, implies_true, and_true, true_and, not_true_eq_false, forall_const, eq_self, m1 m k, isIn_M, h1, h2]
        exact k
  · refine ⟨.int (-1), ?_, fun m k => ?_⟩
    · apply b_X11_ends
      simp only [true_implies, false_implies, not_true, not_false_eq_true, not_false, implies_true, and_true, true_and, not_true_eq_false, forall_const, eq_self, o1, o2, h1]
      exact rf
    · apply b_X12_ends
      simp only [true_implies, false_implies, not_true, not_false_eq_true, not_false, implies_true, and_true, true_and, not_true_eq_false, forall_const, eq_self, m1 m k, h1]
      exact k

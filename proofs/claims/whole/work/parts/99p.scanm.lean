/-! the model's scanning -/
def c27T : List Nat := [4562600, 218546996, 257, 10492029, 349972, 464053, 1952902, 197651, 3217420, 1489, 400334, 3488, 390796, 117630947, 355412, 247162, 24, 168984, 7214732, 459652, 149099, 110319223, 249, 423, 1111, 10631]
def wmT : List Nat := [0, 1, 2, 3, 5, 6, 7, 9, 32, 33, 30, 31, 21, 13, 14, 15, 16, 17, 18, 19, 20, 4, 8, 12, 11, 10]
def wdI (N : Nat) : Int32 := if N = 4562600 then 0 else if N = 218546996 then 1 else if N = 257 then 2 else if N = 10492029 then 3 else if N = 110319223 then 4 else if N = 349972 then 5 else if N = 464053 then 6 else if N = 1952902 then 7 else if N = 249 then 8 else if N = 197651 then 9 else if N = 10631 then 10 else if N = 1111 then 11 else if N = 423 then 12 else if N = 117630947 then 13 else if N = 355412 then 14 else if N = 247162 then 15 else if N = 24 then 16 else if N = 168984 then 17 else if N = 7214732 then 18 else if N = 459652 then 19 else if N = 149099 then 20 else if N = 390796 then 21 else if N = 400334 then 30 else if N = 3488 then 31 else if N = 3217420 then 32 else if N = 1489 then 33 else -1
theorem c27_ok : ∀ k : Nat, k < 26 → n27 (chN k) 0 (strLen.getD k 0) = c27T.getD k 0 := by decide +kernel
theorem wd_yes : ∀ k : Nat, k < 26 → wdI (c27T.getD k 0) = nI (wmT.getD k 0) := by decide +kernel
theorem wd_no {N : Nat} (h : ∀ k, k < 26 → ¬ N = c27T.getD k 0) : wdI N = -1 := by
  unfold wdI
  rw [if_neg (show ¬ N = 4562600 from h 0 (by omega)), if_neg (show ¬ N = 218546996 from h 1 (by omega)), if_neg (show ¬ N = 257 from h 2 (by omega)), if_neg (show ¬ N = 10492029 from h 3 (by omega)), if_neg (show ¬ N = 110319223 from h 21 (by omega)), if_neg (show ¬ N = 349972 from h 4 (by omega)), if_neg (show ¬ N = 464053 from h 5 (by omega)), if_neg (show ¬ N = 1952902 from h 6 (by omega)), if_neg (show ¬ N = 249 from h 22 (by omega)), if_neg (show ¬ N = 197651 from h 7 (by omega)), if_neg (show ¬ N = 10631 from h 25 (by omega)), if_neg (show ¬ N = 1111 from h 24 (by omega)), if_neg (show ¬ N = 423 from h 23 (by omega)), if_neg (show ¬ N = 117630947 from h 13 (by omega)), if_neg (show ¬ N = 355412 from h 14 (by omega)), if_neg (show ¬ N = 247162 from h 15 (by omega)), if_neg (show ¬ N = 24 from h 16 (by omega)), if_neg (show ¬ N = 168984 from h 17 (by omega)), if_neg (show ¬ N = 7214732 from h 18 (by omega)), if_neg (show ¬ N = 459652 from h 19 (by omega)), if_neg (show ¬ N = 149099 from h 20 (by omega)), if_neg (show ¬ N = 390796 from h 12 (by omega)), if_neg (show ¬ N = 400334 from h 10 (by omega)), if_neg (show ¬ N = 3488 from h 11 (by omega)), if_neg (show ¬ N = 3217420 from h 8 (by omega)), if_neg (show ¬ N = 1489 from h 9 (by omega))]
theorem n27_inj {f g : Nat → Nat} {p q : Nat} : ∀ a b, (∀ i, i < a → 97 ≤ f (p + i) ∧ f (p + i) ≤ 122) → (∀ i, i < b → 97 ≤ g (q + i) ∧ g (q + i) ≤ 122) → n27 f p a = n27 g q b → a = b ∧ ∀ i, i < a → f (p + i) = g (q + i)
  | 0, 0, _, _, _ => ⟨rfl, fun i hi => absurd hi (Nat.not_lt_zero _)⟩
  | 0, b + 1, _, hg, e => by
    have h := hg b (by omega)
    rw [n27, n27] at e
    omega
  | a + 1, 0, hf, _, e => by
    have h := hf a (by omega)
    rw [n27, n27] at e
    omega
  | a + 1, b + 1, hf, hg, e => by
    have h1 := hf a (by omega)
    have h2 := hg b (by omega)
    rw [n27, n27] at e
    have e1 : n27 f p a = n27 g q b := by omega
    have e2 : f (p + a) = g (q + b) := by omega
    obtain ⟨r1, r2⟩ := n27_inj a b (fun i hi => hf i (by omega)) (fun i hi => hg i (by omega)) e1
    refine ⟨by omega, fun i hi => ?_⟩
    by_cases c : i = a
    · subst c; rw [r1]; rw [← r1] at e2; rw [r1] at e2; exact e2
    · exact r2 i (by omega)
theorem n32_inj {f g : Nat → Nat} {p q : Nat} : ∀ a b, (∀ i, i < a → 97 ≤ f (p + i) ∧ f (p + i) ≤ 122) → (∀ i, i < b → 97 ≤ g (q + i) ∧ g (q + i) ≤ 122) → n32 f p a = n32 g q b → a = b ∧ ∀ i, i < a → f (p + i) = g (q + i)
  | 0, 0, _, _, _ => ⟨rfl, fun i hi => absurd hi (Nat.not_lt_zero _)⟩
  | 0, b + 1, _, hg, e => by
    have h := hg b (by omega)
    rw [n32, n32] at e
    omega
  | a + 1, 0, hf, _, e => by
    have h := hf a (by omega)
    rw [n32, n32] at e
    omega
  | a + 1, b + 1, hf, hg, e => by
    have h1 := hf a (by omega)
    have h2 := hg b (by omega)
    rw [n32, n32] at e
    have e1 : n32 f p a = n32 g q b := by omega
    have e2 : f (p + a) = g (q + b) := by omega
    obtain ⟨r1, r2⟩ := n32_inj a b (fun i hi => hf i (by omega)) (fun i hi => hg i (by omega)) e1
    refine ⟨by omega, fun i hi => ?_⟩
    by_cases c : i = a
    · subst c; rw [r1]; rw [← r1] at e2; rw [r1] at e2; exact e2
    · exact r2 i (by omega)
theorem n27_cong {f g : Nat → Nat} {p q : Nat} : ∀ a, (∀ i, i < a → f (p + i) = g (q + i)) → n27 f p a = n27 g q a
  | 0, _ => rfl
  | a + 1, h => by rw [n27, n27, n27_cong a (fun i hi => h i (by omega)), h a (by omega)]
theorem n32_cong {f g : Nat → Nat} {p q : Nat} : ∀ a, (∀ i, i < a → f (p + i) = g (q + i)) → n32 f p a = n32 g q a
  | 0, _ => rfl
  | a + 1, h => by rw [n32, n32, n32_cong a (fun i hi => h i (by omega)), h a (by omega)]
/-- two names are the same in the one packing as in the other -/
theorem nm_same {f g : Nat → Nat} {p q a b : Nat} (hf : ∀ i, i < a → 97 ≤ f (p + i) ∧ f (p + i) ≤ 122) (hg : ∀ i, i < b → 97 ≤ g (q + i) ∧ g (q + i) ≤ 122) : n32 f p a = n32 g q b ↔ n27 f p a = n27 g q b := by
  constructor
  · intro h
    obtain ⟨rfl, e⟩ := n32_inj a b hf hg h
    exact n27_cong a e
  · intro h
    obtain ⟨rfl, e⟩ := n27_inj a b hf hg h
    exact n32_cong a e
theorem sp_iff {f : Nat → Nat} {k p e : Nat} (hk : k < 26) (hf : ∀ i, i < e - p → 97 ≤ f (p + i) ∧ f (p + i) ≤ 122) : spP f k p e ↔ n27 f p (e - p) = c27T.getD k 0 := by
  have h7 := s_small k (by omega)
  have hg : ∀ i, i < strLen.getD k 0 → 97 ≤ chN k (0 + i) ∧ chN k (0 + i) ≤ 122 := fun i hi => by
    rw [Nat.zero_add]
    exact (ch_ok k (by omega) i (by omega) hi).2
  rw [← c27_ok k hk]
  constructor
  · rintro ⟨h1, h2⟩
    rw [← h1]
    exact n27_cong _ fun i hi => by rw [Nat.zero_add]; exact h2 i hi
  · intro h
    obtain ⟨h1, h2⟩ := n27_inj _ _ hf hg h
    exact ⟨h1.symm, fun j hj => by have := h2 j (by omega); rwa [Nat.zero_add] at this⟩
theorem wd_ok {f : Nat → Nat} {p e : Nat} (hf : ∀ i, i < e - p → 97 ≤ f (p + i) ∧ f (p + i) ≤ 122) : wkN f p e ≤ 26 ∧ wdI (n27 f p (e - p)) = if wkN f p e = 26 then -1 else nI (wmT.getD (wkN f p e) 0) := by
  have hle : wkN f p e ≤ 26 := fa_first_le _ _
  refine ⟨hle, ?_⟩
  by_cases c : wkN f p e = 26
  · rw [if_pos c]
    refine wd_no fun k hk z => ?_
    have h1 := fa_first_no (fun k => spB f k p e) 26 k (by unfold wkN at c; omega)
    have h1 : spB f k p e = false := h1
    rw [spB_t ((sp_iff hk hf).mpr z)] at h1
    cases h1
  · rw [if_neg c]
    have hlt : wkN f p e < 26 := by omega
    have h1 : spB f (wkN f p e) p e = true := fa_first_yes (fun k => spB f k p e) 26 hlt
    have h2 : spP f (wkN f p e) p e := by
      rcases Classical.em (spP f (wkN f p e) p e) with z | z
      · exact z
      · rw [spB_f z] at h1; cases h1
    rw [(sp_iff hlt hf).mp h2]
    exact wd_yes _ hlt
theorem cite_ite {α : Type} {p : Prop} [Decidable p] {a b : α} : cite p a b = if p then a else b := by
  by_cases c : p
  · rw [cite_pos c, if_pos c]
  · rw [cite_neg c, if_neg c]
theorem cite_w {N : Nat} (hN : N < 2 ^ 63) {k : Nat} (hk : k < 2 ^ 63) {L : Int64} (hL : L = lN k) {a b b' : Int32} (h : b = b') : cite (lg_cmp (lN N) L = 0) a b = if N = k then a else b' := by
  subst hL h
  have e : (lg_cmp (lN N) (lN k) = 0) ↔ N = k := (lg_cmp_eq _ _).trans (pk_lEQ hN hk)
  by_cases c : N = k
  · rw [if_pos c, cite_pos (e.mpr c)]
  · rw [if_neg c, cite_neg (fun z => c (e.mp z))]
theorem wordOf_ok (m : MM) {N : Nat} (hN : N < 2 ^ 63) : v_X12_wordOf m (lN N) = wdI N := by
  unfold v_X12_wordOf wdI
  exact cite_w hN (k := 4562600) (Nat.le_of_ble_eq_true rfl) rfl (cite_w hN (k := 218546996) (Nat.le_of_ble_eq_true rfl) rfl (cite_w hN (k := 257) (Nat.le_of_ble_eq_true rfl) rfl (cite_w hN (k := 10492029) (Nat.le_of_ble_eq_true rfl) rfl (cite_w hN (k := 110319223) (Nat.le_of_ble_eq_true rfl) rfl (cite_w hN (k := 349972) (Nat.le_of_ble_eq_true rfl) rfl (cite_w hN (k := 464053) (Nat.le_of_ble_eq_true rfl) rfl (cite_w hN (k := 1952902) (Nat.le_of_ble_eq_true rfl) rfl (cite_w hN (k := 249) (Nat.le_of_ble_eq_true rfl) rfl (cite_w hN (k := 197651) (Nat.le_of_ble_eq_true rfl) rfl (cite_w hN (k := 10631) (Nat.le_of_ble_eq_true rfl) rfl (cite_w hN (k := 1111) (Nat.le_of_ble_eq_true rfl) rfl (cite_w hN (k := 423) (Nat.le_of_ble_eq_true rfl) rfl (cite_w hN (k := 117630947) (Nat.le_of_ble_eq_true rfl) rfl (cite_w hN (k := 355412) (Nat.le_of_ble_eq_true rfl) rfl (cite_w hN (k := 247162) (Nat.le_of_ble_eq_true rfl) rfl (cite_w hN (k := 24) (Nat.le_of_ble_eq_true rfl) rfl (cite_w hN (k := 168984) (Nat.le_of_ble_eq_true rfl) rfl (cite_w hN (k := 7214732) (Nat.le_of_ble_eq_true rfl) rfl (cite_w hN (k := 459652) (Nat.le_of_ble_eq_true rfl) rfl (cite_w hN (k := 149099) (Nat.le_of_ble_eq_true rfl) rfl (cite_w hN (k := 390796) (Nat.le_of_ble_eq_true rfl) rfl (cite_w hN (k := 400334) (Nat.le_of_ble_eq_true rfl) rfl (cite_w hN (k := 3488) (Nat.le_of_ble_eq_true rfl) rfl (cite_w hN (k := 3217420) (Nat.le_of_ble_eq_true rfl) rfl (cite_w hN (k := 1489) (Nat.le_of_ble_eq_true rfl) rfl (rfl))))))))))))))))))))))))))
def TapM (m : MM) (n : Nat) (f : Nat → Nat) : Prop := m.1 156 0 = nI n ∧ n ≤ 2000 ∧ ∀ p, p < n → m.1 157 p = nI (f p) ∧ f p < 256
def byM (n : Nat) (f : Nat → Nat) (p : Nat) : Nat := if p < n then f p else 0
section
variable {m : MM} {n p : Nat} {f : Nat → Nat}
theorem byM_lt (h : TapM m n f) : byM n f p < 256 := by
  unfold byM
  by_cases c : p < n
  · rw [if_pos c]; exact (h.2.2 p c).2
  · rw [if_neg c]; omega
theorem byteM (h : TapM m n f) (hp : p < 2 ^ 30) : o_X12_byteAt m (nI p) ∧ v_X12_byteAt m (nI p) = nI (byM n f p) := by
  obtain ⟨h1, h2, h3⟩ := h
  unfold o_X12_byteAt v_X12_byteAt byM
  rw [h1, nI_clamp (by omega)]
  by_cases c : p < n
  · rw [if_pos c, cite_neg (nI_ge c (by omega)), (h3 p c).1]
    exact ⟨⟨fun z => absurd z (nI_ge c (by omega)), fun _ => ⟨vp_in_nI (by omega) (by omega), trivial⟩⟩, rfl⟩
  · rw [if_neg c, cite_pos (nI_le (by omega) (by omega))]
    exact ⟨⟨fun _ => trivial, fun z => absurd (nI_le (by omega) (by omega)) z⟩, rfl⟩
theorem letter_ok (h : TapM m n f) (hp : p < 2 ^ 30) : o_X12_isLetter m (nI p) ∧ (p_X12_isLetter m (nI p) ↔ (97 ≤ byM n f p ∧ byM n f p ≤ 122)) := by
  obtain ⟨o, e⟩ := byteM h hp
  have hb := byM_lt (p := p) h
  unfold o_X12_isLetter p_X12_isLetter
  rw [e, show (97 : Int32) = nI 97 from rfl, show (122 : Int32) = nI 122 from rfl, nI_ltI (by omega) (by omega), nI_ltI (by omega) (by omega)]
  exact ⟨⟨o, fun _ => trivial, fun _ => ⟨o, fun _ => trivial, fun _ => trivial⟩⟩, by omega⟩
theorem digit_ok (h : TapM m n f) (hp : p < 2 ^ 30) : o_X12_isDigit m (nI p) ∧ (p_X12_isDigit m (nI p) ↔ (48 ≤ byM n f p ∧ byM n f p ≤ 57)) := by
  obtain ⟨o, e⟩ := byteM h hp
  have hb := byM_lt (p := p) h
  unfold o_X12_isDigit p_X12_isDigit
  rw [e, show (48 : Int32) = nI 48 from rfl, show (57 : Int32) = nI 57 from rfl, nI_ltI (by omega) (by omega), nI_ltI (by omega) (by omega)]
  exact ⟨⟨o, fun _ => trivial, fun _ => ⟨o, fun _ => trivial, fun _ => trivial⟩⟩, by omega⟩
end
def sgM (b : Nat) (e : Bool) : Nat := if b = 61 then (bif e then 300 else 61) else if b = 33 then (bif e then 301 else 0) else if b = 60 then (bif e then 302 else 60) else if b = 59 ∨ b = 43 ∨ b = 45 ∨ b = 42 ∨ b = 47 ∨ b = 40 ∨ b = 41 then b else 0
theorem signM_ok {m : MM} {n p : Nat} {f : Nat → Nat} (h : TapM m n f) (hp : p < n) : o_X12_signAt m (nI p) ∧ v_X12_signAt m (nI p) = nI (sgM (f p) (eqA n f (p + 1))) := by
  have h2 := h.2.1
  obtain ⟨o1, e1⟩ := byteM (p := p) h (by omega)
  obtain ⟨o2, e2⟩ := byteM (p := p + 1) h (by omega)
  have hb := (h.2.2 p hp).2
  have hb2 := byM_lt (p := p + 1) h
  have e1' : byM n f p = f p := by unfold byM; rw [if_pos hp]
  rw [e1'] at e1
  have hx : (nI (byM n f (p + 1)) = nI 61) = (eqA n f (p + 1) = true) := by
    refine propext ?_
    rw [nI_eq (by omega) (by omega)]
    unfold byM eqA
    by_cases c : p + 1 < n
    · rw [if_pos c, decide_eq_true c, Bool.true_and, decide_eq_true_iff]
    · rw [if_neg c, decide_eq_false c]
      exact ⟨fun z => absurd z (by omega), fun z => by cases z⟩
  have ep : nI p + 1 = nI (p + 1) := nI_1 p
  refine ⟨?_, ?_⟩
  · unfold o_X12_signAt
    rw [ep]
    refine ⟨o1, o2, ?_⟩
    simp only [implies_true, and_self]
  · unfold v_X12_signAt
    rw [ep, e2, e1]
    generalize f p = b at *
    unfold sgM
    cases he : eqA n f (p + 1)
    · rw [he] at hx
      by_cases c : b = 61 ∨ b = 33 ∨ b = 60 ∨ b = 59 ∨ b = 43 ∨ b = 45 ∨ b = 42 ∨ b = 47 ∨ b = 40 ∨ b = 41
      · rcases c with rfl | rfl | rfl | rfl | rfl | rfl | rfl | rfl | rfl | rfl <;> simp (disch := omega) only [lin, s_eqF, cite_T, cite_F, cite_S, eq_self, hx, Bool.false_eq_true, cond_false, if_true, if_false, reduceIte, Nat.reduceEqDiff, or_true, true_or, or_false, false_or, or_self]
      · have d1 : ¬ b = 61 := by omega
        have d2 : ¬ b = 33 := by omega
        have d3 : ¬ b = 60 := by omega
        have d4 : ¬ (b = 59 ∨ b = 43 ∨ b = 45 ∨ b = 42 ∨ b = 47 ∨ b = 40 ∨ b = 41) := by omega
        rw [if_neg d1, if_neg d2, if_neg d3, if_neg d4]
        simp (disch := omega) only [lin, s_eqF, cite_T, cite_F, cite_S, hx, Bool.false_eq_true]
    · rw [he] at hx
      by_cases c : b = 61 ∨ b = 33 ∨ b = 60 ∨ b = 59 ∨ b = 43 ∨ b = 45 ∨ b = 42 ∨ b = 47 ∨ b = 40 ∨ b = 41
      · rcases c with rfl | rfl | rfl | rfl | rfl | rfl | rfl | rfl | rfl | rfl <;> simp (disch := omega) only [lin, s_eqF, cite_T, cite_F, cite_S, eq_self, hx, cond_true, if_true, if_false, reduceIte, Nat.reduceEqDiff, or_true, true_or, or_false, false_or, or_self]
      · have d1 : ¬ b = 61 := by omega
        have d2 : ¬ b = 33 := by omega
        have d3 : ¬ b = 60 := by omega
        have d4 : ¬ (b = 59 ∨ b = 43 ∨ b = 45 ∨ b = 42 ∨ b = 47 ∨ b = 40 ∨ b = 41) := by omega
        rw [if_neg d1, if_neg d2, if_neg d3, if_neg d4]
        simp (disch := omega) only [lin, s_eqF, cite_T, cite_F, cite_S, eq_self, hx]
def tkM (m : MM) (i : Nat) (a1 a2 a3 : Int32) : MM := wI (wI (wI (wI m 158 i a1) 159 i a2) 160 i a3) 156 2 (nI (i + 1))
theorem token_ok {m : MM} {i : Nat} (hi : i < 2001) (e : m.1 156 2 = nI i) (a1 a2 a3 : Int32) : Runs e_X12_token [.ref 156, .int a1, .int a2, .int a3] m (fun r m' => r = .null ∧ m' = tkM m i a1 a2 a3) := by
  apply b_X12_token
  simp (disch := omega) only [lin, nI_add, pk_mul, s_sub, s_addneg, s_leT, s_leF, s_ltT, s_ltF, s_eqF, s_inT, s_neF, s_neF', s_neE, s_nleT, s_nleF, s_nltF, s_nltT, eq_self, nI_clamp, s_wIk, s_wIo, pk_us, pk_un, Nat.reduceAdd, Nat.reduceMul, Nat.reduceSub, Nat.zero_add, Nat.add_zero, Nat.mul_zero, true_implies, false_implies, implies_true, not_true, not_false, and_true, true_and, not_true_eq_false, not_false_eq_true, forall_const, e]
  exact rfl
/-- the model's sort of the token at p, and what it is -/
noncomputable def msT (n : Nat) (f : Nat → Nat) (p : Nat) : Nat :=
  if n ≤ p then 4 else if 97 ≤ f p ∧ f p ≤ 122 then (if 8 < rnL n f 97 122 p then 5 else if wkN f p (rnN n f 97 122 p) = 26 then 0 else 3)
  else if 48 ≤ f p ∧ f p ≤ 57 then (if 4 < rnL n f 48 57 p then 5 else 1) else if sgM (f p) (eqA n f (p + 1)) = 0 then 5 else 2
noncomputable def mwT (n : Nat) (f : Nat → Nat) (p : Nat) : Int32 :=
  if n ≤ p then 0 else if 97 ≤ f p ∧ f p ≤ 122 then (if 8 < rnL n f 97 122 p then -1 else if wkN f p (rnN n f 97 122 p) = 26 then -1 else nI (wmT.getD (wkN f p (rnN n f 97 122 p)) 0))
  else if 48 ≤ f p ∧ f p ≤ 57 then nI (nmN f p (min (rnL n f 48 57 p) 4)) else nI (sgM (f p) (eqA n f (p + 1)))
def NlT (n : Nat) (f : Nat → Nat) (p : Nat) (v : Int64) : Prop := p < n → (97 ≤ f p ∧ f p ≤ 122) → rnL n f 97 122 p ≤ 8 → v = lN (n27 f p (rnL n f 97 122 p))
/-- token i has been written -/
def FrU (i : Nat) (m m' : MM) : Prop := m'.2.2 = m.2.2 ∧ (∀ x y, ¬ ((x = 158 ∨ x = 159 ∨ x = 160) ∧ y = i) → ¬ (x = 156 ∧ y = 2) → m'.1 x y = m.1 x y) ∧ (∀ y, y ≠ i → m'.2.1 161 y = m.2.1 161 y)
theorem FrU_tk {m m0 : MM} {i : Nat} (h1 : m0.1 = m.1) (h2 : m0.2.2 = m.2.2) (h3 : ∀ y, y ≠ i → m0.2.1 161 y = m.2.1 161 y) (a1 a2 a3 : Int32) : FrU i m (tkM m0 i a1 a2 a3) := by
  refine ⟨h2, fun x y c d => ?_, fun y hy => h3 y hy⟩
  unfold tkM
  by_cases e6 : x = 156
  · subst e6
    rw [wI_k, pk_un (fun z => d ⟨rfl, z⟩), wI_o (by decide), wI_o (by decide), wI_o (by decide), h1]
  · rw [wI_o e6]
    by_cases e0 : x = 160
    · subst e0
      rw [wI_k, pk_un (fun z => c ⟨by omega, z⟩), wI_o (by decide), wI_o (by decide), h1]
    · rw [wI_o e0]
      by_cases e9 : x = 159
      · subst e9
        rw [wI_k, pk_un (fun z => c ⟨by omega, z⟩), wI_o (by decide), h1]
      · rw [wI_o e9]
        by_cases e8 : x = 158
        · subst e8
          rw [wI_k, pk_un (fun z => c ⟨by omega, z⟩), h1]
        · rw [wI_o e8, h1]
theorem tk_at (m : MM) (i : Nat) (a1 a2 a3 : Int32) : (tkM m i a1 a2 a3).1 158 i = a1 ∧ (tkM m i a1 a2 a3).1 159 i = a2 ∧ (tkM m i a1 a2 a3).1 160 i = a3 ∧ (tkM m i a1 a2 a3).1 156 2 = nI (i + 1) := by
  unfold tkM
  refine ⟨?_, ?_, ?_, ?_⟩
  · rw [wI_o (by decide), wI_o (by decide), wI_o (by decide), wI_k, pk_us]
  · rw [wI_o (by decide), wI_o (by decide), wI_k, pk_us]
  · rw [wI_o (by decide), wI_k, pk_us]
  · rw [wI_k, pk_us]
theorem n27_lt {f : Nat → Nat} {p : Nat} : ∀ j, (∀ i, i < j → 97 ≤ f (p + i) ∧ f (p + i) ≤ 122) → n27 f p j < 27 ^ j
  | 0, _ => Nat.one_pos
  | j + 1, h => by
    have ih := n27_lt j (fun i hi => h i (by omega))
    have hj := h j (by omega)
    rw [n27, Nat.pow_succ]
    omega
theorem scanM_ok {m : MM} {n i p : Nat} {f : Nat → Nat} (h : TapM m n f) (hi : i < 2001) (hp : p < n) (e2 : m.1 156 2 = nI i) : Runs e_X12_scan [.ref 156, .int (nI p)] m (fun r m' => r = .int (nI (enT n f p)) ∧ (FrU i m m' ∧ m'.1 158 i = nI (msT n f p) ∧ m'.1 159 i = nI p ∧ m'.1 160 i = mwT n f p ∧ m'.1 156 2 = nI (i + 1) ∧ NlT n f p (m'.2.1 161 i))) := by
  have h2 := h.2.1
  have ebp : byM n f p = f p := by unfold byM; rw [if_pos hp]
  have hf := (h.2.2 p hp).2
  have np : ¬ n ≤ p := by omega
  refine b_X12_scan _ _ _ ?_
  obtain ⟨oL, iL⟩ := letter_ok (p := p) h (by omega)
  obtain ⟨oD, iD⟩ := digit_ok (p := p) h (by omega)
  rw [ebp] at iL iD
  rw [iL, iD]
  have inner : ∀ lo hi j : Nat, j < rnL n f lo hi p → p + j < n := fun lo hi j hj => by
    have := (rnN_le (n := n) (f := f) (lo := lo) (hi := hi) (p := p) (by omega)).2
    unfold rnN at this; omega
  refine ⟨oL, fun c1 => ?_, fun c1 => ⟨oD, fun c2 => ?_, fun c2 => ?_⟩⟩
  · have hr := rnN_le (n := n) (f := f) (lo := 97) (hi := 122) (p := p) (by omega)
    have hin : ∀ j, j < rnL n f 97 122 p → 97 ≤ f (p + j) ∧ f (p + j) ≤ 122 := fun j hj => rnN_in hj
    have ee : enT n f p = rnN n f 97 122 p := by unfold enT; rw [if_neg np, if_pos c1]
    have es : msT n f p = if 8 < rnL n f 97 122 p then 5 else if wkN f p (rnN n f 97 122 p) = 26 then 0 else 3 := by unfold msT; rw [if_neg np, if_pos c1]
    have ew : mwT n f p = if 8 < rnL n f 97 122 p then -1 else if wkN f p (rnN n f 97 122 p) = 26 then -1 else nI (wmT.getD (wkN f p (rnN n f 97 122 p)) 0) := by unfold mwT; rw [if_neg np, if_pos c1]
    have hL : rnN n f 97 122 p - p = rnL n f 97 122 p := by unfold rnN; omega
    refine for_up (Y := e_X12_scan) (pc := 12) (fun j => [(0, .ref 156), (1, .int (nI p)), (2, .int (nI (p + j))), (3, .long (lN (n27 f p (min j 8))))]) (fun j m' => m' = m) (rnL n f 97 122 p) ?_ ?_ 0 m (by omega) rfl
    · rintro m' rfl
      have hend : ¬ (97 ≤ byM n f (p + rnL n f 97 122 p) ∧ byM n f (p + rnL n f 97 122 p) ≤ 122) := by
        unfold byM
        by_cases c : p + rnL n f 97 122 p < n
        · rw [if_pos c]; exact rnN_out (n := n) (f := f) (lo := 97) (hi := 122) (p := p) c
        · rw [if_neg c]; omega
      obtain ⟨oL', iL'⟩ := letter_ok (p := p + rnL n f 97 122 p) h (by unfold rnN at hr; omega)
      have hN : n27 f p (min (rnL n f 97 122 p) 8) < 2 ^ 63 := by
        have a1 := n27_lt (f := f) (p := p) (min (rnL n f 97 122 p) 8) fun j hj => hin j (by omega)
        have a2 : 27 ^ min (rnL n f 97 122 p) 8 ≤ 27 ^ 8 := Nat.pow_le_pow_right (by decide) (by omega)
        have a3 : 27 ^ 8 < 2 ^ 63 := by decide
        omega
      have hw := wd_ok (f := f) (p := p) (e := rnN n f 97 122 p) (by rw [hL]; exact hin)
      rw [hL] at hw
      refine b_X12_scan_12 _ _ _ _ _ ?_
      rw [iL', nI_clamp (show i < 2 ^ 31 by omega) |> fun z => (by rw [e2, z] : (m'.1 156 2).toNatClampNeg = i), e2, pk_sub (Nat.le_add_right _ _), Nat.add_sub_cancel_left, show (8 : Int32) = nI 8 from rfl, nI_leI (a := rnL n f 97 122 p) (b := 8) (by unfold rnN at hr; omega) (by omega), wordOf_ok _ hN]
      have vi : vp_in (nI i) 2001 := vp_in_nI hi (by omega)
      have e2' : (wLg m' 161 i (lN (n27 f p (min (rnL n f 97 122 p) 8)))).1 156 2 = nI i := e2
      have fin : ∀ a1 a3, a1 = nI (msT n f p) → a3 = mwT n f p → ∀ m1, m1 = tkM (wLg m' 161 i (lN (n27 f p (min (rnL n f 97 122 p) 8)))) i a1 (nI p) a3 → Value.int (nI (p + rnL n f 97 122 p)) = .int (nI (enT n f p)) ∧ (FrU i m' m1 ∧ m1.1 158 i = nI (msT n f p) ∧ m1.1 159 i = nI p ∧ m1.1 160 i = mwT n f p ∧ m1.1 156 2 = nI (i + 1) ∧ NlT n f p (m1.2.1 161 i)) := by
        rintro a1 a3 rfl rfl m1 rfl
        obtain ⟨t1, t2, t3, t4⟩ := tk_at (wLg m' 161 i (lN (n27 f p (min (rnL n f 97 122 p) 8)))) i (nI (msT n f p)) (nI p) (mwT n f p)
        refine ⟨by rw [ee]; rfl, FrU_tk (m := m') (m0 := wLg m' 161 i (lN (n27 f p (min (rnL n f 97 122 p) 8)))) rfl rfl (fun y hy => (congrFun (wL_k m' 161 i _) y).trans (pk_uLn hy)) _ _ _, t1, t2, t3, t4, fun _ _ h8 => ?_⟩
        show (wLg m' 161 i _).2.1 161 i = _
        rw [wL_k, pk_uLs, Nat.min_eq_left h8]
      refine ⟨oL', fun z => absurd z hend, fun _ => ⟨fun c8 => ⟨vi, fun _ => ?_, fun z => absurd c8 z⟩, fun c8 => ⟨vi, fun z => absurd z c8, fun _ => ?_⟩⟩⟩
      · rw [Nat.min_eq_left c8, hw.2]
        rw [Nat.min_eq_left c8] at fin e2'
        by_cases c26 : wkN f p (rnN n f 97 122 p) = 26
        · rw [if_pos c26]
          exact ⟨fun _ => vcall (token_ok hi e2' _ _ _) fun m1 e => fin _ _ (by rw [es, if_neg (by omega), if_pos c26]; rfl) (by rw [ew, if_neg (by omega), if_pos c26]) m1 e, fun z => absurd (by decide) z⟩
        · rw [if_neg c26]
          exact ⟨fun z => absurd z (nI_pos (by have : ∀ k, k < 26 → wmT.getD k 0 < 2 ^ 31 := by decide
                                               exact this _ (by omega))), fun _ => vcall (token_ok hi e2' _ _ _) fun m1 e => fin _ _ (by rw [es, if_neg (by omega), if_neg c26]; rfl) (by rw [ew, if_neg (by omega), if_neg c26]) m1 e⟩
      · exact vcall (token_ok hi e2' _ _ _) fun m1 e => fin _ _ (by rw [es, if_pos (by omega)]; rfl) (by rw [ew, if_pos (by omega)]) m1 e
    · rintro j m' hj rfl hg
      have hg := hg m' rfl
      have hlt := inner 97 122 j hj
      obtain ⟨b1, b2⟩ := hin j hj
      obtain ⟨oL', iL'⟩ := letter_ok (p := p + j) h (by omega)
      obtain ⟨oB, eB⟩ := byteM (p := p + j) h (by omega)
      have eb : byM n f (p + j) = f (p + j) := by unfold byM; rw [if_pos hlt]
      rw [eb] at iL' eB
      refine b_X12_scan_12 _ _ _ _ _ ?_
      rw [iL', pk_sub (Nat.le_add_right _ _), Nat.add_sub_cancel_left, show (8 : Int32) = nI 8 from rfl, nI_leI (a := 8) (b := j) (by omega) (by omega), nI_1 (p + j), eB]
      refine ⟨oL', fun _ => ⟨fun c8 => ?_, fun c8 => ⟨oB, ?_⟩⟩, fun z => absurd ⟨b1, b2⟩ z⟩
      · rw [Nat.min_eq_right (by omega)] at hg ⊢
        exact hg
      · rw [Nat.min_eq_left (by omega), n27] at hg
        rw [Nat.min_eq_left (by omega), nI_l (by omega), show (27 : Int64) = lN 27 from rfl, show (96 : Int64) = lN 96 from rfl, lN_mul, lN_add, lN_sub (by omega), show n27 f p j * 27 + f (p + j) - 96 = n27 f p j * 27 + (f (p + j) - 96) by omega]
        exact hg
  · have hr := rnN_le (n := n) (f := f) (lo := 48) (hi := 57) (p := p) (by omega)
    have hin : ∀ j, j < rnL n f 48 57 p → 48 ≤ f (p + j) ∧ f (p + j) ≤ 57 := fun j hj => rnN_in hj
    have ee : enT n f p = rnN n f 48 57 p := by unfold enT; rw [if_neg np, if_neg c1, if_pos c2]
    have es : msT n f p = if 4 < rnL n f 48 57 p then 5 else 1 := by unfold msT; rw [if_neg np, if_neg c1, if_pos c2]
    have ew : mwT n f p = nI (nmN f p (min (rnL n f 48 57 p) 4)) := by unfold mwT; rw [if_neg np, if_neg c1, if_pos c2]
    refine for_up (Y := e_X12_scan) (pc := 120) (fun j => [(0, .ref 156), (1, .int (nI p)), (2, .int (nI (p + j))), (3, .int (nI (nmN f p (min j 4))))]) (fun j m' => m' = m) (rnL n f 48 57 p) ?_ ?_ 0 m (by omega) rfl
    · rintro m' rfl
      have hend : ¬ (48 ≤ byM n f (p + rnL n f 48 57 p) ∧ byM n f (p + rnL n f 48 57 p) ≤ 57) := by
        unfold byM
        by_cases c : p + rnL n f 48 57 p < n
        · rw [if_pos c]; exact rnN_out (n := n) (f := f) (lo := 48) (hi := 57) (p := p) c
        · rw [if_neg c]; omega
      obtain ⟨oL', iL'⟩ := digit_ok (p := p + rnL n f 48 57 p) h (by unfold rnN at hr; omega)
      have fin : ∀ a1, a1 = nI (msT n f p) → ∀ m1, m1 = tkM m' i a1 (nI p) (nI (nmN f p (min (rnL n f 48 57 p) 4))) → Value.int (nI (p + rnL n f 48 57 p)) = .int (nI (enT n f p)) ∧ (FrU i m' m1 ∧ m1.1 158 i = nI (msT n f p) ∧ m1.1 159 i = nI p ∧ m1.1 160 i = mwT n f p ∧ m1.1 156 2 = nI (i + 1) ∧ NlT n f p (m1.2.1 161 i)) := by
        rintro a1 rfl m1 rfl
        obtain ⟨t1, t2, t3, t4⟩ := tk_at m' i (nI (msT n f p)) (nI p) (nI (nmN f p (min (rnL n f 48 57 p) 4)))
        exact ⟨by rw [ee]; rfl, FrU_tk rfl rfl (fun y hy => rfl) _ _ _, t1, t2, t3.trans ew.symm, t4, fun _ z => absurd z c1⟩
      refine b_X12_scan_120 _ _ _ _ _ ?_
      rw [iL', pk_sub (Nat.le_add_right _ _), Nat.add_sub_cancel_left, show (4 : Int32) = nI 4 from rfl, nI_leI (a := rnL n f 48 57 p) (b := 4) (by unfold rnN at hr; omega) (by omega)]
      refine ⟨oL', fun z => absurd z hend, fun _ => ⟨fun c4 => vcall (token_ok hi e2 _ _ _) fun m1 e => fin _ (by rw [es, if_neg (by omega)]; rfl) m1 e, fun c4 => vcall (token_ok hi e2 _ _ _) fun m1 e => fin _ (by rw [es, if_pos (by omega)]; rfl) m1 e⟩⟩
    · rintro j m' hj rfl hg
      have hg := hg m' rfl
      have hlt := inner 48 57 j hj
      obtain ⟨b1, b2⟩ := hin j hj
      obtain ⟨oL', iL'⟩ := digit_ok (p := p + j) h (by omega)
      obtain ⟨oB, eB⟩ := byteM (p := p + j) h (by omega)
      have eb : byM n f (p + j) = f (p + j) := by unfold byM; rw [if_pos hlt]
      rw [eb] at iL' eB
      refine b_X12_scan_120 _ _ _ _ _ ?_
      rw [iL', pk_sub (Nat.le_add_right _ _), Nat.add_sub_cancel_left, show (4 : Int32) = nI 4 from rfl, nI_leI (a := 4) (b := j) (by omega) (by omega), nI_1 (p + j), eB]
      refine ⟨oL', fun _ => ⟨fun c8 => ?_, fun c8 => ⟨oB, ?_⟩⟩, fun z => absurd ⟨b1, b2⟩ z⟩
      · rw [Nat.min_eq_right (by omega)] at hg ⊢
        exact hg
      · rw [Nat.min_eq_left (by omega), nmN] at hg
        rw [Nat.min_eq_left (by omega), show (10 : Int32) = nI 10 from rfl, pk_mul, nI_add, show (48 : Int32) = nI 48 from rfl, pk_sub (by omega), show 10 * nmN f p j + f (p + j) - 48 = nmN f p j * 10 + (f (p + j) - 48) by omega]
        exact hg
  · obtain ⟨oS, eS⟩ := signM_ok h hp
    have es : msT n f p = if sgM (f p) (eqA n f (p + 1)) = 0 then 5 else 2 := by unfold msT; rw [if_neg np, if_neg c1, if_neg c2]
    have ew : mwT n f p = nI (sgM (f p) (eqA n f (p + 1))) := by unfold mwT; rw [if_neg np, if_neg c1, if_neg c2]
    have ee : enT n f p = if sgK (f p) (eqA n f (p + 1)) = 34 ∨ sgK (f p) (eqA n f (p + 1)) = 35 ∨ sgK (f p) (eqA n f (p + 1)) = 37 then p + 2 else p + 1 := by unfold enT; rw [if_neg np, if_neg c1, if_neg c2]
    have two : (sgK (f p) (eqA n f (p + 1)) = 34 ∨ sgK (f p) (eqA n f (p + 1)) = 35 ∨ sgK (f p) (eqA n f (p + 1)) = 37) ↔ ¬ sgM (f p) (eqA n f (p + 1)) < 300 := by
      unfold sgK sgM
      cases eqA n f (p + 1) <;> simp only [cond_false, cond_true] <;> (repeat' split) <;> omega
    have hm : sgM (f p) (eqA n f (p + 1)) ≤ 302 := by
      unfold sgM
      cases eqA n f (p + 1) <;> simp only [cond_false, cond_true] <;> (repeat' split) <;> omega
    rw [eS, show (300 : Int32) = nI 300 from rfl, nI_ltI (by omega) (by omega), nI_1 p, show nI p + (2 : Int32) = nI (p + 2) from nI_add p 2]
    have fin : ∀ a1 q, a1 = nI (msT n f p) → q = enT n f p → ∀ m1, m1 = tkM m i a1 (nI p) (nI (sgM (f p) (eqA n f (p + 1)))) → Value.int (nI q) = .int (nI (enT n f p)) ∧ (FrU i m m1 ∧ m1.1 158 i = nI (msT n f p) ∧ m1.1 159 i = nI p ∧ m1.1 160 i = mwT n f p ∧ m1.1 156 2 = nI (i + 1) ∧ NlT n f p (m1.2.1 161 i)) := by
      rintro a1 q rfl rfl m1 rfl
      obtain ⟨t1, t2, t3, t4⟩ := tk_at m i (nI (msT n f p)) (nI p) (nI (sgM (f p) (eqA n f (p + 1))))
      exact ⟨rfl, FrU_tk rfl rfl (fun y hy => rfl) _ _ _, t1, t2, t3.trans ew.symm, t4, fun _ z => absurd z c1⟩
    have lt : ∀ z : sgM (f p) (eqA n f (p + 1)) < 300, p + 1 = enT n f p := fun z => by rw [ee, if_neg (fun y => two.mp y z)]
    have ge : ∀ z : ¬ sgM (f p) (eqA n f (p + 1)) < 300, p + 2 = enT n f p := fun z => by rw [ee, if_pos (two.mpr z)]
    refine ⟨oS, fun c0 => vcall (token_ok hi e2 _ _ _) fun m1 e => ⟨fun z => ?_, fun z => ?_⟩, fun c0 => vcall (token_ok hi e2 _ _ _) fun m1 e => ⟨fun z => ?_, fun z => ?_⟩⟩
    · exact fin _ _ (by rw [es, if_neg (fun y => c0 (congrArg nI y))]; rfl) (lt z) m1 e
    · exact fin _ _ (by rw [es, if_neg (fun y => c0 (congrArg nI y))]; rfl) (ge z) m1 e
    · exact fin _ _ (by rw [es, if_pos ((nI_eq (b := 0) (by omega) (by omega)).mp c0)]; rfl) (lt z) m1 e
    · exact fin _ _ (by rw [es, if_pos ((nI_eq (b := 0) (by omega) (by omega)).mp c0)]; rfl) (ge z) m1 e

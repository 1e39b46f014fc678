/-! the reading of bytes: what a token is -/
def blB (b : Nat) : Bool := b == 9 || b == 10 || b == 13 || b == 32
def skL (n : Nat) (f : Nat → Nat) (p : Nat) : Nat := fa_first (fun j => !blB (f (p + j))) (n - p)
def skN (n : Nat) (f : Nat → Nat) (p : Nat) : Nat := p + skL n f p
def rnL (n : Nat) (f : Nat → Nat) (lo hi p : Nat) : Nat := fa_first (fun j => !(decide (lo ≤ f (p + j)) && decide (f (p + j) ≤ hi))) (n - p)
def rnN (n : Nat) (f : Nat → Nat) (lo hi p : Nat) : Nat := p + rnL n f lo hi p
def n27 (f : Nat → Nat) (p : Nat) : Nat → Nat
  | 0 => 0
  | j + 1 => n27 f p j * 27 + (f (p + j) - 96)
def n32 (f : Nat → Nat) (p : Nat) : Nat → Nat
  | 0 => 0
  | j + 1 => n32 f p j * 32 + (f (p + j) - 96)
def nmN (f : Nat → Nat) (p : Nat) : Nat → Nat
  | 0 => 0
  | j + 1 => nmN f p j * 10 + (f (p + j) - 48)
def sgK (b : Nat) (e : Bool) : Nat := if b = 33 then (bif e then 35 else 41) else if b = 40 then 38 else if b = 41 then 39 else if b = 42 then 32 else if b = 43 then 30 else if b = 45 then 31 else if b = 47 then 33 else if b = 59 then 28 else if b = 60 then (bif e then 37 else 36) else if b = 61 then (bif e then 34 else 29) else 41
def eqA (n : Nat) (f : Nat → Nat) (p : Nat) : Bool := decide (p < n) && decide (f p = 61)
/-- the class's kind of the token at p, and where it ends -/
noncomputable def kdT (n : Nat) (f : Nat → Nat) (p : Nat) : Nat :=
  if n ≤ p then 40 else if 97 ≤ f p ∧ f p ≤ 122 then (if 8 < rnL n f 97 122 p then 41 else wkN f p (rnN n f 97 122 p))
  else if 48 ≤ f p ∧ f p ≤ 57 then (if 4 < rnL n f 48 57 p then 41 else 27) else sgK (f p) (eqA n f (p + 1))
noncomputable def enT (n : Nat) (f : Nat → Nat) (p : Nat) : Nat :=
  if n ≤ p then p else if 97 ≤ f p ∧ f p ≤ 122 then rnN n f 97 122 p
  else if 48 ≤ f p ∧ f p ≤ 57 then rnN n f 48 57 p
  else if sgK (f p) (eqA n f (p + 1)) = 34 ∨ sgK (f p) (eqA n f (p + 1)) = 35 ∨ sgK (f p) (eqA n f (p + 1)) = 37 then p + 2 else p + 1
section
variable {n : Nat} {f : Nat → Nat} {p : Nat}
theorem skN_le (h : p ≤ n) : p ≤ skN n f p ∧ skN n f p ≤ n := by
  have := fa_first_le (fun j => !blB (f (p + j))) (n - p)
  unfold skN skL
  omega
theorem skN_nb (h : skN n f p < n) : blB (f (skN n f p)) = false := by
  have := fa_first_yes (fun j => !blB (f (p + j))) (n - p) (by unfold skN skL at h; omega)
  unfold skN skL
  simpa using this
theorem skN_bl {j : Nat} (h : j < skL n f p) : blB (f (p + j)) = true := by
  have := fa_first_no (fun j => !blB (f (p + j))) (n - p) j h
  simpa using this
theorem rnN_le {lo hi : Nat} (h : p ≤ n) : p ≤ rnN n f lo hi p ∧ rnN n f lo hi p ≤ n := by
  have := fa_first_le (fun j => !(decide (lo ≤ f (p + j)) && decide (f (p + j) ≤ hi))) (n - p)
  unfold rnN rnL
  omega
theorem rnN_in {lo hi j : Nat} (h : j < rnL n f lo hi p) : lo ≤ f (p + j) ∧ f (p + j) ≤ hi := by
  have := fa_first_no (fun j => !(decide (lo ≤ f (p + j)) && decide (f (p + j) ≤ hi))) (n - p) j h
  simpa using this
theorem rnN_out {lo hi : Nat} (h : rnN n f lo hi p < n) : ¬ (lo ≤ f (rnN n f lo hi p) ∧ f (rnN n f lo hi p) ≤ hi) := by
  have := fa_first_yes (fun j => !(decide (lo ≤ f (p + j)) && decide (f (p + j) ≤ hi))) (n - p) (by unfold rnN rnL at h; omega)
  unfold rnN rnL
  intro z
  simp only [decide_eq_true z.1, decide_eq_true z.2] at this
  cases this
theorem rnN_pos {lo hi : Nat} (hp : p < n) (h : lo ≤ f p ∧ f p ≤ hi) : 1 ≤ rnL n f lo hi p := by
  rcases Nat.eq_zero_or_pos (rnL n f lo hi p) with z | z
  · have e : rnN n f lo hi p = p := by unfold rnN; omega
    have := rnN_out (n := n) (f := f) (lo := lo) (hi := hi) (p := p) (by omega)
    rw [e] at this
    exact absurd h this
  · exact z
theorem sgK_two {b : Nat} {e : Bool} (h : sgK b e = 34 ∨ sgK b e = 35 ∨ sgK b e = 37) : e = true := by
  cases e with
  | true => rfl
  | false =>
    exfalso
    unfold sgK at h
    simp only [cond_false] at h
    repeat' split at h
    all_goals omega
theorem enT_le (hp : p < n) : p < enT n f p ∧ enT n f p ≤ n := by
  unfold enT
  rw [if_neg (by omega)]
  by_cases c1 : 97 ≤ f p ∧ f p ≤ 122
  · rw [if_pos c1]
    have a := rnN_le (n := n) (f := f) (lo := 97) (hi := 122) (p := p) (by omega)
    have b := rnN_pos hp c1
    unfold rnN at *
    omega
  · rw [if_neg c1]
    by_cases c2 : 48 ≤ f p ∧ f p ≤ 57
    · rw [if_pos c2]
      have a := rnN_le (n := n) (f := f) (lo := 48) (hi := 57) (p := p) (by omega)
      have b := rnN_pos hp c2
      unfold rnN at *
      omega
    · rw [if_neg c2]
      by_cases c3 : sgK (f p) (eqA n f (p + 1)) = 34 ∨ sgK (f p) (eqA n f (p + 1)) = 35 ∨ sgK (f p) (eqA n f (p + 1)) = 37
      · rw [if_pos c3]
        have := sgK_two c3
        unfold eqA at this
        have : p + 1 < n := by
          rcases Nat.lt_or_ge (p + 1) n with z | z
          · exact z
          · rw [decide_eq_false (by omega)] at this; cases this
        omega
      · rw [if_neg c3]; omega
end
/-! the class's scanning -/
theorem cite_T {α : Type} (a b : α) : cite True a b = a := cite_pos trivial
theorem cite_F {α : Type} (a b : α) : cite False a b = b := cite_neg (fun z => z)
theorem cite_S {α : Type} (p : Prop) (a : α) : cite p a a = a := by
  by_cases c : p
  · exact cite_pos c
  · exact cite_neg c
theorem blank_ok {m : MM} {b : Nat} (hb : b < 256) : p_X7_isBlank m (nI b) ↔ blB b = true := by
  unfold p_X7_isBlank blB
  rw [show (9 : Int32) = nI 9 from rfl, show (10 : Int32) = nI 10 from rfl, show (13 : Int32) = nI 13 from rfl, show (32 : Int32) = nI 32 from rfl, nI_eq (by omega) (by omega), nI_eq (by omega) (by omega), nI_eq (by omega) (by omega), nI_eq (by omega) (by omega)]
  simp only [Bool.or_eq_true, beq_iff_eq]
  omega
theorem pastBlanks_ok {m : MM} {n p : Nat} {f : Nat → Nat} (h : Tap m n f) (hp : p ≤ n) : Runs e_X7_pastBlanks [.ref 5, .int (nI p)] m (fun r m' => r = .int (nI (skN n f p)) ∧ m' = m) := by
  have h2 := h.2.1
  obtain ⟨a1, a2⟩ := skN_le (f := f) hp
  apply b_X7_pastBlanks
  refine for_up (Y := e_X7_pastBlanks) (pc := 2) (fun j => [(0, .ref 5), (2, .int (nI (p + j)))]) (fun j m2 => m2 = m) (skL n f p) ?_ ?_ 0 m (by omega) rfl
  · rintro m2 rfl
    refine b_X7_pastBlanks_2 _ _ _ ?_
    rw [h.1]
    refine ⟨fun _ => ⟨rfl, rfl⟩, fun z => ?_⟩
    have hlt : skN n f p < n := by
      rcases Nat.lt_or_ge (skN n f p) n with y | y
      · exact y
      · exact absurd (nI_le y (by omega)) z
    obtain ⟨o, e⟩ := byteX h hlt
    have nb := skN_nb hlt
    have hf := (h.2.2 _ hlt).2
    show o_X7_byteAt m2 (nI (skN n f p)) ∧ _
    refine ⟨o, ?_⟩
    rw [show p + skL n f p = skN n f p from rfl, e, blank_ok hf, nb]
    exact ⟨fun z => (by cases z), fun _ => ⟨rfl, rfl⟩⟩
  · rintro j m2 hj rfl hg
    have hg := hg m2 rfl
    have hlt : p + j < n := by unfold skN at a2; omega
    obtain ⟨o, e⟩ := byteX h hlt
    have hf := (h.2.2 _ hlt).2
    refine b_X7_pastBlanks_2 _ _ _ ?_
    rw [h.1, e, blank_ok hf, skN_bl hj, nI_1]
    exact ⟨fun z => absurd z (nI_ge hlt (by omega)), fun _ => ⟨o, fun _ => hg, fun z => absurd rfl z⟩⟩
theorem pastRun_ok {m : MM} {n p lo hi : Nat} {f : Nat → Nat} (h : Tap m n f) (hp : p ≤ n) (hl : lo < 256) (hh : hi < 256) : Runs e_X7_pastRun [.ref 5, .int (nI p), .int (nI lo), .int (nI hi)] m (fun r m' => r = .int (nI (rnN n f lo hi p)) ∧ m' = m) := by
  have h2 := h.2.1
  obtain ⟨a1, a2⟩ := rnN_le (f := f) (lo := lo) (hi := hi) hp
  apply b_X7_pastRun
  refine for_up (Y := e_X7_pastRun) (pc := 3) (fun j => [(0, .ref 5), (2, .int (nI lo)), (3, .int (nI hi)), (4, .int (nI (p + j)))]) (fun j m2 => m2 = m) (rnL n f lo hi p) ?_ ?_ 0 m (by omega) rfl
  · rintro m2 rfl
    refine b_X7_pastRun_3 _ _ _ _ _ ?_
    rw [h.1]
    refine ⟨fun _ => ⟨rfl, rfl⟩, fun z => ?_⟩
    have hlt : rnN n f lo hi p < n := by
      rcases Nat.lt_or_ge (rnN n f lo hi p) n with y | y
      · exact y
      · exact absurd (nI_le y (by omega)) z
    obtain ⟨o, e⟩ := byteX h hlt
    have nb := rnN_out hlt
    have hf := (h.2.2 _ hlt).2
    rw [show p + rnL n f lo hi p = rnN n f lo hi p from rfl, e, wthin_nI (by omega) (by omega) (by omega)]
    exact ⟨o, fun z => absurd z nb, fun _ => ⟨rfl, rfl⟩⟩
  · rintro j m2 hj rfl hg
    have hg := hg m2 rfl
    have hlt : p + j < n := by unfold rnN at a2; omega
    obtain ⟨o, e⟩ := byteX h hlt
    have hf := (h.2.2 _ hlt).2
    refine b_X7_pastRun_3 _ _ _ _ _ ?_
    rw [h.1, e, wthin_nI (by omega) (by omega) (by omega), nI_1]
    exact ⟨fun z => absurd z (nI_ge hlt (by omega)), fun _ => ⟨o, fun _ => hg, fun z => absurd (rnN_in hj) z⟩⟩
def pk5 (f : Nat → Nat) (p : Nat) : Nat → Int64
  | 0 => 0
  | j + 1 => (pk5 f p j <<< ((5 : Int32).toInt64 &&& 63)) ||| (((nI (f (p + j))) - (97 : Int32)) + (1 : Int32)).toInt64
theorem n32_lt {f : Nat → Nat} {p : Nat} : ∀ j, (∀ i, i < j → 97 ≤ f (p + i) ∧ f (p + i) ≤ 122) → n32 f p j < 32 ^ j
  | 0, _ => Nat.one_pos
  | j + 1, h => by
    have ih := n32_lt j (fun i hi => h i (by omega))
    have hj := h j (by omega)
    rw [n32, Nat.pow_succ]
    omega
theorem pk5_ok {f : Nat → Nat} {p : Nat} : ∀ j, j ≤ 8 → (∀ i, i < j → 97 ≤ f (p + i) ∧ f (p + i) ≤ 122) → pk5 f p j = lN (n32 f p j)
  | 0, _, _ => rfl
  | j + 1, h8, h => by
    have ih := pk5_ok j (by omega) (fun i hi => h i (by omega))
    have hj := h j (by omega)
    rw [pk5, n32, ih, show (5 : Int32) = nI 5 from rfl, wb_shl _ (by omega), show (97 : Int32) = nI 97 from rfl, pk_sub hj.1, nI_1, nI_l (by omega), show n32 f p j * 2 ^ 5 = 2 ^ 5 * n32 f p j by omega, fb_or_sumL _ (by omega)]
    congr 1
    omega
theorem packed_ok {m : MM} {n a b : Nat} {f : Nat → Nat} (h : Tap m n f) (hab : a ≤ b) (hb : b ≤ n) : Runs e_X7_packed [.ref 5, .int (nI a), .int (nI b)] m (fun r m' => r = .long (pk5 f a (b - a)) ∧ m' = m) := by
  have h2 := h.2.1
  apply b_X7_packed
  refine for_up (Y := e_X7_packed) (pc := 5) (fun j => [(0, .ref 5), (2, .int (nI b)), (3, .long (pk5 f a j)), (5, .int (nI (a + j)))]) (fun j m2 => m2 = m) (b - a) ?_ ?_ 0 m (by omega) rfl
  · rintro m2 rfl
    exact b_X7_packed_5 _ _ _ _ _ ⟨fun _ => ⟨rfl, rfl⟩, fun z => absurd (nI_le (by omega) (by omega)) z⟩
  · rintro j m2 hj rfl hg
    have hg := hg m2 rfl
    rw [pk5] at hg
    obtain ⟨o, e⟩ := byteX h (show a + j < n by omega)
    refine b_X7_packed_5 _ _ _ _ _ ?_
    rw [e, nI_1 (a + j)]
    exact ⟨fun z => absurd z (nI_ge (by omega) (by omega)), fun _ => ⟨o, hg⟩⟩
def nu10 (f : Nat → Nat) (p : Nat) : Nat → Int32
  | 0 => 0
  | j + 1 => ((nu10 f p j * (10 : Int32)) + nI (f (p + j))) - (48 : Int32)
theorem nmN_lt {f : Nat → Nat} {p : Nat} : ∀ j, (∀ i, i < j → 48 ≤ f (p + i) ∧ f (p + i) ≤ 57) → nmN f p j < 10 ^ j
  | 0, _ => Nat.one_pos
  | j + 1, h => by
    have ih := nmN_lt j (fun i hi => h i (by omega))
    have hj := h j (by omega)
    rw [nmN, Nat.pow_succ]
    omega
theorem nu10_ok {f : Nat → Nat} {p : Nat} : ∀ j, (∀ i, i < j → 48 ≤ f (p + i) ∧ f (p + i) ≤ 57) → nu10 f p j = nI (nmN f p j)
  | 0, _ => rfl
  | j + 1, h => by
    have ih := nu10_ok j (fun i hi => h i (by omega))
    have hj := h j (by omega)
    rw [nu10, nmN, ih, show (10 : Int32) = nI 10 from rfl, pk_mul, nI_add, show (48 : Int32) = nI 48 from rfl, pk_sub (by omega)]
    congr 1
    omega
theorem number_ok {m : MM} {n a b : Nat} {f : Nat → Nat} (h : Tap m n f) (hab : a ≤ b) (hb : b ≤ n) : Runs e_X7_number [.ref 5, .int (nI a), .int (nI b)] m (fun r m' => r = .int (nu10 f a (b - a)) ∧ m' = m) := by
  have h2 := h.2.1
  apply b_X7_number
  refine for_up (Y := e_X7_number) (pc := 5) (fun j => [(0, .ref 5), (2, .int (nI b)), (3, .int (nu10 f a j)), (4, .int (nI (a + j)))]) (fun j m2 => m2 = m) (b - a) ?_ ?_ 0 m (by omega) rfl
  · rintro m2 rfl
    exact b_X7_number_5 _ _ _ _ _ ⟨fun _ => ⟨rfl, rfl⟩, fun z => absurd (nI_le (by omega) (by omega)) z⟩
  · rintro j m2 hj rfl hg
    have hg := hg m2 rfl
    rw [nu10] at hg
    obtain ⟨o, e⟩ := byteX h (show a + j < n by omega)
    refine b_X7_number_5 _ _ _ _ _ ?_
    rw [e, nI_1 (a + j)]
    exact ⟨fun z => absurd z (nI_ge (by omega) (by omega)), fun _ => ⟨o, hg⟩⟩
theorem signK_ok (m : MM) {b : Nat} (hb : b < 256) {x : Int32} {e : Bool} (hx : x = 61 ↔ e = true) : v_X7_signKind m (nI b) x = nI (sgK b e) := by
  have hx' : (x = nI 61) = (e = true) := propext hx
  unfold v_X7_signKind sgK
  by_cases c : b = 33 ∨ b = 40 ∨ b = 41 ∨ b = 42 ∨ b = 43 ∨ b = 45 ∨ b = 47 ∨ b = 59 ∨ b = 60 ∨ b = 61
  · cases e
    · rcases c with rfl | rfl | rfl | rfl | rfl | rfl | rfl | rfl | rfl | rfl <;> simp (disch := omega) only [lin, s_eqF, cite_T, cite_F, cite_S, eq_self, hx', Bool.false_eq_true, cond_false, if_true, if_false, reduceIte, Nat.reduceEqDiff]
    · rcases c with rfl | rfl | rfl | rfl | rfl | rfl | rfl | rfl | rfl | rfl <;> simp (disch := omega) only [lin, s_eqF, cite_T, cite_F, cite_S, eq_self, hx', cond_true, if_true, if_false, reduceIte, Nat.reduceEqDiff]
  · have d1 : ¬ b = 33 := by omega
    have d2 : ¬ b = 40 := by omega
    have d3 : ¬ b = 41 := by omega
    have d4 : ¬ b = 42 := by omega
    have d5 : ¬ b = 43 := by omega
    have d6 : ¬ b = 45 := by omega
    have d7 : ¬ b = 47 := by omega
    have d8 : ¬ b = 59 := by omega
    have d9 : ¬ b = 60 := by omega
    have d10 : ¬ b = 61 := by omega
    simp (disch := omega) only [lin, s_eqF, cite_T, cite_F, cite_S, d1, d2, d3, d4, d5, d6, d7, d8, d9, d10, if_false, reduceIte]

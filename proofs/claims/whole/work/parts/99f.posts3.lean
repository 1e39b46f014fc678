/-! the model's laying of the row, and the way along it -/
theorem stepM {m : MM} {p h u s c : Nat} (hp : p ≤ 99) (hh : h ≤ 99) (hu : u ≤ 99) (hs : s ≤ 99) (hc : c ≤ 99) : v_X12_stepCost m (nI p) (nI h) (nI u) (nI s) (nI c) = nI (scN u s c p h) := by
  have q1 : s * (p - h) ≤ 99 * 99 := Nat.mul_le_mul hs (by omega)
  have q2 : u * (h - p) ≤ 99 * 99 := Nat.mul_le_mul hu (by omega)
  unfold v_X12_stepCost scN
  by_cases c1 : h = p
  · rw [if_pos c1, cite_pos (by rw [c1])]; rfl
  · rw [if_neg c1, cite_neg (fun z => c1 ((nI_eq (by omega) (by omega)).mp z).symm)]
    by_cases c2 : h ≤ p
    · rw [if_pos c2, cite_pos (nI_le c2 (by omega)), pk_sub c2, pk_mul, nI_add]
    · rw [if_neg c2, cite_neg (nI_ge (by omega) (by omega)), pk_sub (by omega), pk_mul, nI_add]
theorem stepX {m : MM} {p h u s c : Nat} (hp : p ≤ 99) (hh : h ≤ 99) (hu : u ≤ 99) (hs : s ≤ 99) (hc : c ≤ 99) (e4 : m.1 95 4 = nI u) (e5 : m.1 95 5 = nI s) (e6 : m.1 95 6 = nI c) : v_X5_stepCost m (nI p) (nI h) = nI (scN u s c p h) := by
  have q1 : s * (p - h) ≤ 99 * 99 := Nat.mul_le_mul hs (by omega)
  have q2 : u * (h - p) ≤ 99 * 99 := Nat.mul_le_mul hu (by omega)
  unfold v_X5_stepCost scN
  rw [e4, e5, e6]
  by_cases c1 : h = p
  · rw [if_pos c1, cite_pos (by rw [c1])]; rfl
  · rw [if_neg c1, cite_neg (fun z => c1 ((nI_eq (by omega) (by omega)).mp z))]
    by_cases c2 : h ≤ p
    · rw [if_pos c2, cite_pos (nI_le c2 (by omega)), pk_sub c2, pk_mul, nI_add]
    · rw [if_neg c2, cite_neg (nI_ge (by omega) (by omega)), pk_sub (by omega), pk_mul, nI_add]
theorem mnR_top {f : Nat → Nat} {lo : Nat} : ∀ j, mnR f lo j ≤ 1000000
  | 0 => Nat.le_refl _
  | j + 1 => Nat.le_trans (Nat.min_le_left _ _) (mnR_top j)
theorem layPosts_ok {m : MM} {n sl u s c : Nat} {d : Nat → Nat} (hn : n ≤ 12) (hs' : sl ≤ 99) (hu : u ≤ 99) (hs : s ≤ 99) (hc : c ≤ 99) (hd : ∀ i, i < n → d i ≤ 99 ∧ m.1 189 i = nI (d i)) (e2 : m.1 156 50 = nI n) :
    Runs e_X12_layPosts [.ref 156, .int (nI sl), .int (nI u), .int (nI s), .int (nI c)] m (fun r m' => r = .null ∧ (Fr1 190 m m' ∧ ∀ j, j ≤ n → ∀ p, p < 100 → m'.1 190 (100 * j + p) = nI (pcN n d sl u s c (n - j) p))) := by
  apply b_X12_layPosts
  refine for_up (Y := e_X12_layPosts) (pc := 3) (fun k => [(0, .ref 156), (1, .int (nI sl)), (2, .int (nI u)), (3, .int (nI s)), (4, .int (nI c)), (5, .int (nI k))]) (fun k m' => Fr1 190 m m' ∧ ∀ p, p < k → m'.1 190 (100 * n + p) = nI 0) 100 ?_ ?_ 0 m (by omega) ⟨Fr1.rf _ _, fun p hp => absurd hp (Nat.not_lt_zero _)⟩
  · rintro m' ⟨q1, q2⟩
    refine b_X12_layPosts_3 _ _ _ _ _ _ _ ⟨fun _ => ?_, fun z => absurd (by rfl) z⟩
    rw [q1.2 156 (by decide), e2]
    refine for_up (Y := e_X12_layPosts) (pc := 40) (fun k => [(0, .ref 156), (1, .int (nI sl)), (2, .int (nI u)), (3, .int (nI s)), (4, .int (nI c)), (5, .int (nI (n - k) - 1))]) (fun k m' => Fr1 190 m m' ∧ ∀ j, n - k ≤ j → j ≤ n → ∀ p, p < 100 → m'.1 190 (100 * j + p) = nI (pcN n d sl u s c (n - j) p)) n ?_ ?_ 0 m' (by omega) ⟨q1, fun j h1 h2 p hp => ?_⟩
    · rintro m2 ⟨r1, r2⟩
      exact b_X12_layPosts_40 _ _ _ _ _ _ _ ⟨fun _ => ⟨rfl, r1, fun j hj => r2 j (by omega) hj⟩, fun z => absurd (by rw [Nat.sub_self]; decide) z⟩
    · rintro k m2 hk ⟨r1, r2⟩ hg
      obtain ⟨i, hi⟩ : ∃ i, i = n - (k + 1) := ⟨_, rfl⟩
      have e1 : nI (n - k) - 1 = nI i := by rw [show n - k = i + 1 by omega, nI_pred]
      have e2' : nI (n - (k + 1)) - 1 = nI i + (-1) := by rw [← hi, Int32.sub_eq_add_neg]
      rw [e2'] at hg
      rw [e1]
      obtain ⟨d1, d2⟩ := hd i (by omega)
      have hgb : ∀ p, p ≤ 99 → pcN n d sl u s c (n - (i + 1)) p ≤ 120000 := fun p hp => by
        have := pcN_le (sl := sl) hu hs hc (fun i hi => (hd i hi).1) (n - (i + 1)) (by omega) p hp
        omega
      refine b_X12_layPosts_40 _ _ _ _ _ _ _ ⟨fun z => absurd z (nI_pos (by omega)), fun _ => ?_⟩
      refine for_up (Y := e_X12_layPosts) (pc := 48) (fun p => [(0, .ref 156), (1, .int (nI sl)), (2, .int (nI u)), (3, .int (nI s)), (4, .int (nI c)), (5, .int (nI i)), (6, .int (nI p))]) (fun q m' => Fr1 190 m m' ∧ (∀ j, i < j → j ≤ n → ∀ p, p < 100 → m'.1 190 (100 * j + p) = nI (pcN n d sl u s c (n - j) p)) ∧ ∀ p, p < q → m'.1 190 (100 * i + p) = nI (pcN n d sl u s c (n - i) p)) 100 ?_ ?_ 0 m2 (by omega) ⟨r1, fun j h1 h2 => r2 j (by omega) h2, fun p hp => absurd hp (Nat.not_lt_zero _)⟩
      · rintro m3 ⟨t1, t2, t3⟩
        refine b_X12_layPosts_48 _ _ _ _ _ _ _ _ ⟨fun _ => hg m3 ⟨t1, fun j h1 h2 p hp => ?_⟩, fun z => absurd (by rfl) z⟩
        by_cases cj : j = i
        · subst cj; exact t3 p hp
        · exact t2 j (by omega) h2 p hp
      · rintro p m3 hp ⟨t1, t2, t3⟩ hgp
        have t189 : m3.1 189 i = nI (d i) := by rw [t1.2 189 (by decide)]; exact d2
        refine b_X12_layPosts_48 _ _ _ _ _ _ _ _ ⟨fun z => absurd z (nI_ge (a := p) (b := 100) hp (by omega)), fun _ => ⟨vp_in_nI (by omega) (by omega), ?_⟩⟩
        rw [nI_clamp (by omega), t189]
        refine for_up (Y := e_X12_layPosts) (pc := 69) (fun j => [(0, .ref 156), (1, .int (nI sl)), (2, .int (nI u)), (3, .int (nI s)), (4, .int (nI c)), (5, .int (nI i)), (6, .int (nI p)), (7, .int (nI (mnR (fun h => scN u s c p h + pcN n d sl u s c (n - (i + 1)) h) (d i) j))), (8, .int (nI (d i + j)))]) (fun j m' => m' = m3) (min 99 (d i + sl) + 1 - d i) ?_ ?_ 0 m3 (by omega) rfl
        · rintro m4 rfl
          have em : v_X12_mostOf m4 (nI i) (nI sl) = nI (min 99 (d i + sl)) := by
            unfold v_X12_mostOf
            rw [nI_clamp (by omega), t189, nI_add]
            exact least_nI (a := 99) (by omega) (by omega)
          refine b_X12_layPosts_69 _ _ _ _ _ _ _ _ _ _ ⟨⟨vp_in_nI (by omega) (by omega), trivial⟩, ?_⟩
          rw [em, show (100 : Int32) = nI 100 from rfl, pk_mul, nI_add, nI_clamp (by omega), nI_1]
          refine ⟨fun _ => ⟨vp_in_nI (by omega) (by omega), hgp _ ⟨t1.w _ _, fun j h1 h2 p' hp' => by rw [wI_k, pk_un (by omega)]; exact t2 j h1 h2 p' hp', fun p' hp' => ?_⟩⟩, fun z => absurd (nI_lt (by omega) (by omega)) z⟩
          rw [wI_k]
          by_cases cp : p' = p
          · subst cp
            rw [pk_us, show n - i = (n - (i + 1)) + 1 by omega, pcN, show n - (n - (i + 1) + 1) = i by omega]
          · rw [pk_un (by omega)]; exact t3 p' (by omega)
        · rintro j m4 hj rfl hgj
          have em : v_X12_mostOf m4 (nI i) (nI sl) = nI (min 99 (d i + sl)) := by
            unfold v_X12_mostOf
            rw [nI_clamp (by omega), t189, nI_add]
            exact least_nI (a := 99) (by omega) (by omega)
          have hq := scN_le hu hs hc (show p ≤ 99 by omega) (show d i + j ≤ 99 by omega)
          have hq2 := hgb (d i + j) (by omega)
          have hq3 := mnR_top (f := fun h => scN u s c p h + pcN n d sl u s c (n - (i + 1)) h) (lo := d i) j
          have hcell := t2 (i + 1) (by omega) (by omega) (d i + j) (by omega)
          have hgj := hgj m4 rfl
          rw [mnR] at hgj
          refine b_X12_layPosts_69 _ _ _ _ _ _ _ _ _ _ ⟨⟨vp_in_nI (by omega) (by omega), trivial⟩, ?_⟩
          rw [em, stepM (by omega) (by omega) hu hs hc, show (100 : Int32) = nI 100 from rfl, pk_mul, nI_add, nI_add, nI_add, nI_clamp (by omega), nI_clamp (by omega), show 100 * i + 100 + (d i + j) = 100 * (i + 1) + (d i + j) by omega, hcell, nI_add, least_nI (by omega) (by omega), nI_1 (d i + j)]
          exact ⟨fun z => absurd z (nI_nlt (by omega) (by omega)), fun _ => ⟨vp_in_nI (by omega) (by omega), hgj⟩⟩
    · obtain rfl : j = n := by omega
      rw [q2 p hp, Nat.sub_self]; rfl
  · rintro k m' hk ⟨q1, q2⟩ hg
    refine b_X12_layPosts_3 _ _ _ _ _ _ _ ?_
    rw [q1.2 156 (by decide), e2, show (100 : Int32) = nI 100 from rfl, pk_mul, nI_add, nI_clamp (by omega), nI_1]
    refine ⟨fun z => absurd z (nI_ge hk (by omega)), fun _ => ⟨vp_in_nI (by omega) (by omega), hg _ ⟨q1.w _ _, fun p hp => ?_⟩⟩⟩
    rw [wI_k]
    by_cases cc : p = k
    · subst cc
      rw [pk_us]; rfl
    · rw [pk_un (by omega)]; exact q2 p (by omega)
def fsN (n : Nat) (d : Nat → Nat) (sl u s c k p : Nat) : Nat := fa_first (fun j => decide (scN u s c p (d k + j) + pcN n d sl u s c (n - (k + 1)) (d k + j) = pcN n d sl u s c (n - k) p)) (min 99 (d k + sl) + 1 - d k)
def hnN (n : Nat) (d : Nat → Nat) (sl u s c h0 : Nat) : Nat → Nat
  | 0 => h0
  | k + 1 => d k + fsN n d sl u s c k (hnN n d sl u s c h0 k)
section
variable {n sl u s c h0 : Nat} {d : Nat → Nat}
theorem fsN_ok (hu : u ≤ 99) (hs : s ≤ 99) (hc : c ≤ 99) (hd : ∀ i, i < n → d i ≤ 99) (h12 : n ≤ 12) {k p : Nat} (hk : k < n) (hp : p ≤ 99) : fsN n d sl u s c k p < min 99 (d k + sl) + 1 - d k ∧ scN u s c p (d k + fsN n d sl u s c k p) + pcN n d sl u s c (n - (k + 1)) (d k + fsN n d sl u s c k p) = pcN n d sl u s c (n - k) p ∧ ∀ j, j < fsN n d sl u s c k p → ¬ scN u s c p (d k + j) + pcN n d sl u s c (n - (k + 1)) (d k + j) = pcN n d sl u s c (n - k) p := by
  have d1 := hd k hk
  have q1 := scN_le hu hs hc hp d1
  have q2 := pcN_le (sl := sl) hu hs hc hd (n - (k + 1)) (by omega) (d k) d1
  obtain ⟨-, x, x1, x2, x3⟩ := mnR_at (f := fun h => scN u s c p h + pcN n d sl u s c (n - (k + 1)) h) (lo := d k) (hi := min 99 (d k + sl)) (by omega) (by show scN u s c p (d k) + pcN n d sl u s c (n - (k + 1)) (d k) < 1000000; omega)
  have ev : pcN n d sl u s c (n - k) p = mnR (fun h => scN u s c p h + pcN n d sl u s c (n - (k + 1)) h) (d k) (min 99 (d k + sl) + 1 - d k) := by
    rw [show n - k = (n - (k + 1)) + 1 by omega, pcN, show n - (n - (k + 1) + 1) = k by omega]
  have hlt : fsN n d sl u s c k p < min 99 (d k + sl) + 1 - d k := by
    rcases Nat.lt_or_ge (fsN n d sl u s c k p) (min 99 (d k + sl) + 1 - d k) with z | z
    · exact z
    · have := fa_first_no (fun j => decide (scN u s c p (d k + j) + pcN n d sl u s c (n - (k + 1)) (d k + j) = pcN n d sl u s c (n - k) p)) (min 99 (d k + sl) + 1 - d k) (x - d k) (by
        have z : min 99 (d k + sl) + 1 - d k ≤ fa_first _ _ := z
        omega)
      have := of_decide_eq_false this
      rw [show d k + (x - d k) = x by omega, ev, x3] at this
      exact absurd rfl this
  refine ⟨hlt, of_decide_eq_true (fa_first_yes _ _ hlt), fun j hj => of_decide_eq_false (fa_first_no _ _ j hj)⟩
theorem hnN_le (hu : u ≤ 99) (hs : s ≤ 99) (hc : c ≤ 99) (hd : ∀ i, i < n → d i ≤ 99) (h12 : n ≤ 12) (h0' : h0 ≤ 99) : ∀ k, k ≤ n → hnN n d sl u s c h0 k ≤ 99
  | 0, _ => h0'
  | k + 1, hk => by
    have ih := hnN_le hu hs hc hd h12 h0' k (by omega)
    have := (fsN_ok (sl := sl) hu hs hc hd h12 (show k < n by omega) ih).1
    rw [hnN]; omega
theorem nextHeight_ok {m : MM} {k p : Nat} (hs' : sl ≤ 99) (hu : u ≤ 99) (hs : s ≤ 99) (hc : c ≤ 99) (hn : n ≤ 12) (hk : k < n) (hp : p ≤ 99) (hd : ∀ i, i < n → d i ≤ 99 ∧ m.1 96 i = nI (d i)) (e3 : m.1 95 3 = nI sl) (e4 : m.1 95 4 = nI u) (e5 : m.1 95 5 = nI s) (e6 : m.1 95 6 = nI c) (hr : ∀ j, j ≤ n → ∀ p, p < 100 → m.1 97 (100 * j + p) = nI (pcN n d sl u s c (n - j) p)) :
    Runs e_X5_nextHeight [.ref 95, .int (nI k), .int (nI p)] m (fun r m' => r = .int (nI (d k + fsN n d sl u s c k p)) ∧ m' = m) := by
  obtain ⟨d1, d2⟩ := hd k hk
  have hd' : ∀ i, i < n → d i ≤ 99 := fun i hi => (hd i hi).1
  obtain ⟨f1, f2, f3⟩ := fsN_ok (sl := sl) hu hs hc hd' hn hk hp
  have ht := pcN_le (sl := sl) hu hs hc hd' (n - k) (by omega) p hp
  refine b_X5_nextHeight _ _ _ _ ⟨vp_in_nI (by omega) (by omega), ?_⟩
  rw [nI_clamp (by omega), d2]
  refine for_up (Y := e_X5_nextHeight) (pc := 7) (fun j => [(0, .ref 95), (1, .int (nI k)), (2, .int (nI p)), (3, .int (nI (d k + j)))]) (fun j m' => m' = m) (fsN n d sl u s c k p) ?_ ?_ 0 m (by omega) rfl
  · rintro m' rfl
    obtain ⟨c1, c2⟩ := canBe_ok (m := m') (p := d k + fsN n d sl u s c k p) (by omega) d1 hs' (by omega) d2 e3
    obtain ⟨b1, b2⟩ := behind_ok (m := m') (p := d k + fsN n d sl u s c k p) (g := pcN n d sl u s c (n - (k + 1))) (by omega) d1 hs' (by omega) d2 e3 fun p hp => hr (k + 1) (by omega) p hp
    have eb : bhN (d k) (min 99 (d k + sl)) (pcN n d sl u s c (n - (k + 1))) (d k + fsN n d sl u s c k p) = pcN n d sl u s c (n - (k + 1)) (d k + fsN n d sl u s c k p) := by
      unfold bhN; rw [if_pos (by omega)]
    refine b_X5_nextHeight_7 _ _ _ _ _ ?_
    rw [b2, eb, stepX hp (by omega) hu hs hc e4 e5 e6, nI_add, f2, show (100 : Int32) = nI 100 from rfl, pk_mul, nI_add, nI_clamp (by omega), show k * 100 + p = 100 * k + p by omega, hr k (by omega) p (by omega)]
    exact ⟨fun z => absurd z (nI_nlt (a := 99) (by omega) (by omega)), fun _ => ⟨c1, fun _ => ⟨b1, vp_in_nI (by omega) (by omega), fun z => absurd rfl z, fun _ => ⟨rfl, rfl⟩⟩, fun z => absurd (c2.mpr (by omega)) z⟩⟩
  · rintro j m' hj rfl hg
    have hg := hg m' rfl
    obtain ⟨c1, c2⟩ := canBe_ok (m := m') (p := d k + j) (by omega) d1 hs' (by omega) d2 e3
    obtain ⟨b1, b2⟩ := behind_ok (m := m') (p := d k + j) (g := pcN n d sl u s c (n - (k + 1))) (by omega) d1 hs' (by omega) d2 e3 fun p hp => hr (k + 1) (by omega) p hp
    have eb : bhN (d k) (min 99 (d k + sl)) (pcN n d sl u s c (n - (k + 1))) (d k + j) = pcN n d sl u s c (n - (k + 1)) (d k + j) := by
      unfold bhN; rw [if_pos (by omega)]
    have q1 := scN_le hu hs hc hp (show d k + j ≤ 99 by omega)
    have q2 := pcN_le (sl := sl) hu hs hc hd' (n - (k + 1)) (by omega) (d k + j) (by omega)
    refine b_X5_nextHeight_7 _ _ _ _ _ ?_
    rw [b2, eb, stepX hp (by omega) hu hs hc e4 e5 e6, nI_add, show (100 : Int32) = nI 100 from rfl, pk_mul, nI_add, nI_clamp (by omega), show k * 100 + p = 100 * k + p by omega, hr k (by omega) p (by omega), nI_1]
    exact ⟨fun z => absurd z (nI_nlt (a := 99) (by omega) (by omega)), fun _ => ⟨c1, fun _ => ⟨b1, vp_in_nI (by omega) (by omega), fun _ => hg, fun z => absurd ((nI_eq (by omega) (by omega)).mp z) (f3 j hj)⟩, fun z => absurd (c2.mpr (by omega)) z⟩⟩
theorem heightIn_ok {m : MM} {y : Nat} (hs' : sl ≤ 99) (hu : u ≤ 99) (hs : s ≤ 99) (hc : c ≤ 99) (hn : n ≤ 12) (hy : y < n) (h99 : h0 ≤ 99) (hd : ∀ i, i < n → d i ≤ 99 ∧ m.1 96 i = nI (d i)) (e2 : m.1 95 2 = nI n) (e3 : m.1 95 3 = nI sl) (e4 : m.1 95 4 = nI u) (e5 : m.1 95 5 = nI s) (e6 : m.1 95 6 = nI c) (hr : ∀ j, j ≤ n → ∀ p, p < 100 → m.1 97 (100 * j + p) = nI (pcN n d sl u s c (n - j) p)) :
    Runs e_X5_heightIn [.ref 95, .int (nI h0), .int (nI y)] m (fun r m' => r = .int (nI (hnN n d sl u s c h0 (y + 1))) ∧ m' = m) := by
  have hd' : ∀ i, i < n → d i ≤ 99 := fun i hi => (hd i hi).1
  apply b_X5_heightIn
  refine for_up (Y := e_X5_heightIn) (pc := 5) (fun k => [(0, .ref 95), (2, .int (nI y)), (3, .int (nI (hnN n d sl u s c h0 k))), (4, .int (nI k))]) (fun k m' => m' = m) (y + 1) ?_ ?_ 0 m (by omega) rfl
  · rintro m' rfl
    exact b_X5_heightIn_5 _ _ _ _ _ ⟨fun _ => ⟨rfl, rfl⟩, fun z => absurd (nI_lt (by omega) (by omega)) z⟩
  · rintro k m' hk rfl hg
    refine b_X5_heightIn_5 _ _ _ _ _ ?_
    rw [e2, nI_1]
    refine ⟨fun z => absurd z (nI_nlt (by omega) (by omega)), fun _ => ⟨fun z => absurd z (nI_ge (by omega) (by omega)), fun _ => ?_⟩⟩
    refine icall (nextHeight_ok hs' hu hs hc hn (show k < n by omega) (hnN_le hu hs hc hd' hn h99 k (by omega)) hd e3 e4 e5 e6 hr) ?_
    rintro m1 rfl
    exact hg m1 rfl
theorem postAtM_ok {m : MM} {y : Nat} (hs' : sl ≤ 99) (hu : u ≤ 99) (hs : s ≤ 99) (hc : c ≤ 99) (hn : n ≤ 12) (hy : y < n) (h99 : h0 ≤ 99) (hd : ∀ i, i < n → d i ≤ 99 ∧ m.1 189 i = nI (d i)) (hr : ∀ j, j ≤ n → ∀ p, p < 100 → m.1 190 (100 * j + p) = nI (pcN n d sl u s c (n - j) p)) {Q : Value → MM → Prop} (hQ : Q (.int (nI (hnN n d sl u s c h0 (y + 1)))) m) :
    G e_X12_postAt 45 [(0, .ref 156), (3, .int (nI u)), (4, .int (nI s)), (5, .int (nI c)), (6, .int (nI y)), (7, .int (nI h0)), (8, .int (nI 0))] [] m Q := by
  have hd' : ∀ i, i < n → d i ≤ 99 := fun i hi => (hd i hi).1
  refine for_up (Y := e_X12_postAt) (pc := 45) (fun k => [(0, .ref 156), (3, .int (nI u)), (4, .int (nI s)), (5, .int (nI c)), (6, .int (nI y)), (7, .int (nI (hnN n d sl u s c h0 k))), (8, .int (nI k))]) (fun k m' => m' = m) (y + 1) ?_ ?_ 0 m (by omega) rfl
  · rintro m' rfl
    exact b_X12_postAt_45 _ _ _ _ _ _ _ _ ⟨fun _ => hQ, fun z => absurd (nI_lt (by omega) (by omega)) z⟩
  · rintro k m' hk rfl hg
    have hg := hg m' rfl
    obtain ⟨d1, d2⟩ := hd k (by omega)
    have hp := hnN_le (sl := sl) hu hs hc hd' hn h99 k (by omega)
    obtain ⟨f1, f2, f3⟩ := fsN_ok (sl := sl) hu hs hc hd' hn (show k < n by omega) hp
    rw [hnN] at hg
    generalize hnN n d sl u s c h0 k = p at *
    have ht := pcN_le (sl := sl) hu hs hc hd' (n - k) (by omega) p hp
    refine b_X12_postAt_45 _ _ _ _ _ _ _ _ ?_
    rw [nI_clamp (by omega), d2]
    refine ⟨fun z => absurd z (nI_nlt (by omega) (by omega)), fun _ => ⟨vp_in_nI (by omega) (by omega), ?_⟩⟩
    refine for_up (Y := e_X12_postAt) (pc := 61) (fun j => [(0, .ref 156), (3, .int (nI u)), (4, .int (nI s)), (5, .int (nI c)), (6, .int (nI y)), (7, .int (nI p)), (8, .int (nI k)), (9, .int (nI (d k + j)))]) (fun j m'' => m'' = m') (fsN n d sl u s c k p) ?_ ?_ 0 m' (by omega) rfl
    · rintro m2 rfl
      refine b_X12_postAt_61 _ _ _ _ _ _ _ _ _ ?_
      rw [stepM hp (by omega) hu hs hc, show (100 : Int32) = nI 100 from rfl, pk_mul, nI_add, nI_add, nI_add, nI_clamp (by omega), nI_clamp (by omega), show 100 * k + 100 + (d k + fsN n d sl u s c k p) = 100 * (k + 1) + (d k + fsN n d sl u s c k p) by omega, hr (k + 1) (by omega) _ (by omega), hr k (by omega) p (by omega), nI_add, f2, nI_1]
      exact ⟨vp_in_nI (by omega) (by omega), vp_in_nI (by omega) (by omega), fun _ => hg, fun z => absurd rfl z⟩
    · rintro j m2 hj rfl hgj
      have hgj := hgj m2 rfl
      have q1 := scN_le hu hs hc hp (show d k + j ≤ 99 by omega)
      have q2 := pcN_le (sl := sl) hu hs hc hd' (n - (k + 1)) (by omega) (d k + j) (by omega)
      refine b_X12_postAt_61 _ _ _ _ _ _ _ _ _ ?_
      rw [stepM hp (by omega) hu hs hc, show (100 : Int32) = nI 100 from rfl, pk_mul, nI_add, nI_add, nI_add, nI_clamp (by omega), nI_clamp (by omega), show 100 * k + 100 + (d k + j) = 100 * (k + 1) + (d k + j) by omega, hr (k + 1) (by omega) _ (by omega), hr k (by omega) p (by omega), nI_add, nI_1, nI_1]
      exact ⟨vp_in_nI (by omega) (by omega), vp_in_nI (by omega) (by omega), fun z => absurd ((nI_eq (by omega) (by omega)).mp z) (f3 j hj), fun _ => hgj⟩
end
/-! posts, postAt -/
def duV (c : Nat → Nat → Int32) (i : Nat) : Nat := (c 189 i).toNatClampNeg
theorem row_v {c : Nat → Nat → Int32} (h : RowR c) : ∃ n : Nat, n ≤ 12 ∧ c 95 2 = nI n ∧ c 156 50 = nI n ∧ ∀ i, i < n → duV c i ≤ 99 ∧ c 189 i = nI (duV c i) ∧ c 96 i = nI (duV c i) := by
  obtain ⟨n, h1, h2, h3, h4⟩ := h
  refine ⟨n, h1, h2, h3, fun i hi => ?_⟩
  obtain ⟨⟨d, d1, d2⟩, d3⟩ := h4 i hi
  have e : duV c i = d := by unfold duV; rw [d2, nI_clamp (by omega)]
  rw [e, d3]
  exact ⟨d1, d2, d2⟩
theorem posts_g {m m' : MM} {a1 a2 a3 a4 a5 : Int32} : (p_X11_arePosts m a1 a2 a3 a4 a5 ∧ p_X12_isPosts m' a1 a2 a3 a4 a5 ∧ ∃ h0 sl u s c : Nat, h0 ≤ 99 ∧ sl ≤ 99 ∧ u ≤ 99 ∧ s ≤ 99 ∧ c ≤ 99 ∧ a1 = nI h0 ∧ a2 = nI sl ∧ a3 = nI u ∧ a4 = nI s ∧ a5 = nI c) ∨ ¬ (inR a1 100 ∧ inR a2 100 ∧ inR a3 100 ∧ inR a4 100 ∧ inR a5 100) := by
  by_cases c : inR a1 100 ∧ inR a2 100 ∧ inR a3 100 ∧ inR a4 100 ∧ inR a5 100
  · obtain ⟨i1, i2, i3, i4, i5⟩ := id c
    obtain ⟨h0, b1, e1⟩ := i1
    obtain ⟨sl, b2, e2⟩ := i2
    obtain ⟨u, b3, e3⟩ := i3
    obtain ⟨s, b4, e4⟩ := i4
    obtain ⟨cc, b5, e5⟩ := i5
    refine Or.inl ⟨?_, ?_, h0, sl, u, s, cc, by omega, by omega, by omega, by omega, by omega, e1, e2, e3, e4, e5⟩
    · unfold p_X11_arePosts
      rw [w99_X, w99_X, w99_X, w99_X, w99_X]; exact c
    · unfold p_X12_isPosts
      rw [isIn_M, isIn_M, isIn_M, isIn_M, isIn_M]; exact c
  · exact Or.inr c
theorem posts_nX {m : MM} {a1 a2 a3 a4 a5 : Int32} (h : ¬ (inR a1 100 ∧ inR a2 100 ∧ inR a3 100 ∧ inR a4 100 ∧ inR a5 100)) : ¬ p_X11_arePosts m a1 a2 a3 a4 a5 := by
  unfold p_X11_arePosts
  rw [w99_X, w99_X, w99_X, w99_X, w99_X]; exact h
theorem posts_nM {m : MM} {a1 a2 a3 a4 a5 : Int32} (h : ¬ (inR a1 100 ∧ inR a2 100 ∧ inR a3 100 ∧ inR a4 100 ∧ inR a5 100)) : ¬ p_X12_isPosts m a1 a2 a3 a4 a5 := by
  unfold p_X12_isPosts
  rw [isIn_M, isIn_M, isIn_M, isIn_M, isIn_M]; exact h
theorem prices_ok (m : MM) (a2 a3 a4 a5 : Int32) : Runs e_X5_prices [.ref 95, .int a2, .int a3, .int a4, .int a5] m (fun r m' => r = .null ∧ (Kq m m' ∧ m'.1 95 3 = a2 ∧ m'.1 95 4 = a3 ∧ m'.1 95 5 = a4 ∧ m'.1 95 6 = a5)) := by
  apply b_X5_prices
  refine ⟨rfl, ((((Kp.rf m).w _ rfl).w _ rfl).w _ rfl).w _ rfl, ?_, ?_, ?_, ?_⟩
  · rw [wI_k, pk_un (by decide), wI_k, pk_un (by decide), wI_k, pk_un (by decide), wI_k, pk_us]
  · rw [wI_k, pk_un (by decide), wI_k, pk_un (by decide), wI_k, pk_us]
  · rw [wI_k, pk_un (by decide), wI_k, pk_us]
  · rw [wI_k, pk_us]
theorem st_posts (a1 a2 a3 a4 a5 : Int32) : StepOK RR e_X11_posts e_X12_posts [.int a1, .int a2, .int a3, .int a4, .int a5] := by
  apply step_q
  rintro mm ⟨t, s, H, O, S, Qn, W, C, J, F, B, ht, hs, hr, hb, hl⟩
  obtain ⟨z1, z2, z3, z4, z5, z6, z7, z8, z9⟩ := hb.sz
  obtain ⟨n1, n2, n3, n4, n5, n6, n7, n8, n9⟩ := hb.nm
  obtain ⟨c1, c2, c3, c4, c5, c6, c7, c8, c9, c10⟩ := hb.nc
  have rf := Kp.rf (kp := kq) mm
  have hs' : s = 24 ∨ s = 114 := hs
  have ht' : t = 10 ∨ t = 100 := ht
  obtain ⟨n, hn, e2, e50, hw⟩ := row_v hb.2.2.2.2.1
  rcases posts_g (m := mm) (m' := mm) (a1 := a1) (a2 := a2) (a3 := a3) (a4 := a4) (a5 := a5) with ⟨gX, gM, h0, sl, u, sk, c, b1, b2, b3, b4, b5, rfl, rfl, rfl, rfl, rfl⟩ | hno
  · refine ⟨.int (nI (pcN n (duV mm.1) sl u sk c n h0)), ?_, fun m k => ?_⟩
    · refine b_X11_posts _ _ _ _ _ _ _ ⟨fun _ => ?_, fun z => absurd gX z⟩
      refine vcall (prices_ok mm _ _ _ _) ?_
      rintro m1 ⟨k1, p3, p4, p5, p6⟩
      refine icall (fill_ok (m := m1) (d := duV mm.1) hn b2 b3 b4 b5 b1 (fun i hi => ⟨(hw i hi).1, by rw [k1.r96]; exact (hw i hi).2.2⟩) (by rw [k1.g 95 2 rfl]; exact e2) p3 p4 p5 p6) ?_
      rintro m2 ⟨f, -⟩
      exact ⟨rfl, k1.tr (f.kq fun _ => rfl)⟩
    · refine b_X12_posts _ _ _ _ _ _ _ ⟨fun _ => ?_, fun z => absurd gM z⟩
      refine vcall (layPosts_ok (m := m) (d := duV mm.1) hn b2 b3 b4 b5 (fun i hi => ⟨(hw i hi).1, by rw [k.r189]; exact (hw i hi).2.1⟩) (by rw [k.g 156 50 rfl]; exact e50)) ?_
      rintro m1 ⟨f, hr⟩
      have := hr 0 (by omega) h0 (by omega)
      rw [Nat.mul_zero, Nat.zero_add, Nat.sub_zero] at this
      rw [nI_clamp (by omega), this]
      exact ⟨vp_in_nI (by omega) (by omega), rfl, k.tr (f.kq fun _ => rfl)⟩
  · refine ⟨.int (-1), ?_, fun m k => ?_⟩
    · exact b_X11_posts _ _ _ _ _ _ _ ⟨fun z => absurd z (posts_nX hno), fun _ => ⟨rfl, rf⟩⟩
    · exact b_X12_posts _ _ _ _ _ _ _ ⟨fun z => absurd z (posts_nM hno), fun _ => ⟨rfl, k⟩⟩
theorem wthin_pred {m : MM} {a : Int32} {n : Nat} (hn : n ≤ 12) : p_X11_within m a 0 (nI n - 1) ↔ inR a n := by
  rcases Nat.eq_zero_or_pos n with h | h
  · subst h
    refine ⟨fun z => ?_, fun ⟨j, hj, _⟩ => absurd hj (Nat.not_lt_zero _)⟩
    obtain ⟨z1, z2⟩ := z
    have e : (nI 0 - 1 : Int32) = -1 := by decide
    rw [e] at z2
    exfalso
    rw [Int32.lt_iff_toInt_lt] at z1 z2
    have e0 : (0 : Int32).toInt = 0 := by decide
    have e1 : (-1 : Int32).toInt = -1 := by decide
    omega
  · obtain ⟨k, rfl⟩ : ∃ k, n = k + 1 := ⟨n - 1, by omega⟩
    rw [nI_pred]
    exact inR_iff' (by omega)
theorem st_postAt (a1 a2 a3 a4 a5 a6 : Int32) : StepOK RR e_X11_postAt e_X12_postAt [.int a1, .int a2, .int a3, .int a4, .int a5, .int a6] := by
  apply step_q
  rintro mm ⟨t, s, H, O, S, Qn, W, C, J, F, B, ht, hs, hr, hb, hl⟩
  obtain ⟨z1, z2, z3, z4, z5, z6, z7, z8, z9⟩ := hb.sz
  obtain ⟨n1, n2, n3, n4, n5, n6, n7, n8, n9⟩ := hb.nm
  obtain ⟨c1, c2, c3, c4, c5, c6, c7, c8, c9, c10⟩ := hb.nc
  have rf := Kp.rf (kp := kq) mm
  have hs' : s = 24 ∨ s = 114 := hs
  have ht' : t = 10 ∨ t = 100 := ht
  obtain ⟨n, hn, e2, e50, hw⟩ := row_v hb.2.2.2.2.1
  rcases posts_g (m := mm) (m' := mm) (a1 := a1) (a2 := a2) (a3 := a3) (a4 := a4) (a5 := a5) with ⟨gX, gM, h0, sl, u, sk, c, b1, b2, b3, b4, b5, rfl, rfl, rfl, rfl, rfl⟩ | hno
  · by_cases c6 : inR a6 n
    · obtain ⟨y, hy, rfl⟩ := id c6
      refine ⟨.int (nI (hnN n (duV mm.1) sl u sk c h0 (y + 1))), ?_, fun m k => ?_⟩
      · refine b_X11_postAt _ _ _ _ _ _ _ _ ⟨fun _ => ?_, fun z => absurd gX z⟩
        rw [e2, wthin_pred hn]
        refine ⟨fun _ => ?_, fun z => absurd c6 z⟩
        refine vcall (prices_ok mm _ _ _ _) ?_
        rintro m1 ⟨k1, p3, p4, p5, p6⟩
        refine icall (fill_ok (m := m1) (d := duV mm.1) hn b2 b3 b4 b5 b1 (fun i hi => ⟨(hw i hi).1, by rw [k1.r96]; exact (hw i hi).2.2⟩) (by rw [k1.g 95 2 rfl]; exact e2) p3 p4 p5 p6) ?_
        rintro m2 ⟨f, hr⟩
        refine icall (heightIn_ok (m := m2) (d := duV mm.1) b2 b3 b4 b5 hn hy b1 (fun i hi => ⟨(hw i hi).1, by rw [f.2 96 (by decide), k1.r96]; exact (hw i hi).2.2⟩) (by rw [f.2 95 (by decide), k1.g 95 2 rfl]; exact e2) (by rw [f.2 95 (by decide)]; exact p3) (by rw [f.2 95 (by decide)]; exact p4) (by rw [f.2 95 (by decide)]; exact p5) (by rw [f.2 95 (by decide)]; exact p6) hr) ?_
        rintro m3 rfl
        exact ⟨rfl, k1.tr (f.kq fun _ => rfl)⟩
      · refine b_X12_postAt _ _ _ _ _ _ _ _ ⟨fun _ => ?_, fun z => absurd gM z⟩
        rw [k.g 156 50 rfl, e50]
        refine ⟨fun z => absurd z (nI_pos (by omega)), fun _ => ⟨fun _ => ?_, fun z => absurd (nI_lt hy (by omega)) z⟩⟩
        refine vcall (layPosts_ok (m := m) (d := duV mm.1) hn b2 b3 b4 b5 (fun i hi => ⟨(hw i hi).1, by rw [k.r189]; exact (hw i hi).2.1⟩) (by rw [k.g 156 50 rfl]; exact e50)) ?_
        rintro m1 ⟨f, hr⟩
        exact postAtM_ok (m := m1) (d := duV mm.1) b2 b3 b4 b5 hn hy b1 (fun i hi => ⟨(hw i hi).1, by rw [f.2 189 (by decide), k.r189]; exact (hw i hi).2.1⟩) hr ⟨rfl, k.tr (f.kq fun _ => rfl)⟩
    · have cM : ∀ m : MM, m.1 156 50 = nI n → ¬ (¬ a6 < 0 ∧ a6 < m.1 156 50) := by
        intro m e z
        rw [e] at z
        exact c6 ((inR_iff (n := n) (by omega)).mp ⟨z.1, fun y => absurd z.2 (by rw [Int32.lt_iff_toInt_lt]; rw [Int32.le_iff_toInt_le] at y; omega)⟩)
      refine ⟨.int (-1), ?_, fun m k => ?_⟩
      · refine b_X11_postAt _ _ _ _ _ _ _ _ ⟨fun _ => ?_, fun z => absurd gX z⟩
        rw [e2, wthin_pred hn]
        exact ⟨fun z => absurd z c6, fun _ => ⟨rfl, rf⟩⟩
      · refine b_X12_postAt _ _ _ _ _ _ _ _ ⟨fun _ => ?_, fun z => absurd gM z⟩
        exact ⟨fun _ => ⟨rfl, k⟩, fun z1 => ⟨fun z2 => absurd ⟨z1, z2⟩ (cM m (by rw [k.g 156 50 rfl]; exact e50)), fun _ => ⟨rfl, k⟩⟩⟩
  · refine ⟨.int (-1), ?_, fun m k => ?_⟩
    · exact b_X11_postAt _ _ _ _ _ _ _ _ ⟨fun z => absurd z (posts_nX hno), fun _ => ⟨rfl, rf⟩⟩
    · exact b_X12_postAt _ _ _ _ _ _ _ _ ⟨fun z => absurd z (posts_nM hno), fun _ => ⟨rfl, k⟩⟩

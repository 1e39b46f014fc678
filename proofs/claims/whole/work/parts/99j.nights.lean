/-! the fewest nights: numbers -/
def difN (a b : Nat) : Nat := a &&& (b ^^^ 4294967295)
theorem dif_bit {a b i : Nat} (hi : i < 32) : (difN a b).testBit i = (a.testBit i && !b.testBit i) := by
  unfold difN
  rw [Nat.testBit_and, tb_not hi]
theorem dif_I (a b : Nat) : nI a &&& (nI b ^^^ (-1)) = nI (difN a b) := by
  rw [show (-1 : Int32) = nI 4294967295 from by decide, fb_xorI, fa_and]; rfl
theorem dif_le (a b : Nat) : difN a b ≤ a := Nat.and_le_left
theorem bits_ext {a b : Nat} (ha : a < 65536) (hb : b < 65536) (h : ∀ i, i < 16 → a.testBit i = b.testBit i) : a = b := by
  refine Nat.eq_of_testBit_eq fun i => ?_
  by_cases c : i < 16
  · exact h i c
  · rw [tb_lt (n := 16) ha (by omega), tb_lt (n := 16) hb (by omega)]
theorem and0_bit {a b : Nat} (h : a &&& b = 0) (i : Nat) : ¬ (a.testBit i = true ∧ b.testBit i = true) := by
  intro z
  have : (a &&& b).testBit i = true := by rw [Nat.testBit_and, z.1, z.2]; rfl
  rw [h, Nat.zero_testBit] at this
  cases this
theorem or_lt {a b k : Nat} (ha : a < 2 ^ k) (hb : b < 2 ^ k) : a ||| b < 2 ^ k := Nat.or_lt_two_pow ha hb
/-- a set with more in it, and what is more in it -/
theorem more_fwd {set more k : Nat} (hk : k ≤ 8) (hs : set < 2 ^ k) (hm : more < 2 ^ k) (h1 : 1 ≤ more) (h0 : more &&& set = 0) : set < set ||| more ∧ set ||| more < 2 ^ k ∧ difN set (set ||| more) = 0 ∧ difN (set ||| more) set = more := by
  have hp : 2 ^ k ≤ 256 := Nat.pow_le_pow_right (n := 2) (by decide) hk
  have hor := or_lt hs hm
  refine ⟨?_, hor, ?_, ?_⟩
  · rcases Nat.lt_or_ge set (set ||| more) with c | c
    · exact c
    · have e : set ||| more = set := Nat.le_antisymm c Nat.left_le_or
      exfalso
      have : more = 0 := by
        refine Nat.eq_of_testBit_eq fun i => ?_
        rw [Nat.zero_testBit]
        cases hb : more.testBit i with
        | false => rfl
        | true =>
          have hsb : set.testBit i = true := by rw [← e, Nat.testBit_or, hb, Bool.or_true]
          exact absurd ⟨hb, hsb⟩ (and0_bit h0 i)
      omega
  · refine bits_ext (by have := dif_le set (set ||| more); omega) (by omega) fun i hi => ?_
    rw [dif_bit (by omega), Nat.testBit_or, Nat.zero_testBit]
    cases set.testBit i <;> rfl
  · refine bits_ext (by have := dif_le (set ||| more) set; omega) (by omega) fun i hi => ?_
    rw [dif_bit (by omega), Nat.testBit_or]
    have := and0_bit h0 i
    cases hb : more.testBit i <;> cases hb2 : set.testBit i <;> simp_all
theorem more_bwd {set to k : Nat} (hk : k ≤ 8) (hs : set < to) (ht : to < 2 ^ k) (h0 : difN set to = 0) : 1 ≤ difN to set ∧ difN to set < 2 ^ k ∧ difN to set &&& set = 0 ∧ set ||| difN to set = to := by
  have hp : 2 ^ k ≤ 256 := Nat.pow_le_pow_right (n := 2) (by decide) hk
  have hle := dif_le to set
  have b0 : ∀ i, i < 32 → set.testBit i = true → to.testBit i = true := by
    intro i hi hb
    have : (difN set to).testBit i = false := by rw [h0, Nat.zero_testBit]
    rw [dif_bit hi, hb] at this
    simpa using this
  have eor : set ||| difN to set = to := by
    have hl : set ||| difN to set < 2 ^ k := or_lt (by omega) (by omega)
    refine bits_ext (by omega) (by omega) fun i hi => ?_
    rw [Nat.testBit_or, dif_bit (by omega)]
    have := b0 i (by omega)
    cases hb : set.testBit i <;> cases hb2 : to.testBit i <;> simp_all
  refine ⟨?_, by omega, ?_, eor⟩
  · rcases Nat.eq_zero_or_pos (difN to set) with c | c
    · rw [c, Nat.or_zero] at eor; omega
    · exact c
  · refine bits_ext (Nat.lt_of_le_of_lt Nat.and_le_right (by omega)) (by omega) fun i hi => ?_
    rw [Nat.testBit_and, dif_bit (by omega), Nat.zero_testBit]
    cases set.testBit i <;> cases to.testBit i <;> rfl
section
variable (sf : Nat → Bool) (C N : Nat)
def mfN (g : Nat → Nat) (set : Nat) : Nat → Nat
  | 0 => if set + 1 = N then 0 else 1000000
  | j + 1 => if (j + 1) &&& set = 0 ∧ popN (j + 1) ≤ C ∧ sf (set ||| (j + 1)) = true then min (mfN g set j) (g (set ||| (j + 1)) + 1) else mfN g set j
def lfN (g : Nat → Nat) (set : Nat) : Nat → Nat
  | 0 => 1000
  | j + 1 => if difN set (set + 1 + j) = 0 ∧ popN (difN (set + 1 + j) set) ≤ C then min (lfN g set j) (g (set + 1 + j) + 1) else lfN g set j
def lvN (g : Nat → Nat) (set : Nat) : Nat := if sf set = false then 1000 else if set + 1 = N then 0 else min 1000 (lfN C g set (N - 1 - set))
def tM : Nat → Nat → Nat
  | 0, _ => 0
  | d + 1, x => if x = N - 1 - d then mfN sf C N (tM d) (N - 1 - d) (N - 1) else tM d x
def tL : Nat → Nat → Nat
  | 0, _ => 0
  | d + 1, x => if x = N - 1 - d then lvN sf C N (tL d) (N - 1 - d) else tL d x
def Rn (x a b : Nat) : Prop := if sf x = true then (a = b ∧ b + x ≤ 255) ∨ (a = 1000 ∧ b = 1000000) else a = 1000
def fnN (g : Nat → Nat) : Nat → Nat
  | 0 => 0
  | j + 1 => if popN (j + 1) ≤ C ∧ sf (j + 1) = true ∧ g (j + 1) + 1 = g 0 ∧ (fnN g j = 0 ∨ popN (j + 1) < popN (fnN g j)) then j + 1 else fnN g j
end
section
variable {sf : Nat → Bool} {C N : Nat} {g : Nat → Nat} {set : Nat}
theorem mf_top : ∀ j, mfN sf C N g set j ≤ 1000000
  | 0 => by rw [mfN]; split <;> omega
  | j + 1 => by
    have := mf_top j
    rw [mfN]; split <;> omega
theorem mf_le : ∀ j more, 1 ≤ more → more ≤ j → more &&& set = 0 ∧ popN more ≤ C ∧ sf (set ||| more) = true → mfN sf C N g set j ≤ g (set ||| more) + 1
  | 0, more, h1, h2, _ => absurd h2 (by omega)
  | j + 1, more, h1, h2, hc => by
    rw [mfN]
    by_cases c : more = j + 1
    · subst c
      rw [if_pos hc]; exact Nat.min_le_right _ _
    · have ih := mf_le j more h1 (by omega) hc
      split
      · exact Nat.le_trans (Nat.min_le_left _ _) ih
      · exact ih
theorem mf_eq (j : Nat) : mfN sf C N g set (j + 1) = if (j + 1) &&& set = 0 ∧ popN (j + 1) ≤ C ∧ sf (set ||| (j + 1)) = true then min (mfN sf C N g set j) (g (set ||| (j + 1)) + 1) else mfN sf C N g set j := rfl
theorem mf_ex : ∀ j, mfN sf C N g set j = mfN sf C N g set 0 ∨ ∃ more, 1 ≤ more ∧ more ≤ j ∧ (more &&& set = 0 ∧ popN more ≤ C ∧ sf (set ||| more) = true) ∧ mfN sf C N g set j = g (set ||| more) + 1
  | 0 => Or.inl rfl
  | j + 1 => by
    have ih := mf_ex j
    rw [mf_eq]
    by_cases c : (j + 1) &&& set = 0 ∧ popN (j + 1) ≤ C ∧ sf (set ||| (j + 1)) = true
    · rw [if_pos c]
      by_cases c2 : mfN sf C N g set j ≤ g (set ||| (j + 1)) + 1
      · rw [Nat.min_eq_left c2]
        rcases ih with e | ⟨more, q1, q2, q3, q4⟩
        · exact Or.inl e
        · exact Or.inr ⟨more, q1, by omega, q3, q4⟩
      · rw [Nat.min_eq_right (by omega)]
        exact Or.inr ⟨j + 1, by omega, by omega, c, rfl⟩
    · rw [if_neg c]
      rcases ih with e | ⟨more, q1, q2, q3, q4⟩
      · exact Or.inl e
      · exact Or.inr ⟨more, q1, by omega, q3, q4⟩
theorem lf_top : ∀ j, lfN C g set j ≤ 1000
  | 0 => Nat.le_refl _
  | j + 1 => by
    have := lf_top j
    rw [lfN]; split <;> omega
theorem lff_le : ∀ j to, set < to → to < set + 1 + j → difN set to = 0 ∧ popN (difN to set) ≤ C → lfN C g set j ≤ g to + 1
  | 0, to, h1, h2, _ => absurd h2 (by omega)
  | j + 1, to, h1, h2, hc => by
    rw [lfN]
    by_cases c : to = set + 1 + j
    · subst c
      rw [if_pos hc]; exact Nat.min_le_right _ _
    · have ih := lff_le j to h1 (by omega) hc
      split
      · exact Nat.le_trans (Nat.min_le_left _ _) ih
      · exact ih
theorem lf_ex : ∀ j, lfN C g set j = 1000 ∨ ∃ to, set < to ∧ to < set + 1 + j ∧ (difN set to = 0 ∧ popN (difN to set) ≤ C) ∧ lfN C g set j = g to + 1
  | 0 => Or.inl rfl
  | j + 1 => by
    have ih := lf_ex j
    rw [lfN]
    by_cases c : difN set (set + 1 + j) = 0 ∧ popN (difN (set + 1 + j) set) ≤ C
    · rw [if_pos c]
      by_cases c2 : lfN C g set j ≤ g (set + 1 + j) + 1
      · rw [Nat.min_eq_left c2]
        rcases ih with e | ⟨to, q1, q2, q3, q4⟩
        · exact Or.inl e
        · exact Or.inr ⟨to, q1, by omega, q3, q4⟩
      · rw [Nat.min_eq_right (by omega)]
        exact Or.inr ⟨set + 1 + j, by omega, by omega, c, rfl⟩
    · rw [if_neg c]
      rcases ih with e | ⟨to, q1, q2, q3, q4⟩
      · exact Or.inl e
      · exact Or.inr ⟨to, q1, by omega, q3, q4⟩
theorem lv_top : lvN sf C N g set ≤ 1000 := by
  unfold lvN
  split
  · omega
  · split <;> omega
theorem Rn_step {k : Nat} {gL gM : Nat → Nat} (hk : k ≤ 8) (hN : N = 2 ^ k) (hs : set < N) (h : ∀ x, set < x → x < N → Rn sf x (gL x) (gM x)) : Rn sf set (lvN sf C N gL set) (mfN sf C N gM set (N - 1)) := by
  have hp : 2 ^ k ≤ 256 := Nat.pow_le_pow_right (n := 2) (by decide) hk
  unfold Rn lvN
  by_cases cs : sf set = true
  · rw [if_pos cs, if_neg (by rw [cs]; decide)]
    by_cases ca : set + 1 = N
    · rw [if_pos ca]
      have e0 : mfN sf C N gM set 0 = 0 := by rw [mfN, if_pos ca]
      rcases mf_ex (sf := sf) (C := C) (N := N) (g := gM) (set := set) (N - 1) with e | ⟨more, q1, q2, q3, q4⟩
      · rw [e, e0]; exact Or.inl ⟨rfl, by omega⟩
      · exfalso
        have e1 : set = 2 ^ k - 1 := by omega
        have := q3.1
        rw [e1, Nat.and_two_pow_sub_one_eq_mod, Nat.mod_eq_of_lt (by omega)] at this
        omega
    · rw [if_neg ca]
      have e0 : mfN sf C N gM set 0 = 1000000 := by rw [mfN, if_neg ca]
      have hN1 : set + 1 + (N - 1 - set) = N := by omega
      -- every step of the model is one of the class, and the other way round
      have fwd : ∀ more, 1 ≤ more → more ≤ N - 1 → more &&& set = 0 ∧ popN more ≤ C ∧ sf (set ||| more) = true → set < set ||| more ∧ set ||| more < N ∧ (difN set (set ||| more) = 0 ∧ popN (difN (set ||| more) set) ≤ C) := by
        intro more q1 q2 q3
        obtain ⟨w1, w2, w3, w4⟩ := more_fwd (k := k) hk (by omega) (by omega) q1 q3.1
        exact ⟨w1, by omega, w3, by rw [w4]; exact q3.2.1⟩
      have bwd : ∀ to, set < to → to < N → (difN set to = 0 ∧ popN (difN to set) ≤ C) → sf to = true → mfN sf C N gM set (N - 1) ≤ gM to + 1 := by
        intro to q1 q2 q3 q4
        obtain ⟨w1, w2, w3, w4⟩ := more_bwd (k := k) hk q1 (by omega) q3.1
        have := mf_le (sf := sf) (C := C) (N := N) (g := gM) (set := set) (N - 1) (difN to set) w1 (by omega) ⟨w3, q3.2, by rw [w4]; exact q4⟩
        rwa [w4] at this
      have hLt := lf_top (C := C) (g := gL) (set := set) (N - 1 - set)
      have hMt := mf_top (sf := sf) (C := C) (N := N) (g := gM) (set := set) (N - 1)
      have lex := lf_ex (C := C) (g := gL) (set := set) (N - 1 - set)
      rcases mf_ex (sf := sf) (C := C) (N := N) (g := gM) (set := set) (N - 1) with e | ⟨more, q1, q2, q3, q4⟩
      · rw [e0] at e
        refine Or.inr ⟨?_, e⟩
        rcases lex with z | ⟨to, p1, p2, p3, p4⟩
        · rw [z]; rfl
        · have hr := h to p1 (by omega)
          unfold Rn at hr
          by_cases ct : sf to = true
          · rw [if_pos ct] at hr
            have := bwd to p1 (by omega) p3 ct
            omega
          · rw [if_neg ct] at hr
            omega
      · obtain ⟨w1, w2, w3⟩ := fwd more q1 q2 q3
        have hr := h _ w1 w2
        unfold Rn at hr
        rw [if_pos q3.2.2] at hr
        have hl := lff_le (C := C) (g := gL) (set := set) (N - 1 - set) _ w1 (by omega) w3
        generalize set ||| more = to0 at *
        rcases hr with ⟨r1, r2⟩ | ⟨r1, r2⟩
        · refine Or.inl ⟨?_, by omega⟩
          rcases lex with z | ⟨to, p1, p2, p3, p4⟩
          · omega
          · have hr2 := h to p1 (by omega)
            unfold Rn at hr2
            by_cases ct : sf to = true
            · rw [if_pos ct] at hr2
              have := bwd to p1 (by omega) p3 ct
              omega
            · rw [if_neg ct] at hr2
              omega
        · omega
  · rw [if_neg cs, if_pos (by simpa using cs)]
theorem tab_rel {k : Nat} (hk : k ≤ 8) (hN : N = 2 ^ k) : ∀ d, d ≤ N → ∀ x, N - d ≤ x → x < N → Rn sf x (tL sf C N d x) (tM sf C N d x)
  | 0, _, x, h1, h2 => absurd h1 (by omega)
  | d + 1, hd, x, h1, h2 => by
    have ih := tab_rel hk hN d (by omega)
    rw [tL, tM]
    by_cases c : x = N - 1 - d
    · rw [if_pos c, if_pos c, c]
      exact Rn_step hk hN (by omega) fun y y1 y2 => ih y (by omega) y2
    · rw [if_neg c, if_neg c]
      exact ih x (by omega) h2
theorem tM_top : ∀ d x, tM sf C N d x ≤ 1000000
  | 0, _ => Nat.zero_le _
  | d + 1, x => by
    rw [tM]
    split
    · exact mf_top _
    · exact tM_top d x
theorem tL_top : ∀ d x, tL sf C N d x ≤ 1000
  | 0, _ => Nat.zero_le _
  | d + 1, x => by
    rw [tL]
    split
    · exact lv_top
    · exact tL_top d x
theorem fn_lt : ∀ j, fnN sf C g j ≤ j
  | 0 => Nat.le_refl _
  | j + 1 => by
    have := fn_lt j
    rw [fnN]; split <;> omega
end
/-! the untrue houses in their order -/
def unH (U i : Nat) : Nat := fa_first (fun h => decide (i < fb_ct U.testBit (h + 1))) 16
theorem ct_le {U : Nat} {a b : Nat} (h : a ≤ b) : fb_ct U.testBit a ≤ fb_ct U.testBit b := fb_ct_mono U.testBit h
theorem ct_yes {U h : Nat} (e : U.testBit h = true) : fb_ct U.testBit (h + 1) = fb_ct U.testBit h + 1 := by rw [fb_ct_succ, e]; rfl
theorem ct_no {U h : Nat} (e : U.testBit h = false) : fb_ct U.testBit (h + 1) = fb_ct U.testBit h := by rw [fb_ct_succ, e]; rfl
theorem unH_at {U h : Nat} (hh : h < 16) (e : U.testBit h = true) : unH U (fb_ct U.testBit h) = h := by
  refine fa_first_at hh (decide_eq_true (by rw [ct_yes e]; omega)) fun j hj => decide_eq_false ?_
  have := ct_le (U := U) (show j + 1 ≤ h by omega)
  omega
theorem unH_ex {U i : Nat} (h : i < popN U) : ∃ j, j < 16 ∧ U.testBit j = true ∧ fb_ct U.testBit j = i ∧ unH U i = j := by
  obtain ⟨j, h1, h2, h3⟩ := fb_ct_kth (p := U.testBit) (n := 16) h
  exact ⟨j, h1, h2, h3, by rw [← h3]; exact unH_at h1 h2⟩
theorem ct_top {U H : Nat} (hU : U < 2 ^ H) (h16 : H ≤ 16) : fb_ct U.testBit H = popN U := by
  unfold popN
  have := fb_ct_split U.testBit H (16 - H)
  rw [show H + (16 - H) = 16 by omega] at this
  have z : fb_ct (fun k => U.testBit (H + k)) (16 - H) = 0 := fb_ct_zero.mpr fun k _ => tb_lt (n := H) hU (by omega)
  omega
def brV (U set : Nat) (dv hv : Nat → Nat) (j : Nat) : Nat := if U.testBit j = true ∧ set.testBit (fb_ct U.testBit j) = true then dv j else hv j
/-- with the first i of them brought -/
def brI (U set i : Nat) (dv hv : Nat → Nat) (j : Nat) : Nat := if U.testBit j = true ∧ fb_ct U.testBit j < i ∧ set.testBit (fb_ct U.testBit j) = true then dv j else hv j
theorem brI_all {U set : Nat} {dv hv : Nat → Nat} {j : Nat} (hj : j < 16) : brI U set (popN U) dv hv j = brV U set dv hv j := by
  unfold brI brV
  by_cases c : U.testBit j = true
  · have : fb_ct U.testBit j < popN U := by
      have := ct_le (U := U) (show j + 1 ≤ 16 by omega)
      rw [ct_yes c] at this
      unfold popN; omega
    simp only [c, this, true_and]
  · rw [if_neg (fun z => c z.1), if_neg (fun z => c z.1)]
theorem brI_0 {U set : Nat} {dv hv : Nat → Nat} {j : Nat} : brI U set 0 dv hv j = hv j := by
  unfold brI
  rw [if_neg (fun z => absurd z.2.1 (Nat.not_lt_zero _))]
theorem brI_off {U set i : Nat} {dv hv : Nat → Nat} {j : Nat} (h : ¬ (U.testBit j = true ∧ fb_ct U.testBit j = i)) : brI U set (i + 1) dv hv j = brI U set i dv hv j := by
  unfold brI
  by_cases c : U.testBit j = true ∧ fb_ct U.testBit j < i ∧ set.testBit (fb_ct U.testBit j) = true
  · rw [if_pos c, if_pos ⟨c.1, by omega, c.2.2⟩]
  · rw [if_neg c, if_neg (fun z => c ⟨z.1, by
      have := z.2.1
      have : ¬ fb_ct U.testBit j = i := fun y => h ⟨z.1, y⟩
      omega, z.2.2⟩)]
theorem brI_skip {U set i : Nat} {dv hv : Nat → Nat} {j : Nat} (h : set.testBit i = false) : brI U set (i + 1) dv hv j = brI U set i dv hv j := by
  by_cases c : U.testBit j = true ∧ fb_ct U.testBit j = i
  · unfold brI
    rw [c.2, h, if_neg (by simp), if_neg (by simp)]
  · exact brI_off c
theorem brI_on {U set i : Nat} {dv hv : Nat → Nat} {j : Nat} (hj : U.testBit j = true) (e : fb_ct U.testBit j = i) (h : set.testBit i = true) : brI U set (i + 1) dv hv j = dv j := by
  unfold brI
  rw [if_pos ⟨hj, by omega, by rw [e]; exact h⟩]
theorem brV_le {U set : Nat} {dv hv : Nat → Nat} {j : Nat} (h1 : dv j ≤ 99) (h2 : hv j ≤ 99) : brV U set dv hv j ≤ 99 := by
  unfold brV; split <;> assumption
def hbN (U set : Nat) : Nat → Nat
  | 0 => 0
  | i + 1 => if set.testBit i = true then hbN U set i ||| 2 ^ unH U i else hbN U set i
/-- keeps every door -/
noncomputable def sfV (c : Nat → Nat → Int32) (U : Nat) (dv hv : Nat → Nat) (set : Nat) : Bool := decide ((nI (rchV (c 162) (fun h => nI (hv h)) (tideV c 12) (-1) (-1)) &&& (nI (rchV (c 162) (fun h => nI (brV U set dv hv h)) (tideV c 12) (-1) (-1)) ^^^ (-1))) = 0)
theorem sf_0 {c : Nat → Nat → Int32} {U : Nat} {dv hv : Nat → Nat} : sfV c U dv hv 0 = true := by
  unfold sfV
  have e : (fun h => nI (brV U 0 dv hv h)) = fun h => nI (hv h) := by
    funext h
    unfold brV
    rw [if_neg (fun z => by have := z.2; rw [Nat.zero_testBit] at this; cases this)]
  rw [e]
  exact decide_eq_true (and_not_self _)
noncomputable def dnV (c : Nat → Nat → Int32) (h : Nat) : Nat := (dueV c h).toNatClampNeg
theorem dnV_ok (c : Nat → Nat → Int32) (h : Nat) : dnV c h ≤ 99 ∧ dueV c h = nI (dnV c h) := by
  obtain ⟨D, h1, h2⟩ := dueV_nI c h
  have e : dnV c h = D := by unfold dnV; rw [h2, nI_clamp (by omega)]
  rw [e]; exact ⟨h1, h2⟩

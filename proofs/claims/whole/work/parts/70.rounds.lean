/-! chains: rounds -/
def nxt (c : Nat → Nat → Int32) (w : Int32) (H X : Nat) : Nat := bs (fun h => !X.testBit h && fallV c h w (nI (popN (nbN (c 162) h &&& X)))) H
def chX (c : Nat → Nat → Int32) (w : Int32) (H x : Nat) : Nat → Nat
  | 0 => 2 ^ x
  | r + 1 => chX c w H x r ||| nxt c w H (chX c w H x r)
def rdV (c : Nat → Nat → Int32) (w : Int32) (H x : Nat) : Nat → Nat → Int32
  | 0, h => if h = x then 0 else -2
  | r + 1, h => bif (nxt c w H (chX c w H x r)).testBit h then nI (r + 1) else rdV c w H x r h
def chR (c : Nat → Nat → Int32) (w : Int32) (H x : Nat) : Nat := fa_first (fun r => decide (nxt c w H (chX c w H x r) = 0)) 16
theorem chX_lt {c : Nat → Nat → Int32} {w : Int32} {H x : Nat} (h16 : H ≤ 16) (hx : x < H) : ∀ r, chX c w H x r < 2 ^ 16
  | 0 => Nat.pow_lt_pow_right (by decide) (by omega)
  | r + 1 => Nat.or_lt_two_pow (chX_lt h16 hx r) (Nat.lt_of_lt_of_le (bs_lt _ _) (Nat.pow_le_pow_right (by decide) h16))
theorem chX_ct {c : Nat → Nat → Int32} {w : Int32} {H x : Nat} (h16 : H ≤ 16) (hx : x < H) : ∀ r, (∀ j, j < r → nxt c w H (chX c w H x j) ≠ 0) → r + 1 ≤ fb_ct (chX c w H x r).testBit 16
  | 0, _ => fb_ct_pos.mpr ⟨x, by omega, by show (2 ^ x).testBit x = true; rw [tb_pow]; simp⟩
  | r + 1, h => by
    have ih := chX_ct h16 hx r (fun j hj => h j (by omega))
    have hne : chX c w H x r ≠ chX c w H x (r + 1) := by
      intro e
      apply h r (by omega)
      apply Nat.eq_of_testBit_eq
      intro i
      rw [Nat.zero_testBit]
      cases hb : (nxt c w H (chX c w H x r)).testBit i with
      | false => rfl
      | true =>
        have h1 : (chX c w H x (r + 1)).testBit i = true := by
          show (chX c w H x r ||| nxt c w H (chX c w H x r)).testBit i = true
          rw [Nat.testBit_or, hb, Bool.or_true]
        have h2 : (chX c w H x r).testBit i = true := by rw [e]; exact h1
        unfold nxt at hb
        rw [bs_bit, h2] at hb
        simp at hb
    have := sub_ct (n := 16) (sub.or_l (chX c w H x r) (nxt c w H (chX c w H x r))) (chX_lt (c := c) (w := w) h16 hx (r + 1)) hne
    have h3 : fb_ct (chX c w H x r).testBit 16 < fb_ct (chX c w H x (r + 1)).testBit 16 := this
    omega
theorem chR_ok {c : Nat → Nat → Int32} {w : Int32} {H x : Nat} (h16 : H ≤ 16) (hx : x < H) : chR c w H x ≤ 15 ∧ nxt c w H (chX c w H x (chR c w H x)) = 0 ∧ ∀ j, j < chR c w H x → nxt c w H (chX c w H x j) ≠ 0 := by
  have hno : ∀ j, j < chR c w H x → nxt c w H (chX c w H x j) ≠ 0 := fun j hj e => by
    have := fa_first_no (fun r => decide (nxt c w H (chX c w H x r) = 0)) 16 j hj
    rw [decide_eq_true e] at this
    cases this
  have h1 := chX_ct h16 hx _ hno
  have h2 : fb_ct (chX c w H x (chR c w H x)).testBit 16 ≤ 16 := fb_ct_le _ _
  have h3 : chR c w H x < 16 := by omega
  refine ⟨by omega, ?_, hno⟩
  have := fa_first_yes (fun r => decide (nxt c w H (chX c w H x r) = 0)) 16 h3
  exact of_decide_eq_true this
theorem nxt_lt {c : Nat → Nat → Int32} {w : Int32} {H X : Nat} (h16 : H ≤ 16) : nxt c w H X < 65536 := bs16 h16
theorem chX_S (c : Nat → Nat → Int32) (w : Int32) (H x r : Nat) : chX c w H x (r + 1) = chX c w H x r ||| nxt c w H (chX c w H x r) := rfl
section Rounds
variable {mm : MM} {t s H O S Qn W C J F B : Nat}
/-- what prepare lays, and what it stays -/
def VC (c : Nat → Nat → Int32) (w : Int32) (m : MM) : Prop := (∀ h, h < 16 → m.1 93 h = nI (nbN (c 162) h)) ∧ ∀ h g, h < 16 → g < 16 → m.1 94 (h * 16 + g) = -nI 1 ∨ m.1 94 (h * 16 + g) = bI (fallV c h w (nI g))
theorem prepare_ok (ht : isT t) (hb : BodyR mm.1 t s H O S Qn W C J F B) (w : Int32) (m : MM) (hm : Kq mm m) : Runs e_X0_prepare [.ref 91, .ref t] m (fun r m' => r = .null ∧ Kq mm m' ∧ VC mm.1 w m') := by
  apply b_X0_prepare _ _ _ ht.at
  refine for_up (fun q => [(0, .ref 91), (1, .ref t), (2, .int (nI q))]) (fun q m => Kq mm m ∧ ∀ h, h < q → m.1 93 h = nI (nbN (mm.1 162) h)) 16 ?_ ?_ 0 _ (Nat.zero_le _) ⟨hm, fun h hh => absurd hh (Nat.not_lt_zero _)⟩
  · rintro m ⟨k, k2⟩
    apply b_X0_prepare_2 _ _ _ _ ht.at
    simp (disch := omega) only [lin, nI_add, pk_mul, s_sub, s_addneg, s_leT, s_leF, s_ltT, s_ltF, s_eqF, s_inT, s_neF, s_neF', s_neE, s_nleT, s_nleF, s_nltF, s_nltT, eq_self, nI_clamp, s_wIk, s_wIo, pk_us, pk_un, Nat.reduceAdd, Nat.reduceMul, Nat.reduceSub, Nat.zero_add, Nat.add_zero, Nat.mul_zero, true_implies, false_implies, implies_true, not_true, not_false, and_true, true_and, not_true_eq_false, not_false_eq_true, forall_const]
    refine for_up (fun q => [(0, .ref 91), (2, .int (nI q))]) (fun q m => Kq mm m ∧ (∀ h, h < 16 → m.1 93 h = nI (nbN (mm.1 162) h)) ∧ ∀ i, i < q → m.1 94 i = -nI 1) 256 ?_ ?_ 0 _ (Nat.zero_le _) ⟨k, k2, fun h hh => absurd hh (Nat.not_lt_zero _)⟩
    · rintro m ⟨k, k2, k3⟩
      apply b_X0_prepare_27
      simp (disch := omega) only [lin, nI_add, pk_mul, s_sub, s_addneg, s_leT, s_leF, s_ltT, s_ltF, s_eqF, s_inT, s_neF, s_neF', s_neE, s_nleT, s_nleF, s_nltF, s_nltT, eq_self, nI_clamp, s_wIk, s_wIo, pk_us, pk_un, Nat.reduceAdd, Nat.reduceMul, Nat.reduceSub, Nat.zero_add, Nat.add_zero, Nat.mul_zero, true_implies, false_implies, implies_true, not_true, not_false, and_true, true_and, not_true_eq_false, not_false_eq_true, forall_const]
      exact ⟨k, k2, fun h g hh hg => Or.inl (k3 _ (by omega))⟩
    · rintro q m hq ⟨k, k2, k3⟩ hn
      apply b_X0_prepare_27
      simp (disch := omega) only [lin, nI_add, pk_mul, s_sub, s_addneg, s_leT, s_leF, s_ltT, s_ltF, s_eqF, s_inT, s_neF, s_neF', s_neE, s_nleT, s_nleF, s_nltF, s_nltT, eq_self, nI_clamp, s_wIk, s_wIo, pk_us, pk_un, Nat.reduceAdd, Nat.reduceMul, Nat.reduceSub, Nat.zero_add, Nat.add_zero, Nat.mul_zero, true_implies, false_implies, implies_true, not_true, not_false, and_true, true_and, not_true_eq_false, not_false_eq_true, forall_const]
      refine hn _ ⟨k.w _ rfl, fun h hh => by rw [wI_o (by decide)]; exact k2 h hh, fun i hi => ?_⟩
      rw [wI_k]
      by_cases e : i = q
      · subst e; rw [pk_us]
      · rw [pk_un e]; exact k3 i (by omega)
  · rintro q m hq ⟨k, k2⟩ hn
    apply b_X0_prepare_2 _ _ _ _ ht.at
    rw [nI_1 q, nI_clamp (show q < 2 ^ 31 by omega)]
    refine ⟨fun z => absurd z (nI_ge (a := q) (b := 16) hq (by omega)), fun _ => icall (nbC_ok ht hb.townM hb.townC hq m k) ?_⟩
    rintro m1 rfl
    refine ⟨vp_in_nI (by omega) (by omega), hn _ ⟨k.w _ rfl, fun h hh => ?_⟩⟩
    rw [wI_k]
    by_cases e : h = q
    · subst e; rw [pk_us]
    · rw [pk_un e]; exact k2 h (by omega)
theorem fBits_ok (ht : isT t) (hs : isN s) (hb : BodyR mm.1 t s H O S Qn W C J F B) (w : Int32) {X : Nat} (hX : X < 65536) {R92 R91 : Nat → Int32} (m : MM) (hm : Kq mm m) (hv : VC mm.1 w m) (h92 : m.1 92 = R92) (h91 : m.1 91 = R91) :
    Runs e_X0_fallingBits [.ref 91, .ref t, .ref s, .int w, .int (nI X)] m (fun r m' => r = .int (nI (nxt mm.1 w H X)) ∧ Kq mm m' ∧ VC mm.1 w m' ∧ m'.1 92 = R92 ∧ m'.1 91 = R91) := by
  have z1 := hb.sz.1
  apply b_X0_fallingBits _ _ _ _ _ _ ht.at hs.s.at
  refine for_up (fun q => [(0, .ref 91), (1, .ref t), (2, .ref s), (3, .int w), (4, .int (nI X)), (5, .int (nI (bs (fun h => !X.testBit h && fallV mm.1 h w (nI (popN (nbN (mm.1 162) h &&& X)))) q))), (6, .int (nI q))]) (fun q m => Kq mm m ∧ VC mm.1 w m ∧ m.1 92 = R92 ∧ m.1 91 = R91) H ?_ ?_ 0 _ (Nat.zero_le _) ⟨hm, hv, h92, h91⟩
  · rintro m ⟨k, k2, k3, k4⟩
    apply b_X0_fallingBits_6 _ _ _ _ _ _ _ _ ht.at hs.s.at
    rw [k.t0 ht, hb.nc.1]
    exact ⟨fun _ => ⟨rfl, k, k2, k3, k4⟩, fun z => absurd (nI_le (Nat.le_refl H) (by omega)) z⟩
  · rintro q m hq ⟨k, k2, k3, k4⟩ hn
    obtain ⟨H', S', Qn', y1, y2, y3, y4, y5, y6, y7, y8⟩ := hb.townM
    have hnb := nbS_ok (h := q) y7 S' (Nat.le_refl _)
    have eN : nbN (mm.1 162) q = nbS (mm.1 162) q S' := by unfold nbN; rw [y5, nI_clamp (by omega)]
    have hg : popN (nbN (mm.1 162) q &&& X) < 16 := pop_lt (h := q) (by omega) (by rw [eN, Nat.testBit_and, hnb.2]; rfl)
    have hbc : v_J6_bitCount_0f7a4 m (nI (nbN (mm.1 162) q) &&& nI X) = nI (popN (nbN (mm.1 162) q &&& X)) := by
      rw [fa_and, bitCount_v m (Nat.lt_of_le_of_lt Nat.and_le_right hX)]
    have esh := shr_bit (n := X) (k := q) (by omega) (by omega)
    apply b_X0_fallingBits_6 _ _ _ _ _ _ _ _ ht.at hs.s.at
    rw [k.t0 ht, hb.nc.1, nI_1 q, nI_clamp (show q < 2 ^ 31 by omega), k2.1 q (by omega), hbc, esh, show (16 : Int32) = nI 16 from rfl, pk_mul, nI_add, nI_clamp (show q * 16 + popN (nbN (mm.1 162) q &&& X) < 2 ^ 31 by omega)]
    have vq := vp_in_nI (n := q) (N := 16) (by omega) (by omega)
    have vi := vp_in_nI (n := q * 16 + popN (nbN (mm.1 162) q &&& X)) (N := 256) (by omega) (by omega)
    have hk := k2.2 q _ (by omega) hg
    have hsucc : ∀ (m' : MM) (b : Bool), (!X.testBit q && fallV mm.1 q w (nI (popN (nbN (mm.1 162) q &&& X)))) = b → (Kq mm m' ∧ VC mm.1 w m' ∧ m'.1 92 = R92 ∧ m'.1 91 = R91) → G e_X0_fallingBits 6 [(0, .ref 91), (1, .ref t), (2, .ref s), (3, .int w), (4, .int (nI X)), (5, .int (nI (bs (fun h => !X.testBit h && fallV mm.1 h w (nI (popN (nbN (mm.1 162) h &&& X)))) q) ||| (bI b <<< (nI q &&& 31)))), (6, .int (nI (q + 1)))] [] m' (fun r m' => r = .int (nI (nxt mm.1 w H X)) ∧ Kq mm m' ∧ VC mm.1 w m' ∧ m'.1 92 = R92 ∧ m'.1 91 = R91) := by
      intro m' b hb' hm'
      have g := hn m' hm'
      simp only [bs_succ, hb'] at g
      cases b with
      | false =>
        have e0 : (bI false : Int32) <<< (nI q &&& 31) = nI 0 := by
          have : ∀ q, q < 32 → (bI false : Int32) <<< (nI q &&& 31) = nI 0 := by decide +kernel
          exact this q (by omega)
        rw [e0, fa_or, Nat.or_zero]
        exact g
      | true =>
        have e1 : (bI true : Int32) <<< (nI q &&& 31) = nI (2 ^ q) := ib q (by omega)
        rw [e1, fa_or]
        exact g
    generalize hpg : popN (nbN (mm.1 162) q &&& X) = g at *
    refine ⟨fun z => absurd z (nI_ge hq (by omega)), fun _ => ⟨vq, fun d => ?_, fun d => ⟨fun z => absurd z (nI_ge (a := q * 16 + g) (b := 256) (by omega) (by omega)), fun _ => ⟨vi, fun e => ⟨vi, ?_⟩, fun e => ?_⟩⟩⟩⟩
    · have hX2 : X.testBit q = true := by
        cases hx : X.testBit q with
        | true => rfl
        | false => rw [hx] at d; exact absurd rfl d
      have g1 := hn m ⟨k, k2, k3, k4⟩
      simp only [bs_succ, hX2, Bool.not_true, Bool.false_and, cond_false] at g1
      exact g1
    · have hX2 : X.testBit q = false := by
        cases hx : X.testBit q with
        | false => rfl
        | true => rw [hx] at d; exact absurd d (by decide)
      rcases hk with hk | hk
      · exact absurd hk e
      · rw [hk]
        exact hsucc m _ (by rw [hX2]; rfl) ⟨k, k2, k3, k4⟩
    · have hX2 : X.testBit q = false := by
        cases hx : X.testBit q with
        | false => rfl
        | true => rw [hx] at d; exact absurd d (by decide)
      have hbm : BodyR m.1 t s H O S Qn W C J F B := body_kq ht hs k hb
      have put : ∀ (b : Bool) (m1 : MM), Ke m m1 → fallV mm.1 q w (nI g) = b → VC mm.1 w (wI m1 94 (q * 16 + g) (bI b)) := by
        intro b m1 k1 hb'
        refine ⟨fun h hh => ?_, fun h g' hh hg' => ?_⟩
        · rw [wI_o (by decide), k1.row 93 (fun _ => rfl)]; exact k2.1 h hh
        · rw [wI_k]
          by_cases c : h * 16 + g' = q * 16 + g
          · have e1 : h = q := by omega
            have e2 : g' = g := by omega
            subst e1 e2
            rw [pk_us, hb']
            exact Or.inr rfl
          · rw [pk_un c, k1.row 94 (fun _ => rfl)]
            exact k2.2 h g' hh hg'
      refine bcall (fallC_okE ht hs.s hbm.law2 hbm.mon (hbm.hou q hq) hbm.nm.2.2.2.2.2.2.2.1 hbm.nc.2.2.2.2.2.2.2.2.1 hb.sz.2.2.2.2.2.2.2.1 hbm.fall w (nI g) m (Kp.rf m)) ?_ ?_
      · intro el m1 k1
        rw [fallV_kq k] at el
        refine ⟨vi, vi, ?_⟩
        rw [wI_k, pk_us]
        exact hsucc _ true (by rw [hX2, el]; rfl) ⟨(Ke.q k k1).w _ rfl, put true m1 k1 el, by rw [wI_o (by decide), k1.row 92 (fun _ => rfl)]; exact k3, by rw [wI_o (by decide), k1.row 91 (fun _ => rfl)]; exact k4⟩
      · intro el m1 k1
        rw [fallV_kq k] at el
        refine ⟨vi, vi, ?_⟩
        rw [wI_k, pk_us]
        exact hsucc _ false (by rw [hX2, el]; rfl) ⟨(Ke.q k k1).w _ rfl, put false m1 k1 el, by rw [wI_o (by decide), k1.row 92 (fun _ => rfl)]; exact k3, by rw [wI_o (by decide), k1.row 91 (fun _ => rfl)]; exact k4⟩
end Rounds

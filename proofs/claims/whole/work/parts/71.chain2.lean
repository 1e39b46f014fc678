/-! chains: both sides whole; chain and dread -/
theorem VC.o {c : Nat → Nat → Int32} {w : Int32} {m : MM} (h : VC c w m) {k j : Nat} {v : Int32} (h1 : k ≠ 93) (h2 : k ≠ 94) : VC c w (wI m k j v) := ⟨fun x hx => by rw [wI_o (Ne.symm h1)]; exact h.1 x hx, fun x g hx hg => by rw [wI_o (Ne.symm h2)]; exact h.2 x g hx hg⟩
section Rounds
variable {mm : MM} {t s H O S Qn W C J F B : Nat}
theorem enter_ok {w v : Int32} {X : Nat} (hX : X < 65536) (m : MM) (hm : Kq mm m) (hv : VC mm.1 w m) : Runs e_X0_enter [.ref 91, .int (nI X), .int v] m (fun r m' => r = .null ∧ Kq mm m' ∧ VC mm.1 w m' ∧ ∀ h, h < 16 → m'.1 92 h = bif X.testBit h then v else m.1 92 h) := by
  apply b_X0_enter
  refine for_up (fun q => [(0, .ref 91), (1, .int (nI X)), (2, .int v), (3, .int (nI q))]) (fun q m' => Kq mm m' ∧ VC mm.1 w m' ∧ ∀ h, h < 16 → m'.1 92 h = bif decide (h < q) && X.testBit h then v else m.1 92 h) 16 ?_ ?_ 0 _ (Nat.zero_le _) ⟨hm, hv, fun h hh => by simp⟩
  · rintro m' ⟨k, k2, k3⟩
    apply b_X0_enter_2
    simp (disch := omega) only [lin, nI_add, pk_mul, s_sub, s_addneg, s_leT, s_leF, s_ltT, s_ltF, s_eqF, s_inT, s_neF, s_neF', s_neE, s_nleT, s_nleF, s_nltF, s_nltT, eq_self, nI_clamp, s_wIk, s_wIo, pk_us, pk_un, Nat.reduceAdd, Nat.reduceMul, Nat.reduceSub, Nat.zero_add, Nat.add_zero, Nat.mul_zero, true_implies, false_implies, implies_true, not_true, not_false, and_true, true_and, not_true_eq_false, not_false_eq_true, forall_const]
    exact ⟨k, k2, fun h hh => by rw [k3 h hh, decide_eq_true hh, Bool.true_and]⟩
  · rintro q m' hq ⟨k, k2, k3⟩ hn
    have esh := shr_bit (n := X) (k := q) (by omega) (by omega)
    apply b_X0_enter_2
    rw [esh, nI_1 q, nI_clamp (show q < 2 ^ 31 by omega)]
    refine ⟨fun z => absurd z (nI_ge (a := q) (b := 16) hq (by omega)), fun _ => ⟨fun d => ?_, fun d => ⟨vp_in_nI (by omega) (by omega), ?_⟩⟩⟩
    · have hX2 : X.testBit q = false := by
        cases hx : X.testBit q with
        | false => rfl
        | true => rw [hx] at d; exact absurd d (by decide)
      refine hn m' ⟨k, k2, fun h hh => ?_⟩
      rw [k3 h hh]
      by_cases e : h = q
      · subst e; rw [hX2]; simp
      · rw [show decide (h < q + 1) = decide (h < q) from by rw [decide_eq_decide]; omega]
    · have hX2 : X.testBit q = true := by
        cases hx : X.testBit q with
        | true => rfl
        | false => rw [hx] at d; exact absurd rfl d
      refine hn _ ⟨k.w _ rfl, k2.o (by decide) (by decide), fun h hh => ?_⟩
      rw [wI_k]
      by_cases e : h = q
      · subst e; rw [pk_us, hX2]; simp
      · rw [pk_un e, k3 h hh, show decide (h < q + 1) = decide (h < q) from by rw [decide_eq_decide]; omega]
theorem startAt_ok (ht : isT t) (hs : isN s) (hb : BodyR mm.1 t s H O S Qn W C J F B) {w : Int32} {x : Nat} (hx : x < H) (m : MM) (hm : Kq mm m) (hv : VC mm.1 w m) :
    Runs e_X0_startAt [.ref 91, .ref t, .ref s, .int (nI x), .int w] m (fun r m' => r = .int (nI (popN (chX mm.1 w H x (chR mm.1 w H x)))) ∧ Kq mm m' ∧ VC mm.1 w m' ∧ m'.1 91 3 = nI (chR mm.1 w H x) ∧ ∀ h, h < 16 → m'.1 92 h = rdV mm.1 w H x (chR mm.1 w H x) h) := by
  have z1 := hb.sz.1
  obtain ⟨r1, r2, r3⟩ := chR_ok (c := mm.1) (w := w) z1 hx
  generalize chR mm.1 w H x = R at r1 r2 r3 ⊢
  apply b_X0_startAt _ _ _ _ _ _ ht.at hs.s.at
  refine for_up (fun q => [(0, .ref 91), (1, .ref t), (2, .ref s), (3, .int (nI x)), (4, .int w), (5, .int (nI q))]) (fun q m => Kq mm m ∧ VC mm.1 w m ∧ ∀ h, h < q → m.1 92 h = rdV mm.1 w H x 0 h) 16 ?_ ?_ 0 _ (Nat.zero_le _) ⟨hm, hv, fun h hh => absurd hh (Nat.not_lt_zero _)⟩
  · rintro m ⟨k, k2, k3⟩
    apply b_X0_startAt_3 _ _ _ _ _ _ _ ht.at hs.s.at
    rw [bitOf_v m (show x < 16 by omega)]
    refine ⟨fun _ => ?_, fun z => absurd (show (16 : Int32) ≤ nI 16 by decide) z⟩
    refine loop_mu (σ := Nat) (fun r => [(0, .ref 91), (1, .ref t), (2, .ref s), (4, .int w), (5, .int (nI (chX mm.1 w H x r))), (6, .int (nI (r + 1)))]) (fun r m => r ≤ R ∧ Kq mm m ∧ VC mm.1 w m ∧ m.1 91 3 = nI r ∧ ∀ h, h < 16 → m.1 92 h = rdV mm.1 w H x r h) (fun r => R - r) ?_ 0 _ ⟨Nat.zero_le _, k.w _ rfl, k2.o (by decide) (by decide), by rw [wI_k, pk_us]; rfl, fun h hh => by rw [wI_o (by decide)]; exact k3 h hh⟩
    rintro r m ⟨l1, l2, l3, l4, l5⟩ hn
    have hX := chX_lt (c := mm.1) (w := w) z1 hx r
    apply b_X0_startAt_49 _ _ _ _ _ _ _ ht.at hs.s.at
    refine ⟨fun z => absurd z (nI_nlt (a := 16) (b := r + 1) (by omega) (by omega)), fun _ => icall (fBits_ok ht hs hb w hX m l2 l3 rfl rfl) ?_⟩
    rintro m1 ⟨q1, q2, q3, q4⟩
    have hnl : nxt mm.1 w H (chX mm.1 w H x r) < 65536 := nxt_lt z1
    refine ⟨fun d => ?_, fun d => ?_⟩
    · have hne : r ≠ R := fun e => by
        subst e
        rw [r2] at d
        exact d rfl
      refine vcall (enter_ok (w := w) (v := nI (r + 1)) hnl m1 q1 q2) ?_
      rintro m2 ⟨p1, p2, p3⟩
      have p4 : True := trivial
      rw [fa_or, nI_1 (r + 1)]
      refine hn (r + 1) _ ⟨by omega, p1.w _ rfl, p2.o (by decide) (by decide), by rw [wI_k, pk_us], fun h hh => ?_⟩ (by omega)
      rw [wI_o (by decide), p3 h hh, q3, l5 h hh]
      rfl
    · have hz : nxt mm.1 w H (chX mm.1 w H x r) = 0 := (nI_eq (by omega) (by omega)).mp d
      have e : r = R := by
        rcases Nat.lt_or_ge r (R) with z | z
        · exact absurd hz (r3 r z)
        · omega
      subst e
      rw [bitCount_v m1 hX]
      exact ⟨rfl, q1, q2, by rw [q4]; exact l4, fun h hh => by rw [q3]; exact l5 h hh⟩
  · rintro q m hq ⟨k, k2, k3⟩ hn
    apply b_X0_startAt_3 _ _ _ _ _ _ _ ht.at hs.s.at
    rw [nI_1 q, nI_clamp (show q < 2 ^ 31 by omega), nI_eq (show q < 2 ^ 31 by omega) (show x < 2 ^ 31 by omega)]
    have v := vp_in_nI (n := q) (N := 16) (by omega) (by omega)
    refine ⟨fun z => absurd z (nI_ge (a := q) (b := 16) hq (by omega)), fun _ => ⟨fun d => ⟨v, hn _ ⟨k.w _ rfl, k2.o (by decide) (by decide), fun h hh => ?_⟩⟩, fun d => ⟨v, hn _ ⟨k.w _ rfl, k2.o (by decide) (by decide), fun h hh => ?_⟩⟩⟩⟩
    · rw [wI_k]
      by_cases e : h = q
      · subst e; rw [pk_us]; show _ = if h = x then (0 : Int32) else -2; rw [if_neg d]
      · rw [pk_un e]; exact k3 h (by omega)
    · rw [wI_k]
      by_cases e : h = q
      · subst e; rw [pk_us]; show _ = if h = x then (0 : Int32) else -2; rw [if_pos d]
      · rw [pk_un e]; exact k3 h (by omega)
theorem chains_ok (ht : isT t) (hs : isN s) (hb : BodyR mm.1 t s H O S Qn W C J F B) {w : Int32} {x : Nat} (hx : x < H) (m : MM) (hm : Kq mm m) :
    Runs e_X12_chains [.ref 156, .int (nI x), .int w] m (fun r m' => r = .null ∧ Kq mm m' ∧ m'.1 156 48 = nI (chX mm.1 w H x (chR mm.1 w H x)) ∧ m'.1 156 49 = nI (chR mm.1 w H x) ∧ ∀ h, h < 16 → m'.1 188 h = rdV mm.1 w H x (chR mm.1 w H x) h) := by
  have z1 := hb.sz.1
  obtain ⟨r1, r2, r3⟩ := chR_ok (c := mm.1) (w := w) z1 hx
  generalize chR mm.1 w H x = R at r1 r2 r3 ⊢
  apply b_X12_chains
  refine for_up (fun q => [(0, .ref 156), (1, .int (nI x)), (2, .int w), (3, .int (nI q))]) (fun q m => Kq mm m ∧ ∀ h, h < q → m.1 188 h = -2) 16 ?_ ?_ 0 _ (Nat.zero_le _) ⟨hm, fun h hh => absurd hh (Nat.not_lt_zero _)⟩
  · rintro m ⟨k, k2⟩
    apply b_X12_chains_2
    rw [ib x (by omega), nI_clamp (show x < 2 ^ 31 by omega)]
    refine ⟨fun _ => ⟨vp_in_nI (by omega) (by omega), ?_⟩, fun z => absurd (show (16 : Int32) ≤ nI 16 by decide) z⟩
    refine loop_mu (σ := Nat × Bool) (fun q => [(0, .ref 156), (2, .int w), (3, .int (bI q.2)), (4, .int (nI (bif q.2 then q.1 + 1 else q.1 + 2)))]) (fun q m => q.1 ≤ R ∧ (q.2 = false → q.1 = R) ∧ Kq mm m ∧ m.1 156 48 = nI (chX mm.1 w H x q.1) ∧ m.1 156 49 = nI q.1 ∧ ∀ h, h < 16 → m.1 188 h = rdV mm.1 w H x q.1 h) (fun q => 2 * (R - q.1) + (bif q.2 then 1 else 0)) ?_ (0, true) _ ⟨Nat.zero_le _, fun z => Bool.noConfusion z, ((k.w _ rfl).w _ rfl).w _ rfl, by rw [wI_k, pk_un (by decide), wI_k, pk_us]; rfl, by rw [wI_k, pk_us]; rfl, fun h hh => ?_⟩
    · rintro ⟨r, b⟩ m ⟨l1, l2, l3, l4, l5, l6⟩ hn
      have l1 : r ≤ R := l1
      have l4 : m.1 156 48 = nI (chX mm.1 w H x r) := l4
      have l5 : m.1 156 49 = nI r := l5
      have l6 : ∀ h, h < 16 → m.1 188 h = rdV mm.1 w H x r h := l6
      have hX := chX_lt (c := mm.1) (w := w) z1 hx r
      apply b_X12_chains_46
      cases b with
      | false =>
        have e : r = R := l2 rfl
        subst e
        exact ⟨fun _ => ⟨rfl, l3, l4, l5, l6⟩, fun z => absurd rfl z⟩
      | true =>
        refine ⟨fun z => absurd (show bI true = 0 from z) (by decide), fun _ => ?_⟩
        refine for_up (fun q => [(0, .ref 156), (2, .int w), (4, .int (nI (r + 1))), (5, .int (nI (bs (fun h => !(chX mm.1 w H x r).testBit h && fallV mm.1 h w (nI (popN (nbN (mm.1 162) h &&& chX mm.1 w H x r)))) q))), (6, .int (nI q))]) (fun q m => Kq mm m ∧ m.1 156 48 = nI (chX mm.1 w H x r) ∧ m.1 156 49 = nI r ∧ ∀ h, h < 16 → m.1 188 h = bif decide (h < q) && (!(chX mm.1 w H x r).testBit h && fallV mm.1 h w (nI (popN (nbN (mm.1 162) h &&& chX mm.1 w H x r)))) then nI (r + 1) else rdV mm.1 w H x r h) H ?_ ?_ 0 _ (Nat.zero_le _) ⟨l3, l4, l5, fun h hh => by rw [l6 h hh]; simp⟩
        · rintro m ⟨q1, q2, q3, q4⟩
          have hnl : nxt mm.1 w H (chX mm.1 w H x r) < 65536 := nxt_lt z1
          have enx : bs (fun h => !(chX mm.1 w H x r).testBit h && fallV mm.1 h w (nI (popN (nbN (mm.1 162) h &&& chX mm.1 w H x r)))) H = nxt mm.1 w H (chX mm.1 w H x r) := rfl
          have hrd : ∀ h, h < 16 → m.1 188 h = rdV mm.1 w H x (r + 1) h := by
            intro h hh
            rw [q4 h hh]
            show _ = bif (nxt mm.1 w H (chX mm.1 w H x r)).testBit h then nI (r + 1) else rdV mm.1 w H x r h
            unfold nxt
            rw [bs_bit]
          apply b_X12_chains_56
          rw [q1.r162, hb.nm.1, enx, q2, nI_1 (r + 1)]
          refine ⟨fun _ => ⟨fun d => ?_, fun d => ?_⟩, fun z => absurd (nI_le (Nat.le_refl H) (by omega)) z⟩
          · have hz : nxt mm.1 w H (chX mm.1 w H x r) = 0 := (nI_eq (by omega) (by omega)).mp d
            have e : r = R := by
              rcases Nat.lt_or_ge r (R) with z | z
              · exact absurd hz (r3 r z)
              · omega
            rw [hz, fa_or, Nat.or_zero]
            refine hn (r, false) _ ⟨l1, fun _ => e, q1.w _ rfl, by rw [wI_k, pk_us], by rw [wI_k, pk_un (by decide)]; exact q3, fun h hh => ?_⟩ (by show 2 * _ + 0 < 2 * _ + 1; omega)
            rw [wI_o (by decide), hrd h hh]
            show (bif (nxt mm.1 w H (chX mm.1 w H x r)).testBit h then nI (r + 1) else rdV mm.1 w H x r h) = _
            rw [hz, Nat.zero_testBit]
            rfl
          · have hne : r ≠ R := fun e => by
              rw [e, r2] at d
              exact d rfl
            rw [wI_k, pk_un (by decide), q2, fa_or]
            refine hn (r + 1, true) _ ⟨by show r + 1 ≤ _; omega, fun z => Bool.noConfusion z, (q1.w _ rfl).w _ rfl, by rw [wI_k, pk_us]; rfl, by rw [wI_k, pk_un (by decide), wI_k, pk_us], fun h hh => ?_⟩ (by show 2 * (R - (r + 1)) + 1 < 2 * (R - r) + 1; omega)
            rw [wI_o (by decide), wI_o (by decide), hrd h hh]
        · rintro q m hq ⟨q1, q2, q3, q4⟩ hn
          have esh := shr_bit (n := chX mm.1 w H x r) (k := q) (by omega) (by omega)
          have hbm : BodyR m.1 t s H O S Qn W C J F B := body_kq ht hs q1 hb
          have hT := hbm.townM
          apply b_X12_chains_56
          rw [q1.r162, hb.nm.1, q2, esh, nI_1 q, nI_clamp (show q < 2 ^ 31 by omega), ib q (by omega)]
          have hsucc : ∀ (m' : MM) (b : Bool), (!(chX mm.1 w H x r).testBit q && fallV mm.1 q w (nI (popN (nbN (mm.1 162) q &&& chX mm.1 w H x r)))) = b → Kq mm m' → m'.1 156 48 = nI (chX mm.1 w H x r) → m'.1 156 49 = nI r → (∀ h, h < 16 → m'.1 188 h = bif b && decide (h = q) then nI (r + 1) else m.1 188 h) → Kq mm m' ∧ m'.1 156 48 = nI (chX mm.1 w H x r) ∧ m'.1 156 49 = nI r ∧ ∀ h, h < 16 → m'.1 188 h = bif decide (h < q + 1) && (!(chX mm.1 w H x r).testBit h && fallV mm.1 h w (nI (popN (nbN (mm.1 162) h &&& chX mm.1 w H x r)))) then nI (r + 1) else rdV mm.1 w H x r h := by
            intro m' b hb' a1 a2 a3 a4
            refine ⟨a1, a2, a3, fun h hh => ?_⟩
            rw [a4 h hh, q4 h hh]
            by_cases e : h = q
            · subst e
              rw [hb']
              cases b <;> simp
            · rw [decide_eq_false e, Bool.and_false, show decide (h < q + 1) = decide (h < q) from by rw [decide_eq_decide]; omega]
              rfl
          refine ⟨fun z => absurd z (nI_ge hq (by omega)), fun _ => ⟨fun d => ?_, fun d => ?_⟩⟩
          · have hX2 : (chX mm.1 w H x r).testBit q = true := by
              cases hx : (chX mm.1 w H x r).testBit q with
              | true => rfl
              | false => rw [hx] at d; exact absurd d (by decide)
            have ef : (!(chX mm.1 w H x r).testBit q && fallV mm.1 q w (nI (popN (nbN (mm.1 162) q &&& chX mm.1 w H x r)))) = false := by rw [hX2]; rfl
            have g := hn m (hsucc m _ ef q1 q2 q3 (fun h hh => rfl))
            simp only [bs_succ, ef, cond_false] at g
            exact g
          · have hX2 : (chX mm.1 w H x r).testBit q = false := by
              cases hx : (chX mm.1 w H x r).testBit q with
              | false => rfl
              | true => rw [hx] at d; exact absurd rfl d
            refine bcall (isFalling_ok (by omega) hX hT (hbm.rank q (by omega)).m hbm.law2.m hbm.nm.2.2.2.2.2.2.2.1 hb.sz.2.2.2.2.2.2.2.1 (fun k hk => (hbm.fall k hk).m) w m (Kp.rf m)) ?_ ?_
            · intro el m1 k1
              rw [fallV_kq q1, q1.r162] at el
              have ef : (!(chX mm.1 w H x r).testBit q && fallV mm.1 q w (nI (popN (nbN (mm.1 162) q &&& chX mm.1 w H x r)))) = true := by rw [hX2, el]; rfl
              refine ⟨vp_in_nI (by omega) (by omega), ?_⟩
              have g := hn (wI m1 188 q (nI (r + 1))) (hsucc _ _ ef ((Ke.q q1 k1).w _ rfl) (by rw [wI_o (by decide), k1.g 156 48 rfl]; exact q2) (by rw [wI_o (by decide), k1.g 156 49 rfl]; exact q3) (fun h hh => ?_))
              · simp only [bs_succ, ef, cond_true] at g
                rw [fa_or]
                exact g
              · rw [wI_k]
                by_cases e : h = q
                · subst e; rw [pk_us]; simp
                · rw [pk_un e, k1.row 188 (fun _ => rfl)]; simp [e]
            · intro el m1 k1
              rw [fallV_kq q1, q1.r162] at el
              have ef : (!(chX mm.1 w H x r).testBit q && fallV mm.1 q w (nI (popN (nbN (mm.1 162) q &&& chX mm.1 w H x r)))) = false := by rw [hX2, el]; rfl
              have g := hn m1 (hsucc _ _ ef (Ke.q q1 k1) (by rw [k1.g 156 48 rfl]; exact q2) (by rw [k1.g 156 49 rfl]; exact q3) (fun h hh => by rw [k1.row 188 (fun _ => rfl)]; rfl))
              simp only [bs_succ, ef, cond_false] at g
              exact g
    · rw [wI_o (by decide), wI_o (by decide), wI_k]
      show _ = if h = x then (0 : Int32) else -2
      by_cases e : h = x
      · subst e; rw [pk_us, if_pos rfl]
      · rw [pk_un e, if_neg e]; exact k2 h hh
  · rintro q m hq ⟨k, k2⟩ hn
    apply b_X12_chains_2
    rw [nI_1 q, nI_clamp (show q < 2 ^ 31 by omega)]
    refine ⟨fun z => absurd z (nI_ge (a := q) (b := 16) hq (by omega)), fun _ => ⟨vp_in_nI (by omega) (by omega), hn _ ⟨k.w _ rfl, fun h hh => ?_⟩⟩⟩
    rw [wI_k]
    by_cases e : h = q
    · subst e; rw [pk_us]
    · rw [pk_un e]; exact k2 h (by omega)
end Rounds

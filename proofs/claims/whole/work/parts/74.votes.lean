/-! votes and the winner -/
theorem lc_val {c : Nat → Nat → Int32} {s H O N h o n : Nat} (hl : ∀ i, i < N → LogS c s H O i) : ∀ k, k ≤ N → lcV c h o n k = -1 ∨ ∃ z : Nat, z < H ∧ lcV c h o n k = nI z
  | 0, _ => Or.inl rfl
  | k + 1, hk => by
    rw [lcV_S]
    cases hv : vt c h o n k with
    | false => exact lc_val hl k (by omega)
    | true =>
      unfold vt at hv
      rw [Bool.and_eq_true] at hv
      have e0 := of_decide_eq_true hv.1
      rcases (hl k (by omega)).2 with ⟨e, x, y, z, hx, hy, hz, a1, a2, a3⟩ | ⟨e, -⟩ | ⟨e, -⟩
      · exact Or.inr ⟨z, hz, a3⟩
      · rw [e] at e0; exact absurd e0 (by decide)
      · rw [e] at e0; exact absurd e0 (by decide)
theorem lc_out {c : Nat → Nat → Int32} {s H O N h o n : Nat} (hl : ∀ i, i < N → LogS c s H O i) (h16 : H ≤ 16) (h1 : H ≤ h) (h2 : h < 16) : ∀ k, k ≤ N → lcV c h o n k = -1
  | 0, _ => rfl
  | k + 1, hk => by
    rw [lcV_S]
    cases hv : vt c h o n k with
    | false => exact lc_out hl h16 h1 h2 k (by omega)
    | true =>
      exfalso
      unfold vt at hv
      rw [Bool.and_eq_true, Bool.and_eq_true, Bool.and_eq_true] at hv
      have e0 := of_decide_eq_true hv.1
      have e1 := of_decide_eq_true hv.2.2.1
      rcases (hl k (by omega)).2 with ⟨e, x, y, z, hx, hy, hz, a1, a2, a3⟩ | ⟨e, -⟩ | ⟨e, -⟩
      · rw [a1] at e1
        have := (nI_eq (by omega) (by omega)).mp e1
        omega
      · rw [e] at e0; exact absurd e0 (by decide)
      · rw [e] at e0; exact absurd e0 (by decide)
def vN (c : Nat → Nat → Int32) (o n H x : Nat) : Nat := fb_ct (fun h => decide (lcV c h o n n = nI x)) H
theorem vN_16 {c : Nat → Nat → Int32} {s H O N o n x : Nat} (hl : ∀ i, i < N → LogS c s H O i) (h16 : H ≤ 16) (hn : n ≤ N) (hx : x < 16) : fb_ct (fun h => decide (lcV c h o n n = nI x)) 16 = vN c o n H x := by
  have e : 16 = H + (16 - H) := by omega
  have h := fb_ct_split (fun h => decide (lcV c h o n n = nI x)) H (16 - H)
  rw [← e] at h
  rw [h]
  have z : fb_ct (fun k => decide (lcV c (H + k) o n n = nI x)) (16 - H) = 0 := fb_ct_zero.mpr (fun k hk => by
    apply decide_eq_false
    rw [lc_out hl h16 (by omega) (by omega) n hn]
    exact of_eq_false (s_neF' (a := x) (b := 1) (Or.inr (by omega)) (by omega) (by omega)))
  rw [z]
  rfl
theorem tally_ok {mm : MM} {s H O N n o : Nat} (hs : isS s) (h16 : H ≤ 16) (hN : N ≤ 60) (eN : mm.1 (s + 7) 6 = nI N) (hl : ∀ i, i < N → LogS mm.1 s H O i) (hn : n ≤ N) (m : MM) (hm : Kq mm m) :
    Runs e_X2_tally [.ref (s + 7), .int (nI o), .int (nI n)] m (fun r m' => r = .null ∧ Kq mm m' ∧ ∀ x, x < 16 → m'.1 (s + 7 + 6) x = nI (vN mm.1 o n H x)) := by
  have hL := hs.at.logs
  apply b_X2_tally _ _ _ _ _ hL
  refine vcall (strike_ok hs hN eN hl hn m hm) ?_
  rintro m1 ⟨q1, q2⟩
  refine for_up (fun q => [(0, .ref (s + 7)), (1, .int (nI o)), (2, .int (nI n)), (3, .int (nI q))]) (fun q m => Kq mm m ∧ (∀ k, k < 60 → m.1 (s + 7 + 5) k = bI (SV mm.1 n k)) ∧ ∀ x, x < q → m.1 (s + 7 + 6) x = nI 0) 16 ?_ ?_ 0 _ (Nat.zero_le _) ⟨q1, q2, fun x hx => absurd hx (Nat.not_lt_zero _)⟩
  · rintro m ⟨k1, k2, k3⟩
    apply b_X2_tally_7 _ _ _ _ _ _ hL
    refine ⟨fun _ => ?_, fun z => absurd (show (16 : Int32) ≤ nI 16 by decide) z⟩
    refine for_up (fun q => [(0, .ref (s + 7)), (1, .int (nI o)), (2, .int (nI n)), (3, .int (nI q))]) (fun q m => Kq mm m ∧ (∀ k, k < 60 → m.1 (s + 7 + 5) k = bI (SV mm.1 n k)) ∧ ∀ x, x < 16 → m.1 (s + 7 + 6) x = nI (fb_ct (fun h => decide (lcV mm.1 h o n n = nI x)) q)) 16 ?_ ?_ 0 _ (Nat.zero_le _) ⟨k1, k2, fun x hx => k3 x hx⟩
    · rintro m ⟨k1, k2, k3⟩
      apply b_X2_tally_28 _ _ _ _ _ _ hL
      refine ⟨fun _ => ⟨rfl, k1, fun x hx => ?_⟩, fun z => absurd (show (16 : Int32) ≤ nI 16 by decide) z⟩
      rw [k3 x hx, vN_16 hl h16 hn hx]
    · rintro q m hq ⟨k1, k2, k3⟩ hk
      apply b_X2_tally_28 _ _ _ _ _ _ hL
      rw [nI_1 q]
      refine ⟨fun z => absurd z (nI_ge (a := q) (b := 16) hq (by omega)), fun _ => icall (last_ok hs hN eN hl hn m k1 k2) ?_⟩
      rintro m2 rfl
      rcases lc_val (h := q) (o := o) (n := n) hl n hn with e | ⟨z, hz, e⟩
      · rw [e]
        refine ⟨fun _ => hk m2 ⟨k1, k2, fun x hx => ?_⟩, fun z => absurd (show (-1 : Int32) < 0 by decide) z⟩
        rw [k3 x hx, fb_ct_succ, e, decide_eq_false (show ¬ (-1 : Int32) = nI x from of_eq_false (s_neF' (a := x) (b := 1) (Or.inr (by omega)) (by omega) (by omega)))]
        rfl
      · rw [e, nI_clamp (show z < 2 ^ 31 by omega), k3 z (by omega), nI_1]
        refine ⟨fun y => absurd y (nI_pos (by omega)), fun _ => ⟨fun y => absurd y (nI_ge (a := z) (b := 16) (by omega) (by omega)), fun _ => ⟨vp_in_nI (by omega) (by omega), vp_in_nI (by omega) (by omega), ?_⟩⟩⟩
        refine hk _ ⟨k1.w _ (kq_got hs _), fun k hk => by rw [wI_o (by omega)]; exact k2 k hk, fun x hx => ?_⟩
        rw [wI_k, fb_ct_succ, e]
        by_cases c : x = z
        · subst c; rw [pk_us]; simp
        · rw [pk_un c, k3 x hx, decide_eq_false (fun y => c ((nI_eq (by omega) (by omega)).mp y).symm)]
          rfl
  · rintro q m hq ⟨k1, k2, k3⟩ hk
    apply b_X2_tally_7 _ _ _ _ _ _ hL
    rw [nI_1 q, nI_clamp (show q < 2 ^ 31 by omega)]
    refine ⟨fun z => absurd z (nI_ge (a := q) (b := 16) hq (by omega)), fun _ => ⟨vp_in_nI (by omega) (by omega), hk _ ⟨k1.w _ (kq_got hs _), fun k hk => by rw [wI_o (by omega)]; exact k2 k hk, fun x hx => ?_⟩⟩⟩
    rw [wI_k]
    by_cases c : x = q
    · subst c; rw [pk_us]; rfl
    · rw [pk_un c]; exact k3 x (by omega)
theorem votesOf_ok {mm : MM} {s H O N n o x : Nat} (h16 : H ≤ 16) (eH : mm.1 162 0 = nI H) (hN : N ≤ 60) (hl : ∀ i, i < N → LogS mm.1 s H O i) (hn : n ≤ N) (m : MM) (hm : Kq mm m) :
    Runs e_X12_votesOf [.ref 156, .int (nI o), .int (nI x), .int (nI n)] m (fun r m' => r = .int (nI (vN mm.1 o n H x)) ∧ Kq mm m') := by
  apply b_X12_votesOf
  refine for_up (fun q => [(0, .ref 156), (1, .int (nI o)), (2, .int (nI x)), (3, .int (nI n)), (4, .int (nI (fb_ct (fun h => decide (lcV mm.1 h o n n = nI x)) q))), (5, .int (nI q))]) (fun q m => Kq mm m) H ?_ ?_ 0 _ (Nat.zero_le _) hm
  · intro m k
    apply b_X12_votesOf_6
    rw [k.r162, eH]
    exact ⟨fun _ => ⟨rfl, k⟩, fun z => absurd (nI_le (Nat.le_refl H) (by omega)) z⟩
  · intro q m hq k hk
    apply b_X12_votesOf_6
    rw [k.r162, eH, nI_1 q, Int32.add_zero]
    refine ⟨fun z => absurd z (nI_ge hq (by omega)), fun _ => icall (voteOf_ok hN hl hn m k) fun m1 k1 => ?_⟩
    have hk2 := hk m1 k1
    simp only [fb_ct_succ] at hk2
    by_cases c : lcV mm.1 q o n n = nI x
    · simp only [c, decide_true, if_true] at hk2
      rw [nI_1]
      exact ⟨fun z => absurd c z, fun _ => hk2⟩
    · simp only [c, decide_false, Bool.false_eq_true, if_false, Nat.add_zero] at hk2
      exact ⟨fun _ => hk2, fun z => absurd z c⟩
theorem st_votes (a b d : Int32) : StepOK RR e_X11_votes e_X12_votes [.int a, .int b, .int d] := by
  apply step_q
  rintro mm ⟨t, s, H, O, S, Qn, W, C, J, F, B, ht, hs, hr, hb, -⟩
  obtain ⟨z1, z2, z3, z4, z5, z6, z7, z8, z9⟩ := hb.sz
  obtain ⟨n1, n2, n3, n4, n5, n6, n7, n8, n9⟩ := hb.nm
  obtain ⟨c1, c2, c3, c4, c5, c6, c7, c8, c9, c10⟩ := hb.nc
  have rf := Kp.rf (kp := kq) mm
  obtain ⟨N, l1, l2, l3, hl⟩ := hb.logs
  obtain ⟨o1, o2⟩ := isO_X (a := a) ht hr c2 z2
  obtain ⟨o3, o4⟩ := isH_X (a := b) ht hr c1 z1
  obtain ⟨o5, o6⟩ := isK_X (a := d) hs.s hr l3 l1
  have m1 := fun (m : MM) (k : Kq mm m) => isO_M (a := a) ((k.g 162 1 rfl).trans n2) (by omega)
  have m2 := fun (m : MM) (k : Kq mm m) => isH_M (a := b) ((k.g 162 0 rfl).trans n1) z1
  have m3 := fun (m : MM) (k : Kq mm m) => isK_M (a := d) ((k.g 163 2 rfl).trans l2) l1
  by_cases h1 : inR a O
  · by_cases h2 : inR b H
    · by_cases h3 : inR d (N + 1)
      · obtain ⟨o, ho, rfl⟩ := id h1
        obtain ⟨x, hx, rfl⟩ := id h2
        obtain ⟨n, hn, rfl⟩ := id h3
        refine ⟨.int (nI (vN mm.1 o n H x)), ?_, fun m k => ?_⟩
        · apply b_X11_votes
          rw [hr.2.1]
          simp only [true_implies, false_implies, not_true, not_false_eq_true, not_false, implies_true, and_true, true_and, not_true_eq_false, forall_const, eq_self, o1, o2, o3, o4, o5, o6, h1, h2, h3]
          refine ⟨hs.s.at, vcall (tally_ok hs.s z1 l1 l3 hl (by omega) mm rf) ?_⟩
          rintro m2 ⟨q1, q2⟩
          rw [q1.2, hr.2.1, nI_clamp (show x < 2 ^ 31 by omega)]
          exact ⟨hs.s.at, vp_in_nI (by omega) (by omega), by rw [q2 x (by omega)], q1⟩
        · apply b_X12_votes
          simp only [true_implies, false_implies, not_true, not_false_eq_true, not_false, implies_true, and_true, true_and, not_true_eq_false, forall_const, eq_self, m1 m k, m2 m k, m3 m k, h1, h2, h3]
          exact icall (votesOf_ok z1 n1 l1 hl (by omega) m k) fun m k => ⟨rfl, k⟩
      · refine ⟨.int (-1), ?_, fun m k => ?_⟩
        · apply b_X11_votes
          simp only [true_implies, false_implies, not_true, not_false_eq_true, not_false, implies_true, and_true, true_and, not_true_eq_false, forall_const, eq_self, o1, o2, o3, o4, o5, o6, h1, h2, h3]
          exact rf
        · apply b_X12_votes
          simp only [true_implies, false_implies, not_true, not_false_eq_true, not_false, implies_true, and_true, true_and, not_true_eq_false, forall_const, eq_self, m1 m k, m2 m k, m3 m k, h1, h2, h3]
          exact k
    · refine ⟨.int (-1), ?_, fun m k => ?_⟩
      · apply b_X11_votes
        simp only [true_implies, false_implies, not_true, not_false_eq_true, not_false, implies_true, and_true, true_and, not_true_eq_false, forall_const, eq_self, o1, o2, o3, o4, h1, h2]
        exact rf
      · apply b_X12_votes
        simp only [true_implies, false_implies, not_true, not_false_eq_true, not_false, implies_true, and_true, true_and, not_true_eq_false, forall_const, eq_self, m1 m k, m2 m k, h1, h2]
        exact k
  · refine ⟨.int (-1), ?_, fun m k => ?_⟩
    · apply b_X11_votes
      simp only [true_implies, false_implies, not_true, not_false_eq_true, not_false, implies_true, and_true, true_and, not_true_eq_false, forall_const, eq_self, o1, o2, h1]
      exact rf
    · apply b_X12_votes
      simp only [true_implies, false_implies, not_true, not_false_eq_true, not_false, implies_true, and_true, true_and, not_true_eq_false, forall_const, eq_self, m1 m k, h1]
      exact k
/-- the winner so far, 0: none, b + 1: the house b -/
def winV (f g : Nat → Nat) : Nat → Nat
  | 0 => 0
  | k + 1 => match winV f g k with
    | 0 => if 0 < f k then k + 1 else 0
    | b + 1 => if f b < f k ∨ (f k = f b ∧ g b < g k) then k + 1 else b + 1
theorem winV_S (f g : Nat → Nat) (k : Nat) : winV f g (k + 1) = match winV f g k with
    | 0 => if 0 < f k then k + 1 else 0
    | b + 1 => if f b < f k ∨ (f k = f b ∧ g b < g k) then k + 1 else b + 1 := rfl
theorem winV_ok (f g : Nat → Nat) : ∀ k, winV f g k ≤ k ∧ ∀ b, winV f g k = b + 1 → 0 < f b
  | 0 => ⟨Nat.le_refl _, fun b h => by cases h⟩
  | k + 1 => by
    obtain ⟨i1, i2⟩ := winV_ok f g k
    rw [winV_S]
    cases hw : winV f g k with
    | zero =>
      simp only
      split
      · next h => exact ⟨Nat.le_refl _, fun b e => by cases e; exact h⟩
      · exact ⟨Nat.zero_le _, fun b e => by cases e⟩
    | succ b =>
      have hb := i2 b hw
      rw [hw] at i1
      simp only
      split
      · next h => exact ⟨Nat.le_refl _, fun b' e => by cases e; omega⟩
      · exact ⟨by omega, fun b' e => by cases e; exact hb⟩
def winI : Nat → Int32
  | 0 => -nI 2
  | b + 1 => nI b
theorem st_winner (a d : Int32) : StepOK RR e_X11_winner e_X12_winner [.int a, .int d] := by
  apply step_q
  rintro mm ⟨t, s, H, O, S, Qn, W, C, J, F, B, ht, hs, hr, hb, -⟩
  obtain ⟨z1, z2, z3, z4, z5, z6, z7, z8, z9⟩ := hb.sz
  obtain ⟨n1, n2, n3, n4, n5, n6, n7, n8, n9⟩ := hb.nm
  obtain ⟨c1, c2, c3, c4, c5, c6, c7, c8, c9, c10⟩ := hb.nc
  have rf := Kp.rf (kp := kq) mm
  obtain ⟨N, l1, l2, l3, hl⟩ := hb.logs
  obtain ⟨o1, o2⟩ := isO_X (a := a) ht hr c2 z2
  obtain ⟨o5, o6⟩ := isK_X (a := d) hs.s hr l3 l1
  have m1 := fun (m : MM) (k : Kq mm m) => isO_M (a := a) ((k.g 162 1 rfl).trans n2) (by omega)
  have m3 := fun (m : MM) (k : Kq mm m) => isK_M (a := d) ((k.g 163 2 rfl).trans l2) l1
  by_cases h1 : inR a O
  · by_cases h3 : inR d (N + 1)
    · obtain ⟨o, ho, rfl⟩ := id h1
      obtain ⟨n, hn, rfl⟩ := id h3
      have hw := winV_ok (vN mm.1 o n H) (hN mm.1)
      have hf : ∀ x, vN mm.1 o n H x ≤ 16 := fun x => Nat.le_trans (fb_ct_le _ _) z1
      refine ⟨.int (winI (winV (vN mm.1 o n H) (hN mm.1) H)), ?_, fun m k => ?_⟩
      · apply b_X11_winner
        rw [hr.2.1]
        simp only [true_implies, false_implies, not_true, not_false_eq_true, not_false, implies_true, and_true, true_and, not_true_eq_false, forall_const, eq_self, o1, o2, o5, o6, h1, h3]
        refine ⟨hs.s.at, vcall (tally_ok hs.s z1 l1 l3 hl (by omega) mm rf) ?_⟩
        rintro m2 ⟨q1, q2⟩
        rw [q1.2, hr.2.1]
        refine ⟨hs.s.at, ?_⟩
        refine for_up (fun q => [(0, .ref 0), (3, .ref (s + 7 + 6)), (4, .int (winI (winV (vN mm.1 o n H) (hN mm.1) q))), (5, .int (nI q))]) (fun q m => Kq mm m ∧ ∀ x, x < 16 → m.1 (s + 7 + 6) x = nI (vN mm.1 o n H x)) H ?_ ?_ 0 _ (Nat.zero_le _) ⟨q1, q2⟩
        · rintro m ⟨k, -⟩
          apply b_X11_winner_48 _ _ _ _ _ (AtLogs_6 hs.s.at.logs)
          rw [k.2, hr.1, k.t0 ht, c1]
          exact ⟨ht.at, fun _ => ⟨rfl, k⟩, fun z => absurd (nI_le (Nat.le_refl H) (by omega)) z⟩
        · rintro q m hq ⟨k, kg⟩ hk
          have hk2 := hk m ⟨k, kg⟩
          simp only [winV_S] at hk2
          obtain ⟨i1, i2⟩ := hw q
          have y1 := (hb.hn q (by omega))
          apply b_X11_winner_48 _ _ _ _ _ (AtLogs_6 hs.s.at.logs)
          unfold o_X11_beats p_X11_beats
          rw [k.2, hr.1, hr.2.1, k.t0 ht, c1, nI_1 q, nI_clamp (show q < 2 ^ 31 by omega), kg q (by omega), k.s hs.s 1 (by omega), hb.hh q (by omega)]
          have vq := vp_in_nI (n := q) (N := 16) (by omega) (by omega)
          refine ⟨ht.at, fun z => absurd z (nI_ge hq (by omega)), fun _ => ?_⟩
          cases hwq : winV (vN mm.1 o n H) (hN mm.1) q with
          | zero =>
            rw [hwq] at hk2
            simp only at hk2
            refine ⟨fun z => absurd rfl z, fun _ => ⟨vq, fun z => ⟨fun _ => ?_, fun z => absurd (show (-nI 2 : Int32) < 0 by decide) z⟩, fun z => ?_⟩⟩
            · have := (nI_leI (a := vN mm.1 o n H q) (b := 0) (by have := hf q; omega) (by omega)).mp z
              rw [if_neg (by omega)] at hk2
              exact hk2
            · have z2 : ¬ vN mm.1 o n H q ≤ 0 := fun y => z (nI_le (b := 0) y (by omega))
              rw [if_pos (by omega)] at hk2
              exact hk2
          | succ b =>
            rw [hwq] at hk2 i1
            simp only at hk2
            have hb16 : b < 16 := by omega
            have y2 := (hb.hn b hb16)
            have hfb := hf b
            have hfq := hf q
            have e1 : winI (b + 1) = nI b := rfl
            rw [e1, nI_clamp (show b < 2 ^ 31 by omega), kg b hb16, hb.hh b hb16]
            have vb := vp_in_nI (n := b) (N := 16) (by omega) (by omega)
            have y3 : (fun k => mm.1 163 (10 + k)) q = nI (hN mm.1 q) := y1.1
            have y4 : (fun k => mm.1 163 (10 + k)) b = nI (hN mm.1 b) := y2.1
            rw [y3, y4, nI_ltI (by omega) (by omega), nI_eq (show vN mm.1 o n H q < 2 ^ 31 by omega) (show vN mm.1 o n H b < 2 ^ 31 by omega), nI_leI (show hN mm.1 q < 2 ^ 31 by omega) (show hN mm.1 b < 2 ^ 31 by omega)]
            have ob : ∀ (A1 A2 A3 A4 : Prop), vp_in (nI q) 16 ∧ vp_in (nI b) 16 ∧ (A1 → True) ∧ (A2 → vp_in (nI q) 16 ∧ vp_in (nI b) 16 ∧ (A3 → True) ∧ (A4 → AtState s ∧ vp_in (nI q) 16 ∧ AtState s ∧ vp_in (nI b) 16 ∧ (hN mm.1 q ≤ hN mm.1 b → True) ∧ (¬ hN mm.1 q ≤ hN mm.1 b → True))) := fun _ _ _ _ => ⟨vq, vb, fun _ => trivial, fun _ => ⟨vq, vb, fun _ => trivial, fun _ => ⟨hs.s.at, vq, hs.s.at, vb, fun _ => trivial, fun _ => trivial⟩⟩⟩
            refine ⟨fun _ => ⟨fun z => absurd z (nI_pos (by omega)), fun _ => ⟨ob _ _ _ _, fun z => ?_, fun z => ?_⟩⟩, fun z => absurd z (of_eq_false (s_neF (a := b) (b := 2) (Or.inr (by omega)) (by omega) (by omega)))⟩
            · rw [if_pos (by rcases z with z | ⟨z, z'⟩; exact Or.inl z; exact Or.inr ⟨z, by omega⟩)] at hk2
              exact hk2
            · rw [if_neg (fun y => z (by rcases y with y | ⟨y, y'⟩; exact Or.inl y; exact Or.inr ⟨y, by omega⟩))] at hk2
              exact hk2
      · apply b_X12_winner
        simp only [true_implies, false_implies, not_true, not_false_eq_true, not_false, implies_true, and_true, true_and, not_true_eq_false, forall_const, eq_self, m1 m k, m3 m k, h1, h3]
        refine for_up (fun q => [(0, .ref 156), (1, .int (nI o)), (2, .int (nI n)), (3, .int (winI (winV (vN mm.1 o n H) (hN mm.1) q))), (4, .int (nI (match winV (vN mm.1 o n H) (hN mm.1) q with | 0 => 0 | b + 1 => vN mm.1 o n H b))), (5, .int (nI q))]) (fun q m => Kq mm m) H ?_ ?_ 0 _ (Nat.zero_le _) k
        · intro m k
          apply b_X12_winner_27
          rw [k.r162, n1]
          exact ⟨fun _ => ⟨rfl, k⟩, fun z => absurd (nI_le (Nat.le_refl H) (by omega)) z⟩
        · intro q m hq k hk
          obtain ⟨i1, i2⟩ := hw q
          have hfq := hf q
          apply b_X12_winner_27
          rw [k.r162, n1, nI_1 q]
          refine ⟨fun z => absurd z (nI_ge hq (by omega)), fun _ => icall (votesOf_ok z1 n1 l1 hl (by omega) m k) fun m k => ?_⟩
          have hk2 := hk m k
          simp only [winV_S] at hk2
          cases hwq : winV (vN mm.1 o n H) (hN mm.1) q with
          | zero =>
            rw [hwq] at hk2
            simp only at hk2 ⊢
            refine ⟨fun z => absurd z (nI_nlt (Nat.zero_le _) (by omega)), fun _ => ⟨fun z => ?_, fun z => ⟨fun _ => ?_, fun z2 => absurd z2 z⟩⟩⟩
            · have := (nI_eq (a := vN mm.1 o n H q) (b := 0) (by omega) (by omega)).mp z
              rw [if_neg (by omega)] at hk2
              exact hk2
            · have z2 : ¬ vN mm.1 o n H q = 0 := fun y => z (by rw [y]; rfl)
              rw [if_pos (by omega)] at hk2
              exact hk2
          | succ b =>
            rw [hwq] at hk2 i1
            simp only at hk2 ⊢
            have hb16 : b < 16 := by omega
            have hfb := hf b
            have hb0 := i2 b hwq
            have y1 := (hb.hn q (by omega))
            have y2 := (hb.hn b hb16)
            have e1 : winI (b + 1) = nI b := rfl
            rw [e1, h_v k (show q < 16 by omega), h_v k hb16, y1.1, y2.1, nI_ltI (by omega) (by omega), nI_ltI (by omega) (by omega), nI_eq (show vN mm.1 o n H q < 2 ^ 31 by omega) (show vN mm.1 o n H b < 2 ^ 31 by omega), show (0 : Int32) = nI 0 from rfl, nI_eq (show vN mm.1 o n H q < 2 ^ 31 by omega) (show 0 < 2 ^ 31 by omega)]
            refine ⟨fun z => ?_, fun z => ⟨fun z2 => absurd z2 (by omega), fun z2 => ⟨fun z3 => ?_, fun z3 => ⟨fun z4 => absurd z4 (nI_pos (by omega)), fun _ => ⟨h_o (by omega), h_o hb16, fun z5 => ?_, fun z5 => ?_⟩⟩⟩⟩⟩
            · rw [if_neg (by omega)] at hk2
              exact hk2
            · rw [if_pos (by omega)] at hk2
              exact hk2
            · rw [if_pos (by omega)] at hk2
              exact hk2
            · rw [if_neg (by omega)] at hk2
              exact hk2
    · refine ⟨.int (-1), ?_, fun m k => ?_⟩
      · apply b_X11_winner
        simp only [true_implies, false_implies, not_true, not_false_eq_true, not_false, implies_true, and_true, true_and, not_true_eq_false, forall_const, eq_self, o1, o2, o5, o6, h1, h3]
        exact rf
      · apply b_X12_winner
        simp only [true_implies, false_implies, not_true, not_false_eq_true, not_false, implies_true, and_true, true_and, not_true_eq_false, forall_const, eq_self, m1 m k, m3 m k, h1, h3]
        exact k
  · refine ⟨.int (-1), ?_, fun m k => ?_⟩
    · apply b_X11_winner
      simp only [true_implies, false_implies, not_true, not_false_eq_true, not_false, implies_true, and_true, true_and, not_true_eq_false, forall_const, eq_self, o1, o2, h1]
      exact rf
    · apply b_X12_winner
      simp only [true_implies, false_implies, not_true, not_false_eq_true, not_false, implies_true, and_true, true_and, not_true_eq_false, forall_const, eq_self, m1 m k, h1]
      exact k

/-! give, work -/
def OffP (f g : Nat → Int32) (H O : Nat) : Prop := (∀ h, h < 16 → (f h = -nI 2 ∧ g h = -nI 1) ∨ ∃ o : Nat, o < O ∧ h < H ∧ f h = nI o ∧ g h = nI o) ∧ ∀ h h', h < 16 → h' < 16 → h ≠ h' → f h = f h' → f h = -nI 2
theorem OffP.eq {f g : Nat → Int32} {H O o h : Nat} (hp : OffP f g H O) (h12 : O ≤ 12) (ho : o < O) (hh : h < 16) : (g h = nI o ↔ f h = nI o) ∧ (f h = nI o → h < H) := by
  rcases hp.1 h hh with ⟨e1, e2⟩ | ⟨o', ho', hH, e1, e2⟩
  · rw [e1, e2]
    refine ⟨⟨fun z => ?_, fun z => ?_⟩, fun z => ?_⟩
    · exact absurd z.symm (of_eq_false (s_neF (b := 1) (Or.inr (by omega)) (by omega) (by omega)))
    · exact absurd z.symm (of_eq_false (s_neF (b := 2) (Or.inr (by omega)) (by omega) (by omega)))
    · exact absurd z.symm (of_eq_false (s_neF (b := 2) (Or.inr (by omega)) (by omega) (by omega)))
  · rw [e1, e2]
    exact ⟨Iff.rfl, fun _ => hH⟩
theorem OffP.clr {f g f' g' : Nat → Int32} {H O h : Nat} (hp : OffP f g H O) (h12 : O ≤ 12) (hf : ∀ k, k < 16 → f' k = if k = h then -nI 2 else f k) (hg : ∀ k, k < 16 → g' k = if k = h then -nI 1 else g k) : OffP f' g' H O := by
  refine ⟨fun k hk => ?_, fun k k' hk hk' hne => ?_⟩
  · rw [hf k hk, hg k hk]
    by_cases e : k = h
    · rw [if_pos e, if_pos e]; exact Or.inl ⟨rfl, rfl⟩
    · rw [if_neg e, if_neg e]; exact hp.1 k hk
  · rw [hf k hk, hf k' hk']
    by_cases e : k = h
    · rw [if_pos e]; exact fun _ => rfl
    · rw [if_neg e]
      by_cases e' : k' = h
      · rw [if_pos e']; exact fun z => z
      · rw [if_neg e']; exact hp.2 k k' hk hk' hne
theorem OffP.giv {f g f' g' : Nat → Int32} {H O h o : Nat} (hp : OffP f g H O) (h12 : O ≤ 12) (hh : h < H) (ho : o < O) (hf : ∀ k, k < 16 → f' k = if k = h then nI o else if f k = nI o then -nI 2 else f k) (hg : ∀ k, k < 16 → g' k = if k = h then nI o else if g k = nI o then -nI 1 else g k) : OffP f' g' H O := by
  have n2 : ¬ nI o = -nI 2 := of_eq_false (s_neF (Or.inr (by omega)) (by omega) (by omega))
  refine ⟨fun k hk => ?_, fun k k' hk hk' hne => ?_⟩
  · rw [hf k hk, hg k hk]
    by_cases e : k = h
    · subst e
      rw [if_pos rfl, if_pos rfl]; exact Or.inr ⟨o, ho, hh, rfl, rfl⟩
    · rw [if_neg e, if_neg e]
      by_cases d : f k = nI o
      · rw [if_pos d, if_pos ((hp.eq h12 ho hk).1.mpr d)]; exact Or.inl ⟨rfl, rfl⟩
      · rw [if_neg d, if_neg (fun z => d ((hp.eq h12 ho hk).1.mp z))]; exact hp.1 k hk
  · rw [hf k hk, hf k' hk']
    by_cases e : k = h
    · rw [if_pos e, if_neg (fun z => hne (e.trans z.symm))]
      by_cases d : f k' = nI o
      · rw [if_pos d]; exact fun z => absurd z n2
      · rw [if_neg d]; exact fun z => absurd z.symm d
    · rw [if_neg e]
      by_cases e' : k' = h
      · rw [if_pos e']
        by_cases d : f k = nI o
        · rw [if_pos d]; exact fun _ => rfl
        · rw [if_neg d]; exact fun z => absurd z d
      · rw [if_neg e']
        by_cases d : f k = nI o
        · rw [if_pos d]; exact fun _ => rfl
        · rw [if_neg d]
          by_cases d' : f k' = nI o
          · rw [if_pos d']; exact fun z => z
          · rw [if_neg d']; exact hp.2 k k' hk hk' hne
theorem LiveR.offP {c : Nat → Nat → Int32} {s H O W : Nat} (h : LiveR c s 0 H O W) (hp : 0 < H + O) : OffP (fun k => c 163 (30 + k)) (c (s + 2)) H O := by
  refine ⟨h.of hp, fun k k' hk hk' hne => ?_⟩
  have := h.2.2.2.1 k k' hk hk' hne
  rw [Nat.zero_add, Nat.zero_add] at this
  exact this
theorem OffP.lv {c : Nat → Nat → Int32} {s H O : Nat} (h : OffP (fun k => c 163 (30 + k)) (c (s + 2)) H O) : (∀ h, h < 16 → 0 < H + O → (c 163 (0 + (30 + h)) = -nI 2 ∧ c (s + 2) h = -nI 1) ∨ ∃ o : Nat, o < O ∧ h < H ∧ c 163 (0 + (30 + h)) = nI o ∧ c (s + 2) h = nI o) ∧ (∀ h h', h < 16 → h' < 16 → h ≠ h' → c 163 (0 + (30 + h)) = c 163 (0 + (30 + h')) → c 163 (0 + (30 + h)) = -nI 2) := by
  refine ⟨fun k hk _ => ?_, fun k k' hk hk' hne => ?_⟩
  · rw [Nat.zero_add]; exact h.1 k hk
  · rw [Nat.zero_add, Nat.zero_add]; exact h.2 k k' hk hk' hne
def setF (f : Nat → Int32) (h : Nat) (x : Int32) : Nat → Int32 := fun j => if j = h then x else if f j = x then -nI 1 else f j
theorem fb_put_same {f g : Nat → Int32} {q : Nat} (h : g q = f q) : fb_put f g 0 (q + 1) = fb_put f g 0 q := by
  rw [← fb_put_succ f g 0 q, h]
  funext j
  simp only [upd]
  split
  · next e =>
    subst e
    rw [fb_put_out (by omega), Nat.zero_add]
  · rfl
theorem settleC_ok {s : Nat} (hs : isS s) {h : Nat} (hh : h < 16) (x : Int32) (m : MM) : Runs e_X6_settle [.ref s, .int (nI h), .int x] m (fun r m' => r = .null ∧ m' = wR m (s + 2) (fb_put (m.1 (s + 2)) (setF (m.1 (s + 2)) h x) 0 16)) := by
  apply b_X6_settle _ _ _ _ _ hs.at
  have h0 : m = wR m (s + 2) (fb_put (m.1 (s + 2)) (setF (m.1 (s + 2)) h x) 0 0) := by rw [fb_put_0, wR_self]
  refine for_up (fun q => [(0, .ref s), (1, .int (nI h)), (2, .int x), (3, .int (nI q))]) (fun q m' => m' = wR m (s + 2) (fb_put (m.1 (s + 2)) (setF (m.1 (s + 2)) h x) 0 q)) 16 ?_ ?_ 0 _ (Nat.zero_le _) h0
  · rintro m' rfl
    apply b_X6_settle_2 _ _ _ _ _ _ hs.at
    exact ⟨fun _ => ⟨rfl, rfl⟩, fun z => absurd (show (16 : Int32) ≤ nI 16 by decide) z⟩
  · rintro q m' hq rfl hk
    apply b_X6_settle_2 _ _ _ _ _ _ hs.at
    rw [nI_clamp (show q < 2 ^ 31 by omega), wR_k, fb_put_out (f := m.1 (s + 2)) (a := 0) (n := q) (k := q) (by omega), nI_1 q, nI_eq (show q < 2 ^ 31 by omega) (show h < 2 ^ 31 by omega), wI_wR, wI_wR]
    have v := vp_in_nI (n := q) (N := 16) hq (by omega)
    have ps := fb_put_succ (m.1 (s + 2)) (setF (m.1 (s + 2)) h x) 0 q
    rw [Nat.zero_add] at ps
    refine ⟨fun z => absurd z (nI_ge (a := q) (b := 16) hq (by omega)), fun _ => ⟨fun d => ⟨v, fun e => hk _ ?_, fun e => ⟨v, hk _ ?_⟩⟩, fun d => ⟨v, hk _ ?_⟩⟩⟩
    · rw [fb_put_same]
      show (if q = h then x else if m.1 (s + 2) q = x then -nI 1 else m.1 (s + 2) q) = _
      rw [if_neg d, if_neg e]
    · have : setF (m.1 (s + 2)) h x q = -1 := by
        show (if q = h then x else if m.1 (s + 2) q = x then -nI 1 else m.1 (s + 2) q) = _
        rw [if_neg d, if_pos e]; rfl
      rw [← ps, this]
    · have : setF (m.1 (s + 2)) h x q = x := by
        show (if q = h then x else if m.1 (s + 2) q = x then -nI 1 else m.1 (s + 2) q) = _
        rw [if_pos d]
      rw [← ps, this]
theorem put16 {f g : Nat → Int32} {k : Nat} (hk : k < 16) : fb_put f g 0 16 k = g k := by
  rw [fb_put_in (by omega) (by omega), Nat.sub_zero]
/-- the model's giving, cell by cell -/
theorem givesF_at {f : Nat → Int32} {g : Nat → Int32} {H O h o k : Nat} (hp : OffP (fun k => f (30 + k)) g H O) (h16 : H ≤ 16) (h12 : O ≤ 12) (ho : o < O) (hh : h < H) (hk : k < 16) : givesF f H h (nI o) (30 + k) = if k = h then nI o else if f (30 + k) = nI o then -nI 2 else f (30 + k) := by
  unfold givesF
  by_cases e : k = h
  · subst e; rw [pk_us, if_pos rfl]
  · rw [pk_un (by omega), if_neg e]
    by_cases c : fa_first (fun h => decide (f (30 + h) = nI o)) H < H
    · rw [if_pos c]
      have hy := fa_first_yes (fun h => decide (f (30 + h) = nI o)) H c
      have hy := of_decide_eq_true hy
      generalize fa_first (fun h => decide (f (30 + h) = nI o)) H = w at c hy
      by_cases d : k = w
      · subst d
        rw [pk_us, if_pos hy]; rfl
      · rw [pk_un (by omega)]
        rw [if_neg]
        intro z
        have := hp.2 k w hk (by omega) d (z.trans hy.symm)
        have z2 : f (30 + k) = -nI 2 := this
        rw [z2] at z
        exact absurd z.symm (of_eq_false (s_neF (b := 2) (Or.inr (by omega)) (by omega) (by omega)))
    · rw [if_neg c, if_neg]
      intro z
      have hH := (hp.eq h12 ho hk).2 z
      have h1 := fa_first_le (fun h => decide (f (30 + h) = nI o)) H
      have := fa_first_no (fun h => decide (f (30 + h) = nI o)) H k (by omega)
      simp only [z, decide_true] at this
      cases this
theorem givesF_out {f : Nat → Int32} {H h : Nat} {o : Int32} {j : Nat} (h16 : H ≤ 16) (hh : h < 16) (hj : j < 30 ∨ 46 ≤ j) : givesF f H h o j = f j := by
  unfold givesF
  rw [pk_un (by omega)]
  split
  · rw [pk_un (by omega)]
  · rfl
theorem RR_off {mm m : MM} {t s H O S Qn W C J F B : Nat} (ht : isT t) (hs : isN s) (hr : RefR mm.2.2 t s) (hb : BodyR mm.1 t s H O S Qn W C J F B) (hl : LotR mm.1 W) (h4 : m.2.2 = mm.2.2) (f : ∀ a, a ≠ s + 2 → a ≠ 163 → m.1 a = mm.1 a) (g : ∀ j, j < 30 ∨ 46 ≤ j → m.1 163 j = mm.1 163 j) (hO : OffP (fun k => m.1 163 (30 + k)) (m.1 (s + 2)) H O) : RR m := by
  have hs' : s = 24 ∨ s = 114 := hs
  have z5 := hb.sz.2.2.2.2.1
  obtain ⟨w1, w2, w3, w4, w5, w6, w7⟩ := hb.2.1
  exact RR_live ht hs hr hb hl h4 (fun a _ h => f a (by omega) h) (fun j _ => g _ (by omega)) ⟨lvM (by rw [f _ (by omega) (by omega)]) (g _ (by omega)) w1, lvH (f _ (by omega) (by omega)) (fun j _ _ => g _ (by omega)) w2, hO.lv.1, hO.lv.2, lvW z5 (f _ (by omega) (by omega)) (fun j _ _ => g _ (by omega)) w5, lvK (by rw [f _ (by omega) (by omega)]) (fun i _ => ⟨by rw [f _ (by omega) (by omega)], by rw [f _ (by omega) (by omega)], by rw [f _ (by omega) (by omega)]⟩) (fun j _ => g _ (by omega)) w6, lvL (by rw [f _ (by omega) (by omega)]) (fun i _ => ⟨by rw [f _ (by omega) (by omega)], by rw [f _ (by omega) (by omega)], by rw [f _ (by omega) (by omega)], by rw [f _ (by omega) (by omega)]⟩) (fun j _ => g _ (by omega)) w7⟩
theorem st_give (a b : Int32) : StepOK RR e_X11_give e_X12_give [.int a, .int b] := by
  apply step_c
  rintro mm ⟨t, s, H, O, S, Qn, W, C, J, F, B, ht, hs, hr, hb, hl⟩
  obtain ⟨z1, z2, z3, z4, z5, z6, z7, z8, z9⟩ := hb.sz
  obtain ⟨n1, n2, n3, n4, n5, n6, n7, n8, n9⟩ := hb.nm
  obtain ⟨c1, c2, c3, c4, c5, c6, c7, c8, c9, c10⟩ := hb.nc
  have rf := Kp.rf (kp := kq) mm
  have hs' : s = 24 ∨ s = 114 := hs
  have ht' : t = 10 ∨ t = 100 := ht
  obtain ⟨o1, o2⟩ := isH_X (a := a) ht hr c1 z1
  obtain ⟨o3, o4⟩ := isO_X (a := b) ht hr c2 z2
  have hR : RR mm := ⟨t, s, H, O, S, Qn, W, C, J, F, B, ht, hs, hr, hb, hl⟩
  by_cases hin : inR a H
  · obtain ⟨h, hh, rfl⟩ := id hin
    have hp := hb.2.1.offP (by omega)
    by_cases hb1 : b = -nI 1
    · subst hb1
      refine ⟨.int 1, wR mm (s + 2) (fb_put (mm.1 (s + 2)) (setF (mm.1 (s + 2)) h (-nI 1)) 0 16), wI (wR mm (s + 2) (fb_put (mm.1 (s + 2)) (setF (mm.1 (s + 2)) h (-nI 1)) 0 16)) 163 (30 + h) (-nI 2), ?_, fun m k => ?_, ?_⟩
      · apply b_X11_give
        rw [hr.2.1]
        refine ⟨o1, fun _ => ⟨fun _ => ⟨hs.s.at, vcall (settleC_ok hs.s (by omega) _ mm) ?_⟩, fun z => absurd rfl z⟩, fun z => absurd (o2.mpr hin) z⟩
        rintro m1 rfl
        exact ⟨rfl, Kp.rf _⟩
      · apply b_X12_give
        have iM := isH_M (m := m) (a := nI h) ((k.g 162 0 rfl).trans (by rw [wR_o (show 162 ≠ s + 2 by omega)]; exact n1)) z1
        have i1 : ((30 : Int32) + nI h).toNatClampNeg = 30 + h := by simp (disch := omega) only [lin, nI_add, pk_mul, s_sub, s_addneg, s_leT, s_leF, s_ltT, s_ltF, s_eqF, s_inT, s_neF, s_neF', s_neE, s_nleT, s_nleF, s_nltF, s_nltT, eq_self, nI_clamp, s_wIk, s_wIo, pk_us, pk_un, Nat.reduceAdd, Nat.reduceMul, Nat.reduceSub, Nat.zero_add, Nat.add_zero, Nat.mul_zero, true_implies, false_implies, implies_true, not_true, not_false, and_true, true_and, not_true_eq_false, not_false_eq_true, forall_const]
        have v1 : vp_in ((30 : Int32) + nI h) 1260 := by simp (disch := omega) only [lin, nI_add, pk_mul, s_sub, s_addneg, s_leT, s_leF, s_ltT, s_ltF, s_eqF, s_inT, s_neF, s_neF', s_neE, s_nleT, s_nleF, s_nltF, s_nltT, eq_self, nI_clamp, s_wIk, s_wIo, pk_us, pk_un, Nat.reduceAdd, Nat.reduceMul, Nat.reduceSub, Nat.zero_add, Nat.add_zero, Nat.mul_zero, true_implies, false_implies, implies_true, not_true, not_false, and_true, true_and, not_true_eq_false, not_false_eq_true, forall_const]
        rw [i1]
        refine ⟨fun _ => ⟨fun _ => ⟨fun z => absurd z (by decide), fun _ => ⟨v1, rfl, k.bI _ _ _⟩⟩, fun z => absurd rfl z⟩, fun z => absurd (iM.mpr hin) z⟩
      · refine RR_off ht hs hr hb hl rfl (fun a h1 h2 => by rw [wI_o h2, wR_o h1]) (fun j hj => by rw [wI_k, pk_un (by omega), wR_o (show 163 ≠ s + 2 by omega)]) (hp.clr (h := h) z2 (fun k hk => ?_) (fun k hk => ?_))
        · show (wI _ 163 (30 + h) (-nI 2)).1 163 (30 + k) = _
          rw [wI_k, wR_o (show 163 ≠ s + 2 by omega)]
          by_cases e : k = h
          · subst e; rw [pk_us, if_pos rfl]
          · rw [pk_un (by omega), if_neg e]
        · rw [wI_o (by omega), wR_k, put16 hk]
          show (if k = h then -nI 1 else if mm.1 (s + 2) k = -nI 1 then -nI 1 else mm.1 (s + 2) k) = _
          by_cases e : k = h
          · rw [if_pos e, if_pos e]
          · rw [if_neg e, if_neg e]
            split
            · next d => exact d.symm
            · rfl
    · by_cases hin2 : inR b O
      · obtain ⟨o, ho, rfl⟩ := id hin2
        refine ⟨.int 1, wR mm (s + 2) (fb_put (mm.1 (s + 2)) (setF (mm.1 (s + 2)) h (nI o)) 0 16), wR (wR mm (s + 2) (fb_put (mm.1 (s + 2)) (setF (mm.1 (s + 2)) h (nI o)) 0 16)) 163 (givesF (mm.1 163) H h (nI o)), ?_, fun m k => ?_, ?_⟩
        · apply b_X11_give
          rw [hr.2.1]
          refine ⟨o1, fun _ => ⟨fun z => absurd z hb1, fun _ => ⟨o3, fun _ => ⟨hs.s.at, vcall (settleC_ok hs.s (by omega) _ mm) ?_⟩, fun z => absurd (o4.mpr hin2) z⟩⟩, fun z => absurd (o2.mpr hin) z⟩
          rintro m1 rfl
          exact ⟨rfl, Kp.rf _⟩
        · apply b_X12_give
          have e162 : m.1 162 = mm.1 162 := by rw [k.r162, wR_o (show 162 ≠ s + 2 by omega)]
          have e163 : m.1 163 = mm.1 163 := by rw [k.r163, wR_o (show 163 ≠ s + 2 by omega)]
          have iM := isH_M (m := m) (a := nI h) (by rw [e162]; exact n1) z1
          have iO := isO_M (m := m) (a := nI o) (by rw [e162]; exact n2) (by omega)
          refine ⟨fun _ => ⟨fun z => absurd z hb1, fun _ => ⟨fun _ => ⟨fun _ => vcall (gives_ok m h H (nI o) (by rw [e162]; exact n1) z1 (by omega)) ?_, fun z => absurd (nI_pos' (by omega)) z⟩, fun z => absurd (iO.mpr hin2) z⟩⟩, fun z => absurd (iM.mpr hin) z⟩
          rintro m1 rfl
          rw [e163]
          exact ⟨rfl, k.bR _ _⟩
        · refine RR_off ht hs hr hb hl rfl (fun a h1 h2 => by rw [wR_o h2, wR_o h1]) (fun j hj => by rw [wR_k, givesF_out z1 (by omega) hj]) (hp.giv (h := h) (o := o) z2 hh ho (fun k hk => ?_) (fun k hk => ?_))
          · show (wR _ 163 _).1 163 (30 + k) = _
            rw [wR_k, givesF_at hp z1 z2 ho hh hk]
          · rw [wR_o (by omega), wR_k, put16 hk]
            rfl
      · refine ⟨.int 0, mm, mm, ?_, fun m k => ?_, hR⟩
        · apply b_X11_give
          exact ⟨o1, fun _ => ⟨fun z => absurd z hb1, fun _ => ⟨o3, fun z => absurd (o4.mp z) hin2, fun _ => ⟨rfl, rf⟩⟩⟩, fun z => absurd (o2.mpr hin) z⟩
        · have iM := isH_M (m := m) (a := nI h) ((k.g 162 0 rfl).trans n1) z1
          have iO := isO_M (m := m) (a := b) ((k.g 162 1 rfl).trans n2) (by omega)
          apply b_X12_give
          exact ⟨fun _ => ⟨fun z => absurd z hb1, fun _ => ⟨fun z => absurd (iO.mp z) hin2, fun _ => ⟨rfl, k⟩⟩⟩, fun z => absurd (iM.mpr hin) z⟩
  · refine ⟨.int 0, mm, mm, ?_, fun m k => ?_, hR⟩
    · apply b_X11_give
      exact ⟨o1, fun z => absurd (o2.mp z) hin, fun _ => ⟨rfl, rf⟩⟩
    · have iM := isH_M (m := m) (a := a) ((k.g 162 0 rfl).trans n1) z1
      apply b_X12_give
      exact ⟨fun z => absurd (iM.mp z) hin, fun _ => ⟨rfl, k⟩⟩

/-! feed -/
def bx (w : Int32) (k : Nat) : Int32 := vp_nar .byte (ushr w (nI (24 - 8 * k))).toInt8.toInt32
def by8 (w : Int32) (k : Nat) : Int32 := (w >>> (((24 : Int32) - (8 : Int32) * nI k) &&& 31)) &&& 255
theorem by8_eq : ∀ k, k < 4 → (24 : Int32) - (8 : Int32) * nI k = nI (24 - 8 * k) := by decide +kernel
theorem bx_by {w : Int32} {k : Nat} (hk : k < 4) : bx w k &&& 255 = by8 w k := by
  have h1 : bx w k &&& 255 = ushr w (nI (24 - 8 * k)) &&& 255 := by
    show (ushr w (nI (24 - 8 * k))).toInt8.toInt32.toInt8.toInt32 &&& 255 = _
    rw [fb_byte_twice, bp_b]
  rw [h1]
  unfold by8
  rw [by8_eq k hk]
  apply b_ext
  intro i hi
  rw [b_and, b_and, b_255]
  by_cases c : i < 8
  · rw [decide_eq_true c, Bool.and_true, Bool.and_true, b_sshr _ (by omega) _ hi, if_pos (by omega)]
    exact b_ushr _ (by omega) _ _
  · rw [decide_eq_false c, Bool.and_false, Bool.and_false]
theorem by8_nI (w : Int32) (k : Nat) : ∃ b : Nat, b < 256 ∧ by8 w k = nI b := by
  unfold by8
  generalize w >>> (((24 : Int32) - (8 : Int32) * nI k) &&& 31) = x
  refine ⟨x.toBitVec.toNat &&& 255, Nat.lt_of_le_of_lt Nat.and_le_right (by decide), Int32.toBitVec_inj.mp (BitVec.eq_of_toNat_eq ?_)⟩
  rw [Int32.toBitVec_and, BitVec.toNat_and]
  have h : x.toBitVec.toNat &&& 255 ≤ 255 := Nat.and_le_right
  show x.toBitVec.toNat &&& 255 = (BitVec.ofNat 32 (x.toBitVec.toNat &&& 255)).toNat
  rw [BitVec.toNat_ofNat, Nat.mod_eq_of_lt (by omega)]
def apk (g : Int32 → Nat → Int32) (f : Nat → Int32) (n : Nat) (w : Int32) (k j : Nat) : Int32 := if n ≤ j ∧ j < n + k then g w (j - n) else f j
theorem apk_0 {g : Int32 → Nat → Int32} {f : Nat → Int32} {n : Nat} {w : Int32} {j : Nat} : apk g f n w 0 j = f j := by
  unfold apk
  rw [if_neg (by omega)]
theorem apk_s {g : Int32 → Nat → Int32} {f f' : Nat → Int32} {n : Nat} {w : Int32} {k j : Nat} (h : ∀ j, f' j = apk g f n w k j) : upd f' (n + k) (g w k) j = apk g f n w (k + 1) j := by
  by_cases c : j = n + k
  · subst c
    rw [pk_us]
    unfold apk
    rw [if_pos ⟨by omega, by omega⟩, show n + k - n = k by omega]
  · rw [pk_un c, h]
    unfold apk
    by_cases c2 : n ≤ j ∧ j < n + k
    · rw [if_pos c2, if_pos (by omega)]
    · rw [if_neg c2, if_neg (by omega)]
def apM (mm : MM) (n : Nat) (w : Int32) : MM := wI (wR mm 6 (apk bx (mm.1 6) n w 4)) 5 4 (nI (n + 4))
def tyM (mm : MM) (n : Nat) (w : Int32) : MM := wI (wR mm 157 (apk by8 (mm.1 157) n w 4)) 156 0 (nI (n + 4))
theorem ap_mm {m m' : MM} {a b j : Nat} {f : Nat → Int32} {v : Int32} (hab : a ≠ b) (h1 : m'.2 = m.2) (h2 : ∀ x, x ≠ a → x ≠ b → m'.1 x = m.1 x) (h3 : ∀ i, m'.1 b i = f i) (h4 : ∀ i, m'.1 a i = upd (m.1 a) j v i) : m' = wI (wR m b f) a j v := by
  refine Prod.ext (funext fun x => ?_) h1
  by_cases c : x = a
  · subst c
    rw [wI_k, wR_o hab]
    exact funext h4
  · rw [wI_o c]
    by_cases c2 : x = b
    · subst c2
      rw [wR_k]
      exact funext h3
    · rw [wR_o c2]
      exact h2 x c c2
theorem append_ok {mm : MM} {n : Nat} {w : Int32} (e : mm.1 5 4 = nI n) (hn : n + 4 ≤ 2000) : Runs e_X7_append [.ref 5, .int w] mm (fun r m => r = .null ∧ m = apM mm n w) := by
  have nx : ∀ k, k < 4 → (if k = 4 then (-8 : Int32) else nI (24 - 8 * k)) + (-8) = (if k + 1 = 4 then (-8 : Int32) else nI (24 - 8 * (k + 1))) := by decide +kernel
  apply b_X7_append
  refine for_up (Y := e_X7_append) (pc := 3) (fun k => [(0, .ref 5), (1, .int w), (2, .int (if k = 4 then (-8 : Int32) else nI (24 - 8 * k)))]) (fun k m' => m'.2 = mm.2 ∧ (∀ x, x ≠ 5 → x ≠ 6 → m'.1 x = mm.1 x) ∧ (∀ j, m'.1 6 j = apk bx (mm.1 6) n w k j) ∧ ∀ j, m'.1 5 j = upd (mm.1 5) 4 (nI (n + k)) j) 4 ?_ ?_ 0 mm (by omega) ⟨rfl, fun _ _ _ => rfl, fun j => apk_0.symm, fun j => ?_⟩
  · rintro m' ⟨h1, h2, h3, h4⟩
    apply b_X7_append_3
    exact ⟨fun _ => ⟨rfl, ap_mm (by decide) h1 h2 h3 h4⟩, fun z => absurd (by decide) z⟩
  · rintro k m' hk ⟨h1, h2, h3, h4⟩ hg
    have hl : m'.1 5 4 = nI (n + k) := by rw [h4, pk_us]
    apply b_X7_append_3
    have hx := nx k hk
    rw [hx, if_neg (show ¬ k = 4 by omega), hl]
    refine ⟨fun z => absurd z (nI_pos (by omega)), fun _ => ⟨fun z => absurd z (nI_pos (by omega)), fun _ => ⟨fun z => absurd (show nI 2000 ≤ nI (n + k) from z) (nI_ge (by omega) (by omega)), fun _ => ⟨vp_in_nI (by omega) (by omega), ?_⟩⟩⟩⟩
    rw [nI_clamp (by omega)]
    refine hg _ ⟨h1, fun x c1 c2 => ?_, fun j => ?_, fun j => ?_⟩
    · rw [wI_o c1, wI_o c2]; exact h2 x c1 c2
    · rw [wI_o (by decide), wI_k]
      exact apk_s (g := bx) h3
    · rw [wI_k, wI_o (by decide), hl, nI_1]
      by_cases c : j = 4
      · subst c; rw [pk_us, pk_us]; rfl
      · rw [pk_un c, pk_un c, h4, pk_un c]
  · by_cases c : j = 4
    · subst c; rw [pk_us]; exact e
    · rw [pk_un c]
theorem typed_ok {mm : MM} {n : Nat} {w : Int32} (e : mm.1 156 0 = nI n) (hn : n + 4 ≤ 2000) : Runs e_X12_typed [.ref 156, .int w] mm (fun r m => r = .null ∧ m = tyM mm n w) := by
  apply b_X12_typed
  refine for_up (Y := e_X12_typed) (pc := 2) (fun k => [(0, .ref 156), (1, .int w), (2, .int (nI k))]) (fun k m' => m'.2 = mm.2 ∧ (∀ x, x ≠ 156 → x ≠ 157 → m'.1 x = mm.1 x) ∧ (∀ j, m'.1 157 j = apk by8 (mm.1 157) n w k j) ∧ ∀ j, m'.1 156 j = upd (mm.1 156) 0 (nI (n + k)) j) 4 ?_ ?_ 0 mm (by omega) ⟨rfl, fun _ _ _ => rfl, fun j => apk_0.symm, fun j => ?_⟩
  · rintro m' ⟨h1, h2, h3, h4⟩
    apply b_X12_typed_2
    exact ⟨fun _ => ⟨rfl, ap_mm (by decide) h1 h2 h3 h4⟩, fun z => absurd (by decide) z⟩
  · rintro k m' hk ⟨h1, h2, h3, h4⟩ hg
    have hl : m'.1 156 0 = nI (n + k) := by rw [h4, pk_us]
    apply b_X12_typed_2
    rw [hl, nI_clamp (by omega)]
    refine ⟨fun z => absurd (show nI 4 ≤ nI k from z) (nI_ge (by omega) (by omega)), fun _ => ⟨vp_in_nI (by omega) (by omega), ?_⟩⟩
    rw [nI_1 k]
    refine hg _ ⟨h1, fun x c1 c2 => ?_, fun j => ?_, fun j => ?_⟩
    · rw [wI_o c1, wI_o c2]; exact h2 x c1 c2
    · rw [wI_o (by decide), wI_k]
      exact apk_s (g := by8) h3
    · rw [wI_k, wI_o (by decide), hl, nI_1]
      by_cases c : j = 0
      · subst c; rw [pk_us, pk_us]; rfl
      · rw [pk_un c, pk_un c, h4, pk_un c]
  · by_cases c : j = 0
    · subst c; rw [pk_us]; exact e
    · rw [pk_un c]
theorem Kq.tyM {mm m : MM} (h : Kq mm m) (n : Nat) (w : Int32) : Kq (tyM mm n w) (tyM m n w) := by
  have e : m.1 157 = mm.1 157 := h.r157
  show Kp kq (wI (wR mm 157 (apk by8 (mm.1 157) n w 4)) 156 0 (nI (n + 4))) (wI (wR m 157 (apk by8 (m.1 157) n w 4)) 156 0 (nI (n + 4)))
  rw [e]
  exact (h.bR _ _).bI _ _ _
theorem tyM_2 (m : MM) (n : Nat) (w : Int32) : (tyM m n w).2 = m.2 := rfl
theorem apM_2 (m : MM) (n : Nat) (w : Int32) : (apM m n w).2 = m.2 := rfl
theorem st_feed (a b d e f : Int32) : StepOK RR e_X11_feed e_X12_feed [.int a, .int b, .int d, .int e, .int f] := by
  apply step_c
  rintro mm ⟨t, s, H, O, S, Qn, W, C, J, F, B, ht, hs, hr, hb, hl⟩
  obtain ⟨z1, z2, z3, z4, z5, z6, z7, z8, z9⟩ := hb.sz
  obtain ⟨n1, n2, n3, n4, n5, n6, n7, n8, n9⟩ := hb.nm
  obtain ⟨c1, c2, c3, c4, c5, c6, c7, c8, c9, c10⟩ := hb.nc
  have rf := Kp.rf (kp := kq) mm
  have hs' : s = 24 ∨ s = 114 := hs
  have ht' : t = 10 ∨ t = 100 := ht
  have hR : RR mm := ⟨t, s, H, O, S, Qn, W, C, J, F, B, ht, hs, hr, hb, hl⟩
  obtain ⟨n, y1, y2, y3, y4⟩ := hb.2.2.2.2.2.1
  by_cases h : n ≤ 1980
  · refine ⟨.int (nI (n + 20)), apM (apM (apM (apM (apM mm n a) (n + 4) b) (n + 8) d) (n + 12) e) (n + 16) f, tyM (tyM (tyM (tyM (tyM (apM (apM (apM (apM (apM mm n a) (n + 4) b) (n + 8) d) (n + 12) e) (n + 16) f) n a) (n + 4) b) (n + 8) d) (n + 12) e) (n + 16) f, ?_, fun m k => ?_, ?_⟩
    · apply b_X11_feed
      rw [y2]
      refine ⟨fun _ => ?_, fun z => absurd (show nI n ≤ nI 1980 from nI_le h (by omega)) z⟩
      refine vcall (append_ok y2 (by omega)) ?_
      rintro m1 rfl
      refine vcall (append_ok (n := n + 4) (by unfold apM; rw [wI_k, pk_us]) (by omega)) ?_
      rintro m1 rfl
      refine vcall (append_ok (n := n + 8) (by unfold apM; rw [wI_k, pk_us]) (by omega)) ?_
      rintro m1 rfl
      refine vcall (append_ok (n := n + 12) (by unfold apM; rw [wI_k, pk_us]) (by omega)) ?_
      rintro m1 rfl
      refine vcall (append_ok (n := n + 16) (by unfold apM; rw [wI_k, pk_us]) (by omega)) ?_
      rintro m1 rfl
      refine ⟨?_, Kp.rf _⟩
      unfold apM
      rw [wI_k, pk_us]
    · have y5 : m.1 156 0 = nI n := by
        rw [k.g 156 0 rfl]
        unfold apM
        simp (disch := omega) only [s_wIo, s_wRo]
        exact y3
      apply b_X12_feed
      rw [y5]
      refine ⟨fun _ => ?_, fun z => absurd (show nI n + nI 20 ≤ nI 2000 by rw [nI_add]; exact nI_le (by omega) (by omega)) z⟩
      refine vcall (typed_ok y5 (by omega)) ?_
      rintro m1 rfl
      refine vcall (typed_ok (n := n + 4) (by unfold tyM; rw [wI_k, pk_us]) (by omega)) ?_
      rintro m1 rfl
      refine vcall (typed_ok (n := n + 8) (by unfold tyM; rw [wI_k, pk_us]) (by omega)) ?_
      rintro m1 rfl
      refine vcall (typed_ok (n := n + 12) (by unfold tyM; rw [wI_k, pk_us]) (by omega)) ?_
      rintro m1 rfl
      refine vcall (typed_ok (n := n + 16) (by unfold tyM; rw [wI_k, pk_us]) (by omega)) ?_
      rintro m1 rfl
      refine ⟨?_, ((((k.tyM _ _).tyM _ _).tyM _ _).tyM _ _).tyM _ _⟩
      unfold tyM
      rw [wI_k, pk_us]
    · have hx : ∀ x, x ≠ 5 → x ≠ 6 → x ≠ 156 → x ≠ 157 → (tyM (tyM (tyM (tyM (tyM (apM (apM (apM (apM (apM mm n a) (n + 4) b) (n + 8) d) (n + 12) e) (n + 16) f) n a) (n + 4) b) (n + 8) d) (n + 12) e) (n + 16) f).1 x = mm.1 x := by
        intro x h1 h2 h3 h4
        unfold tyM apM
        simp (disch := omega) only [s_wIo, s_wRo]
      have h6 : (tyM (tyM (tyM (tyM (tyM (apM (apM (apM (apM (apM mm n a) (n + 4) b) (n + 8) d) (n + 12) e) (n + 16) f) n a) (n + 4) b) (n + 8) d) (n + 12) e) (n + 16) f).1 6 = apk bx (apk bx (apk bx (apk bx (apk bx (mm.1 6) n a 4) (n + 4) b 4) (n + 8) d 4) (n + 12) e 4) (n + 16) f 4 := by
        unfold tyM apM
        simp (disch := omega) only [s_wIo, s_wRo, s_wRk]
      have h157 : (tyM (tyM (tyM (tyM (tyM (apM (apM (apM (apM (apM mm n a) (n + 4) b) (n + 8) d) (n + 12) e) (n + 16) f) n a) (n + 4) b) (n + 8) d) (n + 12) e) (n + 16) f).1 157 = apk by8 (apk by8 (apk by8 (apk by8 (apk by8 (mm.1 157) n a 4) (n + 4) b 4) (n + 8) d 4) (n + 12) e 4) (n + 16) f 4 := by
        unfold tyM apM
        simp (disch := omega) only [s_wIo, s_wRo, s_wRk]
      have h5 : (tyM (tyM (tyM (tyM (tyM (apM (apM (apM (apM (apM mm n a) (n + 4) b) (n + 8) d) (n + 12) e) (n + 16) f) n a) (n + 4) b) (n + 8) d) (n + 12) e) (n + 16) f).1 5 4 = nI (n + 20) := by
        unfold tyM apM
        simp (disch := omega) only [s_wIo, s_wRo, s_wIk, pk_us]
      have h156 : (tyM (tyM (tyM (tyM (tyM (apM (apM (apM (apM (apM mm n a) (n + 4) b) (n + 8) d) (n + 12) e) (n + 16) f) n a) (n + 4) b) (n + 8) d) (n + 12) e) (n + 16) f).1 156 0 = nI (n + 20) := by
        unfold tyM apM
        simp (disch := omega) only [s_wIo, s_wRo, s_wIk, pk_us]
      have h156' : ∀ j, j ≠ 0 → (tyM (tyM (tyM (tyM (tyM (apM (apM (apM (apM (apM mm n a) (n + 4) b) (n + 8) d) (n + 12) e) (n + 16) f) n a) (n + 4) b) (n + 8) d) (n + 12) e) (n + 16) f).1 156 j = mm.1 156 j := by
        intro j hj
        unfold tyM apM
        simp (disch := omega) only [s_wIo, s_wRo, s_wIk, pk_un]
      have h2 : (tyM (tyM (tyM (tyM (tyM (apM (apM (apM (apM (apM mm n a) (n + 4) b) (n + 8) d) (n + 12) e) (n + 16) f) n a) (n + 4) b) (n + 8) d) (n + 12) e) (n + 16) f).2.2 = mm.2.2 := by rw [tyM_2, tyM_2, tyM_2, tyM_2, tyM_2, apM_2, apM_2, apM_2, apM_2, apM_2]
      generalize (tyM (tyM (tyM (tyM (tyM (apM (apM (apM (apM (apM mm n a) (n + 4) b) (n + 8) d) (n + 12) e) (n + 16) f) n a) (n + 4) b) (n + 8) d) (n + 12) e) (n + 16) f) = m' at hx h6 h157 h5 h156 h156' h2 ⊢
      refine RR_out ht hs hr hb (lot_fr z5 (by rw [hx _ (by omega) (by omega) (by omega) (by omega)]) (by rw [hx _ (by omega) (by omega) (by omega) (by omega)]) (h156' _ (by omega)) (fun i _ => by rw [hx _ (by omega) (by omega) (by omega) (by omega)]) (fun i _ => hx _ (by omega) (by omega) (by omega) (by omega)) (fun i _ => hx _ (by omega) (by omega) (by omega) (by omega)) hl) h2 (fun x g1 g2 g3 g4 _ _ _ _ => hx x g1 g2 g3 g4) (row_fr (by rw [hx _ (by omega) (by omega) (by omega) (by omega)]) (h156' _ (by omega)) (hx _ (by omega) (by omega) (by omega) (by omega)) (hx _ (by omega) (by omega) (by omega) (by omega)) hb.2.2.2.2.1) ⟨n + 20, by omega, h5, h156, fun i hi => ?_⟩ (h156' _ (by omega))
      rw [h6, h157]
      have go : ∀ (f g : Nat → Int32) (n : Nat) (w : Int32) (i : Nat), ((∃ b : Nat, b < 256 ∧ g i = nI b) ∧ f i &&& 255 = g i) ∨ (n ≤ i ∧ i < n + 4) → (∃ b : Nat, b < 256 ∧ apk by8 g n w 4 i = nI b) ∧ apk bx f n w 4 i &&& 255 = apk by8 g n w 4 i := by
        intro f g n w i hh
        unfold apk
        by_cases z : n ≤ i ∧ i < n + 4
        · rw [if_pos z, if_pos z]
          exact ⟨by8_nI _ _, bx_by (by omega)⟩
        · rw [if_neg z, if_neg z]
          exact hh.resolve_right z
      by_cases q5 : n + 16 ≤ i
      · exact go _ _ _ _ _ (Or.inr (by omega))
      · refine go _ _ _ _ _ (Or.inl ?_)
        by_cases q4 : n + 12 ≤ i
        · exact go _ _ _ _ _ (Or.inr (by omega))
        · refine go _ _ _ _ _ (Or.inl ?_)
          by_cases q3 : n + 8 ≤ i
          · exact go _ _ _ _ _ (Or.inr (by omega))
          · refine go _ _ _ _ _ (Or.inl ?_)
            by_cases q2 : n + 4 ≤ i
            · exact go _ _ _ _ _ (Or.inr (by omega))
            · refine go _ _ _ _ _ (Or.inl ?_)
              by_cases q1 : n ≤ i
              · exact go _ _ _ _ _ (Or.inr (by omega))
              · exact go _ _ _ _ _ (Or.inl (y4 i (by omega)))
  · refine ⟨.int (-1), mm, mm, ?_, fun m k => ?_, hR⟩
    · apply b_X11_feed
      rw [y2]
      exact ⟨fun z => absurd (show nI n ≤ nI 1980 from z) (nI_ge (by omega) (by omega)), fun _ => ⟨rfl, rf⟩⟩
    · apply b_X12_feed
      rw [k.g 156 0 rfl, y3]
      refine ⟨fun z => absurd (show nI n + nI 20 ≤ nI 2000 from z) ?_, fun _ => ⟨rfl, k⟩⟩
      rw [nI_add]
      exact nI_ge (by omega) (by omega)

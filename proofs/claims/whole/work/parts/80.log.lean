/-! vote, mark, annul -/
def lX (mm : MM) (s n : Nat) (kd a b d : Int32) : MM := wI (wI (wI (wI (wI mm (s + 7 + 1) n kd) (s + 7 + 2) n a) (s + 7 + 3) n b) (s + 7 + 4) n d) (s + 7) 6 (nI (n + 1))
def lM (m : MM) (n : Nat) (kd a b d : Int32) : MM := wI (wI (wI (wI (wI m 163 (180 + 4 * n) kd) 163 (180 + 4 * n + 1) a) 163 (180 + 4 * n + 2) b) 163 (180 + 4 * n + 3) d) 163 2 (nI (n + 1))
theorem addC_ok {mm : MM} {s n : Nat} {kd a b d : Int32} (hs : isN s) (hn : n ≤ 60) (e2 : mm.1 (s + 7) 6 = nI n) : Runs e_X2_add [.ref (s + 7), .int kd, .int a, .int b, .int d] mm (fun r m => r = .int (if n = 60 then -1 else nI n) ∧ m = if n = 60 then mm else lX mm s n kd a b d) := by
  have hs' : s = 24 ∨ s = 114 := hs
  apply b_X2_add _ _ _ _ _ _ _ hs.s.at.logs
  by_cases h : n = 60
  · rw [if_pos h, if_pos h, e2, h]
    exact ⟨fun _ => ⟨rfl, rfl⟩, fun _ => ⟨fun z => absurd z (by decide), fun _ => ⟨rfl, rfl⟩⟩⟩
  · rw [if_neg h, if_neg h]
    simp (disch := omega) only [s_wIo, e2, nI_clamp, nI_1, s_wIk, pk_us]
    refine ⟨fun z => absurd z (nI_pos (by omega)), fun _ => ⟨fun _ => ⟨vp_in_nI (by omega) (by omega), vp_in_nI (by omega) (by omega), vp_in_nI (by omega) (by omega), vp_in_nI (by omega) (by omega), ?_, rfl⟩, fun z => absurd (show nI n < (60 : Int32) from nI_lt (b := 60) (by omega) (by omega)) z⟩⟩
    rw [nI_pred]
theorem logM_ok {m : MM} {n : Nat} {kd a b d : Int32} (hn : n ≤ 60) (e1 : m.1 163 2 = nI n) : Runs e_X12_log [.ref 156, .int kd, .int a, .int b, .int d] m (fun r m' => r = .int (if n = 60 then -1 else nI n) ∧ m' = if n = 60 then m else lM m n kd a b d) := by
  apply b_X12_log
  by_cases h : n = 60
  · rw [if_pos h, if_pos h, e1, h]
    exact ⟨fun z => absurd (by rfl) z, fun _ => ⟨rfl, rfl⟩⟩
  · rw [if_neg h, if_neg h, e1]
    have i1 : ((180 : Int32) + 4 * nI n).toNatClampNeg = 180 + 4 * n := by simp (disch := omega) only [lin, nI_add, pk_mul, s_sub, s_addneg, s_leT, s_leF, s_ltT, s_ltF, s_eqF, s_inT, s_neF, s_neF', s_neE, s_nleT, s_nleF, s_nltF, s_nltT, eq_self, nI_clamp, s_wIk, s_wIo, pk_us, pk_un, Nat.reduceAdd, Nat.reduceMul, Nat.reduceSub, Nat.zero_add, Nat.add_zero, Nat.mul_zero, true_implies, false_implies, implies_true, not_true, not_false, and_true, true_and, not_true_eq_false, not_false_eq_true, forall_const]
    have i2 : ((180 : Int32) + 4 * nI n + 1).toNatClampNeg = 180 + 4 * n + 1 := by simp (disch := omega) only [lin, nI_add, pk_mul, s_sub, s_addneg, s_leT, s_leF, s_ltT, s_ltF, s_eqF, s_inT, s_neF, s_neF', s_neE, s_nleT, s_nleF, s_nltF, s_nltT, eq_self, nI_clamp, s_wIk, s_wIo, pk_us, pk_un, Nat.reduceAdd, Nat.reduceMul, Nat.reduceSub, Nat.zero_add, Nat.add_zero, Nat.mul_zero, true_implies, false_implies, implies_true, not_true, not_false, and_true, true_and, not_true_eq_false, not_false_eq_true, forall_const]
    have i3 : ((180 : Int32) + 4 * nI n + 2).toNatClampNeg = 180 + 4 * n + 2 := by simp (disch := omega) only [lin, nI_add, pk_mul, s_sub, s_addneg, s_leT, s_leF, s_ltT, s_ltF, s_eqF, s_inT, s_neF, s_neF', s_neE, s_nleT, s_nleF, s_nltF, s_nltT, eq_self, nI_clamp, s_wIk, s_wIo, pk_us, pk_un, Nat.reduceAdd, Nat.reduceMul, Nat.reduceSub, Nat.zero_add, Nat.add_zero, Nat.mul_zero, true_implies, false_implies, implies_true, not_true, not_false, and_true, true_and, not_true_eq_false, not_false_eq_true, forall_const]
    have i4 : ((180 : Int32) + 4 * nI n + 3).toNatClampNeg = 180 + 4 * n + 3 := by simp (disch := omega) only [lin, nI_add, pk_mul, s_sub, s_addneg, s_leT, s_leF, s_ltT, s_ltF, s_eqF, s_inT, s_neF, s_neF', s_neE, s_nleT, s_nleF, s_nltF, s_nltT, eq_self, nI_clamp, s_wIk, s_wIo, pk_us, pk_un, Nat.reduceAdd, Nat.reduceMul, Nat.reduceSub, Nat.zero_add, Nat.add_zero, Nat.mul_zero, true_implies, false_implies, implies_true, not_true, not_false, and_true, true_and, not_true_eq_false, not_false_eq_true, forall_const]
    have v1 : vp_in ((180 : Int32) + 4 * nI n) 1260 := by simp (disch := omega) only [lin, nI_add, pk_mul, s_sub, s_addneg, s_leT, s_leF, s_ltT, s_ltF, s_eqF, s_inT, s_neF, s_neF', s_neE, s_nleT, s_nleF, s_nltF, s_nltT, eq_self, nI_clamp, s_wIk, s_wIo, pk_us, pk_un, Nat.reduceAdd, Nat.reduceMul, Nat.reduceSub, Nat.zero_add, Nat.add_zero, Nat.mul_zero, true_implies, false_implies, implies_true, not_true, not_false, and_true, true_and, not_true_eq_false, not_false_eq_true, forall_const]
    have v2 : vp_in ((180 : Int32) + 4 * nI n + 1) 1260 := by simp (disch := omega) only [lin, nI_add, pk_mul, s_sub, s_addneg, s_leT, s_leF, s_ltT, s_ltF, s_eqF, s_inT, s_neF, s_neF', s_neE, s_nleT, s_nleF, s_nltF, s_nltT, eq_self, nI_clamp, s_wIk, s_wIo, pk_us, pk_un, Nat.reduceAdd, Nat.reduceMul, Nat.reduceSub, Nat.zero_add, Nat.add_zero, Nat.mul_zero, true_implies, false_implies, implies_true, not_true, not_false, and_true, true_and, not_true_eq_false, not_false_eq_true, forall_const]
    have v3 : vp_in ((180 : Int32) + 4 * nI n + 2) 1260 := by simp (disch := omega) only [lin, nI_add, pk_mul, s_sub, s_addneg, s_leT, s_leF, s_ltT, s_ltF, s_eqF, s_inT, s_neF, s_neF', s_neE, s_nleT, s_nleF, s_nltF, s_nltT, eq_self, nI_clamp, s_wIk, s_wIo, pk_us, pk_un, Nat.reduceAdd, Nat.reduceMul, Nat.reduceSub, Nat.zero_add, Nat.add_zero, Nat.mul_zero, true_implies, false_implies, implies_true, not_true, not_false, and_true, true_and, not_true_eq_false, not_false_eq_true, forall_const]
    have v4 : vp_in ((180 : Int32) + 4 * nI n + 3) 1260 := by simp (disch := omega) only [lin, nI_add, pk_mul, s_sub, s_addneg, s_leT, s_leF, s_ltT, s_ltF, s_eqF, s_inT, s_neF, s_neF', s_neE, s_nleT, s_nleF, s_nltF, s_nltT, eq_self, nI_clamp, s_wIk, s_wIo, pk_us, pk_un, Nat.reduceAdd, Nat.reduceMul, Nat.reduceSub, Nat.zero_add, Nat.add_zero, Nat.mul_zero, true_implies, false_implies, implies_true, not_true, not_false, and_true, true_and, not_true_eq_false, not_false_eq_true, forall_const]
    rw [i1, i2, i3, i4]
    have em : (wI (wI (wI (wI m 163 (180 + 4 * n) kd) 163 (180 + 4 * n + 1) a) 163 (180 + 4 * n + 2) b) 163 (180 + 4 * n + 3) d).1 163 2 = nI n := by
      rw [wI_k, pk_un (by omega), wI_k, pk_un (by omega), wI_k, pk_un (by omega), wI_k, pk_un (by omega)]; exact e1
    rw [em, nI_1]
    refine ⟨fun _ => ⟨v1, v2, v3, v4, ?_, rfl⟩, fun z => absurd ((nI_eq (b := 60) (by omega) (by omega)).mp z) h⟩
    rw [wI_k, pk_us, nI_pred]
theorem RR_log {mm : MM} {t s H O S Qn W C J F B n : Nat} {kd a b d : Int32} (ht : isT t) (hs : isN s) (hr : RefR mm.2.2 t s) (hb : BodyR mm.1 t s H O S Qn W C J F B) (hl : LotR mm.1 W) (hn : n < 60) (e1 : mm.1 163 2 = nI n) (e3 : ∀ i, i < n → LogR mm.1 s 0 H O i)
    (hk : (kd = nI 0 ∧ (∃ x y z : Nat, x < H ∧ y < O ∧ z < H ∧ a = nI x ∧ b = nI y ∧ d = nI z)) ∨ (kd = nI 1 ∧ (∃ x y z : Nat, x < H ∧ y ≤ 99 ∧ z ≤ 99 ∧ a = nI x ∧ b = nI y ∧ d = nI z)) ∨ (kd = nI 2 ∧ ∃ k : Nat, k < n ∧ a = nI k)) : RR (lM (lX mm s n kd a b d) n kd a b d) := by
  have hs' : s = 24 ∨ s = 114 := hs
  have z5 := hb.sz.2.2.2.2.1
  have f : ∀ x, x ≠ s + 7 → x ≠ s + 8 → x ≠ s + 9 → x ≠ s + 10 → x ≠ s + 11 → x ≠ 163 → (lM (lX mm s n kd a b d) n kd a b d).1 x = mm.1 x := fun x h1 h2 h3 h4 h5 h6 => by
    unfold lM lX
    simp (disch := omega) only [s_wIo]
  have g1 : ∀ j, (lM (lX mm s n kd a b d) n kd a b d).1 163 j = upd (upd (upd (upd (upd (mm.1 163) (180 + 4 * n) kd) (180 + 4 * n + 1) a) (180 + 4 * n + 2) b) (180 + 4 * n + 3) d) 2 (nI (n + 1)) j := fun j => by
    unfold lM lX
    rw [wI_k, wI_k, wI_k, wI_k, wI_k]
    simp (disch := omega) only [s_wIo]
  have gg : ∀ j, j ≠ 2 → (j < 180 + 4 * n ∨ 180 + 4 * n + 4 ≤ j) → (lM (lX mm s n kd a b d) n kd a b d).1 163 j = mm.1 163 j := fun j h1 h2 => by
    rw [g1, pk_un h1, pk_un (by omega), pk_un (by omega), pk_un (by omega), pk_un (by omega)]
  have r7 : ∀ j, (lM (lX mm s n kd a b d) n kd a b d).1 (s + 7) j = upd (mm.1 (s + 7)) 6 (nI (n + 1)) j := fun j => by
    unfold lM lX
    simp (disch := omega) only [s_wIo, s_wIk]
  have r8 : ∀ j, (lM (lX mm s n kd a b d) n kd a b d).1 (s + 7 + 1) j = upd (mm.1 (s + 7 + 1)) n kd j := fun j => by
    unfold lM lX
    simp (disch := omega) only [s_wIo, s_wIk]
  have r9 : ∀ j, (lM (lX mm s n kd a b d) n kd a b d).1 (s + 7 + 2) j = upd (mm.1 (s + 7 + 2)) n a j := fun j => by
    unfold lM lX
    simp (disch := omega) only [s_wIo, s_wIk]
  have r10 : ∀ j, (lM (lX mm s n kd a b d) n kd a b d).1 (s + 7 + 3) j = upd (mm.1 (s + 7 + 3)) n b j := fun j => by
    unfold lM lX
    simp (disch := omega) only [s_wIo, s_wIk]
  have r11 : ∀ j, (lM (lX mm s n kd a b d) n kd a b d).1 (s + 7 + 4) j = upd (mm.1 (s + 7 + 4)) n d j := fun j => by
    unfold lM lX
    simp (disch := omega) only [s_wIo, s_wIk]
  obtain ⟨w1, w2, w3, w4, w5, w6, w7⟩ := hb.2.1
  refine RR_live ht hs hr hb hl rfl (fun x _ h => f x (by omega) (by omega) (by omega) (by omega) (by omega) h) (fun j _ => gg _ (by omega) (by omega)) ⟨lvM (by rw [f _ (by omega) (by omega) (by omega) (by omega) (by omega) (by omega)]) (gg _ (by omega) (by omega)) w1, lvH (f _ (by omega) (by omega) (by omega) (by omega) (by omega) (by omega)) (fun j _ _ => gg _ (by omega) (by omega)) w2, lvO (f _ (by omega) (by omega) (by omega) (by omega) (by omega) (by omega)) (fun j _ _ => gg _ (by omega) (by omega)) w3, lvD (fun j _ _ => gg _ (by omega) (by omega)) w4, lvW z5 (f _ (by omega) (by omega) (by omega) (by omega) (by omega) (by omega)) (fun j _ _ => gg _ (by omega) (by omega)) w5, lvK (by rw [f _ (by omega) (by omega) (by omega) (by omega) (by omega) (by omega)]) (fun i _ => ⟨by rw [f _ (by omega) (by omega) (by omega) (by omega) (by omega) (by omega)], by rw [f _ (by omega) (by omega) (by omega) (by omega) (by omega) (by omega)], by rw [f _ (by omega) (by omega) (by omega) (by omega) (by omega) (by omega)]⟩) (fun j _ => gg _ (by omega) (by omega)) w6, ⟨n + 1, by omega, ?_, by rw [r7, pk_us], fun i hi => ?_⟩⟩
  · rw [Nat.zero_add, g1, pk_us]
  · by_cases c : i = n
    · subst c
      unfold LogR
      rw [Nat.zero_add, Nat.zero_add, Nat.zero_add, Nat.zero_add, r8, r9, r10, r11, pk_us, pk_us, pk_us, pk_us]
      have h0 : (lM (lX mm s i kd a b d) i kd a b d).1 163 (180 + 4 * i) = kd := by rw [g1, pk_un (by omega), pk_un (by omega), pk_un (by omega), pk_un (by omega), pk_us]
      have h1 : (lM (lX mm s i kd a b d) i kd a b d).1 163 (180 + 4 * i + 1) = a := by rw [g1, pk_un (by omega), pk_un (by omega), pk_un (by omega), pk_us]
      have h2 : (lM (lX mm s i kd a b d) i kd a b d).1 163 (180 + 4 * i + 2) = b := by rw [g1, pk_un (by omega), pk_un (by omega), pk_us]
      have h3 : (lM (lX mm s i kd a b d) i kd a b d).1 163 (180 + 4 * i + 3) = d := by rw [g1, pk_un (by omega), pk_us]
      rw [h0, h1, h2, h3]
      exact ⟨⟨rfl, rfl, rfl, rfl⟩, hk⟩
    · exact log_fr (show i < 60 by omega) ⟨by rw [r8, pk_un c], by rw [r9, pk_un c], by rw [r10, pk_un c], by rw [r11, pk_un c]⟩ (fun j h1 h2 => gg _ (by omega) (by omega)) (e3 i (by omega))
theorem Kq.lM {mm m : MM} (h : Kq mm m) (n : Nat) (kd a b d : Int32) : Kq (lM mm n kd a b d) (lM m n kd a b d) := ((((h.bI _ _ _).bI _ _ _).bI _ _ _).bI _ _ _).bI _ _ _
/-- a LOG is told, if it may be -/
theorem told_ok {eX eM : ME} {as : List Value} {kd a b d : Int32} {mm : MM} {t s H O S Qn W C J F B : Nat} (ht : isT t) (hs : isN s) (hr : RefR mm.2.2 t s) (hb : BodyR mm.1 t s H O S Qn W C J F B) (hl : LotR mm.1 W)
    (hX : ∀ (V : Int32) (K : MM → Prop), Runs e_X2_add [.ref (s + 7), .int kd, .int a, .int b, .int d] mm (fun r m => r = .int V ∧ K m) → Runs eX (.ref 0 :: as) mm (fun r m => r = .int V ∧ K m))
    (hM : ∀ m, m.1 162 = mm.1 162 → m.1 163 = mm.1 163 → ∀ (V : Int32) (K : MM → Prop), Runs e_X12_log [.ref 156, .int kd, .int a, .int b, .int d] m (fun r m' => r = .int V ∧ K m') → Runs eM (.ref 156 :: as) m (fun r m' => r = .int V ∧ K m'))
    (hk : ∀ n, mm.1 163 2 = nI n → n ≤ 60 → (kd = nI 0 ∧ (∃ x y z : Nat, x < H ∧ y < O ∧ z < H ∧ a = nI x ∧ b = nI y ∧ d = nI z)) ∨ (kd = nI 1 ∧ (∃ x y z : Nat, x < H ∧ y ≤ 99 ∧ z ≤ 99 ∧ a = nI x ∧ b = nI y ∧ d = nI z)) ∨ (kd = nI 2 ∧ ∃ k : Nat, k < n ∧ a = nI k)) :
    ∃ (V : Value) (mX mM : MM), Runs eX (.ref 0 :: as) mm (fun r m => r = V ∧ Kq mX m) ∧ (∀ m, Kq mX m → Runs eM (.ref 156 :: as) m (fun r m' => r = V ∧ Kq mM m')) ∧ RR mM := by
  have hs' : s = 24 ∨ s = 114 := hs
  obtain ⟨n, hn, e1, e2, e3⟩ := hb.2.1.2.2.2.2.2.2
  have e1 : mm.1 163 2 = nI n := e1
  have hc := addC_ok (kd := kd) (a := a) (b := b) (d := d) hs hn e2
  by_cases h : n = 60
  · simp only [if_pos h] at hc
    refine ⟨.int (-1), mm, mm, ?_, fun m k => ?_, ⟨t, s, H, O, S, Qn, W, C, J, F, B, ht, hs, hr, hb, hl⟩⟩
    · refine hX _ _ (runs_to hc ?_)
      rintro r m ⟨rfl, rfl⟩
      exact ⟨rfl, Kp.rf _⟩
    · have hm := logM_ok (m := m) (kd := kd) (a := a) (b := b) (d := d) hn (by rw [k.r163]; exact e1)
      simp only [if_pos h] at hm
      refine hM m k.r162 k.r163 _ _ (runs_to hm ?_)
      rintro r m' ⟨rfl, rfl⟩
      exact ⟨rfl, k⟩
  · simp only [if_neg h] at hc
    refine ⟨.int (nI n), lX mm s n kd a b d, lM (lX mm s n kd a b d) n kd a b d, ?_, fun m k => ?_, RR_log ht hs hr hb hl (by omega) e1 e3 (hk n e1 hn)⟩
    · refine hX _ _ (runs_to hc ?_)
      rintro r m ⟨rfl, rfl⟩
      exact ⟨rfl, Kp.rf _⟩
    · have x2 : (lX mm s n kd a b d).1 162 = mm.1 162 := by unfold lX; simp (disch := omega) only [s_wIo]
      have x3 : (lX mm s n kd a b d).1 163 = mm.1 163 := by unfold lX; simp (disch := omega) only [s_wIo]
      have hm := logM_ok (m := m) (kd := kd) (a := a) (b := b) (d := d) hn (by rw [k.r163, x3]; exact e1)
      simp only [if_neg h] at hm
      refine hM m (k.r162.trans x2) (k.r163.trans x3) _ _ (runs_to hm ?_)
      rintro r m' ⟨rfl, rfl⟩
      exact ⟨rfl, k.lM _ _ _ _ _⟩
theorem st_vote (a b d : Int32) : StepOK RR e_X11_vote e_X12_vote [.int a, .int b, .int d] := by
  apply step_c
  rintro mm ⟨t, s, H, O, S, Qn, W, C, J, F, B, ht, hs, hr, hb, hl⟩
  obtain ⟨z1, z2, z3, z4, z5, z6, z7, z8, z9⟩ := hb.sz
  obtain ⟨n1, n2, n3, n4, n5, n6, n7, n8, n9⟩ := hb.nm
  obtain ⟨c1, c2, c3, c4, c5, c6, c7, c8, c9, c10⟩ := hb.nc
  have rf := Kp.rf (kp := kq) mm
  have hs' : s = 24 ∨ s = 114 := hs
  have ht' : t = 10 ∨ t = 100 := ht
  obtain ⟨o1, o2⟩ := isH_X (a := a) ht hr c1 z1
  obtain ⟨o3, o4⟩ := isO_X (a := b) ht hr c2 z2
  obtain ⟨o5, o6⟩ := isH_X (a := d) ht hr c1 z1
  have iM := fun (a : Int32) (m : MM) (e : m.1 162 = mm.1 162) => isH_M (m := m) (a := a) (by rw [e]; exact n1) z1
  have iO := fun (m : MM) (e : m.1 162 = mm.1 162) => isO_M (m := m) (a := b) (by rw [e]; exact n2) (by omega)
  by_cases h : inR a H ∧ inR b O ∧ inR d H
  · obtain ⟨h1, h2, h3⟩ := h
    refine told_ok (kd := nI 0) (a := a) (b := b) (d := d) ht hs hr hb hl (fun V K hx => ?_) (fun m e2 e3 V K hx => ?_) (fun n _ _ => ?_)
    · apply b_X11_vote
      rw [hr.2.1]
      exact ⟨o1, fun _ => ⟨o3, fun _ => ⟨o5, fun _ => ⟨hs.s.at, icall hx fun m k => ⟨rfl, k⟩⟩, fun z => absurd (o6.mpr h3) z⟩, fun z => absurd (o4.mpr h2) z⟩, fun z => absurd (o2.mpr h1) z⟩
    · apply b_X12_vote
      exact ⟨fun _ => ⟨fun _ => ⟨fun _ => icall hx fun m k => ⟨rfl, k⟩, fun z => absurd ((iM d m e2).mpr h3) z⟩, fun z => absurd ((iO m e2).mpr h2) z⟩, fun z => absurd ((iM a m e2).mpr h1) z⟩
    · obtain ⟨x, hx, rfl⟩ := h1
      obtain ⟨y, hy, rfl⟩ := h2
      obtain ⟨z, hz, rfl⟩ := h3
      exact Or.inl ⟨rfl, x, y, z, hx, hy, hz, rfl, rfl, rfl⟩
  · refine ⟨.int (-1), mm, mm, ?_, fun m k => ?_, ⟨t, s, H, O, S, Qn, W, C, J, F, B, ht, hs, hr, hb, hl⟩⟩
    · apply b_X11_vote
      exact ⟨o1, fun p1 => ⟨o3, fun p2 => ⟨o5, fun p3 => absurd ⟨o2.mp p1, o4.mp p2, o6.mp p3⟩ h, fun _ => ⟨rfl, rf⟩⟩, fun _ => ⟨rfl, rf⟩⟩, fun _ => ⟨rfl, rf⟩⟩
    · apply b_X12_vote
      exact ⟨fun p1 => ⟨fun p2 => ⟨fun p3 => absurd ⟨(iM a m k.r162).mp p1, (iO m k.r162).mp p2, (iM d m k.r162).mp p3⟩ h, fun _ => ⟨rfl, k⟩⟩, fun _ => ⟨rfl, k⟩⟩, fun _ => ⟨rfl, k⟩⟩
theorem st_mark (a b d : Int32) : StepOK RR e_X11_mark e_X12_mark [.int a, .int b, .int d] := by
  apply step_c
  rintro mm ⟨t, s, H, O, S, Qn, W, C, J, F, B, ht, hs, hr, hb, hl⟩
  obtain ⟨z1, z2, z3, z4, z5, z6, z7, z8, z9⟩ := hb.sz
  obtain ⟨n1, n2, n3, n4, n5, n6, n7, n8, n9⟩ := hb.nm
  obtain ⟨c1, c2, c3, c4, c5, c6, c7, c8, c9, c10⟩ := hb.nc
  have rf := Kp.rf (kp := kq) mm
  have hs' : s = 24 ∨ s = 114 := hs
  have ht' : t = 10 ∨ t = 100 := ht
  obtain ⟨o1, o2⟩ := isH_X (a := a) ht hr c1 z1
  have iM := fun (a : Int32) (m : MM) (e : m.1 162 = mm.1 162) => isH_M (m := m) (a := a) (by rw [e]; exact n1) z1
  by_cases h : inR a H ∧ inR b 100 ∧ inR d 100
  · obtain ⟨h1, h2, h3⟩ := h
    refine told_ok (kd := nI 1) (a := a) (b := b) (d := d) ht hs hr hb hl (fun V K hx => ?_) (fun m e2 e3 V K hx => ?_) (fun n _ _ => ?_)
    · apply b_X11_mark
      rw [hr.2.1]
      exact ⟨o1, fun _ => ⟨fun _ => ⟨fun _ => ⟨hs.s.at, icall hx fun m k => ⟨rfl, k⟩⟩, fun z => absurd ((w99_X _ _).mpr h3) z⟩, fun z => absurd ((w99_X _ _).mpr h2) z⟩, fun z => absurd (o2.mpr h1) z⟩
    · apply b_X12_mark
      exact ⟨fun _ => ⟨fun _ => ⟨fun _ => icall hx fun m k => ⟨rfl, k⟩, fun z => absurd ((isIn_M _ _).mpr h3) z⟩, fun z => absurd ((isIn_M _ _).mpr h2) z⟩, fun z => absurd ((iM a m e2).mpr h1) z⟩
    · obtain ⟨x, hx, rfl⟩ := h1
      obtain ⟨y, hy, rfl⟩ := h2
      obtain ⟨z, hz, rfl⟩ := h3
      exact Or.inr (Or.inl ⟨rfl, x, y, z, hx, by omega, by omega, rfl, rfl, rfl⟩)
  · refine ⟨.int (-1), mm, mm, ?_, fun m k => ?_, ⟨t, s, H, O, S, Qn, W, C, J, F, B, ht, hs, hr, hb, hl⟩⟩
    · apply b_X11_mark
      exact ⟨o1, fun p1 => ⟨fun p2 => ⟨fun p3 => absurd ⟨o2.mp p1, (w99_X _ _).mp p2, (w99_X _ _).mp p3⟩ h, fun _ => ⟨rfl, rf⟩⟩, fun _ => ⟨rfl, rf⟩⟩, fun _ => ⟨rfl, rf⟩⟩
    · apply b_X12_mark
      exact ⟨fun p1 => ⟨fun p2 => ⟨fun p3 => absurd ⟨(iM a m k.r162).mp p1, (isIn_M _ _).mp p2, (isIn_M _ _).mp p3⟩ h, fun _ => ⟨rfl, k⟩⟩, fun _ => ⟨rfl, k⟩⟩, fun _ => ⟨rfl, k⟩⟩
theorem st_annul (a : Int32) : StepOK RR e_X11_annul e_X12_annul [.int a] := by
  apply step_c
  rintro mm ⟨t, s, H, O, S, Qn, W, C, J, F, B, ht, hs, hr, hb, hl⟩
  obtain ⟨z1, z2, z3, z4, z5, z6, z7, z8, z9⟩ := hb.sz
  obtain ⟨n1, n2, n3, n4, n5, n6, n7, n8, n9⟩ := hb.nm
  obtain ⟨c1, c2, c3, c4, c5, c6, c7, c8, c9, c10⟩ := hb.nc
  have rf := Kp.rf (kp := kq) mm
  have hs' : s = 24 ∨ s = 114 := hs
  have ht' : t = 10 ∨ t = 100 := ht
  have hR : RR mm := ⟨t, s, H, O, S, Qn, W, C, J, F, B, ht, hs, hr, hb, hl⟩
  obtain ⟨n, hn, e1, e2, e3⟩ := hb.2.1.2.2.2.2.2.2
  have e1 : mm.1 163 2 = nI n := e1
  have iM : ∀ m : MM, m.1 163 2 = nI n → (p_X12_isIn m a 0 (m.1 163 2 - 1) ↔ inR a n) := by
    intro m e
    unfold p_X12_isIn
    rw [e]
    rcases Nat.eq_zero_or_pos n with h | h
    · subst h
      refine ⟨?_, fun ⟨j, hj, _⟩ => absurd hj (by omega)⟩
      rintro ⟨q1, q2⟩
      rw [Int32.lt_iff_toInt_lt] at q1 q2
      have z0 : (0 : Int32).toInt = 0 := by decide
      have z1 : (nI 0 - 1 : Int32).toInt = -1 := by decide
      rw [z0] at q1
      rw [z1] at q2
      omega
    · obtain ⟨k, rfl⟩ : ∃ k, n = k + 1 := ⟨n - 1, by omega⟩
      rw [nI_pred]
      exact inR_iff' (by omega)
  by_cases h : inR a n
  · obtain ⟨i, hi, rfl⟩ := id h
    have ic : (nI i).toNatClampNeg = i := nI_clamp (by omega)
    have iv : vp_in (nI i) 60 := vp_in_nI (by omega) (by omega)
    have i1 : ((180 : Int32) + 4 * nI i).toNatClampNeg = 180 + 4 * i := by simp (disch := omega) only [lin, nI_add, pk_mul, s_sub, s_addneg, s_leT, s_leF, s_ltT, s_ltF, s_eqF, s_inT, s_neF, s_neF', s_neE, s_nleT, s_nleF, s_nltF, s_nltT, eq_self, nI_clamp, s_wIk, s_wIo, pk_us, pk_un, Nat.reduceAdd, Nat.reduceMul, Nat.reduceSub, Nat.zero_add, Nat.add_zero, Nat.mul_zero, true_implies, false_implies, implies_true, not_true, not_false, and_true, true_and, not_true_eq_false, not_false_eq_true, forall_const]
    have v1 : vp_in ((180 : Int32) + 4 * nI i) 1260 := by simp (disch := omega) only [lin, nI_add, pk_mul, s_sub, s_addneg, s_leT, s_leF, s_ltT, s_ltF, s_eqF, s_inT, s_neF, s_neF', s_neE, s_nleT, s_nleF, s_nltF, s_nltT, eq_self, nI_clamp, s_wIk, s_wIo, pk_us, pk_un, Nat.reduceAdd, Nat.reduceMul, Nat.reduceSub, Nat.zero_add, Nat.add_zero, Nat.mul_zero, true_implies, false_implies, implies_true, not_true, not_false, and_true, true_and, not_true_eq_false, not_false_eq_true, forall_const]
    obtain ⟨q0, -⟩ := (e3 i hi).1
    rw [Nat.zero_add] at q0
    have q0 : mm.1 (s + 7 + 1) i = mm.1 163 (180 + 4 * i) := q0
    by_cases h2 : mm.1 163 (180 + 4 * i) = 2
    · refine ⟨.int (-1), mm, mm, ?_, fun m k => ?_, hR⟩
      · apply b_X11_annul
        rw [hr.2.1]
        refine ⟨hs.s.at, ?_, fun p => absurd (q0.trans h2) (by have := p.2.2; rwa [ic] at this), fun _ => ⟨rfl, rf⟩⟩
        unfold o_X2_canBeVoid
        exact ⟨fun _ => trivial, fun _ => ⟨fun _ => trivial, fun _ => ⟨iv, fun _ => trivial, fun _ => trivial⟩⟩⟩
      · apply b_X12_annul
        rw [i1]
        exact ⟨fun _ => ⟨v1, fun _ => ⟨rfl, k⟩, fun z => absurd (by rw [k.r163]; exact h2) z⟩, fun _ => ⟨rfl, k⟩⟩
    · refine told_ok (kd := nI 2) (a := nI i) (b := 0) (d := 0) ht hs hr hb hl (fun V K hx => ?_) (fun m e4 e5 V K hx => ?_) (fun n' en' hn' => ?_)
      · apply b_X11_annul
        rw [hr.2.1]
        refine ⟨hs.s.at, ?_, fun _ => ⟨hs.s.at, icall hx fun m k => ⟨rfl, k⟩⟩, fun z => absurd ?_ z⟩
        · unfold o_X2_canBeVoid
          exact ⟨fun _ => trivial, fun _ => ⟨fun _ => trivial, fun _ => ⟨iv, fun _ => trivial, fun _ => trivial⟩⟩⟩
        · unfold p_X2_canBeVoid
          rw [e2, ic]
          exact ⟨((inR_iff (n := n) (by omega)).mpr h).1, ((inR_iff (n := n) (by omega)).mpr h).2, fun z => h2 (q0 ▸ z)⟩
      · apply b_X12_annul
        rw [i1]
        exact ⟨fun _ => ⟨v1, fun z => absurd (by rwa [e5] at z) h2, fun _ => icall hx fun m k => ⟨rfl, k⟩⟩, fun z => absurd ((iM m (by rw [e5]; exact e1)).mpr h) z⟩
      · have en : n' = n := (nI_eq (by omega) (by omega)).mp (en'.symm.trans e1)
        exact Or.inr (Or.inr ⟨rfl, i, en ▸ hi, rfl⟩)
  · refine ⟨.int (-1), mm, mm, ?_, fun m k => ?_, hR⟩
    · apply b_X11_annul
      rw [hr.2.1]
      have hX : ¬ (¬ a < 0 ∧ ¬ mm.1 (s + 7) 6 ≤ a) := fun z => h ((inR_iff (by omega)).mp (by rwa [e2] at z))
      refine ⟨hs.s.at, ?_, fun p => absurd ⟨p.1, p.2.1⟩ hX, fun _ => ⟨rfl, rf⟩⟩
      unfold o_X2_canBeVoid
      exact ⟨fun _ => trivial, fun h1 => ⟨fun _ => trivial, fun h2 => absurd ⟨h1, h2⟩ hX⟩⟩
    · apply b_X12_annul
      exact ⟨fun p => absurd ((iM m (by rw [k.r163]; exact e1)).mp p) h, fun _ => ⟨rfl, k⟩⟩

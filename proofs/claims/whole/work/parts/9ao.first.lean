/-! reading: the first token of a statement, and what the model writes down -/
section
variable {x v : MM} {M a : Nat} {K ts : Nat → Nat}
/-- the model's row 162, as it is read -/
def tlV (v : MM) (j : Nat) (w : Int32) : MM := wI v 162 (210 + j) w
theorem tellM {j : Nat} (hj : j < 210) (w : Int32) (u : MM) : Runs e_X12_tell [.ref 156, .int (nI j), .int w] (catR u v) (fun r m => r = .null ∧ m = catR u (tlV v j w)) := by
  apply b_X12_tell
  rw [show (210 : Int32) = nI 210 from rfl, nI_add, nI_clamp (by omega), cr_w (by decide)]
  exact ⟨vp_in_nI (by omega) (by omega), rfl, rfl⟩
theorem DV.tl {j : Nat} {w : Int32} : DV v (tlV v j w) := (DV.rf v).r (by decide) _ _
theorem told_at {j : Nat} (hj : j < 210) (u : MM) : o_X12_told (catR u v) (nI j) ∧ v_X12_told (catR u v) (nI j) = v.1 162 (210 + j) := by
  unfold o_X12_told v_X12_told
  rw [show (210 : Int32) = nI 210 from rfl, nI_add, nI_clamp (by omega), cr_1 (by decide)]
  exact ⟨⟨vp_in_nI (by omega) (by omega), trivial⟩, rfl⟩
theorem nextM {q n most base step : Nat} (hq : q < 210) (hn : n ≤ most) (hm : most ≤ 16) (hb : base < 210) (hs : step ≤ 3) (h : v.1 162 (210 + q) = nI n) (u : MM) :
    (n < most → Runs e_X12_next [.ref 156, .int (nI q), .int (nI most), .int (nI base), .int (nI step)] (catR u v) (fun r m => r = .int (nI (base + step * n)) ∧ m = catR u (tlV v q (nI (n + 1))))) ∧
    (n = most → Runs e_X12_next [.ref 156, .int (nI q), .int (nI most), .int (nI base), .int (nI step)] (catR u v) (fun r m => r = .int (-1) ∧ m = catR u v)) := by
  obtain ⟨o1, e1⟩ := told_at (v := v) hq u
  rw [h] at e1
  refine ⟨fun c => ?_, fun c => ?_⟩
  · apply b_X12_next
    rw [e1, nI_1]
    refine ⟨o1, fun _ => ⟨o1, o1, vcall (tellM hq _ u) ?_⟩, fun z => ?_⟩
    · rintro m rfl
      rw [pk_mul, nI_add]
      exact ⟨rfl, rfl⟩
    · exact absurd ((nI_eq (by omega) (by omega)).mp z) (by omega)
  · apply b_X12_next
    rw [e1, c]
    exact ⟨o1, fun z => absurd rfl z, fun _ => ⟨rfl, rfl⟩⟩
/-- both at a statement's first token, of which there may be `most` -/
theorem firstJ {kd q n most base step : Nat} (h : RC x v M K ts a) (hk : K a = kd) (hkd : kd < 26) (hq : q < 210) (hn : n ≤ most) (hm : most ≤ 16) (hb : base < 210) (hs : step ≤ 3) (hc : v.1 162 (210 + q) = nI n) :
    ∃ (ok : Bool) (x' v' : MM), Runs e_X4_takeFirst [.ref 1, .int (nI kd), .int (nI n), .int (nI most)] x (fun r m => r = .int (bI ok) ∧ m = x') ∧ FX x x' ∧ x'.1 1 9 = x.1 1 9 ∧ JM ok x' v' M K ts (a + 1) ∧
      (ok = true → n < most ∧ a < 400 ∧ FV (tlV v q (nI (n + 1))) v') ∧ (v'.2 = v.2 ∧ (∀ r, r ≠ 156 → r ≠ 162 → v'.1 r = v.1 r) ∧ (∀ y, (y < 7 ∨ 11 < y ∧ y ≠ 29) → v'.1 156 y = v.1 156 y) ∧ ∀ j, j ≠ 210 + q → v'.1 162 j = v.1 162 j) ∧
      ∀ (u : MM) (A : Int32 → MM → Prop) (Q : Value → MM → Prop), (ok = true → A (nI (base + step * n)) (catR u v')) → (ok = false → Q (.int 0) (catR u v')) →
        ∃ Pm1 : Value → MM → Prop, Runs e_X12_next [.ref 156, .int (nI q), .int (nI most), .int (nI base), .int (nI step)] (catR u v) Pm1 ∧ ∀ (r1 : Int32) (m1 : MM), Pm1 (.int r1) m1 → ((0 ≤ r1 → (∃ Pm2 : Value → MM → Prop, Runs e_X12_pass [.ref 156] m1 Pm2 ∧ (∀ r m2, Pm2 r m2 → r = .int 1 ∨ r = .int 0) ∧ (∀ m2, Pm2 (.int 1) m2 → A r1 m2) ∧ (∀ m2, Pm2 (.int 0) m2 → Q (.int 0) m2))) ∧
          (¬ 0 ≤ r1 → (∃ Pm2 : Value → MM → Prop, Runs e_X12_wrong [.ref 156, .int 2] m1 Pm2 ∧ (∀ r m2, Pm2 r m2 → r = .int 1 ∨ r = .int 0) ∧ (∀ m2, Pm2 (.int 1) m2 → Q (.int 1) m2) ∧ (∀ m2, Pm2 (.int 0) m2 → Q (.int 0) m2)))) := by
  obtain ⟨nx1, nx2⟩ : (∀ u, n < most → _) ∧ (∀ u, n = most → _) := ⟨fun u => (nextM hq hn hm hb hs hc u).1, fun u => (nextM hq hn hm hb hs hc u).2⟩
  by_cases c : n < most
  · have hR : RC x (tlV v q (nI (n + 1))) M K ts a := h.mix (DX.rf x) DV.tl
    obtain ⟨ok1, x1, v1, t1, t2, -, t4, t5, t6, t7, t8⟩ := takeJ (JM.t hR) kd (by omega)
    obtain ⟨e1, e2⟩ := t2 rfl
    have mp : ∀ y, Runs e_X12_pass [.ref 156] (catR y (tlV v q (nI (n + 1)))) (fun r m => r = .int (bI ok1) ∧ m = catR y v1) := fun y => by rw [e1, e2]; exact mPass hR y hk
    refine ⟨ok1, x1, v1, ?_, t4, t6, t7, fun z => ⟨c, (t8 z).2.2.1, t5⟩, ⟨?_, fun r r1 r2 => ?_, fun y hy => ?_, fun j hj => ?_⟩, fun u A Q hA hQ => icall (nx1 u c) ?_⟩
    · apply b_X4_takeFirst
      refine ⟨fun z => absurd z (nI_pos (by omega)), fun _ => ⟨fun _ => bcall t1 (fun e m hm => ?_) (fun e m hm => ?_), fun z => absurd (nI_lt c (by omega)) z⟩⟩
      · subst e; exact ⟨rfl, hm⟩
      · subst e; exact ⟨rfl, hm⟩
    · rw [t5.1]; rfl
    · rw [t5.2.1 r r1]; exact wI_o r2
    · rw [t5.2.2 y hy]
      unfold tlV
      rw [wI_o (by decide)]
    · rw [t5.2.1 162 (by decide)]
      unfold tlV
      rw [wI_k, pk_un hj]
    · rintro m rfl
      refine ⟨fun _ => bcall (mp u) (fun e m hm => ?_) (fun e m hm => ?_), fun z => absurd (Int32.not_lt.mp (nI_pos ?_)) z⟩
      · subst hm; exact hA e
      · subst hm; exact hQ e
      · have : step * n ≤ 3 * 16 := Nat.mul_le_mul hs (by omega)
        omega
  · have e : n = most := by omega
    obtain ⟨f1, f2, f3, f4⟩ := failJ h (e := 2) (by decide) (by decide)
    refine ⟨false, _, _, ?_, FX.fl x _ _, f4, f3, (fun z => nomatch z), ⟨(FV.wr v _ _).1, fun r r1 _ => (FV.wr v _ _).2.1 r r1, fun y hy => (FV.wr v _ _).2.2 y (by omega), fun j _ => by rw [(FV.wr v _ _).2.1 162 (by decide)]⟩, fun u A Q hA hQ => icall (nx2 u e) ?_⟩
    · apply b_X4_takeFirst
      refine ⟨fun z => absurd z (nI_pos (by omega)), fun _ => ⟨fun z => absurd z (nI_nlt (by omega) (by omega)), fun _ => vcall f1 ?_⟩⟩
      rintro m rfl
      exact ⟨rfl, rfl⟩
    · rintro m rfl
      refine ⟨fun z => absurd z (by decide), fun _ => bcall (f2 u) (fun z => nomatch z) ?_⟩
      rintro - m rfl
      exact hQ rfl
end

/-! reading: a whole text, both sides -/
section
variable {x v : MM} {M a : Nat} {K ts : Nat → Nat}
theorem INV.w {rt rs j : Nat} {w : Int32} (h : INV x v M K rt rs a) (hj : j ≠ 25) : INV x (wI v 156 j w) M K rt rs a := by
  obtain ⟨H, O, I, S, Qn, W, F, B, sz, fr, f, ⟨d1, d2, d3, d4, ⟨s1, s2, s3, s4, s5, s6, s7⟩, hN⟩, hT⟩ := h
  have ht := d1.1.2
  have hrt : rt = 10 ∨ rt = 100 := ht
  have e : ∀ r, r ≠ 156 → (wI v 156 j w).1 r = v.1 r := fun r hr => wI_o hr
  have hcE : ∀ i, hc x (wI v 156 j w) 162 i = hc x v 162 i := fun i => by rw [hc_162, hc_162, e 162 (by decide)]
  have eo : opV (wI v 156 j w) = opV v := by unfold opV; rw [e 165 (by decide)]
  have ea : vaV (wI v 156 j w) = vaV v := by unfold vaV; rw [e 166 (by decide)]
  refine ⟨H, O, I, S, Qn, W, F, B, sz, fr, f, ⟨d1, d2, d3, by rw [e 162 (by decide)]; exact d4, ⟨s1, by rw [e 164 (by decide)]; exact s2, by rw [e 167 (by decide)]; exact s3, s4, s5, s6, s7⟩, hN.mix rfl rfl rfl (fun z => z) rfl (by rw [wI_k, pk_un (Ne.symm hj)]) (e 176 (by decide)) (e 177 (by decide))⟩, fun z => ?_⟩
  obtain ⟨C, J, hA, hB, hL, hR, hS⟩ := hT z
  exact ⟨C, J, hA.keep (fun i _ => hcE i) rfl rfl rfl, hB.keep (Nat.le_refl H) (fun i _ => hcE i) (fun _ _ => ⟨rfl, rfl⟩) (fun _ _ => rfl) (fun _ _ => ⟨rfl, rfl, rfl⟩) (fun _ _ => rfl), hL.keep (fun _ _ => rfl) (fun _ _ => by rw [eo, ea]; exact ⟨rfl, rfl⟩) (Nat.le_refl _) (Nat.le_refl _) (fun i _ _ => hcE i) (fun _ _ _ => rfl), hR.keep (fun _ _ => rfl) (Or.inr ⟨eo, ea, fun r _ _ => e r (by omega)⟩) (by omega) (Nat.le_refl _) (Nat.le_refl _) (Nat.le_refl _) (fun i _ => hcE i) (fun _ _ => rfl) (fun _ _ => rfl), hS.all (Nat.le_refl H) (Nat.le_refl O) (fun i _ _ => hcE i) (fun _ _ => rfl) (fun _ _ => ⟨by rw [e 162 (by decide)], rfl⟩) (fun _ _ => ⟨by rw [e 162 (by decide)], rfl⟩)⟩
/-- the class behind its loop -/
def TE (x : MM) (Q : Value → MM → Prop) : Prop := ((¬ (x.1 1 7) = 0 → (Q (.int (x.1 1 7)) x)) ∧ ((x.1 1 7) = 0 → (((x.1 1 9) = 0 → (Q (.int (x.1 1 7)) x)) ∧ (¬ (x.1 1 9) = 0 → (Q (.int ((wI (wI x 1 7 (x.1 1 9)) 1 8 ((wI x 1 7 (x.1 1 9)).1 1 10)).1 1 7)) (wI (wI x 1 7 (x.1 1 9)) 1 8 ((wI x 1 7 (x.1 1 9)).1 1 10)))))))
theorem text6_f {i : Nat} (hi : i ≤ 401) (h : RF x v) {Q : Value → MM → Prop} (hQ : TE x Q) : G e_X4_readText 6 [(0, .ref 1), (1, .int (nI i))] [] x Q := by
  apply b_X4_readText_6
  exact ⟨fun _ => hQ, fun _ => ⟨fun _ => hQ, fun z => absurd z h.ne⟩⟩
theorem text6_e {i : Nat} (h : RC x v M K ts a) (hk : K a = 40) (hi : i ≤ 401) {Q : Value → MM → Prop} (hQ : TE x Q) : G e_X4_readText 6 [(0, .ref 1), (1, .int (nI i))] [] x Q := by
  apply b_X4_readText_6
  refine ⟨fun _ => hQ, fun _ => ⟨fun _ => hQ, fun _ => ⟨(kindX h).1, fun _ => hQ, fun z => ?_⟩⟩⟩
  rw [(kindX h).2, hk] at z
  exact absurd rfl z
theorem par_e (h : RC x v M K ts a) (hk : K a = 40) (y : MM) {Q : Value → MM → Prop} (hQ : Q (.int 1) (catR y v)) : G e_X12_parses 10 [(0, .ref 156)] [] (catR y v) Q := by
  have m4 := h.1.2.2.1.2.1
  have ha := h.2.1
  obtain ⟨e158, -⟩ := h.1.cat y a h.2.1
  have e7 : (catR y v).1 156 7 = nI a := by rw [cr_1 (by decide)]; exact h.2.2.2.1
  apply b_X12_parses_10
  rw [e7, nI_clamp (by omega), e158, hk]
  exact ⟨vp_in_nI (by omega) (by omega), fun _ => hQ, fun z => absurd rfl z⟩
theorem par_g (h : RC x v M K ts a) (hk : ¬ K a = 40) (y : MM) {Q : Value → MM → Prop} (hQ : (∃ Pm1 : Value → MM → Prop, Runs e_X12_tellOne [.ref 156] (catR y v) Pm1 ∧ (∀ r m1, Pm1 r m1 → r = .int 1 ∨ r = .int 0) ∧ (∀ m1, Pm1 (.int 1) m1 → (o_X12_isSign m1 (59 : Int32) ∧ ((p_X12_isSign m1 (59 : Int32) → (∃ Pm2 : Value → MM → Prop, Runs e_X12_pass [.ref 156] m1 Pm2 ∧ (∀ r m2, Pm2 r m2 → r = .int 1 ∨ r = .int 0) ∧ (∀ m2, Pm2 (.int 1) m2 → (G e_X12_parses 10 [(0, .ref 156)] [] m2 Q)) ∧ (∀ m2, Pm2 (.int 0) m2 → (Q (.int (0 : Int32)) m2)))) ∧ (¬ p_X12_isSign m1 (59 : Int32) → (∃ Pm2 : Value → MM → Prop, Runs e_X12_wrong [.ref 156, .int (1 : Int32)] m1 Pm2 ∧ (∀ r m2, Pm2 r m2 → r = .int 1 ∨ r = .int 0) ∧ (∀ m2, Pm2 (.int 1) m2 → (Q (.int (1 : Int32)) m2)) ∧ (∀ m2, Pm2 (.int 0) m2 → (Q (.int (0 : Int32)) m2))))))) ∧ (∀ m1, Pm1 (.int 0) m1 → (Q (.int (0 : Int32)) m1)))) : G e_X12_parses 10 [(0, .ref 156)] [] (catR y v) Q := by
  have m4 := h.1.2.2.1.2.1
  have ha := h.2.1
  have h41 := (h.1.2.2.2.1 a h.2.1).1
  obtain ⟨e158, -⟩ := h.1.cat y a h.2.1
  have e7 : (catR y v).1 156 7 = nI a := by rw [cr_1 (by decide)]; exact h.2.2.2.1
  obtain ⟨-, -, k4, -, -⟩ := k_int (K a) (by omega)
  apply b_X12_parses_10
  rw [e7, nI_clamp (by omega), e158]
  refine ⟨vp_in_nI (by omega) (by omega), fun z => ?_, fun _ => hQ⟩
  have hd : ∀ k : Nat, k < 42 → mS k ≤ 5 := by decide
  have := hd (K a) (by omega)
  exact absurd (k4.mp ((nI_eq (b := 4) (by omega) (by omega)).mp z)) hk
theorem textL {rt rs : Nat} : ∀ (d a : Nat) (x v : MM) (i : Nat), 402 ≤ a + d → RC x v M K ts a → INV x v M K rt rs a → i ≤ a →
    ∃ (x' v' : MM) (b : Bool), XE rt rs x x' ∧ VF v v' ∧ (∀ Q : Value → MM → Prop, TE x' Q → G e_X4_readText 6 [(0, .ref 1), (1, .int (nI i))] [] x Q) ∧ (∀ (y : MM) (Q : Value → MM → Prop), Q (.int (bI b)) (catR y v') → G e_X12_parses 10 [(0, .ref 156)] [] (catR y v) Q) ∧
      ((b = false ∧ RF x' v') ∨ (b = true ∧ ∃ a', RC x' v' M K ts a' ∧ INV x' v' M K rt rs a')) := by
  intro d
  induction d with
  | zero =>
    intro a x v i hd h
    have m4 := h.1.2.2.1.2.1
    have ha := h.2.1
    omega
  | succ d ih =>
    intro a x v i hd h hI hi
    have m4 := h.1.2.2.1.2.1
    have ha := h.2.1
    by_cases hk : K a = 40
    · exact ⟨x, v, true, XE.rf _ _ x, VF.rf v, fun Q hQ => text6_e h hk (by omega) hQ, fun y Q hQ => par_e h hk y hQ, Or.inr ⟨rfl, a, h, hI⟩⟩
    · obtain ⟨x1, v1, c1, hx1, hv1, hr⟩ := oneS h hI (i := i) (by omega) hk
      rcases hr with ⟨g1, g2⟩ | ⟨g1, a', ok, se, ha', hI'⟩
      · refine ⟨x1, v1, false, hx1, hv1, fun Q hQ => c1 Q (text6_f (by omega) (g1.2.1 rfl) hQ), fun y Q hQ => par_g h hk y (bcall (g2 y) (fun z => nomatch z) ?_), Or.inl ⟨rfl, g1.2.1 rfl⟩⟩
        rintro - m rfl
        exact hQ
      · obtain ⟨⟨xh, hR⟩, hok, hJ⟩ := se
        have haM := hR.2.1
        -- the semicolon, on the model's side
        have ms : ∀ (y : MM) (Q : Value → MM → Prop), (ok = true → G e_X12_parses 10 [(0, .ref 156)] [] (catR y (tkV v1 ts a' (tkE K a' (decide (K a' = 28))))) Q) → (ok = false → Q (.int 0) (catR y (tkV v1 ts a' (tkE K a' (decide (K a' = 28)))))) → G e_X12_parses 10 [(0, .ref 156)] [] (catR y v) Q := fun y Q q1 q2 => by
          refine par_g h hk y (bcall (g1 y) ?_ (fun z => nomatch z))
          rintro - m rfl
          obtain ⟨w1, w2⟩ := signM hR y (k := 28) (by decide)
          refine ⟨w1, fun p => ?_, fun np => ?_⟩
          · have mp := mPass hR y (w2.mp p)
            rw [← hok] at mp
            refine bcall mp (fun z m e => ?_) (fun z m e => ?_)
            · subst e; exact q1 z
            · subst e; exact q2 z
          · have hk2 : ¬ K a' = 28 := fun w => np (w2.mpr w)
            have mp := mWrong hR y hk2
            rw [← hok] at mp
            refine bcall mp (fun z m e => ?_) (fun z m e => ?_)
            · rw [z] at hok
              exact absurd (of_decide_eq_true (tkE_0.mp (of_decide_eq_true hok.symm)).1) hk2
            · subst e; exact q2 z
        have vt : VF v1 (tkV v1 ts a' (tkE K a' (decide (K a' = 28)))) := (FV.tk _ _ _ _).me
        cases ok with
        | false =>
          exact ⟨x1, _, false, hx1, hv1.tr vt, fun Q hQ => c1 Q (text6_f (by omega) (hJ.2.1 rfl) hQ), fun y Q hQ => ms y Q (fun z => nomatch z) fun _ => hQ, Or.inl ⟨rfl, hJ.2.1 rfl⟩⟩
        | true =>
          have hR1 := hJ.1 rfl
          have e0 : tkE K a' (decide (K a' = 28)) = 0 := of_decide_eq_true hok.symm
          have hI1 : INV x1 (tkV v1 ts a' (tkE K a' (decide (K a' = 28)))) M K rt rs (a' + 1) := by
            unfold tkV
            rw [if_pos e0]
            exact (hI' rfl).w (by decide)
          obtain ⟨x2, v2, b, w1, w2, w3, w4, w5⟩ := ih (a' + 1) x1 _ (i + 1) (by omega) hR1 hI1 (by omega)
          exact ⟨x2, v2, b, hx1.tr w1, (hv1.tr vt).tr w2, fun Q hQ => c1 Q (w3 Q hQ), fun y Q hQ => ms y Q (fun _ => w4 y Q hQ) (fun z => nomatch z), w5⟩
end

/-! reading: one statement, both sides -/
section
variable {x v : MM} {M a : Nat} {K ts : Nat → Nat}
def OneR (x v : MM) (M : Nat) (K ts : Nat → Nat) (rt rs a i : Nat) : Prop := ∃ x1 v1 : MM, (∀ Q : Value → MM → Prop, G e_X4_readText 6 [(0, .ref 1), (1, .int (nI (i + 1)))] [] x1 Q → G e_X4_readText 6 [(0, .ref 1), (1, .int (nI i))] [] x Q) ∧ XE rt rs x x1 ∧ VF v v1 ∧
  ((JM false x1 v1 M K ts 0 ∧ ∀ y, Runs e_X12_tellOne [.ref 156] (catR y v) (fun r m => r = .int (bI false) ∧ m = catR y v1)) ∨
   ((∀ y, Runs e_X12_tellOne [.ref 156] (catR y v) (fun r m => r = .int (bI true) ∧ m = catR y v1)) ∧ ∃ (a' : Nat) (ok : Bool), SE x1 v1 M K ts a' ok ∧ a + 1 ≤ a' ∧ (ok = true → INV x1 v1 M K rt rs (a' + 1))))
theorem text6 {i k : Nat} (h : RC x v M K ts a) (hi : i ≤ 400) (hk : K a = k) (h40 : ¬ k = 40) {Q : Value → MM → Prop} (hQ : ((nI k = (0 : Int32) → (∃ Pm1 : Value → MM → Prop, Runs e_X4_readHouse [.ref 1] x Pm1 ∧ ∀ m1, Pm1 .null m1 → (G e_X4_readText 6 [(0, .ref 1), (1, .int (nI (i + 1)))] [] m1 Q))) ∧ (¬ nI k = (0 : Int32) → ((nI k = (1 : Int32) → (∃ Pm1 : Value → MM → Prop, Runs e_X4_readOffice [.ref 1] x Pm1 ∧ ∀ m1, Pm1 .null m1 → (G e_X4_readText 6 [(0, .ref 1), (1, .int (nI (i + 1)))] [] m1 Q))) ∧ (¬ nI k = (1 : Int32) → ((nI k = (2 : Int32) → (∃ Pm1 : Value → MM → Prop, Runs e_X4_readIn [.ref 1] x Pm1 ∧ ∀ m1, Pm1 .null m1 → (G e_X4_readText 6 [(0, .ref 1), (1, .int (nI (i + 1)))] [] m1 Q))) ∧ (¬ nI k = (2 : Int32) → ((nI k = (3 : Int32) → (∃ Pm1 : Value → MM → Prop, Runs e_X4_readStair [.ref 1] x Pm1 ∧ ∀ m1, Pm1 .null m1 → (G e_X4_readText 6 [(0, .ref 1), (1, .int (nI (i + 1)))] [] m1 Q))) ∧ (¬ nI k = (3 : Int32) → ((nI k = (4 : Int32) → (∃ Pm1 : Value → MM → Prop, Runs e_X4_readQuay [.ref 1] x Pm1 ∧ ∀ m1, Pm1 .null m1 → (G e_X4_readText 6 [(0, .ref 1), (1, .int (nI (i + 1)))] [] m1 Q))) ∧ (¬ nI k = (4 : Int32) → ((nI k = (5 : Int32) → (∃ Pm1 : Value → MM → Prop, Runs e_X4_readWood [.ref 1] x Pm1 ∧ ∀ m1, Pm1 .null m1 → (G e_X4_readText 6 [(0, .ref 1), (1, .int (nI (i + 1)))] [] m1 Q))) ∧ (¬ nI k = (5 : Int32) → ((nI k = (6 : Int32) → (AtTown (x.2.2 1 4) ∧ (∃ Pm2 : Value → MM → Prop, Runs e_X4_readLone [.ref 1, .int (nI k), .int (9 : Int32)] x Pm2 ∧ ∀ (r2 : Int32) (m2 : MM), Pm2 (.int r2) m2 → (G e_X4_readText 6 [(0, .ref 1), (1, .int (nI (i + 1)))] [] (wI m2 (x.2.2 1 4) 14 r2) Q)))) ∧ (¬ nI k = (6 : Int32) → ((nI k = (7 : Int32) → (AtTown (x.2.2 1 4) ∧ (∃ Pm2 : Value → MM → Prop, Runs e_X4_readLone [.ref 1, .int (nI k), .int (99 : Int32)] x Pm2 ∧ ∀ (r2 : Int32) (m2 : MM), Pm2 (.int r2) m2 → (G e_X4_readText 6 [(0, .ref 1), (1, .int (nI (i + 1)))] [] (wI m2 (x.2.2 1 4) 15 r2) Q)))) ∧ (¬ nI k = (7 : Int32) → ((nI k = (8 : Int32) → (AtTown (x.2.2 1 4) ∧ (∃ Pm2 : Value → MM → Prop, Runs e_X4_readRule [.ref 1, .int (nI k), .int (x.1 ((x.2.2 1 4) + 8) 11)] x Pm2 ∧ ∀ m2, Pm2 .null m2 → (G e_X4_readText 6 [(0, .ref 1), (1, .int (nI (i + 1)))] [] m2 Q)))) ∧ (¬ nI k = (8 : Int32) → ((nI k = (9 : Int32) → (AtTown (x.2.2 1 4) ∧ (∃ Pm2 : Value → MM → Prop, Runs e_X4_readRule [.ref 1, .int (nI k), .int (x.1 ((x.2.2 1 4) + 8) 12)] x Pm2 ∧ ∀ m2, Pm2 .null m2 → (G e_X4_readText 6 [(0, .ref 1), (1, .int (nI (i + 1)))] [] m2 Q)))) ∧ (¬ nI k = (9 : Int32) → ((nI k = (10 : Int32) → (∃ Pm1 : Value → MM → Prop, Runs e_X4_readLaw [.ref 1, .int (nI k)] x Pm1 ∧ ∀ m1, Pm1 .null m1 → (G e_X4_readText 6 [(0, .ref 1), (1, .int (nI (i + 1)))] [] m1 Q))) ∧ (¬ nI k = (10 : Int32) → ((nI k = (11 : Int32) → (∃ Pm1 : Value → MM → Prop, Runs e_X4_readLaw [.ref 1, .int (nI k)] x Pm1 ∧ ∀ m1, Pm1 .null m1 → (G e_X4_readText 6 [(0, .ref 1), (1, .int (nI (i + 1)))] [] m1 Q))) ∧ (¬ nI k = (11 : Int32) → ((nI k = (12 : Int32) → (∃ Pm1 : Value → MM → Prop, Runs e_X4_readLaw [.ref 1, .int (nI k)] x Pm1 ∧ ∀ m1, Pm1 .null m1 → (G e_X4_readText 6 [(0, .ref 1), (1, .int (nI (i + 1)))] [] m1 Q))) ∧ (¬ nI k = (12 : Int32) → (∃ Pm1 : Value → MM → Prop, Runs e_X4_fail [.ref 1, .int (1 : Int32)] x Pm1 ∧ ∀ m1, Pm1 .null m1 → (G e_X4_readText 6 [(0, .ref 1), (1, .int (nI (i + 1)))] [] m1 Q))))))))))))))))))))))))))))) : G e_X4_readText 6 [(0, .ref 1), (1, .int (nI i))] [] x Q := by
  have h41 := (h.1.2.2.2.1 a h.2.1).1
  have h7 := h.2.2.2.2.1
  have ev : v_X4_kind x = nI k := by rw [(kindX h).2, hk]
  apply b_X4_readText_6
  refine ⟨fun z => absurd z (nI_nlt (a := 400) (b := i) hi (by omega)), fun _ => ⟨fun z => absurd h7 z, fun _ => ⟨(kindX h).1, fun z => ?_, fun _ => ⟨(kindX h).1, ?_⟩⟩⟩⟩
  · rw [ev] at z
    exact absurd ((nI_eq (b := 40) (by omega) (by omega)).mp z) h40
  · rw [ev, nI_1]
    exact hQ
theorem one6 {k : Nat} (h : RC x v M K ts a) (hk : K a = k) (y : MM) {Q : Value → MM → Prop} (h1 : ¬ k < 26 → ∃ Pm1 : Value → MM → Prop, Runs e_X12_wrong [.ref 156, .int (1 : Int32)] (catR y v) Pm1 ∧ (∀ r m1, Pm1 r m1 → r = .int 1 ∨ r = .int 0) ∧ (∀ m1, Pm1 (.int 1) m1 → (Q (.int (1 : Int32)) m1)) ∧ (∀ m1, Pm1 (.int 0) m1 → (Q (.int (0 : Int32)) m1))) (h2 : k < 26 → ((¬ (nI (wmN k)) = 0 → ((¬ (nI (wmN k)) = (1 : Int32) → ((¬ (nI (wmN k)) = (2 : Int32) → ((¬ (nI (wmN k)) = (3 : Int32) → ((¬ (nI (wmN k)) = (5 : Int32) → ((¬ (nI (wmN k)) = (6 : Int32) → ((¬ (nI (wmN k)) = (7 : Int32) → ((¬ (nI (wmN k)) = (9 : Int32) → (((nI (wmN k)) = (30 : Int32) → (∃ Pm1 : Value → MM → Prop, Runs e_X12_tellLaw [.ref 156, .int ((nI (wmN k)) - (30 : Int32))] (catR y v) Pm1 ∧ (∀ r m1, Pm1 r m1 → r = .int 1 ∨ r = .int 0) ∧ (∀ m1, Pm1 (.int 1) m1 → (Q (.int (1 : Int32)) m1)) ∧ (∀ m1, Pm1 (.int 0) m1 → (Q (.int (0 : Int32)) m1)))) ∧ (¬ (nI (wmN k)) = (30 : Int32) → ((¬ (nI (wmN k)) = (31 : Int32) → ((¬ (nI (wmN k)) = (21 : Int32) → ((¬ (nI (wmN k)) = (32 : Int32) → ((¬ (nI (wmN k)) = (33 : Int32) → (∃ Pm1 : Value → MM → Prop, Runs e_X12_wrong [.ref 156, .int (1 : Int32)] (catR y v) Pm1 ∧ (∀ r m1, Pm1 r m1 → r = .int 1 ∨ r = .int 0) ∧ (∀ m1, Pm1 (.int 1) m1 → (Q (.int (1 : Int32)) m1)) ∧ (∀ m1, Pm1 (.int 0) m1 → (Q (.int (0 : Int32)) m1)))) ∧ ((nI (wmN k)) = (33 : Int32) → (∃ Pm1 : Value → MM → Prop, Runs e_X12_tellRule [.ref 156, .int (9 : Int32), .int (200 : Int32)] (catR y v) Pm1 ∧ (∀ r m1, Pm1 r m1 → r = .int 1 ∨ r = .int 0) ∧ (∀ m1, Pm1 (.int 1) m1 → (Q (.int (1 : Int32)) m1)) ∧ (∀ m1, Pm1 (.int 0) m1 → (Q (.int (0 : Int32)) m1)))))) ∧ ((nI (wmN k)) = (32 : Int32) → (∃ Pm1 : Value → MM → Prop, Runs e_X12_tellRule [.ref 156, .int (8 : Int32), .int (190 : Int32)] (catR y v) Pm1 ∧ (∀ r m1, Pm1 r m1 → r = .int 1 ∨ r = .int 0) ∧ (∀ m1, Pm1 (.int 1) m1 → (Q (.int (1 : Int32)) m1)) ∧ (∀ m1, Pm1 (.int 0) m1 → (Q (.int (0 : Int32)) m1)))))) ∧ ((nI (wmN k)) = (21 : Int32) → (∃ Pm1 : Value → MM → Prop, Runs e_X12_tellLaw [.ref 156, .int (2 : Int32)] (catR y v) Pm1 ∧ (∀ r m1, Pm1 r m1 → r = .int 1 ∨ r = .int 0) ∧ (∀ m1, Pm1 (.int 1) m1 → (Q (.int (1 : Int32)) m1)) ∧ (∀ m1, Pm1 (.int 0) m1 → (Q (.int (0 : Int32)) m1)))))) ∧ ((nI (wmN k)) = (31 : Int32) → (∃ Pm1 : Value → MM → Prop, Runs e_X12_tellLaw [.ref 156, .int ((nI (wmN k)) - (30 : Int32))] (catR y v) Pm1 ∧ (∀ r m1, Pm1 r m1 → r = .int 1 ∨ r = .int 0) ∧ (∀ m1, Pm1 (.int 1) m1 → (Q (.int (1 : Int32)) m1)) ∧ (∀ m1, Pm1 (.int 0) m1 → (Q (.int (0 : Int32)) m1)))))))) ∧ ((nI (wmN k)) = (9 : Int32) → (∃ Pm1 : Value → MM → Prop, Runs e_X12_tellNumber [.ref 156, .int (7 : Int32), .int (99 : Int32)] (catR y v) Pm1 ∧ (∀ r m1, Pm1 r m1 → r = .int 1 ∨ r = .int 0) ∧ (∀ m1, Pm1 (.int 1) m1 → (Q (.int (1 : Int32)) m1)) ∧ (∀ m1, Pm1 (.int 0) m1 → (Q (.int (0 : Int32)) m1)))))) ∧ ((nI (wmN k)) = (7 : Int32) → (∃ Pm1 : Value → MM → Prop, Runs e_X12_tellNumber [.ref 156, .int (6 : Int32), .int (9 : Int32)] (catR y v) Pm1 ∧ (∀ r m1, Pm1 r m1 → r = .int 1 ∨ r = .int 0) ∧ (∀ m1, Pm1 (.int 1) m1 → (Q (.int (1 : Int32)) m1)) ∧ (∀ m1, Pm1 (.int 0) m1 → (Q (.int (0 : Int32)) m1)))))) ∧ ((nI (wmN k)) = (6 : Int32) → (∃ Pm1 : Value → MM → Prop, Runs e_X12_tellWood [.ref 156] (catR y v) Pm1 ∧ (∀ r m1, Pm1 r m1 → r = .int 1 ∨ r = .int 0) ∧ (∀ m1, Pm1 (.int 1) m1 → (Q (.int (1 : Int32)) m1)) ∧ (∀ m1, Pm1 (.int 0) m1 → (Q (.int (0 : Int32)) m1)))))) ∧ ((nI (wmN k)) = (5 : Int32) → (∃ Pm1 : Value → MM → Prop, Runs e_X12_tellQuay [.ref 156] (catR y v) Pm1 ∧ (∀ r m1, Pm1 r m1 → r = .int 1 ∨ r = .int 0) ∧ (∀ m1, Pm1 (.int 1) m1 → (Q (.int (1 : Int32)) m1)) ∧ (∀ m1, Pm1 (.int 0) m1 → (Q (.int (0 : Int32)) m1)))))) ∧ ((nI (wmN k)) = (3 : Int32) → (∃ Pm1 : Value → MM → Prop, Runs e_X12_tellStair [.ref 156] (catR y v) Pm1 ∧ (∀ r m1, Pm1 r m1 → r = .int 1 ∨ r = .int 0) ∧ (∀ m1, Pm1 (.int 1) m1 → (Q (.int (1 : Int32)) m1)) ∧ (∀ m1, Pm1 (.int 0) m1 → (Q (.int (0 : Int32)) m1)))))) ∧ ((nI (wmN k)) = (2 : Int32) → (∃ Pm1 : Value → MM → Prop, Runs e_X12_tellIn [.ref 156] (catR y v) Pm1 ∧ (∀ r m1, Pm1 r m1 → r = .int 1 ∨ r = .int 0) ∧ (∀ m1, Pm1 (.int 1) m1 → (Q (.int (1 : Int32)) m1)) ∧ (∀ m1, Pm1 (.int 0) m1 → (Q (.int (0 : Int32)) m1)))))) ∧ ((nI (wmN k)) = (1 : Int32) → (∃ Pm1 : Value → MM → Prop, Runs e_X12_tellOffice [.ref 156] (catR y v) Pm1 ∧ (∀ r m1, Pm1 r m1 → r = .int 1 ∨ r = .int 0) ∧ (∀ m1, Pm1 (.int 1) m1 → (Q (.int (1 : Int32)) m1)) ∧ (∀ m1, Pm1 (.int 0) m1 → (Q (.int (0 : Int32)) m1)))))) ∧ ((nI (wmN k)) = 0 → (∃ Pm1 : Value → MM → Prop, Runs e_X12_tellHouse [.ref 156] (catR y v) Pm1 ∧ (∀ r m1, Pm1 r m1 → r = .int 1 ∨ r = .int 0) ∧ (∀ m1, Pm1 (.int 1) m1 → (Q (.int (1 : Int32)) m1)) ∧ (∀ m1, Pm1 (.int 0) m1 → (Q (.int (0 : Int32)) m1)))))) : Runs e_X12_tellOne [.ref 156] (catR y v) Q := by
  have h41 := (h.1.2.2.2.1 a h.2.1).1
  have m4 := h.1.2.2.1.2.1
  have ha := h.2.1
  obtain ⟨e158, -, e160, -⟩ := h.1.cat y a h.2.1
  have e7 : (catR y v).1 156 7 = nI a := by rw [cr_1 (by decide)]; exact h.2.2.2.1
  obtain ⟨-, -, -, k3, -⟩ := k_int (K a) (by omega)
  apply b_X12_tellOne
  rw [e7, nI_clamp (by omega), e158]
  refine ⟨vp_in_nI (by omega) (by omega), fun z => h1 fun c => z ?_, fun z => ⟨vp_in_nI (by omega) (by omega), ?_⟩⟩
  · rw [k3.mpr (by omega)]; rfl
  · have c : K a < 26 := k3.mp ((nI_eq (b := 3) (by
      have : mS (K a) ≤ 5 := by
        have : ∀ k : Nat, k < 42 → mS k ≤ 5 := by decide
        exact this _ (by omega)
      omega) (by omega)).mp z)
    rw [e160 c, hk]
    exact h2 (by omega)
theorem oneS {rt rs i : Nat} (h : RC x v M K ts a) (hI : INV x v M K rt rs a) (hi : i ≤ 400) (h40 : ¬ K a = 40) : OneR x v M K ts rt rs a i := by
  have h41 := (h.1.2.2.2.1 a h.2.1).1
  obtain ⟨r1, ht, F, B, c6, c7, l5, l6⟩ : x.2.2 1 4 = rt ∧ isT rt ∧ ∃ F B : Nat, x.1 (rt + 8) 11 = nI F ∧ x.1 (rt + 8) 12 = nI B ∧ F ≤ 4 ∧ B ≤ 4 := by
    obtain ⟨H, O, I, S, Qn, W, F, B, sz, fr, f, ⟨⟨⟨r1, ht⟩, -, -⟩, ⟨-, -, -, -, l5, l6⟩, ⟨-, -, -, -, -, c6, c7, -⟩, -⟩, -⟩ := hI
    exact ⟨r1, ht, F, B, c6, c7, l5, l6⟩
  rcases Nat.lt_or_ge (K a) 13 with c13 | c13
  · have hc : K a = 0 ∨ K a = 1 ∨ K a = 2 ∨ K a = 3 ∨ K a = 4 ∨ K a = 5 ∨ K a = 6 ∨ K a = 7 ∨ K a = 8 ∨ K a = 9 ∨ K a = 10 ∨ K a = 11 ∨ K a = 12 := by omega
    rcases hc with hk0 | hk0 | hk0 | hk0 | hk0 | hk0 | hk0 | hk0 | hk0 | hk0 | hk0 | hk0 | hk0
    · -- 0
      obtain ⟨x1, v1, t1, hx, hv, hr⟩ := houseS h hk0 hI
      refine ⟨x1, v1, fun Q hQ => text6 h hi hk0 (by decide) ?_, hx, hv, ?_⟩
      · exact ⟨fun _ => vcall t1 (by rintro m rfl; exact hQ), fun z => absurd rfl z⟩
      · have mm : ∀ (b : Bool) (g : ∀ y, Runs e_X12_tellHouse [.ref 156] (catR y v) (fun r m => r = .int (bI b) ∧ m = catR y v1)) (y : MM), Runs e_X12_tellOne [.ref 156] (catR y v) (fun r m => r = .int (bI b) ∧ m = catR y v1) := fun b g y => one6 h hk0 y (fun z => absurd (by decide) z) fun _ => ⟨fun z => absurd rfl z, fun _ => bcall (g y) (fun z m e => by subst z; exact ⟨rfl, e⟩) (fun z m e => by subst z; exact ⟨rfl, e⟩)⟩
        rcases hr with ⟨h1, h2⟩ | ⟨h1, h2⟩
        · exact Or.inl ⟨h1, mm _ h2⟩
        · exact Or.inr ⟨mm _ h1, h2⟩
    · -- 1
      obtain ⟨x1, v1, t1, hx, hv, hr⟩ := officeS h hk0 hI
      refine ⟨x1, v1, fun Q hQ => text6 h hi hk0 (by decide) ?_, hx, hv, ?_⟩
      · exact ⟨fun z => absurd z (by decide), fun _ => ⟨fun _ => vcall t1 (by rintro m rfl; exact hQ), fun z => absurd rfl z⟩⟩
      · have mm : ∀ (b : Bool) (g : ∀ y, Runs e_X12_tellOffice [.ref 156] (catR y v) (fun r m => r = .int (bI b) ∧ m = catR y v1)) (y : MM), Runs e_X12_tellOne [.ref 156] (catR y v) (fun r m => r = .int (bI b) ∧ m = catR y v1) := fun b g y => one6 h hk0 y (fun z => absurd (by decide) z) fun _ => ⟨fun _ => ⟨fun z => absurd rfl z, fun _ => bcall (g y) (fun z m e => by subst z; exact ⟨rfl, e⟩) (fun z m e => by subst z; exact ⟨rfl, e⟩)⟩, fun z => absurd z (by decide)⟩
        rcases hr with ⟨h1, h2⟩ | ⟨h1, h2⟩
        · exact Or.inl ⟨h1, mm _ h2⟩
        · exact Or.inr ⟨mm _ h1, h2⟩
    · -- 2
      obtain ⟨x1, v1, t1, hx, hv, hr⟩ := inS h hk0 hI
      refine ⟨x1, v1, fun Q hQ => text6 h hi hk0 (by decide) ?_, hx, hv, ?_⟩
      · exact ⟨fun z => absurd z (by decide), fun _ => ⟨fun z => absurd z (by decide), fun _ => ⟨fun _ => vcall t1 (by rintro m rfl; exact hQ), fun z => absurd rfl z⟩⟩⟩
      · have mm : ∀ (b : Bool) (g : ∀ y, Runs e_X12_tellIn [.ref 156] (catR y v) (fun r m => r = .int (bI b) ∧ m = catR y v1)) (y : MM), Runs e_X12_tellOne [.ref 156] (catR y v) (fun r m => r = .int (bI b) ∧ m = catR y v1) := fun b g y => one6 h hk0 y (fun z => absurd (by decide) z) fun _ => ⟨fun _ => ⟨fun _ => ⟨fun z => absurd rfl z, fun _ => bcall (g y) (fun z m e => by subst z; exact ⟨rfl, e⟩) (fun z m e => by subst z; exact ⟨rfl, e⟩)⟩, fun z => absurd z (by decide)⟩, fun z => absurd z (by decide)⟩
        rcases hr with ⟨h1, h2⟩ | ⟨h1, h2⟩
        · exact Or.inl ⟨h1, mm _ h2⟩
        · exact Or.inr ⟨mm _ h1, h2⟩
    · -- 3
      obtain ⟨x1, v1, t1, hx, hv, hr⟩ := stairS h hk0 hI
      refine ⟨x1, v1, fun Q hQ => text6 h hi hk0 (by decide) ?_, hx, hv, ?_⟩
      · exact ⟨fun z => absurd z (by decide), fun _ => ⟨fun z => absurd z (by decide), fun _ => ⟨fun z => absurd z (by decide), fun _ => ⟨fun _ => vcall t1 (by rintro m rfl; exact hQ), fun z => absurd rfl z⟩⟩⟩⟩
      · have mm : ∀ (b : Bool) (g : ∀ y, Runs e_X12_tellStair [.ref 156] (catR y v) (fun r m => r = .int (bI b) ∧ m = catR y v1)) (y : MM), Runs e_X12_tellOne [.ref 156] (catR y v) (fun r m => r = .int (bI b) ∧ m = catR y v1) := fun b g y => one6 h hk0 y (fun z => absurd (by decide) z) fun _ => ⟨fun _ => ⟨fun _ => ⟨fun _ => ⟨fun z => absurd rfl z, fun _ => bcall (g y) (fun z m e => by subst z; exact ⟨rfl, e⟩) (fun z m e => by subst z; exact ⟨rfl, e⟩)⟩, fun z => absurd z (by decide)⟩, fun z => absurd z (by decide)⟩, fun z => absurd z (by decide)⟩
        rcases hr with ⟨h1, h2⟩ | ⟨h1, h2⟩
        · exact Or.inl ⟨h1, mm _ h2⟩
        · exact Or.inr ⟨mm _ h1, h2⟩
    · -- 4
      obtain ⟨x1, v1, t1, hx, hv, hr⟩ := quayJ h hk0 hI
      refine ⟨x1, v1, fun Q hQ => text6 h hi hk0 (by decide) ?_, hx, hv, ?_⟩
      · exact ⟨fun z => absurd z (by decide), fun _ => ⟨fun z => absurd z (by decide), fun _ => ⟨fun z => absurd z (by decide), fun _ => ⟨fun z => absurd z (by decide), fun _ => ⟨fun _ => vcall t1 (by rintro m rfl; exact hQ), fun z => absurd rfl z⟩⟩⟩⟩⟩
      · have mm : ∀ (b : Bool) (g : ∀ y, Runs e_X12_tellQuay [.ref 156] (catR y v) (fun r m => r = .int (bI b) ∧ m = catR y v1)) (y : MM), Runs e_X12_tellOne [.ref 156] (catR y v) (fun r m => r = .int (bI b) ∧ m = catR y v1) := fun b g y => one6 h hk0 y (fun z => absurd (by decide) z) fun _ => ⟨fun _ => ⟨fun _ => ⟨fun _ => ⟨fun _ => ⟨fun z => absurd rfl z, fun _ => bcall (g y) (fun z m e => by subst z; exact ⟨rfl, e⟩) (fun z m e => by subst z; exact ⟨rfl, e⟩)⟩, fun z => absurd z (by decide)⟩, fun z => absurd z (by decide)⟩, fun z => absurd z (by decide)⟩, fun z => absurd z (by decide)⟩
        rcases hr with ⟨h1, h2⟩ | ⟨h1, h2⟩
        · exact Or.inl ⟨h1, mm _ h2⟩
        · exact Or.inr ⟨mm _ h1, h2⟩
    · -- 5
      obtain ⟨x1, v1, t1, hx, hv, hr⟩ := woodJ h hk0 hI
      refine ⟨x1, v1, fun Q hQ => text6 h hi hk0 (by decide) ?_, hx, hv, ?_⟩
      · exact ⟨fun z => absurd z (by decide), fun _ => ⟨fun z => absurd z (by decide), fun _ => ⟨fun z => absurd z (by decide), fun _ => ⟨fun z => absurd z (by decide), fun _ => ⟨fun z => absurd z (by decide), fun _ => ⟨fun _ => vcall t1 (by rintro m rfl; exact hQ), fun z => absurd rfl z⟩⟩⟩⟩⟩⟩
      · have mm : ∀ (b : Bool) (g : ∀ y, Runs e_X12_tellWood [.ref 156] (catR y v) (fun r m => r = .int (bI b) ∧ m = catR y v1)) (y : MM), Runs e_X12_tellOne [.ref 156] (catR y v) (fun r m => r = .int (bI b) ∧ m = catR y v1) := fun b g y => one6 h hk0 y (fun z => absurd (by decide) z) fun _ => ⟨fun _ => ⟨fun _ => ⟨fun _ => ⟨fun _ => ⟨fun _ => ⟨fun z => absurd rfl z, fun _ => bcall (g y) (fun z m e => by subst z; exact ⟨rfl, e⟩) (fun z m e => by subst z; exact ⟨rfl, e⟩)⟩, fun z => absurd z (by decide)⟩, fun z => absurd z (by decide)⟩, fun z => absurd z (by decide)⟩, fun z => absurd z (by decide)⟩, fun z => absurd z (by decide)⟩
        rcases hr with ⟨h1, h2⟩ | ⟨h1, h2⟩
        · exact Or.inl ⟨h1, mm _ h2⟩
        · exact Or.inr ⟨mm _ h1, h2⟩
    · -- 6
      obtain ⟨x0, v1, w, t1, e0, hx, hv, hr⟩ := loneJ (kd := 6) (hi := 9) (cx := 14) h hk0 (Or.inl ⟨rfl, rfl, rfl⟩) hI
      refine ⟨wI x0 rt 14 (nI w), v1, fun Q hQ => text6 h hi hk0 (by decide) ?_, hx, hv, ?_⟩
      · exact ⟨fun z => absurd z (by decide), fun _ => ⟨fun z => absurd z (by decide), fun _ => ⟨fun z => absurd z (by decide), fun _ => ⟨fun z => absurd z (by decide), fun _ => ⟨fun z => absurd z (by decide), fun _ => ⟨fun z => absurd z (by decide), fun _ => ⟨fun _ => (by rw [r1]; exact ⟨ht.at, icall t1 (by rintro m rfl; exact hQ)⟩), fun z => absurd rfl z⟩⟩⟩⟩⟩⟩⟩
      · have mm : ∀ (b : Bool) (g : ∀ y, Runs e_X12_tellNumber [.ref 156, .int (nI 6), .int (nI 9)] (catR y v) (fun r m => r = .int (bI b) ∧ m = catR y v1)) (y : MM), Runs e_X12_tellOne [.ref 156] (catR y v) (fun r m => r = .int (bI b) ∧ m = catR y v1) := fun b g y => one6 h hk0 y (fun z => absurd (by decide) z) fun _ => ⟨fun _ => ⟨fun _ => ⟨fun _ => ⟨fun _ => ⟨fun _ => ⟨fun _ => ⟨fun z => absurd rfl z, fun _ => bcall (g y) (fun z m e => by subst z; exact ⟨rfl, e⟩) (fun z m e => by subst z; exact ⟨rfl, e⟩)⟩, fun z => absurd z (by decide)⟩, fun z => absurd z (by decide)⟩, fun z => absurd z (by decide)⟩, fun z => absurd z (by decide)⟩, fun z => absurd z (by decide)⟩, fun z => absurd z (by decide)⟩
        rcases hr with ⟨h1, h2⟩ | ⟨h1, h2⟩
        · exact Or.inl ⟨h1, mm _ h2⟩
        · exact Or.inr ⟨mm _ h1, h2⟩
    · -- 7
      obtain ⟨x0, v1, w, t1, e0, hx, hv, hr⟩ := loneJ (kd := 7) (hi := 99) (cx := 15) h hk0 (Or.inr ⟨rfl, rfl, rfl⟩) hI
      refine ⟨wI x0 rt 15 (nI w), v1, fun Q hQ => text6 h hi hk0 (by decide) ?_, hx, hv, ?_⟩
      · exact ⟨fun z => absurd z (by decide), fun _ => ⟨fun z => absurd z (by decide), fun _ => ⟨fun z => absurd z (by decide), fun _ => ⟨fun z => absurd z (by decide), fun _ => ⟨fun z => absurd z (by decide), fun _ => ⟨fun z => absurd z (by decide), fun _ => ⟨fun z => absurd z (by decide), fun _ => ⟨fun _ => (by rw [r1]; exact ⟨ht.at, icall t1 (by rintro m rfl; exact hQ)⟩), fun z => absurd rfl z⟩⟩⟩⟩⟩⟩⟩⟩
      · have mm : ∀ (b : Bool) (g : ∀ y, Runs e_X12_tellNumber [.ref 156, .int (nI 7), .int (nI 99)] (catR y v) (fun r m => r = .int (bI b) ∧ m = catR y v1)) (y : MM), Runs e_X12_tellOne [.ref 156] (catR y v) (fun r m => r = .int (bI b) ∧ m = catR y v1) := fun b g y => one6 h hk0 y (fun z => absurd (by decide) z) fun _ => ⟨fun _ => ⟨fun _ => ⟨fun _ => ⟨fun _ => ⟨fun _ => ⟨fun _ => ⟨fun _ => ⟨fun z => absurd rfl z, fun _ => bcall (g y) (fun z m e => by subst z; exact ⟨rfl, e⟩) (fun z m e => by subst z; exact ⟨rfl, e⟩)⟩, fun z => absurd z (by decide)⟩, fun z => absurd z (by decide)⟩, fun z => absurd z (by decide)⟩, fun z => absurd z (by decide)⟩, fun z => absurd z (by decide)⟩, fun z => absurd z (by decide)⟩, fun z => absurd z (by decide)⟩
        rcases hr with ⟨h1, h2⟩ | ⟨h1, h2⟩
        · exact Or.inl ⟨h1, mm _ h2⟩
        · exact Or.inr ⟨mm _ h1, h2⟩
    · -- 8
      obtain ⟨x1, v1, t1, hx, hv, hr⟩ := ruleS (kd := 8) (base := 190) (o := 2) (cx := 11) (n := F) h hk0 (Or.inl ⟨rfl, rfl, rfl, rfl⟩) hI c6 l5
      refine ⟨x1, v1, fun Q hQ => text6 h hi hk0 (by decide) ?_, hx, hv, ?_⟩
      · exact ⟨fun z => absurd z (by decide), fun _ => ⟨fun z => absurd z (by decide), fun _ => ⟨fun z => absurd z (by decide), fun _ => ⟨fun z => absurd z (by decide), fun _ => ⟨fun z => absurd z (by decide), fun _ => ⟨fun z => absurd z (by decide), fun _ => ⟨fun z => absurd z (by decide), fun _ => ⟨fun z => absurd z (by decide), fun _ => ⟨fun _ => (by rw [r1, c6]; exact ⟨ht.at, vcall t1 (by rintro m rfl; exact hQ)⟩), fun z => absurd rfl z⟩⟩⟩⟩⟩⟩⟩⟩⟩
      · have mm : ∀ (b : Bool) (g : ∀ y, Runs e_X12_tellRule [.ref 156, .int (nI 8), .int (nI 190)] (catR y v) (fun r m => r = .int (bI b) ∧ m = catR y v1)) (y : MM), Runs e_X12_tellOne [.ref 156] (catR y v) (fun r m => r = .int (bI b) ∧ m = catR y v1) := fun b g y => one6 h hk0 y (fun z => absurd (by decide) z) fun _ => ⟨fun _ => ⟨fun _ => ⟨fun _ => ⟨fun _ => ⟨fun _ => ⟨fun _ => ⟨fun _ => ⟨fun _ => ⟨fun z => absurd z (by decide), fun _ => ⟨fun _ => ⟨fun _ => ⟨fun z => absurd rfl z, fun _ => bcall (g y) (fun z m e => by subst z; exact ⟨rfl, e⟩) (fun z m e => by subst z; exact ⟨rfl, e⟩)⟩, fun z => absurd z (by decide)⟩, fun z => absurd z (by decide)⟩⟩, fun z => absurd z (by decide)⟩, fun z => absurd z (by decide)⟩, fun z => absurd z (by decide)⟩, fun z => absurd z (by decide)⟩, fun z => absurd z (by decide)⟩, fun z => absurd z (by decide)⟩, fun z => absurd z (by decide)⟩, fun z => absurd z (by decide)⟩
        rcases hr with ⟨h1, h2⟩ | ⟨h1, h2⟩
        · exact Or.inl ⟨h1, mm _ h2⟩
        · exact Or.inr ⟨mm _ h1, h2⟩
    · -- 9
      obtain ⟨x1, v1, t1, hx, hv, hr⟩ := ruleS (kd := 9) (base := 200) (o := 3) (cx := 12) (n := B) h hk0 (Or.inr ⟨rfl, rfl, rfl, rfl⟩) hI c7 l6
      refine ⟨x1, v1, fun Q hQ => text6 h hi hk0 (by decide) ?_, hx, hv, ?_⟩
      · exact ⟨fun z => absurd z (by decide), fun _ => ⟨fun z => absurd z (by decide), fun _ => ⟨fun z => absurd z (by decide), fun _ => ⟨fun z => absurd z (by decide), fun _ => ⟨fun z => absurd z (by decide), fun _ => ⟨fun z => absurd z (by decide), fun _ => ⟨fun z => absurd z (by decide), fun _ => ⟨fun z => absurd z (by decide), fun _ => ⟨fun z => absurd z (by decide), fun _ => ⟨fun _ => (by rw [r1, c7]; exact ⟨ht.at, vcall t1 (by rintro m rfl; exact hQ)⟩), fun z => absurd rfl z⟩⟩⟩⟩⟩⟩⟩⟩⟩⟩
      · have mm : ∀ (b : Bool) (g : ∀ y, Runs e_X12_tellRule [.ref 156, .int (nI 9), .int (nI 200)] (catR y v) (fun r m => r = .int (bI b) ∧ m = catR y v1)) (y : MM), Runs e_X12_tellOne [.ref 156] (catR y v) (fun r m => r = .int (bI b) ∧ m = catR y v1) := fun b g y => one6 h hk0 y (fun z => absurd (by decide) z) fun _ => ⟨fun _ => ⟨fun _ => ⟨fun _ => ⟨fun _ => ⟨fun _ => ⟨fun _ => ⟨fun _ => ⟨fun _ => ⟨fun z => absurd z (by decide), fun _ => ⟨fun _ => ⟨fun _ => ⟨fun _ => ⟨fun z => absurd rfl z, fun _ => bcall (g y) (fun z m e => by subst z; exact ⟨rfl, e⟩) (fun z m e => by subst z; exact ⟨rfl, e⟩)⟩, fun z => absurd z (by decide)⟩, fun z => absurd z (by decide)⟩, fun z => absurd z (by decide)⟩⟩, fun z => absurd z (by decide)⟩, fun z => absurd z (by decide)⟩, fun z => absurd z (by decide)⟩, fun z => absurd z (by decide)⟩, fun z => absurd z (by decide)⟩, fun z => absurd z (by decide)⟩, fun z => absurd z (by decide)⟩, fun z => absurd z (by decide)⟩
        rcases hr with ⟨h1, h2⟩ | ⟨h1, h2⟩
        · exact Or.inl ⟨h1, mm _ h2⟩
        · exact Or.inr ⟨mm _ h1, h2⟩
    · -- 10
      obtain ⟨x1, v1, t1, hx, hv, hr⟩ := lawS (l := 0) h (by decide) hk0 hI
      refine ⟨x1, v1, fun Q hQ => text6 h hi hk0 (by decide) ?_, hx, hv, ?_⟩
      · exact ⟨fun z => absurd z (by decide), fun _ => ⟨fun z => absurd z (by decide), fun _ => ⟨fun z => absurd z (by decide), fun _ => ⟨fun z => absurd z (by decide), fun _ => ⟨fun z => absurd z (by decide), fun _ => ⟨fun z => absurd z (by decide), fun _ => ⟨fun z => absurd z (by decide), fun _ => ⟨fun z => absurd z (by decide), fun _ => ⟨fun z => absurd z (by decide), fun _ => ⟨fun z => absurd z (by decide), fun _ => ⟨fun _ => vcall t1 (by rintro m rfl; exact hQ), fun z => absurd rfl z⟩⟩⟩⟩⟩⟩⟩⟩⟩⟩⟩
      · have mm : ∀ (b : Bool) (g : ∀ y, Runs e_X12_tellLaw [.ref 156, .int (nI 0)] (catR y v) (fun r m => r = .int (bI b) ∧ m = catR y v1)) (y : MM), Runs e_X12_tellOne [.ref 156] (catR y v) (fun r m => r = .int (bI b) ∧ m = catR y v1) := fun b g y => one6 h hk0 y (fun z => absurd (by decide) z) fun _ => ⟨fun _ => ⟨fun _ => ⟨fun _ => ⟨fun _ => ⟨fun _ => ⟨fun _ => ⟨fun _ => ⟨fun _ => ⟨fun _ => bcall (g y) (fun z m e => by subst z; exact ⟨rfl, e⟩) (fun z m e => by subst z; exact ⟨rfl, e⟩), fun z => absurd rfl z⟩, fun z => absurd z (by decide)⟩, fun z => absurd z (by decide)⟩, fun z => absurd z (by decide)⟩, fun z => absurd z (by decide)⟩, fun z => absurd z (by decide)⟩, fun z => absurd z (by decide)⟩, fun z => absurd z (by decide)⟩, fun z => absurd z (by decide)⟩
        rcases hr with ⟨h1, h2⟩ | ⟨h1, h2⟩
        · exact Or.inl ⟨h1, mm _ h2⟩
        · exact Or.inr ⟨mm _ h1, h2⟩
    · -- 11
      obtain ⟨x1, v1, t1, hx, hv, hr⟩ := lawS (l := 1) h (by decide) hk0 hI
      refine ⟨x1, v1, fun Q hQ => text6 h hi hk0 (by decide) ?_, hx, hv, ?_⟩
      · exact ⟨fun z => absurd z (by decide), fun _ => ⟨fun z => absurd z (by decide), fun _ => ⟨fun z => absurd z (by decide), fun _ => ⟨fun z => absurd z (by decide), fun _ => ⟨fun z => absurd z (by decide), fun _ => ⟨fun z => absurd z (by decide), fun _ => ⟨fun z => absurd z (by decide), fun _ => ⟨fun z => absurd z (by decide), fun _ => ⟨fun z => absurd z (by decide), fun _ => ⟨fun z => absurd z (by decide), fun _ => ⟨fun z => absurd z (by decide), fun _ => ⟨fun _ => vcall t1 (by rintro m rfl; exact hQ), fun z => absurd rfl z⟩⟩⟩⟩⟩⟩⟩⟩⟩⟩⟩⟩
      · have mm : ∀ (b : Bool) (g : ∀ y, Runs e_X12_tellLaw [.ref 156, .int (nI 1)] (catR y v) (fun r m => r = .int (bI b) ∧ m = catR y v1)) (y : MM), Runs e_X12_tellOne [.ref 156] (catR y v) (fun r m => r = .int (bI b) ∧ m = catR y v1) := fun b g y => one6 h hk0 y (fun z => absurd (by decide) z) fun _ => ⟨fun _ => ⟨fun _ => ⟨fun _ => ⟨fun _ => ⟨fun _ => ⟨fun _ => ⟨fun _ => ⟨fun _ => ⟨fun z => absurd z (by decide), fun _ => ⟨fun z => absurd rfl z, fun _ => bcall (g y) (fun z m e => by subst z; exact ⟨rfl, e⟩) (fun z m e => by subst z; exact ⟨rfl, e⟩)⟩⟩, fun z => absurd z (by decide)⟩, fun z => absurd z (by decide)⟩, fun z => absurd z (by decide)⟩, fun z => absurd z (by decide)⟩, fun z => absurd z (by decide)⟩, fun z => absurd z (by decide)⟩, fun z => absurd z (by decide)⟩, fun z => absurd z (by decide)⟩
        rcases hr with ⟨h1, h2⟩ | ⟨h1, h2⟩
        · exact Or.inl ⟨h1, mm _ h2⟩
        · exact Or.inr ⟨mm _ h1, h2⟩
    · -- 12
      obtain ⟨x1, v1, t1, hx, hv, hr⟩ := lawS (l := 2) h (by decide) hk0 hI
      refine ⟨x1, v1, fun Q hQ => text6 h hi hk0 (by decide) ?_, hx, hv, ?_⟩
      · exact ⟨fun z => absurd z (by decide), fun _ => ⟨fun z => absurd z (by decide), fun _ => ⟨fun z => absurd z (by decide), fun _ => ⟨fun z => absurd z (by decide), fun _ => ⟨fun z => absurd z (by decide), fun _ => ⟨fun z => absurd z (by decide), fun _ => ⟨fun z => absurd z (by decide), fun _ => ⟨fun z => absurd z (by decide), fun _ => ⟨fun z => absurd z (by decide), fun _ => ⟨fun z => absurd z (by decide), fun _ => ⟨fun z => absurd z (by decide), fun _ => ⟨fun z => absurd z (by decide), fun _ => ⟨fun _ => vcall t1 (by rintro m rfl; exact hQ), fun z => absurd rfl z⟩⟩⟩⟩⟩⟩⟩⟩⟩⟩⟩⟩⟩
      · have mm : ∀ (b : Bool) (g : ∀ y, Runs e_X12_tellLaw [.ref 156, .int (nI 2)] (catR y v) (fun r m => r = .int (bI b) ∧ m = catR y v1)) (y : MM), Runs e_X12_tellOne [.ref 156] (catR y v) (fun r m => r = .int (bI b) ∧ m = catR y v1) := fun b g y => one6 h hk0 y (fun z => absurd (by decide) z) fun _ => ⟨fun _ => ⟨fun _ => ⟨fun _ => ⟨fun _ => ⟨fun _ => ⟨fun _ => ⟨fun _ => ⟨fun _ => ⟨fun z => absurd z (by decide), fun _ => ⟨fun _ => ⟨fun z => absurd rfl z, fun _ => bcall (g y) (fun z m e => by subst z; exact ⟨rfl, e⟩) (fun z m e => by subst z; exact ⟨rfl, e⟩)⟩, fun z => absurd z (by decide)⟩⟩, fun z => absurd z (by decide)⟩, fun z => absurd z (by decide)⟩, fun z => absurd z (by decide)⟩, fun z => absurd z (by decide)⟩, fun z => absurd z (by decide)⟩, fun z => absurd z (by decide)⟩, fun z => absurd z (by decide)⟩, fun z => absurd z (by decide)⟩
        rcases hr with ⟨h1, h2⟩ | ⟨h1, h2⟩
        · exact Or.inl ⟨h1, mm _ h2⟩
        · exact Or.inr ⟨mm _ h1, h2⟩
  · obtain ⟨f1, f2, f3, f4⟩ := failJ h (e := 1) (by decide) (by decide)
    refine ⟨_, _, fun Q hQ => text6 h hi rfl h40 ?_, (FX.fl x _ _).xe, (FV.wr v _ _).me, Or.inl ⟨f3.any, fun y => ?_⟩⟩
    · exact ⟨(fun z => absurd ((nI_eq (b := 0) (by omega) (by omega)).mp z) (by omega)), fun _ => ⟨(fun z => absurd ((nI_eq (b := 1) (by omega) (by omega)).mp z) (by omega)), fun _ => ⟨(fun z => absurd ((nI_eq (b := 2) (by omega) (by omega)).mp z) (by omega)), fun _ => ⟨(fun z => absurd ((nI_eq (b := 3) (by omega) (by omega)).mp z) (by omega)), fun _ => ⟨(fun z => absurd ((nI_eq (b := 4) (by omega) (by omega)).mp z) (by omega)), fun _ => ⟨(fun z => absurd ((nI_eq (b := 5) (by omega) (by omega)).mp z) (by omega)), fun _ => ⟨(fun z => absurd ((nI_eq (b := 6) (by omega) (by omega)).mp z) (by omega)), fun _ => ⟨(fun z => absurd ((nI_eq (b := 7) (by omega) (by omega)).mp z) (by omega)), fun _ => ⟨(fun z => absurd ((nI_eq (b := 8) (by omega) (by omega)).mp z) (by omega)), fun _ => ⟨(fun z => absurd ((nI_eq (b := 9) (by omega) (by omega)).mp z) (by omega)), fun _ => ⟨(fun z => absurd ((nI_eq (b := 10) (by omega) (by omega)).mp z) (by omega)), fun _ => ⟨(fun z => absurd ((nI_eq (b := 11) (by omega) (by omega)).mp z) (by omega)), fun _ => ⟨(fun z => absurd ((nI_eq (b := 12) (by omega) (by omega)).mp z) (by omega)), fun _ => vcall f1 (by rintro m rfl; exact hQ)⟩⟩⟩⟩⟩⟩⟩⟩⟩⟩⟩⟩⟩
    · refine one6 h rfl y (fun _ => bcall (f2 y) (fun z => nomatch z) (fun _ m e => ⟨rfl, e⟩)) fun c26 => ?_
      have wn : ∀ j : Nat, j ∈ [0, 1, 2, 3, 5, 6, 7, 9, 30, 31, 21, 32, 33] → ¬ nI (wmN (K a)) = nI j := fun j hj z => by
        have hd : ∀ k : Nat, k < 26 → 13 ≤ k → ¬ wmN k ∈ [0, 1, 2, 3, 5, 6, 7, 9, 30, 31, 21, 32, 33] := by decide
        have hd2 : ∀ k : Nat, k < 26 → wmN k < 100 := by decide
        have hd3 : ∀ j : Nat, j ∈ [0, 1, 2, 3, 5, 6, 7, 9, 30, 31, 21, 32, 33] → j < 100 := by decide
        have w2 := hd2 (K a) c26
        have w3 := hd3 j hj
        have e := (nI_eq (by omega) (by omega)).mp z
        rw [← e] at hj
        exact hd (K a) c26 c13 hj
      exact ⟨fun _ => ⟨fun _ => ⟨fun _ => ⟨fun _ => ⟨fun _ => ⟨fun _ => ⟨fun _ => ⟨fun _ => ⟨(fun z => absurd z (wn 30 (by decide))), fun _ => ⟨fun _ => ⟨fun _ => ⟨fun _ => ⟨fun _ => bcall (f2 y) (fun z => nomatch z) (fun _ m e => ⟨rfl, e⟩), (fun z => absurd z (wn 33 (by decide)))⟩, (fun z => absurd z (wn 32 (by decide)))⟩, (fun z => absurd z (wn 21 (by decide)))⟩, (fun z => absurd z (wn 31 (by decide)))⟩⟩, (fun z => absurd z (wn 9 (by decide)))⟩, (fun z => absurd z (wn 7 (by decide)))⟩, (fun z => absurd z (wn 6 (by decide)))⟩, (fun z => absurd z (wn 5 (by decide)))⟩, (fun z => absurd z (wn 3 (by decide)))⟩, (fun z => absurd z (wn 2 (by decide)))⟩, (fun z => absurd z (wn 1 (by decide)))⟩, (fun z => absurd z (wn 0 (by decide)))⟩
end

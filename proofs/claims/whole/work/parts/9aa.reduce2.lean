/-! reading: what waits in an expression is let go, on both sides at once -/
section
variable {x v : MM} {M a : Nat} {K ts : Nat → Nat}
def stopU (least : Nat) (U : List Nat) : Prop := ∀ u U', U = u :: U' → rk u < least
/-- the cells of a class's reader that a step sets, and the rest leaves alone -/
def CX (x x' : MM) : Prop := ∀ y, 14 ≤ y → y ≤ 17 → x'.1 1 y = x.1 1 y
theorem CX.rf (x : MM) : CX x x := fun _ _ _ => rfl
theorem CX.tr {x x' x'' : MM} (h : CX x x') (h2 : CX x' x'') : CX x x'' := fun y a b => (h2 y a b).trans (h y a b)
theorem gd.u {u : Nat} {U : List Nat} (h : gd (u :: U)) : u ≤ 5 := by rcases h.1 with z | z <;> omega
theorem FE.pp {s rt sz n q : Nat} (ht : isT rt) (h : s ≤ sz) : FE s rt x (ppX x rt sz n q) := (FE.ad h).w ht (by omega) _
theorem DX.pp {rt sz n q : Nat} (ht : isT rt) : DX x (ppX x rt sz n q) := (DX.ad ht).w (by omega) _
theorem CX.pp {rt sz n q : Nat} (ht : isT rt) : CX x (ppX x rt sz n q) := fun y h1 h2 => by
  have hc : rt = 10 ∨ rt = 100 := ht
  unfold ppX
  rw [wI_k, pk_un (by omega), adX_o (by omega) (by omega)]
theorem GE.pp {s sz n u : Nat} (h : s ≤ sz) : GE s v (ppV v sz n u) := ((GE.rf s v).w (by omega) _).tr (GE.em h) (Nat.le_refl s)
theorem DV.pp {sz n u : Nat} : DV v (ppV v sz n u) := ((DV.rf v).w (by omega) _).tr DV.em
/-- 156's cells that an expression's reading sets, and the letting go leaves alone -/
def VS (v v' : MM) : Prop := ∀ y, y = 29 ∨ y = 32 ∨ y = 33 → v'.1 156 y = v.1 156 y
theorem VS.rf (v : MM) : VS v v := fun _ _ => rfl
theorem VS.tr {v v' v'' : MM} (h : VS v v') (h2 : VS v' v'') : VS v v'' := fun y a => (h2 y a).trans (h y a)
theorem VS.pp {sz n u : Nat} : VS v (ppV v sz n u) := fun y h => by
  unfold ppV
  rw [emV_o (by decide) (by decide) (by decide), wI_k, pk_un (by omega)]
theorem relJ {rt st k0 fr : Nat} {P : List Nat} {least l : Nat} (hl : (least = 1 ∧ 1 ≤ l ∧ l ≤ 5) ∨ (least = 2 ∧ l = 6)) : ∀ (U : List Nat) (x v : MM) (k n : Nat), EI x v rt st k0 k fr n a U P false →
    ∃ (x' v' : MM) (U' : List Nat) (k' n' : Nat), (∀ Q : Value → MM → Prop, G e_X4_release 7 [(0, .ref 1), (1, .int (nI l)), (2, .int (nI (U'.map cw ++ P).length - 1))] [] x' Q → G e_X4_release 7 [(0, .ref 1), (1, .int (nI l)), (2, .int (nI (U.map cw ++ P).length - 1))] [] x Q) ∧
      (∀ (y : MM) (Q : Value → MM → Prop), Q .null (catR y v') → G e_X12_reduce 0 [(0, .ref 156), (1, .int (nI least)), (2, .int 0)] [] (catR y v) Q) ∧
      EI x' v' rt st k0 k' fr n' a U' P false ∧ stopU least U' ∧ opn U' = opn U ∧ k ≤ k' ∧ n ≤ n' ∧ DX x x' ∧ DV v v' ∧ CX x x' ∧ VS v v' ∧ FE (st + k) rt x x' ∧ GE (fr + n) v v' := by
  have stop : ∀ (U : List Nat) (x v : MM) (k n : Nat), EI x v rt st k0 k fr n a U P false → stopU least U → ∃ (x' v' : MM) (U' : List Nat) (k' n' : Nat), (∀ Q : Value → MM → Prop, G e_X4_release 7 [(0, .ref 1), (1, .int (nI l)), (2, .int (nI (U'.map cw ++ P).length - 1))] [] x' Q → G e_X4_release 7 [(0, .ref 1), (1, .int (nI l)), (2, .int (nI (U.map cw ++ P).length - 1))] [] x Q) ∧
      (∀ (y : MM) (Q : Value → MM → Prop), Q .null (catR y v') → G e_X12_reduce 0 [(0, .ref 156), (1, .int (nI least)), (2, .int 0)] [] (catR y v) Q) ∧
      EI x' v' rt st k0 k' fr n' a U' P false ∧ stopU least U' ∧ opn U' = opn U ∧ k ≤ k' ∧ n ≤ n' ∧ DX x x' ∧ DV v v' ∧ CX x x' ∧ VS v v' ∧ FE (st + k) rt x x' ∧ GE (fr + n) v v' := by
    intro U x v k n h hs
    refine ⟨x, v, U, k, n, fun Q hQ => hQ, fun y Q hQ => ?_, h, hs, rfl, Nat.le_refl _, Nat.le_refl _, DX.rf x, DV.rf v, CX.rf x, VS.rf v, FE.rf _ _ x, GE.rf _ v⟩
    obtain ⟨-, -, ⟨-, hv⟩, -, ⟨-, hg, -⟩, b1, b2, b3, b4⟩ := h
    refine reduceM_0 hv (by omega) (fun u U' e => ⟨?_, hs u U' e⟩) (by omega) y hQ
    subst e
    have := hg.u
    omega
  intro U
  induction U with
  | nil => exact fun x v k n h => stop [] x v k n h (fun u U' e => nomatch e)
  | cons u U ih =>
    intro x v k n h
    by_cases c : rk u < least
    · exact stop (u :: U) x v k n h (fun u' U' e => by cases e; exact c)
    · have hu : u ≠ 0 := fun z => c (by subst z; rw [rk_0]; omega)
      obtain ⟨hp, hu5, hu2⟩ := h.pop hu
      obtain ⟨x2, v2, U2, k2, n2, p1, p2, p3, p4, p5, p6, p7, p8, p9, p10, p11, p12, p13⟩ := ih _ _ _ _ hp
      obtain ⟨⟨h1, ht⟩, ⟨h5, h6⟩, ⟨hw, hv⟩, -, ⟨-, hg, -⟩, b1, b2, b3, b4⟩ := h
      have hl1 : (u :: U).length = U.length + 1 := rfl
      rw [hl1] at b2 b3
      have hlen : (U.map cw ++ P).length = U.length + P.length := by rw [List.length_append, List.length_map]
      have ecw := cw_op hu
      have hbd : l ≤ bd (cw u) := by
        have h6 : u = 2 ∨ u = 3 ∨ u = 4 ∨ u = 5 := by omega
        rcases h6 with rfl | rfl | rfl | rfl
        · have : l ≤ 5 := by rcases hl with z | z
                             · omega
                             · exact absurd (show rk 2 < least by rw [z.1]; decide) c
          exact this
        · have : l ≤ 5 := by rcases hl with z | z
                             · omega
                             · exact absurd (show rk 3 < least by rw [z.1]; decide) c
          exact this
        · show l ≤ 6
          omega
        · show l ≤ 6
          omega
      refine ⟨x2, v2, U2, k2, n2, fun Q hQ => ?_, fun y Q hQ => ?_, p3, p4, ?_, by omega, by omega, (DX.pp ht).tr p8, DV.pp.tr p9, (CX.pp ht).tr p10, VS.pp.tr p11, (FE.pp ht (Nat.le_refl _)).tr p12 (by omega), (GE.pp (Nat.le_refl _)).tr p13 (by omega)⟩
      · have hq := relX_1 (W := U.map cw ++ P) (q := cw u) (l := l) h1 ht h5 (by omega) hw (by omega) (by rw [ecw]; omega) hbd (by omega) (p1 Q hQ)
        exact hq
      · refine reduceM_1 (u := u) hv (by omega) (by omega) (by omega) h6 (by omega) y ?_
        exact p2 y Q hQ
      · rw [p5]
        exact (if_neg hu).symm
end

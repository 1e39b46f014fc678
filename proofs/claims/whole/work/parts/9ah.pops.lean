/-! reading: rules: what the class lets go behind a comparison -/
section
variable {x v : MM} {M a : Nat} {K ts : Nat → Nat}
/-- the class's code and what waits -/
def WI (x : MM) (rt st k : Nat) (W : List Nat) : Prop := (x.2.2 1 4 = rt ∧ isT rt) ∧ x.1 (rt + 8) 5 = nI (st + k) ∧ wtX x W ∧ Coded (cdX x rt) st k ∧ st + k + W.length + 2 ≤ 401
def Sm (x : MM) (rt st k : Nat) (L : (Nat → Int32) → List Int32) : Prop := ∀ vs, cr (cdX x rt) (cvOf vs) st k = some (L vs, false)
def Bs (o an : Bool) : List Nat := (if an then [24] else []) ++ (if o then [23] else [])
def Ls (o an : Bool) (A B : (Nat → Int32) → Bool) (vs : Nat → Int32) : List Int32 := (if an then [bI (B vs)] else []) ++ (if o then [bI (A vs)] else [])
def frX (rt st k : Nat) (x x' : MM) : Prop := DX x x' ∧ CX x x' ∧ FE (st + k) rt x x'
theorem frX.rf {rt st k : Nat} : frX rt st k x x := ⟨DX.rf x, CX.rf x, FE.rf _ _ x⟩
theorem frX.tr {rt st k k' : Nat} {x' x'' : MM} (h : frX rt st k x x') (h2 : frX rt st k' x' x'') (hk : k ≤ k') : frX rt st k x x'' := ⟨h.1.tr h2.1, h.2.1.tr h2.2.1, h.2.2.tr h2.2.2 (by omega)⟩
theorem pop1 {rt st k l p : Nat} {W : List Nat} (h : WI x rt st k (p :: W)) (hp : p < 40) (h28 : p ≠ 28) (hb : l ≤ bd p) : ∃ x', (∀ Q : Value → MM → Prop, G e_X4_release 7 [(0, .ref 1), (1, .int (nI l)), (2, .int (nI W.length - 1))] [] x' Q → G e_X4_release 7 [(0, .ref 1), (1, .int (nI l)), (2, .int (nI (p :: W).length - 1))] [] x Q) ∧ WI x' rt st (k + 1) W ∧ cdX x' rt = upd (cdX x rt) (st + k) (-1 - nI p) ∧ frX rt st k x x' := by
  obtain ⟨⟨h1, ht⟩, h5, hw, hC, hb4⟩ := h
  have hc : rt = 10 ∨ rt = 100 := ht
  have hl : (p :: W).length = W.length + 1 := rfl
  have hb6 := bd_le p
  have eX : cdX (ppX x rt (st + k) W.length p) rt = upd (cdX x rt) (st + k) (-1 - nI p) := by
    unfold ppX
    rw [show cdX (wI (adX x rt (st + k) (-1 - nI p)) 1 13 (nI W.length)) rt = cdX (adX x rt (st + k) (-1 - nI p)) rt from by unfold cdX; rw [wI_o (by omega)], adX_c]
  refine ⟨ppX x rt (st + k) W.length p, fun Q hQ => relX_1 h1 ht h5 (by omega) hw (by omega) hp hb (by omega) hQ, ⟨⟨h1, ht⟩, ?_, ppX_w ht hw, ?_, by omega⟩, eX, DX.pp ht, CX.pp ht, FE.pp ht (Nat.le_refl _)⟩
  · unfold ppX
    rw [wI_o (by omega), adX_5]; rfl
  · rw [eX]
    exact (hC.cong fun i hi => pk_un (by omega)).sign hp h28 pk_us
theorem cr_up {cd cd' cv : Nat → Int32} {st k : Nat} {w : Int32} (e : cd' = upd cd (st + k) w) : cr cd' cv st k = cr cd cv st k := by
  rw [e]
  exact cr_cong fun i hi => pk_un (by omega)
/-- the negations above what stands waiting -/
theorem popNot {rt st l : Nat} {W : List Nat} {L : (Nat → Int32) → List Int32} (hl : l ≤ 3) : ∀ (j : Nat) (x : MM) (k : Nat) (z : (Nat → Int32) → Bool), WI x rt st k (List.replicate j 25 ++ W) → Sm x rt st k (fun vs => bI (z vs) :: L vs) →
    ∃ x', (∀ Q : Value → MM → Prop, G e_X4_release 7 [(0, .ref 1), (1, .int (nI l)), (2, .int (nI W.length - 1))] [] x' Q → G e_X4_release 7 [(0, .ref 1), (1, .int (nI l)), (2, .int (nI (List.replicate j 25 ++ W).length - 1))] [] x Q) ∧ WI x' rt st (k + j) W ∧ Sm x' rt st (k + j) (fun vs => bI (z vs != decide (j % 2 = 1)) :: L vs) ∧ frX rt st k x x' := by
  intro j
  induction j with
  | zero =>
    intro x k z h hs
    refine ⟨x, fun Q hQ => hQ, h, fun vs => ?_, frX.rf⟩
    have := hs vs
    have e : (z vs != decide (0 % 2 = 1)) = z vs := by cases z vs <;> rfl
    show cr (cdX x rt) (cvOf vs) st k = some (bI (z vs != decide (0 % 2 = 1)) :: L vs, false)
    rw [e]; exact this
  | succ j ih =>
    intro x k z h hs
    obtain ⟨x1, g1, g2, g3, g4⟩ := pop1 (p := 25) (W := List.replicate j 25 ++ W) (l := l) h (by decide) (by decide) (show l ≤ 3 from hl)
    have hs1 : Sm x1 rt st (k + 1) (fun vs => bI (!(z vs)) :: L vs) := fun vs => not_sem (by rw [cr_up g3]; exact hs vs) (by rw [g3, pk_us])
    obtain ⟨x2, q1, q2, q3, q4⟩ := ih x1 (k + 1) (fun vs => !(z vs)) g2 hs1
    refine ⟨x2, fun Q hQ => g1 Q (q1 Q hQ), by rw [show k + (j + 1) = k + 1 + j by omega]; exact q2, fun vs => ?_, g4.tr q4 (by omega)⟩
    rw [show k + (j + 1) = k + 1 + j by omega, q3 vs]
    have e : ((!(z vs)) != decide (j % 2 = 1)) = (z vs != decide ((j + 1) % 2 = 1)) := by
      have hm : j % 2 = 0 ∨ j % 2 = 1 := by omega
      rcases hm with hm | hm
      · rw [hm, show (j + 1) % 2 = 1 by omega]; cases z vs <;> rfl
      · rw [hm, show (j + 1) % 2 = 0 by omega]; cases z vs <;> rfl
    show some (bI ((!(z vs)) != decide (j % 2 = 1)) :: L vs, false) = some (bI (z vs != decide ((j + 1) % 2 = 1)) :: L vs, false)
    rw [e]
theorem b24 : bd 24 = 2 := rfl
theorem b23 : bd 23 = 1 := rfl
/-- the groups' own signs -/
theorem popB {rt st k l : Nat} {o an : Bool} {A B z : (Nat → Int32) → Bool} (hl : l = 1 ∨ l = 2) (h : WI x rt st k (Bs o an)) (hs : Sm x rt st k (fun vs => bI (z vs) :: Ls o an A B vs)) (ho : o = false → ∀ vs, A vs = false) (han : an = false → ∀ vs, B vs = true) :
    ∃ (x' : MM) (k' : Nat), (∀ Q : Value → MM → Prop, Q .null x' → G e_X4_release 7 [(0, .ref 1), (1, .int (nI l)), (2, .int (nI (Bs o an).length - 1))] [] x Q) ∧ WI x' rt st k' (if l = 1 then [] else Bs o false) ∧ (k ≤ k' ∧ k' + (if l = 1 then [] else Bs o false).length = k + (Bs o an).length) ∧ frX rt st k x x' ∧
      (l = 1 → Sm x' rt st k' (fun vs => [bI (A vs || (B vs && z vs))])) ∧ (l = 2 → Sm x' rt st k' (fun vs => bI (B vs && z vs) :: Ls o false A B vs)) := by
  -- first AND
  have hand : ∃ (x' : MM) (k' : Nat), (∀ Q : Value → MM → Prop, G e_X4_release 7 [(0, .ref 1), (1, .int (nI l)), (2, .int (nI (Bs o false).length - 1))] [] x' Q → G e_X4_release 7 [(0, .ref 1), (1, .int (nI l)), (2, .int (nI (Bs o an).length - 1))] [] x Q) ∧ WI x' rt st k' (Bs o false) ∧ (k ≤ k' ∧ k' + (Bs o false).length = k + (Bs o an).length) ∧ frX rt st k x x' ∧ Sm x' rt st k' (fun vs => bI (B vs && z vs) :: Ls o false A B vs) := by
    cases an with
    | false =>
      refine ⟨x, k, fun Q hQ => hQ, h, ⟨Nat.le_refl _, rfl⟩, frX.rf, fun vs => ?_⟩
      show cr (cdX x rt) (cvOf vs) st k = some (bI (B vs && z vs) :: Ls o false A B vs, false)
      rw [han rfl vs, Bool.true_and]
      exact hs vs
    | true =>
      obtain ⟨x1, g1, g2, g3, g4⟩ := pop1 (p := 24) (W := Bs o false) (l := l) h (by decide) (by decide) (by rw [b24]; omega)
      refine ⟨x1, k + 1, g1, g2, ⟨by omega, ?_⟩, g4, fun vs => and_sem ?_ (by rw [g3, pk_us])⟩
      · have : (Bs o true).length = (Bs o false).length + 1 := by cases o <;> rfl
        omega
      rw [cr_up g3]
      exact hs vs
  obtain ⟨x1, k1, a1, a2, a3, a4, a5⟩ := hand
  rcases hl with rfl | rfl
  · cases o with
    | false =>
      refine ⟨x1, k1, fun Q hQ => a1 Q (relX_0 (W := []) a2.2.2.1 (by decide) (fun q W' e => nomatch e) (by decide) hQ), a2, a3, a4, fun _ vs => ?_, fun z => by omega⟩
      show cr (cdX x1 rt) (cvOf vs) st k1 = some ([bI (A vs || (B vs && z vs))], false)
      rw [ho rfl vs, Bool.false_or]
      exact a5 vs
    | true =>
      obtain ⟨x2, g1, g2, g3, g4⟩ := pop1 (p := 23) (W := []) (l := 1) a2 (by decide) (by decide) (by decide)
      refine ⟨x2, k1 + 1, fun Q hQ => a1 Q (g1 Q (relX_0 (W := []) g2.2.2.1 (by decide) (fun q W' e => nomatch e) (by decide) hQ)), g2, ⟨by omega, ?_⟩, a4.tr g4 a3.1, fun _ vs => or_sem ?_ (by rw [g3, pk_us]), fun z => by omega⟩
      · have h1 := a3.2
        have h2 : (Bs true false).length = 1 := rfl
        rw [h2] at h1
        rw [if_pos rfl]
        exact h1
      · rw [cr_up g3]
        exact a5 vs
  · refine ⟨x1, k1, fun Q hQ => a1 Q (relX_0 (W := Bs o false) a2.2.2.1 ?_ (fun q W' e => ?_) (by decide) hQ), a2, a3, a4, fun z => by omega, fun _ => a5⟩
    · cases o <;> decide
    · cases o with
      | false => cases e
      | true => cases e; decide
end

/-! reading: a rule's condition, from its first token -/
section
variable {x v : MM} {M a : Nat} {K ts : Nat → Nat}
theorem ruleE {rt st fr f : Nat} (h : RC x v M K ts a) (hrt : x.2.2 1 4 = rt ∧ isT rt) (h5 : x.1 (rt + 8) 5 = nI st) (h6 : v.1 164 1 = nI fr) (h7 : v.1 167 1 = nI f) (hb : st + 2 ≤ a) (hf : fr ≤ a) (h2 : 2 * f + 2 ≤ a) :
    ∃ x' v' : MM, Runs e_X4_readFormula [.ref 1, .int 1] x (fun r m => r = .null ∧ m = x') ∧ FE st rt x x' ∧ VE fr f (wI v 156 33 (nI f)) v' ∧
      ((JM false x' v' M K ts 0 ∧ ∀ y, Runs e_X12_cond [.ref 156] (catR y v) (fun r m => r = .int (bI false) ∧ m = catR y v')) ∨
       ((∀ y, Runs e_X12_cond [.ref 156] (catR y v) (fun r m => r = .int (bI true) ∧ m = catR y v')) ∧ ∃ (a' k fr' N : Nat) (ok : Bool), SE x' v' M K ts a' ok ∧ (a ≤ a' ∧ fr ≤ fr') ∧ v'.1 156 33 = nI f ∧ RU x' v' rt st k fr' f N a')) := by
  have ht := hrt.2
  have hc : rt = 10 ∨ rt = 100 := ht
  have ha := h.2.1
  have m4 := h.1.2.2.1.2.1
  obtain ⟨f14, f15, f13, f16, f17⟩ := fmX_1 (x := x) (s := 1) (c := 1)
  have hR : RC (fmX x 1 1) (wI v 156 33 (nI f)) M K ts a := h.mix DX.fm ((DV.rf v).w (by omega) _)
  have hC : CE (fmX x 1 1) 1 0 true := ⟨f14, f15, f16⟩
  have hI : LI (fmX x 1 1) (wI v 156 33 (nI f)) rt st 0 fr f 0 0 a false false 0 := by
    refine ⟨⟨⟨hrt, ?_, ⟨f13, trivial⟩, (fun i hi => by omega), ?_⟩, ?_, by omega⟩, fun vs => rfl, ⟨fun _ _ => rfl, fun _ _ => rfl⟩, ⟨?_, hf, ?_, by omega⟩, fun i hi => by omega, Nat.le_refl _⟩
    · rw [fmX_o (by omega)]; exact h5
    · show st + 0 + 0 + 2 ≤ 401
      omega
    · show st + 0 + 0 + 2 ≤ a
      omega
    · rw [wI_o (by decide)]; exact h6
    · rw [wI_o (by decide)]; exact h7
  have hfm : ∀ Q : Value → MM → Prop, G e_X4_readFormula 36 [(0, .ref 1), (2, .int (nI 0))] [] (fmX x 1 1) Q → Runs e_X4_readFormula [.ref 1, .int 1] x Q := fun Q hQ => by
    apply b_X4_readFormula
    exact ⟨fun z => absurd rfl z, fun _ => hQ⟩
  have hm : ∀ (y : MM) (Q : Value → MM → Prop), G e_X12_cond 32 [(0, .ref 156), (1, .int (nI 0)), (3, .int (nI (200 + (f + 0)))), (4, .int (bI (decide (0 % 2 = 1))))] [] (catR y (wI v 156 33 (nI f))) Q → Runs e_X12_cond [.ref 156] (catR y v) Q := fun y Q hQ => by
    apply b_X12_cond
    have e : (catR y v).1 167 1 = nI f := by rw [cr_1 (by decide)]; exact h7
    rw [e, cr_w (by decide)]
    exact mC_go (m := f) (by rw [wI_o (by decide)]; exact h7) y hQ
  rcases condL (402) a (fmX x 1 1) (wI v 156 33 (nI f)) 0 0 fr 0 0 false false 0 (by omega) hR hI hC f17 (Nat.zero_le _) with ⟨x1, v1, q1, q2, q3, q4, q5⟩ | ⟨x1, v1, a1, k1, fr1, N, ok, q1, q2, q3, q4, q5, q6, q7⟩
  · exact ⟨x1, v1, hfm _ (q1 _ ⟨rfl, rfl⟩), (FE.fm ht).tr q4 (Nat.le_refl _), q5, Or.inl ⟨q3, fun y => hm y _ (q2 y _ ⟨rfl, rfl⟩)⟩⟩
  · refine ⟨x1, v1, hfm _ (q1 _ ⟨rfl, rfl⟩), (FE.fm ht).tr q5 (Nat.le_refl _), q6, Or.inr ⟨fun y => hm y _ (q2 y _ ⟨rfl, rfl⟩), a1, k1, fr1, N, ok, q3, q4, ?_, q7⟩⟩
    rw [q6.2.2.1 33 (by omega), wI_k, pk_us]
end

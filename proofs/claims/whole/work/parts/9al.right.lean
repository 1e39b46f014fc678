/-! reading: behind a literal's right side: what the class lets go -/
section
variable {x v : MM} {M a : Nat} {K ts : Nat → Nat}
theorem litR {rt st k k3 k6 fr n3 n6 m q j l : Nat} {o an : Bool} {U : List Nat} {A B : (Nat → Int32) → Bool} (hl : l = 1 ∨ l = 2) (h : RX x v K rt st k k3 k6 fr n3 n6 m a q (List.replicate j 25 ++ Bs o an) U (Ls o an A B)) (ho : o = false → ∀ vs, A vs = false) (han : an = false → ∀ vs, B vs = true) (x7 : MM) (hx : FX x x7) :
    ∃ (x10 v8 : MM) (k10 n8 : Nat), Runs e_X4_release [.ref 1, .int (nI l)] x7 (fun r m => r = .null ∧ m = x10) ∧ (∀ y, Runs e_X12_reduce [.ref 156, .int (nI 1), .int 0] (catR y v) (fun r m => r = .null ∧ m = catR y v8)) ∧
      WI x10 rt st k10 (if l = 1 then [] else Bs o false) ∧ st + k10 + (if l = 1 then [] else Bs o false).length + 2 ≤ a ∧ k ≤ k10 ∧ (DX x7 x10 ∧ CX x7 x10 ∧ FE (st + k) rt x7 x10) ∧ (DV v v8 ∧ VS v v8 ∧ GE (fr + n3) v v8) ∧
      (v8.1 164 1 = nI (fr + n3 + n8) ∧ fr + n3 + n8 ≤ a) ∧ (v8.1 170 (200 + m) = nI fr ∧ v8.1 171 (200 + m) = nI (fr + n3) ∧ v8.1 169 (200 + m) = nI (smN q) ∧ v8.1 167 1 = nI m) ∧ (SegOK (opV v8) (vaV v8) fr n3 ∧ SegOK (opV v8) (vaV v8) (fr + n3) n8) ∧
      (l = 1 → Sm x10 rt st k10 (fun vs => [bI (A vs || (B vs && (cmS (opV v8) (vaV v8) vs q fr n3 (fr + n3) n8 != decide (j % 2 = 1))))])) ∧
      (l = 2 → Sm x10 rt st k10 (fun vs => bI (B vs && (cmS (opV v8) (vaV v8) vs q fr n3 (fr + n3) n8 != decide (j % 2 = 1))) :: Ls o false A B vs)) := by
  obtain ⟨hE, hop, hC, hr, hA, hS1, hSm, ⟨h170, h171, h169, h167⟩, hq, hkk⟩ := h
  have ht : isT rt := hE.1.2
  have hc : rt = 10 ∨ rt = 100 := ht
  have hE7 : EI x7 v rt st k3 k6 (fr + n3) n6 a U (q :: (List.replicate j 25 ++ Bs o an)) false := hE.mix ht hx (FV.rf v)
  have hlb : ((1 : Nat) = 1 ∧ 1 ≤ l ∧ l ≤ 5) ∨ ((1 : Nat) = 2 ∧ l = 6) := Or.inl ⟨rfl, by omega, by omega⟩
  obtain ⟨x8, v8, U8, k8, n8, p1, p2, p3, p4, p5, p6, p7, p8, p9, p10, p11, p12, p13⟩ := relJ hlb U x7 v k6 n6 hE7
  have hU : U8 = [] := by
    rcases stop_1 p3.2.2.2.2.1.2.1 p4 with z | ⟨U', z⟩
    · exact z
    · subst z
      have : opn U' + 1 = opn U := p5
      omega
  subst hU
  have hw7 := hE7.2.2.1.1
  obtain ⟨⟨r1, -⟩, ⟨s5, s6⟩, ⟨hw8, hv8⟩, ⟨hA8, hSg, hCd8⟩, ⟨hd, -, -⟩, d1, d2, d3, d4⟩ := p3
  have hw8 : wtX x8 (q :: (List.replicate j 25 ++ Bs o an)) := hw8
  have hlen : (q :: (List.replicate j 25 ++ Bs o an)).length = (List.replicate j 25 ++ Bs o an).length + 1 := rfl
  have hlen2 : (List.replicate j 25 ++ Bs o an).length = j + (Bs o an).length := by rw [List.length_append, List.length_replicate]
  have d2 : st + k8 + 0 + (q :: (List.replicate j 25 ++ Bs o an)).length + 2 ≤ a := d2
  have d3 : fr + n3 + n8 + 0 ≤ a := d3
  obtain ⟨b4, bq⟩ := bd_cmp hq
  -- the comparison
  have hW8 : WI x8 rt st k8 (q :: (List.replicate j 25 ++ Bs o an)) := ⟨⟨r1, ht⟩, s5, hw8, hCd8, by omega⟩
  obtain ⟨x9, g1, g2, g3, g4⟩ := pop1 (l := l) hW8 bq (by omega) (by rw [b4]; omega)
  have k3k : k3 ≤ k6 := hE.2.2.2.2.2.1
  have c8 : ∀ i, i < k6 → cdX x9 rt (st + i) = cdX x rt (st + i) := fun i hi => by
    rw [g3, pk_un (by omega), p12.2.2.2.2 _ (by omega)]
    unfold cdX
    rw [hx.2.1 _ (by omega)]
  have e8 : ∀ i, i < fr + n3 → opV v8 i = opV v i ∧ vaV v8 i = vaV v i := fun i hi => p13.2.2.2.2.1 i (by omega)
  have hdp : dp (opV v8) (fr + n3) n8 = 1 := hd
  have hS9 : Sm x9 rt st (k8 + 1) (fun vs => bI (cmS (opV v8) (vaV v8) vs q fr n3 (fr + n3) n8) :: Ls o an A B vs) := by
    refine fun vs => cmp_sem (op := opV v8) (va := vaV v8) (k0 := k) (k1 := k3) (B0 := Ls o an A B) (fun vs => ?_) (hA.cong hkk (fun i hi => c8 i (by omega)) fun i hi => e8 _ (by omega)) ?_ (hA8.cong d1 (fun i hi => ?_) fun i hi => ⟨rfl, rfl⟩) hdp hq ?_ vs
    · rw [cr_cong (cd := cdX x rt) fun i hi => c8 i (by omega)]
      exact hSm vs
    · rw [dp_cong fun i hi => (e8 _ (by omega)).1]; exact hS1.2
    · rw [g3, pk_un (by omega)]
    · rw [g3, pk_us]
  obtain ⟨x9b, G1, G2, G3, G4⟩ := popNot (l := l) (W := Bs o an) (L := Ls o an A B) (by omega) j x9 (k8 + 1) (fun vs => cmS (opV v8) (vaV v8) vs q fr n3 (fr + n3) n8) g2 hS9
  obtain ⟨x10, k10, H1, H2, H3, H4, H5, H6⟩ := popB hl G2 G3 ho han
  have row : ∀ r, r ≠ 156 → r ≠ 164 → r ≠ 165 → r ≠ 166 → r ≠ 178 → v8.1 r = v.1 r := p13.2.1
  have hfr : frX rt st k8 x8 x10 := (g4.tr G4 (by omega)).tr H4 (by omega)
  have hb := H3.2
  refine ⟨x10, v8, k10, n8, ?_, fun y => b_X12_reduce _ _ _ _ (p2 y _ ⟨rfl, rfl⟩), H2, by omega, by omega, ⟨p8.tr hfr.1, p10.tr hfr.2.1, ?_⟩, ⟨p9, p11, ?_⟩, ⟨s6, by omega⟩, ⟨?_, ?_, ?_, ?_⟩, ⟨hS1.cong fun i hi => e8 _ (by omega), hSg, hdp⟩, H5, H6⟩
  · apply b_X4_release
    rw [hw7.1]
    exact p1 _ (g1 _ (G1 _ (H1 _ ⟨rfl, rfl⟩)))
  · have f1 : FE (st + k) rt x7 x8 := ⟨p12.1, p12.2.1, p12.2.2.1, p12.2.2.2.1, fun i hi => p12.2.2.2.2 i (by omega)⟩
    exact f1.tr hfr.2.2 (by omega)
  · exact ⟨p13.1, p13.2.1, p13.2.2.1, p13.2.2.2.1, fun i hi => p13.2.2.2.2.1 i (by omega), p13.2.2.2.2.2⟩
  · rw [row 170 (by decide) (by decide) (by decide) (by decide) (by decide)]; exact h170
  · rw [row 171 (by decide) (by decide) (by decide) (by decide) (by decide)]; exact h171
  · rw [row 169 (by decide) (by decide) (by decide) (by decide) (by decide)]; exact h169
  · rw [row 167 (by decide) (by decide) (by decide) (by decide) (by decide)]; exact h167
end

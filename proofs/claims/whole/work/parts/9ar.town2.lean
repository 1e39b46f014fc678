/-! reading: the town so far, and what keeps it -/
section
variable {x v x' v' : MM} {M a : Nat} {K ts : Nat → Nat}
/-- crews, JACK, and the quays' bits -/
def TBa (x v : MM) (rt Qn C J : Nat) : Prop := (1 ≤ C ∧ C ≤ 9) ∧ (1 ≤ J ∧ J ≤ 99) ∧ hc x v 162 6 = nI C ∧ hc x v 162 7 = nI J ∧ x.1 rt 14 = nI C ∧ x.1 rt 15 = nI J ∧ x.1 rt 12 = nI (qs (hc x v 162) Qn)
/-- what is told one after another -/
def TBb (x v : MM) (rt H O S Qn W : Nat) : Prop :=
  (∀ h, h < H → (∃ n : Nat, n ≤ 40 ∧ hc x v 162 (20 + 3 * h) = nI n) ∧ x.1 (rt + 1) h = hc x v 162 (20 + 3 * h) ∧ x.1 (rt + 2) h = hc x v 162 (20 + 3 * h + 2)) ∧
  (∀ o, o < O → (∃ r : Nat, r ≤ 99 ∧ hc x v 162 (70 + o) = nI r) ∧ x.1 (rt + 3) o = hc x v 162 (70 + o)) ∧
  (∀ s, s < S → (∃ a r : Nat, a < H ∧ r ≤ 99 ∧ hc x v 162 (120 + 3 * s) = nI a ∧ hc x v 162 (120 + 3 * s + 2) = nI r ∧ (hc x v 162 (120 + 3 * s + 1) = -nI 1 ∨ ∃ b : Nat, b < H ∧ b ≠ a ∧ hc x v 162 (120 + 3 * s + 1) = nI b)) ∧ x.1 (rt + 4) s = hc x v 162 (120 + 3 * s) ∧ x.1 (rt + 5) s = hc x v 162 (120 + 3 * s + 1) ∧ x.1 (rt + 6) s = hc x v 162 (120 + 3 * s + 2)) ∧
  (∀ q, q < Qn → ∃ a : Nat, a < H ∧ hc x v 162 (160 + q) = nI a) ∧
  (∀ w, w < W → (∃ l : Nat, 1 ≤ l ∧ l ≤ 60 ∧ hc x v 162 (170 + 2 * w) = nI l) ∧ x.1 (rt + 7) w = hc x v 162 (170 + 2 * w))
def TBl (x v : MM) (rt sz fr : Nat) : Prop := LawB x v rt 0 sz fr ∧ LawB x v rt 1 sz fr ∧ LawB x v rt 2 sz fr
def TBr (x v : MM) (rt F B sz fr L : Nat) : Prop := (∀ k, k < F → RuleB x v rt 2 190 k sz fr L) ∧ ∀ k, k < B → RuleB x v rt 3 200 k sz fr L
def INV (x v : MM) (M : Nat) (K : Nat → Nat) (rt rs a : Nat) : Prop := ∃ H O I S Qn W F B sz fr f : Nat, DC x v M K rt rs H O I S Qn W F B sz fr f a ∧ (x.1 1 9 = 0 → ∃ C J : Nat, TBa x v rt Qn C J ∧ TBb x v rt H O S Qn W ∧ TBl x v rt sz fr ∧ TBr x v rt F B sz fr f ∧ SR x v rs H O I W)
theorem TB_town {rt rs H O I S Qn W F B sz fr f C J : Nat} (h : DC x v M K rt rs H O I S Qn W F B sz fr f a) (ha : a ≤ 400) (h1 : TBa x v rt Qn C J) (h2 : TBb x v rt H O S Qn W) (h3 : TBl x v rt sz fr) (h4 : TBr x v rt F B sz fr f) : TownR (hc x v) rt H O S Qn W C J F B := by
  obtain ⟨⟨⟨-, ht⟩, -, -⟩, ⟨l1, l2, l3, l4, l5, l6⟩, ⟨x1, x2, x3, x4, x5, x6, x7, -⟩, ⟨m1, m2, m3, m4, m5, m6, m7, m8⟩, ⟨s1, -, -, s4, s5, s6, s7⟩, hN⟩ := h
  obtain ⟨-, -, n1, -⟩ := hN
  obtain ⟨c1, c2, c3, c4, c5, c6, c7⟩ := h1
  obtain ⟨b1, b2, b3, b4, b5⟩ := h2
  have hcc : rt = 10 ∨ rt = 100 := ht
  have e : ∀ r y, r < 40 → hc x v (rt + r) y = x.1 (rt + r) y := fun r y hr => hc_x (by omega)
  have eq : quayN (hc x v 162) = qs (hc x v 162) Qn := by
    unfold quayN
    rw [show hc x v 162 4 = nI Qn from m5, nI_clamp (by omega)]
  refine ⟨⟨n1.1, n1.2, l2, l3, l4, c1, c2, l5, l6⟩, ⟨m1, m2, m4, m5, m6, c3, c4, m7, m8⟩, ⟨?_, ?_, ?_, ?_, ?_, ?_, ?_, ?_, ?_, ?_⟩, fun h hh => ⟨(b1 h hh).1, ?_, ?_⟩, fun o ho => ⟨(b2 o ho).1, ?_⟩, fun s hs => ⟨(b3 s hs).1, ?_, ?_, ?_⟩, b4, fun w hw => ⟨(b5 w hw).1, ?_⟩, ⟨h3.1.law ht s1 (by omega) (by omega), h3.2.1.law ht s1 (by omega) (by omega), h3.2.2.law ht s1 (by omega) (by omega)⟩, fun k hk => (h4.1 k hk).rule ht (by decide) s1 (by omega) (by omega) (by omega), fun k hk => (h4.2 k hk).rule ht (by decide) s1 (by omega) (by omega) (by omega)⟩
  · exact (e 0 8 (by decide)).trans x1
  · exact (e 0 9 (by decide)).trans x2
  · exact (e 0 10 (by decide)).trans x3
  · exact (e 0 11 (by decide)).trans x4
  · rw [eq]; exact (e 0 12 (by decide)).trans c7
  · exact (e 0 13 (by decide)).trans x5
  · exact (e 0 14 (by decide)).trans c5
  · exact (e 0 15 (by decide)).trans c6
  · exact (e 8 11 (by decide)).trans x6
  · exact (e 8 12 (by decide)).trans x7
  · exact (e 1 h (by decide)).trans (b1 h hh).2.1
  · exact (e 2 h (by decide)).trans (b1 h hh).2.2
  · exact (e 3 o (by decide)).trans (b2 o ho).2
  · exact (e 4 s (by decide)).trans (b3 s hs).2.1
  · exact (e 5 s (by decide)).trans (b3 s hs).2.2.1
  · exact (e 6 s (by decide)).trans (b3 s hs).2.2.2
  · exact (e 7 w (by decide)).trans (b5 w hw).2
theorem qs_cong {st st' : Nat → Int32} : ∀ {n : Nat}, (∀ q, q < n → st' (160 + q) = st (160 + q)) → qs st' n = qs st n
  | 0, _ => rfl
  | n + 1, h => by
    unfold qs
    rw [qs_cong (n := n) fun q hq => h q (by omega), h n (by omega)]
theorem TBa.keep {rt Qn C J : Nat} (h : TBa x v rt Qn C J) (hm : ∀ j, j = 6 ∨ j = 7 ∨ (160 ≤ j ∧ j < 160 + Qn) → hc x' v' 162 j = hc x v 162 j) (h14 : x'.1 rt 14 = x.1 rt 14) (h15 : x'.1 rt 15 = x.1 rt 15) (h12 : x'.1 rt 12 = x.1 rt 12) : TBa x' v' rt Qn C J := by
  unfold TBa
  rw [hm 6 (by omega), hm 7 (by omega), h14, h15, h12, qs_cong (st := hc x v 162) fun q hq => hm _ (by omega)]
  exact h
theorem TBb.keep {rt H H' O S Qn W : Nat} (h : TBb x v rt H O S Qn W) (hH : H ≤ H') (hm : ∀ j, (20 ≤ j ∧ j < 20 + 3 * H ∧ (j - 20) % 3 ≠ 1) ∨ (70 ≤ j ∧ j < 70 + O) ∨ (120 ≤ j ∧ j < 120 + 3 * S) ∨ (160 ≤ j ∧ j < 160 + Qn) ∨ (170 ≤ j ∧ j < 170 + 2 * W) → hc x' v' 162 j = hc x v 162 j)
    (h1 : ∀ y, y < H → x'.1 (rt + 1) y = x.1 (rt + 1) y ∧ x'.1 (rt + 2) y = x.1 (rt + 2) y) (h3 : ∀ y, y < O → x'.1 (rt + 3) y = x.1 (rt + 3) y) (h4 : ∀ y, y < S → x'.1 (rt + 4) y = x.1 (rt + 4) y ∧ x'.1 (rt + 5) y = x.1 (rt + 5) y ∧ x'.1 (rt + 6) y = x.1 (rt + 6) y) (h7 : ∀ y, y < W → x'.1 (rt + 7) y = x.1 (rt + 7) y) :
    (∀ h, h < H → (∃ n : Nat, n ≤ 40 ∧ hc x' v' 162 (20 + 3 * h) = nI n) ∧ x'.1 (rt + 1) h = hc x' v' 162 (20 + 3 * h) ∧ x'.1 (rt + 2) h = hc x' v' 162 (20 + 3 * h + 2)) ∧
    (∀ o, o < O → (∃ r : Nat, r ≤ 99 ∧ hc x' v' 162 (70 + o) = nI r) ∧ x'.1 (rt + 3) o = hc x' v' 162 (70 + o)) ∧
    (∀ s, s < S → (∃ a r : Nat, a < H' ∧ r ≤ 99 ∧ hc x' v' 162 (120 + 3 * s) = nI a ∧ hc x' v' 162 (120 + 3 * s + 2) = nI r ∧ (hc x' v' 162 (120 + 3 * s + 1) = -nI 1 ∨ ∃ b : Nat, b < H' ∧ b ≠ a ∧ hc x' v' 162 (120 + 3 * s + 1) = nI b)) ∧ x'.1 (rt + 4) s = hc x' v' 162 (120 + 3 * s) ∧ x'.1 (rt + 5) s = hc x' v' 162 (120 + 3 * s + 1) ∧ x'.1 (rt + 6) s = hc x' v' 162 (120 + 3 * s + 2)) ∧
    (∀ q, q < Qn → ∃ a : Nat, a < H' ∧ hc x' v' 162 (160 + q) = nI a) ∧
    (∀ w, w < W → (∃ l : Nat, 1 ≤ l ∧ l ≤ 60 ∧ hc x' v' 162 (170 + 2 * w) = nI l) ∧ x'.1 (rt + 7) w = hc x' v' 162 (170 + 2 * w)) := by
  obtain ⟨b1, b2, b3, b4, b5⟩ := h
  refine ⟨fun h hh => ?_, fun o ho => ?_, fun s hs => ?_, fun q hq => ?_, fun w hw => ?_⟩
  · rw [hm _ (by omega), hm _ (by omega), (h1 h hh).1, (h1 h hh).2]; exact b1 h hh
  · rw [hm _ (by omega), h3 o ho]; exact b2 o ho
  · rw [hm _ (by omega), hm _ (by omega), hm _ (by omega), (h4 s hs).1, (h4 s hs).2.1, (h4 s hs).2.2]
    obtain ⟨⟨a, r, r1, r2, r3, r4, r5⟩, r6⟩ := b3 s hs
    refine ⟨⟨a, r, by omega, r2, r3, r4, ?_⟩, r6⟩
    rcases r5 with r5 | ⟨b, b1, b2⟩
    · exact Or.inl r5
    · exact Or.inr ⟨b, by omega, b2⟩
  · rw [hm _ (by omega)]
    obtain ⟨a, a1, a2⟩ := b4 q hq
    exact ⟨a, by omega, a2⟩
  · rw [hm _ (by omega), h7 w hw]; exact b5 w hw
theorem TBl.keep {rt sz fr : Nat} (h : TBl x v rt sz fr) (hx : ∀ i, i < sz → cdX x' rt i = cdX x rt i) (hv : ∀ i, i < fr → opV v' i = opV v i ∧ vaV v' i = vaV v i) {sz' fr' : Nat} (hs : sz ≤ sz') (hf : fr ≤ fr') (hm : ∀ j, 10 ≤ j → j < 16 → hc x' v' 162 j = hc x v 162 j) (h8 : ∀ y, 8 ≤ y → y ≤ 10 → x'.1 (rt + 8) y = x.1 (rt + 8) y) : TBl x' v' rt sz' fr' :=
  ⟨h.1.up (L := 0) hx hv hs hf (hm _ (by decide) (by decide)) (hm _ (by decide) (by decide)) (h8 _ (by decide) (by decide)), h.2.1.up (L := 0) hx hv hs hf (hm _ (by decide) (by decide)) (hm _ (by decide) (by decide)) (h8 _ (by decide) (by decide)), h.2.2.up (L := 0) hx hv hs hf (hm _ (by decide) (by decide)) (hm _ (by decide) (by decide)) (h8 _ (by decide) (by decide))⟩
theorem TBr.keep {rt F B sz sz' fr fr' L L' : Nat} (h : TBr x v rt F B sz fr L) (hx : ∀ i, i < sz → cdX x' rt i = cdX x rt i) (hv : VE fr L v v' ∨ (opV v' = opV v ∧ vaV v' = vaV v ∧ ∀ r, 168 ≤ r → r ≤ 173 → v'.1 r = v.1 r)) (h5 : fr ≤ 500) (hs : sz ≤ sz') (hf : fr ≤ fr') (hL : L ≤ L') (hm : ∀ j, (190 ≤ j ∧ j < 190 + 2 * F) ∨ (200 ≤ j ∧ j < 200 + 2 * B) → hc x' v' 162 j = hc x v 162 j) (h2 : ∀ y, y < F → x'.1 (rt + 8 + 2) y = x.1 (rt + 8 + 2) y) (h3 : ∀ y, y < B → x'.1 (rt + 8 + 3) y = x.1 (rt + 8 + 3) y) : TBr x' v' rt F B sz' fr' L' :=
  ⟨fun k hk => (h.1 k hk).up hx hv h5 hs hf hL (hm _ (by omega)) (hm _ (by omega)) (h2 k hk), fun k hk => (h.2 k hk).up hx hv h5 hs hf hL (hm _ (by omega)) (hm _ (by omega)) (h3 k hk)⟩
/-- a statement that both read -/
def StmtR (eX eM : ME) (aX aM : List Value) (x v : MM) (M : Nat) (K ts : Nat → Nat) (rt rs a : Nat) : Prop := ∃ x' v' : MM, Runs eX (.ref 1 :: aX) x (fun r m => r = .null ∧ m = x') ∧ XE rt rs x x' ∧ VF v v' ∧
  ((JM false x' v' M K ts 0 ∧ ∀ y, Runs eM (.ref 156 :: aM) (catR y v) (fun r m => r = .int (bI false) ∧ m = catR y v')) ∨
   ((∀ y, Runs eM (.ref 156 :: aM) (catR y v) (fun r m => r = .int (bI true) ∧ m = catR y v')) ∧ ∃ (a' : Nat) (ok : Bool), SE x' v' M K ts a' ok ∧ a + 1 ≤ a' ∧ (ok = true → INV x' v' M K rt rs (a' + 1))))
end

/-! reading: new names -/
section
variable {x v : MM} {M a H O : Nat} {K st : Nat → Nat}
/-- a second telling at the same token changes nothing -/
theorem lateV_2 {b : Nat} (ht : TJ x v M K st) (hb : b < M) {l : Nat} (h0 : 0 < l) (h5 : l ≤ 5) (e10 : v.1 156 10 = nI l) (e11 : v.1 156 11 = nI (st b)) (u : MM) : Runs e_X12_tells [.ref 156, .int (nI l), .int (nI b)] (catR u v) (fun r m => r = .null ∧ m = catR u v) := by
  have m4 := ht.2.2.1.2.1
  have f10 : (catR u v).1 156 10 = nI l := by rw [cr_1 (by decide)]; exact e10
  have f11 : (catR u v).1 156 11 = nI (st b) := by rw [cr_1 (by decide)]; exact e11
  have f9 : (catR u v).1 159 b = nI (st b) := by rw [cr_1 (by decide)]; exact (ht.2.1 b hb).2.1
  apply b_X12_tells
  rw [f10, f11, nI_clamp (by omega), f9]
  exact ⟨vp_in_nI (by omega) (by omega), fun z => absurd z (nI_ne0 h0 (by omega)), fun _ => ⟨fun _ => ⟨rfl, rfl⟩, fun _ => ⟨fun z => absurd rfl z, fun _ => ⟨fun z => (Int32.lt_irrefl z).elim, fun _ => ⟨rfl, rfl⟩⟩⟩⟩⟩
/-- what the model has at the end of its list of names -/
def nmV (v : MM) (n : Nat) (L : Int64) (s k : Int32) : MM := wI (wI (wI (wLg v 175 n L) 176 n s) 177 n k) 156 25 (nI (n + 1))
def nmX (x : MM) (n : Nat) (L : Int64) (o : Int32) : MM := wI (wI (wLg x 2 n L) 3 n o) 1 11 (nI (n + 1))
theorem lg_1 (y : MM) (k j : Nat) (w : Int64) : (wLg y k j w).1 = y.1 := rfl
theorem wI_2 (y : MM) (k j : Nat) (w : Int32) : (wI y k j w).2 = y.2 := rfl
/-- the model's walk: every like name tells; a second time changes nothing -/
theorem namesM {n b : Nat} {s k : Int32} {w2 : MM} (hb : b < 2001) (h25 : v.1 156 25 = nI n) (hn : n < 28) (g25 : w2.1 156 25 = nI n) (g2 : w2.2 = v.2) (u : MM)
    (t1 : (∃ i, i < n ∧ v.2.1 175 i = v.2.1 161 b) → Runs e_X12_tells [.ref 156, .int 3, .int (nI b)] (catR u v) (fun r m => r = .null ∧ m = catR u w2))
    (t2 : (∃ i, i < n ∧ v.2.1 175 i = v.2.1 161 b) → Runs e_X12_tells [.ref 156, .int 3, .int (nI b)] (catR u w2) (fun r m => r = .null ∧ m = catR u w2)) {w3 : MM}
    (hy : (∃ i, i < n ∧ v.2.1 175 i = v.2.1 161 b) → w3 = w2) (hno : ¬ (∃ i, i < n ∧ v.2.1 175 i = v.2.1 161 b) → w3 = v) :
    G e_X12_names 18 [(0, .ref 156), (1, .int s), (2, .int k), (3, .int (nI b)), (4, .int 0)] [] (catR u v) (fun r m => r = .int 1 ∧ m = catR u (nmV w3 n (v.2.1 161 b) s k)) := by
  have key : ∀ d i, i + d = n → ∀ w : MM, ((∀ j, j < i → ¬ v.2.1 175 j = v.2.1 161 b) → w = v) → ((∃ j, j < i ∧ v.2.1 175 j = v.2.1 161 b) → w = w2) → G e_X12_names 18 [(0, .ref 156), (1, .int s), (2, .int k), (3, .int (nI b)), (4, .int (nI i))] [] (catR u w) (fun r m => r = .int 1 ∧ m = catR u (nmV w3 n (v.2.1 161 b) s k)) := by
    intro d
    induction d with
    | zero =>
      intro i hi w hw1 hw2
      have hin : i = n := by omega
      subst hin
      have e3 : w = w3 := by
        by_cases c : ∃ i_1, i_1 < i ∧ v.2.1 175 i_1 = v.2.1 161 b
        · rw [hw2 c, hy c]
        · rw [hw1 (fun j hj z => c ⟨j, hj, z⟩), hno c]
      subst e3
      have w25 : w.1 156 25 = nI i := by
        by_cases c : ∃ i_1, i_1 < i ∧ v.2.1 175 i_1 = v.2.1 161 b
        · rw [hw2 c]; exact g25
        · rw [hw1 (fun j hj z => c ⟨j, hj, z⟩)]; exact h25
      have w2e : w.2 = v.2 := by
        by_cases c : ∃ i_1, i_1 < i ∧ v.2.1 175 i_1 = v.2.1 161 b
        · rw [hw2 c]; exact g2
        · rw [hw1 (fun j hj z => c ⟨j, hj, z⟩)]
      have f25 : (catR u w).1 156 25 = nI i := by rw [cr_1 (by decide)]; exact w25
      have f161 : (catR u w).2.1 161 b = v.2.1 161 b := by rw [cr_2 (by decide), w2e]
      apply b_X12_names_18
      simp only [f25, f161, nI_clamp (show i < 2 ^ 31 by omega), nI_clamp (show b < 2 ^ 31 by omega), cr_l (show 156 ≤ 175 by decide), cr_w (show 156 ≤ 176 by decide), cr_w (show 156 ≤ 177 by decide), cr_w (show 156 ≤ 156 by decide), lg_1, wI_o (show (156 : Nat) ≠ 176 by decide), wI_o (show (156 : Nat) ≠ 177 by decide), cr_1 (show 156 ≤ 156 by decide), w25]
      have vn : vp_in (nI i) 30 := vp_in_nI (by omega) (by omega)
      have vb : vp_in (nI b) 2001 := vp_in_nI hb (by omega)
      refine ⟨fun _ => ?_, fun z => absurd (Int32.le_refl _) z⟩
      simp only [vn, vb, true_and]
      show catR u _ = catR u _
      unfold nmV
      rw [nI_1]
    | succ d ih =>
      intro i hi w hw1 hw2
      have w25 : w.1 156 25 = nI n ∧ w.2 = v.2 := by
        by_cases c : ∃ j, j < i ∧ v.2.1 175 j = v.2.1 161 b
        · rw [hw2 c]; exact ⟨g25, g2⟩
        · rw [hw1 (fun j hj z => c ⟨j, hj, z⟩)]; exact ⟨h25, rfl⟩
      have f25 : (catR u w).1 156 25 = nI n := by rw [cr_1 (by decide)]; exact w25.1
      have f161 : (catR u w).2.1 161 b = v.2.1 161 b := by rw [cr_2 (by decide), w25.2]
      have f175 : (catR u w).2.1 175 i = v.2.1 175 i := by rw [cr_2 (by decide), w25.2]
      apply b_X12_names_18
      simp only [f25, f161, nI_clamp (show i < 2 ^ 31 by omega), nI_clamp (show b < 2 ^ 31 by omega), f175, nI_1]
      have vn : vp_in (nI i) 30 := vp_in_nI (by omega) (by omega)
      have vb : vp_in (nI b) 2001 := vp_in_nI hb (by omega)
      refine ⟨fun z => absurd z (nI_ge (by omega) (by omega)), fun _ => ?_⟩
      simp only [vn, vb, true_and]
      refine ⟨fun c => ?_, fun c => ?_⟩
      · have c : ¬ v.2.1 175 i = v.2.1 161 b := fun z => c ((lg_cmp_eq _ _).mpr z)
        refine ih (i + 1) (by omega) w (fun hj => hw1 fun j hjj => hj j (by omega)) ?_
        rintro ⟨j, j1, j2⟩
        rcases Nat.lt_or_eq_of_le (Nat.le_of_lt_succ j1) with z | z
        · exact hw2 ⟨j, z, j2⟩
        · subst z; exact absurd j2 c
      · have c := (lg_cmp_eq _ _).mp c
        have he : ∃ i, i < n ∧ v.2.1 175 i = v.2.1 161 b := ⟨i, by omega, c⟩
        have ht : Runs e_X12_tells [.ref 156, .int 3, .int (nI b)] (catR u w) (fun r m => r = .null ∧ m = catR u w2) := by
          by_cases c2 : ∃ j, j < i ∧ v.2.1 175 j = v.2.1 161 b
          · rw [hw2 c2]; exact t2 he
          · rw [hw1 (fun j hj z => c2 ⟨j, hj, z⟩)]; exact t1 he
        refine vcall ht ?_
        rintro m rfl
        exact ih (i + 1) (by omega) w2 (fun hj => absurd c (hj i (by omega))) fun _ => rfl
  exact key n 0 (by omega) v (fun _ => rfl) (by rintro ⟨j, j1, -⟩; exact absurd j1 (Nat.not_lt_zero j))
/-- both tell a late fault at token b -/
theorem lateJ2 {b : Nat} (h : RC x v M K st a) (hl : LJ x v st b) (hb : b < a) {l : Nat} (h0 : 0 < l) (h5 : l ≤ 5) : ∃ x' v' : MM, Runs e_X4_failLate [.ref 1, .int (nI l), .int (nI (st b))] x (fun r m => r = .null ∧ m = x') ∧ (∀ u, Runs e_X12_tells [.ref 156, .int (nI l), .int (nI b)] (catR u v) (fun r m => r = .null ∧ m = catR u v')) ∧ FX x x' ∧ FV v v' ∧ RC x' v' M K st a ∧ ¬ x'.1 1 9 = 0 ∧ v'.1 156 29 = v.1 156 29 ∧ ∀ u, Runs e_X12_tells [.ref 156, .int (nI l), .int (nI b)] (catR u v') (fun r m => r = .null ∧ m = catR u v') := by
  have hbM : b < M := by have := h.2.1; omega
  by_cases c : x.1 1 9 = 0
  · refine ⟨ltX x (nI l) (nI (st b)), ltV v (nI l) (nI (st b)), lateX_y c _ _, fun u => lateV_y h.1 hbM (hl.v0 c) u _, FX.lt _ _ _, FV.lt _ _ _, h.fr (b := a) (h.1.f (FX.lt _ _ _) (FV.lt _ _ _)) ?_ ?_ (Or.inr ⟨l, b, h0, h5, hb, ?_, ?_, ?_, ?_⟩) (Nat.le_refl a), ?_, ?_, fun u => lateV_2 (h.1.f (FX.lt x (nI l) (nI (st b))) (FV.lt v (nI l) (nI (st b)))) hbM h0 h5 ?_ ?_ u⟩
    · unfold ltX
      exact ⟨by rw [wI_k, pk_un (by decide), wI_k, pk_un (by decide)], by rw [wI_k, pk_un (by decide), wI_k, pk_un (by decide)], by rw [wI_k, pk_un (by decide), wI_k, pk_un (by decide)]⟩
    · unfold ltV
      exact ⟨by rw [wI_k, pk_un (by decide), wI_k, pk_un (by decide)], by rw [wI_k, pk_un (by decide), wI_k, pk_un (by decide)], by rw [wI_k, pk_un (by decide), wI_k, pk_un (by decide)]⟩
    · unfold ltX; rw [wI_k, pk_un (by decide), wI_k, pk_us]
    · unfold ltV; rw [wI_k, pk_un (by decide), wI_k, pk_us]
    · unfold ltX; rw [wI_k, pk_us]
    · unfold ltV; rw [wI_k, pk_us]
    · unfold ltX; rw [wI_k, pk_un (by decide), wI_k, pk_us]; exact nI_ne0 h0 (by omega)
    · unfold ltV; rw [wI_k, pk_un (by decide), wI_k, pk_un (by decide)]
    · unfold ltV; rw [wI_k, pk_un (by decide), wI_k, pk_us]
    · unfold ltV; rw [wI_k, pk_us]
  · exact ⟨x, v, lateX_n c _ _, fun u => lateV_n h.1 hbM hl c u _, FX.rf x, FV.rf v, h, c, rfl, fun u => lateV_n h.1 hbM hl c u _⟩

def pkN (n a : Nat) (f : Nat → Nat) (i : Nat) : Nat := if i = n then a else f i
theorem pkN_s (n a : Nat) (f : Nat → Nat) : pkN n a f n = a := if_pos rfl
theorem pkN_n {n a i : Nat} {f : Nat → Nat} (h : i ≠ n) : pkN n a f i = f i := if_neg h
theorem newJ {ok : Bool} {s o k H' O' : Nat} (h : JM ok x v M K st a) (hn : ok = true → NJ x v M K H O) (hs : (s = 0 ∧ o = H ∧ k = H ∧ H < 16 ∧ H' = H + 1 ∧ O' = O) ∨ (s = 1 ∧ o = 16 + O ∧ k = O ∧ O < 12 ∧ H' = H ∧ O' = O + 1)) :
    ∃ (ok' : Bool) (x' v' : MM), Runs e_X4_readNewName [.ref 1, .int (nI o)] x (fun r m => r = .null ∧ m = x') ∧
      (ok = true → ∀ u, Runs e_X12_names [.ref 156, .int (nI s), .int (nI k)] (catR u v) (fun r m => r = .int (bI ok') ∧ m = catR u v')) ∧ (ok = false → ok' = false ∧ x' = x ∧ v' = v) ∧ FN x x' ∧ GN v v' ∧ JM ok' x' v' M K st (a + 1) ∧
      (x'.1 1 9 = 0 → x.1 1 9 = 0) ∧ (ok' = true → ok = true ∧ NJ x' v' M K H' O') := by
  obtain ⟨b, hb⟩ := h.2.2
  obtain ⟨o1, s1⟩ := startA hb
  obtain ⟨o2, s2⟩ := valueA hb
  obtain ⟨ok1, x1, v1, t1, t2, t3, t4, t5, t6, t7, t8⟩ := takeJ h 26 (by decide)
  cases ok with
  | false =>
    obtain ⟨rfl, rfl, rfl⟩ := t3 rfl
    refine ⟨false, x1, v1, ?_, (fun z => nomatch z), fun _ => ⟨rfl, rfl, rfl⟩, t4.n, t5.n, t7, fun z => z, (fun z => nomatch z)⟩
    apply b_X4_readNewName
    rw [s1, s2]
    exact ⟨o1, o2, bcall t1 (fun z => nomatch z) fun _ m e => ⟨rfl, e⟩⟩
  | true =>
    have hc := h.1 rfl
    have := hc.at hb
    subst this
    obtain ⟨e1, e2⟩ := t2 rfl
    have hk41 := (hc.1.2.2.2.1 b hc.2.1).1
    have m4 := hc.1.2.2.1.2.1
    have ha := hc.2.1
    have g7 : ∀ u, (catR u v).1 156 7 = nI b := fun u => by rw [cr_1 (by decide)]; exact hc.2.2.2.1
    have hm1 : ∀ u, Runs e_X12_takes [.ref 156, .int (0 : Int32)] (catR u v) (fun r m => r = .int (bI ok1) ∧ m = catR u v1) := fun u => by
      rw [e1, e2]
      exact mTakes hc u (s := 0) (by decide) (k_int _ (by omega)).2.1
    cases ok1 with
    | false =>
      refine ⟨false, x1, v1, ?_, fun _ u => ?_, (fun z => nomatch z), t4.n, t5.n, t7, fun z => t6.symm.trans z, (fun z => nomatch z)⟩
      · apply b_X4_readNewName
        rw [s1, s2]
        exact ⟨o1, o2, bcall t1 (fun z => nomatch z) fun _ m e => ⟨rfl, e⟩⟩
      · apply b_X12_names
        exact bcall (hm1 u) (fun z => nomatch z) fun _ m e => ⟨rfl, e⟩
    | true =>
      obtain ⟨-, k1, k2, k3, k4⟩ := t8 rfl
      have hc1 := t7.1 rfl
      have hj1 : NJ x1 v1 M K H O := (hn rfl).f t4 t5 fun z => t6.symm.trans z
      have hj1' := hj1
      obtain ⟨bb, own, n0, n1, n2, n3, n4⟩ := hj1'
      have hn28 : H + O < 28 := by omega
      have eL : x.2.1 9 b = x1.2.1 9 b := by rw [t4.1]
      have hmt : ∀ i, i < H + O → (v1.2.1 175 i = v1.2.1 161 b ↔ x1.2.1 2 i = x1.2.1 9 b) := fun i hi => by
        obtain ⟨b1, b2, b3, b4, -⟩ := n3 i hi
        rw [b3, b4]
        exact (hc1.1.nm b1 ha b2 k1).symm
      have l1 : LJ x1 v1 st b := by
        rw [k3, k4]
        exact hc.2.2.2.2.2.2.2.2.fr (by rw [wI_k, pk_un (by decide)]) (by rw [wI_k, pk_un (by decide)]) (by rw [wI_k, pk_un (by decide)]) (by rw [wI_k, pk_un (by decide)])
      have hO := ownerX (L := x1.2.1 9 b) n1 (by omega)
      obtain ⟨x3, v3, f1, f2, f3, f4, f5, f6, f7, f8⟩ := lateJ2 hc1 l1 (by omega) (l := 3) (by decide) (by decide)
      -- the end, whichever
      have fin : ∀ (x4 v4 : MM), FX x1 x4 → FV v1 v4 → RC x4 v4 M K st (b + 1) → (x4.1 1 9 = 0 → x1.1 1 9 = 0) → (x4.1 1 9 = 0 → ∀ i, i < H + O → ¬ x1.2.1 2 i = x1.2.1 9 b) →
          JM true (nmX x4 (H + O) (x1.2.1 9 b) (nI o)) (nmV v4 (H + O) (v1.2.1 161 b) (nI s) (nI k)) M K st (b + 1) ∧ FN x1 (nmX x4 (H + O) (x1.2.1 9 b) (nI o)) ∧ GN v1 (nmV v4 (H + O) (v1.2.1 161 b) (nI s) (nI k)) ∧ (nmX x4 (H + O) (x1.2.1 9 b) (nI o)).1 1 9 = x4.1 1 9 ∧ NJ (nmX x4 (H + O) (x1.2.1 9 b) (nI o)) (nmV v4 (H + O) (v1.2.1 161 b) (nI s) (nI k)) M K H' O' := by
        intro x4 v4 hx hv hr hl hd
        have gx1 : ∀ y, y ≠ 11 → (nmX x4 (H + O) (x1.2.1 9 b) (nI o)).1 1 y = x4.1 1 y := fun y hy => by
          unfold nmX; rw [wI_k, pk_un hy, wI_o (by decide)]; rfl
        have gv1 : ∀ y, y ≠ 25 → (nmV v4 (H + O) (v1.2.1 161 b) (nI s) (nI k)).1 156 y = v4.1 156 y := fun y hy => by
          unfold nmV; rw [wI_k, pk_un hy, wI_o (by decide), wI_o (by decide)]; rfl
        have fx : FN x4 (nmX x4 (H + O) (x1.2.1 9 b) (nI o)) := by
          refine ⟨fun r r1 r2 => ?_, fun y hy => gx1 y (by omega), fun r hr => ?_, rfl⟩
          · unfold nmX; rw [wI_o r1, wI_o r2]; rfl
          · unfold nmX; rw [wI_2, wI_2]; exact wL_o hr
        have fv : GN v4 (nmV v4 (H + O) (v1.2.1 161 b) (nI s) (nI k)) := by
          refine ⟨fun r r1 r2 r3 => ?_, fun y hy => gv1 y (by omega), fun r hr => ?_, rfl⟩
          · unfold nmV; rw [wI_o r1, wI_o r3, wI_o r2]; rfl
          · unfold nmV; rw [wI_2, wI_2, wI_2]; exact wL_o hr
        have hlj := hr.2.2.2.2.2.2.2.2
        refine ⟨JM.t (hr.fr (b := b + 1) (hr.1.n fx fv) ⟨gx1 6 (by decide), gx1 7 (by decide), gx1 8 (by decide)⟩ ⟨gv1 7 (by decide), gv1 8 (by decide), gv1 9 (by decide)⟩ (hlj.fr (gx1 9 (by decide)) (gx1 10 (by decide)) (gv1 10 (by decide)) (gv1 11 (by decide))) (Nat.le_refl _)), hx.n.tr fx, hv.n.tr fv, gx1 9 (by decide), ?_⟩
        have eN : H' + O' = H + O + 1 := by omega
        have c2 : (nmX x4 (H + O) (x1.2.1 9 b) (nI o)).2.1 2 = vp_updL (x1.2.1 2) (H + O) (x1.2.1 9 b) := by unfold nmX; rw [wI_2, wI_2, wL_k, hx.1]
        have c9 : (nmX x4 (H + O) (x1.2.1 9 b) (nI o)).2.1 9 = x1.2.1 9 := by unfold nmX; rw [wI_2, wI_2, wL_o (by decide), hx.1]
        have c3 : (nmX x4 (H + O) (x1.2.1 9 b) (nI o)).1 3 = upd (x1.1 3) (H + O) (nI o) := by unfold nmX; rw [wI_o (by decide), wI_k, lg_1, hx.2.1 3 (by decide)]
        have c175 : (nmV v4 (H + O) (v1.2.1 161 b) (nI s) (nI k)).2.1 175 = vp_updL (v1.2.1 175) (H + O) (v1.2.1 161 b) := by unfold nmV; rw [wI_2, wI_2, wI_2, wL_k, hv.1]
        have c161 : (nmV v4 (H + O) (v1.2.1 161 b) (nI s) (nI k)).2.1 161 = v1.2.1 161 := by unfold nmV; rw [wI_2, wI_2, wI_2, wL_o (by decide), hv.1]
        have c176 : (nmV v4 (H + O) (v1.2.1 161 b) (nI s) (nI k)).1 176 = upd (v1.1 176) (H + O) (nI s) := by unfold nmV; rw [wI_o (by decide), wI_o (by decide), wI_k, lg_1, hv.2.1 176 (by decide)]
        have c177 : (nmV v4 (H + O) (v1.2.1 161 b) (nI s) (nI k)).1 177 = upd (v1.1 177) (H + O) (nI k) := by unfold nmV; rw [wI_o (by decide), wI_k, wI_o (by decide), lg_1, hv.2.1 177 (by decide)]
        have uL : ∀ (f : Nat → Int64) (j : Nat) (w : Int64), vp_updL f j w j = w := fun f j w => by simp [vp_updL]
        have uLn : ∀ (f : Nat → Int64) (j i : Nat) (w : Int64), i ≠ j → vp_updL f j w i = f i := fun f j i w hij => by simp [vp_updL, hij]
        refine ⟨pkN (H + O) b bb, pkN (H + O) o own, by omega, ?_, ?_, ?_, ?_⟩
        · rw [eN]; unfold nmX; rw [wI_k, pk_us]
        · rw [eN]; unfold nmV; rw [wI_k, pk_us]
        · intro i hi
          rw [eN] at hi
          rw [c2, c9, c3, c175, c161, c176, c177]
          by_cases ci : i = H + O
          · subst ci
            rw [pkN_s, pkN_s, uL, uL, pk_us, pk_us, pk_us]
            refine ⟨ha, k1, rfl, rfl, by omega, rfl, ?_, ?_⟩
            · have : srt o = s := by unfold srt; split <;> omega
              rw [this]
            · have : num o = k := by unfold num; split <;> omega
              rw [this]
          · rw [pkN_n ci, pkN_n ci, uLn _ _ _ _ ci, uLn _ _ _ _ ci, pk_un ci, pk_un ci, pk_un ci]
            obtain ⟨b1, b2, b3, b4, b5, b6, b7, b8⟩ := n3 i (by omega)
            exact ⟨b1, b2, b3, b4, by omega, b6, b7, b8⟩
        · rw [gx1 9 (by decide), c2]
          intro hz i j hij hj
          rw [eN] at hj
          by_cases cj : j = H + O
          · subst cj
            rw [uL, uLn _ _ _ _ (by omega)]
            exact hd hz i (by omega)
          · rw [uLn _ _ _ _ (by omega), uLn _ _ _ _ (by omega)]
            exact n4 (hl hz) i j hij (by omega)
      -- the class's last steps
      have cls : ∀ (x4 : MM), FX x1 x4 → ((owV x1 (H + O) (x1.2.1 9 b) = -1 → x4 = x1) ∧ (¬ owV x1 (H + O) (x1.2.1 9 b) = -1 → Runs e_X4_failLate [.ref 1, .int 3, .int (nI (st b))] x1 (fun r m => r = .null ∧ m = x4))) → Runs e_X4_readNewName [.ref 1, .int (nI o)] x (fun r m => r = .null ∧ m = nmX x4 (H + O) (x1.2.1 9 b) (nI o)) := by
        intro x4 hx h4
        have g11 : x4.1 1 11 = nI (H + O) := (hx.2.2 11 (by omega)).trans n1
        have v28 : vp_in (nI (H + O)) 28 := vp_in_nI hn28 (by omega)
        apply b_X4_readNewName
        rw [s1, s2, eL]
        refine ⟨o1, o2, bcall t1 (fun _ m e => ?_) (fun z => nomatch z)⟩
        subst e
        refine icall hO ?_
        rintro m rfl
        have last : ∀ y : MM, y = x4 → ((y.1 1 11 < 0 → Value.null = .null ∧ y = nmX x4 (H + O) (m.2.1 9 b) (nI o)) ∧ (¬ y.1 1 11 < 0 → ((28 ≤ y.1 1 11 → Value.null = .null ∧ y = nmX x4 (H + O) (m.2.1 9 b) (nI o)) ∧ (¬ 28 ≤ y.1 1 11 → (vp_in (y.1 1 11) 28 ∧ (vp_in ((wLg y 2 ((y.1 1 11).toNatClampNeg) (m.2.1 9 b)).1 1 11) 28 ∧ (Value.null = .null ∧ wI (wI (wLg y 2 ((y.1 1 11).toNatClampNeg) (m.2.1 9 b)) 3 (((wLg y 2 ((y.1 1 11).toNatClampNeg) (m.2.1 9 b)).1 1 11).toNatClampNeg) (nI o)) 1 11 (((wI (wLg y 2 ((y.1 1 11).toNatClampNeg) (m.2.1 9 b)) 3 (((wLg y 2 ((y.1 1 11).toNatClampNeg) (m.2.1 9 b)).1 1 11).toNatClampNeg) (nI o)).1 1 11) + 1) = nmX x4 (H + O) (m.2.1 9 b) (nI o)))))))) := by
          rintro y rfl
          simp only [lg_1, g11, nI_clamp (show H + O < 2 ^ 31 by omega), wI_o (show (1 : Nat) ≠ 3 by decide), nI_1]
          exact ⟨fun z => absurd z (nI_pos (by omega)), fun _ => ⟨fun z => absurd z (nI_ge (b := 28) (by omega) (by omega)), fun _ => ⟨v28, v28, trivial, rfl⟩⟩⟩
        refine ⟨fun c => ?_, fun c => vcall (h4.2 c) ?_⟩
        · exact last _ (h4.1 c).symm
        · rintro y rfl
          exact last _ rfl
      have hW := ow_at (x := x1) (n := H + O) (L := x1.2.1 9 b)
      have ex : (∃ i, i < H + O ∧ v1.2.1 175 i = v1.2.1 161 b) ↔ ¬ owV x1 (H + O) (x1.2.1 9 b) = -1 := by
        constructor
        · rintro ⟨i, i1, i2⟩ z
          have i3 := (hmt i i1).mp i2
          rcases hW with ⟨-, w2⟩ | ⟨j, w1, w2, w3, w4⟩
          · exact w2 i i1 i3
          · obtain ⟨-, -, -, -, b5, b6, -⟩ := n3 j w1
            rw [w3, b6] at z
            exact nI_nm1 (by omega) z
        · intro z
          rcases hW with ⟨w1, -⟩ | ⟨j, w1, w2, w3, w4⟩
          · exact absurd w1 z
          · exact ⟨j, w1, (hmt j w1).mpr w2⟩
      have g25 : v3.1 156 25 = nI (H + O) := (f4.2.2 25 (by omega)).trans n2
      have mdl : ∀ w3 : MM, ((∃ i, i < H + O ∧ v1.2.1 175 i = v1.2.1 161 b) → w3 = v3) → (¬ (∃ i, i < H + O ∧ v1.2.1 175 i = v1.2.1 161 b) → w3 = v1) → ∀ u, Runs e_X12_names [.ref 156, .int (nI s), .int (nI k)] (catR u v) (fun r m => r = .int (bI true) ∧ m = catR u (nmV w3 (H + O) (v1.2.1 161 b) (nI s) (nI k))) := by
        intro w3 hy hno u
        apply b_X12_names
        refine bcall (hm1 u) (fun _ m e => ?_) (fun z => nomatch z)
        subst e
        rw [g7]
        exact namesM (by omega) n2 hn28 g25 f4.1 u (fun _ => f2 u) (fun _ => f8 u) hy hno
      by_cases c : owV x1 (H + O) (x1.2.1 9 b) = -1
      · have hno : ¬ ∃ i, i < H + O ∧ v1.2.1 175 i = v1.2.1 161 b := fun z => ex.mp z c
        obtain ⟨r1, r2, r3, r4, r5⟩ := fin x1 v1 (FX.rf x1) (FV.rf v1) hc1 (fun z => z) fun _ i hi z => hno ⟨i, hi, (hmt i hi).mpr z⟩
        exact ⟨true, _, _, cls x1 (FX.rf x1) ⟨fun _ => rfl, fun z => absurd c z⟩, fun _ => mdl v1 (fun z => absurd z hno) (fun _ => rfl), (fun z => nomatch z), t4.n.tr r2, t5.n.tr r3, r1, fun z => t6.symm.trans (r4.symm.trans z), fun _ => ⟨rfl, r5⟩⟩
      · have hye := ex.mpr c
        obtain ⟨r1, r2, r3, r4, r5⟩ := fin x3 v3 f3 f4 f5 (fun z => absurd z f6) fun z => absurd z f6
        exact ⟨true, _, _, cls x3 f3 ⟨fun z => absurd z c, fun _ => f1⟩, fun _ => mdl v3 (fun _ => rfl) (fun z => absurd hye z), (fun z => nomatch z), t4.n.tr r2, t5.n.tr r3, r1, fun z => absurd (r4.symm.trans z) f6, fun _ => ⟨rfl, r5⟩⟩
end

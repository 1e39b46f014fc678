/-! reading: both modes of the class at once -/
def tkV (v : MM) (st : Nat → Nat) (a e : Nat) : MM := if e = 0 then wI v 156 7 (nI (a + 1)) else wrM v (nI e) (nI (st a))
/-- ok: both stand at a. Else both have the same fault, and the class reads on -/
def JM (ok : Bool) (x v : MM) (M : Nat) (K st : Nat → Nat) (a : Nat) : Prop := (ok = true → RC x v M K st a) ∧ (ok = false → RF x v) ∧ ∃ b, RA x v M K st b
section
variable {x v : MM} {M a : Nat} {K st : Nat → Nat}
theorem JM.t (h : RC x v M K st a) : JM true x v M K st a := ⟨fun _ => h, (fun z => nomatch z), a, h.ra⟩
theorem RA.f {x' v' : MM} (h : RA x v M K st a) (hx : FX x x') (hv : FV v v') (h6 : x'.1 1 6 = x.1 1 6) : RA x' v' M K st a := ⟨h.1.f hx hv, h.2.1, h6.trans h.2.2⟩
theorem takeJ {ok : Bool} (h : JM ok x v M K st a) (k : Nat) (hk : k < 40) : ∃ (ok' : Bool) (x' v' : MM), Runs e_X4_take [.ref 1, .int (nI k)] x (fun r m => r = .int (bI ok') ∧ m = x') ∧
    (ok = true → ok' = decide (tkE K a (decide (K a = k)) = 0) ∧ v' = tkV v st a (tkE K a (decide (K a = k)))) ∧ (ok = false → ok' = false ∧ x' = x ∧ v' = v) ∧ FX x x' ∧ FV v v' ∧ x'.1 1 9 = x.1 1 9 ∧
    JM ok' x' v' M K st (a + 1) ∧ (ok' = true → ok = true ∧ K a = k ∧ a < 400 ∧ x' = wI x 1 6 (nI (a + 1)) ∧ v' = wI v 156 7 (nI (a + 1))) := by
  cases ok with
  | false =>
    obtain ⟨e, e1, e2, e3, -⟩ := h.2.1 rfl
    refine ⟨false, x, v, takeX_f e1 e2 e3 _, (fun z => nomatch z), fun _ => ⟨rfl, rfl, rfl⟩, FX.rf x, FV.rf v, rfl, ⟨(fun z => nomatch z), fun _ => h.2.1 rfl, h.2.2⟩, (fun z => nomatch z)⟩
  | true =>
    have hc := h.1 rfl
    have hr := takeX hc k (by omega)
    by_cases c : tkE K a (decide (K a = k)) = 0
    · rw [if_pos c] at hr
      obtain ⟨c1, c2⟩ := tkE_0.mp c
      have c1 := of_decide_eq_true c1
      refine ⟨true, wI x 1 6 (nI (a + 1)), wI v 156 7 (nI (a + 1)), ?_, fun _ => ⟨(decide_eq_true c).symm, ?_⟩, (fun z => nomatch z), (FX.rf x).w (by omega) _, (FV.rf v).w (by omega) _, by rw [wI_k, pk_un (by decide)], JM.t (hc.step (by omega) c2), fun _ => ⟨rfl, c1, c2, rfl, rfl⟩⟩
      · rw [decide_eq_true c] at hr; exact hr
      · unfold tkV; rw [if_pos c]
    · rw [if_neg c, decide_eq_false c] at hr
      obtain ⟨d1, d2⟩ := tkE_n c
      refine ⟨false, flX x (nI (tkE K a (decide (K a = k)))) (nI (st a)), wrM v (nI (tkE K a (decide (K a = k)))) (nI (st a)), hr, fun _ => ⟨(decide_eq_false c).symm, ?_⟩, (fun z => nomatch z), FX.fl _ _ _, FV.wr _ _ _, ?_, ⟨(fun z => nomatch z), fun _ => RF.of x v d1 d2 _, a, hc.ra.f (FX.fl _ _ _) (FV.wr _ _ _) ?_⟩, (fun z => nomatch z)⟩
      · unfold tkV; rw [if_neg c]
      · unfold flX; rw [wI_k, pk_un (by decide), wI_k, pk_un (by decide)]
      · unfold flX; rw [wI_k, pk_un (by decide), wI_k, pk_un (by decide)]
/-- the model's takes beside the class's -/
theorem mTakes (h : RC x v M K st a) (u : MM) {s k : Nat} (hs : s ≤ 5) (hsk : mS (K a) = s ↔ K a = k) : Runs e_X12_takes [.ref 156, .int (nI s)] (catR u v) (fun r m => r = .int (bI (decide (tkE K a (decide (K a = k)) = 0))) ∧ m = catR u (tkV v st a (tkE K a (decide (K a = k))))) := by
  have := takesM h u s hs
  rw [show (decide (mS (K a) = s)) = decide (K a = k) from decide_eq_decide.mpr hsk] at this
  exact this
theorem mPass (h : RC x v M K st a) (u : MM) {k : Nat} (hk : K a = k) : Runs e_X12_pass [.ref 156] (catR u v) (fun r m => r = .int (bI (decide (tkE K a (decide (K a = k)) = 0))) ∧ m = catR u (tkV v st a (tkE K a (decide (K a = k))))) := by
  have := passM h u
  by_cases c : a < 400
  · have e : tkE K a (decide (K a = k)) = 0 := tkE_0.mpr ⟨decide_eq_true hk, c⟩
    rw [decide_eq_true c, if_pos c] at this
    rw [e, decide_eq_true rfl]
    exact this
  · have e : tkE K a (decide (K a = k)) = 2 := by
      unfold tkE
      rw [decide_eq_true hk, if_neg (by decide), if_neg c]
    rw [decide_eq_false c, if_neg c] at this
    rw [e]
    exact this
theorem mWrong (h : RC x v M K st a) (u : MM) {k : Nat} (hk : ¬ K a = k) : Runs e_X12_wrong [.ref 156, .int 1] (catR u v) (fun r m => r = .int (bI (decide (tkE K a (decide (K a = k)) = 0))) ∧ m = catR u (tkV v st a (tkE K a (decide (K a = k))))) := by
  have e : tkE K a (decide (K a = k)) = 1 := by
    unfold tkE
    rw [decide_eq_false hk, if_pos rfl]
  rw [e]
  exact wrongM h u 1
/-- a fault that both set, where nothing is taken -/
theorem failJ (h : RC x v M K st a) {e : Nat} (h0 : 0 < e) (h2 : e ≤ 2) : Runs e_X4_fail [.ref 1, .int (nI e)] x (fun r m => r = .null ∧ m = flX x (nI e) (nI (st a))) ∧
    (∀ u, Runs e_X12_wrong [.ref 156, .int (nI e)] (catR u v) (fun r m => r = .int (bI false) ∧ m = catR u (wrM v (nI e) (nI (st a))))) ∧ JM false (flX x (nI e) (nI (st a))) (wrM v (nI e) (nI (st a))) M K st (a + 1) ∧ (flX x (nI e) (nI (st a))).1 1 9 = x.1 1 9 := by
  refine ⟨failX h _, fun u => wrongM h u _, ⟨(fun z => nomatch z), fun _ => RF.of x v h0 h2 _, a, h.ra.f (FX.fl _ _ _) (FV.wr _ _ _) ?_⟩, ?_⟩
  · unfold flX; rw [wI_k, pk_un (by decide), wI_k, pk_un (by decide)]
  · unfold flX; rw [wI_k, pk_un (by decide), wI_k, pk_un (by decide)]
/-! late faults -/
def ltX (x : MM) (l p : Int32) : MM := wI (wI x 1 9 l) 1 10 p
def ltV (v : MM) (l p : Int32) : MM := wI (wI v 156 10 l) 156 11 p
theorem FX.lt (x : MM) (l p : Int32) : FX x (ltX x l p) := ((FX.rf x).w (by omega) _).w (by omega) _
theorem FV.lt (v : MM) (l p : Int32) : FV v (ltV v l p) := ((FV.rf v).w (by omega) _).w (by omega) _
theorem lateX_n (h : ¬ x.1 1 9 = 0) (l p : Int32) : Runs e_X4_failLate [.ref 1, .int l, .int p] x (fun r m => r = .null ∧ m = x) := by
  apply b_X4_failLate
  exact ⟨fun _ => ⟨rfl, rfl⟩, fun z => absurd z h⟩
theorem lateX_y (h : x.1 1 9 = 0) (l p : Int32) : Runs e_X4_failLate [.ref 1, .int l, .int p] x (fun r m => r = .null ∧ m = ltX x l p) := by
  apply b_X4_failLate
  exact ⟨fun z => absurd h z, fun _ => ⟨rfl, rfl⟩⟩
theorem lateV_n {b : Nat} (ht : TJ x v M K st) (hb : b < M) (hl : LJ x v st b) (h : ¬ x.1 1 9 = 0) (u : MM) (l : Int32) : Runs e_X12_tells [.ref 156, .int l, .int (nI b)] (catR u v) (fun r m => r = .null ∧ m = catR u v) := by
  have m4 := ht.2.2.1.2.1
  obtain ⟨e1, e2⟩ | ⟨k, c, k1, k2, k3, k4, k5, k6, k7⟩ := hl
  · exact absurd e1 h
  · have e10 : (catR u v).1 156 10 = nI k := by rw [cr_1 (by decide)]; exact k5
    have e11 : (catR u v).1 156 11 = nI (st c) := by rw [cr_1 (by decide)]; exact k7
    have e9 : (catR u v).1 159 b = nI (st b) := by rw [cr_1 (by decide)]; exact (ht.2.1 b hb).2.1
    have hs := (ht.2.2.2.1 b hb).2
    have hcb := ht.2.2.2.2.1 c b k3 hb
    apply b_X12_tells
    rw [e10, e11, nI_clamp (by omega), e9]
    exact ⟨vp_in_nI (by omega) (by omega), fun z => absurd z (nI_ne0 k1 (by omega)), fun _ => ⟨fun _ => ⟨rfl, rfl⟩, fun z => absurd (nI_lt hcb (by omega)) z⟩⟩
theorem lateV_y {b : Nat} (ht : TJ x v M K st) (hb : b < M) (h : v.1 156 10 = 0) (u : MM) (l : Int32) : Runs e_X12_tells [.ref 156, .int l, .int (nI b)] (catR u v) (fun r m => r = .null ∧ m = catR u (ltV v l (nI (st b)))) := by
  have m4 := ht.2.2.1.2.1
  have e10 : (catR u v).1 156 10 = 0 := by rw [cr_1 (by decide)]; exact h
  have e9 : (catR u v).1 159 b = nI (st b) := by rw [cr_1 (by decide)]; exact (ht.2.1 b hb).2.1
  apply b_X12_tells
  rw [e10, nI_clamp (by omega), e9]
  exact ⟨vp_in_nI (by omega) (by omega), fun _ => ⟨rfl, by rw [cr_w (by decide), cr_w (by decide)]; rfl⟩, fun z => absurd rfl z⟩
theorem LJ.v0 {b : Nat} (hl : LJ x v st b) (h : x.1 1 9 = 0) : v.1 156 10 = 0 := by
  obtain ⟨e1, e2⟩ | ⟨k, c, k1, k2, k3, k4, k5, k6, k7⟩ := hl
  · exact e2
  · rw [k4] at h; exact absurd h (nI_ne0 k1 (by omega))
theorem RC.fr {x' v' : MM} {b : Nat} (h : RC x v M K st a) (ht : TJ x' v' M K st) (hf : x'.1 1 6 = x.1 1 6 ∧ x'.1 1 7 = x.1 1 7 ∧ x'.1 1 8 = x.1 1 8) (hg : v'.1 156 7 = v.1 156 7 ∧ v'.1 156 8 = v.1 156 8 ∧ v'.1 156 9 = v.1 156 9) (hl : LJ x' v' st b) (hb : b ≤ a) : RC x' v' M K st a :=
  ⟨ht, h.2.1, hf.1.trans h.2.2.1, hg.1.trans h.2.2.2.1, hf.2.1.trans h.2.2.2.2.1, hg.2.1.trans h.2.2.2.2.2.1, hf.2.2.trans h.2.2.2.2.2.2.1, hg.2.2.trans h.2.2.2.2.2.2.2.1, hl.up hb⟩
/-- both tell a late fault at token b -/
theorem lateJ {b : Nat} (h : RC x v M K st a) (hl : LJ x v st b) (hb : b < a) {l : Nat} (h0 : 0 < l) (h5 : l ≤ 5) : ∃ x' v' : MM, Runs e_X4_failLate [.ref 1, .int (nI l), .int (nI (st b))] x (fun r m => r = .null ∧ m = x') ∧ (∀ u, Runs e_X12_tells [.ref 156, .int (nI l), .int (nI b)] (catR u v) (fun r m => r = .null ∧ m = catR u v')) ∧ FX x x' ∧ FV v v' ∧ RC x' v' M K st a ∧ ¬ x'.1 1 9 = 0 ∧ v'.1 156 29 = v.1 156 29 := by
  have hbM : b < M := by have := h.2.1; omega
  by_cases c : x.1 1 9 = 0
  · refine ⟨ltX x (nI l) (nI (st b)), ltV v (nI l) (nI (st b)), lateX_y c _ _, fun u => lateV_y h.1 hbM (hl.v0 c) u _, FX.lt _ _ _, FV.lt _ _ _, h.fr (b := a) (h.1.f (FX.lt _ _ _) (FV.lt _ _ _)) ?_ ?_ (Or.inr ⟨l, b, h0, h5, hb, ?_, ?_, ?_, ?_⟩) (Nat.le_refl a), ?_, ?_⟩
    · unfold ltX
      exact ⟨by rw [wI_k, pk_un (by decide), wI_k, pk_un (by decide)], by rw [wI_k, pk_un (by decide), wI_k, pk_un (by decide)], by rw [wI_k, pk_un (by decide), wI_k, pk_un (by decide)]⟩
    · unfold ltV
      exact ⟨by rw [wI_k, pk_un (by decide), wI_k, pk_un (by decide)], by rw [wI_k, pk_un (by decide), wI_k, pk_un (by decide)], by rw [wI_k, pk_un (by decide), wI_k, pk_un (by decide)]⟩
    · unfold ltX; rw [wI_k, pk_un (by decide), wI_k, pk_us]
    · unfold ltV; rw [wI_k, pk_un (by decide), wI_k, pk_us]
    · unfold ltX; rw [wI_k, pk_us]
    · unfold ltV; rw [wI_k, pk_us]
    · unfold ltX; rw [wI_k, pk_un (by decide), wI_k, pk_us]; exact nI_ne0 h0 (by omega)
    · unfold ltV; rw [wI_k, pk_un (by decide), wI_k, pk_un (by decide)]
  · exact ⟨x, v, lateX_n c _ _, fun u => lateV_n h.1 hbM hl c u _, FX.rf x, FV.rf v, h, c, rfl⟩
/-- a number that both take -/
theorem intJ {ok : Bool} (h : JM ok x v M K st a) {lo hi : Nat} (hh : hi ≤ 99) (hlh : lo ≤ hi) : ∃ (ok' : Bool) (x' v' : MM) (w : Nat), Runs e_X4_readInt [.ref 1, .int (nI lo), .int (nI hi)] x (fun r m => r = .int (nI w) ∧ m = x') ∧ w ≤ 9999 ∧
    (ok = true → ∀ u, Runs e_X12_takesInt [.ref 156, .int (nI lo), .int (nI hi)] (catR u v) (fun r m => r = .int (bI ok') ∧ m = catR u v')) ∧ (ok = false → ok' = false ∧ x' = x ∧ v' = v) ∧ FX x x' ∧ FV v v' ∧ JM ok' x' v' M K st (a + 1) ∧
    (x'.1 1 9 = 0 → x.1 1 9 = 0) ∧ (ok' = true → ok = true ∧ v'.1 156 29 = nI w ∧ (x'.1 1 9 = 0 → lo ≤ w ∧ w ≤ hi)) := by
  obtain ⟨b, hb⟩ := h.2.2
  obtain ⟨o1, s1⟩ := startA hb
  obtain ⟨o2, w, w1, w2, w3⟩ := intA hb
  obtain ⟨ok1, x1, v1, t1, t2, t3, t4, t5, t6, t7, t8⟩ := takeJ h 27 (by decide)
  cases ok with
  | false =>
    obtain ⟨rfl, rfl, rfl⟩ := t3 rfl
    refine ⟨false, x1, v1, w, ?_, w1, (fun z => nomatch z), fun _ => ⟨rfl, rfl, rfl⟩, t4, t5, t7, fun z => z, (fun z => nomatch z)⟩
    apply b_X4_readInt
    rw [w2, s1]
    exact ⟨o1, o2, bcall t1 (fun z => nomatch z) fun _ m e => ⟨rfl, e⟩⟩
  | true =>
    have hc := h.1 rfl
    obtain ⟨e1, e2⟩ := t2 rfl
    have hba : b = a := by
      have h6 := hc.2.2.1
      rw [hb.2.2] at h6
      have m4 := hc.1.2.2.1.2.1
      have := hb.2.1
      have := hc.2.1
      exact (nI_eq (by omega) (by omega)).mp h6
    subst hba
    have hk41 := (hc.1.2.2.2.1 b hc.2.1).1
    have m4 := hc.1.2.2.1.2.1
    have ha := hc.2.1
    have hm1 : ∀ u, Runs e_X12_takes [.ref 156, .int (1 : Int32)] (catR u v) (fun r m => r = .int (bI ok1) ∧ m = catR u v1) := fun u => by
      rw [e1, e2]
      exact mTakes hc u (s := 1) (by decide) (k_int _ (by omega)).1
    cases ok1 with
    | false =>
      refine ⟨false, x1, v1, w, ?_, w1, fun _ u => ?_, (fun z => nomatch z), t4, t5, t7, fun z => t6.symm.trans z, (fun z => nomatch z)⟩
      · apply b_X4_readInt
        rw [w2, s1]
        exact ⟨o1, o2, bcall t1 (fun z => nomatch z) fun _ m e => ⟨rfl, e⟩⟩
      · apply b_X12_takesInt
        exact bcall (hm1 u) (fun z => nomatch z) fun _ m e => ⟨rfl, e⟩
    | true =>
      obtain ⟨-, k1, k2, k3, k4⟩ := t8 rfl
      have hc1 := t7.1 rfl
      have v6 : v.1 160 b = nI w := w3 k1
      have l1 : LJ x1 v1 st b := by
        rw [k3, k4]
        exact hc.2.2.2.2.2.2.2.2.fr (by rw [wI_k, pk_un (by decide)]) (by rw [wI_k, pk_un (by decide)]) (by rw [wI_k, pk_un (by decide)]) (by rw [wI_k, pk_un (by decide)])
      have hc2 : RC x1 (wI v1 156 29 (nI w)) M K st (b + 1) := hc1.fr (b := b + 1) (hc1.1.f (FX.rf x1) ((FV.rf v1).w (by omega) _)) ⟨rfl, rfl, rfl⟩ ⟨by rw [wI_k, pk_un (by decide)], by rw [wI_k, pk_un (by decide)], by rw [wI_k, pk_un (by decide)]⟩ ((l1.up (by omega)).fr rfl rfl (by rw [wI_k, pk_un (by decide)]) (by rw [wI_k, pk_un (by decide)])) (Nat.le_refl _)
      have l2 : LJ x1 (wI v1 156 29 (nI w)) st b := l1.fr rfl rfl (by rw [wI_k, pk_un (by decide)]) (by rw [wI_k, pk_un (by decide)])
      have e7 : ∀ u : MM, (catR u v).1 156 7 = nI b := fun u => by rw [cr_1 (by decide)]; exact hc.2.2.2.1
      have g1 : ∀ u : MM, wI (catR u v1) 156 29 ((catR u v1).1 160 ((catR u v).1 156 7).toNatClampNeg) = catR u (wI v1 156 29 (nI w)) := fun u => by
        rw [e7, nI_clamp (by omega), cr_1 (by decide), t5.2.1 160 (by decide), v6, cr_w (by decide)]
      have g2 : ∀ u : MM, (catR u (wI v1 156 29 (nI w))).1 156 29 = nI w := fun u => by rw [cr_1 (by decide), wI_k, pk_us]
      have g3 : vp_in (nI b) 2001 := vp_in_nI (by omega) (by omega)
      have p1 : p_X11_within x1 (nI w) (nI lo) (nI hi) ↔ lo ≤ w ∧ w ≤ hi := by
        unfold p_X11_within
        rw [nI_ltI (by omega) (by omega), nI_ltI (by omega) (by omega)]
        omega
      by_cases c : lo ≤ w ∧ w ≤ hi
      · refine ⟨true, x1, wI v1 156 29 (nI w), w, ?_, w1, fun _ u => ?_, (fun z => nomatch z), t4, t5.tr ((FV.rf v1).w (by omega) _), JM.t hc2, fun z => t6.symm.trans z, fun _ => ⟨rfl, by rw [wI_k, pk_us], fun _ => c⟩⟩
        · apply b_X4_readInt
          rw [w2, s1]
          refine ⟨o1, o2, bcall t1 (fun _ m e => ?_) (fun z => nomatch z)⟩
          subst e
          exact ⟨fun _ => ⟨rfl, rfl⟩, fun z => absurd (p1.mpr c) z⟩
        · apply b_X12_takesInt
          refine bcall (hm1 u) (fun _ m e => ?_) (fun z => nomatch z)
          subst e
          rw [g1, g2, e7]
          exact ⟨g3, fun z => absurd z (nI_nlt c.1 (by omega)), fun _ => ⟨fun _ => ⟨rfl, rfl⟩, fun z => absurd (nI_le c.2 (by omega)) z⟩⟩
      · obtain ⟨x3, v3, f1, f2, f3, f4, f5, f6, f7⟩ := lateJ hc2 l2 (by omega) (l := 5) (by decide) (by decide)
        refine ⟨true, x3, v3, w, ?_, w1, fun _ u => ?_, (fun z => nomatch z), t4.tr f3, (t5.tr ((FV.rf v1).w (by omega) _)).tr f4, JM.t f5, fun z => absurd z f6, fun _ => ⟨rfl, by rw [f7, wI_k, pk_us], fun z => absurd z f6⟩⟩
        · apply b_X4_readInt
          rw [w2, s1]
          refine ⟨o1, o2, bcall t1 (fun _ m e => ?_) (fun z => nomatch z)⟩
          subst e
          refine ⟨fun z => absurd (p1.mp z) c, fun _ => vcall f1 ?_⟩
          rintro m rfl
          exact ⟨rfl, rfl⟩
        · apply b_X12_takesInt
          refine bcall (hm1 u) (fun _ m e => ?_) (fun z => nomatch z)
          subst e
          rw [g1, g2, e7]
          refine ⟨g3, fun _ => vcall (f2 u) ?_, fun z1 => ⟨fun z2 => ?_, fun _ => vcall (f2 u) ?_⟩⟩
          · rintro m rfl
            exact ⟨rfl, rfl⟩
          · exfalso
            rw [nI_ltI (by omega) (by omega)] at z1
            rw [nI_leI (by omega) (by omega)] at z2
            omega
          · rintro m rfl
            exact ⟨rfl, rfl⟩
end

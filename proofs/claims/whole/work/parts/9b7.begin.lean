/-! reading: how both begin -/
section
variable {x v : MM} {t s : Nat}
theorem wI_in {y : MM} {A B : Nat} {F G : Nat → Int32} {q : Nat} {w : Int32} (h : A ≠ B) : wI (wR (wR y A F) B G) A q w = wR (wR y A (upd F q w)) B G := by
  show wR (wR (wR y A F) B G) A (upd ((wR (wR y A F) B G).1 A) q w) = _
  rw [wR_o h, wR_k, wR_comm (Ne.symm h), wR_wR]
def tnX (x : MM) (t : Nat) : MM := wI (wI (wI (wI (wI (wI (wI (wI x t 8 0) t 9 0) t 10 0) t 11 0) t 12 0) t 13 0) t 14 2) t 15 10
def lwX (x : MM) (t : Nat) : MM := wI (wI (wI (wI (wI (wI x t 5 0) t 8 (-1)) t 9 (-1)) t 10 (-1)) t 11 0) t 12 0
def stX (x : MM) (s : Nat) : MM := wI (wI (wI (wR (wR x (s + 1) (fb_put (x.1 (s + 1)) (fun _ => 0) 0 16)) (s + 2) (fb_put (x.1 (s + 2)) (fun _ => -1) 0 16)) s 7 0) s 8 0) (s + 7) 6 0
def rdX (x : MM) : MM := wI (wI (wI (wI (wI (wI x 1 6 0) 1 7 0) 1 8 (-1)) 1 9 0) 1 11 0) 1 12 0
def bgX (x : MM) (t s : Nat) : MM := rdX (stX (lwX (tnX x t) (t + 8)) s)
theorem emptyT (ht : isT t) : Runs e_X8_empty [.ref t] x (fun r m => r = .null ∧ m = lwX (tnX x t) (t + 8)) := by
  apply b_X8_empty _ _ _ ht.at
  refine vcall (K := fun m => m = lwX (tnX x t) (t + 8)) (b_X1_empty _ _ _ ht.at.laws ⟨rfl, rfl⟩) ?_
  rintro m rfl
  exact ⟨rfl, rfl⟩
theorem emptyS (hs : isS s) : Runs e_X6_empty [.ref s] x (fun r m => r = .null ∧ m = stX x s) := by
  apply b_X6_empty _ _ _ hs.at
  refine for_up (fun q => [(0, .ref s), (1, .int (nI q))]) (fun q m' => m' = wR (wR x (s + 1) (fb_put (x.1 (s + 1)) (fun _ => 0) 0 q)) (s + 2) (fb_put (x.1 (s + 2)) (fun _ => -1) 0 q)) 16 ?_ ?_ 0 _ (Nat.zero_le _) (by rw [fb_put_0, fb_put_0, wR_self, wR_self])
  · rintro m' rfl
    apply b_X6_empty_2 _ _ _ _ hs.at
    exact ⟨fun _ => ⟨rfl, rfl⟩, fun z => absurd (show (16 : Int32) ≤ nI 16 by decide) z⟩
  · rintro q m' hq rfl hk
    apply b_X6_empty_2 _ _ _ _ hs.at
    have ps := fb_put_succ (x.1 (s + 1)) (fun _ => (0 : Int32)) 0 q
    have pt := fb_put_succ (x.1 (s + 2)) (fun _ => (-1 : Int32)) 0 q
    rw [Nat.zero_add] at ps pt
    rw [nI_clamp (by omega), nI_1 q, wI_in (by omega), wI_wR, ps, pt]
    have v := vp_in_nI (n := q) (N := 16) hq (by omega)
    exact ⟨fun z => absurd z (nI_ge (a := q) (b := 16) hq (by omega)), fun _ => ⟨v, v, hk _ rfl⟩⟩
theorem beginX (ht : isT t) (hs : isN s) (h4 : x.2.2 1 4 = t) (h5 : x.2.2 1 5 = s) : Runs e_X4_begin [.ref 1] x (fun r m => r = .null ∧ m = bgX x t s) := by
  apply b_X4_begin
  rw [h4]
  refine ⟨ht.at, vcall (emptyT ht) ?_⟩
  rintro m rfl
  rw [show (lwX (tnX x t) (t + 8)).2.2 1 5 = s from h5]
  refine ⟨hs.s.at, vcall (emptyS hs.s) ?_⟩
  rintro m rfl
  exact ⟨rfl, rfl⟩
theorem wR_2 (y : MM) (k : Nat) (f : Nat → Int32) : (wR y k f).2 = y.2 := rfl
theorem bgX_2 : (bgX x t s).2 = x.2 := by
  unfold bgX rdX stX lwX tnX
  simp only [wI_2, wR_2]
theorem bgX_at (ht : isT t) (hs : isN s) : (bgX x t s).2 = x.2 ∧ (∀ r, r ≠ 1 → r ≠ t → r ≠ t + 8 → r ≠ s → r ≠ s + 1 → r ≠ s + 2 → r ≠ s + 7 → (bgX x t s).1 r = x.1 r) ∧ (∀ y, y < 6 ∨ y = 10 ∨ 12 < y → (bgX x t s).1 1 y = x.1 1 y) ∧
    ((bgX x t s).1 1 6 = 0 ∧ (bgX x t s).1 1 7 = 0 ∧ (bgX x t s).1 1 8 = -1 ∧ (bgX x t s).1 1 9 = 0 ∧ (bgX x t s).1 1 11 = 0 ∧ (bgX x t s).1 1 12 = 0) ∧
    ((bgX x t s).1 t 8 = 0 ∧ (bgX x t s).1 t 9 = 0 ∧ (bgX x t s).1 t 10 = 0 ∧ (bgX x t s).1 t 11 = 0 ∧ (bgX x t s).1 t 12 = 0 ∧ (bgX x t s).1 t 13 = 0 ∧ (bgX x t s).1 t 14 = 2 ∧ (bgX x t s).1 t 15 = 10) ∧
    ((bgX x t s).1 (t + 8) 5 = 0 ∧ (bgX x t s).1 (t + 8) 8 = -1 ∧ (bgX x t s).1 (t + 8) 9 = -1 ∧ (bgX x t s).1 (t + 8) 10 = -1 ∧ (bgX x t s).1 (t + 8) 11 = 0 ∧ (bgX x t s).1 (t + 8) 12 = 0) ∧
    (∀ h, h < 16 → (bgX x t s).1 (s + 1) h = 0 ∧ (bgX x t s).1 (s + 2) h = -1) ∧ (bgX x t s).1 s 7 = 0 ∧ (bgX x t s).1 s 8 = 0 ∧ (bgX x t s).1 (s + 7) 6 = 0 := by
  have hrt : t = 10 ∨ t = 100 := ht
  have hrs : s = 24 ∨ s = 114 := hs
  have r1 : ∀ r, r ≠ 1 → (bgX x t s).1 r = (stX (lwX (tnX x t) (t + 8)) s).1 r := fun r h => by
    unfold bgX rdX
    rw [wI_o h, wI_o h, wI_o h, wI_o h, wI_o h, wI_o h]
  have r2 : ∀ r, r ≠ s → r ≠ s + 1 → r ≠ s + 2 → r ≠ s + 7 → (stX (lwX (tnX x t) (t + 8)) s).1 r = (lwX (tnX x t) (t + 8)).1 r := fun r h1 h2 h3 h4 => by
    unfold stX
    rw [wI_o h4, wI_o h1, wI_o h1, wR_o h3, wR_o h2]
  have r3 : ∀ r, r ≠ t + 8 → (lwX (tnX x t) (t + 8)).1 r = (tnX x t).1 r := fun r h => by
    unfold lwX
    rw [wI_o h, wI_o h, wI_o h, wI_o h, wI_o h, wI_o h]
  have r4 : ∀ r, r ≠ t → (tnX x t).1 r = x.1 r := fun r h => by
    unfold tnX
    rw [wI_o h, wI_o h, wI_o h, wI_o h, wI_o h, wI_o h, wI_o h, wI_o h]
  have e1 : ∀ y, (bgX x t s).1 1 y = upd (upd (upd (upd (upd (upd (x.1 1) 6 0) 7 0) 8 (-1)) 9 0) 11 0) 12 0 y := fun y => by
    unfold bgX rdX
    rw [wI_k, wI_k, wI_k, wI_k, wI_k, wI_k, r2 1 (by omega) (by omega) (by omega) (by omega), r3 1 (by omega), r4 1 (by omega)]
  have et : (bgX x t s).1 t = upd (upd (upd (upd (upd (upd (upd (upd (x.1 t) 8 0) 9 0) 10 0) 11 0) 12 0) 13 0) 14 2) 15 10 := by
    rw [r1 t (by omega), r2 t (by omega) (by omega) (by omega) (by omega), r3 t (by omega)]
    unfold tnX
    rw [wI_k, wI_k, wI_k, wI_k, wI_k, wI_k, wI_k, wI_k]
  have el : (bgX x t s).1 (t + 8) = upd (upd (upd (upd (upd (upd (x.1 (t + 8)) 5 0) 8 (-1)) 9 (-1)) 10 (-1)) 11 0) 12 0 := by
    rw [r1 _ (by omega), r2 _ (by omega) (by omega) (by omega) (by omega)]
    unfold lwX
    rw [wI_k, wI_k, wI_k, wI_k, wI_k, wI_k, r4 _ (by omega)]
  have es : (bgX x t s).1 s = upd (upd ((lwX (tnX x t) (t + 8)).1 s) 7 0) 8 0 := by
    rw [r1 _ (by omega)]
    unfold stX
    rw [wI_o (by omega), wI_k, wI_k, wR_o (by omega), wR_o (by omega)]
  have es7 : (bgX x t s).1 (s + 7) = upd ((lwX (tnX x t) (t + 8)).1 (s + 7)) 6 0 := by
    rw [r1 _ (by omega)]
    unfold stX
    rw [wI_k, wI_o (by omega), wI_o (by omega), wR_o (by omega), wR_o (by omega)]
  have es1 : (bgX x t s).1 (s + 1) = fb_put ((lwX (tnX x t) (t + 8)).1 (s + 1)) (fun _ => 0) 0 16 := by
    rw [r1 _ (by omega)]
    unfold stX
    rw [wI_o (by omega), wI_o (by omega), wI_o (by omega), wR_o (by omega), wR_k]
  have es2 : (bgX x t s).1 (s + 2) = fb_put ((lwX (tnX x t) (t + 8)).1 (s + 2)) (fun _ => -1) 0 16 := by
    rw [r1 _ (by omega)]
    unfold stX
    rw [wI_o (by omega), wI_o (by omega), wI_o (by omega), wR_k]
  refine ⟨bgX_2, fun r h1 h2 h3 h4 h5 h6 h7 => by rw [r1 r h1, r2 r h4 h5 h6 h7, r3 r h3, r4 r h2], fun y hy => ?_, ⟨?_, ?_, ?_, ?_, ?_, ?_⟩, ?_, ?_, fun h hh => ?_, ?_, ?_, ?_⟩
  · rw [e1, pk_un (by omega), pk_un (by omega), pk_un (by omega), pk_un (by omega), pk_un (by omega), pk_un (by omega)]
  · rw [e1]; simp (disch := omega) only [pk_us, pk_un]
  · rw [e1]; simp (disch := omega) only [pk_us, pk_un]
  · rw [e1]; simp (disch := omega) only [pk_us, pk_un]
  · rw [e1]; simp (disch := omega) only [pk_us, pk_un]
  · rw [e1]; simp (disch := omega) only [pk_us, pk_un]
  · rw [e1]; simp (disch := omega) only [pk_us, pk_un]
  · rw [et]; simp (disch := omega) only [pk_us, pk_un, and_true, true_and, eq_self]
  · rw [el]; simp (disch := omega) only [pk_us, pk_un, and_true, true_and, eq_self]
  · rw [es1, es2, fb_put_in (Nat.zero_le _) (by omega), fb_put_in (Nat.zero_le _) (by omega)]
    exact ⟨rfl, rfl⟩
  · rw [es]; simp (disch := omega) only [pk_us, pk_un]
  · rw [es]; simp (disch := omega) only [pk_us, pk_un]
  · rw [es7]; simp (disch := omega) only [pk_us, pk_un]
def bg0 (v : MM) : MM := mBegin (wI (wI (wI v 156 8 0) 156 9 (-1)) 156 10 0) 1
def bgV (v : MM) : MM := wI (wI (bg0 v) 156 7 0) 156 25 0
theorem beginF_lo {f : Nat → Int32} {j : Nat} (h : j < 210) : beginF f 1 j = f j := by
  unfold beginF
  rw [fb_put_out (by omega), pk_un (by omega), pk_un (by omega), fb_put_out (by omega)]
theorem beginF_at {f : Nat → Int32} {j : Nat} (h : j < 210) : (j = 6 → beginF f 1 (210 + j) = 2) ∧ (j = 7 → beginF f 1 (210 + j) = 10) ∧ (10 ≤ j → j < 16 → beginF f 1 (210 + j) = -1) ∧ (j ≠ 6 → j ≠ 7 → (j < 10 ∨ 16 ≤ j) → beginF f 1 (210 + j) = 0) := by
  unfold beginF
  refine ⟨fun e => ?_, fun e => ?_, fun h1 h2 => ?_, fun h1 h2 h3 => ?_⟩
  · subst e
    rw [fb_put_out (by omega), pk_un (by omega), pk_us]
  · subst e
    rw [fb_put_out (by omega), pk_us]
  · rw [fb_put_in (by omega) (by omega)]
  · rw [fb_put_out (by omega), pk_un (by omega), pk_un (by omega), fb_put_in (by omega) (by omega)]
theorem bgV_at : (bgV v).2 = v.2 ∧ (∀ r, r ≠ 156 → r ≠ 162 → r ≠ 164 → r ≠ 167 → (bgV v).1 r = v.1 r) ∧ (∀ y, y ≠ 7 → y ≠ 8 → y ≠ 9 → y ≠ 10 → y ≠ 25 → (bgV v).1 156 y = v.1 156 y) ∧ ((bgV v).1 156 7 = 0 ∧ (bgV v).1 156 8 = 0 ∧ (bgV v).1 156 9 = -1 ∧ (bgV v).1 156 10 = 0 ∧ (bgV v).1 156 25 = 0) ∧
    (bgV v).1 162 = beginF (v.1 162) 1 ∧ (bgV v).1 164 1 = 0 ∧ (bgV v).1 167 1 = 0 := by
  have e156 : (bgV v).1 156 = upd (upd (upd (upd (upd (v.1 156) 8 0) 9 (-1)) 10 0) 7 0) 25 0 := by
    unfold bgV bg0 mBegin
    rw [wI_k, wI_k, wI_o (by decide), wI_o (by decide), wR_o (by decide), wI_k, wI_k, wI_k]
  refine ⟨rfl, fun r h1 h2 h3 h4 => ?_, fun y h1 h2 h3 h4 h5 => ?_, ?_, ?_, ?_, ?_⟩
  · unfold bgV bg0 mBegin
    rw [wI_o h1, wI_o h1, wI_o h4, wI_o h3, wR_o h2, wI_o h1, wI_o h1, wI_o h1]
  · rw [e156, pk_un h5, pk_un h1, pk_un h4, pk_un h3, pk_un h2]
  · rw [e156]; simp (disch := omega) only [pk_us, pk_un, and_true, true_and, eq_self]
  · unfold bgV bg0 mBegin
    rw [wI_o (by decide), wI_o (by decide), wI_o (by decide), wI_o (by decide), wR_k, wI_o (by decide), wI_o (by decide), wI_o (by decide)]
  · unfold bgV bg0 mBegin
    rw [wI_o (by decide), wI_o (by decide), wI_o (by decide), wI_k, pk_us]
  · unfold bgV bg0 mBegin
    rw [wI_o (by decide), wI_o (by decide), wI_k, pk_us]
theorem RC0 {M : Nat} {K ts : Nat → Nat} (ht : isT t) (hs : isN s) (h : TJ x v M K ts) : RC (bgX x t s) (bgV v) M K ts 0 := by
  have hrt : t = 10 ∨ t = 100 := ht
  have hrs : s = 24 ∨ s = 114 := hs
  obtain ⟨a1, a2, a3, ⟨a4, a5, a6, a7, a8, a9⟩, -⟩ := bgX_at (x := x) ht hs
  obtain ⟨b1, b2, b3, ⟨b4, b5, b6, b7, b8⟩, -⟩ := bgV_at (v := v)
  exact ⟨h.fr (by rw [a2 5 (by decide) (by omega) (by omega) (by omega) (by omega) (by omega) (by omega)]) (a2 7 (by decide) (by omega) (by omega) (by omega) (by omega) (by omega) (by omega)) (a2 8 (by decide) (by omega) (by omega) (by omega) (by omega) (by omega) (by omega)) (by rw [a1]) (b2 158 (by decide) (by decide) (by decide) (by decide)) (b2 159 (by decide) (by decide) (by decide) (by decide)) (b2 160 (by decide) (by decide) (by decide) (by decide)) (by rw [b1]), h.2.2.1.1, a4, b4, a5, b5, a6, b6, Or.inl ⟨a7, b7⟩⟩
theorem INV0 {M : Nat} {K : Nat → Nat} (ht : isT t) (hs : isN s) (h4 : x.2.2 1 4 = t) (h5 : x.2.2 1 5 = s) : INV (bgX x t s) (bgV v) M K t s 0 := by
  obtain ⟨a1, a2, a3, ⟨a4, a5, a6, a7, a8, a9⟩, ⟨t8, t9, t10, t11, t12, t13, t14, t15⟩, ⟨L5, L8, L9, L10, L11, L12⟩, aS, -, -, -⟩ := bgX_at (x := x) ht hs
  obtain ⟨b1, b2, b3, ⟨b4, b5, b6, b7, b8⟩, b162, b164, b167⟩ := bgV_at (v := v)
  have z : ∀ j, j < 210 → j ≠ 6 → j ≠ 7 → (j < 10 ∨ 16 ≤ j) → (bgV v).1 162 (210 + j) = 0 := fun j h1 h2 h3 h4 => by rw [b162]; exact (beginF_at h1).2.2.2 h2 h3 h4
  have n1 : ∀ j, 10 ≤ j → j < 16 → (bgV v).1 162 (210 + j) = -1 := fun j h1 h2 => by rw [b162]; exact (beginF_at (by omega)).2.2.1 h1 h2
  refine ⟨0, 0, 0, 0, 0, 0, 0, 0, 0, 0, 0, ⟨⟨⟨by rw [a1]; exact h4, ht⟩, by rw [a1]; exact h5, hs⟩, ⟨by decide, by decide, by decide, by decide, by decide, by decide⟩, ⟨t8, t9, t10, t11, t13, L11, L12, a9⟩, ⟨z 0 (by decide) (by decide) (by decide) (by decide), z 1 (by decide) (by decide) (by decide) (by decide), z 2 (by decide) (by decide) (by decide) (by decide), z 3 (by decide) (by decide) (by decide) (by decide), z 4 (by decide) (by decide) (by decide) (by decide), z 5 (by decide) (by decide) (by decide) (by decide), z 8 (by decide) (by decide) (by decide) (by decide), z 9 (by decide) (by decide) (by decide) (by decide)⟩,
    ⟨L5, b164, b167, Nat.le_refl _, Nat.le_refl _, Nat.le_refl _, by decide⟩, ⟨fun _ => 0, fun _ => 0, ⟨by decide, by decide⟩, a8, b8, fun i hi => absurd hi (Nat.not_lt_zero _), fun _ i j _ hj => absurd hj (Nat.not_lt_zero _)⟩⟩, fun _ => ⟨2, 10, ⟨⟨by decide, by decide⟩, ⟨by decide, by decide⟩, ?_, ?_, t14, t15, t12⟩, ⟨fun h hh => absurd hh (Nat.not_lt_zero _), fun h hh => absurd hh (Nat.not_lt_zero _), fun h hh => absurd hh (Nat.not_lt_zero _), fun h hh => absurd hh (Nat.not_lt_zero _), fun h hh => absurd hh (Nat.not_lt_zero _)⟩, ⟨Or.inl ⟨n1 10 (by decide) (by decide), L8⟩, Or.inl ⟨n1 12 (by decide) (by decide), L9⟩, Or.inl ⟨n1 14 (by decide) (by decide), L10⟩⟩, ⟨fun h hh => absurd hh (Nat.not_lt_zero _), fun h hh => absurd hh (Nat.not_lt_zero _)⟩, fun h hh => ?_, fun h hh => absurd hh (Nat.not_lt_zero _), fun h hh => absurd hh (Nat.not_lt_zero _), fun k hk => ?_⟩⟩
  · rw [hc_162, b162]; exact (beginF_at (by decide)).1 rfl
  · rw [hc_162, b162]; exact (beginF_at (by decide)).2.1 rfl
  · rw [z _ (by omega) (by omega) (by omega) (by omega), (aS h hh).1]
    exact ⟨⟨0, by decide, rfl⟩, rfl⟩
  · rw [(aS k hk).2]; rfl
end

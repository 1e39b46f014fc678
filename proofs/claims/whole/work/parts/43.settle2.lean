theorem settle_71 (mm : MM) (f : Nat → Int32) (H N : Nat) (hH : mm.1 162 0 = nI H) (h16 : H ≤ 16) (hN : mm.1 162 2 = nI N) (hN12 : N ≤ 12) (hin : ∀ i, i < N → ∃ h : Nat, h < 16 ∧ mm.1 162 (90 + 2 * i) = nI h) (Q : Value → MM → Prop)
    (hk : G e_X12_settle 117 [(0, .ref 156), (1, .int (0 : Int32))] [] (wR mm 163 (setl2 (mm.1 162) H f N)) Q) :
    ∀ n k, k + n = N → G e_X12_settle 71 [(0, .ref 156), (1, .int (nI k))] [] (wR mm 163 (setl2 (mm.1 162) H f k)) Q := by
  intro n
  induction n with
  | zero =>
    intro k h
    have hk' : k = N := by omega
    subst hk'
    apply b_X12_settle_71
    rw [wR_o (by decide), hN]
    exact pk_le k k (fun _ => hk) (fun h => absurd h (by omega)) rfl rfl
  | succ n ih =>
    intro k h
    apply b_X12_settle_71
    rw [wR_o (by decide), hN]
    refine pk_le N k (fun h => absurd h (by omega)) (fun _ => ?_) rfl rfl
    refine ⟨vin (n := 90 + 2 * k) (by simp only [lit, nI_add, pk_mul]) (by omega) (by omega), vin (n := 90 + 2 * k + 1) (by simp only [lit, nI_add, pk_mul]) (by omega) (by omega), ?_⟩
    rw [clampN (x := 90 + 2 * nI k) (n := 90 + 2 * k) (by simp only [lit, nI_add, pk_mul]) (by omega), clampN (x := 90 + 2 * nI k + 1) (n := 90 + 2 * k + 1) (by simp only [lit, nI_add, pk_mul]) (by omega)]
    obtain ⟨x, hx, ex⟩ := hin k (by omega)
    rw [ex]
    refine ⟨_, gives_ok _ x H _ (by rw [wR_o (by decide)]; exact hH) h16 hx, ?_⟩
    rintro m1 ⟨-, rfl⟩
    rw [wR_wR, wR_k, nI_1 k]
    have e : givesF (setl2 (mm.1 162) H f k) H x (mm.1 162 (90 + 2 * k + 1)) = setl2 (mm.1 162) H f (k + 1) := by
      show _ = givesF (setl2 (mm.1 162) H f k) H (mm.1 162 (90 + 2 * k)).toNatClampNeg (mm.1 162 (91 + 2 * k))
      rw [ex, nI_clamp (by omega), show 90 + 2 * k + 1 = 91 + 2 * k by omega]
    rw [e]
    exact ih (k + 1) (by omega)
def mSlots (mm : MM) : MM := wI (wI (wI (wI mm 156 50 0) 156 40 0) 174 1 0) 174 2 0
theorem settle_117 (mm : MM) (f : Nat → Int32) (Q : Value → MM → Prop) (hk : Q .null (mSlots (wR mm 163 (fb_put f (fun j => mm.1 162 (171 + 2 * j)) 50 8)))) :
    ∀ n k, k + n = 8 → G e_X12_settle 117 [(0, .ref 156), (1, .int (nI k))] [] (wR mm 163 (fb_put f (fun j => mm.1 162 (171 + 2 * j)) 50 k)) Q := by
  intro n
  induction n with
  | zero =>
    intro k h
    have hk' : k = 8 := by omega
    subst hk'
    apply b_X12_settle_117
    exact pk_le 8 8 (fun _ => hk) (fun h => absurd h (by omega)) rfl rfl
  | succ n ih =>
    intro k h
    apply b_X12_settle_117
    refine pk_le 8 k (fun h => absurd h (by omega)) (fun _ => ?_) rfl rfl
    refine ⟨vin (n := 170 + 2 * k + 1) (by simp only [lit, nI_add, pk_mul]) (by omega) (by omega), vin (n := 50 + k) (by simp only [lit, nI_add, pk_mul]) (by omega) (by omega), ?_⟩
    rw [clampN (x := 170 + 2 * nI k + 1) (n := 170 + 2 * k + 1) (by simp only [lit, nI_add, pk_mul]) (by omega), clampN (x := 50 + nI k) (n := 50 + k) (by simp only [lit, nI_add, pk_mul]) (by omega), wI_wR, wR_o (by decide), nI_1 k, show 170 + 2 * k + 1 = 171 + 2 * k by omega]
    rw [fb_put_succ f (fun j => mm.1 162 (171 + 2 * j)) 50 k]
    exact ih (k + 1) (by omega)
/-- the live cells behind settle -/
def settleF (st f : Nat → Int32) (H N : Nat) : Nat → Int32 := setl3 st (setl2 st H (setl1 st f) N)
theorem settle_ok (mm : MM) (H N : Nat) (hH : mm.1 162 0 = nI H) (h16 : H ≤ 16) (hN : mm.1 162 2 = nI N) (hN12 : N ≤ 12) (hin : ∀ i, i < N → ∃ h : Nat, h < 16 ∧ mm.1 162 (90 + 2 * i) = nI h) (Q : Value → MM → Prop) (hk : Q .null (mSlots (wR mm 163 (settleF (mm.1 162) (mm.1 163) H N)))) : Runs e_X12_settle [.ref 156] mm Q := by
  apply b_X12_settle
  have h4 := settle_117 mm (setl2 (mm.1 162) H (setl1 (mm.1 162) (mm.1 163)) N) Q hk 8 0 (by omega)
  rw [fb_put_0] at h4
  have h3 := settle_71 mm (setl1 (mm.1 162) (mm.1 163)) H N hH h16 hN hN12 hin Q h4 N 0 (by omega)
  have h2 := settle_24 mm (fb_put (mm.1 163) (fun _ => 0) 0 420) Q h3 16 0 (by omega)
  rw [fb_put_0, fb_put_0] at h2
  have h1 := settle_2 mm (mm.1 163) Q h2 420 0 (by omega)
  rw [fb_put_0, wR_self] at h1
  exact h1

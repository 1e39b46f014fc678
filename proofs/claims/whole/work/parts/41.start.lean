/-! the model's begin and settle, exactly -/
def beginF (f : Nat → Int32) (b : Nat) : Nat → Int32 := fb_put (upd (upd (fb_put f (fun _ => 0) (210 * b) 210) (210 * b + 6) 2) (210 * b + 7) 10) (fun _ => -1) (210 * b + 10) 6
theorem begin_2 (b : Nat) (hb : b < 2) (mm : MM) (f : Nat → Int32) (Q : Value → MM → Prop) (hk : G e_X12_begin 59 [(0, .ref 156), (1, .int (nI b)), (2, .int (0 : Int32))] [] (wR mm 162 (upd (upd (fb_put f (fun _ => 0) (210 * b) 210) (210 * b + 6) 2) (210 * b + 7) 10)) Q) :
    ∀ n k, k + n = 210 → G e_X12_begin 2 [(0, .ref 156), (1, .int (nI b)), (2, .int (nI k))] [] (wR mm 162 (fb_put f (fun _ => 0) (210 * b) k)) Q := by
  intro n
  induction n with
  | zero =>
    intro k h
    have hk' : k = 210 := by omega
    subst hk'
    apply b_X12_begin_2
    refine pk_le 210 210 (fun _ => ?_) (fun h => absurd h (by omega)) rfl rfl
    refine ⟨vin (n := 210 * b + 6) (by simp only [lit, nI_add, pk_mul]) (by omega) (by omega), vin (n := 210 * b + 7) (by simp only [lit, nI_add, pk_mul]) (by omega) (by omega), ?_⟩
    rw [clampN (n := 210 * b + 6) (by simp only [lit, nI_add, pk_mul]) (by omega), clampN (n := 210 * b + 7) (by simp only [lit, nI_add, pk_mul]) (by omega), wI_wR, wI_wR]
    exact hk
  | succ n ih =>
    intro k h
    apply b_X12_begin_2
    refine pk_le 210 k (fun h => absurd h (by omega)) (fun _ => ?_) rfl rfl
    refine ⟨vin (n := 210 * b + k) (by simp only [lit, nI_add, pk_mul]) (by omega) (by omega), ?_⟩
    rw [clampN (n := 210 * b + k) (by simp only [lit, nI_add, pk_mul]) (by omega), wI_wR, fb_put_succ f (fun _ => 0) (210 * b) k]
    rw [nI_1 k]
    exact ih (k + 1) (by omega)
theorem begin_59 (b : Nat) (hb : b < 2) (mm : MM) (f : Nat → Int32) (Q : Value → MM → Prop) (hk : Q .null (wI (wI (wR mm 162 (fb_put f (fun _ => -1) (210 * b + 10) 6)) 164 b 0) 167 b 0)) :
    ∀ n k, k + n = 6 → G e_X12_begin 59 [(0, .ref 156), (1, .int (nI b)), (2, .int (nI k))] [] (wR mm 162 (fb_put f (fun _ => -1) (210 * b + 10) k)) Q := by
  intro n
  induction n with
  | zero =>
    intro k h
    have hk' : k = 6 := by omega
    subst hk'
    apply b_X12_begin_59
    refine pk_le 6 6 (fun _ => ?_) (fun h => absurd h (by omega)) rfl rfl
    refine ⟨vin (n := b) rfl hb (by omega), vin (n := b) rfl hb (by omega), ?_⟩
    rw [clampN (n := b) rfl (by omega)]
    exact hk
  | succ n ih =>
    intro k h
    apply b_X12_begin_59
    refine pk_le 6 k (fun h => absurd h (by omega)) (fun _ => ?_) rfl rfl
    refine ⟨vin (n := 210 * b + 10 + k) (by simp only [lit, nI_add, pk_mul]) (by omega) (by omega), ?_⟩
    rw [clampN (n := 210 * b + 10 + k) (by simp only [lit, nI_add, pk_mul]) (by omega), wI_wR, fb_put_succ f (fun _ => -1) (210 * b + 10) k]
    rw [nI_1 k]
    exact ih (k + 1) (by omega)
def mBegin (mm : MM) (b : Nat) : MM := wI (wI (wR mm 162 (beginF (mm.1 162) b)) 164 b 0) 167 b 0
theorem begin_ok (b : Nat) (hb : b < 2) (mm : MM) (Q : Value → MM → Prop) (hk : Q .null (mBegin mm b)) : Runs e_X12_begin [.ref 156, .int (nI b)] mm Q := by
  apply b_X12_begin
  have h1 := begin_59 b hb mm (upd (upd (fb_put (mm.1 162) (fun _ => 0) (210 * b) 210) (210 * b + 6) 2) (210 * b + 7) 10) Q hk 6 0 (by omega)
  rw [fb_put_0] at h1
  have h2 := begin_2 b hb mm (mm.1 162) Q h1 210 0 (by omega)
  rw [fb_put_0, wR_self] at h2
  exact h2

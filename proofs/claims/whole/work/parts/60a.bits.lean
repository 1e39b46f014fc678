/-! counting bits -/
def bcN (n : Nat) : Nat :=
  let a := n - ((n / 2) &&& 1431655765)
  let b := (a &&& 858993459) + ((a / 4) &&& 858993459)
  let c := (b + b / 16) &&& 252645135
  let d := c + c / 256
  (d + d / 65536) &&& 63
def popF (n : Nat) : Nat := n % 2 + n / 2 % 2 + n / 4 % 2 + n / 8 % 2 + n / 16 % 2 + n / 32 % 2 + n / 64 % 2 + n / 128 % 2 + n / 256 % 2 + n / 512 % 2 + n / 1024 % 2 + n / 2048 % 2 + n / 4096 % 2 + n / 8192 % 2 + n / 16384 % 2 + n / 32768 % 2
def allB (p : Nat → Bool) : Nat → Bool
  | 0 => true
  | n + 1 => p n && allB p n
theorem allB_at {p : Nat → Bool} : ∀ {n : Nat}, allB p n = true → ∀ k, k < n → p k = true
  | 0, _, k, hk => absurd hk (Nat.not_lt_zero _)
  | n + 1, h, k, hk => by
    unfold allB at h
    rw [Bool.and_eq_true] at h
    by_cases e : k = n
    · subst e; exact h.1
    · exact allB_at h.2 k (by omega)
theorem bc_all : allB (fun a => allB (fun b => Nat.beq (bcN (256 * a + b)) (popF (256 * a + b))) 256) 256 = true := by decide +kernel
theorem bc_pop {n : Nat} (h : n < 65536) : bcN n = popF n := by
  have h1 := allB_at (allB_at bc_all (n / 256) (by omega)) (n % 256) (by omega)
  have e : 256 * (n / 256) + n % 256 = n := by omega
  rw [e] at h1
  exact Nat.eq_of_beq_eq_true h1

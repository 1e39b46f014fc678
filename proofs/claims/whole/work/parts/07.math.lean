/-- the words of a call of Math's -/
def MW (own : String) (idx : Nat) (y : MethodName) (cc : ByteArray) (n : Nat) : Prop := Cond.methodLink own idx y ∈ bigW ∧ Cond.static y ∈ bigW ∧ Cond.initialized "java/lang/Math" ∈ bigW ∧ Cond.code y cc n (some .int) ∈ bigW
def imin (x y : Int32) : Int32 := if y < x then y else x
def imax (x y : Int32) : Int32 := if x < y then y else x
def iabs (x : Int32) : Int32 := if 0 ≤ x then x else 0 - x
theorem nfw_copy : nativeFrameWords "java/lang/System" "arraycopy" 5 = 7 := by decide +kernel
theorem g_mmin {Y : ME} {pc : Nat} {L : List (Nat × Value)} {rest : List Value} {mm : MM} {Q : Value → MM → Prop} {idx : Nat} {x y : Int32} (d : decode (mB Y) pc = .ok (.invokestatic idx, 3)) (hC : MW (mN Y).cls idx Lib.Math.min.name Lib.Math.min.code 2) (hD : 1 ≤ mD Y) (hrest : (rest.map fun v => v.category).sum ≤ 8) (k : G Y (pc + 3) L (.int (imin x y) :: rest) mm Q) : G Y pc L (.int y :: .int x :: rest) mm Q := by
  intro p l e s m args below meth c D ad ca A C H locs ls hP hS hl
  have hts := C.2.2.2.2.2.2.1
  exact va_mmin C.1 C.2.1 (C.2.2.1.trans hl.1.symm) C.2.2.2.2.2.1 (hts _ hC.1) (hts _ hC.2.1) (hts _ hC.2.2.1) (hts _ hC.2.2.2) hD (by show ((cS ad rest).map fun v => v.category).sum + 13 ≤ 32 * mD Y + 40; rw [cS_cat]; omega) (Nat.zero_le _) (Nat.zero_le _) d (k p l e s m args below meth c D ad ca A C H locs ls hP hS hl)
theorem g_mmax {Y : ME} {pc : Nat} {L : List (Nat × Value)} {rest : List Value} {mm : MM} {Q : Value → MM → Prop} {idx : Nat} {x y : Int32} (d : decode (mB Y) pc = .ok (.invokestatic idx, 3)) (hC : MW (mN Y).cls idx Lib.Math.max.name Lib.Math.max.code 2) (hD : 1 ≤ mD Y) (hrest : (rest.map fun v => v.category).sum ≤ 8) (k : G Y (pc + 3) L (.int (imax x y) :: rest) mm Q) : G Y pc L (.int y :: .int x :: rest) mm Q := by
  intro p l e s m args below meth c D ad ca A C H locs ls hP hS hl
  have hts := C.2.2.2.2.2.2.1
  exact va_mmax C.1 C.2.1 (C.2.2.1.trans hl.1.symm) C.2.2.2.2.2.1 (hts _ hC.1) (hts _ hC.2.1) (hts _ hC.2.2.1) (hts _ hC.2.2.2) hD (by show ((cS ad rest).map fun v => v.category).sum + 13 ≤ 32 * mD Y + 40; rw [cS_cat]; omega) (Nat.zero_le _) (Nat.zero_le _) d (k p l e s m args below meth c D ad ca A C H locs ls hP hS hl)
theorem g_mabs {Y : ME} {pc : Nat} {L : List (Nat × Value)} {rest : List Value} {mm : MM} {Q : Value → MM → Prop} {idx : Nat} {x : Int32} (d : decode (mB Y) pc = .ok (.invokestatic idx, 3)) (hC : MW (mN Y).cls idx Lib.Math.abs.name Lib.Math.abs.code 1) (hD : 1 ≤ mD Y) (hrest : (rest.map fun v => v.category).sum ≤ 8) (k : G Y (pc + 3) L (.int (iabs x) :: rest) mm Q) : G Y pc L (.int x :: rest) mm Q := by
  intro p l e s m args below meth c D ad ca A C H locs ls hP hS hl
  have hts := C.2.2.2.2.2.2.1
  exact va_mabs C.1 C.2.1 (C.2.2.1.trans hl.1.symm) C.2.2.2.2.2.1 (hts _ hC.1) (hts _ hC.2.1) (hts _ hC.2.2.1) (hts _ hC.2.2.2) hD (by show ((cS ad rest).map fun v => v.category).sum + 13 ≤ 32 * mD Y + 40; rw [cS_cat]; omega) (Nat.zero_le _) (Nat.zero_le _) d (k p l e s m args below meth c D ad ca A C H locs ls hP hS hl)
/-- System.arraycopy over rows of ints -/
def AC (own : String) (idx : Nat) : Prop := Cond.methodLink own idx arraycopyName ∈ bigW ∧ Cond.native arraycopyName ∈ bigW ∧ Cond.static arraycopyName ∈ bigW ∧ Cond.initialized "java/lang/System" ∈ bigW
theorem g_copyI {Y : ME} {pc : Nat} {L : List (Nat × Value)} {rest : List Value} {mm : MM} {Q : Value → MM → Prop} {idx k0 k1 n0 n1 d0 d1 e0 e1 : Nat} {sp dp n : Int32} (d : decode (mB Y) pc = .ok (.invokestatic idx, 3)) (hC : AC (mN Y).cls idx) (hD : 1 ≤ mD Y) (hrest : (rest.map fun v => v.category).sum ≤ 8) (sh0 : SHL[k0]? = some (.inl (0, n0, d0, e0))) (sh1 : SHL[k1]? = some (.inl (0, n1, d1, e1)))
    (h1 : ¬ sp < 0) (h2 : ¬ dp < 0) (h3 : ¬ n < 0) (h4 : sp.toNatClampNeg + n.toNatClampNeg ≤ n0) (h5 : dp.toNatClampNeg + n.toNatClampNeg ≤ n1)
    (kk : G Y (pc + 3) L rest (wR mm k1 (va_cpy (mm.1 k0) (mm.1 k1) sp.toNatClampNeg dp.toNatClampNeg n.toNatClampNeg)) Q) : G Y pc L (.int n :: .int dp :: .ref k1 :: .int sp :: .ref k0 :: rest) mm Q := by
  intro p l e s m args below meth c D ad ca A C H locs ls hP hS hl
  have hts := C.2.2.2.2.2.2.1
  refine va_copyi C.1 C.2.1 (C.2.2.1.trans hl.1.symm) C.2.2.2.2.2.1 (hts _ hC.1) (hts _ hC.2.1) (hts _ hC.2.2.1) (hts _ hC.2.2.2) C.2.2.2.2.2.2.2.1 hP (ws_D C.2.2.2.2.2.2.2.2.1 C.2.2.2.2.2.2.2.2.2.1) hS k0 k1 0 0 (ws_at sh0) (ws_at sh1) rfl rfl rfl h1 h2 h3 h4 h5 (fun _ _ => rfl) hD (by show ((cS ad rest).map fun v => v.category).sum + (nativeFrameWords _ _ 5 + 11) ≤ 32 * mD Y + 40; rw [cS_cat, nfw_copy]; omega) d (fun H1 locs1 hP1 hD1 hS1 => ?_)
  refine kk p l e s m args below meth c D ad ca A C H1 locs1 ls ?_ hS1 hl
  have e9 := ws_set (ad := ad) (ca := ca) sh1 (mOff_R mm k1 (va_cpy (mm.1 k0) (mm.1 k1) sp.toNatClampNeg dp.toNatClampNeg n.toNatClampNeg))
  simp only [cellV, wR_k] at e9
  rw [← e9]
  exact hP1

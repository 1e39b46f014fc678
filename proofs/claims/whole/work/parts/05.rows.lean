def strTab : List (String × Nat × String) := [("StiltTown$Tokens", 87, "house"), ("StiltTown$Tokens", 89, "office"), ("StiltTown$Tokens", 91, "in"), ("StiltTown$Tokens", 93, "stair"), ("StiltTown$Tokens", 95, "quay"), ("StiltTown$Tokens", 97, "wood"), ("StiltTown$Tokens", 99, "crews"), ("StiltTown$Tokens", 101, "jack"), ("StiltTown$Tokens", 103, "falls"), ("StiltTown$Tokens", 105, "bad"), ("StiltTown$Tokens", 107, "tide"), ("StiltTown$Tokens", 109, "due"), ("StiltTown$Tokens", 111, "sway"), ("StiltTown$Tokens", 113, "height"), ("StiltTown$Tokens", 115, "rank"), ("StiltTown$Tokens", 117, "load"), ("StiltTown$Tokens", 119, "x"), ("StiltTown$Tokens", 121, "hour"), ("StiltTown$Tokens", 123, "month"), ("StiltTown$Tokens", 125, "wind"), ("StiltTown$Tokens", 127, "gone"), ("StiltTown$Tokens", 129, "ground"), ("StiltTown$Tokens", 131, "if"), ("StiltTown$Tokens", 133, "or"), ("StiltTown$Tokens", 135, "and"), ("StiltTown$Tokens", 137, "not"), ("StiltTown$Tokens", 139, "")]
def strByt : List (List Int32) := [[104, 111, 117, 115, 101], [111, 102, 102, 105, 99, 101], [105, 110], [115, 116, 97, 105, 114], [113, 117, 97, 121], [119, 111, 111, 100], [99, 114, 101, 119, 115], [106, 97, 99, 107], [102, 97, 108, 108, 115], [98, 97, 100], [116, 105, 100, 101], [100, 117, 101], [115, 119, 97, 121], [104, 101, 105, 103, 104, 116], [114, 97, 110, 107], [108, 111, 97, 100], [120], [104, 111, 117, 114], [109, 111, 110, 116, 104], [119, 105, 110, 100], [103, 111, 110, 101], [103, 114, 111, 117, 110, 100], [105, 102], [111, 114], [97, 110, 100], [110, 111, 116], []]
def strLen : List Nat := [5, 6, 2, 5, 4, 4, 5, 4, 5, 3, 4, 3, 4, 6, 4, 4, 1, 4, 5, 4, 4, 6, 2, 2, 3, 3, 0]
/-- the links to private members of nest mates -/
def nestTab : List (String × Nat × MethodName × String) := [("StiltTown", 9, ⟨"StiltTown$Reader", "<init>", "()V"⟩, "StiltTown"), ("StiltTown$Reader", 24, ⟨"StiltTown$Tokens", "<init>", "()V"⟩, "StiltTown"), ("StiltTown$Reader", 31, ⟨"StiltTown$Town", "<init>", "()V"⟩, "StiltTown"), ("StiltTown$Town", 35, ⟨"StiltTown$Laws", "<init>", "()V"⟩, "StiltTown"), ("StiltTown$Reader", 38, ⟨"StiltTown$State", "<init>", "()V"⟩, "StiltTown"), ("StiltTown$State", 32, ⟨"StiltTown$Logs", "<init>", "()V"⟩, "StiltTown"), ("StiltTown", 23, ⟨"StiltTown$Yard", "<init>", "()V"⟩, "StiltTown"), ("StiltTown", 30, ⟨"StiltTown$Works", "<init>", "()V"⟩, "StiltTown"), ("StiltTown", 37, ⟨"StiltTown$Nights", "<init>", "()V"⟩, "StiltTown"), ("StiltTown", 44, ⟨"StiltTown$Falls", "<init>", "()V"⟩, "StiltTown"), ("StiltTown", 51, ⟨"StiltTown$Row", "<init>", "()V"⟩, "StiltTown"), ("StiltTown", 68, ⟨"StiltTown$Town", "<init>", "()V"⟩, "StiltTown"), ("StiltTown", 73, ⟨"StiltTown$State", "<init>", "()V"⟩, "StiltTown"), ("StiltTown$Tokens", 48, ⟨"StiltTown", "within", "(III)Z"⟩, "StiltTown"), ("StiltTown$Reader", 280, ⟨"StiltTown", "within", "(III)Z"⟩, "StiltTown"), ("StiltTown$Reader", 208, ⟨"StiltTown$Town", "bitOf", "(I)I"⟩, "StiltTown"), ("StiltTown$Reader", 248, ⟨"StiltTown", "isVar", "(I)Z"⟩, "StiltTown"), ("StiltTown$Reader", 254, ⟨"StiltTown", "reckons", "(I)Z"⟩, "StiltTown"), ("StiltTown$Reader", 263, ⟨"StiltTown", "compares", "(I)Z"⟩, "StiltTown"), ("StiltTown$Laws", 53, ⟨"StiltTown", "isVar", "(I)Z"⟩, "StiltTown"), ("StiltTown$Laws", 71, ⟨"StiltTown", "compares", "(I)Z"⟩, "StiltTown"), ("StiltTown$Laws", 78, ⟨"StiltTown", "reckons", "(I)Z"⟩, "StiltTown"), ("StiltTown$Town", 90, ⟨"StiltTown", "heldTo99", "(I)I"⟩, "StiltTown"), ("StiltTown$Yard", 22, ⟨"StiltTown", "within", "(III)Z"⟩, "StiltTown"), ("StiltTown$Works", 91, ⟨"StiltTown", "within", "(III)Z"⟩, "StiltTown"), ("StiltTown$Falls", 31, ⟨"StiltTown$Town", "bitOf", "(I)I"⟩, "StiltTown"), ("StiltTown$Row", 44, ⟨"StiltTown", "within", "(III)Z"⟩, "StiltTown")]
/-- the two statics of the JDK's that a text's members read; the formatter's cell has the number 6000 -/
def ZX (ad : Nat → Nat) (A : Nat → Prop) (U : State) (H : Heap) : Prop := va_Z "java/lang/String" "COMPACT_STRINGS" "Z" (.int 1) A U H ∧ (va_Z "jdk/internal/util/Preconditions" "SIOOBE_FORMATTER" "Ljava/util/function/BiFunction;" .null A U H ∨ va_Z "jdk/internal/util/Preconditions" "SIOOBE_FORMATTER" "Ljava/util/function/BiFunction;" (.ref (ad 6000)) A U H)
/-- what is known of the String constants: text i is the cell 1000 + 2 i, its bytes the cell 1001 + 2 i -/
def StrX (ad : Nat → Nat) (A : Nat → Prop) (U : State) (H : Heap) : Prop := (vk_S 27 strLen strByt (fun i => ad (1000 + 2 * i)) (fun i => ad (1001 + 2 * i)) A U H ∧ ZX ad A U H) ∧ (∀ i q, strTab[i]? = some q → vk_R q.1 q.2.1 q.2.2 (ad (1000 + 2 * i)) U) ∧ ∀ q ∈ nestTab, va_Nw (.methodLinkNest q.1 q.2.1 q.2.2.1 q.2.2.2) U
/-- what holds all along a method's run -/
def Cx (Y : ME) (p : Program) (s : State) (m : MethodId) (args : Array Value) (meth : Method) (c : Code) (D : va_G) (ad : Nat → Nat) (ca : Nat → ClassId) (A : Nat → Prop) : Prop :=
  p.tables.exec = Jvm.exec ∧ c.code = mB Y ∧ c.maxLocals = mL Y ∧ meth.sig.returnType = mR Y ∧ meth.locks = false ∧ s.vm.findClass (mN Y).cls = some m.cls ∧ (∀ w ∈ bigW, w.before args s = true) ∧ va_K D classes (tysOf ca) s ∧ adI ad ∧ (∀ i, i < nS → A (ad i)) ∧ (∀ q, s.heap.size ≤ q → A q) ∧ StrX ad A s s.heap
/-- the world behind a method -/
def WB (D : va_G) (ad : Nat → Nat) (ca : Nat → ClassId) (u : MM) (t : State) : Prop := va_P D classes (wsOf ad ca u) t.heap ∧ va_K D classes (tysOf ca) t
def QcG (kd : Nat) (D : va_G) (ad : Nat → Nat) (ca : Nat → ClassId) (A : Nat → Prop) (Q : Value → MM → Prop) : Array Value → State → Outcome → State → Prop := match kd with
  | 0 => va_Qv (S := MM) (fun u => Q .null u) (fun u t => WB D ad ca u t) A
  | 1 => va_Qi (S := MM) (fun r u => Q (.int r) u) (fun u t => WB D ad ca u t) A
  | 2 => va_Ql (S := MM) (fun r u => Q (.long r) u) (fun u t => WB D ad ca u t) A
  | _ => va_Qr (S := MM × Nat) (fun u => Q (.ref u.2) u.1) (fun u a t => a = ad u.2 ∧ WB D ad ca u.1 t) A
/-- from the instruction pc of the method Y, with these locals, this stack and this memory, Y comes back with Q -/
def G (Y : ME) (pc : Nat) (L : List (Nat × Value)) (st : List Value) (mm : MM) (Q : Value → MM → Prop) : Prop :=
  ∀ (p : Program) (l : Launch) (e : Env) (s : State) (m : MethodId) (args : Array Value) (below : List Frame) (meth : Method) (c : Code) (D : va_G) (ad : Nat → Nat) (ca : Nat → ClassId) (A : Nat → Prop), Cx Y p s m args meth c D ad ca A →
  ∀ (H : Heap) (locs : List Loc) (ls : Array Slot), va_P D classes (wsOf ad ca mm) H → va_S A s.heap H locs → lv_has ls (mL Y) (cL ad L) →
  W p l e (rmD (mD Y)) s m args below meth c H locs 0 0 (MQ below (QcG (mK Y) D ad ca A Q) args s 0 0 A) (F0 m pc ls (cS ad st))
theorem g_iconst {Y : ME} {pc : Nat} {L : List (Nat × Value)} {rest : List Value} {mm : MM} {Q : Value → MM → Prop} {n : Int} {v : Int32} (d : decode (mB Y) pc = .ok (.iconst n, 1)) (hv : Int32.ofInt n = v) (k : G Y (pc + 1) L (.int v :: rest) mm Q) : G Y pc L (rest) mm Q := by
  intro p l e s m args below meth c D ad ca A C H locs ls hP hS hl
  exact lv_iconst C.1 C.2.1 d hv (k p l e s m args below meth c D ad ca A C H locs ls hP hS hl)
theorem g_bipush {Y : ME} {pc : Nat} {L : List (Nat × Value)} {rest : List Value} {mm : MM} {Q : Value → MM → Prop} {n : Int} {v : Int32} (d : decode (mB Y) pc = .ok (.bipush n, 2)) (hv : (Int8.ofInt n).toInt32 = v) (k : G Y (pc + 2) L (.int v :: rest) mm Q) : G Y pc L (rest) mm Q := by
  intro p l e s m args below meth c D ad ca A C H locs ls hP hS hl
  exact lv_bipush C.1 C.2.1 d hv (k p l e s m args below meth c D ad ca A C H locs ls hP hS hl)
theorem g_sipush {Y : ME} {pc : Nat} {L : List (Nat × Value)} {rest : List Value} {mm : MM} {Q : Value → MM → Prop} {n : Int} {v : Int32} (d : decode (mB Y) pc = .ok (.sipush n, 3)) (hv : (Int16.ofInt n).toInt32 = v) (k : G Y (pc + 3) L (.int v :: rest) mm Q) : G Y pc L (rest) mm Q := by
  intro p l e s m args below meth c D ad ca A C H locs ls hP hS hl
  exact lv_sipush C.1 C.2.1 d hv (k p l e s m args below meth c D ad ca A C H locs ls hP hS hl)
theorem g_lconst {Y : ME} {pc : Nat} {L : List (Nat × Value)} {rest : List Value} {mm : MM} {Q : Value → MM → Prop} {n : Fin 2} {v : Int64} (d : decode (mB Y) pc = .ok (.lconst n, 1)) (hv : Int64.ofNat (n : Nat) = v) (k : G Y (pc + 1) L (.long v :: rest) mm Q) : G Y pc L (rest) mm Q := by
  intro p l e s m args below meth c D ad ca A C H locs ls hP hS hl
  exact lv_lconst C.1 C.2.1 d hv (k p l e s m args below meth c D ad ca A C H locs ls hP hS hl)
theorem g_iload {Y : ME} {pc : Nat} {L : List (Nat × Value)} {rest : List Value} {mm : MM} {Q : Value → MM → Prop} {i : Nat} {x : Int32} (d : decode (mB Y) pc = .ok (.iload i, 2)) (hg : lget i L = some (.int x)) (k : G Y (pc + 2) L (.int x :: rest) mm Q) : G Y pc L (rest) mm Q := by
  intro p l e s m args below meth c D ad ca A C H locs ls hP hS hl
  exact lv_iload C.1 C.2.1 d (lv_get hl hg) (k p l e s m args below meth c D ad ca A C H locs ls hP hS hl)
theorem g_iload_n {Y : ME} {pc : Nat} {L : List (Nat × Value)} {rest : List Value} {mm : MM} {Q : Value → MM → Prop} {j : Fin 4} {x : Int32} (d : decode (mB Y) pc = .ok (.iload_n j, 1)) (hg : lget (j : Nat) L = some (.int x)) (k : G Y (pc + 1) L (.int x :: rest) mm Q) : G Y pc L (rest) mm Q := by
  intro p l e s m args below meth c D ad ca A C H locs ls hP hS hl
  exact lv_iload_n C.1 C.2.1 d rfl (lv_get hl hg) (k p l e s m args below meth c D ad ca A C H locs ls hP hS hl)
theorem g_lload {Y : ME} {pc : Nat} {L : List (Nat × Value)} {rest : List Value} {mm : MM} {Q : Value → MM → Prop} {i : Nat} {x : Int64} (d : decode (mB Y) pc = .ok (.lload i, 2)) (hg : lget i L = some (.long x)) (k : G Y (pc + 2) L (.long x :: rest) mm Q) : G Y pc L (rest) mm Q := by
  intro p l e s m args below meth c D ad ca A C H locs ls hP hS hl
  exact lv_lload C.1 C.2.1 d (lv_get hl hg) (k p l e s m args below meth c D ad ca A C H locs ls hP hS hl)
theorem g_lload_n {Y : ME} {pc : Nat} {L : List (Nat × Value)} {rest : List Value} {mm : MM} {Q : Value → MM → Prop} {j : Fin 4} {x : Int64} (d : decode (mB Y) pc = .ok (.lload_n j, 1)) (hg : lget (j : Nat) L = some (.long x)) (k : G Y (pc + 1) L (.long x :: rest) mm Q) : G Y pc L (rest) mm Q := by
  intro p l e s m args below meth c D ad ca A C H locs ls hP hS hl
  exact lv_lload_n C.1 C.2.1 d rfl (lv_get hl hg) (k p l e s m args below meth c D ad ca A C H locs ls hP hS hl)
theorem g_aload {Y : ME} {pc : Nat} {L : List (Nat × Value)} {rest : List Value} {mm : MM} {Q : Value → MM → Prop} {i : Nat} {x : Nat} (d : decode (mB Y) pc = .ok (.aload i, 2)) (hg : lget i L = some (.ref x)) (k : G Y (pc + 2) L (.ref x :: rest) mm Q) : G Y pc L (rest) mm Q := by
  intro p l e s m args below meth c D ad ca A C H locs ls hP hS hl
  exact lv_aload C.1 C.2.1 d (lv_get hl hg) (k p l e s m args below meth c D ad ca A C H locs ls hP hS hl)
theorem g_aload_n {Y : ME} {pc : Nat} {L : List (Nat × Value)} {rest : List Value} {mm : MM} {Q : Value → MM → Prop} {j : Fin 4} {x : Nat} (d : decode (mB Y) pc = .ok (.aload_n j, 1)) (hg : lget (j : Nat) L = some (.ref x)) (k : G Y (pc + 1) L (.ref x :: rest) mm Q) : G Y pc L (rest) mm Q := by
  intro p l e s m args below meth c D ad ca A C H locs ls hP hS hl
  exact lv_aload_n C.1 C.2.1 d rfl (lv_get hl hg) (k p l e s m args below meth c D ad ca A C H locs ls hP hS hl)
theorem g_iadd {Y : ME} {pc : Nat} {L : List (Nat × Value)} {rest : List Value} {mm : MM} {Q : Value → MM → Prop} {x y : Int32} (d : decode (mB Y) pc = .ok (.iadd, 1)) (k : G Y (pc + 1) L (.int (x + y) :: rest) mm Q) : G Y pc L (.int y :: .int x :: rest) mm Q := by
  intro p l e s m args below meth c D ad ca A C H locs ls hP hS hl
  exact lv_iadd C.1 C.2.1 d (k p l e s m args below meth c D ad ca A C H locs ls hP hS hl)
theorem g_isub {Y : ME} {pc : Nat} {L : List (Nat × Value)} {rest : List Value} {mm : MM} {Q : Value → MM → Prop} {x y : Int32} (d : decode (mB Y) pc = .ok (.isub, 1)) (k : G Y (pc + 1) L (.int (x - y) :: rest) mm Q) : G Y pc L (.int y :: .int x :: rest) mm Q := by
  intro p l e s m args below meth c D ad ca A C H locs ls hP hS hl
  exact lv_isub C.1 C.2.1 d (k p l e s m args below meth c D ad ca A C H locs ls hP hS hl)
theorem g_imul {Y : ME} {pc : Nat} {L : List (Nat × Value)} {rest : List Value} {mm : MM} {Q : Value → MM → Prop} {x y : Int32} (d : decode (mB Y) pc = .ok (.imul, 1)) (k : G Y (pc + 1) L (.int (x * y) :: rest) mm Q) : G Y pc L (.int y :: .int x :: rest) mm Q := by
  intro p l e s m args below meth c D ad ca A C H locs ls hP hS hl
  exact lv_imul C.1 C.2.1 d (k p l e s m args below meth c D ad ca A C H locs ls hP hS hl)
theorem g_iand {Y : ME} {pc : Nat} {L : List (Nat × Value)} {rest : List Value} {mm : MM} {Q : Value → MM → Prop} {x y : Int32} (d : decode (mB Y) pc = .ok (.iand, 1)) (k : G Y (pc + 1) L (.int (x &&& y) :: rest) mm Q) : G Y pc L (.int y :: .int x :: rest) mm Q := by
  intro p l e s m args below meth c D ad ca A C H locs ls hP hS hl
  exact lv_iand C.1 C.2.1 d (k p l e s m args below meth c D ad ca A C H locs ls hP hS hl)
theorem g_ior {Y : ME} {pc : Nat} {L : List (Nat × Value)} {rest : List Value} {mm : MM} {Q : Value → MM → Prop} {x y : Int32} (d : decode (mB Y) pc = .ok (.ior, 1)) (k : G Y (pc + 1) L (.int (x ||| y) :: rest) mm Q) : G Y pc L (.int y :: .int x :: rest) mm Q := by
  intro p l e s m args below meth c D ad ca A C H locs ls hP hS hl
  exact lv_ior C.1 C.2.1 d (k p l e s m args below meth c D ad ca A C H locs ls hP hS hl)
theorem g_ixor {Y : ME} {pc : Nat} {L : List (Nat × Value)} {rest : List Value} {mm : MM} {Q : Value → MM → Prop} {x y : Int32} (d : decode (mB Y) pc = .ok (.ixor, 1)) (k : G Y (pc + 1) L (.int (x ^^^ y) :: rest) mm Q) : G Y pc L (.int y :: .int x :: rest) mm Q := by
  intro p l e s m args below meth c D ad ca A C H locs ls hP hS hl
  exact lv_ixor C.1 C.2.1 d (k p l e s m args below meth c D ad ca A C H locs ls hP hS hl)
theorem g_ladd {Y : ME} {pc : Nat} {L : List (Nat × Value)} {rest : List Value} {mm : MM} {Q : Value → MM → Prop} {x y : Int64} (d : decode (mB Y) pc = .ok (.ladd, 1)) (k : G Y (pc + 1) L (.long (x + y) :: rest) mm Q) : G Y pc L (.long y :: .long x :: rest) mm Q := by
  intro p l e s m args below meth c D ad ca A C H locs ls hP hS hl
  exact lv_ladd C.1 C.2.1 d (k p l e s m args below meth c D ad ca A C H locs ls hP hS hl)
theorem g_lsub {Y : ME} {pc : Nat} {L : List (Nat × Value)} {rest : List Value} {mm : MM} {Q : Value → MM → Prop} {x y : Int64} (d : decode (mB Y) pc = .ok (.lsub, 1)) (k : G Y (pc + 1) L (.long (x - y) :: rest) mm Q) : G Y pc L (.long y :: .long x :: rest) mm Q := by
  intro p l e s m args below meth c D ad ca A C H locs ls hP hS hl
  exact lv_lsub C.1 C.2.1 d (k p l e s m args below meth c D ad ca A C H locs ls hP hS hl)
theorem g_lmul {Y : ME} {pc : Nat} {L : List (Nat × Value)} {rest : List Value} {mm : MM} {Q : Value → MM → Prop} {x y : Int64} (d : decode (mB Y) pc = .ok (.lmul, 1)) (k : G Y (pc + 1) L (.long (x * y) :: rest) mm Q) : G Y pc L (.long y :: .long x :: rest) mm Q := by
  intro p l e s m args below meth c D ad ca A C H locs ls hP hS hl
  exact lv_lmul C.1 C.2.1 d (k p l e s m args below meth c D ad ca A C H locs ls hP hS hl)
theorem g_lor {Y : ME} {pc : Nat} {L : List (Nat × Value)} {rest : List Value} {mm : MM} {Q : Value → MM → Prop} {x y : Int64} (d : decode (mB Y) pc = .ok (.lor, 1)) (k : G Y (pc + 1) L (.long (x ||| y) :: rest) mm Q) : G Y pc L (.long y :: .long x :: rest) mm Q := by
  intro p l e s m args below meth c D ad ca A C H locs ls hP hS hl
  exact lv_lor C.1 C.2.1 d (k p l e s m args below meth c D ad ca A C H locs ls hP hS hl)
theorem g_idiv {Y : ME} {pc : Nat} {L : List (Nat × Value)} {rest : List Value} {mm : MM} {Q : Value → MM → Prop} {x y : Int32} (d : decode (mB Y) pc = .ok (.idiv, 1)) (hy : ¬ y = 0) (k : G Y (pc + 1) L (.int (x / y) :: rest) mm Q) : G Y pc L (.int y :: .int x :: rest) mm Q := by
  intro p l e s m args below meth c D ad ca A C H locs ls hP hS hl
  exact lv_idiv C.1 C.2.1 d hy (k p l e s m args below meth c D ad ca A C H locs ls hP hS hl)
theorem g_irem {Y : ME} {pc : Nat} {L : List (Nat × Value)} {rest : List Value} {mm : MM} {Q : Value → MM → Prop} {x y : Int32} (d : decode (mB Y) pc = .ok (.irem, 1)) (hy : ¬ y = 0) (k : G Y (pc + 1) L (.int (x - x / y * y) :: rest) mm Q) : G Y pc L (.int y :: .int x :: rest) mm Q := by
  intro p l e s m args below meth c D ad ca A C H locs ls hP hS hl
  exact lv_irem C.1 C.2.1 d hy (k p l e s m args below meth c D ad ca A C H locs ls hP hS hl)
theorem g_ineg {Y : ME} {pc : Nat} {L : List (Nat × Value)} {rest : List Value} {mm : MM} {Q : Value → MM → Prop} {x : Int32} (d : decode (mB Y) pc = .ok (.ineg, 1)) (k : G Y (pc + 1) L (.int (-x) :: rest) mm Q) : G Y pc L (.int x :: rest) mm Q := by
  intro p l e s m args below meth c D ad ca A C H locs ls hP hS hl
  exact lv_ineg C.1 C.2.1 d (k p l e s m args below meth c D ad ca A C H locs ls hP hS hl)
theorem g_ishl {Y : ME} {pc : Nat} {L : List (Nat × Value)} {rest : List Value} {mm : MM} {Q : Value → MM → Prop} {x y : Int32} (d : decode (mB Y) pc = .ok (.ishl, 1)) (k : G Y (pc + 1) L (.int (x <<< (y &&& 31)) :: rest) mm Q) : G Y pc L (.int y :: .int x :: rest) mm Q := by
  intro p l e s m args below meth c D ad ca A C H locs ls hP hS hl
  exact lv_ishl C.1 C.2.1 d (k p l e s m args below meth c D ad ca A C H locs ls hP hS hl)
theorem g_ishr {Y : ME} {pc : Nat} {L : List (Nat × Value)} {rest : List Value} {mm : MM} {Q : Value → MM → Prop} {x y : Int32} (d : decode (mB Y) pc = .ok (.ishr, 1)) (k : G Y (pc + 1) L (.int (x >>> (y &&& 31)) :: rest) mm Q) : G Y pc L (.int y :: .int x :: rest) mm Q := by
  intro p l e s m args below meth c D ad ca A C H locs ls hP hS hl
  exact lv_ishr C.1 C.2.1 d (k p l e s m args below meth c D ad ca A C H locs ls hP hS hl)
def ushr (x y : Int32) : Int32 := (x.toUInt32 >>> (y.toUInt32 &&& Int32.toUInt32 31)).toInt32
theorem g_iushr {Y : ME} {pc : Nat} {L : List (Nat × Value)} {rest : List Value} {mm : MM} {Q : Value → MM → Prop} {x y : Int32} (d : decode (mB Y) pc = .ok (.iushr, 1)) (k : G Y (pc + 1) L (.int (ushr x y) :: rest) mm Q) : G Y pc L (.int y :: .int x :: rest) mm Q := by
  intro p l e s m args below meth c D ad ca A C H locs ls hP hS hl
  exact lv_iushr C.1 C.2.1 d rfl (k p l e s m args below meth c D ad ca A C H locs ls hP hS hl)
theorem g_lshl {Y : ME} {pc : Nat} {L : List (Nat × Value)} {rest : List Value} {mm : MM} {Q : Value → MM → Prop} {x : Int64} {y : Int32} (d : decode (mB Y) pc = .ok (.lshl, 1)) (k : G Y (pc + 1) L (.long (x <<< (y.toInt64 &&& 63)) :: rest) mm Q) : G Y pc L (.int y :: .long x :: rest) mm Q := by
  intro p l e s m args below meth c D ad ca A C H locs ls hP hS hl
  exact lv_lshl C.1 C.2.1 d rfl (k p l e s m args below meth c D ad ca A C H locs ls hP hS hl)
theorem g_i2l {Y : ME} {pc : Nat} {L : List (Nat × Value)} {rest : List Value} {mm : MM} {Q : Value → MM → Prop} {x : Int32} (d : decode (mB Y) pc = .ok (.i2l, 1)) (k : G Y (pc + 1) L (.long x.toInt64 :: rest) mm Q) : G Y pc L (.int x :: rest) mm Q := by
  intro p l e s m args below meth c D ad ca A C H locs ls hP hS hl
  exact lv_i2l C.1 C.2.1 d rfl (k p l e s m args below meth c D ad ca A C H locs ls hP hS hl)
theorem g_l2i {Y : ME} {pc : Nat} {L : List (Nat × Value)} {rest : List Value} {mm : MM} {Q : Value → MM → Prop} {x : Int64} (d : decode (mB Y) pc = .ok (.l2i, 1)) (k : G Y (pc + 1) L (.int x.toInt32 :: rest) mm Q) : G Y pc L (.long x :: rest) mm Q := by
  intro p l e s m args below meth c D ad ca A C H locs ls hP hS hl
  exact lv_l2i C.1 C.2.1 d rfl (k p l e s m args below meth c D ad ca A C H locs ls hP hS hl)
theorem g_i2b {Y : ME} {pc : Nat} {L : List (Nat × Value)} {rest : List Value} {mm : MM} {Q : Value → MM → Prop} {x : Int32} (d : decode (mB Y) pc = .ok (.i2b, 1)) (k : G Y (pc + 1) L (.int x.toInt8.toInt32 :: rest) mm Q) : G Y pc L (.int x :: rest) mm Q := by
  intro p l e s m args below meth c D ad ca A C H locs ls hP hS hl
  exact lv_i2b C.1 C.2.1 d rfl (k p l e s m args below meth c D ad ca A C H locs ls hP hS hl)
theorem g_i2c {Y : ME} {pc : Nat} {L : List (Nat × Value)} {rest : List Value} {mm : MM} {Q : Value → MM → Prop} {x : Int32} (d : decode (mB Y) pc = .ok (.i2c, 1)) (k : G Y (pc + 1) L (.int (x.toUInt32 % 65536).toInt32 :: rest) mm Q) : G Y pc L (.int x :: rest) mm Q := by
  intro p l e s m args below meth c D ad ca A C H locs ls hP hS hl
  exact lv_i2c C.1 C.2.1 d rfl (k p l e s m args below meth c D ad ca A C H locs ls hP hS hl)
theorem g_dup {Y : ME} {pc : Nat} {L : List (Nat × Value)} {rest : List Value} {mm : MM} {Q : Value → MM → Prop} {v : Value} (d : decode (mB Y) pc = .ok (.dup, 1)) (hv : v.category = 1) (k : G Y (pc + 1) L (v :: v :: rest) mm Q) : G Y pc L (v :: rest) mm Q := by
  intro p l e s m args below meth c D ad ca A C H locs ls hP hS hl
  exact lv_dup C.1 C.2.1 d ((cv_cat ad v).trans hv) (k p l e s m args below meth c D ad ca A C H locs ls hP hS hl)
theorem g_pop {Y : ME} {pc : Nat} {L : List (Nat × Value)} {rest : List Value} {mm : MM} {Q : Value → MM → Prop} {v : Value} (d : decode (mB Y) pc = .ok (.pop, 1)) (hv : v.category = 1) (k : G Y (pc + 1) L (rest) mm Q) : G Y pc L (v :: rest) mm Q := by
  intro p l e s m args below meth c D ad ca A C H locs ls hP hS hl
  exact lv_pop C.1 C.2.1 d ((cv_cat ad v).trans hv) (k p l e s m args below meth c D ad ca A C H locs ls hP hS hl)
theorem g_dup2 {Y : ME} {pc : Nat} {L : List (Nat × Value)} {rest : List Value} {mm : MM} {Q : Value → MM → Prop} {v w : Value} (d : decode (mB Y) pc = .ok (.dup2, 1)) (hv : v.category = 1) (hw : w.category = 1) (k : G Y (pc + 1) L (v :: w :: v :: w :: rest) mm Q) : G Y pc L (v :: w :: rest) mm Q := by
  intro p l e s m args below meth c D ad ca A C H locs ls hP hS hl
  exact lv_dup2_11 C.1 C.2.1 d ((cv_cat ad v).trans hv) ((cv_cat ad w).trans hw) (k p l e s m args below meth c D ad ca A C H locs ls hP hS hl)
theorem g_lcmp {Y : ME} {pc : Nat} {L : List (Nat × Value)} {rest : List Value} {mm : MM} {Q : Value → MM → Prop} {x y : Int64} (d : decode (mB Y) pc = .ok (.lcmp, 1)) (k : G Y (pc + 1) L (.int (lg_cmp x y) :: rest) mm Q) : G Y pc L (.long y :: .long x :: rest) mm Q := by
  intro p l e s m args below meth c D ad ca A C H locs ls hP hS hl
  exact W.lcmp C.1 C.2.1 d (k p l e s m args below meth c D ad ca A C H locs ls hP hS hl)
theorem g_istore {Y : ME} {pc : Nat} {L : List (Nat × Value)} {rest : List Value} {mm : MM} {Q : Value → MM → Prop} {i : Nat} {x : Int32} {L' : List (Nat × Value)} (d : decode (mB Y) pc = .ok (.istore i, 2)) (hn : i < mL Y) (hL : lrep i (.int x) L = L') (k : G Y (pc + 2) L' rest mm Q) : G Y pc L (.int x :: rest) mm Q := by
  intro p l e s m args below meth c D ad ca A C H locs ls hP hS hl
  exact lv_istore C.1 C.2.1 d hl hn rfl (fun ls' hl' => (k p l e s m args below meth c D ad ca A C H locs ls' hP hS (lv_rep hl' hL)))
theorem g_istore_n {Y : ME} {pc : Nat} {L : List (Nat × Value)} {rest : List Value} {mm : MM} {Q : Value → MM → Prop} {i : Fin 4} {x : Int32} {L' : List (Nat × Value)} (d : decode (mB Y) pc = .ok (.istore_n i, 1)) (hn : (i : Nat) < mL Y) (hL : lrep (i : Nat) (.int x) L = L') (k : G Y (pc + 1) L' rest mm Q) : G Y pc L (.int x :: rest) mm Q := by
  intro p l e s m args below meth c D ad ca A C H locs ls hP hS hl
  exact lv_istore_n C.1 C.2.1 d rfl hl hn rfl (fun ls' hl' => (k p l e s m args below meth c D ad ca A C H locs ls' hP hS (lv_rep hl' hL)))
theorem g_astore {Y : ME} {pc : Nat} {L : List (Nat × Value)} {rest : List Value} {mm : MM} {Q : Value → MM → Prop} {i : Nat} {x : Nat} {L' : List (Nat × Value)} (d : decode (mB Y) pc = .ok (.astore i, 2)) (hn : i < mL Y) (hL : lrep i (.ref x) L = L') (k : G Y (pc + 2) L' rest mm Q) : G Y pc L (.ref x :: rest) mm Q := by
  intro p l e s m args below meth c D ad ca A C H locs ls hP hS hl
  exact lv_astore C.1 C.2.1 d hl hn rfl (fun ls' hl' => (k p l e s m args below meth c D ad ca A C H locs ls' hP hS (lv_rep hl' hL)))
theorem g_astore_n {Y : ME} {pc : Nat} {L : List (Nat × Value)} {rest : List Value} {mm : MM} {Q : Value → MM → Prop} {i : Fin 4} {x : Nat} {L' : List (Nat × Value)} (d : decode (mB Y) pc = .ok (.astore_n i, 1)) (hn : (i : Nat) < mL Y) (hL : lrep (i : Nat) (.ref x) L = L') (k : G Y (pc + 1) L' rest mm Q) : G Y pc L (.ref x :: rest) mm Q := by
  intro p l e s m args below meth c D ad ca A C H locs ls hP hS hl
  exact lv_astore_n C.1 C.2.1 d rfl hl hn rfl (fun ls' hl' => (k p l e s m args below meth c D ad ca A C H locs ls' hP hS (lv_rep hl' hL)))
theorem g_lstore {Y : ME} {pc : Nat} {L : List (Nat × Value)} {rest : List Value} {mm : MM} {Q : Value → MM → Prop} {i : Nat} {x : Int64} {L' : List (Nat × Value)} (d : decode (mB Y) pc = .ok (.lstore i, 2)) (hn : i + 1 < mL Y) (hL : lrepL i (.long x) L = L') (k : G Y (pc + 2) L' rest mm Q) : G Y pc L (.long x :: rest) mm Q := by
  intro p l e s m args below meth c D ad ca A C H locs ls hP hS hl
  exact lv_lstore C.1 C.2.1 d hl hn rfl (fun ls' hl' => (k p l e s m args below meth c D ad ca A C H locs ls' hP hS (lv_repL hl' hL)))
theorem g_lstore_n {Y : ME} {pc : Nat} {L : List (Nat × Value)} {rest : List Value} {mm : MM} {Q : Value → MM → Prop} {i : Fin 4} {x : Int64} {L' : List (Nat × Value)} (d : decode (mB Y) pc = .ok (.lstore_n i, 1)) (hn : (i : Nat) + 1 < mL Y) (hL : lrepL i (.long x) L = L') (k : G Y (pc + 1) L' rest mm Q) : G Y pc L (.long x :: rest) mm Q := by
  intro p l e s m args below meth c D ad ca A C H locs ls hP hS hl
  exact lv_lstore_n C.1 C.2.1 d rfl hl hn rfl (fun ls' hl' => (k p l e s m args below meth c D ad ca A C H locs ls' hP hS (lv_repL hl' hL)))
theorem lget_place {i : Nat} {v : Value} : ∀ {L : List (Nat × Value)}, lget i L = some v → ∃ k : Nat, L[k]? = some (i, v)
  | [], h => by cases h
  | q :: l, h => by
    obtain ⟨k, hk⟩ := List.getElem?_of_mem (lget_mem h)
    exact ⟨k, hk⟩
theorem g_iinc {Y : ME} {pc : Nat} {L : List (Nat × Value)} {rest : List Value} {mm : MM} {Q : Value → MM → Prop} {i : Nat} {n : Int} {x v : Int32} {L' : List (Nat × Value)} (d : decode (mB Y) pc = .ok (.iinc i n, 3)) (hg : lget i L = some (.int x)) (hv : x + Int32.ofInt n = v) (hn : i < mL Y) (hL : lrep i (.int v) L = L') (k : G Y (pc + 3) L' rest mm Q) : G Y pc L rest mm Q := by
  intro p l e s m args below meth c D ad ca A C H locs ls hP hS hl
  obtain ⟨z, hz⟩ := lget_place hg
  exact lv_iinc C.1 C.2.1 d hl (show (cL ad L)[z]? = some (i, .int x) by unfold cL; rw [List.getElem?_map, hz]; rfl) hv hn rfl (fun ls' hl' => (k p l e s m args below meth c D ad ca A C H locs ls' hP hS (lv_rep hl' hL)))
theorem g_goto {Y : ME} {pc : Nat} {L : List (Nat × Value)} {rest : List Value} {mm : MM} {Q : Value → MM → Prop} {off : Int} {tgt : Nat} (d : decode (mB Y) pc = .ok (.goto off, 3)) (ht : (pc : Int) + off = (tgt : Int)) (k : G Y tgt L rest mm Q) : G Y pc L rest mm Q := by
  intro p l e s m args below meth c D ad ca A C H locs ls hP hS hl
  exact lv_goto C.1 C.2.1 d ht (k p l e s m args below meth c D ad ca A C H locs ls hP hS hl)
theorem g_if_eq {Y : ME} {pc : Nat} {L : List (Nat × Value)} {rest : List Value} {mm : MM} {Q : Value → MM → Prop} {x : Int32} {off : Int} {tgt : Nat} (d : decode (mB Y) pc = .ok (.ifCond .eq off, 3)) (ht : (pc : Int) + off = (tgt : Int)) (kt : x = 0 → G Y tgt L rest mm Q) (kf : ¬ x = 0 → G Y (pc + 3) L rest mm Q) : G Y pc L (.int x :: rest) mm Q := by
  intro p l e s m args below meth c D ad ca A C H locs ls hP hS hl
  exact lv_if_eq C.1 C.2.1 d ht (fun z => kt z p l e s m args below meth c D ad ca A C H locs ls hP hS hl) (fun z => kf z p l e s m args below meth c D ad ca A C H locs ls hP hS hl)
theorem g_icmp_eq {Y : ME} {pc : Nat} {L : List (Nat × Value)} {rest : List Value} {mm : MM} {Q : Value → MM → Prop} {x y : Int32} {off : Int} {tgt : Nat} (d : decode (mB Y) pc = .ok (.if_icmp .eq off, 3)) (ht : (pc : Int) + off = (tgt : Int)) (kt : x = y → G Y tgt L rest mm Q) (kf : ¬ x = y → G Y (pc + 3) L rest mm Q) : G Y pc L (.int y :: .int x :: rest) mm Q := by
  intro p l e s m args below meth c D ad ca A C H locs ls hP hS hl
  exact lv_icmp_eq C.1 C.2.1 d ht (fun z => kt z p l e s m args below meth c D ad ca A C H locs ls hP hS hl) (fun z => kf z p l e s m args below meth c D ad ca A C H locs ls hP hS hl)
theorem g_if_ne {Y : ME} {pc : Nat} {L : List (Nat × Value)} {rest : List Value} {mm : MM} {Q : Value → MM → Prop} {x : Int32} {off : Int} {tgt : Nat} (d : decode (mB Y) pc = .ok (.ifCond .ne off, 3)) (ht : (pc : Int) + off = (tgt : Int)) (kt : ¬ x = 0 → G Y tgt L rest mm Q) (kf : x = 0 → G Y (pc + 3) L rest mm Q) : G Y pc L (.int x :: rest) mm Q := by
  intro p l e s m args below meth c D ad ca A C H locs ls hP hS hl
  exact lv_if_ne C.1 C.2.1 d ht (fun z => kt z p l e s m args below meth c D ad ca A C H locs ls hP hS hl) (fun z => kf z p l e s m args below meth c D ad ca A C H locs ls hP hS hl)
theorem g_icmp_ne {Y : ME} {pc : Nat} {L : List (Nat × Value)} {rest : List Value} {mm : MM} {Q : Value → MM → Prop} {x y : Int32} {off : Int} {tgt : Nat} (d : decode (mB Y) pc = .ok (.if_icmp .ne off, 3)) (ht : (pc : Int) + off = (tgt : Int)) (kt : ¬ x = y → G Y tgt L rest mm Q) (kf : x = y → G Y (pc + 3) L rest mm Q) : G Y pc L (.int y :: .int x :: rest) mm Q := by
  intro p l e s m args below meth c D ad ca A C H locs ls hP hS hl
  exact lv_icmp_ne C.1 C.2.1 d ht (fun z => kt z p l e s m args below meth c D ad ca A C H locs ls hP hS hl) (fun z => kf z p l e s m args below meth c D ad ca A C H locs ls hP hS hl)
theorem g_if_lt {Y : ME} {pc : Nat} {L : List (Nat × Value)} {rest : List Value} {mm : MM} {Q : Value → MM → Prop} {x : Int32} {off : Int} {tgt : Nat} (d : decode (mB Y) pc = .ok (.ifCond .lt off, 3)) (ht : (pc : Int) + off = (tgt : Int)) (kt : x < 0 → G Y tgt L rest mm Q) (kf : ¬ x < 0 → G Y (pc + 3) L rest mm Q) : G Y pc L (.int x :: rest) mm Q := by
  intro p l e s m args below meth c D ad ca A C H locs ls hP hS hl
  exact lv_if_lt C.1 C.2.1 d ht (fun z => kt z p l e s m args below meth c D ad ca A C H locs ls hP hS hl) (fun z => kf z p l e s m args below meth c D ad ca A C H locs ls hP hS hl)
theorem g_icmp_lt {Y : ME} {pc : Nat} {L : List (Nat × Value)} {rest : List Value} {mm : MM} {Q : Value → MM → Prop} {x y : Int32} {off : Int} {tgt : Nat} (d : decode (mB Y) pc = .ok (.if_icmp .lt off, 3)) (ht : (pc : Int) + off = (tgt : Int)) (kt : x < y → G Y tgt L rest mm Q) (kf : ¬ x < y → G Y (pc + 3) L rest mm Q) : G Y pc L (.int y :: .int x :: rest) mm Q := by
  intro p l e s m args below meth c D ad ca A C H locs ls hP hS hl
  exact lv_icmp_lt C.1 C.2.1 d ht (fun z => kt z p l e s m args below meth c D ad ca A C H locs ls hP hS hl) (fun z => kf z p l e s m args below meth c D ad ca A C H locs ls hP hS hl)
theorem g_if_ge {Y : ME} {pc : Nat} {L : List (Nat × Value)} {rest : List Value} {mm : MM} {Q : Value → MM → Prop} {x : Int32} {off : Int} {tgt : Nat} (d : decode (mB Y) pc = .ok (.ifCond .ge off, 3)) (ht : (pc : Int) + off = (tgt : Int)) (kt : 0 ≤ x → G Y tgt L rest mm Q) (kf : ¬ 0 ≤ x → G Y (pc + 3) L rest mm Q) : G Y pc L (.int x :: rest) mm Q := by
  intro p l e s m args below meth c D ad ca A C H locs ls hP hS hl
  exact lv_if_ge C.1 C.2.1 d ht (fun z => kt z p l e s m args below meth c D ad ca A C H locs ls hP hS hl) (fun z => kf z p l e s m args below meth c D ad ca A C H locs ls hP hS hl)
theorem g_icmp_ge {Y : ME} {pc : Nat} {L : List (Nat × Value)} {rest : List Value} {mm : MM} {Q : Value → MM → Prop} {x y : Int32} {off : Int} {tgt : Nat} (d : decode (mB Y) pc = .ok (.if_icmp .ge off, 3)) (ht : (pc : Int) + off = (tgt : Int)) (kt : y ≤ x → G Y tgt L rest mm Q) (kf : ¬ y ≤ x → G Y (pc + 3) L rest mm Q) : G Y pc L (.int y :: .int x :: rest) mm Q := by
  intro p l e s m args below meth c D ad ca A C H locs ls hP hS hl
  exact lv_icmp_ge C.1 C.2.1 d ht (fun z => kt z p l e s m args below meth c D ad ca A C H locs ls hP hS hl) (fun z => kf z p l e s m args below meth c D ad ca A C H locs ls hP hS hl)
theorem g_if_gt {Y : ME} {pc : Nat} {L : List (Nat × Value)} {rest : List Value} {mm : MM} {Q : Value → MM → Prop} {x : Int32} {off : Int} {tgt : Nat} (d : decode (mB Y) pc = .ok (.ifCond .gt off, 3)) (ht : (pc : Int) + off = (tgt : Int)) (kt : 0 < x → G Y tgt L rest mm Q) (kf : ¬ 0 < x → G Y (pc + 3) L rest mm Q) : G Y pc L (.int x :: rest) mm Q := by
  intro p l e s m args below meth c D ad ca A C H locs ls hP hS hl
  exact lv_if_gt C.1 C.2.1 d ht (fun z => kt z p l e s m args below meth c D ad ca A C H locs ls hP hS hl) (fun z => kf z p l e s m args below meth c D ad ca A C H locs ls hP hS hl)
theorem g_icmp_gt {Y : ME} {pc : Nat} {L : List (Nat × Value)} {rest : List Value} {mm : MM} {Q : Value → MM → Prop} {x y : Int32} {off : Int} {tgt : Nat} (d : decode (mB Y) pc = .ok (.if_icmp .gt off, 3)) (ht : (pc : Int) + off = (tgt : Int)) (kt : y < x → G Y tgt L rest mm Q) (kf : ¬ y < x → G Y (pc + 3) L rest mm Q) : G Y pc L (.int y :: .int x :: rest) mm Q := by
  intro p l e s m args below meth c D ad ca A C H locs ls hP hS hl
  exact lv_icmp_gt C.1 C.2.1 d ht (fun z => kt z p l e s m args below meth c D ad ca A C H locs ls hP hS hl) (fun z => kf z p l e s m args below meth c D ad ca A C H locs ls hP hS hl)
theorem g_if_le {Y : ME} {pc : Nat} {L : List (Nat × Value)} {rest : List Value} {mm : MM} {Q : Value → MM → Prop} {x : Int32} {off : Int} {tgt : Nat} (d : decode (mB Y) pc = .ok (.ifCond .le off, 3)) (ht : (pc : Int) + off = (tgt : Int)) (kt : x ≤ 0 → G Y tgt L rest mm Q) (kf : ¬ x ≤ 0 → G Y (pc + 3) L rest mm Q) : G Y pc L (.int x :: rest) mm Q := by
  intro p l e s m args below meth c D ad ca A C H locs ls hP hS hl
  exact lv_if_le C.1 C.2.1 d ht (fun z => kt z p l e s m args below meth c D ad ca A C H locs ls hP hS hl) (fun z => kf z p l e s m args below meth c D ad ca A C H locs ls hP hS hl)
theorem g_icmp_le {Y : ME} {pc : Nat} {L : List (Nat × Value)} {rest : List Value} {mm : MM} {Q : Value → MM → Prop} {x y : Int32} {off : Int} {tgt : Nat} (d : decode (mB Y) pc = .ok (.if_icmp .le off, 3)) (ht : (pc : Int) + off = (tgt : Int)) (kt : x ≤ y → G Y tgt L rest mm Q) (kf : ¬ x ≤ y → G Y (pc + 3) L rest mm Q) : G Y pc L (.int y :: .int x :: rest) mm Q := by
  intro p l e s m args below meth c D ad ca A C H locs ls hP hS hl
  exact lv_icmp_le C.1 C.2.1 d ht (fun z => kt z p l e s m args below meth c D ad ca A C H locs ls hP hS hl) (fun z => kf z p l e s m args below meth c D ad ca A C H locs ls hP hS hl)
theorem g_tsIn {Y : ME} {pc : Nat} {L : List (Nat × Value)} {rest : List Value} {mm : MM} {Q : Value → MM → Prop} {dflt lo hi : Int} {offs : Array Int} {len : Nat} {x : Int32} {off : Int} {tgt : Nat} (d : decode (mB Y) pc = .ok (.tableswitch dflt lo hi offs, len)) (h1 : ¬ x.toInt < lo) (h2 : ¬ hi < x.toInt) (ho : offs[(x.toInt - lo).toNat]? = some off) (ht : (pc : Int) + off = (tgt : Int)) (k : G Y tgt L rest mm Q) : G Y pc L (.int x :: rest) mm Q := by
  intro p l e s m args below meth c D ad ca A C H locs ls hP hS hl
  exact lv_tableIn C.1 C.2.1 d h1 h2 ho ht (k p l e s m args below meth c D ad ca A C H locs ls hP hS hl)
theorem g_tsOut {Y : ME} {pc : Nat} {L : List (Nat × Value)} {rest : List Value} {mm : MM} {Q : Value → MM → Prop} {dflt lo hi : Int} {offs : Array Int} {len : Nat} {x : Int32} {tgt : Nat} (d : decode (mB Y) pc = .ok (.tableswitch dflt lo hi offs, len)) (h : x.toInt < lo ∨ hi < x.toInt) (ht : (pc : Int) + dflt = (tgt : Int)) (k : G Y tgt L rest mm Q) : G Y pc L (.int x :: rest) mm Q := by
  intro p l e s m args below meth c D ad ca A C H locs ls hP hS hl
  exact lv_tableOut C.1 C.2.1 d h ht (k p l e s m args below meth c D ad ca A C H locs ls hP hS hl)
/-- a constant of the class's table -/
theorem g_ldc {Y : ME} {pc : Nat} {L : List (Nat × Value)} {rest : List Value} {mm : MM} {Q : Value → MM → Prop} {n : Nat} {v : Int32} (d : decode (mB Y) pc = .ok (.ldc n, 2)) (hw : Cond.constant (mN Y).cls n v ∈ bigW) (k : G Y (pc + 2) L (.int v :: rest) mm Q) : G Y pc L rest mm Q := by
  intro p l e s m args below meth c D ad ca A C H locs ls hP hS hl
  exact lv_ldc C.1 C.2.1 C.2.2.2.2.2.1 (C.2.2.2.2.2.2.1 _ hw) d (k p l e s m args below meth c D ad ca A C H locs ls hP hS hl)
theorem g_ldcw {Y : ME} {pc : Nat} {L : List (Nat × Value)} {rest : List Value} {mm : MM} {Q : Value → MM → Prop} {n : Nat} {v : Int32} (d : decode (mB Y) pc = .ok (.ldc_w n, 3)) (hw : Cond.constant (mN Y).cls n v ∈ bigW) (k : G Y (pc + 3) L (.int v :: rest) mm Q) : G Y pc L rest mm Q := by
  intro p l e s m args below meth c D ad ca A C H locs ls hP hS hl
  exact lv_ldcw C.1 C.2.1 C.2.2.2.2.2.1 (C.2.2.2.2.2.2.1 _ hw) d (k p l e s m args below meth c D ad ca A C H locs ls hP hS hl)
theorem g_ldc2 {Y : ME} {pc : Nat} {L : List (Nat × Value)} {rest : List Value} {mm : MM} {Q : Value → MM → Prop} {n : Nat} {v : Int64} (d : decode (mB Y) pc = .ok (.ldc2_w n, 3)) (hw : Cond.constantLong (mN Y).cls n v ∈ bigW) (k : G Y (pc + 3) L (.long v :: rest) mm Q) : G Y pc L rest mm Q := by
  intro p l e s m args below meth c D ad ca A C H locs ls hP hS hl
  exact lv_ldc2 C.1 C.2.1 C.2.2.2.2.2.1 (C.2.2.2.2.2.2.1 _ hw) d (k p l e s m args below meth c D ad ca A C H locs ls hP hS hl)
/-- text i -/
theorem g_ldcS {Y : ME} {pc : Nat} {L : List (Nat × Value)} {rest : List Value} {mm : MM} {Q : Value → MM → Prop} {n i : Nat} {q : String × Nat × String} (d : decode (mB Y) pc = .ok (.ldc n, 2)) (hq : strTab[i]? = some q) (h1 : q.1 = (mN Y).cls) (h2 : q.2.1 = n) (k : G Y (pc + 2) L (.ref (1000 + 2 * i) :: rest) mm Q) : G Y pc L rest mm Q := by
  intro p l e s m args below meth c D ad ca A C H locs ls hP hS hl
  subst h2
  exact va_ldcS C.1 C.2.1 (tx := q.2.2) C.2.2.2.2.2.1 (by rw [← h1]; exact C.2.2.2.2.2.2.2.2.2.2.2.2.1 i q hq) d (k p l e s m args below meth c D ad ca A C H locs ls hP hS hl)
/-- fewer, or otherwise ordered, locals -/
theorem g_sub {Y : ME} {pc : Nat} {L : List (Nat × Value)} {rest : List Value} {mm : MM} {Q : Value → MM → Prop} {L' : List (Nat × Value)} (ks : List Nat) (h : lv_pick L ks = L') (k : G Y pc L' rest mm Q) : G Y pc L rest mm Q := by
  intro p l e s m args below meth c D ad ca A C H locs ls hP hS hl
  refine k p l e s m args below meth c D ad ca A C H locs ls hP hS (lv_mono hl (fun q hq => ?_))
  subst h
  obtain ⟨x, hx, rfl⟩ := List.mem_map.mp hq
  obtain ⟨i, -, hi⟩ := List.mem_filterMap.mp hx
  exact List.mem_map.mpr ⟨x, List.mem_of_getElem? hi, rfl⟩
/-- the field entry idx of the class own is the k-th field of the class number ci -/
def FO (own : String) (idx ci k : Nat) (ty : FieldType) (fin : Bool) : Prop := ∃ (C : String) (T : u_T) (N : Nat) (ty0 : Nat → FieldType), classes[ci]? = some (C, T, N) ∧ k < N ∧ (∀ w ∈ u_ws C T N, w ∈ bigW) ∧ (∀ k, k < N → parseFieldDescriptor (T k).2.2.1 = some (ty0 k)) ∧ (∀ a, a < N → ∀ b, b < N → a ≠ b → (T a).2.1 ≠ (T b).2.1) ∧ Cond.fieldLink own idx (T k).1 (T k).2.1 (T k).2.2.1 ∈ bigW ∧ ty0 k = ty ∧ (T k).2.2.2 = fin
theorem g_getI {Y : ME} {pc : Nat} {L : List (Nat × Value)} {rest : List Value} {mm : MM} {Q : Value → MM → Prop} {idx ci k j : Nat} {ty : FieldType} {fin : Bool} {sks : List Nat} (d : decode (mB Y) pc = .ok (.getfield idx, 3)) (hF : FO (mN Y).cls idx ci j ty fin) (sh : SHL[k]? = some (.inr (ci, sks))) (hj : sks[j]? = some (0)) (kk : G Y (pc + 3) L (.int (mm.1 k j) :: rest) mm Q) : G Y pc L (.ref k :: rest) mm Q := by
  intro p l e s m args below meth c D ad ca A C H locs ls hP hS hl
  obtain ⟨Cn, T, N, ty0, f1, f2, f3, f4, f5, f6, f7, f8⟩ := hF
  refine va_get (D := D) (ci := ci) (C := Cn) (T := T) (N := N) (a := ad k) C.1 C.2.1 C.2.2.2.2.2.2.1 f3 C.2.2.2.2.2.1 C.2.2.2.2.2.2.2.1 hP k (ws_at sh) f1 j f2 (C.2.2.2.2.2.2.1 _ f6) (fun _ h => h) (v := cv ad (.int (mm.1 k j))) ?_ d (kk p l e s m args below meth c D ad ca A C H locs ls hP hS hl)
  rw [slotsV_at, hj]
  simp [slotV, cv]
theorem g_getV {Y : ME} {pc : Nat} {L : List (Nat × Value)} {rest : List Value} {mm : MM} {Q : Value → MM → Prop} {idx ci k j : Nat} {ty : FieldType} {fin : Bool} {sks : List Nat} (d : decode (mB Y) pc = .ok (.getfield idx, 3)) (hF : FO (mN Y).cls idx ci j ty fin) (sh : SHL[k]? = some (.inr (ci, sks))) (hj : sks[j]? = some (1)) (kk : G Y (pc + 3) L (.ref (mm.2.2 k j) :: rest) mm Q) : G Y pc L (.ref k :: rest) mm Q := by
  intro p l e s m args below meth c D ad ca A C H locs ls hP hS hl
  obtain ⟨Cn, T, N, ty0, f1, f2, f3, f4, f5, f6, f7, f8⟩ := hF
  refine va_get (D := D) (ci := ci) (C := Cn) (T := T) (N := N) (a := ad k) C.1 C.2.1 C.2.2.2.2.2.2.1 f3 C.2.2.2.2.2.1 C.2.2.2.2.2.2.2.1 hP k (ws_at sh) f1 j f2 (C.2.2.2.2.2.2.1 _ f6) (fun _ h => h) (v := cv ad (.ref (mm.2.2 k j))) ?_ d (kk p l e s m args below meth c D ad ca A C H locs ls hP hS hl)
  rw [slotsV_at, hj]
  simp [slotV, cv]
theorem g_getR {Y : ME} {pc : Nat} {L : List (Nat × Value)} {rest : List Value} {mm : MM} {Q : Value → MM → Prop} {idx ci k j dd : Nat} {ty : FieldType} {fin : Bool} {sks : List Nat} (d : decode (mB Y) pc = .ok (.getfield idx, 3)) (hF : FO (mN Y).cls idx ci j ty fin) (sh : SHL[k]? = some (.inr (ci, sks))) (hj : sks[j]? = some (dd + 2)) (kk : G Y (pc + 3) L (.ref (k + dd) :: rest) mm Q) : G Y pc L (.ref k :: rest) mm Q := by
  intro p l e s m args below meth c D ad ca A C H locs ls hP hS hl
  obtain ⟨Cn, T, N, ty0, f1, f2, f3, f4, f5, f6, f7, f8⟩ := hF
  refine va_get (D := D) (ci := ci) (C := Cn) (T := T) (N := N) (a := ad k) C.1 C.2.1 C.2.2.2.2.2.2.1 f3 C.2.2.2.2.2.1 C.2.2.2.2.2.2.2.1 hP k (ws_at sh) f1 j f2 (C.2.2.2.2.2.2.1 _ f6) (fun _ h => h) (v := cv ad (.ref (k + dd))) ?_ d (kk p l e s m args below meth c D ad ca A C H locs ls hP hS hl)
  rw [slotsV_at, hj]
  simp [slotV, cv]
theorem g_putI {Y : ME} {pc : Nat} {L : List (Nat × Value)} {rest : List Value} {mm : MM} {Q : Value → MM → Prop} {idx ci k j : Nat} {ty : FieldType} {sks : List Nat} {v : Int32} (d : decode (mB Y) pc = .ok (.putfield idx, 3)) (hF : FO (mN Y).cls idx ci j ty false) (sh : SHL[k]? = some (.inr (ci, sks))) (hj : sks[j]? = some 0) (hn : narrow ty (.int v) = .int v) (hf : fits ty (.int v) = true) (kk : G Y (pc + 3) L rest (wI mm k j v) Q) : G Y pc L (.int v :: .ref k :: rest) mm Q := by
  intro p l e s m args below meth c D ad ca A C H locs ls hP hS hl
  obtain ⟨Cn, T, N, ty0, f1, f2, f3, f4, f5, f6, f7, f8⟩ := hF
  refine va_put (D := D) (ci := ci) (C := Cn) (T := T) (N := N) (a := ad k) (v := .int v) (ty := ty) C.1 C.2.1 C.2.2.2.2.2.2.1 f3 ty0 f4 f5 C.2.2.2.2.2.1 C.2.2.2.2.2.2.2.1 hP (ws_D C.2.2.2.2.2.2.2.2.1 C.2.2.2.2.2.2.2.2.2.1) hS k (ws_at sh) f1 j f2 (C.2.2.2.2.2.2.1 _ f6) (fun _ h => h) f8 (by rw [f4 j f2, f7]) hn hf (by rw [slotsV_len]; exact (List.getElem?_eq_some_iff.mp hj).1) d (fun H1 locs1 hP1 hD1 hS1 => ?_)
  refine kk p l e s m args below meth c D ad ca A C H1 locs1 ls ?_ hS1 hl
  rw [slotsV_setI hj] at hP1
  have e9 := ws_set (ad := ad) (ca := ca) sh (mOff_R mm k (upd (mm.1 k) j v))
  show va_P D classes (wsOf ad ca (wR mm k (upd (mm.1 k) j v))) H1
  rw [← e9]
  exact hP1
theorem g_putV {Y : ME} {pc : Nat} {L : List (Nat × Value)} {rest : List Value} {mm : MM} {Q : Value → MM → Prop} {idx ci k j r : Nat} {nm : String} {sks : List Nat} (d : decode (mB Y) pc = .ok (.putfield idx, 3)) (hF : FO (mN Y).cls idx ci j (.object nm) false) (sh : SHL[k]? = some (.inr (ci, sks))) (hj : sks[j]? = some 1) (kk : G Y (pc + 3) L rest (wRf mm k j r) Q) : G Y pc L (.ref r :: .ref k :: rest) mm Q := by
  intro p l e s m args below meth c D ad ca A C H locs ls hP hS hl
  obtain ⟨Cn, T, N, ty0, f1, f2, f3, f4, f5, f6, f7, f8⟩ := hF
  refine va_put (D := D) (ci := ci) (C := Cn) (T := T) (N := N) (a := ad k) (v := .ref (ad r)) (ty := .object nm) C.1 C.2.1 C.2.2.2.2.2.2.1 f3 ty0 f4 f5 C.2.2.2.2.2.1 C.2.2.2.2.2.2.2.1 hP (ws_D C.2.2.2.2.2.2.2.2.1 C.2.2.2.2.2.2.2.2.2.1) hS k (ws_at sh) f1 j f2 (C.2.2.2.2.2.2.1 _ f6) (fun _ h => h) f8 (by rw [f4 j f2, f7]) rfl rfl (by rw [slotsV_len]; exact (List.getElem?_eq_some_iff.mp hj).1) d (fun H1 locs1 hP1 hD1 hS1 => ?_)
  refine kk p l e s m args below meth c D ad ca A C H1 locs1 ls ?_ hS1 hl
  rw [slotsV_setF hj] at hP1
  have e9 := ws_set (ad := ad) (ca := ca) sh (mOff_F mm k j r)
  rw [← e9]
  exact hP1
theorem g_iaload {Y : ME} {pc : Nat} {L : List (Nat × Value)} {rest : List Value} {mm : MM} {Q : Value → MM → Prop} {k n dd ee : Nat} {i : Int32} (d : decode (mB Y) pc = .ok (.iaload, 1)) (sh : SHL[k]? = some (.inl (0, n, dd, ee))) (hin : vp_in i n) (kk : G Y (pc + 1) L (.int (mm.1 k i.toNatClampNeg) :: rest) mm Q) : G Y pc L (.int i :: .ref k :: rest) mm Q := by
  intro p l e s m args below meth c D ad ca A C H locs ls hP hS hl
  exact va_iald C.1 C.2.1 C.2.2.2.2.2.2.2.1 hP k 0 (ws_at sh) rfl hin d (kk p l e s m args below meth c D ad ca A C H locs ls hP hS hl)
theorem g_baload {Y : ME} {pc : Nat} {L : List (Nat × Value)} {rest : List Value} {mm : MM} {Q : Value → MM → Prop} {k n dd ee : Nat} {i : Int32} (d : decode (mB Y) pc = .ok (.baload, 1)) (sh : SHL[k]? = some (.inl (1, n, dd, ee))) (hin : vp_in i n) (kk : G Y (pc + 1) L (.int (mm.1 k i.toNatClampNeg) :: rest) mm Q) : G Y pc L (.int i :: .ref k :: rest) mm Q := by
  intro p l e s m args below meth c D ad ca A C H locs ls hP hS hl
  exact va_bald C.1 C.2.1 C.2.2.2.2.2.2.2.1 hP k 1 (ws_at sh) rfl hin d (kk p l e s m args below meth c D ad ca A C H locs ls hP hS hl)
theorem g_zaload {Y : ME} {pc : Nat} {L : List (Nat × Value)} {rest : List Value} {mm : MM} {Q : Value → MM → Prop} {k n dd ee : Nat} {i : Int32} (d : decode (mB Y) pc = .ok (.baload, 1)) (sh : SHL[k]? = some (.inl (2, n, dd, ee))) (hin : vp_in i n) (kk : G Y (pc + 1) L (.int (mm.1 k i.toNatClampNeg) :: rest) mm Q) : G Y pc L (.int i :: .ref k :: rest) mm Q := by
  intro p l e s m args below meth c D ad ca A C H locs ls hP hS hl
  exact va_zald C.1 C.2.1 C.2.2.2.2.2.2.2.1 hP k 2 (ws_at sh) rfl hin d (kk p l e s m args below meth c D ad ca A C H locs ls hP hS hl)
theorem g_laload {Y : ME} {pc : Nat} {L : List (Nat × Value)} {rest : List Value} {mm : MM} {Q : Value → MM → Prop} {k n dd ee : Nat} {i : Int32} (d : decode (mB Y) pc = .ok (.laload, 1)) (sh : SHL[k]? = some (.inl (3, n, dd, ee))) (hin : vp_in i n) (kk : G Y (pc + 1) L (.long (mm.2.1 k i.toNatClampNeg) :: rest) mm Q) : G Y pc L (.int i :: .ref k :: rest) mm Q := by
  intro p l e s m args below meth c D ad ca A C H locs ls hP hS hl
  exact va_lald C.1 C.2.1 C.2.2.2.2.2.2.2.1 hP k 3 (ws_at sh) rfl hin d (kk p l e s m args below meth c D ad ca A C H locs ls hP hS hl)
theorem g_aaload {Y : ME} {pc : Nat} {L : List (Nat × Value)} {rest : List Value} {mm : MM} {Q : Value → MM → Prop} {k n dd ee t : Nat} {cn : String} {i : Int32} (d : decode (mB Y) pc = .ok (.aaload, 1)) (sh : SHL[k]? = some (.inl (4, n, dd, ee))) (hin : vp_in i n) (kk : G Y (pc + 1) L (.ref (k + dd + ee * i.toNatClampNeg) :: rest) mm Q) : G Y pc L (.int i :: .ref k :: rest) mm Q := by
  intro p l e s m args below meth c D ad ca A C H locs ls hP hS hl
  refine va_aldq C.1 C.2.1 C.2.2.2.2.2.2.2.1 hP k 4 (ws_at sh) rfl hin d ?_
  have hlt : i.toNatClampNeg < n := Nat.not_le.mp fun q => hin (Or.inr q)
  rw [if_pos hlt]
  exact kk p l e s m args below meth c D ad ca A C H locs ls hP hS hl
theorem g_aaload5 {Y : ME} {pc : Nat} {L : List (Nat × Value)} {rest : List Value} {mm : MM} {Q : Value → MM → Prop} {k n dd ee : Nat} {i : Int32} (d : decode (mB Y) pc = .ok (.aaload, 1)) (sh : SHL[k]? = some (.inl (5, n, dd, ee))) (hin : vp_in i n) (kk : G Y (pc + 1) L (.ref (k + dd + ee * i.toNatClampNeg) :: rest) mm Q) : G Y pc L (.int i :: .ref k :: rest) mm Q := by
  intro p l e s m args below meth c D ad ca A C H locs ls hP hS hl
  have hlt : i.toNatClampNeg < n := Nat.not_le.mp fun q => hin (Or.inr q)
  have ha := ws_at (ad := ad) (ca := ca) (mm := mm) sh
  have kk := kk p l e s m args below meth c D ad ca A C H locs ls hP hS hl
  have hv : va_rf ((fun j => if j < n then some (ad (k + dd + ee * j)) else none) i.toNatClampNeg) = .ref (ad (k + dd + ee * i.toNatClampNeg)) := by simp [va_rf, hlt]
  exact W.aald (v := .ref (ad (k + dd + ee * i.toNatClampNeg))) (ty := .array .int) C.1 C.2.1 (hP k _ ha) ((C.2.2.2.2.2.2.2.1.2 5 _ rfl).1 n (fun j => va_rf ((fun j => if j < n then some (ad (k + dd + ee * j)) else none) j))) rfl (fun q => by cases q) (by show ¬ (i < 0 ∨ (arrV _ _ _).slots.size ≤ _); rw [arrV_size]; exact hin) (by show (arrV _ _ _).slots[_]? = _; rw [arrV_read _ _ hlt, hv]) rfl rfl d kk
theorem g_alen {Y : ME} {pc : Nat} {L : List (Nat × Value)} {rest : List Value} {mm : MM} {Q : Value → MM → Prop} {k n dd ee t : Nat} {v : Int32} (ht : t < 4) (d : decode (mB Y) pc = .ok (.arraylength, 1)) (sh : SHL[k]? = some (.inl (t, n, dd, ee))) (hv : Int32.ofNat n = v) (kk : G Y (pc + 1) L (.int v :: rest) mm Q) : G Y pc L (.ref k :: rest) mm Q := by
  intro p l e s m args below meth c D ad ca A C H locs ls hP hS hl
  have ha := ws_at (ad := ad) (ca := ca) (mm := mm) sh
  have kk := kk p l e s m args below meth c D ad ca A C H locs ls hP hS hl
  rcases (show t = 0 ∨ t = 1 ∨ t = 2 ∨ t = 3 by omega) with rfl | rfl | rfl | rfl
  · exact va_alen C.1 C.2.1 C.2.2.2.2.2.2.2.1 hP k 0 ha rfl hv d kk
  · exact va_alen C.1 C.2.1 C.2.2.2.2.2.2.2.1 hP k 1 ha rfl hv d kk
  · exact va_alen C.1 C.2.1 C.2.2.2.2.2.2.2.1 hP k 2 ha rfl hv d kk
  · exact va_alen C.1 C.2.1 C.2.2.2.2.2.2.2.1 hP k 3 ha rfl hv d kk
theorem g_iastore {Y : ME} {pc : Nat} {L : List (Nat × Value)} {rest : List Value} {mm : MM} {Q : Value → MM → Prop} {k n dd ee : Nat} {i x : Int32} (d : decode (mB Y) pc = .ok (.iastore, 1)) (sh : SHL[k]? = some (.inl (0, n, dd, ee))) (hin : vp_in i n) (kk : G Y (pc + 1) L rest (wI mm k i.toNatClampNeg x) Q) : G Y pc L (.int x :: .int i :: .ref k :: rest) mm Q := by
  intro p l e s m args below meth c D ad ca A C H locs ls hP hS hl
  refine va_iast C.1 C.2.1 C.2.2.2.2.2.2.2.1 hP (ws_D C.2.2.2.2.2.2.2.2.1 C.2.2.2.2.2.2.2.2.2.1) hS k 0 (ws_at sh) rfl hin d (fun H1 locs1 hP1 hD1 hS1 => ?_)
  refine kk p l e s m args below meth c D ad ca A C H1 locs1 ls ?_ hS1 hl
  have e9 := ws_set (ad := ad) (ca := ca) sh (mOff_R mm k (upd (mm.1 k) i.toNatClampNeg x))
  simp only [cellV, wR_k] at e9
  show va_P D classes (wsOf ad ca (wR mm k (upd (mm.1 k) i.toNatClampNeg x))) H1
  rw [← e9]
  exact hP1
theorem g_bastore {Y : ME} {pc : Nat} {L : List (Nat × Value)} {rest : List Value} {mm : MM} {Q : Value → MM → Prop} {k n dd ee : Nat} {i x : Int32} (d : decode (mB Y) pc = .ok (.bastore, 1)) (sh : SHL[k]? = some (.inl (1, n, dd, ee))) (hin : vp_in i n) (kk : G Y (pc + 1) L rest (wI mm k i.toNatClampNeg (vp_nar .byte x)) Q) : G Y pc L (.int x :: .int i :: .ref k :: rest) mm Q := by
  intro p l e s m args below meth c D ad ca A C H locs ls hP hS hl
  refine va_bast C.1 C.2.1 C.2.2.2.2.2.2.2.1 hP (ws_D C.2.2.2.2.2.2.2.2.1 C.2.2.2.2.2.2.2.2.2.1) hS k 1 (ws_at sh) rfl hin d (fun H1 locs1 hP1 hD1 hS1 => ?_)
  refine kk p l e s m args below meth c D ad ca A C H1 locs1 ls ?_ hS1 hl
  have e9 := ws_set (ad := ad) (ca := ca) sh (mOff_R mm k (upd (mm.1 k) i.toNatClampNeg (vp_nar .byte x)))
  simp only [cellV, wR_k] at e9
  show va_P D classes (wsOf ad ca (wR mm k (upd (mm.1 k) i.toNatClampNeg (vp_nar .byte x)))) H1
  rw [← e9]
  exact hP1
theorem g_zastore {Y : ME} {pc : Nat} {L : List (Nat × Value)} {rest : List Value} {mm : MM} {Q : Value → MM → Prop} {k n dd ee : Nat} {i x : Int32} (d : decode (mB Y) pc = .ok (.bastore, 1)) (sh : SHL[k]? = some (.inl (2, n, dd, ee))) (hin : vp_in i n) (kk : G Y (pc + 1) L rest (wI mm k i.toNatClampNeg (vp_nar .boolean x)) Q) : G Y pc L (.int x :: .int i :: .ref k :: rest) mm Q := by
  intro p l e s m args below meth c D ad ca A C H locs ls hP hS hl
  refine va_zast C.1 C.2.1 C.2.2.2.2.2.2.2.1 hP (ws_D C.2.2.2.2.2.2.2.2.1 C.2.2.2.2.2.2.2.2.2.1) hS k 2 (ws_at sh) rfl hin d (fun H1 locs1 hP1 hD1 hS1 => ?_)
  refine kk p l e s m args below meth c D ad ca A C H1 locs1 ls ?_ hS1 hl
  have e9 := ws_set (ad := ad) (ca := ca) sh (mOff_R mm k (upd (mm.1 k) i.toNatClampNeg (vp_nar .boolean x)))
  simp only [cellV, wR_k] at e9
  show va_P D classes (wsOf ad ca (wR mm k (upd (mm.1 k) i.toNatClampNeg (vp_nar .boolean x)))) H1
  rw [← e9]
  exact hP1
theorem g_lastore {Y : ME} {pc : Nat} {L : List (Nat × Value)} {rest : List Value} {mm : MM} {Q : Value → MM → Prop} {k n dd ee : Nat} {i : Int32} {x : Int64} (d : decode (mB Y) pc = .ok (.lastore, 1)) (sh : SHL[k]? = some (.inl (3, n, dd, ee))) (hin : vp_in i n) (kk : G Y (pc + 1) L rest (wLg mm k i.toNatClampNeg x) Q) : G Y pc L (.long x :: .int i :: .ref k :: rest) mm Q := by
  intro p l e s m args below meth c D ad ca A C H locs ls hP hS hl
  refine va_last C.1 C.2.1 C.2.2.2.2.2.2.2.1 hP (ws_D C.2.2.2.2.2.2.2.2.1 C.2.2.2.2.2.2.2.2.2.1) hS k 3 (ws_at sh) rfl hin d (fun H1 locs1 hP1 hD1 hS1 => ?_)
  refine kk p l e s m args below meth c D ad ca A C H1 locs1 ls ?_ hS1 hl
  have e9 := ws_set (ad := ad) (ca := ca) sh (mOff_L mm k i.toNatClampNeg x)
  simp only [cellV, wL_k] at e9
  rw [← e9]
  exact hP1

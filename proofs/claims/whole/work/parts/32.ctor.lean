def svX0 : List Nat := [1, 1, 1, 0]
def svX1 : List Nat := [1, 1, 1, 1, 1, 0, 0, 0, 0, 0, 0, 0, 0]
def svX2 : List Nat := [1, 1, 1, 1, 1, 1, 0]
def svX3 : List Nat := [1, 1, 1, 1, 0]
def svX4 : List Nat := [1, 1, 1, 1, 1, 1, 0, 0, 0, 0, 0, 0, 0, 0, 0, 0, 0, 0]
def svX5 : List Nat := [1, 1, 0, 0, 0, 0, 0]
def svX6 : List Nat := [1, 1, 1, 1, 1, 1, 1, 0, 0]
def svX7 : List Nat := [1, 1, 1, 1, 0, 0]
def svX8 : List Nat := [1, 1, 1, 1, 1, 1, 1, 1, 0, 0, 0, 0, 0, 0, 0, 0]
def svX9 : List Nat := [1, 1, 1, 1, 0, 0, 0]
def svX10 : List Nat := [1, 1, 0]
def svX11 : List Nat := [1, 1, 1, 1, 1, 1, 1, 1, 1, 1, 1]
def svX12 : List Nat := [0, 1, 0, 1, 1, 1, 1, 0, 0, 0, 0, 0, 1, 1, 1, 1, 1, 1, 1, 1, 1, 1, 1, 1, 1, 0, 1, 1, 1, 0, 0, 1, 0, 0, 1, 0, 1, 1, 1, 1, 0, 0, 0, 1, 1, 1, 1, 1, 0, 0, 0, 1, 1]
theorem ga_ {S T : List SHP} {k : Nat} {s : SHP} (h : S[k]? = some s) : (S ++ T)[k]? = some s := by
  rw [List.getElem?_append_left (List.getElem?_eq_some_iff.mp h).1]; exact h
theorem gl_ {S : List SHP} {s : SHP} {n : Nat} (h : S.length = n) : (S ++ [s])[n]? = some s := by subst h; simp
theorem la_ {S : List SHP} {s : SHP} {n : Nat} (h : S.length = n) : (S ++ [s]).length = n + 1 := by simp [h]
theorem lr_ {S : List SHP} {s t : SHP} {n N : Nat} (h : S.length = n) : (S ++ [s] ++ List.replicate N t).length = n + 1 + N := by simp [h]; omega
theorem RLm_w {mm : MM} {n N : Nat} (h : RLm mm n) : RLm (wRow mm n (rowsOf n N)) (n + 1 + N) := by
  intro a b
  by_cases e : a = n
  · subst e
    show va_up mm.2.2 a (rowsOf a N) a b = 0 ∨ va_up mm.2.2 a (rowsOf a N) a b < _
    simp only [va_up, if_true, rowsOf]
    by_cases f : b < N
    · rw [if_pos f]; omega
    · rw [if_neg f]; exact Or.inl rfl
  · show va_up mm.2.2 n (rowsOf n N) a b = 0 ∨ va_up mm.2.2 n (rowsOf n N) a b < _
    simp only [va_up, e, if_false]
    exact (h a b).imp id (fun z => by omega)
theorem Fr0_w {mm : MM} {n N : Nat} (h : Fr0 mm n) : Fr0 (wRow mm n (rowsOf n N)) (n + 1 + N) := by
  intro a ha
  have e : a ≠ n := by omega
  refine ⟨(h a (by omega)).1, (h a (by omega)).2.1, ?_⟩
  show va_up mm.2.2 n (rowsOf n N) a = _
  simp only [va_up, e, if_false]
  exact (h a (by omega)).2.2
theorem refN_ref {n k : Nat} (h : k < n) : refN n (.ref k) := h
theorem refN_int {n : Nat} {x : Int32} : refN n (.int x) := True.intro
section GAW
variable {Y : ME} {mc ms n0 : Nat} {S' : List SHP} {mm' : MM} {S : List SHP} {pc : Nat} {L : List (Nat × Value)} {rest : List Value} {mm : MM} {cells slots n : Nat}
theorem a_new_ {idx ci N : Nat} {sks : List Nat} (d : decode (mB Y) pc = .ok (.new idx, 3)) (hC : NO (mN Y).cls idx ci N sks) (hn : S.length = n) (hR : RLm mm n) (hF : Fr0 mm n) (h1 : n0 ≤ n) (h2 : n < 1000) (hL : ∀ v ∈ L, refN n v.2) (hst : ∀ v ∈ rest, refN n v) (hc : cells + 1 ≤ mc) (hs : slots + N ≤ ms) (kk : GA Y mc ms n0 S' mm' (S ++ [.inr (ci, sks)]) (pc + 3) L (.ref n :: rest) mm (cells + 1) (slots + N)) : GA Y mc ms n0 S' mm' S pc L rest mm cells slots := by
  subst hn
  exact a_new d hC hR hF h1 h2 hL hst hc hs kk
theorem a_newarr_ {t k : Nat} {i : Int32} {aty : ArrayType} (ht : t < 4) (hty : (tysOf (fun _ => 0))[t]? = some (0, newarray.typeOf aty)) (d : decode (mB Y) pc = .ok (.newarray aty, 2)) (hw : Cond.arrayClass (newarray.typeOf aty) ∈ bigW) (hi : ¬ i < 0) (hk : i.toNatClampNeg = k) (hb : k * componentBytes (newarray.typeOf aty) ≤ 536870912) (hn : S.length = n) (hR : RLm mm n) (hF : Fr0 mm n) (h1 : n0 ≤ n) (h2 : n < 1000) (hL : ∀ v ∈ L, refN n v.2) (hst : ∀ v ∈ rest, refN n v) (hc : cells + 1 ≤ mc) (hs : slots + k ≤ ms) (kk : GA Y mc ms n0 S' mm' (S ++ [.inl (t, k, 0, 0)]) (pc + 2) L (.ref n :: rest) mm (cells + 1) (slots + k)) : GA Y mc ms n0 S' mm' S pc L (.int i :: rest) mm cells slots := by
  subst hn
  exact a_newarr ht hty d hw hi hk hb hR hF h1 h2 hL hst hc hs kk
theorem a_anew_ {k idx : Nat} {i : Int32} (d : decode (mB Y) pc = .ok (.anewarray idx, 3)) (hw : Cond.classLink (mN Y).cls idx "StiltTown$State" ∈ bigW) (hi : ¬ i < 0) (hk : i.toNatClampNeg = k) (hb : k * 4 ≤ 536870912) (hn : S.length = n) (hR : RLm mm n) (hF : Fr0 mm n) (h1 : n0 ≤ n) (h2 : n < 1000) (hL : ∀ v ∈ L, refN n v.2) (hst : ∀ v ∈ rest, refN n v) (hc : cells + 1 ≤ mc) (hs : slots + k ≤ ms) (kk : GA Y mc ms n0 S' mm' (S ++ [.inl (4, k, 0, 0)]) (pc + 3) L (.ref n :: rest) mm (cells + 1) (slots + k)) : GA Y mc ms n0 S' mm' S pc L (.int i :: rest) mm cells slots := by
  subst hn
  exact a_anew d hw hi hk hb hR hF h1 h2 hL hst hc hs kk
theorem a_mna_ {idx a b : Nat} {i1 i2 : Int32} (d : decode (mB Y) pc = .ok (.multianewarray idx 2, 4)) (hw : Cond.classLink (mN Y).cls idx "[[I" ∈ bigW) (hw2 : Cond.arrayClass .int ∈ bigW) (hi1 : ¬ i1 < 0) (hi2 : ¬ i2 < 0) (hN : i1.toNatClampNeg = a) (hM : i2.toNatClampNeg = b) (hb1 : a * 4 ≤ 536870912) (hb2 : b * 4 ≤ 536870912) (hn : S.length = n) (hR : RLm mm n) (hF : Fr0 mm n) (h1 : n0 ≤ n) (h2 : n + 1 + a < 1000) (hL : ∀ v ∈ L, refN n v.2) (hst : ∀ v ∈ rest, refN n v) (hc : cells + (1 + a) ≤ mc) (hs : slots + (a + a * b) ≤ ms)
    (kk : GA Y mc ms n0 S' mm' (S ++ [.inl (5, a, 0, 0)] ++ List.replicate a (.inl (0, b, 0, 0))) (pc + 4) L (.ref n :: rest) (wRow mm n (rowsOf n a)) (cells + 1 + a) (slots + a + a * b)) : GA Y mc ms n0 S' mm' S pc L (.int i2 :: .int i1 :: rest) mm cells slots := by
  subst hn
  exact a_mna d hw hw2 hi1 hi2 hN hM hb1 hb2 hR hF h1 h2 hL hst hc hs kk
theorem a_call_ {Y' : ME} {k mc' ms' idx : Nat} {S2 : List SHP} {m2 : MM} (d : decode (mB Y) pc = .ok (.invokespecial idx, 3)) (hC : CI (mN Y).cls idx Y') (hD1 : mD Y' + 1 ≤ mD Y) (hr : RunsA Y' mc' ms' S S2 mm m2 k) (hn : S.length = n) (h1 : n0 ≤ n) (hL : ∀ v ∈ L, refN n v.2) (hst : ∀ v ∈ rest, refN n v) (hrest : (rest.map fun v => v.category).sum ≤ 8) (hc : cells + mc' ≤ mc) (hs : slots + ms' ≤ ms) (kk : GA Y mc ms n0 S' mm' S2 (pc + 3) L rest m2 (cells + mc') (slots + ms')) : GA Y mc ms n0 S' mm' S pc L (.ref k :: rest) mm cells slots := by
  subst hn
  exact a_call d hC hD1 hr h1 hL hst hrest hc hs kk
end GAW
theorem dX0_init_0 : decode cX0_init 0 = .ok (.aload_n 0, 1) := by decide +kernel
theorem dX0_init_1 : decode cX0_init 1 = .ok (.invokespecial 3, 3) := by decide +kernel
theorem dX0_init_4 : decode cX0_init 4 = .ok (.aload_n 0, 1) := by decide +kernel
theorem dX0_init_5 : decode cX0_init 5 = .ok (.bipush 16, 2) := by decide +kernel
theorem dX0_init_7 : decode cX0_init 7 = .ok (.newarray .int, 2) := by decide +kernel
theorem dX0_init_9 : decode cX0_init 9 = .ok (.putfield 9, 3) := by decide +kernel
theorem dX0_init_12 : decode cX0_init 12 = .ok (.aload_n 0, 1) := by decide +kernel
theorem dX0_init_13 : decode cX0_init 13 = .ok (.bipush 16, 2) := by decide +kernel
theorem dX0_init_15 : decode cX0_init 15 = .ok (.newarray .int, 2) := by decide +kernel
theorem dX0_init_17 : decode cX0_init 17 = .ok (.putfield 15, 3) := by decide +kernel
theorem dX0_init_20 : decode cX0_init 20 = .ok (.aload_n 0, 1) := by decide +kernel
theorem dX0_init_21 : decode cX0_init 21 = .ok (.sipush 256, 3) := by decide +kernel
theorem dX0_init_24 : decode cX0_init 24 = .ok (.newarray .int, 2) := by decide +kernel
theorem dX0_init_26 : decode cX0_init 26 = .ok (.putfield 18, 3) := by decide +kernel
theorem dX0_init_29 : decode cX0_init 29 = .ok (.aload_n 0, 1) := by decide +kernel
theorem dX0_init_30 : decode cX0_init 30 = .ok (.iconst 0, 1) := by decide +kernel
theorem dX0_init_31 : decode cX0_init 31 = .ok (.putfield 21, 3) := by decide +kernel
theorem dX0_init_34 : decode cX0_init 34 = .ok (.return_, 1) := by decide +kernel
theorem w_438 : (Jvm.Cond.methodLink "StiltTown$Falls" (3 : Nat) ({ cls := "java/lang/Object", name := "<init>", desc := "()V" } : Jvm.MethodName)) ∈ bigW := tp_2 (List.mem_of_getElem? (i := 198) rfl) rfl
theorem w_27 : (Jvm.Cond.instanceMethod ({ cls := "java/lang/Object", name := "<init>", desc := "()V" } : Jvm.MethodName)) ∈ bigW := tp_1 (List.mem_of_getElem? (i := 27) rfl) rfl
theorem w_28 : (Jvm.Cond.code ({ cls := "java/lang/Object", name := "<init>", desc := "()V" } : Jvm.MethodName) object_method_1_code (1 : Nat) (Option.none : Option Jvm.ClassFile.FieldType)) ∈ bigW := tp_1 (List.mem_of_getElem? (i := 28) rfl) rfl
theorem oi_X0_3 : OI RX0 3 := ⟨w_438, w_27, w_28⟩
theorem w_66 : (Jvm.Cond.arrayClass Jvm.ClassFile.FieldType.int) ∈ bigW := tp_1 (List.mem_of_getElem? (i := 66) rfl) rfl
theorem fd_X0_9 : FD RX0 9 0 0 (.array .int) true := ⟨RX0, TX0, 4, tyX0, rfl, by decide, iX0, tyX0_ok, nmX0, w_439, rfl, rfl, rfl⟩
theorem fd_X0_15 : FD RX0 15 0 1 (.array .int) true := ⟨RX0, TX0, 4, tyX0, rfl, by decide, iX0, tyX0_ok, nmX0, w_441, rfl, rfl, rfl⟩
theorem fd_X0_18 : FD RX0 18 0 2 (.array .int) true := ⟨RX0, TX0, 4, tyX0, rfl, by decide, iX0, tyX0_ok, nmX0, w_442, rfl, rfl, rfl⟩
theorem fd_X0_21 : FD RX0 21 0 3 (.int) false := ⟨RX0, TX0, 4, tyX0, rfl, by decide, iX0, tyX0_ok, nmX0, w_443, rfl, rfl, rfl⟩
def tS_X0 (S : List SHP) : List SHP := S ++ [.inl (0, 16, 0, 0)] ++ [.inl (0, 16, 0, 0)] ++ [.inl (0, 256, 0, 0)]
def tm_X0 (mm : MM) (k n : Nat) : MM := wI (wRf (wRf (wRf (mm) (k) 0 (n)) (k) 1 (n + 1)) (k) 2 (n + 2)) (k) 3 (0 : Int32)
theorem tg_X0 {S : List SHP} {k : Nat} {s : SHP} (hk : S[k]? = some s) : (tS_X0 S)[k]? = some s := (ga_ (ga_ (ga_ hk)))
theorem tl_X0 {S : List SHP} {n : Nat} (hn : S.length = n) : (tS_X0 S).length = n + 3 := (la_ (la_ (la_ hn)))
theorem tr_X0 {mm : MM} {k n : Nat} (hR : RLm mm n) (h0 : k < n) : RLm (tm_X0 mm k n) (n + 3) := (RLm_F (RLm.more (RLm_F (RLm.more (RLm_F (RLm.more hR (Nat.le_succ _)) (by omega)) (Nat.le_succ _)) (by omega)) (Nat.le_succ _)) (by omega))
theorem tf_X0 {mm : MM} {k n : Nat} (hF : Fr0 mm n) (h0 : k < n) : Fr0 (tm_X0 mm k n) (n + 3) := (Fr0_I (Fr0_F (Fr0.more (Fr0_F (Fr0.more (Fr0_F (Fr0.more hF (Nat.le_succ _)) (by omega)) (Nat.le_succ _)) (by omega)) (Nat.le_succ _)) (by omega)) (by omega))
theorem rc_X0 {S : List SHP} {mm : MM} {k n : Nat} (hk : S[k]? = some (.inr (0, svX0))) (hn : S.length = n) (hR : RLm mm n) (hF : Fr0 mm n) (hz : 0 < n) (h0 : k < n) (h9 : n + 3 < 1000) : RunsA e_X0_init 3 288 S (tS_X0 S) mm (tm_X0 mm k n) k := by
  refine runsA_of pl_X0 (Nat.le_of_ble_eq_true rfl) rfl rfl ?_
  refine a_aload_n (pc := 0) (x := k) dX0_init_0 rfl ?_
  refine a_obj (pc := 1) dX0_init_1 oi_X0_3 (by decide) (Nat.le_of_ble_eq_true rfl) ?_
  refine a_aload_n (pc := 4) (x := k) dX0_init_4 rfl ?_
  refine a_bipush (pc := 5) (v := (16 : Int32)) dX0_init_5 (by decide) ?_
  refine a_newarr_ (pc := 7) (n := n) (t := 0) (k := 16) (by decide) rfl dX0_init_7 w_66 (by decide) (by decide) (by decide) hn hR hF (by omega) (by omega) (by intro v hv; simp only [List.mem_cons, List.not_mem_nil, or_false] at hv; rcases hv with rfl <;> first | exact refN_int | exact refN_ref (by omega)) (by intro v hv; simp only [List.mem_cons, List.not_mem_nil, or_false] at hv; rcases hv with rfl <;> first | exact refN_int | exact refN_ref (by omega)) (by decide) (by decide) ?_
  refine a_putR (pc := 9) dX0_init_9 fd_X0_9 (ga_ hk) rfl (by omega) (fun _ => rfl) (fun _ => rfl) ?_
  refine a_aload_n (pc := 12) (x := k) dX0_init_12 rfl ?_
  refine a_bipush (pc := 13) (v := (16 : Int32)) dX0_init_13 (by decide) ?_
  refine a_newarr_ (pc := 15) (n := n + 1) (t := 0) (k := 16) (by decide) rfl dX0_init_15 w_66 (by decide) (by decide) (by decide) (la_ hn) (RLm_F (RLm.more hR (Nat.le_succ _)) (by omega)) (Fr0_F (Fr0.more hF (Nat.le_succ _)) (by omega)) (by omega) (by omega) (by intro v hv; simp only [List.mem_cons, List.not_mem_nil, or_false] at hv; rcases hv with rfl <;> first | exact refN_int | exact refN_ref (by omega)) (by intro v hv; simp only [List.mem_cons, List.not_mem_nil, or_false] at hv; rcases hv with rfl <;> first | exact refN_int | exact refN_ref (by omega)) (by decide) (by decide) ?_
  refine a_putR (pc := 17) dX0_init_17 fd_X0_15 (ga_ (ga_ hk)) rfl (by omega) (fun _ => rfl) (fun _ => rfl) ?_
  refine a_aload_n (pc := 20) (x := k) dX0_init_20 rfl ?_
  refine a_sipush (pc := 21) (v := (256 : Int32)) dX0_init_21 (by decide) ?_
  refine a_newarr_ (pc := 24) (n := n + 2) (t := 0) (k := 256) (by decide) rfl dX0_init_24 w_66 (by decide) (by decide) (by decide) (la_ (la_ hn)) (RLm_F (RLm.more (RLm_F (RLm.more hR (Nat.le_succ _)) (by omega)) (Nat.le_succ _)) (by omega)) (Fr0_F (Fr0.more (Fr0_F (Fr0.more hF (Nat.le_succ _)) (by omega)) (Nat.le_succ _)) (by omega)) (by omega) (by omega) (by intro v hv; simp only [List.mem_cons, List.not_mem_nil, or_false] at hv; rcases hv with rfl <;> first | exact refN_int | exact refN_ref (by omega)) (by intro v hv; simp only [List.mem_cons, List.not_mem_nil, or_false] at hv; rcases hv with rfl <;> first | exact refN_int | exact refN_ref (by omega)) (by decide) (by decide) ?_
  refine a_putR (pc := 26) dX0_init_26 fd_X0_18 (ga_ (ga_ (ga_ hk))) rfl (by omega) (fun _ => rfl) (fun _ => rfl) ?_
  refine a_aload_n (pc := 29) (x := k) dX0_init_29 rfl ?_
  refine a_iconst (pc := 30) (v := (0 : Int32)) dX0_init_30 (by decide) ?_
  refine a_putI (pc := 31) dX0_init_31 fd_X0_21 (ga_ (ga_ (ga_ hk))) rfl rfl rfl ?_
  exact a_vret (pc := 34) dX0_init_34
theorem dX1_init_0 : decode cX1_init 0 = .ok (.aload_n 0, 1) := by decide +kernel
theorem dX1_init_1 : decode cX1_init 1 = .ok (.invokespecial 3, 3) := by decide +kernel
theorem dX1_init_4 : decode cX1_init 4 = .ok (.aload_n 0, 1) := by decide +kernel
theorem dX1_init_5 : decode cX1_init 5 = .ok (.sipush 400, 3) := by decide +kernel
theorem dX1_init_8 : decode cX1_init 8 = .ok (.newarray .int, 2) := by decide +kernel
theorem dX1_init_10 : decode cX1_init 10 = .ok (.putfield 9, 3) := by decide +kernel
theorem dX1_init_13 : decode cX1_init 13 = .ok (.aload_n 0, 1) := by decide +kernel
theorem dX1_init_14 : decode cX1_init 14 = .ok (.iconst 4, 1) := by decide +kernel
theorem dX1_init_15 : decode cX1_init 15 = .ok (.newarray .int, 2) := by decide +kernel
theorem dX1_init_17 : decode cX1_init 17 = .ok (.putfield 15, 3) := by decide +kernel
theorem dX1_init_20 : decode cX1_init 20 = .ok (.aload_n 0, 1) := by decide +kernel
theorem dX1_init_21 : decode cX1_init 21 = .ok (.iconst 4, 1) := by decide +kernel
theorem dX1_init_22 : decode cX1_init 22 = .ok (.newarray .int, 2) := by decide +kernel
theorem dX1_init_24 : decode cX1_init 24 = .ok (.putfield 18, 3) := by decide +kernel
theorem dX1_init_27 : decode cX1_init 27 = .ok (.aload_n 0, 1) := by decide +kernel
theorem dX1_init_28 : decode cX1_init 28 = .ok (.bipush 9, 2) := by decide +kernel
theorem dX1_init_30 : decode cX1_init 30 = .ok (.newarray .int, 2) := by decide +kernel
theorem dX1_init_32 : decode cX1_init 32 = .ok (.putfield 21, 3) := by decide +kernel
theorem dX1_init_35 : decode cX1_init 35 = .ok (.aload_n 0, 1) := by decide +kernel
theorem dX1_init_36 : decode cX1_init 36 = .ok (.bipush 32, 2) := by decide +kernel
theorem dX1_init_38 : decode cX1_init 38 = .ok (.newarray .int, 2) := by decide +kernel
theorem dX1_init_40 : decode cX1_init 40 = .ok (.putfield 24, 3) := by decide +kernel
theorem dX1_init_43 : decode cX1_init 43 = .ok (.aload_n 0, 1) := by decide +kernel
theorem dX1_init_44 : decode cX1_init 44 = .ok (.iconst 0, 1) := by decide +kernel
theorem dX1_init_45 : decode cX1_init 45 = .ok (.putfield 27, 3) := by decide +kernel
theorem dX1_init_48 : decode cX1_init 48 = .ok (.aload_n 0, 1) := by decide +kernel
theorem dX1_init_49 : decode cX1_init 49 = .ok (.iconst 0, 1) := by decide +kernel
theorem dX1_init_50 : decode cX1_init 50 = .ok (.putfield 31, 3) := by decide +kernel
theorem dX1_init_53 : decode cX1_init 53 = .ok (.aload_n 0, 1) := by decide +kernel
theorem dX1_init_54 : decode cX1_init 54 = .ok (.iconst 0, 1) := by decide +kernel
theorem dX1_init_55 : decode cX1_init 55 = .ok (.putfield 34, 3) := by decide +kernel
theorem dX1_init_58 : decode cX1_init 58 = .ok (.aload_n 0, 1) := by decide +kernel
theorem dX1_init_59 : decode cX1_init 59 = .ok (.iconst (-1), 1) := by decide +kernel
theorem dX1_init_60 : decode cX1_init 60 = .ok (.putfield 38, 3) := by decide +kernel
theorem dX1_init_63 : decode cX1_init 63 = .ok (.aload_n 0, 1) := by decide +kernel
theorem dX1_init_64 : decode cX1_init 64 = .ok (.iconst (-1), 1) := by decide +kernel
theorem dX1_init_65 : decode cX1_init 65 = .ok (.putfield 41, 3) := by decide +kernel
theorem dX1_init_68 : decode cX1_init 68 = .ok (.aload_n 0, 1) := by decide +kernel
theorem dX1_init_69 : decode cX1_init 69 = .ok (.iconst (-1), 1) := by decide +kernel
theorem dX1_init_70 : decode cX1_init 70 = .ok (.putfield 44, 3) := by decide +kernel
theorem dX1_init_73 : decode cX1_init 73 = .ok (.aload_n 0, 1) := by decide +kernel
theorem dX1_init_74 : decode cX1_init 74 = .ok (.iconst 0, 1) := by decide +kernel
theorem dX1_init_75 : decode cX1_init 75 = .ok (.putfield 47, 3) := by decide +kernel
theorem dX1_init_78 : decode cX1_init 78 = .ok (.aload_n 0, 1) := by decide +kernel
theorem dX1_init_79 : decode cX1_init 79 = .ok (.iconst 0, 1) := by decide +kernel
theorem dX1_init_80 : decode cX1_init 80 = .ok (.putfield 50, 3) := by decide +kernel
theorem dX1_init_83 : decode cX1_init 83 = .ok (.return_, 1) := by decide +kernel
theorem w_79 : (Jvm.Cond.methodLink "StiltTown$Laws" (3 : Nat) ({ cls := "java/lang/Object", name := "<init>", desc := "()V" } : Jvm.MethodName)) ∈ bigW := tp_1 (List.mem_of_getElem? (i := 79) rfl) rfl
theorem oi_X1_3 : OI RX1 3 := ⟨w_79, w_27, w_28⟩
theorem fd_X1_9 : FD RX1 9 1 0 (.array .int) true := ⟨RX1, TX1, 13, tyX1, rfl, by decide, iX1, tyX1_ok, nmX1, w_80, rfl, rfl, rfl⟩
theorem fd_X1_15 : FD RX1 15 1 1 (.array .int) true := ⟨RX1, TX1, 13, tyX1, rfl, by decide, iX1, tyX1_ok, nmX1, w_81, rfl, rfl, rfl⟩
theorem fd_X1_18 : FD RX1 18 1 2 (.array .int) true := ⟨RX1, TX1, 13, tyX1, rfl, by decide, iX1, tyX1_ok, nmX1, w_83, rfl, rfl, rfl⟩
theorem fd_X1_21 : FD RX1 21 1 3 (.array .int) true := ⟨RX1, TX1, 13, tyX1, rfl, by decide, iX1, tyX1_ok, nmX1, w_85, rfl, rfl, rfl⟩
theorem fd_X1_24 : FD RX1 24 1 4 (.array .int) true := ⟨RX1, TX1, 13, tyX1, rfl, by decide, iX1, tyX1_ok, nmX1, w_86, rfl, rfl, rfl⟩
theorem fd_X1_27 : FD RX1 27 1 5 (.int) false := ⟨RX1, TX1, 13, tyX1, rfl, by decide, iX1, tyX1_ok, nmX1, w_87, rfl, rfl, rfl⟩
theorem fd_X1_31 : FD RX1 31 1 6 (.int) false := ⟨RX1, TX1, 13, tyX1, rfl, by decide, iX1, tyX1_ok, nmX1, w_89, rfl, rfl, rfl⟩
theorem fd_X1_34 : FD RX1 34 1 7 (.boolean) false := ⟨RX1, TX1, 13, tyX1, rfl, by decide, iX1, tyX1_ok, nmX1, w_90, rfl, rfl, rfl⟩
theorem fd_X1_38 : FD RX1 38 1 8 (.int) false := ⟨RX1, TX1, 13, tyX1, rfl, by decide, iX1, tyX1_ok, nmX1, w_91, rfl, rfl, rfl⟩
theorem fd_X1_41 : FD RX1 41 1 9 (.int) false := ⟨RX1, TX1, 13, tyX1, rfl, by decide, iX1, tyX1_ok, nmX1, w_93, rfl, rfl, rfl⟩
theorem fd_X1_44 : FD RX1 44 1 10 (.int) false := ⟨RX1, TX1, 13, tyX1, rfl, by decide, iX1, tyX1_ok, nmX1, w_95, rfl, rfl, rfl⟩
theorem fd_X1_47 : FD RX1 47 1 11 (.int) false := ⟨RX1, TX1, 13, tyX1, rfl, by decide, iX1, tyX1_ok, nmX1, w_97, rfl, rfl, rfl⟩
theorem fd_X1_50 : FD RX1 50 1 12 (.int) false := ⟨RX1, TX1, 13, tyX1, rfl, by decide, iX1, tyX1_ok, nmX1, w_101, rfl, rfl, rfl⟩
def tS_X1 (S : List SHP) : List SHP := S ++ [.inl (0, 400, 0, 0)] ++ [.inl (0, 4, 0, 0)] ++ [.inl (0, 4, 0, 0)] ++ [.inl (0, 9, 0, 0)] ++ [.inl (0, 32, 0, 0)]
def tm_X1 (mm : MM) (k n : Nat) : MM := wI (wI (wI (wI (wI (wI (wI (wI (wRf (wRf (wRf (wRf (wRf (mm) (k) 0 (n)) (k) 1 (n + 1)) (k) 2 (n + 2)) (k) 3 (n + 3)) (k) 4 (n + 4)) (k) 5 (0 : Int32)) (k) 6 (0 : Int32)) (k) 7 (0 : Int32)) (k) 8 (-1 : Int32)) (k) 9 (-1 : Int32)) (k) 10 (-1 : Int32)) (k) 11 (0 : Int32)) (k) 12 (0 : Int32)
theorem tg_X1 {S : List SHP} {k : Nat} {s : SHP} (hk : S[k]? = some s) : (tS_X1 S)[k]? = some s := (ga_ (ga_ (ga_ (ga_ (ga_ hk)))))
theorem tl_X1 {S : List SHP} {n : Nat} (hn : S.length = n) : (tS_X1 S).length = n + 5 := (la_ (la_ (la_ (la_ (la_ hn)))))
theorem tr_X1 {mm : MM} {k n : Nat} (hR : RLm mm n) (h0 : k < n) : RLm (tm_X1 mm k n) (n + 5) := (RLm_F (RLm.more (RLm_F (RLm.more (RLm_F (RLm.more (RLm_F (RLm.more (RLm_F (RLm.more hR (Nat.le_succ _)) (by omega)) (Nat.le_succ _)) (by omega)) (Nat.le_succ _)) (by omega)) (Nat.le_succ _)) (by omega)) (Nat.le_succ _)) (by omega))
theorem tf_X1 {mm : MM} {k n : Nat} (hF : Fr0 mm n) (h0 : k < n) : Fr0 (tm_X1 mm k n) (n + 5) := (Fr0_I (Fr0_I (Fr0_I (Fr0_I (Fr0_I (Fr0_I (Fr0_I (Fr0_I (Fr0_F (Fr0.more (Fr0_F (Fr0.more (Fr0_F (Fr0.more (Fr0_F (Fr0.more (Fr0_F (Fr0.more hF (Nat.le_succ _)) (by omega)) (Nat.le_succ _)) (by omega)) (Nat.le_succ _)) (by omega)) (Nat.le_succ _)) (by omega)) (Nat.le_succ _)) (by omega)) (by omega)) (by omega)) (by omega)) (by omega)) (by omega)) (by omega)) (by omega)) (by omega))
theorem rc_X1 {S : List SHP} {mm : MM} {k n : Nat} (hk : S[k]? = some (.inr (1, svX1))) (hn : S.length = n) (hR : RLm mm n) (hF : Fr0 mm n) (hz : 0 < n) (h0 : k < n) (h9 : n + 5 < 1000) : RunsA e_X1_init 5 449 S (tS_X1 S) mm (tm_X1 mm k n) k := by
  refine runsA_of pl_X1 (Nat.le_of_ble_eq_true rfl) rfl rfl ?_
  refine a_aload_n (pc := 0) (x := k) dX1_init_0 rfl ?_
  refine a_obj (pc := 1) dX1_init_1 oi_X1_3 (by decide) (Nat.le_of_ble_eq_true rfl) ?_
  refine a_aload_n (pc := 4) (x := k) dX1_init_4 rfl ?_
  refine a_sipush (pc := 5) (v := (400 : Int32)) dX1_init_5 (by decide) ?_
  refine a_newarr_ (pc := 8) (n := n) (t := 0) (k := 400) (by decide) rfl dX1_init_8 w_66 (by decide) (by decide) (by decide) hn hR hF (by omega) (by omega) (by intro v hv; simp only [List.mem_cons, List.not_mem_nil, or_false] at hv; rcases hv with rfl <;> first | exact refN_int | exact refN_ref (by omega)) (by intro v hv; simp only [List.mem_cons, List.not_mem_nil, or_false] at hv; rcases hv with rfl <;> first | exact refN_int | exact refN_ref (by omega)) (by decide) (by decide) ?_
  refine a_putR (pc := 10) dX1_init_10 fd_X1_9 (ga_ hk) rfl (by omega) (fun _ => rfl) (fun _ => rfl) ?_
  refine a_aload_n (pc := 13) (x := k) dX1_init_13 rfl ?_
  refine a_iconst (pc := 14) (v := (4 : Int32)) dX1_init_14 (by decide) ?_
  refine a_newarr_ (pc := 15) (n := n + 1) (t := 0) (k := 4) (by decide) rfl dX1_init_15 w_66 (by decide) (by decide) (by decide) (la_ hn) (RLm_F (RLm.more hR (Nat.le_succ _)) (by omega)) (Fr0_F (Fr0.more hF (Nat.le_succ _)) (by omega)) (by omega) (by omega) (by intro v hv; simp only [List.mem_cons, List.not_mem_nil, or_false] at hv; rcases hv with rfl <;> first | exact refN_int | exact refN_ref (by omega)) (by intro v hv; simp only [List.mem_cons, List.not_mem_nil, or_false] at hv; rcases hv with rfl <;> first | exact refN_int | exact refN_ref (by omega)) (by decide) (by decide) ?_
  refine a_putR (pc := 17) dX1_init_17 fd_X1_15 (ga_ (ga_ hk)) rfl (by omega) (fun _ => rfl) (fun _ => rfl) ?_
  refine a_aload_n (pc := 20) (x := k) dX1_init_20 rfl ?_
  refine a_iconst (pc := 21) (v := (4 : Int32)) dX1_init_21 (by decide) ?_
  refine a_newarr_ (pc := 22) (n := n + 2) (t := 0) (k := 4) (by decide) rfl dX1_init_22 w_66 (by decide) (by decide) (by decide) (la_ (la_ hn)) (RLm_F (RLm.more (RLm_F (RLm.more hR (Nat.le_succ _)) (by omega)) (Nat.le_succ _)) (by omega)) (Fr0_F (Fr0.more (Fr0_F (Fr0.more hF (Nat.le_succ _)) (by omega)) (Nat.le_succ _)) (by omega)) (by omega) (by omega) (by intro v hv; simp only [List.mem_cons, List.not_mem_nil, or_false] at hv; rcases hv with rfl <;> first | exact refN_int | exact refN_ref (by omega)) (by intro v hv; simp only [List.mem_cons, List.not_mem_nil, or_false] at hv; rcases hv with rfl <;> first | exact refN_int | exact refN_ref (by omega)) (by decide) (by decide) ?_
  refine a_putR (pc := 24) dX1_init_24 fd_X1_18 (ga_ (ga_ (ga_ hk))) rfl (by omega) (fun _ => rfl) (fun _ => rfl) ?_
  refine a_aload_n (pc := 27) (x := k) dX1_init_27 rfl ?_
  refine a_bipush (pc := 28) (v := (9 : Int32)) dX1_init_28 (by decide) ?_
  refine a_newarr_ (pc := 30) (n := n + 3) (t := 0) (k := 9) (by decide) rfl dX1_init_30 w_66 (by decide) (by decide) (by decide) (la_ (la_ (la_ hn))) (RLm_F (RLm.more (RLm_F (RLm.more (RLm_F (RLm.more hR (Nat.le_succ _)) (by omega)) (Nat.le_succ _)) (by omega)) (Nat.le_succ _)) (by omega)) (Fr0_F (Fr0.more (Fr0_F (Fr0.more (Fr0_F (Fr0.more hF (Nat.le_succ _)) (by omega)) (Nat.le_succ _)) (by omega)) (Nat.le_succ _)) (by omega)) (by omega) (by omega) (by intro v hv; simp only [List.mem_cons, List.not_mem_nil, or_false] at hv; rcases hv with rfl <;> first | exact refN_int | exact refN_ref (by omega)) (by intro v hv; simp only [List.mem_cons, List.not_mem_nil, or_false] at hv; rcases hv with rfl <;> first | exact refN_int | exact refN_ref (by omega)) (by decide) (by decide) ?_
  refine a_putR (pc := 32) dX1_init_32 fd_X1_21 (ga_ (ga_ (ga_ (ga_ hk)))) rfl (by omega) (fun _ => rfl) (fun _ => rfl) ?_
  refine a_aload_n (pc := 35) (x := k) dX1_init_35 rfl ?_
  refine a_bipush (pc := 36) (v := (32 : Int32)) dX1_init_36 (by decide) ?_
  refine a_newarr_ (pc := 38) (n := n + 4) (t := 0) (k := 32) (by decide) rfl dX1_init_38 w_66 (by decide) (by decide) (by decide) (la_ (la_ (la_ (la_ hn)))) (RLm_F (RLm.more (RLm_F (RLm.more (RLm_F (RLm.more (RLm_F (RLm.more hR (Nat.le_succ _)) (by omega)) (Nat.le_succ _)) (by omega)) (Nat.le_succ _)) (by omega)) (Nat.le_succ _)) (by omega)) (Fr0_F (Fr0.more (Fr0_F (Fr0.more (Fr0_F (Fr0.more (Fr0_F (Fr0.more hF (Nat.le_succ _)) (by omega)) (Nat.le_succ _)) (by omega)) (Nat.le_succ _)) (by omega)) (Nat.le_succ _)) (by omega)) (by omega) (by omega) (by intro v hv; simp only [List.mem_cons, List.not_mem_nil, or_false] at hv; rcases hv with rfl <;> first | exact refN_int | exact refN_ref (by omega)) (by intro v hv; simp only [List.mem_cons, List.not_mem_nil, or_false] at hv; rcases hv with rfl <;> first | exact refN_int | exact refN_ref (by omega)) (by decide) (by decide) ?_
  refine a_putR (pc := 40) dX1_init_40 fd_X1_24 (ga_ (ga_ (ga_ (ga_ (ga_ hk))))) rfl (by omega) (fun _ => rfl) (fun _ => rfl) ?_
  refine a_aload_n (pc := 43) (x := k) dX1_init_43 rfl ?_
  refine a_iconst (pc := 44) (v := (0 : Int32)) dX1_init_44 (by decide) ?_
  refine a_putI (pc := 45) dX1_init_45 fd_X1_27 (ga_ (ga_ (ga_ (ga_ (ga_ hk))))) rfl rfl rfl ?_
  refine a_aload_n (pc := 48) (x := k) dX1_init_48 rfl ?_
  refine a_iconst (pc := 49) (v := (0 : Int32)) dX1_init_49 (by decide) ?_
  refine a_putI (pc := 50) dX1_init_50 fd_X1_31 (ga_ (ga_ (ga_ (ga_ (ga_ hk))))) rfl rfl rfl ?_
  refine a_aload_n (pc := 53) (x := k) dX1_init_53 rfl ?_
  refine a_iconst (pc := 54) (v := (0 : Int32)) dX1_init_54 (by decide) ?_
  refine a_putI (pc := 55) dX1_init_55 fd_X1_34 (ga_ (ga_ (ga_ (ga_ (ga_ hk))))) rfl rfl rfl ?_
  refine a_aload_n (pc := 58) (x := k) dX1_init_58 rfl ?_
  refine a_iconst (pc := 59) (v := (-1 : Int32)) dX1_init_59 (by decide) ?_
  refine a_putI (pc := 60) dX1_init_60 fd_X1_38 (ga_ (ga_ (ga_ (ga_ (ga_ hk))))) rfl rfl rfl ?_
  refine a_aload_n (pc := 63) (x := k) dX1_init_63 rfl ?_
  refine a_iconst (pc := 64) (v := (-1 : Int32)) dX1_init_64 (by decide) ?_
  refine a_putI (pc := 65) dX1_init_65 fd_X1_41 (ga_ (ga_ (ga_ (ga_ (ga_ hk))))) rfl rfl rfl ?_
  refine a_aload_n (pc := 68) (x := k) dX1_init_68 rfl ?_
  refine a_iconst (pc := 69) (v := (-1 : Int32)) dX1_init_69 (by decide) ?_
  refine a_putI (pc := 70) dX1_init_70 fd_X1_44 (ga_ (ga_ (ga_ (ga_ (ga_ hk))))) rfl rfl rfl ?_
  refine a_aload_n (pc := 73) (x := k) dX1_init_73 rfl ?_
  refine a_iconst (pc := 74) (v := (0 : Int32)) dX1_init_74 (by decide) ?_
  refine a_putI (pc := 75) dX1_init_75 fd_X1_47 (ga_ (ga_ (ga_ (ga_ (ga_ hk))))) rfl rfl rfl ?_
  refine a_aload_n (pc := 78) (x := k) dX1_init_78 rfl ?_
  refine a_iconst (pc := 79) (v := (0 : Int32)) dX1_init_79 (by decide) ?_
  refine a_putI (pc := 80) dX1_init_80 fd_X1_50 (ga_ (ga_ (ga_ (ga_ (ga_ hk))))) rfl rfl rfl ?_
  exact a_vret (pc := 83) dX1_init_83
theorem dX2_init_0 : decode cX2_init 0 = .ok (.aload_n 0, 1) := by decide +kernel
theorem dX2_init_1 : decode cX2_init 1 = .ok (.invokespecial 3, 3) := by decide +kernel
theorem dX2_init_4 : decode cX2_init 4 = .ok (.aload_n 0, 1) := by decide +kernel
theorem dX2_init_5 : decode cX2_init 5 = .ok (.bipush 60, 2) := by decide +kernel
theorem dX2_init_7 : decode cX2_init 7 = .ok (.newarray .int, 2) := by decide +kernel
theorem dX2_init_9 : decode cX2_init 9 = .ok (.putfield 9, 3) := by decide +kernel
theorem dX2_init_12 : decode cX2_init 12 = .ok (.aload_n 0, 1) := by decide +kernel
theorem dX2_init_13 : decode cX2_init 13 = .ok (.bipush 60, 2) := by decide +kernel
theorem dX2_init_15 : decode cX2_init 15 = .ok (.newarray .int, 2) := by decide +kernel
theorem dX2_init_17 : decode cX2_init 17 = .ok (.putfield 15, 3) := by decide +kernel
theorem dX2_init_20 : decode cX2_init 20 = .ok (.aload_n 0, 1) := by decide +kernel
theorem dX2_init_21 : decode cX2_init 21 = .ok (.bipush 60, 2) := by decide +kernel
theorem dX2_init_23 : decode cX2_init 23 = .ok (.newarray .int, 2) := by decide +kernel
theorem dX2_init_25 : decode cX2_init 25 = .ok (.putfield 18, 3) := by decide +kernel
theorem dX2_init_28 : decode cX2_init 28 = .ok (.aload_n 0, 1) := by decide +kernel
theorem dX2_init_29 : decode cX2_init 29 = .ok (.bipush 60, 2) := by decide +kernel
theorem dX2_init_31 : decode cX2_init 31 = .ok (.newarray .int, 2) := by decide +kernel
theorem dX2_init_33 : decode cX2_init 33 = .ok (.putfield 21, 3) := by decide +kernel
theorem dX2_init_36 : decode cX2_init 36 = .ok (.aload_n 0, 1) := by decide +kernel
theorem dX2_init_37 : decode cX2_init 37 = .ok (.bipush 60, 2) := by decide +kernel
theorem dX2_init_39 : decode cX2_init 39 = .ok (.newarray .boolean, 2) := by decide +kernel
theorem dX2_init_41 : decode cX2_init 41 = .ok (.putfield 24, 3) := by decide +kernel
theorem dX2_init_44 : decode cX2_init 44 = .ok (.aload_n 0, 1) := by decide +kernel
theorem dX2_init_45 : decode cX2_init 45 = .ok (.bipush 16, 2) := by decide +kernel
theorem dX2_init_47 : decode cX2_init 47 = .ok (.newarray .int, 2) := by decide +kernel
theorem dX2_init_49 : decode cX2_init 49 = .ok (.putfield 28, 3) := by decide +kernel
theorem dX2_init_52 : decode cX2_init 52 = .ok (.aload_n 0, 1) := by decide +kernel
theorem dX2_init_53 : decode cX2_init 53 = .ok (.iconst 0, 1) := by decide +kernel
theorem dX2_init_54 : decode cX2_init 54 = .ok (.putfield 31, 3) := by decide +kernel
theorem dX2_init_57 : decode cX2_init 57 = .ok (.return_, 1) := by decide +kernel
theorem w_227 : (Jvm.Cond.methodLink "StiltTown$Logs" (3 : Nat) ({ cls := "java/lang/Object", name := "<init>", desc := "()V" } : Jvm.MethodName)) ∈ bigW := tp_1 (List.mem_of_getElem? (i := 227) rfl) rfl
theorem oi_X2_3 : OI RX2 3 := ⟨w_227, w_27, w_28⟩
theorem fd_X2_9 : FD RX2 9 2 0 (.array .int) true := ⟨RX2, TX2, 7, tyX2, rfl, by decide, iX2, tyX2_ok, nmX2, w_228, rfl, rfl, rfl⟩
theorem fd_X2_15 : FD RX2 15 2 1 (.array .int) true := ⟨RX2, TX2, 7, tyX2, rfl, by decide, iX2, tyX2_ok, nmX2, w_229, rfl, rfl, rfl⟩
theorem fd_X2_18 : FD RX2 18 2 2 (.array .int) true := ⟨RX2, TX2, 7, tyX2, rfl, by decide, iX2, tyX2_ok, nmX2, w_230, rfl, rfl, rfl⟩
theorem fd_X2_21 : FD RX2 21 2 3 (.array .int) true := ⟨RX2, TX2, 7, tyX2, rfl, by decide, iX2, tyX2_ok, nmX2, w_231, rfl, rfl, rfl⟩
theorem w_253 : (Jvm.Cond.arrayClass Jvm.ClassFile.FieldType.boolean) ∈ bigW := tp_2 (List.mem_of_getElem? (i := 13) rfl) rfl
theorem fd_X2_24 : FD RX2 24 2 4 (.array .boolean) true := ⟨RX2, TX2, 7, tyX2, rfl, by decide, iX2, tyX2_ok, nmX2, w_232, rfl, rfl, rfl⟩
theorem fd_X2_28 : FD RX2 28 2 5 (.array .int) true := ⟨RX2, TX2, 7, tyX2, rfl, by decide, iX2, tyX2_ok, nmX2, w_233, rfl, rfl, rfl⟩
theorem fd_X2_31 : FD RX2 31 2 6 (.int) false := ⟨RX2, TX2, 7, tyX2, rfl, by decide, iX2, tyX2_ok, nmX2, w_235, rfl, rfl, rfl⟩
def tS_X2 (S : List SHP) : List SHP := S ++ [.inl (0, 60, 0, 0)] ++ [.inl (0, 60, 0, 0)] ++ [.inl (0, 60, 0, 0)] ++ [.inl (0, 60, 0, 0)] ++ [.inl (2, 60, 0, 0)] ++ [.inl (0, 16, 0, 0)]
def tm_X2 (mm : MM) (k n : Nat) : MM := wI (wRf (wRf (wRf (wRf (wRf (wRf (mm) (k) 0 (n)) (k) 1 (n + 1)) (k) 2 (n + 2)) (k) 3 (n + 3)) (k) 4 (n + 4)) (k) 5 (n + 5)) (k) 6 (0 : Int32)
theorem tg_X2 {S : List SHP} {k : Nat} {s : SHP} (hk : S[k]? = some s) : (tS_X2 S)[k]? = some s := (ga_ (ga_ (ga_ (ga_ (ga_ (ga_ hk))))))
theorem tl_X2 {S : List SHP} {n : Nat} (hn : S.length = n) : (tS_X2 S).length = n + 6 := (la_ (la_ (la_ (la_ (la_ (la_ hn))))))
theorem tr_X2 {mm : MM} {k n : Nat} (hR : RLm mm n) (h0 : k < n) : RLm (tm_X2 mm k n) (n + 6) := (RLm_F (RLm.more (RLm_F (RLm.more (RLm_F (RLm.more (RLm_F (RLm.more (RLm_F (RLm.more (RLm_F (RLm.more hR (Nat.le_succ _)) (by omega)) (Nat.le_succ _)) (by omega)) (Nat.le_succ _)) (by omega)) (Nat.le_succ _)) (by omega)) (Nat.le_succ _)) (by omega)) (Nat.le_succ _)) (by omega))
theorem tf_X2 {mm : MM} {k n : Nat} (hF : Fr0 mm n) (h0 : k < n) : Fr0 (tm_X2 mm k n) (n + 6) := (Fr0_I (Fr0_F (Fr0.more (Fr0_F (Fr0.more (Fr0_F (Fr0.more (Fr0_F (Fr0.more (Fr0_F (Fr0.more (Fr0_F (Fr0.more hF (Nat.le_succ _)) (by omega)) (Nat.le_succ _)) (by omega)) (Nat.le_succ _)) (by omega)) (Nat.le_succ _)) (by omega)) (Nat.le_succ _)) (by omega)) (Nat.le_succ _)) (by omega)) (by omega))
theorem rc_X2 {S : List SHP} {mm : MM} {k n : Nat} (hk : S[k]? = some (.inr (2, svX2))) (hn : S.length = n) (hR : RLm mm n) (hF : Fr0 mm n) (hz : 0 < n) (h0 : k < n) (h9 : n + 6 < 1000) : RunsA e_X2_init 6 316 S (tS_X2 S) mm (tm_X2 mm k n) k := by
  refine runsA_of pl_X2 (Nat.le_of_ble_eq_true rfl) rfl rfl ?_
  refine a_aload_n (pc := 0) (x := k) dX2_init_0 rfl ?_
  refine a_obj (pc := 1) dX2_init_1 oi_X2_3 (by decide) (Nat.le_of_ble_eq_true rfl) ?_
  refine a_aload_n (pc := 4) (x := k) dX2_init_4 rfl ?_
  refine a_bipush (pc := 5) (v := (60 : Int32)) dX2_init_5 (by decide) ?_
  refine a_newarr_ (pc := 7) (n := n) (t := 0) (k := 60) (by decide) rfl dX2_init_7 w_66 (by decide) (by decide) (by decide) hn hR hF (by omega) (by omega) (by intro v hv; simp only [List.mem_cons, List.not_mem_nil, or_false] at hv; rcases hv with rfl <;> first | exact refN_int | exact refN_ref (by omega)) (by intro v hv; simp only [List.mem_cons, List.not_mem_nil, or_false] at hv; rcases hv with rfl <;> first | exact refN_int | exact refN_ref (by omega)) (by decide) (by decide) ?_
  refine a_putR (pc := 9) dX2_init_9 fd_X2_9 (ga_ hk) rfl (by omega) (fun _ => rfl) (fun _ => rfl) ?_
  refine a_aload_n (pc := 12) (x := k) dX2_init_12 rfl ?_
  refine a_bipush (pc := 13) (v := (60 : Int32)) dX2_init_13 (by decide) ?_
  refine a_newarr_ (pc := 15) (n := n + 1) (t := 0) (k := 60) (by decide) rfl dX2_init_15 w_66 (by decide) (by decide) (by decide) (la_ hn) (RLm_F (RLm.more hR (Nat.le_succ _)) (by omega)) (Fr0_F (Fr0.more hF (Nat.le_succ _)) (by omega)) (by omega) (by omega) (by intro v hv; simp only [List.mem_cons, List.not_mem_nil, or_false] at hv; rcases hv with rfl <;> first | exact refN_int | exact refN_ref (by omega)) (by intro v hv; simp only [List.mem_cons, List.not_mem_nil, or_false] at hv; rcases hv with rfl <;> first | exact refN_int | exact refN_ref (by omega)) (by decide) (by decide) ?_
  refine a_putR (pc := 17) dX2_init_17 fd_X2_15 (ga_ (ga_ hk)) rfl (by omega) (fun _ => rfl) (fun _ => rfl) ?_
  refine a_aload_n (pc := 20) (x := k) dX2_init_20 rfl ?_
  refine a_bipush (pc := 21) (v := (60 : Int32)) dX2_init_21 (by decide) ?_
  refine a_newarr_ (pc := 23) (n := n + 2) (t := 0) (k := 60) (by decide) rfl dX2_init_23 w_66 (by decide) (by decide) (by decide) (la_ (la_ hn)) (RLm_F (RLm.more (RLm_F (RLm.more hR (Nat.le_succ _)) (by omega)) (Nat.le_succ _)) (by omega)) (Fr0_F (Fr0.more (Fr0_F (Fr0.more hF (Nat.le_succ _)) (by omega)) (Nat.le_succ _)) (by omega)) (by omega) (by omega) (by intro v hv; simp only [List.mem_cons, List.not_mem_nil, or_false] at hv; rcases hv with rfl <;> first | exact refN_int | exact refN_ref (by omega)) (by intro v hv; simp only [List.mem_cons, List.not_mem_nil, or_false] at hv; rcases hv with rfl <;> first | exact refN_int | exact refN_ref (by omega)) (by decide) (by decide) ?_
  refine a_putR (pc := 25) dX2_init_25 fd_X2_18 (ga_ (ga_ (ga_ hk))) rfl (by omega) (fun _ => rfl) (fun _ => rfl) ?_
  refine a_aload_n (pc := 28) (x := k) dX2_init_28 rfl ?_
  refine a_bipush (pc := 29) (v := (60 : Int32)) dX2_init_29 (by decide) ?_
  refine a_newarr_ (pc := 31) (n := n + 3) (t := 0) (k := 60) (by decide) rfl dX2_init_31 w_66 (by decide) (by decide) (by decide) (la_ (la_ (la_ hn))) (RLm_F (RLm.more (RLm_F (RLm.more (RLm_F (RLm.more hR (Nat.le_succ _)) (by omega)) (Nat.le_succ _)) (by omega)) (Nat.le_succ _)) (by omega)) (Fr0_F (Fr0.more (Fr0_F (Fr0.more (Fr0_F (Fr0.more hF (Nat.le_succ _)) (by omega)) (Nat.le_succ _)) (by omega)) (Nat.le_succ _)) (by omega)) (by omega) (by omega) (by intro v hv; simp only [List.mem_cons, List.not_mem_nil, or_false] at hv; rcases hv with rfl <;> first | exact refN_int | exact refN_ref (by omega)) (by intro v hv; simp only [List.mem_cons, List.not_mem_nil, or_false] at hv; rcases hv with rfl <;> first | exact refN_int | exact refN_ref (by omega)) (by decide) (by decide) ?_
  refine a_putR (pc := 33) dX2_init_33 fd_X2_21 (ga_ (ga_ (ga_ (ga_ hk)))) rfl (by omega) (fun _ => rfl) (fun _ => rfl) ?_
  refine a_aload_n (pc := 36) (x := k) dX2_init_36 rfl ?_
  refine a_bipush (pc := 37) (v := (60 : Int32)) dX2_init_37 (by decide) ?_
  refine a_newarr_ (pc := 39) (n := n + 4) (t := 2) (k := 60) (by decide) rfl dX2_init_39 w_253 (by decide) (by decide) (by decide) (la_ (la_ (la_ (la_ hn)))) (RLm_F (RLm.more (RLm_F (RLm.more (RLm_F (RLm.more (RLm_F (RLm.more hR (Nat.le_succ _)) (by omega)) (Nat.le_succ _)) (by omega)) (Nat.le_succ _)) (by omega)) (Nat.le_succ _)) (by omega)) (Fr0_F (Fr0.more (Fr0_F (Fr0.more (Fr0_F (Fr0.more (Fr0_F (Fr0.more hF (Nat.le_succ _)) (by omega)) (Nat.le_succ _)) (by omega)) (Nat.le_succ _)) (by omega)) (Nat.le_succ _)) (by omega)) (by omega) (by omega) (by intro v hv; simp only [List.mem_cons, List.not_mem_nil, or_false] at hv; rcases hv with rfl <;> first | exact refN_int | exact refN_ref (by omega)) (by intro v hv; simp only [List.mem_cons, List.not_mem_nil, or_false] at hv; rcases hv with rfl <;> first | exact refN_int | exact refN_ref (by omega)) (by decide) (by decide) ?_
  refine a_putR (pc := 41) dX2_init_41 fd_X2_24 (ga_ (ga_ (ga_ (ga_ (ga_ hk))))) rfl (by omega) (fun _ => rfl) (fun _ => rfl) ?_
  refine a_aload_n (pc := 44) (x := k) dX2_init_44 rfl ?_
  refine a_bipush (pc := 45) (v := (16 : Int32)) dX2_init_45 (by decide) ?_
  refine a_newarr_ (pc := 47) (n := n + 5) (t := 0) (k := 16) (by decide) rfl dX2_init_47 w_66 (by decide) (by decide) (by decide) (la_ (la_ (la_ (la_ (la_ hn))))) (RLm_F (RLm.more (RLm_F (RLm.more (RLm_F (RLm.more (RLm_F (RLm.more (RLm_F (RLm.more hR (Nat.le_succ _)) (by omega)) (Nat.le_succ _)) (by omega)) (Nat.le_succ _)) (by omega)) (Nat.le_succ _)) (by omega)) (Nat.le_succ _)) (by omega)) (Fr0_F (Fr0.more (Fr0_F (Fr0.more (Fr0_F (Fr0.more (Fr0_F (Fr0.more (Fr0_F (Fr0.more hF (Nat.le_succ _)) (by omega)) (Nat.le_succ _)) (by omega)) (Nat.le_succ _)) (by omega)) (Nat.le_succ _)) (by omega)) (Nat.le_succ _)) (by omega)) (by omega) (by omega) (by intro v hv; simp only [List.mem_cons, List.not_mem_nil, or_false] at hv; rcases hv with rfl <;> first | exact refN_int | exact refN_ref (by omega)) (by intro v hv; simp only [List.mem_cons, List.not_mem_nil, or_false] at hv; rcases hv with rfl <;> first | exact refN_int | exact refN_ref (by omega)) (by decide) (by decide) ?_
  refine a_putR (pc := 49) dX2_init_49 fd_X2_28 (ga_ (ga_ (ga_ (ga_ (ga_ (ga_ hk)))))) rfl (by omega) (fun _ => rfl) (fun _ => rfl) ?_
  refine a_aload_n (pc := 52) (x := k) dX2_init_52 rfl ?_
  refine a_iconst (pc := 53) (v := (0 : Int32)) dX2_init_53 (by decide) ?_
  refine a_putI (pc := 54) dX2_init_54 fd_X2_31 (ga_ (ga_ (ga_ (ga_ (ga_ (ga_ hk)))))) rfl rfl rfl ?_
  exact a_vret (pc := 57) dX2_init_57
theorem dX3_init_0 : decode cX3_init 0 = .ok (.aload_n 0, 1) := by decide +kernel
theorem dX3_init_1 : decode cX3_init 1 = .ok (.invokespecial 3, 3) := by decide +kernel
theorem dX3_init_4 : decode cX3_init 4 = .ok (.aload_n 0, 1) := by decide +kernel
theorem dX3_init_5 : decode cX3_init 5 = .ok (.bipush 8, 2) := by decide +kernel
theorem dX3_init_7 : decode cX3_init 7 = .ok (.newarray .int, 2) := by decide +kernel
theorem dX3_init_9 : decode cX3_init 9 = .ok (.putfield 11, 3) := by decide +kernel
theorem dX3_init_12 : decode cX3_init 12 = .ok (.aload_n 0, 1) := by decide +kernel
theorem dX3_init_13 : decode cX3_init 13 = .ok (.bipush 16, 2) := by decide +kernel
theorem dX3_init_15 : decode cX3_init 15 = .ok (.newarray .int, 2) := by decide +kernel
theorem dX3_init_17 : decode cX3_init 17 = .ok (.putfield 15, 3) := by decide +kernel
theorem dX3_init_20 : decode cX3_init 20 = .ok (.aload_n 0, 1) := by decide +kernel
theorem dX3_init_21 : decode cX3_init 21 = .ok (.bipush 8, 2) := by decide +kernel
theorem dX3_init_23 : decode cX3_init 23 = .ok (.newarray .int, 2) := by decide +kernel
theorem dX3_init_25 : decode cX3_init 25 = .ok (.putfield 18, 3) := by decide +kernel
theorem dX3_init_28 : decode cX3_init 28 = .ok (.aload_n 0, 1) := by decide +kernel
theorem dX3_init_29 : decode cX3_init 29 = .ok (.sipush 256, 3) := by decide +kernel
theorem dX3_init_32 : decode cX3_init 32 = .ok (.newarray .int, 2) := by decide +kernel
theorem dX3_init_34 : decode cX3_init 34 = .ok (.putfield 21, 3) := by decide +kernel
theorem dX3_init_37 : decode cX3_init 37 = .ok (.aload_n 0, 1) := by decide +kernel
theorem dX3_init_38 : decode cX3_init 38 = .ok (.iconst 0, 1) := by decide +kernel
theorem dX3_init_39 : decode cX3_init 39 = .ok (.putfield 24, 3) := by decide +kernel
theorem dX3_init_42 : decode cX3_init 42 = .ok (.return_, 1) := by decide +kernel
theorem w_416 : (Jvm.Cond.methodLink "StiltTown$Nights" (3 : Nat) ({ cls := "java/lang/Object", name := "<init>", desc := "()V" } : Jvm.MethodName)) ∈ bigW := tp_2 (List.mem_of_getElem? (i := 176) rfl) rfl
theorem oi_X3_3 : OI RX3 3 := ⟨w_416, w_27, w_28⟩
theorem fd_X3_11 : FD RX3 11 3 0 (.array .int) true := ⟨RX3, TX3, 5, tyX3, rfl, by decide, iX3, tyX3_ok, nmX3, w_417, rfl, rfl, rfl⟩
theorem fd_X3_15 : FD RX3 15 3 1 (.array .int) true := ⟨RX3, TX3, 5, tyX3, rfl, by decide, iX3, tyX3_ok, nmX3, w_418, rfl, rfl, rfl⟩
theorem fd_X3_18 : FD RX3 18 3 2 (.array .int) true := ⟨RX3, TX3, 5, tyX3, rfl, by decide, iX3, tyX3_ok, nmX3, w_419, rfl, rfl, rfl⟩
theorem fd_X3_21 : FD RX3 21 3 3 (.array .int) true := ⟨RX3, TX3, 5, tyX3, rfl, by decide, iX3, tyX3_ok, nmX3, w_420, rfl, rfl, rfl⟩
theorem fd_X3_24 : FD RX3 24 3 4 (.int) false := ⟨RX3, TX3, 5, tyX3, rfl, by decide, iX3, tyX3_ok, nmX3, w_421, rfl, rfl, rfl⟩
def tS_X3 (S : List SHP) : List SHP := S ++ [.inl (0, 8, 0, 0)] ++ [.inl (0, 16, 0, 0)] ++ [.inl (0, 8, 0, 0)] ++ [.inl (0, 256, 0, 0)]
def tm_X3 (mm : MM) (k n : Nat) : MM := wI (wRf (wRf (wRf (wRf (mm) (k) 0 (n)) (k) 1 (n + 1)) (k) 2 (n + 2)) (k) 3 (n + 3)) (k) 4 (0 : Int32)
theorem tg_X3 {S : List SHP} {k : Nat} {s : SHP} (hk : S[k]? = some s) : (tS_X3 S)[k]? = some s := (ga_ (ga_ (ga_ (ga_ hk))))
theorem tl_X3 {S : List SHP} {n : Nat} (hn : S.length = n) : (tS_X3 S).length = n + 4 := (la_ (la_ (la_ (la_ hn))))
theorem tr_X3 {mm : MM} {k n : Nat} (hR : RLm mm n) (h0 : k < n) : RLm (tm_X3 mm k n) (n + 4) := (RLm_F (RLm.more (RLm_F (RLm.more (RLm_F (RLm.more (RLm_F (RLm.more hR (Nat.le_succ _)) (by omega)) (Nat.le_succ _)) (by omega)) (Nat.le_succ _)) (by omega)) (Nat.le_succ _)) (by omega))
theorem tf_X3 {mm : MM} {k n : Nat} (hF : Fr0 mm n) (h0 : k < n) : Fr0 (tm_X3 mm k n) (n + 4) := (Fr0_I (Fr0_F (Fr0.more (Fr0_F (Fr0.more (Fr0_F (Fr0.more (Fr0_F (Fr0.more hF (Nat.le_succ _)) (by omega)) (Nat.le_succ _)) (by omega)) (Nat.le_succ _)) (by omega)) (Nat.le_succ _)) (by omega)) (by omega))
theorem rc_X3 {S : List SHP} {mm : MM} {k n : Nat} (hk : S[k]? = some (.inr (3, svX3))) (hn : S.length = n) (hR : RLm mm n) (hF : Fr0 mm n) (hz : 0 < n) (h0 : k < n) (h9 : n + 4 < 1000) : RunsA e_X3_init 4 288 S (tS_X3 S) mm (tm_X3 mm k n) k := by
  refine runsA_of pl_X3 (Nat.le_of_ble_eq_true rfl) rfl rfl ?_
  refine a_aload_n (pc := 0) (x := k) dX3_init_0 rfl ?_
  refine a_obj (pc := 1) dX3_init_1 oi_X3_3 (by decide) (Nat.le_of_ble_eq_true rfl) ?_
  refine a_aload_n (pc := 4) (x := k) dX3_init_4 rfl ?_
  refine a_bipush (pc := 5) (v := (8 : Int32)) dX3_init_5 (by decide) ?_
  refine a_newarr_ (pc := 7) (n := n) (t := 0) (k := 8) (by decide) rfl dX3_init_7 w_66 (by decide) (by decide) (by decide) hn hR hF (by omega) (by omega) (by intro v hv; simp only [List.mem_cons, List.not_mem_nil, or_false] at hv; rcases hv with rfl <;> first | exact refN_int | exact refN_ref (by omega)) (by intro v hv; simp only [List.mem_cons, List.not_mem_nil, or_false] at hv; rcases hv with rfl <;> first | exact refN_int | exact refN_ref (by omega)) (by decide) (by decide) ?_
  refine a_putR (pc := 9) dX3_init_9 fd_X3_11 (ga_ hk) rfl (by omega) (fun _ => rfl) (fun _ => rfl) ?_
  refine a_aload_n (pc := 12) (x := k) dX3_init_12 rfl ?_
  refine a_bipush (pc := 13) (v := (16 : Int32)) dX3_init_13 (by decide) ?_
  refine a_newarr_ (pc := 15) (n := n + 1) (t := 0) (k := 16) (by decide) rfl dX3_init_15 w_66 (by decide) (by decide) (by decide) (la_ hn) (RLm_F (RLm.more hR (Nat.le_succ _)) (by omega)) (Fr0_F (Fr0.more hF (Nat.le_succ _)) (by omega)) (by omega) (by omega) (by intro v hv; simp only [List.mem_cons, List.not_mem_nil, or_false] at hv; rcases hv with rfl <;> first | exact refN_int | exact refN_ref (by omega)) (by intro v hv; simp only [List.mem_cons, List.not_mem_nil, or_false] at hv; rcases hv with rfl <;> first | exact refN_int | exact refN_ref (by omega)) (by decide) (by decide) ?_
  refine a_putR (pc := 17) dX3_init_17 fd_X3_15 (ga_ (ga_ hk)) rfl (by omega) (fun _ => rfl) (fun _ => rfl) ?_
  refine a_aload_n (pc := 20) (x := k) dX3_init_20 rfl ?_
  refine a_bipush (pc := 21) (v := (8 : Int32)) dX3_init_21 (by decide) ?_
  refine a_newarr_ (pc := 23) (n := n + 2) (t := 0) (k := 8) (by decide) rfl dX3_init_23 w_66 (by decide) (by decide) (by decide) (la_ (la_ hn)) (RLm_F (RLm.more (RLm_F (RLm.more hR (Nat.le_succ _)) (by omega)) (Nat.le_succ _)) (by omega)) (Fr0_F (Fr0.more (Fr0_F (Fr0.more hF (Nat.le_succ _)) (by omega)) (Nat.le_succ _)) (by omega)) (by omega) (by omega) (by intro v hv; simp only [List.mem_cons, List.not_mem_nil, or_false] at hv; rcases hv with rfl <;> first | exact refN_int | exact refN_ref (by omega)) (by intro v hv; simp only [List.mem_cons, List.not_mem_nil, or_false] at hv; rcases hv with rfl <;> first | exact refN_int | exact refN_ref (by omega)) (by decide) (by decide) ?_
  refine a_putR (pc := 25) dX3_init_25 fd_X3_18 (ga_ (ga_ (ga_ hk))) rfl (by omega) (fun _ => rfl) (fun _ => rfl) ?_
  refine a_aload_n (pc := 28) (x := k) dX3_init_28 rfl ?_
  refine a_sipush (pc := 29) (v := (256 : Int32)) dX3_init_29 (by decide) ?_
  refine a_newarr_ (pc := 32) (n := n + 3) (t := 0) (k := 256) (by decide) rfl dX3_init_32 w_66 (by decide) (by decide) (by decide) (la_ (la_ (la_ hn))) (RLm_F (RLm.more (RLm_F (RLm.more (RLm_F (RLm.more hR (Nat.le_succ _)) (by omega)) (Nat.le_succ _)) (by omega)) (Nat.le_succ _)) (by omega)) (Fr0_F (Fr0.more (Fr0_F (Fr0.more (Fr0_F (Fr0.more hF (Nat.le_succ _)) (by omega)) (Nat.le_succ _)) (by omega)) (Nat.le_succ _)) (by omega)) (by omega) (by omega) (by intro v hv; simp only [List.mem_cons, List.not_mem_nil, or_false] at hv; rcases hv with rfl <;> first | exact refN_int | exact refN_ref (by omega)) (by intro v hv; simp only [List.mem_cons, List.not_mem_nil, or_false] at hv; rcases hv with rfl <;> first | exact refN_int | exact refN_ref (by omega)) (by decide) (by decide) ?_
  refine a_putR (pc := 34) dX3_init_34 fd_X3_21 (ga_ (ga_ (ga_ (ga_ hk)))) rfl (by omega) (fun _ => rfl) (fun _ => rfl) ?_
  refine a_aload_n (pc := 37) (x := k) dX3_init_37 rfl ?_
  refine a_iconst (pc := 38) (v := (0 : Int32)) dX3_init_38 (by decide) ?_
  refine a_putI (pc := 39) dX3_init_39 fd_X3_24 (ga_ (ga_ (ga_ (ga_ hk)))) rfl rfl rfl ?_
  exact a_vret (pc := 42) dX3_init_42
theorem dX5_init_0 : decode cX5_init 0 = .ok (.aload_n 0, 1) := by decide +kernel
theorem dX5_init_1 : decode cX5_init 1 = .ok (.invokespecial 3, 3) := by decide +kernel
theorem dX5_init_4 : decode cX5_init 4 = .ok (.aload_n 0, 1) := by decide +kernel
theorem dX5_init_5 : decode cX5_init 5 = .ok (.bipush 12, 2) := by decide +kernel
theorem dX5_init_7 : decode cX5_init 7 = .ok (.newarray .int, 2) := by decide +kernel
theorem dX5_init_9 : decode cX5_init 9 = .ok (.putfield 9, 3) := by decide +kernel
theorem dX5_init_12 : decode cX5_init 12 = .ok (.aload_n 0, 1) := by decide +kernel
theorem dX5_init_13 : decode cX5_init 13 = .ok (.sipush 1300, 3) := by decide +kernel
theorem dX5_init_16 : decode cX5_init 16 = .ok (.newarray .int, 2) := by decide +kernel
theorem dX5_init_18 : decode cX5_init 18 = .ok (.putfield 15, 3) := by decide +kernel
theorem dX5_init_21 : decode cX5_init 21 = .ok (.aload_n 0, 1) := by decide +kernel
theorem dX5_init_22 : decode cX5_init 22 = .ok (.iconst 0, 1) := by decide +kernel
theorem dX5_init_23 : decode cX5_init 23 = .ok (.putfield 18, 3) := by decide +kernel
theorem dX5_init_26 : decode cX5_init 26 = .ok (.aload_n 0, 1) := by decide +kernel
theorem dX5_init_27 : decode cX5_init 27 = .ok (.iconst 0, 1) := by decide +kernel
theorem dX5_init_28 : decode cX5_init 28 = .ok (.putfield 22, 3) := by decide +kernel
theorem dX5_init_31 : decode cX5_init 31 = .ok (.aload_n 0, 1) := by decide +kernel
theorem dX5_init_32 : decode cX5_init 32 = .ok (.iconst 0, 1) := by decide +kernel
theorem dX5_init_33 : decode cX5_init 33 = .ok (.putfield 25, 3) := by decide +kernel
theorem dX5_init_36 : decode cX5_init 36 = .ok (.aload_n 0, 1) := by decide +kernel
theorem dX5_init_37 : decode cX5_init 37 = .ok (.iconst 0, 1) := by decide +kernel
theorem dX5_init_38 : decode cX5_init 38 = .ok (.putfield 28, 3) := by decide +kernel
theorem dX5_init_41 : decode cX5_init 41 = .ok (.aload_n 0, 1) := by decide +kernel
theorem dX5_init_42 : decode cX5_init 42 = .ok (.iconst 0, 1) := by decide +kernel
theorem dX5_init_43 : decode cX5_init 43 = .ok (.putfield 31, 3) := by decide +kernel
theorem dX5_init_46 : decode cX5_init 46 = .ok (.return_, 1) := by decide +kernel
theorem w_459 : (Jvm.Cond.methodLink "StiltTown$Row" (3 : Nat) ({ cls := "java/lang/Object", name := "<init>", desc := "()V" } : Jvm.MethodName)) ∈ bigW := tp_2 (List.mem_of_getElem? (i := 219) rfl) rfl
theorem oi_X5_3 : OI RX5 3 := ⟨w_459, w_27, w_28⟩
theorem fd_X5_9 : FD RX5 9 5 0 (.array .int) true := ⟨RX5, TX5, 7, tyX5, rfl, by decide, iX5, tyX5_ok, nmX5, w_460, rfl, rfl, rfl⟩
theorem fd_X5_15 : FD RX5 15 5 1 (.array .int) true := ⟨RX5, TX5, 7, tyX5, rfl, by decide, iX5, tyX5_ok, nmX5, w_461, rfl, rfl, rfl⟩
theorem fd_X5_18 : FD RX5 18 5 2 (.int) false := ⟨RX5, TX5, 7, tyX5, rfl, by decide, iX5, tyX5_ok, nmX5, w_462, rfl, rfl, rfl⟩
theorem fd_X5_22 : FD RX5 22 5 3 (.int) false := ⟨RX5, TX5, 7, tyX5, rfl, by decide, iX5, tyX5_ok, nmX5, w_464, rfl, rfl, rfl⟩
theorem fd_X5_25 : FD RX5 25 5 4 (.int) false := ⟨RX5, TX5, 7, tyX5, rfl, by decide, iX5, tyX5_ok, nmX5, w_465, rfl, rfl, rfl⟩
theorem fd_X5_28 : FD RX5 28 5 5 (.int) false := ⟨RX5, TX5, 7, tyX5, rfl, by decide, iX5, tyX5_ok, nmX5, w_466, rfl, rfl, rfl⟩
theorem fd_X5_31 : FD RX5 31 5 6 (.int) false := ⟨RX5, TX5, 7, tyX5, rfl, by decide, iX5, tyX5_ok, nmX5, w_467, rfl, rfl, rfl⟩
def tS_X5 (S : List SHP) : List SHP := S ++ [.inl (0, 12, 0, 0)] ++ [.inl (0, 1300, 0, 0)]
def tm_X5 (mm : MM) (k n : Nat) : MM := wI (wI (wI (wI (wI (wRf (wRf (mm) (k) 0 (n)) (k) 1 (n + 1)) (k) 2 (0 : Int32)) (k) 3 (0 : Int32)) (k) 4 (0 : Int32)) (k) 5 (0 : Int32)) (k) 6 (0 : Int32)
theorem tg_X5 {S : List SHP} {k : Nat} {s : SHP} (hk : S[k]? = some s) : (tS_X5 S)[k]? = some s := (ga_ (ga_ hk))
theorem tl_X5 {S : List SHP} {n : Nat} (hn : S.length = n) : (tS_X5 S).length = n + 2 := (la_ (la_ hn))
theorem tr_X5 {mm : MM} {k n : Nat} (hR : RLm mm n) (h0 : k < n) : RLm (tm_X5 mm k n) (n + 2) := (RLm_F (RLm.more (RLm_F (RLm.more hR (Nat.le_succ _)) (by omega)) (Nat.le_succ _)) (by omega))
theorem tf_X5 {mm : MM} {k n : Nat} (hF : Fr0 mm n) (h0 : k < n) : Fr0 (tm_X5 mm k n) (n + 2) := (Fr0_I (Fr0_I (Fr0_I (Fr0_I (Fr0_I (Fr0_F (Fr0.more (Fr0_F (Fr0.more hF (Nat.le_succ _)) (by omega)) (Nat.le_succ _)) (by omega)) (by omega)) (by omega)) (by omega)) (by omega)) (by omega))
theorem rc_X5 {S : List SHP} {mm : MM} {k n : Nat} (hk : S[k]? = some (.inr (5, svX5))) (hn : S.length = n) (hR : RLm mm n) (hF : Fr0 mm n) (hz : 0 < n) (h0 : k < n) (h9 : n + 2 < 1000) : RunsA e_X5_init 2 1312 S (tS_X5 S) mm (tm_X5 mm k n) k := by
  refine runsA_of pl_X5 (Nat.le_of_ble_eq_true rfl) rfl rfl ?_
  refine a_aload_n (pc := 0) (x := k) dX5_init_0 rfl ?_
  refine a_obj (pc := 1) dX5_init_1 oi_X5_3 (by decide) (Nat.le_of_ble_eq_true rfl) ?_
  refine a_aload_n (pc := 4) (x := k) dX5_init_4 rfl ?_
  refine a_bipush (pc := 5) (v := (12 : Int32)) dX5_init_5 (by decide) ?_
  refine a_newarr_ (pc := 7) (n := n) (t := 0) (k := 12) (by decide) rfl dX5_init_7 w_66 (by decide) (by decide) (by decide) hn hR hF (by omega) (by omega) (by intro v hv; simp only [List.mem_cons, List.not_mem_nil, or_false] at hv; rcases hv with rfl <;> first | exact refN_int | exact refN_ref (by omega)) (by intro v hv; simp only [List.mem_cons, List.not_mem_nil, or_false] at hv; rcases hv with rfl <;> first | exact refN_int | exact refN_ref (by omega)) (by decide) (by decide) ?_
  refine a_putR (pc := 9) dX5_init_9 fd_X5_9 (ga_ hk) rfl (by omega) (fun _ => rfl) (fun _ => rfl) ?_
  refine a_aload_n (pc := 12) (x := k) dX5_init_12 rfl ?_
  refine a_sipush (pc := 13) (v := (1300 : Int32)) dX5_init_13 (by decide) ?_
  refine a_newarr_ (pc := 16) (n := n + 1) (t := 0) (k := 1300) (by decide) rfl dX5_init_16 w_66 (by decide) (by decide) (by decide) (la_ hn) (RLm_F (RLm.more hR (Nat.le_succ _)) (by omega)) (Fr0_F (Fr0.more hF (Nat.le_succ _)) (by omega)) (by omega) (by omega) (by intro v hv; simp only [List.mem_cons, List.not_mem_nil, or_false] at hv; rcases hv with rfl <;> first | exact refN_int | exact refN_ref (by omega)) (by intro v hv; simp only [List.mem_cons, List.not_mem_nil, or_false] at hv; rcases hv with rfl <;> first | exact refN_int | exact refN_ref (by omega)) (by decide) (by decide) ?_
  refine a_putR (pc := 18) dX5_init_18 fd_X5_15 (ga_ (ga_ hk)) rfl (by omega) (fun _ => rfl) (fun _ => rfl) ?_
  refine a_aload_n (pc := 21) (x := k) dX5_init_21 rfl ?_
  refine a_iconst (pc := 22) (v := (0 : Int32)) dX5_init_22 (by decide) ?_
  refine a_putI (pc := 23) dX5_init_23 fd_X5_18 (ga_ (ga_ hk)) rfl rfl rfl ?_
  refine a_aload_n (pc := 26) (x := k) dX5_init_26 rfl ?_
  refine a_iconst (pc := 27) (v := (0 : Int32)) dX5_init_27 (by decide) ?_
  refine a_putI (pc := 28) dX5_init_28 fd_X5_22 (ga_ (ga_ hk)) rfl rfl rfl ?_
  refine a_aload_n (pc := 31) (x := k) dX5_init_31 rfl ?_
  refine a_iconst (pc := 32) (v := (0 : Int32)) dX5_init_32 (by decide) ?_
  refine a_putI (pc := 33) dX5_init_33 fd_X5_25 (ga_ (ga_ hk)) rfl rfl rfl ?_
  refine a_aload_n (pc := 36) (x := k) dX5_init_36 rfl ?_
  refine a_iconst (pc := 37) (v := (0 : Int32)) dX5_init_37 (by decide) ?_
  refine a_putI (pc := 38) dX5_init_38 fd_X5_28 (ga_ (ga_ hk)) rfl rfl rfl ?_
  refine a_aload_n (pc := 41) (x := k) dX5_init_41 rfl ?_
  refine a_iconst (pc := 42) (v := (0 : Int32)) dX5_init_42 (by decide) ?_
  refine a_putI (pc := 43) dX5_init_43 fd_X5_31 (ga_ (ga_ hk)) rfl rfl rfl ?_
  exact a_vret (pc := 46) dX5_init_46
theorem dX7_init_0 : decode cX7_init 0 = .ok (.aload_n 0, 1) := by decide +kernel
theorem dX7_init_1 : decode cX7_init 1 = .ok (.invokespecial 3, 3) := by decide +kernel
theorem dX7_init_4 : decode cX7_init 4 = .ok (.aload_n 0, 1) := by decide +kernel
theorem dX7_init_5 : decode cX7_init 5 = .ok (.sipush 2000, 3) := by decide +kernel
theorem dX7_init_8 : decode cX7_init 8 = .ok (.newarray .byte, 2) := by decide +kernel
theorem dX7_init_10 : decode cX7_init 10 = .ok (.putfield 9, 3) := by decide +kernel
theorem dX7_init_13 : decode cX7_init 13 = .ok (.aload_n 0, 1) := by decide +kernel
theorem dX7_init_14 : decode cX7_init 14 = .ok (.sipush 401, 3) := by decide +kernel
theorem dX7_init_17 : decode cX7_init 17 = .ok (.newarray .int, 2) := by decide +kernel
theorem dX7_init_19 : decode cX7_init 19 = .ok (.putfield 15, 3) := by decide +kernel
theorem dX7_init_22 : decode cX7_init 22 = .ok (.aload_n 0, 1) := by decide +kernel
theorem dX7_init_23 : decode cX7_init 23 = .ok (.sipush 401, 3) := by decide +kernel
theorem dX7_init_26 : decode cX7_init 26 = .ok (.newarray .int, 2) := by decide +kernel
theorem dX7_init_28 : decode cX7_init 28 = .ok (.putfield 19, 3) := by decide +kernel
theorem dX7_init_31 : decode cX7_init 31 = .ok (.aload_n 0, 1) := by decide +kernel
theorem dX7_init_32 : decode cX7_init 32 = .ok (.sipush 401, 3) := by decide +kernel
theorem dX7_init_35 : decode cX7_init 35 = .ok (.newarray .long, 2) := by decide +kernel
theorem dX7_init_37 : decode cX7_init 37 = .ok (.putfield 22, 3) := by decide +kernel
theorem dX7_init_40 : decode cX7_init 40 = .ok (.aload_n 0, 1) := by decide +kernel
theorem dX7_init_41 : decode cX7_init 41 = .ok (.iconst 0, 1) := by decide +kernel
theorem dX7_init_42 : decode cX7_init 42 = .ok (.putfield 26, 3) := by decide +kernel
theorem dX7_init_45 : decode cX7_init 45 = .ok (.aload_n 0, 1) := by decide +kernel
theorem dX7_init_46 : decode cX7_init 46 = .ok (.iconst 0, 1) := by decide +kernel
theorem dX7_init_47 : decode cX7_init 47 = .ok (.putfield 30, 3) := by decide +kernel
theorem dX7_init_50 : decode cX7_init 50 = .ok (.return_, 1) := by decide +kernel
theorem w_40 : (Jvm.Cond.methodLink "StiltTown$Tokens" (3 : Nat) ({ cls := "java/lang/Object", name := "<init>", desc := "()V" } : Jvm.MethodName)) ∈ bigW := tp_1 (List.mem_of_getElem? (i := 40) rfl) rfl
theorem oi_X7_3 : OI RX7 3 := ⟨w_40, w_27, w_28⟩
theorem w_67 : (Jvm.Cond.arrayClass Jvm.ClassFile.FieldType.byte) ∈ bigW := tp_1 (List.mem_of_getElem? (i := 67) rfl) rfl
theorem fd_X7_9 : FD RX7 9 7 0 (.array .byte) true := ⟨RX7, TX7, 6, tyX7, rfl, by decide, iX7, tyX7_ok, nmX7, w_41, rfl, rfl, rfl⟩
theorem fd_X7_15 : FD RX7 15 7 1 (.array .int) true := ⟨RX7, TX7, 6, tyX7, rfl, by decide, iX7, tyX7_ok, nmX7, w_42, rfl, rfl, rfl⟩
theorem fd_X7_19 : FD RX7 19 7 2 (.array .int) true := ⟨RX7, TX7, 6, tyX7, rfl, by decide, iX7, tyX7_ok, nmX7, w_44, rfl, rfl, rfl⟩
theorem w_65 : (Jvm.Cond.arrayClass Jvm.ClassFile.FieldType.long) ∈ bigW := tp_1 (List.mem_of_getElem? (i := 65) rfl) rfl
theorem fd_X7_22 : FD RX7 22 7 3 (.array .long) true := ⟨RX7, TX7, 6, tyX7, rfl, by decide, iX7, tyX7_ok, nmX7, w_46, rfl, rfl, rfl⟩
theorem fd_X7_26 : FD RX7 26 7 4 (.int) false := ⟨RX7, TX7, 6, tyX7, rfl, by decide, iX7, tyX7_ok, nmX7, w_48, rfl, rfl, rfl⟩
theorem fd_X7_30 : FD RX7 30 7 5 (.int) false := ⟨RX7, TX7, 6, tyX7, rfl, by decide, iX7, tyX7_ok, nmX7, w_50, rfl, rfl, rfl⟩
def tS_X7 (S : List SHP) : List SHP := S ++ [.inl (1, 2000, 0, 0)] ++ [.inl (0, 401, 0, 0)] ++ [.inl (0, 401, 0, 0)] ++ [.inl (3, 401, 0, 0)]
def tm_X7 (mm : MM) (k n : Nat) : MM := wI (wI (wRf (wRf (wRf (wRf (mm) (k) 0 (n)) (k) 1 (n + 1)) (k) 2 (n + 2)) (k) 3 (n + 3)) (k) 4 (0 : Int32)) (k) 5 (0 : Int32)
theorem tg_X7 {S : List SHP} {k : Nat} {s : SHP} (hk : S[k]? = some s) : (tS_X7 S)[k]? = some s := (ga_ (ga_ (ga_ (ga_ hk))))
theorem tl_X7 {S : List SHP} {n : Nat} (hn : S.length = n) : (tS_X7 S).length = n + 4 := (la_ (la_ (la_ (la_ hn))))
theorem tr_X7 {mm : MM} {k n : Nat} (hR : RLm mm n) (h0 : k < n) : RLm (tm_X7 mm k n) (n + 4) := (RLm_F (RLm.more (RLm_F (RLm.more (RLm_F (RLm.more (RLm_F (RLm.more hR (Nat.le_succ _)) (by omega)) (Nat.le_succ _)) (by omega)) (Nat.le_succ _)) (by omega)) (Nat.le_succ _)) (by omega))
theorem tf_X7 {mm : MM} {k n : Nat} (hF : Fr0 mm n) (h0 : k < n) : Fr0 (tm_X7 mm k n) (n + 4) := (Fr0_I (Fr0_I (Fr0_F (Fr0.more (Fr0_F (Fr0.more (Fr0_F (Fr0.more (Fr0_F (Fr0.more hF (Nat.le_succ _)) (by omega)) (Nat.le_succ _)) (by omega)) (Nat.le_succ _)) (by omega)) (Nat.le_succ _)) (by omega)) (by omega)) (by omega))
theorem rc_X7 {S : List SHP} {mm : MM} {k n : Nat} (hk : S[k]? = some (.inr (7, svX7))) (hn : S.length = n) (hR : RLm mm n) (hF : Fr0 mm n) (hz : 0 < n) (h0 : k < n) (h9 : n + 4 < 1000) : RunsA e_X7_init 4 3203 S (tS_X7 S) mm (tm_X7 mm k n) k := by
  refine runsA_of pl_X7 (Nat.le_of_ble_eq_true rfl) rfl rfl ?_
  refine a_aload_n (pc := 0) (x := k) dX7_init_0 rfl ?_
  refine a_obj (pc := 1) dX7_init_1 oi_X7_3 (by decide) (Nat.le_of_ble_eq_true rfl) ?_
  refine a_aload_n (pc := 4) (x := k) dX7_init_4 rfl ?_
  refine a_sipush (pc := 5) (v := (2000 : Int32)) dX7_init_5 (by decide) ?_
  refine a_newarr_ (pc := 8) (n := n) (t := 1) (k := 2000) (by decide) rfl dX7_init_8 w_67 (by decide) (by decide) (by decide) hn hR hF (by omega) (by omega) (by intro v hv; simp only [List.mem_cons, List.not_mem_nil, or_false] at hv; rcases hv with rfl <;> first | exact refN_int | exact refN_ref (by omega)) (by intro v hv; simp only [List.mem_cons, List.not_mem_nil, or_false] at hv; rcases hv with rfl <;> first | exact refN_int | exact refN_ref (by omega)) (by decide) (by decide) ?_
  refine a_putR (pc := 10) dX7_init_10 fd_X7_9 (ga_ hk) rfl (by omega) (fun _ => rfl) (fun _ => rfl) ?_
  refine a_aload_n (pc := 13) (x := k) dX7_init_13 rfl ?_
  refine a_sipush (pc := 14) (v := (401 : Int32)) dX7_init_14 (by decide) ?_
  refine a_newarr_ (pc := 17) (n := n + 1) (t := 0) (k := 401) (by decide) rfl dX7_init_17 w_66 (by decide) (by decide) (by decide) (la_ hn) (RLm_F (RLm.more hR (Nat.le_succ _)) (by omega)) (Fr0_F (Fr0.more hF (Nat.le_succ _)) (by omega)) (by omega) (by omega) (by intro v hv; simp only [List.mem_cons, List.not_mem_nil, or_false] at hv; rcases hv with rfl <;> first | exact refN_int | exact refN_ref (by omega)) (by intro v hv; simp only [List.mem_cons, List.not_mem_nil, or_false] at hv; rcases hv with rfl <;> first | exact refN_int | exact refN_ref (by omega)) (by decide) (by decide) ?_
  refine a_putR (pc := 19) dX7_init_19 fd_X7_15 (ga_ (ga_ hk)) rfl (by omega) (fun _ => rfl) (fun _ => rfl) ?_
  refine a_aload_n (pc := 22) (x := k) dX7_init_22 rfl ?_
  refine a_sipush (pc := 23) (v := (401 : Int32)) dX7_init_23 (by decide) ?_
  refine a_newarr_ (pc := 26) (n := n + 2) (t := 0) (k := 401) (by decide) rfl dX7_init_26 w_66 (by decide) (by decide) (by decide) (la_ (la_ hn)) (RLm_F (RLm.more (RLm_F (RLm.more hR (Nat.le_succ _)) (by omega)) (Nat.le_succ _)) (by omega)) (Fr0_F (Fr0.more (Fr0_F (Fr0.more hF (Nat.le_succ _)) (by omega)) (Nat.le_succ _)) (by omega)) (by omega) (by omega) (by intro v hv; simp only [List.mem_cons, List.not_mem_nil, or_false] at hv; rcases hv with rfl <;> first | exact refN_int | exact refN_ref (by omega)) (by intro v hv; simp only [List.mem_cons, List.not_mem_nil, or_false] at hv; rcases hv with rfl <;> first | exact refN_int | exact refN_ref (by omega)) (by decide) (by decide) ?_
  refine a_putR (pc := 28) dX7_init_28 fd_X7_19 (ga_ (ga_ (ga_ hk))) rfl (by omega) (fun _ => rfl) (fun _ => rfl) ?_
  refine a_aload_n (pc := 31) (x := k) dX7_init_31 rfl ?_
  refine a_sipush (pc := 32) (v := (401 : Int32)) dX7_init_32 (by decide) ?_
  refine a_newarr_ (pc := 35) (n := n + 3) (t := 3) (k := 401) (by decide) rfl dX7_init_35 w_65 (by decide) (by decide) (by decide) (la_ (la_ (la_ hn))) (RLm_F (RLm.more (RLm_F (RLm.more (RLm_F (RLm.more hR (Nat.le_succ _)) (by omega)) (Nat.le_succ _)) (by omega)) (Nat.le_succ _)) (by omega)) (Fr0_F (Fr0.more (Fr0_F (Fr0.more (Fr0_F (Fr0.more hF (Nat.le_succ _)) (by omega)) (Nat.le_succ _)) (by omega)) (Nat.le_succ _)) (by omega)) (by omega) (by omega) (by intro v hv; simp only [List.mem_cons, List.not_mem_nil, or_false] at hv; rcases hv with rfl <;> first | exact refN_int | exact refN_ref (by omega)) (by intro v hv; simp only [List.mem_cons, List.not_mem_nil, or_false] at hv; rcases hv with rfl <;> first | exact refN_int | exact refN_ref (by omega)) (by decide) (by decide) ?_
  refine a_putR (pc := 37) dX7_init_37 fd_X7_22 (ga_ (ga_ (ga_ (ga_ hk)))) rfl (by omega) (fun _ => rfl) (fun _ => rfl) ?_
  refine a_aload_n (pc := 40) (x := k) dX7_init_40 rfl ?_
  refine a_iconst (pc := 41) (v := (0 : Int32)) dX7_init_41 (by decide) ?_
  refine a_putI (pc := 42) dX7_init_42 fd_X7_26 (ga_ (ga_ (ga_ (ga_ hk)))) rfl rfl rfl ?_
  refine a_aload_n (pc := 45) (x := k) dX7_init_45 rfl ?_
  refine a_iconst (pc := 46) (v := (0 : Int32)) dX7_init_46 (by decide) ?_
  refine a_putI (pc := 47) dX7_init_47 fd_X7_30 (ga_ (ga_ (ga_ (ga_ hk)))) rfl rfl rfl ?_
  exact a_vret (pc := 50) dX7_init_50
theorem dX10_init_0 : decode cX10_init 0 = .ok (.aload_n 0, 1) := by decide +kernel
theorem dX10_init_1 : decode cX10_init 1 = .ok (.invokespecial 3, 3) := by decide +kernel
theorem dX10_init_4 : decode cX10_init 4 = .ok (.aload_n 0, 1) := by decide +kernel
theorem dX10_init_5 : decode cX10_init 5 = .ok (.sipush 900, 3) := by decide +kernel
theorem dX10_init_8 : decode cX10_init 8 = .ok (.newarray .int, 2) := by decide +kernel
theorem dX10_init_10 : decode cX10_init 10 = .ok (.putfield 11, 3) := by decide +kernel
theorem dX10_init_13 : decode cX10_init 13 = .ok (.aload_n 0, 1) := by decide +kernel
theorem dX10_init_14 : decode cX10_init 14 = .ok (.bipush 8, 2) := by decide +kernel
theorem dX10_init_16 : decode cX10_init 16 = .ok (.newarray .int, 2) := by decide +kernel
theorem dX10_init_18 : decode cX10_init 18 = .ok (.putfield 15, 3) := by decide +kernel
theorem dX10_init_21 : decode cX10_init 21 = .ok (.aload_n 0, 1) := by decide +kernel
theorem dX10_init_22 : decode cX10_init 22 = .ok (.iconst 0, 1) := by decide +kernel
theorem dX10_init_23 : decode cX10_init 23 = .ok (.putfield 18, 3) := by decide +kernel
theorem dX10_init_26 : decode cX10_init 26 = .ok (.return_, 1) := by decide +kernel
theorem w_364 : (Jvm.Cond.methodLink "StiltTown$Yard" (3 : Nat) ({ cls := "java/lang/Object", name := "<init>", desc := "()V" } : Jvm.MethodName)) ∈ bigW := tp_2 (List.mem_of_getElem? (i := 124) rfl) rfl
theorem oi_X10_3 : OI RX10 3 := ⟨w_364, w_27, w_28⟩
theorem fd_X10_11 : FD RX10 11 10 0 (.array .int) true := ⟨RX10, TX10, 3, tyX10, rfl, by decide, iX10, tyX10_ok, nmX10, w_365, rfl, rfl, rfl⟩
theorem fd_X10_15 : FD RX10 15 10 1 (.array .int) true := ⟨RX10, TX10, 3, tyX10, rfl, by decide, iX10, tyX10_ok, nmX10, w_366, rfl, rfl, rfl⟩
theorem fd_X10_18 : FD RX10 18 10 2 (.int) false := ⟨RX10, TX10, 3, tyX10, rfl, by decide, iX10, tyX10_ok, nmX10, w_369, rfl, rfl, rfl⟩
def tS_X10 (S : List SHP) : List SHP := S ++ [.inl (0, 900, 0, 0)] ++ [.inl (0, 8, 0, 0)]
def tm_X10 (mm : MM) (k n : Nat) : MM := wI (wRf (wRf (mm) (k) 0 (n)) (k) 1 (n + 1)) (k) 2 (0 : Int32)
theorem tg_X10 {S : List SHP} {k : Nat} {s : SHP} (hk : S[k]? = some s) : (tS_X10 S)[k]? = some s := (ga_ (ga_ hk))
theorem tl_X10 {S : List SHP} {n : Nat} (hn : S.length = n) : (tS_X10 S).length = n + 2 := (la_ (la_ hn))
theorem tr_X10 {mm : MM} {k n : Nat} (hR : RLm mm n) (h0 : k < n) : RLm (tm_X10 mm k n) (n + 2) := (RLm_F (RLm.more (RLm_F (RLm.more hR (Nat.le_succ _)) (by omega)) (Nat.le_succ _)) (by omega))
theorem tf_X10 {mm : MM} {k n : Nat} (hF : Fr0 mm n) (h0 : k < n) : Fr0 (tm_X10 mm k n) (n + 2) := (Fr0_I (Fr0_F (Fr0.more (Fr0_F (Fr0.more hF (Nat.le_succ _)) (by omega)) (Nat.le_succ _)) (by omega)) (by omega))
theorem rc_X10 {S : List SHP} {mm : MM} {k n : Nat} (hk : S[k]? = some (.inr (10, svX10))) (hn : S.length = n) (hR : RLm mm n) (hF : Fr0 mm n) (hz : 0 < n) (h0 : k < n) (h9 : n + 2 < 1000) : RunsA e_X10_init 2 908 S (tS_X10 S) mm (tm_X10 mm k n) k := by
  refine runsA_of pl_X10 (Nat.le_of_ble_eq_true rfl) rfl rfl ?_
  refine a_aload_n (pc := 0) (x := k) dX10_init_0 rfl ?_
  refine a_obj (pc := 1) dX10_init_1 oi_X10_3 (by decide) (Nat.le_of_ble_eq_true rfl) ?_
  refine a_aload_n (pc := 4) (x := k) dX10_init_4 rfl ?_
  refine a_sipush (pc := 5) (v := (900 : Int32)) dX10_init_5 (by decide) ?_
  refine a_newarr_ (pc := 8) (n := n) (t := 0) (k := 900) (by decide) rfl dX10_init_8 w_66 (by decide) (by decide) (by decide) hn hR hF (by omega) (by omega) (by intro v hv; simp only [List.mem_cons, List.not_mem_nil, or_false] at hv; rcases hv with rfl <;> first | exact refN_int | exact refN_ref (by omega)) (by intro v hv; simp only [List.mem_cons, List.not_mem_nil, or_false] at hv; rcases hv with rfl <;> first | exact refN_int | exact refN_ref (by omega)) (by decide) (by decide) ?_
  refine a_putR (pc := 10) dX10_init_10 fd_X10_11 (ga_ hk) rfl (by omega) (fun _ => rfl) (fun _ => rfl) ?_
  refine a_aload_n (pc := 13) (x := k) dX10_init_13 rfl ?_
  refine a_bipush (pc := 14) (v := (8 : Int32)) dX10_init_14 (by decide) ?_
  refine a_newarr_ (pc := 16) (n := n + 1) (t := 0) (k := 8) (by decide) rfl dX10_init_16 w_66 (by decide) (by decide) (by decide) (la_ hn) (RLm_F (RLm.more hR (Nat.le_succ _)) (by omega)) (Fr0_F (Fr0.more hF (Nat.le_succ _)) (by omega)) (by omega) (by omega) (by intro v hv; simp only [List.mem_cons, List.not_mem_nil, or_false] at hv; rcases hv with rfl <;> first | exact refN_int | exact refN_ref (by omega)) (by intro v hv; simp only [List.mem_cons, List.not_mem_nil, or_false] at hv; rcases hv with rfl <;> first | exact refN_int | exact refN_ref (by omega)) (by decide) (by decide) ?_
  refine a_putR (pc := 18) dX10_init_18 fd_X10_15 (ga_ (ga_ hk)) rfl (by omega) (fun _ => rfl) (fun _ => rfl) ?_
  refine a_aload_n (pc := 21) (x := k) dX10_init_21 rfl ?_
  refine a_iconst (pc := 22) (v := (0 : Int32)) dX10_init_22 (by decide) ?_
  refine a_putI (pc := 23) dX10_init_23 fd_X10_18 (ga_ (ga_ hk)) rfl rfl rfl ?_
  exact a_vret (pc := 26) dX10_init_26
theorem dX9_init_0 : decode cX9_init 0 = .ok (.aload_n 0, 1) := by decide +kernel
theorem dX9_init_1 : decode cX9_init 1 = .ok (.invokespecial 3, 3) := by decide +kernel
theorem dX9_init_4 : decode cX9_init 4 = .ok (.aload_n 0, 1) := by decide +kernel
theorem dX9_init_5 : decode cX9_init 5 = .ok (.bipush 16, 2) := by decide +kernel
theorem dX9_init_7 : decode cX9_init 7 = .ok (.newarray .int, 2) := by decide +kernel
theorem dX9_init_9 : decode cX9_init 9 = .ok (.putfield 9, 3) := by decide +kernel
theorem dX9_init_12 : decode cX9_init 12 = .ok (.aload_n 0, 1) := by decide +kernel
theorem dX9_init_13 : decode cX9_init 13 = .ok (.bipush 8, 2) := by decide +kernel
theorem dX9_init_15 : decode cX9_init 15 = .ok (.newarray .int, 2) := by decide +kernel
theorem dX9_init_17 : decode cX9_init 17 = .ok (.putfield 15, 3) := by decide +kernel
theorem dX9_init_20 : decode cX9_init 20 = .ok (.aload_n 0, 1) := by decide +kernel
theorem dX9_init_21 : decode cX9_init 21 = .ok (.bipush 20, 2) := by decide +kernel
theorem dX9_init_23 : decode cX9_init 23 = .ok (.bipush 16, 2) := by decide +kernel
theorem dX9_init_25 : decode cX9_init 25 = .ok (.multianewarray 18 2, 4) := by decide +kernel
theorem dX9_init_29 : decode cX9_init 29 = .ok (.putfield 20, 3) := by decide +kernel
theorem dX9_init_32 : decode cX9_init 32 = .ok (.aload_n 0, 1) := by decide +kernel
theorem dX9_init_33 : decode cX9_init 33 = .ok (.bipush 20, 2) := by decide +kernel
theorem dX9_init_35 : decode cX9_init 35 = .ok (.bipush 8, 2) := by decide +kernel
theorem dX9_init_37 : decode cX9_init 37 = .ok (.multianewarray 18 2, 4) := by decide +kernel
theorem dX9_init_41 : decode cX9_init 41 = .ok (.putfield 23, 3) := by decide +kernel
theorem dX9_init_44 : decode cX9_init 44 = .ok (.aload_n 0, 1) := by decide +kernel
theorem dX9_init_45 : decode cX9_init 45 = .ok (.iconst 0, 1) := by decide +kernel
theorem dX9_init_46 : decode cX9_init 46 = .ok (.putfield 26, 3) := by decide +kernel
theorem dX9_init_49 : decode cX9_init 49 = .ok (.aload_n 0, 1) := by decide +kernel
theorem dX9_init_50 : decode cX9_init 50 = .ok (.iconst 0, 1) := by decide +kernel
theorem dX9_init_51 : decode cX9_init 51 = .ok (.putfield 30, 3) := by decide +kernel
theorem dX9_init_54 : decode cX9_init 54 = .ok (.aload_n 0, 1) := by decide +kernel
theorem dX9_init_55 : decode cX9_init 55 = .ok (.iconst 0, 1) := by decide +kernel
theorem dX9_init_56 : decode cX9_init 56 = .ok (.putfield 33, 3) := by decide +kernel
theorem dX9_init_59 : decode cX9_init 59 = .ok (.return_, 1) := by decide +kernel
theorem w_384 : (Jvm.Cond.methodLink "StiltTown$Works" (3 : Nat) ({ cls := "java/lang/Object", name := "<init>", desc := "()V" } : Jvm.MethodName)) ∈ bigW := tp_2 (List.mem_of_getElem? (i := 144) rfl) rfl
theorem oi_X9_3 : OI RX9 3 := ⟨w_384, w_27, w_28⟩
theorem fd_X9_9 : FD RX9 9 9 0 (.array .int) true := ⟨RX9, TX9, 7, tyX9, rfl, by decide, iX9, tyX9_ok, nmX9, w_387, rfl, rfl, rfl⟩
theorem fd_X9_15 : FD RX9 15 9 1 (.array .int) true := ⟨RX9, TX9, 7, tyX9, rfl, by decide, iX9, tyX9_ok, nmX9, w_388, rfl, rfl, rfl⟩
theorem w_385 : (Jvm.Cond.classLink "StiltTown$Works" (18 : Nat) "[[I") ∈ bigW := tp_2 (List.mem_of_getElem? (i := 145) rfl) rfl
theorem fd_X9_20 : FD RX9 20 9 2 (.array (.array .int)) true := ⟨RX9, TX9, 7, tyX9, rfl, by decide, iX9, tyX9_ok, nmX9, w_389, rfl, rfl, rfl⟩
theorem fd_X9_23 : FD RX9 23 9 3 (.array (.array .int)) true := ⟨RX9, TX9, 7, tyX9, rfl, by decide, iX9, tyX9_ok, nmX9, w_390, rfl, rfl, rfl⟩
theorem fd_X9_26 : FD RX9 26 9 4 (.int) false := ⟨RX9, TX9, 7, tyX9, rfl, by decide, iX9, tyX9_ok, nmX9, w_391, rfl, rfl, rfl⟩
theorem fd_X9_30 : FD RX9 30 9 5 (.int) false := ⟨RX9, TX9, 7, tyX9, rfl, by decide, iX9, tyX9_ok, nmX9, w_393, rfl, rfl, rfl⟩
theorem fd_X9_33 : FD RX9 33 9 6 (.int) false := ⟨RX9, TX9, 7, tyX9, rfl, by decide, iX9, tyX9_ok, nmX9, w_394, rfl, rfl, rfl⟩
def tS_X9 (S : List SHP) : List SHP := S ++ [.inl (0, 16, 0, 0)] ++ [.inl (0, 8, 0, 0)] ++ [.inl (5, 20, 0, 0)] ++ List.replicate 20 (.inl (0, 16, 0, 0)) ++ [.inl (5, 20, 0, 0)] ++ List.replicate 20 (.inl (0, 8, 0, 0))
def tm_X9 (mm : MM) (k n : Nat) : MM := wI (wI (wI (wRf (wRow (wRf (wRow (wRf (wRf (mm) (k) 0 (n)) (k) 1 (n + 1)) (n + 2) (rowsOf (n + 2) 20)) (k) 2 (n + 2)) (n + 23) (rowsOf (n + 23) 20)) (k) 3 (n + 23)) (k) 4 (0 : Int32)) (k) 5 (0 : Int32)) (k) 6 (0 : Int32)
theorem tg_X9 {S : List SHP} {k : Nat} {s : SHP} (hk : S[k]? = some s) : (tS_X9 S)[k]? = some s := (ga_ (ga_ (ga_ (ga_ (ga_ (ga_ hk))))))
theorem tl_X9 {S : List SHP} {n : Nat} (hn : S.length = n) : (tS_X9 S).length = n + 44 := (lr_ (N := 20) (lr_ (N := 20) (la_ (la_ hn))))
theorem tr_X9 {mm : MM} {k n : Nat} (hR : RLm mm n) (h0 : k < n) : RLm (tm_X9 mm k n) (n + 44) := (RLm_F (RLm_w (N := 20) (RLm_F (RLm_w (N := 20) (RLm_F (RLm.more (RLm_F (RLm.more hR (Nat.le_succ _)) (by omega)) (Nat.le_succ _)) (by omega))) (by omega))) (by omega))
theorem tf_X9 {mm : MM} {k n : Nat} (hF : Fr0 mm n) (h0 : k < n) : Fr0 (tm_X9 mm k n) (n + 44) := (Fr0_I (Fr0_I (Fr0_I (Fr0_F (Fr0_w (N := 20) (Fr0_F (Fr0_w (N := 20) (Fr0_F (Fr0.more (Fr0_F (Fr0.more hF (Nat.le_succ _)) (by omega)) (Nat.le_succ _)) (by omega))) (by omega))) (by omega)) (by omega)) (by omega)) (by omega))
theorem rc_X9 {S : List SHP} {mm : MM} {k n : Nat} (hk : S[k]? = some (.inr (9, svX9))) (hn : S.length = n) (hR : RLm mm n) (hF : Fr0 mm n) (hz : 0 < n) (h0 : k < n) (h9 : n + 44 < 1000) : RunsA e_X9_init 44 544 S (tS_X9 S) mm (tm_X9 mm k n) k := by
  refine runsA_of pl_X9 (Nat.le_of_ble_eq_true rfl) rfl rfl ?_
  refine a_aload_n (pc := 0) (x := k) dX9_init_0 rfl ?_
  refine a_obj (pc := 1) dX9_init_1 oi_X9_3 (by decide) (Nat.le_of_ble_eq_true rfl) ?_
  refine a_aload_n (pc := 4) (x := k) dX9_init_4 rfl ?_
  refine a_bipush (pc := 5) (v := (16 : Int32)) dX9_init_5 (by decide) ?_
  refine a_newarr_ (pc := 7) (n := n) (t := 0) (k := 16) (by decide) rfl dX9_init_7 w_66 (by decide) (by decide) (by decide) hn hR hF (by omega) (by omega) (by intro v hv; simp only [List.mem_cons, List.not_mem_nil, or_false] at hv; rcases hv with rfl <;> first | exact refN_int | exact refN_ref (by omega)) (by intro v hv; simp only [List.mem_cons, List.not_mem_nil, or_false] at hv; rcases hv with rfl <;> first | exact refN_int | exact refN_ref (by omega)) (by decide) (by decide) ?_
  refine a_putR (pc := 9) dX9_init_9 fd_X9_9 (ga_ hk) rfl (by omega) (fun _ => rfl) (fun _ => rfl) ?_
  refine a_aload_n (pc := 12) (x := k) dX9_init_12 rfl ?_
  refine a_bipush (pc := 13) (v := (8 : Int32)) dX9_init_13 (by decide) ?_
  refine a_newarr_ (pc := 15) (n := n + 1) (t := 0) (k := 8) (by decide) rfl dX9_init_15 w_66 (by decide) (by decide) (by decide) (la_ hn) (RLm_F (RLm.more hR (Nat.le_succ _)) (by omega)) (Fr0_F (Fr0.more hF (Nat.le_succ _)) (by omega)) (by omega) (by omega) (by intro v hv; simp only [List.mem_cons, List.not_mem_nil, or_false] at hv; rcases hv with rfl <;> first | exact refN_int | exact refN_ref (by omega)) (by intro v hv; simp only [List.mem_cons, List.not_mem_nil, or_false] at hv; rcases hv with rfl <;> first | exact refN_int | exact refN_ref (by omega)) (by decide) (by decide) ?_
  refine a_putR (pc := 17) dX9_init_17 fd_X9_15 (ga_ (ga_ hk)) rfl (by omega) (fun _ => rfl) (fun _ => rfl) ?_
  refine a_aload_n (pc := 20) (x := k) dX9_init_20 rfl ?_
  refine a_bipush (pc := 21) (v := (20 : Int32)) dX9_init_21 (by decide) ?_
  refine a_bipush (pc := 23) (v := (16 : Int32)) dX9_init_23 (by decide) ?_
  refine a_mna_ (pc := 25) (n := n + 2) (a := 20) (b := 16) dX9_init_25 w_385 w_66 (by decide) (by decide) (by decide) (by decide) (by decide) (by decide) (la_ (la_ hn)) (RLm_F (RLm.more (RLm_F (RLm.more hR (Nat.le_succ _)) (by omega)) (Nat.le_succ _)) (by omega)) (Fr0_F (Fr0.more (Fr0_F (Fr0.more hF (Nat.le_succ _)) (by omega)) (Nat.le_succ _)) (by omega)) (by omega) (by omega) (by intro v hv; simp only [List.mem_cons, List.not_mem_nil, or_false] at hv; rcases hv with rfl <;> first | exact refN_int | exact refN_ref (by omega)) (by intro v hv; simp only [List.mem_cons, List.not_mem_nil, or_false] at hv; rcases hv with rfl <;> first | exact refN_int | exact refN_ref (by omega)) (by decide) (by decide) ?_
  refine a_putR (pc := 29) dX9_init_29 fd_X9_20 (ga_ (ga_ (ga_ (ga_ hk)))) rfl (by omega) (fun _ => rfl) (fun _ => rfl) ?_
  refine a_aload_n (pc := 32) (x := k) dX9_init_32 rfl ?_
  refine a_bipush (pc := 33) (v := (20 : Int32)) dX9_init_33 (by decide) ?_
  refine a_bipush (pc := 35) (v := (8 : Int32)) dX9_init_35 (by decide) ?_
  refine a_mna_ (pc := 37) (n := n + 23) (a := 20) (b := 8) dX9_init_37 w_385 w_66 (by decide) (by decide) (by decide) (by decide) (by decide) (by decide) (lr_ (N := 20) (la_ (la_ hn))) (RLm_F (RLm_w (N := 20) (RLm_F (RLm.more (RLm_F (RLm.more hR (Nat.le_succ _)) (by omega)) (Nat.le_succ _)) (by omega))) (by omega)) (Fr0_F (Fr0_w (N := 20) (Fr0_F (Fr0.more (Fr0_F (Fr0.more hF (Nat.le_succ _)) (by omega)) (Nat.le_succ _)) (by omega))) (by omega)) (by omega) (by omega) (by intro v hv; simp only [List.mem_cons, List.not_mem_nil, or_false] at hv; rcases hv with rfl <;> first | exact refN_int | exact refN_ref (by omega)) (by intro v hv; simp only [List.mem_cons, List.not_mem_nil, or_false] at hv; rcases hv with rfl <;> first | exact refN_int | exact refN_ref (by omega)) (by decide) (by decide) ?_
  refine a_putR (pc := 41) dX9_init_41 fd_X9_23 (ga_ (ga_ (ga_ (ga_ (ga_ (ga_ hk)))))) rfl (by omega) (fun _ => rfl) (fun _ => rfl) ?_
  refine a_aload_n (pc := 44) (x := k) dX9_init_44 rfl ?_
  refine a_iconst (pc := 45) (v := (0 : Int32)) dX9_init_45 (by decide) ?_
  refine a_putI (pc := 46) dX9_init_46 fd_X9_26 (ga_ (ga_ (ga_ (ga_ (ga_ (ga_ hk)))))) rfl rfl rfl ?_
  refine a_aload_n (pc := 49) (x := k) dX9_init_49 rfl ?_
  refine a_iconst (pc := 50) (v := (0 : Int32)) dX9_init_50 (by decide) ?_
  refine a_putI (pc := 51) dX9_init_51 fd_X9_30 (ga_ (ga_ (ga_ (ga_ (ga_ (ga_ hk)))))) rfl rfl rfl ?_
  refine a_aload_n (pc := 54) (x := k) dX9_init_54 rfl ?_
  refine a_iconst (pc := 55) (v := (0 : Int32)) dX9_init_55 (by decide) ?_
  refine a_putI (pc := 56) dX9_init_56 fd_X9_33 (ga_ (ga_ (ga_ (ga_ (ga_ (ga_ hk)))))) rfl rfl rfl ?_
  exact a_vret (pc := 59) dX9_init_59
theorem dX6_init_0 : decode cX6_init 0 = .ok (.aload_n 0, 1) := by decide +kernel
theorem dX6_init_1 : decode cX6_init 1 = .ok (.invokespecial 3, 3) := by decide +kernel
theorem dX6_init_4 : decode cX6_init 4 = .ok (.aload_n 0, 1) := by decide +kernel
theorem dX6_init_5 : decode cX6_init 5 = .ok (.bipush 16, 2) := by decide +kernel
theorem dX6_init_7 : decode cX6_init 7 = .ok (.newarray .int, 2) := by decide +kernel
theorem dX6_init_9 : decode cX6_init 9 = .ok (.putfield 9, 3) := by decide +kernel
theorem dX6_init_12 : decode cX6_init 12 = .ok (.aload_n 0, 1) := by decide +kernel
theorem dX6_init_13 : decode cX6_init 13 = .ok (.bipush 16, 2) := by decide +kernel
theorem dX6_init_15 : decode cX6_init 15 = .ok (.newarray .int, 2) := by decide +kernel
theorem dX6_init_17 : decode cX6_init 17 = .ok (.putfield 15, 3) := by decide +kernel
theorem dX6_init_20 : decode cX6_init 20 = .ok (.aload_n 0, 1) := by decide +kernel
theorem dX6_init_21 : decode cX6_init 21 = .ok (.bipush 8, 2) := by decide +kernel
theorem dX6_init_23 : decode cX6_init 23 = .ok (.newarray .int, 2) := by decide +kernel
theorem dX6_init_25 : decode cX6_init 25 = .ok (.putfield 18, 3) := by decide +kernel
theorem dX6_init_28 : decode cX6_init 28 = .ok (.aload_n 0, 1) := by decide +kernel
theorem dX6_init_29 : decode cX6_init 29 = .ok (.bipush 40, 2) := by decide +kernel
theorem dX6_init_31 : decode cX6_init 31 = .ok (.newarray .int, 2) := by decide +kernel
theorem dX6_init_33 : decode cX6_init 33 = .ok (.putfield 21, 3) := by decide +kernel
theorem dX6_init_36 : decode cX6_init 36 = .ok (.aload_n 0, 1) := by decide +kernel
theorem dX6_init_37 : decode cX6_init 37 = .ok (.bipush 40, 2) := by decide +kernel
theorem dX6_init_39 : decode cX6_init 39 = .ok (.newarray .int, 2) := by decide +kernel
theorem dX6_init_41 : decode cX6_init 41 = .ok (.putfield 24, 3) := by decide +kernel
theorem dX6_init_44 : decode cX6_init 44 = .ok (.aload_n 0, 1) := by decide +kernel
theorem dX6_init_45 : decode cX6_init 45 = .ok (.bipush 40, 2) := by decide +kernel
theorem dX6_init_47 : decode cX6_init 47 = .ok (.newarray .int, 2) := by decide +kernel
theorem dX6_init_49 : decode cX6_init 49 = .ok (.putfield 27, 3) := by decide +kernel
theorem dX6_init_52 : decode cX6_init 52 = .ok (.aload_n 0, 1) := by decide +kernel
theorem dX6_init_53 : decode cX6_init 53 = .ok (.new 30, 3) := by decide +kernel
theorem dX6_init_56 : decode cX6_init 56 = .ok (.dup, 1) := by decide +kernel
theorem dX6_init_57 : decode cX6_init 57 = .ok (.invokespecial 32, 3) := by decide +kernel
theorem dX6_init_60 : decode cX6_init 60 = .ok (.putfield 33, 3) := by decide +kernel
theorem dX6_init_63 : decode cX6_init 63 = .ok (.aload_n 0, 1) := by decide +kernel
theorem dX6_init_64 : decode cX6_init 64 = .ok (.iconst 0, 1) := by decide +kernel
theorem dX6_init_65 : decode cX6_init 65 = .ok (.putfield 37, 3) := by decide +kernel
theorem dX6_init_68 : decode cX6_init 68 = .ok (.aload_n 0, 1) := by decide +kernel
theorem dX6_init_69 : decode cX6_init 69 = .ok (.iconst 0, 1) := by decide +kernel
theorem dX6_init_70 : decode cX6_init 70 = .ok (.putfield 41, 3) := by decide +kernel
theorem dX6_init_73 : decode cX6_init 73 = .ok (.return_, 1) := by decide +kernel
theorem w_221 : (Jvm.Cond.methodLink "StiltTown$State" (3 : Nat) ({ cls := "java/lang/Object", name := "<init>", desc := "()V" } : Jvm.MethodName)) ∈ bigW := tp_1 (List.mem_of_getElem? (i := 221) rfl) rfl
theorem oi_X6_3 : OI RX6 3 := ⟨w_221, w_27, w_28⟩
theorem fd_X6_9 : FD RX6 9 6 0 (.array .int) true := ⟨RX6, TX6, 9, tyX6, rfl, by decide, iX6, tyX6_ok, nmX6, w_254, rfl, rfl, rfl⟩
theorem fd_X6_15 : FD RX6 15 6 1 (.array .int) true := ⟨RX6, TX6, 9, tyX6, rfl, by decide, iX6, tyX6_ok, nmX6, w_260, rfl, rfl, rfl⟩
theorem fd_X6_18 : FD RX6 18 6 2 (.array .int) true := ⟨RX6, TX6, 9, tyX6, rfl, by decide, iX6, tyX6_ok, nmX6, w_263, rfl, rfl, rfl⟩
theorem fd_X6_21 : FD RX6 21 6 3 (.array .int) true := ⟨RX6, TX6, 9, tyX6, rfl, by decide, iX6, tyX6_ok, nmX6, w_267, rfl, rfl, rfl⟩
theorem fd_X6_24 : FD RX6 24 6 4 (.array .int) true := ⟨RX6, TX6, 9, tyX6, rfl, by decide, iX6, tyX6_ok, nmX6, w_269, rfl, rfl, rfl⟩
theorem fd_X6_27 : FD RX6 27 6 5 (.array .int) true := ⟨RX6, TX6, 9, tyX6, rfl, by decide, iX6, tyX6_ok, nmX6, w_271, rfl, rfl, rfl⟩
theorem w_222 : (Jvm.Cond.classLink "StiltTown$State" (30 : Nat) "StiltTown$Logs") ∈ bigW := tp_1 (List.mem_of_getElem? (i := 222) rfl) rfl
theorem w_223 : (Jvm.Cond.instantiable "StiltTown$Logs" (7 : Nat)) ∈ bigW := tp_1 (List.mem_of_getElem? (i := 223) rfl) rfl
theorem no_X6_30 : NO RX6 30 2 7 svX2 := ⟨RX2, TX2, tyX2, rfl, w_222, w_223, w_7, iX2, tyX2_ok, by decide +kernel⟩
theorem w_225 : (Jvm.Cond.instanceMethod ({ cls := "StiltTown$Logs", name := "<init>", desc := "()V" } : Jvm.MethodName)) ∈ bigW := tp_1 (List.mem_of_getElem? (i := 225) rfl) rfl
theorem w_226 : (Jvm.Cond.code ({ cls := "StiltTown$Logs", name := "<init>", desc := "()V" } : Jvm.MethodName) prog_4_method_1_code (1 : Nat) (Option.none : Option Jvm.ClassFile.FieldType)) ∈ bigW := tp_1 (List.mem_of_getElem? (i := 226) rfl) rfl
theorem ci_X6_32 : CI RX6 32 e_X2_init := ⟨⟨"StiltTown", List.mem_of_getElem? (i := 5) rfl⟩, w_225, w_7, w_226, ⟨by decide +kernel, by decide +kernel, by decide +kernel⟩, by decide, rfl, rfl⟩
theorem fd_X6_33 : FD RX6 33 6 6 (.object "StiltTown$Logs") true := ⟨RX6, TX6, 9, tyX6, rfl, by decide, iX6, tyX6_ok, nmX6, w_273, rfl, rfl, rfl⟩
theorem fd_X6_37 : FD RX6 37 6 7 (.int) false := ⟨RX6, TX6, 9, tyX6, rfl, by decide, iX6, tyX6_ok, nmX6, w_275, rfl, rfl, rfl⟩
theorem fd_X6_41 : FD RX6 41 6 8 (.int) false := ⟨RX6, TX6, 9, tyX6, rfl, by decide, iX6, tyX6_ok, nmX6, w_278, rfl, rfl, rfl⟩
def tS_X6 (S : List SHP) : List SHP := tS_X2 (S ++ [.inl (0, 16, 0, 0)] ++ [.inl (0, 16, 0, 0)] ++ [.inl (0, 8, 0, 0)] ++ [.inl (0, 40, 0, 0)] ++ [.inl (0, 40, 0, 0)] ++ [.inl (0, 40, 0, 0)] ++ [.inr (2, svX2)])
def tm_X6 (mm : MM) (k n : Nat) : MM := wI (wI (wRf (tm_X2 (wRf (wRf (wRf (wRf (wRf (wRf (mm) (k) 0 (n)) (k) 1 (n + 1)) (k) 2 (n + 2)) (k) 3 (n + 3)) (k) 4 (n + 4)) (k) 5 (n + 5)) (n + 6) (n + 7)) (k) 6 (n + 6)) (k) 7 (0 : Int32)) (k) 8 (0 : Int32)
theorem tg_X6 {S : List SHP} {k : Nat} {s : SHP} (hk : S[k]? = some s) : (tS_X6 S)[k]? = some s := (tg_X2 (ga_ (ga_ (ga_ (ga_ (ga_ (ga_ (ga_ hk))))))))
theorem tl_X6 {S : List SHP} {n : Nat} (hn : S.length = n) : (tS_X6 S).length = n + 13 := (tl_X2 (la_ (la_ (la_ (la_ (la_ (la_ (la_ hn))))))))
theorem tr_X6 {mm : MM} {k n : Nat} (hR : RLm mm n) (h0 : k < n) : RLm (tm_X6 mm k n) (n + 13) := (RLm_F (tr_X2 (RLm.more (RLm_F (RLm.more (RLm_F (RLm.more (RLm_F (RLm.more (RLm_F (RLm.more (RLm_F (RLm.more (RLm_F (RLm.more hR (Nat.le_succ _)) (by omega)) (Nat.le_succ _)) (by omega)) (Nat.le_succ _)) (by omega)) (Nat.le_succ _)) (by omega)) (Nat.le_succ _)) (by omega)) (Nat.le_succ _)) (by omega)) (Nat.le_succ _)) (by omega)) (by omega))
theorem tf_X6 {mm : MM} {k n : Nat} (hF : Fr0 mm n) (h0 : k < n) : Fr0 (tm_X6 mm k n) (n + 13) := (Fr0_I (Fr0_I (Fr0_F (tf_X2 (Fr0.more (Fr0_F (Fr0.more (Fr0_F (Fr0.more (Fr0_F (Fr0.more (Fr0_F (Fr0.more (Fr0_F (Fr0.more (Fr0_F (Fr0.more hF (Nat.le_succ _)) (by omega)) (Nat.le_succ _)) (by omega)) (Nat.le_succ _)) (by omega)) (Nat.le_succ _)) (by omega)) (Nat.le_succ _)) (by omega)) (Nat.le_succ _)) (by omega)) (Nat.le_succ _)) (by omega)) (by omega)) (by omega)) (by omega))
theorem rc_X6 {S : List SHP} {mm : MM} {k n : Nat} (hk : S[k]? = some (.inr (6, svX6))) (hn : S.length = n) (hR : RLm mm n) (hF : Fr0 mm n) (hz : 0 < n) (h0 : k < n) (h9 : n + 13 < 1000) : RunsA e_X6_init 13 483 S (tS_X6 S) mm (tm_X6 mm k n) k := by
  refine runsA_of pl_X6 (Nat.le_of_ble_eq_true rfl) rfl rfl ?_
  refine a_aload_n (pc := 0) (x := k) dX6_init_0 rfl ?_
  refine a_obj (pc := 1) dX6_init_1 oi_X6_3 (by decide) (Nat.le_of_ble_eq_true rfl) ?_
  refine a_aload_n (pc := 4) (x := k) dX6_init_4 rfl ?_
  refine a_bipush (pc := 5) (v := (16 : Int32)) dX6_init_5 (by decide) ?_
  refine a_newarr_ (pc := 7) (n := n) (t := 0) (k := 16) (by decide) rfl dX6_init_7 w_66 (by decide) (by decide) (by decide) hn hR hF (by omega) (by omega) (by intro v hv; simp only [List.mem_cons, List.not_mem_nil, or_false] at hv; rcases hv with rfl <;> first | exact refN_int | exact refN_ref (by omega)) (by intro v hv; simp only [List.mem_cons, List.not_mem_nil, or_false] at hv; rcases hv with rfl <;> first | exact refN_int | exact refN_ref (by omega)) (by decide) (by decide) ?_
  refine a_putR (pc := 9) dX6_init_9 fd_X6_9 (ga_ hk) rfl (by omega) (fun _ => rfl) (fun _ => rfl) ?_
  refine a_aload_n (pc := 12) (x := k) dX6_init_12 rfl ?_
  refine a_bipush (pc := 13) (v := (16 : Int32)) dX6_init_13 (by decide) ?_
  refine a_newarr_ (pc := 15) (n := n + 1) (t := 0) (k := 16) (by decide) rfl dX6_init_15 w_66 (by decide) (by decide) (by decide) (la_ hn) (RLm_F (RLm.more hR (Nat.le_succ _)) (by omega)) (Fr0_F (Fr0.more hF (Nat.le_succ _)) (by omega)) (by omega) (by omega) (by intro v hv; simp only [List.mem_cons, List.not_mem_nil, or_false] at hv; rcases hv with rfl <;> first | exact refN_int | exact refN_ref (by omega)) (by intro v hv; simp only [List.mem_cons, List.not_mem_nil, or_false] at hv; rcases hv with rfl <;> first | exact refN_int | exact refN_ref (by omega)) (by decide) (by decide) ?_
  refine a_putR (pc := 17) dX6_init_17 fd_X6_15 (ga_ (ga_ hk)) rfl (by omega) (fun _ => rfl) (fun _ => rfl) ?_
  refine a_aload_n (pc := 20) (x := k) dX6_init_20 rfl ?_
  refine a_bipush (pc := 21) (v := (8 : Int32)) dX6_init_21 (by decide) ?_
  refine a_newarr_ (pc := 23) (n := n + 2) (t := 0) (k := 8) (by decide) rfl dX6_init_23 w_66 (by decide) (by decide) (by decide) (la_ (la_ hn)) (RLm_F (RLm.more (RLm_F (RLm.more hR (Nat.le_succ _)) (by omega)) (Nat.le_succ _)) (by omega)) (Fr0_F (Fr0.more (Fr0_F (Fr0.more hF (Nat.le_succ _)) (by omega)) (Nat.le_succ _)) (by omega)) (by omega) (by omega) (by intro v hv; simp only [List.mem_cons, List.not_mem_nil, or_false] at hv; rcases hv with rfl <;> first | exact refN_int | exact refN_ref (by omega)) (by intro v hv; simp only [List.mem_cons, List.not_mem_nil, or_false] at hv; rcases hv with rfl <;> first | exact refN_int | exact refN_ref (by omega)) (by decide) (by decide) ?_
  refine a_putR (pc := 25) dX6_init_25 fd_X6_18 (ga_ (ga_ (ga_ hk))) rfl (by omega) (fun _ => rfl) (fun _ => rfl) ?_
  refine a_aload_n (pc := 28) (x := k) dX6_init_28 rfl ?_
  refine a_bipush (pc := 29) (v := (40 : Int32)) dX6_init_29 (by decide) ?_
  refine a_newarr_ (pc := 31) (n := n + 3) (t := 0) (k := 40) (by decide) rfl dX6_init_31 w_66 (by decide) (by decide) (by decide) (la_ (la_ (la_ hn))) (RLm_F (RLm.more (RLm_F (RLm.more (RLm_F (RLm.more hR (Nat.le_succ _)) (by omega)) (Nat.le_succ _)) (by omega)) (Nat.le_succ _)) (by omega)) (Fr0_F (Fr0.more (Fr0_F (Fr0.more (Fr0_F (Fr0.more hF (Nat.le_succ _)) (by omega)) (Nat.le_succ _)) (by omega)) (Nat.le_succ _)) (by omega)) (by omega) (by omega) (by intro v hv; simp only [List.mem_cons, List.not_mem_nil, or_false] at hv; rcases hv with rfl <;> first | exact refN_int | exact refN_ref (by omega)) (by intro v hv; simp only [List.mem_cons, List.not_mem_nil, or_false] at hv; rcases hv with rfl <;> first | exact refN_int | exact refN_ref (by omega)) (by decide) (by decide) ?_
  refine a_putR (pc := 33) dX6_init_33 fd_X6_21 (ga_ (ga_ (ga_ (ga_ hk)))) rfl (by omega) (fun _ => rfl) (fun _ => rfl) ?_
  refine a_aload_n (pc := 36) (x := k) dX6_init_36 rfl ?_
  refine a_bipush (pc := 37) (v := (40 : Int32)) dX6_init_37 (by decide) ?_
  refine a_newarr_ (pc := 39) (n := n + 4) (t := 0) (k := 40) (by decide) rfl dX6_init_39 w_66 (by decide) (by decide) (by decide) (la_ (la_ (la_ (la_ hn)))) (RLm_F (RLm.more (RLm_F (RLm.more (RLm_F (RLm.more (RLm_F (RLm.more hR (Nat.le_succ _)) (by omega)) (Nat.le_succ _)) (by omega)) (Nat.le_succ _)) (by omega)) (Nat.le_succ _)) (by omega)) (Fr0_F (Fr0.more (Fr0_F (Fr0.more (Fr0_F (Fr0.more (Fr0_F (Fr0.more hF (Nat.le_succ _)) (by omega)) (Nat.le_succ _)) (by omega)) (Nat.le_succ _)) (by omega)) (Nat.le_succ _)) (by omega)) (by omega) (by omega) (by intro v hv; simp only [List.mem_cons, List.not_mem_nil, or_false] at hv; rcases hv with rfl <;> first | exact refN_int | exact refN_ref (by omega)) (by intro v hv; simp only [List.mem_cons, List.not_mem_nil, or_false] at hv; rcases hv with rfl <;> first | exact refN_int | exact refN_ref (by omega)) (by decide) (by decide) ?_
  refine a_putR (pc := 41) dX6_init_41 fd_X6_24 (ga_ (ga_ (ga_ (ga_ (ga_ hk))))) rfl (by omega) (fun _ => rfl) (fun _ => rfl) ?_
  refine a_aload_n (pc := 44) (x := k) dX6_init_44 rfl ?_
  refine a_bipush (pc := 45) (v := (40 : Int32)) dX6_init_45 (by decide) ?_
  refine a_newarr_ (pc := 47) (n := n + 5) (t := 0) (k := 40) (by decide) rfl dX6_init_47 w_66 (by decide) (by decide) (by decide) (la_ (la_ (la_ (la_ (la_ hn))))) (RLm_F (RLm.more (RLm_F (RLm.more (RLm_F (RLm.more (RLm_F (RLm.more (RLm_F (RLm.more hR (Nat.le_succ _)) (by omega)) (Nat.le_succ _)) (by omega)) (Nat.le_succ _)) (by omega)) (Nat.le_succ _)) (by omega)) (Nat.le_succ _)) (by omega)) (Fr0_F (Fr0.more (Fr0_F (Fr0.more (Fr0_F (Fr0.more (Fr0_F (Fr0.more (Fr0_F (Fr0.more hF (Nat.le_succ _)) (by omega)) (Nat.le_succ _)) (by omega)) (Nat.le_succ _)) (by omega)) (Nat.le_succ _)) (by omega)) (Nat.le_succ _)) (by omega)) (by omega) (by omega) (by intro v hv; simp only [List.mem_cons, List.not_mem_nil, or_false] at hv; rcases hv with rfl <;> first | exact refN_int | exact refN_ref (by omega)) (by intro v hv; simp only [List.mem_cons, List.not_mem_nil, or_false] at hv; rcases hv with rfl <;> first | exact refN_int | exact refN_ref (by omega)) (by decide) (by decide) ?_
  refine a_putR (pc := 49) dX6_init_49 fd_X6_27 (ga_ (ga_ (ga_ (ga_ (ga_ (ga_ hk)))))) rfl (by omega) (fun _ => rfl) (fun _ => rfl) ?_
  refine a_aload_n (pc := 52) (x := k) dX6_init_52 rfl ?_
  refine a_new_ (pc := 53) (n := n + 6) dX6_init_53 no_X6_30 (la_ (la_ (la_ (la_ (la_ (la_ hn)))))) (RLm_F (RLm.more (RLm_F (RLm.more (RLm_F (RLm.more (RLm_F (RLm.more (RLm_F (RLm.more (RLm_F (RLm.more hR (Nat.le_succ _)) (by omega)) (Nat.le_succ _)) (by omega)) (Nat.le_succ _)) (by omega)) (Nat.le_succ _)) (by omega)) (Nat.le_succ _)) (by omega)) (Nat.le_succ _)) (by omega)) (Fr0_F (Fr0.more (Fr0_F (Fr0.more (Fr0_F (Fr0.more (Fr0_F (Fr0.more (Fr0_F (Fr0.more (Fr0_F (Fr0.more hF (Nat.le_succ _)) (by omega)) (Nat.le_succ _)) (by omega)) (Nat.le_succ _)) (by omega)) (Nat.le_succ _)) (by omega)) (Nat.le_succ _)) (by omega)) (Nat.le_succ _)) (by omega)) (by omega) (by omega) (by intro v hv; simp only [List.mem_cons, List.not_mem_nil, or_false] at hv; rcases hv with rfl <;> first | exact refN_int | exact refN_ref (by omega)) (by intro v hv; simp only [List.mem_cons, List.not_mem_nil, or_false] at hv; rcases hv with rfl <;> first | exact refN_int | exact refN_ref (by omega)) (by decide) (by decide) ?_
  refine a_dup (pc := 56) dX6_init_56 rfl ?_
  refine a_call_ (pc := 57) (n := n + 7) dX6_init_57 ci_X6_32 (by decide) (rc_X2 (gl_ (la_ (la_ (la_ (la_ (la_ (la_ hn))))))) (la_ (la_ (la_ (la_ (la_ (la_ (la_ hn))))))) (RLm.more (RLm_F (RLm.more (RLm_F (RLm.more (RLm_F (RLm.more (RLm_F (RLm.more (RLm_F (RLm.more (RLm_F (RLm.more hR (Nat.le_succ _)) (by omega)) (Nat.le_succ _)) (by omega)) (Nat.le_succ _)) (by omega)) (Nat.le_succ _)) (by omega)) (Nat.le_succ _)) (by omega)) (Nat.le_succ _)) (by omega)) (Nat.le_succ _)) (Fr0.more (Fr0_F (Fr0.more (Fr0_F (Fr0.more (Fr0_F (Fr0.more (Fr0_F (Fr0.more (Fr0_F (Fr0.more (Fr0_F (Fr0.more hF (Nat.le_succ _)) (by omega)) (Nat.le_succ _)) (by omega)) (Nat.le_succ _)) (by omega)) (Nat.le_succ _)) (by omega)) (Nat.le_succ _)) (by omega)) (Nat.le_succ _)) (by omega)) (Nat.le_succ _)) (by omega) (by omega) (by omega)) (la_ (la_ (la_ (la_ (la_ (la_ (la_ hn))))))) (by omega) (by intro v hv; simp only [List.mem_cons, List.not_mem_nil, or_false] at hv; rcases hv with rfl <;> first | exact refN_int | exact refN_ref (by omega)) (by intro v hv; simp only [List.mem_cons, List.not_mem_nil, or_false] at hv; rcases hv with rfl | rfl <;> first | exact refN_int | exact refN_ref (by omega)) (Nat.le_of_ble_eq_true rfl) (by decide) (by decide) ?_
  refine a_putR (pc := 60) dX6_init_60 fd_X6_33 (tg_X2 (ga_ (ga_ (ga_ (ga_ (ga_ (ga_ (ga_ hk)))))))) rfl (by omega) (fun _ => rfl) (fun _ => rfl) ?_
  refine a_aload_n (pc := 63) (x := k) dX6_init_63 rfl ?_
  refine a_iconst (pc := 64) (v := (0 : Int32)) dX6_init_64 (by decide) ?_
  refine a_putI (pc := 65) dX6_init_65 fd_X6_37 (tg_X2 (ga_ (ga_ (ga_ (ga_ (ga_ (ga_ (ga_ hk)))))))) rfl rfl rfl ?_
  refine a_aload_n (pc := 68) (x := k) dX6_init_68 rfl ?_
  refine a_iconst (pc := 69) (v := (0 : Int32)) dX6_init_69 (by decide) ?_
  refine a_putI (pc := 70) dX6_init_70 fd_X6_41 (tg_X2 (ga_ (ga_ (ga_ (ga_ (ga_ (ga_ (ga_ hk)))))))) rfl rfl rfl ?_
  exact a_vret (pc := 73) dX6_init_73
theorem dX8_init_0 : decode cX8_init 0 = .ok (.aload_n 0, 1) := by decide +kernel
theorem dX8_init_1 : decode cX8_init 1 = .ok (.invokespecial 3, 3) := by decide +kernel
theorem dX8_init_4 : decode cX8_init 4 = .ok (.aload_n 0, 1) := by decide +kernel
theorem dX8_init_5 : decode cX8_init 5 = .ok (.bipush 16, 2) := by decide +kernel
theorem dX8_init_7 : decode cX8_init 7 = .ok (.newarray .int, 2) := by decide +kernel
theorem dX8_init_9 : decode cX8_init 9 = .ok (.putfield 9, 3) := by decide +kernel
theorem dX8_init_12 : decode cX8_init 12 = .ok (.aload_n 0, 1) := by decide +kernel
theorem dX8_init_13 : decode cX8_init 13 = .ok (.bipush 16, 2) := by decide +kernel
theorem dX8_init_15 : decode cX8_init 15 = .ok (.newarray .int, 2) := by decide +kernel
theorem dX8_init_17 : decode cX8_init 17 = .ok (.putfield 15, 3) := by decide +kernel
theorem dX8_init_20 : decode cX8_init 20 = .ok (.aload_n 0, 1) := by decide +kernel
theorem dX8_init_21 : decode cX8_init 21 = .ok (.bipush 12, 2) := by decide +kernel
theorem dX8_init_23 : decode cX8_init 23 = .ok (.newarray .int, 2) := by decide +kernel
theorem dX8_init_25 : decode cX8_init 25 = .ok (.putfield 18, 3) := by decide +kernel
theorem dX8_init_28 : decode cX8_init 28 = .ok (.aload_n 0, 1) := by decide +kernel
theorem dX8_init_29 : decode cX8_init 29 = .ok (.bipush 12, 2) := by decide +kernel
theorem dX8_init_31 : decode cX8_init 31 = .ok (.newarray .int, 2) := by decide +kernel
theorem dX8_init_33 : decode cX8_init 33 = .ok (.putfield 21, 3) := by decide +kernel
theorem dX8_init_36 : decode cX8_init 36 = .ok (.aload_n 0, 1) := by decide +kernel
theorem dX8_init_37 : decode cX8_init 37 = .ok (.bipush 12, 2) := by decide +kernel
theorem dX8_init_39 : decode cX8_init 39 = .ok (.newarray .int, 2) := by decide +kernel
theorem dX8_init_41 : decode cX8_init 41 = .ok (.putfield 24, 3) := by decide +kernel
theorem dX8_init_44 : decode cX8_init 44 = .ok (.aload_n 0, 1) := by decide +kernel
theorem dX8_init_45 : decode cX8_init 45 = .ok (.bipush 12, 2) := by decide +kernel
theorem dX8_init_47 : decode cX8_init 47 = .ok (.newarray .int, 2) := by decide +kernel
theorem dX8_init_49 : decode cX8_init 49 = .ok (.putfield 27, 3) := by decide +kernel
theorem dX8_init_52 : decode cX8_init 52 = .ok (.aload_n 0, 1) := by decide +kernel
theorem dX8_init_53 : decode cX8_init 53 = .ok (.bipush 8, 2) := by decide +kernel
theorem dX8_init_55 : decode cX8_init 55 = .ok (.newarray .int, 2) := by decide +kernel
theorem dX8_init_57 : decode cX8_init 57 = .ok (.putfield 30, 3) := by decide +kernel
theorem dX8_init_60 : decode cX8_init 60 = .ok (.aload_n 0, 1) := by decide +kernel
theorem dX8_init_61 : decode cX8_init 61 = .ok (.new 33, 3) := by decide +kernel
theorem dX8_init_64 : decode cX8_init 64 = .ok (.dup, 1) := by decide +kernel
theorem dX8_init_65 : decode cX8_init 65 = .ok (.invokespecial 35, 3) := by decide +kernel
theorem dX8_init_68 : decode cX8_init 68 = .ok (.putfield 36, 3) := by decide +kernel
theorem dX8_init_71 : decode cX8_init 71 = .ok (.aload_n 0, 1) := by decide +kernel
theorem dX8_init_72 : decode cX8_init 72 = .ok (.iconst 0, 1) := by decide +kernel
theorem dX8_init_73 : decode cX8_init 73 = .ok (.putfield 40, 3) := by decide +kernel
theorem dX8_init_76 : decode cX8_init 76 = .ok (.aload_n 0, 1) := by decide +kernel
theorem dX8_init_77 : decode cX8_init 77 = .ok (.iconst 0, 1) := by decide +kernel
theorem dX8_init_78 : decode cX8_init 78 = .ok (.putfield 44, 3) := by decide +kernel
theorem dX8_init_81 : decode cX8_init 81 = .ok (.aload_n 0, 1) := by decide +kernel
theorem dX8_init_82 : decode cX8_init 82 = .ok (.iconst 0, 1) := by decide +kernel
theorem dX8_init_83 : decode cX8_init 83 = .ok (.putfield 47, 3) := by decide +kernel
theorem dX8_init_86 : decode cX8_init 86 = .ok (.aload_n 0, 1) := by decide +kernel
theorem dX8_init_87 : decode cX8_init 87 = .ok (.iconst 0, 1) := by decide +kernel
theorem dX8_init_88 : decode cX8_init 88 = .ok (.putfield 50, 3) := by decide +kernel
theorem dX8_init_91 : decode cX8_init 91 = .ok (.aload_n 0, 1) := by decide +kernel
theorem dX8_init_92 : decode cX8_init 92 = .ok (.iconst 0, 1) := by decide +kernel
theorem dX8_init_93 : decode cX8_init 93 = .ok (.putfield 53, 3) := by decide +kernel
theorem dX8_init_96 : decode cX8_init 96 = .ok (.aload_n 0, 1) := by decide +kernel
theorem dX8_init_97 : decode cX8_init 97 = .ok (.iconst 0, 1) := by decide +kernel
theorem dX8_init_98 : decode cX8_init 98 = .ok (.putfield 56, 3) := by decide +kernel
theorem dX8_init_101 : decode cX8_init 101 = .ok (.aload_n 0, 1) := by decide +kernel
theorem dX8_init_102 : decode cX8_init 102 = .ok (.iconst 2, 1) := by decide +kernel
theorem dX8_init_103 : decode cX8_init 103 = .ok (.putfield 59, 3) := by decide +kernel
theorem dX8_init_106 : decode cX8_init 106 = .ok (.aload_n 0, 1) := by decide +kernel
theorem dX8_init_107 : decode cX8_init 107 = .ok (.bipush 10, 2) := by decide +kernel
theorem dX8_init_109 : decode cX8_init 109 = .ok (.putfield 62, 3) := by decide +kernel
theorem dX8_init_112 : decode cX8_init 112 = .ok (.return_, 1) := by decide +kernel
theorem w_73 : (Jvm.Cond.methodLink "StiltTown$Town" (3 : Nat) ({ cls := "java/lang/Object", name := "<init>", desc := "()V" } : Jvm.MethodName)) ∈ bigW := tp_1 (List.mem_of_getElem? (i := 73) rfl) rfl
theorem oi_X8_3 : OI RX8 3 := ⟨w_73, w_27, w_28⟩
theorem fd_X8_9 : FD RX8 9 8 0 (.array .int) true := ⟨RX8, TX8, 16, tyX8, rfl, by decide, iX8, tyX8_ok, nmX8, w_132, rfl, rfl, rfl⟩
theorem fd_X8_15 : FD RX8 15 8 1 (.array .int) true := ⟨RX8, TX8, 16, tyX8, rfl, by decide, iX8, tyX8_ok, nmX8, w_135, rfl, rfl, rfl⟩
theorem fd_X8_18 : FD RX8 18 8 2 (.array .int) true := ⟨RX8, TX8, 16, tyX8, rfl, by decide, iX8, tyX8_ok, nmX8, w_138, rfl, rfl, rfl⟩
theorem fd_X8_21 : FD RX8 21 8 3 (.array .int) true := ⟨RX8, TX8, 16, tyX8, rfl, by decide, iX8, tyX8_ok, nmX8, w_140, rfl, rfl, rfl⟩
theorem fd_X8_24 : FD RX8 24 8 4 (.array .int) true := ⟨RX8, TX8, 16, tyX8, rfl, by decide, iX8, tyX8_ok, nmX8, w_142, rfl, rfl, rfl⟩
theorem fd_X8_27 : FD RX8 27 8 5 (.array .int) true := ⟨RX8, TX8, 16, tyX8, rfl, by decide, iX8, tyX8_ok, nmX8, w_144, rfl, rfl, rfl⟩
theorem fd_X8_30 : FD RX8 30 8 6 (.array .int) true := ⟨RX8, TX8, 16, tyX8, rfl, by decide, iX8, tyX8_ok, nmX8, w_146, rfl, rfl, rfl⟩
theorem w_74 : (Jvm.Cond.classLink "StiltTown$Town" (33 : Nat) "StiltTown$Laws") ∈ bigW := tp_1 (List.mem_of_getElem? (i := 74) rfl) rfl
theorem w_75 : (Jvm.Cond.instantiable "StiltTown$Laws" (13 : Nat)) ∈ bigW := tp_1 (List.mem_of_getElem? (i := 75) rfl) rfl
theorem no_X8_33 : NO RX8 33 1 13 svX1 := ⟨RX1, TX1, tyX1, rfl, w_74, w_75, w_5, iX1, tyX1_ok, by decide +kernel⟩
theorem w_77 : (Jvm.Cond.instanceMethod ({ cls := "StiltTown$Laws", name := "<init>", desc := "()V" } : Jvm.MethodName)) ∈ bigW := tp_1 (List.mem_of_getElem? (i := 77) rfl) rfl
theorem w_78 : (Jvm.Cond.code ({ cls := "StiltTown$Laws", name := "<init>", desc := "()V" } : Jvm.MethodName) prog_3_method_1_code (1 : Nat) (Option.none : Option Jvm.ClassFile.FieldType)) ∈ bigW := tp_1 (List.mem_of_getElem? (i := 78) rfl) rfl
theorem ci_X8_35 : CI RX8 35 e_X1_init := ⟨⟨"StiltTown", List.mem_of_getElem? (i := 3) rfl⟩, w_77, w_5, w_78, ⟨by decide +kernel, by decide +kernel, by decide +kernel⟩, by decide, rfl, rfl⟩
theorem fd_X8_36 : FD RX8 36 8 7 (.object "StiltTown$Laws") true := ⟨RX8, TX8, 16, tyX8, rfl, by decide, iX8, tyX8_ok, nmX8, w_150, rfl, rfl, rfl⟩
theorem fd_X8_40 : FD RX8 40 8 8 (.int) false := ⟨RX8, TX8, 16, tyX8, rfl, by decide, iX8, tyX8_ok, nmX8, w_153, rfl, rfl, rfl⟩
theorem fd_X8_44 : FD RX8 44 8 9 (.int) false := ⟨RX8, TX8, 16, tyX8, rfl, by decide, iX8, tyX8_ok, nmX8, w_158, rfl, rfl, rfl⟩
theorem fd_X8_47 : FD RX8 47 8 10 (.int) false := ⟨RX8, TX8, 16, tyX8, rfl, by decide, iX8, tyX8_ok, nmX8, w_161, rfl, rfl, rfl⟩
theorem fd_X8_50 : FD RX8 50 8 11 (.int) false := ⟨RX8, TX8, 16, tyX8, rfl, by decide, iX8, tyX8_ok, nmX8, w_164, rfl, rfl, rfl⟩
theorem fd_X8_53 : FD RX8 53 8 12 (.int) false := ⟨RX8, TX8, 16, tyX8, rfl, by decide, iX8, tyX8_ok, nmX8, w_167, rfl, rfl, rfl⟩
theorem fd_X8_56 : FD RX8 56 8 13 (.int) false := ⟨RX8, TX8, 16, tyX8, rfl, by decide, iX8, tyX8_ok, nmX8, w_169, rfl, rfl, rfl⟩
theorem fd_X8_59 : FD RX8 59 8 14 (.int) false := ⟨RX8, TX8, 16, tyX8, rfl, by decide, iX8, tyX8_ok, nmX8, w_174, rfl, rfl, rfl⟩
theorem fd_X8_62 : FD RX8 62 8 15 (.int) false := ⟨RX8, TX8, 16, tyX8, rfl, by decide, iX8, tyX8_ok, nmX8, w_179, rfl, rfl, rfl⟩
def tS_X8 (S : List SHP) : List SHP := tS_X1 (S ++ [.inl (0, 16, 0, 0)] ++ [.inl (0, 16, 0, 0)] ++ [.inl (0, 12, 0, 0)] ++ [.inl (0, 12, 0, 0)] ++ [.inl (0, 12, 0, 0)] ++ [.inl (0, 12, 0, 0)] ++ [.inl (0, 8, 0, 0)] ++ [.inr (1, svX1)])
def tm_X8 (mm : MM) (k n : Nat) : MM := wI (wI (wI (wI (wI (wI (wI (wI (wRf (tm_X1 (wRf (wRf (wRf (wRf (wRf (wRf (wRf (mm) (k) 0 (n)) (k) 1 (n + 1)) (k) 2 (n + 2)) (k) 3 (n + 3)) (k) 4 (n + 4)) (k) 5 (n + 5)) (k) 6 (n + 6)) (n + 7) (n + 8)) (k) 7 (n + 7)) (k) 8 (0 : Int32)) (k) 9 (0 : Int32)) (k) 10 (0 : Int32)) (k) 11 (0 : Int32)) (k) 12 (0 : Int32)) (k) 13 (0 : Int32)) (k) 14 (2 : Int32)) (k) 15 (10 : Int32)
theorem tg_X8 {S : List SHP} {k : Nat} {s : SHP} (hk : S[k]? = some s) : (tS_X8 S)[k]? = some s := (tg_X1 (ga_ (ga_ (ga_ (ga_ (ga_ (ga_ (ga_ (ga_ hk)))))))))
theorem tl_X8 {S : List SHP} {n : Nat} (hn : S.length = n) : (tS_X8 S).length = n + 13 := (tl_X1 (la_ (la_ (la_ (la_ (la_ (la_ (la_ (la_ hn)))))))))
theorem tr_X8 {mm : MM} {k n : Nat} (hR : RLm mm n) (h0 : k < n) : RLm (tm_X8 mm k n) (n + 13) := (RLm_F (tr_X1 (RLm.more (RLm_F (RLm.more (RLm_F (RLm.more (RLm_F (RLm.more (RLm_F (RLm.more (RLm_F (RLm.more (RLm_F (RLm.more (RLm_F (RLm.more hR (Nat.le_succ _)) (by omega)) (Nat.le_succ _)) (by omega)) (Nat.le_succ _)) (by omega)) (Nat.le_succ _)) (by omega)) (Nat.le_succ _)) (by omega)) (Nat.le_succ _)) (by omega)) (Nat.le_succ _)) (by omega)) (Nat.le_succ _)) (by omega)) (by omega))
theorem tf_X8 {mm : MM} {k n : Nat} (hF : Fr0 mm n) (h0 : k < n) : Fr0 (tm_X8 mm k n) (n + 13) := (Fr0_I (Fr0_I (Fr0_I (Fr0_I (Fr0_I (Fr0_I (Fr0_I (Fr0_I (Fr0_F (tf_X1 (Fr0.more (Fr0_F (Fr0.more (Fr0_F (Fr0.more (Fr0_F (Fr0.more (Fr0_F (Fr0.more (Fr0_F (Fr0.more (Fr0_F (Fr0.more (Fr0_F (Fr0.more hF (Nat.le_succ _)) (by omega)) (Nat.le_succ _)) (by omega)) (Nat.le_succ _)) (by omega)) (Nat.le_succ _)) (by omega)) (Nat.le_succ _)) (by omega)) (Nat.le_succ _)) (by omega)) (Nat.le_succ _)) (by omega)) (Nat.le_succ _)) (by omega)) (by omega)) (by omega)) (by omega)) (by omega)) (by omega)) (by omega)) (by omega)) (by omega)) (by omega))
theorem rc_X8 {S : List SHP} {mm : MM} {k n : Nat} (hk : S[k]? = some (.inr (8, svX8))) (hn : S.length = n) (hR : RLm mm n) (hF : Fr0 mm n) (hz : 0 < n) (h0 : k < n) (h9 : n + 13 < 1000) : RunsA e_X8_init 13 550 S (tS_X8 S) mm (tm_X8 mm k n) k := by
  refine runsA_of pl_X8 (Nat.le_of_ble_eq_true rfl) rfl rfl ?_
  refine a_aload_n (pc := 0) (x := k) dX8_init_0 rfl ?_
  refine a_obj (pc := 1) dX8_init_1 oi_X8_3 (by decide) (Nat.le_of_ble_eq_true rfl) ?_
  refine a_aload_n (pc := 4) (x := k) dX8_init_4 rfl ?_
  refine a_bipush (pc := 5) (v := (16 : Int32)) dX8_init_5 (by decide) ?_
  refine a_newarr_ (pc := 7) (n := n) (t := 0) (k := 16) (by decide) rfl dX8_init_7 w_66 (by decide) (by decide) (by decide) hn hR hF (by omega) (by omega) (by intro v hv; simp only [List.mem_cons, List.not_mem_nil, or_false] at hv; rcases hv with rfl <;> first | exact refN_int | exact refN_ref (by omega)) (by intro v hv; simp only [List.mem_cons, List.not_mem_nil, or_false] at hv; rcases hv with rfl <;> first | exact refN_int | exact refN_ref (by omega)) (by decide) (by decide) ?_
  refine a_putR (pc := 9) dX8_init_9 fd_X8_9 (ga_ hk) rfl (by omega) (fun _ => rfl) (fun _ => rfl) ?_
  refine a_aload_n (pc := 12) (x := k) dX8_init_12 rfl ?_
  refine a_bipush (pc := 13) (v := (16 : Int32)) dX8_init_13 (by decide) ?_
  refine a_newarr_ (pc := 15) (n := n + 1) (t := 0) (k := 16) (by decide) rfl dX8_init_15 w_66 (by decide) (by decide) (by decide) (la_ hn) (RLm_F (RLm.more hR (Nat.le_succ _)) (by omega)) (Fr0_F (Fr0.more hF (Nat.le_succ _)) (by omega)) (by omega) (by omega) (by intro v hv; simp only [List.mem_cons, List.not_mem_nil, or_false] at hv; rcases hv with rfl <;> first | exact refN_int | exact refN_ref (by omega)) (by intro v hv; simp only [List.mem_cons, List.not_mem_nil, or_false] at hv; rcases hv with rfl <;> first | exact refN_int | exact refN_ref (by omega)) (by decide) (by decide) ?_
  refine a_putR (pc := 17) dX8_init_17 fd_X8_15 (ga_ (ga_ hk)) rfl (by omega) (fun _ => rfl) (fun _ => rfl) ?_
  refine a_aload_n (pc := 20) (x := k) dX8_init_20 rfl ?_
  refine a_bipush (pc := 21) (v := (12 : Int32)) dX8_init_21 (by decide) ?_
  refine a_newarr_ (pc := 23) (n := n + 2) (t := 0) (k := 12) (by decide) rfl dX8_init_23 w_66 (by decide) (by decide) (by decide) (la_ (la_ hn)) (RLm_F (RLm.more (RLm_F (RLm.more hR (Nat.le_succ _)) (by omega)) (Nat.le_succ _)) (by omega)) (Fr0_F (Fr0.more (Fr0_F (Fr0.more hF (Nat.le_succ _)) (by omega)) (Nat.le_succ _)) (by omega)) (by omega) (by omega) (by intro v hv; simp only [List.mem_cons, List.not_mem_nil, or_false] at hv; rcases hv with rfl <;> first | exact refN_int | exact refN_ref (by omega)) (by intro v hv; simp only [List.mem_cons, List.not_mem_nil, or_false] at hv; rcases hv with rfl <;> first | exact refN_int | exact refN_ref (by omega)) (by decide) (by decide) ?_
  refine a_putR (pc := 25) dX8_init_25 fd_X8_18 (ga_ (ga_ (ga_ hk))) rfl (by omega) (fun _ => rfl) (fun _ => rfl) ?_
  refine a_aload_n (pc := 28) (x := k) dX8_init_28 rfl ?_
  refine a_bipush (pc := 29) (v := (12 : Int32)) dX8_init_29 (by decide) ?_
  refine a_newarr_ (pc := 31) (n := n + 3) (t := 0) (k := 12) (by decide) rfl dX8_init_31 w_66 (by decide) (by decide) (by decide) (la_ (la_ (la_ hn))) (RLm_F (RLm.more (RLm_F (RLm.more (RLm_F (RLm.more hR (Nat.le_succ _)) (by omega)) (Nat.le_succ _)) (by omega)) (Nat.le_succ _)) (by omega)) (Fr0_F (Fr0.more (Fr0_F (Fr0.more (Fr0_F (Fr0.more hF (Nat.le_succ _)) (by omega)) (Nat.le_succ _)) (by omega)) (Nat.le_succ _)) (by omega)) (by omega) (by omega) (by intro v hv; simp only [List.mem_cons, List.not_mem_nil, or_false] at hv; rcases hv with rfl <;> first | exact refN_int | exact refN_ref (by omega)) (by intro v hv; simp only [List.mem_cons, List.not_mem_nil, or_false] at hv; rcases hv with rfl <;> first | exact refN_int | exact refN_ref (by omega)) (by decide) (by decide) ?_
  refine a_putR (pc := 33) dX8_init_33 fd_X8_21 (ga_ (ga_ (ga_ (ga_ hk)))) rfl (by omega) (fun _ => rfl) (fun _ => rfl) ?_
  refine a_aload_n (pc := 36) (x := k) dX8_init_36 rfl ?_
  refine a_bipush (pc := 37) (v := (12 : Int32)) dX8_init_37 (by decide) ?_
  refine a_newarr_ (pc := 39) (n := n + 4) (t := 0) (k := 12) (by decide) rfl dX8_init_39 w_66 (by decide) (by decide) (by decide) (la_ (la_ (la_ (la_ hn)))) (RLm_F (RLm.more (RLm_F (RLm.more (RLm_F (RLm.more (RLm_F (RLm.more hR (Nat.le_succ _)) (by omega)) (Nat.le_succ _)) (by omega)) (Nat.le_succ _)) (by omega)) (Nat.le_succ _)) (by omega)) (Fr0_F (Fr0.more (Fr0_F (Fr0.more (Fr0_F (Fr0.more (Fr0_F (Fr0.more hF (Nat.le_succ _)) (by omega)) (Nat.le_succ _)) (by omega)) (Nat.le_succ _)) (by omega)) (Nat.le_succ _)) (by omega)) (by omega) (by omega) (by intro v hv; simp only [List.mem_cons, List.not_mem_nil, or_false] at hv; rcases hv with rfl <;> first | exact refN_int | exact refN_ref (by omega)) (by intro v hv; simp only [List.mem_cons, List.not_mem_nil, or_false] at hv; rcases hv with rfl <;> first | exact refN_int | exact refN_ref (by omega)) (by decide) (by decide) ?_
  refine a_putR (pc := 41) dX8_init_41 fd_X8_24 (ga_ (ga_ (ga_ (ga_ (ga_ hk))))) rfl (by omega) (fun _ => rfl) (fun _ => rfl) ?_
  refine a_aload_n (pc := 44) (x := k) dX8_init_44 rfl ?_
  refine a_bipush (pc := 45) (v := (12 : Int32)) dX8_init_45 (by decide) ?_
  refine a_newarr_ (pc := 47) (n := n + 5) (t := 0) (k := 12) (by decide) rfl dX8_init_47 w_66 (by decide) (by decide) (by decide) (la_ (la_ (la_ (la_ (la_ hn))))) (RLm_F (RLm.more (RLm_F (RLm.more (RLm_F (RLm.more (RLm_F (RLm.more (RLm_F (RLm.more hR (Nat.le_succ _)) (by omega)) (Nat.le_succ _)) (by omega)) (Nat.le_succ _)) (by omega)) (Nat.le_succ _)) (by omega)) (Nat.le_succ _)) (by omega)) (Fr0_F (Fr0.more (Fr0_F (Fr0.more (Fr0_F (Fr0.more (Fr0_F (Fr0.more (Fr0_F (Fr0.more hF (Nat.le_succ _)) (by omega)) (Nat.le_succ _)) (by omega)) (Nat.le_succ _)) (by omega)) (Nat.le_succ _)) (by omega)) (Nat.le_succ _)) (by omega)) (by omega) (by omega) (by intro v hv; simp only [List.mem_cons, List.not_mem_nil, or_false] at hv; rcases hv with rfl <;> first | exact refN_int | exact refN_ref (by omega)) (by intro v hv; simp only [List.mem_cons, List.not_mem_nil, or_false] at hv; rcases hv with rfl <;> first | exact refN_int | exact refN_ref (by omega)) (by decide) (by decide) ?_
  refine a_putR (pc := 49) dX8_init_49 fd_X8_27 (ga_ (ga_ (ga_ (ga_ (ga_ (ga_ hk)))))) rfl (by omega) (fun _ => rfl) (fun _ => rfl) ?_
  refine a_aload_n (pc := 52) (x := k) dX8_init_52 rfl ?_
  refine a_bipush (pc := 53) (v := (8 : Int32)) dX8_init_53 (by decide) ?_
  refine a_newarr_ (pc := 55) (n := n + 6) (t := 0) (k := 8) (by decide) rfl dX8_init_55 w_66 (by decide) (by decide) (by decide) (la_ (la_ (la_ (la_ (la_ (la_ hn)))))) (RLm_F (RLm.more (RLm_F (RLm.more (RLm_F (RLm.more (RLm_F (RLm.more (RLm_F (RLm.more (RLm_F (RLm.more hR (Nat.le_succ _)) (by omega)) (Nat.le_succ _)) (by omega)) (Nat.le_succ _)) (by omega)) (Nat.le_succ _)) (by omega)) (Nat.le_succ _)) (by omega)) (Nat.le_succ _)) (by omega)) (Fr0_F (Fr0.more (Fr0_F (Fr0.more (Fr0_F (Fr0.more (Fr0_F (Fr0.more (Fr0_F (Fr0.more (Fr0_F (Fr0.more hF (Nat.le_succ _)) (by omega)) (Nat.le_succ _)) (by omega)) (Nat.le_succ _)) (by omega)) (Nat.le_succ _)) (by omega)) (Nat.le_succ _)) (by omega)) (Nat.le_succ _)) (by omega)) (by omega) (by omega) (by intro v hv; simp only [List.mem_cons, List.not_mem_nil, or_false] at hv; rcases hv with rfl <;> first | exact refN_int | exact refN_ref (by omega)) (by intro v hv; simp only [List.mem_cons, List.not_mem_nil, or_false] at hv; rcases hv with rfl <;> first | exact refN_int | exact refN_ref (by omega)) (by decide) (by decide) ?_
  refine a_putR (pc := 57) dX8_init_57 fd_X8_30 (ga_ (ga_ (ga_ (ga_ (ga_ (ga_ (ga_ hk))))))) rfl (by omega) (fun _ => rfl) (fun _ => rfl) ?_
  refine a_aload_n (pc := 60) (x := k) dX8_init_60 rfl ?_
  refine a_new_ (pc := 61) (n := n + 7) dX8_init_61 no_X8_33 (la_ (la_ (la_ (la_ (la_ (la_ (la_ hn))))))) (RLm_F (RLm.more (RLm_F (RLm.more (RLm_F (RLm.more (RLm_F (RLm.more (RLm_F (RLm.more (RLm_F (RLm.more (RLm_F (RLm.more hR (Nat.le_succ _)) (by omega)) (Nat.le_succ _)) (by omega)) (Nat.le_succ _)) (by omega)) (Nat.le_succ _)) (by omega)) (Nat.le_succ _)) (by omega)) (Nat.le_succ _)) (by omega)) (Nat.le_succ _)) (by omega)) (Fr0_F (Fr0.more (Fr0_F (Fr0.more (Fr0_F (Fr0.more (Fr0_F (Fr0.more (Fr0_F (Fr0.more (Fr0_F (Fr0.more (Fr0_F (Fr0.more hF (Nat.le_succ _)) (by omega)) (Nat.le_succ _)) (by omega)) (Nat.le_succ _)) (by omega)) (Nat.le_succ _)) (by omega)) (Nat.le_succ _)) (by omega)) (Nat.le_succ _)) (by omega)) (Nat.le_succ _)) (by omega)) (by omega) (by omega) (by intro v hv; simp only [List.mem_cons, List.not_mem_nil, or_false] at hv; rcases hv with rfl <;> first | exact refN_int | exact refN_ref (by omega)) (by intro v hv; simp only [List.mem_cons, List.not_mem_nil, or_false] at hv; rcases hv with rfl <;> first | exact refN_int | exact refN_ref (by omega)) (by decide) (by decide) ?_
  refine a_dup (pc := 64) dX8_init_64 rfl ?_
  refine a_call_ (pc := 65) (n := n + 8) dX8_init_65 ci_X8_35 (by decide) (rc_X1 (gl_ (la_ (la_ (la_ (la_ (la_ (la_ (la_ hn)))))))) (la_ (la_ (la_ (la_ (la_ (la_ (la_ (la_ hn)))))))) (RLm.more (RLm_F (RLm.more (RLm_F (RLm.more (RLm_F (RLm.more (RLm_F (RLm.more (RLm_F (RLm.more (RLm_F (RLm.more (RLm_F (RLm.more hR (Nat.le_succ _)) (by omega)) (Nat.le_succ _)) (by omega)) (Nat.le_succ _)) (by omega)) (Nat.le_succ _)) (by omega)) (Nat.le_succ _)) (by omega)) (Nat.le_succ _)) (by omega)) (Nat.le_succ _)) (by omega)) (Nat.le_succ _)) (Fr0.more (Fr0_F (Fr0.more (Fr0_F (Fr0.more (Fr0_F (Fr0.more (Fr0_F (Fr0.more (Fr0_F (Fr0.more (Fr0_F (Fr0.more (Fr0_F (Fr0.more hF (Nat.le_succ _)) (by omega)) (Nat.le_succ _)) (by omega)) (Nat.le_succ _)) (by omega)) (Nat.le_succ _)) (by omega)) (Nat.le_succ _)) (by omega)) (Nat.le_succ _)) (by omega)) (Nat.le_succ _)) (by omega)) (Nat.le_succ _)) (by omega) (by omega) (by omega)) (la_ (la_ (la_ (la_ (la_ (la_ (la_ (la_ hn)))))))) (by omega) (by intro v hv; simp only [List.mem_cons, List.not_mem_nil, or_false] at hv; rcases hv with rfl <;> first | exact refN_int | exact refN_ref (by omega)) (by intro v hv; simp only [List.mem_cons, List.not_mem_nil, or_false] at hv; rcases hv with rfl | rfl <;> first | exact refN_int | exact refN_ref (by omega)) (Nat.le_of_ble_eq_true rfl) (by decide) (by decide) ?_
  refine a_putR (pc := 68) dX8_init_68 fd_X8_36 (tg_X1 (ga_ (ga_ (ga_ (ga_ (ga_ (ga_ (ga_ (ga_ hk))))))))) rfl (by omega) (fun _ => rfl) (fun _ => rfl) ?_
  refine a_aload_n (pc := 71) (x := k) dX8_init_71 rfl ?_
  refine a_iconst (pc := 72) (v := (0 : Int32)) dX8_init_72 (by decide) ?_
  refine a_putI (pc := 73) dX8_init_73 fd_X8_40 (tg_X1 (ga_ (ga_ (ga_ (ga_ (ga_ (ga_ (ga_ (ga_ hk))))))))) rfl rfl rfl ?_
  refine a_aload_n (pc := 76) (x := k) dX8_init_76 rfl ?_
  refine a_iconst (pc := 77) (v := (0 : Int32)) dX8_init_77 (by decide) ?_
  refine a_putI (pc := 78) dX8_init_78 fd_X8_44 (tg_X1 (ga_ (ga_ (ga_ (ga_ (ga_ (ga_ (ga_ (ga_ hk))))))))) rfl rfl rfl ?_
  refine a_aload_n (pc := 81) (x := k) dX8_init_81 rfl ?_
  refine a_iconst (pc := 82) (v := (0 : Int32)) dX8_init_82 (by decide) ?_
  refine a_putI (pc := 83) dX8_init_83 fd_X8_47 (tg_X1 (ga_ (ga_ (ga_ (ga_ (ga_ (ga_ (ga_ (ga_ hk))))))))) rfl rfl rfl ?_
  refine a_aload_n (pc := 86) (x := k) dX8_init_86 rfl ?_
  refine a_iconst (pc := 87) (v := (0 : Int32)) dX8_init_87 (by decide) ?_
  refine a_putI (pc := 88) dX8_init_88 fd_X8_50 (tg_X1 (ga_ (ga_ (ga_ (ga_ (ga_ (ga_ (ga_ (ga_ hk))))))))) rfl rfl rfl ?_
  refine a_aload_n (pc := 91) (x := k) dX8_init_91 rfl ?_
  refine a_iconst (pc := 92) (v := (0 : Int32)) dX8_init_92 (by decide) ?_
  refine a_putI (pc := 93) dX8_init_93 fd_X8_53 (tg_X1 (ga_ (ga_ (ga_ (ga_ (ga_ (ga_ (ga_ (ga_ hk))))))))) rfl rfl rfl ?_
  refine a_aload_n (pc := 96) (x := k) dX8_init_96 rfl ?_
  refine a_iconst (pc := 97) (v := (0 : Int32)) dX8_init_97 (by decide) ?_
  refine a_putI (pc := 98) dX8_init_98 fd_X8_56 (tg_X1 (ga_ (ga_ (ga_ (ga_ (ga_ (ga_ (ga_ (ga_ hk))))))))) rfl rfl rfl ?_
  refine a_aload_n (pc := 101) (x := k) dX8_init_101 rfl ?_
  refine a_iconst (pc := 102) (v := (2 : Int32)) dX8_init_102 (by decide) ?_
  refine a_putI (pc := 103) dX8_init_103 fd_X8_59 (tg_X1 (ga_ (ga_ (ga_ (ga_ (ga_ (ga_ (ga_ (ga_ hk))))))))) rfl rfl rfl ?_
  refine a_aload_n (pc := 106) (x := k) dX8_init_106 rfl ?_
  refine a_bipush (pc := 107) (v := (10 : Int32)) dX8_init_107 (by decide) ?_
  refine a_putI (pc := 109) dX8_init_109 fd_X8_62 (tg_X1 (ga_ (ga_ (ga_ (ga_ (ga_ (ga_ (ga_ (ga_ hk))))))))) rfl rfl rfl ?_
  exact a_vret (pc := 112) dX8_init_112
theorem dX4_init_0 : decode cX4_init 0 = .ok (.aload_n 0, 1) := by decide +kernel
theorem dX4_init_1 : decode cX4_init 1 = .ok (.invokespecial 3, 3) := by decide +kernel
theorem dX4_init_4 : decode cX4_init 4 = .ok (.aload_n 0, 1) := by decide +kernel
theorem dX4_init_5 : decode cX4_init 5 = .ok (.bipush 28, 2) := by decide +kernel
theorem dX4_init_7 : decode cX4_init 7 = .ok (.newarray .long, 2) := by decide +kernel
theorem dX4_init_9 : decode cX4_init 9 = .ok (.putfield 9, 3) := by decide +kernel
theorem dX4_init_12 : decode cX4_init 12 = .ok (.aload_n 0, 1) := by decide +kernel
theorem dX4_init_13 : decode cX4_init 13 = .ok (.bipush 28, 2) := by decide +kernel
theorem dX4_init_15 : decode cX4_init 15 = .ok (.newarray .int, 2) := by decide +kernel
theorem dX4_init_17 : decode cX4_init 17 = .ok (.putfield 15, 3) := by decide +kernel
theorem dX4_init_20 : decode cX4_init 20 = .ok (.aload_n 0, 1) := by decide +kernel
theorem dX4_init_21 : decode cX4_init 21 = .ok (.sipush 400, 3) := by decide +kernel
theorem dX4_init_24 : decode cX4_init 24 = .ok (.newarray .int, 2) := by decide +kernel
theorem dX4_init_26 : decode cX4_init 26 = .ok (.putfield 19, 3) := by decide +kernel
theorem dX4_init_29 : decode cX4_init 29 = .ok (.aload_n 0, 1) := by decide +kernel
theorem dX4_init_30 : decode cX4_init 30 = .ok (.new 22, 3) := by decide +kernel
theorem dX4_init_33 : decode cX4_init 33 = .ok (.dup, 1) := by decide +kernel
theorem dX4_init_34 : decode cX4_init 34 = .ok (.invokespecial 24, 3) := by decide +kernel
theorem dX4_init_37 : decode cX4_init 37 = .ok (.putfield 25, 3) := by decide +kernel
theorem dX4_init_40 : decode cX4_init 40 = .ok (.aload_n 0, 1) := by decide +kernel
theorem dX4_init_41 : decode cX4_init 41 = .ok (.new 29, 3) := by decide +kernel
theorem dX4_init_44 : decode cX4_init 44 = .ok (.dup, 1) := by decide +kernel
theorem dX4_init_45 : decode cX4_init 45 = .ok (.invokespecial 31, 3) := by decide +kernel
theorem dX4_init_48 : decode cX4_init 48 = .ok (.putfield 32, 3) := by decide +kernel
theorem dX4_init_51 : decode cX4_init 51 = .ok (.aload_n 0, 1) := by decide +kernel
theorem dX4_init_52 : decode cX4_init 52 = .ok (.new 36, 3) := by decide +kernel
theorem dX4_init_55 : decode cX4_init 55 = .ok (.dup, 1) := by decide +kernel
theorem dX4_init_56 : decode cX4_init 56 = .ok (.invokespecial 38, 3) := by decide +kernel
theorem dX4_init_59 : decode cX4_init 59 = .ok (.putfield 39, 3) := by decide +kernel
theorem dX4_init_62 : decode cX4_init 62 = .ok (.aload_n 0, 1) := by decide +kernel
theorem dX4_init_63 : decode cX4_init 63 = .ok (.iconst 0, 1) := by decide +kernel
theorem dX4_init_64 : decode cX4_init 64 = .ok (.putfield 43, 3) := by decide +kernel
theorem dX4_init_67 : decode cX4_init 67 = .ok (.aload_n 0, 1) := by decide +kernel
theorem dX4_init_68 : decode cX4_init 68 = .ok (.iconst 0, 1) := by decide +kernel
theorem dX4_init_69 : decode cX4_init 69 = .ok (.putfield 47, 3) := by decide +kernel
theorem dX4_init_72 : decode cX4_init 72 = .ok (.aload_n 0, 1) := by decide +kernel
theorem dX4_init_73 : decode cX4_init 73 = .ok (.iconst (-1), 1) := by decide +kernel
theorem dX4_init_74 : decode cX4_init 74 = .ok (.putfield 50, 3) := by decide +kernel
theorem dX4_init_77 : decode cX4_init 77 = .ok (.aload_n 0, 1) := by decide +kernel
theorem dX4_init_78 : decode cX4_init 78 = .ok (.iconst 0, 1) := by decide +kernel
theorem dX4_init_79 : decode cX4_init 79 = .ok (.putfield 53, 3) := by decide +kernel
theorem dX4_init_82 : decode cX4_init 82 = .ok (.aload_n 0, 1) := by decide +kernel
theorem dX4_init_83 : decode cX4_init 83 = .ok (.iconst (-1), 1) := by decide +kernel
theorem dX4_init_84 : decode cX4_init 84 = .ok (.putfield 56, 3) := by decide +kernel
theorem dX4_init_87 : decode cX4_init 87 = .ok (.aload_n 0, 1) := by decide +kernel
theorem dX4_init_88 : decode cX4_init 88 = .ok (.iconst 0, 1) := by decide +kernel
theorem dX4_init_89 : decode cX4_init 89 = .ok (.putfield 59, 3) := by decide +kernel
theorem dX4_init_92 : decode cX4_init 92 = .ok (.aload_n 0, 1) := by decide +kernel
theorem dX4_init_93 : decode cX4_init 93 = .ok (.iconst 0, 1) := by decide +kernel
theorem dX4_init_94 : decode cX4_init 94 = .ok (.putfield 62, 3) := by decide +kernel
theorem dX4_init_97 : decode cX4_init 97 = .ok (.aload_n 0, 1) := by decide +kernel
theorem dX4_init_98 : decode cX4_init 98 = .ok (.iconst 0, 1) := by decide +kernel
theorem dX4_init_99 : decode cX4_init 99 = .ok (.putfield 65, 3) := by decide +kernel
theorem dX4_init_102 : decode cX4_init 102 = .ok (.aload_n 0, 1) := by decide +kernel
theorem dX4_init_103 : decode cX4_init 103 = .ok (.iconst 0, 1) := by decide +kernel
theorem dX4_init_104 : decode cX4_init 104 = .ok (.putfield 68, 3) := by decide +kernel
theorem dX4_init_107 : decode cX4_init 107 = .ok (.aload_n 0, 1) := by decide +kernel
theorem dX4_init_108 : decode cX4_init 108 = .ok (.iconst 0, 1) := by decide +kernel
theorem dX4_init_109 : decode cX4_init 109 = .ok (.putfield 71, 3) := by decide +kernel
theorem dX4_init_112 : decode cX4_init 112 = .ok (.aload_n 0, 1) := by decide +kernel
theorem dX4_init_113 : decode cX4_init 113 = .ok (.iconst 0, 1) := by decide +kernel
theorem dX4_init_114 : decode cX4_init 114 = .ok (.putfield 74, 3) := by decide +kernel
theorem dX4_init_117 : decode cX4_init 117 = .ok (.aload_n 0, 1) := by decide +kernel
theorem dX4_init_118 : decode cX4_init 118 = .ok (.iconst 0, 1) := by decide +kernel
theorem dX4_init_119 : decode cX4_init 119 = .ok (.putfield 78, 3) := by decide +kernel
theorem dX4_init_122 : decode cX4_init 122 = .ok (.return_, 1) := by decide +kernel
theorem w_34 : (Jvm.Cond.methodLink "StiltTown$Reader" (3 : Nat) ({ cls := "java/lang/Object", name := "<init>", desc := "()V" } : Jvm.MethodName)) ∈ bigW := tp_1 (List.mem_of_getElem? (i := 34) rfl) rfl
theorem oi_X4_3 : OI RX4 3 := ⟨w_34, w_27, w_28⟩
theorem fd_X4_9 : FD RX4 9 4 0 (.array .long) true := ⟨RX4, TX4, 18, tyX4, rfl, by decide, iX4, tyX4_ok, nmX4, w_300, rfl, rfl, rfl⟩
theorem fd_X4_15 : FD RX4 15 4 1 (.array .int) true := ⟨RX4, TX4, 18, tyX4, rfl, by decide, iX4, tyX4_ok, nmX4, w_301, rfl, rfl, rfl⟩
theorem fd_X4_19 : FD RX4 19 4 2 (.array .int) true := ⟨RX4, TX4, 18, tyX4, rfl, by decide, iX4, tyX4_ok, nmX4, w_302, rfl, rfl, rfl⟩
theorem w_35 : (Jvm.Cond.classLink "StiltTown$Reader" (22 : Nat) "StiltTown$Tokens") ∈ bigW := tp_1 (List.mem_of_getElem? (i := 35) rfl) rfl
theorem w_36 : (Jvm.Cond.instantiable "StiltTown$Tokens" (6 : Nat)) ∈ bigW := tp_1 (List.mem_of_getElem? (i := 36) rfl) rfl
theorem no_X4_22 : NO RX4 22 7 6 svX7 := ⟨RX7, TX7, tyX7, rfl, w_35, w_36, w_3, iX7, tyX7_ok, by decide +kernel⟩
theorem w_38 : (Jvm.Cond.instanceMethod ({ cls := "StiltTown$Tokens", name := "<init>", desc := "()V" } : Jvm.MethodName)) ∈ bigW := tp_1 (List.mem_of_getElem? (i := 38) rfl) rfl
theorem w_39 : (Jvm.Cond.code ({ cls := "StiltTown$Tokens", name := "<init>", desc := "()V" } : Jvm.MethodName) prog_9_method_1_code (1 : Nat) (Option.none : Option Jvm.ClassFile.FieldType)) ∈ bigW := tp_1 (List.mem_of_getElem? (i := 39) rfl) rfl
theorem ci_X4_24 : CI RX4 24 e_X7_init := ⟨⟨"StiltTown", List.mem_of_getElem? (i := 1) rfl⟩, w_38, w_3, w_39, ⟨by decide +kernel, by decide +kernel, by decide +kernel⟩, by decide, rfl, rfl⟩
theorem fd_X4_25 : FD RX4 25 4 3 (.object "StiltTown$Tokens") true := ⟨RX4, TX4, 18, tyX4, rfl, by decide, iX4, tyX4_ok, nmX4, w_304, rfl, rfl, rfl⟩
theorem w_68 : (Jvm.Cond.classLink "StiltTown$Reader" (29 : Nat) "StiltTown$Town") ∈ bigW := tp_1 (List.mem_of_getElem? (i := 68) rfl) rfl
theorem w_69 : (Jvm.Cond.instantiable "StiltTown$Town" (16 : Nat)) ∈ bigW := tp_1 (List.mem_of_getElem? (i := 69) rfl) rfl
theorem no_X4_29 : NO RX4 29 8 16 svX8 := ⟨RX8, TX8, tyX8, rfl, w_68, w_69, w_4, iX8, tyX8_ok, by decide +kernel⟩
theorem w_71 : (Jvm.Cond.instanceMethod ({ cls := "StiltTown$Town", name := "<init>", desc := "()V" } : Jvm.MethodName)) ∈ bigW := tp_1 (List.mem_of_getElem? (i := 71) rfl) rfl
theorem w_72 : (Jvm.Cond.code ({ cls := "StiltTown$Town", name := "<init>", desc := "()V" } : Jvm.MethodName) prog_10_method_1_code (1 : Nat) (Option.none : Option Jvm.ClassFile.FieldType)) ∈ bigW := tp_1 (List.mem_of_getElem? (i := 72) rfl) rfl
theorem ci_X4_31 : CI RX4 31 e_X8_init := ⟨⟨"StiltTown", List.mem_of_getElem? (i := 2) rfl⟩, w_71, w_4, w_72, ⟨by decide +kernel, by decide +kernel, by decide +kernel⟩, by decide, rfl, rfl⟩
theorem fd_X4_32 : FD RX4 32 4 4 (.object "StiltTown$Town") false := ⟨RX4, TX4, 18, tyX4, rfl, by decide, iX4, tyX4_ok, nmX4, w_305, rfl, rfl, rfl⟩
theorem w_216 : (Jvm.Cond.classLink "StiltTown$Reader" (36 : Nat) "StiltTown$State") ∈ bigW := tp_1 (List.mem_of_getElem? (i := 216) rfl) rfl
theorem w_217 : (Jvm.Cond.instantiable "StiltTown$State" (9 : Nat)) ∈ bigW := tp_1 (List.mem_of_getElem? (i := 217) rfl) rfl
theorem no_X4_36 : NO RX4 36 6 9 svX6 := ⟨RX6, TX6, tyX6, rfl, w_216, w_217, w_6, iX6, tyX6_ok, by decide +kernel⟩
theorem w_219 : (Jvm.Cond.instanceMethod ({ cls := "StiltTown$State", name := "<init>", desc := "()V" } : Jvm.MethodName)) ∈ bigW := tp_1 (List.mem_of_getElem? (i := 219) rfl) rfl
theorem w_220 : (Jvm.Cond.code ({ cls := "StiltTown$State", name := "<init>", desc := "()V" } : Jvm.MethodName) prog_8_method_1_code (1 : Nat) (Option.none : Option Jvm.ClassFile.FieldType)) ∈ bigW := tp_1 (List.mem_of_getElem? (i := 220) rfl) rfl
theorem ci_X4_38 : CI RX4 38 e_X6_init := ⟨⟨"StiltTown", List.mem_of_getElem? (i := 4) rfl⟩, w_219, w_6, w_220, ⟨by decide +kernel, by decide +kernel, by decide +kernel⟩, by decide, rfl, rfl⟩
theorem fd_X4_39 : FD RX4 39 4 5 (.object "StiltTown$State") false := ⟨RX4, TX4, 18, tyX4, rfl, by decide, iX4, tyX4_ok, nmX4, w_307, rfl, rfl, rfl⟩
theorem fd_X4_43 : FD RX4 43 4 6 (.int) false := ⟨RX4, TX4, 18, tyX4, rfl, by decide, iX4, tyX4_ok, nmX4, w_309, rfl, rfl, rfl⟩
theorem fd_X4_47 : FD RX4 47 4 7 (.int) false := ⟨RX4, TX4, 18, tyX4, rfl, by decide, iX4, tyX4_ok, nmX4, w_310, rfl, rfl, rfl⟩
theorem fd_X4_50 : FD RX4 50 4 8 (.int) false := ⟨RX4, TX4, 18, tyX4, rfl, by decide, iX4, tyX4_ok, nmX4, w_311, rfl, rfl, rfl⟩
theorem fd_X4_53 : FD RX4 53 4 9 (.int) false := ⟨RX4, TX4, 18, tyX4, rfl, by decide, iX4, tyX4_ok, nmX4, w_313, rfl, rfl, rfl⟩
theorem fd_X4_56 : FD RX4 56 4 10 (.int) false := ⟨RX4, TX4, 18, tyX4, rfl, by decide, iX4, tyX4_ok, nmX4, w_314, rfl, rfl, rfl⟩
theorem fd_X4_59 : FD RX4 59 4 11 (.int) false := ⟨RX4, TX4, 18, tyX4, rfl, by decide, iX4, tyX4_ok, nmX4, w_315, rfl, rfl, rfl⟩
theorem fd_X4_62 : FD RX4 62 4 12 (.int) false := ⟨RX4, TX4, 18, tyX4, rfl, by decide, iX4, tyX4_ok, nmX4, w_316, rfl, rfl, rfl⟩
theorem fd_X4_65 : FD RX4 65 4 13 (.int) false := ⟨RX4, TX4, 18, tyX4, rfl, by decide, iX4, tyX4_ok, nmX4, w_317, rfl, rfl, rfl⟩
theorem fd_X4_68 : FD RX4 68 4 14 (.int) false := ⟨RX4, TX4, 18, tyX4, rfl, by decide, iX4, tyX4_ok, nmX4, w_318, rfl, rfl, rfl⟩
theorem fd_X4_71 : FD RX4 71 4 15 (.int) false := ⟨RX4, TX4, 18, tyX4, rfl, by decide, iX4, tyX4_ok, nmX4, w_319, rfl, rfl, rfl⟩
theorem fd_X4_74 : FD RX4 74 4 16 (.boolean) false := ⟨RX4, TX4, 18, tyX4, rfl, by decide, iX4, tyX4_ok, nmX4, w_320, rfl, rfl, rfl⟩
theorem fd_X4_78 : FD RX4 78 4 17 (.boolean) false := ⟨RX4, TX4, 18, tyX4, rfl, by decide, iX4, tyX4_ok, nmX4, w_321, rfl, rfl, rfl⟩
def tS_X4 (S : List SHP) : List SHP := tS_X6 (tS_X8 (tS_X7 (S ++ [.inl (3, 28, 0, 0)] ++ [.inl (0, 28, 0, 0)] ++ [.inl (0, 400, 0, 0)] ++ [.inr (7, svX7)]) ++ [.inr (8, svX8)]) ++ [.inr (6, svX6)])
def tm_X4 (mm : MM) (k n : Nat) : MM := wI (wI (wI (wI (wI (wI (wI (wI (wI (wI (wI (wI (wRf (tm_X6 (wRf (tm_X8 (wRf (tm_X7 (wRf (wRf (wRf (mm) (k) 0 (n)) (k) 1 (n + 1)) (k) 2 (n + 2)) (n + 3) (n + 4)) (k) 3 (n + 3)) (n + 8) (n + 9)) (k) 4 (n + 8)) (n + 22) (n + 23)) (k) 5 (n + 22)) (k) 6 (0 : Int32)) (k) 7 (0 : Int32)) (k) 8 (-1 : Int32)) (k) 9 (0 : Int32)) (k) 10 (-1 : Int32)) (k) 11 (0 : Int32)) (k) 12 (0 : Int32)) (k) 13 (0 : Int32)) (k) 14 (0 : Int32)) (k) 15 (0 : Int32)) (k) 16 (0 : Int32)) (k) 17 (0 : Int32)
theorem tg_X4 {S : List SHP} {k : Nat} {s : SHP} (hk : S[k]? = some s) : (tS_X4 S)[k]? = some s := (tg_X6 (ga_ (tg_X8 (ga_ (tg_X7 (ga_ (ga_ (ga_ (ga_ hk)))))))))
theorem tl_X4 {S : List SHP} {n : Nat} (hn : S.length = n) : (tS_X4 S).length = n + 36 := (tl_X6 (la_ (tl_X8 (la_ (tl_X7 (la_ (la_ (la_ (la_ hn)))))))))
theorem tr_X4 {mm : MM} {k n : Nat} (hR : RLm mm n) (h0 : k < n) : RLm (tm_X4 mm k n) (n + 36) := (RLm_F (tr_X6 (RLm.more (RLm_F (tr_X8 (RLm.more (RLm_F (tr_X7 (RLm.more (RLm_F (RLm.more (RLm_F (RLm.more (RLm_F (RLm.more hR (Nat.le_succ _)) (by omega)) (Nat.le_succ _)) (by omega)) (Nat.le_succ _)) (by omega)) (Nat.le_succ _)) (by omega)) (by omega)) (Nat.le_succ _)) (by omega)) (by omega)) (Nat.le_succ _)) (by omega)) (by omega))
theorem tf_X4 {mm : MM} {k n : Nat} (hF : Fr0 mm n) (h0 : k < n) : Fr0 (tm_X4 mm k n) (n + 36) := (Fr0_I (Fr0_I (Fr0_I (Fr0_I (Fr0_I (Fr0_I (Fr0_I (Fr0_I (Fr0_I (Fr0_I (Fr0_I (Fr0_I (Fr0_F (tf_X6 (Fr0.more (Fr0_F (tf_X8 (Fr0.more (Fr0_F (tf_X7 (Fr0.more (Fr0_F (Fr0.more (Fr0_F (Fr0.more (Fr0_F (Fr0.more hF (Nat.le_succ _)) (by omega)) (Nat.le_succ _)) (by omega)) (Nat.le_succ _)) (by omega)) (Nat.le_succ _)) (by omega)) (by omega)) (Nat.le_succ _)) (by omega)) (by omega)) (Nat.le_succ _)) (by omega)) (by omega)) (by omega)) (by omega)) (by omega)) (by omega)) (by omega)) (by omega)) (by omega)) (by omega)) (by omega)) (by omega)) (by omega)) (by omega))
theorem rc_X4 {S : List SHP} {mm : MM} {k n : Nat} (hk : S[k]? = some (.inr (4, svX4))) (hn : S.length = n) (hR : RLm mm n) (hF : Fr0 mm n) (hz : 0 < n) (h0 : k < n) (h9 : n + 36 < 1000) : RunsA e_X4_init 36 4723 S (tS_X4 S) mm (tm_X4 mm k n) k := by
  refine runsA_of pl_X4 (Nat.le_of_ble_eq_true rfl) rfl rfl ?_
  refine a_aload_n (pc := 0) (x := k) dX4_init_0 rfl ?_
  refine a_obj (pc := 1) dX4_init_1 oi_X4_3 (by decide) (Nat.le_of_ble_eq_true rfl) ?_
  refine a_aload_n (pc := 4) (x := k) dX4_init_4 rfl ?_
  refine a_bipush (pc := 5) (v := (28 : Int32)) dX4_init_5 (by decide) ?_
  refine a_newarr_ (pc := 7) (n := n) (t := 3) (k := 28) (by decide) rfl dX4_init_7 w_65 (by decide) (by decide) (by decide) hn hR hF (by omega) (by omega) (by intro v hv; simp only [List.mem_cons, List.not_mem_nil, or_false] at hv; rcases hv with rfl <;> first | exact refN_int | exact refN_ref (by omega)) (by intro v hv; simp only [List.mem_cons, List.not_mem_nil, or_false] at hv; rcases hv with rfl <;> first | exact refN_int | exact refN_ref (by omega)) (by decide) (by decide) ?_
  refine a_putR (pc := 9) dX4_init_9 fd_X4_9 (ga_ hk) rfl (by omega) (fun _ => rfl) (fun _ => rfl) ?_
  refine a_aload_n (pc := 12) (x := k) dX4_init_12 rfl ?_
  refine a_bipush (pc := 13) (v := (28 : Int32)) dX4_init_13 (by decide) ?_
  refine a_newarr_ (pc := 15) (n := n + 1) (t := 0) (k := 28) (by decide) rfl dX4_init_15 w_66 (by decide) (by decide) (by decide) (la_ hn) (RLm_F (RLm.more hR (Nat.le_succ _)) (by omega)) (Fr0_F (Fr0.more hF (Nat.le_succ _)) (by omega)) (by omega) (by omega) (by intro v hv; simp only [List.mem_cons, List.not_mem_nil, or_false] at hv; rcases hv with rfl <;> first | exact refN_int | exact refN_ref (by omega)) (by intro v hv; simp only [List.mem_cons, List.not_mem_nil, or_false] at hv; rcases hv with rfl <;> first | exact refN_int | exact refN_ref (by omega)) (by decide) (by decide) ?_
  refine a_putR (pc := 17) dX4_init_17 fd_X4_15 (ga_ (ga_ hk)) rfl (by omega) (fun _ => rfl) (fun _ => rfl) ?_
  refine a_aload_n (pc := 20) (x := k) dX4_init_20 rfl ?_
  refine a_sipush (pc := 21) (v := (400 : Int32)) dX4_init_21 (by decide) ?_
  refine a_newarr_ (pc := 24) (n := n + 2) (t := 0) (k := 400) (by decide) rfl dX4_init_24 w_66 (by decide) (by decide) (by decide) (la_ (la_ hn)) (RLm_F (RLm.more (RLm_F (RLm.more hR (Nat.le_succ _)) (by omega)) (Nat.le_succ _)) (by omega)) (Fr0_F (Fr0.more (Fr0_F (Fr0.more hF (Nat.le_succ _)) (by omega)) (Nat.le_succ _)) (by omega)) (by omega) (by omega) (by intro v hv; simp only [List.mem_cons, List.not_mem_nil, or_false] at hv; rcases hv with rfl <;> first | exact refN_int | exact refN_ref (by omega)) (by intro v hv; simp only [List.mem_cons, List.not_mem_nil, or_false] at hv; rcases hv with rfl <;> first | exact refN_int | exact refN_ref (by omega)) (by decide) (by decide) ?_
  refine a_putR (pc := 26) dX4_init_26 fd_X4_19 (ga_ (ga_ (ga_ hk))) rfl (by omega) (fun _ => rfl) (fun _ => rfl) ?_
  refine a_aload_n (pc := 29) (x := k) dX4_init_29 rfl ?_
  refine a_new_ (pc := 30) (n := n + 3) dX4_init_30 no_X4_22 (la_ (la_ (la_ hn))) (RLm_F (RLm.more (RLm_F (RLm.more (RLm_F (RLm.more hR (Nat.le_succ _)) (by omega)) (Nat.le_succ _)) (by omega)) (Nat.le_succ _)) (by omega)) (Fr0_F (Fr0.more (Fr0_F (Fr0.more (Fr0_F (Fr0.more hF (Nat.le_succ _)) (by omega)) (Nat.le_succ _)) (by omega)) (Nat.le_succ _)) (by omega)) (by omega) (by omega) (by intro v hv; simp only [List.mem_cons, List.not_mem_nil, or_false] at hv; rcases hv with rfl <;> first | exact refN_int | exact refN_ref (by omega)) (by intro v hv; simp only [List.mem_cons, List.not_mem_nil, or_false] at hv; rcases hv with rfl <;> first | exact refN_int | exact refN_ref (by omega)) (by decide) (by decide) ?_
  refine a_dup (pc := 33) dX4_init_33 rfl ?_
  refine a_call_ (pc := 34) (n := n + 4) dX4_init_34 ci_X4_24 (by decide) (rc_X7 (gl_ (la_ (la_ (la_ hn)))) (la_ (la_ (la_ (la_ hn)))) (RLm.more (RLm_F (RLm.more (RLm_F (RLm.more (RLm_F (RLm.more hR (Nat.le_succ _)) (by omega)) (Nat.le_succ _)) (by omega)) (Nat.le_succ _)) (by omega)) (Nat.le_succ _)) (Fr0.more (Fr0_F (Fr0.more (Fr0_F (Fr0.more (Fr0_F (Fr0.more hF (Nat.le_succ _)) (by omega)) (Nat.le_succ _)) (by omega)) (Nat.le_succ _)) (by omega)) (Nat.le_succ _)) (by omega) (by omega) (by omega)) (la_ (la_ (la_ (la_ hn)))) (by omega) (by intro v hv; simp only [List.mem_cons, List.not_mem_nil, or_false] at hv; rcases hv with rfl <;> first | exact refN_int | exact refN_ref (by omega)) (by intro v hv; simp only [List.mem_cons, List.not_mem_nil, or_false] at hv; rcases hv with rfl | rfl <;> first | exact refN_int | exact refN_ref (by omega)) (Nat.le_of_ble_eq_true rfl) (by decide) (by decide) ?_
  refine a_putR (pc := 37) dX4_init_37 fd_X4_25 (tg_X7 (ga_ (ga_ (ga_ (ga_ hk))))) rfl (by omega) (fun _ => rfl) (fun _ => rfl) ?_
  refine a_aload_n (pc := 40) (x := k) dX4_init_40 rfl ?_
  refine a_new_ (pc := 41) (n := n + 8) dX4_init_41 no_X4_29 (tl_X7 (la_ (la_ (la_ (la_ hn))))) (RLm_F (tr_X7 (RLm.more (RLm_F (RLm.more (RLm_F (RLm.more (RLm_F (RLm.more hR (Nat.le_succ _)) (by omega)) (Nat.le_succ _)) (by omega)) (Nat.le_succ _)) (by omega)) (Nat.le_succ _)) (by omega)) (by omega)) (Fr0_F (tf_X7 (Fr0.more (Fr0_F (Fr0.more (Fr0_F (Fr0.more (Fr0_F (Fr0.more hF (Nat.le_succ _)) (by omega)) (Nat.le_succ _)) (by omega)) (Nat.le_succ _)) (by omega)) (Nat.le_succ _)) (by omega)) (by omega)) (by omega) (by omega) (by intro v hv; simp only [List.mem_cons, List.not_mem_nil, or_false] at hv; rcases hv with rfl <;> first | exact refN_int | exact refN_ref (by omega)) (by intro v hv; simp only [List.mem_cons, List.not_mem_nil, or_false] at hv; rcases hv with rfl <;> first | exact refN_int | exact refN_ref (by omega)) (by decide) (by decide) ?_
  refine a_dup (pc := 44) dX4_init_44 rfl ?_
  refine a_call_ (pc := 45) (n := n + 9) dX4_init_45 ci_X4_31 (by decide) (rc_X8 (gl_ (tl_X7 (la_ (la_ (la_ (la_ hn)))))) (la_ (tl_X7 (la_ (la_ (la_ (la_ hn)))))) (RLm.more (RLm_F (tr_X7 (RLm.more (RLm_F (RLm.more (RLm_F (RLm.more (RLm_F (RLm.more hR (Nat.le_succ _)) (by omega)) (Nat.le_succ _)) (by omega)) (Nat.le_succ _)) (by omega)) (Nat.le_succ _)) (by omega)) (by omega)) (Nat.le_succ _)) (Fr0.more (Fr0_F (tf_X7 (Fr0.more (Fr0_F (Fr0.more (Fr0_F (Fr0.more (Fr0_F (Fr0.more hF (Nat.le_succ _)) (by omega)) (Nat.le_succ _)) (by omega)) (Nat.le_succ _)) (by omega)) (Nat.le_succ _)) (by omega)) (by omega)) (Nat.le_succ _)) (by omega) (by omega) (by omega)) (la_ (tl_X7 (la_ (la_ (la_ (la_ hn)))))) (by omega) (by intro v hv; simp only [List.mem_cons, List.not_mem_nil, or_false] at hv; rcases hv with rfl <;> first | exact refN_int | exact refN_ref (by omega)) (by intro v hv; simp only [List.mem_cons, List.not_mem_nil, or_false] at hv; rcases hv with rfl | rfl <;> first | exact refN_int | exact refN_ref (by omega)) (Nat.le_of_ble_eq_true rfl) (by decide) (by decide) ?_
  refine a_putR (pc := 48) dX4_init_48 fd_X4_32 (tg_X8 (ga_ (tg_X7 (ga_ (ga_ (ga_ (ga_ hk))))))) rfl (by omega) (fun _ => rfl) (fun _ => rfl) ?_
  refine a_aload_n (pc := 51) (x := k) dX4_init_51 rfl ?_
  refine a_new_ (pc := 52) (n := n + 22) dX4_init_52 no_X4_36 (tl_X8 (la_ (tl_X7 (la_ (la_ (la_ (la_ hn))))))) (RLm_F (tr_X8 (RLm.more (RLm_F (tr_X7 (RLm.more (RLm_F (RLm.more (RLm_F (RLm.more (RLm_F (RLm.more hR (Nat.le_succ _)) (by omega)) (Nat.le_succ _)) (by omega)) (Nat.le_succ _)) (by omega)) (Nat.le_succ _)) (by omega)) (by omega)) (Nat.le_succ _)) (by omega)) (by omega)) (Fr0_F (tf_X8 (Fr0.more (Fr0_F (tf_X7 (Fr0.more (Fr0_F (Fr0.more (Fr0_F (Fr0.more (Fr0_F (Fr0.more hF (Nat.le_succ _)) (by omega)) (Nat.le_succ _)) (by omega)) (Nat.le_succ _)) (by omega)) (Nat.le_succ _)) (by omega)) (by omega)) (Nat.le_succ _)) (by omega)) (by omega)) (by omega) (by omega) (by intro v hv; simp only [List.mem_cons, List.not_mem_nil, or_false] at hv; rcases hv with rfl <;> first | exact refN_int | exact refN_ref (by omega)) (by intro v hv; simp only [List.mem_cons, List.not_mem_nil, or_false] at hv; rcases hv with rfl <;> first | exact refN_int | exact refN_ref (by omega)) (by decide) (by decide) ?_
  refine a_dup (pc := 55) dX4_init_55 rfl ?_
  refine a_call_ (pc := 56) (n := n + 23) dX4_init_56 ci_X4_38 (by decide) (rc_X6 (gl_ (tl_X8 (la_ (tl_X7 (la_ (la_ (la_ (la_ hn)))))))) (la_ (tl_X8 (la_ (tl_X7 (la_ (la_ (la_ (la_ hn)))))))) (RLm.more (RLm_F (tr_X8 (RLm.more (RLm_F (tr_X7 (RLm.more (RLm_F (RLm.more (RLm_F (RLm.more (RLm_F (RLm.more hR (Nat.le_succ _)) (by omega)) (Nat.le_succ _)) (by omega)) (Nat.le_succ _)) (by omega)) (Nat.le_succ _)) (by omega)) (by omega)) (Nat.le_succ _)) (by omega)) (by omega)) (Nat.le_succ _)) (Fr0.more (Fr0_F (tf_X8 (Fr0.more (Fr0_F (tf_X7 (Fr0.more (Fr0_F (Fr0.more (Fr0_F (Fr0.more (Fr0_F (Fr0.more hF (Nat.le_succ _)) (by omega)) (Nat.le_succ _)) (by omega)) (Nat.le_succ _)) (by omega)) (Nat.le_succ _)) (by omega)) (by omega)) (Nat.le_succ _)) (by omega)) (by omega)) (Nat.le_succ _)) (by omega) (by omega) (by omega)) (la_ (tl_X8 (la_ (tl_X7 (la_ (la_ (la_ (la_ hn)))))))) (by omega) (by intro v hv; simp only [List.mem_cons, List.not_mem_nil, or_false] at hv; rcases hv with rfl <;> first | exact refN_int | exact refN_ref (by omega)) (by intro v hv; simp only [List.mem_cons, List.not_mem_nil, or_false] at hv; rcases hv with rfl | rfl <;> first | exact refN_int | exact refN_ref (by omega)) (Nat.le_of_ble_eq_true rfl) (by decide) (by decide) ?_
  refine a_putR (pc := 59) dX4_init_59 fd_X4_39 (tg_X6 (ga_ (tg_X8 (ga_ (tg_X7 (ga_ (ga_ (ga_ (ga_ hk))))))))) rfl (by omega) (fun _ => rfl) (fun _ => rfl) ?_
  refine a_aload_n (pc := 62) (x := k) dX4_init_62 rfl ?_
  refine a_iconst (pc := 63) (v := (0 : Int32)) dX4_init_63 (by decide) ?_
  refine a_putI (pc := 64) dX4_init_64 fd_X4_43 (tg_X6 (ga_ (tg_X8 (ga_ (tg_X7 (ga_ (ga_ (ga_ (ga_ hk))))))))) rfl rfl rfl ?_
  refine a_aload_n (pc := 67) (x := k) dX4_init_67 rfl ?_
  refine a_iconst (pc := 68) (v := (0 : Int32)) dX4_init_68 (by decide) ?_
  refine a_putI (pc := 69) dX4_init_69 fd_X4_47 (tg_X6 (ga_ (tg_X8 (ga_ (tg_X7 (ga_ (ga_ (ga_ (ga_ hk))))))))) rfl rfl rfl ?_
  refine a_aload_n (pc := 72) (x := k) dX4_init_72 rfl ?_
  refine a_iconst (pc := 73) (v := (-1 : Int32)) dX4_init_73 (by decide) ?_
  refine a_putI (pc := 74) dX4_init_74 fd_X4_50 (tg_X6 (ga_ (tg_X8 (ga_ (tg_X7 (ga_ (ga_ (ga_ (ga_ hk))))))))) rfl rfl rfl ?_
  refine a_aload_n (pc := 77) (x := k) dX4_init_77 rfl ?_
  refine a_iconst (pc := 78) (v := (0 : Int32)) dX4_init_78 (by decide) ?_
  refine a_putI (pc := 79) dX4_init_79 fd_X4_53 (tg_X6 (ga_ (tg_X8 (ga_ (tg_X7 (ga_ (ga_ (ga_ (ga_ hk))))))))) rfl rfl rfl ?_
  refine a_aload_n (pc := 82) (x := k) dX4_init_82 rfl ?_
  refine a_iconst (pc := 83) (v := (-1 : Int32)) dX4_init_83 (by decide) ?_
  refine a_putI (pc := 84) dX4_init_84 fd_X4_56 (tg_X6 (ga_ (tg_X8 (ga_ (tg_X7 (ga_ (ga_ (ga_ (ga_ hk))))))))) rfl rfl rfl ?_
  refine a_aload_n (pc := 87) (x := k) dX4_init_87 rfl ?_
  refine a_iconst (pc := 88) (v := (0 : Int32)) dX4_init_88 (by decide) ?_
  refine a_putI (pc := 89) dX4_init_89 fd_X4_59 (tg_X6 (ga_ (tg_X8 (ga_ (tg_X7 (ga_ (ga_ (ga_ (ga_ hk))))))))) rfl rfl rfl ?_
  refine a_aload_n (pc := 92) (x := k) dX4_init_92 rfl ?_
  refine a_iconst (pc := 93) (v := (0 : Int32)) dX4_init_93 (by decide) ?_
  refine a_putI (pc := 94) dX4_init_94 fd_X4_62 (tg_X6 (ga_ (tg_X8 (ga_ (tg_X7 (ga_ (ga_ (ga_ (ga_ hk))))))))) rfl rfl rfl ?_
  refine a_aload_n (pc := 97) (x := k) dX4_init_97 rfl ?_
  refine a_iconst (pc := 98) (v := (0 : Int32)) dX4_init_98 (by decide) ?_
  refine a_putI (pc := 99) dX4_init_99 fd_X4_65 (tg_X6 (ga_ (tg_X8 (ga_ (tg_X7 (ga_ (ga_ (ga_ (ga_ hk))))))))) rfl rfl rfl ?_
  refine a_aload_n (pc := 102) (x := k) dX4_init_102 rfl ?_
  refine a_iconst (pc := 103) (v := (0 : Int32)) dX4_init_103 (by decide) ?_
  refine a_putI (pc := 104) dX4_init_104 fd_X4_68 (tg_X6 (ga_ (tg_X8 (ga_ (tg_X7 (ga_ (ga_ (ga_ (ga_ hk))))))))) rfl rfl rfl ?_
  refine a_aload_n (pc := 107) (x := k) dX4_init_107 rfl ?_
  refine a_iconst (pc := 108) (v := (0 : Int32)) dX4_init_108 (by decide) ?_
  refine a_putI (pc := 109) dX4_init_109 fd_X4_71 (tg_X6 (ga_ (tg_X8 (ga_ (tg_X7 (ga_ (ga_ (ga_ (ga_ hk))))))))) rfl rfl rfl ?_
  refine a_aload_n (pc := 112) (x := k) dX4_init_112 rfl ?_
  refine a_iconst (pc := 113) (v := (0 : Int32)) dX4_init_113 (by decide) ?_
  refine a_putI (pc := 114) dX4_init_114 fd_X4_74 (tg_X6 (ga_ (tg_X8 (ga_ (tg_X7 (ga_ (ga_ (ga_ (ga_ hk))))))))) rfl rfl rfl ?_
  refine a_aload_n (pc := 117) (x := k) dX4_init_117 rfl ?_
  refine a_iconst (pc := 118) (v := (0 : Int32)) dX4_init_118 (by decide) ?_
  refine a_putI (pc := 119) dX4_init_119 fd_X4_78 (tg_X6 (ga_ (tg_X8 (ga_ (tg_X7 (ga_ (ga_ (ga_ (ga_ hk))))))))) rfl rfl rfl ?_
  exact a_vret (pc := 122) dX4_init_122
theorem dX11_init_0 : decode cX11_init 0 = .ok (.aload_n 0, 1) := by decide +kernel
theorem dX11_init_1 : decode cX11_init 1 = .ok (.invokespecial 1, 3) := by decide +kernel
theorem dX11_init_4 : decode cX11_init 4 = .ok (.aload_n 0, 1) := by decide +kernel
theorem dX11_init_5 : decode cX11_init 5 = .ok (.new 7, 3) := by decide +kernel
theorem dX11_init_8 : decode cX11_init 8 = .ok (.dup, 1) := by decide +kernel
theorem dX11_init_9 : decode cX11_init 9 = .ok (.invokespecial 9, 3) := by decide +kernel
theorem dX11_init_12 : decode cX11_init 12 = .ok (.putfield 10, 3) := by decide +kernel
theorem dX11_init_15 : decode cX11_init 15 = .ok (.aload_n 0, 1) := by decide +kernel
theorem dX11_init_16 : decode cX11_init 16 = .ok (.aload_n 0, 1) := by decide +kernel
theorem dX11_init_17 : decode cX11_init 17 = .ok (.getfield 10, 3) := by decide +kernel
theorem dX11_init_20 : decode cX11_init 20 = .ok (.getfield 16, 3) := by decide +kernel
theorem dX11_init_23 : decode cX11_init 23 = .ok (.putfield 20, 3) := by decide +kernel
theorem dX11_init_26 : decode cX11_init 26 = .ok (.aload_n 0, 1) := by decide +kernel
theorem dX11_init_27 : decode cX11_init 27 = .ok (.new 21, 3) := by decide +kernel
theorem dX11_init_30 : decode cX11_init 30 = .ok (.dup, 1) := by decide +kernel
theorem dX11_init_31 : decode cX11_init 31 = .ok (.invokespecial 23, 3) := by decide +kernel
theorem dX11_init_34 : decode cX11_init 34 = .ok (.putfield 24, 3) := by decide +kernel
theorem dX11_init_37 : decode cX11_init 37 = .ok (.aload_n 0, 1) := by decide +kernel
theorem dX11_init_38 : decode cX11_init 38 = .ok (.new 28, 3) := by decide +kernel
theorem dX11_init_41 : decode cX11_init 41 = .ok (.dup, 1) := by decide +kernel
theorem dX11_init_42 : decode cX11_init 42 = .ok (.invokespecial 30, 3) := by decide +kernel
theorem dX11_init_45 : decode cX11_init 45 = .ok (.putfield 31, 3) := by decide +kernel
theorem dX11_init_48 : decode cX11_init 48 = .ok (.aload_n 0, 1) := by decide +kernel
theorem dX11_init_49 : decode cX11_init 49 = .ok (.new 35, 3) := by decide +kernel
theorem dX11_init_52 : decode cX11_init 52 = .ok (.dup, 1) := by decide +kernel
theorem dX11_init_53 : decode cX11_init 53 = .ok (.invokespecial 37, 3) := by decide +kernel
theorem dX11_init_56 : decode cX11_init 56 = .ok (.putfield 38, 3) := by decide +kernel
theorem dX11_init_59 : decode cX11_init 59 = .ok (.aload_n 0, 1) := by decide +kernel
theorem dX11_init_60 : decode cX11_init 60 = .ok (.new 42, 3) := by decide +kernel
theorem dX11_init_63 : decode cX11_init 63 = .ok (.dup, 1) := by decide +kernel
theorem dX11_init_64 : decode cX11_init 64 = .ok (.invokespecial 44, 3) := by decide +kernel
theorem dX11_init_67 : decode cX11_init 67 = .ok (.putfield 45, 3) := by decide +kernel
theorem dX11_init_70 : decode cX11_init 70 = .ok (.aload_n 0, 1) := by decide +kernel
theorem dX11_init_71 : decode cX11_init 71 = .ok (.new 49, 3) := by decide +kernel
theorem dX11_init_74 : decode cX11_init 74 = .ok (.dup, 1) := by decide +kernel
theorem dX11_init_75 : decode cX11_init 75 = .ok (.invokespecial 51, 3) := by decide +kernel
theorem dX11_init_78 : decode cX11_init 78 = .ok (.putfield 52, 3) := by decide +kernel
theorem dX11_init_81 : decode cX11_init 81 = .ok (.aload_n 0, 1) := by decide +kernel
theorem dX11_init_82 : decode cX11_init 82 = .ok (.iconst 2, 1) := by decide +kernel
theorem dX11_init_83 : decode cX11_init 83 = .ok (.anewarray 56, 3) := by decide +kernel
theorem dX11_init_86 : decode cX11_init 86 = .ok (.putfield 58, 3) := by decide +kernel
theorem dX11_init_89 : decode cX11_init 89 = .ok (.aload_n 0, 1) := by decide +kernel
theorem dX11_init_90 : decode cX11_init 90 = .ok (.iconst 2, 1) := by decide +kernel
theorem dX11_init_91 : decode cX11_init 91 = .ok (.newarray .boolean, 2) := by decide +kernel
theorem dX11_init_93 : decode cX11_init 93 = .ok (.putfield 62, 3) := by decide +kernel
theorem dX11_init_96 : decode cX11_init 96 = .ok (.aload_n 0, 1) := by decide +kernel
theorem dX11_init_97 : decode cX11_init 97 = .ok (.new 66, 3) := by decide +kernel
theorem dX11_init_100 : decode cX11_init 100 = .ok (.dup, 1) := by decide +kernel
theorem dX11_init_101 : decode cX11_init 101 = .ok (.invokespecial 68, 3) := by decide +kernel
theorem dX11_init_104 : decode cX11_init 104 = .ok (.putfield 69, 3) := by decide +kernel
theorem dX11_init_107 : decode cX11_init 107 = .ok (.aload_n 0, 1) := by decide +kernel
theorem dX11_init_108 : decode cX11_init 108 = .ok (.new 56, 3) := by decide +kernel
theorem dX11_init_111 : decode cX11_init 111 = .ok (.dup, 1) := by decide +kernel
theorem dX11_init_112 : decode cX11_init 112 = .ok (.invokespecial 73, 3) := by decide +kernel
theorem dX11_init_115 : decode cX11_init 115 = .ok (.putfield 74, 3) := by decide +kernel
theorem dX11_init_118 : decode cX11_init 118 = .ok (.iconst 0, 1) := by decide +kernel
theorem dX11_init_119 : decode cX11_init 119 = .ok (.istore_n 1, 1) := by decide +kernel
theorem dX11_init_120 : decode cX11_init 120 = .ok (.iload_n 1, 1) := by decide +kernel
theorem dX11_init_121 : decode cX11_init 121 = .ok (.iconst 2, 1) := by decide +kernel
theorem dX11_init_122 : decode cX11_init 122 = .ok (.if_icmp .ge 22, 3) := by decide +kernel
theorem dX11_init_125 : decode cX11_init 125 = .ok (.aload_n 0, 1) := by decide +kernel
theorem dX11_init_126 : decode cX11_init 126 = .ok (.getfield 58, 3) := by decide +kernel
theorem dX11_init_129 : decode cX11_init 129 = .ok (.iload_n 1, 1) := by decide +kernel
theorem dX11_init_130 : decode cX11_init 130 = .ok (.new 56, 3) := by decide +kernel
theorem dX11_init_133 : decode cX11_init 133 = .ok (.dup, 1) := by decide +kernel
theorem dX11_init_134 : decode cX11_init 134 = .ok (.invokespecial 73, 3) := by decide +kernel
theorem dX11_init_137 : decode cX11_init 137 = .ok (.aastore, 1) := by decide +kernel
theorem dX11_init_138 : decode cX11_init 138 = .ok (.iinc 1 1, 3) := by decide +kernel
theorem dX11_init_141 : decode cX11_init 141 = .ok (.goto (-21), 3) := by decide +kernel
theorem dX11_init_144 : decode cX11_init 144 = .ok (.return_, 1) := by decide +kernel
theorem w_26 : (Jvm.Cond.methodLink "StiltTown" (1 : Nat) ({ cls := "java/lang/Object", name := "<init>", desc := "()V" } : Jvm.MethodName)) ∈ bigW := tp_1 (List.mem_of_getElem? (i := 26) rfl) rfl
theorem oi_X11_1 : OI RX11 1 := ⟨w_26, w_27, w_28⟩
theorem w_29 : (Jvm.Cond.classLink "StiltTown" (7 : Nat) "StiltTown$Reader") ∈ bigW := tp_1 (List.mem_of_getElem? (i := 29) rfl) rfl
theorem w_30 : (Jvm.Cond.instantiable "StiltTown$Reader" (18 : Nat)) ∈ bigW := tp_1 (List.mem_of_getElem? (i := 30) rfl) rfl
theorem no_X11_7 : NO RX11 7 4 18 svX4 := ⟨RX4, TX4, tyX4, rfl, w_29, w_30, w_2, iX4, tyX4_ok, by decide +kernel⟩
theorem w_32 : (Jvm.Cond.instanceMethod ({ cls := "StiltTown$Reader", name := "<init>", desc := "()V" } : Jvm.MethodName)) ∈ bigW := tp_1 (List.mem_of_getElem? (i := 32) rfl) rfl
theorem w_33 : (Jvm.Cond.code ({ cls := "StiltTown$Reader", name := "<init>", desc := "()V" } : Jvm.MethodName) prog_6_method_1_code (1 : Nat) (Option.none : Option Jvm.ClassFile.FieldType)) ∈ bigW := tp_1 (List.mem_of_getElem? (i := 33) rfl) rfl
theorem ci_X11_9 : CI RX11 9 e_X4_init := ⟨⟨"StiltTown", List.mem_of_getElem? (i := 0) rfl⟩, w_32, w_2, w_33, ⟨by decide +kernel, by decide +kernel, by decide +kernel⟩, by decide, rfl, rfl⟩
theorem fd_X11_10 : FD RX11 10 11 0 (.object "StiltTown$Reader") true := ⟨RX11, TX11, 11, tyX11, rfl, by decide, iX11, tyX11_ok, nmX11, w_488, rfl, rfl, rfl⟩
theorem fd_X11_20 : FD RX11 20 11 1 (.object "StiltTown$Tokens") true := ⟨RX11, TX11, 11, tyX11, rfl, by decide, iX11, tyX11_ok, nmX11, w_489, rfl, rfl, rfl⟩
theorem w_359 : (Jvm.Cond.classLink "StiltTown" (21 : Nat) "StiltTown$Yard") ∈ bigW := tp_2 (List.mem_of_getElem? (i := 119) rfl) rfl
theorem w_360 : (Jvm.Cond.instantiable "StiltTown$Yard" (3 : Nat)) ∈ bigW := tp_2 (List.mem_of_getElem? (i := 120) rfl) rfl
theorem no_X11_21 : NO RX11 21 10 3 svX10 := ⟨RX10, TX10, tyX10, rfl, w_359, w_360, w_8, iX10, tyX10_ok, by decide +kernel⟩
theorem w_362 : (Jvm.Cond.instanceMethod ({ cls := "StiltTown$Yard", name := "<init>", desc := "()V" } : Jvm.MethodName)) ∈ bigW := tp_2 (List.mem_of_getElem? (i := 122) rfl) rfl
theorem w_363 : (Jvm.Cond.code ({ cls := "StiltTown$Yard", name := "<init>", desc := "()V" } : Jvm.MethodName) prog_12_method_1_code (1 : Nat) (Option.none : Option Jvm.ClassFile.FieldType)) ∈ bigW := tp_2 (List.mem_of_getElem? (i := 123) rfl) rfl
theorem ci_X11_23 : CI RX11 23 e_X10_init := ⟨⟨"StiltTown", List.mem_of_getElem? (i := 6) rfl⟩, w_362, w_8, w_363, ⟨by decide +kernel, by decide +kernel, by decide +kernel⟩, by decide, rfl, rfl⟩
theorem fd_X11_24 : FD RX11 24 11 2 (.object "StiltTown$Yard") true := ⟨RX11, TX11, 11, tyX11, rfl, by decide, iX11, tyX11_ok, nmX11, w_490, rfl, rfl, rfl⟩
theorem w_379 : (Jvm.Cond.classLink "StiltTown" (28 : Nat) "StiltTown$Works") ∈ bigW := tp_2 (List.mem_of_getElem? (i := 139) rfl) rfl
theorem w_380 : (Jvm.Cond.instantiable "StiltTown$Works" (7 : Nat)) ∈ bigW := tp_2 (List.mem_of_getElem? (i := 140) rfl) rfl
theorem no_X11_28 : NO RX11 28 9 7 svX9 := ⟨RX9, TX9, tyX9, rfl, w_379, w_380, w_9, iX9, tyX9_ok, by decide +kernel⟩
theorem w_382 : (Jvm.Cond.instanceMethod ({ cls := "StiltTown$Works", name := "<init>", desc := "()V" } : Jvm.MethodName)) ∈ bigW := tp_2 (List.mem_of_getElem? (i := 142) rfl) rfl
theorem w_383 : (Jvm.Cond.code ({ cls := "StiltTown$Works", name := "<init>", desc := "()V" } : Jvm.MethodName) prog_11_method_1_code (1 : Nat) (Option.none : Option Jvm.ClassFile.FieldType)) ∈ bigW := tp_2 (List.mem_of_getElem? (i := 143) rfl) rfl
theorem ci_X11_30 : CI RX11 30 e_X9_init := ⟨⟨"StiltTown", List.mem_of_getElem? (i := 7) rfl⟩, w_382, w_9, w_383, ⟨by decide +kernel, by decide +kernel, by decide +kernel⟩, by decide, rfl, rfl⟩
theorem fd_X11_31 : FD RX11 31 11 3 (.object "StiltTown$Works") true := ⟨RX11, TX11, 11, tyX11, rfl, by decide, iX11, tyX11_ok, nmX11, w_491, rfl, rfl, rfl⟩
theorem w_411 : (Jvm.Cond.classLink "StiltTown" (35 : Nat) "StiltTown$Nights") ∈ bigW := tp_2 (List.mem_of_getElem? (i := 171) rfl) rfl
theorem w_412 : (Jvm.Cond.instantiable "StiltTown$Nights" (5 : Nat)) ∈ bigW := tp_2 (List.mem_of_getElem? (i := 172) rfl) rfl
theorem no_X11_35 : NO RX11 35 3 5 svX3 := ⟨RX3, TX3, tyX3, rfl, w_411, w_412, w_10, iX3, tyX3_ok, by decide +kernel⟩
theorem w_414 : (Jvm.Cond.instanceMethod ({ cls := "StiltTown$Nights", name := "<init>", desc := "()V" } : Jvm.MethodName)) ∈ bigW := tp_2 (List.mem_of_getElem? (i := 174) rfl) rfl
theorem w_415 : (Jvm.Cond.code ({ cls := "StiltTown$Nights", name := "<init>", desc := "()V" } : Jvm.MethodName) prog_5_method_1_code (1 : Nat) (Option.none : Option Jvm.ClassFile.FieldType)) ∈ bigW := tp_2 (List.mem_of_getElem? (i := 175) rfl) rfl
theorem ci_X11_37 : CI RX11 37 e_X3_init := ⟨⟨"StiltTown", List.mem_of_getElem? (i := 8) rfl⟩, w_414, w_10, w_415, ⟨by decide +kernel, by decide +kernel, by decide +kernel⟩, by decide, rfl, rfl⟩
theorem fd_X11_38 : FD RX11 38 11 4 (.object "StiltTown$Nights") true := ⟨RX11, TX11, 11, tyX11, rfl, by decide, iX11, tyX11_ok, nmX11, w_492, rfl, rfl, rfl⟩
theorem w_433 : (Jvm.Cond.classLink "StiltTown" (42 : Nat) "StiltTown$Falls") ∈ bigW := tp_2 (List.mem_of_getElem? (i := 193) rfl) rfl
theorem w_434 : (Jvm.Cond.instantiable "StiltTown$Falls" (4 : Nat)) ∈ bigW := tp_2 (List.mem_of_getElem? (i := 194) rfl) rfl
theorem no_X11_42 : NO RX11 42 0 4 svX0 := ⟨RX0, TX0, tyX0, rfl, w_433, w_434, w_11, iX0, tyX0_ok, by decide +kernel⟩
theorem w_436 : (Jvm.Cond.instanceMethod ({ cls := "StiltTown$Falls", name := "<init>", desc := "()V" } : Jvm.MethodName)) ∈ bigW := tp_2 (List.mem_of_getElem? (i := 196) rfl) rfl
theorem w_437 : (Jvm.Cond.code ({ cls := "StiltTown$Falls", name := "<init>", desc := "()V" } : Jvm.MethodName) prog_2_method_1_code (1 : Nat) (Option.none : Option Jvm.ClassFile.FieldType)) ∈ bigW := tp_2 (List.mem_of_getElem? (i := 197) rfl) rfl
theorem ci_X11_44 : CI RX11 44 e_X0_init := ⟨⟨"StiltTown", List.mem_of_getElem? (i := 9) rfl⟩, w_436, w_11, w_437, ⟨by decide +kernel, by decide +kernel, by decide +kernel⟩, by decide, rfl, rfl⟩
theorem fd_X11_45 : FD RX11 45 11 5 (.object "StiltTown$Falls") true := ⟨RX11, TX11, 11, tyX11, rfl, by decide, iX11, tyX11_ok, nmX11, w_493, rfl, rfl, rfl⟩
theorem w_454 : (Jvm.Cond.classLink "StiltTown" (49 : Nat) "StiltTown$Row") ∈ bigW := tp_2 (List.mem_of_getElem? (i := 214) rfl) rfl
theorem w_455 : (Jvm.Cond.instantiable "StiltTown$Row" (7 : Nat)) ∈ bigW := tp_2 (List.mem_of_getElem? (i := 215) rfl) rfl
theorem no_X11_49 : NO RX11 49 5 7 svX5 := ⟨RX5, TX5, tyX5, rfl, w_454, w_455, w_12, iX5, tyX5_ok, by decide +kernel⟩
theorem w_457 : (Jvm.Cond.instanceMethod ({ cls := "StiltTown$Row", name := "<init>", desc := "()V" } : Jvm.MethodName)) ∈ bigW := tp_2 (List.mem_of_getElem? (i := 217) rfl) rfl
theorem w_458 : (Jvm.Cond.code ({ cls := "StiltTown$Row", name := "<init>", desc := "()V" } : Jvm.MethodName) prog_7_method_1_code (1 : Nat) (Option.none : Option Jvm.ClassFile.FieldType)) ∈ bigW := tp_2 (List.mem_of_getElem? (i := 218) rfl) rfl
theorem ci_X11_51 : CI RX11 51 e_X5_init := ⟨⟨"StiltTown", List.mem_of_getElem? (i := 10) rfl⟩, w_457, w_12, w_458, ⟨by decide +kernel, by decide +kernel, by decide +kernel⟩, by decide, rfl, rfl⟩
theorem fd_X11_52 : FD RX11 52 11 6 (.object "StiltTown$Row") true := ⟨RX11, TX11, 11, tyX11, rfl, by decide, iX11, tyX11_ok, nmX11, w_494, rfl, rfl, rfl⟩
theorem w_483 : (Jvm.Cond.classLink "StiltTown" (56 : Nat) "StiltTown$State") ∈ bigW := tp_3 (List.mem_of_getElem? (i := 3) rfl) rfl
theorem fd_X11_58 : FD RX11 58 11 7 (.array (.object "StiltTown$State")) true := ⟨RX11, TX11, 11, tyX11, rfl, by decide, iX11, tyX11_ok, nmX11, w_495, rfl, rfl, rfl⟩
theorem fd_X11_62 : FD RX11 62 11 8 (.array .boolean) true := ⟨RX11, TX11, 11, tyX11, rfl, by decide, iX11, tyX11_ok, nmX11, w_496, rfl, rfl, rfl⟩
theorem w_485 : (Jvm.Cond.classLink "StiltTown" (66 : Nat) "StiltTown$Town") ∈ bigW := tp_3 (List.mem_of_getElem? (i := 5) rfl) rfl
theorem no_X11_66 : NO RX11 66 8 16 svX8 := ⟨RX8, TX8, tyX8, rfl, w_485, w_69, w_4, iX8, tyX8_ok, by decide +kernel⟩
theorem ci_X11_68 : CI RX11 68 e_X8_init := ⟨⟨"StiltTown", List.mem_of_getElem? (i := 11) rfl⟩, w_71, w_4, w_72, ⟨by decide +kernel, by decide +kernel, by decide +kernel⟩, by decide, rfl, rfl⟩
theorem fd_X11_69 : FD RX11 69 11 9 (.object "StiltTown$Town") false := ⟨RX11, TX11, 11, tyX11, rfl, by decide, iX11, tyX11_ok, nmX11, w_497, rfl, rfl, rfl⟩
theorem no_X11_56 : NO RX11 56 6 9 svX6 := ⟨RX6, TX6, tyX6, rfl, w_483, w_217, w_6, iX6, tyX6_ok, by decide +kernel⟩
theorem ci_X11_73 : CI RX11 73 e_X6_init := ⟨⟨"StiltTown", List.mem_of_getElem? (i := 12) rfl⟩, w_219, w_6, w_220, ⟨by decide +kernel, by decide +kernel, by decide +kernel⟩, by decide, rfl, rfl⟩
theorem fd_X11_74 : FD RX11 74 11 10 (.object "StiltTown$State") false := ⟨RX11, TX11, 11, tyX11, rfl, by decide, iX11, tyX11_ok, nmX11, w_498, rfl, rfl, rfl⟩
def m0 : MM := (fun _ _ => 0, fun _ _ => 0, fun _ _ => 0)
def S11 : List SHP := [.inr (11, svX11)]
def tS_X11 : List SHP := tS_X6 (tS_X6 (tS_X6 (tS_X8 (tS_X5 (tS_X0 (tS_X3 (tS_X9 (tS_X10 (tS_X4 (S11 ++ [.inr (4, svX4)]) ++ [.inr (10, svX10)]) ++ [.inr (9, svX9)]) ++ [.inr (3, svX3)]) ++ [.inr (0, svX0)]) ++ [.inr (5, svX5)]) ++ [.inl (4, 2, 0, 0)] ++ [.inl (2, 2, 0, 0)] ++ [.inr (8, svX8)]) ++ [.inr (6, svX6)]) ++ [.inr (6, svX6)]) ++ [.inr (6, svX6)])
def tm_X11 : MM := wRf (tm_X6 (wRf (tm_X6 (wRf (tm_X6 (wRf (tm_X8 (wRf (wRf (wRf (tm_X5 (wRf (tm_X0 (wRf (tm_X3 (wRf (tm_X9 (wRf (tm_X10 (wRf (wRf (tm_X4 (m0) (1) (2)) (0) 0 (1)) (0) 1 (5)) (38) (39)) (0) 2 (38)) (41) (42)) (0) 3 (41)) (86) (87)) (0) 4 (86)) (91) (92)) (0) 5 (91)) (95) (96)) (0) 6 (95)) (0) 7 (98)) (0) 8 (99)) (100) (101)) (0) 9 (100)) (114) (115)) (0) 10 (114)) (128) (129)) (98) 0 (128)) (142) (143)) (98) 1 (142)
theorem rc_X11 : RunsA e_X11_init 155 10153 S11 tS_X11 m0 tm_X11 0 := by
  have hk : S11[0]? = some (.inr (11, svX11)) := rfl
  have hn : S11.length = 1 := rfl
  have hR : RLm m0 1 := fun _ _ => Or.inl rfl
  have hF : Fr0 m0 1 := fun _ _ => ⟨rfl, rfl, rfl⟩
  refine runsA_of pl_X11 (Nat.le_of_ble_eq_true rfl) rfl rfl ?_
  refine a_aload_n (pc := 0) (x := 0) dX11_init_0 rfl ?_
  refine a_obj (pc := 1) dX11_init_1 oi_X11_1 (by decide) (Nat.le_of_ble_eq_true rfl) ?_
  refine a_aload_n (pc := 4) (x := 0) dX11_init_4 rfl ?_
  refine a_new_ (pc := 5) (n := 1) dX11_init_5 no_X11_7 hn hR hF (by omega) (by omega) (by intro v hv; simp only [List.mem_cons, List.not_mem_nil, or_false] at hv; rcases hv with rfl <;> first | exact refN_int | exact refN_ref (by omega)) (by intro v hv; simp only [List.mem_cons, List.not_mem_nil, or_false] at hv; rcases hv with rfl <;> first | exact refN_int | exact refN_ref (by omega)) (by decide) (by decide) ?_
  refine a_dup (pc := 8) dX11_init_8 rfl ?_
  refine a_call_ (pc := 9) (n := 2) dX11_init_9 ci_X11_9 (by decide) (rc_X4 (gl_ hn) (la_ hn) (RLm.more hR (Nat.le_succ _)) (Fr0.more hF (Nat.le_succ _)) (by omega) (by omega) (by omega)) (la_ hn) (by omega) (by intro v hv; simp only [List.mem_cons, List.not_mem_nil, or_false] at hv; rcases hv with rfl <;> first | exact refN_int | exact refN_ref (by omega)) (by intro v hv; simp only [List.mem_cons, List.not_mem_nil, or_false] at hv; rcases hv with rfl | rfl <;> first | exact refN_int | exact refN_ref (by omega)) (Nat.le_of_ble_eq_true rfl) (by decide) (by decide) ?_
  refine a_putR (pc := 12) dX11_init_12 fd_X11_10 (tg_X4 (ga_ hk)) rfl (by omega) (fun _ => rfl) (fun _ => rfl) ?_
  refine a_aload_n (pc := 15) (x := 0) dX11_init_15 rfl ?_
  refine a_aload_n (pc := 16) (x := 0) dX11_init_16 rfl ?_
  refine a_getR (pc := 17) (r := 1) dX11_init_17 fo_X11_10 (tg_X4 (ga_ hk)) rfl (by first | rfl | (simp [wRf, wI, wR, wRow, va_up]; try omega)) (by omega) ?_
  refine a_getR (pc := 20) (r := 5) dX11_init_20 fo_X11_16 (tg_X4 (gl_ hn)) rfl rfl (by omega) ?_
  refine a_putR (pc := 23) dX11_init_23 fd_X11_20 (tg_X4 (ga_ hk)) rfl (by omega) (fun _ => rfl) (fun _ => rfl) ?_
  refine a_aload_n (pc := 26) (x := 0) dX11_init_26 rfl ?_
  refine a_new_ (pc := 27) (n := 38) dX11_init_27 no_X11_21 (tl_X4 (la_ hn)) (RLm_F (RLm_F (tr_X4 (RLm.more hR (Nat.le_succ _)) (by omega)) (by omega)) (by omega)) (Fr0_F (Fr0_F (tf_X4 (Fr0.more hF (Nat.le_succ _)) (by omega)) (by omega)) (by omega)) (by omega) (by omega) (by intro v hv; simp only [List.mem_cons, List.not_mem_nil, or_false] at hv; rcases hv with rfl <;> first | exact refN_int | exact refN_ref (by omega)) (by intro v hv; simp only [List.mem_cons, List.not_mem_nil, or_false] at hv; rcases hv with rfl <;> first | exact refN_int | exact refN_ref (by omega)) (by decide) (by decide) ?_
  refine a_dup (pc := 30) dX11_init_30 rfl ?_
  refine a_call_ (pc := 31) (n := 39) dX11_init_31 ci_X11_23 (by decide) (rc_X10 (gl_ (tl_X4 (la_ hn))) (la_ (tl_X4 (la_ hn))) (RLm.more (RLm_F (RLm_F (tr_X4 (RLm.more hR (Nat.le_succ _)) (by omega)) (by omega)) (by omega)) (Nat.le_succ _)) (Fr0.more (Fr0_F (Fr0_F (tf_X4 (Fr0.more hF (Nat.le_succ _)) (by omega)) (by omega)) (by omega)) (Nat.le_succ _)) (by omega) (by omega) (by omega)) (la_ (tl_X4 (la_ hn))) (by omega) (by intro v hv; simp only [List.mem_cons, List.not_mem_nil, or_false] at hv; rcases hv with rfl <;> first | exact refN_int | exact refN_ref (by omega)) (by intro v hv; simp only [List.mem_cons, List.not_mem_nil, or_false] at hv; rcases hv with rfl | rfl <;> first | exact refN_int | exact refN_ref (by omega)) (Nat.le_of_ble_eq_true rfl) (by decide) (by decide) ?_
  refine a_putR (pc := 34) dX11_init_34 fd_X11_24 (tg_X10 (ga_ (tg_X4 (ga_ hk)))) rfl (by omega) (fun _ => rfl) (fun _ => rfl) ?_
  refine a_aload_n (pc := 37) (x := 0) dX11_init_37 rfl ?_
  refine a_new_ (pc := 38) (n := 41) dX11_init_38 no_X11_28 (tl_X10 (la_ (tl_X4 (la_ hn)))) (RLm_F (tr_X10 (RLm.more (RLm_F (RLm_F (tr_X4 (RLm.more hR (Nat.le_succ _)) (by omega)) (by omega)) (by omega)) (Nat.le_succ _)) (by omega)) (by omega)) (Fr0_F (tf_X10 (Fr0.more (Fr0_F (Fr0_F (tf_X4 (Fr0.more hF (Nat.le_succ _)) (by omega)) (by omega)) (by omega)) (Nat.le_succ _)) (by omega)) (by omega)) (by omega) (by omega) (by intro v hv; simp only [List.mem_cons, List.not_mem_nil, or_false] at hv; rcases hv with rfl <;> first | exact refN_int | exact refN_ref (by omega)) (by intro v hv; simp only [List.mem_cons, List.not_mem_nil, or_false] at hv; rcases hv with rfl <;> first | exact refN_int | exact refN_ref (by omega)) (by decide) (by decide) ?_
  refine a_dup (pc := 41) dX11_init_41 rfl ?_
  refine a_call_ (pc := 42) (n := 42) dX11_init_42 ci_X11_30 (by decide) (rc_X9 (gl_ (tl_X10 (la_ (tl_X4 (la_ hn))))) (la_ (tl_X10 (la_ (tl_X4 (la_ hn))))) (RLm.more (RLm_F (tr_X10 (RLm.more (RLm_F (RLm_F (tr_X4 (RLm.more hR (Nat.le_succ _)) (by omega)) (by omega)) (by omega)) (Nat.le_succ _)) (by omega)) (by omega)) (Nat.le_succ _)) (Fr0.more (Fr0_F (tf_X10 (Fr0.more (Fr0_F (Fr0_F (tf_X4 (Fr0.more hF (Nat.le_succ _)) (by omega)) (by omega)) (by omega)) (Nat.le_succ _)) (by omega)) (by omega)) (Nat.le_succ _)) (by omega) (by omega) (by omega)) (la_ (tl_X10 (la_ (tl_X4 (la_ hn))))) (by omega) (by intro v hv; simp only [List.mem_cons, List.not_mem_nil, or_false] at hv; rcases hv with rfl <;> first | exact refN_int | exact refN_ref (by omega)) (by intro v hv; simp only [List.mem_cons, List.not_mem_nil, or_false] at hv; rcases hv with rfl | rfl <;> first | exact refN_int | exact refN_ref (by omega)) (Nat.le_of_ble_eq_true rfl) (by decide) (by decide) ?_
  refine a_putR (pc := 45) dX11_init_45 fd_X11_31 (tg_X9 (ga_ (tg_X10 (ga_ (tg_X4 (ga_ hk)))))) rfl (by omega) (fun _ => rfl) (fun _ => rfl) ?_
  refine a_aload_n (pc := 48) (x := 0) dX11_init_48 rfl ?_
  refine a_new_ (pc := 49) (n := 86) dX11_init_49 no_X11_35 (tl_X9 (la_ (tl_X10 (la_ (tl_X4 (la_ hn)))))) (RLm_F (tr_X9 (RLm.more (RLm_F (tr_X10 (RLm.more (RLm_F (RLm_F (tr_X4 (RLm.more hR (Nat.le_succ _)) (by omega)) (by omega)) (by omega)) (Nat.le_succ _)) (by omega)) (by omega)) (Nat.le_succ _)) (by omega)) (by omega)) (Fr0_F (tf_X9 (Fr0.more (Fr0_F (tf_X10 (Fr0.more (Fr0_F (Fr0_F (tf_X4 (Fr0.more hF (Nat.le_succ _)) (by omega)) (by omega)) (by omega)) (Nat.le_succ _)) (by omega)) (by omega)) (Nat.le_succ _)) (by omega)) (by omega)) (by omega) (by omega) (by intro v hv; simp only [List.mem_cons, List.not_mem_nil, or_false] at hv; rcases hv with rfl <;> first | exact refN_int | exact refN_ref (by omega)) (by intro v hv; simp only [List.mem_cons, List.not_mem_nil, or_false] at hv; rcases hv with rfl <;> first | exact refN_int | exact refN_ref (by omega)) (by decide) (by decide) ?_
  refine a_dup (pc := 52) dX11_init_52 rfl ?_
  refine a_call_ (pc := 53) (n := 87) dX11_init_53 ci_X11_37 (by decide) (rc_X3 (gl_ (tl_X9 (la_ (tl_X10 (la_ (tl_X4 (la_ hn))))))) (la_ (tl_X9 (la_ (tl_X10 (la_ (tl_X4 (la_ hn))))))) (RLm.more (RLm_F (tr_X9 (RLm.more (RLm_F (tr_X10 (RLm.more (RLm_F (RLm_F (tr_X4 (RLm.more hR (Nat.le_succ _)) (by omega)) (by omega)) (by omega)) (Nat.le_succ _)) (by omega)) (by omega)) (Nat.le_succ _)) (by omega)) (by omega)) (Nat.le_succ _)) (Fr0.more (Fr0_F (tf_X9 (Fr0.more (Fr0_F (tf_X10 (Fr0.more (Fr0_F (Fr0_F (tf_X4 (Fr0.more hF (Nat.le_succ _)) (by omega)) (by omega)) (by omega)) (Nat.le_succ _)) (by omega)) (by omega)) (Nat.le_succ _)) (by omega)) (by omega)) (Nat.le_succ _)) (by omega) (by omega) (by omega)) (la_ (tl_X9 (la_ (tl_X10 (la_ (tl_X4 (la_ hn))))))) (by omega) (by intro v hv; simp only [List.mem_cons, List.not_mem_nil, or_false] at hv; rcases hv with rfl <;> first | exact refN_int | exact refN_ref (by omega)) (by intro v hv; simp only [List.mem_cons, List.not_mem_nil, or_false] at hv; rcases hv with rfl | rfl <;> first | exact refN_int | exact refN_ref (by omega)) (Nat.le_of_ble_eq_true rfl) (by decide) (by decide) ?_
  refine a_putR (pc := 56) dX11_init_56 fd_X11_38 (tg_X3 (ga_ (tg_X9 (ga_ (tg_X10 (ga_ (tg_X4 (ga_ hk)))))))) rfl (by omega) (fun _ => rfl) (fun _ => rfl) ?_
  refine a_aload_n (pc := 59) (x := 0) dX11_init_59 rfl ?_
  refine a_new_ (pc := 60) (n := 91) dX11_init_60 no_X11_42 (tl_X3 (la_ (tl_X9 (la_ (tl_X10 (la_ (tl_X4 (la_ hn)))))))) (RLm_F (tr_X3 (RLm.more (RLm_F (tr_X9 (RLm.more (RLm_F (tr_X10 (RLm.more (RLm_F (RLm_F (tr_X4 (RLm.more hR (Nat.le_succ _)) (by omega)) (by omega)) (by omega)) (Nat.le_succ _)) (by omega)) (by omega)) (Nat.le_succ _)) (by omega)) (by omega)) (Nat.le_succ _)) (by omega)) (by omega)) (Fr0_F (tf_X3 (Fr0.more (Fr0_F (tf_X9 (Fr0.more (Fr0_F (tf_X10 (Fr0.more (Fr0_F (Fr0_F (tf_X4 (Fr0.more hF (Nat.le_succ _)) (by omega)) (by omega)) (by omega)) (Nat.le_succ _)) (by omega)) (by omega)) (Nat.le_succ _)) (by omega)) (by omega)) (Nat.le_succ _)) (by omega)) (by omega)) (by omega) (by omega) (by intro v hv; simp only [List.mem_cons, List.not_mem_nil, or_false] at hv; rcases hv with rfl <;> first | exact refN_int | exact refN_ref (by omega)) (by intro v hv; simp only [List.mem_cons, List.not_mem_nil, or_false] at hv; rcases hv with rfl <;> first | exact refN_int | exact refN_ref (by omega)) (by decide) (by decide) ?_
  refine a_dup (pc := 63) dX11_init_63 rfl ?_
  refine a_call_ (pc := 64) (n := 92) dX11_init_64 ci_X11_44 (by decide) (rc_X0 (gl_ (tl_X3 (la_ (tl_X9 (la_ (tl_X10 (la_ (tl_X4 (la_ hn))))))))) (la_ (tl_X3 (la_ (tl_X9 (la_ (tl_X10 (la_ (tl_X4 (la_ hn))))))))) (RLm.more (RLm_F (tr_X3 (RLm.more (RLm_F (tr_X9 (RLm.more (RLm_F (tr_X10 (RLm.more (RLm_F (RLm_F (tr_X4 (RLm.more hR (Nat.le_succ _)) (by omega)) (by omega)) (by omega)) (Nat.le_succ _)) (by omega)) (by omega)) (Nat.le_succ _)) (by omega)) (by omega)) (Nat.le_succ _)) (by omega)) (by omega)) (Nat.le_succ _)) (Fr0.more (Fr0_F (tf_X3 (Fr0.more (Fr0_F (tf_X9 (Fr0.more (Fr0_F (tf_X10 (Fr0.more (Fr0_F (Fr0_F (tf_X4 (Fr0.more hF (Nat.le_succ _)) (by omega)) (by omega)) (by omega)) (Nat.le_succ _)) (by omega)) (by omega)) (Nat.le_succ _)) (by omega)) (by omega)) (Nat.le_succ _)) (by omega)) (by omega)) (Nat.le_succ _)) (by omega) (by omega) (by omega)) (la_ (tl_X3 (la_ (tl_X9 (la_ (tl_X10 (la_ (tl_X4 (la_ hn))))))))) (by omega) (by intro v hv; simp only [List.mem_cons, List.not_mem_nil, or_false] at hv; rcases hv with rfl <;> first | exact refN_int | exact refN_ref (by omega)) (by intro v hv; simp only [List.mem_cons, List.not_mem_nil, or_false] at hv; rcases hv with rfl | rfl <;> first | exact refN_int | exact refN_ref (by omega)) (Nat.le_of_ble_eq_true rfl) (by decide) (by decide) ?_
  refine a_putR (pc := 67) dX11_init_67 fd_X11_45 (tg_X0 (ga_ (tg_X3 (ga_ (tg_X9 (ga_ (tg_X10 (ga_ (tg_X4 (ga_ hk)))))))))) rfl (by omega) (fun _ => rfl) (fun _ => rfl) ?_
  refine a_aload_n (pc := 70) (x := 0) dX11_init_70 rfl ?_
  refine a_new_ (pc := 71) (n := 95) dX11_init_71 no_X11_49 (tl_X0 (la_ (tl_X3 (la_ (tl_X9 (la_ (tl_X10 (la_ (tl_X4 (la_ hn)))))))))) (RLm_F (tr_X0 (RLm.more (RLm_F (tr_X3 (RLm.more (RLm_F (tr_X9 (RLm.more (RLm_F (tr_X10 (RLm.more (RLm_F (RLm_F (tr_X4 (RLm.more hR (Nat.le_succ _)) (by omega)) (by omega)) (by omega)) (Nat.le_succ _)) (by omega)) (by omega)) (Nat.le_succ _)) (by omega)) (by omega)) (Nat.le_succ _)) (by omega)) (by omega)) (Nat.le_succ _)) (by omega)) (by omega)) (Fr0_F (tf_X0 (Fr0.more (Fr0_F (tf_X3 (Fr0.more (Fr0_F (tf_X9 (Fr0.more (Fr0_F (tf_X10 (Fr0.more (Fr0_F (Fr0_F (tf_X4 (Fr0.more hF (Nat.le_succ _)) (by omega)) (by omega)) (by omega)) (Nat.le_succ _)) (by omega)) (by omega)) (Nat.le_succ _)) (by omega)) (by omega)) (Nat.le_succ _)) (by omega)) (by omega)) (Nat.le_succ _)) (by omega)) (by omega)) (by omega) (by omega) (by intro v hv; simp only [List.mem_cons, List.not_mem_nil, or_false] at hv; rcases hv with rfl <;> first | exact refN_int | exact refN_ref (by omega)) (by intro v hv; simp only [List.mem_cons, List.not_mem_nil, or_false] at hv; rcases hv with rfl <;> first | exact refN_int | exact refN_ref (by omega)) (by decide) (by decide) ?_
  refine a_dup (pc := 74) dX11_init_74 rfl ?_
  refine a_call_ (pc := 75) (n := 96) dX11_init_75 ci_X11_51 (by decide) (rc_X5 (gl_ (tl_X0 (la_ (tl_X3 (la_ (tl_X9 (la_ (tl_X10 (la_ (tl_X4 (la_ hn))))))))))) (la_ (tl_X0 (la_ (tl_X3 (la_ (tl_X9 (la_ (tl_X10 (la_ (tl_X4 (la_ hn))))))))))) (RLm.more (RLm_F (tr_X0 (RLm.more (RLm_F (tr_X3 (RLm.more (RLm_F (tr_X9 (RLm.more (RLm_F (tr_X10 (RLm.more (RLm_F (RLm_F (tr_X4 (RLm.more hR (Nat.le_succ _)) (by omega)) (by omega)) (by omega)) (Nat.le_succ _)) (by omega)) (by omega)) (Nat.le_succ _)) (by omega)) (by omega)) (Nat.le_succ _)) (by omega)) (by omega)) (Nat.le_succ _)) (by omega)) (by omega)) (Nat.le_succ _)) (Fr0.more (Fr0_F (tf_X0 (Fr0.more (Fr0_F (tf_X3 (Fr0.more (Fr0_F (tf_X9 (Fr0.more (Fr0_F (tf_X10 (Fr0.more (Fr0_F (Fr0_F (tf_X4 (Fr0.more hF (Nat.le_succ _)) (by omega)) (by omega)) (by omega)) (Nat.le_succ _)) (by omega)) (by omega)) (Nat.le_succ _)) (by omega)) (by omega)) (Nat.le_succ _)) (by omega)) (by omega)) (Nat.le_succ _)) (by omega)) (by omega)) (Nat.le_succ _)) (by omega) (by omega) (by omega)) (la_ (tl_X0 (la_ (tl_X3 (la_ (tl_X9 (la_ (tl_X10 (la_ (tl_X4 (la_ hn))))))))))) (by omega) (by intro v hv; simp only [List.mem_cons, List.not_mem_nil, or_false] at hv; rcases hv with rfl <;> first | exact refN_int | exact refN_ref (by omega)) (by intro v hv; simp only [List.mem_cons, List.not_mem_nil, or_false] at hv; rcases hv with rfl | rfl <;> first | exact refN_int | exact refN_ref (by omega)) (Nat.le_of_ble_eq_true rfl) (by decide) (by decide) ?_
  refine a_putR (pc := 78) dX11_init_78 fd_X11_52 (tg_X5 (ga_ (tg_X0 (ga_ (tg_X3 (ga_ (tg_X9 (ga_ (tg_X10 (ga_ (tg_X4 (ga_ hk)))))))))))) rfl (by omega) (fun _ => rfl) (fun _ => rfl) ?_
  refine a_aload_n (pc := 81) (x := 0) dX11_init_81 rfl ?_
  refine a_iconst (pc := 82) (v := (2 : Int32)) dX11_init_82 (by decide) ?_
  refine a_anew_ (pc := 83) (n := 98) (k := 2) dX11_init_83 w_483 (by decide) (by decide) (by decide) (tl_X5 (la_ (tl_X0 (la_ (tl_X3 (la_ (tl_X9 (la_ (tl_X10 (la_ (tl_X4 (la_ hn)))))))))))) (RLm_F (tr_X5 (RLm.more (RLm_F (tr_X0 (RLm.more (RLm_F (tr_X3 (RLm.more (RLm_F (tr_X9 (RLm.more (RLm_F (tr_X10 (RLm.more (RLm_F (RLm_F (tr_X4 (RLm.more hR (Nat.le_succ _)) (by omega)) (by omega)) (by omega)) (Nat.le_succ _)) (by omega)) (by omega)) (Nat.le_succ _)) (by omega)) (by omega)) (Nat.le_succ _)) (by omega)) (by omega)) (Nat.le_succ _)) (by omega)) (by omega)) (Nat.le_succ _)) (by omega)) (by omega)) (Fr0_F (tf_X5 (Fr0.more (Fr0_F (tf_X0 (Fr0.more (Fr0_F (tf_X3 (Fr0.more (Fr0_F (tf_X9 (Fr0.more (Fr0_F (tf_X10 (Fr0.more (Fr0_F (Fr0_F (tf_X4 (Fr0.more hF (Nat.le_succ _)) (by omega)) (by omega)) (by omega)) (Nat.le_succ _)) (by omega)) (by omega)) (Nat.le_succ _)) (by omega)) (by omega)) (Nat.le_succ _)) (by omega)) (by omega)) (Nat.le_succ _)) (by omega)) (by omega)) (Nat.le_succ _)) (by omega)) (by omega)) (by omega) (by omega) (by intro v hv; simp only [List.mem_cons, List.not_mem_nil, or_false] at hv; rcases hv with rfl <;> first | exact refN_int | exact refN_ref (by omega)) (by intro v hv; simp only [List.mem_cons, List.not_mem_nil, or_false] at hv; rcases hv with rfl <;> first | exact refN_int | exact refN_ref (by omega)) (by decide) (by decide) ?_
  refine a_putR (pc := 86) dX11_init_86 fd_X11_58 (ga_ (tg_X5 (ga_ (tg_X0 (ga_ (tg_X3 (ga_ (tg_X9 (ga_ (tg_X10 (ga_ (tg_X4 (ga_ hk))))))))))))) rfl (by omega) (fun _ => rfl) (fun _ => rfl) ?_
  refine a_aload_n (pc := 89) (x := 0) dX11_init_89 rfl ?_
  refine a_iconst (pc := 90) (v := (2 : Int32)) dX11_init_90 (by decide) ?_
  refine a_newarr_ (pc := 91) (n := 99) (t := 2) (k := 2) (by decide) rfl dX11_init_91 w_253 (by decide) (by decide) (by decide) (la_ (tl_X5 (la_ (tl_X0 (la_ (tl_X3 (la_ (tl_X9 (la_ (tl_X10 (la_ (tl_X4 (la_ hn))))))))))))) (RLm_F (RLm.more (RLm_F (tr_X5 (RLm.more (RLm_F (tr_X0 (RLm.more (RLm_F (tr_X3 (RLm.more (RLm_F (tr_X9 (RLm.more (RLm_F (tr_X10 (RLm.more (RLm_F (RLm_F (tr_X4 (RLm.more hR (Nat.le_succ _)) (by omega)) (by omega)) (by omega)) (Nat.le_succ _)) (by omega)) (by omega)) (Nat.le_succ _)) (by omega)) (by omega)) (Nat.le_succ _)) (by omega)) (by omega)) (Nat.le_succ _)) (by omega)) (by omega)) (Nat.le_succ _)) (by omega)) (by omega)) (Nat.le_succ _)) (by omega)) (Fr0_F (Fr0.more (Fr0_F (tf_X5 (Fr0.more (Fr0_F (tf_X0 (Fr0.more (Fr0_F (tf_X3 (Fr0.more (Fr0_F (tf_X9 (Fr0.more (Fr0_F (tf_X10 (Fr0.more (Fr0_F (Fr0_F (tf_X4 (Fr0.more hF (Nat.le_succ _)) (by omega)) (by omega)) (by omega)) (Nat.le_succ _)) (by omega)) (by omega)) (Nat.le_succ _)) (by omega)) (by omega)) (Nat.le_succ _)) (by omega)) (by omega)) (Nat.le_succ _)) (by omega)) (by omega)) (Nat.le_succ _)) (by omega)) (by omega)) (Nat.le_succ _)) (by omega)) (by omega) (by omega) (by intro v hv; simp only [List.mem_cons, List.not_mem_nil, or_false] at hv; rcases hv with rfl <;> first | exact refN_int | exact refN_ref (by omega)) (by intro v hv; simp only [List.mem_cons, List.not_mem_nil, or_false] at hv; rcases hv with rfl <;> first | exact refN_int | exact refN_ref (by omega)) (by decide) (by decide) ?_
  refine a_putR (pc := 93) dX11_init_93 fd_X11_62 (ga_ (ga_ (tg_X5 (ga_ (tg_X0 (ga_ (tg_X3 (ga_ (tg_X9 (ga_ (tg_X10 (ga_ (tg_X4 (ga_ hk)))))))))))))) rfl (by omega) (fun _ => rfl) (fun _ => rfl) ?_
  refine a_aload_n (pc := 96) (x := 0) dX11_init_96 rfl ?_
  refine a_new_ (pc := 97) (n := 100) dX11_init_97 no_X11_66 (la_ (la_ (tl_X5 (la_ (tl_X0 (la_ (tl_X3 (la_ (tl_X9 (la_ (tl_X10 (la_ (tl_X4 (la_ hn)))))))))))))) (RLm_F (RLm.more (RLm_F (RLm.more (RLm_F (tr_X5 (RLm.more (RLm_F (tr_X0 (RLm.more (RLm_F (tr_X3 (RLm.more (RLm_F (tr_X9 (RLm.more (RLm_F (tr_X10 (RLm.more (RLm_F (RLm_F (tr_X4 (RLm.more hR (Nat.le_succ _)) (by omega)) (by omega)) (by omega)) (Nat.le_succ _)) (by omega)) (by omega)) (Nat.le_succ _)) (by omega)) (by omega)) (Nat.le_succ _)) (by omega)) (by omega)) (Nat.le_succ _)) (by omega)) (by omega)) (Nat.le_succ _)) (by omega)) (by omega)) (Nat.le_succ _)) (by omega)) (Nat.le_succ _)) (by omega)) (Fr0_F (Fr0.more (Fr0_F (Fr0.more (Fr0_F (tf_X5 (Fr0.more (Fr0_F (tf_X0 (Fr0.more (Fr0_F (tf_X3 (Fr0.more (Fr0_F (tf_X9 (Fr0.more (Fr0_F (tf_X10 (Fr0.more (Fr0_F (Fr0_F (tf_X4 (Fr0.more hF (Nat.le_succ _)) (by omega)) (by omega)) (by omega)) (Nat.le_succ _)) (by omega)) (by omega)) (Nat.le_succ _)) (by omega)) (by omega)) (Nat.le_succ _)) (by omega)) (by omega)) (Nat.le_succ _)) (by omega)) (by omega)) (Nat.le_succ _)) (by omega)) (by omega)) (Nat.le_succ _)) (by omega)) (Nat.le_succ _)) (by omega)) (by omega) (by omega) (by intro v hv; simp only [List.mem_cons, List.not_mem_nil, or_false] at hv; rcases hv with rfl <;> first | exact refN_int | exact refN_ref (by omega)) (by intro v hv; simp only [List.mem_cons, List.not_mem_nil, or_false] at hv; rcases hv with rfl <;> first | exact refN_int | exact refN_ref (by omega)) (by decide) (by decide) ?_
  refine a_dup (pc := 100) dX11_init_100 rfl ?_
  refine a_call_ (pc := 101) (n := 101) dX11_init_101 ci_X11_68 (by decide) (rc_X8 (gl_ (la_ (la_ (tl_X5 (la_ (tl_X0 (la_ (tl_X3 (la_ (tl_X9 (la_ (tl_X10 (la_ (tl_X4 (la_ hn))))))))))))))) (la_ (la_ (la_ (tl_X5 (la_ (tl_X0 (la_ (tl_X3 (la_ (tl_X9 (la_ (tl_X10 (la_ (tl_X4 (la_ hn))))))))))))))) (RLm.more (RLm_F (RLm.more (RLm_F (RLm.more (RLm_F (tr_X5 (RLm.more (RLm_F (tr_X0 (RLm.more (RLm_F (tr_X3 (RLm.more (RLm_F (tr_X9 (RLm.more (RLm_F (tr_X10 (RLm.more (RLm_F (RLm_F (tr_X4 (RLm.more hR (Nat.le_succ _)) (by omega)) (by omega)) (by omega)) (Nat.le_succ _)) (by omega)) (by omega)) (Nat.le_succ _)) (by omega)) (by omega)) (Nat.le_succ _)) (by omega)) (by omega)) (Nat.le_succ _)) (by omega)) (by omega)) (Nat.le_succ _)) (by omega)) (by omega)) (Nat.le_succ _)) (by omega)) (Nat.le_succ _)) (by omega)) (Nat.le_succ _)) (Fr0.more (Fr0_F (Fr0.more (Fr0_F (Fr0.more (Fr0_F (tf_X5 (Fr0.more (Fr0_F (tf_X0 (Fr0.more (Fr0_F (tf_X3 (Fr0.more (Fr0_F (tf_X9 (Fr0.more (Fr0_F (tf_X10 (Fr0.more (Fr0_F (Fr0_F (tf_X4 (Fr0.more hF (Nat.le_succ _)) (by omega)) (by omega)) (by omega)) (Nat.le_succ _)) (by omega)) (by omega)) (Nat.le_succ _)) (by omega)) (by omega)) (Nat.le_succ _)) (by omega)) (by omega)) (Nat.le_succ _)) (by omega)) (by omega)) (Nat.le_succ _)) (by omega)) (by omega)) (Nat.le_succ _)) (by omega)) (Nat.le_succ _)) (by omega)) (Nat.le_succ _)) (by omega) (by omega) (by omega)) (la_ (la_ (la_ (tl_X5 (la_ (tl_X0 (la_ (tl_X3 (la_ (tl_X9 (la_ (tl_X10 (la_ (tl_X4 (la_ hn))))))))))))))) (by omega) (by intro v hv; simp only [List.mem_cons, List.not_mem_nil, or_false] at hv; rcases hv with rfl <;> first | exact refN_int | exact refN_ref (by omega)) (by intro v hv; simp only [List.mem_cons, List.not_mem_nil, or_false] at hv; rcases hv with rfl | rfl <;> first | exact refN_int | exact refN_ref (by omega)) (Nat.le_of_ble_eq_true rfl) (by decide) (by decide) ?_
  refine a_putR (pc := 104) dX11_init_104 fd_X11_69 (tg_X8 (ga_ (ga_ (ga_ (tg_X5 (ga_ (tg_X0 (ga_ (tg_X3 (ga_ (tg_X9 (ga_ (tg_X10 (ga_ (tg_X4 (ga_ hk)))))))))))))))) rfl (by omega) (fun _ => rfl) (fun _ => rfl) ?_
  refine a_aload_n (pc := 107) (x := 0) dX11_init_107 rfl ?_
  refine a_new_ (pc := 108) (n := 114) dX11_init_108 no_X11_56 (tl_X8 (la_ (la_ (la_ (tl_X5 (la_ (tl_X0 (la_ (tl_X3 (la_ (tl_X9 (la_ (tl_X10 (la_ (tl_X4 (la_ hn)))))))))))))))) (RLm_F (tr_X8 (RLm.more (RLm_F (RLm.more (RLm_F (RLm.more (RLm_F (tr_X5 (RLm.more (RLm_F (tr_X0 (RLm.more (RLm_F (tr_X3 (RLm.more (RLm_F (tr_X9 (RLm.more (RLm_F (tr_X10 (RLm.more (RLm_F (RLm_F (tr_X4 (RLm.more hR (Nat.le_succ _)) (by omega)) (by omega)) (by omega)) (Nat.le_succ _)) (by omega)) (by omega)) (Nat.le_succ _)) (by omega)) (by omega)) (Nat.le_succ _)) (by omega)) (by omega)) (Nat.le_succ _)) (by omega)) (by omega)) (Nat.le_succ _)) (by omega)) (by omega)) (Nat.le_succ _)) (by omega)) (Nat.le_succ _)) (by omega)) (Nat.le_succ _)) (by omega)) (by omega)) (Fr0_F (tf_X8 (Fr0.more (Fr0_F (Fr0.more (Fr0_F (Fr0.more (Fr0_F (tf_X5 (Fr0.more (Fr0_F (tf_X0 (Fr0.more (Fr0_F (tf_X3 (Fr0.more (Fr0_F (tf_X9 (Fr0.more (Fr0_F (tf_X10 (Fr0.more (Fr0_F (Fr0_F (tf_X4 (Fr0.more hF (Nat.le_succ _)) (by omega)) (by omega)) (by omega)) (Nat.le_succ _)) (by omega)) (by omega)) (Nat.le_succ _)) (by omega)) (by omega)) (Nat.le_succ _)) (by omega)) (by omega)) (Nat.le_succ _)) (by omega)) (by omega)) (Nat.le_succ _)) (by omega)) (by omega)) (Nat.le_succ _)) (by omega)) (Nat.le_succ _)) (by omega)) (Nat.le_succ _)) (by omega)) (by omega)) (by omega) (by omega) (by intro v hv; simp only [List.mem_cons, List.not_mem_nil, or_false] at hv; rcases hv with rfl <;> first | exact refN_int | exact refN_ref (by omega)) (by intro v hv; simp only [List.mem_cons, List.not_mem_nil, or_false] at hv; rcases hv with rfl <;> first | exact refN_int | exact refN_ref (by omega)) (by decide) (by decide) ?_
  refine a_dup (pc := 111) dX11_init_111 rfl ?_
  refine a_call_ (pc := 112) (n := 115) dX11_init_112 ci_X11_73 (by decide) (rc_X6 (gl_ (tl_X8 (la_ (la_ (la_ (tl_X5 (la_ (tl_X0 (la_ (tl_X3 (la_ (tl_X9 (la_ (tl_X10 (la_ (tl_X4 (la_ hn))))))))))))))))) (la_ (tl_X8 (la_ (la_ (la_ (tl_X5 (la_ (tl_X0 (la_ (tl_X3 (la_ (tl_X9 (la_ (tl_X10 (la_ (tl_X4 (la_ hn))))))))))))))))) (RLm.more (RLm_F (tr_X8 (RLm.more (RLm_F (RLm.more (RLm_F (RLm.more (RLm_F (tr_X5 (RLm.more (RLm_F (tr_X0 (RLm.more (RLm_F (tr_X3 (RLm.more (RLm_F (tr_X9 (RLm.more (RLm_F (tr_X10 (RLm.more (RLm_F (RLm_F (tr_X4 (RLm.more hR (Nat.le_succ _)) (by omega)) (by omega)) (by omega)) (Nat.le_succ _)) (by omega)) (by omega)) (Nat.le_succ _)) (by omega)) (by omega)) (Nat.le_succ _)) (by omega)) (by omega)) (Nat.le_succ _)) (by omega)) (by omega)) (Nat.le_succ _)) (by omega)) (by omega)) (Nat.le_succ _)) (by omega)) (Nat.le_succ _)) (by omega)) (Nat.le_succ _)) (by omega)) (by omega)) (Nat.le_succ _)) (Fr0.more (Fr0_F (tf_X8 (Fr0.more (Fr0_F (Fr0.more (Fr0_F (Fr0.more (Fr0_F (tf_X5 (Fr0.more (Fr0_F (tf_X0 (Fr0.more (Fr0_F (tf_X3 (Fr0.more (Fr0_F (tf_X9 (Fr0.more (Fr0_F (tf_X10 (Fr0.more (Fr0_F (Fr0_F (tf_X4 (Fr0.more hF (Nat.le_succ _)) (by omega)) (by omega)) (by omega)) (Nat.le_succ _)) (by omega)) (by omega)) (Nat.le_succ _)) (by omega)) (by omega)) (Nat.le_succ _)) (by omega)) (by omega)) (Nat.le_succ _)) (by omega)) (by omega)) (Nat.le_succ _)) (by omega)) (by omega)) (Nat.le_succ _)) (by omega)) (Nat.le_succ _)) (by omega)) (Nat.le_succ _)) (by omega)) (by omega)) (Nat.le_succ _)) (by omega) (by omega) (by omega)) (la_ (tl_X8 (la_ (la_ (la_ (tl_X5 (la_ (tl_X0 (la_ (tl_X3 (la_ (tl_X9 (la_ (tl_X10 (la_ (tl_X4 (la_ hn))))))))))))))))) (by omega) (by intro v hv; simp only [List.mem_cons, List.not_mem_nil, or_false] at hv; rcases hv with rfl <;> first | exact refN_int | exact refN_ref (by omega)) (by intro v hv; simp only [List.mem_cons, List.not_mem_nil, or_false] at hv; rcases hv with rfl | rfl <;> first | exact refN_int | exact refN_ref (by omega)) (Nat.le_of_ble_eq_true rfl) (by decide) (by decide) ?_
  refine a_putR (pc := 115) dX11_init_115 fd_X11_74 (tg_X6 (ga_ (tg_X8 (ga_ (ga_ (ga_ (tg_X5 (ga_ (tg_X0 (ga_ (tg_X3 (ga_ (tg_X9 (ga_ (tg_X10 (ga_ (tg_X4 (ga_ hk)))))))))))))))))) rfl (by omega) (fun _ => rfl) (fun _ => rfl) ?_
  refine a_iconst (pc := 118) (v := (0 : Int32)) dX11_init_118 (by decide) ?_
  refine a_istore_n (pc := 119) (L' := [(0, .ref 0), (1, .int (0 : Int32))]) dX11_init_119 (Nat.le_of_ble_eq_true rfl) rfl ?_
  refine a_iload_n (pc := 120) (x := (0 : Int32)) dX11_init_120 rfl ?_
  refine a_iconst (pc := 121) (v := (2 : Int32)) dX11_init_121 (by decide) ?_
  refine a_icmp_ge (pc := 122) (tgt := 144) dX11_init_122 (by decide) (fun c_ => absurd c_ (by decide)) (fun _ => ?_)
  refine a_aload_n (pc := 125) (x := 0) dX11_init_125 rfl ?_
  refine a_getR (pc := 126) (r := 98) dX11_init_126 fo_X11_58 (tg_X6 (ga_ (tg_X8 (ga_ (ga_ (ga_ (tg_X5 (ga_ (tg_X0 (ga_ (tg_X3 (ga_ (tg_X9 (ga_ (tg_X10 (ga_ (tg_X4 (ga_ hk)))))))))))))))))) rfl (by first | rfl | (simp [wRf, wI, wR, wRow, va_up]; try omega)) (by omega) ?_
  refine a_iload_n (pc := 129) (x := (0 : Int32)) dX11_init_129 rfl ?_
  refine a_new_ (pc := 130) (n := 128) dX11_init_130 no_X11_56 (tl_X6 (la_ (tl_X8 (la_ (la_ (la_ (tl_X5 (la_ (tl_X0 (la_ (tl_X3 (la_ (tl_X9 (la_ (tl_X10 (la_ (tl_X4 (la_ hn)))))))))))))))))) (RLm_F (tr_X6 (RLm.more (RLm_F (tr_X8 (RLm.more (RLm_F (RLm.more (RLm_F (RLm.more (RLm_F (tr_X5 (RLm.more (RLm_F (tr_X0 (RLm.more (RLm_F (tr_X3 (RLm.more (RLm_F (tr_X9 (RLm.more (RLm_F (tr_X10 (RLm.more (RLm_F (RLm_F (tr_X4 (RLm.more hR (Nat.le_succ _)) (by omega)) (by omega)) (by omega)) (Nat.le_succ _)) (by omega)) (by omega)) (Nat.le_succ _)) (by omega)) (by omega)) (Nat.le_succ _)) (by omega)) (by omega)) (Nat.le_succ _)) (by omega)) (by omega)) (Nat.le_succ _)) (by omega)) (by omega)) (Nat.le_succ _)) (by omega)) (Nat.le_succ _)) (by omega)) (Nat.le_succ _)) (by omega)) (by omega)) (Nat.le_succ _)) (by omega)) (by omega)) (Fr0_F (tf_X6 (Fr0.more (Fr0_F (tf_X8 (Fr0.more (Fr0_F (Fr0.more (Fr0_F (Fr0.more (Fr0_F (tf_X5 (Fr0.more (Fr0_F (tf_X0 (Fr0.more (Fr0_F (tf_X3 (Fr0.more (Fr0_F (tf_X9 (Fr0.more (Fr0_F (tf_X10 (Fr0.more (Fr0_F (Fr0_F (tf_X4 (Fr0.more hF (Nat.le_succ _)) (by omega)) (by omega)) (by omega)) (Nat.le_succ _)) (by omega)) (by omega)) (Nat.le_succ _)) (by omega)) (by omega)) (Nat.le_succ _)) (by omega)) (by omega)) (Nat.le_succ _)) (by omega)) (by omega)) (Nat.le_succ _)) (by omega)) (by omega)) (Nat.le_succ _)) (by omega)) (Nat.le_succ _)) (by omega)) (Nat.le_succ _)) (by omega)) (by omega)) (Nat.le_succ _)) (by omega)) (by omega)) (by omega) (by omega) (by intro v hv; simp only [List.mem_cons, List.not_mem_nil, or_false] at hv; rcases hv with rfl | rfl <;> first | exact refN_int | exact refN_ref (by omega)) (by intro v hv; simp only [List.mem_cons, List.not_mem_nil, or_false] at hv; rcases hv with rfl | rfl <;> first | exact refN_int | exact refN_ref (by omega)) (by decide) (by decide) ?_
  refine a_dup (pc := 133) dX11_init_133 rfl ?_
  refine a_call_ (pc := 134) (n := 129) dX11_init_134 ci_X11_73 (by decide) (rc_X6 (gl_ (tl_X6 (la_ (tl_X8 (la_ (la_ (la_ (tl_X5 (la_ (tl_X0 (la_ (tl_X3 (la_ (tl_X9 (la_ (tl_X10 (la_ (tl_X4 (la_ hn))))))))))))))))))) (la_ (tl_X6 (la_ (tl_X8 (la_ (la_ (la_ (tl_X5 (la_ (tl_X0 (la_ (tl_X3 (la_ (tl_X9 (la_ (tl_X10 (la_ (tl_X4 (la_ hn))))))))))))))))))) (RLm.more (RLm_F (tr_X6 (RLm.more (RLm_F (tr_X8 (RLm.more (RLm_F (RLm.more (RLm_F (RLm.more (RLm_F (tr_X5 (RLm.more (RLm_F (tr_X0 (RLm.more (RLm_F (tr_X3 (RLm.more (RLm_F (tr_X9 (RLm.more (RLm_F (tr_X10 (RLm.more (RLm_F (RLm_F (tr_X4 (RLm.more hR (Nat.le_succ _)) (by omega)) (by omega)) (by omega)) (Nat.le_succ _)) (by omega)) (by omega)) (Nat.le_succ _)) (by omega)) (by omega)) (Nat.le_succ _)) (by omega)) (by omega)) (Nat.le_succ _)) (by omega)) (by omega)) (Nat.le_succ _)) (by omega)) (by omega)) (Nat.le_succ _)) (by omega)) (Nat.le_succ _)) (by omega)) (Nat.le_succ _)) (by omega)) (by omega)) (Nat.le_succ _)) (by omega)) (by omega)) (Nat.le_succ _)) (Fr0.more (Fr0_F (tf_X6 (Fr0.more (Fr0_F (tf_X8 (Fr0.more (Fr0_F (Fr0.more (Fr0_F (Fr0.more (Fr0_F (tf_X5 (Fr0.more (Fr0_F (tf_X0 (Fr0.more (Fr0_F (tf_X3 (Fr0.more (Fr0_F (tf_X9 (Fr0.more (Fr0_F (tf_X10 (Fr0.more (Fr0_F (Fr0_F (tf_X4 (Fr0.more hF (Nat.le_succ _)) (by omega)) (by omega)) (by omega)) (Nat.le_succ _)) (by omega)) (by omega)) (Nat.le_succ _)) (by omega)) (by omega)) (Nat.le_succ _)) (by omega)) (by omega)) (Nat.le_succ _)) (by omega)) (by omega)) (Nat.le_succ _)) (by omega)) (by omega)) (Nat.le_succ _)) (by omega)) (Nat.le_succ _)) (by omega)) (Nat.le_succ _)) (by omega)) (by omega)) (Nat.le_succ _)) (by omega)) (by omega)) (Nat.le_succ _)) (by omega) (by omega) (by omega)) (la_ (tl_X6 (la_ (tl_X8 (la_ (la_ (la_ (tl_X5 (la_ (tl_X0 (la_ (tl_X3 (la_ (tl_X9 (la_ (tl_X10 (la_ (tl_X4 (la_ hn))))))))))))))))))) (by omega) (by intro v hv; simp only [List.mem_cons, List.not_mem_nil, or_false] at hv; rcases hv with rfl | rfl <;> first | exact refN_int | exact refN_ref (by omega)) (by intro v hv; simp only [List.mem_cons, List.not_mem_nil, or_false] at hv; rcases hv with rfl | rfl | rfl <;> first | exact refN_int | exact refN_ref (by omega)) (Nat.le_of_ble_eq_true rfl) (by decide) (by decide) ?_
  refine a_aast (pc := 137) dX11_init_137 (tg_X6 (ga_ (tg_X6 (ga_ (tg_X8 (ga_ (ga_ (gl_ (tl_X5 (la_ (tl_X0 (la_ (tl_X3 (la_ (tl_X9 (la_ (tl_X10 (la_ (tl_X4 (la_ hn)))))))))))))))))))) (tg_X6 (gl_ (tl_X6 (la_ (tl_X8 (la_ (la_ (la_ (tl_X5 (la_ (tl_X0 (la_ (tl_X3 (la_ (tl_X9 (la_ (tl_X10 (la_ (tl_X4 (la_ hn)))))))))))))))))))) (by omega) (vp_in_nI (n := 0) (N := 2) (by decide) (by decide)) ?_
  refine a_iinc (pc := 138) (x := (0 : Int32)) (v := (1 : Int32)) (L' := [(0, .ref 0), (1, .int (1 : Int32))]) dX11_init_138 rfl (by decide) (Nat.le_of_ble_eq_true rfl) rfl ?_
  refine a_goto (pc := 141) (tgt := 120) dX11_init_141 (by decide) ?_
  refine a_iload_n (pc := 120) (x := (1 : Int32)) dX11_init_120 rfl ?_
  refine a_iconst (pc := 121) (v := (2 : Int32)) dX11_init_121 (by decide) ?_
  refine a_icmp_ge (pc := 122) (tgt := 144) dX11_init_122 (by decide) (fun c_ => absurd c_ (by decide)) (fun _ => ?_)
  refine a_aload_n (pc := 125) (x := 0) dX11_init_125 rfl ?_
  refine a_getR (pc := 126) (r := 98) dX11_init_126 fo_X11_58 (tg_X6 (ga_ (tg_X6 (ga_ (tg_X8 (ga_ (ga_ (ga_ (tg_X5 (ga_ (tg_X0 (ga_ (tg_X3 (ga_ (tg_X9 (ga_ (tg_X10 (ga_ (tg_X4 (ga_ hk)))))))))))))))))))) rfl (by first | rfl | (simp [wRf, wI, wR, wRow, va_up]; try omega)) (by omega) ?_
  refine a_iload_n (pc := 129) (x := (1 : Int32)) dX11_init_129 rfl ?_
  refine a_new_ (pc := 130) (n := 142) dX11_init_130 no_X11_56 (tl_X6 (la_ (tl_X6 (la_ (tl_X8 (la_ (la_ (la_ (tl_X5 (la_ (tl_X0 (la_ (tl_X3 (la_ (tl_X9 (la_ (tl_X10 (la_ (tl_X4 (la_ hn)))))))))))))))))))) (RLm_F (tr_X6 (RLm.more (RLm_F (tr_X6 (RLm.more (RLm_F (tr_X8 (RLm.more (RLm_F (RLm.more (RLm_F (RLm.more (RLm_F (tr_X5 (RLm.more (RLm_F (tr_X0 (RLm.more (RLm_F (tr_X3 (RLm.more (RLm_F (tr_X9 (RLm.more (RLm_F (tr_X10 (RLm.more (RLm_F (RLm_F (tr_X4 (RLm.more hR (Nat.le_succ _)) (by omega)) (by omega)) (by omega)) (Nat.le_succ _)) (by omega)) (by omega)) (Nat.le_succ _)) (by omega)) (by omega)) (Nat.le_succ _)) (by omega)) (by omega)) (Nat.le_succ _)) (by omega)) (by omega)) (Nat.le_succ _)) (by omega)) (by omega)) (Nat.le_succ _)) (by omega)) (Nat.le_succ _)) (by omega)) (Nat.le_succ _)) (by omega)) (by omega)) (Nat.le_succ _)) (by omega)) (by omega)) (Nat.le_succ _)) (by omega)) (by omega)) (Fr0_F (tf_X6 (Fr0.more (Fr0_F (tf_X6 (Fr0.more (Fr0_F (tf_X8 (Fr0.more (Fr0_F (Fr0.more (Fr0_F (Fr0.more (Fr0_F (tf_X5 (Fr0.more (Fr0_F (tf_X0 (Fr0.more (Fr0_F (tf_X3 (Fr0.more (Fr0_F (tf_X9 (Fr0.more (Fr0_F (tf_X10 (Fr0.more (Fr0_F (Fr0_F (tf_X4 (Fr0.more hF (Nat.le_succ _)) (by omega)) (by omega)) (by omega)) (Nat.le_succ _)) (by omega)) (by omega)) (Nat.le_succ _)) (by omega)) (by omega)) (Nat.le_succ _)) (by omega)) (by omega)) (Nat.le_succ _)) (by omega)) (by omega)) (Nat.le_succ _)) (by omega)) (by omega)) (Nat.le_succ _)) (by omega)) (Nat.le_succ _)) (by omega)) (Nat.le_succ _)) (by omega)) (by omega)) (Nat.le_succ _)) (by omega)) (by omega)) (Nat.le_succ _)) (by omega)) (by omega)) (by omega) (by omega) (by intro v hv; simp only [List.mem_cons, List.not_mem_nil, or_false] at hv; rcases hv with rfl | rfl <;> first | exact refN_int | exact refN_ref (by omega)) (by intro v hv; simp only [List.mem_cons, List.not_mem_nil, or_false] at hv; rcases hv with rfl | rfl <;> first | exact refN_int | exact refN_ref (by omega)) (by decide) (by decide) ?_
  refine a_dup (pc := 133) dX11_init_133 rfl ?_
  refine a_call_ (pc := 134) (n := 143) dX11_init_134 ci_X11_73 (by decide) (rc_X6 (gl_ (tl_X6 (la_ (tl_X6 (la_ (tl_X8 (la_ (la_ (la_ (tl_X5 (la_ (tl_X0 (la_ (tl_X3 (la_ (tl_X9 (la_ (tl_X10 (la_ (tl_X4 (la_ hn))))))))))))))))))))) (la_ (tl_X6 (la_ (tl_X6 (la_ (tl_X8 (la_ (la_ (la_ (tl_X5 (la_ (tl_X0 (la_ (tl_X3 (la_ (tl_X9 (la_ (tl_X10 (la_ (tl_X4 (la_ hn))))))))))))))))))))) (RLm.more (RLm_F (tr_X6 (RLm.more (RLm_F (tr_X6 (RLm.more (RLm_F (tr_X8 (RLm.more (RLm_F (RLm.more (RLm_F (RLm.more (RLm_F (tr_X5 (RLm.more (RLm_F (tr_X0 (RLm.more (RLm_F (tr_X3 (RLm.more (RLm_F (tr_X9 (RLm.more (RLm_F (tr_X10 (RLm.more (RLm_F (RLm_F (tr_X4 (RLm.more hR (Nat.le_succ _)) (by omega)) (by omega)) (by omega)) (Nat.le_succ _)) (by omega)) (by omega)) (Nat.le_succ _)) (by omega)) (by omega)) (Nat.le_succ _)) (by omega)) (by omega)) (Nat.le_succ _)) (by omega)) (by omega)) (Nat.le_succ _)) (by omega)) (by omega)) (Nat.le_succ _)) (by omega)) (Nat.le_succ _)) (by omega)) (Nat.le_succ _)) (by omega)) (by omega)) (Nat.le_succ _)) (by omega)) (by omega)) (Nat.le_succ _)) (by omega)) (by omega)) (Nat.le_succ _)) (Fr0.more (Fr0_F (tf_X6 (Fr0.more (Fr0_F (tf_X6 (Fr0.more (Fr0_F (tf_X8 (Fr0.more (Fr0_F (Fr0.more (Fr0_F (Fr0.more (Fr0_F (tf_X5 (Fr0.more (Fr0_F (tf_X0 (Fr0.more (Fr0_F (tf_X3 (Fr0.more (Fr0_F (tf_X9 (Fr0.more (Fr0_F (tf_X10 (Fr0.more (Fr0_F (Fr0_F (tf_X4 (Fr0.more hF (Nat.le_succ _)) (by omega)) (by omega)) (by omega)) (Nat.le_succ _)) (by omega)) (by omega)) (Nat.le_succ _)) (by omega)) (by omega)) (Nat.le_succ _)) (by omega)) (by omega)) (Nat.le_succ _)) (by omega)) (by omega)) (Nat.le_succ _)) (by omega)) (by omega)) (Nat.le_succ _)) (by omega)) (Nat.le_succ _)) (by omega)) (Nat.le_succ _)) (by omega)) (by omega)) (Nat.le_succ _)) (by omega)) (by omega)) (Nat.le_succ _)) (by omega)) (by omega)) (Nat.le_succ _)) (by omega) (by omega) (by omega)) (la_ (tl_X6 (la_ (tl_X6 (la_ (tl_X8 (la_ (la_ (la_ (tl_X5 (la_ (tl_X0 (la_ (tl_X3 (la_ (tl_X9 (la_ (tl_X10 (la_ (tl_X4 (la_ hn))))))))))))))))))))) (by omega) (by intro v hv; simp only [List.mem_cons, List.not_mem_nil, or_false] at hv; rcases hv with rfl | rfl <;> first | exact refN_int | exact refN_ref (by omega)) (by intro v hv; simp only [List.mem_cons, List.not_mem_nil, or_false] at hv; rcases hv with rfl | rfl | rfl <;> first | exact refN_int | exact refN_ref (by omega)) (Nat.le_of_ble_eq_true rfl) (by decide) (by decide) ?_
  refine a_aast (pc := 137) dX11_init_137 (tg_X6 (ga_ (tg_X6 (ga_ (tg_X6 (ga_ (tg_X8 (ga_ (ga_ (gl_ (tl_X5 (la_ (tl_X0 (la_ (tl_X3 (la_ (tl_X9 (la_ (tl_X10 (la_ (tl_X4 (la_ hn)))))))))))))))))))))) (tg_X6 (gl_ (tl_X6 (la_ (tl_X6 (la_ (tl_X8 (la_ (la_ (la_ (tl_X5 (la_ (tl_X0 (la_ (tl_X3 (la_ (tl_X9 (la_ (tl_X10 (la_ (tl_X4 (la_ hn)))))))))))))))))))))) (by omega) (vp_in_nI (n := 1) (N := 2) (by decide) (by decide)) ?_
  refine a_iinc (pc := 138) (x := (1 : Int32)) (v := (2 : Int32)) (L' := [(0, .ref 0), (1, .int (2 : Int32))]) dX11_init_138 rfl (by decide) (Nat.le_of_ble_eq_true rfl) rfl ?_
  refine a_goto (pc := 141) (tgt := 120) dX11_init_141 (by decide) ?_
  refine a_iload_n (pc := 120) (x := (2 : Int32)) dX11_init_120 rfl ?_
  refine a_iconst (pc := 121) (v := (2 : Int32)) dX11_init_121 (by decide) ?_
  refine a_icmp_ge (pc := 122) (tgt := 144) dX11_init_122 (by decide) (fun _ => ?_) (fun c_ => absurd c_ (by decide))
  exact a_vret (pc := 144) dX11_init_144
theorem hR_X11 : RLm tm_X11 156 := by
  have hR : RLm m0 1 := fun _ _ => Or.inl rfl
  exact (RLm_F (tr_X6 (RLm.more (RLm_F (tr_X6 (RLm.more (RLm_F (tr_X6 (RLm.more (RLm_F (tr_X8 (RLm.more (RLm_F (RLm.more (RLm_F (RLm.more (RLm_F (tr_X5 (RLm.more (RLm_F (tr_X0 (RLm.more (RLm_F (tr_X3 (RLm.more (RLm_F (tr_X9 (RLm.more (RLm_F (tr_X10 (RLm.more (RLm_F (RLm_F (tr_X4 (RLm.more hR (Nat.le_succ _)) (by omega)) (by omega)) (by omega)) (Nat.le_succ _)) (by omega)) (by omega)) (Nat.le_succ _)) (by omega)) (by omega)) (Nat.le_succ _)) (by omega)) (by omega)) (Nat.le_succ _)) (by omega)) (by omega)) (Nat.le_succ _)) (by omega)) (by omega)) (Nat.le_succ _)) (by omega)) (Nat.le_succ _)) (by omega)) (Nat.le_succ _)) (by omega)) (by omega)) (Nat.le_succ _)) (by omega)) (by omega)) (Nat.le_succ _)) (by omega)) (by omega)) (Nat.le_succ _)) (by omega)) (by omega))
theorem hF_X11 : Fr0 tm_X11 156 := by
  have hF : Fr0 m0 1 := fun _ _ => ⟨rfl, rfl, rfl⟩
  exact (Fr0_F (tf_X6 (Fr0.more (Fr0_F (tf_X6 (Fr0.more (Fr0_F (tf_X6 (Fr0.more (Fr0_F (tf_X8 (Fr0.more (Fr0_F (Fr0.more (Fr0_F (Fr0.more (Fr0_F (tf_X5 (Fr0.more (Fr0_F (tf_X0 (Fr0.more (Fr0_F (tf_X3 (Fr0.more (Fr0_F (tf_X9 (Fr0.more (Fr0_F (tf_X10 (Fr0.more (Fr0_F (Fr0_F (tf_X4 (Fr0.more hF (Nat.le_succ _)) (by omega)) (by omega)) (by omega)) (Nat.le_succ _)) (by omega)) (by omega)) (Nat.le_succ _)) (by omega)) (by omega)) (Nat.le_succ _)) (by omega)) (by omega)) (Nat.le_succ _)) (by omega)) (by omega)) (Nat.le_succ _)) (by omega)) (by omega)) (Nat.le_succ _)) (by omega)) (Nat.le_succ _)) (by omega)) (Nat.le_succ _)) (by omega)) (by omega)) (Nat.le_succ _)) (by omega)) (by omega)) (Nat.le_succ _)) (by omega)) (by omega)) (Nat.le_succ _)) (by omega)) (by omega))
theorem hn_X11 : tS_X11.length = 156 := by
  have hn : S11.length = 1 := rfl
  exact (tl_X6 (la_ (tl_X6 (la_ (tl_X6 (la_ (tl_X8 (la_ (la_ (la_ (tl_X5 (la_ (tl_X0 (la_ (tl_X3 (la_ (tl_X9 (la_ (tl_X10 (la_ (tl_X4 (la_ hn))))))))))))))))))))))

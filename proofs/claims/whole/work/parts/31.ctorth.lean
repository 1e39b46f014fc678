/-! making the world: constructors, cell by cell -/
def va_AOA (ty : FieldType) (U : State) : Prop := (Cond.arrayOver (.array ty)).before #[] U = true
theorem va_AOA.use {ty : FieldType} {A : Array Value} {U : State} (h : va_AOA ty U) : (Cond.arrayOver (.array ty)).before A U = true := h
def rfz (ad : Nat → Nat) (r : Nat) : Value := if r = 0 then .null else .ref (ad r)
def slotA (ad : Nat → Nat) (mm : MM) (k j : Nat) : Nat → Value
  | 0 => .int (mm.1 k j)
  | _ + 1 => rfz ad (mm.2.2 k j)
def slotsA (ad : Nat → Nat) (mm : MM) (k : Nat) : Nat → List Nat → List Value
  | _, [] => []
  | j, sk :: l => slotA ad mm k j sk :: slotsA ad mm k (j + 1) l
theorem slotsA_at (ad : Nat → Nat) (mm : MM) (k : Nat) : ∀ (l : List Nat) (j i : Nat), (slotsA ad mm k j l)[i]? = (l[i]?).map (fun sk => slotA ad mm k (j + i) sk)
  | [], j, i => by simp [slotsA]
  | sk :: l, j, 0 => by simp [slotsA]
  | sk :: l, j, i + 1 => by
    simp only [slotsA, List.getElem?_cons_succ]
    rw [slotsA_at ad mm k l (j + 1) i]
    have e : j + 1 + i = j + (i + 1) := by omega
    rw [e]
theorem slotsA_len (ad : Nat → Nat) (mm : MM) (k : Nat) : ∀ (l : List Nat) (j : Nat), (slotsA ad mm k j l).length = l.length
  | [], j => rfl
  | sk :: l, j => by simp [slotsA, slotsA_len ad mm k l (j + 1)]
def cellA (ad : Nat → Nat) (ca : Nat → ClassId) (mm : MM) (k : Nat) : SHP → va_E
  | .inl (0, n, _, _) => .inl (ca 0, n, .inl (mm.1 k))
  | .inl (1, n, _, _) => .inl (ca 1, n, .inl (mm.1 k))
  | .inl (2, n, _, _) => .inl (ca 2, n, .inl (mm.1 k))
  | .inl (3, n, _, _) => .inl (ca 3, n, .inr (.inl (mm.2.1 k)))
  | .inl (t + 4, n, _, _) => .inl (ca (t + 4), n, .inr (.inr (.inr (.inr (fun j => if mm.2.2 k j = 0 then none else some (ad (mm.2.2 k j)))))))
  | .inr (ci, sks) => .inr (ci, slotsA ad mm k 0 sks)
def wsA (ad : Nat → Nat) (ca : Nat → ClassId) (mm : MM) : Nat → List SHP → va_W
  | _, [] => []
  | k, s :: l => (ad k, cellA ad ca mm k s) :: wsA ad ca mm (k + 1) l
theorem wsA_at (ad : Nat → Nat) (ca : Nat → ClassId) (mm : MM) : ∀ (l : List SHP) (k i : Nat), (wsA ad ca mm k l)[i]? = (l[i]?).map (fun s => (ad (k + i), cellA ad ca mm (k + i) s))
  | [], k, i => by simp [wsA]
  | s :: l, k, 0 => by simp [wsA]
  | s :: l, k, i + 1 => by
    simp only [wsA, List.getElem?_cons_succ]
    rw [wsA_at ad ca mm l (k + 1) i]
    have e : k + 1 + i = k + (i + 1) := by omega
    rw [e]
theorem wsA_some {ad : Nat → Nat} {ca : Nat → ClassId} {mm : MM} {S : List SHP} {k : Nat} {s : SHP} (h : S[k]? = some s) : (wsA ad ca mm 0 S)[k]? = some (ad k, cellA ad ca mm k s) := by
  rw [wsA_at, h]; simp
theorem wsA_len (ad : Nat → Nat) (ca : Nat → ClassId) (mm : MM) : ∀ (l : List SHP) (k : Nat), (wsA ad ca mm k l).length = l.length
  | [], _ => rfl
  | s :: l, k => by simp [wsA, wsA_len ad ca mm l (k + 1)]
theorem wsA_app (ad : Nat → Nat) (ca : Nat → ClassId) (mm : MM) : ∀ (l l2 : List SHP) (k : Nat), wsA ad ca mm k (l ++ l2) = wsA ad ca mm k l ++ wsA ad ca mm (k + l.length) l2
  | [], l2, k => by simp [wsA]
  | s :: l, l2, k => by
    have e : k + 1 + l.length = k + (l.length + 1) := by omega
    simp [wsA, wsA_app ad ca mm l l2 (k + 1), e]
theorem slotsA_same {ad ad2 : Nat → Nat} {mm m2 : MM} {k : Nat} (h1 : m2.1 k = mm.1 k) (h3 : m2.2.2 k = mm.2.2 k) (ha : ∀ j, rfz ad2 (mm.2.2 k j) = rfz ad (mm.2.2 k j)) : ∀ (l : List Nat) (j : Nat), slotsA ad2 m2 k j l = slotsA ad mm k j l
  | [], _ => rfl
  | 0 :: l, j => by simp [slotsA, slotA, h1, slotsA_same h1 h3 ha l (j + 1)]
  | (d + 1) :: l, j => by simp [slotsA, slotA, h3, ha, slotsA_same h1 h3 ha l (j + 1)]
theorem cellA_same {ad ad2 : Nat → Nat} {ca : Nat → ClassId} {mm m2 : MM} {k : Nat} (h : m2.1 k = mm.1 k ∧ m2.2.1 k = mm.2.1 k ∧ m2.2.2 k = mm.2.2 k) (ha : ∀ j, mm.2.2 k j = 0 ∨ ad2 (mm.2.2 k j) = ad (mm.2.2 k j)) (s : SHP) : cellA ad2 ca m2 k s = cellA ad ca mm k s := by
  obtain ⟨h1, h2, h3⟩ := h
  rcases s with ⟨t, n, d, e⟩ | ⟨ci, sks⟩
  · match t with
    | 0 => simp [cellA, h1]
    | 1 => simp [cellA, h1]
    | 2 => simp [cellA, h1]
    | 3 => simp [cellA, h2]
    | t + 4 =>
      have e9 : (fun j => if m2.2.2 k j = 0 then none else some (ad2 (m2.2.2 k j))) = (fun j => if mm.2.2 k j = 0 then none else some (ad (mm.2.2 k j))) := by
        funext j
        rw [h3]
        rcases ha j with z | z
        · simp [z]
        · rw [z]
      simp only [cellA, e9]
  · have e9 : ∀ j, rfz ad2 (mm.2.2 k j) = rfz ad (mm.2.2 k j) := by
      intro j
      unfold rfz
      rcases ha j with z | z
      · simp [z]
      · rw [z]
    simp [cellA, slotsA_same h1 h3 e9]
theorem wsA_same {ad ad2 : Nat → Nat} {ca : Nat → ClassId} {mm m2 : MM} : ∀ (l : List SHP) (k : Nat), (∀ a, k ≤ a → a < k + l.length → ad2 a = ad a ∧ (m2.1 a = mm.1 a ∧ m2.2.1 a = mm.2.1 a ∧ m2.2.2 a = mm.2.2 a) ∧ ∀ j, mm.2.2 a j = 0 ∨ ad2 (mm.2.2 a j) = ad (mm.2.2 a j)) → wsA ad2 ca m2 k l = wsA ad ca mm k l
  | [], _, _ => rfl
  | s :: l, k, h => by
    have h0 := h k (Nat.le_refl k) (by simp)
    simp only [wsA]
    rw [h0.1, cellA_same h0.2.1 h0.2.2, wsA_same l (k + 1) (fun a h1 h2 => h a (by omega) (by simp; omega))]
theorem wsA_set {ad : Nat → Nat} {ca : Nat → ClassId} {mm m2 : MM} {S : List SHP} {k : Nat} {s : SHP} (hs : S[k]? = some s) (h : mOff k mm m2) : (wsA ad ca mm 0 S).set k (ad k, cellA ad ca m2 k s) = wsA ad ca m2 0 S := by
  apply List.ext_getElem?
  intro i
  rw [List.getElem?_set]
  by_cases e : k = i
  · subst e
    have hl : k < (wsA ad ca mm 0 S).length := (List.getElem?_eq_some_iff.mp (wsA_some (ad := ad) (ca := ca) (mm := mm) hs)).1
    simp [hl, wsA_some (ad := ad) (ca := ca) (mm := m2) hs]
  · rw [if_neg e, wsA_at, wsA_at]
    congr 1
    funext s
    have h0 := h (0 + i) (fun q => e (by omega))
    rw [cellA_same (ad := ad) (ad2 := ad) h0 (fun j => Or.inr rfl)]
theorem slotsA_setI {ad : Nat → Nat} {mm : MM} {k : Nat} {l : List Nat} {j : Nat} {v : Int32} (h : l[j]? = some 0) : (slotsA ad mm k 0 l).set j (.int v) = slotsA ad (wI mm k j v) k 0 l := by
  apply List.ext_getElem?
  intro i
  rw [List.getElem?_set]
  by_cases e : j = i
  · subst e
    have hl : j < (slotsA ad mm k 0 l).length := by rw [slotsA_len]; exact (List.getElem?_eq_some_iff.mp h).1
    simp [hl, slotsA_at, h, slotA, wI_k, upd]
  · rw [if_neg e, slotsA_at, slotsA_at]
    cases l[i]? with
    | none => rfl
    | some sk =>
      match sk with
      | 0 => simp [slotA, wI_k, upd, Ne.symm e]
      | d + 1 => simp [slotA, wI, wR]
theorem slotsA_setF {ad : Nat → Nat} {mm : MM} {k : Nat} {l : List Nat} {j r : Nat} (h : l[j]? = some 1) (hr : r ≠ 0) : (slotsA ad mm k 0 l).set j (.ref (ad r)) = slotsA ad (wRf mm k j r) k 0 l := by
  apply List.ext_getElem?
  intro i
  rw [List.getElem?_set]
  by_cases e : j = i
  · subst e
    have hl : j < (slotsA ad mm k 0 l).length := by rw [slotsA_len]; exact (List.getElem?_eq_some_iff.mp h).1
    simp [hl, slotsA_at, h, slotA, wF_k, va_up, rfz, hr]
  · rw [if_neg e, slotsA_at, slotsA_at]
    cases l[i]? with
    | none => rfl
    | some sk =>
      match sk with
      | 0 => simp [slotA, wRf]
      | d + 1 => simp [slotA, wF_k, va_up, Ne.symm e]
/-- all references lead to cells below n; all that is from n on is 0 -/
def RLm (mm : MM) (n : Nat) : Prop := ∀ k j, mm.2.2 k j = 0 ∨ mm.2.2 k j < n
def Fr0 (mm : MM) (n : Nat) : Prop := ∀ k, n ≤ k → mm.1 k = (fun _ => 0) ∧ mm.2.1 k = (fun _ => 0) ∧ mm.2.2 k = (fun _ => 0)
def refN (n : Nat) : Value → Prop
  | .ref k => k < n
  | _ => True
theorem cv_up {ad : Nat → Nat} {n q : Nat} {v : Value} (h : refN n v) : cv (va_up ad n q) v = cv ad v := by
  cases v with
  | ref k => simp only [refN] at h; simp [cv, va_up, Nat.ne_of_lt h]
  | _ => rfl
theorem cS_up {ad : Nat → Nat} {n q : Nat} {l : List Value} (h : ∀ v ∈ l, refN n v) : cS (va_up ad n q) l = cS ad l := List.map_congr_left (fun v hv => cv_up (h v hv))
theorem cL_up {ad : Nat → Nat} {n q : Nat} {l : List (Nat × Value)} (h : ∀ v ∈ l, refN n v.2) : cL (va_up ad n q) l = cL ad l := List.map_congr_left (fun v hv => by simp [cv_up (h v hv)])
theorem wsA_up {ad : Nat → Nat} {ca : Nat → ClassId} {mm : MM} {S : List SHP} {q : Nat} (hR : RLm mm S.length) : wsA (va_up ad S.length q) ca mm 0 S = wsA ad ca mm 0 S := by
  refine wsA_same S 0 (fun a h1 h2 => ⟨?_, ⟨rfl, rfl, rfl⟩, fun j => ?_⟩)
  · have : a ≠ S.length := by omega
    simp [va_up, this]
  · rcases hR a j with z | z
    · exact Or.inl z
    · exact Or.inr (by simp [va_up, Nat.ne_of_lt z])
/-- a new cell behind the others -/
theorem wsA_push {ad : Nat → Nat} {ca : Nat → ClassId} {mm : MM} {S : List SHP} {q : Nat} {s : SHP} {e : va_E} (hR : RLm mm S.length) (he : ∀ ad, cellA ad ca mm S.length s = e) : wsA ad ca mm 0 S ++ [(q, e)] = wsA (va_up ad S.length q) ca mm 0 (S ++ [s]) := by
  rw [wsA_app, wsA_up hR]
  simp [wsA, va_up, he]
theorem RLm.more {mm : MM} {n m : Nat} (h : RLm mm n) (hm : n ≤ m) : RLm mm m := fun k j => (h k j).imp id (fun z => Nat.lt_of_lt_of_le z hm)
theorem Fr0.more {mm : MM} {n m : Nat} (h : Fr0 mm n) (hm : n ≤ m) : Fr0 mm m := fun k hk => h k (Nat.le_trans hm hk)
theorem RLm_I {mm : MM} {n k j : Nat} {v : Int32} (h : RLm mm n) : RLm (wI mm k j v) n := h
theorem RLm_F {mm : MM} {n k j r : Nat} (h : RLm mm n) (hr : r < n) : RLm (wRf mm k j r) n := by
  intro a b
  by_cases e : a = k
  · subst e
    rw [wF_k]
    by_cases f : b = j
    · subst f; simp [va_up, hr]
    · simp only [va_up, f, if_false]; exact h a b
  · rw [wF_o e]; exact h a b
theorem Fr0_I {mm : MM} {n k j : Nat} {v : Int32} (h : Fr0 mm n) (hk : k < n) : Fr0 (wI mm k j v) n := fun a ha => ⟨by rw [wI_o (by omega)]; exact (h a ha).1, (h a ha).2⟩
theorem Fr0_F {mm : MM} {n k j r : Nat} (h : Fr0 mm n) (hk : k < n) : Fr0 (wRf mm k j r) n := fun a ha => ⟨(h a ha).1, (h a ha).2.1, by rw [wF_o (by omega)]; exact (h a ha).2.2⟩
/-! ===== BEGIN new T[n][m]: the outer array a place, the inner ones among the pooled ===== -/
/-- f, but v at every address of l -/
def vr_up {α : Type} (f : Nat → α) (l : List Nat) (v : α) : Nat → α := fun a => if a ∈ l then v else f a
theorem vr_up_in {α : Type} {f : Nat → α} {l : List Nat} {v : α} {a : Nat} (h : a ∈ l) : vr_up f l v a = v := if_pos h
theorem vr_up_ne {α : Type} {f : Nat → α} {l : List Nat} {v : α} {a : Nat} (h : a ∉ l) : vr_up f l v a = f a := if_neg h
theorem vr_rows {L l : List Nat} {f : Nat → va_E} {e : va_E} (h : ∀ a, a ∈ l → a ∉ L) : va_pl L f ++ l.map (fun a => (a, e)) = va_pl (L ++ l) (vr_up f l e) := by
  unfold va_pl
  rw [List.map_append]
  congr 1
  · apply List.map_congr_left
    intro a ha
    rw [vr_up_ne (fun q => h a q ha)]
  · apply List.map_congr_left
    intro a ha
    rw [vr_up_in ha]
theorem vr_lay {X rows : va_W} {x : Nat × va_E} {pl : va_W} {D : va_G} {cl : List vw_C} {H : Heap} (hP : va_P D cl (((X ++ pl) ++ [x]) ++ rows) H) : va_P D cl ((X ++ [x]) ++ (pl ++ rows)) H := by
  rw [List.append_assoc (X ++ pl)] at hP
  have h := va_P.swap hP
  rw [← List.append_assoc X] at h
  have h2 := va_P.swap h
  rw [List.append_assoc (X ++ [x])] at h2
  exact h2
theorem vr_layD {X rows : va_W} {x : Nat × va_E} {pl : va_W} {A : Nat → Prop} (hD : va_D A (((X ++ pl) ++ [x]) ++ rows)) : va_D A ((X ++ [x]) ++ (pl ++ rows)) := by
  rw [List.append_assoc (X ++ pl)] at hD
  have h := va_D.swap hD
  rw [← List.append_assoc X] at h
  have h2 := va_D.swap h
  rw [List.append_assoc (X ++ [x])] at h2
  exact h2
theorem vr_outer (c : ClassId) (N h0 : Nat) : ∀ i : Nat, Jvm.Free.Multi.outerC c N h0 i = arrV c N (fun j => va_rf (if j < i then some (h0 + 1 + j) else none))
  | 0 => by
    show ({ cls := c, slots := Array.replicate N .null, vm := .none } : Cell) = _
    rw [arrV_new]
    refine congrArg (arrV c N) (funext fun j => ?_)
    simp [va_rf]
  | i + 1 => by
    show (Jvm.Free.Multi.outerC c N h0 i).setSlot i (.ref (h0 + 1 + i)) = _
    rw [vr_outer c N h0 i, arrV_store]
    refine congrArg (arrV c N) (funext fun j => ?_)
    by_cases e : j = i
    · subst e
      simp [updV, va_rf]
    · by_cases h : j < i
      · simp [updV, e, h, Nat.lt_succ_of_lt h]
      · simp [updV, e, h, show ¬ j < i + 1 by omega]
section VGM
variable {p : Program} {l : Launch} {e : Env} {R : Room} {s : State} {m : MethodId} {args : Array Value} {below : List Frame} {meth : Method} {c : Code} {H : Heap} {locs : List Loc} {cells slots : Nat} {Q : State → Prop}
variable {cc : ByteArray} {pc : Nat} {ls : Array Slot} {rest : List Value} {D : va_G} {cl : List vw_C} {A : Nat → Prop} {a : Nat} {tys : List (ClassId × FieldType)} {ws : va_W} {H0 : Heap}
theorem va_mna {X : va_W} {L : List Nat} {f : Nat → va_E} {cc : ByteArray} (hexec : p.tables.exec = Jvm.exec) (hb : c.code = cc) {own : String} {index : Nat} {ty : FieldType} {cy : ClassId} (hown : s.vm.findClass own = some m.cls) (hclink : (Cond.classLink own index ("[" ++ (FieldType.array ty).toString)).before args s = true) (hover : va_AOA ty s) (harr : (Cond.arrayClass ty).before args s = true) (hcy : s.vm.findClass (FieldType.array ty).toString = some cy)
    (hK : va_K D cl tys s) (hP : va_P D cl (X ++ va_pl L f) H) (hD : va_D A (X ++ va_pl L f)) (hS : va_S A H0 H locs) (hA : ∀ q, H0.size ≤ q → A q) {n k : Int32} {N' K' : Nat} {z : vp_A} (hn : ¬ n < 0) (hk : ¬ k < 0) (hN : n.toNatClampNeg = N') (hM : k.toNatClampNeg = K')
    (hb1 : N' * 4 ≤ 536870912) (hb2 : K' * componentBytes ty ≤ 536870912) (hb3 : K' ≤ 536870912) (hdf : fits ty (defaultValue ty) = true) (hdd : (defaultValue ty).isDefault = true) (hcells : cells + (1 + N') ≤ R.cells) (hslots : slots + (N' + N' * K') ≤ R.slots) (hz : ∀ c : ClassId, Jvm.Free.Multi.innerC c K' (defaultValue ty) = vp_cell c z) (hdg : decode cc pc = .ok (.multianewarray index 2, 4))
    (kk : ∀ (q : Nat) (r : Nat → Nat) (cA : ClassId) (H1 : Heap), (∀ i j : Nat, i < N' → j < N' → r i = r j → i = j) → (∀ i : Nat, i < N' → r i ∉ L) → va_K D cl (tys ++ [(cA, .array ty)]) s →
      va_P D cl ((X ++ [(q, .inl (cA, N', .inr (.inr (.inr (.inr (fun i => if i < N' then some (r i) else none))))))]) ++ va_pl (L ++ (List.range N').map r) (vr_up f ((List.range N').map r) (.inl (cy, z)))) H1 → va_D A ((X ++ [(q, .inl (cA, N', .inr (.inr (.inr (.inr (fun i => if i < N' then some (r i) else none))))))]) ++ va_pl (L ++ (List.range N').map r) (vr_up f ((List.range N').map r) (.inl (cy, z)))) → va_S A H0 H1 locs →
      W p l e R s m args below meth c H1 locs (cells + 1 + N') (slots + N' + N' * K') Q (F0 m (pc + 4) ls (.ref q :: rest))) : W p l e R s m args below meth c H locs cells slots Q (F0 m pc ls (.int k :: .int n :: rest)) := by
  subst hN
  subst hM
  intro T hT Xs
  obtain ⟨vm₁, cA, comp, -, fA, fC, hO, -, X', step⟩ := Xs.multianewarray2F hexec hown hclink (va_AOA.use hover) harr (g := F0 m pc ls (.int k :: .int n :: rest)) rfl (by rw [hb]; exact hdg) rfl hn hk hb1 hb2 hb3 hdf hdd hcells hslots
  have ec : some cy = some comp := hcy.symm.trans fC
  cases ec
  generalize hF : Jvm.Free.Multi.fill (T.setVm vm₁) cA cy n.toNatClampNeg k.toNatClampNeg (defaultValue ty) n.toNatClampNeg = F at X' step
  have hTh : (T.setVm vm₁).heap = H := hT
  obtain ⟨f1, f2, -, -⟩ := Jvm.Free.Multi.fill_facts (T.setVm vm₁) cA cy n.toNatClampNeg k.toNatClampNeg (defaultValue ty) n.toNatClampNeg
  rw [hF, hTh] at f1 f2
  have hold : ∀ x : Nat, x < H.size → F.heap[x]? = H[x]? := fun x hx => by
    have := Jvm.Free.Multi.fill_old (T.setVm vm₁) cA cy n.toNatClampNeg k.toNatClampNeg (defaultValue ty) (a := x) (by rw [hTh]; exact hx) n.toNatClampNeg
    rw [hF, hTh] at this
    exact this
  have hrow : ∀ j : Nat, j < n.toNatClampNeg → F.heap[H.size + 1 + j]? = some (vp_cell cy z) := fun j hj => by
    have := Jvm.Free.Multi.fill_inner (T.setVm vm₁) cA cy n.toNatClampNeg k.toNatClampNeg (defaultValue ty) n.toNatClampNeg j hj
    rw [hF, hTh, hz] at this
    exact this
  have hout : Jvm.Free.Multi.outerC cA n.toNatClampNeg H.size n.toNatClampNeg = vp_cell cA (n.toNatClampNeg, .inr (.inr (.inr (.inr (fun i => if i < n.toNatClampNeg then some (H.size + 1 + i) else none))))) := by
    rw [vp_cell_q]
    exact vr_outer cA n.toNatClampNeg H.size n.toNatClampNeg
  rw [hout] at f2
  have hlt : ∀ a, a ∈ L → a < H.size := fun a ha => by
    obtain ⟨k9, hk9⟩ := va_pl_get (X := X) (f := f) ha
    exact (hP k9 _ hk9).lt
  have hnl : ∀ i : Nat, i < n.toNatClampNeg → H.size + 1 + i ∉ L := fun i _ h => by
    have := hlt _ h
    omega
  have hnm : ∀ a, a ∈ (List.range n.toNatClampNeg).map (fun i => H.size + 1 + i) → a ∉ L := fun a ha h => by
    obtain ⟨i, -, rfl⟩ := List.mem_map.mp ha
    have := hlt _ h
    omega
  have hP0 : va_P D cl (X ++ va_pl L f) F.heap := hP.kept (fun k9 x hx => hold x.1 ((hP k9 x hx).lt))
  have hP1 : va_P D cl ((X ++ va_pl L f) ++ [(H.size, .inl (cA, n.toNatClampNeg, .inr (.inr (.inr (.inr (fun i => if i < n.toNatClampNeg then some (H.size + 1 + i) else none))))))]) F.heap := hP0.app (fun k9 x hx => by
    have h0 : k9 < 1 := (List.getElem?_eq_some_iff.mp hx).1
    rw [show k9 = 0 by omega] at hx
    cases hx
    exact f2)
  have hP2 : va_P D cl (((X ++ va_pl L f) ++ [(H.size, .inl (cA, n.toNatClampNeg, .inr (.inr (.inr (.inr (fun i => if i < n.toNatClampNeg then some (H.size + 1 + i) else none))))))]) ++ ((List.range n.toNatClampNeg).map (fun i => H.size + 1 + i)).map (fun a => (a, .inl (cy, z)))) F.heap := hP1.app (fun k9 x hx => by
    obtain ⟨a, ha, rfl⟩ := List.mem_map.mp (List.mem_of_getElem? hx)
    obtain ⟨i, hi, rfl⟩ := List.mem_map.mp ha
    exact hrow i (List.mem_range.mp hi))
  have hD2 : va_D A (((X ++ va_pl L f) ++ [(H.size, .inl (cA, n.toNatClampNeg, .inr (.inr (.inr (.inr (fun i => if i < n.toNatClampNeg then some (H.size + 1 + i) else none))))))]) ++ ((List.range n.toNatClampNeg).map (fun i => H.size + 1 + i)).map (fun a => (a, .inl (cy, z)))) := by
    have hD1 := hD.push (e := .inl (cA, n.toNatClampNeg, .inr (.inr (.inr (.inr (fun i => if i < n.toNatClampNeg then some (H.size + 1 + i) else none)))))) hP rfl (hA _ hS.1)
    generalize hW1 : (X ++ va_pl L f) ++ [(H.size, .inl (cA, n.toNatClampNeg, .inr (.inr (.inr (.inr (fun i => if i < n.toNatClampNeg then some (H.size + 1 + i) else none))))))] = W1 at hD1 hP1 ⊢
    have hle : ∀ (k9 : Nat) (x : Nat × va_E), W1[k9]? = some x → x.1 ≤ H.size := fun k9 x hx => by
      rw [← hW1] at hx
      by_cases hl : k9 < (X ++ va_pl L f).length
      · rw [List.getElem?_append_left hl] at hx
        exact Nat.le_of_lt ((hP k9 x hx).lt)
      · rw [List.getElem?_append_right (by omega)] at hx
        have h0 : k9 - (X ++ va_pl L f).length < 1 := (List.getElem?_eq_some_iff.mp hx).1
        rw [show k9 - (X ++ va_pl L f).length = 0 by omega] at hx
        cases hx
        exact Nat.le_refl _
    have hr : ∀ (k9 : Nat) (x : Nat × va_E), (((List.range n.toNatClampNeg).map (fun i => H.size + 1 + i)).map (fun a => ((a, .inl (cy, z)) : Nat × va_E)))[k9]? = some x → x.1 = H.size + 1 + k9 := fun k9 x hx => by
      rw [List.getElem?_map, List.getElem?_map] at hx
      by_cases h9 : k9 < n.toNatClampNeg
      · rw [List.getElem?_range h9] at hx
        cases hx
        rfl
      · have hn0 : (List.range n.toNatClampNeg)[k9]? = none := List.getElem?_eq_none (by rw [List.length_range]; omega)
        rw [hn0] at hx
        cases hx
    refine ⟨fun i j x y hi hj hxy => ?_, fun k9 x hx => ?_⟩
    · by_cases h1 : i < W1.length <;> by_cases h2 : j < W1.length
      · rw [List.getElem?_append_left h1] at hi
        rw [List.getElem?_append_left h2] at hj
        exact hD1.1 i j x y hi hj hxy
      · rw [List.getElem?_append_left h1] at hi
        rw [List.getElem?_append_right (by omega)] at hj
        have := hle _ _ hi
        have := hr _ _ hj
        omega
      · rw [List.getElem?_append_right (by omega)] at hi
        rw [List.getElem?_append_left h2] at hj
        have := hle _ _ hj
        have := hr _ _ hi
        omega
      · rw [List.getElem?_append_right (by omega)] at hi hj
        have := hr _ _ hi
        have := hr _ _ hj
        omega
    · by_cases h1 : k9 < W1.length
      · rw [List.getElem?_append_left h1] at hx
        exact hD1.2 k9 x hx
      · rw [List.getElem?_append_right (by omega)] at hx
        have := hr _ _ hx
        exact hA _ (by have := hS.1; omega)
  have hAr : ArrOfT s cA (.array ty) := fun N9 z9 => by
    obtain ⟨-, k9, hk9, cm9, hkk9⟩ := (hO 0 0 0).1
    exact ⟨(fun q hq => by cases hq), k9, hk9, cm9, hkk9⟩
  have hK2 : va_K D cl (tys ++ [(cA, .array ty)]) s := ⟨hK.1, fun k9 x hx => by
    by_cases hl : k9 < tys.length
    · rw [List.getElem?_append_left hl] at hx
      exact hK.2 k9 x hx
    · rw [List.getElem?_append_right (by omega)] at hx
      have h0 : k9 - tys.length < 1 := (List.getElem?_eq_some_iff.mp hx).1
      rw [show k9 - tys.length = 0 by omega] at hx
      cases hx
      exact ⟨hAr, fA⟩⟩
  obtain ⟨t, a1, b1⟩ := kk H.size (fun i => H.size + 1 + i) cA F.heap (fun i j _ _ h => by have h9 : H.size + 1 + i = H.size + 1 + j := h; omega) hnl hK2 (by rw [← vr_rows hnm]; exact vr_lay hP2) (by rw [← vr_rows hnm]; exact vr_layD hD2) ⟨by rw [f1]; have := hS.1; omega, fun x h1 h2 => (hold x (Nat.lt_of_lt_of_le h1 hS.1)).trans (hS.2.1 x h1 h2), hS.2.2⟩ F rfl X'
  refine ⟨t, step t ?_, b1⟩
  have e : T.heap.size = H.size := by rw [hT]
  rw [e]
  exact a1
end VGM
/-! ===== END ===== -/

def rmA (d mc ms : Nat) : Room := { frames := d, cells := mc, slots := ms, locals := 32 * d + 40 }
def CxA (Y : ME) (p : Program) (s : State) (m : MethodId) (args : Array Value) (meth : Method) (c : Code) (D : va_G) (ca : Nat → ClassId) (A : Nat → Prop) : Prop :=
  p.tables.exec = Jvm.exec ∧ c.code = mB Y ∧ c.maxLocals = mL Y ∧ meth.sig.returnType = none ∧ meth.locks = false ∧ s.vm.findClass (mN Y).cls = some m.cls ∧ (∀ w ∈ bigW, w.before args s = true) ∧ va_K D classes (tysOf ca) s ∧ (∀ q, s.heap.size ≤ q → A q) ∧ meth.name = "<init>" ∧ va_AO "StiltTown$State" s ∧ va_AOA .int s
def agr (n0 : Nat) (ad0 ad : Nat → Nat) : Prop := ∀ i, (i < n0 ∨ 1000 ≤ i) → ad i = ad0 i
def QcA (D : va_G) (ca : Nat → ClassId) (A : Nat → Prop) (n0 : Nat) (ad0 : Nat → Nat) (S' : List SHP) (mm' : MM) : Array Value → State → Outcome → State → Prop :=
  va_Qv (S := Nat → Nat) (fun ad => agr n0 ad0 ad) (fun ad t => va_P D classes (wsA ad ca mm' 0 S') t.heap ∧ va_K D classes (tysOf ca) t ∧ va_D A (wsA ad ca mm' 0 S')) A
def GA (Y : ME) (mc ms n0 : Nat) (S' : List SHP) (mm' : MM) (S : List SHP) (pc : Nat) (L : List (Nat × Value)) (st : List Value) (mm : MM) (cells slots : Nat) : Prop :=
  ∀ (p : Program) (l : Launch) (e : Env) (s : State) (m : MethodId) (args : Array Value) (below : List Frame) (meth : Method) (c : Code) (D : va_G) (ca : Nat → ClassId) (A : Nat → Prop) (ad0 : Nat → Nat), CxA Y p s m args meth c D ca A → StrX ad0 A s s.heap →
  ∀ (ad : Nat → Nat) (H : Heap) (locs : List Loc) (ls : Array Slot), agr n0 ad0 ad → va_P D classes (wsA ad ca mm 0 S) H → va_D A (wsA ad ca mm 0 S) → va_S A s.heap H locs → lv_has ls (mL Y) (cL ad L) →
  W p l e (rmA (mD Y) mc ms) s m args below meth c H locs cells slots (MQ below (QcA D ca A n0 ad0 S' mm') args s mc ms A) (F0 m pc ls (cS ad st))
def adB (ad : Nat → Nat) (n sz : Nat) : Nat → Prop := fun q => (∃ i, i < n ∧ q = ad i) ∨ sz ≤ q
def PcA (S : List SHP) (mm : MM) (k : Nat) (D : va_G) (ad : Nat → Nat) (ca : Nat → ClassId) (sz : Nat) : Array Value → State → Prop :=
  va_Pc [.ref (ad k)] (fun U => U.heap.size = sz ∧ va_P D classes (wsA ad ca mm 0 S) U.heap ∧ va_K D classes (tysOf ca) U ∧ va_D (adB ad S.length sz) (wsA ad ca mm 0 S) ∧ StrX ad (adB ad S.length sz) U U.heap ∧ va_AO "StiltTown$State" U ∧ va_AOA .int U)
/-- the constructor Y, called on the cell k of a world S with the memory mm, leaves the world S' with mm' -/
def RunsA (Y : ME) (mc ms : Nat) (S S' : List SHP) (mm mm' : MM) (k : Nat) : Prop :=
  ∀ (l : Launch) (D : va_G) (ad : Nat → Nat) (ca : Nat → ClassId) (sz : Nat), Met l (mN Y) (wsM Y) (rmA (mD Y) mc ms) (PcA S mm k D ad ca sz) (QcA D ca (adB ad S.length sz) S.length ad S' mm') mc ms (adB ad S.length sz)
theorem runsA_of {Y : ME} {mc ms k : Nat} {S S' : List SHP} {mm mm' : MM} (hp : plainName (mN Y).cls = true) (hn : 1 ≤ mL Y) (hr0 : mR Y = none) (hnm : (mN Y).name = "<init>") (h : GA Y mc ms S.length S' mm' S 0 [(0, .ref k)] [] mm 0 0) : RunsA Y mc ms S S' mm mm' k := by
  intro l D ad ca sz
  refine Met.ofW (cc := mB Y) (maxL := mL Y) (ret := mR Y) hp rfl ?_
  intro p e s m args below meth c s₁ B hml hv
  obtain ⟨rfl, hsz, hP, hK, hD, hE, hO, hO2⟩ := hv
  have hts := atoms_spec (ws := wsM Y) B.pre
  have hown : s.vm.findClass (mN Y).cls = some m.cls := findClass_of_methodNamed B.named
  have hin : meth.name = "<init>" := ((name_of_methodNamed B.named B.method).1).trans hnm
  subst hsz
  have hS : va_S (adB ad S.length s.heap.size) s.heap s.heap [] := va_S.rf
  have hl := lv_entry (cS ad [.ref k]) (n := mL Y) (by rw [lg_len]; exact hn)
  have hl2 : lv_has ((lg_sl [.ref (ad k)] ++ List.replicate (mL Y - (lg_sl [.ref (ad k)]).length) Slot.unset).toArray) (mL Y) (cL ad [(0, .ref k)]) := hl
  show W p l e _ s m _ below meth c s.heap [] 0 0 _ (entryFrame m ([Value.ref (ad k)] : List Value).toArray (mL Y))
  rw [lg_entry_eq]
  generalize (lg_sl [.ref (ad k)] ++ List.replicate (mL Y - (lg_sl [.ref (ad k)]).length) Slot.unset).toArray = ls at hl2 ⊢
  exact h p l e s m _ below meth c D ca (adB ad S.length s.heap.size) ad ⟨B.exec, B.bytes, hml, B.returns.trans hr0, B.notSynchronized, hown, fun w hw => hts w (List.mem_cons_of_mem _ hw), hK, fun q hq => Or.inr hq, hin, hO, hO2⟩ hE ad s.heap [] ls (fun _ _ => rfl) hP hD hS hl2
section GAR
variable {Y : ME} {mc ms n0 : Nat} {S' : List SHP} {mm' : MM} {S : List SHP} {pc : Nat} {L : List (Nat × Value)} {rest : List Value} {mm : MM} {cells slots : Nat}
theorem a_aload_n {j : Fin 4} {x : Nat} (d : decode (mB Y) pc = .ok (.aload_n j, 1)) (hg : lget (j : Nat) L = some (.ref x)) (k : GA Y mc ms n0 S' mm' S (pc + 1) L (.ref x :: rest) mm cells slots) : GA Y mc ms n0 S' mm' S pc L rest mm cells slots := by
  intro p l e s m args below meth c D ca A ad0 C E ad H locs ls hA hP hD hS hl
  exact lv_aload_n C.1 C.2.1 d rfl (lv_get hl hg) (k p l e s m args below meth c D ca A ad0 C E ad H locs ls hA hP hD hS hl)
theorem a_iload_n {j : Fin 4} {x : Int32} (d : decode (mB Y) pc = .ok (.iload_n j, 1)) (hg : lget (j : Nat) L = some (.int x)) (k : GA Y mc ms n0 S' mm' S (pc + 1) L (.int x :: rest) mm cells slots) : GA Y mc ms n0 S' mm' S pc L rest mm cells slots := by
  intro p l e s m args below meth c D ca A ad0 C E ad H locs ls hA hP hD hS hl
  exact lv_iload_n C.1 C.2.1 d rfl (lv_get hl hg) (k p l e s m args below meth c D ca A ad0 C E ad H locs ls hA hP hD hS hl)
theorem a_iconst {n : Int} {v : Int32} (d : decode (mB Y) pc = .ok (.iconst n, 1)) (hv : Int32.ofInt n = v) (k : GA Y mc ms n0 S' mm' S (pc + 1) L (.int v :: rest) mm cells slots) : GA Y mc ms n0 S' mm' S pc L rest mm cells slots := by
  intro p l e s m args below meth c D ca A ad0 C E ad H locs ls hA hP hD hS hl
  exact lv_iconst C.1 C.2.1 d hv (k p l e s m args below meth c D ca A ad0 C E ad H locs ls hA hP hD hS hl)
theorem a_bipush {n : Int} {v : Int32} (d : decode (mB Y) pc = .ok (.bipush n, 2)) (hv : (Int8.ofInt n).toInt32 = v) (k : GA Y mc ms n0 S' mm' S (pc + 2) L (.int v :: rest) mm cells slots) : GA Y mc ms n0 S' mm' S pc L rest mm cells slots := by
  intro p l e s m args below meth c D ca A ad0 C E ad H locs ls hA hP hD hS hl
  exact lv_bipush C.1 C.2.1 d hv (k p l e s m args below meth c D ca A ad0 C E ad H locs ls hA hP hD hS hl)
theorem a_sipush {n : Int} {v : Int32} (d : decode (mB Y) pc = .ok (.sipush n, 3)) (hv : (Int16.ofInt n).toInt32 = v) (k : GA Y mc ms n0 S' mm' S (pc + 3) L (.int v :: rest) mm cells slots) : GA Y mc ms n0 S' mm' S pc L rest mm cells slots := by
  intro p l e s m args below meth c D ca A ad0 C E ad H locs ls hA hP hD hS hl
  exact lv_sipush C.1 C.2.1 d hv (k p l e s m args below meth c D ca A ad0 C E ad H locs ls hA hP hD hS hl)
theorem a_dup {v : Value} (d : decode (mB Y) pc = .ok (.dup, 1)) (hv : v.category = 1) (k : GA Y mc ms n0 S' mm' S (pc + 1) L (v :: v :: rest) mm cells slots) : GA Y mc ms n0 S' mm' S pc L (v :: rest) mm cells slots := by
  intro p l e s m args below meth c D ca A ad0 C E ad H locs ls hA hP hD hS hl
  exact lv_dup C.1 C.2.1 d ((cv_cat ad v).trans hv) (k p l e s m args below meth c D ca A ad0 C E ad H locs ls hA hP hD hS hl)
theorem a_istore_n {i : Fin 4} {x : Int32} {L' : List (Nat × Value)} (d : decode (mB Y) pc = .ok (.istore_n i, 1)) (hn : (i : Nat) < mL Y) (hL : lrep i (.int x) L = L') (k : GA Y mc ms n0 S' mm' S (pc + 1) L' rest mm cells slots) : GA Y mc ms n0 S' mm' S pc L (.int x :: rest) mm cells slots := by
  intro p l e s m args below meth c D ca A ad0 C E ad H locs ls hA hP hD hS hl
  exact lv_istore_n C.1 C.2.1 d rfl hl hn rfl (fun ls' hl' => k p l e s m args below meth c D ca A ad0 C E ad H locs ls' hA hP hD hS (lv_rep hl' hL))
theorem a_iinc {i : Nat} {n : Int} {x v : Int32} {L' : List (Nat × Value)} (d : decode (mB Y) pc = .ok (.iinc i n, 3)) (hg : lget i L = some (.int x)) (hv : x + Int32.ofInt n = v) (hn : i < mL Y) (hL : lrep i (.int v) L = L') (k : GA Y mc ms n0 S' mm' S (pc + 3) L' rest mm cells slots) : GA Y mc ms n0 S' mm' S pc L rest mm cells slots := by
  intro p l e s m args below meth c D ca A ad0 C E ad H locs ls hA hP hD hS hl
  obtain ⟨z, hz⟩ := lget_place hg
  exact lv_iinc C.1 C.2.1 d hl (show (cL ad L)[z]? = some (i, .int x) by unfold cL; rw [List.getElem?_map, hz]; rfl) hv hn rfl (fun ls' hl' => k p l e s m args below meth c D ca A ad0 C E ad H locs ls' hA hP hD hS (lv_rep hl' hL))
theorem a_goto {off : Int} {tgt : Nat} (d : decode (mB Y) pc = .ok (.goto off, 3)) (ht : (pc : Int) + off = (tgt : Int)) (k : GA Y mc ms n0 S' mm' S tgt L rest mm cells slots) : GA Y mc ms n0 S' mm' S pc L rest mm cells slots := by
  intro p l e s m args below meth c D ca A ad0 C E ad H locs ls hA hP hD hS hl
  exact lv_goto C.1 C.2.1 d ht (k p l e s m args below meth c D ca A ad0 C E ad H locs ls hA hP hD hS hl)
theorem a_icmp_ge {x y : Int32} {off : Int} {tgt : Nat} (d : decode (mB Y) pc = .ok (.if_icmp .ge off, 3)) (ht : (pc : Int) + off = (tgt : Int)) (kt : y ≤ x → GA Y mc ms n0 S' mm' S tgt L rest mm cells slots) (kf : ¬ y ≤ x → GA Y mc ms n0 S' mm' S (pc + 3) L rest mm cells slots) : GA Y mc ms n0 S' mm' S pc L (.int y :: .int x :: rest) mm cells slots := by
  intro p l e s m args below meth c D ca A ad0 C E ad H locs ls hA hP hD hS hl
  exact lv_icmp_ge C.1 C.2.1 d ht (fun z => kt z p l e s m args below meth c D ca A ad0 C E ad H locs ls hA hP hD hS hl) (fun z => kf z p l e s m args below meth c D ca A ad0 C E ad H locs ls hA hP hD hS hl)
/-- Object.<init> -/
def OI (own : String) (idx : Nat) : Prop := Cond.methodLink own idx objectInit ∈ bigW ∧ Cond.instanceMethod objectInit ∈ bigW ∧ Cond.code objectInit ⟨#[0xb1]⟩ 1 none ∈ bigW
theorem a_obj {idx x : Nat} (d : decode (mB Y) pc = .ok (.invokespecial idx, 3)) (hC : OI (mN Y).cls idx) (hD1 : 1 ≤ mD Y) (hrest : (rest.map fun v => v.category).sum ≤ 8) (k : GA Y mc ms n0 S' mm' S (pc + 3) L rest mm cells slots) : GA Y mc ms n0 S' mm' S pc L (.ref x :: rest) mm cells slots := by
  intro p l e s m args below meth c D ca A ad0 C E ad H locs ls hA hP hD hS hl
  have hts := C.2.2.2.2.2.2.1
  exact W.objInit C.1 C.2.1 C.2.2.2.2.2.1 (hts _ hC.1) (hts _ hC.2.1) (hts _ hC.2.2) rfl (hl.1.trans C.2.2.1.symm) rfl d hD1 (by show 2 * 0 + ((cS ad rest).map fun v => v.category).sum + 12 ≤ 32 * mD Y + 40; rw [cS_cat]; omega) (k p l e s m args below meth c D ca A ad0 C E ad H locs ls hA hP hD hS hl)
/-- as FO, and whether the class itself declares it -/
def FD (own : String) (idx ci k : Nat) (ty : FieldType) (fin : Bool) : Prop := ∃ (C : String) (T : u_T) (N : Nat) (ty0 : Nat → FieldType), classes[ci]? = some (C, T, N) ∧ k < N ∧ (∀ w ∈ u_ws C T N, w ∈ bigW) ∧ (∀ k, k < N → parseFieldDescriptor (T k).2.2.1 = some (ty0 k)) ∧ (∀ a, a < N → ∀ b, b < N → a ≠ b → (T a).2.1 ≠ (T b).2.1) ∧ Cond.fieldLink own idx (T k).1 (T k).2.1 (T k).2.2.1 ∈ bigW ∧ ty0 k = ty ∧ (T k).2.2.2 = fin ∧ (T k).1 = own
theorem a_put {idx ci k j : Nat} {ty : FieldType} {fin : Bool} {sks : List Nat} {v : Value} {m2 : MM} (d : decode (mB Y) pc = .ok (.putfield idx, 3)) (hF : FD (mN Y).cls idx ci j ty fin) (sh : S[k]? = some (.inr (ci, sks))) (hj : j < sks.length) (hn : ∀ ad, narrow ty (cv ad v) = cv ad v) (hf : ∀ ad, fits ty (cv ad v) = true) (h2 : mOff k mm m2) (hset : ∀ ad, (slotsA ad mm k 0 sks).set j (cv ad v) = slotsA ad m2 k 0 sks) (kk : GA Y mc ms n0 S' mm' S (pc + 3) L rest m2 cells slots) : GA Y mc ms n0 S' mm' S pc L (v :: .ref k :: rest) mm cells slots := by
  intro p l e s m args below meth c D ca A ad0 C E ad H locs ls hA hP hD hS hl
  obtain ⟨Cn, T, N, ty0, f1, f2, f3, f4, f5, f6, f7, f8, f9⟩ := hF
  have go : ∀ (H1 : Heap) (locs1 : List Loc), va_P D classes ((wsA ad ca mm 0 S).set k (ad k, .inr (ci, (slotsA ad mm k 0 sks).set j (cv ad v)))) H1 → va_D A ((wsA ad ca mm 0 S).set k (ad k, .inr (ci, (slotsA ad mm k 0 sks).set j (cv ad v)))) → va_S A s.heap H1 locs1 → W p l e (rmA (mD Y) mc ms) s m args below meth c H1 locs1 cells slots (MQ below (QcA D ca A n0 ad0 S' mm') args s mc ms A) (F0 m (pc + 3) ls (cS ad rest)) := by
    intro H1 locs1 hP1 hD1 hS1
    have e9 := wsA_set (ad := ad) (ca := ca) sh h2
    rw [hset ad] at hP1 hD1
    exact kk p l e s m args below meth c D ca A ad0 C E ad H1 locs1 ls hA (by rw [← e9]; exact hP1) (by rw [← e9]; exact hD1) hS1 hl
  cases fin with
  | false => exact va_put (D := D) (ci := ci) (C := Cn) (T := T) (N := N) (a := ad k) (v := cv ad v) (ty := ty) C.1 C.2.1 C.2.2.2.2.2.2.1 f3 ty0 f4 f5 C.2.2.2.2.2.1 C.2.2.2.2.2.2.2.1 hP hD hS k (wsA_some sh) f1 j f2 (C.2.2.2.2.2.2.1 _ f6) (fun _ h => h) f8 (by rw [f4 j f2, f7]) (hn ad) (hf ad) (by rw [slotsA_len]; exact hj) d go
  | true => exact va_putF (D := D) (ci := ci) (C := Cn) (T := T) (N := N) (a := ad k) (v := cv ad v) (ty := ty) C.1 C.2.1 C.2.2.2.2.2.2.1 f3 ty0 f4 f5 C.2.2.2.2.2.1 C.2.2.2.2.2.2.2.1 hP hD hS k (wsA_some sh) f1 j f2 (C.2.2.2.2.2.2.1 _ f6) (fun _ h => h) f8 C.2.2.2.2.2.2.2.2.2.1 f9 (by rw [f4 j f2, f7]) (hn ad) (hf ad) (by rw [slotsA_len]; exact hj) d go
theorem a_putI {idx ci k j : Nat} {ty : FieldType} {fin : Bool} {sks : List Nat} {v : Int32} (d : decode (mB Y) pc = .ok (.putfield idx, 3)) (hF : FD (mN Y).cls idx ci j ty fin) (sh : S[k]? = some (.inr (ci, sks))) (hj : sks[j]? = some 0) (hn : narrow ty (.int v) = .int v) (hf : fits ty (.int v) = true) (kk : GA Y mc ms n0 S' mm' S (pc + 3) L rest (wI mm k j v) cells slots) : GA Y mc ms n0 S' mm' S pc L (.int v :: .ref k :: rest) mm cells slots :=
  a_put d hF sh (List.getElem?_eq_some_iff.mp hj).1 (fun _ => hn) (fun _ => hf) (mOff_R mm k _) (fun ad => slotsA_setI hj) kk
theorem a_putR {idx ci k j r : Nat} {ty : FieldType} {fin : Bool} {sks : List Nat} (d : decode (mB Y) pc = .ok (.putfield idx, 3)) (hF : FD (mN Y).cls idx ci j ty fin) (sh : S[k]? = some (.inr (ci, sks))) (hj : sks[j]? = some 1) (hr : r ≠ 0) (hn : ∀ a, narrow ty (.ref a) = .ref a) (hf : ∀ a, fits ty (.ref a) = true) (kk : GA Y mc ms n0 S' mm' S (pc + 3) L rest (wRf mm k j r) cells slots) : GA Y mc ms n0 S' mm' S pc L (.ref r :: .ref k :: rest) mm cells slots :=
  a_put d hF sh (List.getElem?_eq_some_iff.mp hj).1 (fun ad => hn _) (fun ad => hf _) (mOff_F mm k j r) (fun ad => slotsA_setF hj hr) kk
theorem a_getR {idx ci k j r : Nat} {ty : FieldType} {fin : Bool} {sks : List Nat} (d : decode (mB Y) pc = .ok (.getfield idx, 3)) (hF : FO (mN Y).cls idx ci j ty fin) (sh : S[k]? = some (.inr (ci, sks))) (hj : sks[j]? = some 1) (hr : mm.2.2 k j = r) (h0 : r ≠ 0) (kk : GA Y mc ms n0 S' mm' S (pc + 3) L (.ref r :: rest) mm cells slots) : GA Y mc ms n0 S' mm' S pc L (.ref k :: rest) mm cells slots := by
  intro p l e s m args below meth c D ca A ad0 C E ad H locs ls hA hP hD hS hl
  obtain ⟨Cn, T, N, ty0, f1, f2, f3, f4, f5, f6, f7, f8⟩ := hF
  refine va_get (D := D) (ci := ci) (C := Cn) (T := T) (N := N) (a := ad k) C.1 C.2.1 C.2.2.2.2.2.2.1 f3 C.2.2.2.2.2.1 C.2.2.2.2.2.2.2.1 hP k (wsA_some sh) f1 j f2 (C.2.2.2.2.2.2.1 _ f6) (fun _ h => h) (v := .ref (ad r)) ?_ d (kk p l e s m args below meth c D ca A ad0 C E ad H locs ls hA hP hD hS hl)
  rw [slotsA_at, hj]
  simp [slotA, rfz, hr, h0]
theorem a_vret (d : decode (mB Y) pc = .ok (.return_, 1)) : GA Y mc ms n0 S mm S pc L [] mm mc ms := by
  intro p l e s m args below meth c D ca A ad0 C E ad H locs ls hA hP hD hS hl
  exact W.vret C.1 C.2.1 C.2.2.2.1 (fun t ht hW => ⟨⟨ad, rfl, hA, by rw [ht]; exact hP, va_K.moved hW.alike C.2.2.2.2.2.2.2.1, hD⟩, hS.F ht⟩) hS.2.2 d C.2.2.2.2.1
theorem agr_up {ad0 ad : Nat → Nat} {n q : Nat} (h : agr n0 ad0 ad) (h1 : n0 ≤ n) (h2 : n < 1000) : agr n0 ad0 (va_up ad n q) := by
  intro i hi
  have : i ≠ n := by omega
  simp only [va_up, this, if_false]
  exact h i hi
def z0 (k : Nat) : Value := match k with
  | 0 => .int 0
  | _ => .null
theorem slotsA_z {ad : Nat → Nat} {mm : MM} {k : Nat} (h : mm.1 k = (fun _ => 0) ∧ mm.2.1 k = (fun _ => 0) ∧ mm.2.2 k = (fun _ => 0)) : ∀ (l : List Nat) (j : Nat), slotsA ad mm k j l = l.map z0
  | [], _ => rfl
  | 0 :: l, j => by simp [slotsA, slotA, z0, h.1, slotsA_z h l (j + 1)]
  | (d + 1) :: l, j => by simp [slotsA, slotA, z0, rfz, h.2.2, slotsA_z h l (j + 1)]
/-- new objects of the class number ci -/
def NO (own : String) (idx ci N : Nat) (sks : List Nat) : Prop := ∃ (C : String) (T : u_T) (ty : Nat → FieldType), classes[ci]? = some (C, T, N) ∧ Cond.classLink own idx C ∈ bigW ∧ Cond.instantiable C N ∈ bigW ∧ Cond.initialized C ∈ bigW ∧ (∀ w ∈ u_ws C T N, w ∈ bigW) ∧ (∀ k, k < N → parseFieldDescriptor (T k).2.2.1 = some (ty k)) ∧ ∀ j, j < N → defaultValue (ty j) = vp_V (sks.map z0) j
theorem a_new {idx ci N : Nat} {sks : List Nat} (d : decode (mB Y) pc = .ok (.new idx, 3)) (hC : NO (mN Y).cls idx ci N sks) (hR : RLm mm S.length) (hF : Fr0 mm S.length) (h1 : n0 ≤ S.length) (h2 : S.length < 1000) (hL : ∀ v ∈ L, refN S.length v.2) (hst : ∀ v ∈ rest, refN S.length v) (hc : cells + 1 ≤ mc) (hs : slots + N ≤ ms) (kk : GA Y mc ms n0 S' mm' (S ++ [.inr (ci, sks)]) (pc + 3) L (.ref S.length :: rest) mm (cells + 1) (slots + N)) : GA Y mc ms n0 S' mm' S pc L rest mm cells slots := by
  intro p l e s m args below meth c D ca A ad0 C E ad H locs ls hA hP hD hS hl
  obtain ⟨Cn, T, ty, f1, f2, f3, f4, f5, f6, f7⟩ := hC
  have hts := C.2.2.2.2.2.2.1
  refine va_new (ci := ci) (fs := sks.map z0) (C := Cn) (T := T) (N := N) C.1 C.2.1 hts f5 ty f6 C.2.2.2.2.2.1 (hts _ f2) (hts _ f3) (hts _ f4) C.2.2.2.2.2.2.2.1 hP hD hS C.2.2.2.2.2.2.2.2.1 f1 f7 hc hs d (fun q H1 hP1 hD1 hS1 => ?_)
  have e9 : wsA ad ca mm 0 S ++ [(q, .inr (ci, sks.map z0))] = wsA (va_up ad S.length q) ca mm 0 (S ++ [.inr (ci, sks)]) := wsA_push hR (fun ad => by simp [cellA, slotsA_z (hF S.length (Nat.le_refl _))])
  rw [e9] at hP1 hD1
  have := kk p l e s m args below meth c D ca A ad0 C E (va_up ad S.length q) H1 locs ls (agr_up hA h1 h2) hP1 hD1 hS1 (by rw [cL_up hL]; exact hl)
  have e8 : cS (va_up ad S.length q) (.ref S.length :: rest) = .ref q :: cS ad rest := by
    show cv _ _ :: cS _ rest = _
    rw [cS_up hst]
    simp [cv, va_up]
  rw [e8] at this
  exact this
theorem a_newarr {t n : Nat} {i : Int32} {aty : ArrayType} (ht : t < 4) (hty : (tysOf (fun _ => 0))[t]? = some (0, newarray.typeOf aty)) (d : decode (mB Y) pc = .ok (.newarray aty, 2)) (hw : Cond.arrayClass (newarray.typeOf aty) ∈ bigW) (hi : ¬ i < 0) (hn : i.toNatClampNeg = n) (hb : n * componentBytes (newarray.typeOf aty) ≤ 536870912) (hR : RLm mm S.length) (hF : Fr0 mm S.length) (h1 : n0 ≤ S.length) (h2 : S.length < 1000) (hL : ∀ v ∈ L, refN S.length v.2) (hst : ∀ v ∈ rest, refN S.length v) (hc : cells + 1 ≤ mc) (hs : slots + n ≤ ms) (kk : GA Y mc ms n0 S' mm' (S ++ [.inl (t, n, 0, 0)]) (pc + 2) L (.ref S.length :: rest) mm (cells + 1) (slots + n)) : GA Y mc ms n0 S' mm' S pc L (.int i :: rest) mm cells slots := by
  intro p l e s m args below meth c D ca A ad0 C E ad H locs ls hA hP hD hS hl
  have hts := C.2.2.2.2.2.2.1
  have hK := C.2.2.2.2.2.2.2.1
  have hz := hF S.length (Nat.le_refl _)
  have fin : ∀ (q : Nat) (cA : ClassId) (H1 : Heap) (a0 : vp_A), cA = ca t → (∀ ad, cellA ad ca mm S.length (.inl (t, n, 0, 0)) = .inl (ca t, a0)) → va_P D classes (wsA ad ca mm 0 S ++ [(q, .inl (cA, a0))]) H1 → va_D A (wsA ad ca mm 0 S ++ [(q, .inl (cA, a0))]) → va_S A s.heap H1 locs →
      W p l e (rmA (mD Y) mc ms) s m args below meth c H1 locs (cells + 1) (slots + n) (MQ below (QcA D ca A n0 ad0 S' mm') args s mc ms A) (F0 m (pc + 2) ls (.ref q :: cS ad rest)) := by
    intro q cA H1 a0 ec he hP1 hD1 hS1
    subst ec
    rw [wsA_push hR he] at hP1 hD1
    have := kk p l e s m args below meth c D ca A ad0 C E (va_up ad S.length q) H1 locs ls (agr_up hA h1 h2) hP1 hD1 hS1 (by rw [cL_up hL]; exact hl)
    have e8 : cS (va_up ad S.length q) (.ref S.length :: rest) = .ref q :: cS ad rest := by
      show cv _ _ :: cS _ rest = _
      rw [cS_up hst]
      simp [cv, va_up]
    rw [e8] at this
    exact this
  have hca : ∀ (cA : ClassId) (ty : FieldType), ty = newarray.typeOf aty → va_K D classes ((tysOf ca) ++ [(cA, ty)]) s → cA = ca t := by
    intro cA ty ety hK2
    subst ety
    have k1 := (hK2.2 6 _ rfl).2
    rcases (show t = 0 ∨ t = 1 ∨ t = 2 ∨ t = 3 by omega) with rfl | rfl | rfl | rfl
    · have e := (Prod.mk.inj (Option.some.inj hty)).2
      have k2 := (hK.2 0 _ rfl).2
      rw [← e] at k1
      exact Option.some.inj (k1.symm.trans k2)
    · have e := (Prod.mk.inj (Option.some.inj hty)).2
      have k2 := (hK.2 1 _ rfl).2
      rw [← e] at k1
      exact Option.some.inj (k1.symm.trans k2)
    · have e := (Prod.mk.inj (Option.some.inj hty)).2
      have k2 := (hK.2 2 _ rfl).2
      rw [← e] at k1
      exact Option.some.inj (k1.symm.trans k2)
    · have e := (Prod.mk.inj (Option.some.inj hty)).2
      have k2 := (hK.2 3 _ rfl).2
      rw [← e] at k1
      exact Option.some.inj (k1.symm.trans k2)
  rcases (show t = 0 ∨ t = 1 ∨ t = 2 ∨ t = 3 by omega) with rfl | rfl | rfl | rfl
  · have e := (Prod.mk.inj (Option.some.inj hty)).2
    exact va_newa (a0 := (n, .inl (fun _ => 0))) C.1 C.2.1 (hts _ hw) rfl hK hP hD hS C.2.2.2.2.2.2.2.2.1 (fun cA => by rw [← e]; rfl) hi hn hb hc hs d (fun q cA H1 hK2 hP1 hD1 hS1 => fin q cA H1 _ (hca cA _ rfl hK2) (fun ad => by simp [cellA, hz.1]) hP1 hD1 hS1)
  · have e := (Prod.mk.inj (Option.some.inj hty)).2
    exact va_newa (a0 := (n, .inl (fun _ => 0))) C.1 C.2.1 (hts _ hw) rfl hK hP hD hS C.2.2.2.2.2.2.2.2.1 (fun cA => by rw [← e]; rfl) hi hn hb hc hs d (fun q cA H1 hK2 hP1 hD1 hS1 => fin q cA H1 _ (hca cA _ rfl hK2) (fun ad => by simp [cellA, hz.1]) hP1 hD1 hS1)
  · have e := (Prod.mk.inj (Option.some.inj hty)).2
    exact va_newa (a0 := (n, .inl (fun _ => 0))) C.1 C.2.1 (hts _ hw) rfl hK hP hD hS C.2.2.2.2.2.2.2.2.1 (fun cA => by rw [← e]; rfl) hi hn hb hc hs d (fun q cA H1 hK2 hP1 hD1 hS1 => fin q cA H1 _ (hca cA _ rfl hK2) (fun ad => by simp [cellA, hz.1]) hP1 hD1 hS1)
  · have e := (Prod.mk.inj (Option.some.inj hty)).2
    exact va_newa (a0 := (n, .inr (.inl (fun _ => 0)))) C.1 C.2.1 (hts _ hw) rfl hK hP hD hS C.2.2.2.2.2.2.2.2.1 (fun cA => by rw [← e]; rfl) hi hn hb hc hs d (fun q cA H1 hK2 hP1 hD1 hS1 => fin q cA H1 _ (hca cA _ rfl hK2) (fun ad => by simp [cellA, hz.2.1]) hP1 hD1 hS1)
/-- a sub-constructor: its words -/
def CI (own : String) (idx : Nat) (Y' : ME) : Prop := (∃ host, (own, idx, mN Y', host) ∈ nestTab) ∧ Cond.instanceMethod (mN Y') ∈ bigW ∧ Cond.initialized (mN Y').cls ∈ bigW ∧ Cond.code (mN Y') (mB Y') (mL Y') none ∈ bigW ∧ ((mN Y').cls ≠ "java/lang/invoke/MethodHandle" ∧ (mN Y').cls ≠ "java/lang/invoke/VarHandle" ∧ (parseMethodDescriptor (mN Y').desc).map (fun d => d.parameters.length) = some 0) ∧ mL Y' ≤ 13 ∧ (mN Y').name = "<init>" ∧ mR Y' = none
theorem room_okA {Y Y' : ME} {mc ms mc' ms' : Nat} (h : mD Y' + 1 ≤ mD Y) (hL : mL Y' ≤ 13) : (rmA (mD Y') mc' ms').frames + 1 ≤ (rmA (mD Y) mc ms).frames ∧ 8 + (mL Y' + 11) + (rmA (mD Y') mc' ms').locals ≤ (rmA (mD Y) mc ms).locals := by
  refine ⟨h, ?_⟩
  show 8 + (mL Y' + 11) + (32 * mD Y' + 40) ≤ 32 * mD Y + 40
  omega
theorem va_AOA.moved {ty : FieldType} {u U : State} (hvm : u.vm.Alike U.vm) (h : va_AOA ty u) : va_AOA ty U := Jvm.Stand.arrayOver_alikeB hvm h
theorem va_AOA.same {ty : FieldType} {u U : State} (h : u.vm = U.vm) (hZ : va_AOA ty u) : va_AOA ty U := va_AOA.moved (by rw [h]; exact Vm.Alike.refl _) hZ
theorem pcA_blind (S : List SHP) (mm : MM) (k : Nat) (D : va_G) (ad : Nat → Nat) (ca : Nat → ClassId) (sz : Nat) : FrameBlind (PcA S mm k D ad ca sz) := by
  intro a U g mk q
  obtain ⟨q0, q1, q2, q3, q4, q5, q6, q7⟩ := q
  exact ⟨q0, q1, q2, va_K.moved (u := U) (U := U.calling g mk a) (Vm.Alike.refl U.vm) q3, q4, StrX.moved (u := U) rfl q5, va_AO.moved (u := U) (U := U.calling g mk a) (Vm.Alike.refl U.vm) q6, va_AOA.same (u := U) rfl q7⟩
theorem adB_sub {ad : Nat → Nat} {ca : Nat → ClassId} {mm : MM} {S : List SHP} {A : Nat → Prop} {H0 H : Heap} {locs : List Loc} (hD : va_D A (wsA ad ca mm 0 S)) (hS : va_S A H0 H locs) (hZ : ∀ q, H0.size ≤ q → A q) : ∀ q, adB ad S.length H.size q → A q := by
  intro q h
  rcases h with ⟨i, hi, rfl⟩ | h
  · have := hD.2 i _ (wsA_some (List.getElem?_eq_getElem hi))
    exact this
  · exact hZ q (Nat.le_trans hS.1 h)
theorem adB_D {ad : Nat → Nat} {ca : Nat → ClassId} {mm : MM} {S : List SHP} {A : Nat → Prop} {sz : Nat} (hD : va_D A (wsA ad ca mm 0 S)) : va_D (adB ad S.length sz) (wsA ad ca mm 0 S) := by
  refine ⟨hD.1, fun k q hk => ?_⟩
  rw [wsA_at] at hk
  obtain ⟨s, hs, rfl⟩ := Option.map_eq_some_iff.mp hk
  exact Or.inl ⟨k, (List.getElem?_eq_some_iff.mp hs).1, by simp⟩
theorem strA_at {ad0 ad : Nat → Nat} {n0 : Nat} {A B : Nat → Prop} {s U : State} {H : Heap} {locs : List Loc} (hE : StrX ad0 A s s.heap) (hA : agr n0 ad0 ad) (hS : va_S A s.heap H locs) (hB : ∀ q, B q → A q) (hU : U.heap = H) (hW : s.WarmedH U.vm) : StrX ad B U U.heap := by
  have e1 : (fun i => ad (1000 + 2 * i)) = (fun i => ad0 (1000 + 2 * i)) := funext fun i => hA _ (Or.inr (by omega))
  have e2 : (fun i => ad (1001 + 2 * i)) = (fun i => ad0 (1001 + 2 * i)) := funext fun i => hA _ (Or.inr (by omega))
  refine ⟨?_, fun i q hq => ?_, fun q hq => va_Nw.warmM hW (hE.2.2 q hq)⟩
  · rw [hU, e1, e2]
    exact ⟨vk_S.narrow (vk_S.moved hW.alike (hE.1.1.kept hS.2.1)) hB, ZX.ad (hA _ (Or.inr (by omega))) (ZX.narrow (ZX.moved hW.alike (hE.1.2.kept hS.2.1)) hB)⟩
  · rw [hA _ (Or.inr (by omega))]
    exact (hE.2.1 i q hq).warm hW
theorem cS_agr {ad ad2 : Nat → Nat} {n : Nat} (h : agr n ad ad2) {l : List Value} (hl : ∀ v ∈ l, refN n v) : cS ad2 l = cS ad l := List.map_congr_left (fun v hv => by
  have := hl v hv
  cases v with
  | ref k => simp only [refN] at this; simp [cv, h k (Or.inl this)]
  | _ => rfl)
theorem cL_agr {ad ad2 : Nat → Nat} {n : Nat} (h : agr n ad ad2) {l : List (Nat × Value)} (hl : ∀ v ∈ l, refN n v.2) : cL ad2 l = cL ad l := List.map_congr_left (fun v hv => by
  have := hl v hv
  obtain ⟨i, v⟩ := v
  cases v with
  | ref k => simp only [refN] at this; simp [cv, h k (Or.inl this)]
  | _ => rfl)
theorem a_call {Y' : ME} {k mc' ms' idx : Nat} {S2 : List SHP} {m2 : MM} (d : decode (mB Y) pc = .ok (.invokespecial idx, 3)) (hC : CI (mN Y).cls idx Y') (hD1 : mD Y' + 1 ≤ mD Y) (hr : RunsA Y' mc' ms' S S2 mm m2 k) (h1 : n0 ≤ S.length) (hL : ∀ v ∈ L, refN S.length v.2) (hst : ∀ v ∈ rest, refN S.length v) (hrest : (rest.map fun v => v.category).sum ≤ 8) (hc : cells + mc' ≤ mc) (hs : slots + ms' ≤ ms) (kk : GA Y mc ms n0 S' mm' S2 (pc + 3) L rest m2 (cells + mc') (slots + ms')) : GA Y mc ms n0 S' mm' S pc L (.ref k :: rest) mm cells slots := by
  intro p l e s m args below meth c D ca A ad0 C E ad H locs ls hA hP hD hS hl
  obtain ⟨⟨host, w1⟩, w2, w3, w4, w5, w6, w7, w8⟩ := hC
  have hts := C.2.2.2.2.2.2.1
  have hK := C.2.2.2.2.2.2.2.1
  have hsub := adB_sub hD hS C.2.2.2.2.2.2.2.2.1
  have hrun := va_runIN (y := mN Y') (bytes := mB Y') (cc := mB Y) (maxL := mL Y') (ws := wsM Y') (Qc := QcA D ca (adB ad S.length H.size) S.length ad S2 m2) (As := []) (rest := cS ad rest) (p := p) (l := l) (e := e) (below := below) (meth := meth) (locs := locs) (nL := mL Y) (Ts := bigW) (own := (mN Y).cls) (host := host) (args := args) (H := H) (b := ad k) (index := idx) (n := 0) (cells := cells) (slots := slots) (g := F0 m pc ls (.ref (ad k) :: cS ad rest))
    ⟨C.1, C.2.1, C.2.2.1, C.2.2.2.2.2.1, hts⟩ (hr l D ad ca H.size)
    (R := rmA (mD Y) mc ms) ⟨va_cnB 0 hts (good_ws Y' (by rw [w8]; exact w4)) (by rw [← w8]; rfl) rfl rfl (E.2.2 _ w1) (hts _ w3) w5 (room_okA hD1 w6), w7, hts _ w2⟩
    ⟨pcA_blind _ _ _ _ _ _ _, fun U hU hW => ⟨rfl, by rw [hU], by rw [hU]; exact hP, va_K.moved hW.alike hK, adB_D hD, strA_at E hA hS hsub hU hW, va_AO.moved hW.alike C.2.2.2.2.2.2.2.2.2.2.1, va_AOA.moved hW.alike C.2.2.2.2.2.2.2.2.2.2.2⟩⟩
    rfl rfl hl.1 rfl (by show 2 * 0 + ((cS ad rest).map fun v => v.category).sum ≤ 8; rw [cS_cat]; omega) d ⟨hc, hs⟩
  refine va_callv (a := [.ref (ad k)].toArray) hrun hS (fun q _ h => hsub q h) hsub (fun u t H1 locs1 ht hvm hw hB hz1 hk1 hS1 => ?_)
  obtain ⟨b1, b2, b3⟩ := hB
  rw [ht] at b1
  have hA2 : agr n0 ad0 u := fun i hi => (hw i (by omega)).trans (hA i hi)
  have := kk p l e s m args below meth c D ca A ad0 C E u H1 locs1 ls hA2 b1 (b3.weaken (fun _ _ _ h => hsub _ h)) hS1 (by rw [cL_agr hw hL]; exact hl)
  rw [cS_agr hw hst] at this
  exact this
theorem a_anew {n idx : Nat} {i : Int32} (d : decode (mB Y) pc = .ok (.anewarray idx, 3)) (hw : Cond.classLink (mN Y).cls idx "StiltTown$State" ∈ bigW) (hi : ¬ i < 0) (hn : i.toNatClampNeg = n) (hb : n * 4 ≤ 536870912) (hR : RLm mm S.length) (hF : Fr0 mm S.length) (h1 : n0 ≤ S.length) (h2 : S.length < 1000) (hL : ∀ v ∈ L, refN S.length v.2) (hst : ∀ v ∈ rest, refN S.length v) (hc : cells + 1 ≤ mc) (hs : slots + n ≤ ms) (kk : GA Y mc ms n0 S' mm' (S ++ [.inl (4, n, 0, 0)]) (pc + 3) L (.ref S.length :: rest) mm (cells + 1) (slots + n)) : GA Y mc ms n0 S' mm' S pc L (.int i :: rest) mm cells slots := by
  intro p l e s m args below meth c D ca A ad0 C E ad H locs ls hA hP hD hS hl
  have hts := C.2.2.2.2.2.2.1
  have hK := C.2.2.2.2.2.2.2.1
  have hz := hF S.length (Nat.le_refl _)
  refine va_newq C.1 C.2.1 C.2.2.2.2.2.1 (hts _ hw) C.2.2.2.2.2.2.2.2.2.2.1 hK hP hD hS C.2.2.2.2.2.2.2.2.1 hi hn hb hc hs d (fun q cA H1 hK2 hP1 hD1 hS1 => ?_)
  have ec : cA = ca 4 := by
    obtain ⟨-, -, -, -, -, k1⟩ := (hK2.2 6 _ rfl).2
    obtain ⟨-, -, -, -, -, k2⟩ := (hK.2 4 _ rfl).2
    exact Option.some.inj (k1.symm.trans k2)
  subst ec
  have he : ∀ ad, cellA ad ca mm S.length (.inl (4, n, 0, 0)) = .inl (ca 4, n, .inr (.inr (.inr (.inr (fun _ => none))))) := fun ad => by simp [cellA, hz.2.2]
  rw [wsA_push hR he] at hP1 hD1
  have := kk p l e s m args below meth c D ca A ad0 C E (va_up ad S.length q) H1 locs ls (agr_up hA h1 h2) hP1 hD1 hS1 (by rw [cL_up hL]; exact hl)
  have e8 : cS (va_up ad S.length q) (.ref S.length :: rest) = .ref q :: cS ad rest := by
    show cv _ _ :: cS _ rest = _
    rw [cS_up hst]
    simp [cv, va_up]
  rw [e8] at this
  exact this
theorem a_aast {k n r dd ee : Nat} {i : Int32} {sks : List Nat} (d : decode (mB Y) pc = .ok (.aastore, 1)) (sh : S[k]? = some (.inl (4, n, dd, ee))) (sr : S[r]? = some (.inr (6, sks))) (hr : r ≠ 0) (hin : vp_in i n) (kk : GA Y mc ms n0 S' mm' S (pc + 1) L rest (wRf mm k i.toNatClampNeg r) cells slots) : GA Y mc ms n0 S' mm' S pc L (.ref r :: .int i :: .ref k :: rest) mm cells slots := by
  intro p l e s m args below meth c D ca A ad0 C E ad H locs ls hA hP hD hS hl
  have hK := C.2.2.2.2.2.2.2.1
  refine va_astq (r := (RX6, TX6, 9)) C.1 C.2.1 hK hP hD hS k 4 r 6 (wsA_some sh) rfl (wsA_some sr) rfl hin d (fun H1 locs1 hP1 hD1 hS1 => ?_)
  have e9 := wsA_set (ad := ad) (ca := ca) sh (mOff_F mm k i.toNatClampNeg r)
  have e8 : cellA ad ca (wRf mm k i.toNatClampNeg r) k (.inl (4, n, dd, ee)) = .inl (ca 4, n, .inr (.inr (.inr (.inr (va_up (fun j => if mm.2.2 k j = 0 then none else some (ad (mm.2.2 k j))) i.toNatClampNeg (some (ad r))))))) := by
    have ef : (fun j => if va_up (mm.2.2 k) i.toNatClampNeg r j = 0 then none else some (ad (va_up (mm.2.2 k) i.toNatClampNeg r j))) = va_up (fun j => if mm.2.2 k j = 0 then none else some (ad (mm.2.2 k j))) i.toNatClampNeg (some (ad r)) := by
      funext j
      by_cases e : j = i.toNatClampNeg
      · subst e; simp [va_up, hr]
      · simp [va_up, e]
    simp only [cellA, wF_k]
    exact congrArg (fun f : Nat → Option Nat => (Sum.inl (ca 4, n, Sum.inr (Sum.inr (Sum.inr (Sum.inr f)))) : va_E)) ef
  rw [e8] at e9
  exact kk p l e s m args below meth c D ca A ad0 C E ad H1 locs1 ls hA (by rw [← e9]; exact hP1) (by rw [← e9]; exact hD1) hS1 hl
def wRow (mm : MM) (k : Nat) (f : Nat → Nat) : MM := (mm.1, mm.2.1, va_up mm.2.2 k f)
def rowsOf (n N : Nat) : Nat → Nat := fun j => if j < N then n + 1 + j else 0
theorem wsA_repl {ad : Nat → Nat} {ca : Nat → ClassId} {mm : MM} {s : SHP} {r : Nat → Nat} {e : va_E} : ∀ (N k : Nat), (∀ i, i < N → ad (k + i) = r i ∧ cellA ad ca mm (k + i) s = e) → wsA ad ca mm k (List.replicate N s) = (List.range N).map (fun i => (r i, e))
  | 0, _, _ => rfl
  | N + 1, k, h => by
    have h0 := h 0 (by omega)
    rw [List.replicate_succ, List.range_succ_eq_map]
    simp only [wsA, List.map_cons, List.map_map]
    rw [wsA_repl (r := fun i => r (i + 1)) (e := e) N (k + 1) (fun i hi => by have := h (i + 1) (by omega); rw [show k + 1 + i = k + (i + 1) by omega]; exact this)]
    have h1 := h0.1; have h2 := h0.2
    rw [Nat.add_zero] at h1 h2
    rw [h1, h2]
    rfl
theorem a_mna {idx n k : Nat} {i1 i2 : Int32} (d : decode (mB Y) pc = .ok (.multianewarray idx 2, 4)) (hw : Cond.classLink (mN Y).cls idx "[[I" ∈ bigW) (hw2 : Cond.arrayClass .int ∈ bigW) (hn : ¬ i1 < 0) (hk : ¬ i2 < 0) (hN : i1.toNatClampNeg = n) (hM : i2.toNatClampNeg = k) (hb1 : n * 4 ≤ 536870912) (hb2 : k * 4 ≤ 536870912) (hR : RLm mm S.length) (hF : Fr0 mm S.length) (h1 : n0 ≤ S.length) (h2 : S.length + 1 + n < 1000) (hL : ∀ v ∈ L, refN S.length v.2) (hst : ∀ v ∈ rest, refN S.length v) (hc : cells + (1 + n) ≤ mc) (hs : slots + (n + n * k) ≤ ms)
    (kk : GA Y mc ms n0 S' mm' (S ++ [.inl (5, n, 0, 0)] ++ List.replicate n (.inl (0, k, 0, 0))) (pc + 4) L (.ref S.length :: rest) (wRow mm S.length (rowsOf S.length n)) (cells + 1 + n) (slots + n + n * k)) : GA Y mc ms n0 S' mm' S pc L (.int i2 :: .int i1 :: rest) mm cells slots := by
  intro p l e s m args below meth c D ca A ad0 C E ad H locs ls hA hP hD hS hl
  have hts := C.2.2.2.2.2.2.1
  have hK := C.2.2.2.2.2.2.2.1
  have hcy : s.vm.findClass (FieldType.array .int).toString = some (ca 0) := (hK.2 0 _ rfl).2
  have hP' : va_P D classes (wsA ad ca mm 0 S ++ va_pl [] (fun _ => .inr (0, []))) H := by rw [show va_pl [] (fun _ => (.inr (0, []) : va_E)) = [] from rfl, List.append_nil]; exact hP
  have hD' : va_D A (wsA ad ca mm 0 S ++ va_pl [] (fun _ => .inr (0, []))) := by rw [show va_pl [] (fun _ => (.inr (0, []) : va_E)) = [] from rfl, List.append_nil]; exact hD
  refine va_mna (ty := .int) (z := (k, .inl (fun _ => 0))) (cy := ca 0) C.1 C.2.1 C.2.2.2.2.2.1 (hts _ hw) C.2.2.2.2.2.2.2.2.2.2.2 (hts _ hw2) hcy hK hP' hD' hS C.2.2.2.2.2.2.2.2.1 hn hk hN hM hb1 hb2 (by omega) rfl rfl hc hs (fun c => by
    show ({ cls := c, slots := Array.replicate k (.int 0), vm := .none } : Cell) = arrV c k (fun _ => .int 0)
    rw [arrV_new]) d (fun q r cA H1 hinj hout hK2 hP1 hD1 hS1 => ?_)
  have ec : cA = ca 5 := by
    have k1 := (hK2.2 6 _ rfl).2
    have k2 := (hK.2 5 _ rfl).2
    exact Option.some.inj (k1.symm.trans k2)
  subst ec
  let ad2 : Nat → Nat := fun i => if i < S.length then ad i else if i = S.length then q else if i < S.length + 1 + n then r (i - (S.length + 1)) else ad i
  have a1 : ∀ i, i < S.length → ad2 i = ad i := fun i hi => by simp [ad2, hi]
  have a2 : ad2 S.length = q := by simp [ad2]
  have a3 : ∀ i, i < n → ad2 (S.length + 1 + i) = r i := fun i hi => by
    have x1 : ¬ S.length + 1 + i < S.length := by omega
    have x2 : ¬ S.length + 1 + i = S.length := by omega
    have x3 : S.length + 1 + i < S.length + 1 + n := by omega
    simp only [ad2, x1, x2, x3, if_true, if_false]
    congr 1; omega
  have a4 : ∀ i, S.length + 1 + n ≤ i → ad2 i = ad i := fun i hi => by
    have x1 : ¬ i < S.length := by omega
    have x2 : ¬ i = S.length := by omega
    have x3 : ¬ i < S.length + 1 + n := by omega
    simp only [ad2, x1, x2, x3, if_false]
  have hz := hF S.length (Nat.le_refl _)
  have m1 : (wRow mm S.length (rowsOf S.length n)).2.2 S.length = rowsOf S.length n := by simp [wRow, va_up]
  have e1 : wsA ad2 ca (wRow mm S.length (rowsOf S.length n)) 0 S = wsA ad ca mm 0 S := by
    refine wsA_same S 0 (fun a x1 x2 => ⟨a1 a (by omega), ⟨rfl, rfl, ?_⟩, fun j => ?_⟩)
    · have : a ≠ S.length := by omega
      simp [wRow, va_up, this]
    · rcases hR a j with z | z
      · exact Or.inl z
      · exact Or.inr (a1 _ z)
  have e2 : cellA ad2 ca (wRow mm S.length (rowsOf S.length n)) S.length (.inl (5, n, 0, 0)) = .inl (ca 5, n, .inr (.inr (.inr (.inr (fun i => if i < n then some (r i) else none))))) := by
    have ef : (fun j => if rowsOf S.length n j = 0 then none else some (ad2 (rowsOf S.length n j))) = (fun i => if i < n then some (r i) else none) := by
      funext j
      by_cases e : j < n
      · have x0 : ¬ S.length + 1 + j = 0 := by omega
        simp only [rowsOf, e, if_true, x0, if_false, a3 j e]
      · simp [rowsOf, e]
    simp only [cellA, m1]
    exact congrArg (fun f : Nat → Option Nat => (Sum.inl (ca 5, n, Sum.inr (Sum.inr (Sum.inr (Sum.inr f)))) : va_E)) ef
  have e3 : wsA ad2 ca (wRow mm S.length (rowsOf S.length n)) (0 + S.length + 1) (List.replicate n (.inl (0, k, 0, 0))) = (List.range n).map (fun i => (r i, .inl (ca 0, k, .inl (fun _ => 0)))) := by
    refine wsA_repl n (0 + S.length + 1) (fun i hi => ⟨by rw [show 0 + S.length + 1 + i = S.length + 1 + i by omega]; exact a3 i hi, ?_⟩)
    have := (hF (0 + S.length + 1 + i) (by omega)).1
    show Sum.inl (ca 0, k, Sum.inl (mm.1 (0 + S.length + 1 + i))) = _
    rw [this]
  have e4 : (wsA ad ca mm 0 S ++ [(q, .inl (ca 5, n, .inr (.inr (.inr (.inr (fun i => if i < n then some (r i) else none))))))]) ++ va_pl ([] ++ (List.range n).map r) (vr_up (fun _ => .inr (0, [])) ((List.range n).map r) (.inl (ca 0, (k, .inl (fun _ => 0))))) = wsA ad2 ca (wRow mm S.length (rowsOf S.length n)) 0 (S ++ [.inl (5, n, 0, 0)] ++ List.replicate n (.inl (0, k, 0, 0))) := by
    rw [wsA_app, wsA_app, e1]
    have e5 : wsA ad2 ca (wRow mm S.length (rowsOf S.length n)) (0 + S.length) [.inl (5, n, 0, 0)] = [(q, .inl (ca 5, n, .inr (.inr (.inr (.inr (fun i => if i < n then some (r i) else none))))))] := by
      simp only [wsA, Nat.zero_add, a2, e2]
    rw [e5]
    have e6 : 0 + (S ++ [(.inl (5, n, 0, 0) : SHP)]).length = 0 + S.length + 1 := by simp
    rw [e6, e3]
    congr 1
    unfold va_pl
    rw [List.nil_append, List.map_map]
    apply List.map_congr_left
    intro i hi
    show (r i, vr_up _ _ _ (r i)) = _
    rw [vr_up_in (List.mem_map.mpr ⟨i, hi, rfl⟩)]
  rw [e4] at hP1 hD1
  have hag : agr n0 ad0 ad2 := fun i hi => by
    rcases Nat.lt_or_ge i S.length with z | z
    · rw [a1 i z]; exact hA i hi
    · rw [a4 i (by omega)]; exact hA i hi
  have hL2 : cL ad2 L = cL ad L := List.map_congr_left (fun v hv => by
    have := hL v hv
    obtain ⟨i, v⟩ := v
    cases v with
    | ref k => simp only [refN] at this; simp [cv, a1 k this]
    | _ => rfl)
  have hst2 : cS ad2 rest = cS ad rest := List.map_congr_left (fun v hv => by
    have := hst v hv
    cases v with
    | ref k => simp only [refN] at this; simp [cv, a1 k this]
    | _ => rfl)
  have := kk p l e s m args below meth c D ca A ad0 C E ad2 H1 locs ls hag hP1 hD1 hS1 (by rw [hL2]; exact hl)
  have e8 : cS ad2 (.ref S.length :: rest) = .ref q :: cS ad rest := by
    show cv _ _ :: cS _ rest = _
    rw [hst2]
    simp [cv, a2]
  rw [e8] at this
  exact this
end GAR

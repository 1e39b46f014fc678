abbrev ME : Type := MethodName × ByteArray × Nat × Option FieldType × Nat × Nat
abbrev mN (Y : ME) : MethodName := Y.1
abbrev mB (Y : ME) : ByteArray := Y.2.1
abbrev mL (Y : ME) : Nat := Y.2.2.1
abbrev mR (Y : ME) : Option FieldType := Y.2.2.2.1
abbrev mK (Y : ME) : Nat := Y.2.2.2.2.1
abbrev mD (Y : ME) : Nat := Y.2.2.2.2.2
/-- the room of a method of depth d -/
def rmD (d : Nat) : Room := { frames := d, cells := 0, slots := 0, locals := 32 * d + 40 }
/-- a value with cells by number, as the machine has it -/
def cv (ad : Nat → Nat) : Value → Value
  | .ref k => .ref (ad k)
  | v => v
def cS (ad : Nat → Nat) (l : List Value) : List Value := l.map (cv ad)
def cL (ad : Nat → Nat) (l : List (Nat × Value)) : List (Nat × Value) := l.map (fun q => (q.1, cv ad q.2))
theorem cv_cat (ad : Nat → Nat) (v : Value) : (cv ad v).category = v.category := by cases v <;> rfl
theorem cS_cat (ad : Nat → Nat) (l : List Value) : ((cS ad l).map fun v => v.category) = (l.map fun v => v.category) := by
  unfold cS
  rw [List.map_map]
  exact List.map_congr_left (fun v _ => cv_cat ad v)
/-- locals by number -/
def lget (i : Nat) : List (Nat × Value) → Option Value
  | [] => none
  | q :: l => bif q.1 == i then some q.2 else lget i l
theorem lget_mem {i : Nat} {v : Value} : ∀ {l : List (Nat × Value)}, lget i l = some v → (i, v) ∈ l
  | [], h => by cases h
  | q :: l, h => by
    obtain ⟨a, b⟩ := q
    unfold lget at h
    by_cases e : a = i
    · subst e
      simp only [beq_self_eq_true, cond_true, Option.some.injEq] at h
      subst h
      exact List.mem_cons_self
    · have e2 : (a == i) = false := by simpa using e
      simp only [e2, cond_false] at h
      exact List.mem_cons_of_mem _ (lget_mem h)
def lrep (i : Nat) (v : Value) : List (Nat × Value) → List (Nat × Value)
  | [] => [(i, v)]
  | q :: l => bif q.1 == i then (i, v) :: lrm i l else bif q.1 + 1 == i then (bif q.2.category == 2 then lrep i v l else q :: lrep i v l) else q :: lrep i v l
where lrm (i : Nat) : List (Nat × Value) → List (Nat × Value)
  | [] => []
  | q :: l => bif q.1 == i then lrm i l else bif q.1 + 1 == i then (bif q.2.category == 2 then lrm i l else q :: lrm i l) else q :: lrm i l
theorem lrm_mem {i : Nat} {x : Nat × Value} : ∀ {l : List (Nat × Value)}, x ∈ lrep.lrm i l → x ∈ l ∧ x.1 ≠ i ∧ (x.1 + 1 = i → x.2.category ≠ 2)
  | [], h => by simp [lrep.lrm] at h
  | q :: l, h => by
    unfold lrep.lrm at h
    by_cases e : q.1 = i
    · have e2 : (q.1 == i) = true := by simpa using e
      simp only [e2, cond_true] at h
      have := lrm_mem h
      exact ⟨List.mem_cons_of_mem _ this.1, this.2⟩
    · have e2 : (q.1 == i) = false := by simpa using e
      simp only [e2, cond_false] at h
      by_cases f : q.1 + 1 = i
      · have f2 : (q.1 + 1 == i) = true := by simpa using f
        simp only [f2, cond_true] at h
        by_cases g : q.2.category = 2
        · have g2 : (q.2.category == 2) = true := by simpa using g
          simp only [g2, cond_true] at h
          have := lrm_mem h
          exact ⟨List.mem_cons_of_mem _ this.1, this.2⟩
        · have g2 : (q.2.category == 2) = false := by simpa using g
          simp only [g2, cond_false] at h
          rcases List.mem_cons.mp h with h | h
          · subst h; exact ⟨List.mem_cons_self, e, fun _ => g⟩
          · have := lrm_mem h
            exact ⟨List.mem_cons_of_mem _ this.1, this.2⟩
      · have f2 : (q.1 + 1 == i) = false := by simpa using f
        simp only [f2, cond_false] at h
        rcases List.mem_cons.mp h with h | h
        · subst h; exact ⟨List.mem_cons_self, e, fun z => absurd z f⟩
        · have := lrm_mem h
          exact ⟨List.mem_cons_of_mem _ this.1, this.2⟩
theorem lrep_mem {i : Nat} {v : Value} {x : Nat × Value} : ∀ {l : List (Nat × Value)}, x ∈ lrep i v l → x = (i, v) ∨ (x ∈ l ∧ x.1 ≠ i ∧ (x.1 + 1 = i → x.2.category ≠ 2))
  | [], h => by simp [lrep] at h; exact Or.inl h
  | q :: l, h => by
    unfold lrep at h
    by_cases e : q.1 = i
    · have e2 : (q.1 == i) = true := by simpa using e
      simp only [e2, cond_true] at h
      rcases List.mem_cons.mp h with h | h
      · exact Or.inl h
      · have := lrm_mem h
        exact Or.inr ⟨List.mem_cons_of_mem _ this.1, this.2⟩
    · have e2 : (q.1 == i) = false := by simpa using e
      simp only [e2, cond_false] at h
      by_cases f : q.1 + 1 = i
      · have f2 : (q.1 + 1 == i) = true := by simpa using f
        simp only [f2, cond_true] at h
        by_cases g : q.2.category = 2
        · have g2 : (q.2.category == 2) = true := by simpa using g
          simp only [g2, cond_true] at h
          rcases lrep_mem h with h | h
          · exact Or.inl h
          · exact Or.inr ⟨List.mem_cons_of_mem _ h.1, h.2⟩
        · have g2 : (q.2.category == 2) = false := by simpa using g
          simp only [g2, cond_false] at h
          rcases List.mem_cons.mp h with h | h
          · subst h; exact Or.inr ⟨List.mem_cons_self, e, fun _ => g⟩
          · rcases lrep_mem h with h | h
            · exact Or.inl h
            · exact Or.inr ⟨List.mem_cons_of_mem _ h.1, h.2⟩
      · have f2 : (q.1 + 1 == i) = false := by simpa using f
        simp only [f2, cond_false] at h
        rcases List.mem_cons.mp h with h | h
        · subst h; exact Or.inr ⟨List.mem_cons_self, e, fun z => absurd z f⟩
        · rcases lrep_mem h with h | h
          · exact Or.inl h
          · exact Or.inr ⟨List.mem_cons_of_mem _ h.1, h.2⟩
theorem lv_mono {ls : Array Slot} {n : Nat} {l l' : List (Nat × Value)} (h : lv_has ls n l) (hs : ∀ q ∈ l', q ∈ l) : lv_has ls n l' := ⟨h.1, h.2.1, fun q hq => h.2.2 q (hs q hq)⟩
theorem cL_mem {ad : Nat → Nat} {l : List (Nat × Value)} {i : Nat} {v : Value} (h : (i, v) ∈ l) : (i, cv ad v) ∈ cL ad l := List.mem_map.mpr ⟨(i, v), h, rfl⟩
theorem lv_get {ad : Nat → Nat} {ls : Array Slot} {n i : Nat} {v : Value} {l : List (Nat × Value)} (h : lv_has ls n (cL ad l)) (hi : lget i l = some v) : ls[i]? = some (.val (cv ad v)) := h.2.2 _ (cL_mem (lget_mem hi))
theorem lv_rep {ad : Nat → Nat} {ls : Array Slot} {n i : Nat} {v : Value} {l l' : List (Nat × Value)} (h : lv_has ls n ((i, cv ad v) :: (cL ad l).filter (fun q => !(q.1 == i) && !(q.1 + 1 == i && q.2.category == 2)))) (hl : lrep i v l = l') : lv_has ls n (cL ad l') := by
  refine lv_mono h (fun q hq => ?_)
  subst hl
  obtain ⟨x, hx, rfl⟩ := List.mem_map.mp hq
  rcases lrep_mem hx with e | ⟨h1, h2, h3⟩
  · subst e; exact List.mem_cons_self
  · refine List.mem_cons_of_mem _ (List.mem_filter.mpr ⟨List.mem_map.mpr ⟨x, h1, rfl⟩, ?_⟩)
    have a : (x.1 == i) = false := by simpa using h2
    by_cases f : x.1 + 1 = i
    · have b : ((cv ad x.2).category == 2) = false := by rw [cv_cat]; simpa using h3 f
      simp [a, b]
    · have b : (x.1 + 1 == i) = false := by simpa using f
      simp [a, b]
/-- a long local -/
def lrepL (i : Nat) (v : Value) (l : List (Nat × Value)) : List (Nat × Value) := lrep i v (lrep.lrm (i + 1) l)
theorem lv_repL {ad : Nat → Nat} {ls : Array Slot} {n i : Nat} {v : Value} {l l' : List (Nat × Value)} (h : lv_has ls n ((i, cv ad v) :: (cL ad l).filter (fun q => !(q.1 == i) && (!(q.1 == i + 1) && !(q.1 + 1 == i && q.2.category == 2))))) (hl : lrepL i v l = l') : lv_has ls n (cL ad l') := by
  refine lv_mono h (fun q hq => ?_)
  subst hl
  obtain ⟨x, hx, rfl⟩ := List.mem_map.mp hq
  rcases lrep_mem hx with e | ⟨h1, h2, h3⟩
  · subst e; exact List.mem_cons_self
  · obtain ⟨k1, k2, -⟩ := lrm_mem h1
    refine List.mem_cons_of_mem _ (List.mem_filter.mpr ⟨List.mem_map.mpr ⟨x, k1, rfl⟩, ?_⟩)
    have a : (x.1 == i) = false := by simpa using h2
    have a2 : (x.1 == i + 1) = false := by simpa using k2
    by_cases f : x.1 + 1 = i
    · have b : ((cv ad x.2).category == 2) = false := by rw [cv_cat]; simpa using h3 f
      simp [a, a2, b]
    · have b : (x.1 + 1 == i) = false := by simpa using f
      simp [a, a2, b]
/-- the slots of an object -/
def slotV (ad : Nat → Nat) (mm : MM) (k j : Nat) : Nat → Value
  | 0 => .int (mm.1 k j)
  | 1 => .ref (ad (mm.2.2 k j))
  | d + 2 => .ref (ad (k + d))
def slotsV (ad : Nat → Nat) (mm : MM) (k : Nat) : Nat → List Nat → List Value
  | _, [] => []
  | j, sk :: l => slotV ad mm k j sk :: slotsV ad mm k (j + 1) l
theorem slotsV_at (ad : Nat → Nat) (mm : MM) (k : Nat) : ∀ (l : List Nat) (j i : Nat), (slotsV ad mm k j l)[i]? = (l[i]?).map (fun sk => slotV ad mm k (j + i) sk)
  | [], j, i => by simp [slotsV]
  | sk :: l, j, 0 => by simp [slotsV]
  | sk :: l, j, i + 1 => by
    simp only [slotsV, List.getElem?_cons_succ]
    rw [slotsV_at ad mm k l (j + 1) i]
    have e : j + 1 + i = j + (i + 1) := by omega
    rw [e]
theorem slotsV_len (ad : Nat → Nat) (mm : MM) (k : Nat) : ∀ (l : List Nat) (j : Nat), (slotsV ad mm k j l).length = l.length
  | [], j => rfl
  | sk :: l, j => by simp [slotsV, slotsV_len ad mm k l (j + 1)]
/-- a cell of the world -/
def cellV (ad : Nat → Nat) (ca : Nat → ClassId) (mm : MM) (k : Nat) : SHP → va_E
  | .inl (0, n, _, _) => .inl (ca 0, n, .inl (mm.1 k))
  | .inl (1, n, _, _) => .inl (ca 1, n, .inl (mm.1 k))
  | .inl (2, n, _, _) => .inl (ca 2, n, .inl (mm.1 k))
  | .inl (3, n, _, _) => .inl (ca 3, n, .inr (.inl (mm.2.1 k)))
  | .inl (t + 4, n, d, e) => .inl (ca (t + 4), n, .inr (.inr (.inr (.inr (fun j => if j < n then some (ad (k + d + e * j)) else none)))))
  | .inr (ci, sks) => .inr (ci, slotsV ad mm k 0 sks)
def wsG (ad : Nat → Nat) (ca : Nat → ClassId) (mm : MM) : Nat → List SHP → va_W
  | _, [] => []
  | k, s :: l => (ad k, cellV ad ca mm k s) :: wsG ad ca mm (k + 1) l
theorem wsG_at (ad : Nat → Nat) (ca : Nat → ClassId) (mm : MM) : ∀ (l : List SHP) (k i : Nat), (wsG ad ca mm k l)[i]? = (l[i]?).map (fun s => (ad (k + i), cellV ad ca mm (k + i) s))
  | [], k, i => by simp [wsG]
  | s :: l, k, 0 => by simp [wsG]
  | s :: l, k, i + 1 => by
    simp only [wsG, List.getElem?_cons_succ]
    rw [wsG_at ad ca mm l (k + 1) i]
    have e : k + 1 + i = k + (i + 1) := by omega
    rw [e]
def wsOf (ad : Nat → Nat) (ca : Nat → ClassId) (mm : MM) : va_W := wsG ad ca mm 0 SHL
theorem ws_at {ad : Nat → Nat} {ca : Nat → ClassId} {mm : MM} {k : Nat} {s : SHP} (h : SHL[k]? = some s) : (wsOf ad ca mm)[k]? = some (ad k, cellV ad ca mm k s) := by
  unfold wsOf
  rw [wsG_at, h]
  simp
theorem ws_at' {ad : Nat → Nat} {ca : Nat → ClassId} {mm : MM} {k : Nat} {q : Nat × va_E} (h : (wsOf ad ca mm)[k]? = some q) : ∃ s, SHL[k]? = some s ∧ q = (ad k, cellV ad ca mm k s) := by
  unfold wsOf at h
  rw [wsG_at] at h
  cases e : SHL[k]? with
  | none => rw [e] at h; simp at h
  | some s =>
    rw [e] at h
    simp at h
    exact ⟨s, rfl, h.symm⟩
theorem sh_lt {k : Nat} {s : SHP} (h : SHL[k]? = some s) : k < nS := by
  have := (List.getElem?_eq_some_iff.mp h).1
  rw [nS_ok] at this
  exact this
/-- a memory that is another one but at the cell k -/
def mOff (k : Nat) (mm m2 : MM) : Prop := ∀ a, a ≠ k → m2.1 a = mm.1 a ∧ m2.2.1 a = mm.2.1 a ∧ m2.2.2 a = mm.2.2 a
theorem slotsV_same (ad : Nat → Nat) {mm m2 : MM} {k : Nat} (h1 : m2.1 k = mm.1 k) (h3 : m2.2.2 k = mm.2.2 k) : ∀ (l : List Nat) (j : Nat), slotsV ad m2 k j l = slotsV ad mm k j l
  | [], _ => rfl
  | 0 :: l, j => by simp [slotsV, slotV, h1, slotsV_same ad h1 h3 l (j + 1)]
  | 1 :: l, j => by simp [slotsV, slotV, h3, slotsV_same ad h1 h3 l (j + 1)]
  | (d + 2) :: l, j => by simp [slotsV, slotV, slotsV_same ad h1 h3 l (j + 1)]
theorem cellV_same {ad : Nat → Nat} {ca : Nat → ClassId} {mm m2 : MM} {k : Nat} (h : m2.1 k = mm.1 k ∧ m2.2.1 k = mm.2.1 k ∧ m2.2.2 k = mm.2.2 k) (s : SHP) : cellV ad ca m2 k s = cellV ad ca mm k s := by
  obtain ⟨h1, h2, h3⟩ := h
  rcases s with ⟨t, n, d, e⟩ | ⟨ci, sks⟩
  · match t with
    | 0 => simp [cellV, h1]
    | 1 => simp [cellV, h1]
    | 2 => simp [cellV, h1]
    | 3 => simp [cellV, h2]
    | t + 4 => rfl
  · simp [cellV, slotsV_same ad h1 h3]
theorem ws_set {ad : Nat → Nat} {ca : Nat → ClassId} {mm m2 : MM} {k : Nat} {s : SHP} (hs : SHL[k]? = some s) (h : mOff k mm m2) : (wsOf ad ca mm).set k (ad k, cellV ad ca m2 k s) = wsOf ad ca m2 := by
  apply List.ext_getElem?
  intro i
  rw [List.getElem?_set]
  by_cases e : k = i
  · subst e
    have hl : k < (wsOf ad ca mm).length := (List.getElem?_eq_some_iff.mp (ws_at (ad := ad) (ca := ca) (mm := mm) hs)).1
    simp [hl, ws_at (ad := ad) (ca := ca) (mm := m2) hs]
  · rw [if_neg e]
    unfold wsOf
    rw [wsG_at, wsG_at]
    congr 1
    funext s
    rw [cellV_same (h (0 + i) (fun q => e (by omega)))]
/-- one int, one row of ints, one long, one reference written -/
def wR (mm : MM) (k : Nat) (f : Nat → Int32) : MM := (va_up mm.1 k f, mm.2.1, mm.2.2)
def wI (mm : MM) (k j : Nat) (v : Int32) : MM := wR mm k (upd (mm.1 k) j v)
def wLg (mm : MM) (k j : Nat) (v : Int64) : MM := (mm.1, va_up mm.2.1 k (vp_updL (mm.2.1 k) j v), mm.2.2)
def wRf (mm : MM) (k j r : Nat) : MM := (mm.1, mm.2.1, va_up mm.2.2 k (va_up (mm.2.2 k) j r))
theorem wR_k (mm : MM) (k : Nat) (f : Nat → Int32) : (wR mm k f).1 k = f := by simp [wR, va_up]
theorem wR_o {mm : MM} {k : Nat} {f : Nat → Int32} {a : Nat} (h : a ≠ k) : (wR mm k f).1 a = mm.1 a := by simp [wR, va_up, h]
theorem wI_k (mm : MM) (k j : Nat) (v : Int32) : (wI mm k j v).1 k = upd (mm.1 k) j v := wR_k mm k _
theorem wI_o {mm : MM} {k j : Nat} {v : Int32} {a : Nat} (h : a ≠ k) : (wI mm k j v).1 a = mm.1 a := wR_o h
theorem wL_k (mm : MM) (k j : Nat) (v : Int64) : (wLg mm k j v).2.1 k = vp_updL (mm.2.1 k) j v := by simp [wLg, va_up]
theorem wL_o {mm : MM} {k j : Nat} {v : Int64} {a : Nat} (h : a ≠ k) : (wLg mm k j v).2.1 a = mm.2.1 a := by simp [wLg, va_up, h]
theorem wF_k (mm : MM) (k j r : Nat) : (wRf mm k j r).2.2 k = va_up (mm.2.2 k) j r := by simp [wRf, va_up]
theorem wF_o {mm : MM} {k j r : Nat} {a : Nat} (h : a ≠ k) : (wRf mm k j r).2.2 a = mm.2.2 a := by simp [wRf, va_up, h]
theorem mOff_R (mm : MM) (k : Nat) (f : Nat → Int32) : mOff k mm (wR mm k f) := fun a h => ⟨wR_o h, rfl, rfl⟩
theorem mOff_L (mm : MM) (k j : Nat) (v : Int64) : mOff k mm (wLg mm k j v) := fun a h => ⟨rfl, wL_o h, rfl⟩
theorem mOff_F (mm : MM) (k j r : Nat) : mOff k mm (wRf mm k j r) := fun a h => ⟨rfl, rfl, wF_o h⟩
theorem slotsV_setI {ad : Nat → Nat} {mm : MM} {k : Nat} {l : List Nat} {j : Nat} {v : Int32} (h : l[j]? = some 0) : (slotsV ad mm k 0 l).set j (.int v) = slotsV ad (wI mm k j v) k 0 l := by
  apply List.ext_getElem?
  intro i
  rw [List.getElem?_set]
  by_cases e : j = i
  · subst e
    have hl : j < (slotsV ad mm k 0 l).length := by rw [slotsV_len]; exact (List.getElem?_eq_some_iff.mp h).1
    simp [hl, slotsV_at, h, slotV, wI_k, upd]
  · rw [if_neg e, slotsV_at, slotsV_at]
    cases l[i]? with
    | none => rfl
    | some sk =>
      match sk with
      | 0 => simp [slotV, wI_k, upd, Ne.symm e]
      | 1 => simp [slotV, wI, wR]
      | d + 2 => rfl
theorem slotsV_setF {ad : Nat → Nat} {mm : MM} {k : Nat} {l : List Nat} {j r : Nat} (h : l[j]? = some 1) : (slotsV ad mm k 0 l).set j (.ref (ad r)) = slotsV ad (wRf mm k j r) k 0 l := by
  apply List.ext_getElem?
  intro i
  rw [List.getElem?_set]
  by_cases e : j = i
  · subst e
    have hl : j < (slotsV ad mm k 0 l).length := by rw [slotsV_len]; exact (List.getElem?_eq_some_iff.mp h).1
    simp [hl, slotsV_at, h, slotV, wF_k, va_up]
  · rw [if_neg e, slotsV_at, slotsV_at]
    cases l[i]? with
    | none => rfl
    | some sk =>
      match sk with
      | 0 => simp [slotV, wRf]
      | 1 => simp [slotV, wF_k, va_up, Ne.symm e]
      | d + 2 => rfl
def tysOf (ca : Nat → ClassId) : List (ClassId × FieldType) := [(ca 0, .int), (ca 1, .byte), (ca 2, .boolean), (ca 3, .long), (ca 4, .object "StiltTown$State"), (ca 5, .array .int)]
def adA (ad : Nat → Nat) (sz : Nat) : Nat → Prop := fun q => (∃ i, i < nS ∧ q = ad i) ∨ sz ≤ q
def adI (ad : Nat → Nat) : Prop := ∀ i j, i < nS → j < nS → ad i = ad j → i = j
theorem ws_D {ad : Nat → Nat} {ca : Nat → ClassId} {mm : MM} {A : Nat → Prop} (h1 : adI ad) (h2 : ∀ i, i < nS → A (ad i)) : va_D A (wsOf ad ca mm) := by
  refine ⟨fun i j p q hi hj e => ?_, fun k q hk => ?_⟩
  · obtain ⟨s1, a1, rfl⟩ := ws_at' hi
    obtain ⟨s2, a2, rfl⟩ := ws_at' hj
    exact h1 i j (sh_lt a1) (sh_lt a2) e
  · obtain ⟨s1, a1, rfl⟩ := ws_at' hk
    exact h2 k (sh_lt a1)

/-! bits, guards, views -/
def popN (n : Nat) : Nat := fb_ct n.testBit 16
theorem tb_if (n k : Nat) : (if n.testBit k = true then 1 else 0) = n / 2 ^ k % 2 := by
  rw [Nat.testBit_eq_decide_div_mod_eq]
  rcases Nat.mod_two_eq_zero_or_one (n / 2 ^ k) with e | e <;> simp [e]
theorem pop_F (n : Nat) : popN n = popF n := by
  unfold popN popF
  simp only [fb_ct, tb_if]
  simp
theorem ush_N {n : Nat} (h : n < 2 ^ 32) (s : Int32) (k : Nat) (hs : ((s.toUInt32 &&& Int32.toUInt32 31).toBitVec % 32).toNat = k) : ushr (nI n) s = nI (n / 2 ^ k) := pk_ushrN h s k hs
theorem bitCount_v (m : MM) {n : Nat} (h : n < 65536) : v_J6_bitCount_0f7a4 m (nI n) = nI (popN n) := by
  rw [pop_F, ← bc_pop h]
  unfold v_J6_bitCount_0f7a4
  dsimp only [bcN]
  have l1 : (1431655765 : Int32) = nI 1431655765 := rfl
  have l2 : (858993459 : Int32) = nI 858993459 := rfl
  have l3 : (252645135 : Int32) = nI 252645135 := rfl
  have l4 : (63 : Int32) = nI 63 := rfl
  have s1 : ∀ x, x < 2 ^ 32 → ushr (nI x) 1 = nI (x / 2) := fun x hx => ush_N hx 1 1 (by decide)
  have s2 : ∀ x, x < 2 ^ 32 → ushr (nI x) 2 = nI (x / 4) := fun x hx => ush_N hx 2 2 (by decide)
  have s4 : ∀ x, x < 2 ^ 32 → ushr (nI x) 4 = nI (x / 16) := fun x hx => ush_N hx 4 4 (by decide)
  have s8 : ∀ x, x < 2 ^ 32 → ushr (nI x) 8 = nI (x / 256) := fun x hx => ush_N hx 8 8 (by decide)
  have s16 : ∀ x, x < 2 ^ 32 → ushr (nI x) 16 = nI (x / 65536) := fun x hx => ush_N hx 16 16 (by decide)
  have a0 : (n / 2) &&& 1431655765 ≤ n := Nat.le_trans Nat.and_le_left (Nat.div_le_self _ _)
  rw [s1 n (by omega), l1, fa_and, s_sub a0]
  have a1 : n - ((n / 2) &&& 1431655765) ≤ n := Nat.sub_le _ _
  generalize n - ((n / 2) &&& 1431655765) = a at a1
  have b0 : a &&& 858993459 ≤ a := Nat.and_le_left
  have b1 : (a / 4) &&& 858993459 ≤ a / 4 := Nat.and_le_left
  rw [s2 a (by omega), l2, fa_and, fa_and, nI_add]
  have b2 : (a &&& 858993459) + ((a / 4) &&& 858993459) ≤ 200000 := by omega
  generalize (a &&& 858993459) + ((a / 4) &&& 858993459) = b at b2
  rw [s4 b (by omega), nI_add, l3, fa_and]
  have c0 : (b + b / 16) &&& 252645135 ≤ b + b / 16 := Nat.and_le_left
  have c1 : (b + b / 16) &&& 252645135 ≤ 400000 := by omega
  generalize (b + b / 16) &&& 252645135 = c at c1
  rw [s8 c (by omega), nI_add]
  have d1 : c + c / 256 ≤ 800000 := by omega
  show (nI (c + c / 256) + ushr (nI (c + c / 256)) 16) &&& 63 = nI ((c + c / 256 + (c + c / 256) / 65536) &&& 63)
  generalize c + c / 256 = d at d1
  rw [s16 d (by omega), nI_add, l4, fa_and]
theorem shr_bit {n k : Nat} (hn : n < 2 ^ 31) (hk : k < 32) : (nI n >>> (nI k &&& 31)) &&& 1 = nI (if n.testBit k = true then 1 else 0) := by
  rw [tb_if, pk_shrN hn (nI k &&& 31) k (s_l k hk), show (1 : Int32) = nI (2 ^ 1 - 1) from rfl, fa_mask]
theorem bitsOf_ok {mm : MM} {n : Nat} (hn : n < 65536) (m : MM) (hm : Kq mm m) : Runs e_X12_bitsOf [.int (nI n)] m (fun r m' => r = .int (nI (popN n)) ∧ Kq mm m') := by
  apply b_X12_bitsOf
  refine for_up (fun k => [(0, .int (nI n)), (1, .int (nI (fb_ct n.testBit k))), (2, .int (nI k))]) (fun k m => Kq mm m) 16 ?_ ?_ 0 _ (Nat.zero_le _) hm
  · intro m k1
    apply b_X12_bitsOf_4
    simp (disch := omega) only [lin, nI_add, pk_mul, s_sub, s_addneg, s_leT, s_leF, s_ltT, s_ltF, s_eqF, s_inT, s_neF, s_neF', s_neE, s_nleT, s_nleF, s_nltF, s_nltT, eq_self, nI_clamp, s_wIk, s_wIo, pk_us, pk_un, Nat.reduceAdd, Nat.reduceMul, Nat.reduceSub, Nat.zero_add, Nat.add_zero, Nat.mul_zero, true_implies, false_implies, implies_true, not_true, not_false, and_true, true_and, not_true_eq_false, not_false_eq_true, forall_const]
    exact ⟨rfl, k1⟩
  · intro k m hk k1 hn2
    have e := hn2 m k1
    rw [fb_ct_succ] at e
    have e2 := shr_bit (n := n) (k := k) (by omega) (by omega)
    apply b_X12_bitsOf_4
    rw [e2]
    simp (disch := omega) only [lin, nI_add, pk_mul, s_sub, s_addneg, s_leT, s_leF, s_ltT, s_ltF, s_eqF, s_inT, s_neF, s_neF', s_neE, s_nleT, s_nleF, s_nltF, s_nltT, eq_self, nI_clamp, s_wIk, s_wIo, pk_us, pk_un, Nat.reduceAdd, Nat.reduceMul, Nat.reduceSub, Nat.zero_add, Nat.add_zero, Nat.mul_zero, true_implies, false_implies, implies_true, not_true, not_false, and_true, true_and, not_true_eq_false, not_false_eq_true, forall_const]
    exact e
/-! guards -/
def inR (a : Int32) (n : Nat) : Prop := ∃ j : Nat, j < n ∧ a = nI j
theorem inR_iff {a : Int32} {n : Nat} (hn : n < 2 ^ 31) : (¬ a < 0 ∧ ¬ nI n ≤ a) ↔ inR a n := by
  constructor
  · rintro ⟨h1, h2⟩
    rcases pk_ix a hn with h | h | ⟨j, hj, e⟩
    · exact absurd h h1
    · exact absurd h h2
    · exact ⟨j, hj, e⟩
  · rintro ⟨j, hj, rfl⟩
    exact ⟨nI_pos (by omega), nI_ge hj hn⟩
theorem inR_iff' {a : Int32} {n : Nat} (hn : n + 1 < 2 ^ 31) : (¬ a < 0 ∧ ¬ nI n < a) ↔ inR a (n + 1) := by
  rw [← inR_iff hn]
  constructor
  · rintro ⟨h1, h2⟩
    refine ⟨h1, fun z => h2 ?_⟩
    rw [Int32.le_iff_toInt_le, nI_toInt (by omega)] at z
    rw [Int32.lt_iff_toInt_lt, nI_toInt (by omega)]
    omega
  · rintro ⟨h1, h2⟩
    refine ⟨h1, fun z => h2 ?_⟩
    rw [Int32.lt_iff_toInt_lt, nI_toInt (by omega)] at z
    rw [Int32.le_iff_toInt_le, nI_toInt (by omega)]
    omega
theorem isH_X {m : MM} {t s H : Nat} {a : Int32} (ht : isT t) (hr : RefR m.2.2 t s) (e : m.1 t 8 = nI H) (h : H ≤ 16) : o_X11_isHouse m a ∧ (p_X11_isHouse m a ↔ inR a H) := by
  unfold o_X11_isHouse p_X11_isHouse
  rw [hr.1, e]
  exact ⟨⟨fun _ => trivial, fun _ => ⟨ht.at, fun _ => trivial, fun _ => trivial⟩⟩, inR_iff (by omega)⟩
theorem isO_X {m : MM} {t s H : Nat} {a : Int32} (ht : isT t) (hr : RefR m.2.2 t s) (e : m.1 t 9 = nI H) (h : H ≤ 12) : o_X11_isOffice m a ∧ (p_X11_isOffice m a ↔ inR a H) := by
  unfold o_X11_isOffice p_X11_isOffice
  rw [hr.1, e]
  exact ⟨⟨fun _ => trivial, fun _ => ⟨ht.at, fun _ => trivial, fun _ => trivial⟩⟩, inR_iff (by omega)⟩
theorem isSt_X {m : MM} {t s H : Nat} {a : Int32} (ht : isT t) (hr : RefR m.2.2 t s) (e : m.1 t 10 = nI H) (h : H ≤ 12) : o_X11_isStair m a ∧ (p_X11_isStair m a ↔ inR a H) := by
  unfold o_X11_isStair p_X11_isStair
  rw [hr.1, e]
  exact ⟨⟨fun _ => trivial, fun _ => ⟨ht.at, fun _ => trivial, fun _ => trivial⟩⟩, inR_iff (by omega)⟩
theorem isW_X {m : MM} {t s H : Nat} {a : Int32} (ht : isT t) (hr : RefR m.2.2 t s) (e : m.1 t 13 = nI H) (h : H ≤ 12) : o_X11_isWood m a ∧ (p_X11_isWood m a ↔ inR a H) := by
  unfold o_X11_isWood p_X11_isWood
  rw [hr.1, e]
  exact ⟨⟨fun _ => trivial, fun _ => ⟨ht.at, fun _ => trivial, fun _ => trivial⟩⟩, inR_iff (by omega)⟩
theorem isK_X {m : MM} {t s n : Nat} {a : Int32} (hs : isS s) (hr : RefR m.2.2 t s) (e : m.1 (s + 7) 6 = nI n) (h : n ≤ 60) : o_X11_isKnown m a ∧ (p_X11_isKnown m a ↔ inR a (n + 1)) := by
  unfold o_X11_isKnown p_X11_isKnown
  rw [hr.2.1, e]
  exact ⟨⟨fun _ => trivial, fun _ => ⟨hs.at, fun _ => trivial, fun _ => trivial⟩⟩, inR_iff' (by omega)⟩
theorem isHr_X (m : MM) (a : Int32) : p_X11_isHour m a ↔ inR a 24 := inR_iff (n := 24) (by omega)
theorem isHr_M (m : MM) (a : Int32) : p_X12_isHour m a ↔ inR a 24 := inR_iff (n := 24) (by omega)
theorem w99_X (m : MM) (a : Int32) : p_X11_within m a 0 99 ↔ inR a 100 := inR_iff' (n := 99) (by omega)
theorem isWd_X (m : MM) (a : Int32) : p_X11_isWind m a ↔ inR a 100 := inR_iff' (n := 99) (by omega)
theorem isWd_M (m : MM) (a : Int32) : p_X12_isWind m a ↔ inR a 100 := inR_iff (n := 100) (by omega)
theorem isIn_M (m : MM) (a : Int32) : p_X12_isIn m a 0 99 ↔ inR a 100 := inR_iff' (n := 99) (by omega)
theorem isH_M {m : MM} {H : Nat} {a : Int32} (e : m.1 162 0 = nI H) (h : H ≤ 16) : p_X12_isHouse m a ↔ inR a H := by
  unfold p_X12_isHouse
  rw [e]
  exact inR_iff (by omega)
theorem isO_M {m : MM} {H : Nat} {a : Int32} (e : m.1 162 1 = nI H) (h : H ≤ 16) : p_X12_isOffice m a ↔ inR a H := by
  unfold p_X12_isOffice
  rw [e]
  exact inR_iff (by omega)
theorem isK_M {m : MM} {n : Nat} {a : Int32} (e : m.1 163 2 = nI n) (h : n ≤ 60) : p_X12_isKnown m a ↔ inR a (n + 1) := by
  unfold p_X12_isKnown
  rw [e]
  exact inR_iff' (by omega)
/-! what the relation says, piece by piece -/
section Views
variable {c : Nat → Nat → Int32} {t s H O S Qn W C J F B : Nat}
theorem BodyR.sz (h : BodyR c t s H O S Qn W C J F B) : H ≤ 16 ∧ O ≤ 12 ∧ S ≤ 12 ∧ Qn ≤ 4 ∧ W ≤ 8 ∧ (1 ≤ C ∧ C ≤ 9) ∧ (1 ≤ J ∧ J ≤ 99) ∧ F ≤ 4 ∧ B ≤ 4 := h.1.1
theorem BodyR.nm (h : BodyR c t s H O S Qn W C J F B) : c 162 0 = nI H ∧ c 162 1 = nI O ∧ c 162 3 = nI S ∧ c 162 4 = nI Qn ∧ c 162 5 = nI W ∧ c 162 6 = nI C ∧ c 162 7 = nI J ∧ c 162 8 = nI F ∧ c 162 9 = nI B := h.1.2.1
theorem BodyR.nc (h : BodyR c t s H O S Qn W C J F B) : c t 8 = nI H ∧ c t 9 = nI O ∧ c t 10 = nI S ∧ c t 11 = nI Qn ∧ c t 12 = nI (quayN (c 162)) ∧ c t 13 = nI W ∧ c t 14 = nI C ∧ c t 15 = nI J ∧ c (t + 8) 11 = nI F ∧ c (t + 8) 12 = nI B := h.1.2.2.1
theorem BodyR.law0 (h : BodyR c t s H O S Qn W C J F B) : LawR c t 0 := h.1.2.2.2.2.2.2.2.2.1.1
theorem BodyR.law1 (h : BodyR c t s H O S Qn W C J F B) : LawR c t 1 := h.1.2.2.2.2.2.2.2.2.1.2.1
theorem BodyR.law2 (h : BodyR c t s H O S Qn W C J F B) : LawR c t 2 := h.1.2.2.2.2.2.2.2.2.1.2.2
theorem BodyR.fall (h : BodyR c t s H O S Qn W C J F B) : ∀ k, k < F → RuleR c t 2 190 k := h.1.2.2.2.2.2.2.2.2.2.1
theorem BodyR.bad (h : BodyR c t s H O S Qn W C J F B) : ∀ k, k < B → RuleR c t 3 200 k := h.1.2.2.2.2.2.2.2.2.2.2
theorem BodyR.mon (h : BodyR c t s H O S Qn W C J F B) : c s 8 = c 163 0 := by
  obtain ⟨m, -, e1, e2⟩ := h.2.1.1
  rw [e2, ← e1]
theorem LiveR.hg (h : LiveR c s 0 H O W) : ∀ k, k < 16 → (∃ x : Nat, x ≤ 99 ∧ c 163 (10 + k) = nI x) ∧ c (s + 1) k = c 163 (10 + k) := by
  intro k hk
  have := h.2.1 k hk
  rw [Nat.zero_add] at this
  exact this
theorem LiveR.of (h : LiveR c s 0 H O W) (hp : 0 < H + O) : ∀ k, k < 16 → (c 163 (30 + k) = -nI 2 ∧ c (s + 2) k = -nI 1) ∨ ∃ o : Nat, o < O ∧ k < H ∧ c 163 (30 + k) = nI o ∧ c (s + 2) k = nI o := by
  intro k hk
  have := h.2.2.1 k hk hp
  rw [Nat.zero_add] at this
  exact this
theorem LiveR.wd (h : LiveR c s 0 H O W) : ∀ w, w < W → (∃ p : Nat, p ≤ 99 ∧ c 163 (50 + w) = nI p) ∧ c (s + 3) w = c 163 (50 + w) := by
  intro w hw
  have := h.2.2.2.2.1 w hw
  rw [Nat.zero_add] at this
  exact this
theorem BodyR.rank (h : BodyR c t s H O S Qn W C J F B) : ∀ k, k < H → RankR c t s k := by
  intro k hk
  rcases h.2.1.of (by omega) k (Nat.lt_of_lt_of_le hk h.sz.1) with ⟨e1, e2⟩ | ⟨o, ho, hh, e1, e2⟩
  · exact Or.inl ⟨e1, e2⟩
  · obtain ⟨⟨r, hr, er⟩, eo⟩ := h.1.2.2.2.2.1 o ho
    exact Or.inr ⟨o, O, r, ho, h.sz.2.1, h.nc.2.1, e1, e2, eo, er, hr⟩
theorem BodyR.hou (h : BodyR c t s H O S Qn W C J F B) : ∀ k, k < H → HouR c t s k := by
  intro k hk
  have h16 := h.sz.1
  obtain ⟨-, e1, e2⟩ := h.1.2.2.2.1 k hk
  exact ⟨by omega, h.rank k (by omega), (h.2.1.hg k (by omega)).2, e2, e1⟩
theorem BodyR.townM (h : BodyR c t s H O S Qn W C J F B) : TownM (c 162) := by
  obtain ⟨z1, z2, z3, z4, z5, -⟩ := h.sz
  obtain ⟨n1, n2, n3, n4, -⟩ := h.nm
  refine ⟨H, S, Qn, z1, z3, z4, n1, n3, n4, fun k hk => ?_, fun q hq => ?_⟩
  · obtain ⟨⟨a, r, ha, hr, e1, e2, e3⟩, -⟩ := h.1.2.2.2.2.2.1 k hk
    refine ⟨a, r, by omega, hr, e1, e2, ?_⟩
    rcases e3 with e3 | ⟨b, hb, hne, e3⟩
    · exact Or.inl e3
    · exact Or.inr ⟨b, by omega, hne, e3⟩
  · obtain ⟨a, ha, e⟩ := h.1.2.2.2.2.2.2.1 q hq
    exact ⟨a, by omega, e⟩
theorem BodyR.townC (h : BodyR c t s H O S Qn W C J F B) : TownC c t := by
  obtain ⟨z1, z2, z3, z4, z5, -⟩ := h.sz
  obtain ⟨n1, n2, n3, n4, -⟩ := h.nm
  obtain ⟨c1, c2, c3, c4, c5, -⟩ := h.nc
  refine ⟨c1.trans n1.symm, c3.trans n3.symm, c5, fun k hk h12 => ?_⟩
  rw [n3, nI_ltI (by omega) (by omega)] at hk
  exact (h.1.2.2.2.2.2.1 k hk).2
theorem BodyR.hgt (h : BodyR c t s H O S Qn W C J F B) : HgtM (fun k => c 163 (10 + k)) := fun k hk => (h.2.1.hg k hk).1
theorem BodyR.hh (h : BodyR c t s H O S Qn W C J F B) : ∀ k, k < 16 → c (s + 1) k = (fun k => c 163 (10 + k)) k := fun k hk => (h.2.1.hg k hk).2
end Views
theorem cK {P : Value → MM → Prop} {V : Int32} {mm m : MM} (k : Kq mm m) (h : ∀ m, Kq mm m → P (.int V) m) : P (.int V) m := h m k

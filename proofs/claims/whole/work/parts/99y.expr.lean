/-! reading: an expression, on both sides -/
def bd (q : Nat) : Nat := if q = 23 then 1 else if q = 24 then 2 else if q = 25 then 3 else if q = 30 then 5 else if q = 31 then 5 else if q = 32 then 6 else if q = 33 then 6 else if q = 38 then 0 else 4
def rk (u : Nat) : Nat := if u ≤ 1 then 0 else if u ≤ 3 then 1 else 2
theorem bond_ok (m : MM) {q : Nat} (hq : q < 40) : v_X4_bond m (nI q) = nI (bd q) := by
  unfold v_X4_bond
  simp only [cite_ite]
  revert q
  decide
theorem rank_ok (m : MM) {u : Nat} (hu : u < 6) : v_X12_rank m (nI u) = nI (rk u) := by
  unfold v_X12_rank
  simp only [cite_ite]
  revert u
  decide
def cw (u : Nat) : Nat := if u = 0 then 38 else u + 28
def opV (v : MM) (i : Nat) : Int32 := v.1 165 (500 + i)
def vaV (v : MM) (i : Nat) : Int32 := v.1 166 (500 + i)
def cdX (x : MM) (rt : Nat) : Nat → Int32 := x.1 (rt + 8 + 1)
def wtX (x : MM) (W : List Nat) : Prop := x.1 1 13 = nI W.length ∧ stk (x.1 4) (W.map nI)
def wtV (v : MM) (U : List Nat) : Prop := v.1 156 30 = nI U.length ∧ stk (v.1 178) (U.map nI)
/-- how many signs wait, how many open brackets -/
def pc : List Nat → Nat
  | [] => 0
  | u :: U => if u = 0 then pc U else pc U + 1
def opn : List Nat → Nat
  | [] => 0
  | u :: U => if u = 0 then opn U + 1 else opn U
def rk0 : List Nat → Nat
  | [] => 0
  | u :: _ => rk u
/-- signs that wait bind more and more tightly, up to a bracket -/
def gd : List Nat → Prop
  | [] => True
  | u :: U => (u = 0 ∨ (2 ≤ u ∧ u ≤ 5 ∧ rk0 U < rk u)) ∧ gd U
theorem rk_le (u : Nat) : rk u ≤ 2 := by unfold rk; repeat' split
                                         all_goals omega
theorem rk0_le (U : List Nat) : rk0 U ≤ 2 := by
  cases U with
  | nil => exact Nat.zero_le _
  | cons u U => exact rk_le u
theorem rk_0 : rk 0 = 0 := rfl
theorem gd_pc : ∀ {U : List Nat}, gd U → pc U ≤ 2 * opn U + rk0 U
  | [], _ => Nat.le_refl _
  | u :: U, h => by
    have ih := gd_pc h.2
    have h2 := rk0_le U
    unfold pc opn
    rcases h.1 with h1 | ⟨h3, h4, h5⟩
    · rw [if_pos h1, if_pos h1]
      show _ ≤ 2 * (opn U + 1) + rk u
      omega
    · rw [if_neg (by omega), if_neg (by omega)]
      show _ ≤ 2 * opn U + rk u
      omega
/-- where an expression's two codes are, and what waits -/
def EI (x v : MM) (rt st k0 k fr n a : Nat) (U P : List Nat) (w : Bool) : Prop :=
  (x.2.2 1 4 = rt ∧ isT rt) ∧ (x.1 (rt + 8) 5 = nI (st + k) ∧ v.1 164 1 = nI (fr + n)) ∧ (wtX x (U.map cw ++ P) ∧ wtV v U) ∧
  (AV (cdX x rt) (opV v) (vaV v) st k0 k fr n ∧ SegI (opV v) (vaV v) fr n ∧ Coded (cdX x rt) st k) ∧
  (dp (opV v) fr n = pc U + (if w then 0 else 1) ∧ gd U ∧ opn U ≤ 6) ∧ (k0 ≤ k ∧ st + k + U.length + P.length + 2 ≤ a ∧ fr + n + U.length ≤ a ∧ a ≤ 401)
/-- all but what the reading of an expression writes -/
def FE (s rt : Nat) (x x' : MM) : Prop := x'.2 = x.2 ∧ (∀ r, r ≠ 1 → r ≠ 4 → r ≠ rt + 8 → r ≠ rt + 8 + 1 → x'.1 r = x.1 r) ∧ (∀ y, y < 6 ∨ y = 9 ∨ y = 11 ∨ y = 12 ∨ 17 < y → x'.1 1 y = x.1 1 y) ∧ (∀ y, y ≠ 5 → x'.1 (rt + 8) y = x.1 (rt + 8) y) ∧ (∀ i, i < s → cdX x' rt i = cdX x rt i)
def GE (n : Nat) (v v' : MM) : Prop := v'.2 = v.2 ∧ (∀ r, r ≠ 156 → r ≠ 164 → r ≠ 165 → r ≠ 166 → r ≠ 178 → v'.1 r = v.1 r) ∧ (∀ y, y < 7 ∨ (11 < y ∧ y ≠ 29 ∧ y ≠ 30 ∧ y ≠ 32) → v'.1 156 y = v.1 156 y) ∧ (∀ y, y ≠ 1 → v'.1 164 y = v.1 164 y) ∧ (∀ i, i < n → opV v' i = opV v i ∧ vaV v' i = vaV v i) ∧ (∀ i, i < 500 → v'.1 165 i = v.1 165 i ∧ v'.1 166 i = v.1 166 i)
theorem FE.rf (s rt : Nat) (x : MM) : FE s rt x x := ⟨rfl, fun _ _ _ _ _ => rfl, fun _ _ => rfl, fun _ _ => rfl, fun _ _ => rfl⟩
theorem GE.rf (n : Nat) (v : MM) : GE n v v := ⟨rfl, fun _ _ _ _ _ _ => rfl, fun _ _ => rfl, fun _ _ => rfl, fun _ _ => ⟨rfl, rfl⟩, fun _ _ => ⟨rfl, rfl⟩⟩
theorem FE.tr {s s' rt : Nat} {a b c : MM} (h : FE s rt a b) (h2 : FE s' rt b c) (hs : s ≤ s') : FE s rt a c :=
  ⟨h2.1.trans h.1, fun r r1 r2 r3 r4 => (h2.2.1 r r1 r2 r3 r4).trans (h.2.1 r r1 r2 r3 r4), fun y hy => (h2.2.2.1 y hy).trans (h.2.2.1 y hy), fun y hy => (h2.2.2.2.1 y hy).trans (h.2.2.2.1 y hy), fun i hi => (h2.2.2.2.2 i (by omega)).trans (h.2.2.2.2 i hi)⟩
theorem GE.tr {n n' : Nat} {a b c : MM} (h : GE n a b) (h2 : GE n' b c) (hn : n ≤ n') : GE n a c :=
  ⟨h2.1.trans h.1, fun r r1 r2 r3 r4 r5 => (h2.2.1 r r1 r2 r3 r4 r5).trans (h.2.1 r r1 r2 r3 r4 r5), fun y hy => (h2.2.2.1 y hy).trans (h.2.2.1 y hy), fun y hy => (h2.2.2.2.1 y hy).trans (h.2.2.2.1 y hy), fun i hi => ⟨(h2.2.2.2.2.1 i (by omega)).1.trans (h.2.2.2.2.1 i hi).1, (h2.2.2.2.2.1 i (by omega)).2.trans (h.2.2.2.2.1 i hi).2⟩, fun i hi => ⟨(h2.2.2.2.2.2 i hi).1.trans (h.2.2.2.2.2 i hi).1, (h2.2.2.2.2.2 i hi).2.trans (h.2.2.2.2.2 i hi).2⟩⟩
/-- what leaves alone where the two stand -/
def DX (x x' : MM) : Prop := x'.2 = x.2 ∧ x'.1 5 = x.1 5 ∧ x'.1 7 = x.1 7 ∧ x'.1 8 = x.1 8 ∧ ∀ y, 6 ≤ y → y ≤ 10 → x'.1 1 y = x.1 1 y
def DV (v v' : MM) : Prop := v'.2 = v.2 ∧ v'.1 158 = v.1 158 ∧ v'.1 159 = v.1 159 ∧ v'.1 160 = v.1 160 ∧ ∀ y, 7 ≤ y → y ≤ 11 → v'.1 156 y = v.1 156 y
theorem DX.rf (x : MM) : DX x x := ⟨rfl, rfl, rfl, rfl, fun _ _ _ => rfl⟩
theorem DV.rf (x : MM) : DV x x := ⟨rfl, rfl, rfl, rfl, fun _ _ _ => rfl⟩
theorem DX.tr {a b c : MM} (h : DX a b) (h2 : DX b c) : DX a c := ⟨h2.1.trans h.1, h2.2.1.trans h.2.1, h2.2.2.1.trans h.2.2.1, h2.2.2.2.1.trans h.2.2.2.1, fun y y1 y2 => (h2.2.2.2.2 y y1 y2).trans (h.2.2.2.2 y y1 y2)⟩
theorem DV.tr {a b c : MM} (h : DV a b) (h2 : DV b c) : DV a c := ⟨h2.1.trans h.1, h2.2.1.trans h.2.1, h2.2.2.1.trans h.2.2.1, h2.2.2.2.1.trans h.2.2.2.1, fun y y1 y2 => (h2.2.2.2.2 y y1 y2).trans (h.2.2.2.2 y y1 y2)⟩
section
variable {x v x' v' : MM} {M a : Nat} {K ts : Nat → Nat}
theorem TJ.mix (h : TJ x v M K ts) (hx : DX x x') (hv : DV v v') : TJ x' v' M K ts := h.fr (by rw [hx.2.1]) hx.2.2.1 hx.2.2.2.1 (by rw [hx.1]) hv.2.1 hv.2.2.1 hv.2.2.2.1 (by rw [hv.1])
theorem LJ.mix {b : Nat} (h : LJ x v ts b) (hx : DX x x') (hv : DV v v') : LJ x' v' ts b := h.fr (hx.2.2.2.2 9 (by omega) (by omega)) (hx.2.2.2.2 10 (by omega) (by omega)) (hv.2.2.2.2 10 (by omega) (by omega)) (hv.2.2.2.2 11 (by omega) (by omega))
theorem RC.mix (h : RC x v M K ts a) (hx : DX x x') (hv : DV v v') : RC x' v' M K ts a :=
  h.fr (b := a) (h.1.mix hx hv) ⟨hx.2.2.2.2 6 (by omega) (by omega), hx.2.2.2.2 7 (by omega) (by omega), hx.2.2.2.2 8 (by omega) (by omega)⟩ ⟨hv.2.2.2.2 7 (by omega) (by omega), hv.2.2.2.2 8 (by omega) (by omega), hv.2.2.2.2 9 (by omega) (by omega)⟩ (h.2.2.2.2.2.2.2.2.mix hx hv) (Nat.le_refl a)
theorem JM.mix {ok : Bool} (h : JM ok x v M K ts a) (hx : DX x x') (hv : DV v v') : JM ok x' v' M K ts a := by
  refine ⟨fun z => (h.1 z).mix hx hv, fun z => ?_, ?_⟩
  · obtain ⟨e, e1, e2, e3, e4, e5⟩ := h.2.1 z
    exact ⟨e, e1, e2, (hx.2.2.2.2 7 (by omega) (by omega)).trans e3, (hv.2.2.2.2 8 (by omega) (by omega)).trans e4, (hx.2.2.2.2 8 (by omega) (by omega)).trans (e5.trans (hv.2.2.2.2 9 (by omega) (by omega)).symm)⟩
  · obtain ⟨b, b1, b2, b3⟩ := h.2.2
    exact ⟨b, b1.mix hx hv, b2, (hx.2.2.2.2 6 (by omega) (by omega)).trans b3⟩
theorem EI.mix {rt st k0 k fr n : Nat} {U P : List Nat} {w : Bool} (h : EI x v rt st k0 k fr n a U P w) (hrt : isT rt) (hx : FX x x') (hv : FV v v') : EI x' v' rt st k0 k fr n a U P w := by
  have r1 : rt + 8 ≠ 1 := by omega
  have r2 : rt + 8 + 1 ≠ 1 := by omega
  have e1 : cdX x' rt = cdX x rt := hx.2.1 _ r2
  have e2 : opV v' = opV v := by unfold opV; rw [hv.2.1 165 (by decide)]
  have e3 : vaV v' = vaV v := by unfold vaV; rw [hv.2.1 166 (by decide)]
  unfold EI wtX wtV at *
  rw [e1, e2, e3, hx.1, hx.2.1 _ r1, hv.2.1 164 (by decide), hx.2.2 13 (by omega), hx.2.1 4 (by decide), hv.2.2 30 (by omega), hv.2.1 178 (by decide)]
  exact h
theorem EI.le {rt st k0 k fr n b : Nat} {U P : List Nat} {w : Bool} (h : EI x v rt st k0 k fr n a U P w) (hb : a ≤ b) (h4 : b ≤ 401) : EI x v rt st k0 k fr n b U P w := by
  obtain ⟨h1, h2, h3, h5, h6, h7, h8, h9, h10⟩ := h
  exact ⟨h1, h2, h3, h5, h6, h7, by omega, by omega, h4⟩
theorem FX.e {rt s : Nat} (h : FX x x') (h9 : x'.1 1 9 = x.1 1 9) : FE s rt x x' :=
  ⟨h.1, fun r r1 _ _ _ => h.2.1 r r1, fun y hy => by rcases hy with z | z | z | z | z
                                                     · exact h.2.2 y (by omega)
                                                     · subst z; exact h9
                                                     · exact h.2.2 y (by omega)
                                                     · exact h.2.2 y (by omega)
                                                     · exact h.2.2 y (by omega), fun y _ => by rw [h.2.1 (rt + 8) (by omega)], fun i _ => by unfold cdX; rw [h.2.1 (rt + 8 + 1) (by omega)]⟩
theorem FV.e {n : Nat} (h : FV v v') : GE n v v' :=
  ⟨h.1, fun r r1 _ _ _ _ => h.2.1 r r1, fun y hy => h.2.2 y (by omega), fun y _ => by rw [h.2.1 164 (by decide)], fun i _ => by unfold opV vaV; rw [h.2.1 165 (by decide), h.2.1 166 (by decide)]; exact ⟨rfl, rfl⟩, fun i _ => by rw [h.2.1 165 (by decide), h.2.1 166 (by decide)]; exact ⟨rfl, rfl⟩⟩
/-- one more place of code -/
def adX (x : MM) (rt sz : Nat) (w : Int32) : MM := wI (wI x (rt + 8 + 1) sz w) (rt + 8) 5 (nI (sz + 1))
def emV (v : MM) (n : Nat) (o w : Int32) : MM := wI (wI (wI v 165 (500 + n) o) 166 (500 + n) w) 164 1 (nI (n + 1))
theorem addK {rt sz : Nat} (ht : isT rt) (h5 : x.1 (rt + 8) 5 = nI sz) (h4 : sz < 400) (q : Int32) : Runs e_X1_addKind [.ref (rt + 8), .int q] x (fun r m => r = .null ∧ m = adX x rt sz (-1 - q)) := by
  apply b_X1_addKind _ _ _ _ ht.at.laws
  have e : (wI x (rt + 8 + 1) sz (-1 - q)).1 (rt + 8) 5 = nI sz := by rw [wI_o (by omega)]; exact h5
  rw [h5, nI_clamp (by omega), e, nI_1]
  exact ⟨fun z => absurd z (nI_ge (b := 400) h4 (by omega)), fun _ => ⟨vp_in_nI h4 (by omega), rfl, rfl⟩⟩
theorem addN {rt sz : Nat} (ht : isT rt) (h5 : x.1 (rt + 8) 5 = nI sz) (h4 : sz < 400) (q : Int32) : Runs e_X1_addNumber [.ref (rt + 8), .int q] x (fun r m => r = .null ∧ m = adX x rt sz q) := by
  apply b_X1_addNumber _ _ _ _ ht.at.laws
  have e : (wI x (rt + 8 + 1) sz q).1 (rt + 8) 5 = nI sz := by rw [wI_o (by omega)]; exact h5
  rw [h5, nI_clamp (by omega), e, nI_1]
  exact ⟨fun z => absurd z (nI_ge (b := 400) h4 (by omega)), fun _ => ⟨vp_in_nI h4 (by omega), rfl, rfl⟩⟩
theorem emitM {n : Nat} (h : v.1 164 1 = nI n) (hn : n < 500) (u : MM) (o w : Int32) : Runs e_X12_emit [.ref 156, .int o, .int w] (catR u v) (fun r m => r = .null ∧ m = catR u (emV v n o w)) := by
  have e0 : (catR u v).1 164 1 = nI n := by rw [cr_1 (by decide)]; exact h
  have e5 : (500 : Int32) + nI n = nI (500 + n) := by rw [show (500 : Int32) = nI 500 from rfl, nI_add]
  apply b_X12_emit
  simp only [e0, e5, nI_clamp (show 500 + n < 2 ^ 31 by omega), wI_o (show (164 : Nat) ≠ 165 by decide), wI_o (show (164 : Nat) ≠ 166 by decide), nI_1]
  have vi : vp_in (nI (500 + n)) 1000 := vp_in_nI (by omega) (by omega)
  refine ⟨vi, vi, trivial, ?_⟩
  rw [cr_w (by decide), cr_w (by decide), cr_w (by decide)]
  rfl
theorem adX_5 {rt sz : Nat} {w : Int32} : (adX x rt sz w).1 (rt + 8) 5 = nI (sz + 1) := by unfold adX; rw [wI_k, pk_us]
theorem adX_c {rt sz : Nat} {w : Int32} : cdX (adX x rt sz w) rt = upd (cdX x rt) sz w := by unfold adX cdX; rw [wI_o (by omega), wI_k]
theorem adX_o {rt sz r : Nat} {w : Int32} (h1 : r ≠ rt + 8) (h2 : r ≠ rt + 8 + 1) : (adX x rt sz w).1 r = x.1 r := by unfold adX; rw [wI_o h1, wI_o h2]
theorem adX_y {rt sz y : Nat} {w : Int32} (h : y ≠ 5) : (adX x rt sz w).1 (rt + 8) y = x.1 (rt + 8) y := by unfold adX; rw [wI_k, pk_un h, wI_o (by omega)]
theorem FE.ad {rt sz s : Nat} {w : Int32} (h : s ≤ sz) : FE s rt x (adX x rt sz w) :=
  ⟨rfl, fun r _ _ r3 r4 => adX_o r3 r4, fun y _ => by rw [adX_o (by omega) (by omega)], fun y hy => adX_y hy, fun i hi => by rw [adX_c, pk_un (by omega)]⟩
theorem DX.ad {rt sz : Nat} {w : Int32} (h : isT rt) : DX x (adX x rt sz w) := by
  have : rt = 10 ∨ rt = 100 := h
  refine ⟨rfl, adX_o (by omega) (by omega), adX_o (by omega) (by omega), adX_o (by omega) (by omega), fun y _ _ => by rw [adX_o (by omega) (by omega)]⟩
theorem emV_n {n : Nat} {o w : Int32} : (emV v n o w).1 164 1 = nI (n + 1) := by unfold emV; rw [wI_k, pk_us]
theorem emV_o {n r : Nat} {o w : Int32} (h1 : r ≠ 164) (h2 : r ≠ 165) (h3 : r ≠ 166) : (emV v n o w).1 r = v.1 r := by unfold emV; rw [wI_o h1, wI_o h3, wI_o h2]
theorem emV_op {n i : Nat} {o w : Int32} (h : i ≠ n) : opV (emV v n o w) i = opV v i ∧ vaV (emV v n o w) i = vaV v i := by
  unfold emV opV vaV
  rw [wI_o (by decide), wI_o (by decide), wI_k, pk_un (by omega), wI_o (by decide), wI_k, pk_un (by omega), wI_o (by decide)]
  exact ⟨rfl, rfl⟩
theorem emV_at {n : Nat} {o w : Int32} : opV (emV v n o w) n = o ∧ vaV (emV v n o w) n = w := by
  unfold emV opV vaV
  rw [wI_o (by decide), wI_o (by decide), wI_k, pk_us, wI_o (by decide), wI_k, pk_us]
  exact ⟨rfl, rfl⟩
theorem GE.em {n s : Nat} {o w : Int32} (h : s ≤ n) : GE s v (emV v n o w) :=
  ⟨rfl, fun r _ r2 r3 r4 _ => emV_o r2 r3 r4, fun y _ => by rw [emV_o (by decide) (by decide) (by decide)], fun y hy => by unfold emV; rw [wI_k, pk_un hy, wI_o (by decide), wI_o (by decide)], fun i hi => emV_op (by omega), fun i hi => by
    unfold emV
    rw [wI_o (by decide), wI_o (by decide), wI_k, pk_un (by omega), wI_o (by decide), wI_k, pk_un (by omega), wI_o (by decide)]
    exact ⟨rfl, rfl⟩⟩
theorem DV.em {n : Nat} {o w : Int32} : DV v (emV v n o w) := ⟨rfl, emV_o (by decide) (by decide) (by decide), emV_o (by decide) (by decide) (by decide), emV_o (by decide) (by decide) (by decide), fun y _ _ => by rw [emV_o (by decide) (by decide) (by decide)]⟩
end

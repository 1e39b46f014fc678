/-! reading: what waits is let go, on both sides -/
section
variable {x v : MM} {M a : Nat} {K ts : Nat → Nat}
def kwX (x : MM) (n q : Nat) : MM := wI (wI x 4 n (nI q)) 1 13 (nI (n + 1))
def awV (v : MM) (n u : Nat) : MM := wI (wI v 178 n (nI u)) 156 30 (nI (n + 1))
theorem keepX {W : List Nat} (h : wtX x W) (hl : W.length < 400) (q : Nat) : Runs e_X4_keepWaiting [.ref 1, .int (nI q)] x (fun r m => r = .null ∧ m = kwX x W.length q) := by
  apply b_X4_keepWaiting
  have e : (wI x 4 W.length (nI q)).1 1 13 = nI W.length := by rw [wI_o (by decide)]; exact h.1
  rw [h.1, nI_clamp (by omega), e, nI_1]
  exact ⟨fun z => absurd z (nI_pos (by omega)), fun _ => ⟨fun z => absurd z (nI_ge (b := 400) hl (by omega)), fun _ => ⟨vp_in_nI hl (by omega), rfl, rfl⟩⟩⟩
theorem kwX_w {W : List Nat} (h : wtX x W) (q : Nat) : wtX (kwX x W.length q) (q :: W) := by
  unfold kwX wtX
  refine ⟨by rw [wI_k, pk_us]; rfl, ?_⟩
  rw [wI_o (by decide), wI_k]
  have := stk_push (v := nI q) h.2
  rw [List.length_map] at this
  exact this
theorem awaitM {U : List Nat} (h : wtV v U) (hl : U.length < 500) (w : Nat) (u : MM) : Runs e_X12_await [.ref 156, .int (nI w)] (catR u v) (fun r m => r = .null ∧ m = catR u (awV v U.length w)) := by
  have e0 : (catR u v).1 156 30 = nI U.length := by rw [cr_1 (by decide)]; exact h.1
  apply b_X12_await
  have e : (wI (catR u v) 178 U.length (nI w)).1 156 30 = nI U.length := by rw [wI_o (by decide)]; exact e0
  rw [e0, nI_clamp (by omega), e, nI_1, cr_w (by decide), cr_w (by decide)]
  exact ⟨vp_in_nI hl (by omega), rfl, rfl⟩
theorem awV_w {U : List Nat} (h : wtV v U) (w : Nat) : wtV (awV v U.length w) (w :: U) := by
  unfold awV wtV
  refine ⟨by rw [wI_k, pk_us]; rfl, ?_⟩
  rw [wI_o (by decide), wI_k]
  have := stk_push (v := nI w) h.2
  rw [List.length_map] at this
  exact this
/-- one waiting sign let go -/
def ppX (x : MM) (rt sz n q : Nat) : MM := wI (adX x rt sz (-1 - nI q)) 1 13 (nI n)
def ppV (v : MM) (sz n u : Nat) : MM := emV (wI v 156 30 (nI n)) sz (nI u) 0
theorem bd_le (q : Nat) : bd q ≤ 6 := by unfold bd; repeat' split
                                         all_goals omega
theorem relX_1 {W : List Nat} {q rt sz l : Nat} (h1 : x.2.2 1 4 = rt) (ht : isT rt) (h5 : x.1 (rt + 8) 5 = nI sz) (h4 : sz < 400) (hw : wtX x (q :: W)) (hl : W.length < 400) (hq : q < 40) (hb : l ≤ bd q) (hl6 : l ≤ 6) {Q : Value → MM → Prop}
    (hQ : G e_X4_release 7 [(0, .ref 1), (1, .int (nI l)), (2, .int (nI W.length - 1))] [] (ppX x rt sz W.length q) Q) : G e_X4_release 7 [(0, .ref 1), (1, .int (nI l)), (2, .int (nI (W.length + 1) - 1))] [] x Q := by
  have e1 : nI (W.length + 1) - 1 = nI W.length := by
    rw [show nI (W.length + 1) = nI W.length + 1 from by rw [nI_1]]
    exact Int32.add_sub_cancel _ _
  have e2 : nI W.length + (-1) = nI W.length - 1 := (Int32.sub_eq_add_neg (nI W.length) 1).symm
  have e4 : x.1 4 W.length = nI q := by
    have := hw.2.1
    rw [List.length_map] at this
    exact this
  have hb6 := bd_le q
  rw [e1]
  apply b_X4_release_7
  rw [nI_clamp (by omega), e4, bond_ok x hq, h1]
  refine ⟨fun z => absurd z (nI_pos (by omega)), fun _ => ⟨fun z => absurd z (nI_ge (b := 400) hl (by omega)), fun _ => ⟨vp_in_nI hl (by omega), fun z => absurd z (nI_nlt hb (by omega)), fun _ => ⟨ht.at, vp_in_nI hl (by omega), vcall (addK ht h5 h4 (nI q)) ?_⟩⟩⟩⟩
  rintro m rfl
  rw [e2]
  exact hQ
theorem relX_0 {W : List Nat} {l : Nat} (hw : wtX x W) (hl : W.length ≤ 400) (hb : ∀ q W', W = q :: W' → q < 40 ∧ bd q < l) (hl6 : l ≤ 6) {Q : Value → MM → Prop}
    (hQ : Q .null x) : G e_X4_release 7 [(0, .ref 1), (1, .int (nI l)), (2, .int (nI W.length - 1))] [] x Q := by
  cases W with
  | nil =>
    apply b_X4_release_7
    exact ⟨fun _ => hQ, fun z => absurd (by decide) z⟩
  | cons q W =>
    obtain ⟨hq, hb⟩ := hb q W rfl
    have hl' : W.length + 1 ≤ 400 := hl
    have e1 : nI (q :: W).length - 1 = nI W.length := by
      show nI (W.length + 1) - 1 = _
      rw [show nI (W.length + 1) = nI W.length + 1 from by rw [nI_1]]
      exact Int32.add_sub_cancel _ _
    have e4 : x.1 4 W.length = nI q := by
      have := hw.2.1
      rw [List.length_map] at this
      exact this
    rw [e1]
    apply b_X4_release_7
    rw [nI_clamp (by omega), e4, bond_ok x hq]
    exact ⟨fun z => absurd z (nI_pos (by omega)), fun _ => ⟨fun z => absurd z (nI_ge (b := 400) (by omega) (by omega)), fun _ => ⟨vp_in_nI (by omega) (by omega), fun _ => hQ, fun z => absurd (nI_lt hb (by omega)) z⟩⟩⟩
theorem ppX_w {W : List Nat} {q rt sz : Nat} (ht : isT rt) (hw : wtX x (q :: W)) : wtX (ppX x rt sz W.length q) W := by
  have hc : rt = 10 ∨ rt = 100 := ht
  unfold ppX wtX
  refine ⟨by rw [wI_k, pk_us], ?_⟩
  rw [wI_o (by decide), adX_o (by omega) (by omega)]
  exact hw.2.2
theorem FE.w {s rt : Nat} {x' : MM} (h : FE s rt x x') (ht : isT rt) {j : Nat} (hj : 13 ≤ j ∧ j ≤ 17) (w : Int32) : FE s rt x (wI x' 1 j w) := by
  have hc : rt = 10 ∨ rt = 100 := ht
  refine ⟨h.1, fun r r1 r2 r3 r4 => by rw [wI_o r1]; exact h.2.1 r r1 r2 r3 r4, fun y hy => by rw [wI_k, pk_un (by omega)]; exact h.2.2.1 y hy, fun y hy => by rw [wI_o (by omega)]; exact h.2.2.2.1 y hy, fun i hi => ?_⟩
  unfold cdX
  rw [wI_o (by omega)]
  exact h.2.2.2.2 i hi
theorem DX.w {x' : MM} (h : DX x x') {j : Nat} (hj : 11 ≤ j) (w : Int32) : DX x (wI x' 1 j w) := ⟨h.1, by rw [wI_o (by decide)]; exact h.2.1, by rw [wI_o (by decide)]; exact h.2.2.1, by rw [wI_o (by decide)]; exact h.2.2.2.1, fun y y1 y2 => by rw [wI_k, pk_un (by omega)]; exact h.2.2.2.2 y y1 y2⟩
theorem FE.w4 {s rt : Nat} {x' : MM} (h : FE s rt x x') (ht : isT rt) (j : Nat) (w : Int32) : FE s rt x (wI x' 4 j w) := by
  have hc : rt = 10 ∨ rt = 100 := ht
  refine ⟨h.1, fun r r1 r2 r3 r4 => by rw [wI_o r2]; exact h.2.1 r r1 r2 r3 r4, fun y hy => by rw [wI_o (by decide)]; exact h.2.2.1 y hy, fun y hy => by rw [wI_o (by omega)]; exact h.2.2.2.1 y hy, fun i hi => ?_⟩
  unfold cdX
  rw [wI_o (by omega)]
  exact h.2.2.2.2 i hi
theorem DX.w4 {x' : MM} (h : DX x x') (j : Nat) (w : Int32) : DX x (wI x' 4 j w) := ⟨h.1, by rw [wI_o (by decide)]; exact h.2.1, by rw [wI_o (by decide)]; exact h.2.2.1, by rw [wI_o (by decide)]; exact h.2.2.2.1, fun y y1 y2 => by rw [wI_o (by decide)]; exact h.2.2.2.2 y y1 y2⟩
theorem GE.w {n : Nat} {v' : MM} (h : GE n v v') {j : Nat} (hj : 7 ≤ j ∧ j ≤ 11 ∨ j = 29 ∨ j = 30 ∨ j = 32) (w : Int32) : GE n v (wI v' 156 j w) :=
  ⟨h.1, fun r r1 r2 r3 r4 r5 => by rw [wI_o r1]; exact h.2.1 r r1 r2 r3 r4 r5, fun y hy => by rw [wI_k, pk_un (by omega)]; exact h.2.2.1 y hy, fun y hy => by rw [wI_o (by decide)]; exact h.2.2.2.1 y hy, fun i hi => by unfold opV vaV; rw [wI_o (by decide), wI_o (by decide)]; exact h.2.2.2.2.1 i hi, fun i hi => by rw [wI_o (by decide), wI_o (by decide)]; exact h.2.2.2.2.2 i hi⟩
theorem DV.w {v' : MM} (h : DV v v') {j : Nat} (hj : 12 ≤ j) (w : Int32) : DV v (wI v' 156 j w) := ⟨h.1, by rw [wI_o (by decide)]; exact h.2.1, by rw [wI_o (by decide)]; exact h.2.2.1, by rw [wI_o (by decide)]; exact h.2.2.2.1, fun y y1 y2 => by rw [wI_k, pk_un (by omega)]; exact h.2.2.2.2 y y1 y2⟩
theorem GE.w8 {n : Nat} {v' : MM} (h : GE n v v') (j : Nat) (w : Int32) : GE n v (wI v' 178 j w) :=
  ⟨h.1, fun r r1 r2 r3 r4 r5 => by rw [wI_o r5]; exact h.2.1 r r1 r2 r3 r4 r5, fun y hy => by rw [wI_o (by decide)]; exact h.2.2.1 y hy, fun y hy => by rw [wI_o (by decide)]; exact h.2.2.2.1 y hy, fun i hi => by unfold opV vaV; rw [wI_o (by decide), wI_o (by decide)]; exact h.2.2.2.2.1 i hi, fun i hi => by rw [wI_o (by decide), wI_o (by decide)]; exact h.2.2.2.2.2 i hi⟩
theorem DV.w8 {v' : MM} (h : DV v v') (j : Nat) (w : Int32) : DV v (wI v' 178 j w) := ⟨h.1, by rw [wI_o (by decide)]; exact h.2.1, by rw [wI_o (by decide)]; exact h.2.2.1, by rw [wI_o (by decide)]; exact h.2.2.2.1, fun y y1 y2 => by rw [wI_o (by decide)]; exact h.2.2.2.2 y y1 y2⟩
theorem SegI.up {op op' va va' : Nat → Int32} {fr n o : Nat} (h : SegI op va fr n) (e : ∀ i, i ≠ fr + n → op' i = op i ∧ va' i = va i) (ho : o ≤ 5) (eo : op' (fr + n) = nI o) (h1 : o = 1 → ∃ j : Nat, j < 9 ∧ va' (fr + n) = nI j) (h2 : 2 ≤ o → 2 ≤ dp op fr n) : SegI op' va' fr (n + 1) := by
  have hc : ∀ i, i < n → op' (fr + i) = op (fr + i) ∧ va' (fr + i) = va (fr + i) := fun i hi => e _ (by omega)
  intro i hi
  rcases Nat.lt_or_eq_of_le (Nat.le_of_lt_succ hi) with z | z
  · exact h.cong hc i z
  · subst z
    exact ⟨o, ho, eo, h1, fun z => by rw [dp_cong fun j hj => (hc j hj).1]; exact h2 z⟩
theorem cw_op {u : Nat} (h : u ≠ 0) : cw u = u + 28 := if_neg h
/-- the invariant after one sign is let go -/
theorem EI.pop {rt st k0 k fr n u : Nat} {U P : List Nat} (h : EI x v rt st k0 k fr n a (u :: U) P false) (hu : u ≠ 0) :
    EI (ppX x rt (st + k) (U.map cw ++ P).length (cw u)) (ppV v (fr + n) U.length u) rt st k0 (k + 1) fr (n + 1) a U P false ∧ u ≤ 5 ∧ 2 ≤ u := by
  obtain ⟨⟨h1, ht⟩, ⟨h5, h6⟩, ⟨hw, hv⟩, ⟨hA, hS, hC⟩, ⟨hd, hg, ho⟩, b1, b2, b3, b4⟩ := h
  have hc : rt = 10 ∨ rt = 100 := ht
  have hu2 : 2 ≤ u ∧ u ≤ 5 := by rcases hg.1 with z | z <;> omega
  have hpc : pc (u :: U) = pc U + 1 := if_neg hu
  have hop : opn (u :: U) = opn U := if_neg hu
  have hd2 : 2 ≤ dp (opV v) fr n := by rw [hd, hpc]; show 2 ≤ pc U + 1 + 1; omega
  have hl : (u :: U).length = U.length + 1 := rfl
  rw [hl] at b2 b3
  have ecw := cw_op hu
  have eX : cdX (ppX x rt (st + k) (U.map cw ++ P).length (cw u)) rt = upd (cdX x rt) (st + k) (-1 - nI (u + 28)) := by
    unfold ppX
    rw [show cdX (wI (adX x rt (st + k) (-1 - nI (cw u))) 1 13 (nI (U.map cw ++ P).length)) rt = cdX (adX x rt (st + k) (-1 - nI (cw u))) rt from by unfold cdX; rw [wI_o (by omega)], adX_c, ecw]
  have eV : ∀ i, i ≠ fr + n → opV (ppV v (fr + n) U.length u) i = opV v i ∧ vaV (ppV v (fr + n) U.length u) i = vaV v i := fun i hi => by
    unfold ppV
    rw [(emV_op hi).1, (emV_op hi).2]
    unfold opV vaV
    rw [wI_o (by decide), wI_o (by decide)]
    exact ⟨rfl, rfl⟩
  have eA : opV (ppV v (fr + n) U.length u) (fr + n) = nI u ∧ vaV (ppV v (fr + n) U.length u) (fr + n) = 0 := emV_at
  have hnl : ¬ opV (ppV v (fr + n) U.length u) (fr + n) < 2 := by rw [eA.1]; exact nI_nlt (a := u) (b := 2) (by omega) (by omega)
  have edp : dp (opV (ppV v (fr + n) U.length u)) fr n = dp (opV v) fr n := dp_cong fun i hi => (eV _ (by omega)).1
  refine ⟨⟨⟨h1, ht⟩, ⟨?_, ?_⟩, ⟨ppX_w ht hw, ?_⟩, ⟨?_, hS.up eV hu2.2 eA.1 (fun z => by omega) (fun _ => hd2), ?_⟩, ⟨?_, hg.2, by rw [← hop]; exact ho⟩, by omega, by omega, by omega, b4⟩, hu2.2, hu2.1⟩
  · unfold ppX
    rw [wI_o (by omega), adX_5]; rfl
  · unfold ppV
    rw [emV_n]; rfl
  · unfold ppV wtV
    rw [emV_o (by decide) (by decide) (by decide), emV_o (by decide) (by decide) (by decide), wI_o (a := 178) (by decide), wI_k, pk_us]
    exact ⟨rfl, hv.2.2⟩
  · rw [eX]
    refine AV.op (q := u + 28) (AV.cong hA b1 (fun i hi => pk_un (by omega)) fun i hi => eV _ (by omega)) ?_ (by omega) pk_us ?_
    · rw [edp]; exact hd2
    · rw [eA.1]; rfl
  · rw [eX]
    exact (hC.cong fun i hi => pk_un (by omega)).sign (q := u + 28) (by omega) (by omega) pk_us
  · rw [dp_dn hnl, edp, hd, hpc]; omega
theorem reduceM_1 {U : List Nat} {u least n : Nat} (hv : wtV v (u :: U)) (hl : U.length < 500) (hu : u < 6) (hr : least ≤ rk u) (h6 : v.1 164 1 = nI n) (hn : n < 500) (y : MM) {Q : Value → MM → Prop}
    (hQ : G e_X12_reduce 0 [(0, .ref 156), (1, .int (nI least)), (2, .int 0)] [] (catR y (ppV v n U.length u)) Q) : G e_X12_reduce 0 [(0, .ref 156), (1, .int (nI least)), (2, .int 0)] [] (catR y v) Q := by
  have e0 : (catR y v).1 156 30 = nI (U.length + 1) := by rw [cr_1 (by decide)]; exact hv.1
  have e1 : nI (U.length + 1) - 1 = nI U.length := by
    rw [show nI (U.length + 1) = nI U.length + 1 from by rw [nI_1]]
    exact Int32.add_sub_cancel _ _
  have e8 : (catR y v).1 178 U.length = nI u := by
    rw [cr_1 (by decide)]
    have := hv.2.1
    rw [List.length_map] at this
    exact this
  have e9 : (wI (catR y v) 156 30 (nI U.length)).1 156 30 = nI U.length := by rw [wI_k, pk_us]
  have e10 : (wI (catR y v) 156 30 (nI U.length)).1 178 U.length = nI u := by rw [wI_o (by decide)]; exact e8
  have hrl := rk_le u
  apply b_X12_reduce_0
  rw [e0, e1, nI_clamp (by omega), e8, rank_ok _ hu, e9, nI_clamp (by omega), e10]
  have vi : vp_in (nI U.length) 500 := vp_in_nI hl (by omega)
  refine ⟨fun z => absurd z (nI_ge (b := U.length + 1) (a := 0) (by omega) (by omega)), fun _ => ⟨vi, fun z => absurd z (nI_nlt hr (by omega)), fun _ => ⟨vi, ?_⟩⟩⟩
  rw [cr_w (by decide)]
  refine vcall (emitM (v := wI v 156 30 (nI U.length)) (n := n) (by rw [wI_o (by decide)]; exact h6) hn y _ _) ?_
  rintro m rfl
  exact hQ
theorem reduceM_0 {U : List Nat} {least : Nat} (hv : wtV v U) (hl : U.length < 500) (h : ∀ u U', U = u :: U' → u < 6 ∧ rk u < least) (hl2 : least ≤ 2) (y : MM) {Q : Value → MM → Prop}
    (hQ : Q .null (catR y v)) : G e_X12_reduce 0 [(0, .ref 156), (1, .int (nI least)), (2, .int 0)] [] (catR y v) Q := by
  have e0 : (catR y v).1 156 30 = nI U.length := by rw [cr_1 (by decide)]; exact hv.1
  apply b_X12_reduce_0
  cases U with
  | nil =>
    rw [e0]
    exact ⟨fun _ => hQ, fun z => absurd (Int32.le_refl _) z⟩
  | cons u U =>
    obtain ⟨hu, hr⟩ := h u U rfl
    have hl' : U.length + 1 < 500 := hl
    have e1 : nI (U.length + 1) - 1 = nI U.length := by
      rw [show nI (U.length + 1) = nI U.length + 1 from by rw [nI_1]]
      exact Int32.add_sub_cancel _ _
    have e8 : (catR y v).1 178 U.length = nI u := by
      rw [cr_1 (by decide)]
      have := hv.2.1
      rw [List.length_map] at this
      exact this
    have e0' : (catR y v).1 156 30 = nI (U.length + 1) := e0
    rw [e0', e1, nI_clamp (by omega), e8, rank_ok _ hu]
    exact ⟨fun z => absurd z (nI_ge (b := U.length + 1) (a := 0) (by omega) (by omega)), fun _ => ⟨vp_in_nI (by omega) (by omega), fun _ => hQ, fun z => absurd (nI_lt hr (by omega)) z⟩⟩
end

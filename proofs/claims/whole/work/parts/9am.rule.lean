/-! reading: a rule's condition up to its semicolon, both sides -/
section
variable {x v : MM} {M a : Nat} {K ts : Nat → Nat}
theorem rightB {x' : MM} (h : RC x v M K ts a) (hC : CE x 2 0 false) (hr : ¬ (30 ≤ K a ∧ K a ≤ 33)) (hk : K a = 24 ∨ K a = 23) (hj : Runs e_X4_readJoint [.ref 1, .int (nI (K a)), .int (nI 1)] x (fun r m => r = .null ∧ m = x')) : Runs e_X4_readBetween [.ref 1] x (fun r m => r = .null ∧ m = x') := by
  have hk41 := (h.1.2.2.2.1 a h.2.1).1
  have c24 : (nI (K a) = (24 : Int32)) = (K a = 24) := propext (nI_eq (b := 24) (by omega) (by omega))
  have c23 : (nI (K a) = (23 : Int32)) = (K a = 23) := propext (nI_eq (b := 23) (by omega) (by omega))
  have last : ∃ Pm1 : Value → MM → Prop, Runs e_X4_readJoint [.ref 1, .int (nI (K a)), .int 1] x Pm1 ∧ ∀ m1, Pm1 .null m1 → (Value.null = .null ∧ m1 = x') := vcall hj (by rintro m rfl; exact ⟨rfl, rfl⟩)
  apply b_X4_readBetween
  rw [reck h, hC.2.1, hC.1, (kindX h).2, c24, c23]
  refine ⟨(kindX h).1, fun z => absurd z hr, fun _ => ⟨fun _ => ⟨fun _ => ⟨fun z => absurd rfl z, fun _ => ⟨fun _ => last, fun z => ⟨fun z2 => by omega, fun _ => last⟩⟩⟩, fun z => absurd z (by decide)⟩, fun z => absurd (by decide) z⟩⟩
theorem notU {ok1 : Bool} {x1 : MM} {W : List Nat} (h : RC x v M K ts a) (hk : K a = 25) (h17 : x.1 1 17 = 1) (t1 : Runs e_X4_take [.ref 1, .int (nI 25)] x (fun r m => r = .int (bI ok1) ∧ m = x1)) (hw : wtX x1 W) (hl : W.length < 400) : Runs e_X4_readUnit [.ref 1] x (fun r m => r = .null ∧ m = kwX x1 W.length 25) := by
  obtain ⟨o2, w, w1, w2, w3⟩ := intX h
  have c25 : (v_X4_kind x = 25) = (K a = 25) := by rw [(kindX h).2, hk]; exact propext ⟨fun _ => rfl, fun _ => rfl⟩
  have kw := keepX hw hl 25
  have last : ∃ Pm2 : Value → MM → Prop, Runs e_X4_keepWaiting [.ref 1, .int 25] x1 Pm2 ∧ ∀ m2, Pm2 .null m2 → (Value.null = .null ∧ m2 = kwX x1 W.length 25) := vcall kw (by rintro m rfl; exact ⟨rfl, rfl⟩)
  apply b_X4_readUnit
  rw [c25, h17]
  refine ⟨(kindX h).1, o2, fun z => absurd hk z, fun _ => ⟨fun z => absurd z (by decide), fun _ => bcall t1 (fun _ m e => ?_) (fun _ m e => ?_)⟩⟩
  · subst e; exact last
  · subst e; exact last
/-- a rule that both have read -/
def RU (x v : MM) (rt st k fr f N a : Nat) : Prop := (x.1 (rt + 8) 5 = nI (st + k + 1) ∧ v.1 164 1 = nI fr ∧ v.1 167 1 = nI (f + N)) ∧ (st + k + 2 ≤ a ∧ fr ≤ a ∧ a ≤ 401 ∧ 2 * (f + N) ≤ a ∧ 1 ≤ N) ∧ Coded (cdX x rt) st k ∧ cdX x rt (st + k) = -1 - nI 28 ∧ (∀ i, i < N → LitB v fr (f + i)) ∧
  ∀ vs, cr (cdX x rt) (cvOf vs) st k = some ([bI (heldV (lv v) vs f N)], false)
theorem WI.jn {rt st k q s : Nat} {W : List Nat} (h : WI x rt st k W) (hb : st + k + (W.length + 1) + 2 ≤ 401) : WI (jnX x W.length q s) rt st k (q :: W) := by
  obtain ⟨⟨h1, ht⟩, h5, hw, hC, hb4⟩ := h
  obtain ⟨j1, j2⟩ := jnX_c (x := x) (n := W.length) (q := q) (s := s) ht
  exact ⟨⟨h1, ht⟩, j2.trans h5, jnX_w hw, by rw [j1]; exact hC, hb⟩
theorem VE.lt {n L n' L' : Nat} {v' : MM} (h : VE n L v v') (hn : n' ≤ n) (hL : L' ≤ L) : VE n' L' v v' := (VE.rf n' L' v).tr h hn hL
theorem hs_next {v10 v9 : MM} {f n g fr fr2 : Nat} {vs : Nat → Int32} {z : Bool} (hL : ∀ i, i < n → LitB v fr (f + i)) (h10 : VE fr (f + n) v v10) (h500 : fr ≤ 500) (h9 : lv v9 173 (f + n) = nI g) (hz : litV (lv v9) vs (f + n) = z) (hB : LitB v9 fr2 (f + n)) (h2 : fr2 ≤ 500) (hv : VE fr2 (f + n + 1) v9 v10) :
    hq (lv v10 173) (litV (lv v10) vs) f n = ((hs (lv v 173) (litV (lv v) vs) f n (nI g)).1, (hs (lv v 173) (litV (lv v) vs) f n (nI g)).2 && z) ∧ lv v10 173 (f + n) = nI g := by
  have e1 : lv v10 173 (f + n) = nI g := by
    rw [← h9, lv_o (by decide), lv_o (by decide)]
    exact hv.2.2.2.2.2.2 173 (by decide) (by decide) _ (by omega)
  have e2 : litV (lv v10) vs (f + n) = z := by rw [litV_ve hB hv (Nat.le_refl _) h2 (by omega)]; exact hz
  refine ⟨?_, e1⟩
  unfold hq
  rw [e1, e2, hs_ve hL h10 (Nat.le_refl _) h500 (Nat.le_refl _)]
theorem condL {rt st f : Nat} : ∀ (d a : Nat) (x v : MM) (i k fr n g : Nat) (o an : Bool) (j : Nat), 402 ≤ a + d → RC x v M K ts a → LI x v rt st k fr f n g a o an j → CE x 1 0 true → x.1 1 17 = 1 → i ≤ a →
    (∃ x' v' : MM, (∀ Q : Value → MM → Prop, Q .null x' → G e_X4_readFormula 36 [(0, .ref 1), (2, .int (nI i))] [] x Q) ∧ (∀ (y : MM) (Q : Value → MM → Prop), Q (.int 0) (catR y v') → G e_X12_cond 32 [(0, .ref 156), (1, .int (nI g)), (3, .int (nI (200 + (f + n)))), (4, .int (bI (decide (j % 2 = 1))))] [] (catR y v) Q) ∧ JM false x' v' M K ts 0 ∧ FE (st + k) rt x x' ∧ VE fr (f + n) v v') ∨
    (∃ (x' v' : MM) (a' k' fr' N : Nat) (ok : Bool), (∀ Q : Value → MM → Prop, Q .null x' → G e_X4_readFormula 36 [(0, .ref 1), (2, .int (nI i))] [] x Q) ∧ (∀ (y : MM) (Q : Value → MM → Prop), Q (.int 1) (catR y v') → G e_X12_cond 32 [(0, .ref 156), (1, .int (nI g)), (3, .int (nI (200 + (f + n)))), (4, .int (bI (decide (j % 2 = 1))))] [] (catR y v) Q) ∧
      SE x' v' M K ts a' ok ∧ (a ≤ a' ∧ fr ≤ fr') ∧ FE (st + k) rt x x' ∧ VE fr (f + n) v v' ∧ RU x' v' rt st k' fr' f N a') := by
  intro d
  induction d with
  | zero =>
    intro a x v i k fr n g o an j hd h
    have m4 := h.1.2.2.1.2.1
    have ha := h.2.1
    omega
  | succ d ih =>
    intro a x v i k fr n g o an j hd h hI hC h17 hi
    have m4 := h.1.2.2.1.2.1
    have ha := h.2.1
    have h7 := h.2.2.2.2.1
    by_cases k25 : K a = 25
    · -- NOT
      obtain ⟨⟨⟨hrt, h5, hw, hCd, hb0⟩, hb, h4⟩, hS, ⟨ho, han⟩, ⟨h164, hfr, h167, hlit⟩, hL, hg⟩ := hI
      have ht := hrt.2
      have hc : rt = 10 ∨ rt = 100 := ht
      obtain ⟨ok1, x1, v1, t1, t2, -, t4, t5, t6, t7, t8⟩ := takeJ (JM.t h) 25 (by decide)
      obtain ⟨e1, e2⟩ := t2 rfl
      have hw1 : wtX x1 (List.replicate j 25 ++ Bs o an) := by
        unfold wtX at *
        rw [t4.2.2 13 (by omega), t4.2.1 4 (by decide)]
        exact hw
      have hu := notU h k25 h17 t1 hw1 (by omega)
      have hdx : DX x1 (kwX x1 (List.replicate j 25 ++ Bs o an).length 25) := ((DX.rf x1).w4 _ _).w (by omega) _
      have hfe : FE (st + k) rt x (kwX x1 (List.replicate j 25 ++ Bs o an).length 25) := ((t4.e t6).w4 ht _ _).w ht (by omega) _
      have hJ : JM ok1 (kwX x1 (List.replicate j 25 ++ Bs o an).length 25) v1 M K ts (a + 1) := t7.mix hdx (DV.rf _)
      have mp : ∀ y, Runs e_X12_pass [.ref 156] (catR y v) (fun r m => r = .int (bI ok1) ∧ m = catR y v1) := fun y => by rw [e1, e2]; exact mPass h y k25
      have hve : VE fr (f + n) v v1 := (t5.e (n := fr)).ve
      have eneg : decide ((j + 1) % 2 = 1) = !(decide (j % 2 = 1)) := by
        have hm : j % 2 = 0 ∨ j % 2 = 1 := by omega
        rcases hm with hm | hm
        · rw [hm, show (j + 1) % 2 = 1 by omega]; rfl
        · rw [hm, show (j + 1) % 2 = 0 by omega]; rfl
      cases ok1 with
      | false =>
        refine Or.inl ⟨_, v1, fun Q hQ => frm_u (by omega) h7 hC (by decide) hu (frm_f hJ.f0 hQ), fun y Q hQ => ?_, hJ.any, hfe, hve⟩
        refine mC_not h k25 y (bcall (mp y) (fun z => nomatch z) ?_)
        rintro - m rfl
        exact hQ
      | true =>
        have a4 : a < 400 := (t8 rfl).2.2.1
        have eX : cdX (kwX x1 (List.replicate j 25 ++ Bs o an).length 25) rt = cdX x rt := by
          unfold cdX kwX
          rw [wI_o (by omega), wI_o (by omega), t4.2.1 _ (by omega)]
        have k1 : ∀ y, y ≠ 13 → (kwX x1 (List.replicate j 25 ++ Bs o an).length 25).1 1 y = x1.1 1 y := fun y hy => by
          unfold kwX; rw [wI_k, pk_un hy, wI_o (by decide)]
        have ehs : ∀ vs, hs (lv v1 173) (litV (lv v1) vs) f n (nI g) = hs (lv v 173) (litV (lv v) vs) f n (nI g) := fun vs => hs_ve hL hve (Nat.le_refl _) (by omega) (Nat.le_refl _)
        have hI' : LI (kwX x1 (List.replicate j 25 ++ Bs o an).length 25) v1 rt st k fr f n g (a + 1) o an (j + 1) := by
          refine ⟨⟨⟨⟨?_, ht⟩, ?_, ?_, by rw [eX]; exact hCd, ?_⟩, ?_, by omega⟩, fun vs => ?_, ⟨fun z vs => by rw [ehs]; exact ho z vs, fun z vs => by rw [ehs]; exact han z vs⟩, ⟨?_, by omega, ?_, by omega⟩, fun i hi => (hL i hi).ve hve (Nat.le_refl _) (by omega), hg⟩
          · show x1.2.2 1 4 = rt
            rw [t4.1]; exact hrt.1
          · unfold kwX
            rw [wI_o (by omega), wI_o (by omega), t4.2.1 _ (by omega)]; exact h5
          · exact kwX_w hw1 25
          · show st + k + ((List.replicate j 25 ++ Bs o an).length + 1) + 2 ≤ 401
            omega
          · show st + k + ((List.replicate j 25 ++ Bs o an).length + 1) + 2 ≤ a + 1
            omega
          · rw [eX]
            have := hS vs
            simp only [ehs]
            exact this
          · rw [t5.2.1 164 (by decide)]; exact h164
          · rw [t5.2.1 167 (by decide)]; exact h167
        have hC' : CE (kwX x1 (List.replicate j 25 ++ Bs o an).length 25) 1 0 true := by
          have c := hC.f t4
          exact ⟨(k1 14 (by decide)).trans c.1, (k1 15 (by decide)).trans c.2.1, (k1 16 (by decide)).trans c.2.2⟩
        have h17' : (kwX x1 (List.replicate j 25 ++ Bs o an).length 25).1 1 17 = 1 := by rw [k1 17 (by decide), t4.2.2 17 (by omega)]; exact h17
        have mgo : ∀ (y : MM) (Q : Value → MM → Prop), G e_X12_cond 32 [(0, .ref 156), (1, .int (nI g)), (3, .int (nI (200 + (f + n)))), (4, .int (bI (decide ((j + 1) % 2 = 1))))] [] (catR y v1) Q → G e_X12_cond 32 [(0, .ref 156), (1, .int (nI g)), (3, .int (nI (200 + (f + n)))), (4, .int (bI (decide (j % 2 = 1))))] [] (catR y v) Q := fun y Q hQ => by
          refine mC_not h k25 y (bcall (mp y) ?_ (fun z => nomatch z))
          rintro - m rfl
          rw [← eneg]
          exact hQ
        rcases ih (a + 1) _ v1 (i + 1) k fr n g o an (j + 1) (by omega) (hJ.1 rfl) hI' hC' h17' (by omega) with ⟨x2, v2, q1, q2, q3, q4, q5⟩ | ⟨x2, v2, a2, k2, fr2, N, ok, q1, q2, q3, q4, q5, q6, q7⟩
        · exact Or.inl ⟨x2, v2, fun Q hQ => frm_u (by omega) h7 hC (by decide) hu (q1 Q hQ), fun y Q hQ => mgo y Q (q2 y Q hQ), q3, hfe.tr q4 (Nat.le_refl _), hve.tr q5 (Nat.le_refl _) (Nat.le_refl _)⟩
        · exact Or.inr ⟨x2, v2, a2, k2, fr2, N, ok, fun Q hQ => frm_u (by omega) h7 hC (by decide) hu (q1 Q hQ), fun y Q hQ => mgo y Q (q2 y Q hQ), q3, by omega, hfe.tr q5 (Nat.le_refl _), hve.tr q6 (Nat.le_refl _) (Nat.le_refl _), q7⟩
    · -- a literal
      rcases litL (neg := decide (j % 2 = 1)) h hI hC k25 hi with ⟨x1, v1, q1, q2, q3, q4, q5⟩ | ⟨x6, v6, a6, i6, q, k3, k6, n3, n6, U, q1, q2, q3, q4, q5, q6, q7, q8⟩
      · exact Or.inl ⟨x1, v1, q1, q2, q3, q4, q5⟩
      · obtain ⟨⟨⟨hrt, h5, hw, hCd, hb0⟩, hb, h4⟩, hS, ⟨ho, han⟩, ⟨h164, hfr, h167, hlit⟩, hL, hg⟩ := hI
        have ht := hrt.2
        have hc : rt = 10 ∨ rt = 100 := ht
        have ha6 := q3.2.1
        have hr6 := q4.2.2.2.1
        have hC6 := q4.2.2.1
        have f7 := q3.2.2.2.2.1
        -- what follows a sign that joins two literals
        have joint : ∀ (p l : Nat) (o' an' : Bool) (g' : Nat), K a6 = p → (p = 24 ∧ l = 2 ∧ o' = o ∧ an' = true ∧ g' = g ∨ p = 23 ∧ l = 1 ∧ o' = true ∧ an' = false ∧ g' = g + 1) →
            (∃ x' v' : MM, (∀ Q : Value → MM → Prop, Q .null x' → G e_X4_readFormula 36 [(0, .ref 1), (2, .int (nI i))] [] x Q) ∧ (∀ (y : MM) (Q : Value → MM → Prop), Q (.int 0) (catR y v') → G e_X12_cond 32 [(0, .ref 156), (1, .int (nI g)), (3, .int (nI (200 + (f + n)))), (4, .int (bI (decide (j % 2 = 1))))] [] (catR y v) Q) ∧ JM false x' v' M K ts 0 ∧ FE (st + k) rt x x' ∧ VE fr (f + n) v v') ∨
            (∃ (x' v' : MM) (a' k' fr' N : Nat) (ok : Bool), (∀ Q : Value → MM → Prop, Q .null x' → G e_X4_readFormula 36 [(0, .ref 1), (2, .int (nI i))] [] x Q) ∧ (∀ (y : MM) (Q : Value → MM → Prop), Q (.int 1) (catR y v') → G e_X12_cond 32 [(0, .ref 156), (1, .int (nI g)), (3, .int (nI (200 + (f + n)))), (4, .int (bI (decide (j % 2 = 1))))] [] (catR y v) Q) ∧
              SE x' v' M K ts a' ok ∧ (a ≤ a' ∧ fr ≤ fr') ∧ FE (st + k) rt x x' ∧ VE fr (f + n) v v' ∧ RU x' v' rt st k' fr' f N a') := by
          intro p l o' an' g' hp hcase
          have hp40 : p < 40 := by omega
          obtain ⟨ok7, x7, v7, t1, t2, -, t4, t5, t6, t7, t8⟩ := takeJ (JM.t q3) p hp40
          obtain ⟨e1, e2⟩ := t2 rfl
          obtain ⟨x10, v8, k10, n8, r1, r2, r3, r4, r5, ⟨r6, r7, r8⟩, ⟨r9, r10, r11⟩, ⟨r12, r13⟩, ⟨r14, r15, r16, r17⟩, ⟨r18, r19⟩, r20, r21⟩ := litR (l := l) (by omega) q4 ho han x7 t4
          have hbd : bd p = l := by rcases hcase with z | z <;> (obtain ⟨rfl, rfl, -⟩ := z; rfl)
          have hW10 : WI x10 rt st k10 (if l = 1 then [] else Bs o false) := r3
          have eW : p :: (if l = 1 then [] else Bs o false) = Bs o' an' := by
            rcases hcase with ⟨rfl, rfl, rfl, rfl, -⟩ | ⟨rfl, rfl, rfl, rfl, -⟩ <;> rfl
          have hjn := joinX (s := 1) hp40 t1 (by rw [hbd]; exact r1) hW10.2.2.1 (by omega)
          have hbt := rightB q3 hC6 hr6 (by omega) (by rw [hp]; exact hjn)
          obtain ⟨D1, D2, D3⟩ := dd_at (c := f + n) (g := g) (neg := decide (j % 2 = 1)) r14 r15 r16 r12 (by omega) r18 r19
          have hR8 : RC x6 v8 M K ts a6 := q3.mix (DX.rf x6) r9
          have hR9 : RC x6 (ddV v8 (f + n) (f + n) g (decide (j % 2 = 1))) M K ts a6 := hR8.mix (DX.rf x6) DV.dd
          have mp : ∀ y, Runs e_X12_pass [.ref 156] (catR y (ddV v8 (f + n) (f + n) g (decide (j % 2 = 1)))) (fun r m => r = .int (bI ok7) ∧ m = catR y (tkV (ddV v8 (f + n) (f + n) g (decide (j % 2 = 1))) ts a6 (tkE K a6 (decide (K a6 = p))))) := fun y => by rw [e1]; exact mPass hR9 y hp
          have hJ : JM ok7 (jnX x10 (if l = 1 then [] else Bs o false).length p 1) (tkV (ddV v8 (f + n) (f + n) g (decide (j % 2 = 1))) ts a6 (tkE K a6 (decide (K a6 = p)))) M K ts (a6 + 1) := t7.mix r6.jn (by rw [e2]; exact (r9.tr DV.dd).tk _ _ _)
          have hF : FE (st + k) rt x (jnX x10 (if l = 1 then [] else Bs o false).length p 1) := (q7.tr ((t4.e t6).tr r8 (Nat.le_refl _)) (Nat.le_refl _)).jn ht
          have hV9 : VE fr (f + n) v (ddV v8 (f + n) (f + n) g (decide (j % 2 = 1))) := (q8.tr (r11.ve.lt (n' := fr) (L' := f + n) (by omega) (Nat.le_refl _)) (Nat.le_refl _) (Nat.le_refl _)).tr (VE.dd (Nat.le_refl _)) (Nat.le_refl _) (Nat.le_refl _)
          have hV910 : VE (fr + n3 + n8) (f + n + 1) (ddV v8 (f + n) (f + n) g (decide (j % 2 = 1))) (tkV (ddV v8 (f + n) (f + n) g (decide (j % 2 = 1))) ts a6 (tkE K a6 (decide (K a6 = p)))) := ((FV.tk _ _ _ _).e (n := fr + n3 + n8)).ve
          have hV10 : VE fr (f + n) v (tkV (ddV v8 (f + n) (f + n) g (decide (j % 2 = 1))) ts a6 (tkE K a6 (decide (K a6 = p)))) := hV9.tr (hV910.lt (n' := fr) (L' := f + n) (by omega) (by omega)) (Nat.le_refl _) (Nat.le_refl _)
          have cls : ∀ Q : Value → MM → Prop, G e_X4_readFormula 36 [(0, .ref 1), (2, .int (nI (i6 + 1)))] [] (jnX x10 (if l = 1 then [] else Bs o false).length p 1) Q → G e_X4_readFormula 36 [(0, .ref 1), (2, .int (nI i))] [] x Q := fun Q hQ => q1 Q (frm_b (by omega) f7 hC6 (by decide) hbt hQ)
          have mdl : ∀ (y : MM) (Q : Value → MM → Prop), (∃ Pm : Value → MM → Prop, Runs e_X12_pass [.ref 156] (catR y (ddV v8 (f + n) (f + n) g (decide (j % 2 = 1)))) Pm ∧ (∀ r m1, Pm r m1 → r = .int 1 ∨ r = .int 0) ∧ (∀ m1, Pm (.int 1) m1 → G e_X12_cond 14 [(0, .ref 156), (1, .int (nI g')), (2, .int 1)] [] m1 Q) ∧ (∀ m1, Pm (.int 0) m1 → Q (.int 0) m1)) → G e_X12_cond 32 [(0, .ref 156), (1, .int (nI g)), (3, .int (nI (200 + (f + n)))), (4, .int (bI (decide (j % 2 = 1))))] [] (catR y v) Q := fun y Q hQ => by
            refine q2 y v8 Q (r2 y) (mC_3 (by omega) y hR8 r17 (fun z => ?_) (fun z => ?_) (fun z1 z2 => ?_))
            · rcases hcase with ⟨rfl, rfl, rfl, rfl, rfl⟩ | ⟨rfl, rfl, rfl, rfl, rfl⟩
              · exact hQ
              · omega
            · rcases hcase with ⟨rfl, rfl, rfl, rfl, rfl⟩ | ⟨rfl, rfl, rfl, rfl, rfl⟩
              · omega
              · exact hQ
            · omega
          cases ok7 with
          | false =>
            refine Or.inl ⟨_, _, fun Q hQ => cls Q (frm_f hJ.f0 hQ), fun y Q hQ => mdl y Q (bcall (mp y) (fun z => nomatch z) ?_), hJ.any, hF, hV10⟩
            rintro - m rfl
            exact hQ
          | true =>
            have a4 : a6 < 400 := (t8 rfl).2.2.1
            have e167 : (tkV (ddV v8 (f + n) (f + n) g (decide (j % 2 = 1))) ts a6 (tkE K a6 (decide (K a6 = p)))).1 167 1 = nI (f + (n + 1)) := by
              rw [(FV.tk _ _ _ _).2.1 167 (by decide)]
              unfold ddV
              rw [wI_k, pk_us]
              rfl
            have e164 : (tkV (ddV v8 (f + n) (f + n) g (decide (j % 2 = 1))) ts a6 (tkE K a6 (decide (K a6 = p)))).1 164 1 = nI (fr + n3 + n8) := by
              rw [(FV.tk _ _ _ _).2.1 164 (by decide)]
              unfold ddV
              rw [wI_o (by decide), wI_o (by decide), wI_o (by decide), wI_o (by decide)]
              exact r12
            have hnx := fun vs => hs_next (z := cmS (opV v8) (vaV v8) vs q fr n3 (fr + n3) n8 != decide (j % 2 = 1)) (vs := vs) hL hV10 (by omega) D2 (D3 vs) D1 (by omega) hV910
            have hJn := jnX_c (x := x10) (n := (if l = 1 then [] else Bs o false).length) (q := p) (s := 1) ht
            obtain ⟨f14, f15, f16, f17⟩ := jnX_f (x := x10) (n := (if l = 1 then [] else Bs o false).length) (q := p) (s := 1)
            have hI' : LI (jnX x10 (if l = 1 then [] else Bs o false).length p 1) (tkV (ddV v8 (f + n) (f + n) g (decide (j % 2 = 1))) ts a6 (tkE K a6 (decide (K a6 = p)))) rt st k10 (fr + n3 + n8) f (n + 1) g' (a6 + 1) o' an' 0 := by
              have hWn := hW10.jn (q := p) (s := 1) (by omega)
              rw [eW] at hWn
              have elen : (Bs o' an').length = (if l = 1 then [] else Bs o false).length + 1 := by rw [← eW]; rfl
              have hAB : ∀ vs, hs (lv (tkV (ddV v8 (f + n) (f + n) g (decide (j % 2 = 1))) ts a6 (tkE K a6 (decide (K a6 = p)))) 173) (litV (lv (tkV (ddV v8 (f + n) (f + n) g (decide (j % 2 = 1))) ts a6 (tkE K a6 (decide (K a6 = p))))) vs) f (n + 1) (nI g') =
                  if p = 24 then ((hs (lv v 173) (litV (lv v) vs) f n (nI g)).1, (hs (lv v 173) (litV (lv v) vs) f n (nI g)).2 && (cmS (opV v8) (vaV v8) vs q fr n3 (fr + n3) n8 != decide (j % 2 = 1))) else ((hs (lv v 173) (litV (lv v) vs) f n (nI g)).1 || ((hs (lv v 173) (litV (lv v) vs) f n (nI g)).2 && (cmS (opV v8) (vaV v8) vs q fr n3 (fr + n3) n8 != decide (j % 2 = 1))), true) := fun vs => by
                obtain ⟨w1, w2⟩ := hnx vs
                rw [hs_up, w2, w1]
                rcases hcase with ⟨rfl, rfl, rfl, rfl, rfl⟩ | ⟨rfl, rfl, rfl, rfl, rfl⟩
                · rw [if_pos rfl, if_pos rfl]
                · rw [if_neg (fun z => by have := (nI_eq (by omega) (by omega)).mp z; omega), if_neg (by decide)]
              refine ⟨⟨hWn, ?_, by omega⟩, fun vs => ?_, ⟨fun z vs => ?_, fun z vs => ?_⟩, ⟨e164, by omega, e167, by omega⟩, fun i' hi' => ?_, by omega⟩
              · show st + k10 + (Bs o' an').length + 2 ≤ a6 + 1
                omega
              · rw [hJn.1]
                rcases hcase with ⟨rfl, rfl, rfl, rfl, rfl⟩ | ⟨rfl, rfl, rfl, rfl, rfl⟩
                · have w := r21 rfl vs
                  have A := hAB vs
                  rw [if_pos rfl] at A
                  simp only [Ls, A]
                  exact w
                · have w := r20 rfl vs
                  have A := hAB vs
                  rw [if_neg (by decide)] at A
                  simp only [Ls, A]
                  exact w
              · rw [hAB vs]
                rcases hcase with ⟨rfl, rfl, rfl, rfl, rfl⟩ | ⟨rfl, rfl, rfl, rfl, rfl⟩
                · rw [if_pos rfl]; exact ho z vs
                · cases z
              · rw [hAB vs]
                rcases hcase with ⟨rfl, rfl, rfl, rfl, rfl⟩ | ⟨rfl, rfl, rfl, rfl, rfl⟩
                · cases z
                · rw [if_neg (by decide)]
              · rcases Nat.lt_or_eq_of_le (Nat.le_of_lt_succ hi') with z | z
                · exact ((hL i' z).ve hV10 (Nat.le_refl _) (by omega)).le (by omega)
                · subst z
                  exact D1.ve hV910 (Nat.le_refl _) (by omega)
            have hC' : CE (jnX x10 (if l = 1 then [] else Bs o false).length p 1) 1 0 true := by
              refine ⟨f14, f15.trans ?_, f16⟩
              rw [r7 15 (by omega) (by omega)]
              exact (hC6.f t4).2.1
            have h17' : (jnX x10 (if l = 1 then [] else Bs o false).length p 1).1 1 17 = 1 := by rw [f17, if_pos (by omega)]
            have mgo : ∀ (y : MM) (Q : Value → MM → Prop), G e_X12_cond 32 [(0, .ref 156), (1, .int (nI g')), (3, .int (nI (200 + (f + (n + 1))))), (4, .int (bI (decide (0 % 2 = 1))))] [] (catR y (tkV (ddV v8 (f + n) (f + n) g (decide (j % 2 = 1))) ts a6 (tkE K a6 (decide (K a6 = p))))) Q → G e_X12_cond 32 [(0, .ref 156), (1, .int (nI g)), (3, .int (nI (200 + (f + n)))), (4, .int (bI (decide (j % 2 = 1))))] [] (catR y v) Q := fun y Q hQ => by
              refine mdl y Q (bcall (mp y) ?_ (fun z => nomatch z))
              rintro - m rfl
              exact mC_go e167 y hQ
            rcases ih (a6 + 1) _ _ (i6 + 1) k10 (fr + n3 + n8) (n + 1) g' o' an' 0 (by omega) (hJ.1 rfl) hI' hC' h17' (by omega) with ⟨X2, V2, w1, w2, w3, w4, w5⟩ | ⟨X2, V2, A2, K2, F2, N, ok, w1, w2, w3, w4, w5, w6, w7⟩
            · exact Or.inl ⟨X2, V2, fun Q hQ => cls Q (w1 Q hQ), fun y Q hQ => mgo y Q (w2 y Q hQ), w3, hF.tr w4 (by omega), hV10.tr w5 (by omega) (by omega)⟩
            · exact Or.inr ⟨X2, V2, A2, K2, F2, N, ok, fun Q hQ => cls Q (w1 Q hQ), fun y Q hQ => mgo y Q (w2 y Q hQ), w3, by omega, hF.tr w5 (by omega), hV10.tr w6 (by omega) (by omega), w7⟩
        by_cases c24 : K a6 = 24
        · exact joint 24 2 o true g c24 (Or.inl ⟨rfl, rfl, rfl, rfl, rfl⟩)
        · by_cases c23 : K a6 = 23
          · exact joint 23 1 true false (g + 1) c23 (Or.inr ⟨rfl, rfl, rfl, rfl, rfl⟩)
          · -- the rule's end
            obtain ⟨ok7, x7, v7, t1, t2, -, t4, t5, t6, t7, t8⟩ := takeJ (JM.t q3) 28 (by decide)
            obtain ⟨e1, e2⟩ := t2 rfl
            obtain ⟨x10, v8, k10, n8, r1, r2, r3, r4, r5, ⟨r6, r7, r8⟩, ⟨r9, r10, r11⟩, ⟨r12, r13⟩, ⟨r14, r15, r16, r17⟩, ⟨r18, r19⟩, r20, r21⟩ := litR (l := 1) (Or.inl rfl) q4 ho han x7 t4
            have hW10 : WI x10 rt st k10 [] := r3
            have r4 : st + k10 + 0 + 2 ≤ a6 := r4
            have hbt := semiB q3 hC6 hr6 (Or.inr ⟨rfl, c23, c24⟩) t1 r1 hW10.1.1 ht hW10.2.1 (by omega)
            obtain ⟨D1, D2, D3⟩ := dd_at (c := f + n) (g := g) (neg := decide (j % 2 = 1)) r14 r15 r16 r12 (by omega) r18 r19
            have hR8 : RC x6 v8 M K ts a6 := q3.mix (DX.rf x6) r9
            have hR9 : RC x6 (ddV v8 (f + n) (f + n) g (decide (j % 2 = 1))) M K ts a6 := hR8.mix (DX.rf x6) DV.dd
            have hV9 : VE fr (f + n) v (ddV v8 (f + n) (f + n) g (decide (j % 2 = 1))) := (q8.tr (r11.ve.lt (n' := fr) (L' := f + n) (by omega) (Nat.le_refl _)) (Nat.le_refl _) (Nat.le_refl _)).tr (VE.dd (Nat.le_refl _)) (Nat.le_refl _) (Nat.le_refl _)
            have hdx : DX x7 (wI (adX x10 rt (st + k10) (-1 - nI 28)) 1 14 3) := (r6.tr (DX.ad ht)).w (by omega) _
            have hJ : JM ok7 (wI (adX x10 rt (st + k10) (-1 - nI 28)) 1 14 3) (tkV (ddV v8 (f + n) (f + n) g (decide (j % 2 = 1))) ts a6 (tkE K a6 (decide (K a6 = 28)))) M K ts (a6 + 1) := t7.mix hdx (by rw [e2]; exact (r9.tr DV.dd).tk _ _ _)
            have hF10 : FE (st + k) rt x x10 := q7.tr ((t4.e t6).tr r8 (Nat.le_refl _)) (Nat.le_refl _)
            have hF : FE (st + k) rt x (wI (adX x10 rt (st + k10) (-1 - nI 28)) 1 14 3) := (hF10.tr (FE.ad (Nat.le_refl _)) (by omega)).w ht (by omega) _
            have eX : cdX (wI (adX x10 rt (st + k10) (-1 - nI 28)) 1 14 3) rt = upd (cdX x10 rt) (st + k10) (-1 - nI 28) := by
              rw [show cdX (wI (adX x10 rt (st + k10) (-1 - nI 28)) 1 14 3) rt = cdX (adX x10 rt (st + k10) (-1 - nI 28)) rt from by unfold cdX; rw [wI_o (by omega)], adX_c]
            have x14 : (wI (adX x10 rt (st + k10) (-1 - nI 28)) 1 14 3).1 1 14 = 3 := by rw [wI_k, pk_us]
            have hnx := fun vs => hs_next (z := cmS (opV v8) (vaV v8) vs q fr n3 (fr + n3) n8 != decide (j % 2 = 1)) (vs := vs) hL hV9 (by omega) D2 (D3 vs) D1 (by omega) (VE.rf (fr + n3 + n8) (f + n + 1) _)
            refine Or.inr ⟨_, ddV v8 (f + n) (f + n) g (decide (j % 2 = 1)), a6, k10, fr + n3 + n8, n + 1, ok7, fun Q hQ => q1 Q (frm_b (by omega) f7 hC6 (by decide) hbt (frm_end ⟨by omega, Or.inr x14⟩ hQ)), fun y Q hQ => q2 y v8 Q (r2 y) (mC_3 (by omega) y hR8 r17 (fun z => absurd z c24) (fun z => absurd z c23) fun _ _ => mC_end _ hQ), ⟨⟨x6, hR9⟩, e1, hJ⟩, by omega, hF, hV9, ⟨⟨?_, ?_, ?_⟩, ⟨by omega, by omega, by omega, by omega, by omega⟩, ?_, ?_, fun i' hi' => ?_, fun vs => ?_⟩⟩
            · rw [wI_o (by omega), adX_5]
            · unfold ddV
              rw [wI_o (by decide), wI_o (by decide), wI_o (by decide), wI_o (by decide)]
              exact r12
            · unfold ddV
              rw [wI_k, pk_us]
              rfl
            · rw [eX]
              exact hW10.2.2.2.1.cong fun i hi => pk_un (by omega)
            · rw [eX, pk_us]
            · rcases Nat.lt_or_eq_of_le (Nat.le_of_lt_succ hi') with z | z
              · exact ((hL i' z).ve hV9 (Nat.le_refl _) (by omega)).le (by omega)
              · subst z
                exact D1
            · rw [eX, cr_cong (cd := cdX x10 rt) fun i hi => pk_un (by omega), r20 rfl vs, held_q]
              obtain ⟨w1, w2⟩ := hnx vs
              rw [w1]
end

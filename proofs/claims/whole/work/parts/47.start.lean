theorem w_22 : (Jvm.Cond.instantiable "StiltTown" (11 : Nat)) ∈ bigW := tp_1 (List.mem_of_getElem? (i := 22) rfl) rfl
theorem w_1399 : (Jvm.Cond.instantiable "StiltTownModel" (53 : Nat)) ∈ bigW := tp_6 (List.mem_of_getElem? (i := 199) rfl) rfl
theorem w_23 : (Jvm.Cond.methodLink "StiltTownLaw" (9 : Nat) ({ cls := "StiltTown", name := "<init>", desc := "()V" } : Jvm.MethodName)) ∈ bigW := tp_1 (List.mem_of_getElem? (i := 23) rfl) rfl
theorem w_24 : (Jvm.Cond.instanceMethod ({ cls := "StiltTown", name := "<init>", desc := "()V" } : Jvm.MethodName)) ∈ bigW := tp_1 (List.mem_of_getElem? (i := 24) rfl) rfl
theorem w_25 : (Jvm.Cond.code ({ cls := "StiltTown", name := "<init>", desc := "()V" } : Jvm.MethodName) prog_1_method_1_code (2 : Nat) (Option.none : Option Jvm.ClassFile.FieldType)) ∈ bigW := tp_1 (List.mem_of_getElem? (i := 25) rfl) rfl
theorem w_1400 : (Jvm.Cond.methodLink "StiltTownLaw" (12 : Nat) ({ cls := "StiltTownModel", name := "<init>", desc := "()V" } : Jvm.MethodName)) ∈ bigW := tp_6 (List.mem_of_getElem? (i := 200) rfl) rfl
theorem w_1401 : (Jvm.Cond.instanceMethod ({ cls := "StiltTownModel", name := "<init>", desc := "()V" } : Jvm.MethodName)) ∈ bigW := tp_6 (List.mem_of_getElem? (i := 201) rfl) rfl
theorem w_1402 : (Jvm.Cond.code ({ cls := "StiltTownModel", name := "<init>", desc := "()V" } : Jvm.MethodName) prog_14_method_1_code (1 : Nat) (Option.none : Option Jvm.ClassFile.FieldType)) ∈ bigW := tp_6 (List.mem_of_getElem? (i := 202) rfl) rfl
theorem w_21 : (Jvm.Cond.classLink "StiltTownLaw" (7 : Nat) "StiltTown") ∈ bigW := tp_1 (List.mem_of_getElem? (i := 21) rfl) rfl
theorem w_1398 : (Jvm.Cond.classLink "StiltTownLaw" (10 : Nat) "StiltTownModel") ∈ bigW := tp_6 (List.mem_of_getElem? (i := 198) rfl) rfl
theorem nf_X11 : ∀ j, j < 11 → defaultValue (tyX11 j) = vp_V (svX11.map z0) j := by decide +kernel
theorem nf_X12 : ∀ j, j < 53 → defaultValue (tyX12 j) = vp_V (svX12.map z0) j := by decide +kernel
theorem known_all {s : State} {args : Array Value} (hts : ∀ w ∈ lw_tbl, w.before args s = true) : ∀ k : Nat, ∃ x : ClassId × (Nat → Nat), ∀ q, classes[k]? = some q → u_Kn s q.1 q.2.1 q.2.2 x.1 x.2 := by
  have go : ∀ {C : String} {T : u_T} {N : Nat}, (∀ w ∈ u_ws C T N, w ∈ bigW) → Cond.instantiable C N ∈ bigW → ∃ x : ClassId × (Nat → Nat), u_Kn s C T N x.1 x.2 := by
    intro C T N h1 h2
    obtain ⟨c, i, h⟩ := u_known hts (fun w hw => (bg (h1 w hw)).1) (hts _ (bg h2).1)
    exact ⟨(c, i), h⟩
  intro k
  match k with
  | 0 => obtain ⟨x, h⟩ := go iX0 w_434; exact ⟨x, fun q hq => by cases hq; exact h⟩
  | 1 => obtain ⟨x, h⟩ := go iX1 w_75; exact ⟨x, fun q hq => by cases hq; exact h⟩
  | 2 => obtain ⟨x, h⟩ := go iX2 w_223; exact ⟨x, fun q hq => by cases hq; exact h⟩
  | 3 => obtain ⟨x, h⟩ := go iX3 w_412; exact ⟨x, fun q hq => by cases hq; exact h⟩
  | 4 => obtain ⟨x, h⟩ := go iX4 w_30; exact ⟨x, fun q hq => by cases hq; exact h⟩
  | 5 => obtain ⟨x, h⟩ := go iX5 w_455; exact ⟨x, fun q hq => by cases hq; exact h⟩
  | 6 => obtain ⟨x, h⟩ := go iX6 w_217; exact ⟨x, fun q hq => by cases hq; exact h⟩
  | 7 => obtain ⟨x, h⟩ := go iX7 w_36; exact ⟨x, fun q hq => by cases hq; exact h⟩
  | 8 => obtain ⟨x, h⟩ := go iX8 w_69; exact ⟨x, fun q hq => by cases hq; exact h⟩
  | 9 => obtain ⟨x, h⟩ := go iX9 w_380; exact ⟨x, fun q hq => by cases hq; exact h⟩
  | 10 => obtain ⟨x, h⟩ := go iX10 w_360; exact ⟨x, fun q hq => by cases hq; exact h⟩
  | 11 => obtain ⟨x, h⟩ := go iX11 w_22; exact ⟨x, fun q hq => by cases hq; exact h⟩
  | 12 => obtain ⟨x, h⟩ := go iX12 w_1399; exact ⟨x, fun q hq => by cases hq; exact h⟩
  | n + 13 => exact ⟨(0, fun _ => 0), fun q hq => by simp [classes] at hq⟩
theorem arrays_all {s : State} {args : Array Value} (hts : ∀ w ∈ lw_tbl, w.before args s = true) : ∃ ca : Nat → ClassId, ∀ (k : Nat) (q : ClassId × FieldType), (tysOf ca)[k]? = some q → ArrOfT s q.1 q.2 ∧ va_RA s q.1 q.2 := by
  obtain ⟨c0, k0, p0, a1, a2, a3⟩ := Cond.arrayClass_spec (hts _ (bg w_66).1)
  obtain ⟨c1, k1, p1, b1, b2, b3⟩ := Cond.arrayClass_spec (hts _ (bg w_67).1)
  obtain ⟨c2, k2, p2, d1, d2, d3⟩ := Cond.arrayClass_spec (hts _ (bg w_253).1)
  obtain ⟨c3, k3, p3, e1, e2, e3⟩ := Cond.arrayClass_spec (hts _ (bg w_65).1)
  obtain ⟨p4, c4, k4, f1, f2, f3, f4, f5⟩ := Cond.arrayOver_spec (hts _ ao_tbl)
  obtain ⟨p5, c5, k5, g1, g2, g3, g4, g5⟩ := Jvm.Stand.arrayOver_specB (hts _ aoa_tbl)
  refine ⟨fun t => match t with | 0 => c0 | 1 => c1 | 2 => c2 | 3 => c3 | 4 => c4 | _ => c5, fun k q hq => ?_⟩
  match k, hq with
  | 0, hq => cases hq; exact ⟨fun n z => ⟨fun k h => (by cases h), k0, a2, p0, a3⟩, a1⟩
  | 1, hq => cases hq; exact ⟨fun n z => ⟨fun k h => (by cases h), k1, b2, p1, b3⟩, b1⟩
  | 2, hq => cases hq; exact ⟨fun n z => ⟨fun k h => (by cases h), k2, d2, p2, d3⟩, d1⟩
  | 3, hq => cases hq; exact ⟨fun n z => ⟨fun k h => (by cases h), k3, e2, p3, e3⟩, e1⟩
  | 4, hq => cases hq; exact ⟨fun n z => ⟨fun k h => (by cases h), k4, f3, p4, f4⟩, k4, p4, f3, f4, f1, f5⟩
  | 5, hq => cases hq; exact ⟨fun n z => ⟨fun k h => (by cases h), k5, g3, p5, g4⟩, g5⟩
  | _ + 6, hq => simp [tysOf] at hq
theorem sig0 {d : String} (h2 : (parseMethodDescriptor d).map (fun d => d.parameters.length) = some 0) : ∀ sig, parseMethodDescriptor d = some sig → 0 = sig.parameters.length := fun sig h => by
  rw [h] at h2
  simpa using h2.symm
theorem whole_start_of (RR : MM → Prop) (hAll : AllSteps RR) (hR0 : RR tm_X12) {p : Program} {e : Env} {s : State} {m : MethodId} {below : List Frame} {meth : Method} {c : Code} (l : Launch) {b L : Nat} {xs : Nat → Int32} (hL : L ≤ 3584) (C0 : lw_At p s m meth c b L xs) : W p l e room_1 s m #[Value.ref b] below meth c s.heap [] 0 0 (lw_Z below #[Value.ref b] s) (entryFrame m ([Value.ref b] : List Value).toArray 4) := by
  obtain ⟨hx, hb, hr, hml, hown, hts, hX, hbl, hlocks, hgv⟩ := id C0
  have htB : ∀ w ∈ bigW, w.before #[Value.ref b] s = true := fun w hw => hts w (bg hw).1
  obtain ⟨adK, adV, hSt, hEv⟩ := strings_at (A := fun q => s.heap.size ≤ q) hgv (fun a ha => Nat.not_le.mpr ha)
  obtain ⟨tF, hZ⟩ := statics_at (A := fun q => s.heap.size ≤ q) hgv hts (fun a ha => Nat.not_le.mpr ha)
  obtain ⟨dd, hdd⟩ := Classical.axiomOfChoice (known_all hts)
  obtain ⟨ca, hca⟩ := arrays_all hts
  generalize hDD : ((fun k => (dd k).1, fun k => (dd k).2) : va_G) = D
  have hK : va_K D classes (tysOf ca) s := by rw [← hDD]; exact ⟨fun c q hq => hdd c q hq, hca⟩
  have hAO : va_AO "StiltTown$State" s := va_AO.of (hts _ ao_tbl)
  have hAOA : va_AOA .int s := hts _ aoa_tbl
  obtain ⟨ad0, h5, hE⟩ : ∃ ad0 : Nat → Nat, ad0 5000 = b ∧ StrX ad0 (fun q => s.heap.size ≤ q) s s.heap := by
    let f : Nat → Nat := fun i => if i = 5000 then b else if i = 6000 then tF else if i % 2 = 0 then adK ((i - 1000) / 2) else adV ((i - 1001) / 2)
    have e1 : ∀ i, i < 27 → f (1000 + 2 * i) = adK i := fun i hi => by
      have x1 : ¬ 1000 + 2 * i = 5000 := by omega
      have x0 : ¬ 1000 + 2 * i = 6000 := by omega
      have x2 : (1000 + 2 * i) % 2 = 0 := by omega
      have x3 : (1000 + 2 * i - 1000) / 2 = i := by omega
      simp only [f, x0, x1, x2, x3, if_true, if_false]
    have e2 : ∀ i, i < 27 → f (1001 + 2 * i) = adV i := fun i hi => by
      have x1 : ¬ 1001 + 2 * i = 5000 := by omega
      have x0 : ¬ 1001 + 2 * i = 6000 := by omega
      have x2 : ¬ (1001 + 2 * i) % 2 = 0 := by omega
      have x3 : (1001 + 2 * i - 1001) / 2 = i := by omega
      simp only [f, x0, x1, x2, x3, if_false]
    have e6 : f 6000 = tF := by simp [f]
    refine ⟨f, by simp [f], ⟨⟨fun i hi => ?_, fun i j hi hj e => ?_⟩, by unfold ZX; rw [e6]; exact hZ⟩, fun i q hq => ?_, fun q hq => va_Nw.of rfl (hts _ (nest_tbl q hq))⟩
    · show va_O _ (f (1000 + 2 * i)) _ _ _ ∧ va_OF _ _ _ _ (f (1000 + 2 * i)) _ _ _ ∧ va_OF _ _ _ (.ref (f (1001 + 2 * i))) (f (1000 + 2 * i)) _ _ _ ∧ va_T _ (f (1001 + 2 * i)) _ _ _ _ _
      rw [e1 i hi, e2 i hi]
      exact hSt.1 i hi
    · have e : f (1000 + 2 * i) = f (1000 + 2 * j) := e
      rw [e1 i hi, e1 j hj] at e
      exact hSt.2 i j hi hj e
    · have hi : i < 27 := (List.getElem?_eq_some_iff.mp hq).1
      obtain ⟨t1, t2⟩ := str_tbl i q hq
      rw [e1 i hi]
      exact vk_R.of (hts _ t1) (by rw [t2]; exact hEv i hi)
  have hA0 : ∀ q, s.heap.size ≤ q → (fun q : Nat => s.heap.size ≤ q) q := fun _ h => h
  have hS : va_S (fun q : Nat => s.heap.size ≤ q) s.heap s.heap [] := va_S.rf
  have hP : va_P D classes [] s.heap := fun k q h => by simp at h
  have hD : va_D (fun q : Nat => s.heap.size ≤ q) [] := ⟨fun i j p q h => by simp at h, fun k q h => by simp at h⟩
  have hl := lv_entry ([.ref b]) (n := 4) (Nat.le_of_ble_eq_true rfl)
  rw [lg_entry_eq]
  generalize (lg_sl ([.ref b]) ++ List.replicate (4 - (lg_sl ([.ref b])).length) Slot.unset).toArray = ls at hl ⊢
  have hl : lv_has ls 4 [(0, .ref b)] := hl
  refine va_new (ci := 11) (fs := svX11.map z0) (C := RX11) (T := TX11) (N := 11) hx hb htB iX11 tyX11 tyX11_ok hown (htB _ w_21) (htB _ w_22) (htB _ w_1) hK hP hD hS hA0 rfl nf_X11 (Nat.le_of_ble_eq_true rfl) (Nat.le_of_ble_eq_true rfl) dL_law_0 (fun q1 H1 hP hD hS => ?_)
  have z0m : ∀ k : Nat, m0.1 k = (fun _ => 0) ∧ m0.2.1 k = (fun _ => 0) ∧ m0.2.2 k = (fun _ => 0) := fun _ => ⟨rfl, rfl, rfl⟩
  have eW : ([] : va_W) ++ [(q1, .inr (11, svX11.map z0))] = wsA (va_up ad0 0 q1) ca m0 0 S11 := wsA_push (S := []) (s := .inr (11, svX11)) (ad := ad0) (fun _ _ => Or.inl rfl) (fun ad => by simp [cellA, slotsA_z (z0m 0)])
  rw [eW] at hP hD
  have hag : agr 0 ad0 (va_up ad0 0 q1) := fun i hi => by
    have : i ≠ 0 := by omega
    simp [va_up, this]
  have ea1 : (va_up ad0 0 q1) 0 = q1 := by simp [va_up]
  generalize hu1 : va_up ad0 0 q1 = ad1 at hP hD hag ea1
  subst ea1
  refine lv_dup hx hb dL_law_3 rfl ?_
  have hsub : ∀ q, adB ad1 S11.length H1.size q → s.heap.size ≤ q := adB_sub hD hS hA0
  refine va_callv (va_runI (cells := 0 + 1) (slots := 0 + 11) (R := room_1) (As := []) (rest := [.ref (ad1 0)]) ⟨hx, hb, hml, hown, htB⟩ (rc_X11 l D ad1 ca H1.size) ⟨⟨rfl, rfl, by decide, by decide, pay_in htB (good_ws e_X11_init w_25), List.mem_cons_self, htB _ w_25, htB _ w_1, ⟨by decide +kernel, by decide +kernel⟩, sig0 (by decide +kernel), htB _ w_23⟩, rfl, htB _ w_24⟩
    ⟨pcA_blind _ _ _ _ _ _ _, fun U hU hW => ⟨rfl, by rw [hU], by rw [hU]; exact hP, va_K.moved hW.alike hK, adB_D hD, strA_at hE hag hS hsub hU hW, va_AO.moved hW.alike hAO, va_AOA.moved hW.alike hAOA⟩⟩ rfl rfl hl.1 rfl (lv_room (Nat.le_of_ble_eq_true rfl)) dL_law_4 ⟨Nat.le_of_ble_eq_true rfl, Nat.le_of_ble_eq_true rfl⟩) hS (fun q _ h => hsub q h) hsub (fun ad2 t H2 locs2 ht hvm hw hB hz1 hk1 hS => ?_)
  obtain ⟨hP, -, hD⟩ := hB
  rw [ht] at hP
  have hD : va_D (fun q : Nat => s.heap.size ≤ q) (wsA ad2 ca tm_X11 0 tS_X11) := hD.weaken (fun _ _ _ h => hsub _ h)
  have e10 : ad2 0 = ad1 0 := hw 0 (Or.inl (by decide))
  rw [← e10]
  have hag2 : agr 0 ad0 ad2 := fun i hi => (hw i (by omega)).trans (hag i hi)
  refine lv_astore_n (lv' := [(1, .ref (ad2 0)), (0, .ref b)]) hx hb dL_law_7 rfl hl (by decide) rfl (fun ls hl => ?_)
  refine va_new (ci := 12) (fs := svX12.map z0) (C := RX12) (T := TX12) (N := 53) hx hb htB iX12 tyX12 tyX12_ok hown (htB _ w_1398) (htB _ w_1399) (htB _ w_13) hK hP hD hS hA0 rfl nf_X12 (Nat.le_of_ble_eq_true rfl) (Nat.le_of_ble_eq_true rfl) dL_law_8 (fun q2 H3 hP hD hS => ?_)
  have eW2 : wsA ad2 ca tm_X11 0 tS_X11 ++ [(q2, .inr (12, svX12.map z0))] = wsA (va_up ad2 tS_X11.length q2) ca tm_X11 0 S12 := wsA_push (by rw [hn_X11]; exact hR_X11) (fun ad => by rw [hn_X11]; simp [cellA, slotsA_z (hF_X11 156 (Nat.le_refl _))])
  rw [eW2, hn_X11] at hP hD
  have hag3 : agr 156 ad2 (va_up ad2 156 q2) := fun i hi => by
    have : i ≠ 156 := by omega
    simp [va_up, this]
  have ea3 : (va_up ad2 156 q2) 156 = q2 := by simp [va_up]
  generalize hu3 : va_up ad2 156 q2 = ad3 at hP hD hag3 ea3
  subst ea3
  have hl3 : S12.length = 157 := la_ hn_X11
  have hag30 : agr 0 ad0 ad3 := fun i hi => (hag3 i (by omega)).trans (hag2 i hi)
  have e20 : ad3 0 = ad2 0 := hag3 0 (Or.inl (by omega))
  rw [← e20] at hl
  refine lv_dup hx hb dL_law_11 rfl ?_
  have hsub : ∀ q, adB ad3 S12.length H3.size q → s.heap.size ≤ q := adB_sub hD hS hA0
  refine va_callv (va_runI (cells := 0 + 1 + 155 + 1) (slots := 0 + 11 + 10153 + 53) (R := room_1) (As := []) (rest := [.ref (ad3 156)]) ⟨hx, hb, hml, hown, htB⟩ (rc_X12 l D ad3 ca H3.size) ⟨⟨rfl, rfl, by decide, by decide, pay_in htB (good_ws e_X12_init w_1402), List.mem_cons_self, htB _ w_1402, htB _ w_13, ⟨by decide +kernel, by decide +kernel⟩, sig0 (by decide +kernel), htB _ w_1400⟩, rfl, htB _ w_1401⟩
    ⟨pcA_blind _ _ _ _ _ _ _, fun U hU hW => ⟨rfl, by rw [hU], by rw [hU]; exact hP, va_K.moved hW.alike hK, adB_D hD, strA_at hE hag30 hS hsub hU hW, va_AO.moved hW.alike hAO, va_AOA.moved hW.alike hAOA⟩⟩ rfl rfl hl.1 rfl (lv_room (Nat.le_of_ble_eq_true rfl)) dL_law_12 ⟨Nat.le_of_ble_eq_true rfl, Nat.le_of_ble_eq_true rfl⟩) hS (fun q _ h => hsub q h) hsub (fun ad4 t H4 locs4 ht hvm hw hB hz1 hk1 hS => ?_)
  obtain ⟨hP, -, hD⟩ := hB
  rw [ht] at hP
  have hD : va_D (fun q : Nat => s.heap.size ≤ q) (wsA ad4 ca tm_X12 0 (SHL.map shV)) := hD.weaken (fun _ _ _ h => hsub _ h)
  have e30 : ad4 0 = ad3 0 := hw 0 (Or.inl (by rw [hl3]; omega))
  have e31 : ad4 156 = ad3 156 := hw 156 (Or.inl (by rw [hl3]; omega))
  rw [← e31]
  rw [← e30] at hl
  refine lv_astore_n (lv' := [(2, .ref (ad4 156)), (1, .ref (ad4 0)), (0, .ref b)]) hx hb dL_law_15 rfl hl (by decide) rfl (fun ls hl => ?_)
  refine lv_iconst (v := nI 0) hx hb dL_law_16 rfl ?_
  refine lv_istore_n (lv' := [(3, .int (nI 0)), (2, .ref (ad4 156)), (1, .ref (ad4 0)), (0, .ref b)]) hx hb dL_law_17 rfl hl (by decide) rfl (fun ls hl => ?_)
  rw [wsA_V okm_X12] at hP hD
  have hag4 : agr 0 ad0 ad4 := fun i hi => (hw i (by omega)).trans (hag30 i hi)
  have e5 : ad4 5000 = b := (hag4 5000 (by omega)).trans h5
  subst e5
  have hI : adI ad4 := fun i j hi hj e => by
    have hi' : i < SHL.length := by rw [nS_ok]; exact hi
    have hj' : j < SHL.length := by rw [nS_ok]; exact hj
    exact hD.1 i j _ _ (ws_at (List.getElem?_eq_getElem hi')) (ws_at (List.getElem?_eq_getElem hj')) e
  have hAd : ∀ i, i < nS → s.heap.size ≤ ad4 i := fun i hi => by
    have hi' : i < SHL.length := by rw [nS_ok]; exact hi
    exact hD.2 i _ (ws_at (List.getElem?_eq_getElem hi'))
  have hE4 : StrX ad4 (fun q => s.heap.size ≤ q) s s.heap := by
    have q1 : (fun i => ad4 (1000 + 2 * i)) = (fun i => ad0 (1000 + 2 * i)) := funext fun i => hag4 _ (Or.inr (by omega))
    have q2 : (fun i => ad4 (1001 + 2 * i)) = (fun i => ad0 (1001 + 2 * i)) := funext fun i => hag4 _ (Or.inr (by omega))
    refine ⟨?_, fun i q hq => ?_, hE.2.2⟩
    · rw [q1, q2]; exact ⟨hE.1.1, ZX.ad (hag4 _ (Or.inr (by omega))) hE.1.2⟩
    · rw [hag4 _ (Or.inr (by omega))]; exact hE.2.1 i q hq
  exact law_loop RR hAll L xs _ _ (Nat.le_of_ble_eq_true rfl) (Nat.le_of_ble_eq_true rfl) hL (L + 7) 0 tm_X12 (by omega) (by omega) hR0 p l e s m below meth c D ad4 ca ⟨C0, hK, hI, hAd, hE4⟩ H4 locs4 ls hP hS (lv_sub hl [3, 2, 1, 0] rfl)

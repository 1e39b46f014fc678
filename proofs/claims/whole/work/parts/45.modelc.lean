theorem eS12 : tS_X12 S12 = SHL.map shV := by decide +kernel
theorem rc_X12 : RunsA e_X12_init 34 20474 S12 (SHL.map shV) tm_X11 tm_X12 156 := by
  have hk : S12[156]? = some (.inr (12, svX12)) := gl_ hn_X11
  have hn : S12.length = 157 := la_ hn_X11
  have hR : RLm tm_X11 157 := RLm.more hR_X11 (by omega)
  have hF : Fr0 tm_X11 157 := Fr0.more hF_X11 (by omega)
  refine runsA_of pl_X12 (Nat.le_of_ble_eq_true rfl) rfl rfl ?_
  refine ga_X12 hk hn hR hF (by omega) (by omega) (by omega) ?_
  rw [eS12]
  show GA e_X12_init 34 20474 S12.length (SHL.map shV) tm_X12 (SHL.map shV) 302 [(0, .ref 156)] [.int (0 : Int32), .ref 156] tA_X12 34 20474
  refine a_callG (pc := 302) (as := [.int (0 : Int32)]) (m2 := tB_X12) dX12_init_302 cw_X12_118 (by decide) rfl rfl rfl sh_156 (Nat.le_of_ble_eq_true rfl) okm_A okm_B (Nat.le_refl _) (Nat.le_refl _) (begin_ok 0 (by omega) tA_X12 _ rfl) ?_
  refine a_aload_n (pc := 305) (x := 156) dX12_init_305 rfl ?_
  refine a_callG (pc := 306) (as := []) (m2 := tm_X12) dX12_init_306 cw_X12_122 (by decide) rfl rfl rfl sh_156 (Nat.le_of_ble_eq_true rfl) okm_B okm_X12 (Nat.le_refl _) (Nat.le_refl _) (settle_ok tB_X12 0 0 (begin_H _) (by omega) (begin_N _) (by omega) (fun i hi => absurd hi (by omega)) _ rfl) ?_
  exact a_vret (pc := 309) dX12_init_309

/-! reading: a piece of wood -/
section
variable {x v : MM} {M a : Nat} {K ts : Nat → Nat}
/-- the class's semicolon at the end of a statement -/
theorem semJ {ok : Bool} (h : JM ok x v M K ts a) : ∃ (ok' : Bool) (x' : MM), Runs e_X4_take [.ref 1, .int (nI 28)] x (fun r m => r = .int (bI ok') ∧ m = x') ∧ FX x x' ∧ x'.1 1 9 = x.1 1 9 ∧ (ok = true → SE x' v M K ts a ok' ∧ (ok' = true → a < 400)) ∧ (ok = false → x' = x) := by
  obtain ⟨ok1, x1, v1, t1, t2, t3, t4, t5, t6, t7, t8⟩ := takeJ h 28 (by decide)
  refine ⟨ok1, x1, t1, t4, t6, fun z => ?_, fun z => (t3 z).2.1⟩
  obtain ⟨e1, e2⟩ := t2 z
  subst z
  refine ⟨⟨⟨x, h.1 rfl⟩, e1, ?_⟩, fun z2 => (t8 z2).2.2.1⟩
  rw [← e2]
  exact t7
theorem DX.r {x' : MM} (h : DX x x') {r : Nat} (hr : r ≠ 1 ∧ r ≠ 5 ∧ r ≠ 7 ∧ r ≠ 8) (j : Nat) (w : Int32) : DX x (wI x' r j w) := ⟨h.1, by rw [wI_o (Ne.symm hr.2.1)]; exact h.2.1, by rw [wI_o (Ne.symm hr.2.2.1)]; exact h.2.2.1, by rw [wI_o (Ne.symm hr.2.2.2)]; exact h.2.2.2.1, fun y y1 y2 => by rw [wI_o (Ne.symm hr.1)]; exact h.2.2.2.2 y y1 y2⟩
theorem isN.ne {rt rs : Nat} (ht : isT rt) (hs : isN rs) : (rt = 10 ∨ rt = 100) ∧ (rs = 24 ∨ rs = 114) := ⟨ht, hs⟩
theorem woodX {rt rs W w2 w3 : Nat} {ok1 ok2 ok3 ok4 : Bool} {x1 x2 x3 x4 : MM} (ht : isT rt) (hs : isN rs) (r1 : x.2.2 1 4 = rt) (c13 : x.1 rt 13 = nI W) (hW : ok1 = true → W < 8)
    (t1 : Runs e_X4_takeFirst [.ref 1, .int (nI 5), .int (nI W), .int (nI 8)] x (fun r m => r = .int (bI ok1) ∧ m = x1)) (e1 : x1.2.2 = x.2.2) (t2 : Runs e_X4_readInt [.ref 1, .int (nI 1), .int (nI 60)] x1 (fun r m => r = .int (nI w2) ∧ m = x2)) (e2 : x2.2.2 1 5 = rs)
    (t3 : Runs e_X4_readInt [.ref 1, .int (nI 0), .int (nI 99)] (wI x2 (rt + 7) W (nI w2)) (fun r m => r = .int (nI w3) ∧ m = x3)) (t4 : Runs e_X4_take [.ref 1, .int (nI 28)] (wI x3 (rs + 3) W (nI w3)) (fun r m => r = .int (bI ok4) ∧ m = x4)) (e4 : x4.2.2 1 4 = rt) (c4 : x4.1 rt 13 = nI W) :
    Runs e_X4_readWood [.ref 1] x (fun r m => r = .null ∧ m = if ok1 = true then wI x4 rt 13 (nI (W + 1)) else x1) := by
  apply b_X4_readWood
  rw [r1, c13]
  refine ⟨ht.at, bcall t1 (fun z m1 e => ?_) (fun z m1 e => ?_)⟩
  · subst e
    have hW8 := hW z
    rw [e1, r1, nI_clamp (by omega)]
    refine ⟨ht.at, icall t2 ?_⟩
    rintro m rfl
    rw [e2]
    refine ⟨vp_in_nI hW8 (by omega), hs.s.at, icall t3 ?_⟩
    rintro m' rfl
    have last : AtTown (x4.2.2 1 4) ∧ (Value.null = .null ∧ wI x4 (x4.2.2 1 4) 13 ((x4.1 (x4.2.2 1 4) 13) + (1 : Int32)) = if ok1 = true then wI x4 rt 13 (nI (W + 1)) else m1) := by
      rw [e4, c4, nI_1, if_pos z]
      exact ⟨ht.at, rfl, rfl⟩
    refine ⟨vp_in_nI hW8 (by omega), bcall t4 (fun _ m e => ?_) (fun _ m e => ?_)⟩
    · subst e; exact last
    · subst e; exact last
  · rw [if_neg (by rw [z]; decide)]
    exact ⟨rfl, e⟩
end

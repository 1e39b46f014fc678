/-! the first memory -/
theorem first_refs : tm_X12.2.2 0 9 = 100 ∧ tm_X12.2.2 0 10 = 114 ∧ tm_X12.2.2 1 4 = 10 ∧ tm_X12.2.2 1 5 = 24 := by decide +kernel
theorem first_162 : tm_X12.1 162 0 = 0 ∧ tm_X12.1 162 1 = 0 ∧ tm_X12.1 162 3 = 0 ∧ tm_X12.1 162 4 = 0 ∧ tm_X12.1 162 5 = 0 ∧ tm_X12.1 162 6 = 2 ∧ tm_X12.1 162 7 = 10 ∧ tm_X12.1 162 8 = 0 ∧ tm_X12.1 162 9 = 0 := by decide +kernel
theorem first_100 : tm_X12.1 100 8 = 0 ∧ tm_X12.1 100 9 = 0 ∧ tm_X12.1 100 10 = 0 ∧ tm_X12.1 100 11 = 0 ∧ tm_X12.1 100 12 = nI (quayN (tm_X12.1 162)) ∧ tm_X12.1 100 13 = 0 ∧ tm_X12.1 100 14 = 2 ∧ tm_X12.1 100 15 = 10 ∧ tm_X12.1 108 11 = 0 ∧ tm_X12.1 108 12 = 0 := by decide +kernel
theorem first_law : tm_X12.1 162 10 = -nI 1 ∧ tm_X12.1 108 8 = -nI 1 ∧ tm_X12.1 162 12 = -nI 1 ∧ tm_X12.1 108 9 = -nI 1 ∧ tm_X12.1 162 14 = -nI 1 ∧ tm_X12.1 108 10 = -nI 1 := by decide +kernel
theorem first_live : tm_X12.1 163 0 = 0 ∧ tm_X12.1 114 8 = 0 ∧ tm_X12.1 163 1 = 0 ∧ tm_X12.1 114 7 = 0 ∧ tm_X12.1 163 2 = 0 ∧ tm_X12.1 121 6 = 0 := by decide +kernel
theorem first_hgt : ∀ h, h < 16 → tm_X12.1 163 (10 + h) = 0 ∧ tm_X12.1 115 h = 0 ∧ tm_X12.1 163 (30 + h) = -nI 2 := by decide +kernel
theorem first_rest : tm_X12.1 99 0 = 0 ∧ tm_X12.1 99 1 = 0 ∧ tm_X12.1 174 1 = 0 ∧ tm_X12.1 174 2 = 0 ∧ tm_X12.1 95 2 = 0 ∧ tm_X12.1 156 50 = 0 ∧ tm_X12.1 5 4 = 0 ∧ tm_X12.1 156 0 = 0 ∧ tm_X12.1 1 8 = tm_X12.1 156 9 ∧ tm_X12.1 41 4 = 0 ∧ tm_X12.1 41 5 = 0 ∧ tm_X12.1 156 40 = 0 := by decide +kernel
theorem RR_first : RR tm_X12 := by
  obtain ⟨a1, a2, a3, a4, a5, a6, a7, a8, a9⟩ := first_162
  obtain ⟨l1, l2, l3, l4, l5, l6⟩ := first_law
  obtain ⟨v1, v2, v3, v4, v5, v6⟩ := first_live
  obtain ⟨r1, r2, r3, r4, r5, r6, r7, r8, r9, r10, r11, r12⟩ := first_rest
  refine ⟨100, 114, 0, 0, 0, 0, 0, 2, 10, 0, 0, Or.inr rfl, Or.inr rfl, first_refs, ⟨⟨⟨by omega, by omega, by omega, by omega, by omega, by omega, by omega, by omega, by omega⟩, first_162, first_100, fun h hh => absurd hh (by omega), fun h hh => absurd hh (by omega), fun h hh => absurd hh (by omega), fun h hh => absurd hh (by omega), fun h hh => absurd hh (by omega), ⟨Or.inl ⟨l1, l2⟩, Or.inl ⟨l3, l4⟩, Or.inl ⟨l5, l6⟩⟩, fun h hh => absurd hh (by omega), fun h hh => absurd hh (by omega)⟩, ⟨⟨0, by omega, v1, v2⟩, fun h hh => ?_, fun h hh hp => absurd hp (by omega), fun h h' hh hh' _ _ => ?_, fun w hw => absurd hw (by omega), ⟨0, by omega, v3, v4, fun i hi => absurd hi (by omega)⟩, ⟨0, by omega, v5, v6, fun i hi => absurd hi (by omega)⟩⟩, Or.inl ⟨r1, r3⟩, Or.inl ⟨r2, r4⟩, ⟨0, by omega, r5, r6, fun i hi => absurd hi (by omega)⟩, ⟨0, by omega, r7, r8, fun i hi => absurd hi (by omega)⟩, r9⟩, ⟨0, 0, by omega, by omega, r10, r11, r12, fun i hi => absurd hi (by omega)⟩⟩
  · obtain ⟨q1, q2, q3⟩ := first_hgt h hh
    rw [Nat.zero_add]
    exact ⟨⟨0, by omega, q1⟩, q2.trans q1.symm⟩
  · rw [Nat.zero_add]
    exact (first_hgt h hh).2.2

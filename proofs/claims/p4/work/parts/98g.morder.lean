/-! the sections' order -/
theorem ordF : ∀ id, id < 256 → (∀ k, k < 12 → ((ordL.getD k 0 = id → mOrd id = k + 1) ∧ ordL.getD k 0 < 256)) ∧ ((∀ k, k < 12 → ¬ ordL.getD k 0 = id) → mOrd id = 0) := by decide +kernel
theorem sp_orderOf : zOrd := by
  intro id σ K QX hid h
  have hF := ordF id hid
  refine rX10_orderOf pnX10 (fun m x0 x1 s => ∃ k, m + k = 12 ∧ x0 = nI id ∧ x1 = nI k ∧ s = σ ∧ ∀ j, j < k → ¬ ordL.getD j 0 = id) ?_ ?_
  · rintro m x0 x1 s ⟨k, hm, rfl, rfl, rfl, hno⟩
    unfold PX10_orderOf_2
    refine sp_Jlen ?_
    have c1 : (12 : Int32) ≤ nI k ↔ 12 ≤ k := nI_leI (a := 12) (by decide) (by omega)
    rw [c1]
    refine ⟨fun q => ?_, fun q => ?_⟩
    · have e := hF.2 (fun j hj => hno j (by omega))
      rw [e] at h
      exact h
    · refine sp_Jch (by omega) ?_
      have hk := hF.1 k (by omega)
      have c2 : nI (ordL.getD k 0) = nI id ↔ ordL.getD k 0 = id := nI_eq (by have := hk.2; omega) (by omega)
      rw [c2]
      refine ⟨fun q2 => ?_, fun q2 => ⟨m - 1, by show m - 1 < m; omega, k + 1, by omega, rfl, nI_1 k, rfl, fun j hj => ?_⟩⟩
      · rw [hk.1 q2, nI_sub1] at h
        exact h
      · by_cases q3 : j = k
        · rw [q3]; exact q2
        · exact hno j (by omega)
  · exact ⟨12, trivial, 0, rfl, rfl, rfl, rfl, fun j hj => absurd hj (Nat.not_lt_zero _)⟩

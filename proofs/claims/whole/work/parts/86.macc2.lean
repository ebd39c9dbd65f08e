/-! the typing of memory's instructions -/
def vt0 (x : Nat) : Nat := if x = 40 then 0 else if x < 44 then (if x = 54 then 0 else if x = 58 then 0 else if x = 59 then 0 else 1) else if x ≤ 47 then 0 else if x = 54 then 0 else if x = 58 then 0 else if x = 59 then 0 else 1
theorem vt0_le (x : Nat) : vt0 x ≤ 1 := by
  unfold vt0
  repeat' split
  all_goals decide
theorem sp_valueType {x : Nat} {σ : zS} {K : Int32 → zS → Prop} {QX : zS → Prop} (hx : x < 256) (h : K (nI (vt0 x)) σ) : zCT zZM zmX10_valueType [.int (nI x)] σ (zQi K) QX := by
  refine rX10_valueType ?_
  unfold PX10_valueType_0
  rw [vt0] at h
  have e40 : nI x = (40 : Int32) ↔ x = 40 := nI_eq (b := 40) (by omega) (by decide)
  have e54 : nI x = (54 : Int32) ↔ x = 54 := nI_eq (b := 54) (by omega) (by decide)
  have e58 : nI x = (58 : Int32) ↔ x = 58 := nI_eq (b := 58) (by omega) (by decide)
  have e59 : nI x = (59 : Int32) ↔ x = 59 := nI_eq (b := 59) (by omega) (by decide)
  have l44 : nI x < (44 : Int32) ↔ x < 44 := nI_ltI (b := 44) (by omega) (by decide)
  have m47 : nI x ≤ (47 : Int32) ↔ x ≤ 47 := nI_leI (b := 47) (by omega) (by decide)
  rw [e40, l44, e54, e58, e59, m47]
  refine ⟨fun q => ?_, fun q => ?_⟩
  · rw [if_pos q] at h; exact h
  rw [if_neg q] at h
  refine ⟨fun q => ?_, fun q => ?_⟩
  · rw [if_pos q] at h
    refine ⟨fun q => ?_, fun q => ?_⟩
    · rw [if_pos q] at h; exact h
    rw [if_neg q] at h
    refine ⟨fun q => ?_, fun q => ?_⟩
    · rw [if_pos q] at h; exact h
    rw [if_neg q] at h
    refine ⟨fun q => ?_, fun q => ?_⟩
    · rw [if_pos q] at h; exact h
    rw [if_neg q] at h
    exact h
  · rw [if_neg q] at h
    refine ⟨fun q => ?_, fun q => ?_⟩
    · rw [if_pos q] at h; exact h
    rw [if_neg q] at h
    refine ⟨fun q => ?_, fun q => ?_⟩
    · rw [if_pos q] at h; exact h
    rw [if_neg q] at h
    refine ⟨fun q => ?_, fun q => ?_⟩
    · rw [if_pos q] at h; exact h
    rw [if_neg q] at h
    refine ⟨fun q => ?_, fun q => ?_⟩
    · rw [if_pos q] at h; exact h
    rw [if_neg q] at h
    exact h
def wd0 (x : Nat) : Nat := if x = 40 ∨ x = 52 ∨ x = 53 ∨ x = 54 ∨ x = 62 then 2 else if x = 41 ∨ x = 55 then 3 else if x = 46 ∨ x = 47 ∨ x = 50 ∨ x = 51 ∨ x = 59 ∨ x = 61 then 1 else 0

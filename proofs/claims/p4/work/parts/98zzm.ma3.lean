/-! one instruction: as the class reads it, as the model does -/
def folB (x : Nat) : Bool := decide (isOp x = false ↔ mFollows x = 10) && (decide (mFollows x = 1 ↔ (x = 2 ∨ x = 3 ∨ x = 4)) && (decide (mFollows x = 2 ↔ (x = 12 ∨ x = 13 ∨ x = 16 ∨ (32 ≤ x ∧ x ≤ 36))) && (decide (mFollows x = 8 ↔ x = 14) && (decide (mFollows x = 6 ↔ x = 17) && (decide (mFollows x = 7 ↔ (x = 63 ∨ x = 64)) && (decide (mFollows x = 3 ↔ x = 65) && (decide (mFollows x = 4 ↔ x = 66) && (decide (mFollows x = 5 ↔ (isOp x = true ∧ 40 ≤ x ∧ x ≤ 62)) && (decide (¬ mFollows x = 9) && (decide (mFollows x ≤ 10)))))))))))
theorem fol_b : ∀ x, x < 256 → decide (x = 252) = false → folB x = true := by decide +kernel
theorem fol_1 (x : Nat) (hx : x < 256) (h : decide (x = 252) = false) : (isOp x = false ↔ mFollows x = 10) ∧ (mFollows x = 1 ↔ (x = 2 ∨ x = 3 ∨ x = 4)) ∧ (mFollows x = 2 ↔ (x = 12 ∨ x = 13 ∨ x = 16 ∨ (32 ≤ x ∧ x ≤ 36))) ∧ (mFollows x = 8 ↔ x = 14) ∧ (mFollows x = 6 ↔ x = 17) ∧ (mFollows x = 7 ↔ (x = 63 ∨ x = 64)) ∧ (mFollows x = 3 ↔ x = 65) ∧ (mFollows x = 4 ↔ x = 66) ∧ (mFollows x = 5 ↔ (isOp x = true ∧ 40 ≤ x ∧ x ≤ 62)) ∧ (¬ mFollows x = 9) ∧ (mFollows x ≤ 10) := by
  have z := fol_b x hx h
  unfold folB at z
  simp only [Bool.and_eq_true, decide_eq_true_iff] at z
  exact z
theorem fol_252 : mFollows 252 = 9 := by decide +kernel
theorem bind_ok {α : Type} {x : mE α} : (x.bind fun r => .ok r) = x := by cases x <;> rfl
/-- behind the first byte x, of one byte -/
theorem ma_is1 {b : Nat → Nat} {e x fr a : Nat} {hc : Bool} (hx : x < 256) (h : ¬ x = 252) : mOps b e hc x fr a = if isOp x = false then .error (1, fr) else if x = 14 then (mLb b e a).bind fun l => .ok ((x, 0, l.1), l.2) else (mArg b e x a).bind fun r => .ok ((x, r.1, []), r.2) := by
  obtain ⟨c10, c1, c2, c8, c6, c7, c3, c4, c5, c9, cl⟩ := fol_1 x hx (decide_eq_false h)
  unfold mOps
  by_cases q10 : isOp x = false
  · rw [if_pos q10, c10.1 q10]
    rfl
  rw [if_neg q10]
  have q10' : isOp x = true := by cases z : isOp x; exact absurd z q10; rfl
  by_cases q14 : x = 14
  · have e8 := c8.2 q14
    rw [if_pos q14, e8]
    show (mU b e a).bind _ = _
    unfold mLb
    cases mU b e a with
    | error q => rfl
    | ok n =>
      show (if 256 < n.1 then (.error (4, a) : mE (mInsT × Nat)) else _) = Except.bind (if 256 < n.1 then (.error (4, a) : mE (List Nat × Nat)) else _) _
      by_cases q : 256 < n.1
      · rw [if_pos q, if_pos q]; rfl
      · rw [if_neg q, if_neg q]
  rw [if_neg q14]
  unfold mArg
  by_cases q1 : x = 2 ∨ x = 3 ∨ x = 4
  · rw [if_pos q1, c1.2 q1]; rfl
  rw [if_neg q1]
  by_cases q2 : x = 12 ∨ x = 13 ∨ x = 16 ∨ (32 ≤ x ∧ x ≤ 36)
  · rw [if_pos (show x = 12 ∨ x = 13 ∨ x = 16 ∨ (32 ≤ x ∧ x ≤ 36) ∨ x = 265 ∨ x = 269 by omega), c2.2 q2]; rfl
  rw [if_neg (show ¬ (x = 12 ∨ x = 13 ∨ x = 16 ∨ (32 ≤ x ∧ x ≤ 36) ∨ x = 265 ∨ x = 269) by omega)]
  by_cases q6 : x = 17
  · rw [if_pos (Or.inl q6), c6.2 q6]
    show (mU b e a).bind _ = _
    cases mU b e a with
    | error q => rfl
    | ok u =>
      show (mNeed b e 0 u.2).bind _ = Except.bind (Except.bind (mNeed b e 0 u.2) _) _
      cases mNeed b e 0 u.2 <;> rfl
  rw [if_neg (show ¬ (x = 17 ∨ x = 264 ∨ x = 268) by omega)]
  by_cases q7 : x = 63 ∨ x = 64
  · rw [if_pos (show x = 63 ∨ x = 64 ∨ x = 267 by omega), c7.2 q7]
    show (mNeed b e 0 a).bind _ = _
    cases mNeed b e 0 a <;> rfl
  rw [if_neg (show ¬ (x = 63 ∨ x = 64 ∨ x = 267) by omega)]
  by_cases q3 : x = 65
  · rw [if_pos q3, c3.2 q3]
    show (mSg b e 5 7 120 a).bind _ = _
    cases mSg b e 5 7 120 a <;> rfl
  rw [if_neg q3]
  by_cases q4 : x = 66
  · rw [if_pos q4, c4.2 q4]
    show (mSg b e 10 0 127 a).bind _ = _
    cases mSg b e 10 0 127 a <;> rfl
  rw [if_neg q4, if_neg (show ¬ (x = 266 ∨ x = 270) by omega)]
  by_cases q5 : 40 ≤ x ∧ x ≤ 62
  · rw [if_pos q5, c5.2 ⟨q10', q5⟩]
    show (mU b e a).bind _ = _
    cases mU b e a with
    | error q => rfl
    | ok u =>
      show (mU b e u.2).bind _ = Except.bind (Except.bind (mU b e u.2) _) _
      cases mU b e u.2 <;> rfl
  rw [if_neg q5]
  have e0 : mFollows x = 0 := by
    have n1 : ¬ mFollows x = 1 := fun z => q1 (c1.1 z)
    have n2 : ¬ mFollows x = 2 := fun z => q2 (c2.1 z)
    have n3 : ¬ mFollows x = 3 := fun z => q3 (c3.1 z)
    have n4 : ¬ mFollows x = 4 := fun z => q4 (c4.1 z)
    have n5 : ¬ mFollows x = 5 := fun z => q5 (c5.1 z).2
    have n6 : ¬ mFollows x = 6 := fun z => q6 (c6.1 z)
    have n7 : ¬ mFollows x = 7 := fun z => q7 (c7.1 z)
    have n8 : ¬ mFollows x = 8 := fun z => q14 (c8.1 z)
    have n10 : ¬ mFollows x = 10 := fun z => q10 (c10.2 z)
    omega
  rw [e0]
  rfl

/-! one instruction of a body -/
theorem op_15 : ∀ x, x < 16 → isOp x = true → 5 < x → 11 ≤ x := by decide +kernel
/-- an instruction without an argument looks at none -/
theorem cStep_k {E : tE} {x k k' : Nat} {l : List Nat} {t : tT} (hx : isOp x = true) (hx2 : x < 300) (h : hasArg x = false) : cStep E x k l t = cStep E x k' l t := by
  have hn : ¬ (x = 12 ∨ x = 13 ∨ x = 16 ∨ x = 17 ∨ (32 ≤ x ∧ x ≤ 36) ∨ (40 ≤ x ∧ x ≤ 62) ∨ x = 264 ∨ x = 265 ∨ x = 268 ∨ x = 269) := of_decide_eq_false h
  unfold cStep
  by_cases q : x ≤ 5 ∨ x = 11
  · rw [if_pos q, if_pos q]
  rw [if_neg q, if_neg q]
  by_cases q14 : x = 14
  · rw [if_pos q14, if_pos q14]
  rw [if_neg q14, if_neg q14]
  by_cases q15 : x ≤ 15
  · rw [if_pos q15, if_pos q15]
    have e := op_15 x (by omega) hx (by omega)
    rw [if_pos (by omega), if_pos (by omega)]
  rw [if_neg q15, if_neg q15, if_neg (show ¬ x = 16 by omega), if_neg (show ¬ x = 16 by omega), if_neg (show ¬ x = 17 by omega), if_neg (show ¬ x = 17 by omega)]
  by_cases q27 : x ≤ 27
  · rw [if_pos q27, if_pos q27]
  rw [if_neg q27, if_neg q27]
  by_cases q34 : x ≤ 34
  · exfalso; have := op_local x (by omega) hx (by omega); omega
  rw [if_neg q34, if_neg q34, if_neg (show ¬ x ≤ 36 by omega), if_neg (show ¬ x ≤ 36 by omega)]
  by_cases q62 : x ≤ 62
  · exfalso
    have z' := op_acc x (by omega) hx (by omega)
    unfold isAcc at z'
    simp only [Bool.and_eq_true, decide_eq_true_eq] at z'
    omega
  rw [if_neg q62, if_neg q62]
  by_cases q64 : x ≤ 64
  · rw [if_pos q64, if_pos q64]
  rw [if_neg q64, if_neg q64]
  by_cases q256 : x < 256
  · rw [if_pos q256, if_pos q256]
  rw [if_neg q256, if_neg q256]
  unfold tB0 tB138
  rw [if_neg (show ¬ x - 256 = 8 by omega), if_neg (show ¬ x - 256 = 8 by omega), if_neg (show ¬ x - 256 = 9 by omega), if_neg (show ¬ x - 256 = 9 by omega), if_neg (show ¬ x - 256 = 12 by omega), if_neg (show ¬ x - 256 = 12 by omega), if_neg (show ¬ x - 256 = 13 by omega), if_neg (show ¬ x - 256 = 13 by omega)]
/-- a row of labels; an instruction of a body, where ow are open -/
def mLb (b : Nat → Nat) (e a : Nat) : mE (List Nat × Nat) := (mU b e a).bind fun n => if 256 < n.1 then .error (4, a) else mRow (mU b e) none (n.1 + 1) [] n.2
def mLk (x fr : Nat) (ow : List Nat) (nd : Option Nat) : mE Unit := if (2 ≤ x ∧ x ≤ 4) ∧ ow.length = 60 then .error (4, fr) else if x = 5 ∧ ¬ ow.head? = some 4 then .error (1, fr) else if (x = 264 ∨ x = 265) ∧ nd = none then .error (1, fr) else .ok ()
def mIs (b : Nat → Nat) (e : Nat) (nd : Option Nat) (ow : List Nat) (a : Nat) : mE ((Nat × Nat × List Nat) × Nat) := (mNum b e a).bind fun k => (mLk k.1 a ow nd).bind fun _ =>
  if k.1 = 14 then (mLb b e k.2).bind fun l => .ok ((k.1, 0, l.1), l.2) else (mArg b e k.1 k.2).bind fun r => .ok ((k.1, r.1, []), r.2)

theorem ma_is2 {b : Nat → Nat} {e fr a : Nat} {hc : Bool} : mOps b e hc 252 fr a = (mU b e a).bind fun n => if n.1 < 8 ∨ 14 < n.1 then .error (1, a) else if (n.1 = 8 ∨ n.1 = 9) ∧ hc = false then .error (1, fr) else (mArg b e (256 + n.1) n.2).bind fun r => .ok ((256 + n.1, r.1, []), r.2) := by
  unfold mOps
  rw [fol_252]
  show (mU b e a).bind _ = _
  refine congrArg (fun f => Except.bind (mU b e a) f) (funext fun n => ?_)
  obtain ⟨v, p⟩ := n
  show (if v < 8 ∨ 14 < v then (.error (1, a) : mE (mInsT × Nat)) else if (v = 8 ∨ v = 9) ∧ hc = false then .error (1, fr) else _) = (if v < 8 ∨ 14 < v then (.error (1, a) : mE (mInsT × Nat)) else if (v = 8 ∨ v = 9) ∧ hc = false then .error (1, fr) else _)
  by_cases q : v < 8 ∨ 14 < v
  · rw [if_pos q, if_pos q]
  rw [if_neg q, if_neg q]
  by_cases q2 : (v = 8 ∨ v = 9) ∧ hc = false
  · rw [if_pos q2, if_pos q2]
  rw [if_neg q2, if_neg q2]
  have hv : v = 8 ∨ v = 9 ∨ v = 10 ∨ v = 11 ∨ v = 12 ∨ v = 13 ∨ v = 14 := by omega
  rcases hv with rfl | rfl | rfl | rfl | rfl | rfl | rfl
  · show (mU b e p).bind _ = Except.bind (Except.bind (mU b e p) _) _
    cases mU b e p with
    | error q => rfl
    | ok u =>
      show (mNeed b e 0 u.2).bind _ = Except.bind (Except.bind (mNeed b e 0 u.2) _) _
      cases mNeed b e 0 u.2 <;> rfl
  · show (mU b e p).bind _ = Except.bind (mU b e p) _
    cases mU b e p <;> rfl
  · show Except.bind (Except.bind (mNeed b e 0 p) _) _ = Except.bind (Except.bind (mNeed b e 0 p) _) _
    cases mNeed b e 0 p with
    | error q => rfl
    | ok u =>
      show (mNeed b e 0 u).bind _ = Except.bind (Except.bind (mNeed b e 0 u) _) _
      cases mNeed b e 0 u <;> rfl
  · show (mNeed b e 0 p).bind _ = Except.bind (Except.bind (mNeed b e 0 p) _) _
    cases mNeed b e 0 p <;> rfl
  · show (mU b e p).bind _ = Except.bind (Except.bind (mU b e p) _) _
    cases mU b e p with
    | error q => rfl
    | ok u =>
      show (mNeed b e 0 u.2).bind _ = Except.bind (Except.bind (mNeed b e 0 u.2) _) _
      cases mNeed b e 0 u.2 <;> rfl
  · show (mU b e p).bind _ = Except.bind (mU b e p) _
    cases mU b e p <;> rfl
  · show Except.bind (Except.bind (mNeed b e 0 p) _) _ = Except.bind (Except.bind (mNeed b e 0 p) _) _
    cases mNeed b e 0 p with
    | error q => rfl
    | ok u =>
      show (mNeed b e 0 u).bind _ = Except.bind (Except.bind (mNeed b e 0 u) _) _
      cases mNeed b e 0 u <;> rfl

/-! one instruction in the model is one in the class -/
theorem op_low : ∀ x, x ≤ 5 → isOp x = true := by decide +kernel
theorem mOct_lt {b : Nat → Nat} {e a : Nat} {r : Nat × Nat} (hb : ∀ j, j < e → b j < 256) (h : mOct b e a = .ok r) : r.1 < 256 := by
  obtain ⟨h1, h2⟩ := mOct_in h
  rw [h2]
  exact hb a h1
theorem ma_is {b : Nat → Nat} {e a : Nat} {ow : List Nat} {nd : Option Nat} (hb : ∀ j, j < e → b j < 256) : mIs b e nd ow a = (mOct b e a).bind fun k => if (2 ≤ k.1 ∧ k.1 ≤ 4) ∧ ow.length = 60 then .error (4, a) else if k.1 = 5 ∧ ¬ ow.head? = some 4 then .error (1, a) else mOps b e nd.isSome k.1 a k.2 := by
  unfold mIs mNum
  cases hk : mOct b e a with
  | error q => rfl
  | ok k =>
    have h256 := mOct_lt hb hk
    show Except.bind (if k.1 = 252 then (mU b e k.2).bind fun n => if n.1 < 8 ∨ 14 < n.1 then .error (1, k.2) else .ok (256 + n.1, n.2) else if isOp k.1 = true then .ok k else .error (1, a) : mE (Nat × Nat)) _ = (if (2 ≤ k.1 ∧ k.1 ≤ 4) ∧ ow.length = 60 then .error (4, a) else if k.1 = 5 ∧ ¬ ow.head? = some 4 then .error (1, a) else mOps b e nd.isSome k.1 a k.2 : mE (mInsT × Nat))
    by_cases q : k.1 = 252
    · rw [if_pos q, if_neg (by omega), if_neg (by omega), q, ma_is2]
      cases hu : mU b e k.2 with
      | error q => rfl
      | ok n =>
        show Except.bind (if n.1 < 8 ∨ 14 < n.1 then .error (1, k.2) else .ok (256 + n.1, n.2) : mE (Nat × Nat)) _ = (if n.1 < 8 ∨ 14 < n.1 then .error (1, k.2) else if (n.1 = 8 ∨ n.1 = 9) ∧ nd.isSome = false then .error (1, a) else (mArg b e (256 + n.1) n.2).bind fun r => .ok ((256 + n.1, r.1, []), r.2) : mE (mInsT × Nat))
        by_cases q2 : n.1 < 8 ∨ 14 < n.1
        · rw [if_pos q2, if_pos q2]; rfl
        · rw [if_neg q2, if_neg q2]
          show Except.bind (mLk (256 + n.1) a ow nd) _ = _
          have e0 : ((n.1 = 8 ∨ n.1 = 9) ∧ nd.isSome = false) ↔ ((256 + n.1 = 264 ∨ 256 + n.1 = 265) ∧ nd = none) := by
            rw [Option.isSome_eq_false_iff, Option.isNone_iff_eq_none]
            exact ⟨fun z => ⟨by omega, z.2⟩, fun z => ⟨by omega, z.2⟩⟩
          unfold mLk
          rw [if_neg (by omega), if_neg (by omega)]
          by_cases q3 : (n.1 = 8 ∨ n.1 = 9) ∧ nd.isSome = false
          · rw [if_pos q3, if_pos (e0.1 q3)]; rfl
          · rw [if_neg q3, if_neg (fun z => q3 (e0.2 z))]
            show (if 256 + n.1 = 14 then (mLb b e n.2).bind fun l => .ok ((256 + n.1, 0, l.1), l.2) else (mArg b e (256 + n.1) n.2).bind fun r => .ok ((256 + n.1, r.1, []), r.2) : mE ((Nat × Nat × List Nat) × Nat)) = _
            rw [if_neg (by omega)]
    · rw [if_neg q, ma_is1 h256 q]
      by_cases qo : isOp k.1 = true
      · rw [if_pos qo, if_neg (show ¬ isOp k.1 = false by rw [qo]; decide)]
        show Except.bind (mLk k.1 a ow nd) _ = _
        unfold mLk
        by_cases q1 : (2 ≤ k.1 ∧ k.1 ≤ 4) ∧ ow.length = 60
        · rw [if_pos q1, if_pos q1]; rfl
        rw [if_neg q1, if_neg q1]
        by_cases q2 : k.1 = 5 ∧ ¬ ow.head? = some 4
        · rw [if_pos q2, if_pos q2]; rfl
        rw [if_neg q2, if_neg q2, if_neg (by omega)]
        rfl
      · have qf : isOp k.1 = false := by simpa using qo
        have h5 : ¬ k.1 ≤ 5 := fun z => qo (op_low _ z)
        rw [if_neg qo, if_pos qf, if_neg (by omega), if_neg (by omega)]
        rfl
/-- the rest of a body: none stands open: its end -/
def mCn (b : Nat → Nat) (e : Nat) (hc : Bool) (f : Nat) (o : Option (List Nat)) (l : List (Nat × mInsT)) (a : Nat) : mE (List (Nat × mInsT) × Nat) := match o with
  | none => .ok (l, a)
  | some ow => mCode b e hc f ow l a
theorem mNx_op {k x : Nat} {ow : List Nat} (h1 : ¬ k = 252 → x = k) (h2 : k = 252 → 264 ≤ x) : mNx k ow = mNx x ow := by
  by_cases q : k = 252
  · have := h2 q
    unfold mNx
    rw [if_neg (by omega), if_neg (by omega), if_neg (by omega), if_neg (by omega), if_neg (by omega), if_neg (by omega)]
  · rw [h1 q]
theorem mCodeN {b : Nat → Nat} {e f a : Nat} {ow : List Nat} {nd : Option Nat} {l : List (Nat × mInsT)} (hb : ∀ j, j < e → b j < 256) : mCode b e nd.isSome (f + 1) ow l a = (mIs b e nd ow a).bind fun r => mCn b e nd.isSome f (mNx r.1.1 ow) (l ++ [(a, r.1)]) r.2 := by
  rw [mCodeS, ma_is hb]
  cases hk : mOct b e a with
  | error q => rfl
  | ok k =>
    have h256 := mOct_lt hb hk
    show (if (2 ≤ k.1 ∧ k.1 ≤ 4) ∧ ow.length = 60 then .error (4, a)
    else if k.1 = 5 ∧ ¬ ow.head? = some 4 then .error (1, a)
    else (mOps b e nd.isSome k.1 a k.2).bind fun r =>
      if 2 ≤ k.1 ∧ k.1 ≤ 4 then mCode b e nd.isSome f (k.1 :: ow) (l ++ [(a, r.1)]) r.2
      else if k.1 = 5 then mCode b e nd.isSome f (5 :: ow.tail) (l ++ [(a, r.1)]) r.2
      else if k.1 = 11 then mC11 b e nd.isSome f ow (l ++ [(a, r.1)]) r.2
      else mCode b e nd.isSome f ow (l ++ [(a, r.1)]) r.2 : mE (List (Nat × mInsT) × Nat)) = Except.bind (if (2 ≤ k.1 ∧ k.1 ≤ 4) ∧ ow.length = 60 then .error (4, a) else if k.1 = 5 ∧ ¬ ow.head? = some 4 then .error (1, a) else mOps b e nd.isSome k.1 a k.2 : mE (mInsT × Nat)) _
    by_cases q1 : (2 ≤ k.1 ∧ k.1 ≤ 4) ∧ ow.length = 60
    · rw [if_pos q1, if_pos q1]; rfl
    rw [if_neg q1, if_neg q1]
    by_cases q2 : k.1 = 5 ∧ ¬ ow.head? = some 4
    · rw [if_pos q2, if_pos q2]; rfl
    rw [if_neg q2, if_neg q2]
    cases hO : mOps b e nd.isSome k.1 a k.2 with
    | error q => rfl
    | ok r =>
      obtain ⟨x1, x2⟩ := mOps_op (x := r.1) (z := r.2) h256 hO
      show _ = mCn b e nd.isSome f (mNx r.1.1 ow) (l ++ [(a, r.1)]) r.2
      rw [← mNx_op (k := k.1) (x := r.1.1) x1 x2]
      show (if 2 ≤ k.1 ∧ k.1 ≤ 4 then mCode b e nd.isSome f (k.1 :: ow) (l ++ [(a, r.1)]) r.2
      else if k.1 = 5 then mCode b e nd.isSome f (5 :: ow.tail) (l ++ [(a, r.1)]) r.2
      else if k.1 = 11 then mC11 b e nd.isSome f ow (l ++ [(a, r.1)]) r.2
      else mCode b e nd.isSome f ow (l ++ [(a, r.1)]) r.2 : mE (List (Nat × mInsT) × Nat)) = _
      unfold mNx
      by_cases c1 : 2 ≤ k.1 ∧ k.1 ≤ 4
      · rw [if_pos c1, if_pos c1]; rfl
      rw [if_neg c1, if_neg c1]
      by_cases c2 : k.1 = 5
      · rw [if_pos c2, if_pos c2]; rfl
      rw [if_neg c2, if_neg c2]
      by_cases c3 : k.1 = 11
      · rw [if_pos c3, if_pos c3]
        cases ow <;> rfl
      rw [if_neg c3, if_neg c3]
      rfl
theorem mIs_in {b : Nat → Nat} {e a : Nat} {ow : List Nat} {nd : Option Nat} {r : mInsT × Nat} (hb : ∀ j, j < e → b j < 256) (h : mIs b e nd ow a = .ok r) : a < r.2 ∧ r.2 ≤ e := by
  rw [ma_is hb] at h
  cases hk : mOct b e a with
  | error q => rw [hk] at h; cases h
  | ok k =>
    rw [hk] at h
    obtain ⟨h1, h2⟩ := mOct_in hk
    have h : (if (2 ≤ k.1 ∧ k.1 ≤ 4) ∧ ow.length = 60 then .error (4, a) else if k.1 = 5 ∧ ¬ ow.head? = some 4 then .error (1, a) else mOps b e nd.isSome k.1 a k.2 : mE (mInsT × Nat)) = .ok r := h
    by_cases q1 : (2 ≤ k.1 ∧ k.1 ≤ 4) ∧ ow.length = 60
    · rw [if_pos q1] at h; cases h
    rw [if_neg q1] at h
    by_cases q2 : k.1 = 5 ∧ ¬ ow.head? = some 4
    · rw [if_pos q2] at h; cases h
    rw [if_neg q2] at h
    have e2 : k.2 = a + 1 := by rw [h2]
    have := mW_get (mOps_in (b := b) (e := e) (op := k.1) (fr := a) (hc := nd.isSome) (show k.2 ≤ e by omega)) h
    omega
theorem mIs_op {b : Nat → Nat} {e a : Nat} {ow : List Nat} {nd : Option Nat} {r : mInsT × Nat} (h : mIs b e nd ow a = .ok r) : isOp r.1.1 = true ∧ r.1.1 < 300 := by
  unfold mIs at h
  cases hk : mNum b e a with
  | error q => rw [hk] at h; cases h
  | ok k =>
    rw [hk] at h
    have z := mNum_op hk
    have h : (mLk k.1 a ow nd).bind (fun _ => if k.1 = 14 then (mLb b e k.2).bind fun l => .ok ((k.1, 0, l.1), l.2) else (mArg b e k.1 k.2).bind fun r => .ok ((k.1, r.1, []), r.2)) = (.ok r : mE (mInsT × Nat)) := h
    cases hl : mLk k.1 a ow nd with
    | error q => rw [hl] at h; cases h
    | ok u =>
      rw [hl] at h
      have h : (if k.1 = 14 then (mLb b e k.2).bind fun l => .ok ((k.1, 0, l.1), l.2) else (mArg b e k.1 k.2).bind fun r => .ok ((k.1, r.1, []), r.2)) = (.ok r : mE (mInsT × Nat)) := h
      by_cases q : k.1 = 14
      · rw [if_pos q] at h
        cases hb : mLb b e k.2 with
        | error q => rw [hb] at h; cases h
        | ok l => rw [hb] at h; cases h; exact z
      · rw [if_neg q] at h
        cases hb : mArg b e k.1 k.2 with
        | error q => rw [hb] at h; cases h
        | ok l => rw [hb] at h; cases h; exact z

/-! one section in the model, as the class reads it -/
def mS1 (b : Nat → Nat) (e last : Nat) (A : mA) (a : Nat) : mE ((mA × Nat) × Nat) := if ¬ b a = 0 ∧ mOrd (b a) ≤ last then .error (1, a) else (mU b e (a + 1)).bind fun z => if e - z.2 < z.1 then .error (1, a + 1) else (if b a = 0 then (mName b (z.2 + z.1) false z.2).bind fun _ => .ok (A, z.2 + z.1) else mSec b (z.2 + z.1) (b a) A z.2 : mE (mA × Nat)).bind fun r => if r.2 < z.2 + z.1 then .error (1, r.2) else if mNoFit r.1 (b a) = true then .error (1, z.2 + z.1) else .ok ((r.1, if b a = 0 then last else mOrd (b a)), z.2 + z.1)
theorem mSecs_1 (b : Nat → Nat) (e f last : Nat) (A : mA) (a : Nat) : mSecs b e (f + 1) last A a = if ¬ a < e then (if mNoFit A 10 = true ∨ mNoFit A 11 = true then .error (1, e) else .ok A) else (mS1 b e last A a).bind fun r => mSecs b e f r.1.2 r.1.1 r.2 := by
  rw [mSecsS]
  unfold mS1
  by_cases q : ¬ a < e
  · rw [if_pos q, if_pos q]
  rw [if_neg q, if_neg q]
  by_cases q1 : ¬ b a = 0 ∧ mOrd (b a) ≤ last
  · rw [if_pos q1, if_pos q1]; rfl
  rw [if_neg q1, if_neg q1]
  cases mU b e (a + 1) with
  | error z => rfl
  | ok z =>
    show (if e - z.2 < z.1 then .error (1, a + 1) else _ : mE mA) = Except.bind (if e - z.2 < z.1 then .error (1, a + 1) else _ : mE ((mA × Nat) × Nat)) _
    by_cases q2 : e - z.2 < z.1
    · rw [if_pos q2, if_pos q2]; rfl
    rw [if_neg q2, if_neg q2]
    cases (if b a = 0 then (mName b (z.2 + z.1) false z.2).bind fun _ => .ok (A, z.2 + z.1) else mSec b (z.2 + z.1) (b a) A z.2 : mE (mA × Nat)) with
    | error y => rfl
    | ok r =>
      show (if r.2 < z.2 + z.1 then .error (1, r.2) else if mNoFit r.1 (b a) = true then .error (1, z.2 + z.1) else _ : mE mA) = Except.bind (if r.2 < z.2 + z.1 then .error (1, r.2) else if mNoFit r.1 (b a) = true then .error (1, z.2 + z.1) else _ : mE ((mA × Nat) × Nat)) _
      by_cases q3 : r.2 < z.2 + z.1
      · rw [if_pos q3, if_pos q3]; rfl
      rw [if_neg q3, if_neg q3]
      by_cases q4 : mNoFit r.1 (b a) = true
      · rw [if_pos q4, if_pos q4]; rfl
      rw [if_neg q4, if_neg q4]
      rfl
def mSB (b : Nat → Nat) (e k : Nat) (A : mA) (a : Nat) : mE (mA × Nat) := if k = 0 then (mName b e false a).bind fun _ => .ok (A, e) else mSec b e k A a
/-- a section's end: all must be read, and others must fit -/
def mSE (e k n : Nat) (A : mA) (p : Nat) : mE ((mA × Nat) × Nat) := (if p < e then .error (1, p) else .ok p : mE Nat).bind fun _ => (if mNoFit A k = true then .error (1, e) else .ok () : mE Unit).bind fun _ => .ok ((A, n), e)
def mS1c (b : Nat → Nat) (e n : Nat) (A : mA) (a : Nat) : mE ((mA × Nat) × Nat) := (mSn b e n a).bind fun k => (mLen b e k.2).bind fun z => (mSB b (z.2 + z.1) k.1 A z.2).bind fun r => mSE (z.2 + z.1) k.1 (if k.1 = 0 then n else mOrd k.1) r.1 r.2
theorem mOrd_hi {k : Nat} (h : 12 < k) : mOrd k = 0 := by unfold mOrd; rw [if_neg (by omega), if_neg (by omega), if_neg (by omega), if_neg (by omega)]
theorem mS1_eq {b : Nat → Nat} {e n a : Nat} {A : mA} (ha : a < e) : mS1 b e n A a = mS1c b e n A a := by
  have ho : mOct b e a = .ok (b a, a + 1) := by unfold mOct; rw [if_pos ha]
  unfold mS1 mS1c mSn mOw mLen
  rw [ho]
  show _ = Except.bind (Except.bind (if 0 ≤ b a ∧ b a ≤ 12 then .ok (b a, a + 1) else .error (1, a) : mE (Nat × Nat)) _) _
  by_cases q12 : b a ≤ 12
  · rw [if_pos (show 0 ≤ b a ∧ b a ≤ 12 from ⟨Nat.zero_le _, q12⟩)]
    show _ = Except.bind (if ¬ b a = 0 ∧ mOrd (b a) ≤ n then .error (1, a) else .ok (b a, a + 1) : mE (Nat × Nat)) _
    by_cases q1 : ¬ b a = 0 ∧ mOrd (b a) ≤ n
    · rw [if_pos q1, if_pos q1]; rfl
    rw [if_neg q1, if_neg q1]
    show _ = Except.bind (Except.bind (mU b e (a + 1)) _) _
    cases mU b e (a + 1) with
    | error z => rfl
    | ok z =>
      show (if e - z.2 < z.1 then .error (1, a + 1) else _ : mE ((mA × Nat) × Nat)) = Except.bind (if e - z.2 < z.1 then .error (1, a + 1) else .ok z : mE (Nat × Nat)) _
      by_cases q2 : e - z.2 < z.1
      · rw [if_pos q2, if_pos q2]; rfl
      rw [if_neg q2, if_neg q2]
      show _ = Except.bind (mSB b (z.2 + z.1) (b a) A z.2) _
      unfold mSB
      cases (if b a = 0 then (mName b (z.2 + z.1) false z.2).bind fun _ => .ok (A, z.2 + z.1) else mSec b (z.2 + z.1) (b a) A z.2 : mE (mA × Nat)) with
      | error y => rfl
      | ok r =>
        show (if r.2 < z.2 + z.1 then .error (1, r.2) else if mNoFit r.1 (b a) = true then .error (1, z.2 + z.1) else .ok ((r.1, if b a = 0 then n else mOrd (b a)), z.2 + z.1) : mE ((mA × Nat) × Nat)) = mSE (z.2 + z.1) (b a) (if b a = 0 then n else mOrd (b a)) r.1 r.2
        unfold mSE
        by_cases q3 : r.2 < z.2 + z.1
        · rw [if_pos q3, if_pos q3]; rfl
        rw [if_neg q3, if_neg q3]
        show _ = Except.bind (if mNoFit r.1 (b a) = true then .error (1, z.2 + z.1) else .ok () : mE Unit) _
        by_cases q4 : mNoFit r.1 (b a) = true
        · rw [if_pos q4, if_pos q4]; rfl
        rw [if_neg q4, if_neg q4]
        rfl
  · rw [if_pos ⟨by omega, by rw [mOrd_hi (by omega)]; exact Nat.zero_le _⟩, if_neg (fun z => q12 z.2)]
    rfl
theorem st1_0 {A : mA} (h : aS A = []) : st1 A [] = A := by
  obtain ⟨xS, xI, xF, xT, xM, xG, xX, xB, xE, xC, xD, xZ⟩ := A
  have h : xS = [] := h
  subst h
  rfl
theorem mSB_1 {b : Nat → Nat} {e a : Nat} {A : mA} (h : aS A = []) : mSB b e 1 A a = ((mU b e a).bind fun n => mRow (mSig b e) (some 64) n.1 [] n.2).bind fun r => .ok (st1 A r.1, r.2) := by
  show (mU b e a).bind (fun n => (mRow (mSig b e) (some 64) n.1 (aS A) n.2).bind fun r => .ok (st1 A r.1, r.2)) = _
  rw [h]
  cases mU b e a <;> rfl
theorem st2_0 {A : mA} (h : aI A = []) : st2 A [] = A := by
  obtain ⟨xS, xI, xF, xT, xM, xG, xX, xB, xE, xC, xD, xZ⟩ := A
  have h : xI = [] := h
  subst h
  rfl
theorem mSB_2 {b : Nat → Nat} {e a : Nat} {A : mA} (h : aI A = []) : mSB b e 2 A a = ((mU b e a).bind fun n => mRow (mImp b e) (some 32) n.1 [] n.2).bind fun r => .ok (st2 A r.1, r.2) := by
  show (mU b e a).bind (fun n => (mRow (mImp b e) (some 32) n.1 (aI A) n.2).bind fun r => .ok (st2 A r.1, r.2)) = _
  rw [h]
  cases mU b e a <;> rfl
theorem st3_0 {A : mA} (h : aF A = []) : st3 A [] = A := by
  obtain ⟨xS, xI, xF, xT, xM, xG, xX, xB, xE, xC, xD, xZ⟩ := A
  have h : xF = [] := h
  subst h
  rfl
theorem mSB_3 {b : Nat → Nat} {e a : Nat} {A : mA} (h : aF A = []) : mSB b e 3 A a = ((mU b e a).bind fun n => mRow (mFn b e) (some 64) n.1 [] n.2).bind fun r => .ok (st3 A r.1, r.2) := by
  show (mU b e a).bind (fun n => (mRow (mFn b e) (some 64) n.1 (aF A) n.2).bind fun r => .ok (st3 A r.1, r.2)) = _
  rw [h]
  cases mU b e a <;> rfl
theorem st4_0 {A : mA} (h : aT A = []) : st4 A [] = A := by
  obtain ⟨xS, xI, xF, xT, xM, xG, xX, xB, xE, xC, xD, xZ⟩ := A
  have h : xT = [] := h
  subst h
  rfl
theorem mSB_4 {b : Nat → Nat} {e a : Nat} {A : mA} (h : aT A = []) : mSB b e 4 A a = ((mU b e a).bind fun n => mRow (mTab b e true) none n.1 [] n.2).bind fun r => .ok (st4 A r.1, r.2) := by
  show (mU b e a).bind (fun n => (mRow (mTab b e true) none n.1 (aT A) n.2).bind fun r => .ok (st4 A r.1, r.2)) = _
  rw [h]
  cases mU b e a <;> rfl
theorem st5_0 {A : mA} (h : aM A = []) : st5 A [] = A := by
  obtain ⟨xS, xI, xF, xT, xM, xG, xX, xB, xE, xC, xD, xZ⟩ := A
  have h : xM = [] := h
  subst h
  rfl
theorem mSB_5 {b : Nat → Nat} {e a : Nat} {A : mA} (h : aM A = []) : mSB b e 5 A a = ((mU b e a).bind fun n => mRow (mTab b e false) none n.1 [] n.2).bind fun r => .ok (st5 A r.1, r.2) := by
  show (mU b e a).bind (fun n => (mRow (mTab b e false) none n.1 (aM A) n.2).bind fun r => .ok (st5 A r.1, r.2)) = _
  rw [h]
  cases mU b e a <;> rfl
theorem st6_0 {A : mA} (h : aG A = []) : st6 A [] = A := by
  obtain ⟨xS, xI, xF, xT, xM, xG, xX, xB, xE, xC, xD, xZ⟩ := A
  have h : xG = [] := h
  subst h
  rfl
theorem mSB_6 {b : Nat → Nat} {e a : Nat} {A : mA} (h : aG A = []) : mSB b e 6 A a = ((mU b e a).bind fun n => mRow (mGl b e) (some 32) n.1 [] n.2).bind fun r => .ok (st6 A r.1, r.2) := by
  show (mU b e a).bind (fun n => (mRow (mGl b e) (some 32) n.1 (aG A) n.2).bind fun r => .ok (st6 A r.1, r.2)) = _
  rw [h]
  cases mU b e a <;> rfl
theorem st7_0 {A : mA} (h : aX A = []) : st7 A [] = A := by
  obtain ⟨xS, xI, xF, xT, xM, xG, xX, xB, xE, xC, xD, xZ⟩ := A
  have h : xX = [] := h
  subst h
  rfl
theorem mSB_7 {b : Nat → Nat} {e a : Nat} {A : mA} (h : aX A = []) : mSB b e 7 A a = ((mU b e a).bind fun n => mRow (mEx b e) (some 64) n.1 [] n.2).bind fun r => .ok (st7 A r.1, r.2) := by
  show (mU b e a).bind (fun n => (mRow (mEx b e) (some 64) n.1 (aX A) n.2).bind fun r => .ok (st7 A r.1, r.2)) = _
  rw [h]
  cases mU b e a <;> rfl
theorem st8_0 {A : mA} (h : aB A = none) : st8 A [] = A := by
  obtain ⟨xS, xI, xF, xT, xM, xG, xX, xB, xE, xC, xD, xZ⟩ := A
  have h : xB = none := h
  subst h
  rfl
theorem mSB_8 {b : Nat → Nat} {e a : Nat} {A : mA} : mSB b e 8 A a = (mRow (mP8 b e) (some 1) 1 [] a).bind fun r => .ok (st8 A r.1, r.2) := by
  show (mU b e a).bind _ = Except.bind (Except.bind (mP8 b e a) _) _
  unfold mP8
  cases mU b e a <;> rfl
theorem st9_0 {A : mA} (h : aE A = []) : st9 A [] = A := by
  obtain ⟨xS, xI, xF, xT, xM, xG, xX, xB, xE, xC, xD, xZ⟩ := A
  have h : xE = [] := h
  subst h
  rfl
theorem mSB_9 {b : Nat → Nat} {e a : Nat} {A : mA} (h : aE A = []) : mSB b e 9 A a = ((mU b e a).bind fun n => mRow (mEl b e) (some 32) n.1 [] n.2).bind fun r => .ok (st9 A r.1, r.2) := by
  show (mU b e a).bind (fun n => (mRow (mEl b e) (some 32) n.1 (aE A) n.2).bind fun r => .ok (st9 A r.1, r.2)) = _
  rw [h]
  cases mU b e a <;> rfl
theorem st10_0 {A : mA} (h : aD A = []) : st10 A [] = A := by
  obtain ⟨xS, xI, xF, xT, xM, xG, xX, xB, xE, xC, xD, xZ⟩ := A
  have h : xD = [] := h
  subst h
  rfl
theorem mSB_10 {b : Nat → Nat} {e a : Nat} {A : mA} (h : aD A = []) : mSB b e 10 A a = ((mU b e a).bind fun n => mRow (mBd b e (aC A).isSome) none n.1 [] n.2).bind fun r => .ok (st10 A r.1, r.2) := by
  show (mU b e a).bind (fun n => (mRow (mBd b e (aC A).isSome) none n.1 (aD A) n.2).bind fun r => .ok (st10 A r.1, r.2)) = _
  rw [h]
  cases mU b e a <;> rfl
theorem st11_0 {A : mA} (h : aZ A = []) : st11 A [] = A := by
  obtain ⟨xS, xI, xF, xT, xM, xG, xX, xB, xE, xC, xD, xZ⟩ := A
  have h : xZ = [] := h
  subst h
  rfl
theorem mSB_11 {b : Nat → Nat} {e a : Nat} {A : mA} (h : aZ A = []) : mSB b e 11 A a = ((mU b e a).bind fun n => mRow (mDt b e) (some 32) n.1 [] n.2).bind fun r => .ok (st11 A r.1, r.2) := by
  show (mU b e a).bind (fun n => (mRow (mDt b e) (some 32) n.1 (aZ A) n.2).bind fun r => .ok (st11 A r.1, r.2)) = _
  rw [h]
  cases mU b e a <;> rfl
theorem st12_0 {A : mA} (h : aC A = none) : st12 A [] = A := by
  obtain ⟨xS, xI, xF, xT, xM, xG, xX, xB, xE, xC, xD, xZ⟩ := A
  have h : xC = none := h
  subst h
  rfl
theorem mSB_12 {b : Nat → Nat} {e a : Nat} {A : mA} : mSB b e 12 A a = (mRow (mU b e) (some 1) 1 [] a).bind fun r => .ok (st12 A r.1, r.2) := by
  show (mU b e a).bind _ = Except.bind (Except.bind (mU b e a) _) _
  cases mU b e a <;> rfl
theorem mSB_0 {b : Nat → Nat} {e a : Nat} {A : mA} : mSB b e 0 A a = (mRow (mP0 b e) (some 1) 1 [] a).bind fun r => .ok (A, r.2) := by
  show (mName b e false a).bind _ = Except.bind (Except.bind (mP0 b e a) _) _
  unfold mP0
  cases mName b e false a <;> rfl
theorem mE0_le {n m : Nat} {A : mA} (h : n ≤ m) (r : mE0 n A) : mE0 m A := by
  obtain ⟨z1, z2, z3, z4, z5, z6, z7, z8, z9, z10, z11, z12⟩ := r
  exact ⟨fun c => z1 (by omega), fun c => z2 (by omega), fun c => z3 (by omega), fun c => z4 (by omega), fun c => z5 (by omega), fun c => z6 (by omega), fun c => z7 (by omega), fun c => z8 (by omega), fun c => z9 (by omega), fun c => z10 (by omega), fun c => z11 (by omega), fun c => z12 (by omega)⟩

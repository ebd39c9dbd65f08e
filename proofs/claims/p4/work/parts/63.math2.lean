/-! THE MATHEMATICS, 2: the items of a module, its sections, its reading -/
def mRow {α : Type} (it : Nat → mE (α × Nat)) (lim : Option Nat) : Nat → List α → Nat → mE (List α × Nat)
  | 0, l, a => .ok (l, a)
  | n + 1, l, a => if lim = some l.length then .error (4, a) else (it a).bind fun r => mRow it lim n (l ++ [r.1]) r.2
theorem mRow0 {α : Type} (it : Nat → mE (α × Nat)) (lim : Option Nat) (l : List α) (a : Nat) : mRow it lim 0 l a = .ok (l, a) := rfl
theorem mRowS {α : Type} (it : Nat → mE (α × Nat)) (lim : Option Nat) (n : Nat) (l : List α) (a : Nat) : mRow it lim (n + 1) l a = if lim = some l.length then .error (4, a) else (it a).bind fun r => mRow it lim n (l ++ [r.1]) r.2 := rfl
theorem mRow_in {α : Type} {it : Nat → mE (α × Nat)} {lim : Option Nat} {e : Nat} (hi : ∀ a r, a ≤ e → it a = .ok r → a ≤ r.2 ∧ r.2 ≤ e) : ∀ (n : Nat) (l : List α) (a : Nat) {r : List α × Nat}, mRow it lim n l a = .ok r → a ≤ e → a ≤ r.2 ∧ r.2 ≤ e ∧ r.1.length = l.length + n := by
  intro n
  induction n with
  | zero => intro l a r h ha; cases h; exact ⟨Nat.le_refl _, ha, rfl⟩
  | succ n ih =>
    intro l a r h ha
    unfold mRow at h
    split at h
    · cases h
    · cases ho : it a with
      | error q => rw [ho] at h; cases h
      | ok q =>
        rw [ho] at h
        have h1 := hi a q ha ho
        have h2 := ih _ _ h h1.2
        refine ⟨by omega, h2.2.1, ?_⟩
        rw [h2.2.2, List.length_append]
        simp only [List.length_cons, List.length_nil]
        omega
/-- a row within its limit -/
theorem mRow_lim {α : Type} {it : Nat → mE (α × Nat)} {lim : Nat} : ∀ (n : Nat) (l : List α) (a : Nat) {r : List α × Nat}, mRow it (some lim) n l a = .ok r → l.length ≤ lim → r.1.length ≤ lim := by
  intro n
  induction n with
  | zero => intro l a r h hl; cases h; exact hl
  | succ n ih =>
    intro l a r h hl
    unfold mRow at h
    split at h
    · cases h
    · rename_i hne
      cases ho : it a with
      | error q => rw [ho] at h; cases h
      | ok q =>
        rw [ho] at h
        refine ih _ _ h ?_
        rw [List.length_append]
        simp only [List.length_cons, List.length_nil]
        have : ¬ lim = l.length := fun z => hne (by rw [z])
        omega
abbrev mSigT : Type := List Nat × Nat
/-- begin, kind, at, what, changes, least, most -/
abbrev mImpT : Type := Nat × Nat × Nat × Nat × Nat × Nat × Option Nat
abbrev mFnT : Type := Nat × Nat
/-- from, limitsAt, least, most -/
abbrev mTabT : Type := Nat × Nat × Nat × Option Nat
/-- type, changes, constant's place -/
abbrev mGlT : Type := Nat × Nat × Nat
/-- the NAME's place, its signs' begin, their number, kind, at, what -/
abbrev mExT : Type := Nat × Nat × Nat × Nat × Nat × Nat
/-- at, mode, constant's place, row's place, row of (place, function) -/
abbrev mElT : Type := Nat × Nat × Nat × Nat × List (Nat × Nat)
/-- at, mode, constant's place -/
abbrev mDtT : Type := Nat × Nat × Nat
/-- number, argument, labels -/
abbrev mInsT : Type := Nat × Nat × List Nat
/-- groups' place, code's place, end, groups (how many, type), instructions (place, instruction) -/
abbrev mBdT : Type := Nat × Nat × Nat × List (Nat × Nat) × List (Nat × mInsT)
def mSig (b : Nat → Nat) (e a : Nat) : mE (mSigT × Nat) := (mNeed b e 96 a).bind fun a1 => (mU b e a1).bind fun n => (mRow (mType b e) (some 16) n.1 [] n.2).bind fun ps =>
  (mU b e ps.2).bind fun m => (mRow (mType b e) (some 1) m.1 [] m.2).bind fun rs => .ok ((ps.1, rs.1.getD 0 2), rs.2)
def mImp (b : Nat → Nat) (e a : Nat) : mE (mImpT × Nat) := (mName b e true a).bind fun m => (mName b e true m.2).bind fun n => (mOct b e n.2).bind fun k =>
  if 3 < k.1 then .error (1, n.2)
  else if k.1 = 0 then (mU b e k.2).bind fun u => .ok ((a, 0, k.2, u.1, 0, 0, none), u.2)
  else if k.1 = 3 then (mType b e k.2).bind fun t => (mFlag b e t.2).bind fun f => .ok ((a, 3, k.2, t.1, f.1, 0, none), f.2)
  else if k.1 = 1 then (mNeed b e 112 k.2).bind fun p => (mLim b e p).bind fun l => .ok ((a, 1, p, 0, 0, l.1.1, l.1.2), l.2)
  else (mLim b e k.2).bind fun l => .ok ((a, 2, k.2, 0, 0, l.1.1, l.1.2), l.2)
def mFn (b : Nat → Nat) (e a : Nat) : mE (mFnT × Nat) := (mU b e a).bind fun u => .ok ((a, u.1), u.2)
def mTab (b : Nat → Nat) (e : Nat) (isTable : Bool) (a : Nat) : mE (mTabT × Nat) := (if isTable = true then mNeed b e 112 a else .ok a : mE Nat).bind fun p => (mLim b e p).bind fun l => .ok ((a, p, l.1.1, l.1.2), l.2)
def mGl (b : Nat → Nat) (e a : Nat) : mE (mGlT × Nat) := (mType b e a).bind fun t => (mFlag b e t.2).bind fun f => (mConst b e f.2).bind fun c => .ok ((t.1, f.1, f.2), c)
def mEx (b : Nat → Nat) (e a : Nat) : mE (mExT × Nat) := (mName b e true a).bind fun n => (mOct b e n.2).bind fun k =>
  if 3 < k.1 then .error (1, n.2) else (mU b e k.2).bind fun u => .ok ((a, n.1.1, n.1.2, k.1, k.2, u.1), u.2)
def mEl (b : Nat → Nat) (e a : Nat) : mE (mElT × Nat) := (mOct b e a).bind fun k =>
  if ¬ (k.1 = 0 ∨ k.1 = 1 ∨ k.1 = 3) then .error (1, a)
  else (if k.1 = 0 then mConst b e k.2 else mNeed b e 0 k.2).bind fun p => (mU b e p).bind fun n =>
    if 256 < n.1 then .error (4, p) else (mRow (mFn b e) none n.1 [] n.2).bind fun l => .ok ((a, k.1, k.2, n.2, l.1), l.2)
def mDt (b : Nat → Nat) (e a : Nat) : mE (mDtT × Nat) := (mOct b e a).bind fun k =>
  if 1 < k.1 then .error (1, a)
  else (if k.1 = 0 then mConst b e k.2 else .ok k.2 : mE Nat).bind fun p => (mU b e p).bind fun n =>
    if e - n.2 < n.1 then .error (1, p) else .ok ((a, k.1, k.2), n.2 + n.1)
/-- what follows an instruction of one byte -/
def mFollows (op : Nat) : Nat :=
  if op ≤ 1 ∨ op = 5 ∨ op = 11 ∨ op = 15 ∨ op = 26 ∨ op = 27 then 0
  else if op ≤ 4 then 1
  else if op = 12 ∨ op = 13 ∨ op = 16 ∨ (32 ≤ op ∧ op ≤ 36) then 2
  else if op = 14 then 8
  else if op = 17 then 6
  else if op = 40 ∨ op = 41 ∨ (44 ≤ op ∧ op ≤ 53) ∨ op = 54 ∨ op = 55 ∨ (58 ≤ op ∧ op ≤ 62) then 5
  else if op = 63 ∨ op = 64 then 7
  else if op = 65 then 3
  else if op = 66 then 4
  else if (69 ≤ op ∧ op ≤ 90) ∨ (103 ≤ op ∧ op ≤ 138) ∨ op = 167 ∨ op = 172 ∨ op = 173 ∨ (192 ≤ op ∧ op ≤ 196) then 0
  else if op = 252 then 9 else 10
/-- an instruction behind its first byte op, that stood at fr -/
def mOps (b : Nat → Nat) (e : Nat) (hc : Bool) (op fr a : Nat) : mE (mInsT × Nat) :=
  if mFollows op = 0 then .ok ((op, 0, []), a)
  else if mFollows op = 1 then (mBt b e a).bind fun t => .ok ((op, t.1, []), t.2)
  else if mFollows op = 2 then (mU b e a).bind fun u => .ok ((op, u.1, []), u.2)
  else if mFollows op = 3 then (mSg b e 5 7 120 a).bind fun p => .ok ((op, 0, []), p)
  else if mFollows op = 4 then (mSg b e 10 0 127 a).bind fun p => .ok ((op, 0, []), p)
  else if mFollows op = 5 then (mU b e a).bind fun u => (mU b e u.2).bind fun o => .ok ((op, u.1, []), o.2)
  else if mFollows op = 6 then (mU b e a).bind fun u => (mNeed b e 0 u.2).bind fun p => .ok ((op, u.1, []), p)
  else if mFollows op = 7 then (mNeed b e 0 a).bind fun p => .ok ((op, 0, []), p)
  else if mFollows op = 8 then (mU b e a).bind fun n => if 256 < n.1 then .error (4, a) else (mRow (mU b e) none (n.1 + 1) [] n.2).bind fun l => .ok ((op, 0, l.1), l.2)
  else if mFollows op = 9 then (mU b e a).bind fun n =>
    if n.1 < 8 ∨ 14 < n.1 then .error (1, a)
    else if (n.1 = 8 ∨ n.1 = 9) ∧ hc = false then .error (1, fr)
    else (if n.1 = 8 ∨ n.1 = 9 ∨ n.1 = 12 ∨ n.1 = 13 then mU b e n.2 else .ok (0, n.2)).bind fun u =>
      (if n.1 = 8 ∨ n.1 = 11 ∨ n.1 = 12 then mNeed b e 0 u.2 else .ok u.2 : mE Nat).bind fun p =>
      (if n.1 = 10 ∨ n.1 = 14 then (mNeed b e 0 p).bind fun q => mNeed b e 0 q else .ok p : mE Nat).bind fun q => .ok ((256 + n.1, u.1, []), q)
  else .error (1, fr)
/-- instructions until the body's own end; ow: what the open blocks were opened with, the innermost first -/
def mCode (b : Nat → Nat) (e : Nat) (hc : Bool) : Nat → List Nat → List (Nat × mInsT) → Nat → mE (List (Nat × mInsT) × Nat)
  | 0, _, _, _ => .error (1, e)
  | f + 1, ow, l, a => (mOct b e a).bind fun k =>
    if (2 ≤ k.1 ∧ k.1 ≤ 4) ∧ ow.length = 60 then .error (4, a)
    else if k.1 = 5 ∧ ¬ ow.head? = some 4 then .error (1, a)
    else (mOps b e hc k.1 a k.2).bind fun r =>
      if 2 ≤ k.1 ∧ k.1 ≤ 4 then mCode b e hc f (k.1 :: ow) (l ++ [(a, r.1)]) r.2
      else if k.1 = 5 then mCode b e hc f (5 :: ow.tail) (l ++ [(a, r.1)]) r.2
      else if k.1 = 11 then (match ow with
        | [] => .ok (l ++ [(a, r.1)], r.2)
        | _ :: o => mCode b e hc f o (l ++ [(a, r.1)]) r.2)
      else mCode b e hc f ow (l ++ [(a, r.1)]) r.2
/-- groups of locals, the sum of those before -/
def mGrp (b : Nat → Nat) (e : Nat) : Nat → Nat → List (Nat × Nat) → Nat → mE (List (Nat × Nat) × Nat)
  | 0, _, l, a => .ok (l, a)
  | n + 1, s, l, a => (mU b e a).bind fun u => (mType b e u.2).bind fun t => if 64 < s + u.1 then .error (4, a) else mGrp b e n (s + u.1) (l ++ [(u.1, t.1)]) t.2
def mBd (b : Nat → Nat) (e : Nat) (hc : Bool) (a : Nat) : mE (mBdT × Nat) := (mU b e a).bind fun z =>
  if e - z.2 < z.1 then .error (1, a)
  else (mU b (z.2 + z.1) z.2).bind fun n => (mGrp b (z.2 + z.1) n.1 0 [] n.2).bind fun g => (mCode b (z.2 + z.1) hc (z.2 + z.1 + 1 - g.2) [] [] g.2).bind fun c =>
    if c.2 < z.2 + z.1 then .error (1, c.2) else .ok ((z.2, g.2, z.2 + z.1, g.1, c.1), z.2 + z.1)
/-- a module: signatures, imports, functions, tables, memories, globals, exports, start, elements, told data, bodies, data -/
abbrev mA : Type := List mSigT × List mImpT × List mFnT × List mTabT × List mTabT × List mGlT × List mExT × Option (Nat × Nat) × List mElT × Option Nat × List mBdT × List mDtT
def m0 : mA := ([], [], [], [], [], [], [], none, [], none, [], [])
def aS (A : mA) : List mSigT := A.1
def aI (A : mA) : List mImpT := A.2.1
def aF (A : mA) : List mFnT := A.2.2.1
def aT (A : mA) : List mTabT := A.2.2.2.1
def aM (A : mA) : List mTabT := A.2.2.2.2.1
def aG (A : mA) : List mGlT := A.2.2.2.2.2.1
def aX (A : mA) : List mExT := A.2.2.2.2.2.2.1
def aB (A : mA) : Option (Nat × Nat) := A.2.2.2.2.2.2.2.1
def aE (A : mA) : List mElT := A.2.2.2.2.2.2.2.2.1
def aC (A : mA) : Option Nat := A.2.2.2.2.2.2.2.2.2.1
def aD (A : mA) : List mBdT := A.2.2.2.2.2.2.2.2.2.2.1
def aZ (A : mA) : List mDtT := A.2.2.2.2.2.2.2.2.2.2.2
/-- a section that isn't the one of number 0, read into the module -/
def mSec (b : Nat → Nat) (e id : Nat) (A : mA) (a : Nat) : mE (mA × Nat) :=
  if id = 8 then (mU b e a).bind fun u => .ok ((aS A, aI A, aF A, aT A, aM A, aG A, aX A, some (a, u.1), aE A, aC A, aD A, aZ A), u.2)
  else if id = 12 then (mU b e a).bind fun u => .ok ((aS A, aI A, aF A, aT A, aM A, aG A, aX A, aB A, aE A, some u.1, aD A, aZ A), u.2)
  else (mU b e a).bind fun n =>
    if id = 1 then (mRow (mSig b e) (some 64) n.1 (aS A) n.2).bind fun r => .ok ((r.1, aI A, aF A, aT A, aM A, aG A, aX A, aB A, aE A, aC A, aD A, aZ A), r.2)
    else if id = 2 then (mRow (mImp b e) (some 32) n.1 (aI A) n.2).bind fun r => .ok ((aS A, r.1, aF A, aT A, aM A, aG A, aX A, aB A, aE A, aC A, aD A, aZ A), r.2)
    else if id = 3 then (mRow (mFn b e) (some 64) n.1 (aF A) n.2).bind fun r => .ok ((aS A, aI A, r.1, aT A, aM A, aG A, aX A, aB A, aE A, aC A, aD A, aZ A), r.2)
    else if id = 4 then (mRow (mTab b e true) none n.1 (aT A) n.2).bind fun r => .ok ((aS A, aI A, aF A, r.1, aM A, aG A, aX A, aB A, aE A, aC A, aD A, aZ A), r.2)
    else if id = 5 then (mRow (mTab b e false) none n.1 (aM A) n.2).bind fun r => .ok ((aS A, aI A, aF A, aT A, r.1, aG A, aX A, aB A, aE A, aC A, aD A, aZ A), r.2)
    else if id = 6 then (mRow (mGl b e) (some 32) n.1 (aG A) n.2).bind fun r => .ok ((aS A, aI A, aF A, aT A, aM A, r.1, aX A, aB A, aE A, aC A, aD A, aZ A), r.2)
    else if id = 7 then (mRow (mEx b e) (some 64) n.1 (aX A) n.2).bind fun r => .ok ((aS A, aI A, aF A, aT A, aM A, aG A, r.1, aB A, aE A, aC A, aD A, aZ A), r.2)
    else if id = 9 then (mRow (mEl b e) (some 32) n.1 (aE A) n.2).bind fun r => .ok ((aS A, aI A, aF A, aT A, aM A, aG A, aX A, aB A, r.1, aC A, aD A, aZ A), r.2)
    else if id = 10 then (mRow (mBd b e (aC A).isSome) none n.1 (aD A) n.2).bind fun r => .ok ((aS A, aI A, aF A, aT A, aM A, aG A, aX A, aB A, aE A, aC A, r.1, aZ A), r.2)
    else (mRow (mDt b e) (some 32) n.1 (aZ A) n.2).bind fun r => .ok ((aS A, aI A, aF A, aT A, aM A, aG A, aX A, aB A, aE A, aC A, aD A, r.1), r.2)
/-- a section's place in the order, 0: none -/
def mOrd (id : Nat) : Nat := if 1 ≤ id ∧ id ≤ 9 then id else if id = 12 then 10 else if id = 10 then 11 else if id = 11 then 12 else 0
/-- section 3 and 10, or 12 and 11, don't fit -/
def mNoFit (A : mA) (id : Nat) : Bool := (decide (id = 10) && !decide ((aD A).length = (aF A).length)) || (decide (id = 11) && (match aC A with
  | some n => !decide ((aZ A).length = n)
  | none => false))
/-- sections from a on: last is the place in the order of the last one -/
def mSecs (b : Nat → Nat) (e : Nat) : Nat → Nat → mA → Nat → mE mA
  | 0, _, A, _ => .ok A
  | f + 1, last, A, a => if ¬ a < e then (if mNoFit A 10 = true ∨ mNoFit A 11 = true then .error (1, e) else .ok A)
    else if ¬ b a = 0 ∧ mOrd (b a) ≤ last then .error (1, a)
    else (mU b e (a + 1)).bind fun z =>
      if e - z.2 < z.1 then .error (1, a + 1)
      else (if b a = 0 then (mName b (z.2 + z.1) false z.2).bind fun _ => .ok (A, z.2 + z.1) else mSec b (z.2 + z.1) (b a) A z.2).bind fun r =>
        if r.2 < z.2 + z.1 then .error (1, r.2)
        else if mNoFit r.1 (b a) = true then .error (1, z.2 + z.1) else mSecs b e f (if b a = 0 then last else mOrd (b a)) r.1 (z.2 + z.1)
def mHead (b : Nat → Nat) (e : Nat) : Nat → Nat → mE Nat
  | 0, a => .ok a
  | n + 1, a => (mNeed b e (if a = 1 then 97 else if a = 2 then 115 else if a = 3 then 109 else if a = 4 then 1 else 0) a).bind fun r => mHead b e n r
/-- the whole module -/
def mRead (b : Nat → Nat) (e : Nat) : mE mA := (mHead b e 8 0).bind fun a => mSecs b e (e + 1) 0 m0 a

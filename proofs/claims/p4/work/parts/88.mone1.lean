/-! what follows an instruction, kind by kind -/
theorem mOps_0 {b : Nat → Nat} {e op fr a : Nat} {hc : Bool} {x : mInsT} {z : Nat} (k : mFollows op = 0) (h : mOps b e hc op fr a = .ok (x, z)) : x = (op, 0, []) ∧ z = a := by
  rw [mOps, if_pos k] at h
  cases h; exact ⟨rfl, rfl⟩
theorem mOps_1 {b : Nat → Nat} {e op fr a : Nat} {hc : Bool} {x : mInsT} {z : Nat} (k : mFollows op = 1) (h : mOps b e hc op fr a = .ok (x, z)) : ∃ u, mBt b e a = .ok u ∧ x = (op, u.1, []) ∧ z = u.2 := by
  rw [mOps, if_neg (by omega), if_pos k] at h
  cases ho : mBt b e a with
  | error q => rw [ho] at h; cases h
  | ok u => rw [ho] at h; cases h; exact ⟨u, rfl, rfl, rfl⟩
theorem mOps_2 {b : Nat → Nat} {e op fr a : Nat} {hc : Bool} {x : mInsT} {z : Nat} (k : mFollows op = 2) (h : mOps b e hc op fr a = .ok (x, z)) : ∃ u, mU b e a = .ok u ∧ x = (op, u.1, []) ∧ z = u.2 := by
  rw [mOps, if_neg (by omega), if_neg (by omega), if_pos k] at h
  cases ho : mU b e a with
  | error q => rw [ho] at h; cases h
  | ok u => rw [ho] at h; cases h; exact ⟨u, rfl, rfl, rfl⟩
theorem mOps_3 {b : Nat → Nat} {e op fr a : Nat} {hc : Bool} {x : mInsT} {z : Nat} (k : mFollows op = 3) (h : mOps b e hc op fr a = .ok (x, z)) : mSg b e 5 7 120 a = .ok z ∧ x = (op, 0, []) := by
  rw [mOps, if_neg (by omega), if_neg (by omega), if_neg (by omega), if_pos k] at h
  cases ho : mSg b e 5 7 120 a with
  | error q => rw [ho] at h; cases h
  | ok u => rw [ho] at h; cases h; exact ⟨rfl, rfl⟩
theorem mOps_4 {b : Nat → Nat} {e op fr a : Nat} {hc : Bool} {x : mInsT} {z : Nat} (k : mFollows op = 4) (h : mOps b e hc op fr a = .ok (x, z)) : mSg b e 10 0 127 a = .ok z ∧ x = (op, 0, []) := by
  rw [mOps, if_neg (by omega), if_neg (by omega), if_neg (by omega), if_neg (by omega), if_pos k] at h
  cases ho : mSg b e 10 0 127 a with
  | error q => rw [ho] at h; cases h
  | ok u => rw [ho] at h; cases h; exact ⟨rfl, rfl⟩
theorem mOps_5 {b : Nat → Nat} {e op fr a : Nat} {hc : Bool} {x : mInsT} {z : Nat} (k : mFollows op = 5) (h : mOps b e hc op fr a = .ok (x, z)) : ∃ u v, mU b e a = .ok u ∧ mU b e u.2 = .ok v ∧ x = (op, u.1, []) ∧ z = v.2 := by
  rw [mOps, if_neg (by omega), if_neg (by omega), if_neg (by omega), if_neg (by omega), if_neg (by omega), if_pos k] at h
  cases ho : mU b e a with
  | error q => rw [ho] at h; cases h
  | ok u =>
    rw [ho] at h
    have h : ((mU b e u.2).bind fun o => (.ok ((op, u.1, []), o.2) : mE (mInsT × Nat))) = .ok (x, z) := h
    cases h2 : mU b e u.2 with
    | error q => rw [h2] at h; cases h
    | ok v => rw [h2] at h; cases h; exact ⟨u, v, rfl, h2, rfl, rfl⟩
theorem mOps_6 {b : Nat → Nat} {e op fr a : Nat} {hc : Bool} {x : mInsT} {z : Nat} (k : mFollows op = 6) (h : mOps b e hc op fr a = .ok (x, z)) : ∃ u, mU b e a = .ok u ∧ mNeed b e 0 u.2 = .ok z ∧ x = (op, u.1, []) := by
  rw [mOps, if_neg (by omega), if_neg (by omega), if_neg (by omega), if_neg (by omega), if_neg (by omega), if_neg (by omega), if_pos k] at h
  cases ho : mU b e a with
  | error q => rw [ho] at h; cases h
  | ok u =>
    rw [ho] at h
    have h : ((mNeed b e 0 u.2).bind fun p => (.ok ((op, u.1, []), p) : mE (mInsT × Nat))) = .ok (x, z) := h
    cases h2 : mNeed b e 0 u.2 with
    | error q => rw [h2] at h; cases h
    | ok v => rw [h2] at h; cases h; exact ⟨u, rfl, h2, rfl⟩
theorem mOps_7 {b : Nat → Nat} {e op fr a : Nat} {hc : Bool} {x : mInsT} {z : Nat} (k : mFollows op = 7) (h : mOps b e hc op fr a = .ok (x, z)) : mNeed b e 0 a = .ok z ∧ x = (op, 0, []) := by
  rw [mOps, if_neg (by omega), if_neg (by omega), if_neg (by omega), if_neg (by omega), if_neg (by omega), if_neg (by omega), if_neg (by omega), if_pos k] at h
  cases ho : mNeed b e 0 a with
  | error q => rw [ho] at h; cases h
  | ok u => rw [ho] at h; cases h; exact ⟨rfl, rfl⟩
theorem mOps_8 {b : Nat → Nat} {e op fr a : Nat} {hc : Bool} {x : mInsT} {z : Nat} (k : mFollows op = 8) (h : mOps b e hc op fr a = .ok (x, z)) : ∃ u l, mU b e a = .ok u ∧ u.1 ≤ 256 ∧ mRow (mU b e) none (u.1 + 1) [] u.2 = .ok (l, z) ∧ x = (op, 0, l) := by
  rw [mOps, if_neg (by omega), if_neg (by omega), if_neg (by omega), if_neg (by omega), if_neg (by omega), if_neg (by omega), if_neg (by omega), if_neg (by omega), if_pos k] at h
  cases ho : mU b e a with
  | error q => rw [ho] at h; cases h
  | ok u =>
    rw [ho] at h
    have h : (if 256 < u.1 then .error (4, a) else (mRow (mU b e) none (u.1 + 1) [] u.2).bind fun l => (.ok ((op, 0, l.1), l.2) : mE (mInsT × Nat))) = .ok (x, z) := h
    by_cases q : 256 < u.1
    · rw [if_pos q] at h; cases h
    · rw [if_neg q] at h
      cases h2 : mRow (mU b e) none (u.1 + 1) [] u.2 with
      | error q => rw [h2] at h; cases h
      | ok v => rw [h2] at h; cases h; exact ⟨u, v.1, rfl, by omega, h2, rfl⟩
/-! the typing of an instruction of one byte -/
def tElse (t : tT) : tT := match t.2.1 with
  | [] => t
  | f :: r => (t.1.drop (t.1.length - f.2.2.2.1), (5, f.2.1, f.2.2.1, f.2.2.2.1, false) :: r, t.2.2)
def tEnd (t : tT) : tT := match t.2.1 with
  | [] => t
  | f :: r => tGive f.2.2.1 (t.1.drop (t.1.length - f.2.2.2.1), r, t.2.2 && (decide (¬ f.1 = 4) || decide (f.2.2.1 = 2)))
def tBr (k : Nat) (t : tT) : tT := tRest (tTake (tLabel k t).1 (tLabel k t).2).2
def tBrIf (k : Nat) (t : tT) : tT := tGive (tLabel k t).1 (tTake (tLabel k t).1 (tTake 0 (tLabel k t).2).2).2
def tIf (c : tT) (f : tT → tT) : tT := if c.2.2 = true then f c else c
def tCall (A : mA) (k : Nat) (t : tT) : tT := tIf (tNeed (decide (k < nFun A)) t) (tCalls ((aS A).getD (funSig A k) ([], 0)))
def tCallI (A : mA) (k : Nat) (t : tT) : tT := tIf (tTake 0 (tNeed (decide (k < (aS A).length) && hasK A 1) t)).2 (tCalls ((aS A).getD k ([], 0)))
def tSel (t : tT) : tT :=
  let p := tTake 3 (tTake 0 t).2
  let q := tTake 3 p.2
  tGive (if p.1 = 3 then q.1 else p.1) (tNeed (decide (p.1 = q.1) || decide (p.1 = 3) || decide (q.1 = 3)) q.2)
def tLoc (L : List Nat) (op k : Nat) (t : tT) : tT := tIf (tNeed (decide (k < L.length)) t) fun t1 =>
  let t2 := if op = 32 then t1 else (tTake (L.getD k 0) t1).2
  if op = 33 then t2 else tGive (L.getD k 0) t2
def tGlo (A : mA) (op k : Nat) (t : tT) : tT := tIf (tNeed (decide (k < nGlo A) && (decide (op = 35) || decide (gloC A k = 1))) t) fun t1 =>
  if op = 35 then tGive (gloT A k) t1 else (tTake (gloT A k) t1).2
def tOne (A : mA) (L : List Nat) (g : mSigT) (x : mInsT) (t : tT) : tT :=
  if x.1 = 0 then tRest t
  else if x.1 = 1 then t
  else if x.1 = 2 ∨ x.1 = 3 ∨ x.1 = 4 then tFrame x.1 (if x.1 = 3 then 2 else x.2.1) x.2.1 (if x.1 = 4 then (tTake 0 t).2 else t)
  else if x.1 = 5 then tElse (tClose t)
  else if x.1 = 11 then tEnd (tClose t)
  else if x.1 = 12 then tBr x.2.1 t
  else if x.1 = 13 then tBrIf x.2.1 t
  else if x.1 = 14 then tRow x.2.2 t
  else if x.1 = 15 then tRest (tTake g.2 t).2
  else if x.1 = 16 then tCall A x.2.1 t
  else if x.1 = 17 then tCallI A x.2.1 t
  else if x.1 = 26 then (tTake 3 t).2
  else if x.1 = 27 then tSel t
  else if x.1 = 32 ∨ x.1 = 33 ∨ x.1 = 34 then tLoc L x.1 x.2.1 t
  else if x.1 = 35 ∨ x.1 = 36 then tGlo A x.1 x.2.1 t
  else if x.1 = 63 ∨ x.1 = 64 then tTurns 0 (x.1 - 63) 0 (tNeed (hasK A 2) t)
  else if x.1 = 65 then tGive 0 t
  else if x.1 = 66 then tGive 1 t
  else if isLdN x.1 = true ∨ isStN x.1 = true then tAcc A x.1 x.2.1 t
  else tNum x.1 t
theorem tSt.els {τ σ s : zS} {B : Nat} {b : Nat → Nat} {e a : Nat} {T : List Nat} {f : tF} {r : List tF} {g : Bool} (hs : tSt τ σ s B b e a (T, f :: r, g)) : tSt τ σ (zsI (zsI (zsI s 11 r.length 5) 12 r.length 0) 0 22 (nI f.2.2.2.1)) B b e a (tElse (T, f :: r, g)) := by
  obtain ⟨h1, h2, g1, g2, g3, g4, g5, g6, g7⟩ := hs
  obtain ⟨a1, a2, a3, a4, a5, a6, a7, a8, a9, a10⟩ := g7
  have a9 : f.2.2.2.1 ≤ T.length := a9
  have g2 : T.length ≤ 16000 := g2
  have hdl : (T.drop (T.length - f.2.2.2.1)).length = f.2.2.2.1 := by rw [List.length_drop]; omega
  refine ⟨?_, ?_, ?_, by show (T.drop _).length ≤ 16000; rw [hdl]; omega, ?_, g4, ?_, ?_, ?_⟩
  · exact ((h1.i _ (by unfold kpd; omega) (by omega)).i _ (by unfold kpd; omega) (by omega)).i _ (by unfold kpd; omega) (by omega)
  · exact ((h2.i _ (by unfold tyC; omega)).i _ (by unfold tyC; omega)).i _ (by unfold tyC; omega)
  · show (zsI _ 0 22 _).1 0 22 = nI (T.drop _).length
    rw [hdl, zI1, if_pos ⟨rfl, rfl⟩]
  · rw [zI1, if_neg (by omega), zI1, if_neg (by omega), zI1, if_neg (by omega)]; exact g3
  · rw [zI1, if_neg (by omega), zI1, if_neg (by omega), zI1, if_neg (by omega)]; exact g5
  · exact tsR_i (fun q => by omega) (tsR_i (fun q => by omega) (tsR_i (fun q => by omega) (tsR_drop _ g6)))
  · show fsR _ (T.drop _).length _
    rw [hdl]
    refine ⟨?_, ?_, ?_, ?_, ?_, (by show 5 ≤ 5; omega), a7, a8, Nat.le_refl _, fsR_i (fun q => by omega) (fsR_i (fun _ => Nat.le_refl _) (fsR_i (fun _ => Nat.le_refl _) a10))⟩
    · simp [zI1]; rfl
    · simp [zI1]; exact a2
    · simp [zI1]; exact a3
    · simp [zI1]; exact a4
    · simp [zI1, bI]
theorem tSt.pop {τ σ s : zS} {B : Nat} {b : Nat → Nat} {e a : Nat} {T : List Nat} {f : tF} {r : List tF} {g : Bool} (hs : tSt τ σ s B b e a (T, f :: r, g)) : tSt τ σ (zsI (zsI s 0 22 (nI f.2.2.2.1)) 0 28 (nI r.length)) B b e a (T.drop (T.length - f.2.2.2.1), r, g) := by
  obtain ⟨h1, h2, g1, g2, g3, g4, g5, g6, g7⟩ := hs
  obtain ⟨a1, a2, a3, a4, a5, a6, a7, a8, a9, a10⟩ := g7
  have a9 : f.2.2.2.1 ≤ T.length := a9
  have g2 : T.length ≤ 16000 := g2
  have g4 : r.length + 1 ≤ 61 := g4
  have hdl : (T.drop (T.length - f.2.2.2.1)).length = f.2.2.2.1 := by rw [List.length_drop]; omega
  refine ⟨?_, ?_, ?_, by show (T.drop _).length ≤ 16000; rw [hdl]; omega, ?_, by show r.length ≤ 61; omega, ?_, ?_, ?_⟩
  · exact (h1.i _ (by unfold kpd; omega) (by omega)).i _ (by unfold kpd; omega) (by omega)
  · exact (h2.i _ (by unfold tyC; omega)).i _ (by unfold tyC; omega)
  · show (zsI _ 0 28 _).1 0 22 = nI (T.drop _).length
    rw [hdl, zI1, if_neg (by omega), zI1, if_pos ⟨rfl, rfl⟩]
  · rw [zI1, if_pos ⟨rfl, rfl⟩]
  · rw [zI1, if_neg (by omega), zI1, if_neg (by omega)]; exact g5
  · exact tsR_i (fun q => by omega) (tsR_i (fun q => by omega) (tsR_drop _ g6))
  · show fsR _ (T.drop _).length _
    rw [hdl]
    exact fsR_i (fun q => by omega) (fsR_i (fun q => by omega) a10)

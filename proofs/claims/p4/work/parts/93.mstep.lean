/-! how high the types stand and how many frames there are behind an instruction; a body's instructions one by one -/
def rel (d : Nat) (t t' : tT) : Prop := t'.1.length ≤ t.1.length + d ∧ t'.2.1.length = t.2.1.length
theorem rel.rf {t : tT} : rel 0 t t := ⟨Nat.le_refl _, rfl⟩
theorem rel.trans {d d' : Nat} {t u v : tT} (h : rel d t u) (h2 : rel d' u v) : rel (d + d') t v := ⟨by have := h.1; have := h2.1; omega, h2.2.trans h.2⟩
theorem rel.le {d d' : Nat} {t u : tT} (h : rel d t u) (hd : d ≤ d') : rel d' t u := ⟨by have := h.1; omega, h.2⟩
theorem rel_take (n : Nat) (t : tT) : rel 0 t (tTake n t).2 := ⟨tTake_len n t, by rw [tTake_f]⟩
theorem rel_need (c : Bool) (t : tT) : rel 0 t (tNeed c t) := ⟨Nat.le_refl _, rfl⟩
theorem rel_give (n : Nat) (t : tT) : rel 1 t (tGive n t) := by
  unfold tGive
  split
  · exact rel.rf.le (by omega)
  · exact ⟨Nat.le_refl _, rfl⟩
theorem rel_rest (t : tT) : rel 0 t (tRest t) := by
  obtain ⟨T, F, g⟩ := t
  cases F with
  | nil => exact rel.rf
  | cons f r => exact ⟨by show (T.drop _).length ≤ T.length + 0; rw [List.length_drop]; omega, rfl⟩
theorem rel_takeL (l : List Nat) (t : tT) : rel 0 t (tTakeL l t) := ⟨tTakeL_len l t, by rw [tTakeL_f]⟩
theorem rel_turns (a n c : Nat) (t : tT) : rel 1 t (tTurns a n c t) := (rel_takeL _ _).trans (rel_give _ _)
theorem rel_calls (s : mSigT) (t : tT) : rel 1 t (tCalls s t) := (rel_takeL _ _).trans (rel_give _ _)
theorem rel_label (k : Nat) (t : tT) : rel 0 t (tLabel k t).2 := rel_need _ _
theorem rel_labs : ∀ (l : List Nat) (o : Option Nat) (t : tT), rel 0 t (tLabs l o t).2 := by
  intro l
  induction l with
  | nil => intro o t; exact rel.rf
  | cons x r ih => intro o t; exact ((rel_label x t).trans (rel_need _ _)).trans (ih _ _)
theorem rel_row (l : List Nat) (t : tT) : rel 0 t (tRow l t) := (((rel_labs l none t).trans (rel_take _ _)).trans (rel_take _ _)).trans (rel_rest _)
theorem rel_close (t : tT) : rel 0 t (tClose t) := (rel_take _ _).trans (rel_need _ _)
theorem rel_else (t : tT) : rel 0 t (tElse t) := by
  obtain ⟨T, F, g⟩ := t
  cases F with
  | nil => exact rel.rf
  | cons f r => exact ⟨by show (T.drop _).length ≤ T.length + 0; rw [List.length_drop]; omega, rfl⟩
theorem rel_if {d : Nat} {c : tT} {f : tT → tT} (h : rel d c (f c)) : rel d c (tIf c f) := by
  unfold tIf
  split
  · exact h
  · exact rel.rf.le (by omega)
theorem rel_m232 (n : Nat) (t : tT) : rel 1 t (tM232 n t) := by
  unfold tM232
  repeat' split
  · exact rel.rf.le (by omega)
  · exact rel.rf.le (by omega)
  · exact rel_turns _ _ _ _
theorem rel_m207 (A : mA) (n : Nat) (t : tT) : rel 1 t (tM207 A n t) := by
  unfold tM207
  repeat' split
  · exact (rel_need _ _).trans (rel_m232 _ _)
  · exact (rel_need _ _).trans (rel_m232 _ _)
  · exact rel_m232 _ _
theorem rel_m174 (A : mA) (n : Nat) (t : tT) : rel 1 t (tM174 A n t) := by
  unfold tM174
  repeat' split
  · exact (rel_need _ _).trans (rel_m207 _ _ _)
  · exact (rel_need _ _).trans (rel_m207 _ _ _)
  · exact (rel_need _ _).trans (rel_m207 _ _ _)
  · exact rel_m207 _ _ _
theorem rel_m138 (A : mA) (n k : Nat) (t : tT) : rel 1 t (tM138 A n k t) := by
  unfold tM138
  repeat' split
  · exact (rel_need _ _).trans (rel_m174 _ _ _)
  · exact (rel_need _ _).trans (rel_m174 _ _ _)
  · exact rel_m174 _ _ _
theorem rel_many (A : mA) (n k : Nat) (t : tT) : rel 1 t (tMany A n k t) := by
  unfold tMany
  repeat' split
  · exact (rel_need _ _).trans (rel_m138 _ _ _ _)
  · exact (rel_need _ _).trans (rel_m138 _ _ _ _)
  · exact rel_m138 _ _ _ _
theorem rel_acc (A : mA) (op p : Nat) (t : tT) : rel 1 t (tAcc A op p t) := by
  unfold tAcc
  split
  · exact (((rel_need _ _).trans (rel_take _ _)).trans (rel_take _ _)).le (by omega)
  · exact (rel_need _ _).trans (rel_turns _ _ _ _)
theorem rel_loc (L : List Nat) (op k : Nat) (t : tT) : rel 1 t (tLoc L op k t) := by
  unfold tLoc
  refine rel.trans (d := 0) (d' := 1) (rel_need _ t) (rel_if ?_)
  by_cases q : op = 32
  · by_cases q2 : op = 33
    · omega
    · show rel 1 _ (if op = 33 then (if op = 32 then _ else _) else tGive _ (if op = 32 then _ else _))
      rw [if_neg q2, if_pos q]; exact rel_give _ _
  · by_cases q2 : op = 33
    · show rel 1 _ (if op = 33 then (if op = 32 then _ else _) else tGive _ (if op = 32 then _ else _))
      rw [if_pos q2, if_neg q]; exact (rel_take _ _).le (by omega)
    · show rel 1 _ (if op = 33 then (if op = 32 then _ else _) else tGive _ (if op = 32 then _ else _))
      rw [if_neg q2, if_neg q]; exact (rel_take _ _).trans (rel_give _ _)
theorem rel_glo (A : mA) (op k : Nat) (t : tT) : rel 1 t (tGlo A op k t) := by
  unfold tGlo
  refine rel.trans (d := 0) (d' := 1) (rel_need _ t) (rel_if ?_)
  by_cases q : op = 35
  · rw [if_pos q]; exact rel_give _ _
  · rw [if_neg q]; exact (rel_take _ _).le (by omega)
theorem rel_one (A : mA) (L : List Nat) (g : mSigT) (x : mInsT) (t : tT) (h1 : ¬ (2 ≤ x.1 ∧ x.1 ≤ 4)) (h2 : ¬ x.1 = 11) : rel 1 t (tOne A L g x t) := by
  unfold tOne
  by_cases q : x.1 = 0
  · rw [if_pos q]; exact (rel_rest t).le (by omega)
  rw [if_neg q]
  by_cases q : x.1 = 1
  · rw [if_pos q]; exact rel.rf.le (by omega)
  rw [if_neg q]
  rw [if_neg (by omega : ¬ (x.1 = 2 ∨ x.1 = 3 ∨ x.1 = 4))]
  by_cases q : x.1 = 5
  · rw [if_pos q]; exact ((rel_close t).trans (rel_else _)).le (by omega)
  rw [if_neg q, if_neg h2]
  by_cases q : x.1 = 12
  · rw [if_pos q]; exact (((rel_label _ t).trans (rel_take _ _)).trans (rel_rest _)).le (by omega)
  rw [if_neg q]
  by_cases q : x.1 = 13
  · rw [if_pos q]; exact (((rel_label _ t).trans (rel_take _ _)).trans (rel_take _ _)).trans (rel_give _ _)
  rw [if_neg q]
  by_cases q : x.1 = 14
  · rw [if_pos q]; exact (rel_row _ t).le (by omega)
  rw [if_neg q]
  by_cases q : x.1 = 15
  · rw [if_pos q]; exact ((rel_take _ t).trans (rel_rest _)).le (by omega)
  rw [if_neg q]
  by_cases q : x.1 = 16
  · rw [if_pos q]; exact (rel_need _ t).trans (rel_if (rel_calls _ _))
  rw [if_neg q]
  by_cases q : x.1 = 17
  · rw [if_pos q]; exact ((rel_need _ t).trans (rel_take _ _)).trans (rel_if (rel_calls _ _))
  rw [if_neg q]
  by_cases q : x.1 = 26
  · rw [if_pos q]; exact (rel_take _ t).le (by omega)
  rw [if_neg q]
  by_cases q : x.1 = 27
  · rw [if_pos q]; exact ((((rel_take _ t).trans (rel_take _ _)).trans (rel_take _ _)).trans (rel_need _ _)).trans (rel_give _ _)
  rw [if_neg q]
  by_cases q : x.1 = 32 ∨ x.1 = 33 ∨ x.1 = 34
  · rw [if_pos q]; exact rel_loc _ _ _ t
  rw [if_neg q]
  by_cases q : x.1 = 35 ∨ x.1 = 36
  · rw [if_pos q]; exact rel_glo _ _ _ t
  rw [if_neg q]
  by_cases q : x.1 = 63 ∨ x.1 = 64
  · rw [if_pos q]; exact (rel_need _ t).trans (rel_turns _ _ _ _)
  rw [if_neg q]
  by_cases q : x.1 = 65
  · rw [if_pos q]; exact rel_give _ t
  rw [if_neg q]
  by_cases q : x.1 = 66
  · rw [if_pos q]; exact rel_give _ t
  rw [if_neg q]
  by_cases q : isLdN x.1 = true ∨ isStN x.1 = true
  · rw [if_pos q]; exact rel_acc _ _ _ t
  · rw [if_neg q]; exact rel_turns _ _ _ t
theorem one_fr (A : mA) (L : List Nat) (g : mSigT) (x : mInsT) (t : tT) (h1 : 2 ≤ x.1 ∧ x.1 ≤ 4) : (tOne A L g x t).1.length ≤ t.1.length ∧ (tOne A L g x t).2.1.length = t.2.1.length + 1 := by
  unfold tOne
  rw [if_neg (by omega), if_neg (by omega), if_pos (by omega)]
  by_cases q : x.1 = 4
  · rw [if_pos q]
    refine ⟨tTake_len 0 t, ?_⟩
    show (tTake 0 t).2.2.1.length + 1 = _
    rw [tTake_f]
  · rw [if_neg q]
    exact ⟨Nat.le_refl _, rfl⟩
theorem one_end (A : mA) (L : List Nat) (g : mSigT) (x : mInsT) (t : tT) (h1 : x.1 = 11) : (tOne A L g x t).1.length ≤ t.1.length + 1 ∧ (tOne A L g x t).2.1 = t.2.1.tail := by
  unfold tOne
  rw [if_neg (by omega), if_neg (by omega), if_neg (by omega), if_neg (by omega), if_pos h1]
  have hc := rel_close t
  have hcf : (tClose t).2.1 = t.2.1 := by show (tTake _ _).2.2.1 = _; rw [tTake_f]
  rw [← hcf]
  generalize tClose t = u at hc
  obtain ⟨T, F, gd⟩ := u
  cases F with
  | nil => exact ⟨Nat.le_succ_of_le hc.1, rfl⟩
  | cons f r =>
    have h : rel 1 (T.drop (T.length - f.2.2.2.1), r, gd && (decide (¬ f.1 = 4) || decide (f.2.2.1 = 2))) (tEnd (T, f :: r, gd)) := rel_give _ _
    refine ⟨?_, ?_⟩
    · have h1 := h.1
      have h3 : T.length ≤ t.1.length := hc.1
      have h4 : (T.drop (T.length - f.2.2.2.1)).length ≤ T.length := by rw [List.length_drop]; omega
      have h1 : (tEnd (T, f :: r, gd)).1.length ≤ (T.drop (T.length - f.2.2.2.1)).length + 1 := h1
      omega
    · show (tGive _ _).2.1 = r
      unfold tGive
      split <;> rfl
/-- the typing of an instruction; of those behind 252 the number is 256 more -/
def tStep (A : mA) (L : List Nat) (g : mSigT) (x : mInsT) (t : tT) : tT := if 256 ≤ x.1 then tMany A (x.1 - 256) x.2.1 t else tOne A L g x t
def mNxE (ow : List Nat) : Option (List Nat) := match ow with
  | [] => none
  | _ :: o => some o
/-- what stands open behind an instruction; none: the body has ended -/
def mNx (k : Nat) (ow : List Nat) : Option (List Nat) := if 2 ≤ k ∧ k ≤ 4 then some (k :: ow) else if k = 5 then some (5 :: ow.tail) else if k = 11 then mNxE ow else some ow
/-- the rest of a body's instructions from a on -/
def mIns (b : Nat → Nat) (e : Nat) (hc : Bool) : Option (List Nat) → Nat → List (Nat × mInsT) → Nat → Prop
  | none, a, l, z => l = [] ∧ a = z
  | some ow, a, l, z => ∃ f, mCode b e hc f ow [] a = .ok (l, z)
theorem mCode_gen {b : Nat → Nat} {e : Nat} {hc : Bool} : ∀ (f : Nat) (ow : List Nat) (l : List (Nat × mInsT)) (a : Nat) (r : List (Nat × mInsT) × Nat), mCode b e hc f ow l a = .ok r → ∃ t, r.1 = l ++ t ∧ ∀ l', mCode b e hc f ow l' a = .ok (l' ++ t, r.2) := by
  intro f
  induction f with
  | zero => intro ow l a r h; cases h
  | succ f ih =>
    intro ow l a r h
    rw [mCodeS] at h
    cases hk : mOct b e a with
    | error q => rw [hk] at h; cases h
    | ok k =>
      rw [hk] at h
      have h0 : ∀ l', mCode b e hc (f + 1) ow l' a = (if (2 ≤ k.1 ∧ k.1 ≤ 4) ∧ ow.length = 60 then .error (4, a)
    else if k.1 = 5 ∧ ¬ ow.head? = some 4 then .error (1, a)
    else (mOps b e hc k.1 a k.2).bind fun r =>
      if 2 ≤ k.1 ∧ k.1 ≤ 4 then mCode b e hc f (k.1 :: ow) (l' ++ [(a, r.1)]) r.2
      else if k.1 = 5 then mCode b e hc f (5 :: ow.tail) (l' ++ [(a, r.1)]) r.2
      else if k.1 = 11 then mC11 b e hc f ow (l' ++ [(a, r.1)]) r.2
      else mCode b e hc f ow (l' ++ [(a, r.1)]) r.2) := fun l' => by rw [mCodeS, hk]; rfl
      have h0l := (h0 l).symm.trans ((by rw [mCodeS, hk]; exact h : mCode b e hc (f + 1) ow l a = .ok r))
      clear h
      by_cases q1 : (2 ≤ k.1 ∧ k.1 ≤ 4) ∧ ow.length = 60
      · rw [if_pos q1] at h0l; cases h0l
      rw [if_neg q1] at h0l
      by_cases q2 : k.1 = 5 ∧ ¬ ow.head? = some 4
      · rw [if_pos q2] at h0l; cases h0l
      rw [if_neg q2] at h0l
      cases ho : mOps b e hc k.1 a k.2 with
      | error q => rw [ho] at h0l; cases h0l
      | ok p =>
        rw [ho] at h0l
        have h0' : ∀ l', mCode b e hc (f + 1) ow l' a = (if 2 ≤ k.1 ∧ k.1 ≤ 4 then mCode b e hc f (k.1 :: ow) (l' ++ [(a, p.1)]) p.2
      else if k.1 = 5 then mCode b e hc f (5 :: ow.tail) (l' ++ [(a, p.1)]) p.2
      else if k.1 = 11 then mC11 b e hc f ow (l' ++ [(a, p.1)]) p.2
      else mCode b e hc f ow (l' ++ [(a, p.1)]) p.2) := fun l' => by rw [h0, if_neg q1, if_neg q2, ho]; rfl
        have h0l : (if 2 ≤ k.1 ∧ k.1 ≤ 4 then mCode b e hc f (k.1 :: ow) (l ++ [(a, p.1)]) p.2
      else if k.1 = 5 then mCode b e hc f (5 :: ow.tail) (l ++ [(a, p.1)]) p.2
      else if k.1 = 11 then mC11 b e hc f ow (l ++ [(a, p.1)]) p.2
      else mCode b e hc f ow (l ++ [(a, p.1)]) p.2) = .ok r := h0l
        have go : ∀ o, mCode b e hc f o (l ++ [(a, p.1)]) p.2 = .ok r → (∀ l', mCode b e hc (f + 1) ow l' a = mCode b e hc f o (l' ++ [(a, p.1)]) p.2) → ∃ t, r.1 = l ++ t ∧ ∀ l', mCode b e hc (f + 1) ow l' a = .ok (l' ++ t, r.2) := by
          intro o h1 h2
          obtain ⟨t, e1, h3⟩ := ih o _ _ r h1
          exact ⟨(a, p.1) :: t, by rw [e1]; simp, fun l' => by rw [h2, h3]; simp⟩
        by_cases q3 : 2 ≤ k.1 ∧ k.1 ≤ 4
        · rw [if_pos q3] at h0l; exact go _ h0l (fun l' => by rw [h0', if_pos q3])
        rw [if_neg q3] at h0l
        by_cases q4 : k.1 = 5
        · rw [if_pos q4] at h0l; exact go _ h0l (fun l' => by rw [h0', if_neg q3, if_pos q4])
        rw [if_neg q4] at h0l
        by_cases q5 : k.1 = 11
        · rw [if_pos q5] at h0l
          cases ow with
          | nil =>
            cases h0l
            exact ⟨[(a, p.1)], rfl, fun l' => by rw [h0', if_neg q3, if_neg q4, if_pos q5]; rfl⟩
          | cons x o => exact go _ h0l (fun l' => by rw [h0', if_neg q3, if_neg q4, if_pos q5]; rfl)
        · rw [if_neg q5] at h0l
          exact go _ h0l (fun l' => by rw [h0', if_neg q3, if_neg q4, if_neg q5])
theorem mIns_cons {b : Nat → Nat} {e : Nat} {hc : Bool} {ow : List Nat} {a z : Nat} {l : List (Nat × mInsT)} (h : mIns b e hc (some ow) a l z) : ∃ k r l', mOct b e a = .ok k ∧ ¬ ((2 ≤ k.1 ∧ k.1 ≤ 4) ∧ ow.length = 60) ∧ ¬ (k.1 = 5 ∧ ¬ ow.head? = some 4) ∧ mOps b e hc k.1 a k.2 = .ok r ∧ l = (a, r.1) :: l' ∧ mIns b e hc (mNx k.1 ow) r.2 l' z := by
  obtain ⟨f, h⟩ := h
  cases f with
  | zero => cases h
  | succ f =>
    rw [mCodeS] at h
    cases hk : mOct b e a with
    | error q => rw [hk] at h; cases h
    | ok k =>
      rw [hk] at h
      have h : (if (2 ≤ k.1 ∧ k.1 ≤ 4) ∧ ow.length = 60 then .error (4, a)
    else if k.1 = 5 ∧ ¬ ow.head? = some 4 then .error (1, a)
    else (mOps b e hc k.1 a k.2).bind fun r =>
      if 2 ≤ k.1 ∧ k.1 ≤ 4 then mCode b e hc f (k.1 :: ow) ([] ++ [(a, r.1)]) r.2
      else if k.1 = 5 then mCode b e hc f (5 :: ow.tail) ([] ++ [(a, r.1)]) r.2
      else if k.1 = 11 then mC11 b e hc f ow ([] ++ [(a, r.1)]) r.2
      else mCode b e hc f ow ([] ++ [(a, r.1)]) r.2) = .ok (l, z) := h
      by_cases q1 : (2 ≤ k.1 ∧ k.1 ≤ 4) ∧ ow.length = 60
      · rw [if_pos q1] at h; cases h
      rw [if_neg q1] at h
      by_cases q2 : k.1 = 5 ∧ ¬ ow.head? = some 4
      · rw [if_pos q2] at h; cases h
      rw [if_neg q2] at h
      cases ho : mOps b e hc k.1 a k.2 with
      | error q => rw [ho] at h; cases h
      | ok p =>
        rw [ho] at h
        have h : (if 2 ≤ k.1 ∧ k.1 ≤ 4 then mCode b e hc f (k.1 :: ow) ([] ++ [(a, p.1)]) p.2
      else if k.1 = 5 then mCode b e hc f (5 :: ow.tail) ([] ++ [(a, p.1)]) p.2
      else if k.1 = 11 then mC11 b e hc f ow ([] ++ [(a, p.1)]) p.2
      else mCode b e hc f ow ([] ++ [(a, p.1)]) p.2) = .ok (l, z) := h
        have go : ∀ o, mCode b e hc f o ([] ++ [(a, p.1)]) p.2 = .ok (l, z) → mNx k.1 ow = some o → ∃ l', l = (a, p.1) :: l' ∧ mIns b e hc (mNx k.1 ow) p.2 l' z := by
          intro o h1 h2
          obtain ⟨t, e1, h3⟩ := mCode_gen f o _ _ _ h1
          rw [h2]
          exact ⟨t, e1, f, h3 []⟩
        suffices hh : ∃ l', l = (a, p.1) :: l' ∧ mIns b e hc (mNx k.1 ow) p.2 l' z by
          obtain ⟨l', h1, h2⟩ := hh
          exact ⟨k, p, l', rfl, q1, q2, ho, h1, h2⟩
        by_cases q3 : 2 ≤ k.1 ∧ k.1 ≤ 4
        · rw [if_pos q3] at h; exact go _ h (by rw [mNx, if_pos q3])
        rw [if_neg q3] at h
        by_cases q4 : k.1 = 5
        · rw [if_pos q4] at h; exact go _ h (by rw [mNx, if_neg q3, if_pos q4])
        rw [if_neg q4] at h
        by_cases q5 : k.1 = 11
        · rw [if_pos q5] at h
          cases ow with
          | nil =>
            cases h
            exact ⟨[], rfl, by rw [mNx, if_neg q3, if_neg q4, if_pos q5]; exact ⟨rfl, rfl⟩⟩
          | cons x o => exact go _ h (by rw [mNx, if_neg q3, if_neg q4, if_pos q5]; rfl)
        · rw [if_neg q5] at h
          exact go _ h (by rw [mNx, if_neg q3, if_neg q4, if_neg q5])
theorem mOps_op {b : Nat → Nat} {e op fr a : Nat} {hc : Bool} {x : mInsT} {z : Nat} (hop : op < 256) (h : mOps b e hc op fr a = .ok (x, z)) : (¬ op = 252 → x.1 = op) ∧ (op = 252 → 264 ≤ x.1) := by
  have key : ∀ n, n < 256 → ((mFollows n = 9 ∧ n = 252) ∨ mFollows n ≤ 8 ∨ mFollows n = 10) ∧ (n = 252 → mFollows n = 9) := by decide +kernel
  have k := key op hop
  refine ⟨fun q => ?_, fun q => ?_⟩
  · have k8 : mFollows op ≤ 8 ∨ mFollows op = 10 := by rcases k.1 with k | k; exact absurd k.2 q; exact k
    rcases k8 with k8 | k8
    · have : mFollows op = 0 ∨ mFollows op = 1 ∨ mFollows op = 2 ∨ mFollows op = 3 ∨ mFollows op = 4 ∨ mFollows op = 5 ∨ mFollows op = 6 ∨ mFollows op = 7 ∨ mFollows op = 8 := by omega
      rcases this with k | k | k | k | k | k | k | k | k
      · obtain ⟨rfl, _⟩ := mOps_0 k h; rfl
      · obtain ⟨u, _, rfl, _⟩ := mOps_1 k h; rfl
      · obtain ⟨u, _, rfl, _⟩ := mOps_2 k h; rfl
      · obtain ⟨_, rfl⟩ := mOps_3 k h; rfl
      · obtain ⟨_, rfl⟩ := mOps_4 k h; rfl
      · obtain ⟨u, v, _, _, rfl, _⟩ := mOps_5 k h; rfl
      · obtain ⟨u, _, _, rfl⟩ := mOps_6 k h; rfl
      · obtain ⟨_, rfl⟩ := mOps_7 k h; rfl
      · obtain ⟨u, l, _, _, _, rfl⟩ := mOps_8 k h; rfl
    · exact (mOps_x k8 h).elim
  · subst q
    obtain ⟨n, u, p, _, h8, _, _, _, _, rfl, _⟩ := mOps_9 h
    show 264 ≤ 256 + n.1
    omega
/-- the typing's step agrees with what stands open -/
theorem step_fr {b : Nat → Nat} {e k fr a : Nat} {hc : Bool} {x : mInsT} {z : Nat} (hk : k < 256) (h : mOps b e hc k fr a = .ok (x, z)) (A : mA) (L : List Nat) (g : mSigT) (t : tT) (ow : List Nat) (hf : t.2.1.length = ow.length + 1) (h5 : ¬ (k = 5 ∧ ¬ ow.head? = some 4)) :
    (tStep A L g x t).1.length ≤ t.1.length + 1 ∧ (match mNx k ow with
      | none => (tStep A L g x t).2.1 = []
      | some o => (tStep A L g x t).2.1.length = o.length + 1) := by
  have ho := mOps_op hk h
  unfold tStep
  by_cases q : k = 252
  · rw [if_pos (by have := ho.2 q; omega)]
    have h1 := rel_many A (x.1 - 256) x.2.1 t
    refine ⟨h1.1, ?_⟩
    rw [mNx, if_neg (by omega), if_neg (by omega), if_neg (by omega)]
    exact h1.2.trans hf
  · have hx := ho.1 q
    rw [if_neg (by omega)]
    by_cases q1 : 2 ≤ k ∧ k ≤ 4
    · have h1 := one_fr A L g x t (by omega)
      refine ⟨by omega, ?_⟩
      rw [mNx, if_pos q1]
      show _ = (k :: ow).length + 1
      rw [h1.2, hf]; rfl
    by_cases q2 : k = 11
    · have h1 := one_end A L g x t (by omega)
      refine ⟨h1.1, ?_⟩
      rw [mNx, if_neg q1, if_neg (by omega), if_pos q2, h1.2]
      cases ow with
      | nil => exact List.eq_nil_of_length_eq_zero (by rw [List.length_tail, hf]; rfl)
      | cons y o => show t.2.1.tail.length = o.length + 1; rw [List.length_tail, hf]; rfl
    · have h1 := rel_one A L g x t (by omega) (by omega)
      refine ⟨h1.1, ?_⟩
      by_cases q3 : k = 5
      · rw [mNx, if_neg q1, if_pos q3]
        show _ = (5 :: ow.tail).length + 1
        rw [h1.2, hf]
        cases ow with
        | nil => exact absurd ⟨q3, by simp⟩ h5
        | cons y o => rfl
      · rw [mNx, if_neg q1, if_neg q3, if_neg q2]
        exact h1.2.trans hf

/-! how high the types stand behind an instruction, as the class follows it -/
theorem rel_b207 (tab : Bool) (n : Nat) (t : tT) : rel 1 t (tB207 tab n t) := by
  unfold tB207
  repeat' split
  · exact (rel_need _ _).trans (rel_m232 _ _)
  · exact (rel_need _ _).trans (rel_m232 _ _)
  · exact rel_m232 _ _
theorem rel_b174 (mem tab : Bool) (n : Nat) (t : tT) : rel 1 t (tB174 mem tab n t) := by
  unfold tB174
  repeat' split
  · exact (rel_need _ _).trans (rel_b207 _ _ _)
  · exact (rel_need _ _).trans (rel_b207 _ _ _)
  · exact (rel_need _ _).trans (rel_b207 _ _ _)
  · exact rel_b207 _ _ _
theorem rel_b138 (el mem tab : Bool) (n : Nat) (t : tT) : rel 1 t (tB138 el mem tab n t) := by
  unfold tB138
  repeat' split
  · exact (rel_need _ _).trans (rel_b174 _ _ _ _)
  · exact (rel_need _ _).trans (rel_b174 _ _ _ _)
  · exact rel_b174 _ _ _ _
theorem rel_b0 (dt el mem tab : Bool) (n : Nat) (t : tT) : rel 1 t (tB0 dt el mem tab n t) := by
  unfold tB0
  repeat' split
  · exact (rel_need _ _).trans (rel_b138 _ _ _ _ _)
  · exact (rel_need _ _).trans (rel_b138 _ _ _ _ _)
  · exact rel_b138 _ _ _ _ _
theorem rel_pre (x : Nat) (t : tT) : rel 0 t (tPreF x t) := by
  unfold tPreF
  by_cases q : x = 0
  · rw [if_pos q]; exact rel_rest t
  rw [if_neg q]
  by_cases q : x = 4
  · rw [if_pos q]; exact rel_take 0 t
  rw [if_neg q]
  by_cases q : x = 5
  · rw [if_pos q]; exact rel_close t
  rw [if_neg q]
  by_cases q : x = 11
  · rw [if_pos q]; exact (rel_close t).trans (rel_need _ _)
  rw [if_neg q]
  exact rel.rf
theorem rel_sel (t : tT) : rel 1 t (tSel t) := ((((rel_take _ t).trans (rel_take _ _)).trans (rel_take _ _)).trans (rel_need _ _)).trans (rel_give _ _)
theorem rel_glo' (G : List (Nat × Nat)) (op k : Nat) (t : tT) : rel 1 t (tGlo' G op k t) := by
  unfold tGlo'
  refine rel.trans (d := 0) (d' := 1) (rel_need _ t) (rel_if ?_)
  by_cases q : op = 35
  · rw [if_pos q]; exact rel_give _ _
  · rw [if_neg q]; exact (rel_take _ _).le (by omega)
theorem rel_callX (o : Option mSigT) (t : tT) : rel 1 t (tCallX o t) := by
  cases o with
  | none => exact (rel_need _ t).le (by omega)
  | some g => exact rel_calls g t
theorem rel_c (E : tE) (x k : Nat) (l : List Nat) (t : tT) : rel 1 t (cStep E x k l t) := by
  unfold cStep
  by_cases q : x ≤ 5 ∨ x = 11
  · rw [if_pos q]; exact (rel_pre x t).le (by omega)
  rw [if_neg q]
  by_cases q : x = 14
  · rw [if_pos q]; exact (rel_row l t).le (by omega)
  rw [if_neg q]
  by_cases q : x ≤ 15
  · rw [if_pos q]
    by_cases q2 : x = 15
    · rw [if_pos q2]; exact ((rel_take _ t).trans (rel_rest _)).le (by omega)
    rw [if_neg q2]
    by_cases q2 : x = 13
    · rw [if_pos q2]; exact (((rel_label _ t).trans (rel_take _ _)).trans (rel_take _ _)).trans (rel_give _ _)
    · rw [if_neg q2]; exact (((rel_label _ t).trans (rel_take _ _)).trans (rel_rest _)).le (by omega)
  rw [if_neg q]
  by_cases q : x = 16
  · rw [if_pos q]; exact rel_callX _ t
  rw [if_neg q]
  by_cases q : x = 17
  · rw [if_pos q]; exact ((rel_need _ t).trans (rel_take _ _)).trans (rel_if (rel_calls _ _))
  rw [if_neg q]
  by_cases q : x ≤ 27
  · rw [if_pos q]
    by_cases q2 : x = 26
    · rw [if_pos q2]; exact (rel_take _ t).le (by omega)
    · rw [if_neg q2]; exact rel_sel t
  rw [if_neg q]
  by_cases q : x ≤ 34
  · rw [if_pos q]; exact rel_loc _ _ _ t
  rw [if_neg q]
  by_cases q : x ≤ 36
  · rw [if_pos q]; exact rel_glo' _ _ _ t
  rw [if_neg q]
  by_cases q : x ≤ 62
  · rw [if_pos q]
    by_cases q2 : 54 ≤ x
    · rw [if_pos q2]; exact (((rel_need _ t).trans (rel_take _ _)).trans (rel_take _ _)).le (by omega)
    · rw [if_neg q2]; exact ((rel_need _ t).trans (rel_take _ _)).trans (rel_give _ _)
  rw [if_neg q]
  by_cases q : x ≤ 64
  · rw [if_pos q]; exact (rel_need _ t).trans (rel_turns _ _ _ _)
  rw [if_neg q]
  by_cases q : x < 256
  · rw [if_pos q]
    by_cases q2 : x = 65
    · rw [if_pos q2]; exact rel_give _ t
    rw [if_neg q2]
    by_cases q2 : x = 66
    · rw [if_pos q2]; exact rel_give _ t
    · rw [if_neg q2]; exact rel_turns _ _ _ t
  rw [if_neg q]
  exact rel_b0 _ _ _ _ _ t
theorem tPop_le (t : tT) : (tPop t).1.length ≤ t.1.length + 1 := by
  unfold tPop
  split
  · exact Nat.le_succ _
  · rename_i f r hF
    have h := (rel_give f.2.2.1 (t.1.drop (t.1.length - f.2.2.2.1), r, t.2.2)).1
    have h2 : (t.1.drop (t.1.length - f.2.2.2.1)).length ≤ t.1.length := by rw [List.length_drop]; omega
    have h : (tGive f.2.2.1 (t.1.drop (t.1.length - f.2.2.2.1), r, t.2.2)).1.length ≤ (t.1.drop (t.1.length - f.2.2.2.1)).length + 1 := h
    omega
theorem len_c (E : tE) (x r k : Nat) (l : List Nat) (t : tT) : (tTurn x r (cStep E x k l t)).1.length ≤ t.1.length + 1 := by
  by_cases q : x ≤ 5 ∨ x = 11
  · have e : cStep E x k l t = tPreF x t := by unfold cStep; rw [if_pos q]
    have h := (rel_pre x t).1
    rw [e]
    generalize tPreF x t = u at h
    unfold tTurn
    by_cases q1 : 2 ≤ x ∧ x ≤ 4
    · rw [if_pos q1]
      show u.1.length ≤ _
      omega
    rw [if_neg q1]
    by_cases q1 : x = 5
    · rw [if_pos q1]
      have := (rel_else u).1
      omega
    rw [if_neg q1]
    by_cases q1 : x = 11
    · rw [if_pos q1]
      have := tPop_le u
      omega
    rw [if_neg q1]
    omega
  · rw [tTurn_id (by omega)]
    exact (rel_c E x k l t).1

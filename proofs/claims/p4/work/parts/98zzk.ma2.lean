theorem tTurn_id {x r : Nat} {t : tT} (h : ¬ (2 ≤ x ∧ x ≤ 4) ∧ ¬ x = 5 ∧ ¬ x = 11) : tTurn x r t = t := by unfold tTurn; rw [if_neg h.1, if_neg h.2.1, if_neg h.2.2]
theorem ma_longer {E : tE} {A : mA} {L : List Nat} {g : mSigT} (hE : eqE E A L g) (n k : Nat) (hd : n = 8 ∨ n = 9 → decide (∃ m, E.nd = some m ∧ k < m) = decide (k < (aZ A).length)) (t : tT) : tB0 (decide (∃ m, E.nd = some m ∧ k < m)) (decide (k < E.ne)) (decide (0 < E.nm)) (decide (0 < E.nt)) n t = tMany A n k t := by
  obtain ⟨-, -, -, -, -, -, -, h1, h2, h3⟩ := hE
  have e207 : ∀ t, tB207 (decide (0 < E.nt)) n t = tM207 A n t := fun t => by unfold tB207 tM207; rw [h1]
  have e174 : ∀ t, tB174 (decide (0 < E.nm)) (decide (0 < E.nt)) n t = tM174 A n t := fun t => by unfold tB174 tM174; rw [h2]; simp only [e207]
  have e138 : ∀ t, tB138 (decide (k < E.ne)) (decide (0 < E.nm)) (decide (0 < E.nt)) n t = tM138 A n k t := fun t => by unfold tB138 tM138; rw [h3]; simp only [e174]
  unfold tB0 tMany
  simp only [e138]
  by_cases q8 : n = 8
  · rw [if_pos q8, if_pos q8, hd (Or.inl q8)]
  · rw [if_neg q8, if_neg q8]
    by_cases q9 : n = 9
    · rw [if_pos q9, if_pos q9, hd (Or.inr q9)]
    · rw [if_neg q9, if_neg q9]
theorem acc_ls : ∀ x, x < 63 → isAcc x = true → (isLdN x = true ∨ isStN x = true) := by decide +kernel
theorem ma_one {E : tE} {A : mA} {L : List Nat} {g : mSigT} (hE : eqE E A L g) (x k : Nat) (l : List Nat) (t : tT) (ht : t.2.2 = true) (hx : isOp x = true) (hx2 : x < 256) (h5 : ¬ (x ≤ 5 ∨ x = 11)) : cStep E x k l t = tOne A L g (x, k, l) t := by
  have hE0 := hE
  obtain ⟨hL, hg, hS, hFL, hFK, hGl, hGk, h1, h2, h3⟩ := hE
  by_cases q12 : x = 12
  · subst q12; rfl
  by_cases q13 : x = 13
  · subst q13; rfl
  by_cases q14 : x = 14
  · subst q14; rfl
  by_cases q15 : x = 15
  · subst q15
    show tRest (tTake E.g t).2 = tRest (tTake g.2 t).2
    rw [hg]
  by_cases q16 : x = 16
  · subst q16
    exact ma_call hE0 k ht
  by_cases q17 : x = 17
  · subst q17
    show tCallY E.S (decide (0 < E.nt)) k t = tCallI A k t
    unfold tCallY tCallI
    rw [hS, h1]
  by_cases q26 : x = 26
  · subst q26; rfl
  by_cases q27 : x = 27
  · subst q27; rfl
  by_cases q32 : x = 32 ∨ x = 33 ∨ x = 34
  · rcases q32 with rfl | rfl | rfl
    · show tLoc E.lc 32 k t = tLoc L 32 k t; rw [hL]
    · show tLoc E.lc 33 k t = tLoc L 33 k t; rw [hL]
    · show tLoc E.lc 34 k t = tLoc L 34 k t; rw [hL]
  have glo : ∀ op, tGlo' E.G op k t = tGlo A op k t := by
    intro op
    unfold tGlo' tGlo
    rw [tIf_n ht, tIf_n ht, hGl]
    by_cases q : k < nGlo A
    · rw [hGk k q]
    · rw [decide_eq_false q, Bool.false_and, Bool.false_and, if_neg (by decide), if_neg (by decide)]
  by_cases q35 : x = 35
  · subst q35; exact glo 35
  by_cases q36 : x = 36
  · subst q36; exact glo 36
  by_cases q63 : x = 63
  · subst q63
    show tTurns 0 0 0 (tNeed (decide (0 < E.nm)) t) = tTurns 0 0 0 (tNeed (hasK A 2) t)
    rw [h2]
  by_cases q64 : x = 64
  · subst q64
    show tTurns 0 1 0 (tNeed (decide (0 < E.nm)) t) = tTurns 0 1 0 (tNeed (hasK A 2) t)
    rw [h2]
  by_cases q65 : x = 65
  · subst q65; rfl
  by_cases q66 : x = 66
  · subst q66; rfl
  have h0 : ¬ x = 0 := by omega
  have hn : ¬ x = 1 := by omega
  have h24 : ¬ (x = 2 ∨ x = 3 ∨ x = 4) := by omega
  have hx5 : ¬ x = 5 := by omega
  have hx11 : ¬ x = 11 := by omega
  have e1 : tOne A L g (x, k, l) t = (if isLdN x = true ∨ isStN x = true then tAcc A x k t else tNum x t) := by
    unfold tOne
    rw [if_neg h0, if_neg hn, if_neg h24, if_neg hx5, if_neg hx11, if_neg q12, if_neg q13, if_neg q14, if_neg q15, if_neg q16, if_neg q17, if_neg q26, if_neg q27, if_neg q32, if_neg (show ¬ (x = 35 ∨ x = 36) by omega), if_neg (show ¬ (x = 63 ∨ x = 64) by omega), if_neg q65, if_neg q66]
  rw [e1]
  have hcase : isAcc x = true ∨ isNum x = true := by
    unfold isOp at hx
    simp only [Bool.or_eq_true, Bool.and_eq_true, decide_eq_true_eq] at hx
    rcases hx with (((((((((z | z) | z) | z) | z) | z) | z) | z) | z) | z)
    all_goals first | exact Or.inl z | exact Or.inr z | (exfalso; omega)
  unfold cStep
  rcases hcase with z | z
  · have hr : 40 ≤ x ∧ x ≤ 62 := by
      have z' := z
      unfold isAcc at z'
      simp only [Bool.and_eq_true, decide_eq_true_eq] at z'
      omega
    rw [if_neg h5, if_neg q14, if_neg (show ¬ x ≤ 15 by omega), if_neg q16, if_neg q17, if_neg (show ¬ x ≤ 27 by omega), if_neg (show ¬ x ≤ 34 by omega), if_neg (show ¬ x ≤ 36 by omega), if_pos hr.2, if_pos (acc_ls x (by omega) z)]
    unfold tAcc
    rw [(acc_v x (by omega) z).2, h2]
    by_cases q54 : 54 ≤ x
    · rw [if_pos q54, if_pos (decide_eq_true q54)]
    · rw [if_neg q54, if_neg (by rw [decide_eq_false q54]; decide)]
      rfl
  · have hr : 69 ≤ x := by
      have z' := z
      unfold isNum at z'
      simp only [Bool.or_eq_true, Bool.and_eq_true, decide_eq_true_eq] at z'
      omega
    have hno : ¬ (isLdN x = true ∨ isStN x = true) := by
      unfold isLdN isStN
      simp only [Bool.or_eq_true, Bool.and_eq_true, decide_eq_true_eq]
      omega
    rw [if_neg h5, if_neg q14, if_neg (show ¬ x ≤ 15 by omega), if_neg q16, if_neg q17, if_neg (show ¬ x ≤ 27 by omega), if_neg (show ¬ x ≤ 34 by omega), if_neg (show ¬ x ≤ 36 by omega), if_neg (show ¬ x ≤ 62 by omega), if_neg (show ¬ x ≤ 64 by omega), if_pos hx2, if_neg q65, if_neg q66, if_neg hno]
/-- a whole step: the typing ahead of the turn, and the turn -/
theorem ma_step {E : tE} {A : mA} {L : List Nat} {g : mSigT} (hE : eqE E A L g) (x k : Nat) (l : List Nat) (t : tT) (ht : t.2.2 = true) (hF : ¬ t.2.1 = []) (hx : isOp x = true) (hx2 : x < 300) (hd : x = 264 ∨ x = 265 → decide (∃ m, E.nd = some m ∧ k < m) = decide (k < (aZ A).length)) : tSame (tTurn x k (cStep E x k l t)) (tStep A L g (x, k, l) t) := by
  by_cases q : x ≤ 5 ∨ x = 11
  · have e : cStep E x k l t = tPreF x t := by unfold cStep; rw [if_pos q]
    have e2 : tStep A L g (x, k, l) t = tOne A L g (x, k, l) t := by unfold tStep; rw [if_neg (show ¬ 256 ≤ x by omega)]
    rw [e, e2]
    exact ma_frame x k t q A L g l hF
  · rw [tTurn_id (by omega)]
    by_cases q2 : x < 256
    · have e2 : tStep A L g (x, k, l) t = tOne A L g (x, k, l) t := by unfold tStep; rw [if_neg (show ¬ 256 ≤ x by omega)]
      rw [e2, ma_one hE x k l t ht hx q2 q]
      exact tSame.rf
    · have e2 : tStep A L g (x, k, l) t = tMany A (x - 256) k t := by unfold tStep; rw [if_pos (show 256 ≤ x by omega)]
      have e3 : cStep E x k l t = tB0 (decide (∃ m, E.nd = some m ∧ k < m)) (decide (k < E.ne)) (decide (0 < E.nm)) (decide (0 < E.nt)) (x - 256) t := by
        unfold cStep
        rw [if_neg q, if_neg (show ¬ x = 14 by omega), if_neg (show ¬ x ≤ 15 by omega), if_neg (show ¬ x = 16 by omega), if_neg (show ¬ x = 17 by omega), if_neg (show ¬ x ≤ 27 by omega), if_neg (show ¬ x ≤ 34 by omega), if_neg (show ¬ x ≤ 36 by omega), if_neg (show ¬ x ≤ 62 by omega), if_neg (show ¬ x ≤ 64 by omega), if_neg q2]
      rw [e2, e3, ma_longer hE (x - 256) k (fun z => hd (by omega)) t]
      exact tSame.rf

/-! the class's step is the model's: the typing alone -/
theorem tFrame_fl {w l r : Nat} {t : tT} : (tFrame w l r t).2.2 = t.2.2 := rfl
theorem tElse_fl (t : tT) : (tElse t).2.2 = t.2.2 := by unfold tElse; split <;> rfl
theorem tPop_fl (t : tT) : (tPop t).2.2 = t.2.2 := by
  unfold tPop
  split
  · rfl
  · rw [tGive_fl]
theorem tClose_f (t : tT) : (tClose t).2.1 = t.2.1 := by
  show (tNeed _ (tTake (tRes t) t).2).2.1 = t.2.1
  exact tTake_f _ _
/-- two states of the typing: their flags agree, and all else where the flag is up -/
def tSame (a b : tT) : Prop := a.2.2 = b.2.2 ∧ (a.2.2 = true → a = b)
theorem tSame.rf {a : tT} : tSame a a := ⟨rfl, fun _ => rfl⟩
theorem ma_frame (x r : Nat) (t : tT) (hx : x ≤ 5 ∨ x = 11) (A : mA) (L : List Nat) (g : mSigT) (l : List Nat) (hF : ¬ t.2.1 = []) : tSame (tTurn x r (tPreF x t)) (tOne A L g (x, r, l) t) := by
  by_cases h0 : x = 0
  · subst h0; exact tSame.rf
  · by_cases h1 : x = 1
    · subst h1; exact tSame.rf
    · by_cases h2 : x = 2
      · subst h2; exact tSame.rf
      · by_cases h3 : x = 3
        · subst h3; exact tSame.rf
        · by_cases h4 : x = 4
          · subst h4; exact tSame.rf
          · by_cases h5 : x = 5
            · subst h5; exact tSame.rf
            · have h11 : x = 11 := by omega
              subst h11
              show tSame (tPop (tNeed (decide (¬ tTopW t = 4) || decide (tRes t = 2)) (tClose t))) (tEnd (tClose t))
              obtain ⟨f, r', hf⟩ : ∃ f r', t.2.1 = f :: r' := by
                cases hF2 : t.2.1 with
                | nil => exact absurd hF2 hF
                | cons f r' => exact ⟨f, r', rfl⟩
              have hc : (tClose t).2.1 = f :: r' := by rw [tClose_f]; exact hf
              have hw : tTopW t = f.1 := by unfold tTopW; rw [hf]
              have hr : tRes t = f.2.2.1 := by unfold tRes; rw [hf]
              have e1 : tPop (tNeed (decide (¬ tTopW t = 4) || decide (tRes t = 2)) (tClose t)) = tGive f.2.2.1 ((tClose t).1.drop ((tClose t).1.length - f.2.2.2.1), r', (tClose t).2.2 && (decide (¬ f.1 = 4) || decide (f.2.2.1 = 2))) := by
                rw [hw, hr]
                unfold tPop
                have e : (tNeed (decide (¬ f.1 = 4) || decide (f.2.2.1 = 2)) (tClose t)).2.1 = f :: r' := hc
                rw [e]
                rfl
              have e2 : tEnd (tClose t) = tGive f.2.2.1 ((tClose t).1.drop ((tClose t).1.length - f.2.2.2.1), r', (tClose t).2.2 && (decide (¬ f.1 = 4) || decide (f.2.2.1 = 2))) := by
                unfold tEnd
                rw [hc]
              rw [e1, e2]
              exact tSame.rf
/-- what the model's typing looks at, out of a module -/
def eqE (E : tE) (A : mA) (L : List Nat) (g : mSigT) : Prop := E.lc = L ∧ E.g = g.2 ∧ E.S = aS A ∧ E.L.length = nFun A ∧ (∀ k, k < nFun A → E.L[k]? = some (funSig A k) ∧ funSig A k < (aS A).length) ∧ E.G.length = nGlo A ∧ (∀ k, k < nGlo A → E.G.getD k (0, 0) = (gloT A k, gloC A k)) ∧ hasK A 1 = decide (0 < E.nt) ∧ hasK A 2 = decide (0 < E.nm) ∧ E.ne = (aE A).length
theorem tIf_n {t : tT} {f : tT → tT} (h : t.2.2 = true) (c : Bool) : tIf (tNeed c t) f = if c = true then f t else tNeed false t := by
  unfold tIf
  cases c with
  | true => rw [tNeed_t, if_pos h, if_pos rfl]
  | false => rw [if_neg (by rw [tNeed_f]; decide), if_neg (by decide)]
theorem ma_call {E : tE} {A : mA} {L : List Nat} {g : mSigT} (hE : eqE E A L g) (k : Nat) {t : tT} (ht : t.2.2 = true) : tCallX ((E.L[k]?).bind fun y => E.S[y]?) t = tCall A k t := by
  obtain ⟨-, -, hS, hL, hK, -⟩ := hE
  unfold tCall
  rw [tIf_n ht]
  by_cases q : k < nFun A
  · obtain ⟨h1, h2⟩ := hK k q
    rw [decide_eq_true q, if_pos rfl, h1]
    show tCallX (E.S[funSig A k]?) t = _
    rw [hS, List.getElem?_eq_getElem h2]
    show tCalls (aS A)[funSig A k] t = _
    rw [List.getD_eq_getElem?_getD, List.getElem?_eq_getElem h2]
    rfl
  · rw [decide_eq_false q, if_neg (by decide), List.getElem?_eq_none (by omega)]
    rfl

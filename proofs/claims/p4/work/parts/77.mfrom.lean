/-! where what was read comes from -/
def Mo {α : Type} (x y : mE α) : Prop := ∀ r, x = .ok r → y = .ok r
theorem Mo.bind {α β : Type} {x y : mE α} {f g : α → mE β} (h : Mo x y) (h2 : ∀ r, Mo (f r) (g r)) : Mo (x.bind f) (y.bind g) := fun r hr => by
  cases hx : x with
  | error q => rw [hx] at hr; cases hr
  | ok q => rw [hx] at hr; rw [h q hx]; exact h2 q r hr
theorem Mo.ite {α : Type} {c : Prop} [Decidable c] {x y x' y' : mE α} (h : Mo x x') (h2 : Mo y y') : Mo (if c then x else y) (if c then x' else y') := by
  by_cases q : c
  · rw [if_pos q, if_pos q]; exact h
  · rw [if_neg q, if_neg q]; exact h2
theorem Mo.rf {α : Type} {x : mE α} : Mo x x := fun _ h => h
theorem mOct_mono {b : Nat → Nat} {e E a : Nat} (hE : e ≤ E) : Mo (mOct b e a) (mOct b E a) := fun r h => by
  obtain ⟨h1, rfl⟩ := mOct_in h
  rw [mOct, if_pos (by omega)]
theorem mUk_mono {b : Nat → Nat} {e E fr : Nat} (hE : e ≤ E) : ∀ n k v a, Mo (mUk b e fr n k v a) (mUk b E fr n k v a) := by
  intro n
  induction n with
  | zero => intro k v a; exact Mo.rf
  | succ n ih =>
    intro k v a
    unfold mUk
    refine (mOct_mono hE).bind fun r => ?_
    refine Mo.ite Mo.rf (Mo.ite Mo.rf (ih _ _ _))
theorem mU_mono {b : Nat → Nat} {e E a : Nat} (hE : e ≤ E) : Mo (mU b e a) (mU b E a) := mUk_mono hE _ _ _ _
theorem mChain_mono {b : Nat → Nat} {e E : Nat} (hE : e ≤ E) : ∀ (l : List (Nat × Nat)) (a z : Nat), mChain b e a l z → mChain b E a l z := by
  intro l
  induction l with
  | nil => intro a z h; exact h
  | cons x r ih =>
    intro a z h
    obtain ⟨a', h1, h2, h3⟩ := h
    exact ⟨a', h1, mU_mono hE _ h2, ih a' z h3⟩
theorem mRow_chain {b : Nat → Nat} {e : Nat} : ∀ (n : Nat) (l : List (Nat × Nat)) (a : Nat) (r : List (Nat × Nat) × Nat), mRow (mFn b e) none n l a = .ok r → ∃ t, r.1 = l ++ t ∧ t.length = n ∧ mChain b e a t r.2 := by
  intro n
  induction n with
  | zero => intro l a r h; cases h; exact ⟨[], by simp, rfl, rfl⟩
  | succ n ih =>
    intro l a r h
    rw [mRowS, if_neg (by simp)] at h
    cases hu : mFn b e a with
    | error q => rw [hu] at h; cases h
    | ok q =>
      rw [hu] at h
      obtain ⟨t, h1, h2, h3⟩ := ih _ _ _ h
      refine ⟨q.1 :: t, by rw [h1]; simp, by simp [h2], ?_⟩
      unfold mFn at hu
      cases hv : mU b e a with
      | error p => rw [hv] at hu; cases hu
      | ok p => rw [hv] at hu; cases hu; exact ⟨p.2, rfl, hv, h3⟩
theorem mRow_all {α : Type} {it : Nat → mE (α × Nat)} {lim : Option Nat} {P : α → Prop} (hP : ∀ a r, it a = .ok r → P r.1) : ∀ (n : Nat) (l : List α) (a : Nat) (r : List α × Nat), mRow it lim n l a = .ok r → (∀ x ∈ l, P x) → ∀ x ∈ r.1, P x := by
  intro n
  induction n with
  | zero => intro l a r h hl; cases h; exact hl
  | succ n ih =>
    intro l a r h hl
    rw [mRowS] at h
    by_cases q : lim = some l.length
    · rw [if_pos q] at h; cases h
    · rw [if_neg q] at h
      cases hu : it a with
      | error p => rw [hu] at h; cases h
      | ok p =>
        rw [hu] at h
        refine ih _ _ _ h (fun x hx => ?_)
        rcases List.mem_append.mp hx with y | y
        · exact hl x y
        · rw [List.mem_singleton.mp y]; exact hP a p hu
/-- every global, element, data line and body was read within E -/
def mFrom (b : Nat → Nat) (E : Nat) (A : mA) : Prop := (∀ x ∈ aG A, ∃ e a r, e ≤ E ∧ mGl b e a = .ok (x, r)) ∧ (∀ x ∈ aE A, ∃ e a r, e ≤ E ∧ mEl b e a = .ok (x, r)) ∧ (∀ x ∈ aZ A, ∃ e a r, e ≤ E ∧ mDt b e a = .ok (x, r)) ∧ (∀ x ∈ aD A, ∃ e a r, e ≤ E ∧ mBd b e (aC A).isSome a = .ok (x, r))
theorem mSec_from {b : Nat → Nat} {e E id a : Nat} {A : mA} (he : e ≤ E) (h : mFrom b E A) (h12 : id = 12 → aD A = []) : mW (mSec b e id A a) (fun r => mFrom b E r.1) mTr := by
  by_cases q8 : id = 8
  · unfold mSec
    rw [if_pos q8, mW_bind]
    exact mW_in fun u _ => h
  by_cases q12 : id = 12
  · unfold mSec
    rw [if_neg q8, if_pos q12, mW_bind]
    exact mW_in fun u _ => ⟨h.1, h.2.1, h.2.2.1, fun x hx => by
      have hx : x ∈ aD A := hx
      rw [h12 q12] at hx; cases hx⟩
  rw [mSec_rest q8 q12, mW_bind]
  refine mW_in fun u _ => ?_
  by_cases q1 : id = 1
  · subst q1; rw [mRest_1, mW_bind]; exact mW_in fun _ _ => h
  by_cases q2 : id = 2
  · subst q2; rw [mRest_2, mW_bind]; exact mW_in fun _ _ => h
  by_cases q3 : id = 3
  · subst q3; rw [mRest_3, mW_bind]; exact mW_in fun _ _ => h
  by_cases q4 : id = 4
  · subst q4; rw [mRest_4, mW_bind]; exact mW_in fun _ _ => h
  by_cases q5 : id = 5
  · subst q5; rw [mRest_5, mW_bind]; exact mW_in fun _ _ => h
  by_cases q6 : id = 6
  · subst q6; rw [mRest_6, mW_bind]
    exact mW_in fun r hr => ⟨mRow_all (P := fun x => ∃ e a r, e ≤ E ∧ mGl b e a = .ok (x, r)) (fun a r hr => ⟨e, a, r.2, he, hr⟩) _ _ _ r hr h.1, h.2⟩
  by_cases q7 : id = 7
  · subst q7; rw [mRest_7, mW_bind]; exact mW_in fun _ _ => h
  by_cases q9 : id = 9
  · subst q9; rw [mRest_9, mW_bind]
    exact mW_in fun r hr => ⟨h.1, mRow_all (P := fun x => ∃ e a r, e ≤ E ∧ mEl b e a = .ok (x, r)) (fun a r hr => ⟨e, a, r.2, he, hr⟩) _ _ _ r hr h.2.1, h.2.2⟩
  by_cases q10 : id = 10
  · subst q10; rw [mRest_10, mW_bind]
    exact mW_in fun r hr => ⟨h.1, h.2.1, h.2.2.1, mRow_all (P := fun x => ∃ e a r, e ≤ E ∧ mBd b e (aC A).isSome a = .ok (x, r)) (fun a r hr => ⟨e, a, r.2, he, hr⟩) _ _ _ r hr h.2.2.2⟩
  unfold mRest
  rw [if_neg q1, if_neg q2, if_neg q3, if_neg q4, if_neg q5, if_neg q6, if_neg q7, if_neg q9, if_neg q10, mW_bind]
  exact mW_in fun r hr => ⟨h.1, h.2.1, mRow_all (P := fun x => ∃ e a r, e ≤ E ∧ mDt b e a = .ok (x, r)) (fun a r hr => ⟨e, a, r.2, he, hr⟩) _ _ _ r hr h.2.2.1, h.2.2.2⟩
theorem mOrd_12 : ∀ id, id < 256 → id = 12 → mOrd id = 10 := by decide +kernel
theorem mSecs_from {b : Nat → Nat} {e : Nat} (hb : ∀ j, j < e → b j < 256) : ∀ (f last : Nat) (A : mA) (a : Nat) (bd dt : Bool), e + 1 ≤ f + a → last ≤ 12 → a ≤ e → sInv last A bd dt → mFrom b e A → mW (mSecs b e f last A a) (fun A => mFrom b e A ∧ mNoFit A 10 = false ∧ mNoFit A 11 = false) mTr := by
  intro f
  induction f with
  | zero => intro last A a bd dt hf hl ha; omega
  | succ f ih =>
    intro last A a bd dt hf hl hae hi hm
    rw [mSecsS, mW_ite]
    by_cases q : ¬ a < e
    · rw [if_pos q, mW_ite]
      by_cases q2 : mNoFit A 10 = true ∨ mNoFit A 11 = true
      · rw [if_pos q2]; trivial
      · rw [if_neg q2]
        refine ⟨hm, ?_, ?_⟩
        · cases hn : mNoFit A 10 with
          | false => rfl
          | true => exact absurd (Or.inl hn) q2
        · cases hn : mNoFit A 11 with
          | false => rfl
          | true => exact absurd (Or.inr hn) q2
    · rw [if_neg q, mW_ite]
      by_cases q2 : ¬ b a = 0 ∧ mOrd (b a) ≤ last
      · rw [if_pos q2]; trivial
      rw [if_neg q2, mW_bind]
      refine mW_in fun z hz => ?_
      have z1 := mU_in hz (show a + 1 ≤ e by omega)
      rw [mW_ite]
      by_cases q3 : e - z.2 < z.1
      · rw [if_pos q3]; trivial
      rw [if_neg q3, mW_bind]
      have hba := hb a (by omega)
      by_cases q0 : b a = 0
      · rw [if_pos q0, mW_bind]
        refine mW_in fun n _ => ?_
        show mW (if z.2 + z.1 < z.2 + z.1 then _ else _) _ _
        rw [if_neg (by omega), mW_ite]
        by_cases q5 : mNoFit A (b a) = true
        · rw [if_pos q5]; trivial
        · rw [if_neg q5, if_pos q0]
          exact ih _ _ _ bd dt (by omega) hl (by omega) hi hm
      · rw [if_neg q0]
        have ho : last < mOrd (b a) := by omega
        refine mW_in fun r hr => ?_
        have hr' := mW_get (mSec_from (E := e) (show z.2 + z.1 ≤ e by omega) hm (fun y => hi.2.2.1 (hi.2.2.2.1 (by have := mOrd_12 _ hba y; omega)))) hr
        rw [mW_ite]
        by_cases q4 : r.2 < z.2 + z.1
        · rw [if_pos q4]; trivial
        rw [if_neg q4, mW_ite]
        by_cases q5 : mNoFit r.1 (b a) = true
        · rw [if_pos q5]; trivial
        · rw [if_neg q5, if_neg q0]
          have hnf : mNoFit r.1 (b a) = false := by
            cases hn : mNoFit r.1 (b a) with
            | false => rfl
            | true => exact absurd hn q5
          exact ih _ _ _ _ _ (by omega) (mOrd_f _ hba).1 (by omega) (sInv_step hba ho hi hr hnf) hr'

/-! what is known of a module that was read, and of one that means something -/
theorem mEx_in {b : Nat → Nat} {e a : Nat} {x : mExT} {r : Nat} (h : mEx b e a = .ok (x, r)) : x.2.1 + x.2.2.1 ≤ e := by
  unfold mEx at h
  cases hn : mName b e true a with
  | error q => rw [hn] at h; cases h
  | ok n =>
    rw [hn] at h
    have ha : a < e := by
      unfold mName at hn
      cases hu : mU b e a with
      | error q => rw [hu] at hn; cases hn
      | ok u => exact mU_a hu
    have n1 := mName_in hn (Nat.le_of_lt ha)
    have h : ((mOct b e n.2).bind fun k => if 3 < k.1 then .error (1, n.2) else (mU b e k.2).bind fun u => (.ok ((a, n.1.1, n.1.2, k.1, k.2, u.1), u.2) : mE (mExT × Nat))) = .ok (x, r) := h
    cases hk : mOct b e n.2 with
    | error q => rw [hk] at h; cases h
    | ok k =>
      rw [hk] at h
      have h : (if 3 < k.1 then .error (1, n.2) else (mU b e k.2).bind fun u => (.ok ((a, n.1.1, n.1.2, k.1, k.2, u.1), u.2) : mE (mExT × Nat))) = .ok (x, r) := h
      by_cases q : 3 < k.1
      · rw [if_pos q] at h; cases h
      rw [if_neg q] at h
      cases hu : mU b e k.2 with
      | error q => rw [hu] at h; cases h
      | ok u =>
        rw [hu] at h
        cases h
        show n.1.1 + n.1.2 ≤ e
        omega
theorem mSec_X {b : Nat → Nat} {e E id a : Nat} {A : mA} (he : e ≤ E) (h : fromX E A) : mW (mSec b e id A a) (fun r => fromX E r.1) mTr := by
  unfold mSec
  by_cases q8 : id = 8
  · rw [if_pos q8, mW_bind]; exact mW_in fun u _ => h
  rw [if_neg q8]
  by_cases q12 : id = 12
  · rw [if_pos q12, mW_bind]; exact mW_in fun u _ => h
  rw [if_neg q12, mW_bind]
  refine mW_in fun n _ => ?_
  by_cases q : id = 1
  · rw [if_pos q, mW_bind]; exact mW_in fun u _ => h
  rw [if_neg q]
  by_cases q : id = 2
  · rw [if_pos q, mW_bind]; exact mW_in fun u _ => h
  rw [if_neg q]
  by_cases q : id = 3
  · rw [if_pos q, mW_bind]; exact mW_in fun u _ => h
  rw [if_neg q]
  by_cases q : id = 4
  · rw [if_pos q, mW_bind]; exact mW_in fun u _ => h
  rw [if_neg q]
  by_cases q : id = 5
  · rw [if_pos q, mW_bind]; exact mW_in fun u _ => h
  rw [if_neg q]
  by_cases q : id = 6
  · rw [if_pos q, mW_bind]; exact mW_in fun u _ => h
  rw [if_neg q]
  by_cases q : id = 7
  · rw [if_pos q, mW_bind]
    exact mW_in fun r hr => mRow_all (P := fun x : mExT => x.2.1 + x.2.2.1 ≤ E) (fun a r hr => Nat.le_trans (mEx_in (x := r.1) (r := r.2) hr) he) _ _ _ r hr h
  rw [if_neg q]
  by_cases q : id = 9
  · rw [if_pos q, mW_bind]; exact mW_in fun u _ => h
  rw [if_neg q]
  by_cases q : id = 10
  · rw [if_pos q, mW_bind]; exact mW_in fun u _ => h
  rw [if_neg q, mW_bind]
  exact mW_in fun u _ => h
theorem mSecs_X {b : Nat → Nat} {e : Nat} : ∀ (f last : Nat) (A : mA) (a : Nat), fromX e A → mW (mSecs b e f last A a) (fun A => fromX e A) mTr := by
  intro f
  induction f with
  | zero => intro last A a h; exact h
  | succ f ih =>
    intro last A a h
    rw [mSecsS, mW_ite]
    by_cases q : ¬ a < e
    · rw [if_pos q, mW_ite]
      by_cases q2 : mNoFit A 10 = true ∨ mNoFit A 11 = true
      · rw [if_pos q2]; trivial
      · rw [if_neg q2]; exact h
    rw [if_neg q, mW_ite]
    by_cases q2 : ¬ b a = 0 ∧ mOrd (b a) ≤ last
    · rw [if_pos q2]; trivial
    rw [if_neg q2, mW_bind]
    refine mW_in fun z hz => ?_
    have z1 := mU_in hz (show a + 1 ≤ e by omega)
    rw [mW_ite]
    by_cases q3 : e - z.2 < z.1
    · rw [if_pos q3]; trivial
    rw [if_neg q3, mW_bind]
    by_cases q0 : b a = 0
    · rw [if_pos q0, mW_bind]
      refine mW_in fun n _ => ?_
      show mW (if z.2 + z.1 < z.2 + z.1 then _ else _) _ _
      rw [if_neg (by omega), mW_ite]
      by_cases q5 : mNoFit A (b a) = true
      · rw [if_pos q5]; trivial
      · rw [if_neg q5]; exact ih _ _ _ h
    · rw [if_neg q0]
      refine mW_in fun r hr => ?_
      have hr' := mW_get (mSec_X (E := e) (show z.2 + z.1 ≤ e by omega) h) hr
      rw [mW_ite]
      by_cases q4 : r.2 < z.2 + z.1
      · rw [if_pos q4]; trivial
      rw [if_neg q4, mW_ite]
      by_cases q5 : mNoFit r.1 (b a) = true
      · rw [if_pos q5]; trivial
      · rw [if_neg q5]; exact ih _ _ _ hr'
theorem mHead_in {b : Nat → Nat} {e : Nat} : ∀ (n a r : Nat), mHead b e n a = .ok r → a ≤ e → r ≤ e := by
  intro n
  induction n with
  | zero => intro a r h ha; cases h; exact ha
  | succ n ih =>
    intro a r h ha
    unfold mHead at h
    generalize (if a = 1 then 97 else if a = 2 then 115 else if a = 3 then 109 else if a = 4 then 1 else 0) = v at h
    cases hn : mNeed b e v a with
    | error q => rw [hn] at h; cases h
    | ok p =>
      rw [hn] at h
      have := mNeed_in hn
      exact ih _ r h (by omega)
theorem mRead_facts {b : Nat → Nat} {e : Nat} {A : mA} (hb : ∀ j, j < e → b j < 256) (h : mRead b e = .ok A) : mFrom b e A ∧ fromX e A ∧ (aD A).length = (aF A).length := by
  unfold mRead at h
  cases hh : mHead b e 8 0 with
  | error q => rw [hh] at h; cases h
  | ok a =>
    rw [hh] at h
    have h : mSecs b e (e + 1) 0 m0 a = .ok A := h
    have ha := mHead_in _ _ _ hh (Nat.zero_le _)
    have h0 : mFrom b e m0 := ⟨fun x hx => absurd hx List.not_mem_nil, fun x hx => absurd hx List.not_mem_nil, fun x hx => absurd hx List.not_mem_nil, fun x hx => absurd hx List.not_mem_nil⟩
    have h1 := mW_get (mSecs_from hb (e + 1) 0 m0 a false false (by omega) (by decide) ha ⟨fun _ => rfl, fun _ => rfl, fun _ => rfl, fun _ => rfl, fun z => absurd z (by decide), fun _ => rfl, fun _ => rfl, fun z => absurd z (by decide)⟩ h0) h
    have h2 := mW_get (mSecs_X (b := b) (e + 1) 0 m0 a (fun x hx => absurd hx List.not_mem_nil)) h
    refine ⟨h1.1, h2, ?_⟩
    have h3 := h1.2.1
    unfold mNoFit at h3
    simpa using h3
theorem mAll_ok {f : Nat → mE Unit} : ∀ n i, mAll f n i = .ok () → ∀ j, i ≤ j → j < i + n → f j = .ok () := by
  intro n
  induction n with
  | zero => intro i _ j h1 h2; omega
  | succ n ih =>
    intro i h j h1 h2
    have h : (f i).bind (fun _ => mAll f n (i + 1)) = .ok () := h
    cases hf : f i with
    | error q => rw [hf] at h; cases h
    | ok u =>
      rw [hf] at h
      by_cases q : j = i
      · rw [q]; exact hf
      · exact ih (i + 1) h j (by omega) (by omega)
theorem mMeans_G {b : Nat → Nat} {e : Nat} {A : mA} (h : mMeans b e A = .ok ()) : nG A := by
  unfold mMeans mZ1 at h
  cases h1 : mAll (mIm A) (aI A).length 0 with
  | error q => rw [h1] at h; cases h
  | ok u =>
    rw [h1] at h
    have h : mZ2 b e A (aF A).length 0 = .ok () := h
    unfold mZ2 at h
    cases h2 : mAll (mFu A) (aF A).length 0 with
    | error q => rw [h2] at h; cases h
    | ok u2 =>
      have i1 := fun j (hj : j < (aI A).length) => mAll_ok _ _ h1 j (Nat.zero_le _) (by omega)
      have i2 := fun j (hj : j < (aF A).length) => mAll_ok _ _ h2 j (Nat.zero_le _) (by omega)
      exact ⟨mSigs_of i1 i2, fun j hj => mMust_ok (i2 j hj)⟩

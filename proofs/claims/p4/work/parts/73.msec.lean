/-! the reference reads a section -/
theorem mRep_1 {σ σ' : zS} {B : Nat} {A : mA} {v : List mSigT} (h : mRep σ B A) (f : mF 1 σ σ') (n : r1 σ' v) : mRep σ' B (v, aI A, aF A, aT A, aM A, aG A, aX A, aB A, aE A, aC A, aD A, aZ A) :=
  ⟨n, r2_q h.2.1 (f.q (by decide) (by decide)), r3_q h.2.2.1 (f.q (by decide) (by decide)), r4_q h.2.2.2.1 (f.q (by decide) (by decide)), r5_q h.2.2.2.2.1 (f.q (by decide) (by decide)), r6_q h.2.2.2.2.2.1 (f.q (by decide) (by decide)), r7_q h.2.2.2.2.2.2.1 (f.q (by decide) (by decide)), r8_q h.2.2.2.2.2.2.2.1 (f.q (by decide) (by decide)), r9_q h.2.2.2.2.2.2.2.2.1 (f.q (by decide) (by decide)), r12_q h.2.2.2.2.2.2.2.2.2.1 (f.q (by decide) (by decide)), r10_q h.2.2.2.2.2.2.2.2.2.2.1 (f.q (by decide) (by decide)), r11_q h.2.2.2.2.2.2.2.2.2.2.2 (f.q (by decide) (by decide))⟩
theorem mRep_2 {σ σ' : zS} {B : Nat} {A : mA} {v : List mImpT} (h : mRep σ B A) (f : mF 2 σ σ') (n : r2 σ' B v) : mRep σ' B (aS A, v, aF A, aT A, aM A, aG A, aX A, aB A, aE A, aC A, aD A, aZ A) :=
  ⟨r1_q h.1 (f.q (by decide) (by decide)), n, r3_q h.2.2.1 (f.q (by decide) (by decide)), r4_q h.2.2.2.1 (f.q (by decide) (by decide)), r5_q h.2.2.2.2.1 (f.q (by decide) (by decide)), r6_q h.2.2.2.2.2.1 (f.q (by decide) (by decide)), r7_q h.2.2.2.2.2.2.1 (f.q (by decide) (by decide)), r8_q h.2.2.2.2.2.2.2.1 (f.q (by decide) (by decide)), r9_q h.2.2.2.2.2.2.2.2.1 (f.q (by decide) (by decide)), r12_q h.2.2.2.2.2.2.2.2.2.1 (f.q (by decide) (by decide)), r10_q h.2.2.2.2.2.2.2.2.2.2.1 (f.q (by decide) (by decide)), r11_q h.2.2.2.2.2.2.2.2.2.2.2 (f.q (by decide) (by decide))⟩
theorem mRep_3 {σ σ' : zS} {B : Nat} {A : mA} {v : List mFnT} (h : mRep σ B A) (f : mF 3 σ σ') (n : r3 σ' B v) : mRep σ' B (aS A, aI A, v, aT A, aM A, aG A, aX A, aB A, aE A, aC A, aD A, aZ A) :=
  ⟨r1_q h.1 (f.q (by decide) (by decide)), r2_q h.2.1 (f.q (by decide) (by decide)), n, r4_q h.2.2.2.1 (f.q (by decide) (by decide)), r5_q h.2.2.2.2.1 (f.q (by decide) (by decide)), r6_q h.2.2.2.2.2.1 (f.q (by decide) (by decide)), r7_q h.2.2.2.2.2.2.1 (f.q (by decide) (by decide)), r8_q h.2.2.2.2.2.2.2.1 (f.q (by decide) (by decide)), r9_q h.2.2.2.2.2.2.2.2.1 (f.q (by decide) (by decide)), r12_q h.2.2.2.2.2.2.2.2.2.1 (f.q (by decide) (by decide)), r10_q h.2.2.2.2.2.2.2.2.2.2.1 (f.q (by decide) (by decide)), r11_q h.2.2.2.2.2.2.2.2.2.2.2 (f.q (by decide) (by decide))⟩
theorem mRep_4 {σ σ' : zS} {B : Nat} {A : mA} {v : List mTabT} (h : mRep σ B A) (f : mF 4 σ σ') (n : r45 0 σ' B v) : mRep σ' B (aS A, aI A, aF A, v, aM A, aG A, aX A, aB A, aE A, aC A, aD A, aZ A) :=
  ⟨r1_q h.1 (f.q (by decide) (by decide)), r2_q h.2.1 (f.q (by decide) (by decide)), r3_q h.2.2.1 (f.q (by decide) (by decide)), n, r5_q h.2.2.2.2.1 (f.q (by decide) (by decide)), r6_q h.2.2.2.2.2.1 (f.q (by decide) (by decide)), r7_q h.2.2.2.2.2.2.1 (f.q (by decide) (by decide)), r8_q h.2.2.2.2.2.2.2.1 (f.q (by decide) (by decide)), r9_q h.2.2.2.2.2.2.2.2.1 (f.q (by decide) (by decide)), r12_q h.2.2.2.2.2.2.2.2.2.1 (f.q (by decide) (by decide)), r10_q h.2.2.2.2.2.2.2.2.2.2.1 (f.q (by decide) (by decide)), r11_q h.2.2.2.2.2.2.2.2.2.2.2 (f.q (by decide) (by decide))⟩
theorem mRep_5 {σ σ' : zS} {B : Nat} {A : mA} {v : List mTabT} (h : mRep σ B A) (f : mF 5 σ σ') (n : r45 1 σ' B v) : mRep σ' B (aS A, aI A, aF A, aT A, v, aG A, aX A, aB A, aE A, aC A, aD A, aZ A) :=
  ⟨r1_q h.1 (f.q (by decide) (by decide)), r2_q h.2.1 (f.q (by decide) (by decide)), r3_q h.2.2.1 (f.q (by decide) (by decide)), r4_q h.2.2.2.1 (f.q (by decide) (by decide)), n, r6_q h.2.2.2.2.2.1 (f.q (by decide) (by decide)), r7_q h.2.2.2.2.2.2.1 (f.q (by decide) (by decide)), r8_q h.2.2.2.2.2.2.2.1 (f.q (by decide) (by decide)), r9_q h.2.2.2.2.2.2.2.2.1 (f.q (by decide) (by decide)), r12_q h.2.2.2.2.2.2.2.2.2.1 (f.q (by decide) (by decide)), r10_q h.2.2.2.2.2.2.2.2.2.2.1 (f.q (by decide) (by decide)), r11_q h.2.2.2.2.2.2.2.2.2.2.2 (f.q (by decide) (by decide))⟩
theorem mRep_6 {σ σ' : zS} {B : Nat} {A : mA} {v : List mGlT} (h : mRep σ B A) (f : mF 6 σ σ') (n : r6 σ' B v) : mRep σ' B (aS A, aI A, aF A, aT A, aM A, v, aX A, aB A, aE A, aC A, aD A, aZ A) :=
  ⟨r1_q h.1 (f.q (by decide) (by decide)), r2_q h.2.1 (f.q (by decide) (by decide)), r3_q h.2.2.1 (f.q (by decide) (by decide)), r4_q h.2.2.2.1 (f.q (by decide) (by decide)), r5_q h.2.2.2.2.1 (f.q (by decide) (by decide)), n, r7_q h.2.2.2.2.2.2.1 (f.q (by decide) (by decide)), r8_q h.2.2.2.2.2.2.2.1 (f.q (by decide) (by decide)), r9_q h.2.2.2.2.2.2.2.2.1 (f.q (by decide) (by decide)), r12_q h.2.2.2.2.2.2.2.2.2.1 (f.q (by decide) (by decide)), r10_q h.2.2.2.2.2.2.2.2.2.2.1 (f.q (by decide) (by decide)), r11_q h.2.2.2.2.2.2.2.2.2.2.2 (f.q (by decide) (by decide))⟩
theorem mRep_7 {σ σ' : zS} {B : Nat} {A : mA} {v : List mExT} (h : mRep σ B A) (f : mF 7 σ σ') (n : r7 σ' B v) : mRep σ' B (aS A, aI A, aF A, aT A, aM A, aG A, v, aB A, aE A, aC A, aD A, aZ A) :=
  ⟨r1_q h.1 (f.q (by decide) (by decide)), r2_q h.2.1 (f.q (by decide) (by decide)), r3_q h.2.2.1 (f.q (by decide) (by decide)), r4_q h.2.2.2.1 (f.q (by decide) (by decide)), r5_q h.2.2.2.2.1 (f.q (by decide) (by decide)), r6_q h.2.2.2.2.2.1 (f.q (by decide) (by decide)), n, r8_q h.2.2.2.2.2.2.2.1 (f.q (by decide) (by decide)), r9_q h.2.2.2.2.2.2.2.2.1 (f.q (by decide) (by decide)), r12_q h.2.2.2.2.2.2.2.2.2.1 (f.q (by decide) (by decide)), r10_q h.2.2.2.2.2.2.2.2.2.2.1 (f.q (by decide) (by decide)), r11_q h.2.2.2.2.2.2.2.2.2.2.2 (f.q (by decide) (by decide))⟩
theorem mRep_8 {σ σ' : zS} {B : Nat} {A : mA} {v : Option (Nat × Nat)} (h : mRep σ B A) (f : mF 8 σ σ') (n : r8 σ' B v) : mRep σ' B (aS A, aI A, aF A, aT A, aM A, aG A, aX A, v, aE A, aC A, aD A, aZ A) :=
  ⟨r1_q h.1 (f.q (by decide) (by decide)), r2_q h.2.1 (f.q (by decide) (by decide)), r3_q h.2.2.1 (f.q (by decide) (by decide)), r4_q h.2.2.2.1 (f.q (by decide) (by decide)), r5_q h.2.2.2.2.1 (f.q (by decide) (by decide)), r6_q h.2.2.2.2.2.1 (f.q (by decide) (by decide)), r7_q h.2.2.2.2.2.2.1 (f.q (by decide) (by decide)), n, r9_q h.2.2.2.2.2.2.2.2.1 (f.q (by decide) (by decide)), r12_q h.2.2.2.2.2.2.2.2.2.1 (f.q (by decide) (by decide)), r10_q h.2.2.2.2.2.2.2.2.2.2.1 (f.q (by decide) (by decide)), r11_q h.2.2.2.2.2.2.2.2.2.2.2 (f.q (by decide) (by decide))⟩
theorem mRep_9 {σ σ' : zS} {B : Nat} {A : mA} {v : List mElT} (h : mRep σ B A) (f : mF 9 σ σ') (n : r9 σ' B v) : mRep σ' B (aS A, aI A, aF A, aT A, aM A, aG A, aX A, aB A, v, aC A, aD A, aZ A) :=
  ⟨r1_q h.1 (f.q (by decide) (by decide)), r2_q h.2.1 (f.q (by decide) (by decide)), r3_q h.2.2.1 (f.q (by decide) (by decide)), r4_q h.2.2.2.1 (f.q (by decide) (by decide)), r5_q h.2.2.2.2.1 (f.q (by decide) (by decide)), r6_q h.2.2.2.2.2.1 (f.q (by decide) (by decide)), r7_q h.2.2.2.2.2.2.1 (f.q (by decide) (by decide)), r8_q h.2.2.2.2.2.2.2.1 (f.q (by decide) (by decide)), n, r12_q h.2.2.2.2.2.2.2.2.2.1 (f.q (by decide) (by decide)), r10_q h.2.2.2.2.2.2.2.2.2.2.1 (f.q (by decide) (by decide)), r11_q h.2.2.2.2.2.2.2.2.2.2.2 (f.q (by decide) (by decide))⟩
theorem mRep_12 {σ σ' : zS} {B : Nat} {A : mA} {v : Option Nat} (h : mRep σ B A) (f : mF 12 σ σ') (n : r12 σ' v) : mRep σ' B (aS A, aI A, aF A, aT A, aM A, aG A, aX A, aB A, aE A, v, aD A, aZ A) :=
  ⟨r1_q h.1 (f.q (by decide) (by decide)), r2_q h.2.1 (f.q (by decide) (by decide)), r3_q h.2.2.1 (f.q (by decide) (by decide)), r4_q h.2.2.2.1 (f.q (by decide) (by decide)), r5_q h.2.2.2.2.1 (f.q (by decide) (by decide)), r6_q h.2.2.2.2.2.1 (f.q (by decide) (by decide)), r7_q h.2.2.2.2.2.2.1 (f.q (by decide) (by decide)), r8_q h.2.2.2.2.2.2.2.1 (f.q (by decide) (by decide)), r9_q h.2.2.2.2.2.2.2.2.1 (f.q (by decide) (by decide)), n, r10_q h.2.2.2.2.2.2.2.2.2.2.1 (f.q (by decide) (by decide)), r11_q h.2.2.2.2.2.2.2.2.2.2.2 (f.q (by decide) (by decide))⟩
theorem mRep_10 {σ σ' : zS} {B : Nat} {A : mA} {v : List mBdT} (h : mRep σ B A) (f : mF 10 σ σ') (n : r10 σ' B v) : mRep σ' B (aS A, aI A, aF A, aT A, aM A, aG A, aX A, aB A, aE A, aC A, v, aZ A) :=
  ⟨r1_q h.1 (f.q (by decide) (by decide)), r2_q h.2.1 (f.q (by decide) (by decide)), r3_q h.2.2.1 (f.q (by decide) (by decide)), r4_q h.2.2.2.1 (f.q (by decide) (by decide)), r5_q h.2.2.2.2.1 (f.q (by decide) (by decide)), r6_q h.2.2.2.2.2.1 (f.q (by decide) (by decide)), r7_q h.2.2.2.2.2.2.1 (f.q (by decide) (by decide)), r8_q h.2.2.2.2.2.2.2.1 (f.q (by decide) (by decide)), r9_q h.2.2.2.2.2.2.2.2.1 (f.q (by decide) (by decide)), r12_q h.2.2.2.2.2.2.2.2.2.1 (f.q (by decide) (by decide)), n, r11_q h.2.2.2.2.2.2.2.2.2.2.2 (f.q (by decide) (by decide))⟩
theorem mRep_11 {σ σ' : zS} {B : Nat} {A : mA} {v : List mDtT} (h : mRep σ B A) (f : mF 11 σ σ') (n : r11 σ' B v) : mRep σ' B (aS A, aI A, aF A, aT A, aM A, aG A, aX A, aB A, aE A, aC A, aD A, v) :=
  ⟨r1_q h.1 (f.q (by decide) (by decide)), r2_q h.2.1 (f.q (by decide) (by decide)), r3_q h.2.2.1 (f.q (by decide) (by decide)), r4_q h.2.2.2.1 (f.q (by decide) (by decide)), r5_q h.2.2.2.2.1 (f.q (by decide) (by decide)), r6_q h.2.2.2.2.2.1 (f.q (by decide) (by decide)), r7_q h.2.2.2.2.2.2.1 (f.q (by decide) (by decide)), r8_q h.2.2.2.2.2.2.2.1 (f.q (by decide) (by decide)), r9_q h.2.2.2.2.2.2.2.2.1 (f.q (by decide) (by decide)), r12_q h.2.2.2.2.2.2.2.2.2.1 (f.q (by decide) (by decide)), r10_q h.2.2.2.2.2.2.2.2.2.2.1 (f.q (by decide) (by decide)), n⟩
theorem mRep_at {σ : zS} {B x : Nat} {A : mA} (h : mRep σ B A) : mRep (mAt σ x) B A :=
  ⟨r1_q h.1 ((mF.at (k := 99) mF.rf x).q (by decide) (by decide)), r2_q h.2.1 ((mF.at (k := 99) mF.rf x).q (by decide) (by decide)), r3_q h.2.2.1 ((mF.at (k := 99) mF.rf x).q (by decide) (by decide)), r4_q h.2.2.2.1 ((mF.at (k := 99) mF.rf x).q (by decide) (by decide)), r5_q h.2.2.2.2.1 ((mF.at (k := 99) mF.rf x).q (by decide) (by decide)), r6_q h.2.2.2.2.2.1 ((mF.at (k := 99) mF.rf x).q (by decide) (by decide)), r7_q h.2.2.2.2.2.2.1 ((mF.at (k := 99) mF.rf x).q (by decide) (by decide)), r8_q h.2.2.2.2.2.2.2.1 ((mF.at (k := 99) mF.rf x).q (by decide) (by decide)), r9_q h.2.2.2.2.2.2.2.2.1 ((mF.at (k := 99) mF.rf x).q (by decide) (by decide)), r12_q h.2.2.2.2.2.2.2.2.2.1 ((mF.at (k := 99) mF.rf x).q (by decide) (by decide)), r10_q h.2.2.2.2.2.2.2.2.2.2.1 ((mF.at (k := 99) mF.rf x).q (by decide) (by decide)), r11_q h.2.2.2.2.2.2.2.2.2.2.2 ((mF.at (k := 99) mF.rf x).q (by decide) (by decide))⟩
theorem mRep_18 {σ : zS} {B : Nat} {A : mA} (h : mRep σ B A) : σ.1 0 18 = bI (aC A).isSome := by
  have q := h.2.2.2.2.2.2.2.2.2.1
  cases hc : aC A with
  | none => rw [hc] at q; exact q.1
  | some x => rw [hc] at q; exact q.1
theorem mRow_step {α β : Type} {it : Nat → mE (α × Nat)} {lim n : Nat} {l : List α} {a : Nat} {f : List α × Nat → mE β} {K : β → Prop} {E : Nat → Nat → Prop} (h : mW ((mRow it (some lim) (n + 1) l a).bind f) K E) : mW (if l.length = lim then .error (4, a) else it a) (fun r => mW ((mRow it (some lim) n (l ++ [r.1]) r.2).bind f) K E) E := by
  rw [mRowS] at h
  by_cases q : l.length = lim
  · rw [if_pos q]
    rw [if_pos (by rw [q])] at h
    exact h
  · rw [if_neg q]
    rw [if_neg (fun z => q (Option.some.inj z).symm), Except_bind_assoc, mW_bind] at h
    exact h
theorem mRow_stepN {α β : Type} {it : Nat → mE (α × Nat)} {n : Nat} {l : List α} {a : Nat} {f : List α × Nat → mE β} {K : β → Prop} {E : Nat → Nat → Prop} (h : mW ((mRow it none (n + 1) l a).bind f) K E) : mW (it a) (fun r => mW ((mRow it none n (l ++ [r.1]) r.2).bind f) K E) E := by
  rw [mRowS, if_neg (by simp), Except_bind_assoc, mW_bind] at h
  exact h
theorem mTab_in {b : Nat → Nat} {e a : Nat} {is : Bool} {r : mTabT × Nat} (ha : a ≤ e) (h : mTab b e is a = .ok r) : a < r.2 ∧ r.2 ≤ e := by
  have g : mW (mTab b e is a) (fun r => a < r.2 ∧ r.2 ≤ e) mTr := by
    unfold mTab
    rw [mW_bind]
    have g1 : mW (if is = true then mNeed b e 112 a else .ok a : mE Nat) (fun p => a ≤ p) mTr := by
      rw [mW_ite]
      by_cases q : is = true
      · rw [if_pos q]
        exact mW_in fun p hp => by have := mNeed_in hp; omega
      · rw [if_neg q]; exact Nat.le_refl a
    refine mW_mono g1 (fun p _ hp => ?_) (fun _ _ _ h => h)
    rw [mW_bind]
    exact mW_in fun l hl => by
      have h2 := mLim_in hl
      exact ⟨by show a < l.2; omega, h2.2⟩
  exact mW_get (K := fun r => a < r.2 ∧ r.2 ≤ e) g h
theorem mBd_in {b : Nat → Nat} {e a : Nat} {hc : Bool} {r : mBdT × Nat} (ha : a ≤ e) (h : mBd b e hc a = .ok r) : a < r.2 ∧ r.2 ≤ e := by
  have g : mW (mBd b e hc a) (fun r => a < r.2 ∧ r.2 ≤ e) mTr := by
    unfold mBd
    rw [mW_bind]
    refine mW_in fun z hz => ?_
    have h1 := mU_in hz ha
    rw [mW_ite]
    by_cases q : e - z.2 < z.1
    · rw [if_pos q]; trivial
    rw [if_neg q, mW_bind]
    refine mW_in fun n hn => ?_
    rw [mW_bind]
    refine mW_in fun g hg => ?_
    rw [mW_bind]
    refine mW_in fun c hc => ?_
    rw [mW_ite]
    by_cases q2 : c.2 < z.2 + z.1
    · rw [if_pos q2]; trivial
    rw [if_neg q2]
    exact ⟨by show a < z.2 + z.1; omega, by show z.2 + z.1 ≤ e; omega⟩
  exact mW_get (K := fun r => a < r.2 ∧ r.2 ≤ e) g h
def mRest (b : Nat → Nat) (e id : Nat) (A : mA) (n p : Nat) : mE (mA × Nat) :=
  if id = 1 then (mRow (mSig b e) (some 64) n (aS A) p).bind fun r => .ok ((r.1, aI A, aF A, aT A, aM A, aG A, aX A, aB A, aE A, aC A, aD A, aZ A), r.2)
  else if id = 2 then (mRow (mImp b e) (some 32) n (aI A) p).bind fun r => .ok ((aS A, r.1, aF A, aT A, aM A, aG A, aX A, aB A, aE A, aC A, aD A, aZ A), r.2)
  else if id = 3 then (mRow (mFn b e) (some 64) n (aF A) p).bind fun r => .ok ((aS A, aI A, r.1, aT A, aM A, aG A, aX A, aB A, aE A, aC A, aD A, aZ A), r.2)
  else if id = 4 then (mRow (mTab b e true) none n (aT A) p).bind fun r => .ok ((aS A, aI A, aF A, r.1, aM A, aG A, aX A, aB A, aE A, aC A, aD A, aZ A), r.2)
  else if id = 5 then (mRow (mTab b e false) none n (aM A) p).bind fun r => .ok ((aS A, aI A, aF A, aT A, r.1, aG A, aX A, aB A, aE A, aC A, aD A, aZ A), r.2)
  else if id = 6 then (mRow (mGl b e) (some 32) n (aG A) p).bind fun r => .ok ((aS A, aI A, aF A, aT A, aM A, r.1, aX A, aB A, aE A, aC A, aD A, aZ A), r.2)
  else if id = 7 then (mRow (mEx b e) (some 64) n (aX A) p).bind fun r => .ok ((aS A, aI A, aF A, aT A, aM A, aG A, r.1, aB A, aE A, aC A, aD A, aZ A), r.2)
  else if id = 9 then (mRow (mEl b e) (some 32) n (aE A) p).bind fun r => .ok ((aS A, aI A, aF A, aT A, aM A, aG A, aX A, aB A, r.1, aC A, aD A, aZ A), r.2)
  else if id = 10 then (mRow (mBd b e (aC A).isSome) none n (aD A) p).bind fun r => .ok ((aS A, aI A, aF A, aT A, aM A, aG A, aX A, aB A, aE A, aC A, r.1, aZ A), r.2)
  else (mRow (mDt b e) (some 32) n (aZ A) p).bind fun r => .ok ((aS A, aI A, aF A, aT A, aM A, aG A, aX A, aB A, aE A, aC A, aD A, r.1), r.2)
theorem mSec_rest {b : Nat → Nat} {e id : Nat} {A : mA} {a : Nat} (h8 : ¬ id = 8) (h12 : ¬ id = 12) : mSec b e id A a = (mU b e a).bind fun n => mRest b e id A n.1 n.2 := by
  unfold mSec
  rw [if_neg h8, if_neg h12]
  rfl
theorem mRest_0 {b : Nat → Nat} {e id : Nat} {A : mA} {p : Nat} : mRest b e id A 0 p = .ok (A, p) := by
  have g : ∀ c : Prop, ∀ [Decidable c], ∀ x : mE (mA × Nat), x = .ok (A, p) → (if c then .ok (A, p) else x) = .ok (A, p) := fun c _ x h => by split; rfl; exact h
  exact g _ _ (g _ _ (g _ _ (g _ _ (g _ _ (g _ _ (g _ _ (g _ _ (g _ _ rfl))))))))
theorem mRest_1 {b : Nat → Nat} {e : Nat} {A : mA} {n p : Nat} : mRest b e 1 A n p = ((mRow (mSig b e) (some 64) n (aS A) p).bind fun r => .ok ((r.1, aI A, aF A, aT A, aM A, aG A, aX A, aB A, aE A, aC A, aD A, aZ A), r.2) : mE (mA × Nat)) := by
  unfold mRest
  rw [if_pos rfl]
theorem mRest_2 {b : Nat → Nat} {e : Nat} {A : mA} {n p : Nat} : mRest b e 2 A n p = ((mRow (mImp b e) (some 32) n (aI A) p).bind fun r => .ok ((aS A, r.1, aF A, aT A, aM A, aG A, aX A, aB A, aE A, aC A, aD A, aZ A), r.2) : mE (mA × Nat)) := by
  unfold mRest
  rw [if_neg (by decide), if_pos rfl]
theorem mRest_3 {b : Nat → Nat} {e : Nat} {A : mA} {n p : Nat} : mRest b e 3 A n p = ((mRow (mFn b e) (some 64) n (aF A) p).bind fun r => .ok ((aS A, aI A, r.1, aT A, aM A, aG A, aX A, aB A, aE A, aC A, aD A, aZ A), r.2) : mE (mA × Nat)) := by
  unfold mRest
  rw [if_neg (by decide), if_neg (by decide), if_pos rfl]
theorem mRest_4 {b : Nat → Nat} {e : Nat} {A : mA} {n p : Nat} : mRest b e 4 A n p = ((mRow (mTab b e true) none n (aT A) p).bind fun r => .ok ((aS A, aI A, aF A, r.1, aM A, aG A, aX A, aB A, aE A, aC A, aD A, aZ A), r.2) : mE (mA × Nat)) := by
  unfold mRest
  rw [if_neg (by decide), if_neg (by decide), if_neg (by decide), if_pos rfl]
theorem mRest_5 {b : Nat → Nat} {e : Nat} {A : mA} {n p : Nat} : mRest b e 5 A n p = ((mRow (mTab b e false) none n (aM A) p).bind fun r => .ok ((aS A, aI A, aF A, aT A, r.1, aG A, aX A, aB A, aE A, aC A, aD A, aZ A), r.2) : mE (mA × Nat)) := by
  unfold mRest
  rw [if_neg (by decide), if_neg (by decide), if_neg (by decide), if_neg (by decide), if_pos rfl]
theorem mRest_6 {b : Nat → Nat} {e : Nat} {A : mA} {n p : Nat} : mRest b e 6 A n p = ((mRow (mGl b e) (some 32) n (aG A) p).bind fun r => .ok ((aS A, aI A, aF A, aT A, aM A, r.1, aX A, aB A, aE A, aC A, aD A, aZ A), r.2) : mE (mA × Nat)) := by
  unfold mRest
  rw [if_neg (by decide), if_neg (by decide), if_neg (by decide), if_neg (by decide), if_neg (by decide), if_pos rfl]
theorem mRest_7 {b : Nat → Nat} {e : Nat} {A : mA} {n p : Nat} : mRest b e 7 A n p = ((mRow (mEx b e) (some 64) n (aX A) p).bind fun r => .ok ((aS A, aI A, aF A, aT A, aM A, aG A, r.1, aB A, aE A, aC A, aD A, aZ A), r.2) : mE (mA × Nat)) := by
  unfold mRest
  rw [if_neg (by decide), if_neg (by decide), if_neg (by decide), if_neg (by decide), if_neg (by decide), if_neg (by decide), if_pos rfl]
theorem mRest_9 {b : Nat → Nat} {e : Nat} {A : mA} {n p : Nat} : mRest b e 9 A n p = ((mRow (mEl b e) (some 32) n (aE A) p).bind fun r => .ok ((aS A, aI A, aF A, aT A, aM A, aG A, aX A, aB A, r.1, aC A, aD A, aZ A), r.2) : mE (mA × Nat)) := by
  unfold mRest
  rw [if_neg (by decide), if_neg (by decide), if_neg (by decide), if_neg (by decide), if_neg (by decide), if_neg (by decide), if_neg (by decide), if_pos rfl]
theorem mRest_10 {b : Nat → Nat} {e : Nat} {A : mA} {n p : Nat} : mRest b e 10 A n p = ((mRow (mBd b e (aC A).isSome) none n (aD A) p).bind fun r => .ok ((aS A, aI A, aF A, aT A, aM A, aG A, aX A, aB A, aE A, aC A, r.1, aZ A), r.2) : mE (mA × Nat)) := by
  unfold mRest
  rw [if_neg (by decide), if_neg (by decide), if_neg (by decide), if_neg (by decide), if_neg (by decide), if_neg (by decide), if_neg (by decide), if_neg (by decide), if_pos rfl]
theorem mRest_11 {b : Nat → Nat} {e : Nat} {A : mA} {n p : Nat} : mRest b e 11 A n p = ((mRow (mDt b e) (some 32) n (aZ A) p).bind fun r => .ok ((aS A, aI A, aF A, aT A, aM A, aG A, aX A, aB A, aE A, aC A, aD A, r.1), r.2) : mE (mA × Nat)) := by
  unfold mRest
  rw [if_neg (by decide), if_neg (by decide), if_neg (by decide), if_neg (by decide), if_neg (by decide), if_neg (by decide), if_neg (by decide), if_neg (by decide), if_neg (by decide)]
def cmin (n : Nat) : Nat := min n 1000000
/-- the places of tables, memories, bodies are enough -/
def lenOk (id : Nat) (A : mA) (p : Nat) : Prop := (id = 4 → (aT A).length ≤ p) ∧ (id = 5 → (aM A).length ≤ p) ∧ (id = 10 → (aD A).length ≤ p)
theorem sp_section {τ σ : zS} {B : Nat} {b : Nat → Nat} {e a id : Nat} {A : mA} {K : zS → Prop} {QX : zS → Prop} (hs : mSt τ σ B b e a) (hrep : mRep σ B A) (hid : 1 ≤ id ∧ id ≤ 12) (hlen : lenOk id A a)
    (h : mW (mSec b e id A a) (fun r => ∀ σ', mSt τ σ' B b e r.2 → mRep σ' B r.1 → K σ') (mEr τ B QX)) : zCT zZM zmX10_section [.ref 0, .ref 1, .int (nI id)] σ (zQv K) QX := by
  have hat := hs.2.2.1
  have hae := hs.2.2.2.2.1
  have he := hs.2.2.2.2.2.1
  refine rX10_section (fun m x2 x3 x5 s => ∃ (A : mA) (N j p : Nat), m + j = N ∧ N < 2 ^ 35 ∧ x2 = nI id ∧ x3 = lN N ∧ x5 = lN j ∧ ¬ id = 8 ∧ ¬ id = 12 ∧ lenOk id A p ∧ mSt τ s B b e p ∧ mRep s B A ∧
      mW (mRest b e id A m p) (fun r => ∀ σ', mSt τ σ' B b e r.2 → mRep σ' B r.1 → K σ') (mEr τ B QX)) ?_ ?_
  · rintro m x2 x3 x5 s ⟨A, N, j, p, hm, hN, rfl, rfl, rfl, h8, h12, hlen, hs', hrep, hw⟩
    have hpe := hs'.2.2.2.2.1
    unfold PX10_section_60
    have c1 : lN N ≤ lN j ↔ N ≤ j := lN_leB (by omega) (by omega)
    have n1 : lN j + (1 : Int64) = lN (j + 1) := by rw [show (1 : Int64) = lN 1 from rfl, lN_add]
    rw [c1, n1]
    refine ⟨fun q => ?_, fun q => ?_⟩
    · have : m = 0 := by omega
      subst this
      rw [mRest_0] at hw
      exact hw s hs' hrep
    obtain ⟨m', rfl⟩ : ∃ z, m = z + 1 := ⟨m - 1, by omega⟩
    have d1 : nI id = (1 : Int32) ↔ id = 1 := nI_eq (b := 1) (by omega) (by decide)
    have d2 : nI id = (2 : Int32) ↔ id = 2 := nI_eq (b := 2) (by omega) (by decide)
    have d3 : nI id = (3 : Int32) ↔ id = 3 := nI_eq (b := 3) (by omega) (by decide)
    have d4 : nI id = (4 : Int32) ↔ id = 4 := nI_eq (b := 4) (by omega) (by decide)
    have d5 : nI id = (5 : Int32) ↔ id = 5 := nI_eq (b := 5) (by omega) (by decide)
    have d6 : nI id = (6 : Int32) ↔ id = 6 := nI_eq (b := 6) (by omega) (by decide)
    have d7 : nI id = (7 : Int32) ↔ id = 7 := nI_eq (b := 7) (by omega) (by decide)
    have d9 : nI id = (9 : Int32) ↔ id = 9 := nI_eq (b := 9) (by omega) (by decide)
    have d10 : nI id = (10 : Int32) ↔ id = 10 := nI_eq (b := 10) (by omega) (by decide)
    rw [d1, d2, d3, d4, d5, d6, d7, d9, d10]
    refine ⟨fun q => ?_, fun q => ?_⟩
    · subst q
      rw [mRest_1] at hw
      have hw := mRow_step hw
      refine sp_signature hs' (hrep.1) (mW_mono hw (fun r hr hw => ?_) (fun k p _ h => h))
      intro s1 hs1 hr1 hf1
      exact ⟨m', Nat.lt_succ_self m', (aS A ++ [r.1], aI A, aF A, aT A, aM A, aG A, aX A, aB A, aE A, aC A, aD A, aZ A), N, j + 1, r.2, by omega, hN, rfl, rfl, rfl, h8, h12, ⟨fun z => absurd z (by decide), fun z => absurd z (by decide), fun z => absurd z (by decide)⟩, hs1, mRep_1 hrep hf1 hr1, by rw [mRest_1]; exact hw⟩
    refine ⟨fun q => ?_, fun q => ?_⟩
    · subst q
      rw [mRest_2] at hw
      have hw := mRow_step hw
      refine sp_import hs' (hrep.2.1) (mW_mono hw (fun r hr hw => ?_) (fun k p _ h => h))
      intro s1 hs1 hr1 hf1
      exact ⟨m', Nat.lt_succ_self m', (aS A, aI A ++ [r.1], aF A, aT A, aM A, aG A, aX A, aB A, aE A, aC A, aD A, aZ A), N, j + 1, r.2, by omega, hN, rfl, rfl, rfl, h8, h12, ⟨fun z => absurd z (by decide), fun z => absurd z (by decide), fun z => absurd z (by decide)⟩, hs1, mRep_2 hrep hf1 hr1, by rw [mRest_2]; exact hw⟩
    refine ⟨fun q => ?_, fun q => ?_⟩
    · subst q
      rw [mRest_3] at hw
      have hw := mRow_step hw
      obtain ⟨r0, r1', r2'⟩ := (hrep.2.2.1)
      have c64 : nI (aF A).length = (64 : Int32) ↔ (aF A).length = 64 := nI_eq (b := 64) (by omega) (by decide)
      rw [r0, c64, hs'.2.2.1]
      rw [mW_ite] at hw
      refine ⟨fun q => ?_, fun q => ?_⟩
      · rw [if_pos q] at hw
        exact sp_throw (k := 4) hs'.1 hw
      · rw [if_neg q] at hw
        unfold mFn at hw
        rw [mW_bind] at hw
        rw [nI_clamp (by omega)]
        refine ⟨vp_in_nI (by omega) (by decide), fun s5 e5 => ?_⟩
        have h5 : mT 3 τ s s5 B b e p := by rw [e5]; exact (mT.of hs').i _ rfl (by omega)
        have g5 : s5.1 1 4 = nI (aF A).length := by rw [e5, zI1, if_neg (by omega)]; exact r0
        rw [g5, nI_clamp (by omega)]
        refine sp_u h5.1 (mW_mono hw (fun u hu hw => ?_) (fun k p _ h => h))
        have u1 := mU_in hu hpe
        have u2 := mU_lt hu
        refine ⟨vp_in_nI (by omega) (by decide), fun s8 e8 s9 e9 => ?_⟩
        have h8' : mT 3 τ s s8 B b e u.2 := by rw [e8]; exact (h5.at u1.2).l _ rfl (by omega)
        have h9 : mT 3 τ s s9 B b e u.2 := by rw [e9]; exact h8'.i _ rfl (by omega)
        have g8 : s8.1 1 4 = nI (aF A).length := by rw [e8, zL1, mAt, zI1, if_neg (by omega)]; exact g5
        rw [g8, nI_1] at e9
        have new3 : r3 s9 B (aF A ++ [(p, u.1)]) := by
          refine ⟨?_, ?_, row_app (fun i y hi hy => ?_) ?_⟩
          · rw [e9, len_app]; simp [zI1]
          · rw [len_app]; omega
          · have ho := r2' i y hy
            rw [e9, e8, e5]
            simpa [zI1, zI2, zL1, zL2, mAt, Nat.ne_of_lt hi] using ho
          · refine ⟨by show p < 16000; have := hs'.2.2.2.2.2.1; omega, u2, ?_⟩
            rw [e9, e8, e5]
            simp [zI1, zI2, zL1, zL2, mAt]
        have hw : mW ((mRow (mFn b e) (some 64) m' (aF A ++ [(p, u.1)]) u.2).bind fun r => (.ok ((aS A, aI A, r.1, aT A, aM A, aG A, aX A, aB A, aE A, aC A, aD A, aZ A), r.2) : mE (mA × Nat))) (fun r => ∀ σ', mSt τ σ' B b e r.2 → mRep σ' B r.1 → K σ') (mEr τ B QX) := hw
        exact ⟨m', Nat.lt_succ_self m', (aS A, aI A, aF A ++ [(p, u.1)], aT A, aM A, aG A, aX A, aB A, aE A, aC A, aD A, aZ A), N, j + 1, u.2, by omega, hN, rfl, rfl, rfl, h8, h12, ⟨fun z => absurd z (by decide), fun z => absurd z (by decide), fun z => absurd z (by decide)⟩, h9.1, mRep_3 hrep h9.2 new3, by rw [mRest_3]; exact hw⟩
    refine ⟨fun q => ?_, fun q => ?_⟩
    · subst q
      rw [mRest_4] at hw
      have hw := mRow_stepN hw
      refine sp_own1 hs' (hrep.2.2.2.1) (hlen.1 rfl) (mW_mono hw (fun r hr hw => ?_) (fun k p _ h => h))
      intro s1 hs1 hr1 hf1
      exact ⟨m', Nat.lt_succ_self m', (aS A, aI A, aF A, aT A ++ [r.1], aM A, aG A, aX A, aB A, aE A, aC A, aD A, aZ A), N, j + 1, r.2, by omega, hN, rfl, rfl, rfl, h8, h12, ⟨fun _ => by show (aT A ++ [r.1]).length ≤ r.2; rw [len_app]; have := hlen.1 rfl; have := mTab_in hpe hr; omega, fun z => absurd z (by decide), fun z => absurd z (by decide)⟩, hs1, mRep_4 hrep hf1 hr1, by rw [mRest_4]; exact hw⟩
    refine ⟨fun q => ?_, fun q => ?_⟩
    · subst q
      rw [mRest_5] at hw
      have hw := mRow_stepN hw
      refine sp_own2 hs' (hrep.2.2.2.2.1) (hlen.2.1 rfl) (mW_mono hw (fun r hr hw => ?_) (fun k p _ h => h))
      intro s1 hs1 hr1 hf1
      exact ⟨m', Nat.lt_succ_self m', (aS A, aI A, aF A, aT A, aM A ++ [r.1], aG A, aX A, aB A, aE A, aC A, aD A, aZ A), N, j + 1, r.2, by omega, hN, rfl, rfl, rfl, h8, h12, ⟨fun z => absurd z (by decide), fun _ => by show (aM A ++ [r.1]).length ≤ r.2; rw [len_app]; have := hlen.2.1 rfl; have := mTab_in hpe hr; omega, fun z => absurd z (by decide)⟩, hs1, mRep_5 hrep hf1 hr1, by rw [mRest_5]; exact hw⟩
    refine ⟨fun q => ?_, fun q => ?_⟩
    · subst q
      rw [mRest_6] at hw
      have hw := mRow_step hw
      refine sp_global hs' (hrep.2.2.2.2.2.1) (mW_mono hw (fun r hr hw => ?_) (fun k p _ h => h))
      intro s1 hs1 hr1 hf1
      exact ⟨m', Nat.lt_succ_self m', (aS A, aI A, aF A, aT A, aM A, aG A ++ [r.1], aX A, aB A, aE A, aC A, aD A, aZ A), N, j + 1, r.2, by omega, hN, rfl, rfl, rfl, h8, h12, ⟨fun z => absurd z (by decide), fun z => absurd z (by decide), fun z => absurd z (by decide)⟩, hs1, mRep_6 hrep hf1 hr1, by rw [mRest_6]; exact hw⟩
    refine ⟨fun q => ?_, fun q => ?_⟩
    · subst q
      rw [mRest_7] at hw
      have hw := mRow_step hw
      refine sp_export hs' (hrep.2.2.2.2.2.2.1) (mW_mono hw (fun r hr hw => ?_) (fun k p _ h => h))
      intro s1 hs1 hr1 hf1
      exact ⟨m', Nat.lt_succ_self m', (aS A, aI A, aF A, aT A, aM A, aG A, aX A ++ [r.1], aB A, aE A, aC A, aD A, aZ A), N, j + 1, r.2, by omega, hN, rfl, rfl, rfl, h8, h12, ⟨fun z => absurd z (by decide), fun z => absurd z (by decide), fun z => absurd z (by decide)⟩, hs1, mRep_7 hrep hf1 hr1, by rw [mRest_7]; exact hw⟩
    refine ⟨fun q => ?_, fun q => ?_⟩
    · subst q
      rw [mRest_9] at hw
      have hw := mRow_step hw
      refine sp_element hs' (hrep.2.2.2.2.2.2.2.2.1) (mW_mono hw (fun r hr hw => ?_) (fun k p _ h => h))
      intro s1 hs1 hr1 hf1
      exact ⟨m', Nat.lt_succ_self m', (aS A, aI A, aF A, aT A, aM A, aG A, aX A, aB A, aE A ++ [r.1], aC A, aD A, aZ A), N, j + 1, r.2, by omega, hN, rfl, rfl, rfl, h8, h12, ⟨fun z => absurd z (by decide), fun z => absurd z (by decide), fun z => absurd z (by decide)⟩, hs1, mRep_9 hrep hf1 hr1, by rw [mRest_9]; exact hw⟩
    refine ⟨fun q => ?_, fun q => ?_⟩
    · subst q
      rw [mRest_10] at hw
      have hw := mRow_stepN hw
      refine sp_body hs' (mRep_18 hrep) (hrep.2.2.2.2.2.2.2.2.2.2.1) (hlen.2.2 rfl) (mW_mono hw (fun r hr hw => ?_) (fun k p _ h => h))
      intro s1 hs1 hr1 hf1
      exact ⟨m', Nat.lt_succ_self m', (aS A, aI A, aF A, aT A, aM A, aG A, aX A, aB A, aE A, aC A, aD A ++ [r.1], aZ A), N, j + 1, r.2, by omega, hN, rfl, rfl, rfl, h8, h12, ⟨fun z => absurd z (by decide), fun z => absurd z (by decide), fun _ => by show (aD A ++ [r.1]).length ≤ r.2; rw [len_app]; have := hlen.2.2 rfl; have := mBd_in hpe hr; omega⟩, hs1, mRep_10 hrep hf1 hr1, by rw [mRest_10]; exact hw⟩
    · have q : id = 11 := by omega
      subst q
      rw [mRest_11] at hw
      have hw := mRow_step hw
      refine sp_data hs' (hrep.2.2.2.2.2.2.2.2.2.2.2) (mW_mono hw (fun r hr hw => ?_) (fun k p _ h => h))
      intro s1 hs1 hr1 hf1
      exact ⟨m', Nat.lt_succ_self m', (aS A, aI A, aF A, aT A, aM A, aG A, aX A, aB A, aE A, aC A, aD A, aZ A ++ [r.1]), N, j + 1, r.2, by omega, hN, rfl, rfl, rfl, h8, h12, ⟨fun z => absurd z (by decide), fun z => absurd z (by decide), fun z => absurd z (by decide)⟩, hs1, mRep_11 hrep hf1 hr1, by rw [mRest_11]; exact hw⟩
  · unfold PX10_section_0
    have d8 : nI id = (8 : Int32) ↔ id = 8 := nI_eq (b := 8) (by omega) (by decide)
    have d12 : nI id = (12 : Int32) ↔ id = 12 := nI_eq (b := 12) (by omega) (by decide)
    rw [d8, d12, hat]
    refine ⟨fun q s1 e1 => ?_, fun q => ⟨fun q2 => ⟨Or.inr rfl, fun s5 e5 => ?_⟩, fun q2 => ?_⟩⟩
    · subst q
      have h1 : mT 8 τ σ s1 B b e a := by rw [e1]; exact (mT.of hs).i _ rfl (by omega)
      unfold mSec at h
      rw [if_pos rfl, mW_bind] at h
      refine sp_u h1.1 (mW_mono h (fun u hu h => ?_) (fun k p _ h => h))
      have u1 := mU_in hu hae
      have u2 := mU_lt hu
      intro s4 e4
      have h4 : mT 8 τ σ s4 B b e u.2 := by rw [e4]; exact (h1.at u1.2).i _ rfl (by omega)
      have cm : (if (1000000 : Int64) < lN u.1 then (1000000 : Int64) else lN u.1).toInt32 = nI (min u.1 1000000) := by
        have c : (1000000 : Int64) < lN u.1 ↔ 1000000 < u.1 := pk_lLT (a := 1000000) (by decide) (by omega)
        by_cases q : 1000000 < u.1
        · rw [if_pos (c.mpr q), Nat.min_eq_right (by omega)]; rfl
        · rw [if_neg (fun z => q (c.mp z)), Nat.min_eq_left (by omega), lN_i]
      rw [cm] at e4
      refine h s4 h4.1 (mRep_8 hrep h4.2 ⟨by show a < 16000; omega, ?_, ?_⟩)
      · rw [e4, zI1, if_pos ⟨rfl, rfl⟩]
      · rw [e4, zI1, if_neg (by omega), mAt, zI1, if_neg (by omega), e1, zI1, if_pos ⟨rfl, rfl⟩]
    · subst q2
      have h5 : mT 12 τ σ s5 B b e a := by rw [e5]; exact ⟨hs.i _ (by unfold kpd; omega) (by omega), mF.rf.i _ (Or.inr rfl)⟩
      unfold mSec at h
      rw [if_neg (by decide), if_pos rfl, mW_bind] at h
      refine sp_u h5.1 (mW_mono h (fun u hu h => ?_) (fun k p _ h => h))
      have u1 := mU_in hu hae
      have u2 := mU_lt hu
      intro s8 e8
      have h8 : mT 12 τ σ s8 B b e u.2 := by rw [e8]; exact ⟨(h5.at u1.2).1.l _ (by unfold kpd; omega), (h5.at u1.2).2.l _ (Or.inr rfl)⟩
      refine h s8 h8.1 (mRep_12 hrep h8.2 ⟨?_, u2, ?_⟩)
      · rw [e8, zL1, mAt, zI1, if_neg (by omega), e5, zI1, if_pos ⟨rfl, rfl⟩]
      · rw [e8, zL2, if_pos ⟨rfl, rfl⟩]
    · rw [mSec_rest q q2, mW_bind] at h
      refine sp_u hs (mW_mono h (fun u hu h => ?_) (fun k p _ h => h))
      have u1 := mU_in hu hae
      have u2 := mU_lt hu
      refine ⟨u.1, trivial, A, u.1, 0, u.2, rfl, u2, rfl, rfl, rfl, q, q2, ⟨fun z => ?_, fun z => ?_, fun z => ?_⟩, hs.at u1.2, ?_, h⟩
      · have := hlen.1 z; omega
      · have := hlen.2.1 z; omega
      · have := hlen.2.2 z; omega
      · exact mRep_at hrep

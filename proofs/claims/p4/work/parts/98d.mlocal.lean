/-! the parser and the meaning look at the module's own bytes alone -/
section Local
variable {b c : Nat → Nat} {e : Nat}
theorem mOct_l (H : ∀ j, j < e → b j = c j) (a : Nat) : mOct b e a = mOct c e a := by
  unfold mOct
  by_cases q : a < e
  · rw [if_pos q, if_pos q, H a q]
  · rw [if_neg q, if_neg q]
theorem mUk_l (H : ∀ j, j < e → b j = c j) (fr : Nat) : ∀ n k v a, mUk b e fr n k v a = mUk c e fr n k v a := by
  intro n
  induction n with
  | zero => intro k v a; rfl
  | succ n ih => intro k v a; simp only [mUk, mOct_l H, ih]
theorem mU_l (H : ∀ j, j < e → b j = c j) (a : Nat) : mU b e a = mU c e a := mUk_l H _ _ _ _ _
theorem mU_f (H : ∀ j, j < e → b j = c j) : mU b e = mU c e := funext (mU_l H)
theorem mSk_l (H : ∀ j, j < e → b j = c j) (fr g lo hi : Nat) : ∀ n k a, mSk b e fr g lo hi n k a = mSk c e fr g lo hi n k a := by
  intro n
  induction n with
  | zero => intro k a; rfl
  | succ n ih => intro k a; simp only [mSk, mOct_l H, ih]
theorem mSg_l (H : ∀ j, j < e → b j = c j) (g lo hi a : Nat) : mSg b e g lo hi a = mSg c e g lo hi a := mSk_l H _ _ _ _ _ _ _
theorem mNeed_l (H : ∀ j, j < e → b j = c j) (v a : Nat) : mNeed b e v a = mNeed c e v a := by simp only [mNeed, mOct_l H]
theorem mType_l (H : ∀ j, j < e → b j = c j) (a : Nat) : mType b e a = mType c e a := by simp only [mType, mOct_l H]
theorem mFlag_l (H : ∀ j, j < e → b j = c j) (a : Nat) : mFlag b e a = mFlag c e a := by simp only [mFlag, mOct_l H]
theorem mBt_l (H : ∀ j, j < e → b j = c j) (a : Nat) : mBt b e a = mBt c e a := by simp only [mBt, mOct_l H]
theorem mGood_l (H : ∀ j, j < e → b j = c j) (s : Nat) : ∀ n, s + n ≤ e → mGood b s n = mGood c s n := by
  intro n
  induction n with
  | zero => intro _; rfl
  | succ n ih => intro h; simp only [mGood, ih (by omega), H (s + n) (by omega)]
theorem mName_l (H : ∀ j, j < e → b j = c j) (sh : Bool) (a : Nat) : mName b e sh a = mName c e sh a := by
  unfold mName
  rw [mU_l H]
  cases mU c e a with
  | error q => rfl
  | ok r =>
    show (if r.1 < 1 ∨ 100 < r.1 ∨ e - r.2 < r.1 then _ else _) = (if r.1 < 1 ∨ 100 < r.1 ∨ e - r.2 < r.1 then _ else _)
    by_cases q : r.1 < 1 ∨ 100 < r.1 ∨ e - r.2 < r.1
    · rw [if_pos q, if_pos q]
    · rw [if_neg q, if_neg q, mGood_l H _ _ (by omega)]
theorem mLim_l (H : ∀ j, j < e → b j = c j) (a : Nat) : mLim b e a = mLim c e a := by simp only [mLim, mFlag_l H, mU_l H]
theorem mConst_l (H : ∀ j, j < e → b j = c j) (a : Nat) : mConst b e a = mConst c e a := by simp only [mConst, mOct_l H, mSg_l H, mNeed_l H, mU_l H]
theorem mSig_l (H : ∀ j, j < e → b j = c j) : mSig b e = mSig c e := by
  have : mType b e = mType c e := funext (mType_l H)
  funext a
  simp only [mSig, mNeed_l H, mU_l H, this]
theorem mImp_l (H : ∀ j, j < e → b j = c j) : mImp b e = mImp c e := by
  funext a
  simp only [mImp, mName_l H, mOct_l H, mU_l H, mType_l H, mFlag_l H, mNeed_l H, mLim_l H]
theorem mFn_l (H : ∀ j, j < e → b j = c j) : mFn b e = mFn c e := by funext a; simp only [mFn, mU_l H]
theorem mTab_l (H : ∀ j, j < e → b j = c j) (t : Bool) : mTab b e t = mTab c e t := by funext a; simp only [mTab, mNeed_l H, mLim_l H]
theorem mGl_l (H : ∀ j, j < e → b j = c j) : mGl b e = mGl c e := by funext a; simp only [mGl, mType_l H, mFlag_l H, mConst_l H]
theorem mEx_l (H : ∀ j, j < e → b j = c j) : mEx b e = mEx c e := by funext a; simp only [mEx, mName_l H, mOct_l H, mU_l H]
theorem mEl_l (H : ∀ j, j < e → b j = c j) : mEl b e = mEl c e := by funext a; simp only [mEl, mOct_l H, mConst_l H, mNeed_l H, mU_l H, mFn_l H]
theorem mDt_l (H : ∀ j, j < e → b j = c j) : mDt b e = mDt c e := by funext a; simp only [mDt, mOct_l H, mConst_l H, mU_l H]
theorem mOps_l (H : ∀ j, j < e → b j = c j) (hc : Bool) (op fr a : Nat) : mOps b e hc op fr a = mOps c e hc op fr a := by
  simp only [mOps, mBt_l H, mU_l H, mSg_l H, mNeed_l H, mU_f H]
theorem mCode_l (H : ∀ j, j < e → b j = c j) (hc : Bool) : ∀ f ow l a, mCode b e hc f ow l a = mCode c e hc f ow l a := by
  intro f
  induction f with
  | zero => intro ow l a; rfl
  | succ f ih =>
    intro ow l a
    have h11 : ∀ ow l a, mC11 b e hc f ow l a = mC11 c e hc f ow l a := by
      intro ow l a
      cases ow with
      | nil => rfl
      | cons x o => exact ih o l a
    rw [mCodeS, mCodeS]
    simp only [mOct_l H, mOps_l H, ih, h11]
theorem mGrp_l (H : ∀ j, j < e → b j = c j) : ∀ n s l a, mGrp b e n s l a = mGrp c e n s l a := by
  intro n
  induction n with
  | zero => intro s l a; rfl
  | succ n ih => intro s l a; simp only [mGrp, mU_l H, mType_l H, ih]
theorem mBd_l (H : ∀ j, j < e → b j = c j) (hc : Bool) : mBd b e hc = mBd c e hc := by
  funext a
  unfold mBd
  rw [mU_l H]
  cases hz : mU c e a with
  | error q => rfl
  | ok z =>
    have ha := mU_a hz
    have z1 := mU_in hz (Nat.le_of_lt ha)
    show (if e - z.2 < z.1 then _ else _) = (if e - z.2 < z.1 then _ else _)
    by_cases q : e - z.2 < z.1
    · rw [if_pos q, if_pos q]
    · rw [if_neg q, if_neg q]
      have H2 : ∀ j, j < z.2 + z.1 → b j = c j := fun j hj => H j (by omega)
      simp only [mU_l H2, mGrp_l H2, mCode_l H2]
theorem mSec_l (H : ∀ j, j < e → b j = c j) (id : Nat) (A : mA) (a : Nat) : mSec b e id A a = mSec c e id A a := by
  simp only [mSec, mU_l H, mSig_l H, mImp_l H, mFn_l H, mTab_l H, mGl_l H, mEx_l H, mEl_l H, mBd_l H, mDt_l H]
theorem mSecs_l (H : ∀ j, j < e → b j = c j) : ∀ f last A a, mSecs b e f last A a = mSecs c e f last A a := by
  intro f
  induction f with
  | zero => intro last A a; rfl
  | succ f ih =>
    intro last A a
    rw [mSecsS, mSecsS]
    by_cases q : ¬ a < e
    · rw [if_pos q, if_pos q]
    · rw [if_neg q, if_neg q, H a (by omega), mU_l H]
      by_cases q2 : ¬ c a = 0 ∧ mOrd (c a) ≤ last
      · rw [if_pos q2, if_pos q2]
      · rw [if_neg q2, if_neg q2]
        cases hz : mU c e (a + 1) with
        | error r => rfl
        | ok z =>
          have z1 := mU_in hz (by omega)
          show (if e - z.2 < z.1 then _ else _) = (if e - z.2 < z.1 then _ else _)
          by_cases q3 : e - z.2 < z.1
          · rw [if_pos q3, if_pos q3]
          · rw [if_neg q3, if_neg q3]
            have H2 : ∀ j, j < z.2 + z.1 → b j = c j := fun j hj => H j (by omega)
            simp only [mName_l H2, mSec_l H2, ih]
theorem mHead_l (H : ∀ j, j < e → b j = c j) : ∀ n a, mHead b e n a = mHead c e n a := by
  intro n
  induction n with
  | zero => intro a; rfl
  | succ n ih => intro a; simp only [mHead, mNeed_l H, ih]
theorem mRead_l (H : ∀ j, j < e → b j = c j) : mRead b e = mRead c e := by
  simp only [mRead, mHead_l H, mSecs_l H]
theorem mCst_l (H : ∀ j, j < e → b j = c j) {A : mA} {p ty : Nat} (hp : p < e) : mCst A b e p ty = mCst A c e p ty := by
  simp only [mCst, H p hp, mU_l H]
theorem mSameTo_l (H : ∀ j, j < e → b j = c j) {p o : Nat} : ∀ n, p + n ≤ e → o + n ≤ e → mSameTo b p o n = mSameTo c p o n := by
  intro n
  induction n with
  | zero => intro _ _; rfl
  | succ n ih => intro h1 h2; simp only [mSameTo, ih (by omega) (by omega), H (p + n) (by omega), H (o + n) (by omega)]
theorem mSame_l (H : ∀ j, j < e → b j = c j) {p n o m : Nat} (h1 : p + n ≤ e) (h2 : o + m ≤ e) : mSame b p n o m = mSame c p n o m := by
  unfold mSame
  by_cases q : n = m
  · rw [mSameTo_l H n h1 (by omega)]
  · rw [decide_eq_false q]; rfl
theorem mUniq_l (H : ∀ j, j < e → b j = c j) {X : List mExT} {x : mExT} (hx : x.2.1 + x.2.2.1 ≤ e) (hX : ∀ y ∈ X, y.2.1 + y.2.2.1 ≤ e) : ∀ n i, i + n ≤ X.length → mUniq b X x n i = mUniq c X x n i := by
  intro n
  induction n with
  | zero => intro i _; rfl
  | succ n ih =>
    intro i hi
    have h1 := hX _ (getD_mem (d := exp0) (show i < X.length by omega))
    simp only [mUniq, mSame_l H h1 hx, ih (i + 1) (by omega)]
theorem mAll_l {f g : Nat → mE Unit} : ∀ n i, (∀ j, i ≤ j → j < i + n → f j = g j) → mAll f n i = mAll g n i := by
  intro n
  induction n with
  | zero => intro i _; rfl
  | succ n ih =>
    intro i h
    show (f i).bind _ = (g i).bind _
    rw [h i (Nat.le_refl _) (by omega), ih (i + 1) (fun j h1 h2 => h j (by omega) (by omega))]
/-- the names of the exports lie in the module -/
def fromX (e : Nat) (A : mA) : Prop := ∀ x ∈ aX A, x.2.1 + x.2.2.1 ≤ e
theorem mMeans_l (H : ∀ j, j < e → b j = c j) {A : mA} (hM : mFrom b e A) (hX : fromX e A) : mMeans b e A = mMeans c e A := by
  have hG : ∀ i, i < (aG A).length → mGlob b e A i = mGlob c e A i := fun i hi => by
    obtain ⟨e1, a, r, he, hg⟩ := hM.1 _ (getD_mem (d := ((0, 0, 0) : mGlT)) hi)
    obtain ⟨r', hc⟩ := mGl_c hg
    have := (mConst_f hc).1
    simp only [mGlob, mCst_l H (A := A) (ty := ((aG A).getD i (0, 0, 0)).1) (show ((aG A).getD i (0, 0, 0)).2.2 < e by omega)]
  have hE : ∀ i, i < (aE A).length → mElem b e A i = mElem c e A i := fun i hi => by
    obtain ⟨e1, a, r, he, hg⟩ := hM.2.1 _ (getD_mem (d := el0) hi)
    obtain ⟨h1, -, -⟩ := mEl_c hg
    unfold mElem
    have : mEl0 b e A ((aE A).getD i el0) = mEl0 c e A ((aE A).getD i el0) := by
      unfold mEl0
      by_cases q : ((aE A).getD i el0).2.1 = 0
      · obtain ⟨r', hc⟩ := h1 q
        have := (mConst_f hc).1
        rw [if_pos q, if_pos q, mCst_l H (by omega)]
      · rw [if_neg q, if_neg q]
    rw [this]
  have hZ : ∀ i, i < (aZ A).length → mDat b e A i = mDat c e A i := fun i hi => by
    obtain ⟨e1, a, r, he, hg⟩ := hM.2.2.1 _ (getD_mem (d := dt0) hi)
    have h1 := mDt_c hg
    unfold mDat
    by_cases q : ((aZ A).getD i dt0).2.1 = 0
    · obtain ⟨r', hc⟩ := h1 q
      have := (mConst_f hc).1
      rw [if_pos q, if_pos q, mCst_l H (by omega)]
    · rw [if_neg q, if_neg q]
  have hP : ∀ i, i < (aX A).length → mExpo b A i = mExpo c A i := fun i hi => by
    unfold mExpo
    rw [mUniq_l H (hX _ (getD_mem hi)) hX i 0 (by omega)]
  have z8 : ∀ n i, i + n ≤ (aZ A).length → mZ8 b e A n i = mZ8 c e A n i := fun n i h => by
    unfold mZ8
    rw [mAll_l n i (fun j h1 h2 => hZ j (by omega))]
  have z7 : ∀ n i, i + n ≤ (aE A).length → mZ7 b e A n i = mZ7 c e A n i := fun n i h => by
    unfold mZ7
    rw [mAll_l n i (fun j h1 h2 => hE j (by omega)), z8 _ _ (by omega)]
  have z6 : mZ6 b e A = mZ6 c e A := by
    unfold mZ6
    rw [z7 _ _ (by omega)]
  have z5 : ∀ n i, i + n ≤ (aX A).length → mZ5 b e A n i = mZ5 c e A n i := fun n i h => by
    unfold mZ5
    rw [mAll_l n i (fun j h1 h2 => hP j (by omega)), z6]
  have z4 : ∀ n i, i + n ≤ (aG A).length → mZ4 b e A n i = mZ4 c e A n i := fun n i h => by
    unfold mZ4
    rw [mAll_l n i (fun j h1 h2 => hG j (by omega)), z5 _ _ (by omega)]
  have z3 : mZ3 b e A = mZ3 c e A := by
    unfold mZ3
    rw [z4 _ _ (by omega)]
  unfold mMeans mZ1 mZ2
  rw [z3]
end Local

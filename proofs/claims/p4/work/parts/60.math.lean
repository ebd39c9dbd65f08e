/-! THE MATHEMATICS: a parser on bytes b : Nat → Nat, positions relative to the module's begin, e where the bytes end.
An error is (kind, place). -/
theorem fa_lit (n : Nat) : (OfNat.ofNat n : Int32) = nI n := rfl
theorem fa_litL (n : Nat) : (OfNat.ofNat n : Int64) = lN n := rfl
abbrev mE (α : Type) : Type := Except (Nat × Nat) α
/-- what a run of the parser comes to -/
def mW {α : Type} (x : mE α) (K : α → Prop) (E : Nat → Nat → Prop) : Prop := match x with
  | .ok r => K r
  | .error q => E q.1 q.2
theorem mW_ok {α : Type} {r : α} {K : α → Prop} {E : Nat → Nat → Prop} : mW (.ok r) K E = K r := rfl
theorem mW_er {α : Type} {q : Nat × Nat} {K : α → Prop} {E : Nat → Nat → Prop} : mW (.error q : mE α) K E = E q.1 q.2 := rfl
theorem mW_bind {α β : Type} {x : mE α} {f : α → mE β} {K : β → Prop} {E : Nat → Nat → Prop} : mW (x.bind f) K E = mW x (fun r => mW (f r) K E) E := by
  cases x <;> rfl
theorem Except_bind_assoc {α β γ : Type} (x : mE α) (f : α → mE β) (g : β → mE γ) : (x.bind f).bind g = x.bind fun r => (f r).bind g := by cases x <;> rfl
theorem lN_leB {a b : Nat} (ha : a < 2 ^ 62) (hb : b < 2 ^ 62) : lN a ≤ lN b ↔ a ≤ b := pk_lLE (by omega) (by omega)
theorem mW_mono {α : Type} {x : mE α} {K K' : α → Prop} {E E' : Nat → Nat → Prop} (h : mW x K E) (h1 : ∀ r, x = .ok r → K r → K' r) (h2 : ∀ k p, x = .error (k, p) → E k p → E' k p) : mW x K' E' := by
  cases x with
  | ok r => exact h1 r rfl h
  | error q => exact h2 q.1 q.2 rfl h
theorem mW_ite {α : Type} {c : Prop} [Decidable c] {x y : mE α} {K : α → Prop} {E : Nat → Nat → Prop} : mW (if c then x else y) K E = if c then mW x K E else mW y K E := by
  split <;> rfl
def mOct (b : Nat → Nat) (e a : Nat) : mE (Nat × Nat) := if a < e then .ok (b a, a + 1) else .error (1, e)
def mUk (b : Nat → Nat) (e fr : Nat) : Nat → Nat → Nat → Nat → mE (Nat × Nat)
  | 0, _, v, a => .ok (v, a)
  | n + 1, k, v, a => (mOct b e a).bind fun r =>
      if k = 4 ∧ 15 < r.1 then .error (1, fr)
      else if r.1 < 128 then .ok (v + r.1 % 128 * 2 ^ (7 * k), r.2)
      else mUk b e fr n (k + 1) (v + r.1 % 128 * 2 ^ (7 * k)) r.2
def mU (b : Nat → Nat) (e a : Nat) : mE (Nat × Nat) := mUk b e a 5 0 0 a
def mSk (b : Nat → Nat) (e fr g lo hi : Nat) : Nat → Nat → Nat → mE Nat
  | 0, _, a => .ok a
  | n + 1, k, a => (mOct b e a).bind fun r =>
      if k + 1 = g ∧ lo < r.1 ∧ (r.1 < hi ∨ 127 < r.1) then .error (1, fr)
      else if r.1 < 128 then .ok r.2
      else mSk b e fr g lo hi n (k + 1) r.2
def mSg (b : Nat → Nat) (e g lo hi a : Nat) : mE Nat := mSk b e a g lo hi g 0 a
def mNeed (b : Nat → Nat) (e v a : Nat) : mE Nat := (mOct b e a).bind fun r => if r.1 = v then .ok r.2 else .error (1, a)
def mType (b : Nat → Nat) (e a : Nat) : mE (Nat × Nat) := (mOct b e a).bind fun r => if r.1 = 127 ∨ r.1 = 126 then .ok (127 - r.1, r.2) else .error (1, a)
def mFlag (b : Nat → Nat) (e a : Nat) : mE (Nat × Nat) := (mOct b e a).bind fun r => if r.1 ≤ 1 then .ok r else .error (1, a)
def mBt (b : Nat → Nat) (e a : Nat) : mE (Nat × Nat) := (mOct b e a).bind fun r =>
  if r.1 = 64 then .ok (2, r.2) else if r.1 = 127 ∨ r.1 = 126 then .ok (127 - r.1, r.2) else .error (1, a)
/-- the signs of a name are of the right kind -/
def mSigns (b : Nat → Nat) (s n : Nat) : Prop := ∀ j, j < n → 33 ≤ b (s + j) ∧ b (s + j) ≤ 126
/-- the number of signs, up to n, ahead of the first wrong one -/
def mGood (b : Nat → Nat) (s : Nat) : Nat → Bool
  | 0 => true
  | n + 1 => mGood b s n && (decide (33 ≤ b (s + n)) && decide (b (s + n) ≤ 126))
theorem mGood_iff (b : Nat → Nat) (s n : Nat) : mGood b s n = true ↔ mSigns b s n := by
  induction n with
  | zero => exact ⟨fun _ j h => absurd h (Nat.not_lt_zero j), fun _ => rfl⟩
  | succ n ih =>
    simp only [mGood, Bool.and_eq_true, decide_eq_true_eq, ih]
    constructor
    · intro h j hj
      rcases Nat.lt_succ_iff_lt_or_eq.mp hj with q | q
      · exact h.1 j q
      · rw [q]; exact h.2
    · intro h
      exact ⟨fun j hj => h j (by omega), h n (by omega)⟩
/-- a NAME: where its signs begin, how many, and where it ends -/
def mName (b : Nat → Nat) (e : Nat) (short : Bool) (a : Nat) : mE ((Nat × Nat) × Nat) := (mU b e a).bind fun r =>
  if r.1 < 1 ∨ 100 < r.1 ∨ e - r.2 < r.1 then .error (1, a)
  else if mGood b r.2 r.1 = true then (if short = true ∧ 40 < r.1 then .error (4, a) else .ok ((r.2, r.1), r.2 + r.1))
  else .error (1, a)
/-- limits: least, most if told -/
def mLim (b : Nat → Nat) (e a : Nat) : mE ((Nat × Option Nat) × Nat) := (mFlag b e a).bind fun r => (mU b e r.2).bind fun q =>
  if r.1 = 1 then (mU b e q.2).bind fun t => .ok ((q.1, some t.1), t.2) else .ok ((q.1, none), q.2)
def mConst (b : Nat → Nat) (e a : Nat) : mE Nat := (mOct b e a).bind fun r =>
  if r.1 = 65 then (mSg b e 5 7 120 r.2).bind fun q => mNeed b e 11 q
  else if r.1 = 66 then (mSg b e 10 0 127 r.2).bind fun q => mNeed b e 11 q
  else if r.1 = 35 then (mU b e r.2).bind fun q => mNeed b e 11 q.2
  else .error (1, a)
/-! where the parser stands afterwards -/
theorem mOct_in {b : Nat → Nat} {e a : Nat} {r : Nat × Nat} (h : mOct b e a = .ok r) : a < e ∧ r = (b a, a + 1) := by
  unfold mOct at h
  split at h
  · rename_i h1; cases h; exact ⟨h1, rfl⟩
  · cases h
theorem mUk_in {b : Nat → Nat} {e fr : Nat} : ∀ (n k v a : Nat) {r : Nat × Nat}, mUk b e fr n k v a = .ok r → a ≤ e → a ≤ r.2 ∧ r.2 ≤ e := by
  intro n
  induction n with
  | zero => intro k v a r h ha; cases h; exact ⟨Nat.le_refl _, ha⟩
  | succ n ih =>
    intro k v a r h ha
    unfold mUk at h
    cases ho : mOct b e a with
    | error q => rw [ho] at h; cases h
    | ok q =>
      rw [ho] at h
      obtain ⟨h1, rfl⟩ := mOct_in ho
      simp only [Except.bind] at h
      split at h
      · cases h
      · split at h
        · cases h; exact ⟨Nat.le_succ a, h1⟩
        · have := ih _ _ _ h h1
          exact ⟨by omega, this.2⟩
theorem mU_in {b : Nat → Nat} {e a : Nat} {r : Nat × Nat} (h : mU b e a = .ok r) (ha : a ≤ e) : a < r.2 ∧ r.2 ≤ e := by
  unfold mU mUk at h
  cases ho : mOct b e a with
  | error q => rw [ho] at h; cases h
  | ok q =>
    rw [ho] at h
    obtain ⟨h1, rfl⟩ := mOct_in ho
    simp only [Except.bind] at h
    split at h
    · cases h
    · split at h
      · cases h; exact ⟨Nat.lt_succ_self a, h1⟩
      · have := mUk_in _ _ _ _ h h1
        exact ⟨by omega, this.2⟩
/-- a number is below 2^35 -/
theorem mUk_lt {b : Nat → Nat} {e fr : Nat} : ∀ (n k v a : Nat) {r : Nat × Nat}, n + k = 5 → v < 2 ^ (7 * k) → mUk b e fr n k v a = .ok r → r.1 < 2 ^ 35 := by
  intro n
  induction n with
  | zero => intro k v a r hk hv h; cases h; have : k = 5 := by omega
            subst this; exact hv
  | succ n ih =>
    intro k v a r hk hv h
    unfold mUk at h
    cases ho : mOct b e a with
    | error q => rw [ho] at h; cases h
    | ok q =>
      rw [ho] at h
      simp only [Except.bind] at h
      have h7 : 2 ^ (7 * (k + 1)) = 128 * 2 ^ (7 * k) := by rw [show 7 * (k + 1) = 7 * k + 7 by omega, Nat.pow_add]; omega
      have hm : q.1 % 128 < 128 := Nat.mod_lt _ (by decide)
      have hlt : v + q.1 % 128 * 2 ^ (7 * k) < 2 ^ (7 * (k + 1)) := by
        rw [h7]
        have : q.1 % 128 * 2 ^ (7 * k) ≤ 127 * 2 ^ (7 * k) := Nat.mul_le_mul_right _ (by omega)
        omega
      split at h
      · cases h
      · split at h
        · cases h
          refine Nat.lt_of_lt_of_le hlt ?_
          exact Nat.pow_le_pow_right (by decide) (by omega)
        · exact ih _ _ _ (by omega) hlt h
theorem mU_lt {b : Nat → Nat} {e a : Nat} {r : Nat × Nat} (h : mU b e a = .ok r) : r.1 < 2 ^ 35 := mUk_lt 5 0 0 a rfl (by decide) h
theorem mSk_in {b : Nat → Nat} {e fr g lo hi : Nat} : ∀ (n k a : Nat) {r : Nat}, mSk b e fr g lo hi n k a = .ok r → a ≤ e → a ≤ r ∧ r ≤ e := by
  intro n
  induction n with
  | zero => intro k a r h ha; cases h; exact ⟨Nat.le_refl _, ha⟩
  | succ n ih =>
    intro k a r h ha
    unfold mSk at h
    cases ho : mOct b e a with
    | error q => rw [ho] at h; cases h
    | ok q =>
      rw [ho] at h
      obtain ⟨h1, rfl⟩ := mOct_in ho
      simp only [Except.bind] at h
      split at h
      · cases h
      · split at h
        · cases h; exact ⟨Nat.le_succ a, h1⟩
        · have := ih _ _ h h1
          exact ⟨by omega, this.2⟩
theorem mNeed_in {b : Nat → Nat} {e v a r : Nat} (h : mNeed b e v a = .ok r) : a < e ∧ r = a + 1 ∧ b a = v := by
  unfold mNeed at h
  cases ho : mOct b e a with
  | error q => rw [ho] at h; cases h
  | ok q =>
    rw [ho] at h
    obtain ⟨h1, rfl⟩ := mOct_in ho
    simp only [Except.bind] at h
    split at h
    · rename_i hv; cases h; exact ⟨h1, rfl, hv⟩
    · cases h
theorem mType_in {b : Nat → Nat} {e a : Nat} {r : Nat × Nat} (h : mType b e a = .ok r) : a < e ∧ r.2 = a + 1 ∧ r.1 ≤ 1 ∧ b a = 127 - r.1 := by
  unfold mType at h
  cases ho : mOct b e a with
  | error q => rw [ho] at h; cases h
  | ok q =>
    rw [ho] at h
    obtain ⟨h1, rfl⟩ := mOct_in ho
    simp only [Except.bind] at h
    split at h
    · rename_i hv; cases h
      refine ⟨h1, rfl, ?_, ?_⟩ <;> simp only <;> omega
    · cases h
theorem mFlag_in {b : Nat → Nat} {e a : Nat} {r : Nat × Nat} (h : mFlag b e a = .ok r) : a < e ∧ r = (b a, a + 1) ∧ b a ≤ 1 := by
  unfold mFlag at h
  cases ho : mOct b e a with
  | error q => rw [ho] at h; cases h
  | ok q =>
    rw [ho] at h
    obtain ⟨h1, rfl⟩ := mOct_in ho
    simp only [Except.bind] at h
    split at h
    · rename_i hv; cases h; exact ⟨h1, rfl, hv⟩
    · cases h
theorem mBt_in {b : Nat → Nat} {e a : Nat} {r : Nat × Nat} (h : mBt b e a = .ok r) : a < e ∧ r.2 = a + 1 ∧ r.1 ≤ 2 := by
  unfold mBt at h
  cases ho : mOct b e a with
  | error q => rw [ho] at h; cases h
  | ok q =>
    rw [ho] at h
    obtain ⟨h1, rfl⟩ := mOct_in ho
    simp only [Except.bind] at h
    split at h
    · cases h; exact ⟨h1, rfl, Nat.le_refl _⟩
    · split at h
      · rename_i hv; cases h
        refine ⟨h1, rfl, ?_⟩; simp only; omega
      · cases h
theorem mName_in {b : Nat → Nat} {e a : Nat} {short : Bool} {r : (Nat × Nat) × Nat} (h : mName b e short a = .ok r) (ha : a ≤ e) : a < r.1.1 ∧ r.2 = r.1.1 + r.1.2 ∧ r.2 ≤ e ∧ 1 ≤ r.1.2 ∧ r.1.2 ≤ 100 ∧ mSigns b r.1.1 r.1.2 := by
  unfold mName at h
  cases ho : mU b e a with
  | error q => rw [ho] at h; cases h
  | ok q =>
    rw [ho] at h
    have h1 := mU_in ho ha
    simp only [Except.bind] at h
    split at h
    · cases h
    · rename_i hc
      split at h
      · rename_i hg
        split at h
        · cases h
        · cases h
          exact ⟨h1.1, rfl, by simp only; omega, by simp only; omega, by simp only; omega, (mGood_iff _ _ _).mp hg⟩
      · cases h
theorem mLim_in {b : Nat → Nat} {e a : Nat} {r : (Nat × Option Nat) × Nat} (h : mLim b e a = .ok r) : a < r.2 ∧ r.2 ≤ e := by
  unfold mLim at h
  cases ho : mFlag b e a with
  | error q => rw [ho] at h; cases h
  | ok q =>
    rw [ho] at h
    obtain ⟨h1, rfl, -⟩ := mFlag_in ho
    simp only [Except.bind] at h
    cases hu : mU b e (a + 1) with
    | error q => rw [hu] at h; cases h
    | ok q =>
      rw [hu] at h
      have h2 := mU_in hu h1
      simp only at h
      split at h
      · cases hv : mU b e q.2 with
        | error t => rw [hv] at h; cases h
        | ok t =>
          rw [hv] at h
          have h3 := mU_in hv h2.2
          cases h
          exact ⟨by simp only; omega, h3.2⟩
      · cases h; exact ⟨by simp only; omega, h2.2⟩
theorem mConst_in {b : Nat → Nat} {e a r : Nat} (h : mConst b e a = .ok r) : a < r ∧ r ≤ e := by
  unfold mConst at h
  cases ho : mOct b e a with
  | error q => rw [ho] at h; cases h
  | ok q =>
    rw [ho] at h
    obtain ⟨h1, rfl⟩ := mOct_in ho
    simp only [Except.bind] at h
    have fin : ∀ {x : Nat}, a < x → mNeed b e 11 x = .ok r → a < r ∧ r ≤ e := by
      intro x hx hn
      obtain ⟨g1, g2, -⟩ := mNeed_in hn
      subst g2
      exact ⟨by omega, g1⟩
    split at h
    · cases hs : mSg b e 5 7 120 (a + 1) with
      | error t => rw [hs] at h; cases h
      | ok t =>
        rw [hs] at h
        have g := mSk_in _ _ _ hs h1
        exact fin (by omega) h
    · split at h
      · cases hs : mSg b e 10 0 127 (a + 1) with
        | error t => rw [hs] at h; cases h
        | ok t =>
          rw [hs] at h
          have g := mSk_in _ _ _ hs h1
          exact fin (by omega) h
      · split at h
        · cases hs : mU b e (a + 1) with
          | error t => rw [hs] at h; cases h
          | ok t =>
            rw [hs] at h
            have g := mU_in hs h1
            exact fin (by omega) h
        · cases h

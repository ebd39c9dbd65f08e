/-! what a module means: the mathematics, and the steps of the reference's loops -/
def mAll (f : Nat → mE Unit) : Nat → Nat → mE Unit
  | 0, _ => .ok ()
  | n + 1, i => (f i).bind fun _ => mAll f n (i + 1)
def mIm (A : mA) (i : Nat) : mE Unit := if ((aI A).getD i imp0).2.1 = 0 then mMust (((aI A).getD i imp0).2.2.2.1 < (aS A).length) ((aI A).getD i imp0).2.2.1
  else if ((aI A).getD i imp0).2.1 = 1 ∨ ((aI A).getD i imp0).2.1 = 2 then mMust (mRight (decide (((aI A).getD i imp0).2.1 = 1)) ((aI A).getD i imp0).2.2.2.2.2.1 ((aI A).getD i imp0).2.2.2.2.2.2 = true) ((aI A).getD i imp0).2.2.1
  else .ok ()
def mFu (A : mA) (i : Nat) : mE Unit := mMust (((aF A).getD i (0, 0)).2 < (aS A).length) ((aF A).getD i (0, 0)).1
def mGlob (b : Nat → Nat) (E : Nat) (A : mA) (i : Nat) : mE Unit := mMust (mCst A b E ((aG A).getD i (0, 0, 0)).2.2 ((aG A).getD i (0, 0, 0)).1 = true) ((aG A).getD i (0, 0, 0)).2.2
def staSig (A : mA) (f : Nat) : mSigT := (aS A).getD (funSig A f) ([], 0)
def mSta (A : mA) : mE Unit := match aB A with
  | none => .ok ()
  | some x => (mMust (x.2 < nFun A) x.1).bind fun _ => mMust ((staSig A x.2).1.length = 0 ∧ (staSig A x.2).2 = 2) x.1
def mFns (A : mA) : List (Nat × Nat) → mE Unit
  | [] => .ok ()
  | x :: r => (mMust (x.2 < nFun A) x.1).bind fun _ => mFns A r
def el0 : mElT := (0, 0, 0, 0, [])
def dt0 : mDtT := (0, 0, 0)
def mEl0 (b : Nat → Nat) (E : Nat) (A : mA) (x : mElT) : mE Unit := if x.2.1 = 0 then (mMust (hasK A 1 = true) x.1).bind fun _ => mMust (mCst A b E x.2.2.1 0 = true) x.2.2.1 else .ok ()
def mElem (b : Nat → Nat) (E : Nat) (A : mA) (i : Nat) : mE Unit := (mEl0 b E A ((aE A).getD i el0)).bind fun _ => mFns A ((aE A).getD i el0).2.2.2.2
def mDat (b : Nat → Nat) (E : Nat) (A : mA) (i : Nat) : mE Unit := if ((aZ A).getD i dt0).2.1 = 0 then (mMust (hasK A 2 = true) ((aZ A).getD i dt0).1).bind fun _ => mMust (mCst A b E ((aZ A).getD i dt0).2.2 0 = true) ((aZ A).getD i dt0).2.2 else .ok ()
def mBod (A : mA) (i : Nat) : mE Unit := tBody A ((aS A).getD ((aF A).getD i (0, 0)).2 ([], 0)) ((aD A).getD i bd0)
def mZ9 (A : mA) (n i : Nat) : mE Unit := mAll (mBod A) n i
def mZ8 (b : Nat → Nat) (E : Nat) (A : mA) (n i : Nat) : mE Unit := (mAll (mDat b E A) n i).bind fun _ => mZ9 A (aF A).length 0
def mZ7 (b : Nat → Nat) (E : Nat) (A : mA) (n i : Nat) : mE Unit := (mAll (mElem b E A) n i).bind fun _ => mZ8 b E A (aZ A).length 0
def mZ6 (b : Nat → Nat) (E : Nat) (A : mA) : mE Unit := (mSta A).bind fun _ => mZ7 b E A (aE A).length 0
def mZ5 (b : Nat → Nat) (E : Nat) (A : mA) (n i : Nat) : mE Unit := (mAll (mExpo b A) n i).bind fun _ => mZ6 b E A
def mZ4 (b : Nat → Nat) (E : Nat) (A : mA) (n i : Nat) : mE Unit := (mAll (mGlob b E A) n i).bind fun _ => mZ5 b E A (aX A).length 0
def mZ3 (b : Nat → Nat) (E : Nat) (A : mA) : mE Unit := (mOne A 1).bind fun _ => (mOne A 2).bind fun _ => mZ4 b E A (aG A).length 0
def mZ2 (b : Nat → Nat) (E : Nat) (A : mA) (n i : Nat) : mE Unit := (mAll (mFu A) n i).bind fun _ => mZ3 b E A
def mZ1 (b : Nat → Nat) (E : Nat) (A : mA) (n i : Nat) : mE Unit := (mAll (mIm A) n i).bind fun _ => mZ2 b E A (aF A).length 0
/-- what the module means: the first fault of kind 2 -/
def mMeans (b : Nat → Nat) (E : Nat) (A : mA) : mE Unit := mZ1 b E A (aI A).length 0
theorem mMust_ok {c : Prop} [Decidable c] {p : Nat} {u : Unit} (h : mMust c p = .ok u) : c := by
  unfold mMust at h
  by_cases q : c
  · exact q
  · rw [if_neg q] at h; cases h
theorem mSigs_of {A : mA} (h1 : ∀ i, i < (aI A).length → mIm A i = .ok ()) (h2 : ∀ i, i < (aF A).length → mFu A i = .ok ()) : ∀ f, f < nFun A → funSig A f < (aS A).length := by
  intro f hf
  unfold funSig
  by_cases q : f < cntI A 0
  · rw [if_pos q]
    have hg := impAt_get q
    have h := h1 _ hg.2.2
    have e : (aI A).getD ((idxK 0 0 (aI A)).getD f 0) imp0 = impAt A 0 f := rfl
    unfold mIm at h
    rw [e, if_pos hg.2.1] at h
    exact mMust_ok h
  · rw [if_neg q]
    unfold nFun at hf
    exact mMust_ok (h2 (f - cntI A 0) (by omega))
theorem mGl_c {b : Nat → Nat} {e a : Nat} {x : mGlT} {r : Nat} (h : mGl b e a = .ok (x, r)) : ∃ r', mConst b e x.2.2 = .ok r' := by
  unfold mGl at h
  cases ht : mType b e a with
  | error q => rw [ht] at h; cases h
  | ok t =>
    rw [ht] at h
    have h : ((mFlag b e t.2).bind fun f => (mConst b e f.2).bind fun c => (.ok ((t.1, f.1, f.2), c) : mE (mGlT × Nat))) = .ok (x, r) := h
    cases hf : mFlag b e t.2 with
    | error q => rw [hf] at h; cases h
    | ok f =>
      rw [hf] at h
      have h : ((mConst b e f.2).bind fun c => (.ok ((t.1, f.1, f.2), c) : mE (mGlT × Nat))) = .ok (x, r) := h
      cases hcc : mConst b e f.2 with
      | error q => rw [hcc] at h; cases h
      | ok y => rw [hcc] at h; cases h; exact ⟨_, hcc⟩
theorem mEl_c {b : Nat → Nat} {e a : Nat} {x : mElT} {r : Nat} (h : mEl b e a = .ok (x, r)) : (x.2.1 = 0 → ∃ r', mConst b e x.2.2.1 = .ok r') ∧ (∃ z, mChain b e x.2.2.2.1 x.2.2.2.2 z) ∧ (a ≤ e → x.2.2.2.1 ≤ e) := by
  unfold mEl at h
  cases hk : mOct b e a with
  | error q => rw [hk] at h; cases h
  | ok k =>
    rw [hk] at h
    have h : (if ¬ (k.1 = 0 ∨ k.1 = 1 ∨ k.1 = 3) then .error (1, a)
  else (if k.1 = 0 then mConst b e k.2 else mNeed b e 0 k.2).bind fun p => (mU b e p).bind fun n =>
    if 256 < n.1 then .error (4, p) else (mRow (mFn b e) none n.1 [] n.2).bind fun l => (.ok ((a, k.1, k.2, n.2, l.1), l.2) : mE (mElT × Nat))) = .ok (x, r) := h
    by_cases q : ¬ (k.1 = 0 ∨ k.1 = 1 ∨ k.1 = 3)
    · rw [if_pos q] at h; cases h
    rw [if_neg q] at h
    cases hp : (if k.1 = 0 then mConst b e k.2 else mNeed b e 0 k.2 : mE Nat) with
    | error q => rw [hp] at h; cases h
    | ok p =>
      rw [hp] at h
      have h : ((mU b e p).bind fun n =>
    if 256 < n.1 then .error (4, p) else (mRow (mFn b e) none n.1 [] n.2).bind fun l => (.ok ((a, k.1, k.2, n.2, l.1), l.2) : mE (mElT × Nat))) = .ok (x, r) := h
      cases hn : mU b e p with
      | error q => rw [hn] at h; cases h
      | ok n =>
        rw [hn] at h
        have h : (if 256 < n.1 then .error (4, p) else (mRow (mFn b e) none n.1 [] n.2).bind fun l => (.ok ((a, k.1, k.2, n.2, l.1), l.2) : mE (mElT × Nat))) = .ok (x, r) := h
        by_cases q2 : 256 < n.1
        · rw [if_pos q2] at h; cases h
        rw [if_neg q2] at h
        cases hl : mRow (mFn b e) none n.1 [] n.2 with
        | error q => rw [hl] at h; cases h
        | ok l =>
          rw [hl] at h
          cases h
          obtain ⟨t, e1, _, e3⟩ := mRow_chain _ _ _ _ hl
          have e1 : l.1 = t := e1
          refine ⟨fun q3 => ⟨p, ?_⟩, ⟨l.2, by rw [← e1] at e3; exact e3⟩, fun ha => ?_⟩
          · have q3 : k.1 = 0 := q3
            rw [if_pos q3] at hp; exact hp
          · have hk1 := mOct_in hk
            have hpe : p ≤ e := by
              by_cases q3 : k.1 = 0
              · rw [if_pos q3] at hp; exact (mConst_in hp).2
              · rw [if_neg q3] at hp; have := mNeed_in hp; omega
            exact (mU_in hn hpe).2
theorem mDt_c {b : Nat → Nat} {e a : Nat} {x : mDtT} {r : Nat} (h : mDt b e a = .ok (x, r)) : x.2.1 = 0 → ∃ r', mConst b e x.2.2 = .ok r' := by
  unfold mDt at h
  cases hk : mOct b e a with
  | error q => rw [hk] at h; cases h
  | ok k =>
    rw [hk] at h
    have h : (if 1 < k.1 then .error (1, a)
  else (if k.1 = 0 then mConst b e k.2 else .ok k.2 : mE Nat).bind fun p => (mU b e p).bind fun n =>
    if e - n.2 < n.1 then .error (1, p) else (.ok ((a, k.1, k.2), n.2 + n.1) : mE (mDtT × Nat))) = .ok (x, r) := h
    by_cases q : 1 < k.1
    · rw [if_pos q] at h; cases h
    rw [if_neg q] at h
    cases hp : (if k.1 = 0 then mConst b e k.2 else .ok k.2 : mE Nat) with
    | error q => rw [hp] at h; cases h
    | ok p =>
      rw [hp] at h
      have h : ((mU b e p).bind fun n =>
    if e - n.2 < n.1 then .error (1, p) else (.ok ((a, k.1, k.2), n.2 + n.1) : mE (mDtT × Nat))) = .ok (x, r) := h
      cases hn : mU b e p with
      | error q => rw [hn] at h; cases h
      | ok n =>
        rw [hn] at h
        have h : (if e - n.2 < n.1 then .error (1, p) else (.ok ((a, k.1, k.2), n.2 + n.1) : mE (mDtT × Nat))) = .ok (x, r) := h
        by_cases q2 : e - n.2 < n.1
        · rw [if_pos q2] at h; cases h
        rw [if_neg q2] at h
        cases h
        intro q3
        have q3 : k.1 = 0 := q3
        rw [if_pos q3] at hp
        exact ⟨p, hp⟩
/-- between two items -/
def nC (τ σ : zS) (B : Nat) (b : Nat → Nat) (E : Nat) (A : mA) (s : zS) : Prop := (∃ a, mSt τ s B b E a) ∧ mRep s B A ∧ mF 99 σ s
theorem nC.at {τ σ s : zS} {B : Nat} {b : Nat → Nat} {E a : Nat} {A : mA} (h : nC τ σ B b E A s) (ha : a ≤ E) : nC τ σ B b E A (mAt s (B + a)) :=
  ⟨⟨a, h.1.choose_spec.at ha⟩, mRep_mF h.2.1 (mF.rf.at _), h.2.2.at _⟩
section Means
variable {τ σ s : zS} {B : Nat} {b : Nat → Nat} {E i : Nat} {A : mA} {K10 K116 K182 K225 K315 K435 K497 : Int32 → zS → Prop} {K381 : Int32 → Int32 → zS → Prop} {Q : Option Value → zS → Prop} {QX : zS → Prop}
theorem sp_me10 (hC : nC τ σ B b E A s) (hi : i < (aI A).length) (h : mW (mIm A i) (fun _ => K10 (nI (i + 1)) s) (mEr τ B QX)) : PX10_means_10 K10 K116 K182 K225 K315 K381 K435 K497 Q QX (nI i) s := by
  obtain ⟨a, hs⟩ := hC.1
  have hr := hC.2.1
  have hI := hr.2.1
  have h32 := hI.2.1
  have hx := hI.2.2.1 i hi _ (getD_of (d := imp0) hi)
  have hS := hr.1
  have hv : vp_in (nI i) 32 := vp_in_nI (by omega) (by decide)
  unfold mIm at h
  generalize (aI A).getD i imp0 = x at *
  obtain ⟨x1, x2, x3, x4, x5, x6, x7, x8, x9⟩ := hx
  have c0 : nI x.2.1 = (0 : Int32) ↔ x.2.1 = 0 := nI_eq (b := 0) (by omega) (by decide)
  have c1 : nI x.2.1 = (1 : Int32) ↔ x.2.1 = 1 := nI_eq (b := 1) (by omega) (by decide)
  have c2 : nI x.2.1 = (2 : Int32) ↔ x.2.1 = 2 := nI_eq (b := 2) (by omega) (by decide)
  have ci : nI (aI A).length ≤ nI i ↔ (aI A).length ≤ i := nI_leI (by omega) (by omega)
  have last : mW (if x.2.1 = 1 ∨ x.2.1 = 2 then mMust (mRight (decide (x.2.1 = 1)) x.2.2.2.2.2.1 x.2.2.2.2.2.2 = true) x.2.2.1 else .ok ()) (fun _ => K10 (nI (i + 1)) s) (mEr τ B QX) → PX10_means_57 K10 K116 K182 K225 K315 K381 K435 K497 Q QX (nI i) s := by
    intro h
    have lim : (x.2.1 = 1 ∨ x.2.1 = 2) → PX10_means_77 K10 K116 K182 K225 K315 K381 K435 K497 Q QX (nI i) s := by
      intro q
      rw [if_pos q] at h
      obtain ⟨y1, y2, y3, y4⟩ := x9 q
      unfold PX10_means_77
      rw [nI_clamp (by omega), x5, y3, y4]
      refine ⟨hv, hv, hv, sp_areRight (by omega) y1 y2 ⟨hv, ?_⟩⟩
      rw [x6]
      refine sp_must (p := x.2.2.1) (c := mRight (decide (x.2.1 = 1)) x.2.2.2.2.2.1 x.2.2.2.2.2.2 = true) hs.1 (by simp) (fun _ => rfl) ?_
      rw [nI_1]
      exact h
    unfold PX10_means_57
    rw [nI_clamp (by omega), x5, c1, c2]
    refine ⟨hv, fun q => lim (Or.inl q), fun q => ⟨hv, fun q2 => lim (Or.inr q2), fun q2 => ?_⟩⟩
    rw [if_neg (by omega)] at h
    rw [nI_1]
    exact h
  unfold PX10_means_10
  rw [hI.1, ci, nI_clamp (by omega), x5, c0]
  refine ⟨fun q => absurd q (by omega), fun _ => ⟨hv, fun q => ?_, fun q => ?_⟩⟩
  · rw [if_pos q] at h
    obtain ⟨y1, y2⟩ := x7 q
    have cs : (nI (aS A).length).toInt64 ≤ lN x.2.2.2.1 ↔ (aS A).length ≤ x.2.2.2.1 := by rw [nI_l (by have := hS.2.1; omega)]; exact lN_leB (by have := hS.2.1; omega) (by omega)
    rw [hS.1, y2, cs, x6]
    refine ⟨hv, fun q2 => ⟨hv, ?_⟩, fun q2 => ⟨hv, ?_⟩⟩
    · rw [mMust_f (by omega)] at h
      exact sp_mustF hs.1 rfl h
    · rw [mMust_t (by omega)] at h
      exact sp_mustT (last (by rw [if_neg (by omega)]; exact h))
  · rw [if_neg q] at h
    exact last h
end Means

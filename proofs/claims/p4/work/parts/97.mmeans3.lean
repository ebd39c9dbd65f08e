/-! the reference on what a module means -/
theorem mU_a {b : Nat → Nat} {e a : Nat} {r : Nat × Nat} (h : mU b e a = .ok r) : a < e := by
  by_cases q : a < e
  · exact q
  · unfold mU mUk at h
    have : mOct b e a = .error (1, e) := by unfold mOct; rw [if_neg q]
    rw [this] at h
    cases h
theorem mBd_a {b : Nat → Nat} {e a : Nat} {hc : Bool} {r : mBdT × Nat} (h : mBd b e hc a = .ok r) : a ≤ e := by
  unfold mBd at h
  cases hz : mU b e a with
  | error q => rw [hz] at h; cases h
  | ok z => exact Nat.le_of_lt (mU_a hz)
theorem mEl_a {b : Nat → Nat} {e a : Nat} {r : mElT × Nat} (h : mEl b e a = .ok r) : a ≤ e := by
  unfold mEl at h
  cases hz : mOct b e a with
  | error q => rw [hz] at h; cases h
  | ok z => exact Nat.le_of_lt (mOct_in hz).1
theorem mAll_S {f : Nat → mE Unit} {n i : Nat} {g : Unit → mE Unit} {P : Unit → Prop} {E : Nat → Nat → Prop} (h : mW ((mAll f (n + 1) i).bind g) P E) : mW (f i) (fun _ => mW ((mAll f n (i + 1)).bind g) P E) E := by
  have h : mW (((f i).bind fun _ => mAll f n (i + 1)).bind g) P E := h
  rw [mW_bind, mW_bind] at h
  exact mW_mono h (fun _ _ h => by rw [mW_bind]; exact h) (fun _ _ _ h => h)
theorem getD_mem {α : Type} {l : List α} {i : Nat} {d : α} (h : i < l.length) : l.getD i d ∈ l := by
  rw [List.getD_eq_getElem?_getD, List.getElem?_eq_getElem h]; exact List.getElem_mem _
def nG (A : mA) : Prop := (∀ f, f < nFun A → funSig A f < (aS A).length) ∧ ∀ i, i < (aF A).length → ((aF A).getD i (0, 0)).2 < (aS A).length
def nK (τ σ : zS) (B : Nat) (b : Nat → Nat) (K QX : zS → Prop) (x : mE Unit) : Prop := mW x (fun _ => ∀ s' e', mSu τ s' B b e' → mF 99 σ s' → K s') (mEr τ B QX)
section Means
variable (τ σ : zS) (B : Nat) (b : Nat → Nat) (E : Nat) (A : mA) (K QX : zS → Prop)
def J10 (m : Nat) (x2 : Int32) (s : zS) : Prop := ∃ i r, m = 8 * 2 ^ 20 + r ∧ i + r = (aI A).length ∧ x2 = nI i ∧ nC τ σ B b E A s ∧ (∀ j, j < i → mIm A j = .ok ()) ∧ nK τ σ B b K QX (mZ1 b E A r i)
def J116 (m : Nat) (x2 : Int32) (s : zS) : Prop := ∃ i r, m = 7 * 2 ^ 20 + r ∧ i + r = (aF A).length ∧ x2 = nI i ∧ nC τ σ B b E A s ∧ (∀ j, j < (aI A).length → mIm A j = .ok ()) ∧ (∀ j, j < i → mFu A j = .ok ()) ∧ nK τ σ B b K QX (mZ2 b E A r i)
def J182 (m : Nat) (x2 : Int32) (s : zS) : Prop := ∃ i r, m = 6 * 2 ^ 20 + r ∧ i + r = (aG A).length ∧ x2 = nI i ∧ nC τ σ B b E A s ∧ nG A ∧ nK τ σ B b K QX (mZ4 b E A r i)
def J225 (m : Nat) (x2 : Int32) (s : zS) : Prop := ∃ i r, m = 5 * 2 ^ 20 + r ∧ i + r = (aX A).length ∧ x2 = nI i ∧ nC τ σ B b E A s ∧ nG A ∧ nK τ σ B b K QX (mZ5 b E A r i)
def J315 (m : Nat) (x2 : Int32) (s : zS) : Prop := ∃ i r, m = 4 * 2 ^ 20 + r * 1000 ∧ i + r = (aE A).length ∧ x2 = nI i ∧ nC τ σ B b E A s ∧ nG A ∧ nK τ σ B b K QX (mZ7 b E A r i)
def J381 (m : Nat) (x2 x3 : Int32) (s : zS) : Prop := ∃ i r j p l z, m = 4 * 2 ^ 20 + r * 1000 + 1 + List.length l ∧ i + r + 1 = (aE A).length ∧ x2 = nI i ∧ x3 = nI j ∧ nC τ σ B b E A s ∧ nG A ∧ mSt τ s B b E p ∧ j + l.length = ((aE A).getD i el0).2.2.2.2.length ∧ mChain b E p l z ∧ nK τ σ B b K QX ((mFns A l).bind fun _ => mZ7 b E A r (i + 1))
def J435 (m : Nat) (x2 : Int32) (s : zS) : Prop := ∃ i r, m = 2 * 2 ^ 20 + r ∧ i + r = (aZ A).length ∧ x2 = nI i ∧ nC τ σ B b E A s ∧ nG A ∧ nK τ σ B b K QX (mZ8 b E A r i)
def J497 (m : Nat) (x2 : Int32) (s : zS) : Prop := ∃ i r e, m = r ∧ i + r = (aF A).length ∧ x2 = nI i ∧ mSu τ s B b e ∧ mRep s B A ∧ mF 99 σ s ∧ nG A ∧ nK τ σ B b K QX (mZ9 A r i)
end Means
theorem sp_means {τ σ : zS} {B : Nat} {b : Nat → Nat} {E a : Nat} {A : mA} {K : zS → Prop} {QX : zS → Prop} (hs : mSt τ σ B b E a) (hr : mRep σ B A) (h11 : σ.1 1 1 = nI (B + E)) (hM : mFrom b E A) (hD : (aD A).length = (aF A).length)
    (h : nK τ σ B b K QX (mMeans b E A)) : zCT zZM zmX10_means [.ref 0, .ref 1] σ (zQv K) QX := by
  have hI32 := hr.2.1.2.1
  have hF64 := hr.2.2.1.2.1
  have hG32 := hr.2.2.2.2.2.1.2.1
  have hX64 := hr.2.2.2.2.2.2.1.2.1
  have hE32 := hr.2.2.2.2.2.2.2.2.1.2.1
  have hZ32 := hr.2.2.2.2.2.2.2.2.2.2.2.2.1
  refine rX10_means (J10 τ σ B b E A K QX) (J116 τ σ B b E A K QX) (J182 τ σ B b E A K QX) (J225 τ σ B b E A K QX) (J315 τ σ B b E A K QX) (J381 τ σ B b E A K QX) (J435 τ σ B b E A K QX) (J497 τ σ B b A K QX) ?_ ?_ ?_ ?_ ?_ ?_ ?_ ?_ ?_
  · rintro m x2 s ⟨i, r, rfl, hi, rfl, hC, hok, hw⟩
    cases r with
    | zero =>
      have ci : nI (aI A).length ≤ nI i ↔ (aI A).length ≤ i := nI_leI (by omega) (by omega)
      unfold PX10_means_10
      rw [hC.2.1.2.1.1, ci]
      refine ⟨fun _ => ?_, fun q => absurd (by omega) q⟩
      exact ⟨7 * 2 ^ 20 + (aF A).length, by show _ < _; omega, 0, (aF A).length, rfl, Nat.zero_add _, rfl, hC, fun j hj => hok j (by omega), fun j hj => absurd hj (Nat.not_lt_zero _), hw⟩
    | succ r =>
      refine sp_me10 hC (by omega) (mW_mono (mAll_S hw) (fun u hu hw => ?_) (fun k p _ h => h))
      exact ⟨8 * 2 ^ 20 + r, by show _ < _; omega, i + 1, r, rfl, by omega, rfl, hC, fun j hj => by
        by_cases q : j = i
        · rw [q]; exact hu
        · exact hok j (by omega), hw⟩
  · rintro m x2 s ⟨i, r, rfl, hi, rfl, hC, hIm, hok, hw⟩
    cases r with
    | zero =>
      have ci : nI (aF A).length ≤ nI i ↔ (aF A).length ≤ i := nI_leI (by omega) (by omega)
      obtain ⟨a', hs'⟩ := hC.1
      have hok' : ∀ j, j < (aF A).length → mFu A j = .ok () := fun j hj => hok j (by omega)
      have hg : nG A := ⟨mSigs_of hIm hok', fun j hj => mMust_ok (hok' j hj)⟩
      unfold PX10_means_116
      have r12 : s.1 1 12 = nI (aT A).length := hC.2.1.2.2.2.1.1
      have r13 : s.1 1 13 = nI (aM A).length := hC.2.1.2.2.2.2.1.1
      rw [hC.2.1.2.2.1.1, ci, r12]
      refine ⟨fun _ => ?_, fun q => absurd (by omega) q⟩
      have hw : mW ((mOne A 1).bind fun _ => (mOne A 2).bind fun _ => mZ4 b E A (aG A).length 0) (fun _ => ∀ s' e', mSu τ s' B b e' → mF 99 σ s' → K s') (mEr τ B QX) := hw
      rw [mW_bind] at hw
      refine sp_one1 hs' hC.2.1 (mW_mono hw (fun _ _ hw => ?_) (fun k p _ h => h))
      rw [mW_bind] at hw
      rw [r13]
      refine sp_one2 hs' hC.2.1 (mW_mono hw (fun _ _ hw => ?_) (fun k p _ h => h))
      exact ⟨6 * 2 ^ 20 + (aG A).length, by show _ < _; omega, 0, (aG A).length, rfl, Nat.zero_add _, rfl, hC, hg, hw⟩
    | succ r =>
      refine sp_me116 hC (by omega) (mW_mono (mAll_S hw) (fun u hu hw => ?_) (fun k p _ h => h))
      exact ⟨7 * 2 ^ 20 + r, by show _ < _; omega, i + 1, r, rfl, by omega, rfl, hC, hIm, fun j hj => by
        by_cases q : j = i
        · rw [q]; exact hu
        · exact hok j (by omega), hw⟩
  · rintro m x2 s ⟨i, r, rfl, hi, rfl, hC, hg, hw⟩
    cases r with
    | zero =>
      have ci : nI (aG A).length ≤ nI i ↔ (aG A).length ≤ i := nI_leI (by omega) (by omega)
      unfold PX10_means_182
      rw [hC.2.1.2.2.2.2.2.1.1, ci]
      refine ⟨fun _ => ?_, fun q => absurd (by omega) q⟩
      exact ⟨5 * 2 ^ 20 + (aX A).length, by show _ < _; omega, 0, (aX A).length, rfl, Nat.zero_add _, rfl, hC, hg, hw⟩
    | succ r =>
      refine sp_me182 hC (by omega) (hM.1 _ (getD_mem (by omega))) (mW_mono (mAll_S hw) (fun u hu hw a' ha => ?_) (fun k p _ h => h))
      exact ⟨6 * 2 ^ 20 + r, by show _ < _; omega, i + 1, r, rfl, by omega, rfl, hC.at ha, hg, hw⟩
  · rintro m x2 s ⟨i, r, rfl, hi, rfl, hC, hg, hw⟩
    cases r with
    | zero =>
      have hi : i = (aX A).length := hi
      subst hi
      have hw : mW ((mSta A).bind fun _ => mZ7 b E A (aE A).length 0) (fun _ => ∀ s' e', mSu τ s' B b e' → mF 99 σ s' → K s') (mEr τ B QX) := hw
      rw [mW_bind] at hw
      refine sp_me225e hC hg.1 (mW_mono hw (fun u hu hw => ?_) (fun k p _ h => h))
      exact ⟨4 * 2 ^ 20 + (aE A).length * 1000, by show _ < _; omega, 0, (aE A).length, rfl, Nat.zero_add _, rfl, hC, hg, hw⟩
    | succ r =>
      refine sp_me225 hC (by omega) (mW_mono (mAll_S hw) (fun u hu hw => ?_) (fun k p _ h => h))
      exact ⟨5 * 2 ^ 20 + r, by show _ < _; omega, i + 1, r, rfl, by omega, rfl, hC, hg, hw⟩
  · rintro m x2 s ⟨i, r, rfl, hi, rfl, hC, hg, hw⟩
    cases r with
    | zero =>
      have ci : nI (aE A).length ≤ nI i ↔ (aE A).length ≤ i := nI_leI (by omega) (by omega)
      unfold PX10_means_315
      rw [hC.2.1.2.2.2.2.2.2.2.2.1.1, ci]
      refine ⟨fun _ => ?_, fun q => absurd (by omega) q⟩
      exact ⟨2 * 2 ^ 20 + (aZ A).length, by show _ < _; omega, 0, (aZ A).length, rfl, Nat.zero_add _, rfl, hC, hg, hw⟩
    | succ r =>
      obtain ⟨e, a', r', he, hel⟩ := hM.2.1 _ (getD_mem (d := el0) (show i < (aE A).length by omega))
      have hae := mEl_a hel
      obtain ⟨_, ⟨z, hch⟩, _⟩ := mEl_c hel
      have hw1 := mAll_S hw
      unfold mElem at hw1
      rw [mW_bind] at hw1
      have h256 := (hC.2.1.2.2.2.2.2.2.2.2.1.2.2 i _ (getD_of (d := el0) (show i < (aE A).length by omega))).2.2.2.2.1
      refine sp_me315 hC (by omega) ⟨e, a', r', he, hae, hel⟩ (mW_mono hw1 (fun u hu hw s' hC' hs' => ?_) (fun k p _ h => h))
      refine ⟨4 * 2 ^ 20 + r * 1000 + 1 + ((aE A).getD i el0).2.2.2.2.length, by show _ < _; omega, i, r, 0, _, ((aE A).getD i el0).2.2.2.2, z, rfl, by omega, rfl, rfl, hC', hg, hs', Nat.zero_add _, mChain_mono he _ _ _ hch, ?_⟩
      unfold nK
      rw [mW_bind]
      exact hw
  · rintro m x2 x3 s ⟨i, r, j, p, l, z, rfl, hi, rfl, rfl, hC, hg, hs', hj, hch, hw⟩
    refine sp_me381 hC hs' (by omega) hj hch (fun hl => ?_) (fun x l' hl => ?_)
    · subst hl
      exact ⟨4 * 2 ^ 20 + r * 1000, by show _ < _; simp only [List.length_nil]; omega, i + 1, r, rfl, by omega, rfl, hC, hg, hw⟩
    · subst hl
      have hw : mW (((mMust (x.2 < nFun A) x.1).bind fun _ => mFns A l').bind fun _ => mZ7 b E A r (i + 1)) (fun _ => ∀ s' e', mSu τ s' B b e' → mF 99 σ s' → K s') (mEr τ B QX) := hw
      rw [mW_bind, mW_bind] at hw
      refine mW_mono hw (fun u hu hw s1 p' hC1 hs1 hch1 => ?_) (fun k p _ h => h)
      refine ⟨4 * 2 ^ 20 + r * 1000 + 1 + l'.length, by show _ < _; simp only [List.length_cons]; omega, i, r, j + 1, p', l', z, rfl, hi, rfl, rfl, hC1, hg, hs1, by simp only [List.length_cons] at hj; omega, hch1, ?_⟩
      unfold nK
      rw [mW_bind]
      exact hw
  · rintro m x2 s ⟨i, r, rfl, hi, rfl, hC, hg, hw⟩
    cases r with
    | zero =>
      have ci : nI (aZ A).length ≤ nI i ↔ (aZ A).length ≤ i := nI_leI (by omega) (by omega)
      obtain ⟨a', hs'⟩ := hC.1
      unfold PX10_means_435
      rw [hC.2.1.2.2.2.2.2.2.2.2.2.2.2.1, ci]
      refine ⟨fun _ => ?_, fun q => absurd (by omega) q⟩
      exact ⟨(aF A).length, by show _ < _; omega, 0, (aF A).length, E, rfl, Nat.zero_add _, rfl, hs'.u, hC.2.1, hC.2.2, hg, hw⟩
    | succ r =>
      refine sp_me435 hC (by omega) (hM.2.2.1 _ (getD_mem (by omega))) (mW_mono (mAll_S hw) (fun u hu hw s' hC' => ?_) (fun k p _ h => h))
      exact ⟨2 * 2 ^ 20 + r, by show _ < _; omega, i + 1, r, rfl, by omega, rfl, hC', hg, hw⟩
  · rintro m x2 s ⟨i, r, e, rfl, hi, rfl, hs', hr', hf', hg, hw⟩
    have ci : nI (aF A).length ≤ nI i ↔ (aF A).length ≤ i := nI_leI (by omega) (by omega)
    unfold PX10_means_497
    rw [hr'.2.2.1.1, ci, nI_1]
    refine ⟨fun q => ?_, fun q => ?_⟩
    · have : m = 0 := by omega
      subst this
      have hw : ∀ s' e', mSu τ s' B b e' → mF 99 σ s' → K s' := hw
      exact hw s e hs' hf'
    · obtain ⟨m', rfl⟩ : ∃ y, m = y + 1 := ⟨m - 1, by omega⟩
      obtain ⟨e2, a2, r2, he2, hb2⟩ := hM.2.2.2 _ (getD_mem (d := bd0) (show i < (aD A).length by omega))
      have hw : mW ((mBod A i).bind fun _ => mAll (mBod A) m' (i + 1)) (fun _ => ∀ s' e', mSu τ s' B b e' → mF 99 σ s' → K s') (mEr τ B QX) := hw
      rw [mW_bind] at hw
      refine sp_checkBody (E := e2) (z := 0) hs' hr' hg.1 (by omega) (by omega) ⟨a2, r2, mBd_a hb2, by have := hs.2.2.2.2.2.1; omega, hb2⟩ (hg.2 i (by omega)) (mW_mono hw (fun u hu hw s1 e1 hs1 hf1 => ?_) (fun k p _ h => h))
      exact ⟨m', Nat.lt_succ_self _, i + 1, m', e1, rfl, by omega, rfl, hs1, mRep_mF hr' hf1, hf'.trans hf1, hg, hw⟩
  · unfold PX10_means_0
    intro s1 e1
    rw [h11] at e1
    have h1 : mSt τ s1 B b E a := by rw [e1]; exact hs.end hs.2.2.2.2.1 hs.2.2.2.2.2.1
    have f1 : mF 99 σ s1 := by rw [e1]; exact mF.rf.i _ (Or.inl rfl)
    exact ⟨8 * 2 ^ 20 + (aI A).length, trivial, 0, (aI A).length, rfl, Nat.zero_add _, rfl, ⟨⟨a, h1⟩, mRep_mF hr f1, f1⟩, fun j hj => absurd hj (Nat.not_lt_zero _), h⟩

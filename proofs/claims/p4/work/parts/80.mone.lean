/-! the reference's exports, one table and one memory -/
theorem sp_mustT {σ : zS} {w : Int32} {K : zS → Prop} {QX : zS → Prop} (h : K σ) : zCT zZM zmX10_must [.ref 0, .int 1, .int w] σ (zQv K) QX := by
  refine rX10_must ?_
  exact ⟨fun q => absurd q (by decide), fun _ => h⟩
theorem sp_mustF {τ σ : zS} {B p : Nat} {w : Int32} {K : zS → Prop} {QX : zS → Prop} (hk : mKeep τ σ) (hw : w = nI (B + p)) (h : mEr τ B QX 2 p) : zCT zZM zmX10_must [.ref 0, .int 0, .int w] σ (zQv K) QX := by
  refine rX10_must ?_
  refine ⟨fun _ => ?_, fun q => absurd rfl q⟩
  rw [hw]
  exact sp_throw (k := 2) hk h
theorem mMust_t {c : Prop} [Decidable c] {p : Nat} (h : c) : mMust c p = .ok () := if_pos h
theorem mMust_f {c : Prop} [Decidable c] {p : Nat} (h : ¬ c) : mMust c p = .error (2, p) := if_neg h
def exp0 : mExT := (0, 0, 0, 0, 0, 0)
def expN (A : mA) (x : mExT) : Nat := if x.2.2.2.1 = 0 then nFun A else if x.2.2.2.1 = 3 then nGlo A else if hasK A x.2.2.2.1 = true then 1 else 0
def mUniq (b : Nat → Nat) (X : List mExT) (x : mExT) : Nat → Nat → mE Unit
  | 0, _ => .ok ()
  | n + 1, i => (mMust (mSame b (X.getD i exp0).2.1 (X.getD i exp0).2.2.1 x.2.1 x.2.2.1 = false) x.1).bind fun _ => mUniq b X x n (i + 1)
def mExpo (b : Nat → Nat) (A : mA) (k : Nat) : mE Unit := (mMust (((aX A).getD k exp0).2.2.2.2.2 < expN A ((aX A).getD k exp0)) ((aX A).getD k exp0).2.2.2.2.1).bind fun _ => mUniq b (aX A) ((aX A).getD k exp0) k 0
def xI76 (τ σ : zS) (B : Nat) (b : Nat → Nat) (A : mA) (k : Nat) (K : zS → Prop) (QX : zS → Prop) (f : Nat) (x2 x5 : Int32) (s : zS) : Prop := ∃ i, f + i = k ∧ x2 = nI k ∧ x5 = nI i ∧ s = σ ∧ mW (mUniq b (aX A) ((aX A).getD k exp0) f i) (fun _ => K σ) (mEr τ B QX)
theorem sp_exported {τ σ : zS} {B : Nat} {b : Nat → Nat} {e a k : Nat} {A : mA} {K : zS → Prop} {QX : zS → Prop} (hs : mSt τ σ B b e a) (hr : mRep σ B A) (hk : k < (aX A).length)
    (h : mW (mExpo b A k) (fun _ => K σ) (mEr τ B QX)) : zCT zZM zmX10_exported [.ref 0, .ref 1, .int (nI k)] σ (zQv K) QX := by
  have hX := hr.2.2.2.2.2.2.1
  have h64 := hX.2.1
  have hx := hX.2.2 k _ (getD_of (d := exp0) hk)
  have hF := mRep_F hr
  have h55 := mRep_55 hr (show 0 < 4 by decide)
  have h553 := mRep_55 hr (show 3 < 4 by decide)
  have hG := hr.2.2.2.2.2.1.2.1
  refine rX10_exported (fun f x2 x5 s => xI76 τ σ B b A k K QX f x2 x5 s) ?_ ?_
  · rintro f x2 x5 s ⟨i, hf, rfl, rfl, rfl, hw⟩
    unfold PX10_exported_76
    have c1 : nI k ≤ nI i ↔ k ≤ i := nI_leI (by omega) (by omega)
    rw [c1]
    refine ⟨fun q => ?_, fun q => ?_⟩
    · have : f = 0 := by omega
      subst this
      exact hw
    · obtain ⟨f', rfl⟩ : ∃ z, f = z + 1 := ⟨f - 1, by omega⟩
      have hi := hX.2.2 i _ (getD_of (d := exp0) (show i < (aX A).length by omega))
      have vi : vp_in (nI i) 64 := vp_in_nI (by omega) (by decide)
      have vk : vp_in (nI k) 64 := vp_in_nI (by omega) (by decide)
      have hw : mW ((mMust (mSame b ((aX A).getD i exp0).2.1 ((aX A).getD i exp0).2.2.1 ((aX A).getD k exp0).2.1 ((aX A).getD k exp0).2.2.1 = false) ((aX A).getD k exp0).1).bind fun _ => mUniq b (aX A) ((aX A).getD k exp0) f' (i + 1)) (fun _ => K s) (mEr τ B QX) := hw
      rw [mW_bind] at hw
      rw [nI_clamp (by omega), nI_clamp (by omega), hi.2.2.2.2.2.2.1, hi.2.2.2.2.2.2.2.1, hx.2.2.2.2.2.2.1, hx.2.2.2.2.2.2.2.1]
      refine ⟨vi, vi, vk, vk, sp_isSame hs.2.2.2.2.2.2 hs.2.1 hi.2.1 hx.2.1 ?_⟩
      rw [bI_0, hx.2.2.2.2.2.1]
      refine ⟨fun q2 => ⟨vk, sp_mustT ?_⟩, fun q2 => ⟨vk, sp_mustF (B := B) hs.1 rfl ?_⟩⟩
      · rw [mMust_t q2] at hw
        exact ⟨f', Nat.lt_succ_self f', i + 1, by omega, rfl, nI_1 i, rfl, hw⟩
      · rw [mMust_f q2] at hw
        exact hw
  · unfold PX10_exported_0
    unfold mExpo at h
    rw [mW_bind] at h
    have vk : vp_in (nI k) 64 := vp_in_nI (by omega) (by decide)
    have c0 : nI ((aX A).getD k exp0).2.2.2.1 = (0 : Int32) ↔ ((aX A).getD k exp0).2.2.2.1 = 0 := nI_eq (b := 0) (by have := hx.2.2.1; omega) (by decide)
    have c3 : nI ((aX A).getD k exp0).2.2.2.1 = (3 : Int32) ↔ ((aX A).getD k exp0).2.2.2.1 = 3 := nI_eq (b := 3) (by have := hx.2.2.1; omega) (by decide)
    have fin : ∀ (N : Nat), N < 2 ^ 31 → expN A ((aX A).getD k exp0) = N → ∀ W : Int64, W = lN N →
        (W ≤ σ.2 40 k → vp_in (nI k) 64 ∧ zCT zZM zmX10_must [.ref 0, .int (0 : Int32), .int (σ.1 41 k)] σ (zQv (fun s3 => ∃ n', zlt n' none ∧ xI76 τ σ B b A k K QX n' (nI k) 0 s3)) QX) ∧
        (¬ W ≤ σ.2 40 k → vp_in (nI k) 64 ∧ zCT zZM zmX10_must [.ref 0, .int (1 : Int32), .int (σ.1 41 k)] σ (zQv (fun s3 => ∃ n', zlt n' none ∧ xI76 τ σ B b A k K QX n' (nI k) 0 s3)) QX) := by
      intro N hN hE W hW
      have cw : lN N ≤ lN ((aX A).getD k exp0).2.2.2.2.2 ↔ N ≤ ((aX A).getD k exp0).2.2.2.2.2 := lN_leB (by omega) (by have := hx.2.2.2.2.1; omega)
      rw [hW, hx.2.2.2.2.2.2.2.2.2.2, cw]
      rw [hE] at h
      refine ⟨fun q => ⟨vk, sp_mustF (B := B) hs.1 hx.2.2.2.2.2.2.2.2.2.1 ?_⟩, fun q => ⟨vk, sp_mustT ?_⟩⟩
      · rw [mMust_f (by omega)] at h
        exact h
      · rw [mMust_t (by omega)] at h
        exact ⟨k, trivial, 0, rfl, rfl, rfl, rfl, h⟩
    rw [nI_clamp (by omega), hx.2.2.2.2.2.2.2.2.1, c0, c3]
    refine ⟨vk, fun q => ?_, fun q => ⟨fun q3 => ?_, fun q3 => ?_⟩⟩
    · refine sp_functionsOf hr ⟨vk, ?_⟩
      exact fin (nFun A) (by unfold nFun; omega) (by unfold expN; rw [if_pos q]) _ (nI_l (by unfold nFun; omega))
    · refine sp_globalsOf hr ⟨vk, ?_⟩
      exact fin (nGlo A) (by unfold nGlo; omega) (by unfold expN; rw [if_neg q, if_pos q3]) _ (nI_l (by unfold nGlo; omega))
    · have hk3 := hx.2.2.1
      refine sp_has hr (by omega) ?_
      rw [bI_0]
      refine ⟨fun q4 => ⟨vk, ?_⟩, fun q4 => ⟨vk, ?_⟩⟩
      · exact fin 0 (by decide) (by unfold expN; rw [if_neg q, if_neg q3, if_neg (by rw [q4]; decide)]) _ rfl
      · have q5 : hasK A ((aX A).getD k exp0).2.2.2.1 = true := by simpa using q4
        exact fin 1 (by decide) (by unfold expN; rw [if_neg q, if_neg q3, if_pos q5]) _ rfl
def tab0 : mTabT := (0, 0, 0, none)
def ownK (A : mA) (k : Nat) : List mTabT := if k = 1 then aT A else aM A
def mOne (A : mA) (k : Nat) : mE Unit := (mMust (cntI A k < 2) (impAt A k 1).1).bind fun _ => if (ownK A k).length = 0 then .ok () else
  (mMust (cntI A k = 0) ((ownK A k).getD 0 tab0).1).bind fun _ => (mMust ((ownK A k).length = 1) ((ownK A k).getD 1 tab0).1).bind fun _ =>
  mMust (mRight (decide (k = 1)) ((ownK A k).getD 0 tab0).2.2.1 ((ownK A k).getD 0 tab0).2.2.2 = true) ((ownK A k).getD 0 tab0).2.1
theorem sp_one1 {τ σ : zS} {B : Nat} {b : Nat → Nat} {e a : Nat} {A : mA} {K : zS → Prop} {QX : zS → Prop} (hs : mSt τ σ B b e a) (hr : mRep σ B A)
    (h : mW (mOne A 1) (fun _ => K σ) (mEr τ B QX)) : zCT zZM zmX10_one [.ref 0, .ref 1, .int (1 : Int32), .int (nI (aT A).length)] σ (zQv K) QX := by
  refine rX10_one ?_
  unfold PX10_one_0
  have hT := hr.2.2.2.1
  have hT2 := hT.2.1
  have h55 := mRep_55 hr (show 1 < 4 by decide)
  have own : ownK A 1 = aT A := rfl
  unfold mOne at h
  rw [own, mW_bind] at h
  have ek : (1 : Int32).toNatClampNeg = 1 := by decide
  have ew : (1 : Int32) - 1 = nI 0 := by decide
  have ez : (nI 0).toNatClampNeg = 0 := by decide
  have vk : vp_in (1 : Int32) 4 := show vp_in (nI 1) 4 from vp_in_nI (by decide) (by decide)
  have vz : vp_in (nI 0) 2 := vp_in_nI (by decide) (by decide)
  have g2 : (2 : Int32) ≤ nI (cntI A 1) ↔ 2 ≤ cntI A 1 := nI_leI (a := 2) (by decide) (by omega)
  have c0 : nI (cntI A 1) = (0 : Int32) ↔ cntI A 1 = 0 := nI_eq (b := 0) (by omega) (by decide)
  have d0 : nI (aT A).length = (0 : Int32) ↔ (aT A).length = 0 := nI_eq (b := 0) (by omega) (by decide)
  have d1 : nI (aT A).length = (1 : Int32) ↔ (aT A).length = 1 := nI_eq (b := 1) (by omega) (by decide)
  rw [ek, h55.1, ew, ez, g2, c0, d0, d1]
  refine ⟨vk, fun q => ⟨fun _ => ?_, fun z => absurd q z⟩, fun q => ⟨fun z => absurd z q, fun _ => ?_⟩⟩
  · rw [mMust_f (by omega)] at h
    have hi := mRep_imp hr (show 1 < cntI A 1 by omega)
    have hg := impAt_get (show 1 < cntI A 1 by omega)
    have hI := mRep_I hr
    refine sp_importOf (k := 1) (j := 1) hr (by decide) (by omega) ?_
    rw [nI_clamp (by omega)]
    exact ⟨vp_in_nI (by omega) (by decide), sp_mustF (B := B) hs.1 hi.2.2.2.1 h⟩
  · rw [mMust_t (by omega)] at h
    have h : mW (if (aT A).length = 0 then .ok () else (mMust (cntI A 1 = 0) ((aT A).getD 0 tab0).1).bind fun _ => (mMust ((aT A).length = 1) ((aT A).getD 1 tab0).1).bind fun _ =>
      mMust (mRight (decide (1 = 1)) ((aT A).getD 0 tab0).2.2.1 ((aT A).getD 0 tab0).2.2.2 = true) ((aT A).getD 0 tab0).2.1 : mE Unit) (fun _ => K σ) (mEr τ B QX) := h
    refine sp_mustT ?_
    rw [mW_ite] at h
    refine ⟨fun q0 => ?_, fun q0 => ?_⟩
    · rw [if_pos q0] at h
      exact h
    · rw [if_neg q0, mW_bind] at h
      have x0 := hT.2.2.1 _ (getD_of (d := tab0) (show 0 < (aT A).length by omega))
      refine ⟨fun qc => ⟨vz, sp_mustT ?_⟩, fun qc => ⟨vz, sp_mustF (B := B) hs.1 x0.2.2.2.2 ?_⟩⟩
      · rw [mMust_t qc] at h
        have h : mW ((mMust ((aT A).length = 1) ((aT A).getD 1 tab0).1).bind fun _ =>
          mMust (mRight (decide (1 = 1)) ((aT A).getD 0 tab0).2.2.1 ((aT A).getD 0 tab0).2.2.2 = true) ((aT A).getD 0 tab0).2.1) (fun _ => K σ) (mEr τ B QX) := h
        rw [mW_bind] at h
        refine ⟨fun qo => ⟨vz, sp_mustT ?_⟩, fun qo => ⟨vz, sp_mustF (B := B) hs.1 (hT.2.2.2 _ (getD_of (d := tab0) (show 1 < (aT A).length by omega))).2 ?_⟩⟩
        · rw [mMust_t qo] at h
          rw [x0.2.1, x0.2.2.1]
          refine ⟨vz, vz, sp_areRight (k := 1) (by decide) x0.1.2.2.1 x0.1.2.2.2 ⟨vz, ?_⟩⟩
          refine sp_must (c := mRight (decide (1 = 1)) ((aT A).getD 0 tab0).2.2.1 ((aT A).getD 0 tab0).2.2.2 = true) (B := B) hs.1 (by simp) (fun _ => x0.2.2.2.1) h
        · rw [mMust_f qo] at h
          exact h
      · rw [mMust_f qc] at h
        exact h
theorem sp_one2 {τ σ : zS} {B : Nat} {b : Nat → Nat} {e a : Nat} {A : mA} {K : zS → Prop} {QX : zS → Prop} (hs : mSt τ σ B b e a) (hr : mRep σ B A)
    (h : mW (mOne A 2) (fun _ => K σ) (mEr τ B QX)) : zCT zZM zmX10_one [.ref 0, .ref 1, .int (2 : Int32), .int (nI (aM A).length)] σ (zQv K) QX := by
  refine rX10_one ?_
  unfold PX10_one_0
  have hT := hr.2.2.2.2.1
  have hT2 := hT.2.1
  have h55 := mRep_55 hr (show 2 < 4 by decide)
  have own : ownK A 2 = aM A := rfl
  unfold mOne at h
  rw [own, mW_bind] at h
  have ek : (2 : Int32).toNatClampNeg = 2 := by decide
  have ew : (2 : Int32) - 1 = nI 1 := by decide
  have ez : (nI 1).toNatClampNeg = 1 := by decide
  have vk : vp_in (2 : Int32) 4 := show vp_in (nI 2) 4 from vp_in_nI (by decide) (by decide)
  have vz : vp_in (nI 1) 2 := vp_in_nI (by decide) (by decide)
  have g2 : (2 : Int32) ≤ nI (cntI A 2) ↔ 2 ≤ cntI A 2 := nI_leI (a := 2) (by decide) (by omega)
  have c0 : nI (cntI A 2) = (0 : Int32) ↔ cntI A 2 = 0 := nI_eq (b := 0) (by omega) (by decide)
  have d0 : nI (aM A).length = (0 : Int32) ↔ (aM A).length = 0 := nI_eq (b := 0) (by omega) (by decide)
  have d1 : nI (aM A).length = (1 : Int32) ↔ (aM A).length = 1 := nI_eq (b := 1) (by omega) (by decide)
  rw [ek, h55.1, ew, ez, g2, c0, d0, d1]
  refine ⟨vk, fun q => ⟨fun _ => ?_, fun z => absurd q z⟩, fun q => ⟨fun z => absurd z q, fun _ => ?_⟩⟩
  · rw [mMust_f (by omega)] at h
    have hi := mRep_imp hr (show 1 < cntI A 2 by omega)
    have hg := impAt_get (show 1 < cntI A 2 by omega)
    have hI := mRep_I hr
    refine sp_importOf (k := 2) (j := 1) hr (by decide) (by omega) ?_
    rw [nI_clamp (by omega)]
    exact ⟨vp_in_nI (by omega) (by decide), sp_mustF (B := B) hs.1 hi.2.2.2.1 h⟩
  · rw [mMust_t (by omega)] at h
    have h : mW (if (aM A).length = 0 then .ok () else (mMust (cntI A 2 = 0) ((aM A).getD 0 tab0).1).bind fun _ => (mMust ((aM A).length = 1) ((aM A).getD 1 tab0).1).bind fun _ =>
      mMust (mRight (decide (2 = 1)) ((aM A).getD 0 tab0).2.2.1 ((aM A).getD 0 tab0).2.2.2 = true) ((aM A).getD 0 tab0).2.1 : mE Unit) (fun _ => K σ) (mEr τ B QX) := h
    refine sp_mustT ?_
    rw [mW_ite] at h
    refine ⟨fun q0 => ?_, fun q0 => ?_⟩
    · rw [if_pos q0] at h
      exact h
    · rw [if_neg q0, mW_bind] at h
      have x0 := hT.2.2.1 _ (getD_of (d := tab0) (show 0 < (aM A).length by omega))
      refine ⟨fun qc => ⟨vz, sp_mustT ?_⟩, fun qc => ⟨vz, sp_mustF (B := B) hs.1 x0.2.2.2.2 ?_⟩⟩
      · rw [mMust_t qc] at h
        have h : mW ((mMust ((aM A).length = 1) ((aM A).getD 1 tab0).1).bind fun _ =>
          mMust (mRight (decide (2 = 1)) ((aM A).getD 0 tab0).2.2.1 ((aM A).getD 0 tab0).2.2.2 = true) ((aM A).getD 0 tab0).2.1) (fun _ => K σ) (mEr τ B QX) := h
        rw [mW_bind] at h
        refine ⟨fun qo => ⟨vz, sp_mustT ?_⟩, fun qo => ⟨vz, sp_mustF (B := B) hs.1 (hT.2.2.2 _ (getD_of (d := tab0) (show 1 < (aM A).length by omega))).2 ?_⟩⟩
        · rw [mMust_t qo] at h
          rw [x0.2.1, x0.2.2.1]
          refine ⟨vz, vz, sp_areRight (k := 2) (by decide) x0.1.2.2.1 x0.1.2.2.2 ⟨vz, ?_⟩⟩
          refine sp_must (c := mRight (decide (2 = 1)) ((aM A).getD 0 tab0).2.2.1 ((aM A).getD 0 tab0).2.2.2 = true) (B := B) hs.1 (by simp) (fun _ => x0.2.2.2.1) h
        · rw [mMust_f qo] at h
          exact h
      · rw [mMust_f qc] at h
        exact h

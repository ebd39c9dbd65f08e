/-! the reference's constants, exports -/
theorem sp_has {σ : zS} {B k : Nat} {A : mA} {K : Int32 → zS → Prop} {QX : zS → Prop} (hr : mRep σ B A) (hk : k = 1 ∨ k = 2) (h : K (bI (hasK A k)) σ) : zCT zZM zmX9_has [.ref 1, .int (nI k)] σ (zQi K) QX := by
  refine rX9_has ?_
  unfold PX9_has_0
  have hc := mRep_55 hr (show k < 4 by omega)
  have hT := hr.2.2.2.1
  have hM := hr.2.2.2.2.1
  have hT1 : σ.1 1 12 = nI (aT A).length := hT.1
  have hM1 : σ.1 1 13 = nI (aM A).length := hM.1
  have hT2 := hT.2.1
  have hM2 := hM.2.1
  have c1 : nI k = (1 : Int32) ↔ k = 1 := nI_eq (b := 1) (by omega) (by decide)
  have cT : nI (cntI A k) + nI (aT A).length ≤ 0 ↔ cntI A k + (aT A).length ≤ 0 := by rw [nI_add]; exact nI_leI (b := 0) (by omega) (by decide)
  have cM : nI (cntI A k) + nI (aM A).length ≤ 0 ↔ cntI A k + (aM A).length ≤ 0 := by rw [nI_add]; exact nI_leI (b := 0) (by omega) (by decide)
  rw [nI_clamp (by omega), hc.1, hT1, hM1, c1, cT, cM]
  have tt : hasK A k = true → ((1 : Int32) = 0 ∨ (1 : Int32) = 1) ∧ K 1 σ := fun q => ⟨Or.inr rfl, by rw [q] at h; exact h⟩
  have ff : hasK A k = false → ((0 : Int32) = 0 ∨ (0 : Int32) = 1) ∧ K 0 σ := fun q => ⟨Or.inl rfl, by rw [q] at h; exact h⟩
  refine ⟨vp_in_nI (by omega) (by decide), fun q => ⟨fun q2 => ff ?_, fun q2 => tt ?_⟩, fun q => ⟨fun q2 => ff ?_, fun q2 => tt ?_⟩⟩
  · unfold hasK; rw [if_pos q]; exact decide_eq_false (by omega)
  · unfold hasK; rw [if_pos q]; exact decide_eq_true (by omega)
  · unfold hasK; rw [if_neg q]; exact decide_eq_false (by omega)
  · unfold hasK; rw [if_neg q]; exact decide_eq_true (by omega)
def mCst (A : mA) (b : Nat → Nat) (e c ty : Nat) : Bool := if b c = 35 then (match mU b e (c + 1) with
  | .ok u => decide (u.1 < cntI A 3) && decide (gloC A u.1 = 0) && decide (gloT A u.1 = ty)
  | .error _ => false) else decide (b c = 65 + ty)
theorem mConst_f {b : Nat → Nat} {e c r : Nat} (h : mConst b e c = .ok r) : c < e ∧ (b c = 35 → ∃ u, mU b e (c + 1) = .ok u) := by
  unfold mConst at h
  cases ho : mOct b e c with
  | error q => rw [ho] at h; cases h
  | ok o =>
    obtain ⟨h1, rfl⟩ := mOct_in ho
    rw [ho] at h
    refine ⟨h1, fun q => ?_⟩
    have h : (if b c = 65 then (mSg b e 5 7 120 (c + 1)).bind fun p => mNeed b e 11 p else if b c = 66 then (mSg b e 10 0 127 (c + 1)).bind fun p => mNeed b e 11 p else if b c = 35 then (mU b e (c + 1)).bind fun u => mNeed b e 11 u.2 else .error (1, c)) = .ok r := h
    rw [if_neg (by omega), if_neg (by omega), if_pos q] at h
    cases hu : mU b e (c + 1) with
    | error p => rw [hu] at h; cases h
    | ok p => exact ⟨p, rfl⟩
theorem sp_isConstant {τ σ : zS} {B : Nat} {b : Nat → Nat} {e e' a c r ty : Nat} {A : mA} {K : Int32 → zS → Prop} {QX : zS → Prop} (hs : mSt τ σ B b e a) (hr : mRep σ B A) (hty : ty ≤ 1) (hee : e' ≤ e) (hc : mConst b e' c = .ok r)
    (h : ∀ a', a' ≤ e → K (bI (mCst A b e c ty)) (mAt σ (B + a'))) : zCT zZM zmX10_isConstant [.ref 0, .ref 1, .int (nI (B + c)), .int (nI ty)] σ (zQi K) QX := by
  obtain ⟨f1, f2⟩ := mConst_f hc
  have he := hs.2.2.2.2.2.1
  refine rX10_isConstant ?_
  unfold PX10_isConstant_0
  intro s1 e1
  have hs1 : mSt τ s1 B b e c := by rw [e1]; exact hs.at (by omega)
  refine sp_octet hs1 ?_
  rw [mOct, if_pos (by omega)]
  have hbc := (hs.2.1 c (by omega)).1
  have c35 : nI (b c) = (35 : Int32) ↔ b c = 35 := nI_eq (b := 35) (by omega) (by decide)
  have c65 : nI (b c) = (65 : Int32) + nI ty ↔ b c = 65 + ty := by rw [show (65 : Int32) = nI 65 from rfl, nI_add]; exact nI_eq (by omega) (by omega)
  have e2 : mAt s1 (B + (c + 1)) = mAt σ (B + (c + 1)) := by rw [e1]; exact mAt_mAt _ _ _
  show (nI (b c) = (35 : Int32) → _) ∧ (¬ nI (b c) = (35 : Int32) → (nI (b c) = (65 : Int32) + nI ty → _) ∧ (¬ nI (b c) = (65 : Int32) + nI ty → _))
  rw [c35, c65]
  have hs2 : mSt τ (mAt s1 (B + (c + 1))) B b e (c + 1) := hs1.at (by omega)
  refine ⟨fun q => ?_, fun q => ⟨fun q2 => ⟨Or.inr rfl, ?_⟩, fun q2 => ⟨Or.inl rfl, ?_⟩⟩⟩
  · obtain ⟨u, hu⟩ := f2 q
    have hu := mU_mono hee _ hu
    have u1 := mU_in hu (show c + 1 ≤ e by omega)
    have u2 := mU_lt hu
    refine sp_u hs2 ?_
    rw [hu]
    have e4 : mAt (mAt s1 (B + (c + 1))) (B + u.2) = mAt σ (B + u.2) := by rw [e2]; exact mAt_mAt _ _ _
    have hg := h u.2 u1.2
    unfold mCst at hg
    rw [if_pos q, hu] at hg
    show vp_in (3 : Int32) 4 ∧ _
    rw [e4]
    have hr4 : mRep (mAt σ (B + u.2)) B A := mRep_at hr
    have h55 := mRep_55 hr4 (show 3 < 4 by decide)
    have e3 : (3 : Int32).toNatClampNeg = 3 := by decide
    have cc : (nI (cntI A 3)).toInt64 ≤ lN u.1 ↔ cntI A 3 ≤ u.1 := by rw [nI_l (by omega)]; exact lN_leB (by omega) (by omega)
    rw [e3, h55.1, cc, lN_i]
    refine ⟨(show vp_in (nI 3) 4 from vp_in_nI (by decide) (by decide)), fun q3 => ⟨Or.inl rfl, ?_⟩, fun q3 => ?_⟩
    · show K 0 _
      simpa [show ¬ u.1 < cntI A 3 by omega, bI] using hg
    · have hgl : u.1 < nGlo A := by unfold nGlo; omega
      refine sp_isChanged hr4 hgl (fun w1 => ?_)
      have w0 : nI (gloC A u.1) = (0 : Int32) ↔ gloC A u.1 = 0 := nI_eq (b := 0) (by omega) (by decide)
      rw [w0]
      refine ⟨fun q4 => ?_, fun q4 => ⟨Or.inl rfl, ?_⟩⟩
      · refine sp_typeOf hr4 hgl (fun w2 => ?_)
        have w3 : nI (gloT A u.1) = nI ty ↔ gloT A u.1 = ty := nI_eq (by omega) (by omega)
        rw [w3]
        refine ⟨fun q5 => ⟨Or.inr rfl, ?_⟩, fun q5 => ⟨Or.inl rfl, ?_⟩⟩
        · show K 1 _
          simpa [show u.1 < cntI A 3 by omega, q4, q5, bI] using hg
        · show K 0 _
          simpa [show u.1 < cntI A 3 by omega, q4, q5, bI] using hg
      · show K 0 _
        simpa [show u.1 < cntI A 3 by omega, q4, bI] using hg
  · have hg := h (c + 1) (by omega)
    unfold mCst at hg
    rw [if_neg q] at hg
    show K 1 (mAt s1 (B + (c + 1)))
    rw [e2]
    simpa [q2, bI] using hg
  · have hg := h (c + 1) (by omega)
    unfold mCst at hg
    rw [if_neg q] at hg
    show K 0 (mAt s1 (B + (c + 1)))
    rw [e2]
    simpa [q2, bI] using hg
def mSameTo (b : Nat → Nat) (p o : Nat) : Nat → Bool
  | 0 => true
  | j + 1 => mSameTo b p o j && decide (b (p + j) = b (o + j))
theorem mSameTo_le {b : Nat → Nat} {p o : Nat} : ∀ {n j : Nat}, j ≤ n → mSameTo b p o n = true → mSameTo b p o j = true := by
  intro n
  induction n with
  | zero => intro j hj h; rw [show j = 0 by omega]; rfl
  | succ n ih =>
    intro j hj h
    by_cases q : j = n + 1
    · rw [q]; exact h
    · simp only [mSameTo, Bool.and_eq_true] at h
      exact ih (by omega) h.1
def mSame (b : Nat → Nat) (p n o m : Nat) : Bool := decide (n = m) && mSameTo b p o n
theorem sb_inj {x y : Nat} (hx : x < 256) (hy : y < 256) : sb_b x = sb_b y ↔ x = y :=
  ⟨fun h => (nI_eq (by omega) (by omega)).mp (by rw [← mByte hx, ← mByte hy, h]), fun h => by rw [h]⟩
theorem sp_isSame {σ : zS} {B : Nat} {b : Nat → Nat} {p n o m : Nat} {K : Int32 → zS → Prop} {QX : zS → Prop} (hB : B ≤ 16000) (hb : ∀ j, j < 16000 → b j < 256 ∧ σ.1 4 (B + j) = sb_b (b j)) (hp : p + n ≤ 16000) (ho : o + m ≤ 16000)
    (h : K (bI (mSame b p n o m)) σ) : zCT zZM zmX10_isSame [.ref 0, .int (nI (B + p)), .int (nI n), .int (nI (B + o)), .int (nI m)] σ (zQi K) QX := by
  refine rX10_isSame (fun f x1 x2 x3 x5 s => ∃ j, f + j = n ∧ n = m ∧ x1 = nI (B + p) ∧ x2 = nI n ∧ x3 = nI (B + o) ∧ x5 = nI j ∧ s = σ ∧ mSameTo b p o j = true) ?_ ?_
  · rintro f x1 x2 x3 x5 s ⟨j, hf, hnm, rfl, rfl, rfl, rfl, rfl, hj⟩
    unfold PX10_isSame_11
    have c1 : nI n ≤ nI j ↔ n ≤ j := nI_leI (by omega) (by omega)
    rw [c1]
    refine ⟨fun q => ⟨Or.inr rfl, ?_⟩, fun q => ?_⟩
    · have : j = n := by omega
      subst this
      unfold mSame at h
      rw [hj] at h
      show K 1 _
      simpa [hnm, bI] using h
    · rw [nI_add, nI_add, nI_clamp (by omega), nI_clamp (by omega), Nat.add_assoc, Nat.add_assoc]
      have b1 := hb (p + j) (by omega)
      have b2 := hb (o + j) (by omega)
      rw [b1.2, b2.2, sb_inj b1.1 b2.1]
      refine ⟨vp_in_nI (by omega) (by decide), vp_in_nI (by omega) (by decide), fun q2 => ⟨f - 1, by show f - 1 < f; omega, j + 1, by omega, hnm, rfl, rfl, rfl, nI_1 j, rfl, by simp [mSameTo, hj, q2]⟩, fun q2 => ⟨Or.inl rfl, ?_⟩⟩
      have hn : mSameTo b p o n = false := by
        cases hz : mSameTo b p o n with
        | false => rfl
        | true =>
          have := mSameTo_le (show j + 1 ≤ n by omega) hz
          simp [mSameTo, hj, q2] at this
      unfold mSame at h
      rw [hn] at h
      show K 0 _
      simpa [bI] using h
  · unfold PX10_isSame_0
    have c1 : nI n = nI m ↔ n = m := nI_eq (by omega) (by omega)
    rw [c1]
    refine ⟨fun q => ⟨n, trivial, 0, rfl, q, rfl, rfl, rfl, rfl, rfl, rfl⟩, fun q => ⟨Or.inl rfl, ?_⟩⟩
    unfold mSame at h
    show K 0 _
    simpa [q, bI] using h

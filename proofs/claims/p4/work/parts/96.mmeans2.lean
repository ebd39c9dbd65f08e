/-! the steps of the reference's other loops over a module's items -/
section Means
variable {τ σ s : zS} {B : Nat} {b : Nat → Nat} {E i : Nat} {A : mA} {K10 K116 K182 K225 K315 K435 K497 : Int32 → zS → Prop} {K381 : Int32 → Int32 → zS → Prop} {Q : Option Value → zS → Prop} {QX : zS → Prop}
theorem sp_me116 (hC : nC τ σ B b E A s) (hi : i < (aF A).length) (h : mW (mFu A i) (fun _ => K116 (nI (i + 1)) s) (mEr τ B QX)) : PX10_means_116 K10 K116 K182 K225 K315 K381 K435 K497 Q QX (nI i) s := by
  obtain ⟨a, hs⟩ := hC.1
  have hr := hC.2.1
  have hF := hr.2.2.1
  have h64 := hF.2.1
  have hx := hF.2.2 i _ (getD_of (d := ((0, 0) : mFnT)) hi)
  have hS := hr.1
  have hv : vp_in (nI i) 64 := vp_in_nI (by omega) (by decide)
  have cs : (nI (aS A).length).toInt64 ≤ lN ((aF A).getD i (0, 0)).2 ↔ (aS A).length ≤ ((aF A).getD i (0, 0)).2 := by rw [nI_l (by have := hS.2.1; omega)]; exact lN_leB (by have := hS.2.1; omega) (by have := hx.2.1; omega)
  have ci : nI (aF A).length ≤ nI i ↔ (aF A).length ≤ i := nI_leI (by omega) (by omega)
  unfold mFu at h
  unfold PX10_means_116
  rw [hF.1, ci, nI_clamp (by omega), hS.1, hx.2.2.2, cs, hx.2.2.1, nI_1]
  refine ⟨fun q => absurd q (by omega), fun _ => ⟨hv, fun q => ⟨hv, ?_⟩, fun q => ⟨hv, ?_⟩⟩⟩
  · rw [mMust_f (by omega)] at h
    exact sp_mustF hs.1 rfl h
  · rw [mMust_t (by omega)] at h
    exact sp_mustT h
theorem sp_me182 (hC : nC τ σ B b E A s) (hi : i < (aG A).length) (hG : ∃ e a r, e ≤ E ∧ mGl b e a = .ok ((aG A).getD i (0, 0, 0), r)) (h : mW (mGlob b E A i) (fun _ => ∀ a, a ≤ E → K182 (nI (i + 1)) (mAt s (B + a))) (mEr τ B QX)) : PX10_means_182 K10 K116 K182 K225 K315 K381 K435 K497 Q QX (nI i) s := by
  obtain ⟨a, hs⟩ := hC.1
  have hr := hC.2.1
  have hX := hr.2.2.2.2.2.1
  have h64 := hX.2.1
  obtain ⟨x1, x2, x3, x4, x5, x6⟩ := hX.2.2 i _ (getD_of (d := ((0, 0, 0) : mGlT)) hi)
  have hv : vp_in (nI i) 32 := vp_in_nI (by omega) (by decide)
  have ci : nI (aG A).length ≤ nI i ↔ (aG A).length ≤ i := nI_leI (by omega) (by omega)
  obtain ⟨e, a0, r, he, hg⟩ := hG
  obtain ⟨r', hc⟩ := mGl_c hg
  unfold mGlob at h
  unfold PX10_means_182
  rw [hX.1, ci, nI_clamp (by omega), x6, x4, nI_1]
  refine ⟨fun q => absurd q (by omega), fun _ => ⟨hv, hv, sp_isConstant hs hr x1 he hc (fun a' ha => ⟨hv, ?_⟩)⟩⟩
  have x6' : (mAt s (B + a')).1 35 i = nI (B + ((aG A).getD i (0, 0, 0)).2.2) := by rw [mAt, zI1, if_neg (by omega)]; exact x6
  rw [x6']
  refine sp_must (p := ((aG A).getD i (0, 0, 0)).2.2) (c := mCst A b E ((aG A).getD i (0, 0, 0)).2.2 ((aG A).getD i (0, 0, 0)).1 = true) (hs.at ha).1 (by simp) (fun _ => rfl) ?_
  exact mW_mono h (fun _ _ h => h a' ha) (fun k p _ h => h)
theorem sp_me225 (hC : nC τ σ B b E A s) (hi : i < (aX A).length) (h : mW (mExpo b A i) (fun _ => K225 (nI (i + 1)) s) (mEr τ B QX)) : PX10_means_225 K10 K116 K182 K225 K315 K381 K435 K497 Q QX (nI i) s := by
  obtain ⟨a, hs⟩ := hC.1
  have hr := hC.2.1
  have hX := hr.2.2.2.2.2.2.1
  have h64 := hX.2.1
  have ci : nI (aX A).length ≤ nI i ↔ (aX A).length ≤ i := nI_leI (by omega) (by omega)
  unfold PX10_means_225
  rw [hX.1, ci]
  refine ⟨fun q => absurd q (by omega), fun _ => sp_exported hs hr hi ?_⟩
  rw [nI_1]
  exact h
theorem sp_me225e (hC : nC τ σ B b E A s) (hF : ∀ f, f < nFun A → funSig A f < (aS A).length) (h : mW (mSta A) (fun _ => K315 (0 : Int32) s) (mEr τ B QX)) : PX10_means_225 K10 K116 K182 K225 K315 K381 K435 K497 Q QX (nI (aX A).length) s := by
  obtain ⟨a, hs⟩ := hC.1
  have hr := hC.2.1
  have hX := hr.2.2.2.2.2.2.1
  have h64 := hX.2.1
  have h8 := hr.2.2.2.2.2.2.2.1
  have ci : nI (aX A).length ≤ nI (aX A).length ↔ (aX A).length ≤ (aX A).length := nI_leI (by omega) (by omega)
  have hn : nFun A ≤ 96 := by
    have := (mRep_55 hr (k := 0) (by decide)).2
    have := hr.2.2.1.2.1
    unfold nFun; omega
  unfold PX10_means_225
  rw [hX.1, ci]
  refine ⟨fun _ => ?_, fun q => absurd (Nat.le_refl _) q⟩
  unfold mSta at h
  generalize aB A = o at h8 h
  cases o with
  | none =>
    have h8 : s.1 1 10 = -1 := h8
    have h : K315 0 s := h
    rw [h8]
    exact ⟨fun _ => h, fun q => absurd (by decide) q⟩
  | some x =>
    obtain ⟨x1, x2, x3⟩ := h8
    have h : mW ((mMust (x.2 < nFun A) x.1).bind fun _ => mMust ((staSig A x.2).1.length = 0 ∧ (staSig A x.2).2 = 2) x.1) (fun _ => K315 (0 : Int32) s) (mEr τ B QX) := h
    have c0 : nI (min x.2 1000000) < (0 : Int32) ↔ min x.2 1000000 < 0 := nI_ltI (b := 0) (by omega) (by decide)
    have cn : nI (nFun A) ≤ nI (min x.2 1000000) ↔ nFun A ≤ min x.2 1000000 := nI_leI (by omega) (by omega)
    rw [x2, c0]
    refine ⟨fun q => absurd q (Nat.not_lt_zero _), fun _ => sp_functionsOf hr ?_⟩
    rw [cn]
    refine ⟨fun q => ?_, fun q => ?_⟩
    · rw [mMust_f (by omega)] at h
      exact sp_mustF hs.1 x3 h
    · have hxf : x.2 < nFun A := by omega
      have hm : min x.2 1000000 = x.2 := by omega
      rw [mMust_t hxf] at h
      have h : mW (mMust ((staSig A x.2).1.length = 0 ∧ (staSig A x.2).2 = 2) x.1) (fun _ => K315 (0 : Int32) s) (mEr τ B QX) := h
      have hS := mRep_S hr (hF _ hxf)
      refine sp_mustT ?_
      rw [x2, hm]
      refine sp_sigOf hr hxf (hF _ hxf) ?_
      refine sp_parameters hS.1 ?_
      unfold staSig at h
      have h16 := hS.1.1
      have hr2 := hS.1.2.2
      have cp : nI ((aS A).getD (funSig A x.2) ([], 0)).1.length = (0 : Int32) ↔ ((aS A).getD (funSig A x.2) ([], 0)).1.length = 0 := nI_eq (b := 0) (by omega) (by decide)
      have cr : nI ((aS A).getD (funSig A x.2) ([], 0)).2 = (2 : Int32) ↔ ((aS A).getD (funSig A x.2) ([], 0)).2 = 2 := nI_eq (b := 2) (by omega) (by decide)
      rw [cp]
      refine ⟨fun q => sp_resultOf hS.1 ?_, fun q => ?_⟩
      · rw [cr]
        refine ⟨fun q2 => ?_, fun q2 => ?_⟩
        · rw [mMust_t ⟨q, q2⟩] at h; exact sp_mustT h
        · rw [mMust_f (fun z => q2 z.2)] at h; exact sp_mustF hs.1 x3 h
      · rw [mMust_f (fun z => q z.1)] at h; exact sp_mustF hs.1 x3 h
theorem sp_me315 (hC : nC τ σ B b E A s) (hi : i < (aE A).length) (hE : ∃ e a r, e ≤ E ∧ a ≤ e ∧ mEl b e a = .ok ((aE A).getD i el0, r)) (h : mW (mEl0 b E A ((aE A).getD i el0)) (fun _ => ∀ s', nC τ σ B b E A s' → mSt τ s' B b E ((aE A).getD i el0).2.2.2.1 → K381 (nI i) (0 : Int32) s') (mEr τ B QX)) : PX10_means_315 K10 K116 K182 K225 K315 K381 K435 K497 Q QX (nI i) s := by
  obtain ⟨a, hs⟩ := hC.1
  have hr := hC.2.1
  have hX := hr.2.2.2.2.2.2.2.2.1
  have h64 := hX.2.1
  obtain ⟨x1, x2, x3, x4, x5, x6, x7, x8, x9, x10⟩ := hX.2.2 i _ (getD_of (d := el0) hi)
  have hv : vp_in (nI i) 32 := vp_in_nI (by omega) (by decide)
  have ci : nI (aE A).length ≤ nI i ↔ (aE A).length ≤ i := nI_leI (by omega) (by omega)
  obtain ⟨e, a0, r, he, ha0, hg⟩ := hE
  obtain ⟨hc, _, hpl⟩ := mEl_c hg
  have hpl := hpl ha0
  generalize (aE A).getD i el0 = x at *
  have c0 : nI x.2.1 = (0 : Int32) ↔ x.2.1 = 0 := nI_eq (b := 0) (by omega) (by decide)
  unfold mEl0 at h
  unfold PX10_means_315
  rw [hX.1, ci, nI_clamp (by omega), x7, c0]
  refine ⟨fun q => absurd q (by omega), fun _ => ⟨hv, fun q => ?_, fun q => ⟨hv, fun s8 e8 => ?_⟩⟩⟩
  · rw [if_pos q, mW_bind] at h
    obtain ⟨r', hc⟩ := hc q
    refine sp_has (k := 1) hr (Or.inl rfl) ⟨hv, ?_⟩
    rw [x6]
    refine sp_must (p := x.1) (c := hasK A 1 = true) hs.1 (by simp) (fun _ => rfl) (mW_mono h (fun _ _ h => ?_) (fun k p _ h => h))
    rw [x8 q]
    refine ⟨hv, sp_isConstant (ty := 0) hs hr (by decide) he hc (fun a' ha => ⟨hv, ?_⟩)⟩
    have x8' : (mAt s (B + a')).1 44 i = nI (B + x.2.2.1) := by rw [mAt, zI1, if_neg (by omega)]; exact x8 q
    rw [x8']
    refine sp_must (p := x.2.2.1) (c := mCst A b E x.2.2.1 0 = true) (hs.at ha).1 (by simp) (fun _ => rfl) (mW_mono h (fun _ _ h => ?_) (fun k p _ h => h))
    refine ⟨hv, fun s7 e7 => ?_⟩
    have x9' : (mAt s (B + a')).1 45 i = nI (B + x.2.2.2.1) := by rw [mAt, zI1, if_neg (by omega)]; exact x9
    rw [x9'] at e7
    have e7 : s7 = mAt (mAt s (B + a')) (B + x.2.2.2.1) := e7
    rw [e7]
    exact h _ ((hC.at ha).at (by omega)) ((hs.at ha).at (by omega))
  · rw [if_neg q] at h
    rw [x9] at e8
    have e8 : s8 = mAt s (B + x.2.2.2.1) := e8
    rw [e8]
    exact h _ (hC.at (by omega)) (hs.at (by omega))
theorem sp_me381 {j p z : Nat} {l : List (Nat × Nat)} (hC : nC τ σ B b E A s) (hs : mSt τ s B b E p) (hi : i < (aE A).length) (hj : j + l.length = ((aE A).getD i el0).2.2.2.2.length) (hch : mChain b E p l z)
    (h0 : l = [] → K315 (nI (i + 1)) s) (h : ∀ x r, l = x :: r → mW (mMust (x.2 < nFun A) x.1) (fun _ => ∀ s' p', nC τ σ B b E A s' → mSt τ s' B b E p' → mChain b E p' r z → K381 (nI i) (nI (j + 1)) s') (mEr τ B QX)) : PX10_means_381 K10 K116 K182 K225 K315 K381 K435 K497 Q QX (nI i) (nI j) s := by
  have hr := hC.2.1
  have hX := hr.2.2.2.2.2.2.2.2.1
  have h64 := hX.2.1
  obtain ⟨x1, x2, x3, x4, x5, x6, x7, x8, x9, x10⟩ := hX.2.2 i _ (getD_of (d := el0) hi)
  have hv : vp_in (nI i) 32 := vp_in_nI (by omega) (by decide)
  generalize (aE A).getD i el0 = x at *
  have ci : nI x.2.2.2.2.length ≤ nI j ↔ x.2.2.2.2.length ≤ j := nI_leI (by omega) (by omega)
  unfold PX10_means_381
  rw [nI_clamp (by omega), x10, ci, nI_1, nI_1]
  cases l with
  | nil => exact ⟨hv, fun _ => h0 rfl, fun q => absurd (by simp only [List.length_nil] at hj; omega) q⟩
  | cons y l =>
    have h := h y l rfl
    obtain ⟨a', h1, h2, h3⟩ := hch
    have u1 := mU_in h2 hs.2.2.2.2.1
    have u2 := mU_lt h2
    have hn : nFun A ≤ 96 := by
      have := (mRep_55 hr (k := 0) (by decide)).2
      have := hr.2.2.1.2.1
      unfold nFun; omega
    have cn : (nI (nFun A)).toInt64 ≤ lN y.2 ↔ nFun A ≤ y.2 := by rw [nI_l (by omega)]; exact lN_leB (by omega) (by omega)
    have hat : s.1 0 12 = nI (B + y.1) := by rw [h1]; exact hs.2.2.1
    refine ⟨hv, fun q => absurd q (by simp only [List.length_cons] at hj; omega), fun _ => ?_⟩
    refine sp_u hs ?_
    rw [h2, mW_ok]
    have hs1 := hs.at u1.2
    have hC1 := hC.at u1.2
    refine sp_functionsOf hC1.2.1 ?_
    rw [cn, hat]
    refine ⟨fun q => ?_, fun q => ?_⟩
    · rw [mMust_f (by omega)] at h
      exact sp_mustF hs1.1 rfl h
    · rw [mMust_t (by omega)] at h
      exact sp_mustT (h _ _ hC1 hs1 h3)
theorem sp_me435 (hC : nC τ σ B b E A s) (hi : i < (aZ A).length) (hZ : ∃ e a r, e ≤ E ∧ mDt b e a = .ok ((aZ A).getD i dt0, r)) (h : mW (mDat b E A i) (fun _ => ∀ s', nC τ σ B b E A s' → K435 (nI (i + 1)) s') (mEr τ B QX)) : PX10_means_435 K10 K116 K182 K225 K315 K381 K435 K497 Q QX (nI i) s := by
  obtain ⟨a, hs⟩ := hC.1
  have hr := hC.2.1
  have hX := hr.2.2.2.2.2.2.2.2.2.2.2
  have h64 := hX.2.1
  obtain ⟨x1, x2, x3, x4, x5, x6⟩ := hX.2.2 i _ (getD_of (d := dt0) hi)
  have hv : vp_in (nI i) 32 := vp_in_nI (by omega) (by decide)
  have ci : nI (aZ A).length ≤ nI i ↔ (aZ A).length ≤ i := nI_leI (by omega) (by omega)
  obtain ⟨e, a0, r, he, hg⟩ := hZ
  have hc := mDt_c hg
  unfold mDat at h
  generalize (aZ A).getD i dt0 = x at *
  have c0 : nI x.2.1 = (0 : Int32) ↔ x.2.1 = 0 := nI_eq (b := 0) (by omega) (by decide)
  unfold PX10_means_435
  rw [hX.1, ci, nI_clamp (by omega), x5, c0]
  refine ⟨fun q => absurd q (by omega), fun _ => ⟨hv, fun q => ?_, fun q => ?_⟩⟩
  · rw [if_pos q, mW_bind] at h
    obtain ⟨r', hc⟩ := hc q
    refine sp_has (k := 2) hr (Or.inr rfl) ⟨hv, ?_⟩
    rw [x4]
    refine sp_must (p := x.1) (c := hasK A 2 = true) hs.1 (by simp) (fun _ => rfl) (mW_mono h (fun _ _ h => ?_) (fun k p _ h => h))
    rw [x6 q]
    refine ⟨hv, sp_isConstant (ty := 0) hs hr (by decide) he hc (fun a' ha => ⟨hv, ?_⟩)⟩
    have x6' : (mAt s (B + a')).1 49 i = nI (B + x.2.2) := by rw [mAt, zI1, if_neg (by omega)]; exact x6 q
    rw [x6']
    refine sp_must (p := x.2.2) (c := mCst A b E x.2.2 0 = true) (hs.at ha).1 (by simp) (fun _ => rfl) (mW_mono h (fun _ _ h => ?_) (fun k p _ h => h))
    rw [nI_1]
    exact h _ (hC.at ha)
  · rw [if_neg q] at h
    rw [nI_1]
    exact h _ hC
end Means

/-! the reference's own tables, memories, data -/
theorem sp_own1 {τ σ : zS} {B : Nat} {b : Nat → Nat} {e a : Nat} {l : List mTabT} {K : zS → Prop} {QX : zS → Prop} (hs : mSt τ σ B b e a) (hr : r45 0 σ B l) (hla : l.length ≤ a)
    (h : mW (mTab b e true a) (fun r => ∀ σ', mSt τ σ' B b e r.2 → r45 0 σ' B (l ++ [r.1]) → mF 4 σ σ' → K σ') (mEr τ B QX)) : zCT zZM zmX10_ownLimits [.ref 0, .ref 1, .int (1 : Int32)] σ (zQv K) QX := by
  refine rX10_ownLimits ?_
  obtain ⟨hk, hb, hat, hen, hae, he, hB⟩ := id hs
  unfold PX10_ownLimits_0
  have ew : (1 : Int32) - 1 = nI 0 := by decide
  rw [ew, hat]
  unfold mTab at h
  rw [mW_bind] at h
  have fin : ∀ p s, p ≤ a + 1 → mT 4 τ σ s B b e p → (∀ c i, ¬ c = 0 → s.1 c i = σ.1 c i ∧ s.2 c i = σ.2 c i) → mW ((mLim b e p).bind fun l => (.ok ((a, p, l.1.1, l.1.2), l.2) : mE (mTabT × Nat))) (fun r => ∀ σ', mSt τ σ' B b e r.2 → r45 0 σ' B (l ++ [r.1]) → mF 4 σ σ' → K σ') (mEr τ B QX) → a < e ∨ a = p →
      PX10_ownLimits_21 (zQv K) QX 1 (nI 0) (nI (B + a)) s := by
    intro p s hp hT hc h hae2
    unfold PX10_ownLimits_21
    rw [mW_bind] at h
    refine sp_limits hT.1 (mW_mono h (fun u hu h => ?_) (fun k p _ h => h))
    have u1 := mLim_in hu
    intro u2 u3 s1 hs1 ho1 e16 e17
    have h1 : mT 4 τ σ s1 B b e u.2 := hT.own hs1 ho1 (by simp [zown])
    have f1 : ∀ c i, ¬ c = 0 → s1.1 c i = σ.1 c i ∧ s1.2 c i = σ.2 c i := fun c i z => ⟨(ho1.1 c i (fun y => z y.1)).trans (hc c i z).1, (ho1.2 c i (fun y => z y.1)).trans (hc c i z).2⟩
    have n1 : s1.1 1 12 = nI l.length := by rw [(f1 1 12 (by decide)).1]; exact hr.1
    have hp0 : (s.1 0 12) = nI (B + p) := hT.1.2.2.1
    rw [mW_ok] at h
    have hok : limOk (a, p, u.1.1, u.1.2) := ⟨by show a < 16000; omega, by show p < 16000; omega, u2, u3⟩
    have c0 : nI l.length = (0 : Int32) ↔ l.length = 0 := nI_eq (b := 0) (by omega) (by decide)
    have c1 : nI l.length = (1 : Int32) ↔ l.length = 1 := nI_eq (b := 1) (by omega) (by decide)
    have ez : (nI 0).toNatClampNeg = 0 := by decide
    have vz : vp_in (nI 0) 2 := vp_in_nI (by decide) (by decide)
    have last : ∀ s9 s10, mT 4 τ σ s9 B b e u.2 → s9.1 1 12 = nI l.length → s10 = zsI s9 1 12 (s9.1 1 12 + 1) →
        (∀ x, (l ++ [(a, p, u.1.1, u.1.2)])[0]? = some x → limOk x ∧ s9.2 14 0 = lN x.2.2.1 ∧ s9.2 15 0 = optL x.2.2.2 ∧ s9.1 16 0 = nI (B + x.2.1) ∧ s9.1 18 0 = nI (B + x.1)) →
        (∀ x, (l ++ [(a, p, u.1.1, u.1.2)])[1]? = some x → x.1 < 16000 ∧ s9.1 17 0 = nI (B + x.1)) → K s10 := by
      intro s9 s10 h9 n9 e10 g0 g1
      have h10 : mT 4 τ σ s10 B b e u.2 := by rw [e10]; exact h9.i _ rfl (by omega)
      rw [n9, nI_1] at e10
      refine h s10 h10.1 ⟨?_, ?_, ?_, ?_⟩ h10.2
      · rw [e10, len_app]; simp [zI1]
      · rw [len_app]; omega
      · rw [e10]; simpa [zI1, zI2] using g0
      · rw [e10]; simpa [zI1, zI2] using g1
    have mid : ∀ s9, mT 4 τ σ s9 B b e u.2 → s9.1 1 12 = nI l.length →
        (∀ x, (l ++ [(a, p, u.1.1, u.1.2)])[0]? = some x → limOk x ∧ s9.2 14 0 = lN x.2.2.1 ∧ s9.2 15 0 = optL x.2.2.2 ∧ s9.1 16 0 = nI (B + x.2.1) ∧ s9.1 18 0 = nI (B + x.1)) →
        (¬ l.length = 1 → ∀ x, (l ++ [(a, p, u.1.1, u.1.2)])[1]? = some x → x.1 < 16000 ∧ s9.1 17 0 = nI (B + x.1)) → PX10_ownLimits_90 (zQv K) QX 1 (nI 0) (nI (B + a)) (nI l.length) s9 := by
      intro s9 h9 n9 g0 g1
      unfold PX10_ownLimits_90
      rw [c1, ez]
      refine ⟨fun q => ⟨vz, fun s2 e2 => ?_⟩, fun q => ?_⟩
      · unfold PX10_ownLimits_104
        have h2 : mT 4 τ σ s2 B b e u.2 := by rw [e2]; exact h9.i _ rfl (by omega)
        have n2 : s2.1 1 12 = nI l.length := by rw [e2, zI1, if_neg (by omega)]; exact n9
        have g : ∀ s10, s10 = zsI s2 1 12 (s2.1 1 12 + 1) → K s10 := fun s10 e10 => by
          refine last s2 s10 h2 n2 e10 ?_ ?_
          · rw [e2]; simpa [zI1, zI2] using g0
          · intro x hx
            rw [List.getElem?_append_right (by omega), q] at hx
            have hx : (a, p, u.1.1, u.1.2) = x := by simpa using hx
            subst hx
            exact ⟨hok.1, by rw [e2, zI1, if_pos ⟨rfl, rfl⟩]⟩
        exact ⟨fun _ => g, fun z => absurd rfl z⟩
      · unfold PX10_ownLimits_104
        have g : ∀ s10, s10 = zsI s9 1 12 (s9.1 1 12 + 1) → K s10 := fun s10 e10 => last s9 s10 h9 n9 e10 g0 (g1 q)
        exact ⟨fun _ => g, fun z => absurd rfl z⟩
    have body : ((s1.1 1 12) = 0 →
        vp_in (nI 0) 2 ∧ ∀ s2 : zS, s2 = zsL s1 14 (nI 0).toNatClampNeg (s1.2 0 16) →
        vp_in (nI 0) 2 ∧ ∀ s3 : zS, s3 = zsL s2 15 (nI 0).toNatClampNeg (s2.2 0 17) →
        vp_in (nI 0) 2 ∧ ∀ s4 : zS, s4 = zsI s3 16 (nI 0).toNatClampNeg (s.1 0 12) →
        vp_in (nI 0) 2 ∧ ∀ s5 : zS, s5 = zsI s4 18 (nI 0).toNatClampNeg (nI (B + a)) →
        PX10_ownLimits_90 (zQv K) QX 1 (nI 0) (nI (B + a)) (s1.1 1 12) s5) ∧ (¬ (s1.1 1 12) = 0 →
        PX10_ownLimits_90 (zQv K) QX 1 (nI 0) (nI (B + a)) (s1.1 1 12) s1) := by
      rw [n1, c0, ez]
      refine ⟨fun q => ⟨vz, fun s2 e2 => ⟨vz, fun s3 e3 => ⟨vz, fun s4 e4 => ⟨vz, fun s5 e5 => ?_⟩⟩⟩⟩, fun q => ?_⟩
      · have h2 : mT 4 τ σ s2 B b e u.2 := by rw [e2]; exact h1.l _ rfl (by omega)
        have h3 : mT 4 τ σ s3 B b e u.2 := by rw [e3]; exact h2.l _ rfl (by omega)
        have h4 : mT 4 τ σ s4 B b e u.2 := by rw [e4]; exact h3.i _ rfl (by omega)
        have h5 : mT 4 τ σ s5 B b e u.2 := by rw [e5]; exact h4.i _ rfl (by omega)
        have g17 : s2.2 0 17 = optL u.1.2 := by rw [e2, zL2, if_neg (by omega)]; exact e17
        rw [e16] at e2
        rw [g17] at e3
        rw [hp0] at e4
        have hl0 : l = [] := List.length_eq_zero_iff.mp q
        refine mid s5 h5 ?_ ?_ ?_
        · rw [e5, e4, e3, e2]; simpa [zI1, zL1] using n1
        · intro x hx
          rw [hl0] at hx
          have hx : (a, p, u.1.1, u.1.2) = x := by simpa using hx
          subst hx
          refine ⟨hok, ?_⟩
          rw [e5, e4, e3, e2]; simp [zI1, zI2, zL1, zL2]
        · intro _ x hx
          rw [hl0] at hx
          simp at hx
      · refine mid s1 h1 n1 ?_ ?_
        · intro x hx
          rw [List.getElem?_append_left (by omega)] at hx
          rw [(f1 14 0 (by decide)).2, (f1 15 0 (by decide)).2, (f1 16 0 (by decide)).1, (f1 18 0 (by decide)).1]
          exact hr.2.2.1 x hx
        · intro q1 x hx
          rw [List.getElem?_append_left (by omega)] at hx
          rw [(f1 17 0 (by decide)).1]
          exact hr.2.2.2 x hx
    exact ⟨fun _ => body, fun z => absurd rfl z⟩
  refine ⟨fun _ => ?_, fun z => absurd rfl z⟩
  rw [if_pos rfl] at h
  refine sp_needOctet (v := 112) hs (by decide) (mW_mono h (fun r hr' h => ?_) (fun k p _ h => h))
  obtain ⟨n1, rfl, n3⟩ := mNeed_in hr'
  exact fin (a + 1) _ (Nat.le_refl _) ((mT.of hs).at (by omega)) (fun c i hc => ⟨by rw [mAt, zI1, if_neg (fun z => hc z.1)], rfl⟩) h (Or.inl n1)
theorem sp_own2 {τ σ : zS} {B : Nat} {b : Nat → Nat} {e a : Nat} {l : List mTabT} {K : zS → Prop} {QX : zS → Prop} (hs : mSt τ σ B b e a) (hr : r45 1 σ B l) (hla : l.length ≤ a)
    (h : mW (mTab b e false a) (fun r => ∀ σ', mSt τ σ' B b e r.2 → r45 1 σ' B (l ++ [r.1]) → mF 5 σ σ' → K σ') (mEr τ B QX)) : zCT zZM zmX10_ownLimits [.ref 0, .ref 1, .int (2 : Int32)] σ (zQv K) QX := by
  refine rX10_ownLimits ?_
  obtain ⟨hk, hb, hat, hen, hae, he, hB⟩ := id hs
  unfold PX10_ownLimits_0
  have ew : (2 : Int32) - 1 = nI 1 := by decide
  rw [ew, hat]
  unfold mTab at h
  rw [mW_bind] at h
  have fin : ∀ p s, p ≤ a + 1 → mT 5 τ σ s B b e p → (∀ c i, ¬ c = 0 → s.1 c i = σ.1 c i ∧ s.2 c i = σ.2 c i) → mW ((mLim b e p).bind fun l => (.ok ((a, p, l.1.1, l.1.2), l.2) : mE (mTabT × Nat))) (fun r => ∀ σ', mSt τ σ' B b e r.2 → r45 1 σ' B (l ++ [r.1]) → mF 5 σ σ' → K σ') (mEr τ B QX) → a < e ∨ a = p →
      PX10_ownLimits_21 (zQv K) QX 2 (nI 1) (nI (B + a)) s := by
    intro p s hp hT hc h hae2
    unfold PX10_ownLimits_21
    rw [mW_bind] at h
    refine sp_limits hT.1 (mW_mono h (fun u hu h => ?_) (fun k p _ h => h))
    have u1 := mLim_in hu
    intro u2 u3 s1 hs1 ho1 e16 e17
    have h1 : mT 5 τ σ s1 B b e u.2 := hT.own hs1 ho1 (by simp [zown])
    have f1 : ∀ c i, ¬ c = 0 → s1.1 c i = σ.1 c i ∧ s1.2 c i = σ.2 c i := fun c i z => ⟨(ho1.1 c i (fun y => z y.1)).trans (hc c i z).1, (ho1.2 c i (fun y => z y.1)).trans (hc c i z).2⟩
    have n1 : s1.1 1 13 = nI l.length := by rw [(f1 1 13 (by decide)).1]; exact hr.1
    have hp0 : (s.1 0 12) = nI (B + p) := hT.1.2.2.1
    rw [mW_ok] at h
    have hok : limOk (a, p, u.1.1, u.1.2) := ⟨by show a < 16000; omega, by show p < 16000; omega, u2, u3⟩
    have c0 : nI l.length = (0 : Int32) ↔ l.length = 0 := nI_eq (b := 0) (by omega) (by decide)
    have c1 : nI l.length = (1 : Int32) ↔ l.length = 1 := nI_eq (b := 1) (by omega) (by decide)
    have ez : (nI 1).toNatClampNeg = 1 := by decide
    have vz : vp_in (nI 1) 2 := vp_in_nI (by decide) (by decide)
    have last : ∀ s9 s10, mT 5 τ σ s9 B b e u.2 → s9.1 1 13 = nI l.length → s10 = zsI s9 1 13 (s9.1 1 13 + 1) →
        (∀ x, (l ++ [(a, p, u.1.1, u.1.2)])[0]? = some x → limOk x ∧ s9.2 14 1 = lN x.2.2.1 ∧ s9.2 15 1 = optL x.2.2.2 ∧ s9.1 16 1 = nI (B + x.2.1) ∧ s9.1 18 1 = nI (B + x.1)) →
        (∀ x, (l ++ [(a, p, u.1.1, u.1.2)])[1]? = some x → x.1 < 16000 ∧ s9.1 17 1 = nI (B + x.1)) → K s10 := by
      intro s9 s10 h9 n9 e10 g0 g1
      have h10 : mT 5 τ σ s10 B b e u.2 := by rw [e10]; exact h9.i _ rfl (by omega)
      rw [n9, nI_1] at e10
      refine h s10 h10.1 ⟨?_, ?_, ?_, ?_⟩ h10.2
      · rw [e10, len_app]; simp [zI1]
      · rw [len_app]; omega
      · rw [e10]; simpa [zI1, zI2] using g0
      · rw [e10]; simpa [zI1, zI2] using g1
    have mid : ∀ s9, mT 5 τ σ s9 B b e u.2 → s9.1 1 13 = nI l.length →
        (∀ x, (l ++ [(a, p, u.1.1, u.1.2)])[0]? = some x → limOk x ∧ s9.2 14 1 = lN x.2.2.1 ∧ s9.2 15 1 = optL x.2.2.2 ∧ s9.1 16 1 = nI (B + x.2.1) ∧ s9.1 18 1 = nI (B + x.1)) →
        (¬ l.length = 1 → ∀ x, (l ++ [(a, p, u.1.1, u.1.2)])[1]? = some x → x.1 < 16000 ∧ s9.1 17 1 = nI (B + x.1)) → PX10_ownLimits_90 (zQv K) QX 2 (nI 1) (nI (B + a)) (nI l.length) s9 := by
      intro s9 h9 n9 g0 g1
      unfold PX10_ownLimits_90
      rw [c1, ez]
      refine ⟨fun q => ⟨vz, fun s2 e2 => ?_⟩, fun q => ?_⟩
      · unfold PX10_ownLimits_104
        have h2 : mT 5 τ σ s2 B b e u.2 := by rw [e2]; exact h9.i _ rfl (by omega)
        have n2 : s2.1 1 13 = nI l.length := by rw [e2, zI1, if_neg (by omega)]; exact n9
        have g : ∀ s10, s10 = zsI s2 1 13 (s2.1 1 13 + 1) → K s10 := fun s10 e10 => by
          refine last s2 s10 h2 n2 e10 ?_ ?_
          · rw [e2]; simpa [zI1, zI2] using g0
          · intro x hx
            rw [List.getElem?_append_right (by omega), q] at hx
            have hx : (a, p, u.1.1, u.1.2) = x := by simpa using hx
            subst hx
            exact ⟨hok.1, by rw [e2, zI1, if_pos ⟨rfl, rfl⟩]⟩
        exact ⟨fun z => absurd z (by decide), fun _ => g⟩
      · unfold PX10_ownLimits_104
        have g : ∀ s10, s10 = zsI s9 1 13 (s9.1 1 13 + 1) → K s10 := fun s10 e10 => last s9 s10 h9 n9 e10 g0 (g1 q)
        exact ⟨fun z => absurd z (by decide), fun _ => g⟩
    have body : ((s1.1 1 13) = 0 →
        vp_in (nI 1) 2 ∧ ∀ s2 : zS, s2 = zsL s1 14 (nI 1).toNatClampNeg (s1.2 0 16) →
        vp_in (nI 1) 2 ∧ ∀ s3 : zS, s3 = zsL s2 15 (nI 1).toNatClampNeg (s2.2 0 17) →
        vp_in (nI 1) 2 ∧ ∀ s4 : zS, s4 = zsI s3 16 (nI 1).toNatClampNeg (s.1 0 12) →
        vp_in (nI 1) 2 ∧ ∀ s5 : zS, s5 = zsI s4 18 (nI 1).toNatClampNeg (nI (B + a)) →
        PX10_ownLimits_90 (zQv K) QX 2 (nI 1) (nI (B + a)) (s1.1 1 13) s5) ∧ (¬ (s1.1 1 13) = 0 →
        PX10_ownLimits_90 (zQv K) QX 2 (nI 1) (nI (B + a)) (s1.1 1 13) s1) := by
      rw [n1, c0, ez]
      refine ⟨fun q => ⟨vz, fun s2 e2 => ⟨vz, fun s3 e3 => ⟨vz, fun s4 e4 => ⟨vz, fun s5 e5 => ?_⟩⟩⟩⟩, fun q => ?_⟩
      · have h2 : mT 5 τ σ s2 B b e u.2 := by rw [e2]; exact h1.l _ rfl (by omega)
        have h3 : mT 5 τ σ s3 B b e u.2 := by rw [e3]; exact h2.l _ rfl (by omega)
        have h4 : mT 5 τ σ s4 B b e u.2 := by rw [e4]; exact h3.i _ rfl (by omega)
        have h5 : mT 5 τ σ s5 B b e u.2 := by rw [e5]; exact h4.i _ rfl (by omega)
        have g17 : s2.2 0 17 = optL u.1.2 := by rw [e2, zL2, if_neg (by omega)]; exact e17
        rw [e16] at e2
        rw [g17] at e3
        rw [hp0] at e4
        have hl0 : l = [] := List.length_eq_zero_iff.mp q
        refine mid s5 h5 ?_ ?_ ?_
        · rw [e5, e4, e3, e2]; simpa [zI1, zL1] using n1
        · intro x hx
          rw [hl0] at hx
          have hx : (a, p, u.1.1, u.1.2) = x := by simpa using hx
          subst hx
          refine ⟨hok, ?_⟩
          rw [e5, e4, e3, e2]; simp [zI1, zI2, zL1, zL2]
        · intro _ x hx
          rw [hl0] at hx
          simp at hx
      · refine mid s1 h1 n1 ?_ ?_
        · intro x hx
          rw [List.getElem?_append_left (by omega)] at hx
          rw [(f1 14 1 (by decide)).2, (f1 15 1 (by decide)).2, (f1 16 1 (by decide)).1, (f1 18 1 (by decide)).1]
          exact hr.2.2.1 x hx
        · intro q1 x hx
          rw [List.getElem?_append_left (by omega)] at hx
          rw [(f1 17 1 (by decide)).1]
          exact hr.2.2.2 x hx
    exact ⟨fun z => absurd z (by decide), fun _ => body⟩
  refine ⟨fun z => absurd z (by decide), fun _ => ?_⟩
  rw [if_neg (by decide), mW_ok] at h
  exact fin a _ (Nat.le_succ a) (mT.of hs) (fun c i hc => ⟨rfl, rfl⟩) h (Or.inr rfl)
theorem sp_data {τ σ : zS} {B : Nat} {b : Nat → Nat} {e a : Nat} {l : List mDtT} {K : zS → Prop} {QX : zS → Prop} (hs : mSt τ σ B b e a) (hr : r11 σ B l)
    (h : mW (if l.length = 32 then .error (4, a) else mDt b e a) (fun r => ∀ σ', mSt τ σ' B b e r.2 → r11 σ' B (l ++ [r.1]) → mF 11 σ σ' → K σ') (mEr τ B QX)) : zCT zZM zmX10_dataLine [.ref 0, .ref 1] σ (zQv K) QX := by
  refine rX10_dataLine ?_
  obtain ⟨hk, hb, hat, hen, hae, he, hB⟩ := id hs
  unfold PX10_dataLine_0
  have c32 : nI l.length = (32 : Int32) ↔ l.length = 32 := nI_eq (b := 32) (by have := hr.2.1; omega) (by decide)
  rw [hr.1, c32, hat]
  rw [mW_ite] at h
  refine ⟨fun q => ?_, fun q => ?_⟩
  · rw [if_pos q] at h
    exact sp_throw (k := 4) hk h
  · rw [if_neg q] at h
    have hl : l.length < 32 := by have := hr.2.1; omega
    have vl : vp_in (nI l.length) 32 := vp_in_nI hl (by decide)
    unfold mDt at h
    rw [mW_bind] at h
    rw [nI_clamp (by omega)]
    refine ⟨vl, fun s3 e3 => ?_⟩
    have h3 : mT 11 τ σ s3 B b e a := by rw [e3]; exact (mT.of hs).i _ rfl (by omega)
    refine sp_octet h3.1 (mW_mono h (fun k hk' h => ?_) (fun k p _ h => h))
    obtain ⟨k1, rfl⟩ := mOct_in hk'
    have hbk := (hb a (by omega)).1
    have c1 : nI (b a) ≤ (1 : Int32) ↔ b a ≤ 1 := nI_leI (b := 1) (by omega) (by decide)
    have c0 : nI (b a) = (0 : Int32) ↔ b a = 0 := nI_eq (b := 0) (by omega) (by decide)
    rw [mW_ite] at h
    rw [c1, c0]
    refine ⟨fun q1 => ⟨vl, fun s6 e6 => ?_⟩, fun q1 => ⟨vl, ?_⟩⟩
    · rw [if_neg (show ¬ 1 < b a by omega), mW_bind] at h
      have h6 : mT 11 τ σ s6 B b e (a + 1) := by rw [e6]; exact (h3.at (by omega)).i _ rfl (by omega)
      have tail : ∀ p s9, a + 1 ≤ p → mT 11 τ σ s9 B b e p → s9.1 1 8 = nI l.length → s9.1 48 l.length = nI (B + a) → s9.1 47 l.length = nI (b a) → (b a = 0 → s9.1 49 l.length = nI (B + (a + 1))) →
          (∀ i y, i < l.length → l[i]? = some y → s9.1 48 i = nI (B + y.1) ∧ s9.1 47 i = nI y.2.1 ∧ (y.2.1 = 0 → s9.1 49 i = nI (B + y.2.2))) →
          mW ((mU b e p).bind fun n => if e - n.2 < n.1 then .error (1, p) else (.ok ((a, b a, a + 1), n.2 + n.1) : mE (mDtT × Nat))) (fun r => ∀ σ', mSt τ σ' B b e r.2 → r11 σ' B (l ++ [r.1]) → mF 11 σ σ' → K σ') (mEr τ B QX) →
          zCT zZM zmX10_u [.ref 0] s9 (zQl (fun r11 s10 =>
            ((r11 ≤ (((s10.1 0 13) - (s10.1 0 12)).toInt64) →
              vp_in (nI l.length) 32 ∧ ∀ s12 : zS, s12 = zsI s10 50 l.length (s10.1 0 12) →
              vp_in (nI l.length) 32 ∧ ∀ s13 : zS, s13 = zsI s12 51 l.length (r11.toInt32) →
              ∀ s14 : zS, s14 = zsI s13 0 12 ((s13.1 0 12) + (r11.toInt32)) →
              ∀ s15 : zS, s15 = zsI s14 1 8 ((s14.1 1 8) + (1 : Int32)) →
              zQv K none s15) ∧ (¬ r11 ≤ (((s10.1 0 13) - (s10.1 0 12)).toInt64) →
              zCT zZM zmX10_wrong [.ref 0, .int (1 : Int32), .int (s9.1 0 12)] s10 (zQr (fun r17 s16 =>
                o_athrow zYM 2 (zQv K) QX (fun _ _ _ _ => False) [] [.ref r17] s16)) QX)))) QX := by
        intro p s9 hap h9 n9 g48 g47 g49 old h
        rw [mW_bind] at h
        refine sp_u h9.1 (mW_mono h (fun u hu h => ?_) (fun k p _ h => h))
        have u1 := mU_in hu h9.1.2.2.2.2.1
        have u2 := mU_lt hu
        have h10 : mT 11 τ σ (mAt s9 (B + u.2)) B b e u.2 := h9.at u1.2
        have ce : lN u.1 ≤ ((mAt s9 (B + u.2)).1 0 13 - (mAt s9 (B + u.2)).1 0 12).toInt64 ↔ u.1 ≤ e - u.2 := by
          rw [h10.1.2.2.2.1, h10.1.2.2.1, pk_sub (by omega), nI_l (by omega), pk_lLE (by omega) (by omega)]; omega
        rw [ce, h10.1.2.2.1]
        rw [mW_ite] at h
        refine ⟨fun qe => ?_, fun qe => ?_⟩
        · rw [if_neg (show ¬ e - u.2 < u.1 by omega), mW_ok] at h
          refine ⟨vl, fun s12 e12 => ⟨vl, fun s13 e13 s14 e14 s15 e15 => ?_⟩⟩
          have h12 : mT 11 τ σ s12 B b e u.2 := by rw [e12]; exact h10.i _ rfl (by omega)
          have h13 : mT 11 τ σ s13 B b e u.2 := by rw [e13]; exact h12.i _ rfl (by omega)
          rw [h13.1.2.2.1, lN_i, nI_add, Nat.add_assoc] at e14
          have h14 : mT 11 τ σ s14 B b e (u.2 + u.1) := by rw [e14]; exact h13.at (by omega)
          have h15 : mT 11 τ σ s15 B b e (u.2 + u.1) := by rw [e15]; exact h14.i _ rfl (by omega)
          have n14 : s14.1 1 8 = nI l.length := by rw [e14, e13, e12]; simpa [zI1, mAt] using n9
          rw [n14, nI_1] at e15
          refine h s15 h15.1 ⟨?_, ?_, row_app (fun i y hi hy => ?_) ?_⟩ h15.2
          · rw [e15, len_app]; simp [zI1]
          · rw [len_app]; omega
          · obtain ⟨o1, o2, o3, _⟩ := hr.2.2 i y hy
            refine ⟨o1, o2, o3, ?_⟩
            have ho := old i y hi hy
            rw [e15, e14, e13, e12]
            simpa [zI1, mAt, Nat.ne_of_lt hi] using ho
          · refine ⟨by show a < 16000; omega, q1, by show a + 1 < 16000; omega, ?_⟩
            rw [e15, e14, e13, e12]
            simpa [zI1, mAt] using ⟨g48, g47, g49⟩
        · rw [if_pos (by omega)] at h
          rw [h9.1.2.2.1]
          exact sp_throw (k := 1) h10.1.1 h
      have old6 : ∀ i y, i < l.length → l[i]? = some y → s6.1 48 i = nI (B + y.1) ∧ s6.1 47 i = nI y.2.1 ∧ (y.2.1 = 0 → s6.1 49 i = nI (B + y.2.2)) := fun i y hi hy => by
        have ho := (hr.2.2 i y hy).2.2.2
        rw [e6, e3]
        simpa [zI1, mAt, Nat.ne_of_lt hi] using ho
      have n6 : s6.1 1 8 = nI l.length := by rw [e6, e3]; simpa [zI1, mAt] using hr.1
      have g48 : s6.1 48 l.length = nI (B + a) := by rw [e6, e3]; simp [zI1, mAt]
      have g47 : s6.1 47 l.length = nI (b a) := by rw [e6]; simp [zI1]
      refine ⟨fun q0 => ?_, fun q0 => ?_⟩
      · rw [if_pos q0] at h
        refine sp_constant h6.1 (mW_mono h (fun c hc h => ?_) (fun k p _ h => h))
        obtain ⟨d1, d2⟩ := mConst_in hc
        refine ⟨vl, fun s9 e9 => ?_⟩
        have h9 : mT 11 τ σ s9 B b e c := by rw [e9]; exact (h6.at d2).i _ rfl (by omega)
        refine tail c s9 (by omega) h9 ?_ ?_ ?_ ?_ ?_ h
        · rw [e9]; simpa [zI1, mAt] using n6
        · rw [e9]; simpa [zI1, mAt] using g48
        · rw [e9]; simpa [zI1, mAt] using g47
        · intro _; rw [e9]; simp [zI1]
        · intro i y hi hy
          have ho := old6 i y hi hy
          rw [e9]
          simpa [zI1, mAt, Nat.ne_of_lt hi] using ho
      · rw [if_neg q0, mW_ok] at h
        exact tail (a + 1) s6 (Nat.le_refl _) h6 n6 g48 g47 (fun z => absurd z q0) old6 h
    · rw [if_pos (by omega)] at h
      have e48 : (mAt s3 (B + (a + 1))).1 48 l.length = nI (B + a) := by rw [e3]; simp [zI1, mAt]
      rw [e48]
      exact sp_throw (k := 1) (h3.at (by omega)).1.1 h

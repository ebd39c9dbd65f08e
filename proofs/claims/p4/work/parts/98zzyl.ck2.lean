/-! check: the beginning -/
theorem lN_all (w : Int64) : ∃ k, w = lN k := ⟨w.toBitVec.toNat, Int64.toBitVec_inj.1 (by show w.toBitVec = BitVec.ofNat 64 w.toBitVec.toNat; simp)⟩
def hdN (j : Nat) : Nat := if j = 1 then 97 else if j = 2 then 115 else if j = 3 then 109 else if j = 4 then 1 else 0
theorem hd_f : ∀ j, j < 8 → zt_HEADER_f j = nI (hdN j) ∧ hdN j < 256 := by decide +kernel
theorem mNeed_w {b : Nat → Nat} {e v a : Nat} : mNeed b e v a = (mOw b e v v a).bind fun r => .ok r.2 := by
  unfold mNeed mOw
  cases mOct b e a with
  | error q => rfl
  | ok r =>
    show (if r.1 = v then .ok r.2 else .error (1, a) : mE Nat) = Except.bind (if v ≤ r.1 ∧ r.1 ≤ v then .ok r else .error (1, a) : mE (Nat × Nat)) _
    by_cases q : r.1 = v
    · rw [if_pos q, if_pos (by omega)]; rfl
    · rw [if_neg q, if_neg (by omega)]; rfl
theorem MD_0 {σ s : zS} {b : Nat → Nat} {E : Nat} (h17 : ∀ i, i < 16 → s.1 17 i = -1) (h18 : ∀ i, i < 13 → s.1 18 i = 0) (h2 : ∀ i, 8 ≤ i → i ≤ 13 → s.1 2 i = 0) (h14 : s.2 2 14 = -1) (h85 : s.1 8 5 = 0) (h46 : s.1 4 6 = 1) (h35 : s.1 3 5 = 0) : MD s b E m0 0 := by
  refine ⟨⟨⟨Nat.zero_le _, fun i g hg => by cases hg⟩, ⟨Nat.zero_le _, h2 8 (by decide) (by decide), fun i x hx => by cases hx⟩, h2 9 (by decide) (by decide), ⟨Nat.zero_le _, h2 12 (by decide) (by decide), fun i x hx => by cases hx⟩, h2 13 (by decide) (by decide), h2 10 (by decide) (by decide), h2 11 (by decide) (by decide)⟩, ⟨h14, fun m hm => by cases hm⟩, ⟨Nat.zero_le _, fun i x hx => by cases hx⟩, ⟨⟨h85, Nat.zero_le _, fun i x hx => by cases hx⟩, fun j x hx => by cases hx⟩, h46, ?_, fun k a1 a2 => ?_, h35, lN_all _, ⟨by decide, by decide, by decide, by decide, by decide, by decide, by decide, by decide, by decide, by decide⟩, ⟨fun _ => rfl, fun _ => rfl, fun _ => rfl, fun _ => rfl, fun _ => rfl, fun _ => rfl, fun _ => rfl, fun _ => rfl, fun _ => rfl, fun _ => rfl, fun _ => rfl, fun _ => rfl⟩⟩
  · refine ⟨fun ⟨k, hk, hn⟩ => absurd (by rw [h17 k hk]; decide) hn, fun h => ?_⟩
    unfold wW at h
    rw [wIm_n (A := m0) rfl, wFn_n (A := m0) rfl, wTb_n (A := m0) rfl, wMm_n (A := m0) rfl, wGl_n (A := m0) rfl, wEx_n (A := m0) rfl, wSt_n (A := m0) rfl, wEl_n (A := m0) rfl, wBd_n (A := m0) rfl, wDt_n (A := m0) rfl] at h
    simp at h
  · rw [h18 k (by omega)]
    exact twelve (p := fun k => (0 : Int32) = nI (nIt m0 k)) ⟨rfl, rfl, rfl, rfl, rfl, rfl, rfl, rfl, rfl, rfl, rfl, rfl⟩ k a1 a2
def bgI (σ : zS) (b : Nat → Nat) (E : Nat) (K : zS → Prop) (m : Nat) (x1 : Int32) (s : zS) : Prop := ∃ j, m + j = 8 ∧ j ≤ 8 ∧ x1 = nI j ∧ ((cSt s b E j ∧ MD s b E m0 0 ∧ sQ σ s ∧ mW (mHead b E (8 - j) j) (fun r => ∀ s', cSt s' b E r → MD s' b E m0 0 → sQ σ s' → K s') (cEx σ K)) ∨ (∃ kk p, cEr s kk p ∧ sQ σ s ∧ cEx σ K kk p))
theorem ck_begin {σ : zS} {b : Nat → Nat} {E : Nat} {K : zS → Prop} {QX : zS → Prop} (hv : sV0 σ) (hb : cB σ b) (h1 : σ.1 1 1 = nI E) (hE : E ≤ 16000) (h : mW (mHead b E 8 0) (fun r => ∀ s', cSt s' b E r → MD s' b E m0 0 → sQ σ s' → K s') (cEx σ K)) : zCT zZC zmX6_begin [.ref 3] σ (zQv K) QX := by
  refine rX6_begin (bgI σ b E K) ?_ ?_
  · rintro m x1 s ⟨j, hm, hj, rfl, hI⟩
    unfold PX6_begin_28
    have c1 : nI zt_HEADER_n ≤ nI j ↔ 8 ≤ j := nI_leI (a := 8) (by decide) (by omega)
    rw [c1]
    refine ⟨fun q => ?_, fun q => ⟨vp_in_nI (show j < 8 by omega) (by decide), vp_in_nI (show j < 8 by omega) (by decide), ?_⟩⟩
    · have e : j = 8 := by omega
      subst e
      rcases hI with ⟨hs, hM, hq, hw⟩ | ⟨kk, p, her, hq, hx⟩
      · exact hw s hs hM hq
      · exact hx s her.x hq
    · obtain ⟨t1, t2⟩ := hd_f j (by omega)
      rw [nI_clamp (by omega), t1]
      rcases hI with ⟨hs, hM, hq, hw⟩ | ⟨kk, p, her, hq, hx⟩
      · rw [show 8 - j = (7 - j) + 1 by omega] at hw
        have hw : mW ((mNeed b E (hdN j) j).bind fun r => mHead b E (7 - j) r) (fun r => ∀ s', cSt s' b E r → MD s' b E m0 0 → sQ σ s' → K s') (cEx σ K) := hw
        rw [mNeed_w, mW_bind, mW_bind] at hw
        refine rd_octetWithin (hdN j) (hdN j) hs rfl rfl t2 t2 (mW_mono hw (fun r hr hw s1 k1 hs1 => ?_) (fun kk p _ h2 v s1 her q1 => ⟨m - 1, by show m - 1 < m; omega, j + 1, by omega, by omega, nI_1 j, Or.inr ⟨kk, p, her, hq.trans q1, h2⟩⟩))
        obtain ⟨w1, w2, -, -⟩ := mOw_in hr
        have e2 : r.2 = j + 1 := by rw [w2]
        have hw : mW (mHead b E (7 - j) r.2) (fun r => ∀ s', cSt s' b E r → MD s' b E m0 0 → sQ σ s' → K s') (cEx σ K) := hw
        rw [e2] at hw hs1
        exact ⟨m - 1, by show m - 1 < m; omega, j + 1, by omega, by omega, nI_1 j, Or.inl ⟨hs1, MD_g k1.g (by decide) hM, hq.trans k1.q, by rw [show 8 - (j + 1) = 7 - j by omega]; exact hw⟩⟩
      · exact sf_X4_octetWithin her.v (fun r2 s1 k => ⟨m - 1, by show m - 1 < m; omega, j + 1, by omega, by omega, nI_1 j, Or.inr ⟨kk, p, her.keep k, hq.trans k.q, hx⟩⟩)
  · unfold PX6_begin_0
    refine rX4_restart ?_
    unfold PX4_restart_0
    intro s1 e1 s2 e2 s3 e3 s4 e4
    have n11 : s1.1 1 1 = nI E := by rw [e1, zI1, if_neg (by omega)]; exact h1
    have g4 : ∀ c i, ¬ (c = 1 ∧ 2 ≤ i) → s4.1 c i = σ.1 c i := fun c i hc => by
      rw [e4, zI1, if_neg (by omega), e3, zI1, if_neg (by omega), e2, zI1, if_neg (by omega), e1, zI1, if_neg (by omega)]
    refine sc_clear (fun s5 h5 => ?_)
    refine rX1_begin ?_
    unfold PX1_begin_0
    intro s6 e6
    refine ⟨Or.inr rfl, fun s7 e7 s8 e8 => ?_⟩
    have g8 : ∀ c i, ¬ c = 2 → ¬ c = 17 → ¬ c = 18 → ¬ c = 3 → ¬ c = 4 → ¬ c = 8 → s8.1 c i = s4.1 c i := fun c i a1 a2 a3 a4 a5 a6 => by
      rw [e8, zI1, if_neg (by omega), e7, zI1, if_neg (by omega), e6, zI1, if_neg (by omega)]; exact (h5.1 c i a1 a2 a3).1
    have k8 : ∀ c i, c = 2 ∨ c = 17 ∨ c = 18 → s8.1 c i = s5.1 c i ∧ s8.2 c i = s5.2 c i := fun c i hc => by
      rw [e8, e7, e6]
      exact ⟨by rw [zI1, if_neg (by omega), zI1, if_neg (by omega), zI1, if_neg (by omega)], rfl⟩
    have v8 : sV s8 := by
      obtain ⟨v1, v2, v3, v4⟩ := hv
      refine ⟨?_, ?_, ?_, ?_, ?_, ?_, ?_, fun i => ?_⟩
      · rw [(k8 2 8 (by omega)).1, h5.2.2.2.1 8 (by decide) (by decide)]; decide
      · rw [(k8 2 12 (by omega)).1, h5.2.2.2.1 12 (by decide) (by decide)]; decide
      · rw [g8 7 3 (by decide) (by decide) (by decide) (by decide) (by decide) (by decide), g4 _ _ (by omega)]; exact v1
      · rw [g8 5 7 (by decide) (by decide) (by decide) (by decide) (by decide) (by decide), g4 _ _ (by omega)]; exact v2
      · rw [(k8 18 1 (by omega)).1, h5.2.2.1 1 (by decide)]; decide
      · rw [(k8 18 7 (by omega)).1, h5.2.2.1 7 (by decide)]; decide
      · rw [g8 5 5 (by decide) (by decide) (by decide) (by decide) (by decide) (by decide), g4 _ _ (by omega)]; exact v3
      · rw [g8 32 i (by decide) (by decide) (by decide) (by decide) (by decide) (by decide), g4 _ _ (by omega)]; exact v4 i
    have f1 : ∀ i, s8.1 1 i = s4.1 1 i := fun i => g8 1 i (by decide) (by decide) (by decide) (by decide) (by decide) (by decide)
    have st : cSt s8 b E 0 := by
      refine ⟨fun j hj => ⟨(hb j hj).1, ?_⟩, hE, ?_, ?_, ?_, Nat.zero_le _, v8⟩
      · rw [g8 10 j (by decide) (by decide) (by decide) (by decide) (by decide) (by decide), g4 _ _ (by omega)]; exact (hb j hj).2
      · rw [f1, e4, zI1, if_neg (by omega), e3, zI1, if_pos ⟨rfl, rfl⟩]
      · rw [f1, e4, zI1, if_neg (by omega), e3, zI1, if_neg (by omega), e2, zI1, if_neg (by omega), e1, zI1, if_pos ⟨rfl, rfl⟩]; rfl
      · rw [f1, e4, zI1, if_neg (by omega), e3, zI1, if_neg (by omega), e2, zI1, if_pos ⟨rfl, rfl⟩]; exact n11
    have q8 : sQ σ s8 := fun c i hc => by
      rw [g8 c i (by omega) (by omega) (by omega) (by omega) (by omega) (by omega)]
      by_cases q : c = 1
      · subst q
        have hi : i = 1 := by omega
        subst hi
        exact g4 1 1 (by omega)
      · exact g4 c i (by omega)
    exact ⟨8, trivial, 0, rfl, by decide, rfl, Or.inl ⟨st, MD_0 (σ := σ) (fun i hi => by rw [(k8 17 i (by omega)).1]; exact h5.2.1 i hi) (fun i hi => by rw [(k8 18 i (by omega)).1]; exact h5.2.2.1 i hi) (fun i a1 a2 => by rw [(k8 2 i (by omega)).1]; exact h5.2.2.2.1 i a1 a2) (by rw [(k8 2 14 (by omega)).2]; exact h5.2.2.2.2) (by rw [e8, zI1, if_neg (by omega), e7, zI1, if_neg (by omega), e6, zI1, if_pos ⟨rfl, rfl⟩]) (by rw [e8, zI1, if_neg (by omega), e7, zI1, if_pos ⟨rfl, rfl⟩]) (by rw [e8, zI1, if_pos ⟨rfl, rfl⟩]), q8, h⟩⟩

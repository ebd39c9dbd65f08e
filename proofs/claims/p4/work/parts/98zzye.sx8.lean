/-! a section's number, a section of number 0, and what sections tell of one another -/
def mP0 (b : Nat → Nat) (e a : Nat) : mE (Unit × Nat) := (mName b e false a).bind fun _ => .ok ((), e)
theorem st_0 {b : Nat → Nat} {e E n : Nat} {A : mA} {QX : zS → Prop} (hB : mBn A) (l : List Unit) (p : Nat) (σ : zS) (K' : zS → Prop) (hs : cSt σ b e p) (hM : MD σ b E A n) (h : mW (mP0 b e p) (fun r => ∀ s', sQ σ s' → (∀ u, u = zsI s' 18 0 ((s'.1 18 0) + (1 : Int32)) → cSt u b e r.2 ∧ MD u b E A n) → K' s') (cEv σ K')) : rsI QX 0 (nI l.length) σ K' := by
  show zCT zZC zmX4_name [.ref 1] σ (zQi (fun r u => zCT zZC zmX4_skipRest [.ref 1] u (zQv K') QX)) QX
  unfold mP0 at h
  rw [mW_bind] at h
  refine rd_name hs (mW_mono h (fun r hr h s1 k1 hs1 => ?_) (fun k p hq h2 v s1 her q1 => sf_X4_skipRest her.v (fun s2 k2 => h2.go q1 her s2 k2)))
  refine rd_skipRest hs1 (fun s' k2 hs' => ?_)
  have g : gF [0] σ s' := k1.g.trans k2.g
  refine h s' (g.q (by decide)) (fun u eu => ?_)
  obtain ⟨r1, r2, r3, r4, r5, r6, r7, r8, r9, r10, r11⟩ := MD_g g (by decide) hM
  have g8 := u18 eu
  have hI : itM u A := fun k a1 a2 => by rw [eu, zI1, if_neg (by omega)]; exact r7 k a1 a2
  refine ⟨cSt_18 hs' eu hI hB, mdK_g g8 (by decide) (by decide) (by decide) (by decide) (by decide) r1, mdT_g g8 (by decide) r2, nmR_q (g8.g (by decide)) r3, cdM_g g8 (by decide) r4, ?_, ?_, hI, ?_, ?_, hB, r11⟩
  · rw [(g8.g (k := 11) (by decide) 4 6 rfl).1]; exact r5
  · rw [wr_q (g8.g (by decide))]; exact r6
  · rw [(g8.g (k := 10) (by decide) 3 5 rfl).1]; exact r8
  · rw [(g8.g (k := 14) (by decide) 6 4 rfl).2]; exact r9
theorem zt_order : ∀ k, k < 13 → zt_SECTION_ORDER_f k = nI (mOrd k) ∧ mOrd k ≤ 12 := by decide +kernel
/-- a section's number, n the place in the order of the last one -/
def mSn (b : Nat → Nat) (e n a : Nat) : mE (Nat × Nat) := (mOw b e 0 12 a).bind fun r => if ¬ r.1 = 0 ∧ mOrd r.1 ≤ n then .error (1, a) else .ok r
theorem m10 : cown 3 5 ∈ [10] := List.mem_singleton.2 rfl
theorem rd_sectionNumber {s : zS} {b : Nat → Nat} {e a n : Nat} {K : Int32 → zS → Prop} {QX : zS → Prop} (hs : cSt s b e a) (hl : s.1 3 5 = nI n) (hn : n ≤ 12) (h : mW (mSn b e n a) (fun r => ∀ s', gF [0, 10] s s' → cSt s' b e r.2 → s'.1 3 5 = nI (if r.1 = 0 then n else mOrd r.1) → r.1 ≤ 12 → K (nI r.1) s') (cEi s K)) : zCT zZC zmX6_readSectionNumber [.ref 3] s (zQi K) QX := by
  refine rX6_readSectionNumber ?_
  unfold PX6_readSectionNumber_0
  unfold mSn at h
  rw [mW_bind] at h
  refine rd_octetWithin 0 12 hs rfl rfl (by decide) (by decide) (mW_mono h (fun r hr h s1 k1 hs1 => ?_) (fun k p hq h2 v s1 her q1 => er_X6_readSectionNumber_0_0 her.v (h2.go q1 her)))
  obtain ⟨w1, w2, w3, w4⟩ := mOw_in hr
  have c0 : nI r.1 ≤ (0 : Int32) ↔ r.1 ≤ 0 := nI_leI (b := 0) (by omega) (by decide)
  have c13 : nI r.1 < (13 : Int32) ↔ r.1 < 13 := nI_ltI (b := 13) (by omega) (by decide)
  have g1 := k1.g
  have h35 : s1.1 3 5 = nI n := by rw [(g1.g (k := 10) (by decide) 3 5 rfl).1]; exact hl
  have vp : vp_in (nI r.1) zt_SECTION_ORDER_n := vp_in_nI (by show r.1 < 13; omega) (by decide)
  obtain ⟨t1, t2⟩ := zt_order r.1 (by omega)
  have c35 : s1.1 3 5 < zt_SECTION_ORDER_f r.1 ↔ n < mOrd r.1 := by rw [h35, t1]; exact nI_ltI (by omega) (by omega)
  rw [c0, c13, nI_clamp (by omega), c35]
  refine ⟨fun q => ?_, fun q => ⟨fun _ => ⟨vp, fun q2 => ⟨vp, fun s3 e3 => ?_⟩, fun q2 => ?_⟩, fun z => absurd (by omega) z⟩⟩
  · have e0 : r.1 = 0 := by omega
    rw [if_neg (fun z => z.1 e0)] at h
    have := h s1 (g1.mono (by decide)) hs1 (by rw [if_pos e0]; exact h35) w4
    rw [e0] at this
    exact this
  · rw [if_neg (fun z => by omega)] at h
    have g3 : gF [10] s1 s3 := by rw [e3]; exact gF.rf.i _ m10
    have k3 : sR s1 s3 := by rw [e3]; exact (sR.rf hs1.v).i _ (by omega)
    exact h s3 ((g1.mono (by decide)).trans (g3.mono (by decide))) (g3.st (by decide) (by decide) k3.2 hs1) (by rw [e3, zI1, if_pos ⟨rfl, rfl⟩, if_neg (by omega)]; exact t1) w4
  · rw [if_pos ⟨by omega, by omega⟩] at h
    refine rd_fail 1 a hs1 (by decide) hs.2.2.2.1 (fun s4 her q4 => ⟨vp, fun s5 e5 => ?_⟩)
    have k5 : sR s4 s5 := by rw [e5]; exact (sR.rf her.v).i _ (by omega)
    exact h _ s5 (her.keep k5) ((g1.q (by decide)).trans (q4.trans k5.q))
theorem rd_fit {s : zS} {b : Nat → Nat} {e a k : Nat} {A : mA} {K : zS → Prop} {QX : zS → Prop} (hs : cSt s b e a) (hk : k < 13) (hB : mBn A) (hI : itM s A) (hT : mdT s A) (h : mW (if mNoFit A k = true then .error (1, a) else .ok () : mE Unit) (fun _ => K s) (cEv s K)) : zCT zZC zmX6_fit [.ref 3, .int (nI k)] s (zQv K) QX := by
  obtain ⟨b1, b2, b3, b4, b5, b6, b7, b8, b9, b10⟩ := hB
  refine rX6_fit ?_
  unfold PX6_fit_0
  have c10 : nI k = (10 : Int32) ↔ k = 10 := nI_eq (b := 10) (by omega) (by decide)
  have c11 : nI k = (11 : Int32) ↔ k = 11 := nI_eq (b := 11) (by omega) (by decide)
  have i10 : s.1 18 (10 : Int32).toNatClampNeg = nI (aD A).length := hI 10 (by decide) (by decide)
  have i3 : s.1 18 (3 : Int32).toNatClampNeg = nI (aF A).length := hI 3 (by decide) (by decide)
  have i11 : s.1 18 (11 : Int32).toNatClampNeg = nI (aZ A).length := hI 11 (by decide) (by decide)
  have v : ∀ j, j < 13 → vp_in (nI j) 13 := fun j hj => vp_in_nI hj (by decide)
  have ce : nI (aD A).length = nI (aF A).length ↔ (aD A).length = (aF A).length := nI_eq (by omega) (by omega)
  rw [c10, c11, i10, i3, i11, ce]
  unfold mNoFit at h
  refine ⟨fun q => ⟨v 10 (by decide), v 3 (by decide), fun q2 => ⟨fun z => absurd z (by omega), fun _ => ?_⟩, fun q2 => ?_⟩, fun q => ⟨fun q2 => ⟨fun q3 => ?_, fun q3 => ⟨v 11 (by decide), fun q4 => ?_, fun q4 => ?_⟩⟩, fun q2 => ?_⟩⟩
  · rw [decide_eq_true q2, decide_eq_false (show ¬ k = 11 by omega)] at h
    rw [if_neg (by simp)] at h
    exact h
  · rw [decide_eq_false q2, decide_eq_true q, if_pos (by simp)] at h
    refine rd_fail 1 a hs (by decide) hs.2.2.2.1 (fun s2 her q5 => ⟨fun z => absurd z (by omega), fun _ => h s2 her q5⟩)
  · have hn : aC A = none := by
      cases hC : aC A with
      | none => rfl
      | some m =>
        have h1 := hT.1
        have h2 := hT.2 m hC
        rw [hC] at h1
        have h1 : s.2 2 14 = lN m := h1
        rw [h1] at q3
        exact absurd ((lN_ltB (b := 0) (by omega) (by decide)).1 q3) (Nat.not_lt_zero _)
    rw [hn, decide_eq_false q, if_neg (by simp)] at h
    exact h
  · cases hC : aC A with
    | none => rw [hC, decide_eq_false q, if_neg (by simp)] at h; exact h
    | some m =>
      have h1 := hT.1
      have h2 := hT.2 m hC
      rw [hC] at h1
      have h1 : s.2 2 14 = lN m := h1
      rw [h1, nI_l (by omega), lN_eqB (by omega) (by omega)] at q4
      rw [hC, decide_eq_false q, decide_eq_true q2] at h
      have h : mW (if (false && !decide ((aD A).length = (aF A).length) || true && !decide ((aZ A).length = m)) = true then .error (1, a) else .ok () : mE Unit) (fun _ => K s) (cEv s K) := h
      rw [decide_eq_true q4, if_neg (by simp)] at h
      exact h
  · cases hC : aC A with
    | none =>
      have h1 := hT.1
      rw [hC] at h1
      have h1 : s.2 2 14 = -1 := h1
      rw [h1] at q3
      exact absurd (by decide) q3
    | some m =>
      have h1 := hT.1
      have h2 := hT.2 m hC
      rw [hC] at h1
      have h1 : s.2 2 14 = lN m := h1
      rw [h1, nI_l (by omega), lN_eqB (by omega) (by omega)] at q4
      rw [hC, decide_eq_false q, decide_eq_true q2] at h
      have h : mW (if (false && !decide ((aD A).length = (aF A).length) || true && !decide ((aZ A).length = m)) = true then .error (1, a) else .ok () : mE Unit) (fun _ => K s) (cEv s K) := h
      rw [decide_eq_false q4, if_pos (by simp)] at h
      exact rd_fail 1 a hs (by decide) hs.2.2.2.1 (fun s2 her q5 => h s2 her q5)
  · rw [decide_eq_false q, decide_eq_false q2, if_neg (by simp)] at h
    exact h

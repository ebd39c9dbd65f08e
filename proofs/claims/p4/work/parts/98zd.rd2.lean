theorem rd_number {s : zS} {b : Nat → Nat} {e a : Nat} {K : Int64 → zS → Prop} {QX : zS → Prop} (hs : cSt s b e a) (h : mW (mU b e a) (fun r => ∀ s', fK s s' → cSt s' b e r.2 → K (lN r.1) s') (cEl s K)) : zCT zZC zmX4_number [.ref 1] s (zQl K) QX := by
  refine rX4_number (fun m x1 x2 x4 σ => (∃ k v a', m + k = 5 ∧ x1 = nI a ∧ x2 = lN v ∧ v < 2 ^ (7 * k) ∧ x4 = nI k ∧ fK s σ ∧ cSt σ b e a' ∧ mW (mUk b e a m k v a') (fun r => ∀ s', fK s s' → cSt s' b e r.2 → K (lN r.1) s') (cEl s K)) ∨ (∃ kk p, cEr σ kk p ∧ sQ s σ ∧ cEl s K kk p)) ?_ ?_
  · rintro m x1 x2 x4 σ (⟨k, v, a', hmk, rfl, rfl, hv, rfl, hk, hs', hw⟩ | ⟨kk, p, her, q, hE⟩)
    · unfold PX4_number_10
      have c5 : (5 : Int32) ≤ nI k ↔ 5 ≤ k := nI_leI (a := 5) (by omega) (by omega)
      have c4 : nI k = (4 : Int32) ↔ k = 4 := nI_eq (b := 4) (by omega) (by omega)
      rw [c5, hs'.2.2.1]
      refine ⟨fun hc => ⟨fun _ => ?_, fun z => absurd rfl z⟩, fun hc => ⟨fun _ => ?_, fun z => absurd rfl z⟩⟩
      · have hm : m = 0 := by omega
        subst hm
        exact hw σ hk hs'
      · obtain ⟨m, rfl⟩ : ∃ q, m = q + 1 := ⟨m - 1, by omega⟩
        unfold mUk at hw
        rw [mW_bind] at hw
        have er : ∀ kk p, ∀ z, cEr z kk p → sQ s z → cEl s K kk p → ∀ (x1 : Int32) (x2 : Int64) (x4 : Int32), ∃ n', zlt n' (some (m + 1)) ∧ ((∃ k v a', n' + k = 5 ∧ x1 = nI a ∧ x2 = lN v ∧ v < 2 ^ (7 * k) ∧ x4 = nI k ∧ fK s z ∧ cSt z b e a' ∧ mW (mUk b e a n' k v a') (fun r => ∀ s', fK s s' → cSt s' b e r.2 → K (lN r.1) s') (cEl s K)) ∨ (∃ kk p, cEr z kk p ∧ sQ s z ∧ cEl s K kk p)) :=
          fun kk p z h1 h2 h3 _ _ _ => ⟨m, Nat.lt_succ_self m, Or.inr ⟨kk, p, h1, h2, h3⟩⟩
        refine rd_octet hs' (mW_mono hw (fun r hr hw s1 k1 hs1 => ?_) (fun kk p hq h2 v1 s1 her q1 => ?_))
        · obtain ⟨h1, rfl⟩ := mOct_in hr
          have hba := (hs'.1 a' (by have := hs'.2.1; omega)).1
          have c6 : nI (b a') ≤ (15 : Int32) ↔ b a' ≤ 15 := nI_leI (b := 15) (by omega) (by omega)
          have c7 : (128 : Int32) ≤ nI (b a') ↔ 128 ≤ b a' := nI_leI (a := 128) (by omega) (by omega)
          have hnext : ¬ (k = 4 ∧ 15 < b a') → ¬ b a' < 128 → ∃ n', zlt n' (some (m + 1)) ∧ ((∃ k' v' a'', n' + k' = 5 ∧ nI a = nI a ∧ lN (v + b a' % 128 * 2 ^ (7 * k)) = lN v' ∧ v' < 2 ^ (7 * k') ∧ nI k + 1 = nI k' ∧ fK s s1 ∧ cSt s1 b e a'' ∧ mW (mUk b e a n' k' v' a'') (fun r => ∀ s', fK s s' → cSt s' b e r.2 → K (lN r.1) s') (cEl s K)) ∨ (∃ kk p, cEr s1 kk p ∧ sQ s s1 ∧ cEl s K kk p)) := by
            intro z1 z2
            refine ⟨m, Nat.lt_succ_self m, Or.inl ⟨k + 1, v + b a' % 128 * 2 ^ (7 * k), a' + 1, by omega, rfl, rfl, ?_, nI_1 k, hk.trans k1, hs1, ?_⟩⟩
            · have hm : b a' % 128 ≤ 127 := by have := Nat.mod_lt (b a') (show 0 < 128 by decide); omega
              have h3 : b a' % 128 * 2 ^ (7 * k) ≤ 127 * 2 ^ (7 * k) := Nat.mul_le_mul_right _ hm
              have h4 : 2 ^ (7 * (k + 1)) = 128 * 2 ^ (7 * k) := by rw [show 7 * (k + 1) = 7 + 7 * k by omega, Nat.pow_add]
              omega
            · rw [if_neg z1, if_neg z2] at hw
              exact hw
          have hdone : ¬ (k = 4 ∧ 15 < b a') → b a' < 128 → K (lN (v + b a' % 128 * 2 ^ (7 * k))) s1 := by
            intro z1 z2
            rw [if_neg z1, if_pos z2] at hw
            exact hw s1 (hk.trans k1) hs1
          rw [mStep hba (show k < 9 by omega) hv, c4, c6, c7, hs1.2.2.1]
          refine ⟨fun c => ⟨fun c2 => ⟨fun c3 => hnext (by omega) (by omega), fun c3 => ⟨fun _ => hdone (by omega) (by omega), fun z => absurd rfl z⟩⟩, fun c2 => ?_⟩, fun c => ⟨fun c3 => hnext (by omega) (by omega), fun c3 => ⟨fun _ => hdone (by omega) (by omega), fun z => absurd rfl z⟩⟩⟩
          rw [if_pos ⟨c, by omega⟩] at hw
          have hw : cEl s K 1 a := hw
          refine rd_fail 1 a hs1 (by decide) rfl (fun s3 her q3 => ?_)
          have q4 := (hk.trans k1).q.trans q3
          have h0 := her.bad
          exact ⟨fun _ => er 1 a s3 her q4 hw _ _ _, fun _ => ⟨fun z => absurd z h0, fun _ => hw _ _ her q4⟩⟩
        · have q4 := hk.q.trans q1
          have h0 := her.bad
          have nx := fun x1 x2 x4 => er kk p s1 her q4 h2 x1 x2 x4
          refine ⟨fun _ => ⟨fun _ => ⟨fun _ => nx _ _ _, fun _ => ⟨fun z => absurd z h0, fun _ => h2 _ _ her q4⟩⟩, fun _ => ?_⟩, fun _ => ⟨fun _ => nx _ _ _, fun _ => ⟨fun z => absurd z h0, fun _ => h2 _ _ her q4⟩⟩⟩
          refine sf_X4_fail her.v (fun s3 k3 => ?_)
          have her3 := her.keep k3
          have q5 := q4.trans k3.q
          exact ⟨fun _ => er kk p s3 her3 q5 h2 _ _ _, fun _ => ⟨fun z => absurd z her3.bad, fun _ => h2 _ _ her3 q5⟩⟩
    · unfold PX4_number_10
      have h0 := her.bad
      exact ⟨fun _ => ⟨fun z => absurd z h0, fun _ => hE _ _ her q⟩, fun _ => ⟨fun z => absurd z h0, fun _ => ⟨fun z => absurd z h0, fun _ => hE _ _ her q⟩⟩⟩
  · unfold PX4_number_0
    rw [hs.2.2.2.1]
    exact ⟨5, trivial, Or.inl ⟨0, 0, a, rfl, rfl, rfl, by decide, rfl, fK.rf, hs, h⟩⟩
theorem rd_rowLength {s : zS} {b : Nat → Nat} {e a : Nat} {K : Int32 → zS → Prop} {QX : zS → Prop} (hs : cSt s b e a) (h : mW (mU b e a) (fun r => ∀ s', fK s s' → cSt s' b e r.2 → K (nI (min r.1 16000)) s') (cEi s K)) : zCT zZC zmX4_rowLength [.ref 1] s (zQi K) QX := by
  refine rX4_rowLength ?_
  unfold PX4_rowLength_0
  refine rd_number hs (mW_mono h (fun r hr h s1 k1 hs1 => ?_) (fun k p hq h2 v s1 her q1 => h2 _ _ her q1))
  have hlt := mU_lt hr
  have c : (16000 : Int64) < lN r.1 ↔ 16000 < r.1 := by
    rw [← Int64.not_le, show (16000 : Int64) = lN 16000 from rfl, lN_leB (by omega) (by decide)]
    omega
  have e1 : ((if (16000 : Int64) < lN r.1 then (16000 : Int64) else lN r.1).toInt32) = nI (min r.1 16000) := by
    by_cases q : 16000 < r.1
    · rw [if_pos (c.2 q), Nat.min_eq_right (by omega)]; rfl
    · rw [if_neg (fun z => q (c.1 z)), Nat.min_eq_left (by omega), lN_i]
  rw [e1]
  exact h s1 k1 hs1
def mLen (b : Nat → Nat) (e a : Nat) : mE (Nat × Nat) := (mU b e a).bind fun z => if e - z.2 < z.1 then .error (1, a) else .ok z
theorem rd_length {s : zS} {b : Nat → Nat} {e a : Nat} {K : Int32 → zS → Prop} {QX : zS → Prop} (hs : cSt s b e a) (h : mW (mLen b e a) (fun r => ∀ s', fK s s' → cSt s' b e r.2 → K (nI r.1) s') (cEi s K)) : zCT zZC zmX4_length [.ref 1] s (zQi K) QX := by
  refine rX4_length ?_
  unfold PX4_length_0
  unfold mLen at h
  rw [mW_bind] at h
  refine rd_number hs (mW_mono h (fun r hr h s1 k1 hs1 => ?_) (fun k p hq h2 v s1 her q1 => er_X4_length_0_0 her.v (h2.go q1 her)))
  have hlt := mU_lt hr
  have hin := mU_in hr hs.2.2.2.2.2.1
  have he := hs.2.1
  have c : lN r.1 ≤ (((s1.1 1 3) - (s1.1 1 2)).toInt64) ↔ r.1 ≤ e - r.2 := by
    rw [hs1.2.2.2.2.1, hs1.2.2.2.1, pk_sub hin.2, nI_l (by omega), lN_leB (by omega) (by omega)]
  rw [hs1.2.2.1, c]
  refine ⟨fun c2 => ⟨fun _ => ?_, fun z => absurd rfl z⟩, fun c2 => ?_⟩
  · rw [if_neg (by omega)] at h
    rw [lN_i]
    exact h s1 k1 hs1
  · rw [if_pos (by omega)] at h
    exact rd_fail 1 a hs1 (by decide) hs.2.2.2.1 (fun s3 her q3 => er_X4_length_0_1 her.v (cEi.go (k := 1) (p := a) h (k1.q.trans q3) her))
theorem rd_enter {s : zS} {b : Nat → Nat} {e a : Nat} {K : Int32 → zS → Prop} {QX : zS → Prop} (hs : cSt s b e a) (h : mW (mLen b e a) (fun r => ∀ s', fK s s' → cSt s' b (r.2 + r.1) r.2 → K (nI e) s') (cEi s K)) : zCT zZC zmX4_enter [.ref 1] s (zQi K) QX := by
  refine rX4_enter ?_
  unfold PX4_enter_0
  have he := hs.2.1
  refine rd_length hs (mW_mono h (fun r hr h s1 k1 hs1 => ?_) (fun k p hq h2 v s1 her q1 => er_X4_enter_0_0 her.v (h2.go q1 her)))
  have hin : r.1 ≤ e - r.2 := by
    unfold mLen at hr
    cases hu : mU b e a with
    | error q => rw [hu] at hr; cases hr
    | ok u =>
      rw [hu] at hr
      have hr : (if e - u.2 < u.1 then (.error (1, a) : mE (Nat × Nat)) else .ok u) = .ok r := hr
      by_cases q : e - u.2 < u.1
      · rw [if_pos q] at hr; cases hr
      · rw [if_neg q] at hr; cases hr; omega
  have hle := hs1.2.2.2.2.2.1
  rw [hs1.2.2.1, hs1.2.2.2.1, hs.2.2.2.2.1, nI_add]
  refine ⟨fun _ s3 e3 => ?_, fun z => absurd rfl z⟩
  rw [e3]
  exact h _ (k1.i _ (by omega)) (hs1.end (by omega) (by omega))
/-- leaving: all must be read -/
theorem rd_leave {s : zS} {b : Nat → Nat} {e a E : Nat} {w : Int32} {K : zS → Prop} {QX : zS → Prop} (hs : cSt s b e a) (hw : w = nI E) (hE : e ≤ E ∧ E ≤ 16000) (h : mW (if a < e then .error (1, a) else .ok a : mE Nat) (fun r => ∀ s', fK s s' → cSt s' b E r → K s') (cEv s K)) : zCT zZC zmX4_leave [.ref 1, .int w] s (zQv K) QX := by
  refine rX4_leave ?_
  unfold PX4_leave_0
  have c : nI e ≤ nI a ↔ e ≤ a := nI_leI (by have := hs.2.1; omega) (by have := hs.2.1; have := hs.2.2.2.2.2.1; omega)
  rw [hs.2.2.2.2.1, hs.2.2.2.1, c, hw]
  refine ⟨fun c s1 e1 => ?_, fun c => ?_⟩
  · rw [if_neg (by omega)] at h
    rw [e1]
    exact h _ (fK.rf.i _ (by omega)) (hs.end (by have := hs.2.2.2.2.2.1; omega) hE.2)
  · rw [if_pos (by omega)] at h
    exact rd_fail 1 a hs (by decide) rfl (fun s3 her q3 => er_X4_leave_0_0 her.v (cEv.go (k := 1) (p := a) h q3 her))
theorem rd_skipRest {s : zS} {b : Nat → Nat} {e a : Nat} {K : zS → Prop} {QX : zS → Prop} (hs : cSt s b e a) (h : ∀ s', fK s s' → cSt s' b e e → K s') : zCT zZC zmX4_skipRest [.ref 1] s (zQv K) QX := by
  refine rX4_skipRest ?_
  unfold PX4_skipRest_0
  intro s1 e1
  have hle := hs.2.2.2.2.2.1
  have he := hs.2.1
  have e2 : (if (s.1 1 2) < (s.1 1 3) then (s.1 1 3) else (s.1 1 2)) = nI e := by
    rw [hs.2.2.2.2.1, hs.2.2.2.1]
    by_cases q : a < e
    · rw [if_pos ((nI_ltI (by omega) (by omega)).2 q)]
    · rw [if_neg (fun z => q ((nI_ltI (by omega) (by omega)).1 z)), show a = e by omega]
  rw [e2] at e1
  rw [e1]
  exact h _ (fK.rf.i _ (by omega)) (hs.at (Nat.le_refl e))

theorem rd_skipSigned {s : zS} {b : Nat → Nat} {e a : Nat} (g lo hi : Nat) {x y : Int32} {K : zS → Prop} {QX : zS → Prop} (hs : cSt s b e a) (hx : x = nI g) (hy : y = nI lo) (hg : g ≤ 10) (hlo : lo ≤ 127) (hhi : hi = 127 - lo) (h : mW (mSg b e g lo hi a) (fun r => ∀ s', fK s s' → cSt s' b e r → K s') (cEv s K)) : zCT zZC zmX4_skipSigned [.ref 1, .int x, .int y] s (zQv K) QX := by
  have e7 : (127 : Int32) - nI lo = nI (127 - lo) := pk_sub (a := 127) hlo
  refine rX4_skipSigned (fun m x1 x2 x3 x4 σ => x1 = nI g ∧ x2 = nI lo ∧ x3 = nI a ∧ ((∃ k a', m + k = g ∧ x4 = nI (k + 1) ∧ fK s σ ∧ cSt σ b e a' ∧ mW (mSk b e a g lo hi m k a') (fun r => ∀ s', fK s s' → cSt s' b e r → K s') (cEv s K)) ∨ (∃ kk p, cEr σ kk p ∧ sQ s σ ∧ cEv s K kk p))) ?_ ?_
  · rintro m x1 x2 x3 x4 σ ⟨rfl, rfl, rfl, (⟨k, a', hmk, rfl, hk, hs', hw⟩ | ⟨kk, p, her, q, hE⟩)⟩
    · unfold PX4_skipSigned_8
      have c1 : nI g < nI (k + 1) ↔ g < k + 1 := nI_ltI (by omega) (by omega)
      have c2 : nI (k + 1) = nI g ↔ k + 1 = g := nI_eq (by omega) (by omega)
      rw [c1, c2, hs'.2.2.1, e7]
      refine ⟨fun hc => ?_, fun hc => ⟨fun _ => ?_, fun z => absurd rfl z⟩⟩
      · have hm : m = 0 := by omega
        subst hm
        exact hw σ hk hs'
      · obtain ⟨m, rfl⟩ : ∃ q, m = q + 1 := ⟨m - 1, by omega⟩
        unfold mSk at hw
        rw [mW_bind] at hw
        have er : ∀ kk p, ∀ z, cEr z kk p → sQ s z → cEv s K kk p → ∀ (x4 : Int32), ∃ n', zlt n' (some (m + 1)) ∧ nI g = nI g ∧ nI lo = nI lo ∧ nI a = nI a ∧ ((∃ k a', n' + k = g ∧ x4 = nI (k + 1) ∧ fK s z ∧ cSt z b e a' ∧ mW (mSk b e a g lo hi n' k a') (fun r => ∀ s', fK s s' → cSt s' b e r → K s') (cEv s K)) ∨ (∃ kk p, cEr z kk p ∧ sQ s z ∧ cEv s K kk p)) :=
          fun kk p z h1 h2 h3 _ => ⟨m, Nat.lt_succ_self m, rfl, rfl, rfl, Or.inr ⟨kk, p, h1, h2, h3⟩⟩
        refine rd_octet hs' (mW_mono hw (fun r hr hw s1 k1 hs1 => ?_) (fun kk p hq h2 v1 s1 her q1 => ?_))
        · obtain ⟨h1, rfl⟩ := mOct_in hr
          have hba := (hs'.1 a' (by have := hs'.2.1; omega)).1
          have c3 : nI (b a') ≤ nI lo ↔ b a' ≤ lo := nI_leI (by omega) (by omega)
          have c4 : nI (b a') < nI (127 - lo) ↔ b a' < 127 - lo := nI_ltI (by omega) (by omega)
          have c5 : nI (b a') ≤ (127 : Int32) ↔ b a' ≤ 127 := nI_leI (b := 127) (by omega) (by omega)
          have c6 : (128 : Int32) ≤ nI (b a') ↔ 128 ≤ b a' := nI_leI (a := 128) (by omega) (by omega)
          have hnext : ¬ (k + 1 = g ∧ lo < b a' ∧ (b a' < hi ∨ 127 < b a')) → ¬ b a' < 128 → ∃ n', zlt n' (some (m + 1)) ∧ nI g = nI g ∧ nI lo = nI lo ∧ nI a = nI a ∧ ((∃ k' a'', n' + k' = g ∧ nI (k + 1) + 1 = nI (k' + 1) ∧ fK s s1 ∧ cSt s1 b e a'' ∧ mW (mSk b e a g lo hi n' k' a'') (fun r => ∀ s', fK s s' → cSt s' b e r → K s') (cEv s K)) ∨ (∃ kk p, cEr s1 kk p ∧ sQ s s1 ∧ cEv s K kk p)) := by
            intro z1 z2
            refine ⟨m, Nat.lt_succ_self m, rfl, rfl, rfl, Or.inl ⟨k + 1, a' + 1, by omega, nI_1 _, hk.trans k1, hs1, ?_⟩⟩
            rw [if_neg z1, if_neg z2] at hw
            exact hw
          have hdone : ¬ (k + 1 = g ∧ lo < b a' ∧ (b a' < hi ∨ 127 < b a')) → b a' < 128 → K s1 := by
            intro z1 z2
            rw [if_neg z1, if_pos z2] at hw
            exact hw s1 (hk.trans k1) hs1
          have hbad : (k + 1 = g ∧ lo < b a' ∧ (b a' < hi ∨ 127 < b a')) → cEv s K 1 a := by
            intro z1
            rw [if_pos z1] at hw
            exact hw
          have hf : ∀ hw : cEv s K 1 a, ∀ s3, cEr s3 1 a → sQ s1 s3 → (∃ n', zlt n' (some (m + 1)) ∧ nI g = nI g ∧ nI lo = nI lo ∧ nI a = nI a ∧ ((∃ k' a'', n' + k' = g ∧ nI (k + 1) + 1 = nI (k' + 1) ∧ fK s s3 ∧ cSt s3 b e a'' ∧ mW (mSk b e a g lo hi n' k' a'') (fun r => ∀ s', fK s s' → cSt s' b e r → K s') (cEv s K)) ∨ (∃ kk p, cEr s3 kk p ∧ sQ s s3 ∧ cEv s K kk p))) ∧ K s3 := by
            intro hw s3 her q3
            have q4 := (hk.trans k1).q.trans q3
            exact ⟨er 1 a s3 her q4 hw _, hw _ her q4⟩
          rw [c3, c4, c5, c6]
          refine ⟨fun c => ⟨fun c2 => ⟨fun c3 => hnext (by omega) (by omega), fun c3 => hdone (by omega) (by omega)⟩, fun c2 => ⟨fun c4 => ?_, fun c4 => ⟨fun c5 => ⟨fun c3 => hnext (by omega) (by omega), fun c3 => hdone (by omega) (by omega)⟩, fun c5 => ?_⟩⟩⟩, fun c => ⟨fun c3 => hnext (by omega) (by omega), fun c3 => hdone (by omega) (by omega)⟩⟩
          · refine rd_fail 1 a hs1 (by decide) rfl (fun s3 her q3 => ?_)
            have f := hf (hbad (by omega)) s3 her q3
            exact ⟨fun _ => f.1, fun _ => f.2⟩
          · refine rd_fail 1 a hs1 (by decide) rfl (fun s3 her q3 => ?_)
            have f := hf (hbad (by omega)) s3 her q3
            exact ⟨fun _ => f.1, fun _ => f.2⟩
        · have q4 := hk.q.trans q1
          have nx := fun x4 => er kk p s1 her q4 h2 x4
          have f : ∀ z, sR s1 z → (∃ n', zlt n' (some (m + 1)) ∧ nI g = nI g ∧ nI lo = nI lo ∧ nI a = nI a ∧ ((∃ k' a'', n' + k' = g ∧ nI (k + 1) + 1 = nI (k' + 1) ∧ fK s z ∧ cSt z b e a'' ∧ mW (mSk b e a g lo hi n' k' a'') (fun r => ∀ s', fK s s' → cSt s' b e r → K s') (cEv s K)) ∨ (∃ kk p, cEr z kk p ∧ sQ s z ∧ cEv s K kk p))) ∧ K z := fun z kz =>
            ⟨er kk p z (her.keep kz) (q4.trans kz.q) h2 _, h2 _ (her.keep kz) (q4.trans kz.q)⟩
          have f1 := f s1 ⟨sK.rf, her.v⟩
          refine ⟨fun _ => ⟨fun _ => ⟨fun _ => f1.1, fun _ => f1.2⟩, fun _ => ⟨fun _ => ?_, fun _ => ⟨fun _ => ⟨fun _ => f1.1, fun _ => f1.2⟩, fun _ => ?_⟩⟩⟩, fun _ => ⟨fun _ => f1.1, fun _ => f1.2⟩⟩
          · exact sf_X4_fail her.v (fun s3 k3 => ⟨fun _ => (f s3 k3).1, fun _ => (f s3 k3).2⟩)
          · exact sf_X4_fail her.v (fun s3 k3 => ⟨fun _ => (f s3 k3).1, fun _ => (f s3 k3).2⟩)
    · unfold PX4_skipSigned_8
      have h0 := her.bad
      exact ⟨fun _ => hE _ her q, fun _ => ⟨fun z => absurd z h0, fun _ => hE _ her q⟩⟩
  · unfold PX4_skipSigned_0
    rw [hs.2.2.2.1, hx, hy]
    exact ⟨g, trivial, rfl, rfl, rfl, Or.inl ⟨0, a, rfl, rfl, fK.rf, hs, h⟩⟩
theorem mGood_false {b : Nat → Nat} {p j : Nat} : ∀ n, j < n → ¬ (33 ≤ b (p + j) ∧ b (p + j) ≤ 126) → mGood b p n = false := by
  intro n
  induction n with
  | zero => intro hj; exact absurd hj (Nat.not_lt_zero _)
  | succ n ih =>
    intro hj hb
    unfold mGood
    by_cases q : j < n
    · rw [ih q hb]; rfl
    · have e : j = n := by omega
      subst e
      cases mGood b p j
      · rfl
      · show (decide (33 ≤ b (p + j)) && decide (b (p + j) ≤ 126)) = false
        by_cases c : 33 ≤ b (p + j)
        · have c2 : ¬ b (p + j) ≤ 126 := fun z => hb ⟨c, z⟩
          rw [decide_eq_false c2, Bool.and_false]
        · rw [decide_eq_false c, Bool.false_and]
theorem rd_name {s : zS} {b : Nat → Nat} {e a : Nat} {K : Int32 → zS → Prop} {QX : zS → Prop} (hs : cSt s b e a) (h : mW (mName b e false a) (fun r => ∀ s', fK s s' → cSt s' b e r.2 → K (nI r.1.2) s') (cEi s K)) : zCT zZC zmX4_name [.ref 1] s (zQi K) QX := by
  have he := hs.2.1
  refine rX4_name (fun m x1 x4 x5 σ => (∃ n p j, m + j = 1000 ∧ x1 = nI a ∧ x4 = nI n ∧ x5 = nI j ∧ j ≤ n ∧ n ≤ 100 ∧ p + n ≤ e ∧ mGood b p j = true ∧ fK s σ ∧ cSt σ b e (p + j) ∧ mW (if mGood b p n = true then .ok ((p, n), p + n) else .error (1, a) : mE ((Nat × Nat) × Nat)) (fun r => ∀ s', fK s s' → cSt s' b e r.2 → K (nI r.1.2) s') (cEi s K)) ∨ (∃ kk p, cEr σ kk p ∧ sQ s σ ∧ cEi s K kk p)) ?_ ?_
  · rintro m x1 x4 x5 σ (⟨n, p, j, hmj, rfl, rfl, rfl, hjn, hn, hp, hg, hk, hs', hw⟩ | ⟨kk, p, her, q, hE⟩)
    · unfold PX4_name_63
      have c1 : nI n ≤ nI j ↔ n ≤ j := nI_leI (by omega) (by omega)
      rw [c1, hs'.2.2.1]
      refine ⟨fun hc => ⟨fun _ => ?_, fun z => absurd rfl z⟩, fun hc => ⟨fun _ => ?_, fun z => absurd rfl z⟩⟩
      · have e1 : j = n := by omega
        subst e1
        rw [if_pos hg] at hw
        exact hw σ hk hs'
      · have er : ∀ kk p, ∀ z, cEr z kk p → sQ s z → cEi s K kk p → ∀ (x1 x4 x5 : Int32), ∃ n', zlt n' (some m) ∧ ((∃ n p j, n' + j = 1000 ∧ x1 = nI a ∧ x4 = nI n ∧ x5 = nI j ∧ j ≤ n ∧ n ≤ 100 ∧ p + n ≤ e ∧ mGood b p j = true ∧ fK s z ∧ cSt z b e (p + j) ∧ mW (if mGood b p n = true then .ok ((p, n), p + n) else .error (1, a) : mE ((Nat × Nat) × Nat)) (fun r => ∀ s', fK s s' → cSt s' b e r.2 → K (nI r.1.2) s') (cEi s K)) ∨ (∃ kk p, cEr z kk p ∧ sQ s z ∧ cEi s K kk p)) :=
          fun kk p z h1 h2 h3 _ _ _ => ⟨m - 1, by show m - 1 < m; omega, Or.inr ⟨kk, p, h1, h2, h3⟩⟩
        have ho : mOct b e (p + j) = .ok (b (p + j), p + j + 1) := by unfold mOct; rw [if_pos (by omega)]
        refine rd_octet hs' ?_
        rw [ho, mW_ok]
        intro s1 k1 hs1
        have hba := (hs'.1 (p + j) (by omega)).1
        have c2 : nI (b (p + j)) < (33 : Int32) ↔ b (p + j) < 33 := nI_ltI (b := 33) (by omega) (by omega)
        have c3 : nI (b (p + j)) ≤ (126 : Int32) ↔ b (p + j) ≤ 126 := nI_leI (b := 126) (by omega) (by omega)
        rw [c2, c3]
        have hbad : ¬ (33 ≤ b (p + j) ∧ b (p + j) ≤ 126) → cEi s K 1 a := by
          intro z
          rw [mGood_false n (by omega) z, if_neg (by decide)] at hw
          exact hw
        refine ⟨fun c => ?_, fun c => ⟨fun c4 => ?_, fun c4 => ?_⟩⟩
        · exact rd_fail 1 a hs1 (by decide) rfl (fun s3 her q3 => er 1 a s3 her ((hk.trans k1).q.trans q3) (hbad (by omega)) _ _ _)
        · refine ⟨m - 1, by show m - 1 < m; omega, Or.inl ⟨n, p, j + 1, by omega, rfl, rfl, nI_1 j, by omega, hn, hp, ?_, hk.trans k1, hs1, hw⟩⟩
          unfold mGood
          rw [hg, decide_eq_true (show 33 ≤ b (p + j) by omega), decide_eq_true c4]
          rfl
        · exact rd_fail 1 a hs1 (by decide) rfl (fun s3 her q3 => er 1 a s3 her ((hk.trans k1).q.trans q3) (hbad (by omega)) _ _ _)
    · unfold PX4_name_63
      have h0 := her.bad
      exact ⟨fun _ => ⟨fun z => absurd z h0, fun _ => hE _ _ her q⟩, fun _ => ⟨fun z => absurd z h0, fun _ => ⟨fun z => absurd z h0, fun _ => hE _ _ her q⟩⟩⟩
  · unfold PX4_name_0
    unfold mName at h
    rw [mW_bind] at h
    have er : ∀ kk p, ∀ z, cEr z kk p → sQ s z → cEi s K kk p → ∀ (x1 x4 x5 : Int32), ∃ n', zlt n' none ∧ ((∃ n p j, n' + j = 1000 ∧ x1 = nI a ∧ x4 = nI n ∧ x5 = nI j ∧ j ≤ n ∧ n ≤ 100 ∧ p + n ≤ e ∧ mGood b p j = true ∧ fK s z ∧ cSt z b e (p + j) ∧ mW (if mGood b p n = true then .ok ((p, n), p + n) else .error (1, a) : mE ((Nat × Nat) × Nat)) (fun r => ∀ s', fK s s' → cSt s' b e r.2 → K (nI r.1.2) s') (cEi s K)) ∨ (∃ kk p, cEr z kk p ∧ sQ s z ∧ cEi s K kk p)) :=
      fun kk p z h1 h2 h3 _ _ _ => ⟨0, trivial, Or.inr ⟨kk, p, h1, h2, h3⟩⟩
    refine rd_number hs (mW_mono h (fun r hr h s1 k1 hs1 => ?_) (fun kk p hq h2 v1 s1 her q1 => ?_))
    · have hlt := mU_lt hr
      have hin := mU_in hr hs.2.2.2.2.2.1
      have c1 : lN r.1 < (1 : Int64) ↔ r.1 < 1 := by
        rw [← Int64.not_le, show (1 : Int64) = lN 1 from rfl, lN_leB (by decide) (by omega)]; omega
      have c2 : (100 : Int64) < lN r.1 ↔ 100 < r.1 := by
        rw [← Int64.not_le, show (100 : Int64) = lN 100 from rfl, lN_leB (by omega) (by decide)]; omega
      have c3 : lN r.1 ≤ (((s1.1 1 3) - (s1.1 1 2)).toInt64) ↔ r.1 ≤ e - r.2 := by
        rw [hs1.2.2.2.2.1, hs1.2.2.2.1, pk_sub hin.2, nI_l (by omega), lN_leB (by omega) (by omega)]
      rw [c1, c2, c3, hs1.2.2.1, lN_i]
      have hbad : r.1 < 1 ∨ 100 < r.1 ∨ e - r.2 < r.1 → cEi s K 1 a := by
        intro z
        rw [if_pos z] at h
        exact h
      refine ⟨fun c => ?_, fun c => ⟨fun c2 => ?_, fun c2 => ⟨fun c3 => ⟨fun _ => ?_, fun z => absurd rfl z⟩, fun c3 => ?_⟩⟩⟩
      · exact rd_fail 1 a hs1 (by decide) hs.2.2.2.1 (fun s3 her q3 => ⟨fun _ => er 1 a s3 her (k1.q.trans q3) (hbad (by omega)) _ _ _, fun _ => er 1 a s3 her (k1.q.trans q3) (hbad (by omega)) _ _ _⟩)
      · exact rd_fail 1 a hs1 (by decide) hs.2.2.2.1 (fun s3 her q3 => ⟨fun _ => er 1 a s3 her (k1.q.trans q3) (hbad (by omega)) _ _ _, fun _ => er 1 a s3 her (k1.q.trans q3) (hbad (by omega)) _ _ _⟩)
      · rw [if_neg (by omega)] at h
        refine ⟨1000, trivial, Or.inl ⟨r.1, r.2, 0, rfl, hs.2.2.2.1, rfl, rfl, Nat.zero_le _, by omega, by omega, rfl, k1, hs1, ?_⟩⟩
        by_cases q : mGood b r.2 r.1 = true
        · rw [if_pos q] at h ⊢
          exact h
        · rw [if_neg q] at h ⊢
          exact h
      · exact rd_fail 1 a hs1 (by decide) hs.2.2.2.1 (fun s3 her q3 => ⟨fun _ => er 1 a s3 her (k1.q.trans q3) (hbad (by omega)) _ _ _, fun _ => er 1 a s3 her (k1.q.trans q3) (hbad (by omega)) _ _ _⟩)
    · have A : ∀ z, sR s1 z → ∀ (x1 x4 x5 : Int32), _ := fun z kz => er kk p z (her.keep kz) (q1.trans kz.q) h2
      have k0 : sR s1 s1 := ⟨sK.rf, her.v⟩
      exact ⟨fun _ => sf_X4_fail her.v (fun s3 k3 => ⟨fun _ => A s3 k3 _ _ _, fun _ => A s3 k3 _ _ _⟩), fun _ => ⟨fun _ => sf_X4_fail her.v (fun s3 k3 => ⟨fun _ => A s3 k3 _ _ _, fun _ => A s3 k3 _ _ _⟩), fun _ => ⟨fun _ => ⟨fun _ => A _ k0 _ _ _, fun _ => A _ k0 _ _ _⟩, fun _ => sf_X4_fail her.v (fun s3 k3 => ⟨fun _ => A s3 k3 _ _ _, fun _ => A s3 k3 _ _ _⟩)⟩⟩⟩
theorem rd_outerName {s : zS} {b : Nat → Nat} {e a : Nat} {K : Int32 → zS → Prop} {QX : zS → Prop} (hs : cSt s b e a) (h : mW (mName b e true a) (fun r => ∀ s', fK s s' → cSt s' b e r.2 → K (nI r.1.2) s') (cEi s K)) : zCT zZC zmX4_outerName [.ref 1] s (zQi K) QX := by
  refine rX4_outerName ?_
  unfold PX4_outerName_0
  have key : mName b e true a = (mName b e false a).bind fun r => if 40 < r.1.2 then .error (4, a) else .ok r := by
    unfold mName
    cases mU b e a with
    | error q => rfl
    | ok u =>
      show (if u.1 < 1 ∨ 100 < u.1 ∨ e - u.2 < u.1 then (.error (1, a) : mE ((Nat × Nat) × Nat)) else _) = Except.bind (if u.1 < 1 ∨ 100 < u.1 ∨ e - u.2 < u.1 then (.error (1, a) : mE ((Nat × Nat) × Nat)) else _) _
      by_cases q : u.1 < 1 ∨ 100 < u.1 ∨ e - u.2 < u.1
      · rw [if_pos q, if_pos q]; rfl
      · rw [if_neg q, if_neg q]
        by_cases q2 : mGood b u.2 u.1 = true
        · rw [if_pos q2, if_pos q2]
          by_cases q3 : 40 < u.1
          · rw [if_pos ⟨rfl, q3⟩, if_neg (fun z => absurd z.1 (by decide))]
            show _ = (if 40 < u.1 then (.error (4, a) : mE ((Nat × Nat) × Nat)) else _)
            rw [if_pos q3]
          · rw [if_neg (fun z => q3 z.2), if_neg (fun z => absurd z.1 (by decide))]
            show _ = (if 40 < u.1 then (.error (4, a) : mE ((Nat × Nat) × Nat)) else _)
            rw [if_neg q3]
        · rw [if_neg q2, if_neg q2]; rfl
  rw [key, mW_bind] at h
  refine rd_name hs (mW_mono h (fun r hr h s1 k1 hs1 => ?_) (fun k p hq h2 v s1 her q1 => er_X4_outerName_0_0 her.v (h2.go q1 her)))
  have hin := mName_in hr hs.2.2.2.2.2.1
  have c : nI r.1.2 ≤ (40 : Int32) ↔ r.1.2 ≤ 40 := nI_leI (b := 40) (by omega) (by omega)
  rw [c]
  refine ⟨fun c => ?_, fun c => ?_⟩
  · rw [if_neg (by omega)] at h
    exact h s1 k1 hs1
  · rw [if_pos (by omega)] at h
    exact rd_fail 4 a hs1 (by decide) hs.2.2.2.1 (fun s3 her q3 => er_X4_outerName_0_1 her.v (cEi.go (k := 4) (p := a) h (k1.q.trans q3) her))

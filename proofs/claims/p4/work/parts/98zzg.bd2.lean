theorem mType_pl {b : Nat → Nat} {e a : Nat} {r : Nat × Nat} (h : mType b e a = .ok r) : a < e ∧ r.2 = a + 1 := by
  unfold mType at h
  cases hu : mOct b e a with
  | error q => rw [hu] at h; cases h
  | ok u =>
    rw [hu] at h
    obtain ⟨h1, rfl⟩ := mOct_in hu
    have h : (if b a = 127 ∨ b a = 126 then (.ok (127 - b a, a + 1) : mE (Nat × Nat)) else .error (1, a)) = .ok r := h
    by_cases q : b a = 127 ∨ b a = 126
    · rw [if_pos q] at h; cases h; exact ⟨h1, rfl⟩
    · rw [if_neg q] at h; cases h
theorem flat_add (l : List (Nat × Nat)) (u t : Nat) : flat (l ++ [(u, t)]) = flat l ++ List.replicate u t := by
  unfold flat
  simp
def grI (s : zS) (b : Nat → Nat) (e : Nat) (P : List Nat) (K : zS → Prop) (m : Nat) (x1 : Int32) (x2 : Int64) (x4 : Int32) (σ : zS) : Prop :=
  (∃ n i sm l a', m + i = 20000 ∧ x1 = nI (min n 16000) ∧ x2 = lN sm ∧ x4 = nI i ∧ i ≤ n ∧ 2 * i ≤ a' ∧ sm ≤ 64 ∧ (flat l).length = sm ∧ gF [0, 15] s σ ∧ cSt σ b e a' ∧ lcR σ (P ++ flat l) ∧ mW (mGrp b e (n - i) sm l a') (fun r => ∀ s', gF [0, 15] s s' → cSt s' b e r.2 → lcR s' (P ++ flat r.1) → K s') (cEv s K)) ∨ (∃ kk p, m = 0 ∧ cEr σ kk p ∧ sQ s σ ∧ cEv s K kk p)
theorem mGrp_0 {b : Nat → Nat} {e sm : Nat} {l : List (Nat × Nat)} {a : Nat} : mGrp b e 0 sm l a = .ok (l, a) := rfl
theorem mGrp_s {b : Nat → Nat} {e n sm : Nat} {l : List (Nat × Nat)} {a : Nat} : mGrp b e (n + 1) sm l a = (mU b e a).bind fun u => (mType b e u.2).bind fun t => if 64 < sm + u.1 then .error (4, a) else mGrp b e n (sm + u.1) (l ++ [(u.1, t.1)]) t.2 := rfl
theorem rd_groups {s : zS} {b : Nat → Nat} {e a : Nat} {P : List Nat} {K : zS → Prop} {QX : zS → Prop} (hs : cSt s b e a) (hP : lcR s P) (hP16 : P.length ≤ 16)
    (h : mW ((mU b e a).bind fun n => mGrp b e n.1 0 [] n.2) (fun r => ∀ s', gF [0, 15] s s' → cSt s' b e r.2 → lcR s' (P ++ flat r.1) → K s') (cEv s K)) : zCT zZC zmX1_readGroups [.ref 4] s (zQv K) QX := by
  refine rX1_readGroups (grI s b e P K) ?_ ?_
  · rintro m x1 x2 x4 σ (⟨n, i, sm, l, a', hm, rfl, rfl, rfl, hin, h2i, hsm, hfl, g, hs', hL, hw⟩ | ⟨kk, p, rfl, her, q, hE⟩)
    · unfold PX1_readGroups_13
      have hlt := hs'.lt
      have c1 : nI (min n 16000) ≤ nI i ↔ n ≤ i := by rw [nI_leI (by omega) (by omega)]; omega
      rw [c1, hs'.2.2.1]
      refine ⟨fun q => ?_, fun q => ⟨fun _ => ?_, fun z => absurd rfl z⟩⟩
      · rw [show n - i = 0 by omega, mGrp_0] at hw
        exact hw σ g hs' hL
      · rw [show n - i = (n - (i + 1)) + 1 by omega, mGrp_s, mW_bind] at hw
        have nx : ∀ kk p, ∀ z, cEr z kk p → sQ s z → cEv s K kk p → ∀ (x2 : Int64) (x1 x4 : Int32), ∃ n', zlt n' (some m) ∧ grI s b e P K n' x1 x2 x4 z := fun kk p z h1 h2 h3 _ _ _ => ⟨0, by show 0 < m; omega, Or.inr ⟨kk, p, rfl, h1, h2, h3⟩⟩
        refine rd_number hs' (mW_mono hw (fun u hu hw s1 k1 hs1 => ?_) (fun kk p hq h2 v s1 her q1 => ?_))
        · have hu35 := mU_lt hu
          have hui := mU_in hu hs'.2.2.2.2.2.1
          rw [mW_bind] at hw
          refine rd_type hs1 (mW_mono hw (fun t ht hw s2 k2 hs2 ht1 => ?_) (fun kk p hq h2 v s2 her q2 => ?_))
          · have htp := mType_pl ht
            have k12 := k1.trans k2
            have L2 := lcR_q (k12.g.g (k := 15) (by decide)) hL
            have c64 : lN sm + lN u.1 ≤ (64 : Int64) ↔ sm + u.1 ≤ 64 := by rw [lN_add]; exact lN_leB (b := 64) (by omega) (by decide)
            rw [c64, lN_i, ← tyN1 ht1, lN_add]
            refine ⟨fun c => ?_, fun c => ?_⟩
            · rw [if_neg (by omega)] at hw
              refine rd_addLocals hs2.v L2 (by rw [List.length_append, hfl]; omega) ht1 (fun s5 g5 v5 L5 => ?_)
              refine ⟨m - 1, by show m - 1 < m; omega, Or.inl ⟨n, i + 1, sm + u.1, l ++ [(u.1, t.1)], t.2, by omega, rfl, rfl, nI_1 i, by omega, by omega, by omega, ?_, (g.trans (k12.g.mono (by decide))).trans (g5.mono (by decide)), g5.st (by decide) (by decide) v5 hs2, ?_, hw⟩⟩
              · rw [flat_add, List.length_append, hfl, List.length_replicate]
              · rw [flat_add, ← List.append_assoc]; exact L5
            · rw [if_pos (by omega)] at hw
              exact rd_fail 4 a' hs2 (by decide) hs'.2.2.2.1 (fun s6 her q6 => nx 4 a' s6 her (((g.q (by decide)).trans k12.q).trans q6) hw _ _ _)
          · have q3 := ((g.q (by decide)).trans k1.q).trans q2
            refine ⟨fun _ => sf_X7_addLocals her.v (fun s5 k5 => nx kk p s5 (her.keep k5) (q3.trans k5.q) h2 _ _ _), fun _ => sf_X4_fail her.v (fun s5 k5 => nx kk p s5 (her.keep k5) (q3.trans k5.q) h2 _ _ _)⟩
        · have q3 := (g.q (by decide)).trans q1
          refine sf_X4_type her.v (fun r4 s3 k3 => ⟨fun _ => sf_X7_addLocals k3.2 (fun s5 k5 => nx kk p s5 ((her.keep k3).keep k5) ((q3.trans k3.q).trans k5.q) h2 _ _ _), fun _ => sf_X4_fail k3.2 (fun s5 k5 => nx kk p s5 ((her.keep k3).keep k5) ((q3.trans k3.q).trans k5.q) h2 _ _ _)⟩)
    · unfold PX1_readGroups_13
      exact ⟨fun _ => hE _ her q, fun _ => ⟨fun z => absurd z her.bad, fun _ => hE _ her q⟩⟩
  · unfold PX1_readGroups_0
    rw [mW_bind] at h
    refine rd_rowLength hs (mW_mono h (fun r hr h s1 k1 hs1 => ?_) (fun k p hq h2 v s1 her q1 => ?_))
    · exact ⟨20000, trivial, Or.inl ⟨r.1, 0, 0, [], r.2, rfl, rfl, rfl, rfl, Nat.zero_le _, Nat.zero_le _, Nat.zero_le _, rfl, k1.g.mono (by decide), hs1, by simpa [flat] using lcR_q (k1.g.g (k := 15) (by decide)) hP, h⟩⟩
    · exact ⟨0, trivial, Or.inr ⟨k, p, rfl, her, q1, h2⟩⟩
